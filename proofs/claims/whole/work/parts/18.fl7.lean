/-! broken numbers: the class's bits -/
section FLG
theorem d2l_fin {z : Int64} {n : Nat} (hn : n < 2 ^ 53) (h : z.toInt = max (-2 ^ 63) (min (2 ^ 63 - 1) (n : Int))) : z = lN n := by
  refine Int64.toInt.inj ?_
  rw [pk_lT (by omega), h]
  omega
theorem xf_q {c1 T : Nat} {q1 : Int} (f1 : c1 < 2 ^ 53) (hT1 : 0 < T) (r4 : c1 * 2 ^ (q1 - -1074).toNat = T * 2 ^ 1022) (f2 : -1074 ≤ q1) : -105 ≤ q1 := by
  have l1 : 2 ^ 1022 ≤ T * 2 ^ 1022 := Nat.le_mul_of_pos_left _ hT1
  have l2 : c1 * 2 ^ (q1 - -1074).toNat < 2 ^ 53 * 2 ^ (q1 - -1074).toNat := Nat.mul_lt_mul_of_pos_right f1 (Nat.two_pow_pos _)
  rw [r4, ← Nat.pow_add] at l2
  have l3 := (Nat.pow_lt_pow_iff_right (by decide : 1 < 2)).mp (Nat.lt_of_le_of_lt l1 l2)
  clear l1 l2 r4 f1 hT1
  omega
theorem sum_u (c D : Nat) (h : D ≤ c) : FP.Core.exactSum (FP.Core.Datum.fin false c (-52)) (FP.Core.Datum.fin true D (-52)) = FP.Core.Datum.fin false (c - D) (-52) := by
  have hu : FP.Core.sumUnits false c (-52) true D (-52) (min (-52) (-52)) = ((c - D : Nat) : Int) := by
    unfold FP.Core.sumUnits FP.Core.inUnits
    rw [show ((-52 : Int) - min (-52) (-52)).toNat = 0 by decide, Nat.pow_zero, Nat.mul_one, Nat.mul_one]
    show (c : Int) + -(D : Int) = _
    omega
  have hss : FP.Core.sumSign false true ((c - D : Nat) : Int) = false := by
    unfold FP.Core.sumSign
    split
    · rfl
    · exact decide_eq_false (by omega)
  show FP.Core.Datum.fin (FP.Core.sumSign false true (FP.Core.sumUnits false c (-52) true D (-52) (min (-52) (-52)))) (FP.Core.sumUnits false c (-52) true D (-52) (min (-52) (-52))).natAbs (min (-52) (-52)) = _
  rw [hu, hss]
  rfl
theorem x_frac {c : Nat} {y b : UInt64} {r : Int} {k : Nat} (hc : 2 ^ 52 ≤ c) (hc2 : c < 2 ^ 53) (hy : FP.Core.val64 y = FP.Core.Datum.fin false c (-52)) (hb : FP.Core.val64 b = FP.Core.Datum.fin false (2 ^ 52) r) (hr : -29 ≤ r) (hr0 : r ≤ 0) (hk : (-r).toNat = k) : FP.Core.val64 (FP.dsub y 4607182418800017408) ≠ FP.Core.Datum.nan ∧ FP.Core.val64 (FP.dmul (FP.dsub y 4607182418800017408) b) ≠ FP.Core.Datum.nan ∧ FP.d2l (FP.dmul (FP.dsub y 4607182418800017408) b) = lN ((c - 2 ^ 52) / 2 ^ k) := by
  have qm : FP.Core.b64.qmin = -1074 := FP.Core.qmin_b64
  have hT : c - 2 ^ 52 < 2 ^ 53 := by omega
  have x1 : ∀ q1 : Int, -105 ≤ q1 → 52 + (q1 + r - -1074).toNat = (q1 - -1074).toNat + (52 + r).toNat := fun q1 h => by omega
  have x2 : 1022 + (52 + r).toNat = (1074 + r).toNat := by omega
  have x3 : ∀ q1 : Int, -105 ≤ q1 → -1074 ≤ q1 + r := fun q1 h => by omega
  have x4 : (1074 + r).toNat ≤ 1074 := by omega
  have x5 : k + (1074 + r).toNat = 1074 := by omega
  have hsum := sum_u c (2 ^ 52) hc
  have e2 : FP.Core.val64 (FP.dsub y 4607182418800017408) = FP.Core.round FP.Core.b64 (FP.Core.exactSum (FP.Core.val64 y) (FP.Core.negate (FP.Core.val64 4607182418800017408))) := FP.Core.val64_dsub _ _
  rw [hy, v64_1] at e2
  have e2' : FP.Core.val64 (FP.dsub y 4607182418800017408) = FP.Core.round FP.Core.b64 (FP.Core.Datum.fin false (c - 2 ^ 52) (-52)) := e2.trans (congrArg _ hsum)
  obtain ⟨z2, hz2⟩ : ∃ z, z = FP.dsub y 4607182418800017408 := ⟨_, rfl⟩
  rw [← hz2] at e2' ⊢
  obtain ⟨T, hTd⟩ : ∃ T, T = c - 2 ^ 52 := ⟨_, rfl⟩
  rw [← hTd] at hT e2' ⊢
  have ex : (-52 - FP.Core.b64.qmin).toNat = 1022 := by rw [qm]; decide
  rw [rd_norm FP.Core.b64 false T (by rw [qm]; decide), ex] at e2'
  obtain ⟨c1, q1, r1, _, _, r4⟩ := rr_all FP.Core.good_b64 false (Z := T * 2 ^ 1022) (m := T) (J := 1022) (t := 0) (Nat.le_refl _) hT (by rw [Nat.pow_zero]; exact Nat.one_dvd _) (by decide)
  have r4 := r4 ⟨T, _, hT, rfl⟩
  have v2 := e2'.trans r1
  have fi := FP.Core.val64_fits z2
  rw [v2] at fi
  obtain ⟨f1, f2, _, _⟩ := fi
  have f1' : c1 < 2 ^ 53 := f1
  rw [qm] at f2
  have r4' : c1 * 2 ^ (q1 - -1074).toNat = T * 2 ^ 1022 := by rw [qm] at r4; exact r4
  have e3 : FP.Core.val64 (FP.dmul z2 b) = FP.Core.round FP.Core.b64 (FP.Core.exactProduct (FP.Core.val64 z2) (FP.Core.val64 b)) := FP.Core.val64_dmul _ _
  rw [v2, hb] at e3
  have e3' : FP.Core.val64 (FP.dmul z2 b) = FP.Core.round FP.Core.b64 (FP.Core.Datum.fin false (c1 * 2 ^ 52) (q1 + r)) := e3
  have v3 : ∃ c3 q3, FP.Core.val64 (FP.dmul z2 b) = FP.Core.Datum.fin false c3 q3 ∧ c3 * 2 ^ (q3 - FP.Core.b64.qmin).toNat = T * 2 ^ (1074 + r).toNat := by
    by_cases h0 : c1 = 0
    · have hT0 : T = 0 := by
        rw [h0, Nat.zero_mul] at r4'
        rcases Nat.mul_eq_zero.mp r4'.symm with h | h
        · exact h
        · exact absurd h (Nat.ne_of_gt (Nat.two_pow_pos _))
      refine ⟨0, FP.Core.b64.qmin, ?_, by rw [hT0, Nat.zero_mul, Nat.zero_mul]⟩
      rw [e3', h0, Nat.zero_mul]
      show FP.Core.roundRatio FP.Core.b64 false 0 1 (q1 + r) = _
      unfold FP.Core.roundRatio
      rw [if_pos rfl]
    · have hT1 : 0 < T := by
        rcases Nat.eq_zero_or_pos T with h | h
        · rw [h, Nat.zero_mul] at r4'
          rcases Nat.mul_eq_zero.mp r4' with h | h
          · exact absurd h h0
          · exact absurd h (Nat.ne_of_gt (Nat.two_pow_pos _))
        · exact h
      have hq : -105 ≤ q1 := xf_q f1' hT1 r4' f2
      have hz : c1 * 2 ^ 52 * 2 ^ (q1 + r - FP.Core.b64.qmin).toNat = T * 2 ^ (1074 + r).toNat := by
        rw [qm, Nat.mul_assoc, ← Nat.pow_add, x1 q1 hq, Nat.pow_add, ← Nat.mul_assoc, r4', Nat.mul_assoc, ← Nat.pow_add, x2]
      rw [rd_norm FP.Core.b64 false (c1 * 2 ^ 52) (by rw [qm]; exact x3 q1 hq), hz] at e3'
      obtain ⟨c3, q3, s1, _, _, s4⟩ := rr_all FP.Core.good_b64 false (Z := T * 2 ^ (1074 + r).toNat) (m := T) (J := 1074) (t := 0) (Nat.mul_le_mul_left _ (Nat.pow_le_pow_right (by decide) x4)) hT (by rw [Nat.pow_zero]; exact Nat.one_dvd _) (by decide)
      exact ⟨c3, q3, e3'.trans s1, s4 ⟨T, _, hT, rfl⟩⟩
  obtain ⟨c3, q3, w1, w2⟩ := v3
  refine ⟨fin_nn v2, fin_nn w1, ?_⟩
  have dv := FP.Core.d2l_val (fin_nn w1)
  rw [w1] at dv
  have zm : FP.Core.zmag FP.Core.b64 (FP.Core.Datum.fin false c3 q3) = c3 * 2 ^ (q3 - FP.Core.b64.qmin).toNat := rfl
  have sg : FP.Core.sgn (FP.Core.Datum.fin false c3 q3) = false := rfl
  have o1 : FP.Core.one64 = 2 ^ k * 2 ^ (1074 + r).toNat := by
    rw [← Nat.pow_add, x5]
    unfold FP.Core.one64
    rfl
  rw [zm, sg, w2, o1, Nat.mul_div_mul_right _ _ (Nat.two_pow_pos _)] at dv
  have dv' : (FP.Core.d2l (FP.dmul z2 b)).toInt = max (-2 ^ 63) (min (2 ^ 63 - 1) ((T / 2 ^ k : Nat) : Int)) := dv
  exact d2l_fin (Nat.lt_of_le_of_lt (Nat.div_le_self _ _) hT) dv'
theorem lN_or {a b i : Nat} (hb : b < 2 ^ i) (h : a * 2 ^ i + b < 2 ^ 64) : lN (a * 2 ^ i) ||| lN b = lN (a * 2 ^ i + b) := by
  refine Int64.toBitVec_inj.1 (BitVec.eq_of_toNat_eq ?_)
  rw [Int64.toBitVec_or, BitVec.toNat_or, lNn (by omega), lNn (by omega), lNn h, Nat.mul_comm, Nat.two_pow_add_eq_or_of_lt hb]
section XB
variable {c : Nat} {y0 y : UInt64} {q : Int} {s : Bool} {w : xW}
theorem v_23 : FP.Core.val64 (FP.l2d ((1 : Int64) <<< ((23 : Int32).toInt64 &&& 63))) = FP.Core.Datum.fin false (2 ^ 52) (-29) := by decide +kernel
theorem v_52 : FP.Core.val64 (FP.l2d ((1 : Int64) <<< ((52 : Int32).toInt64 &&& 63))) = FP.Core.Datum.fin false (2 ^ 52) 0 := by decide +kernel
theorem x_fin6 {F i : Nat} (hc : 2 ^ 52 ≤ c) (hc2 : c < 2 ^ 53) (hy : FP.Core.val64 y = FP.Core.Datum.fin false c (-52)) (hi : i < 1100) (hF : F < 256) (hs : Op.cmpValue (FP.dcmp y0 0) .g < 0 ↔ s = true) : xev 38 65 [some (xD (y0)), none, some (xI (23)), none, some (xI (31)), some (xD (y)), none, some (xI (nI F)), some (xI (nI i)), none, none, none] [] w = some (some (xJ (lN ((c - 2 ^ 52) / 2 ^ 29 + F * 2 ^ 23) ||| (if s = true then (-2147483648 : Int32).toInt64 else 0))), w) := by
  obtain ⟨k1, k2, k3⟩ := x_frac (k := 29) hc hc2 hy v_23 (by decide) (by decide) (by decide)
  rw [e_X6_bits_65, b_X6_bits_65, if_pos (show nI i < 1100 from nI_lt (b := 1100) hi (by decide)), if_neg (cv_g (cm_ge hy v64_1 hc (Int.le_refl _))), xnD_ok k1, xnD_ok k2, k3, nI_l (by omega), lN_shl F 23 _ (by decide), lN_or (by omega) (by omega), Nat.add_comm]
  by_cases h : s = true
  · rw [if_pos (hs.mpr h), if_pos h]
    rfl
  · rw [if_neg (fun z => h (hs.mp z)), if_neg h, Int64.or_zero]
theorem x_fin7 {F i : Nat} (hc : 2 ^ 52 ≤ c) (hc2 : c < 2 ^ 53) (hy : FP.Core.val64 y = FP.Core.Datum.fin false c (-52)) (hi : i < 1100) (hF : F < 2048) (hs : Op.cmpValue (FP.dcmp y0 0) .g < 0 ↔ s = true) : xev 38 65 [some (xD (y0)), none, some (xI (52)), none, some (xI (63)), some (xD (y)), none, some (xI (nI F)), some (xI (nI i)), none, none, none] [] w = some (some (xJ (lN (F * 2 ^ 52 + (c - 2 ^ 52)) ||| (if s = true then -9223372036854775808 else 0))), w) := by
  obtain ⟨k1, k2, k3⟩ := x_frac (k := 0) hc hc2 hy v_52 (by decide) (by decide) (by decide)
  rw [Nat.pow_zero, Nat.div_one] at k3
  rw [e_X6_bits_65, b_X6_bits_65, if_pos (show nI i < 1100 from nI_lt (b := 1100) hi (by decide)), if_neg (cv_g (cm_ge hy v64_1 hc (Int.le_refl _))), xnD_ok k1, xnD_ok k2, k3, nI_l (by omega), lN_shl F 52 _ (by decide), lN_or (by omega) (by omega)]
  by_cases h : s = true
  · rw [if_pos (hs.mpr h), if_pos h]
    rfl
  · rw [if_neg (fun z => h (hs.mp z)), if_neg h, Int64.or_zero]
theorem x_all6 (hc : 2 ^ 52 ≤ c) (hc2 : c < 2 ^ 53) (h1 : -55 ≤ q) (h2 : q ≤ 20) (hy : FP.Core.val64 y = FP.Core.Datum.fin false c q) (hs : Op.cmpValue (FP.dcmp y0 0) .g < 0 ↔ s = true) : xev 38 28 [some (xD (y0)), none, some (xI (23)), none, some (xI (31)), some (xD (y)), none, some (xI (127)), some (xI (0)), none, none, none] [] w = some (some (xJ (lN ((c - 2 ^ 52) / 2 ^ 29 + (q + 179).toNat * 2 ^ 23) ||| (if s = true then (-2147483648 : Int32).toInt64 else 0))), w) := by
  by_cases hq : -52 ≤ q
  · obtain ⟨y', k1, k2⟩ := x_l1 (y0 := y0) (w := w) (n2 := 23) (n4 := 31) hc hc2 (q + 52).toNat 0 127 y (by rw [hy, show -52 + (((q + 52).toNat : Nat) : Int) = q by omega]) (by omega)
    have k2' : xev 38 28 [some (xD (y0)), none, some (xI (23)), none, some (xI (31)), some (xD (y)), none, some (xI (127)), some (xI (0)), none, none, none] [] w = xev 38 65 [some (xD (y0)), none, some (xI (23)), none, some (xI (31)), some (xD (y')), none, some (xI (nI (127 + (q + 52).toNat))), some (xI (nI 0)), none, none, none] [] w := k2
    rw [k2', x_fin6 hc hc2 k1 (by decide) (by omega) hs, show 127 + (q + 52).toNat = (q + 179).toNat by omega]
  · obtain ⟨y', k1, k2⟩ := x_l2 (y0 := y0) (w := w) (n2 := 23) (n4 := 31) hc hc2 (-52 - q).toNat 0 (127 - (-52 - q).toNat) y (by rw [hy, show -52 - (((-52 - q).toNat : Nat) : Int) = q by omega]) (by omega)
    rw [Nat.sub_add_cancel (by omega), nI_0] at k2
    rw [e_X6_bits_28, b_X6_bits_28, if_pos (by decide), if_pos (cv_lt (cm_lt hy v64_2 hc2 (by omega))).1]
    have k2' : xev 38 65 [some (xD (y0)), none, some (xI (23)), none, some (xI (31)), some (xD (y)), none, some (xI (127)), some (xI (0)), none, none, none] [] w = _ := k2
    rw [k2', x_fin6 hc hc2 k1 (by omega) (by omega) hs, show 127 - (-52 - q).toNat = (q + 179).toNat by omega]
theorem x_all7 (hc : 2 ^ 52 ≤ c) (hc2 : c < 2 ^ 53) (h1 : -55 ≤ q) (h2 : q ≤ 20) (hy : FP.Core.val64 y = FP.Core.Datum.fin false c q) (hs : Op.cmpValue (FP.dcmp y0 0) .g < 0 ↔ s = true) : xev 38 28 [some (xD (y0)), none, some (xI (52)), none, some (xI (63)), some (xD (y)), none, some (xI (1023)), some (xI (0)), none, none, none] [] w = some (some (xJ (lN ((q + 1075).toNat * 2 ^ 52 + (c - 2 ^ 52)) ||| (if s = true then -9223372036854775808 else 0))), w) := by
  by_cases hq : -52 ≤ q
  · obtain ⟨y', k1, k2⟩ := x_l1 (y0 := y0) (w := w) (n2 := 52) (n4 := 63) hc hc2 (q + 52).toNat 0 1023 y (by rw [hy, show -52 + (((q + 52).toNat : Nat) : Int) = q by omega]) (by omega)
    have k2' : xev 38 28 [some (xD (y0)), none, some (xI (52)), none, some (xI (63)), some (xD (y)), none, some (xI (1023)), some (xI (0)), none, none, none] [] w = xev 38 65 [some (xD (y0)), none, some (xI (52)), none, some (xI (63)), some (xD (y')), none, some (xI (nI (1023 + (q + 52).toNat))), some (xI (nI 0)), none, none, none] [] w := k2
    rw [k2', x_fin7 hc hc2 k1 (by decide) (by omega) hs, show 1023 + (q + 52).toNat = (q + 1075).toNat by omega]
  · obtain ⟨y', k1, k2⟩ := x_l2 (y0 := y0) (w := w) (n2 := 52) (n4 := 63) hc hc2 (-52 - q).toNat 0 (1023 - (-52 - q).toNat) y (by rw [hy, show -52 - (((-52 - q).toNat : Nat) : Int) = q by omega]) (by omega)
    rw [Nat.sub_add_cancel (by omega), nI_0] at k2
    rw [e_X6_bits_28, b_X6_bits_28, if_pos (by decide), if_pos (cv_lt (cm_lt hy v64_2 hc2 (by omega))).1]
    have k2' : xev 38 65 [some (xD (y0)), none, some (xI (52)), none, some (xI (63)), some (xD (y)), none, some (xI (1023)), some (xI (0)), none, none, none] [] w = _ := k2
    rw [k2', x_fin7 hc hc2 k1 (by omega) (by omega) hs, show 1023 - (-52 - q).toNat = (q + 1075).toNat by omega]
end XB
theorem z_x6 {x : UInt64} (h : nR 20 x) (w : xW) : xev 38 0 [some (xD (x)), none, some (xI (23)), some (xI (127)), some (xI (31)), none, none, none, none, none, none, none] [] w = some (some (xJ (c6 x).toInt64), w) := by
  obtain ⟨s, c, q, e, h1, h2, h3, h4⟩ := nR_to (by decide) h
  rw [e_X6_bits_0, b_X6_bits_0]
  rcases h2 with h2 | ⟨h5, h6, h7⟩
  · subst h2
    rw [if_pos (ab_0 e), (c_0 e).1]
    rfl
  · obtain ⟨g1, g2, g3⟩ := ab_n e (by have := Nat.two_pow_pos 52; omega)
    have hm : (c - 2 ^ 52) / 2 ^ 29 + (q + 179).toNat * 2 ^ 23 < 2 ^ 31 := by omega
    have e6 : (c6 x).toInt64 = lN ((c - 2 ^ 52) / 2 ^ 29 + (q + 179).toNat * 2 ^ 23) ||| (if s = true then (-2147483648 : Int32).toInt64 else 0) := by
      rw [c6_n e h7 h3 h6 h5, Int32.toInt64_or, nI_l hm]
      by_cases hs : s = true
      · rw [if_pos hs, if_pos hs]
      · rw [if_neg hs, if_neg hs]
        rfl
    rw [if_neg g1, e6, ← x_all6 h7 h3 h6 h5 g3 g2]
    by_cases hs : s = true
    · rw [if_pos (g2.mpr hs), if_pos hs]
    · rw [if_neg (fun z => hs (g2.mp z)), if_neg hs]
theorem z_x7 {x : UInt64} (h : nR 20 x) (w : xW) : xev 38 0 [some (xD (x)), none, some (xI (52)), some (xI (1023)), some (xI (63)), none, none, none, none, none, none, none] [] w = some (some (xJ (c7 x)), w) := by
  obtain ⟨s, c, q, e, h1, h2, h3, h4⟩ := nR_to (by decide) h
  rw [e_X6_bits_0, b_X6_bits_0]
  rcases h2 with h2 | ⟨h5, h6, h7⟩
  · subst h2
    rw [if_pos (ab_0 e), (c_0 e).2]
  · obtain ⟨g1, g2, g3⟩ := ab_n e (by have := Nat.two_pow_pos 52; omega)
    rw [if_neg g1, c7_n e h7 h3 h6 h5, ← x_all7 h7 h3 h6 h5 g3 g2]
    by_cases hs : s = true
    · rw [if_pos (g2.mpr hs), if_pos hs]
    · rw [if_neg (fun z => hs (g2.mp z)), if_neg hs]
end FLG
