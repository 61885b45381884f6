/-! broken numbers: their bits, the end -/
section FLF
theorem lNb (n : Nat) : (lN n).toBitVec = BitVec.ofNat 64 n := rfl
theorem lNn {n : Nat} (h : n < 2 ^ 64) : (lN n).toBitVec.toNat = n := by rw [lNb, BitVec.toNat_ofNat, Nat.mod_eq_of_lt h]
theorem d2i_of {y : UInt64} {c : Nat} {q : Int} {k : Nat} (hy : FP.Core.val64 y = FP.Core.Datum.fin false c q) (hq : q ≤ 0) (hk : (-q).toNat = k) (hc : c / 2 ^ k < 2 ^ 31) : FP.d2i y = nI (c / 2 ^ k) := by
  have e : FP.d2i y = Int32.ofInt (FP.Core.toInt (-2 ^ 31) (2 ^ 31 - 1) (FP.Core.val64 y)) := rfl
  have e2 : FP.Core.toInt (-2 ^ 31) (2 ^ 31 - 1) (FP.Core.val64 y) = ((c / 2 ^ k : Nat) : Int) := by
    rw [hy]
    show max (-2 ^ 31) (min (2 ^ 31 - 1) ((c * 2 ^ q.toNat / 2 ^ (-q).toNat : Nat) : Int)) = _
    rw [hk, show q.toNat = 0 by omega, Nat.pow_zero, Nat.mul_one]
    generalize c / 2 ^ k = n at hc
    omega
  generalize c / 2 ^ k = n at hc e2 ⊢
  refine Int32.toInt.inj ?_
  rw [e, e2, Int32.toInt_ofInt_of_le (by omega) (by omega), nI_toInt hc]
theorem d2l_of {y : UInt64} {c : Nat} {q : Int} {k : Nat} (hy : FP.Core.val64 y = FP.Core.Datum.fin false c q) (hq : q ≤ 0) (hk : (-q).toNat = k) (hc : c / 2 ^ k < 2 ^ 63) : FP.d2l y = lN (c / 2 ^ k) := by
  have e : FP.d2l y = Int64.ofInt (FP.Core.toInt (-2 ^ 63) (2 ^ 63 - 1) (FP.Core.val64 y)) := rfl
  have e2 : FP.Core.toInt (-2 ^ 63) (2 ^ 63 - 1) (FP.Core.val64 y) = ((c / 2 ^ k : Nat) : Int) := by
    rw [hy]
    show max (-2 ^ 63) (min (2 ^ 63 - 1) ((c * 2 ^ q.toNat / 2 ^ (-q).toNat : Nat) : Int)) = _
    rw [hk, show q.toNat = 0 by omega, Nat.pow_zero, Nat.mul_one]
    generalize c / 2 ^ k = n at hc
    omega
  generalize c / 2 ^ k = n at hc e2 ⊢
  refine Int64.toInt.inj ?_
  rw [e, e2, Int64.toInt_ofInt_of_le (by omega) (by omega), pk_lT hc]
/-- what the bits are, of a number that is not 0 -/
theorem x_bits {x : UInt64} {s : Bool} {c : Nat} {q : Int} (e : FP.Core.val64 x = FP.Core.Datum.fin s c q) (hc : 2 ^ 52 ≤ c) (hc2 : c < 2 ^ 53) (h1 : -55 ≤ q) (h2 : q ≤ 20) : x.toNat % 2 ^ 63 = (q + 1075).toNat * 2 ^ 52 + (c - 2 ^ 52) ∧ x.toNat % 2 ^ 63 ≠ 0 ∧ x.toNat % 2 ^ 52 = c - 2 ^ 52 ∧ x.toNat / 2 ^ 52 % 2048 = (q + 1075).toNat ∧ x.toNat / 2 ^ 63 = s.toNat := by
  have b := b_bits e hc
  have hs : s.toNat = 0 ∨ s.toNat = 1 := by cases s <;> decide
  have hE : (q + 1075).toNat < 2048 ∧ 0 < (q + 1075).toNat := by omega
  generalize (q + 1075).toNat = E at b hE ⊢
  generalize s.toNat = z at b hs ⊢
  omega
theorem c6_n {x : UInt64} {s : Bool} {c : Nat} {q : Int} (e : FP.Core.val64 x = FP.Core.Datum.fin s c q) (hc : 2 ^ 52 ≤ c) (hc2 : c < 2 ^ 53) (h1 : -55 ≤ q) (h2 : q ≤ 20) : c6 x = nI ((c - 2 ^ 52) / 2 ^ 29 + (q + 179).toNat * 2 ^ 23) ||| (if s = true then -2147483648 else 0) := by
  obtain ⟨b1, b2, b3, b4, b5⟩ := x_bits e hc hc2 h1 h2
  unfold c6
  rw [if_neg b2, b3, b4, b5, show (q + 1075).toNat - 896 = (q + 179).toNat by omega]
  cases s <;> rfl
theorem c7_n {x : UInt64} {s : Bool} {c : Nat} {q : Int} (e : FP.Core.val64 x = FP.Core.Datum.fin s c q) (hc : 2 ^ 52 ≤ c) (hc2 : c < 2 ^ 53) (h1 : -55 ≤ q) (h2 : q ≤ 20) : c7 x = lN ((q + 1075).toNat * 2 ^ 52 + (c - 2 ^ 52)) ||| (if s = true then -9223372036854775808 else 0) := by
  obtain ⟨b1, b2, b3, b4, b5⟩ := x_bits e hc hc2 h1 h2
  unfold c7
  rw [if_neg b2]
  have hm : (q + 1075).toNat * 2 ^ 52 + (c - 2 ^ 52) < 2 ^ 63 := by omega
  have hx : x.toNat = s.toNat * 2 ^ 63 + ((q + 1075).toNat * 2 ^ 52 + (c - 2 ^ 52)) := by omega
  obtain ⟨m, hmd⟩ : ∃ m, m = (q + 1075).toNat * 2 ^ 52 + (c - 2 ^ 52) := ⟨_, rfl⟩
  rw [← hmd] at hm hx ⊢
  refine Int64.toBitVec_inj.1 (BitVec.eq_of_toNat_eq ?_)
  show x.toNat = _
  rw [Int64.toBitVec_or, BitVec.toNat_or, lNn (by omega), hx]
  cases s with
  | false =>
    show 0 * 2 ^ 63 + m = m ||| 0
    rw [Nat.or_zero]
    omega
  | true =>
    show 1 * 2 ^ 63 + m = m ||| 9223372036854775808
    have := Nat.two_pow_add_eq_or_of_lt hm 1
    rw [Nat.or_comm, show 9223372036854775808 = 2 ^ 63 * 1 from rfl, ← this]
theorem c_0 {x : UInt64} {s : Bool} {q : Int} (e : FP.Core.val64 x = FP.Core.Datum.fin s 0 q) : c6 x = 0 ∧ c7 x = 0 := by
  have h := (FP.Core.zero_bits2 x).mp ⟨s, q, e⟩
  exact ⟨if_pos h, if_pos h⟩
/-- the sign is taken away -/
theorem ab_n {x : UInt64} {s : Bool} {c : Nat} {q : Int} (e : FP.Core.val64 x = FP.Core.Datum.fin s c q) (hc : 0 < c) : ¬ Op.cmpValue (FP.dcmp x 0) .l = 0 ∧ (Op.cmpValue (FP.dcmp x 0) .g < 0 ↔ s = true) ∧ FP.Core.val64 (if s = true then FP.dneg x else x) = FP.Core.Datum.fin false c q := by
  have h := (cm_0 e).2 hc
  rw [h]
  cases s with
  | true =>
    rw [if_pos rfl, if_pos rfl]
    exact ⟨by decide, by decide, by rw [FP.val64_dneg, e]; rfl⟩
  | false =>
    rw [if_neg (by decide), if_neg (by decide)]
    exact ⟨by decide, by decide, e⟩
theorem ab_0 {x : UInt64} {s : Bool} {q : Int} (e : FP.Core.val64 x = FP.Core.Datum.fin s 0 q) : Op.cmpValue (FP.dcmp x 0) .l = 0 := by
  rw [(cm_0 e).1 rfl]
  rfl
section BB
variable {c : Nat} {y0 y : UInt64} {q : Int} {s : Bool} {w : xW}
theorem f_fin {n4 : Int32} {i : Nat} (hc : 2 ^ 52 ≤ c) (hc2 : c < 2 ^ 53) (hy : FP.Core.val64 y = FP.Core.Datum.fin false c (-29)) (hi : i < 200) (hs : Op.cmpValue (FP.dcmp y0 0) .g < 0 ↔ s = true) : xev 99 63 [some (xD (y0)), none, some (xD (y)), none, some (xI (n4)), some (xI (nI i))] [] w = some (some (xI ((nI (c / 2 ^ 29) - 8388608 + (n4 <<< ((23 : Int32) &&& 31))) ||| (if s = true then -2147483648 else 0))), w) := by
  rw [e_X8_floatBits_63, b_X8_floatBits_63, if_pos (show nI i < 200 from nI_lt (b := 200) hi (by decide)), if_neg (cv_g (cm_ge hy v64_23 hc (Int.le_refl _))), d2i_of hy (by decide) (k := 29) (by decide) (by omega)]
  by_cases h : s = true
  · rw [if_pos (hs.mpr h), if_pos h]
  · rw [if_neg (fun z => h (hs.mp z)), if_neg h, Int32.or_zero]
theorem f_all (hc : 2 ^ 52 ≤ c) (hc2 : c < 2 ^ 53) (h1 : -55 ≤ q) (h2 : q ≤ 20) (hy : FP.Core.val64 y = FP.Core.Datum.fin false c q) (hs : Op.cmpValue (FP.dcmp y0 0) .g < 0 ↔ s = true) : xev 99 29 [some (xD (y0)), none, some (xD (y)), none, some (xI (150)), some (xI (0))] [] w = some (some (xI (nI ((c - 2 ^ 52) / 2 ^ 29 + (q + 179).toNat * 2 ^ 23) ||| (if s = true then -2147483648 else 0))), w) := by
  have fin : ∀ F, F < 256 → nI (c / 2 ^ 29) - 8388608 + (nI F <<< ((23 : Int32) &&& 31)) = nI ((c - 2 ^ 52) / 2 ^ 29 + F * 2 ^ 23) := fun F hF => by
    rw [pk_shlN ((23 : Int32) &&& 31) 23 (by decide) (by omega), show nI (c / 2 ^ 29) - 8388608 = nI (c / 2 ^ 29 - 8388608) from pk_sub (b := 8388608) (by omega), nI_add, show c / 2 ^ 29 - 8388608 = (c - 2 ^ 52) / 2 ^ 29 by omega]
  by_cases hq : -29 ≤ q
  · obtain ⟨y', k1, k2⟩ := f_l1 (y0 := y0) (w := w) hc hc2 (q + 29).toNat 0 150 y (by rw [hy, show -29 + (((q + 29).toNat : Nat) : Int) = q by omega]) (by omega)
    have k2' : xev 99 29 [some (xD (y0)), none, some (xD (y)), none, some (xI (150)), some (xI (0))] [] w = xev 99 63 [some (xD (y0)), none, some (xD (y')), none, some (xI (nI (150 + (q + 29).toNat))), some (xI (nI 0))] [] w := k2
    rw [k2', f_fin hc hc2 k1 (by decide) hs, fin _ (by omega), show 150 + (q + 29).toNat = (q + 179).toNat by omega]
  · obtain ⟨y', k1, k2⟩ := f_l2 (y0 := y0) (w := w) hc hc2 (-29 - q).toNat 0 (150 - (-29 - q).toNat) y (by rw [hy, show -29 - (((-29 - q).toNat : Nat) : Int) = q by omega]) (by omega)
    rw [Nat.sub_add_cancel (by omega), nI_0] at k2
    rw [e_X8_floatBits_29, b_X8_floatBits_29, if_pos (by decide), if_pos (cv_lt (cm_lt hy v64_24 hc2 (by omega))).1]
    have k2' : xev 99 63 [some (xD (y0)), none, some (xD (y)), none, some (xI (150)), some (xI (0))] [] w = _ := k2
    rw [k2', f_fin hc hc2 k1 (by omega) hs, fin _ (by omega), show 150 - (-29 - q).toNat = (q + 179).toNat by omega]
theorem d_fin {v4 : Int64} {i : Nat} (hc : 2 ^ 52 ≤ c) (hc2 : c < 2 ^ 53) (hy : FP.Core.val64 y = FP.Core.Datum.fin false c 0) (hi : i < 200) (hs : Op.cmpValue (FP.dcmp y0 0) .g < 0 ↔ s = true) : xev 100 66 [some (xD (y0)), none, some (xD (y)), none, some (xJ (v4)), none, some (xI (nI i)), none] [] w = some (some (xJ ((lN c - 4503599627370496 + (v4 <<< ((52 : Int32).toInt64 &&& 63))) ||| (if s = true then -9223372036854775808 else 0))), w) := by
  have dl := d2l_of (k := 0) hy (by decide) (by decide) (by rw [Nat.pow_zero, Nat.div_one]; omega)
  rw [Nat.pow_zero, Nat.div_one] at dl
  rw [e_X8_doubleBits_66, b_X8_doubleBits_66, if_pos (show nI i < 200 from nI_lt (b := 200) hi (by decide)), if_neg (cv_g (cm_ge hy v64_52 hc (Int.le_refl _))), dl]
  by_cases h : s = true
  · rw [if_pos (hs.mpr h), if_pos h]
  · rw [if_neg (fun z => h (hs.mp z)), if_neg h, Int64.or_zero]
theorem lN_shl (n k : Nat) (s : Int64) (hs : (s.toBitVec.smod 64).toNat = k) : lN n <<< s = lN (n * 2 ^ k) := by
  refine Int64.toBitVec_inj.1 (BitVec.eq_of_toNat_eq ?_)
  rw [Int64.toBitVec_shiftLeft, lNb, lNb, BitVec.shiftLeft_eq', BitVec.toNat_shiftLeft, hs, BitVec.toNat_ofNat, BitVec.toNat_ofNat, Nat.shiftLeft_eq, Nat.mod_mul_mod]
theorem d_all (hc : 2 ^ 52 ≤ c) (hc2 : c < 2 ^ 53) (h1 : -55 ≤ q) (h2 : q ≤ 20) (hy : FP.Core.val64 y = FP.Core.Datum.fin false c q) (hs : Op.cmpValue (FP.dcmp y0 0) .g < 0 ↔ s = true) : xev 100 29 [some (xD (y0)), none, some (xD (y)), none, some (xJ (1075)), none, some (xI (0)), none] [] w = some (some (xJ (lN ((q + 1075).toNat * 2 ^ 52 + (c - 2 ^ 52)) ||| (if s = true then -9223372036854775808 else 0))), w) := by
  have fin : ∀ F, lN c - 4503599627370496 + (lN F <<< ((52 : Int32).toInt64 &&& 63)) = lN (F * 2 ^ 52 + (c - 2 ^ 52)) := fun F => by
    rw [lN_shl F 52 _ (by decide), show lN c - 4503599627370496 = lN (c - 4503599627370496) from lN_sub (b := 4503599627370496) (by omega), lN_add, Nat.add_comm]
  by_cases hq : 0 ≤ q
  · obtain ⟨y', k1, k2⟩ := d_l1 (y0 := y0) (w := w) hc hc2 q.toNat 0 1075 y (by rw [hy, show 0 + ((q.toNat : Nat) : Int) = q by omega]) (by omega)
    have k2' : xev 100 29 [some (xD (y0)), none, some (xD (y)), none, some (xJ (1075)), none, some (xI (0)), none] [] w = xev 100 66 [some (xD (y0)), none, some (xD (y')), none, some (xJ (lN (1075 + q.toNat))), none, some (xI (nI 0)), none] [] w := k2
    rw [k2', d_fin hc hc2 k1 (by decide) hs, fin, show 1075 + q.toNat = (q + 1075).toNat by omega]
  · obtain ⟨y', k1, k2⟩ := d_l2 (y0 := y0) (w := w) hc hc2 (0 - q).toNat 0 (1075 - (0 - q).toNat) y (by rw [hy, show 0 - (((0 - q).toNat : Nat) : Int) = q by omega]) (by omega)
    rw [Nat.sub_add_cancel (by omega), nI_0] at k2
    rw [e_X8_doubleBits_29, b_X8_doubleBits_29, if_pos (by decide), if_pos (cv_lt (cm_lt hy v64_53 hc2 (by omega))).1]
    have k2' : xev 100 66 [some (xD (y0)), none, some (xD (y)), none, some (xJ (1075)), none, some (xI (0)), none] [] w = _ := k2
    rw [k2', d_fin hc hc2 k1 (by omega) hs, fin, show 1075 - (0 - q).toNat = (q + 1075).toNat by omega]
end BB
theorem z_b6 {x : UInt64} (h : nR 20 x) (w : xW) : xev 99 0 [some (xD (x)), none, none, none, none, none] [] w = some (some (xI (c6 x)), w) := by
  obtain ⟨s, c, q, e, h1, h2, h3, h4⟩ := nR_to (by decide) h
  rw [e_X8_floatBits_0, b_X8_floatBits_0]
  rcases h2 with h2 | ⟨h5, h6, h7⟩
  · subst h2
    rw [if_pos (ab_0 e), (c_0 e).1]
  · obtain ⟨g1, g2, g3⟩ := ab_n e (by have := Nat.two_pow_pos 52; omega)
    rw [if_neg g1, c6_n e h7 h3 h6 h5, ← f_all h7 h3 h6 h5 g3 g2]
    by_cases hs : s = true
    · rw [if_pos (g2.mpr hs), if_pos hs]
    · rw [if_neg (fun z => hs (g2.mp z)), if_neg hs]
theorem z_b7 {x : UInt64} (h : nR 20 x) (w : xW) : xev 100 0 [some (xD (x)), none, none, none, none, none, none, none] [] w = some (some (xJ (c7 x)), w) := by
  obtain ⟨s, c, q, e, h1, h2, h3, h4⟩ := nR_to (by decide) h
  rw [e_X8_doubleBits_0, b_X8_doubleBits_0]
  rcases h2 with h2 | ⟨h5, h6, h7⟩
  · subst h2
    rw [if_pos (ab_0 e), (c_0 e).2]
  · obtain ⟨g1, g2, g3⟩ := ab_n e (by have := Nat.two_pow_pos 52; omega)
    rw [if_neg g1, c7_n e h7 h3 h6 h5, ← d_all h7 h3 h6 h5 g3 g2]
    by_cases hs : s = true
    · rw [if_pos (g2.mpr hs), if_pos hs]
    · rw [if_neg (fun z => hs (g2.mp z)), if_neg hs]
end FLF
