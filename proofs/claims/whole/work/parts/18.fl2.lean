/-! broken numbers: whole numbers, eighths, sums -/
section FLB
theorem d2f_c {x : UInt64} (h : FP.Core.val64 x ≠ FP.Core.Datum.nan) : FP.d2f x = FP.Core.d2f x := if_neg (fun q => h ((FP.Core.dIsNaN_iff x).mp q))
theorem f2d_c {x : UInt32} (h : FP.Core.val32 x ≠ FP.Core.Datum.nan) : FP.f2d x = FP.Core.f2d x := if_neg (fun q => h ((FP.Core.fIsNaN_iff x).mp q))
theorem nR_nn {B : Int} {x : UInt64} (h : nR B x) : FP.Core.val64 x ≠ FP.Core.Datum.nan := by
  obtain ⟨s, c, q, e, _⟩ := h
  exact fin_nn e
theorem zR_D {α : Type} {B : Int} {x : UInt64} {f : UInt64 → Option α} (h : nR B x) : xnD x f = f x := xnD_ok (nR_nn h)
theorem zR_0 (B : Int) : nR B 0 := ⟨false, 0, _, FP.Core.val64_zero, Or.inl rfl⟩
theorem z_cmp {x y : UInt64} (hx : nR 11 x) (hy : nR 11 y) : FP.dcmp x y = some .lt ∨ FP.dcmp x y = some .eq ∨ FP.dcmp x y = some .gt := by
  cases h : FP.Core.dcmp x y with
  | none => exact ((FP.Core.dcmp_none x y).mp h).elim (fun q => absurd q (nR_nn hx)) (fun q => absurd q (nR_nn hy))
  | some o =>
    cases o with
    | lt => exact Or.inl h
    | eq => exact Or.inr (Or.inl h)
    | gt => exact Or.inr (Or.inr h)
theorem v32_d2f {x : UInt64} (h : FP.Core.val64 x ≠ FP.Core.Datum.nan) : FP.Core.val32 (FP.d2f x) = FP.Core.round FP.Core.b32 (FP.Core.val64 x) := by
  rw [d2f_c h]
  exact FP.Core.val32_d2f x
theorem v64_f2d {x : UInt32} (h : FP.Core.val32 x ≠ FP.Core.Datum.nan) : FP.Core.val64 (FP.f2d x) = FP.Core.round FP.Core.b64 (FP.Core.val32 x) := by
  rw [f2d_c h]
  exact FP.Core.val64_f2d x
theorem z_d2f {α : Type} {x : UInt64} (h : nR 11 x) (f : UInt32 → Option α) : xnF (FP.d2f x) f = f (FP.d2f x) := by
  refine xnF_ok ?_
  rw [v32_d2f (nR_nn h)]
  exact fun q => nR_nn h (FP.Core.round_nan.mp q)
theorem z_l2d (n : Int64) : nZ 1074 1 1137 (FP.Core.val64 (FP.l2d n)) FP.Core.b64 := by
  have e : FP.Core.val64 (FP.l2d n) = _ := FP.Core.val64_l2d n
  have ha := FP.Core.int64_abs n
  rw [e]
  unfold FP.Core.ofInt
  rw [rd_norm FP.Core.b64 _ _ (by decide), FP.Core.qmin_b64]
  have e2 : ((0 : Int) - -1074).toNat = 1074 := by decide
  rw [e2, ← FP.Core.qmin_b64]
  obtain ⟨c, q, h1, h2, h3, _⟩ := rr_all FP.Core.good_b64 (decide (n.toInt < 0)) (Z := n.toInt.natAbs * 2 ^ 1074) (m := 1) (J := 1137) (t := 1074) (by
    rw [Nat.one_mul, show 1137 = 63 + 1074 from rfl, Nat.pow_add]
    exact Nat.mul_le_mul_right _ ha) (by decide) (Nat.dvd_mul_left _ _) (by decide)
  exact ⟨_, c, q, h1, h2, h3⟩
theorem nZ_mono {t t' m J : Nat} {d : FP.Core.Datum} {f : FP.Core.Fmt} (h : nZ t m J d f) (ht : t' ≤ t) : nZ t' m J d f := by
  obtain ⟨s, c, q, e, hd, hb⟩ := h
  exact ⟨s, c, q, e, Nat.dvd_trans (Nat.pow_dvd_pow 2 ht) hd, hb⟩
theorem zR_l2d (n : Int64) : nR 11 (FP.l2d n) := nR_of (by decide) (nZ_mono (z_l2d n) (by decide)) (by rw [Nat.one_mul]; exact Nat.le_refl _)
theorem z_l2f (n : Int64) : nZ 149 1 212 (FP.Core.val32 (FP.l2f n)) FP.Core.b32 := by
  have e : FP.Core.val32 (FP.l2f n) = _ := FP.Core.val32_l2f n
  have ha := FP.Core.int64_abs n
  rw [e]
  unfold FP.Core.ofInt
  rw [rd_norm FP.Core.b32 _ _ (by decide), FP.Core.qmin_b32]
  have e2 : ((0 : Int) - -149).toNat = 149 := by decide
  rw [e2, ← FP.Core.qmin_b32]
  obtain ⟨c, q, h1, h2, h3, _⟩ := rr_all FP.Core.good_b32 (decide (n.toInt < 0)) (Z := n.toInt.natAbs * 2 ^ 149) (m := 1) (J := 212) (t := 149) (by
    rw [Nat.one_mul, show 212 = 63 + 149 from rfl, Nat.pow_add]
    exact Nat.mul_le_mul_right _ ha) (by decide) (Nat.dvd_mul_left _ _) (by decide)
  exact ⟨_, c, q, h1, h2, h3⟩
/-- a float as a double: the same number -/
theorem z_f2d {x : UInt32} {s : Bool} {c : Nat} {q : Int} {t m J : Nat} (h : FP.Core.val32 x = FP.Core.Datum.fin s c q) (hd : 2 ^ t ∣ c * 2 ^ (q - FP.Core.b32.qmin).toNat) (hb : c * 2 ^ (q - FP.Core.b32.qmin).toNat ≤ m * 2 ^ J) (hm : m < 2 ^ 53) (hJ : J ≤ 1100) {T K : Nat} (hT : T = t + 925) (hK : K = J + 925) : ∃ c' q', FP.Core.val64 (FP.f2d x) = FP.Core.Datum.fin s c' q' ∧ c' * 2 ^ (q' - FP.Core.b64.qmin).toNat = c * 2 ^ (q - FP.Core.b32.qmin).toNat * 2 ^ 925 ∧ 2 ^ T ∣ c' * 2 ^ (q' - FP.Core.b64.qmin).toNat ∧ c' * 2 ^ (q' - FP.Core.b64.qmin).toNat ≤ m * 2 ^ K := by
  subst hT hK
  have fi := FP.Core.val32_fits x
  rw [h] at fi
  obtain ⟨f1, f2, f3, f4⟩ := fi
  rw [FP.Core.qmin_b32] at f2
  have e : FP.Core.val64 (FP.f2d x) = FP.Core.roundRatio FP.Core.b64 s (c * 2 ^ (q - FP.Core.b64.qmin).toNat) 1 FP.Core.b64.qmin := by
    rw [v64_f2d (fin_nn h), h]
    exact rd_norm FP.Core.b64 s c (by rw [FP.Core.qmin_b64]; omega)
  have ez : c * 2 ^ (q - FP.Core.b64.qmin).toNat = c * 2 ^ (q - FP.Core.b32.qmin).toNat * 2 ^ 925 := by
    rw [Nat.mul_assoc, ← Nat.pow_add, FP.Core.qmin_b64, FP.Core.qmin_b32, show (q - -1074).toNat = (q - -149).toNat + 925 by omega]
  obtain ⟨c', q', h1, h2, h3, h4⟩ := rr_all FP.Core.good_b64 s (Z := c * 2 ^ (q - FP.Core.b64.qmin).toNat) (m := m) (J := J + 925) (t := t + 925) (by
    rw [ez, Nat.pow_add, ← Nat.mul_assoc]
    exact Nat.mul_le_mul_right _ hb) hm (by
    rw [ez, Nat.pow_add]
    exact Nat.mul_dvd_mul_right hd _) (by
    have e1 : FP.Core.b64.qmin = -1074 := FP.Core.qmin_b64
    have e2 : FP.Core.b64.qmax = 971 := by decide
    omega)
  refine ⟨c', q', e.trans h1, (h4 ⟨c, _, Nat.lt_trans f1 (by decide), rfl⟩).trans ez, h2, h3⟩
theorem z_fl (n : Int64) : nZ 1074 1 1137 (FP.Core.val64 (FP.f2d (FP.l2f n))) FP.Core.b64 := by
  obtain ⟨s, c, q, e, hd, hb⟩ := z_l2f n
  obtain ⟨c', q', h1, _, h2, h3⟩ := z_f2d (T := 1074) (K := 1137) e hd hb (by decide) (by decide) rfl rfl
  exact ⟨s, c', q', h1, h2, h3⟩
theorem zR_l2f (n : Int64) : nR 11 (FP.f2d (FP.l2f n)) := nR_of (by decide) (nZ_mono (z_fl n) (by decide)) (by rw [Nat.one_mul]; exact Nat.le_refl _)
theorem v64_8 : FP.Core.val64 4620693217682128896 = FP.Core.Datum.fin false (2 ^ 52) (-49) := by decide +kernel
theorem v32_8 : FP.Core.val32 1090519040 = FP.Core.Datum.fin false (2 ^ 23) (-20) := by decide +kernel
theorem bne_f (s : Bool) : (s != false) = s := by cases s <;> rfl
theorem quot_fin (f : FP.Core.Fmt) (s t : Bool) (c d : Nat) (q r : Int) (hd : ¬ d = 0) : FP.Core.quotient f (FP.Core.Datum.fin s c q) (FP.Core.Datum.fin t d r) = FP.Core.roundRatio f (s != t) c d (q - r) := by
  show (if d = 0 then (if c = 0 then FP.Core.Datum.nan else FP.Core.Datum.inf (s != t)) else FP.Core.roundRatio f (s != t) c d (q - r)) = _
  rw [if_neg hd]
/-- an eighth of a double -/
theorem z_div8 {x : UInt64} {s : Bool} {c : Nat} {q : Int} {Y : Nat} (h : FP.Core.val64 x = FP.Core.Datum.fin s c q) (hY : c * 2 ^ (q - FP.Core.b64.qmin).toNat = Y * 8) : FP.Core.val64 (FP.ddiv x 4620693217682128896) = FP.Core.roundRatio FP.Core.b64 s Y 1 FP.Core.b64.qmin := by
  have fi := FP.Core.val64_fits x
  rw [h] at fi
  obtain ⟨f1, f2, f3, f4⟩ := fi
  have e : FP.Core.val64 (FP.ddiv x 4620693217682128896) = FP.Core.quotient FP.Core.b64 (FP.Core.val64 x) (FP.Core.val64 4620693217682128896) := FP.Core.val64_ddiv x _
  rw [e, h, v64_8, quot_fin _ _ _ _ _ _ _ (by decide), bne_f]
  rw [FP.Core.qmin_b64] at f2 hY ⊢
  refine FP.Core.roundRatio_congr (by decide) (by decide) ?_
  rw [show (-1074 - (q - -49)).toNat = 0 by omega, show (q - -49 - -1074).toNat = (q - -1074).toNat + 49 by omega, Nat.pow_zero, Nat.pow_add, Nat.mul_one, Nat.mul_one, ← Nat.mul_assoc, hY, Nat.mul_assoc]
theorem z_div8f {x : UInt32} {s : Bool} {c : Nat} {q : Int} {Y : Nat} (h : FP.Core.val32 x = FP.Core.Datum.fin s c q) (hY : c * 2 ^ (q - FP.Core.b32.qmin).toNat = Y * 8) : FP.Core.val32 (FP.fdiv x 1090519040) = FP.Core.roundRatio FP.Core.b32 s Y 1 FP.Core.b32.qmin := by
  have fi := FP.Core.val32_fits x
  rw [h] at fi
  obtain ⟨f1, f2, f3, f4⟩ := fi
  have e : FP.Core.val32 (FP.fdiv x 1090519040) = FP.Core.quotient FP.Core.b32 (FP.Core.val32 x) (FP.Core.val32 1090519040) := FP.Core.val32_fdiv x _
  rw [e, h, v32_8, quot_fin _ _ _ _ _ _ _ (by decide), bne_f]
  rw [FP.Core.qmin_b32] at f2 hY ⊢
  refine FP.Core.roundRatio_congr (by decide) (by decide) ?_
  rw [show (-149 - (q - -20)).toNat = 0 by omega, show (q - -20 - -149).toNat = (q - -149).toNat + 20 by omega, Nat.pow_zero, Nat.pow_add, Nat.mul_one, Nat.mul_one, ← Nat.mul_assoc, hY, Nat.mul_assoc]
theorem z_8th {x : UInt64} (h : nZ 1074 1 1137 (FP.Core.val64 x) FP.Core.b64) : nR 11 (FP.ddiv x 4620693217682128896) := by
  obtain ⟨s, c, q, e, hd, hb⟩ := h
  obtain ⟨M, hM⟩ := hd
  have hY : c * 2 ^ (q - FP.Core.b64.qmin).toNat = (2 ^ 1071 * M) * 8 := by
    rw [hM, show 1074 = 1071 + 3 from rfl, Nat.pow_add, Nat.mul_assoc, Nat.mul_assoc]
    rw [show (2 : Nat) ^ 3 = 8 from rfl, Nat.mul_comm 8 M]
  obtain ⟨c', q', h1, h2, h3, _⟩ := rr_all FP.Core.good_b64 s (Z := 2 ^ 1071 * M) (m := 1) (J := 1137) (t := 1071) (by omega) (by decide) (Nat.dvd_mul_right _ _) (by decide)
  exact nR_of (m := 1) (J := 1137) (by decide) ⟨s, c', q', (z_div8 e hY).trans h1, h2, h3⟩ (by rw [Nat.one_mul]; exact Nat.le_refl _)
theorem zR_m7 (n : Int64) : nR 11 (FP.ddiv (FP.l2d n) 4620693217682128896) := z_8th (z_l2d n)
theorem zR_m6 (n : Int64) : nR 11 (FP.ddiv (FP.f2d (FP.l2f n)) 4620693217682128896) := z_8th (z_fl n)
theorem z_m6 {α : Type} (n : Int64) (f : UInt64 → Option α) : (xnF (FP.fdiv (FP.l2f n) 1090519040) fun z => xnD (FP.f2d z) f) = f (FP.ddiv (FP.f2d (FP.l2f n)) 4620693217682128896) := by
  obtain ⟨s, c, q, e, hd, hb⟩ := z_l2f n
  have fi := FP.Core.val32_fits (FP.l2f n)
  rw [e] at fi
  obtain ⟨f1, f2, f3, f4⟩ := fi
  obtain ⟨M, hM⟩ := id hd
  have hY : c * 2 ^ (q - FP.Core.b32.qmin).toNat = (2 ^ 146 * M) * 8 := by
    rw [hM, show 149 = 146 + 3 from rfl, Nat.pow_add, Nat.mul_assoc, Nat.mul_assoc, show (2 : Nat) ^ 3 = 8 from rfl, Nat.mul_comm 8 M]
  have ex : ∃ a j, a < 2 ^ FP.Core.b32.p ∧ 2 ^ 146 * M = a * 2 ^ j := by
    by_cases h3 : 3 ≤ (q - FP.Core.b32.qmin).toNat
    · refine ⟨c, (q - FP.Core.b32.qmin).toNat - 3, f1, ?_⟩
      refine Nat.eq_of_mul_eq_mul_right (show 0 < 8 by decide) ?_
      rw [← hY, Nat.mul_assoc, show (8 : Nat) = 2 ^ 3 from rfl, ← Nat.pow_add, Nat.sub_add_cancel h3]
    · have hM0 : M = 0 := by
        rcases Nat.eq_zero_or_pos M with h | h
        · exact h
        · have l1 : 2 ^ 149 ≤ c * 2 ^ (q - FP.Core.b32.qmin).toNat := by rw [hM]; exact Nat.le_mul_of_pos_right _ h
          have l2 : c * 2 ^ (q - FP.Core.b32.qmin).toNat ≤ 2 ^ 24 * 2 ^ 3 := Nat.mul_le_mul (Nat.le_of_lt f1) (Nat.pow_le_pow_right (by decide) (by omega))
          exact absurd (Nat.le_trans l1 l2) (by decide)
      exact ⟨0, 0, Nat.two_pow_pos _, by rw [hM0]⟩
  obtain ⟨c1, q1, h1, h2, h3, h4⟩ := rr_all FP.Core.good_b32 s (Z := 2 ^ 146 * M) (m := 1) (J := 212) (t := 146) (by omega) (by decide) (Nat.dvd_mul_right _ _) (by decide)
  have h4 := h4 ex
  have e1 : FP.Core.val32 (FP.fdiv (FP.l2f n) 1090519040) = FP.Core.Datum.fin s c1 q1 := (z_div8f e hY).trans h1
  rw [xnF_ok (fin_nn e1)]
  have fi1 := FP.Core.val32_fits (FP.fdiv (FP.l2f n) 1090519040)
  rw [e1] at fi1
  have g2 : -149 ≤ q1 := by
    have := fi1.2.1
    rw [FP.Core.qmin_b32] at this
    exact this
  have eL : FP.Core.val64 (FP.f2d (FP.fdiv (FP.l2f n) 1090519040)) = FP.Core.roundRatio FP.Core.b64 s (2 ^ 146 * M * 2 ^ 925) 1 FP.Core.b64.qmin := by
    rw [v64_f2d (fin_nn e1), e1, rd_norm FP.Core.b64 s c1 (by rw [FP.Core.qmin_b64]; omega)]
    refine congrArg (fun z => FP.Core.roundRatio FP.Core.b64 s z 1 FP.Core.b64.qmin) ?_
    rw [← h4, Nat.mul_assoc, ← Nat.pow_add, FP.Core.qmin_b64, FP.Core.qmin_b32, show (q1 - -1074).toNat = (q1 - -149).toNat + 925 by omega]
  obtain ⟨c2, q2, k1, k2, _, _⟩ := z_f2d (T := 1074) (K := 1137) e hd hb (by decide) (by decide) rfl rfl
  have eR : FP.Core.val64 (FP.ddiv (FP.f2d (FP.l2f n)) 4620693217682128896) = FP.Core.roundRatio FP.Core.b64 s (2 ^ 146 * M * 2 ^ 925) 1 FP.Core.b64.qmin := by
    refine z_div8 k1 ?_
    rw [k2, hY, Nat.mul_right_comm]
  have nn2 : FP.Core.val64 (FP.f2d (FP.fdiv (FP.l2f n) 1090519040)) ≠ FP.Core.Datum.nan := by
    rw [eL]
    exact FP.Core.roundRatio_ne_nan _ _ _ _ _
  rw [xnD_ok nn2, FP.Core.val64_inj nn2 (eL.trans eR.symm)]
end FLB
