/-! broken numbers: sums -/
section FLC
theorem sgn_dvd {P Z : Nat} {s : Bool} (h : P ∣ Z) : (P : Int) ∣ FP.Core.signed s Z := by
  unfold FP.Core.signed
  split
  · exact (Int.dvd_neg).mpr (Int.natCast_dvd_natCast.mpr h)
  · exact Int.natCast_dvd_natCast.mpr h
theorem sgn_abs {s t u : Bool} {Z a b : Nat} (h : FP.Core.signed u Z = FP.Core.signed s a + FP.Core.signed t b) : Z ≤ a + b ∧ ∀ P : Nat, P ∣ a → P ∣ b → P ∣ Z := by
  have e := FP.Core.natAbs_signed u Z
  constructor
  · rw [h] at e
    have h1 := FP.Core.natAbs_signed s a
    have h2 := FP.Core.natAbs_signed t b
    omega
  · intro P ha hb
    have := Int.dvd_add (sgn_dvd (s := s) ha) (sgn_dvd (s := t) hb)
    rw [← h] at this
    have h3 := Int.ofNat_dvd_left.mp this
    rw [e] at h3
    exact h3
/-- a sum -/
theorem z_sum {f : FP.Core.Fmt} (hf : FP.Core.Good f) {x y : FP.Core.Datum} {t m n J : Nat} (fx : FP.Core.fits f x) (fy : FP.Core.fits f y) (hx : nZ t m J x f) (hy : nZ t n J y f) (hm : m + n < 2 ^ f.p) (ho : f.qmin + J + 1 ≤ f.qmax) : nZ t (m + n) J (FP.Core.round f (FP.Core.exactSum x y)) f := by
  obtain ⟨s1, c1, q1, rfl, d1, b1⟩ := hx
  obtain ⟨s2, c2, q2, rfl, d2, b2⟩ := hy
  obtain ⟨sg, N, e, h1, h2, h3⟩ := FP.Core.sum_units fx fy
  have h3' : FP.Core.signed sg (N * 2 ^ (e - f.qmin).toNat) = FP.Core.signed s1 (c1 * 2 ^ (q1 - f.qmin).toNat) + FP.Core.signed s2 (c2 * 2 ^ (q2 - f.qmin).toNat) := h3
  obtain ⟨k1, k2⟩ := sgn_abs h3'
  rw [h1, rd_norm f sg N h2]
  obtain ⟨c, q, r1, r2, r3, _⟩ := rr_all hf sg (Z := N * 2 ^ (e - f.qmin).toNat) (m := m + n) (J := J) (t := t) (by
    rw [Nat.add_mul]
    exact Nat.le_trans k1 (Nat.add_le_add b1 b2)) hm (k2 _ d1 d2) ho
  exact ⟨sg, c, q, r1, r2, r3⟩
theorem nZ_zero (t m J : Nat) (f : FP.Core.Fmt) (s : Bool) (q : Int) : nZ t m J (FP.Core.Datum.fin s 0 q) f := ⟨s, 0, q, rfl, by rw [Nat.zero_mul]; exact Nat.dvd_zero _, by rw [Nat.zero_mul]; exact Nat.zero_le _⟩
theorem z_11 {x : UInt64} (h : nR 11 x) : nZ 1071 1 1138 (FP.Core.val64 x) FP.Core.b64 := by
  obtain ⟨s, c, q, e, h1, h2, h3, h4⟩ := nR_to (by decide) h
  rw [e]
  rcases h2 with h2 | ⟨h5, h6, h7⟩
  · subst h2
    exact nZ_zero _ _ _ _ _ _
  · have h8 := h4.resolve_left (by have := Nat.two_pow_pos 52; omega)
    refine ⟨s, c, q, rfl, ?_, ?_⟩
    · rw [FP.Core.qmin_b64]
      by_cases hq : -3 ≤ q
      · exact Nat.dvd_trans (Nat.pow_dvd_pow 2 (show 1071 ≤ (q - -1074).toNat by omega)) (Nat.dvd_mul_left _ _)
      · rw [show 1071 = (-3 - q).toNat + (q - -1074).toNat by omega, Nat.pow_add]
        exact Nat.mul_dvd_mul_right h8 _
    · rw [FP.Core.qmin_b64, Nat.one_mul, show 1138 = 53 + 1085 from rfl, Nat.pow_add]
      exact Nat.mul_le_mul (Nat.le_of_lt h3) (Nat.pow_le_pow_right (by decide) (by omega))
theorem z_11f {x : UInt64} (h : nR 11 x) : nZ 146 1 213 (FP.Core.val32 (FP.d2f x)) FP.Core.b32 := by
  obtain ⟨s, c, q, e, h1, h2, h3, h4⟩ := nR_to (by decide) h
  rw [v32_d2f (fin_nn e), e]
  rcases h2 with h2 | ⟨h5, h6, h7⟩
  · subst h2
    show nZ 146 1 213 (FP.Core.roundRatio FP.Core.b32 s 0 1 q) FP.Core.b32
    unfold FP.Core.roundRatio
    rw [if_pos rfl]
    exact nZ_zero _ _ _ _ _ _
  · have h8 := h4.resolve_left (by have := Nat.two_pow_pos 52; omega)
    rw [rd_norm FP.Core.b32 s c (by rw [FP.Core.qmin_b32]; omega)]
    obtain ⟨c1, q1, r1, r2, r3, _⟩ := rr_all FP.Core.good_b32 s (Z := c * 2 ^ (q - FP.Core.b32.qmin).toNat) (m := 1) (J := 213) (t := 146) (by
      rw [FP.Core.qmin_b32, Nat.one_mul, show 213 = 53 + 160 from rfl, Nat.pow_add]
      exact Nat.mul_le_mul (Nat.le_of_lt h3) (Nat.pow_le_pow_right (by decide) (by omega))) (by decide) (by
      rw [FP.Core.qmin_b32]
      by_cases hq : -3 ≤ q
      · exact Nat.dvd_trans (Nat.pow_dvd_pow 2 (show 146 ≤ (q - -149).toNat by omega)) (Nat.dvd_mul_left _ _)
      · rw [show 146 = (-3 - q).toNat + (q - -149).toNat by omega, Nat.pow_add]
        exact Nat.mul_dvd_mul_right h8 _) (by decide)
    exact ⟨s, c1, q1, r1, r2, r3⟩
theorem z_dS {g : Nat → UInt64} : ∀ n, n ≤ 24 → (∀ i, i < n → nR 11 (g i)) → nZ 1071 n 1138 (FP.Core.val64 (dS g n)) FP.Core.b64
  | 0, _, _ => by
    show nZ 1071 0 1138 (FP.Core.val64 0) FP.Core.b64
    rw [FP.Core.val64_zero]
    exact nZ_zero _ _ _ _ _ _
  | n + 1, hn, h => by
    have ih := z_dS n (by omega) (fun i hi => h i (by omega))
    have e : FP.Core.val64 (dS g (n + 1)) = FP.Core.round FP.Core.b64 (FP.Core.exactSum (FP.Core.val64 (dS g n)) (FP.Core.val64 (g n))) := FP.Core.val64_dadd _ _
    rw [e]
    have p : FP.Core.b64.p = 53 := rfl
    exact z_sum FP.Core.good_b64 (FP.Core.val64_fits _) (FP.Core.val64_fits _) ih (z_11 (h n (by omega))) (by rw [p]; exact Nat.lt_of_le_of_lt hn (by decide)) (by decide)
theorem z_fS {g : Nat → UInt64} : ∀ n, n ≤ 24 → (∀ i, i < n → nR 11 (g i)) → nZ 146 n 213 (FP.Core.val32 (fS g n)) FP.Core.b32
  | 0, _, _ => by
    show nZ 146 0 213 (FP.Core.val32 0) FP.Core.b32
    rw [FP.Core.val32_zero]
    exact nZ_zero _ _ _ _ _ _
  | n + 1, hn, h => by
    have ih := z_fS n (by omega) (fun i hi => h i (by omega))
    have e : FP.Core.val32 (fS g (n + 1)) = FP.Core.round FP.Core.b32 (FP.Core.exactSum (FP.Core.val32 (fS g n)) (FP.Core.val32 (FP.d2f (g n)))) := FP.Core.val32_fadd _ _
    rw [e]
    have p : FP.Core.b32.p = 24 := rfl
    exact z_sum FP.Core.good_b32 (FP.Core.val32_fits _) (FP.Core.val32_fits _) ih (z_11f (h n (by omega))) (by rw [p]; exact Nat.lt_of_le_of_lt hn (by decide)) (by decide)
theorem z_20 {n : Nat} (hn : n ≤ 24) : n * 2 ^ 1138 ≤ 2 ^ ((20 : Int) + 1126).toNat := by
  rw [show ((20 : Int) + 1126).toNat = 8 + 1138 from rfl, Nat.pow_add]
  exact Nat.mul_le_mul_right _ (Nat.le_trans hn (by decide))
theorem zdS_ok {g : Nat → UInt64} {n : Nat} (hn : n ≤ 24) (h : ∀ i, i < n → nR 11 (g i)) : nR 20 (dS g n) := nR_of (by decide) (z_dS n hn h) (z_20 hn)
theorem zfS_ok {g : Nat → UInt64} {n : Nat} (hn : n ≤ 24) (h : ∀ i, i < n → nR 11 (g i)) : nR 20 (FP.f2d (fS g n)) ∧ FP.d2f (FP.f2d (fS g n)) = fS g n ∧ (∀ {α : Type} (f : UInt32 → Option α), xnF (fS g n) f = f (fS g n)) := by
  obtain ⟨s, c, q, e, hd, hb⟩ := z_fS n hn h
  obtain ⟨c', q', h1, _, h2, h3⟩ := z_f2d (T := 1071) (K := 1138) e hd hb (Nat.lt_of_le_of_lt hn (by decide)) (by decide) rfl rfl
  refine ⟨nR_of (by decide) ⟨s, c', q', h1, h2, h3⟩ (z_20 hn), ?_, fun f => xnF_ok (fin_nn e)⟩
  rw [d2f_c (fin_nn h1), f2d_c (fin_nn e)]
  exact FP.Core.d2f_f2d (fin_nn e)
end FLC
