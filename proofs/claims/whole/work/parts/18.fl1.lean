/-! broken numbers: rounding, in the least units -/
section FLA
theorem xnD_ok {α : Type} {x : UInt64} {f : UInt64 → Option α} (h : FP.Core.val64 x ≠ FP.Core.Datum.nan) : xnD x f = f x := by
  refine if_pos ?_
  rw [UInt64.le_iff_toNat_le, FP.Core.mask_toNat]
  exact (FP.Core.ne_nan x).mp h
theorem xnF_ok {α : Type} {x : UInt32} {f : UInt32 → Option α} (h : FP.Core.val32 x ≠ FP.Core.Datum.nan) : xnF x f = f x := by
  refine if_pos ?_
  rw [UInt32.le_iff_toNat_le, FP.Core.mask_toNat32]
  exact (FP.Core.ne_nan32 x).mp h
theorem fin_nn {d : FP.Core.Datum} {s : Bool} {c : Nat} {q : Int} (h : d = FP.Core.Datum.fin s c q) : d ≠ FP.Core.Datum.nan := by
  rw [h]
  intro e
  cases e
theorem rr_val {f : FP.Core.Fmt} (hf : FP.Core.Good f) (s : Bool) {Z J : Nat} (hZ : 0 < Z) (hb : Z < 2 ^ (J + f.p)) (ho : f.qmin + J + 1 ≤ f.qmax) : ∃ k c q, k ≤ J ∧ (k = 0 ∨ 2 ^ (k + (f.p - 1)) ≤ Z) ∧ FP.Core.roundRatio f s Z 1 f.qmin = FP.Core.Datum.fin s c q ∧ c * 2 ^ (q - f.qmin).toNat = FP.Core.nearest Z (2 ^ k) * 2 ^ k := by
  have hp := hf.2
  have g1 := FP.Core.quantum_ge f Z 1 f.qmin
  have g2 := FP.Core.quantum_not_below (f := f) hZ (show 0 < 1 by decide) f.qmin
  have g3 := FP.Core.nearest_units_le (f := f) hZ (show 0 < 1 by decide) f.qmin
  have g4 : FP.Core.roundRatio f s Z 1 f.qmin = FP.Core.settle f s (FP.Core.nearest (FP.Core.unitsNum Z f.qmin (FP.Core.quantum f Z 1 f.qmin)) (FP.Core.unitsDen 1 f.qmin (FP.Core.quantum f Z 1 f.qmin))) (FP.Core.quantum f Z 1 f.qmin) := by
    unfold FP.Core.roundRatio
    rw [if_neg (by omega)]
    rfl
  generalize FP.Core.quantum f Z 1 f.qmin = q0 at g1 g2 g3 g4
  obtain ⟨k, rfl⟩ : ∃ k : Nat, q0 = f.qmin + k := ⟨(q0 - f.qmin).toNat, by omega⟩
  have u1 : FP.Core.unitsNum Z f.qmin (f.qmin + k) = Z := by
    unfold FP.Core.unitsNum
    rw [show (f.qmin - (f.qmin + (k : Int))).toNat = 0 by omega, Nat.pow_zero, Nat.mul_one]
  have u2 : FP.Core.unitsDen 1 f.qmin (f.qmin + k) = 2 ^ k := by
    unfold FP.Core.unitsDen
    rw [show (f.qmin + (k : Int) - f.qmin).toNat = k by omega, Nat.one_mul]
  rw [u1, u2] at g3 g4
  have hk2 : k = 0 ∨ 2 ^ (k + (f.p - 1)) ≤ Z := by
    rcases g2 with g2 | g2
    · left; omega
    · right
      refine Nat.le_of_not_lt (fun h => g2 ?_)
      rw [show f.qmin + (k : Int) - f.qmin + ((f.p : Int) - 1) = ((k + (f.p - 1) : Nat) : Int) - ((0 : Nat) : Int) by omega, FP.Core.below_iff, Nat.pow_zero, Nat.mul_one, Nat.one_mul]
      exact h
  have hk : k ≤ J := by
    rcases hk2 with h | h
    · omega
    · have h2 : 2 ^ (k + (f.p - 1)) < 2 ^ (J + f.p) := by omega
      have := (Nat.pow_lt_pow_iff_right (by decide : 1 < 2)).mp h2
      omega
  have ht := FP.Core.two_tails hf
  refine ⟨k, ?_⟩
  generalize FP.Core.nearest Z (2 ^ k) = c0 at g3 g4 ⊢
  rw [g4]
  unfold FP.Core.settle FP.Core.bound
  by_cases hc : c0 < 2 ^ f.p
  · rw [if_pos hc, if_pos (by omega)]
    exact ⟨c0, f.qmin + k, hk, hk2, rfl, by rw [show (f.qmin + (k : Int) - f.qmin).toNat = k by omega]⟩
  · rw [if_neg hc, if_pos (by omega)]
    refine ⟨f.tails, f.qmin + k + 1, hk, hk2, rfl, ?_⟩
    have e : c0 = 2 * f.tails := by omega
    rw [show (f.qmin + (k : Int) + 1 - f.qmin).toNat = k + 1 by omega, e, Nat.pow_succ, Nat.mul_comm 2 f.tails, Nat.mul_assoc, Nat.mul_comm 2 (2 ^ k)]
theorem near_dvd {Z k : Nat} (h : 2 ^ k ∣ Z) : FP.Core.nearest Z (2 ^ k) * 2 ^ k = Z := by
  obtain ⟨M, hM⟩ := h
  rw [Nat.mul_comm] at hM
  rw [hM, FP.Core.nearest_exact M (Nat.two_pow_pos k)]
theorem rr_all {f : FP.Core.Fmt} (hf : FP.Core.Good f) (s : Bool) {Z m J t : Nat} (hZ : Z ≤ m * 2 ^ J) (hm : m < 2 ^ f.p) (ht : 2 ^ t ∣ Z) (ho : f.qmin + J + 1 ≤ f.qmax) : ∃ c q, FP.Core.roundRatio f s Z 1 f.qmin = FP.Core.Datum.fin s c q ∧ 2 ^ t ∣ c * 2 ^ (q - f.qmin).toNat ∧ c * 2 ^ (q - f.qmin).toNat ≤ m * 2 ^ J ∧ ((∃ a j, a < 2 ^ f.p ∧ Z = a * 2 ^ j) → c * 2 ^ (q - f.qmin).toNat = Z) := by
  by_cases h0 : Z = 0
  · subst h0
    refine ⟨0, f.qmin, ?_, ?_, ?_, ?_⟩
    · unfold FP.Core.roundRatio
      rw [if_pos rfl]
    · rw [Nat.zero_mul]; exact ht
    · rw [Nat.zero_mul]; exact Nat.zero_le _
    · intro _; rw [Nat.zero_mul]
  · have hb : Z < 2 ^ (J + f.p) := by
      refine Nat.lt_of_le_of_lt hZ ?_
      rw [Nat.add_comm J, Nat.pow_add]
      exact Nat.mul_lt_mul_of_pos_right hm (Nat.two_pow_pos _)
    obtain ⟨k, c, q, hk, hk2, e, ev⟩ := rr_val hf s (by omega) hb ho
    refine ⟨c, q, e, ?_, ?_, ?_⟩
    · rw [ev]
      by_cases htk : t ≤ k
      · exact Nat.dvd_trans (Nat.pow_dvd_pow 2 htk) (Nat.dvd_mul_left _ _)
      · rw [near_dvd (Nat.dvd_trans (Nat.pow_dvd_pow 2 (by omega)) ht)]
        exact ht
    · rw [ev]
      have e2 : m * 2 ^ (J - k) * 2 ^ k = m * 2 ^ J := by rw [Nat.mul_assoc, ← Nat.pow_add, Nat.sub_add_cancel hk]
      have := FP.Core.nearest_le (A := Z) (M := m * 2 ^ (J - k)) (Nat.two_pow_pos k) (by rw [e2]; exact hZ)
      rw [← e2]
      exact Nat.mul_le_mul_right _ this
    · rintro ⟨a, j, ha, hj⟩
      rw [ev]
      refine near_dvd ?_
      rcases hk2 with h | h
      · rw [h, Nat.pow_zero]; exact Nat.one_dvd _
      · have hp := hf.2
        have h2 : 2 ^ (k + (f.p - 1)) < 2 ^ (f.p + j) := by
          refine Nat.lt_of_le_of_lt h ?_
          rw [hj, Nat.pow_add]
          exact Nat.mul_lt_mul_of_pos_right ha (Nat.two_pow_pos _)
        have := (Nat.pow_lt_pow_iff_right (by decide : 1 < 2)).mp h2
        rw [hj]
        exact Nat.dvd_trans (Nat.pow_dvd_pow 2 (show k ≤ j by omega)) (Nat.dvd_mul_left _ _)
theorem rd_norm (f : FP.Core.Fmt) (s : Bool) (A : Nat) {e : Int} (he : f.qmin ≤ e) : FP.Core.round f (FP.Core.Datum.fin s A e) = FP.Core.roundRatio f s (A * 2 ^ (e - f.qmin).toNat) 1 f.qmin := by
  show FP.Core.roundRatio f s A 1 e = _
  refine FP.Core.roundRatio_congr (by decide) (by decide) ?_
  rw [show (f.qmin - e).toNat = 0 by omega, Nat.pow_zero]
  simp
/-- what is known of a double's datum -/
def nZ (t m J : Nat) (d : FP.Core.Datum) (f : FP.Core.Fmt) : Prop := ∃ s c q, d = FP.Core.Datum.fin s c q ∧ 2 ^ t ∣ c * 2 ^ (q - f.qmin).toNat ∧ c * 2 ^ (q - f.qmin).toNat ≤ m * 2 ^ J
theorem nR_of {B : Int} {x : UInt64} {m J : Nat} (hB : -1074 ≤ B) (h : nZ 1071 m J (FP.Core.val64 x) FP.Core.b64) (hJ : m * 2 ^ J ≤ 2 ^ (B + 1126).toNat) : nR B x := by
  obtain ⟨s, c, q, e, hd, hb⟩ := h
  have fi := FP.Core.val64_fits x
  rw [e] at fi
  obtain ⟨f1, f2, f3, f4⟩ := fi
  rw [FP.Core.qmin_b64] at f2 f4 hd hb
  refine ⟨s, c, q, e, ?_⟩
  by_cases h0 : c = 0
  · exact Or.inl h0
  · refine Or.inr ⟨?_, ?_⟩
    · rcases f4 with f4 | f4
      · omega
      · rw [FP.Core.tails_b64] at f4
        have h1 : 2 ^ 52 * 2 ^ (q - -1074).toNat ≤ 2 ^ (B + 1126).toNat := Nat.le_trans (Nat.mul_le_mul_right _ f4) (Nat.le_trans hb hJ)
        rw [← Nat.pow_add] at h1
        have := (Nat.pow_le_pow_iff_right (by decide : 1 < 2)).mp h1
        omega
    · by_cases h3 : -3 ≤ q
      · rw [show (-3 - q).toNat = 0 by omega, Nat.pow_zero]
        exact Nat.one_dvd _
      · rw [show 1071 = (-3 - q).toNat + (q - -1074).toNat by omega, Nat.pow_add] at hd
        exact Nat.dvd_of_mul_dvd_mul_right (Nat.two_pow_pos _) hd
theorem nR_to {B : Int} {x : UInt64} (hB : 0 ≤ B) (h : nR B x) : ∃ s c q, FP.Core.val64 x = FP.Core.Datum.fin s c q ∧ -1074 ≤ q ∧ (c = 0 ∨ q ≤ B ∧ -55 ≤ q ∧ 2 ^ 52 ≤ c) ∧ c < 2 ^ 53 ∧ (c = 0 ∨ 2 ^ (-3 - q).toNat ∣ c) := by
  obtain ⟨s, c, q, e, h⟩ := h
  have fi := FP.Core.val64_fits x
  rw [e] at fi
  obtain ⟨f1, f2, f3, f4⟩ := fi
  rw [FP.Core.qmin_b64] at f2 f4
  rw [FP.Core.tails_b64] at f4
  have f1' : c < 2 ^ 53 := f1
  refine ⟨s, c, q, e, f2, ?_, f1', h.imp id (fun h => h.2)⟩
  rcases h with h | ⟨h1, h2⟩
  · exact Or.inl h
  · by_cases h0 : c = 0
    · exact Or.inl h0
    · have h3 : 2 ^ (-3 - q).toNat < 2 ^ 53 := Nat.lt_of_le_of_lt (Nat.le_of_dvd (by omega) h2) f1'
      have := (Nat.pow_lt_pow_iff_right (by decide : 1 < 2)).mp h3
      exact Or.inr ⟨h1, by omega, by omega⟩
end FLA
