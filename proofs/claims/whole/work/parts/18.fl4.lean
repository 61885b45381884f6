/-! broken numbers: comparisons, halves, doubles -/
section FLD
theorem v64_1 : FP.Core.val64 4607182418800017408 = FP.Core.Datum.fin false (2 ^ 52) (-52) := by decide +kernel
theorem v64_2 : FP.Core.val64 4611686018427387904 = FP.Core.Datum.fin false (2 ^ 52) (-51) := by decide +kernel
theorem v64_23 : FP.Core.val64 4710765210229538816 = FP.Core.Datum.fin false (2 ^ 52) (-29) := by decide +kernel
theorem v64_24 : FP.Core.val64 4715268809856909312 = FP.Core.Datum.fin false (2 ^ 52) (-28) := by decide +kernel
theorem v64_52 : FP.Core.val64 4841369599423283200 = FP.Core.Datum.fin false (2 ^ 52) 0 := by decide +kernel
theorem v64_53 : FP.Core.val64 4845873199050653696 = FP.Core.Datum.fin false (2 ^ 52) 1 := by decide +kernel
theorem cm_lt {x y : UInt64} {c : Nat} {q r : Int} (hx : FP.Core.val64 x = FP.Core.Datum.fin false c q) (hy : FP.Core.val64 y = FP.Core.Datum.fin false (2 ^ 52) r) (hc : c < 2 ^ 53) (h : q < r) : FP.dcmp x y = some .lt := by
  show FP.Core.order (FP.Core.val64 x) (FP.Core.val64 y) = _
  rw [hx, hy]
  refine congrArg some ((FP.Core.compare_lt_iff _ _).mpr ?_)
  show ((c * 2 ^ (q - min q r).toNat : Nat) : Int) < ((2 ^ 52 * 2 ^ (r - min q r).toNat : Nat) : Int)
  refine Int.ofNat_lt.mpr ?_
  rw [show (q - min q r).toNat = 0 by omega, Nat.pow_zero, Nat.mul_one, ← Nat.pow_add]
  exact Nat.lt_of_lt_of_le hc (Nat.pow_le_pow_right (by decide) (by omega))
theorem cm_ge {x y : UInt64} {c : Nat} {q r : Int} (hx : FP.Core.val64 x = FP.Core.Datum.fin false c q) (hy : FP.Core.val64 y = FP.Core.Datum.fin false (2 ^ 52) r) (hc : 2 ^ 52 ≤ c) (h : r ≤ q) : FP.dcmp x y = some .gt ∨ FP.dcmp x y = some .eq := by
  have e : FP.dcmp x y = some (compare ((c * 2 ^ (q - min q r).toNat : Nat) : Int) ((2 ^ 52 * 2 ^ (r - min q r).toNat : Nat) : Int)) := by
    show FP.Core.order (FP.Core.val64 x) (FP.Core.val64 y) = _
    rw [hx, hy]
    rfl
  have l : ((2 ^ 52 * 2 ^ (r - min q r).toNat : Nat) : Int) ≤ ((c * 2 ^ (q - min q r).toNat : Nat) : Int) := by
    refine Int.ofNat_le.mpr ?_
    rw [show (r - min q r).toNat = 0 by omega, Nat.pow_zero, Nat.mul_one]
    exact Nat.le_trans hc (Nat.le_mul_of_pos_right _ (Nat.two_pow_pos _))
  rw [e]
  rcases Int.lt_or_eq_of_le l with l | l
  · exact Or.inl (congrArg some ((FP.Core.compare_gt_iff _ _).mpr l))
  · exact Or.inr (congrArg some ((FP.Core.compare_eq_iff _ _).mpr l.symm))
theorem cm_0 {x : UInt64} {s : Bool} {c : Nat} {q : Int} (hx : FP.Core.val64 x = FP.Core.Datum.fin s c q) : (c = 0 → FP.dcmp x 0 = some .eq) ∧ (0 < c → FP.dcmp x 0 = if s = true then some .lt else some .gt) := by
  have e : FP.dcmp x 0 = some (compare (FP.Core.signed s (c * 2 ^ (q - min q FP.Core.b64.qmin).toNat)) (FP.Core.signed false (0 * 2 ^ (FP.Core.b64.qmin - min q FP.Core.b64.qmin).toNat))) := by
    show FP.Core.order (FP.Core.val64 x) (FP.Core.val64 0) = _
    rw [hx, FP.Core.val64_zero]
    rfl
  rw [Nat.zero_mul, FP.Core.signed_zero] at e
  constructor
  · rintro rfl
    rw [e, Nat.zero_mul, FP.Core.signed_zero]
    rfl
  · intro h0
    have hp : 0 < c * 2 ^ (q - min q FP.Core.b64.qmin).toNat := Nat.mul_pos h0 (Nat.two_pow_pos _)
    rw [e]
    generalize c * 2 ^ (q - min q FP.Core.b64.qmin).toNat = Z at hp
    cases s with
    | true =>
      rw [if_pos rfl]
      exact congrArg some ((FP.Core.compare_lt_iff _ _).mpr (by show -(Z : Int) < 0; omega))
    | false =>
      rw [if_neg (by decide)]
      exact congrArg some ((FP.Core.compare_gt_iff _ _).mpr (by show (0 : Int) < (Z : Int); omega))
theorem fits_n {s : Bool} {c : Nat} {q : Int} (hc : 2 ^ 52 ≤ c) (hc2 : c < 2 ^ 53) (h1 : -1074 ≤ q) (h2 : q ≤ 971) : FP.Core.fits FP.Core.b64 (FP.Core.Datum.fin s c q) := by
  refine ⟨hc2, ?_, ?_, Or.inr ?_⟩
  · rw [FP.Core.qmin_b64]; exact h1
  · rw [show FP.Core.b64.qmax = 971 by decide]; exact h2
  · rw [FP.Core.tails_b64]; exact hc
theorem dv_pow {x y : UInt64} {s : Bool} {c : Nat} {q r : Int} (hx : FP.Core.val64 x = FP.Core.Datum.fin s c q) (hy : FP.Core.val64 y = FP.Core.Datum.fin false (2 ^ 52) r) (hc : 2 ^ 52 ≤ c) (hc2 : c < 2 ^ 53) (h1 : -1074 ≤ q - r - 52) (h2 : q - r - 52 ≤ 971) : FP.Core.val64 (FP.ddiv x y) = FP.Core.Datum.fin s c (q - r - 52) := by
  have e : FP.Core.val64 (FP.ddiv x y) = FP.Core.quotient FP.Core.b64 (FP.Core.val64 x) (FP.Core.val64 y) := FP.Core.val64_ddiv x y
  rw [e, hx, hy, quot_fin _ _ _ _ _ _ _ (by decide), bne_f]
  refine FP.Core.roundRatio_exact FP.Core.good_b64 (by decide) (fits_n hc hc2 h1 h2) ?_
  rw [show (q - r - (q - r - 52)).toNat = 52 by omega, show (q - r - 52 - (q - r)).toNat = 0 by omega, Nat.pow_zero, Nat.mul_one]
theorem ml_pow {x y : UInt64} {s : Bool} {c : Nat} {q r : Int} (hx : FP.Core.val64 x = FP.Core.Datum.fin s c q) (hy : FP.Core.val64 y = FP.Core.Datum.fin false (2 ^ 52) r) (hc : 2 ^ 52 ≤ c) (hc2 : c < 2 ^ 53) (h1 : -1074 ≤ q + r + 52) (h2 : q + r + 52 ≤ 971) : FP.Core.val64 (FP.dmul x y) = FP.Core.Datum.fin s c (q + r + 52) := by
  have e : FP.Core.val64 (FP.dmul x y) = FP.Core.round FP.Core.b64 (FP.Core.exactProduct (FP.Core.val64 x) (FP.Core.val64 y)) := FP.Core.val64_dmul x y
  rw [e, hx, hy]
  show FP.Core.roundRatio FP.Core.b64 (s != false) (c * 2 ^ 52) 1 (q + r) = _
  rw [bne_f]
  refine FP.Core.roundRatio_exact FP.Core.good_b64 (by decide) (fits_n hc hc2 h1 h2) ?_
  rw [show (q + r - (q + r + 52)).toNat = 0 by omega, show (q + r + 52 - (q + r)).toNat = 52 by omega, Nat.pow_zero, Nat.mul_one, Nat.mul_one]
/-- the bits of a double -/
theorem b_bits {x : UInt64} {s : Bool} {c : Nat} {q : Int} (e : FP.Core.val64 x = FP.Core.Datum.fin s c q) (hc : 2 ^ 52 ≤ c) : x.toNat = (s.toNat * 2048 + (q + 1075).toNat) * 2 ^ 52 + (c - 2 ^ 52) := by
  have t := FP.Core.toNat_of64 (FP.Core.val64_fits x)
  have fi := FP.Core.val64_fits x
  rw [e] at fi
  have f2 := fi.2.1
  rw [FP.Core.qmin_b64] at f2
  rw [FP.Core.of64_val64 (fin_nn e), e] at t
  rw [t]
  show (if c < FP.Core.b64.tails then FP.Core.assemble FP.Core.b64 s 0 c else FP.Core.assemble FP.Core.b64 s ((q - FP.Core.b64.qmin).toNat + 1) (c - FP.Core.b64.tails)) = _
  rw [FP.Core.tails_b64, if_neg (by omega), FP.Core.qmin_b64]
  unfold FP.Core.assemble
  rw [FP.Core.tails_b64, show FP.Core.b64.exps = 2048 by decide, show (q - -1074).toNat + 1 = (q + 1075).toNat by omega]
end FLD
