/-! broken numbers: their bits -/
section FLE
theorem cv_l {x y : UInt64} (h : FP.dcmp x y = some .gt ∨ FP.dcmp x y = some .eq) : ¬ Op.cmpValue (FP.dcmp x y) .l < 0 := by
  rcases h with h | h
  · rw [h]; decide
  · rw [h]; decide
theorem cv_g {x y : UInt64} (h : FP.dcmp x y = some .gt ∨ FP.dcmp x y = some .eq) : ¬ Op.cmpValue (FP.dcmp x y) .g < 0 := by
  rcases h with h | h
  · rw [h]; decide
  · rw [h]; decide
theorem cv_lt {x y : UInt64} (h : FP.dcmp x y = some .lt) : Op.cmpValue (FP.dcmp x y) .l < 0 ∧ Op.cmpValue (FP.dcmp x y) .g < 0 := by
  rw [h]
  decide
section LP
variable {c : Nat} {y0 : UInt64} {w : xW}
/-- the reference's halves and doubles, float -/
theorem f_l1 (hc : 2 ^ 52 ≤ c) (hc2 : c < 2 ^ 53) : ∀ t i e y, FP.Core.val64 y = FP.Core.Datum.fin false c (-29 + (t : Nat)) → i + t ≤ 150 → ∃ y', FP.Core.val64 y' = FP.Core.Datum.fin false c (-29) ∧ xev 99 29 [some (xD (y0)), none, some (xD (y)), none, some (xI (nI e)), some (xI (nI i))] [] w = xev 99 63 [some (xD (y0)), none, some (xD (y')), none, some (xI (nI (e + t))), some (xI (0))] [] w
  | 0, i, e, y, hy, hi => by
    have hy' : FP.Core.val64 y = FP.Core.Datum.fin false c (-29) := hy
    refine ⟨y, hy', ?_⟩
    rw [e_X8_floatBits_29, b_X8_floatBits_29, if_pos (show nI i < 200 from nI_lt (b := 200) (by omega) (by decide)), if_pos (cv_lt (cm_lt hy' v64_24 hc2 (by decide))).1, Nat.add_zero]
  | t + 1, i, e, y, hy, hi => by
    have g := cm_ge hy v64_24 hc (by omega)
    have d := dv_pow hy v64_2 hc hc2 (by omega) (by omega)
    rw [show -29 + ((t + 1 : Nat) : Int) - -51 - 52 = -29 + (t : Nat) by omega] at d
    obtain ⟨y', h1, h2⟩ := f_l1 hc hc2 t (i + 1) (e + 1) _ d (by omega)
    refine ⟨y', h1, ?_⟩
    rw [e_X8_floatBits_29, b_X8_floatBits_29, if_pos (show nI i < 200 from nI_lt (b := 200) (by omega) (by decide)), if_neg (cv_l g), xnD_ok (fin_nn d), nI_1, nI_1, h2, show e + 1 + t = e + (t + 1) by omega]
theorem f_l2 (hc : 2 ^ 52 ≤ c) (hc2 : c < 2 ^ 53) : ∀ t i e y, FP.Core.val64 y = FP.Core.Datum.fin false c (-29 - (t : Nat)) → i + t ≤ 150 → ∃ y', FP.Core.val64 y' = FP.Core.Datum.fin false c (-29) ∧ xev 99 63 [some (xD (y0)), none, some (xD (y)), none, some (xI (nI (e + t))), some (xI (nI i))] [] w = xev 99 63 [some (xD (y0)), none, some (xD (y')), none, some (xI (nI e)), some (xI (nI (i + t)))] [] w
  | 0, i, e, y, hy, hi => ⟨y, by rw [hy]; rfl, by rw [Nat.add_zero, Nat.add_zero]⟩
  | t + 1, i, e, y, hy, hi => by
    have g := cm_lt hy v64_23 hc2 (by omega)
    have d := ml_pow hy v64_2 hc hc2 (by omega) (by omega)
    rw [show -29 - ((t + 1 : Nat) : Int) + -51 + 52 = -29 - (t : Nat) by omega] at d
    obtain ⟨y', h1, h2⟩ := f_l2 hc hc2 t (i + 1) e _ d (by omega)
    refine ⟨y', h1, ?_⟩
    rw [e_X8_floatBits_63, b_X8_floatBits_63, if_pos (show nI i < 200 from nI_lt (b := 200) (by omega) (by decide)), if_pos (cv_lt g).2, xnD_ok (fin_nn d), nI_1, show e + (t + 1) = (e + t) + 1 by omega, pk_m1, h2, show i + 1 + t = i + (t + 1) by omega]
/-- the reference's halves and doubles, double -/
theorem d_l1 (hc : 2 ^ 52 ≤ c) (hc2 : c < 2 ^ 53) : ∀ t i e y, FP.Core.val64 y = FP.Core.Datum.fin false c (0 + (t : Nat)) → i + t ≤ 150 → ∃ y', FP.Core.val64 y' = FP.Core.Datum.fin false c 0 ∧ xev 100 29 [some (xD (y0)), none, some (xD (y)), none, some (xJ (lN e)), none, some (xI (nI i)), none] [] w = xev 100 66 [some (xD (y0)), none, some (xD (y')), none, some (xJ (lN (e + t))), none, some (xI (0)), none] [] w
  | 0, i, e, y, hy, hi => by
    have hy' : FP.Core.val64 y = FP.Core.Datum.fin false c 0 := hy
    refine ⟨y, hy', ?_⟩
    rw [e_X8_doubleBits_29, b_X8_doubleBits_29, if_pos (show nI i < 200 from nI_lt (b := 200) (by omega) (by decide)), if_pos (cv_lt (cm_lt hy' v64_53 hc2 (by decide))).1, Nat.add_zero]
  | t + 1, i, e, y, hy, hi => by
    have g := cm_ge hy v64_53 hc (by omega)
    have d := dv_pow hy v64_2 hc hc2 (by omega) (by omega)
    rw [show 0 + ((t + 1 : Nat) : Int) - -51 - 52 = 0 + (t : Nat) by omega] at d
    obtain ⟨y', h1, h2⟩ := d_l1 hc hc2 t (i + 1) (e + 1) _ d (by omega)
    refine ⟨y', h1, ?_⟩
    rw [e_X8_doubleBits_29, b_X8_doubleBits_29, if_pos (show nI i < 200 from nI_lt (b := 200) (by omega) (by decide)), if_neg (cv_l g), xnD_ok (fin_nn d), nI_1, lN_1, h2, show e + 1 + t = e + (t + 1) by omega]
theorem d_l2 (hc : 2 ^ 52 ≤ c) (hc2 : c < 2 ^ 53) : ∀ t i e y, FP.Core.val64 y = FP.Core.Datum.fin false c (0 - (t : Nat)) → i + t ≤ 150 → ∃ y', FP.Core.val64 y' = FP.Core.Datum.fin false c 0 ∧ xev 100 66 [some (xD (y0)), none, some (xD (y)), none, some (xJ (lN (e + t))), none, some (xI (nI i)), none] [] w = xev 100 66 [some (xD (y0)), none, some (xD (y')), none, some (xJ (lN e)), none, some (xI (nI (i + t))), none] [] w
  | 0, i, e, y, hy, hi => ⟨y, by rw [hy]; rfl, by rw [Nat.add_zero, Nat.add_zero]⟩
  | t + 1, i, e, y, hy, hi => by
    have g := cm_lt hy v64_52 hc2 (by omega)
    have d := ml_pow hy v64_2 hc hc2 (by omega) (by omega)
    rw [show 0 - ((t + 1 : Nat) : Int) + -51 + 52 = 0 - (t : Nat) by omega] at d
    obtain ⟨y', h1, h2⟩ := d_l2 hc hc2 t (i + 1) e _ d (by omega)
    refine ⟨y', h1, ?_⟩
    have lm : lN (e + (t + 1)) - 1 = lN (e + t) := lN_sub (a := e + (t + 1)) (b := 1) (by omega)
    rw [e_X8_doubleBits_66, b_X8_doubleBits_66, if_pos (show nI i < 200 from nI_lt (b := 200) (by omega) (by decide)), if_pos (cv_lt g).2, xnD_ok (fin_nn d), nI_1, lm, h2, show i + 1 + t = i + (t + 1) by omega]
/-- the class's halves and doubles -/
theorem x_l1 {n2 n4 : Int32} (hc : 2 ^ 52 ≤ c) (hc2 : c < 2 ^ 53) : ∀ t i e y, FP.Core.val64 y = FP.Core.Datum.fin false c (-52 + (t : Nat)) → i + t ≤ 150 → ∃ y', FP.Core.val64 y' = FP.Core.Datum.fin false c (-52) ∧ xev 38 28 [some (xD (y0)), none, some (xI (n2)), none, some (xI (n4)), some (xD (y)), none, some (xI (nI e)), some (xI (nI i)), none, none, none] [] w = xev 38 65 [some (xD (y0)), none, some (xI (n2)), none, some (xI (n4)), some (xD (y')), none, some (xI (nI (e + t))), some (xI (0)), none, none, none] [] w
  | 0, i, e, y, hy, hi => by
    have hy' : FP.Core.val64 y = FP.Core.Datum.fin false c (-52) := hy
    refine ⟨y, hy', ?_⟩
    rw [e_X6_bits_28, b_X6_bits_28, if_pos (show nI i < 1100 from nI_lt (b := 1100) (by omega) (by decide)), if_pos (cv_lt (cm_lt hy' v64_2 hc2 (by decide))).1, Nat.add_zero]
  | t + 1, i, e, y, hy, hi => by
    have g := cm_ge hy v64_2 hc (by omega)
    have d := dv_pow hy v64_2 hc hc2 (by omega) (by omega)
    rw [show -52 + ((t + 1 : Nat) : Int) - -51 - 52 = -52 + (t : Nat) by omega] at d
    obtain ⟨y', h1, h2⟩ := x_l1 hc hc2 t (i + 1) (e + 1) _ d (by omega)
    refine ⟨y', h1, ?_⟩
    rw [e_X6_bits_28, b_X6_bits_28, if_pos (show nI i < 1100 from nI_lt (b := 1100) (by omega) (by decide)), if_neg (cv_l g), xnD_ok (fin_nn d), nI_1, nI_1, h2, show e + 1 + t = e + (t + 1) by omega]
theorem x_l2 {n2 n4 : Int32} (hc : 2 ^ 52 ≤ c) (hc2 : c < 2 ^ 53) : ∀ t i e y, FP.Core.val64 y = FP.Core.Datum.fin false c (-52 - (t : Nat)) → i + t ≤ 150 → ∃ y', FP.Core.val64 y' = FP.Core.Datum.fin false c (-52) ∧ xev 38 65 [some (xD (y0)), none, some (xI (n2)), none, some (xI (n4)), some (xD (y)), none, some (xI (nI (e + t))), some (xI (nI i)), none, none, none] [] w = xev 38 65 [some (xD (y0)), none, some (xI (n2)), none, some (xI (n4)), some (xD (y')), none, some (xI (nI e)), some (xI (nI (i + t))), none, none, none] [] w
  | 0, i, e, y, hy, hi => ⟨y, by rw [hy]; rfl, by rw [Nat.add_zero, Nat.add_zero]⟩
  | t + 1, i, e, y, hy, hi => by
    have g := cm_lt hy v64_1 hc2 (by omega)
    have d := ml_pow hy v64_2 hc hc2 (by omega) (by omega)
    rw [show -52 - ((t + 1 : Nat) : Int) + -51 + 52 = -52 - (t : Nat) by omega] at d
    obtain ⟨y', h1, h2⟩ := x_l2 hc hc2 t (i + 1) e _ d (by omega)
    refine ⟨y', h1, ?_⟩
    rw [e_X6_bits_65, b_X6_bits_65, if_pos (show nI i < 1100 from nI_lt (b := 1100) (by omega) (by decide)), if_pos (cv_lt g).2, xnD_ok (fin_nn d), nI_1, show e + (t + 1) = (e + t) + 1 by omega, pk_m1, h2, show i + 1 + t = i + (t + 1) by omega]
end LP
end FLE
