/-! the law, over the pure machine -/
theorem law_pure {b L : Nat} {xs : Nat → Int32} {w : xW} (hL : L ≤ 3072) (hb : w.2.2.2 b = some (.inl (7, L, .inl xs))) (hh : w.2.2.2 w.2.2.1 = some (.inl (7, 12, .inl xhom))) (hf : ∀ a e, w.2.2.2 a = some e → a < w.1) : ∃ wE : xW, xev 148 0 [some (xA (some b)), none, none, none] [] w = some (some (xI 1), wE) ∧ wE.1 ≤ w.1 + 40000 ∧ wE.2.1 ≤ w.2.1 + 800000 := by
  have hd : wd w := hf
  have hR := Rc_00 hd hh hb
  obtain ⟨wE, eE, g1, g2, g3⟩ := law_l hL 513 0 (t00 f10) S00 G00 _ (by omega) (by decide) hR Rm_00 wf_00
  rw [nI_0] at eE
  have z1 : (bW (bW w (bkL w.1) 372) (mdL (w.1 + 22) f10) 3130).1 = w.1 + 22 + 22 := rfl
  have z2 : (bW (bW w (bkL w.1) 372) (mdL (w.1 + 22) f10) 3130).2.1 = w.2.1 + 372 + 3130 := rfl
  rw [z1] at g2
  rw [z2] at g3
  refine ⟨wE, ?_, by omega, by omega⟩
  rw [e_L_law_0, b_L_law_0]
  refine bnd (b_Book hd) ?_
  show xrV none _ = _
  rw [xrV_e]
  refine bnd (b_Model (bW_wd hd)) ?_
  show xrV none _ = _
  rw [xrV_e]
  exact eE
