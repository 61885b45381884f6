/-! calls of the class: hang, same, length, readers, pens -/
section PB
variable {E : sE} {S : sS} {G : sG} {w w' : xW}
theorem inB_ex {c : Int32} {n : Nat} (h : inB c n) : ∃ j, j < n ∧ c = nI j ∧ c.toNatClampNeg = j := ⟨_, h.2, inB_nI h, rfl⟩
theorem or_nn {p q : Prop} (hp : p) (hq : q) : ¬ (¬ p ∨ ¬ q) := fun h => h.elim (fun k => k hp) (fun k => k hq)
theorem isH_t {a : Nat} {v : mC} (h : oT w a v) : isH w a := Or.inr (T_c h)
theorem isH_r {a : Nat} {x : sR} (h : oR w a x) : isH w a := Or.inl (R_n h)
theorem inB2 {x : Int32} : inB x 2 ↔ x = 0 ∨ x = 1 := by
  constructor
  · intro h
    have h2 := h.2
    have e := inB_nI h
    have : x.toNatClampNeg = 0 ∨ x.toNatClampNeg = 1 := by omega
    rcases this with q | q
    · left; rw [e, q]; rfl
    · right; rw [e, q]; rfl
  · rintro (rfl | rfl)
    · decide
    · decide
/-- a column gets what is held by a page of the class: the last step of many calls -/
theorem k_put {g c a : Nat} {h : sO} (hR : Rc E S G w) (hg : xgA w E.1 6 0 = some (some g)) (hc : c < 10) (ha : oH w a h) (hn : isH w a) : ∃ w', ((xobj w g 0).bind fun _ => (xev 2 0 [some (xA (some g)), some (xI (nI c)), some (xA (some a))] [] w).bind fun p => xrV p.1 (some (some (xI (0 : Int32)), p.2))) = some (some (xI 0), w') ∧ Rc E (uC S c h) G w' ∧ gr 0 w w' := by
  obtain ⟨w2, e2, k2, r2⟩ := Rc_uC hR hg hc ha hn
  obtain ⟨g', hg', hp'⟩ := Rc_g hR
  rw [hg] at hg'
  cases hg'
  refine ⟨w2, ?_, r2, kp_gr k2⟩
  simp only [P_o hp', Option.bind_some, e2, xrV_e]
theorem c_chang (hR : Rc E S G w) (hw : wf S) (c to how : Int32) : ∃ id w', xev 41 0 [some (xA (some (E.1))), some (xI (c)), some (xI (to)), some (xI (how)), none, none] [] w = some (some (xI (spHang S c to how id).1), w') ∧ Rc E (spHang S c to how id).2 G w' ∧ qR S id = none ∧ gr 3 w w' := by
  have hf : qR S w.1 = none := Rc_fresh hR (Nat.le_refl _)
  have hEw : E.1 ≠ w.1 := by have := Rc_n hR; omega
  refine ⟨w.1, ?_⟩
  rw [e_X7_hang_0, b_X7_hang_0]
  simp only [c_ccol, Option.bind_some, xrI_e, if10, spHang]
  by_cases hc : inB c 10
  · rw [if_neg (nn hc)]
    by_cases ht : inB to 10
    · rw [if_neg (nn ht), if_neg (or_nn hc ht)]
      obtain ⟨j, hj, rfl, hcl⟩ := inB_ex hc
      obtain ⟨d, hd, rfl, hdl⟩ := inB_ex ht
      simp only [hcl, hdl]
      obtain ⟨g, fs, a, g1, g2, g3, hh⟩ := k_at hR hw hj
      by_cases h0 : how = 0
      · subst h0
        rw [if_pos rfl, if_neg (nn (by decide)), if_pos rfl]
        simp only [g1, Option.bind_some, g2, g3, xrA_e, if_pos]
        have ha : oH w a (qC S j) ∧ isH w a := by
          rcases hh with ⟨v, hq, t, _⟩ | ⟨x, hq, hx, hr, _⟩
          · rw [hq]; exact ⟨t, isH_t t⟩
          · rw [hq]; exact ⟨rfl, isH_r hr⟩
        obtain ⟨w2, e2, r2, gr2⟩ := k_put hR g1 hd ha.1 ha.2
        rw [g2, Option.bind_some] at e2
        exact ⟨w2, e2, r2, hf, gr_up gr2 (by decide)⟩
      · rw [if_neg h0]
        by_cases h1 : how = 1
        · subst h1
          rw [if_pos rfl, if_neg (nn (by decide)), if_neg h0]
          simp only [g1, Option.bind_some, g2, g3, xrA_e]
          rw [if_neg h0, if_neg (by simp)]
          rcases hh with ⟨v, hq, t, hv⟩ | ⟨x, hq, hx, hr, hk⟩
          · simp only [T_c t, Option.bind_some, c_alen_t t hv, xrI_e, hq]
            rw [if_neg (by decide), if_pos trivial]
            exact ⟨w, rfl, hR, hf, gr_refl⟩
          · simp only [R_n hr, R_o hr, Option.bind_some, c_size hr, xrI_e, hq, hx]
            rw [if_pos trivial]
            obtain ⟨w1, e1, k1, z1, o1⟩ := c_part (f := 0) (m := x.2.1) (Rc_d hR) hr hk.2.1 hk.1 (by omega)
            rw [nI_0] at e1
            have o2 : oR w1 w.1 x := oR_congr o1 rfl rfl (fun i hi => by show x.2.2 i = x.2.2 (0 + i); rw [Nat.zero_add])
            have r1 := Rc_row hR k1 (Nat.le_refl _) o2 (Nat.le_refl _)
            have hg1 : xgA w1 E.1 6 0 = some (some g) := (Rc_gk hR k1 hEw).trans g1
            obtain ⟨w2, e2, k2, r2⟩ := Rc_uC (h := .inl w.1) r1 hg1 hd rfl (isH_r o2)
            have hx2 : qR (uC (uR S w.1 x) d (.inl w.1)) a = some x := by
              have := (Rc_R hR hx).2.2
              exact (va_n (qR S) (i := w.1) (j := a) (some x) (by omega)).trans hx
            have hr2 := (Rc_R r2 hx2).1
            obtain ⟨g', hg', hp'⟩ := Rc_g r1
            rw [hg1] at hg'
            cases hg'
            simp only [e1, Option.bind_some, xrA_e, P_o hp', e2, xrV_e, c_alen_r hr2, xrI_e]
            exact ⟨w2, rfl, r2, hf, gr_tr (kp_gr k1) (kp_gr k2) (Nat.le_refl _)⟩
        · rw [if_neg h1, if_pos (fun q => (inB2.mp q).elim h0 h1)]
          exact ⟨w, rfl, hR, hf, gr_refl⟩
    · rw [if_pos ht, if_pos (Or.inr ht)]
      exact ⟨w, rfl, hR, hf, gr_refl⟩
  · rw [if_pos hc, if_pos (Or.inl hc)]
    exact ⟨w, rfl, hR, hf, gr_refl⟩
theorem c_csame (hR : Rc E S G w) (hw : wf S) (c d : Int32) : xev 42 0 [some (xA (some (E.1))), some (xI (c)), some (xI (d)), none] [] w = some (some (xI (spSame S c d)), w) := by
  rw [e_X7_same_0, b_X7_same_0]
  simp only [c_ccol, Option.bind_some, xrI_e, if10, spSame]
  by_cases hc : inB c 10
  · rw [if_neg (nn hc)]
    by_cases ht : inB d 10
    · rw [if_neg (nn ht), if_neg (or_nn hc ht)]
      obtain ⟨j, hj, rfl, hcl⟩ := inB_ex hc
      obtain ⟨i, hi, rfl, hdl⟩ := inB_ex ht
      simp only [hcl, hdl]
      obtain ⟨g, fs, a, g1, g2, g3, hh⟩ := k_at hR hw hj
      obtain ⟨g', fs', b, g1', g2', g3', hh'⟩ := k_at hR hw hi
      rw [g1] at g1'
      cases g1'
      simp only [g1, Option.bind_some, g2, g3, g3', xrA_e]
      rw [if_neg (by simp)]
      rcases hh with ⟨v, hq, t, hv⟩ | ⟨x, hq, hx, hr, hk⟩
      · simp only [T_c t, Option.bind_some, hq]
        rw [if_neg (by decide), if_pos trivial]
      · simp only [R_n hr, Option.bind_some, hq]
        rw [if_pos trivial]
        rcases hh' with ⟨v', hq', t', hv'⟩ | ⟨x', hq', hx', hr', hk'⟩
        · rw [hq', if_neg (show ¬ (Sum.inr v' : sO) = Sum.inl a from fun q => by cases q), if_neg]
          intro q
          cases q
          have e1 := R_n hr
          rw [T_c t'] at e1
          exact absurd (Option.some.inj e1) (by decide)
        · rw [hq']
          by_cases hab : a = b
          · rw [if_pos (by rw [hab]), if_pos (by rw [hab])]
          · rw [if_neg (fun q => hab (by cases q; rfl)), if_neg (fun q => hab (by cases q; rfl))]
    · rw [if_pos ht, if_pos (Or.inr ht)]
  · rw [if_pos hc, if_pos (Or.inl hc)]
theorem c_clength (hR : Rc E S G w) (hw : wf S) (c : Int32) : ∃ w', xev 43 0 [some (xA (some (E.1))), some (xI (c)), none, none, none] [] w = some (some (xI (spLen S c).1), w') ∧ Rc E (spLen S c).2 G w' ∧ gr 0 w w' := by
  rw [e_X7_length_0, b_X7_length_0]
  simp only [c_ccol, Option.bind_some, xrI_e, if10, spLen]
  by_cases hc : inB c 10
  · rw [if_neg (nn hc), if_neg (nn hc)]
    obtain ⟨j, hj, rfl, hcl⟩ := inB_ex hc
    simp only [hcl]
    obtain ⟨g, fs, a, g1, g2, g3, hh⟩ := k_at hR hw hj
    obtain ⟨t1, t2, t3, t4⟩ := Rc_tal hR
    simp only [g1, Option.bind_some, g2, g3, xrA_e, t1, t2]
    rcases hh with ⟨v, hq, t, hv⟩ | ⟨x, hq, hx, hr, hk⟩
    · obtain ⟨w1, e1, k1, r1⟩ := Rc_uT hR (a := 18) (b := if v.1 = 11 then 1 else 2) (by decide) (by split <;> decide)
      have e1' : xev 28 0 [some (xA (some (E.1 + 20))), some (xI (18)), some (xI (nI (if v.1 = 11 then 1 else 2)))] [] w = some (some (xI (nI (if v.1 = 11 then 1 else 2))), w1) := e1
      simp only [c_alen_t t hv, Option.bind_some, xrI_e, t2, e1', T_c (kp_T k1 t), hq]
      rw [if_neg (by simp), if_neg (by decide), if_pos trivial]
      exact ⟨w1, rfl, r1, kp_gr k1⟩
    · obtain ⟨w1, e1, k1, r1⟩ := Rc_uT hR (a := 18) (b := 0) (by decide) (by decide)
      have e1' : xev 28 0 [some (xA (some (E.1 + 20))), some (xI (18)), some (xI (0))] [] w = some (some (xI 0), w1) := e1
      have hr1 := (Rc_R r1 (show qR (uT S _) a = some x from hx)).1
      simp only [c_alen_r hr, Option.bind_some, xrI_e, t2, e1', R_n hr1, R_o hr1, c_size hr1, hq, hx]
      rw [if_neg (by simp), if_pos trivial]
      exact ⟨w1, rfl, r1, kp_gr k1⟩
  · rw [if_pos hc, if_pos hc]
    exact ⟨w, rfl, hR, gr_refl⟩
theorem c_cRead (hR : Rc E S G w) (hw : wf S) (c cell k : Int32) : ∃ w', xev 44 0 [some (xA (some (E.1))), some (xI (c)), some (xI (cell)), some (xI (k))] [] w = some (some (xI (spRead S c cell k).1), w') ∧ Rc E (spRead S c cell k).2 G w' ∧ gr 1 w w' := by
  obtain ⟨fo, ho⟩ := Rc_o hR
  rw [e_X7_read_0, b_X7_read_0]
  simp only [c_ccol, c_cnum, Option.bind_some, xrI_e, if10, spRead, ho]
  by_cases hc : inB c 10
  · rw [if_neg (nn hc), if_neg (nn hc)]
    by_cases hk : inB k 8
    · rw [if_neg (nn hk), if_neg (nn hk)]
      obtain ⟨j, hj, rfl, hcl⟩ := inB_ex hc
      obtain ⟨i, hi, rfl, hdl⟩ := inB_ex hk
      simp only [hcl, hdl]
      obtain ⟨w', e, r, g⟩ := c_cread (cell := cell) hR hw hj hi
      simp only [e, Option.bind_some, xrI_e]
      exact ⟨w', rfl, r, g⟩
    · rw [if_pos hk, if_pos hk]
      exact ⟨w, rfl, hR, gr_refl⟩
  · rw [if_pos hc, if_pos hc]
    exact ⟨w, rfl, hR, gr_refl⟩
theorem c_cWrite (hR : Rc E S G w) (hw : wf S) (c cell k : Int32) (v : Int64) : ∃ w', xev 46 0 [some (xA (some (E.1))), some (xI (c)), some (xI (cell)), some (xI (k)), some (xJ (v)), none] [] w = some (some (xI (spWrite S c cell k v).1), w') ∧ Rc E (spWrite S c cell k v).2 G w' ∧ gr 2 w w' := by
  rw [e_X7_write_0, b_X7_write_0]
  simp only [c_ccol, c_cnum, Option.bind_some, xrI_e, if10, spWrite]
  by_cases hc : inB c 10
  · rw [if_neg (nn hc), if_neg (nn hc)]
    by_cases hk : inB k 8
    · rw [if_neg (nn hk), if_neg (nn hk)]
      obtain ⟨j, hj, rfl, hcl⟩ := inB_ex hc
      obtain ⟨i, hi, rfl, hdl⟩ := inB_ex hk
      simp only [hcl, hdl]
      have k1 := nT_k (Rc_d hR) (mkN i v)
      have r1 := Rc_new hR k1 (Nat.le_refl _)
      obtain ⟨fo, ho⟩ := Rc_o r1
      obtain ⟨w', e, r, g⟩ := c_cwrite (cell := cell) r1 hw hj hi (nT_T w (mkN i v)) rfl
      simp only [c_number w hi v, Option.bind_some, xrA_e, ho, e, xrI_e]
      exact ⟨w', rfl, r, gr_tr (kp_gr k1) g (Nat.le_refl _)⟩
    · rw [if_pos hk, if_pos hk]
      exact ⟨w, rfl, hR, gr_refl⟩
  · rw [if_pos hc, if_pos hc]
    exact ⟨w, rfl, hR, gr_refl⟩
theorem c_cTake (hR : Rc E S G w) (hw : wf S) (c cell : Int32) : ∃ w', xev 47 0 [some (xA (some (E.1))), some (xI (c)), some (xI (cell))] [] w = some (some (xI (spTake S c cell).1), w') ∧ Rc E (spTake S c cell).2 G w' ∧ gr 1 w w' := by
  obtain ⟨fo, ho⟩ := Rc_o hR
  rw [e_X7_take_0, b_X7_take_0]
  simp only [c_ccol, Option.bind_some, xrI_e, if10, spTake, ho]
  by_cases hc : inB c 10
  · rw [if_neg (nn hc), if_neg (nn hc)]
    obtain ⟨j, hj, rfl, hcl⟩ := inB_ex hc
    simp only [hcl]
    obtain ⟨w', e, r, g⟩ := c_ctake (cell := cell) hR hw hj
    simp only [e, Option.bind_some, xrI_e]
    exact ⟨w', rfl, r, g⟩
  · rw [if_pos hc, if_pos hc]
    exact ⟨w, rfl, hR, gr_refl⟩
theorem c_cLay (hR : Rc E S G w) (hw : wf S) (c cell : Int32) : ∃ w', xev 48 0 [some (xA (some (E.1))), some (xI (c)), some (xI (cell))] [] w = some (some (xI (spLay S c cell).1), w') ∧ Rc E (spLay S c cell).2 G w' ∧ gr 1 w w' := by
  obtain ⟨fo, ho⟩ := Rc_o hR
  rw [e_X7_lay_0, b_X7_lay_0]
  simp only [c_ccol, Option.bind_some, xrI_e, if10, spLay, ho]
  by_cases hc : inB c 10
  · rw [if_neg (nn hc), if_neg (nn hc)]
    obtain ⟨j, hj, rfl, hcl⟩ := inB_ex hc
    simp only [hcl]
    obtain ⟨w', e, r, g⟩ := c_clay (cell := cell) hR hw hj
    simp only [e, Option.bind_some, xrI_e]
    exact ⟨w', rfl, r, g⟩
  · rw [if_pos hc, if_pos hc]
    exact ⟨w, rfl, hR, gr_refl⟩
end PB
