/-! calls of the class: turn, cut, paste -/
section PD
variable {E : sE} {S : sS} {G : sG} {w w' : xW}
theorem pv_id {N i : Nat} {x : sR} (hk : rok N x) (hi : i < x.2.1) : pv x.1 (x.2.2 i) = x.2.2 i := by
  unfold pv
  by_cases h7 : 7 < x.1
  · rw [if_pos h7]
  · rw [if_neg h7]
    unfold wid
    rw [if_pos ((hk.2.2 i hi).2.2 (by omega)).symm]
theorem c_show {i : Nat} (hR : Rc E S G w) (hi : i < 2 ^ 31) : ∃ w', xev 84 0 [some (xA (some (E.1))), some (xI (nI i))] [] w = some (none, w') ∧ Rc E (uS S (4, lN i, 0)) G w' ∧ gr 1 w w' := by
  have kk := nT_k (Rc_d hR) (4, lN i, 0)
  obtain ⟨w1, e1, k1, r1⟩ := Rc_uS (Rc_new hR kk (Nat.le_refl _)) (nT_T w (4, lN i, 0))
  rw [e_X7_showIndex_0, b_X7_showIndex_0]
  simp only [nI_l hi, c_Thing, Option.bind_some, xrV_e, e1]
  exact ⟨w1, rfl, r1, gr_tr (kp_gr kk) (kp_gr k1) (Nat.le_refl _)⟩
theorem c_cturn (hR : Rc E S G w) (hw : wf S) (c k : Int32) : ∃ id w', xev 54 0 [some (xA (some (E.1))), some (xI (c)), some (xI (k)), none, none, none, none] [] w = some (some (xI (spTurn S c k id).1), w') ∧ Rc E (spTurn S c k id).2 G w' ∧ qR S id = none ∧ gr 30 w w' := by
  have hf : qR S w.1 = none := Rc_fresh hR (Nat.le_refl _)
  have hEw : E.1 ≠ w.1 := by have := Rc_n hR; omega
  obtain ⟨fo, ho⟩ := Rc_o hR
  refine ⟨w.1, ?_⟩
  rw [e_X7_turn_0, b_X7_turn_0]
  simp only [c_ccol, Option.bind_some, xrI_e, if10, spTurn]
  by_cases hc : inB c 10
  · rw [if_neg (nn hc), if_neg (nn hc)]
    by_cases h0 : k < 0
    · rw [if_pos h0, if_pos (fun q => q.1 h0)]
      exact ⟨w, rfl, hR, hf, gr_refl⟩
    · rw [if_neg h0]
      have l12 := le_inB (c := k) (n := 12) (by decide) h0
      by_cases h13 : inB k 13
      · rw [if_neg (show ¬ (12 : Int32) < k from fun q => l12.mp q h13), if_neg (nn h13)]
        obtain ⟨j, hj, rfl, hcl⟩ := inB_ex hc
        obtain ⟨ty, ht, rfl, hdl⟩ := inB_ex h13
        simp only [hcl, hdl]
        obtain ⟨g, fs, a, g1, g2, g3, hh⟩ := k_at hR hw hj
        simp only [g1, Option.bind_some, g2, g3, xrA_e]
        rw [if_neg (by simp)]
        rcases hh with ⟨v, hq, t, hv⟩ | ⟨x, hq, hx, hr, hk⟩
        · simp only [T_c t, Option.bind_some, c_alen_t t hv, xrI_e, hq]
          rw [if_neg (by decide), if_pos trivial]
          exact ⟨w, rfl, hR, hf, gr_refl⟩
        · have h24 := hk.2.1
          have hle := ufit_le x ty
          have hal := (Rc_R hR hx).2.2
          simp only [R_n hr, R_o hr, Option.bind_some, c_size hr, xrI_e, hq, hx, c_funfit hr hk (Rc_h hR) ht, ho]
          rw [if_pos trivial]
          by_cases hu : ufit x ty < x.2.1
          · rw [if_pos (nI_lt hu (by omega)), if_pos hu]
            obtain ⟨w1, e1, r1, g1⟩ := c_show (i := ufit x ty) hR (by omega)
            simp only [e1, Option.bind_some, xrV_e]
            exact ⟨w1, rfl, r1, hf, gr_up g1 (by decide)⟩
          · rw [if_neg (nI_nlt (by omega) (by omega)), if_neg hu]
            have hrp : oR (xpush w 3 (.inr (3, xdf 3))) a x := kp_R (kp_push (Rc_d hR) (by decide)) (show a + 2 ≠ w.1 by omega) hr
            obtain ⟨w1, e1, k1, z1, o1⟩ := c_newRow (ty := ty) (n := x.2.1) (Rc_d hR) ht h24
            have hr1 : oR w1 a x := kp_R k1 (show a + 2 ≠ w.1 by omega) hr
            obtain ⟨w2, e2, k2, o2⟩ := c_rcopy (f := 0) (p := 0) (m := x.2.1) k1.2.1 o1 hr1 h24 ht h24 (show a ≠ w.1 by omega) (by omega) (show 0 + x.2.1 ≤ x.2.1 by omega)
            rw [nI_0] at e2
            have kk : kp w.1 27 w w2 := kp_tr k1 k2 (Or.inr (by omega)) (by omega)
            have o3 : oR w2 w.1 (rTurn x ty) := oR_congr o2 rfl rfl (fun i hi => by
              have hi' : i < x.2.1 := hi
              show pv ty (x.2.2 i) = if 0 ≤ i ∧ i < 0 + x.2.1 then pv ty (x.2.2 (0 + (i - 0))) else _
              rw [if_pos (by omega), Nat.zero_add, Nat.sub_zero])
            have r2 := Rc_row hR kk (Nat.le_refl _) o3 (Nat.le_refl _)
            have hg2 : xgA w2 E.1 6 0 = some (some g) := (Rc_gk hR kk hEw).trans g1
            obtain ⟨w3, e3, r3, gr3⟩ := k_put (h := .inl w.1) r2 hg2 hj rfl (isH_r o3)
            simp only [R_o hrp, Option.bind_some, c_size hrp, xrI_e, e1, xrV_e, R_o hr1, c_size hr1, R_o o1, e2, hg2]
            exact ⟨w3, e3, r3, hf, gr_tr (kp_gr kk) gr3 (by decide)⟩
      · rw [if_pos (show (12 : Int32) < k from l12.mpr h13), if_pos h13]
        exact ⟨w, rfl, hR, hf, gr_refl⟩
  · rw [if_pos hc, if_pos hc]
    exact ⟨w, rfl, hR, hf, gr_refl⟩
theorem c_ccut (hR : Rc E S G w) (hw : wf S) (c a m : Int32) : ∃ id id2 w', xev 52 0 [some (xA (some (E.1))), some (xI (c)), some (xI (a)), some (xI (m)), none, none, none] [] w = some (some (xI (spCut S c a m id id2).1), w') ∧ Rc E (spCut S c a m id id2).2 G w' ∧ (qR S id = none ∧ qR S id2 = none ∧ id ≠ id2) ∧ gr 60 w w' := by
  have hf : qR S w.1 = none ∧ qR S (w.1 + 1) = none ∧ w.1 ≠ w.1 + 1 := ⟨Rc_fresh hR (Nat.le_refl _), Rc_fresh hR (by omega), by omega⟩
  have hEw : E.1 ≠ w.1 := by have := Rc_n hR; omega
  rw [e_X7_cut_0, b_X7_cut_0]
  simp only [c_ccol, Option.bind_some, xrI_e, if10, spCut]
  by_cases hc : inB c 10
  · simp only [if_neg (show ¬ ¬ inB c 10 from fun q => q hc)]
    obtain ⟨j, hj, rfl, hcl⟩ := inB_ex hc
    simp only [hcl]
    obtain ⟨g, fs, b, g1, g2, g3, hh⟩ := k_at hR hw hj
    simp only [g1, Option.bind_some, g2, g3, xrA_e]
    rw [if_neg (by simp)]
    rcases hh with ⟨v, hq, t, hv⟩ | ⟨x, hq, hx, hr, hk⟩
    · simp only [T_c t, Option.bind_some, c_alen_t t hv, xrI_e, hq]
      rw [if_neg (by decide), if_pos trivial]
      exact ⟨w.1, w.1 + 1, w, rfl, hR, hf, gr_refl⟩
    · have h24 := hk.2.1
      have h13 := hk.1
      have hal := (Rc_R hR hx).2.2
      simp only [R_n hr, R_o hr, Option.bind_some, c_size hr, xrI_e, hq, hx]
      rw [if_pos trivial]
      by_cases ha : a < 0
      · simp only [if_pos ha, if_pos (Or.inl ha)]
        exact ⟨w.1, w.1 + 1, w, rfl, hR, hf, gr_refl⟩
      · rw [if_neg ha]
        by_cases hm : m < 1
        · simp only [if_pos hm, if_pos (Or.inr (Or.inl hm))]
          exact ⟨w.1, w.1 + 1, w, rfl, hR, hf, gr_refl⟩
        · rw [if_neg hm]
          by_cases hs : nI x.2.1 - a < m
          · simp only [if_pos hs, if_pos (Or.inr (Or.inr hs))]
            exact ⟨w.1, w.1 + 1, w, rfl, hR, hf, gr_refl⟩
          · simp only [if_neg hs, if_neg (show ¬ (a < 0 ∨ m < 1 ∨ nI x.2.1 - a < m) from fun q => q.elim ha (fun q => q.elim hm hs))]
            obtain ⟨i1, i2, i3, i4⟩ := nI_sub_lt h24 ha hm hs
            obtain ⟨p, hp, rfl, hpl⟩ := inB_ex i1
            obtain ⟨n, hn, rfl, hnl⟩ := inB_ex i2
            rw [hpl, hnl] at i3
            rw [hnl] at i4
            simp only [hpl, hnl]
            have hrp : oR (xpush w 3 (.inr (3, xdf 3))) b x := kp_R (kp_push (Rc_d hR) (by decide)) (show b + 2 ≠ w.1 by omega) hr
            obtain ⟨w1, e1, k1, z1, o1⟩ := c_newRow (ty := x.1) (n := x.2.1 - n) (Rc_d hR) h13 (by omega)
            have hr1 : oR w1 b x := kp_R k1 (show b + 2 ≠ w.1 by omega) hr
            obtain ⟨w2, e2, k2, o2⟩ := c_rcopy (f := 0) (p := 0) (m := p) k1.2.1 o1 hr1 (show x.2.1 - n ≤ 24 by omega) h13 h24 (show b ≠ w.1 by omega) (by omega) (show 0 + p ≤ x.2.1 - n by omega)
            rw [nI_0] at e2
            have hr2 : oR w2 b x := kp_R k2 (show b + 2 ≠ w.1 + 2 by omega) hr1
            obtain ⟨w3, e3, k3, o3⟩ := c_rcopy (f := p + n) (p := p) (m := x.2.1 - n - p) k2.2.1 o2 hr2 (show x.2.1 - n ≤ 24 by omega) h13 h24 (show b ≠ w.1 by omega) (by omega) (show p + (x.2.1 - n - p) ≤ x.2.1 - n by omega)
            have hr3 : oR w3 b x := kp_R k3 (show b + 2 ≠ w.1 + 2 by omega) hr2
            have kk : kp w.1 30 w w3 := kp_tr (kp_tr k1 k2 (Or.inr (by omega)) (Nat.le_refl _)) k3 (Or.inr (by omega)) (by omega)
            have o4 : oR w3 w.1 (rCut x p n) := oR_congr o3 rfl rfl (fun i hi => by
              have hi' : i < x.2.1 - n := hi
              show (if i < p then x.2.2 i else x.2.2 (i + n)) = if p ≤ i ∧ i < p + (x.2.1 - n - p) then pv x.1 (x.2.2 (p + n + (i - p))) else if 0 ≤ i ∧ i < 0 + p then pv x.1 (x.2.2 (0 + (i - 0))) else _
              by_cases hip : i < p
              · rw [if_pos hip, if_neg (by omega), if_pos (by omega), Nat.zero_add, Nat.sub_zero, pv_id hk (by omega)]
              · rw [if_neg hip, if_pos (by omega), pv_id hk (by omega), show p + n + (i - p) = i + n by omega])
            have r3 := Rc_row hR kk (Nat.le_refl _) o4 (Nat.le_refl _)
            have h13w : w.1 + 3 ≤ w3.1 := by have := k2.2.2.1; have := k3.2.2.1; omega
            obtain ⟨w4, e4, k4, z4, o5⟩ := c_part (f := p) (m := n) (Rc_d r3) hr3 h24 h13 (by omega)
            have r4 := Rc_row r3 k4 (Nat.le_refl _) o5 (Nat.le_refl _)
            obtain ⟨w5, e5, k5, r5⟩ := Rc_uK (a := w3.1) r4
            have hE3 : E.1 ≠ w3.1 := by have := Rc_n r3; omega
            have hg5 : xgA w5 E.1 6 0 = some (some g) := (xgA_put e5 (by decide)).trans ((Rc_gk r3 k4 hE3).trans ((Rc_gk hR kk hEw).trans g1))
            have q5 : qR (uK (uR (uR S w.1 (rCut x p n)) w3.1 (rPart x p n)) w3.1) w.1 = some (rCut x p n) := (va_n (va_up (qR S) w.1 (some (rCut x p n))) (i := w3.1) (j := w.1) _ (by omega)).trans (va_e _ _ _)
            obtain ⟨w6, e6, r6, g6⟩ := k_put (h := .inl w.1) r5 hg5 hj rfl (isH_r (Rc_R r5 q5).1)
            refine ⟨w.1, w3.1, w6, ?_, r6, ⟨hf.1, Rc_fresh hR (by omega), by omega⟩, gr_tr (gr_tr (gr_tr (kp_gr kk) (kp_gr k4) (Nat.le_refl _)) (kp_gr k5) (Nat.le_refl _)) g6 (by decide)⟩
            have s1 : nI x.2.1 - nI n = nI (x.2.1 - n) := nI_sub (by omega)
            have s2 : nI (x.2.1 - n) - nI p = nI (x.2.1 - n - p) := nI_sub (by omega)
            simp only [R_ty hrp, R_o hrp, Option.bind_some, c_size hrp, xrI_e, s1, e1, xrV_e, R_o o1, e2, R_o hr2, c_size hr2, s2, R_o o2, nI_add, e3, R_o hr3, e4, xrA_e, e5, hg5]
            exact e6
  · simp only [if_pos hc]
    exact ⟨w.1, w.1 + 1, w, rfl, hR, hf, gr_refl⟩
theorem c_cpaste (hR : Rc E S G w) (hw : wf S) (c p : Int32) : ∃ id w', xev 53 0 [some (xA (some (E.1))), some (xI (c)), some (xI (p)), none, none, none, none] [] w = some (some (xI (spPaste S c p id).1), w') ∧ Rc E (spPaste S c p id).2 G w' ∧ qR S id = none ∧ gr 60 w w' := by
  have hf : qR S w.1 = none := Rc_fresh hR (Nat.le_refl _)
  have hEw : E.1 ≠ w.1 := by have := Rc_n hR; omega
  obtain ⟨fo, ho⟩ := Rc_o hR
  obtain ⟨sh, he, s1, s2, s3, s4, s5⟩ := Rc_sh hR
  refine ⟨w.1, ?_⟩
  rw [e_X7_paste_0, b_X7_paste_0]
  simp only [c_ccol, Option.bind_some, xrI_e, if10, spPaste, s5]
  by_cases hc : inB c 10
  · rw [if_neg (nn hc), if_neg (nn hc)]
    cases hK : qK S with
    | none =>
      rw [if_pos rfl]
      exact ⟨w, rfl, hR, hf, gr_refl⟩
    | some s =>
      rw [hK] at s5
      obtain ⟨⟨y, hy, hky⟩, _⟩ := hw.2.2.2.1 s hK
      obtain ⟨hry, _, hsl⟩ := Rc_R hR hy
      rw [if_neg (by simp)]
      obtain ⟨j, hj, rfl, hcl⟩ := inB_ex hc
      simp only [hcl]
      obtain ⟨g, fs, a, g1, g2, g3, hh⟩ := k_at hR hw hj
      simp only [g1, Option.bind_some, g2, g3, xrA_e]
      rw [if_neg (by simp)]
      rcases hh with ⟨v, hq, t, hv⟩ | ⟨x, hq, hx, hr, hk⟩
      · simp only [T_c t, Option.bind_some, c_alen_t t hv, xrI_e, hq]
        rw [if_neg (by decide), if_pos trivial]
        exact ⟨w, rfl, hR, hf, gr_refl⟩
      · have h24 := hk.2.1
        have y24 := hky.2.1
        have h13 := hk.1
        have hal := (Rc_R hR hx).2.2
        have hle := ufit_le y x.1
        simp only [R_n hr, R_o hr, Option.bind_some, c_size hr, xrI_e, hq, hx, hy, s5, R_o hry, c_size hry, R_ty hr, c_funfit hry hky (Rc_h hR) h13, ho, nI_add]
        rw [if_pos trivial]
        have l24 : (24 : Int32) < nI (x.2.1 + y.2.1) ↔ 24 < x.2.1 + y.2.1 := nI_ltI (a := 24) (by decide) (by omega)
        by_cases hfu : 24 < x.2.1 + y.2.1
        · rw [if_pos (l24.mpr hfu), if_pos hfu]
          exact ⟨w, rfl, hR, hf, gr_refl⟩
        · rw [if_neg (fun q => hfu (l24.mp q)), if_neg hfu]
          by_cases h0 : p < 0
          · rw [if_pos h0, if_pos (fun q => q.1 h0)]
            exact ⟨w, rfl, hR, hf, gr_refl⟩
          · rw [if_neg h0]
            have lp := le_inB (c := p) (n := x.2.1) (by omega) h0
            by_cases hp : inB p (x.2.1 + 1)
            · rw [if_neg (fun q => lp.mp q hp), if_neg (nn hp)]
              obtain ⟨i, hi, rfl, hil⟩ := inB_ex hp
              simp only [hil]
              by_cases hu : ufit y x.1 < y.2.1
              · rw [if_pos (nI_lt hu (by omega)), if_pos hu]
                obtain ⟨w1, e1, r1, g1⟩ := c_show (i := ufit y x.1) hR (by omega)
                simp only [e1, Option.bind_some, xrV_e]
                exact ⟨w1, rfl, r1, hf, gr_up g1 (by decide)⟩
              · rw [if_neg (nI_nlt (by omega) (by omega)), if_neg hu]
                have kp0 : kp w.1 1 w (xpush w 3 (.inr (3, xdf 3))) := kp_push (Rc_d hR) (by decide)
                have hrp : oR (xpush w 3 (.inr (3, xdf 3))) a x := kp_R kp0 (show a + 2 ≠ w.1 by omega) hr
                have hryp : oR (xpush w 3 (.inr (3, xdf 3))) s y := kp_R kp0 (show s + 2 ≠ w.1 by omega) hry
                have s5p : xgA (xpush w 3 (.inr (3, xdf 3))) E.1 6 4 = some (some s) := (Rc_gk hR kp0 hEw).trans s5
                obtain ⟨w1, e1, k1, z1, o1⟩ := c_newRow (ty := x.1) (n := x.2.1 + y.2.1) (Rc_d hR) h13 (by omega)
                have hr1 : oR w1 a x := kp_R k1 (show a + 2 ≠ w.1 by omega) hr
                have hry1 : oR w1 s y := kp_R k1 (show s + 2 ≠ w.1 by omega) hry
                obtain ⟨w2, e2, k2, o2⟩ := c_rcopy (f := 0) (p := 0) (m := i) k1.2.1 o1 hr1 (show x.2.1 + y.2.1 ≤ 24 by omega) h13 h24 (show a ≠ w.1 by omega) (by omega) (show 0 + i ≤ x.2.1 + y.2.1 by omega)
                rw [nI_0] at e2
                have hr2 : oR w2 a x := kp_R k2 (show a + 2 ≠ w.1 + 2 by omega) hr1
                have hry2 : oR w2 s y := kp_R k2 (show s + 2 ≠ w.1 + 2 by omega) hry1
                have kk2 : kp w.1 30 w w2 := kp_tr k1 k2 (Or.inr (by omega)) (by omega)
                have s52 : xgA w2 E.1 6 4 = some (some s) := (Rc_gk hR kk2 hEw).trans s5
                obtain ⟨w3, e3, k3, o3⟩ := c_rcopy (f := 0) (p := i) (m := y.2.1) k2.2.1 o2 hry2 (show x.2.1 + y.2.1 ≤ 24 by omega) h13 y24 (show s ≠ w.1 by omega) (by omega) (show i + y.2.1 ≤ x.2.1 + y.2.1 by omega)
                rw [nI_0] at e3
                have hr3 : oR w3 a x := kp_R k3 (show a + 2 ≠ w.1 + 2 by omega) hr2
                have hry3 : oR w3 s y := kp_R k3 (show s + 2 ≠ w.1 + 2 by omega) hry2
                have kk3 : kp w.1 60 w w3 := kp_tr kk2 k3 (Or.inr (by omega)) (by omega)
                have s53 : xgA w3 E.1 6 4 = some (some s) := (Rc_gk hR kk3 hEw).trans s5
                obtain ⟨w4, e4, k4, o4⟩ := c_rcopy (f := i) (p := i + y.2.1) (m := x.2.1 - i) k3.2.1 o3 hr3 (show x.2.1 + y.2.1 ≤ 24 by omega) h13 h24 (show a ≠ w.1 by omega) (by omega) (show i + y.2.1 + (x.2.1 - i) ≤ x.2.1 + y.2.1 by omega)
                have kk : kp w.1 60 w w4 := kp_tr (kp_tr (kp_tr k1 k2 (Or.inr (by omega)) (Nat.le_refl _)) k3 (Or.inr (by omega)) (Nat.le_refl _)) k4 (Or.inr (by omega)) (by omega)
                have o5 : oR w4 w.1 (rPaste x y i) := oR_congr o4 rfl rfl (fun q hq => by
                  have hq' : q < x.2.1 + y.2.1 := hq
                  show (if q < i then x.2.2 q else if q < i + y.2.1 then pv x.1 (y.2.2 (q - i)) else x.2.2 (q - y.2.1)) = if i + y.2.1 ≤ q ∧ q < i + y.2.1 + (x.2.1 - i) then pv x.1 (x.2.2 (i + (q - (i + y.2.1)))) else if i ≤ q ∧ q < i + y.2.1 then pv x.1 (y.2.2 (0 + (q - i))) else if 0 ≤ q ∧ q < 0 + i then pv x.1 (x.2.2 (0 + (q - 0))) else _
                  by_cases h1 : q < i
                  · rw [if_pos h1, if_neg (by omega), if_neg (by omega), if_pos (by omega), Nat.zero_add, Nat.sub_zero, pv_id hk (by omega)]
                  · rw [if_neg h1]
                    by_cases h2 : q < i + y.2.1
                    · rw [if_pos h2, if_neg (by omega), if_pos (by omega), Nat.zero_add]
                    · rw [if_neg h2, if_pos (by omega), pv_id hk (by omega), show i + (q - (i + y.2.1)) = q - y.2.1 by omega])
                have r4 := Rc_row hR kk (Nat.le_refl _) o5 (Nat.le_refl _)
                have hg4 : xgA w4 E.1 6 0 = some (some g) := (Rc_gk hR kk hEw).trans g1
                obtain ⟨w5, e5, r5, g5⟩ := k_put (h := .inl w.1) r4 hg4 hj rfl (isH_r o5)
                have sb : nI x.2.1 - nI i = nI (x.2.1 - i) := nI_sub (by omega)
                simp only [R_ty hrp, R_o hrp, Option.bind_some, c_size hrp, xrI_e, s5p, R_o hryp, c_size hryp, nI_add, e1, xrV_e, R_o o1, e2, s52, R_o hry2, c_size hry2, R_o o2, e3, s53, R_o hry3, c_size hry3, R_o hr3, c_size hr3, R_o o3, sb, e4, hg4]
                exact ⟨w5, e5, r5, hf, gr_tr (kp_gr kk) g5 (by decide)⟩
            · rw [if_pos (lp.mpr hp), if_pos hp]
              exact ⟨w, rfl, hR, hf, gr_refl⟩
  · rw [if_pos hc, if_pos hc]
    exact ⟨w, rfl, hR, hf, gr_refl⟩
end PD
