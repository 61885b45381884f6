/-! single accesses of the class -/
def gr (n : Nat) (w w' : xW) : Prop := w.1 ≤ w'.1 ∧ w'.1 ≤ w.1 + n ∧ w'.2.1 ≤ w.2.1 + 24 * n
theorem kp_gr {A : Nat → Prop} {n : Nat} {w w' : xW} (k : kpc A n w w') : gr n w w' := ⟨k.2.2.1, k.2.2.2.1, k.2.2.2.2.1⟩
theorem gr_tr {n m k : Nat} {w w1 w2 : xW} (h : gr n w w1) (g : gr m w1 w2) (hk : n + m ≤ k) : gr k w w2 := by
  obtain ⟨h1, h2, h3⟩ := h
  obtain ⟨g1, g2, g3⟩ := g
  exact ⟨by omega, by omega, by omega⟩
theorem gr_refl {n : Nat} {w : xW} : gr n w w := ⟨Nat.le_refl _, by omega, by omega⟩
theorem gr_eq {n : Nat} {w w' : xW} (h1 : w'.1 = w.1) (h2 : w'.2.1 ≤ w.2.1) : gr n w w' := ⟨by omega, by omega, by omega⟩
theorem gr_up {n m : Nat} {w w' : xW} (h : gr n w w') (hm : n ≤ m) : gr m w w' := ⟨h.1, by have := h.2.1; omega, by have := h.2.2; omega⟩
def thO (N : Nat) (v : mC) : Prop := v = (11, 0, 0) ∨ (∃ j, j < 100 ∧ v = (10, lN j, 0)) ∨ (∃ j, 0 < j ∧ j ≤ N ∧ v = (8, lN j, 0))
section AC
variable {E : sE} {S : sS} {G : sG} {w w' : xW} {a c k n : Nat} {cell : Int32} {v : mC}
theorem k_at (hR : Rc E S G w) (hw : wf S) (hc : c < 10) : ∃ g fs a, xgA w E.1 6 0 = some (some g) ∧ xobj w g 0 = some fs ∧ xev 1 0 [some (xA (some (g))), some (xI (nI c))] [] w = some (some (xA (some a)), w) ∧ ((∃ v, qC S c = .inr v ∧ oT w a v ∧ thO (qN S) v) ∨ (∃ x, qC S c = .inl a ∧ qR S a = some x ∧ oR w a x ∧ rok (qN S) x)) := by
  obtain ⟨g, h1, h2⟩ := Rc_g hR
  obtain ⟨a, e, h⟩ := c_pat h2 hc
  refine ⟨g, _, a, h1, P_o h2, e, ?_⟩
  have hk := hw.1 c hc
  cases hq : qC S c with
  | inr v =>
    rw [hq] at h hk
    exact Or.inl ⟨v, rfl, h, hk⟩
  | inl r =>
    rw [hq] at h hk
    have h' : a = r := h
    subst h'
    obtain ⟨x, hx, hr⟩ := hk
    exact Or.inr ⟨x, rfl, hx, (Rc_R hR hx).1, hr⟩
theorem th_c {N : Nat} (h : thO N v) : (if v.1 = 8 ∨ v.1 = 9 then (13 : Int32) else if v.1 = 10 then 14 else 15) = if v.1 = 11 then 15 else if v.1 = 10 then 14 else 13 := by
  rcases h with rfl | ⟨j, _, rfl⟩ | ⟨j, _, _, rfl⟩
  · rfl
  · rfl
  · rfl
theorem c_alen_t {N : Nat} (h : oT w a v) (hv : thO N v) : xev 76 0 [some (xA (some (a)))] [] w = some (some (xI (nI (if v.1 = 11 then 1 else 2))), w) := by
  rw [e_X7_answerToLength_0, b_X7_answerToLength_0]
  simp only [T_c h, Option.bind_some, c_tcontent h, xrI_e, th_c hv]
  rw [if_neg (by decide), if_pos trivial, if_neg (by decide), if_pos trivial]
  simp only [Option.bind_some, xrI_e]
  rcases hv with rfl | ⟨j, _, rfl⟩ | ⟨j, _, _, rfl⟩
  · rfl
  · rfl
  · rfl
theorem c_alen_r {x : sR} (h : oR w a x) : xev 76 0 [some (xA (some (a)))] [] w = some (some (xI 0), w) := by
  rw [e_X7_answerToLength_0, b_X7_answerToLength_0, R_n h, Option.bind_some]
  exact if_pos rfl
theorem c_anum_t {N : Nat} (h : oT w a v) (hv : thO N v) : xev 77 0 [some (xA (some (a))), some (xI (cell)), none] [] w = some (some (xI (nI (if v.1 = 11 then 1 else 2))), w) := by
  rw [e_X7_answerToNumber_0, b_X7_answerToNumber_0]
  simp only [T_c h, Option.bind_some, c_alen_t h hv, xrI_e]
  rw [if_neg (by decide), if_pos trivial]
theorem c_anum_r {x : sR} {N : Nat} (h : oR w a x) (hx : rok N x) : xev 77 0 [some (xA (some (a))), some (xI (cell)), none] [] w = some (some (xI (nI (if 7 < x.1 then 3 else if inB cell x.2.1 then 0 else 4))), w) := by
  rw [e_X7_answerToNumber_0, b_X7_answerToNumber_0]
  simp only [R_n h, Option.bind_some, R_o h, R_ty h, c_cnum, xrI_e, c_has h hx.2.1]
  rw [if_pos trivial]
  have h13 := hx.1
  by_cases h7 : 7 < x.1
  · rw [if_neg (show ¬ inB (nI x.1) 8 from fun q => by have := q.2; rw [nI_clamp (by omega)] at this; omega), if_pos rfl, if_pos h7]
    rfl
  · rw [if_pos (inB_of (show x.1 < 8 by omega) (by decide)), if_neg (by decide), if_neg h7]
    by_cases h8 : inB cell x.2.1
    · rw [if_pos h8, if_neg (by decide), if_pos h8]
      rfl
    · rw [if_neg h8, if_pos rfl, if_neg h8]
      rfl
/-- an answer is counted -/
theorem k_cnt {b q : Nat} (hR : Rc E S G w) (hq : q < 19) (hb : b < 6) : ∃ w', ((xgA w E.1 6 11).bind fun r => r.bind fun o => (xobj w o 4).bind fun _ => (xev 28 0 [some (xA r), some (xI (nI q)), some (xI (nI b))] [] w).bind fun p => xrI p.1 fun i => some (some (xI i), p.2)) = some (some (xI (nI b)), w') ∧ gr 0 w w' ∧ Rc E (uT S (6 * q + b)) G w' := by
  obtain ⟨h1, h2, h3, h4⟩ := Rc_tal hR
  obtain ⟨w', e, kk, r⟩ := Rc_uT hR hq hb
  refine ⟨w', ?_, kp_gr kk, r⟩
  simp only [h1, Option.bind_some, h2, e, xrI_e]
theorem c_cread (hR : Rc E S G w) (hw : wf S) (hc : c < 10) (hk : k < 8) : ∃ w', xev 78 0 [some (xA (some (E.1))), some (xI (nI c)), some (xI (cell)), some (xI (nI k)), none, none, none] [] w = some (some (xI (nI (cnt k (rdA S c cell k)).1)), w') ∧ Rc E (cnt k (rdA S c cell k)).2 G w' ∧ gr 1 w w' := by
  obtain ⟨g, fs, a, g1, g2, g3, ht⟩ := k_at hR hw hc
  rw [e_X7_accessToRead_0, b_X7_accessToRead_0]
  simp only [g1, Option.bind_some, g2, g3, xrA_e]
  rcases ht with ⟨v, hq, t, hv⟩ | ⟨x, hq, hx, hr, hk2⟩
  · simp only [c_anum_t t hv, Option.bind_some, xrI_e, rdA_th hq]
    rw [if_neg (th0 v)]
    obtain ⟨w', e, g, r⟩ := k_cnt hR (show k < 19 by omega) (show (if v.1 = 11 then 1 else 2) < 6 by split <;> decide)
    exact ⟨w', e, r, gr_up g (by decide)⟩
  · simp only [c_anum_r hr hk2, Option.bind_some, xrI_e, rdA_row hq hx]
    have h13 := hk2.1
    by_cases h7 : 7 < x.1
    · simp only [if_pos h7]
      rw [if_neg (show ¬ nI 3 = 0 by decide)]
      obtain ⟨w', e, g, r⟩ := k_cnt hR (show k < 19 by omega) (show 3 < 6 by decide)
      exact ⟨w', e, r, gr_up g (by decide)⟩
    · simp only [if_neg h7]
      by_cases h8 : inB cell x.2.1
      · simp only [if_pos h8]
        rw [if_pos nI_0, if_neg (by simp)]
        simp only [R_n hr, Option.bind_some, R_o hr, R_ty hr]
        rw [if_pos trivial]
        simp only [c_fitsInto (Rc_h hR) (show k < 13 by omega) (show x.1 < 12 by omega), Option.bind_some, xrI_e]
        by_cases hf : fitB k x.1 = true
        · simp only [if_pos hf]
          rw [bI_t hf, if_neg (by decide)]
          obtain ⟨b, e1, t1⟩ := c_rat hr hk2.2.1 h8.2
          rw [← inB_nI h8] at e1
          obtain ⟨b2, w1, e2, k2, t2⟩ := c_cwidened (Rc_d hR) t1 (show k < 13 by omega)
          have hR1 := Rc_new hR k2 (Nat.le_refl _)
          obtain ⟨w2, e3, k3, hR2⟩ := Rc_uS hR1 t2
          simp only [e1, Option.bind_some, xrA_e, T_o t1, e2, e3, R_o hr]
          obtain ⟨w3, e4, g4, r4⟩ := k_cnt hR2 (show k < 19 by omega) (show 0 < 6 by decide)
          exact ⟨w3, e4, r4, gr_tr (gr_tr (kp_gr k2) (kp_gr k3) (Nat.le_refl _)) g4 (by omega)⟩
        · simp only [if_neg hf]
          rw [bI_f hf, if_pos rfl]
          obtain ⟨w', e, g, r⟩ := k_cnt hR (show k < 19 by omega) (show 5 < 6 by decide)
          exact ⟨w', e, r, gr_up g (by decide)⟩
      · simp only [if_neg h8]
        rw [if_neg (show ¬ nI 4 = 0 by decide)]
        obtain ⟨w', e, g, r⟩ := k_cnt hR (show k < 19 by omega) (show 4 < 6 by decide)
        exact ⟨w', e, r, gr_up g (by decide)⟩
theorem c_ctake (hR : Rc E S G w) (hw : wf S) (hc : c < 10) : ∃ w', xev 80 0 [some (xA (some (E.1))), some (xI (nI c)), some (xI (cell)), none, none, none] [] w = some (some (xI (nI (cnt 8 (tkA S c cell)).1)), w') ∧ Rc E (cnt 8 (tkA S c cell)).2 G w' ∧ gr 1 w w' := by
  obtain ⟨g, fs, a, g1, g2, g3, ht⟩ := k_at hR hw hc
  rw [e_X7_accessToTake_0, b_X7_accessToTake_0]
  simp only [g1, Option.bind_some, g2, g3, xrA_e]
  rcases ht with ⟨v, hq, t, hv⟩ | ⟨x, hq, hx, hr, hk2⟩
  · simp only [c_alen_t t hv, Option.bind_some, xrI_e, tkA_th hq, T_c t]
    rw [if_neg (by simp), if_neg (by decide), if_pos trivial]
    obtain ⟨w', e, g, r⟩ := k_cnt hR (show 8 < 19 by decide) (show (if v.1 = 11 then 1 else 2) < 6 by split <;> decide)
    exact ⟨w', e, r, gr_up g (by decide)⟩
  · simp only [c_alen_r hr, Option.bind_some, xrI_e, tkA_row hq hx, R_n hr, R_o hr, c_has hr hk2.2.1]
    rw [if_neg (by simp), if_pos trivial]
    by_cases h8 : inB cell x.2.1
    · simp only [if_pos h8]
      rw [if_neg (by decide)]
      obtain ⟨b, e1, t1⟩ := c_rat hr hk2.2.1 h8.2
      rw [← inB_nI h8] at e1
      obtain ⟨w2, e3, k3, hR2⟩ := Rc_uH hR t1
      simp only [e1, Option.bind_some, xrA_e, e3]
      obtain ⟨w3, e4, g4, r4⟩ := k_cnt hR2 (show 8 < 19 by decide) (show 0 < 6 by decide)
      exact ⟨w3, e4, r4, gr_tr (kp_gr k3) g4 (by omega)⟩
    · simp only [if_neg h8]
      rw [if_pos trivial]
      obtain ⟨w', e, g, r⟩ := k_cnt hR (show 8 < 19 by decide) (show 4 < 6 by decide)
      exact ⟨w', e, r, gr_up g (by decide)⟩
/-- a thing is put into a row of the notebook, if it fits -/
theorem c_putIf {r b : Nat} {x : sR} (hR : Rc E S G w) (hx : qR S r = some x) (hk2 : rok (qN S) x) (h8 : inB cell x.2.1) (tv : oT w b v) (hv : v.1 = nI (kn v)) (hv2 : kn v < 12) : ∃ w', xev 82 0 [some (xA (some (r))), some (xI (cell)), some (xA (some (b)))] [] w = some (some (xI (nI (if fitB x.1 (kn v) = true then 0 else 5))), w') ∧ Rc E (if fitB x.1 (kn v) = true then uR S r (x.1, x.2.1, va_up x.2.2 cell.toNatClampNeg (pv x.1 v)) else S) G w' ∧ kp (r + 2) 1 w w' := by
  obtain ⟨hr, _, _⟩ := Rc_R hR hx
  rw [e_X7_putIfFit_0, b_X7_putIfFit_0]
  simp only [R_ty hr, Option.bind_some, T_I tv]
  rw [hv]
  simp only [c_fitsInto (Rc_h hR) hk2.1 hv2, Option.bind_some, xrI_e, R_o hr]
  obtain ⟨w1, e1, k1, r1⟩ := c_rput (Rc_d hR) hr hk2.2.1 hk2.1 h8.2 tv
  rw [← inB_nI h8] at e1
  by_cases hf : fitB x.1 (kn v) = true
  · rw [bI_t hf, if_neg (by decide), if_pos hf, if_pos hf]
    simp only [e1, Option.bind_some, xrV_e]
    exact ⟨w1, rfl, Rc_put hR k1 hx r1, k1⟩
  · rw [bI_f hf, if_pos rfl, if_neg hf, if_neg hf]
    refine ⟨w, rfl, hR, ?_⟩
    obtain ⟨_, _, f0, c0, _⟩ := id hr
    exact ⟨Rc_d hR, Rc_d hR, Nat.le_refl _, by omega, by omega, rfl, fun _ _ _ h => h, fun a ha e he => by have ha' : a = r + 2 := ha; rw [ha', c0] at he; cases he; exact so_5 _ _⟩
theorem c_cwrite {b : Nat} (hR : Rc E S G w) (hw : wf S) (hc : c < 10) (hk : k < 8) (tv : oT w b v) (hv : v.1 = nI k) : ∃ w', xev 79 0 [some (xA (some (E.1))), some (xI (nI c)), some (xI (cell)), some (xA (some (b))), none, none, none] [] w = some (some (xI (nI (cnt (9 + k) (wrA S c cell v)).1)), w') ∧ Rc E (cnt (9 + k) (wrA S c cell v)).2 G w' ∧ gr 1 w w' := by
  obtain ⟨g, fs, a, g1, g2, g3, ht⟩ := k_at hR hw hc
  have e9 : (9 : Int32) + v.1 = nI (9 + k) := by rw [hv, show (9 : Int32) = nI 9 from rfl, nI_add]
  rw [e_X7_accessToWrite_0, b_X7_accessToWrite_0]
  simp only [g1, Option.bind_some, g2, g3, xrA_e]
  rcases ht with ⟨u, hq, t, hu⟩ | ⟨x, hq, hx, hr, hk2⟩
  · simp only [c_anum_t t hu, Option.bind_some, xrI_e, wrA_th hq, T_I tv, e9]
    rw [if_neg (th0 u)]
    obtain ⟨w', e, g, r⟩ := k_cnt hR (show 9 + k < 19 by omega) (show (if u.1 = 11 then 1 else 2) < 6 by split <;> decide)
    exact ⟨w', e, r, gr_up g (by decide)⟩
  · simp only [c_anum_r hr hk2, Option.bind_some, xrI_e, wrA_row hq hx]
    have h13 := hk2.1
    by_cases h7 : 7 < x.1
    · simp only [if_pos h7, T_I tv, Option.bind_some, e9]
      rw [if_neg (show ¬ nI 3 = 0 by decide)]
      obtain ⟨w', e, g, r⟩ := k_cnt hR (show 9 + k < 19 by omega) (show 3 < 6 by decide)
      exact ⟨w', e, r, gr_up g (by decide)⟩
    · simp only [if_neg h7]
      by_cases h8 : inB cell x.2.1
      · simp only [if_pos h8]
        rw [if_pos nI_0, if_neg (by simp)]
        simp only [R_n hr, Option.bind_some, R_o hr]
        rw [if_pos trivial]
        have kn1 : kn v = k := kn_of hv (by omega)
        obtain ⟨w1, e1, r1, k1⟩ := c_putIf (v := v) hR hx hk2 h8 tv (by rw [kn1]; exact hv) (by omega)
        have tv1 := kp_T k1 tv
        simp only [e1, Option.bind_some, xrI_e, T_I tv1, e9]
        by_cases hf : fitB x.1 (kn v) = true
        · simp only [if_pos hf] at r1 ⊢
          obtain ⟨w', e, g, r⟩ := k_cnt r1 (show 9 + k < 19 by omega) (show 0 < 6 by decide)
          exact ⟨w', e, r, gr_tr (kp_gr k1) g (Nat.le_refl _)⟩
        · simp only [if_neg hf] at r1 ⊢
          obtain ⟨w', e, g, r⟩ := k_cnt r1 (show 9 + k < 19 by omega) (show 5 < 6 by decide)
          exact ⟨w', e, r, gr_tr (kp_gr k1) g (Nat.le_refl _)⟩
      · simp only [if_neg h8, T_I tv, Option.bind_some, e9]
        rw [if_neg (show ¬ nI 4 = 0 by decide)]
        obtain ⟨w', e, g, r⟩ := k_cnt hR (show 9 + k < 19 by omega) (show 4 < 6 by decide)
        exact ⟨w', e, r, gr_up g (by decide)⟩
theorem Rc_sh (hR : Rc E S G w) : ∃ sh he, xgA w E.1 6 2 = some (some sh) ∧ xgA w E.1 6 3 = some (some he) ∧ oT w sh (qS S) ∧ oT w he (qH S) ∧ xgA w E.1 6 4 = some (qK S) := by
  obtain ⟨g, sh, he, p, q, hb, t1, t2, _⟩ := Rc_b hR
  exact ⟨sh, he, xgA_of (k := 2) hb rfl, xgA_of (k := 3) hb rfl, t1, t2, xgA_of (k := 4) hb rfl⟩
theorem c_clay (hR : Rc E S G w) (hw : wf S) (hc : c < 10) : ∃ w', xev 81 0 [some (xA (some (E.1))), some (xI (nI c)), some (xI (cell)), none, none, none] [] w = some (some (xI (nI (cnt 17 (lyA S c cell)).1)), w') ∧ Rc E (cnt 17 (lyA S c cell)).2 G w' ∧ gr 1 w w' := by
  obtain ⟨g, fs, a, g1, g2, g3, ht⟩ := k_at hR hw hc
  rw [e_X7_accessToLay_0, b_X7_accessToLay_0]
  simp only [g1, Option.bind_some, g2, g3, xrA_e]
  rcases ht with ⟨v, hq, t, hv⟩ | ⟨x, hq, hx, hr, hk2⟩
  · simp only [c_alen_t t hv, Option.bind_some, xrI_e, lyA_th hq, T_c t]
    rw [if_neg (by simp), if_neg (by decide), if_pos trivial]
    obtain ⟨w', e, g, r⟩ := k_cnt hR (show 17 < 19 by decide) (show (if v.1 = 11 then 1 else 2) < 6 by split <;> decide)
    exact ⟨w', e, r, gr_up g (by decide)⟩
  · simp only [c_alen_r hr, Option.bind_some, xrI_e, lyA_row hq hx, R_n hr, R_o hr, c_has hr hk2.2.1]
    rw [if_neg (by simp), if_pos trivial]
    by_cases h8 : inB cell x.2.1
    · simp only [if_pos h8]
      rw [if_neg (by decide)]
      obtain ⟨sh, he, _, s2, _, s4, _⟩ := Rc_sh hR
      obtain ⟨v1, v2⟩ := tok_c hw.2.2.1
      obtain ⟨w1, e1, r1, k1⟩ := c_putIf hR hx hk2 h8 s4 v2 v1
      simp only [s2, Option.bind_some, e1, xrI_e]
      by_cases hf : fitB x.1 (kn (qH S)) = true
      · simp only [if_pos hf] at r1 ⊢
        obtain ⟨w', e, g, r⟩ := k_cnt r1 (show 17 < 19 by decide) (show 0 < 6 by decide)
        exact ⟨w', e, r, gr_tr (kp_gr k1) g (Nat.le_refl _)⟩
      · simp only [if_neg hf] at r1 ⊢
        obtain ⟨w', e, g, r⟩ := k_cnt r1 (show 17 < 19 by decide) (show 5 < 6 by decide)
        exact ⟨w', e, r, gr_tr (kp_gr k1) g (Nat.le_refl _)⟩
    · simp only [if_neg h8]
      rw [if_pos trivial]
      obtain ⟨w', e, g, r⟩ := k_cnt hR (show 17 < 19 by decide) (show 4 < 6 by decide)
      exact ⟨w', e, r, gr_up g (by decide)⟩
end AC
