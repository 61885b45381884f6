/-! calls of the class: columns, readers, pens, the hand -/
section PA
variable {E : sE} {S : sS} {G : sG} {w w' : xW}
theorem nn {p : Prop} (h : p) : ¬ ¬ p := fun q => q h
theorem if10 {p : Prop} [Decidable p] : ((if p then (1 : Int32) else 0) = 0) ↔ ¬ p := by
  by_cases h : p
  · rw [if_pos h]
    exact ⟨fun q => absurd q (by decide), fun q => absurd h q⟩
  · rw [if_neg h]
    exact ⟨fun _ => h, fun _ => rfl⟩
theorem if01 {p : Prop} [Decidable p] : ((if p then (0 : Int32) else 1) = 0) ↔ p := by
  by_cases h : p
  · rw [if_pos h]
    exact ⟨fun _ => h, fun _ => rfl⟩
  · rw [if_neg h]
    exact ⟨fun q => absurd q (by decide), fun q => absurd q h⟩
theorem lab_n (n : Int32) : (n.toInt64 < 0 ∨ 99 < n.toInt64) ↔ ¬ inB n 100 := by
  rw [show (0 : Int64) = (0 : Int32).toInt64 from rfl, show (99 : Int64) = (99 : Int32).toInt64 from rfl, w64, w64]
  by_cases h0 : n < 0
  · exact ⟨fun _ q => q.1 h0, fun _ => Or.inl h0⟩
  · have := le_inB (c := n) (n := 99) (by decide) h0
    exact ⟨fun q => this.mp (q.resolve_left h0), fun q => Or.inr (this.mpr q)⟩
theorem c_canOpen (what n : Int32) (w : xW) : xev 70 0 [some (xI (what)), some (xI (n))] [] w = some (some (xI (if ¬ inB what 16 ∨ (inB what 13 ∧ ¬ inB n 25) ∨ (what = 14 ∧ ¬ inB n 100) then 0 else 1)), w) := by
  rw [e_X7_canBeOpened_0, b_X7_canBeOpened_0]
  simp only [c_clab, Option.bind_some, xrI_e, if01, lab_n]
  by_cases h0 : what < 0
  · rw [if_pos h0, if_neg (by rintro rfl; revert h0; decide), if_neg (by rintro rfl; revert h0; decide), if_neg (by rintro rfl; revert h0; decide), if_pos (Or.inl (fun q => q.1 h0))]
  · rw [if_neg h0]
    obtain ⟨j, hj, rfl⟩ := nI_of h0
    have i16 : inB (nI j) 16 ↔ j < 16 := ⟨fun q => by have := q.2; rw [nI_clamp hj] at this; exact this, fun q => inB_of q (by decide)⟩
    have i13 : inB (nI j) 13 ↔ j < 13 := ⟨fun q => by have := q.2; rw [nI_clamp hj] at this; exact this, fun q => inB_of q (by decide)⟩
    have e12 : (12 : Int32) < nI j ↔ 12 < j := nI_ltI (a := 12) (by decide) hj
    have e13 : nI j = 13 ↔ j = 13 := nI_eq (b := 13) hj (by decide)
    have e14 : nI j = 14 ↔ j = 14 := nI_eq (b := 14) hj (by decide)
    have e15 : nI j = 15 ↔ j = 15 := nI_eq (b := 15) hj (by decide)
    simp only [i16, i13, e12, e13, e14, e15]
    by_cases h12 : 12 < j
    · rw [if_pos h12]
      by_cases h13 : j = 13
      · subst h13
        rfl
      · rw [if_neg h13]
        by_cases h15 : j = 15
        · subst h15
          rfl
        · rw [if_neg h15]
          by_cases h14 : j = 14
          · subst h14
            rw [if_pos rfl]
            by_cases hn : inB n 100
            · rw [if_neg (nn hn), if_neg (by rintro (q | q | q); exact q (by decide); exact absurd q.1 (by decide); exact q.2 hn)]
            · rw [if_pos hn, if_pos (Or.inr (Or.inr ⟨rfl, hn⟩))]
          · rw [if_neg h14, if_pos (Or.inl (by omega))]
    · rw [if_neg h12]
      have hl : ¬ (¬ j < 16) := by omega
      by_cases hn0 : n < 0
      · rw [if_pos hn0, if_pos (Or.inr (Or.inl ⟨by omega, fun q => q.1 hn0⟩))]
      · rw [if_neg hn0]
        have := le_inB (c := n) (n := 24) (by decide) hn0
        by_cases h24 : (24 : Int32) < n
        · rw [if_pos h24, if_pos (Or.inr (Or.inl ⟨by omega, this.mp h24⟩))]
        · rw [if_neg h24, if_neg]
          rintro (q | q | q)
          · exact hl q
          · exact h24 (this.mpr q.2)
          · omega
theorem xgA_put {a ci k j : Nat} {v : xV} (h : xput w a ci k v = some w') (hj : j ≠ k) : xgA w' a ci j = xgA w a ci j := by
  unfold xput at h
  cases hfs : xobj w a ci with
  | none =>
    rw [hfs] at h
    cases h
  | some fs =>
    rw [hfs, Option.bind_some] at h
    split at h
    · cases h
      have e : xobj (xset w a (.inr (ci, fs.set k v))) a ci = some (fs.set k v) := xobj_of (xset_at _ _ _)
      unfold xgA
      rw [e, hfs]
      simp only [Option.bind_some, List.getElem?_set_ne (fun q => hj q.symm)]
    · cases h
theorem Rc_gk {A : Nat → Prop} {m j : Nat} {w1 : xW} (hR : Rc E S G w) (k : kpc A m w w1) (hA : ¬ A E.1) : xgA w1 E.1 6 j = xgA w E.1 6 j := by
  obtain ⟨g', sh, he, p, q, hb, _⟩ := Rc_b hR
  have h2 := kp_c k hA hb
  unfold xgA
  rw [xobj_of hb, xobj_of h2]
theorem c_newStone (hR : Rc E S G w) (hN : qN S < 60) (k n : Int32) : ∃ a w', xev 74 0 [some (xA (some (E.1))), some (xI (k)), some (xI (n))] [] w = some (some (xA (some a)), w') ∧ Rc E (uN (uW S (qN S) n) (qN S + 1)) G w' ∧ oT w' a (k, lN (qN S + 1), 0) ∧ gr 1 w w' ∧ xgA w' E.1 6 0 = xgA w E.1 6 0 := by
  obtain ⟨h1, h2, h3⟩ := Rc_wgt hR
  obtain ⟨w1, e1, k1, r1⟩ := Rc_uW (x := n) hR hN
  obtain ⟨_, _, h3b⟩ := Rc_wgt r1
  obtain ⟨w2, e2, k2, r2⟩ := Rc_uN r1 (qN S + 1)
  have k3 := nT_k (Rc_d r2) (k, lN (qN S + 1), 0)
  have rp : Rc E (uN (uW S (qN S) n) (qN S + 1)) G (xpush w2 3 (.inr (5, xdf 5))) := Rc_new r2 (kp_push (Rc_d r2) (by decide)) (Nat.le_refl _)
  obtain ⟨_, _, h3c⟩ := Rc_wgt rp
  have hE : E.1 ≠ w2.1 := by have := Rc_n r2; omega
  refine ⟨w2.1, nT w2 (k, lN (qN S + 1), 0), ?_, Rc_new r2 k3 (Nat.le_refl _), nT_T _ _, gr_tr (gr_tr (kp_gr k1) (kp_gr k2) (Nat.le_refl _)) (kp_gr k3) (Nat.le_refl _), (Rc_gk r2 k3 hE).trans ((xgA_put e2 (by decide)).trans (Rc_gk hR k1 (show ¬ E.1 = E.1 + 19 by omega)))⟩
  rw [e_X7_newStone_0, b_X7_newStone_0]
  have h3b' : xgI w1 E.1 6 10 = some (nI (qN S)) := h3b
  have h3c' : xgI (xpush w2 3 (.inr (5, xdf 5))) E.1 6 10 = some (nI (qN S + 1)) := h3c
  simp only [h3, h1, Option.bind_some, xlen_I h2, if_pos (nI_lt hN (show 60 < 2 ^ 31 by decide)), e1, h3b', nI_1, e2, h3c', nI_l (show qN S + 1 < 2 ^ 31 by omega), c_Thing, xrV_e]
theorem c_copen (hR : Rc E S G w) (hw : wf S) (c what n : Int32) : ∃ id w', xev 40 0 [some (xA (some (E.1))), some (xI (c)), some (xI (what)), some (xI (n))] [] w = some (some (xI (spOpen S c what n id).1), w') ∧ Rc E (spOpen S c what n id).2 G w' ∧ qR S id = none ∧ gr 3 w w' := by
  have hf : qR S w.1 = none := Rc_fresh hR (Nat.le_refl _)
  obtain ⟨fo, ho⟩ := Rc_o hR
  obtain ⟨h1, h2, h3⟩ := Rc_wgt hR
  have hN := hw.2.2.2.2.2.1
  obtain ⟨g, hg, hp⟩ := Rc_g hR
  refine ⟨w.1, ?_⟩
  rw [e_X7_open_0, b_X7_open_0]
  simp only [c_ccol, Option.bind_some, xrI_e, if10, c_canOpen, if01, spOpen]
  by_cases hc : inB c 10
  · rw [if_neg (nn hc), if_neg (nn hc)]
    by_cases hwn : ¬ inB what 16 ∨ (inB what 13 ∧ ¬ inB n 25) ∨ (what = 14 ∧ ¬ inB n 100)
    · rw [if_pos hwn, if_pos hwn]
      exact ⟨w, rfl, hR, hf, gr_refl⟩
    · rw [if_neg hwn, if_neg hwn]
      have h16 : inB what 16 := Decidable.by_contra (fun q => hwn (Or.inl q))
      have hcc := inB_nI hc
      have fin : ∀ (w1 : xW) (a : Nat) (h : sO) (S1 : sS) (m : Nat), Rc E S1 G w1 → gr m w w1 → m ≤ 3 → xgA w1 E.1 6 0 = some (some g) → oH w1 a h → isH w1 a → ∃ w', ((xobj w1 g 0).bind fun _ => (xev 2 0 [some (xA (some g)), some (xI c), some (xA (some a))] [] w1).bind fun p9 => xrV p9.1 (some (some (xI (0 : Int32)), p9.2))) = some (some (xI 0), w') ∧ Rc E (uC S1 c.toNatClampNeg h) G w' ∧ qR S w.1 = none ∧ gr 3 w w' := by
        intro w1 a h S1 m hR1 hgr hm hg1 ha hn
        obtain ⟨w2, e2, k2, r2⟩ := Rc_uC hR1 hg1 hc.2 ha hn
        rw [← hcc] at e2
        obtain ⟨g', hg', hp'⟩ := Rc_g hR1
        rw [hg1] at hg'
        cases hg'
        refine ⟨w2, ?_, r2, hf, gr_tr hgr (kp_gr k2) (by omega)⟩
        simp only [P_o hp', Option.bind_some, e2, xrV_e]
      have gk : ∀ {A : Nat → Prop} {m : Nat} {w1 : xW} {S1 : sS}, kpc A m w w1 → ¬ A E.1 → Rc E S1 G w1 → xgA w1 E.1 6 0 = some (some g) := fun k hA r => by
        obtain ⟨g', sh, he, p, q, hb, _⟩ := Rc_b hR
        have : g' = g := by
          have := xgA_of (k := 0) hb rfl
          rw [hg] at this
          cases this
          rfl
        subst this
        exact xgA_of (k := 0) (kp_c k hA hb) rfl
      have hEw : E.1 ≠ w.1 := by have := Rc_n hR; omega
      by_cases h13 : what = 13
      · subst h13
        rw [if_pos rfl]
        simp only [h3, Option.bind_some]
        by_cases hq : qN S = 60
        · rw [if_neg (show ¬ nI (qN S) < 60 by rw [hq]; decide), if_pos (show True ∧ qN S = 60 from ⟨trivial, hq⟩)]
          exact ⟨w, rfl, hR, hf, gr_refl⟩
        · rw [if_pos (show nI (qN S) < 60 from nI_lt (b := 60) (by omega) (by decide)), if_neg (show ¬ (True ∧ qN S = 60) from fun q => hq q.2)]
          rw [if_neg (show ¬ inB (13 : Int32) 13 by decide), if_pos trivial]
          obtain ⟨a, w1, e1, r1, t1, g1, gg⟩ := c_newStone hR (by omega) 8 n
          have hg1 : xgA w1 E.1 6 0 = some (some g) := gg.trans hg
          simp only [hg, ho, Option.bind_some, e_X7_opened_0, b_X7_opened_0]
          rw [if_pos (show (13 : Int32) = Int32.ofInt 13 from rfl)]
          simp only [e1, Option.bind_some, xrA_e]
          exact fin w1 a _ _ 1 r1 g1 (by omega) hg1 t1 (Or.inr (T_c t1))
      · rw [if_neg h13, if_neg (fun q => h13 q.1), if_neg (show ¬ what = 13 from h13)]
        simp only [hg, ho, Option.bind_some, e_X7_opened_0, b_X7_opened_0]
        rw [if_neg (show ¬ what = Int32.ofInt 13 from h13)]
        by_cases h14 : what = 14
        · subst h14
          rw [if_pos (show (14 : Int32) = Int32.ofInt 14 from rfl), if_neg (show ¬ inB (14 : Int32) 13 by decide), if_pos rfl]
          simp only [c_Thing, Option.bind_some, xrV_e, xrA_e]
          have kk := nT_k (Rc_d hR) (10, n.toInt64, 0)
          have r1 := Rc_new hR kk (Nat.le_refl _)
          exact fin _ _ _ _ 1 r1 (kp_gr kk) (by omega) (gk kk hEw r1) (nT_T _ _) (Or.inr (T_c (nT_T _ _)))
        · rw [if_neg (show ¬ what = Int32.ofInt 14 from h14)]
          by_cases h15 : what = 15
          · subst h15
            rw [if_pos (show (15 : Int32) = Int32.ofInt 15 from rfl), if_neg (show ¬ inB (15 : Int32) 13 by decide), if_neg (by decide)]
            simp only [c_Thing, Option.bind_some, xrV_e, xrA_e]
            have kk := nT_k (Rc_d hR) (11, 0, 0)
            have r1 := Rc_new hR kk (Nat.le_refl _)
            exact fin _ _ _ _ 1 r1 (kp_gr kk) (by omega) (gk kk hEw r1) (nT_T _ _) (Or.inr (T_c (nT_T _ _)))
          · rw [if_neg (show ¬ what = Int32.ofInt 15 from h15)]
            have hi13 : inB what 13 := by
              refine ⟨h16.1, ?_⟩
              have a13 := nI_e h16 13 (by decide) (by decide)
              have a14 := nI_e h16 14 (by decide) (by decide)
              have a15 := nI_e h16 15 (by decide) (by decide)
              have b13 : ¬ what.toNatClampNeg = 13 := fun q => h13 (a13.mpr q)
              have b14 : ¬ what.toNatClampNeg = 14 := fun q => h14 (a14.mpr q)
              have b15 : ¬ what.toNatClampNeg = 15 := fun q => h15 (a15.mpr q)
              have := h16.2
              omega
            have hn25 : inB n 25 := Decidable.by_contra (fun q => hwn (Or.inr (Or.inl ⟨hi13, q⟩)))
            rw [if_pos hi13]
            obtain ⟨w1, e1, k1, _, o1⟩ := c_newRow (ty := what.toNatClampNeg) (n := n.toNatClampNeg) (Rc_d hR) hi13.2 (by have := hn25.2; omega)
            rw [← inB_nI hi13, ← inB_nI hn25] at e1
            simp only [e1, Option.bind_some, xrV_e, xrA_e]
            have r1 := Rc_row hR k1 (Nat.le_refl _) o1 (Nat.le_refl _)
            exact fin w1 w.1 (.inl w.1) _ 3 r1 (kp_gr k1) (by omega) (gk k1 hEw r1) rfl (Or.inl (R_n o1))
  · rw [if_pos hc, if_pos hc]
    exact ⟨w, rfl, hR, hf, gr_refl⟩
end PA
