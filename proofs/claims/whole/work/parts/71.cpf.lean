/-! calls of the class: pour, columns are read, sums -/
section PF
variable {E : sE} {S : sS} {G : sG} {w w' : xW}
theorem k_pour {c to k i : Nat} {cell place : Int32} (hR : Rc E S G w) (hw : wf S) (hc : c < 10) (ht : to < 10) (hk : k < 9) (hi : i ≤ 24) : ∃ w', xev 56 37 [some (xA (some (E.1))), some (xI (nI c)), some (xI (cell)), some (xI (nI to)), some (xI (place)), some (xI (nI k)), some (xI (nI i))] [] w = (if nI (pr1 S c (cell + nI i) to (place + nI i) k).1 = 0 then xev 56 37 [some (xA (some (E.1))), some (xI (nI c)), some (xI (cell)), some (xI (nI to)), some (xI (place)), some (xI (nI k)), some (xI (nI (i + 1)))] [] w' else some (some (xI (nI i)), w')) ∧ Rc E (uA (pr1 S c (cell + nI i) to (place + nI i) k).2 (nI (pr1 S c (cell + nI i) to (place + nI i) k).1)) G w' ∧ gr 2 w w' := by
  obtain ⟨fo, ho⟩ := Rc_o hR
  have e8 : (nI k = 8) ↔ k = 8 := nI_eq (b := 8) (by omega) (by decide)
  rw [e_X7_pour_37, b_X7_pour_37, if_neg (show ¬ (24 : Int32) < nI i from nI_nlt (a := 24) (by omega) (by decide))]
  by_cases h8 : k = 8
  · subst h8
    have hp : pr1 S c (cell + nI i) to (place + nI i) 8 = if (cnt 8 (tkA S c (cell + nI i))).1 = 0 then cnt 17 (lyA (cnt 8 (tkA S c (cell + nI i))).2 to (place + nI i)) else cnt 8 (tkA S c (cell + nI i)) := if_pos rfl
    rw [if_pos (e8.mpr rfl), hp]
    obtain ⟨w1, e1, r1, g1⟩ := c_ctake (cell := cell + nI i) hR hw hc
    have hw1 := (tkA_ok (cell := cell + nI i) hw hc).1
    have hl := tkA_lt S c (cell + nI i)
    obtain ⟨w2, e2, k2, r2⟩ := Rc_uA r1 (nI (cnt 8 (tkA S c (cell + nI i))).1)
    have x2 : xgI w2 E.1 6 12 = some (nI (cnt 8 (tkA S c (cell + nI i))).1) := (Rc_G7 r2).2.2
    obtain ⟨fo2, ho2⟩ := Rc_o r2
    by_cases h0 : (cnt 8 (tkA S c (cell + nI i))).1 = 0
    · rw [h0, nI_0] at e1 e2 x2
      rw [h0] at r2
      rw [if_pos h0]
      obtain ⟨w3, e3, r3, g3⟩ := c_clay (cell := place + nI i) r2 hw1 ht
      rw [lyA_uA] at e3 r3
      obtain ⟨w4, e4, k4, r4⟩ := Rc_uA r3 (nI (cnt 17 (lyA (cnt 8 (tkA S c (cell + nI i))).2 to (place + nI i))).1)
      have x4 : xgI w4 E.1 6 12 = some (nI (cnt 17 (lyA (cnt 8 (tkA S c (cell + nI i))).2 to (place + nI i))).1) := (Rc_G7 r4).2.2
      have e3' : xev 81 0 [some (xA (some (E.1))), some (xI (nI to)), some (xI (place + nI i)), none, none, none] [] w2 = some (some (xI (nI (cnt 17 (lyA (cnt 8 (tkA S c (cell + nI i))).2 to (place + nI i))).1)), w3) := e3
      refine ⟨w4, ?_, r4, gr_tr (gr_tr (gr_tr g1 (kp_gr k2) (Nat.le_refl _)) g3 (Nat.le_refl _)) (kp_gr k4) (Nat.le_refl _)⟩
      simp only [ho, e1, Option.bind_some, xrI_e, e2, x2, ho2, e3', e4, x4, nI_1]
      rw [if_pos trivial, if_pos (e8.mpr rfl)]
    · rw [if_neg h0]
      refine ⟨w2, ?_, r2, gr_tr g1 (kp_gr k2) (by decide)⟩
      have hn0 : ¬ nI (cnt 8 (tkA S c (cell + nI i))).1 = 0 := fun q => h0 ((nz hl).mp q)
      simp only [ho, e1, Option.bind_some, xrI_e, e2, x2, nI_1]
      rw [if_neg hn0]
  · have hk8 : k < 8 := by omega
    have hp : pr1 S c (cell + nI i) to (place + nI i) k = if (cnt k (rdA S c (cell + nI i) k)).1 = 0 then cnt (9 + k) (wrA (cnt k (rdA S c (cell + nI i) k)).2 to (place + nI i) (qS (cnt k (rdA S c (cell + nI i) k)).2)) else cnt k (rdA S c (cell + nI i) k) := if_neg h8
    have hn8 : ¬ nI k = 8 := fun q => h8 (e8.mp q)
    rw [if_neg hn8, hp]
    obtain ⟨w1, e1, r1, g1⟩ := c_cread (cell := cell + nI i) hR hw hc hk8
    obtain ⟨hw1, _, _, _, a3⟩ := rdA_ok (cell := cell + nI i) (k := k) hw hc hk8
    have hl := rdA_lt S c (cell + nI i) k
    obtain ⟨w2, e2, k2, r2⟩ := Rc_uA r1 (nI (cnt k (rdA S c (cell + nI i) k)).1)
    have x2 : xgI w2 E.1 6 12 = some (nI (cnt k (rdA S c (cell + nI i) k)).1) := (Rc_G7 r2).2.2
    obtain ⟨fo2, ho2⟩ := Rc_o r2
    by_cases h0 : (cnt k (rdA S c (cell + nI i) k)).1 = 0
    · obtain ⟨b1, b2, b3⟩ := a3 h0
      rw [h0, nI_0] at e1 e2 x2
      rw [h0] at r2
      rw [if_pos h0]
      obtain ⟨sh, he, s1, s2, s3, s4, s5⟩ := Rc_sh r2
      obtain ⟨w3, e3, r3, g3⟩ := c_cwrite (cell := place + nI i) r2 hw1 ht hk8 s3 b2
      rw [wrA_uA] at e3 r3
      obtain ⟨w4, e4, k4, r4⟩ := Rc_uA r3 (nI (cnt (9 + k) (wrA (cnt k (rdA S c (cell + nI i) k)).2 to (place + nI i) (qS (cnt k (rdA S c (cell + nI i) k)).2))).1)
      have x4 : xgI w4 E.1 6 12 = some (nI (cnt (9 + k) (wrA (cnt k (rdA S c (cell + nI i) k)).2 to (place + nI i) (qS (cnt k (rdA S c (cell + nI i) k)).2))).1) := (Rc_G7 r4).2.2
      have e3' : xev 79 0 [some (xA (some (E.1))), some (xI (nI to)), some (xI (place + nI i)), some (xA (some (sh))), none, none, none] [] w2 = some (some (xI (nI (cnt (9 + k) (wrA (cnt k (rdA S c (cell + nI i) k)).2 to (place + nI i) (qS (cnt k (rdA S c (cell + nI i) k)).2))).1)), w3) := e3
      refine ⟨w4, ?_, r4, gr_tr (gr_tr (gr_tr g1 (kp_gr k2) (Nat.le_refl _)) g3 (Nat.le_refl _)) (kp_gr k4) (Nat.le_refl _)⟩
      simp only [ho, e1, Option.bind_some, xrI_e, e2, x2, ho2, s1, e3', e4, x4, nI_1]
      rw [if_pos trivial, if_neg hn8]
    · rw [if_neg h0]
      refine ⟨w2, ?_, r2, gr_tr g1 (kp_gr k2) (by decide)⟩
      have hn0 : ¬ nI (cnt k (rdA S c (cell + nI i) k)).1 = 0 := fun q => h0 ((nz hl).mp q)
      simp only [ho, e1, Option.bind_some, xrI_e, e2, x2, nI_1]
      rw [if_neg hn0]
theorem c_cpour_l {c to k : Nat} {cell place : Int32} (hc : c < 10) (ht : to < 10) (hk : k < 9) : ∀ d i S w, i + d = 25 → Rc E S G w → wf S → (i = 0 ∨ inB cell 24) → 0 < d → ∃ w', xev 56 37 [some (xA (some (E.1))), some (xI (nI c)), some (xI (cell)), some (xI (nI to)), some (xI (place)), some (xI (nI k)), some (xI (nI i))] [] w = some (some (xI (nI (prS c cell to place k d i S).1)), w') ∧ Rc E (prS c cell to place k d i S).2 G w' ∧ gr (2 * d) w w'
  | 0, i, S, w, h, _, _, _, h0 => absurd h0 (by decide)
  | d + 1, i, S, w, h, hR, hw, hin, _ => by
    obtain ⟨w1, e1, r1, g1⟩ := k_pour (i := i) (cell := cell) (place := place) hR hw hc ht hk (by omega)
    obtain ⟨p1, p2, p3⟩ := pr1_ok (cell := cell + nI i) (place := place + nI i) hw hc ht hk
    rw [e1]
    unfold prS
    by_cases h0 : (pr1 S c (cell + nI i) to (place + nI i) k).1 = 0
    · rw [if_pos ((nz p2).mpr h0), if_pos h0]
      obtain ⟨i24, c24⟩ := inB_24 hin (by omega) (p3 h0)
      rw [h0] at r1
      obtain ⟨w2, e2, r2, g2⟩ := c_cpour_l hc ht hk d (i + 1) _ _ (by omega) r1 p1 (Or.inr c24) (by omega)
      exact ⟨w2, e2, r2, gr_tr g1 g2 (by omega)⟩
    · rw [if_neg (fun h => h0 ((nz p2).mp h)), if_neg h0]
      exact ⟨w1, rfl, r1, gr_up g1 (by omega)⟩
theorem c_cpour (hR : Rc E S G w) (hw : wf S) (c cell to place k : Int32) : ∃ w', xev 56 0 [some (xA (some (E.1))), some (xI (c)), some (xI (cell)), some (xI (to)), some (xI (place)), some (xI (k)), none] [] w = some (some (xI (spPour S c cell to place k).1), w') ∧ Rc E (spPour S c cell to place k).2 G w' ∧ gr 50 w w' := by
  rw [e_X7_pour_0, b_X7_pour_0]
  simp only [c_ccol, c_cnum, Option.bind_some, xrI_e, if10, spPour]
  by_cases hc : inB c 10
  · rw [if_neg (nn hc)]
    by_cases ht : inB to 10
    · rw [if_neg (nn ht), if_neg (or_nn hc ht)]
      by_cases hk : inB k 9
      · rw [if_neg (show ¬ ¬ inB k 9 from fun q => q hk)]
        obtain ⟨w', e, r, g⟩ := c_cpour_l (cell := cell) (place := place) hc.2 ht.2 hk.2 25 0 S w rfl hR hw (Or.inl rfl) (by decide)
        rw [← inB_nI hc, ← inB_nI ht, ← inB_nI hk, nI_0] at e
        by_cases h8 : k = 8
        · rw [if_pos h8]
          exact ⟨w', e, r, g⟩
        · rw [if_neg h8, if_neg (show ¬ ¬ inB k 8 from fun q => q ⟨hk.1, by
            have a := nI_e hk 8 (by decide) (by decide)
            have : ¬ k.toNatClampNeg = 8 := fun q => h8 (a.mpr q)
            have := hk.2
            omega⟩)]
          exact ⟨w', e, r, g⟩
      · rw [if_pos hk, if_neg (fun q : k = 8 => hk (by rw [q]; decide)), if_pos (fun q => hk ⟨q.1, by have := q.2; omega⟩)]
        exact ⟨w, rfl, hR, gr_refl⟩
    · rw [if_pos ht, if_pos (Or.inr ht)]
      exact ⟨w, rfl, hR, gr_refl⟩
  · rw [if_pos hc, if_pos (Or.inl hc)]
    exact ⟨w, rfl, hR, gr_refl⟩
/-! a whole column is read -/
theorem sGo_s (G : sG) (o : Nat) (X Y : Nat × (Nat → mC)) : sGo (sGo G o X) o Y = sGo G o Y := by
  unfold sGo
  split <;> rfl
theorem c_rall_l {c k o : Nat} (hc : c < 10) (hk : k < 8) (ho : o = 13 ∨ o = 16) : ∀ d i S w g, i + d = 25 → 0 < d → Rc E S (sGo G o (i, g)) w → wf S → ∃ w', xev 83 10 [some (xA (some (E.1))), some (xI (nI c)), some (xI (nI k)), some (xA (some (E.1 + o))), some (xI (0)), some (xI (nI i))] [] w = some (some (xI (nI (raS c k d i S g).1)), w') ∧ Rc E (raS c k d i S g).2.2.2 (sGo G o ((raS c k d i S g).2.1, (raS c k d i S g).2.2.1)) w' ∧ gr d w w'
  | 0, i, S, w, g, h, h0, _, _ => absurd h0 (by decide)
  | d + 1, i, S, w, g, h, _, hR, hw => by
    obtain ⟨fo, hob⟩ := Rc_o hR
    obtain ⟨w1, e1, r1, g1⟩ := c_cread (cell := nI i) hR hw hc hk
    obtain ⟨hw1, _, _, _, a3⟩ := rdA_ok (cell := nI i) (k := k) hw hc hk
    have hl := rdA_lt S c (nI i) k
    rw [e_X7_readAll_10, b_X7_readAll_10, if_pos rfl, if_neg (show ¬ (24 : Int32) < nI i from nI_nlt (a := 24) (by omega) (by decide))]
    unfold raS
    by_cases h0 : (cnt k (rdA S c (nI i) k)).1 = 0
    · obtain ⟨b1, b2, b3⟩ := a3 h0
      have i24 : i < 24 := by
        have := b3.2
        rw [nI_clamp (by omega)] at this
        exact this
      rw [if_pos h0]
      rw [h0, nI_0] at e1
      obtain ⟨sh, he, s1, s2, s3, s4, s5⟩ := Rc_sh r1
      have og := Rc_G r1 ho
      rw [gG_s] at og
      obtain ⟨w2, e2, k2, o2⟩ := c_gadd og (Rc_d r1) i24 s3
      have r2 := Rc_rd r1 ho k2 o2
      rw [sGo_s] at r2
      obtain ⟨w3, e3, r3, g3⟩ := c_rall_l hc hk ho d (i + 1) _ w2 _ (by omega) (by omega) r2 hw1
      refine ⟨w3, ?_, r3, gr_tr (gr_tr g1 (kp_gr k2) (Nat.le_refl _)) g3 (by omega)⟩
      simp only [hob, e1, Option.bind_some, xrI_e, s1, G_o og, e2, xrV_e, nI_1]
      rw [if_pos trivial]
      exact e3
    · rw [if_neg h0]
      have hn0 : ¬ nI (cnt k (rdA S c (nI i) k)).1 = 0 := fun q => h0 ((nz hl).mp q)
      refine ⟨w1, ?_, r1, gr_up g1 (by omega)⟩
      simp only [hob, e1, Option.bind_some, xrI_e]
      rw [if_neg hn0, e_X7_readAll_10, b_X7_readAll_10, if_neg hn0]
theorem c_rall {c k o : Nat} (hR : Rc E S G w) (hw : wf S) (hc : c < 10) (hk : k < 8) (ho : o = 13 ∨ o = 16) : ∃ w', xev 83 0 [some (xA (some (E.1))), some (xI (nI c)), some (xI (nI k)), some (xA (some (E.1 + o))), none, none] [] w = some (some (xI (nI (rAll S c k).1)), w') ∧ Rc E (rAll S c k).2.2.2 (sGo G o ((rAll S c k).2.1, (rAll S c k).2.2.1)) w' ∧ gr 25 w w' := by
  have og := Rc_G hR ho
  obtain ⟨w1, e1, k1, o1⟩ := c_gclear og (Rc_d hR)
  obtain ⟨q1, q2, f, q3, q4⟩ := o1
  have o2 : oG w1 (E.1 + o) (0, fun _ => (0, 0, 0)) := ⟨q1, q2, f, q3, fun i hi => absurd hi (Nat.not_lt_zero i)⟩
  have r1 := Rc_rd hR ho (kp_wide k1 (A := fun a => E.1 + o ≤ a ∧ a < E.1 + o + 2) (fun a e => by omega) (oG_s og)) o2
  obtain ⟨w2, e2, r2, g2⟩ := c_rall_l hc hk ho 25 0 S w1 _ rfl (by decide) r1 hw
  rw [nI_0] at e2
  refine ⟨w2, ?_, r2, gr_tr (kp_gr k1) g2 (by decide)⟩
  rw [e_X7_readAll_0, b_X7_readAll_0]
  simp only [G_o og, Option.bind_some, e1, xrV_e]
  exact e2
/-! sums -/
theorem tok_11 {N : Nat} {v : mC} {k : Nat} (h : tok N v) (hv : v.1 = nI k) (hk : k < 8) : nR 11 v.2.2 := by
  obtain ⟨j, h1, h2, h3⟩ := h
  have : j = k := (nI_eq (by omega) (by omega)).mp (h2.symm.trans hv)
  subst this
  rcases h3 with ⟨_, e⟩ | ⟨_, _, e⟩ | ⟨q, _⟩ | ⟨q, _⟩ | ⟨q, _⟩
  · rw [e]; exact nR_0 _
  · exact e
  · omega
  · omega
  · omega
theorem f2d_0 : FP.f2d 0 = 0 := by decide +kernel
theorem c_total_l {a n k : Nat} {g : Nat → mC} (h : oG w a (n, g)) (hn : n ≤ 24) (hk : k < 8) (hg : ∀ j, j < n → nR 11 (g j).2.2) : ∀ d i, i + d = n → xev 16 8 [some (xA (some (a))), some (xI (nI k)), some (xJ (jS (fun i => (g i).2.1) i)), none, some (xD ((if k = 6 then FP.f2d (fS (fun i => (g i).2.2) i) else dS (fun i => (g i).2.2) i))), none, some (xI (nI i)), none] [] w = some (some (xA (some w.1)), nT w (tot k n g))
  | 0, i, hin => by
    have e : i = n := by omega
    subst e
    have e6 : (nI k = 6) ↔ k = 6 := nI_eq (b := 6) (by omega) (by decide)
    have e7 : (nI k = 7) ↔ k = 7 := nI_eq (b := 7) (by omega) (by decide)
    rw [e_X3_total_8, b_X3_total_8]
    simp only [G_n h, Option.bind_some, c_Thing, xrV_e, e6, e7]
    rw [if_neg (nI_nlt (Nat.le_refl _) (by omega))]
    unfold tot
    by_cases h6 : k = 6
    · subst h6
      rfl
    · rw [if_neg h6, if_neg h6, if_neg h6]
      by_cases h7 : k = 7
      · subst h7
        rfl
      · rw [if_neg h7, if_neg h7]
  | d + 1, i, hin => by
    have e6 : (nI k = 6) ↔ k = 6 := nI_eq (b := 6) (by omega) (by decide)
    obtain ⟨h1, h2, f, h3, h4⟩ := id h
    obtain ⟨b, q1, q2⟩ := h4 i (show i < n by omega)
    have q2' : oT w b (g i) := q2
    have ih := c_total_l h hn hk hg d (i + 1) (by omega)
    have gi := hg i (by omega)
    have gl : ∀ m, m ≤ n → ∀ j, j < m → nR 11 ((fun i => (g i).2.2) j) := fun m hm j hj => hg j (by omega)
    rw [e_X3_total_8, b_X3_total_8]
    simp only [G_n h, Option.bind_some, xgA_of (k := 0) h1 rfl, xaA_of h3 (Or.inr (Or.inl rfl)) (show i < 24 by omega) (by decide), q1, T_J q2', T_D q2', e6, nI_1]
    rw [if_pos (nI_lt (show i < n by omega) (by omega))]
    have js : jS (fun i => (g i).2.1) i + (g i).2.1 = jS (fun i => (g i).2.1) (i + 1) := rfl
    rw [js]
    by_cases h6 : k = 6
    · subst h6
      rw [if_pos rfl] at ih
      rw [if_pos rfl, if_pos rfl]
      obtain ⟨a1, a2, a3⟩ := fS_ok (g := fun i => (g i).2.2) (n := i) (by omega) (gl i (by omega))
      obtain ⟨b1, b2, b3⟩ := fS_ok (g := fun i => (g i).2.2) (n := i + 1) (by omega) (gl (i + 1) (by omega))
      have fs : FP.fadd (fS (fun i => (g i).2.2) i) (FP.d2f (g i).2.2) = fS (fun i => (g i).2.2) (i + 1) := rfl
      rw [a2, a3, fl_d2f gi, fs, b3, nR_D b1]
      exact ih
    · rw [if_neg h6] at ih
      rw [if_neg h6, if_neg h6]
      have ds : FP.dadd (dS (fun i => (g i).2.2) i) (g i).2.2 = dS (fun i => (g i).2.2) (i + 1) := rfl
      rw [ds, nR_D (dS_ok (g := fun i => (g i).2.2) (n := i + 1) (by omega) (gl (i + 1) (by omega)))]
      exact ih
theorem c_total {a n k : Nat} {g : Nat → mC} (h : oG w a (n, g)) (hn : n ≤ 24) (hk : k < 8) (hg : ∀ j, j < n → nR 11 (g j).2.2) : xev 16 0 [some (xA (some (a))), some (xI (nI k)), none, none, none, none, none, none] [] w = some (some (xA (some w.1)), nT w (tot k n g)) := by
  rw [e_X3_total_0, b_X3_total_0]
  have e := c_total_l h hn hk hg n 0 (by omega)
  have z : (if k = 6 then FP.f2d (fS (fun i => (g i).2.2) 0) else dS (fun i => (g i).2.2) 0) = 0 := by
    split
    · exact f2d_0
    · rfl
  rw [z, nI_0] at e
  exact e
theorem c_csum (hR : Rc E S G w) (hw : wf S) (c k : Int32) : ∃ G' w', xev 57 0 [some (xA (some (E.1))), some (xI (c)), some (xI (k))] [] w = some (some (xI (spSum S c k).1), w') ∧ Rc E (spSum S c k).2 G' w' ∧ gr 30 w w' := by
  obtain ⟨fo, hob⟩ := Rc_o hR
  obtain ⟨j7, _, _⟩ := Rc_G7 hR
  rw [e_X7_sum_0, b_X7_sum_0]
  simp only [c_ccol, c_cnum, Option.bind_some, xrI_e, if10, spSum]
  by_cases hc : inB c 10
  · simp only [if_neg (show ¬ ¬ inB c 10 from fun q => q hc)]
    by_cases hk : inB k 8
    · simp only [if_neg (show ¬ ¬ inB k 8 from fun q => q hk)]
      by_cases h0 : k = 0
      · simp only [if_pos h0, if_pos (show ¬ inB k 8 ∨ k = 0 from Or.inr h0)]
        exact ⟨G, w, rfl, hR, gr_refl⟩
      · simp only [if_neg h0, if_neg (show ¬ (¬ inB k 8 ∨ k = 0) from fun q => q.elim (nn hk) h0)]
        obtain ⟨j, hj, rfl, hcl⟩ := inB_ex hc
        obtain ⟨i, hi, rfl, hil⟩ := inB_ex hk
        simp only [hcl, hil]
        obtain ⟨a1, a2, a3, a4, a5, a6⟩ := rAll_ok hw hj hi
        obtain ⟨w1, e1, r1, g1⟩ := c_rall hR hw hj hi (o := 13) (Or.inl rfl)
        obtain ⟨w2, e2, k2, r2⟩ := Rc_uA r1 (nI (rAll S j i).1)
        obtain ⟨i7, _, x2⟩ := Rc_G7 r2
        have x2' : xgI w2 E.1 6 12 = some (nI (rAll S j i).1) := x2
        have e4 : (nI (rAll S j i).1 = 4) ↔ (rAll S j i).1 = 4 := nI_eq (b := 4) (by omega) (by decide)
        simp only [j7, hob, Option.bind_some, e1, xrI_e, e2, x2', e4, i7]
        by_cases h4 : (rAll S j i).1 = 4
        · simp only [if_pos h4]
          rw [h4] at r2
          have og := Rc_G r2 (o := 13) (Or.inl rfl)
          rw [gG_s] at og
          have ct := c_total og a3 hi (fun q hq => tok_11 (a6 q hq).1 (a6 q hq).2 hi)
          have kk := nT_k (Rc_d r2) (tot i (rAll S j i).2.1 (rAll S j i).2.2.1)
          obtain ⟨w3, e3, k3, r3⟩ := Rc_uS (Rc_new r2 kk (Nat.le_refl _)) (nT_T w2 (tot i (rAll S j i).2.1 (rAll S j i).2.2.1))
          simp only [G_o og, Option.bind_some, ct, xrA_e, e3]
          exact ⟨_, w3, rfl, r3, gr_tr (gr_tr (gr_tr g1 (kp_gr k2) (Nat.le_refl _)) (kp_gr kk) (Nat.le_refl _)) (kp_gr k3) (by decide)⟩
        · simp only [if_neg h4]
          exact ⟨_, w2, rfl, r2, gr_tr g1 (kp_gr k2) (by decide)⟩
    · simp only [if_pos hk, if_pos (show ¬ inB k 8 ∨ k = 0 from Or.inl hk)]
      exact ⟨G, w, rfl, hR, gr_refl⟩
  · simp only [if_pos hc]
    exact ⟨G, w, rfl, hR, gr_refl⟩
end PF
