/-! small rules of the class -/
theorem c_ccol (c : Int32) (w : xW) : xev 66 0 [some (xI (c))] [] w = some (some (xI (if inB c 10 then 1 else 0)), w) := by
  rw [e_X7_isColumn_0, b_X7_isColumn_0]
  by_cases h0 : c < 0
  · rw [if_pos h0, if_neg (fun q => q.1 h0)]
  · rw [if_neg h0]
    have := lt_inB (n := 10) (by decide) h0
    by_cases h1 : inB c 10
    · rw [if_pos (show c < 10 from this.mpr h1), if_pos h1]
    · rw [if_neg (fun q : c < 10 => h1 (this.mp q)), if_neg h1]
theorem le_inB {c : Int32} {n : Nat} (hn : n < 2 ^ 30) (h0 : ¬ c < 0) : nI n < c ↔ ¬ inB c (n + 1) := by
  obtain ⟨j, hj, rfl⟩ := nI_of h0
  rw [nI_ltI (by omega) hj]
  constructor
  · intro h q
    have := q.2
    rw [nI_clamp hj] at this
    omega
  · intro h
    by_cases h2 : j < n + 1
    · exact absurd (inB_of h2 (by omega)) h
    · omega
theorem c_cnum (c : Int32) (w : xW) : xev 67 0 [some (xI (c))] [] w = some (some (xI (if inB c 8 then 1 else 0)), w) := by
  rw [e_X7_isNumberType_0, b_X7_isNumberType_0]
  by_cases h0 : c < 0
  · rw [if_pos h0, if_neg (fun q => q.1 h0)]
  · rw [if_neg h0]
    have := le_inB (n := 7) (by decide) h0
    by_cases h1 : inB c 8
    · rw [if_neg (fun q : (7 : Int32) < c => this.mp q h1), if_pos h1]
    · rw [if_pos (show (7 : Int32) < c from this.mpr h1), if_neg h1]
theorem c_cimg (c : Int32) (w : xW) : xev 69 0 [some (xI (c))] [] w = some (some (xI (if inB c 2 then 1 else 0)), w) := by
  rw [e_X7_isImage_0, b_X7_isImage_0]
  by_cases h0 : c < 0
  · rw [if_pos h0, if_neg (fun q => q.1 h0)]
  · rw [if_neg h0]
    have := lt_inB (n := 2) (by decide) h0
    by_cases h1 : inB c 2
    · rw [if_pos (show c < 2 from this.mpr h1), if_pos h1]
    · rw [if_neg (fun q : c < 2 => h1 (this.mp q)), if_neg h1]
theorem c_clab (v : Int64) (w : xW) : xev 68 0 [some (xJ (v)), none] [] w = some (some (xI (if v < 0 ∨ 99 < v then 0 else 1)), w) := by
  rw [e_X7_isLabel_0, b_X7_isLabel_0]
  simp only [lgc_lt, lgc_gt]
  by_cases h0 : v < 0
  · rw [if_pos h0, if_pos (Or.inl h0)]
  · rw [if_neg h0]
    by_cases h1 : 99 < v
    · rw [if_pos h1, if_pos (Or.inr h1)]
    · rw [if_neg h1, if_neg (fun q => q.elim h0 h1)]
theorem c_homes {w : xW} (hh : w.2.2.2 w.2.2.1 = some (aI 7 12 xhom)) {k : Nat} (hk : k < 12) : xev 71 0 [some (xI (nI k))] [] w = some (some (xI (xhom k)), w) := by
  rw [e_X7_homesOf_0, b_X7_homesOf_0, if_neg (nI_pos (by omega))]
  simp only [xlen_I hh, Option.bind_some, xaI_of hh (Or.inr rfl) hk (by decide)]
  exact if_pos (nI_lt hk (by decide))
theorem c_fitsInto {w : xW} (hh : w.2.2.2 w.2.2.1 = some (aI 7 12 xhom)) {ty k : Nat} (ht : ty < 13) (hk : k < 12) : xev 72 0 [some (xI (nI ty)), some (xI (nI k))] [] w = some (some (xI (bI (fitB ty k))), w) := by
  rw [e_X7_fitsInto_0, b_X7_fitsInto_0]
  simp only [c_homes hh hk, Option.bind_some, xrI_e, iteC]
  have d : ∀ ty, ty < 13 → ∀ k, k < 12 → (if (xhom k >>> (nI ty &&& 31)) &&& (1 : Int32) = (1 : Int32) then (1 : Int32) else 0) = bI (fitB ty k) := by decide +kernel
  rw [d ty ht k hk]
theorem bI_t {b : Bool} (h : b = true) : bI b = 1 := by rw [h]; rfl
theorem bI_f {b : Bool} (h : ¬ b = true) : bI b = 0 := by unfold bI; rw [if_neg h]
/-! pages, pairs, readings -/
section PG
variable {w : xW} {a g c p i j : Nat} {C : Nat → sO} {P : Nat × (Nat → Nat) × (Nat → Nat)} {h : sO} {G : Nat × (Nat → mC)} {v : mC}
theorem P_o (hp : oP w g C) : xobj w g 0 = some [xA (some (g + 1))] := xobj_of hp.1
theorem P_c (hp : oP w g C) : xgA w g 0 0 = some (some (g + 1)) := xgA_of hp.1 rfl
theorem c_pat (hp : oP w g C) (hc : c < 10) : ∃ a, xev 1 0 [some (xA (some (g))), some (xI (nI c))] [] w = some (some (xA (some a)), w) ∧ oH w a (C c) := by
  obtain ⟨h1, f, h3, h4⟩ := id hp
  obtain ⟨a, e, h5⟩ := h4 c hc
  refine ⟨a, ?_, h5⟩
  rw [e_X1_at_0, b_X1_at_0]
  simp only [P_c hp, Option.bind_some, xaA_of h3 (Or.inl rfl) hc (by decide), e]
theorem so_4 (n : Nat) (f : Nat → Option Nat) : so (aA 4 n f) ≠ 5 ∧ so (aA 4 n f) ≠ 3 ∧ so (aA 4 n f) ≠ 0 ∧ so (aA 4 n f) ≠ 17 := (by decide : 14 ≠ 5 ∧ 14 ≠ 3 ∧ 14 ≠ 0 ∧ 14 ≠ 17)
theorem so_6 (n : Nat) (f : Nat → Option Nat) : so (aA 6 n f) ≠ 5 ∧ so (aA 6 n f) ≠ 3 ∧ so (aA 6 n f) ≠ 0 ∧ so (aA 6 n f) ≠ 17 := (by decide : 16 ≠ 5 ∧ 16 ≠ 3 ∧ 16 ≠ 0 ∧ 16 ≠ 17)
theorem so_I (n : Nat) (f : Nat → Int32) : so (aI 0 n f) ≠ 5 ∧ so (aI 0 n f) ≠ 3 ∧ so (aI 0 n f) ≠ 0 ∧ so (aI 0 n f) ≠ 17 := (by decide : 10 ≠ 5 ∧ 10 ≠ 3 ∧ 10 ≠ 0 ∧ 10 ≠ 17)
theorem so_b (k : Nat) (fs : List xV) (hk : k = 1 ∨ k = 2 ∨ k = 4 ∨ k = 6) : so (.inr (k, fs)) ≠ 5 ∧ so (.inr (k, fs)) ≠ 3 ∧ so (.inr (k, fs)) ≠ 0 ∧ so (.inr (k, fs)) ≠ 17 := by
  show k ≠ 5 ∧ k ≠ 3 ∧ k ≠ 0 ∧ k ≠ 17
  omega
/-- a holding is of a class that a column may hold -/
def isH (w : xW) (a : Nat) : Prop := xcno w a = some 3 ∨ xcno w a = some 5
theorem xs_P (hp : oP w g C) (hd : wd w) (hc : c < 10) (ha : oH w a h) (hn : isH w a) : ∃ w', xsA w (g + 1) (nI c) a = some w' ∧ kp (g + 1) 0 w w' ∧ w'.1 = w.1 ∧ oP w' g (va_up C c h) := by
  obtain ⟨h1, f, h3, h4⟩ := id hp
  have hk : kp (g + 1) 0 w (xset w (g + 1) (aA 4 10 (va_up f c (some a)))) := kp_set hd h3 (so_4 _ _)
  refine ⟨_, ?_, hk, rfl, kp_c hk (by omega) h1, _, xset_at _ _ _, fun d hd => ?_⟩
  · rcases hn with hn | hn
    · exact xsA_of h3 hn rfl hc (by decide)
    · exact xsA_of h3 hn rfl hc (by decide)
  · by_cases hdc : d = c
    · subst hdc
      exact ⟨a, va_e _ _ _, by rw [va_e]; exact kp_H hk ha⟩
    · obtain ⟨b, e1, e2⟩ := h4 d hd
      exact ⟨b, by rw [va_n _ _ hdc]; exact e1, by rw [va_n _ _ hdc]; exact kp_H hk e2⟩
theorem c_pput (hp : oP w g C) (hd : wd w) (hc : c < 10) (ha : oH w a h) (hn : isH w a) : ∃ w', xev 2 0 [some (xA (some (g))), some (xI (nI c)), some (xA (some (a)))] [] w = some (none, w') ∧ kp (g + 1) 0 w w' ∧ oP w' g (va_up C c h) := by
  obtain ⟨w', e, k, _, o⟩ := xs_P hp hd hc ha hn
  refine ⟨w', ?_, k, o⟩
  rw [e_X1_put_0, b_X1_put_0]
  simp only [P_c hp, Option.bind_some, e]
theorem c_qclear (hq : oQ w p P) (hd : wd w) : ∃ w', xev 6 0 [some (xA (some (p)))] [] w = some (none, w') ∧ kp p 0 w w' ∧ oQ w' p (0, P.2) := by
  obtain ⟨h1, f, g, h3, h4, h5⟩ := hq
  rw [e_X2_clear_0, b_X2_clear_0, xput_of (k := 2) h1 (show 2 < 3 by decide), Option.bind_some]
  have hk : kp p 0 w (xset w p (.inr (1, [xA (some (p + 1)), xA (some (p + 2)), xI 0]))) := kp_set hd h1 (so_b _ _ (Or.inl rfl))
  exact ⟨_, rfl, hk, xset_at _ _ _, f, g, kp_c hk (by omega) h3, kp_c hk (by omega) h4, fun i hi => absurd hi (Nat.not_lt_zero i)⟩
theorem Q_n (hq : oQ w p P) : xgI w p 1 2 = some (nI P.1) := xgI_of hq.1 rfl
theorem Q_o (hq : oQ w p P) : xobj w p 1 = some [xA (some (p + 1)), xA (some (p + 2)), xI (nI P.1)] := xobj_of hq.1
theorem c_qsize (hq : oQ w p P) : xev 8 0 [some (xA (some (p)))] [] w = some (some (xI (nI P.1)), w) := by
  rw [e_X2_size_0, b_X2_size_0, Q_n hq, Option.bind_some]
theorem c_qadd (hq : oQ w p P) (hd : wd w) (hP : P.1 < 24) : ∃ w', xev 7 0 [some (xA (some (p))), some (xI (nI i)), some (xI (nI j))] [] w = some (some (xI 1), w') ∧ kpc (fun a => p ≤ a ∧ a < p + 3) 0 w w' ∧ oQ w' p (P.1 + 1, va_up P.2.1 P.1 i, va_up P.2.2 P.1 j) := by
  obtain ⟨h1, f, g, h3, h4, h5⟩ := id hq
  have k1 : kp (p + 1) 0 w (xset w (p + 1) (aI 0 24 (va_up f P.1 (nI i)))) := kp_set hd h3 (so_I _ _)
  have c1 := kp_c k1 (show p ≠ p + 1 by omega) h1
  have c2 := kp_c k1 (show p + 2 ≠ p + 1 by omega) h4
  have c3 : (xset w (p + 1) (aI 0 24 (va_up f P.1 (nI i)))).2.2.2 (p + 1) = _ := xset_at _ _ _
  have z1 : xgI w p 1 2 = some (nI P.1) := Q_n hq
  have e1 : xsI w (p + 1) (nI P.1) (nI i) = some (xset w (p + 1) (aI 0 24 (va_up f P.1 (nI i)))) := xsI_of h3 hP (by decide)
  generalize xset w (p + 1) (aI 0 24 (va_up f P.1 (nI i))) = w1 at k1 c1 c2 c3 e1
  have k2 : kp (p + 2) 0 w1 (xset w1 (p + 2) (aI 0 24 (va_up g P.1 (nI j)))) := kp_set k1.2.1 c2 (so_I _ _)
  have d1 := kp_c k2 (show p ≠ p + 2 by omega) c1
  have d2 : (xset w1 (p + 2) (aI 0 24 (va_up g P.1 (nI j)))).2.2.2 (p + 2) = _ := xset_at _ _ _
  have d3 := kp_c k2 (show p + 1 ≠ p + 2 by omega) c3
  have e2 : xsI w1 (p + 2) (nI P.1) (nI j) = some (xset w1 (p + 2) (aI 0 24 (va_up g P.1 (nI j)))) := xsI_of c2 hP (by decide)
  generalize xset w1 (p + 2) (aI 0 24 (va_up g P.1 (nI j))) = w2 at k2 d1 d2 d3 e2
  have k3 : kp p 0 w2 (xset w2 p (.inr (1, [xA (some (p + 1)), xA (some (p + 2)), xI (nI (P.1 + 1))]))) := kp_set k2.2.1 d1 (so_b _ _ (Or.inl rfl))
  have e3 : xput w2 p 1 2 (xI (nI P.1 + 1)) = some (xset w2 p (.inr (1, [xA (some (p + 1)), xA (some (p + 2)), xI (nI (P.1 + 1))]))) := by rw [xput_of (k := 2) d1 (show 2 < 3 by decide), nI_1]; rfl
  have f2 := kp_c k3 (show p + 2 ≠ p by omega) d2
  have f1 := kp_c k3 (show p + 1 ≠ p by omega) d3
  refine ⟨_, ?_, ?_, xset_at _ _ _, _, _, f1, f2, ?_⟩
  · rw [e_X2_add_0, b_X2_add_0]
    simp only [z1, Option.bind_some, if_pos (show nI P.1 < 24 from nI_lt hP (by decide)), xgA_of (k := 0) h1 rfl, e1, xgA_of (k := 1) c1 rfl, xgI_of (k := 2) c1 rfl, e2, xgI_of (k := 2) d1 rfl, e3]
  · have kk : kpc (fun a => p ≤ a ∧ a < p + 3) 0 w w1 := by
      obtain ⟨q1, q2, q3, q4, q5, q6, q7, q8⟩ := k1
      refine ⟨q1, q2, q3, q4, q5, q6, fun a ha e he => q7 a (fun q => ha (by have q' : a = p + 1 := q; omega)) e he, fun a ha e he => ?_⟩
      have ha' : a = p ∨ a = p + 1 ∨ a = p + 2 := by omega
      rcases ha' with rfl | rfl | rfl
      · rw [h1] at he; cases he; exact so_b _ _ (Or.inl rfl)
      · rw [h3] at he; cases he; exact so_I _ _
      · rw [h4] at he; cases he; exact so_I _ _
    exact kp_tr (kp_tr kk k2 (Or.inl (by omega)) (Nat.le_refl _)) k3 (Or.inl (by omega)) (Nat.le_refl _)
  · intro q hq
    by_cases hqp : q = P.1
    · subst hqp
      simp only [va_e]
      exact ⟨trivial, trivial⟩
    · simp only [va_n _ _ hqp]
      exact h5 q (by simp only at hq; omega)
theorem c_qfull (hq : oQ w p P) (hP : P.1 = 24) : xev 7 0 [some (xA (some (p))), some (xI (nI i)), some (xI (nI j))] [] w = some (some (xI 0), w) := by
  rw [e_X2_add_0, b_X2_add_0, Q_n hq, Option.bind_some, hP]
  exact if_neg (by decide)
theorem c_qhas (hq : oQ w p P) (hP : P.1 ≤ 24) (x : Int32) : xev 9 0 [some (xA (some (p))), some (xI (x))] [] w = some (some (xI (if inB x P.1 then 1 else 0)), w) := by
  rw [e_X2_has_0, b_X2_has_0]
  simp only [Q_n hq, Option.bind_some]
  by_cases h0 : x < 0
  · rw [if_pos h0, if_neg (fun q => q.1 h0)]
  · rw [if_neg h0]
    have := lt_inB (x := x) (n := P.1) (by omega) h0
    by_cases h1 : inB x P.1
    · rw [if_pos (this.mpr h1), if_pos h1]
    · rw [if_neg (fun q => h1 (this.mp q)), if_neg h1]
theorem c_qidx (hq : oQ w p P) (hP : P.1 ≤ 24) (hi : i < P.1) (s : Int32) : xev 10 0 [some (xA (some (p))), some (xI (nI i)), some (xI (s))] [] w = some (some (xI (nI (sdX P s i))), w) := by
  obtain ⟨h1, f, g, h3, h4, h5⟩ := id hq
  rw [e_X2_index_0, b_X2_index_0]
  simp only [Q_o hq, Option.bind_some, c_qhas hq hP, xrI_e, if_pos (inB_of hi (by omega)), xgA_of (k := 0) h1 rfl, xgA_of (k := 1) h1 rfl, xaI_of h3 (Or.inl rfl) (show i < 24 by omega) (by decide), xaI_of h4 (Or.inl rfl) (show i < 24 by omega) (by decide), (h5 i hi).1, (h5 i hi).2]
  rw [if_neg (by decide)]
  unfold sdX
  by_cases hs : s = 0
  · rw [if_pos hs, if_pos hs]
  · rw [if_neg hs, if_neg hs]
theorem G_n (hg : oG w a G) : xgI w a 2 2 = some (nI G.1) := xgI_of hg.1 rfl
theorem G_o (hg : oG w a G) : xobj w a 2 = some [xA (some (a + 1)), xA (some (a + 2)), xI (nI G.1)] := xobj_of hg.1
theorem c_gclear (hg : oG w a G) (hd : wd w) : ∃ w', xev 12 0 [some (xA (some (a)))] [] w = some (none, w') ∧ kp a 0 w w' ∧ oG w' a (0, G.2) := by
  obtain ⟨h1, h2, f, h3, h4⟩ := hg
  rw [e_X3_clear_0, b_X3_clear_0, xput_of (k := 2) h1 (show 2 < 3 by decide), Option.bind_some]
  have hk : kp a 0 w (xset w a (.inr (2, [xA (some (a + 1)), xA (some (a + 2)), xI 0]))) := kp_set hd h1 (so_b _ _ (Or.inr (Or.inl rfl)))
  exact ⟨_, rfl, hk, xset_at _ _ _, kp_T hk h2, f, kp_c hk (by omega) h3, fun i hi => absurd hi (Nat.not_lt_zero i)⟩
theorem c_gsize (hg : oG w a G) : xev 14 0 [some (xA (some (a)))] [] w = some (some (xI (nI G.1)), w) := by
  rw [e_X3_size_0, b_X3_size_0, G_n hg, Option.bind_some]
theorem c_gat (hg : oG w a G) (hG : G.1 ≤ 24) (hi : i < G.1) : ∃ b, xev 15 0 [some (xA (some (a))), some (xI (nI i))] [] w = some (some (xA (some b)), w) ∧ oT w b (G.2 i) := by
  obtain ⟨h1, h2, f, h3, h4⟩ := id hg
  obtain ⟨b, e1, e2⟩ := h4 i hi
  refine ⟨b, ?_, e2⟩
  rw [e_X3_at_0, b_X3_at_0, if_neg (nI_pos (by omega))]
  simp only [G_n hg, Option.bind_some, if_pos (nI_lt hi (show G.1 < 2 ^ 31 by omega)), xgA_of (k := 0) h1 rfl, xaA_of h3 (Or.inr (Or.inl rfl)) (show i < 24 by omega) (by decide), e1]
theorem c_gadd (hg : oG w a G) (hd : wd w) (hG : G.1 < 24) {b : Nat} (hb : oT w b v) : ∃ w', xev 13 0 [some (xA (some (a))), some (xA (some (b)))] [] w = some (none, w') ∧ kpc (fun c => a ≤ c ∧ c < a + 2) 0 w w' ∧ oG w' a (G.1 + 1, va_up G.2 G.1 v) := by
  obtain ⟨h1, h2, f, h3, h4⟩ := id hg
  have k1 : kp (a + 1) 0 w (xset w (a + 1) (aA 5 24 (va_up f G.1 (some b)))) := kp_set hd h3 (so_5 _ _)
  have c1 := kp_c k1 (show a ≠ a + 1 by omega) h1
  have c3 : (xset w (a + 1) (aA 5 24 (va_up f G.1 (some b)))).2.2.2 (a + 1) = _ := xset_at _ _ _
  have e1 : xsA w (a + 1) (nI G.1) b = some (xset w (a + 1) (aA 5 24 (va_up f G.1 (some b)))) := xsA_of h3 (T_c hb) rfl hG (by decide)
  generalize xset w (a + 1) (aA 5 24 (va_up f G.1 (some b))) = w1 at k1 c1 c3 e1
  have k3 : kp a 0 w1 (xset w1 a (.inr (2, [xA (some (a + 1)), xA (some (a + 2)), xI (nI (G.1 + 1))]))) := kp_set k1.2.1 c1 (so_b _ _ (Or.inr (Or.inl rfl)))
  have e3 : xput w1 a 2 2 (xI (nI G.1 + 1)) = some (xset w1 a (.inr (2, [xA (some (a + 1)), xA (some (a + 2)), xI (nI (G.1 + 1))]))) := by rw [xput_of (k := 2) c1 (show 2 < 3 by decide), nI_1]; rfl
  refine ⟨_, ?_, ?_, xset_at _ _ _, kp_T k3 (kp_T k1 h2), _, kp_c k3 (show a + 1 ≠ a by omega) c3, fun i hi => ?_⟩
  · rw [e_X3_add_0, b_X3_add_0]
    simp only [G_n hg, Option.bind_some, xgA_of (k := 0) h1 rfl, xlen_A h3, if_pos (nI_lt hG (show 24 < 2 ^ 31 by decide)), e1, xgI_of (k := 2) c1 rfl, e3]
  · have kk : kpc (fun c => a ≤ c ∧ c < a + 2) 0 w w1 := by
      obtain ⟨q1, q2, q3, q4, q5, q6, q7, q8⟩ := k1
      refine ⟨q1, q2, q3, q4, q5, q6, fun c hc e he => q7 c (fun q => hc (by have q' : c = a + 1 := q; omega)) e he, fun c hc e he => ?_⟩
      have hc' : c = a ∨ c = a + 1 := by omega
      rcases hc' with rfl | rfl
      · rw [h1] at he; cases he; exact so_b _ _ (Or.inr (Or.inl rfl))
      · rw [h3] at he; cases he; exact so_5 _ _
    exact kp_tr kk k3 (Or.inl (by omega)) (Nat.le_refl _)
  · by_cases hig : i = G.1
    · subst hig
      exact ⟨b, va_e _ _ _, by show oT _ b (va_up G.2 G.1 v G.1); rw [va_e]; exact kp_T k3 (kp_T k1 hb)⟩
    · obtain ⟨c, q1, q2⟩ := h4 i (by simp only at hi; omega)
      exact ⟨c, by rw [va_n _ _ hig]; exact q1, by show oT _ c (va_up G.2 G.1 v i); rw [va_n _ _ hig]; exact kp_T k3 (kp_T k1 q2)⟩
end PG
