/-! more steps: counts, weights, drafts, readings, images, pages -/
def gG (G : sG) (o : Nat) : Nat × (Nat → mC) := if o = 13 then G.1 else G.2.1
def sGo (G : sG) (o : Nat) (X : Nat × (Nat → mC)) : sG := if o = 13 then (X, G.2) else (G.1, X, G.2.2)
section SU
variable {E : sE} {S : sS} {G : sG} {w w' w0 : xW} {A : Nat → Prop} {n : Nat}
theorem Rc_tal (hR : Rc E S G w) : xgA w E.1 6 11 = some (some (E.1 + 20)) ∧ xobj w (E.1 + 20) 4 = some [xA (some (E.1 + 21))] ∧ w.2.2.2 (E.1 + 21) = some (aI 0 114 (qT S)) ∧ xgA w (E.1 + 20) 4 0 = some (some (E.1 + 21)) := by
  obtain ⟨g, sh, he, p, q, h1, h2, h3, h4, h5, h6, h7, h8, h9, h10, ⟨i1, i2, i3, i4, i5⟩, h12⟩ := hR
  exact ⟨xgA_of (k := 11) h1 rfl, xobj_of i2, i3, xgA_of (k := 0) i2 rfl⟩
theorem Rc_wgt (hR : Rc E S G w) : xgA w E.1 6 9 = some (some (E.1 + 19)) ∧ w.2.2.2 (E.1 + 19) = some (aI 0 60 (qW S)) ∧ xgI w E.1 6 10 = some (nI (qN S)) := by
  obtain ⟨g, sh, he, p, q, h1, h2, h3, h4, h5, h6, h7, h8, h9, h10, ⟨i1, i2, i3, i4, i5⟩, h12⟩ := hR
  exact ⟨xgA_of (k := 9) h1 rfl, i1, xgI_of (k := 10) h1 rfl⟩
theorem xsT (hR : Rc E S G w) {i : Nat} {x : Int32} : kp (E.1 + 21) 0 w (xset w (E.1 + 21) (aI 0 114 (va_up (qT S) i x))) ∧ Rc E (S.1, S.2.1, qS S, qH S, qK S, qP S, qW S, qN S, va_up (qT S) i x, qA S, qI S) G (xset w (E.1 + 21) (aI 0 114 (va_up (qT S) i x))) := by
  obtain ⟨_, _, c0, _⟩ := Rc_tal hR
  have k : kp (E.1 + 21) 0 w (xset w (E.1 + 21) (aI 0 114 (va_up (qT S) i x))) := kp_set (Rc_d hR) c0 (so_I _ _)
  refine ⟨k, ?_⟩
  obtain ⟨g, sh, he, p, q, f, b, t1, t2, pq, q1, q2, gg, pg, im, mm, rr, f1, f2, f3, f4, f5, ee⟩ := Rc_fr hR k
  have rn := rw_ne c0 (show 10 ≠ 15 by decide)
  have pn := pg_ne c0 (show 10 ≠ 14 by decide)
  exact ⟨g, sh, he, p, q, b.2 (show ¬ E.1 = E.1 + 21 by omega), t1.2, t2.2, pq, q1.2 (fun a (e : a = E.1 + 21) => by omega), q2.2 (fun a (e : a = E.1 + 21) => by omega), gg, pg.2 (pn _ _ pg.1), ⟨f, im.2 (show ¬ E.1 + 4 = E.1 + 21 by omega), mm.2 (fun h C _ hp => pn h C hp)⟩, fun r x hr => ⟨(rr r x hr).1.2 (rn r x (rr r x hr).1.1), (rr r x hr).2⟩, ⟨f1.2 (show ¬ E.1 + 19 = E.1 + 21 by omega), f2.2 (show ¬ E.1 + 20 = E.1 + 21 by omega), xset_at _ _ _, f4.2 (fun a (e : a = E.1 + 21) => by omega), f5.2 (fun a (e : a = E.1 + 21) => by omega)⟩, ee (fun a (e : a = E.1 + 21) => by omega)⟩
theorem Rc_uT {a b : Nat} (hR : Rc E S G w) (ha : a < 19) (hb : b < 6) : ∃ w', xev 28 0 [some (xA (some (E.1 + 20))), some (xI (nI a)), some (xI (nI b))] [] w = some (some (xI (nI b)), w') ∧ kp (E.1 + 21) 0 w w' ∧ Rc E (uT S (6 * a + b)) G w' := by
  obtain ⟨_, h2, h3, h4⟩ := Rc_tal hR
  obtain ⟨k, r⟩ := xsT hR (i := 6 * a + b) (x := qT S (6 * a + b) + 1)
  refine ⟨_, ?_, k, r⟩
  have e : nI a * (6 : Int32) + nI b = nI (6 * a + b) := by
    rw [show (6 : Int32) = nI 6 from rfl, pk_mul, nI_add, Nat.mul_comm]
  rw [e_X5_add_0, b_X5_add_0]
  simp only [h4, Option.bind_some, e, xaI_of h3 (Or.inl rfl) (show 6 * a + b < 114 by omega) (by decide), xsI_of h3 (show 6 * a + b < 114 by omega) (by decide)]
theorem Rc_uW {i : Nat} {x : Int32} (hR : Rc E S G w) (hi : i < 60) : ∃ w', xsI w (E.1 + 19) (nI i) x = some w' ∧ kp (E.1 + 19) 0 w w' ∧ Rc E (uW S i x) G w' := by
  obtain ⟨_, c0, _⟩ := Rc_wgt hR
  have k : kp (E.1 + 19) 0 w (xset w (E.1 + 19) (aI 0 60 (va_up (qW S) i x))) := kp_set (Rc_d hR) c0 (so_I _ _)
  refine ⟨_, xsI_of c0 hi (by decide), k, ?_⟩
  obtain ⟨g, sh, he, p, q, f, b, t1, t2, pq, q1, q2, gg, pg, im, mm, rr, f1, f2, f3, f4, f5, ee⟩ := Rc_fr hR k
  have rn := rw_ne c0 (show 10 ≠ 15 by decide)
  have pn := pg_ne c0 (show 10 ≠ 14 by decide)
  exact ⟨g, sh, he, p, q, b.2 (show ¬ E.1 = E.1 + 19 by omega), t1.2, t2.2, pq, q1.2 (fun a (e : a = E.1 + 19) => by omega), q2.2 (fun a (e : a = E.1 + 19) => by omega), gg, pg.2 (pn _ _ pg.1), ⟨f, im.2 (show ¬ E.1 + 4 = E.1 + 19 by omega), mm.2 (fun h C _ hp => pn h C hp)⟩, fun r x hr => ⟨(rr r x hr).1.2 (rn r x (rr r x hr).1.1), (rr r x hr).2⟩, ⟨xset_at _ _ _, f2.2 (show ¬ E.1 + 20 = E.1 + 19 by omega), f3.2 (show ¬ E.1 + 21 = E.1 + 19 by omega), f4.2 (fun a (e : a = E.1 + 19) => by omega), f5.2 (fun a (e : a = E.1 + 19) => by omega)⟩, ee (fun a (e : a = E.1 + 19) => by omega)⟩
/-! drafts -/
theorem Rc_pq (hR : Rc E S G w) : ∃ p q, xgA w E.1 6 5 = some (some p) ∧ xgA w E.1 6 6 = some (some q) ∧ oQ w p (qP S) ∧ oQ w q G.2.2 := by
  obtain ⟨g, sh, he, p, q, hb, t1, t2, h1, h2, _⟩ := Rc_b hR
  exact ⟨p, q, xgA_of (k := 5) hb rfl, xgA_of (k := 6) hb rfl, h1, h2⟩
/-- the draft is changed -/
theorem Rc_dr {q : Nat} {P : Nat × (Nat → Nat) × (Nat → Nat)} (hR : Rc E S G w) (hq : xgA w E.1 6 6 = some (some q)) (k : kpc (fun a => q ≤ a ∧ a < q + 3) n w w') (o : oQ w' q P) : Rc E S (G.1, G.2.1, P) w' := by
  obtain ⟨g, sh, he, p, q', f, b, t1, t2, pq, q1, q2, gg, pg, im, mm, rr, f1, f2, f3, f4, f5, ee⟩ := Rc_fr hR k
  have : q' = q := by
    have := xgA_of (k := 6) b.1 rfl
    rw [hq] at this
    cases this
    rfl
  subst this
  obtain ⟨c1, f0, g0, c2, c3, _⟩ := id q2.1
  have rn : ∀ r x, oR w r x → ¬ (q' ≤ r + 2 ∧ r + 2 < q' + 3) := fun r x hr e => by
    have a1 := rw_ne c1 (show 1 ≠ 15 by decide) r x hr
    have a2 := rw_ne c2 (show 10 ≠ 15 by decide) r x hr
    have a3 := rw_ne c3 (show 10 ≠ 15 by decide) r x hr
    omega
  have pn : ∀ r x, oP w r x → ¬ (q' ≤ r + 1 ∧ r + 1 < q' + 3) := fun r x hr e => by
    have a1 := pg_ne c1 (show 1 ≠ 14 by decide) r x hr
    have a2 := pg_ne c2 (show 10 ≠ 14 by decide) r x hr
    have a3 := pg_ne c3 (show 10 ≠ 14 by decide) r x hr
    omega
  exact ⟨g, sh, he, p, q', b.2 (show ¬ (q' ≤ E.1 ∧ E.1 < q' + 3) by omega), t1.2, t2.2, pq, q1.2 (fun a (e : q' ≤ a ∧ a < q' + 3) => by omega), o, gg, pg.2 (pn _ _ pg.1), ⟨f, im.2 (show ¬ (q' ≤ E.1 + 4 ∧ E.1 + 4 < q' + 3) by omega), mm.2 (fun h C _ hp => pn h C hp)⟩, fun r x hr => ⟨(rr r x hr).1.2 (rn r x (rr r x hr).1.1), (rr r x hr).2⟩, ⟨f1.2 (show ¬ (q' ≤ E.1 + 19 ∧ E.1 + 19 < q' + 3) by omega), f2.2 (show ¬ (q' ≤ E.1 + 20 ∧ E.1 + 20 < q' + 3) by omega), f3.2 (show ¬ (q' ≤ E.1 + 21 ∧ E.1 + 21 < q' + 3) by omega), f4.2 (fun a (e : q' ≤ a ∧ a < q' + 3) => by omega), f5.2 (fun a (e : q' ≤ a ∧ a < q' + 3) => by omega)⟩, ee (fun a (e : q' ≤ a ∧ a < q' + 3) => by omega)⟩
theorem kp_wide {a0 : Nat} (k : kp a0 n w w') (hA : ∀ a, a = a0 → A a) (hs : ∀ a, A a → ∀ e, w.2.2.2 a = some e → so e ≠ 5 ∧ so e ≠ 3 ∧ so e ≠ 0 ∧ so e ≠ 17) : kpc A n w w' := by
  obtain ⟨q1, q2, q3, q4, q5, q6, q7, q8⟩ := k
  exact ⟨q1, q2, q3, q4, q5, q6, fun a ha e he => q7 a (fun q => ha (hA a q)) e he, hs⟩
theorem oQ_s {q : Nat} {P : Nat × (Nat → Nat) × (Nat → Nat)} (h : oQ w q P) : ∀ a, (q ≤ a ∧ a < q + 3) → ∀ e, w.2.2.2 a = some e → so e ≠ 5 ∧ so e ≠ 3 ∧ so e ≠ 0 ∧ so e ≠ 17 := by
  intro a ha e he
  obtain ⟨h1, f, g, h3, h4, h5⟩ := h
  have ha' : a = q ∨ a = q + 1 ∨ a = q + 2 := by omega
  rcases ha' with rfl | rfl | rfl
  · rw [h1] at he; cases he; exact so_b _ _ (Or.inl rfl)
  · rw [h3] at he; cases he; exact so_I _ _
  · rw [h4] at he; cases he; exact so_I _ _
theorem Rc_clear {q : Nat} (hR : Rc E S G w) (hq : xgA w E.1 6 6 = some (some q)) (o : oQ w q G.2.2) : ∃ w', xev 6 0 [some (xA (some (q)))] [] w = some (none, w') ∧ w'.1 = w.1 ∧ w'.2.1 ≤ w.2.1 ∧ Rc E S (G.1, G.2.1, 0, G.2.2.2) w' := by
  obtain ⟨w', e, k, o'⟩ := c_qclear o (Rc_d hR)
  refine ⟨w', e, ?_, ?_, Rc_dr hR hq (kp_wide k (fun a e => by omega) (oQ_s o)) o'⟩
  · have := k.2.2.1
    have := k.2.2.2.1
    omega
  · have := k.2.2.2.2.1
    omega
theorem Rc_addq {q i j : Nat} (hR : Rc E S G w) (hq : xgA w E.1 6 6 = some (some q)) (o : oQ w q G.2.2) (hP : G.2.2.1 < 24) : ∃ w', xev 7 0 [some (xA (some (q))), some (xI (nI i)), some (xI (nI j))] [] w = some (some (xI 1), w') ∧ w'.1 = w.1 ∧ w'.2.1 ≤ w.2.1 ∧ Rc E S (G.1, G.2.1, G.2.2.1 + 1, va_up G.2.2.2.1 G.2.2.1 i, va_up G.2.2.2.2 G.2.2.1 j) w' := by
  obtain ⟨w', e, k, o'⟩ := c_qadd o (Rc_d hR) hP
  refine ⟨w', e, ?_, ?_, Rc_dr hR hq k o'⟩
  · have := k.2.2.1
    have := k.2.2.2.1
    omega
  · have := k.2.2.2.2.1
    omega
theorem Rc_adopt (hR : Rc E S G w) : ∃ w', xev 86 0 [some (xA (some (E.1))), none] [] w = some (some (xI (nI G.2.2.1)), w') ∧ w'.1 = w.1 ∧ w'.2.1 = w.2.1 ∧ Rc E (uP S G.2.2) (G.1, G.2.1, qP S) w' := by
  have hd := Rc_d hR
  obtain ⟨g, sh, he, p, q, h1, h2, h3, h4, h5, h6, h7, h8, ⟨f, h9, h9b⟩, h10, ⟨i1, i2, i3, i4, i5⟩, h12⟩ := id hR
  have k : kp E.1 0 w (xset w E.1 (book E.1 g sh he q p (qK S) (qN S) (qA S))) := kp_set hd h1 (show 6 ≠ 5 ∧ 6 ≠ 3 ∧ 6 ≠ 0 ∧ 6 ≠ 17 by decide)
  have rn := rw_ne h1 (show 6 ≠ 15 by decide)
  have pn := pg_ne h1 (show 6 ≠ 14 by decide)
  have o6 : oQ (xset w E.1 (book E.1 g sh he q p (qK S) (qN S) (qA S))) q G.2.2 := kp_Q k (fun a (e : a = E.1) => by omega) h6
  refine ⟨xset w E.1 (book E.1 g sh he q p (qK S) (qN S) (qA S)), ?_, rfl, rfl, ?_⟩
  · have p1 : xput w E.1 6 5 (xA (some q)) = some (xset w E.1 (book E.1 g sh he q q (qK S) (qN S) (qA S))) := xput_of (k := 5) h1 (show 5 < 13 by decide)
    have p2 : xput (xset w E.1 (book E.1 g sh he q q (qK S) (qN S) (qA S))) E.1 6 6 (xA (some p)) = some (xset w E.1 (book E.1 g sh he q p (qK S) (qN S) (qA S))) := (xput_of (k := 6) (xset_at w E.1 (book E.1 g sh he q q (qK S) (qN S) (qA S))) (show 6 < 13 by decide)).trans (congrArg some (xset_xset _ _ _ _))
    rw [e_X7_adoptDraft_0, b_X7_adoptDraft_0, xgA_of (k := 5) h1 rfl, Option.bind_some, xgA_of (k := 6) h1 rfl, Option.bind_some, p1, Option.bind_some, p2, Option.bind_some]
    rw [xgA_of (k := 5) (xset_at w E.1 (book E.1 g sh he q p (qK S) (qN S) (qA S))) rfl, Option.bind_some, Option.bind_some, Q_o o6, Option.bind_some, c_qsize o6, Option.bind_some, xrI_e]
  · exact ⟨g, sh, he, q, p, xset_at _ _ _, kp_T k h2, kp_T k h3, by omega, o6, kp_Q k (fun a (e : a = E.1) => by omega) h5, h7, kp_P k (pn _ _ h8) h8, ⟨f, kp_c k (show ¬ E.1 + 4 = E.1 by omega) h9, kp_M k (fun h C _ hp => pn h C hp) h9b⟩, fun r x hr => ⟨kp_R k (rn r x (h10 r x hr).1) (h10 r x hr).1, (h10 r x hr).2⟩, ⟨kp_c k (show ¬ E.1 + 19 = E.1 by omega) i1, kp_c k (show ¬ E.1 + 20 = E.1 by omega) i2, kp_c k (show ¬ E.1 + 21 = E.1 by omega) i3, kp_G k (fun a (e : a = E.1) => by omega) i4, kp_G k (fun a (e : a = E.1) => by omega) i5⟩, kp_E k (fun a (e : a = E.1) => by omega) h12⟩
/-! readings -/
theorem Rc_G {o : Nat} (hR : Rc E S G w) (ho : o = 13 ∨ o = 16) : oG w (E.1 + o) (gG G o) := by
  obtain ⟨g, sh, he, p, q, h1, h2, h3, h4, h5, h6, h7, h8, h9, h10, ⟨i1, i2, i3, i4, i5⟩, h12⟩ := hR
  rcases ho with rfl | rfl
  · exact i4
  · exact i5
theorem Rc_G7 (hR : Rc E S G w) : xgA w E.1 6 7 = some (some (E.1 + 13)) ∧ xgA w E.1 6 8 = some (some (E.1 + 16)) ∧ xgI w E.1 6 12 = some (qA S) := by
  obtain ⟨g, sh, he, p, q, h1, h2, h3, h4, h5, h6, h7, h8, h9, h10, h11, h12⟩ := hR
  exact ⟨xgA_of (k := 7) h1 rfl, xgA_of (k := 8) h1 rfl, xgI_of (k := 12) h1 rfl⟩
theorem oG_s {a0 : Nat} {X : Nat × (Nat → mC)} (h : oG w a0 X) : ∀ a, (a0 ≤ a ∧ a < a0 + 2) → ∀ e, w.2.2.2 a = some e → so e ≠ 5 ∧ so e ≠ 3 ∧ so e ≠ 0 ∧ so e ≠ 17 := by
  intro a ha e he
  obtain ⟨h1, _, f, h3, _⟩ := h
  have ha' : a = a0 ∨ a = a0 + 1 := by omega
  rcases ha' with rfl | rfl
  · rw [h1] at he; cases he; exact so_b _ _ (Or.inr (Or.inl rfl))
  · rw [h3] at he; cases he; exact so_5 _ _
theorem Rc_rd {o : Nat} {X : Nat × (Nat → mC)} (hR : Rc E S G w) (ho : o = 13 ∨ o = 16) (k : kpc (fun a => E.1 + o ≤ a ∧ a < E.1 + o + 2) n w w') (x : oG w' (E.1 + o) X) : Rc E S (sGo G o X) w' := by
  have og := Rc_G hR ho
  obtain ⟨g, sh, he, p, q, f, b, t1, t2, pq, q1, q2, gg, pg, im, mm, rr, f1, f2, f3, f4, f5, ee⟩ := Rc_fr hR k
  obtain ⟨c1, _, f0, c2, _⟩ := id og
  have pn : ∀ r x, oP w r x → ¬ (E.1 + o ≤ r + 1 ∧ r + 1 < E.1 + o + 2) := fun r x hr e => by
    have a1 := pg_ne c1 (show 2 ≠ 14 by decide) r x hr
    have a2 := pg_ne c2 (show 15 ≠ 14 by decide) r x hr
    omega
  have fin : oG w' (E.1 + 13) (sGo G o X).1 ∧ oG w' (E.1 + 16) (sGo G o X).2.1 ∧ (sGo G o X).2.2 = G.2.2 := by
    rcases ho with rfl | rfl
    · exact ⟨x, f5.2 (fun a (e : E.1 + 13 ≤ a ∧ a < E.1 + 13 + 2) => by omega), rfl⟩
    · exact ⟨f4.2 (fun a (e : E.1 + 16 ≤ a ∧ a < E.1 + 16 + 2) => by omega), x, rfl⟩
  exact ⟨g, sh, he, p, q, b.2 (show ¬ (E.1 + o ≤ E.1 ∧ E.1 < E.1 + o + 2) by omega), t1.2, t2.2, pq, q1.2 (fun a (e : E.1 + o ≤ a ∧ a < E.1 + o + 2) => by omega), by rw [fin.2.2]; exact q2.2 (fun a (e : E.1 + o ≤ a ∧ a < E.1 + o + 2) => by omega), gg, pg.2 (pn _ _ pg.1), ⟨f, im.2 (show ¬ (E.1 + o ≤ E.1 + 4 ∧ E.1 + 4 < E.1 + o + 2) by omega), mm.2 (fun h C _ hp => pn h C hp)⟩, fun r x hr => ⟨(rr r x hr).1.2 (show ¬ (E.1 + o ≤ r + 2 ∧ r + 2 < E.1 + o + 2) by have := (rr r x hr).2; omega), (rr r x hr).2⟩, ⟨f1.2 (show ¬ (E.1 + o ≤ E.1 + 19 ∧ E.1 + 19 < E.1 + o + 2) by omega), f2.2 (show ¬ (E.1 + o ≤ E.1 + 20 ∧ E.1 + 20 < E.1 + o + 2) by omega), f3.2 (show ¬ (E.1 + o ≤ E.1 + 21 ∧ E.1 + 21 < E.1 + o + 2) by omega), fin.1, fin.2.1⟩, ee (fun a (e : E.1 + o ≤ a ∧ a < E.1 + o + 2) => by omega)⟩
theorem gG_s (G : sG) {o : Nat} (X : Nat × (Nat → mC)) : gG (sGo G o X) o = X := by
  unfold gG sGo
  split <;> rfl
/-! images and pages -/
theorem Rc_im {a0 k h : Nat} {R' : Nat → Option sR} {C : Nat → sO} (hR : Rc E S G w0) (kk : kp a0 n w0 w) (ha : w0.1 ≤ a0) (hr : ∀ r x, R' r = some x → oR w r x ∧ E.1 + 44 ≤ r) (hk : k < 2) (hp : oP w h C) (hh : w0.1 ≤ h) : ∃ w', xsA w (E.1 + 4) (nI k) h = some w' ∧ w'.1 = w.1 ∧ w'.2.1 = w.2.1 ∧ Rc E (uI (uRs S R') k C) G w' := by
  have hn := Rc_n hR
  have hd0 := Rc_d hR
  have hgl : ∃ g, w0.2.2.2 E.1 = w0.2.2.2 E.1 ∧ xgA w0 E.1 6 0 = some (some g) ∧ g < w0.1 := by
    obtain ⟨g, e1, e2⟩ := Rc_g hR
    exact ⟨g, rfl, e1, hd0 _ _ e2.1⟩
  obtain ⟨g1, _, e1, e2⟩ := hgl
  have hR1 := Rc_rows hR kk ha hr
  have e3 : xgA w E.1 6 0 = some (some g1) := by
    obtain ⟨g, sh, he, p, q, hb, _⟩ := Rc_b hR
    have := xgA_of (k := 0) hb rfl
    rw [e1] at this
    cases this
    have : w.2.2.2 E.1 = _ := kp_c kk (show ¬ E.1 = a0 by omega) hb
    exact xgA_of (k := 0) this rfl
  obtain ⟨g, sh, he, p, q, h1, h2, h3, h4, h5, h6, h7, h8, ⟨f, h9, h9b⟩, h10, ⟨i1, i2, i3, i4, i5⟩, h12⟩ := hR1
  have : g = g1 := by
    have := xgA_of (k := 0) h1 rfl
    rw [e3] at this
    cases this
    rfl
  subst this
  have kx : kp (E.1 + 4) 0 w (xset w (E.1 + 4) (aA 6 2 (va_up f k (some h)))) := kp_set kk.2.1 h9 (so_6 _ _)
  have rn := rw_ne h9 (show 16 ≠ 15 by decide)
  have pn := pg_ne h9 (show 16 ≠ 14 by decide)
  refine ⟨_, xsA_of h9 (xcno_of hp.1) rfl hk (by decide), rfl, rfl, ?_⟩
  refine ⟨g, sh, he, p, q, kp_c kx (show ¬ E.1 = E.1 + 4 by omega) h1, kp_T kx h2, kp_T kx h3, h4, kp_Q kx (fun a (e : a = E.1 + 4) => by omega) h5, kp_Q kx (fun a (e : a = E.1 + 4) => by omega) h6, h7, kp_P kx (pn _ _ h8) h8, ⟨_, xset_at _ _ _, fun j hj => ?_⟩, fun r x hr => ⟨kp_R kx (rn r x (h10 r x hr).1) (h10 r x hr).1, (h10 r x hr).2⟩, ⟨kp_c kx (show ¬ E.1 + 19 = E.1 + 4 by omega) i1, kp_c kx (show ¬ E.1 + 20 = E.1 + 4 by omega) i2, kp_c kx (show ¬ E.1 + 21 = E.1 + 4 by omega) i3, kp_G kx (fun a (e : a = E.1 + 4) => by omega) i4, kp_G kx (fun a (e : a = E.1 + 4) => by omega) i5⟩, kp_E kx (fun a (e : a = E.1 + 4) => by omega) h12⟩
  show (va_up (qI S) k (some C) j = none → _) ∧ ∀ C', va_up (qI S) k (some C) j = some C' → _
  by_cases hjk : j = k
  · subst hjk
    rw [va_e]
    refine ⟨fun e => (by cases e), fun C' e => ?_⟩
    cases e
    exact ⟨h, va_e _ _ _, by omega, kp_P kx (pn _ _ hp) hp⟩
  · rw [va_n _ _ hjk, va_n _ _ hjk]
    exact kp_M kx (fun h C _ hp => pn h C hp) h9b j hj
theorem Rc_pg {a0 h : Nat} {R' : Nat → Option sR} {C : Nat → sO} (hR : Rc E S G w0) (kk : kp a0 n w0 w) (ha : w0.1 ≤ a0) (hr : ∀ r x, R' r = some x → oR w r x ∧ E.1 + 44 ≤ r) (hp : oP w h C) (hh : w0.1 ≤ h) : ∃ w', xput w E.1 6 0 (xA (some h)) = some w' ∧ w'.1 = w.1 ∧ w'.2.1 = w.2.1 ∧ Rc E (uPg (uRs S R') C) G w' := by
  have hn := Rc_n hR
  have hd0 := Rc_d hR
  have hR1 := Rc_rows hR kk ha hr
  obtain ⟨g0, sh0, he0, p0, q0, b1, _, _, _, _, _, _, _, ⟨f0, b9, b9b⟩, _⟩ := hR
  obtain ⟨g, sh, he, p, q, h1, h2, h3, h4, h5, h6, h7, h8, ⟨f, h9, h9b⟩, h10, ⟨i1, i2, i3, i4, i5⟩, h12⟩ := hR1
  have ef : f0 = f := by
    have := kp_c kk (show ¬ E.1 + 4 = a0 by omega) b9
    rw [h9] at this
    cases this
    rfl
  subst ef
  have kx : kp E.1 0 w (xset w E.1 (book E.1 h sh he p q (qK S) (qN S) (qA S))) := kp_set kk.2.1 h1 (show 6 ≠ 5 ∧ 6 ≠ 3 ∧ 6 ≠ 0 ∧ 6 ≠ 17 by decide)
  have rn := rw_ne h1 (show 6 ≠ 15 by decide)
  have pn := pg_ne h1 (show 6 ≠ 14 by decide)
  refine ⟨_, xput_of (k := 0) h1 (show 0 < 13 by decide), rfl, rfl, ?_⟩
  refine ⟨h, sh, he, p, q, xset_at _ _ _, kp_T kx h2, kp_T kx h3, h4, kp_Q kx (fun a (e : a = E.1) => by omega) h5, kp_Q kx (fun a (e : a = E.1) => by omega) h6, Or.inr (by omega), kp_P kx (pn _ _ hp) hp, ⟨f0, kp_c kx (show ¬ E.1 + 4 = E.1 by omega) h9, fun j hj => ⟨(h9b j hj).1, fun C' hC' => ?_⟩⟩, fun r x hr => ⟨kp_R kx (rn r x (h10 r x hr).1) (h10 r x hr).1, (h10 r x hr).2⟩, ⟨kp_c kx (show ¬ E.1 + 19 = E.1 by omega) i1, kp_c kx (show ¬ E.1 + 20 = E.1 by omega) i2, kp_c kx (show ¬ E.1 + 21 = E.1 by omega) i3, kp_G kx (fun a (e : a = E.1) => by omega) i4, kp_G kx (fun a (e : a = E.1) => by omega) i5⟩, kp_E kx (fun a (e : a = E.1) => by omega) h12⟩
  obtain ⟨y, y1, y2, y3⟩ := (h9b j hj).2 C' hC'
  obtain ⟨z, z1, z2, z3⟩ := (b9b j hj).2 C' hC'
  have : z = y := by
    rw [y1] at z1
    cases z1
    rfl
  subst this
  have := hd0 _ _ z3.1
  exact ⟨z, y1, by omega, kp_P kx (pn _ _ y3) y3⟩
end SU
