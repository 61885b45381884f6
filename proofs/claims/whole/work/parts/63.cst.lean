/-! how the notebook changes when a cell changes -/
section FR
variable {E : sE} {S : sS} {G : sG} {w w' : xW} {A : Nat → Prop} {n : Nat}
theorem Rc_d (hR : Rc E S G w) : wd w := by
  obtain ⟨g, sh, he, p, q, h1, h2, h3, h4, h5, h6, h7, h8, h9, h10, h11, h12⟩ := hR
  exact h12.2.1
theorem Rc_h (hR : Rc E S G w) : w.2.2.2 w.2.2.1 = some (aI 7 12 xhom) := by
  obtain ⟨g, sh, he, p, q, h1, h2, h3, h4, h5, h6, h7, h8, h9, h10, h11, h12⟩ := hR
  exact h12.2.2.2.1
theorem Rc_n (hR : Rc E S G w) : E.1 + 44 ≤ w.1 := by
  obtain ⟨g, sh, he, p, q, h1, h2, h3, h4, h5, h6, h7, h8, h9, h10, h11, h12⟩ := hR
  exact h12.2.2.1
theorem Rc_R {r : Nat} {x : sR} (hR : Rc E S G w) (h : qR S r = some x) : oR w r x ∧ E.1 + 44 ≤ r ∧ r + 2 < w.1 := by
  have hd := Rc_d hR
  obtain ⟨g, sh, he, p, q, h1, h2, h3, h4, h5, h6, h7, h8, h9, h10, h11, h12⟩ := hR
  obtain ⟨a, b⟩ := h10 r x h
  obtain ⟨_, _, f, c, _⟩ := id a
  exact ⟨a, b, hd _ _ c⟩
theorem Rc_fresh {r : Nat} (hR : Rc E S G w) (h : w.1 ≤ r) : qR S r = none := by
  cases hq : qR S r with
  | none => rfl
  | some x =>
    have := (Rc_R hR hq).2.2
    omega
/-- what a change leaves -/
theorem Rc_fr (hR : Rc E S G w) (k : kpc A n w w') : ∃ g sh he p q f,
    (w.2.2.2 E.1 = some (book E.1 g sh he p q (qK S) (qN S) (qA S)) ∧ (¬ A E.1 → w'.2.2.2 E.1 = some (book E.1 g sh he p q (qK S) (qN S) (qA S)))) ∧
    (oT w sh (qS S) ∧ oT w' sh (qS S)) ∧ (oT w he (qH S) ∧ oT w' he (qH S)) ∧
    ((p = E.1 + 7 ∧ q = E.1 + 10) ∨ (p = E.1 + 10 ∧ q = E.1 + 7)) ∧
    (oQ w p (qP S) ∧ ((∀ a, A a → a < p ∨ p + 3 ≤ a) → oQ w' p (qP S))) ∧
    (oQ w q G.2.2 ∧ ((∀ a, A a → a < q ∨ q + 3 ≤ a) → oQ w' q G.2.2)) ∧
    (g = E.1 + 1 ∨ E.1 + 44 ≤ g) ∧ (oP w g (qC S) ∧ (¬ A (g + 1) → oP w' g (qC S))) ∧
    (w.2.2.2 (E.1 + 4) = some (aA 6 2 f) ∧ (¬ A (E.1 + 4) → w'.2.2.2 (E.1 + 4) = some (aA 6 2 f))) ∧
    (oM w g f (qI S) ∧ ((∀ h C, h ≠ g → oP w h C → ¬ A (h + 1)) → oM w' g f (qI S))) ∧
    (∀ r x, qR S r = some x → (oR w r x ∧ (¬ A (r + 2) → oR w' r x)) ∧ E.1 + 44 ≤ r) ∧
    (w.2.2.2 (E.1 + 19) = some (aI 0 60 (qW S)) ∧ (¬ A (E.1 + 19) → w'.2.2.2 (E.1 + 19) = some (aI 0 60 (qW S)))) ∧
    (w.2.2.2 (E.1 + 20) = some (.inr (4, [xA (some (E.1 + 21))])) ∧ (¬ A (E.1 + 20) → w'.2.2.2 (E.1 + 20) = some (.inr (4, [xA (some (E.1 + 21))])))) ∧
    (w.2.2.2 (E.1 + 21) = some (aI 0 114 (qT S)) ∧ (¬ A (E.1 + 21) → w'.2.2.2 (E.1 + 21) = some (aI 0 114 (qT S)))) ∧
    (oG w (E.1 + 13) G.1 ∧ ((∀ b, A b → b < E.1 + 13 ∨ E.1 + 13 + 2 ≤ b) → oG w' (E.1 + 13) G.1)) ∧
    (oG w (E.1 + 16) G.2.1 ∧ ((∀ b, A b → b < E.1 + 16 ∨ E.1 + 16 + 2 ≤ b) → oG w' (E.1 + 16) G.2.1)) ∧
    ((∀ a, A a → a < E.1 + 22 ∨ E.1 + 44 ≤ a) → oE E.1 E.2.1 E.2.2.1 E.2.2.2.1 E.2.2.2.2 w') := by
  obtain ⟨g, sh, he, p, q, h1, h2, h3, h4, h5, h6, h7, h8, ⟨f, h9, h9b⟩, h10, ⟨i1, i2, i3, i4, i5⟩, h12⟩ := hR
  exact ⟨g, sh, he, p, q, f, ⟨h1, fun a => kp_c k a h1⟩, ⟨h2, kp_T k h2⟩, ⟨h3, kp_T k h3⟩, h4, ⟨h5, fun a => kp_Q k a h5⟩, ⟨h6, fun a => kp_Q k a h6⟩, h7, ⟨h8, fun a => kp_P k a h8⟩, ⟨h9, fun a => kp_c k a h9⟩, ⟨h9b, fun a => kp_M k a h9b⟩, fun r x hr => ⟨⟨(h10 r x hr).1, fun a => kp_R k a (h10 r x hr).1⟩, (h10 r x hr).2⟩, ⟨i1, fun a => kp_c k a i1⟩, ⟨i2, fun a => kp_c k a i2⟩, ⟨i3, fun a => kp_c k a i3⟩, ⟨i4, fun a => kp_G k a i4⟩, ⟨i5, fun a => kp_G k a i5⟩, fun a => kp_E k a h12⟩
/-- a cell of another sort than a page's array -/
theorem pg_ne {a0 : Nat} {e0 : xE} (h0 : w.2.2.2 a0 = some e0) (hs : so e0 ≠ 14) : ∀ h C, oP w h C → h + 1 ≠ a0 := by
  intro h C hp e
  obtain ⟨_, f, h3, _⟩ := hp
  exact so_ne h3 h0 (fun q => hs q.symm) e
theorem rw_ne {a0 : Nat} {e0 : xE} (h0 : w.2.2.2 a0 = some e0) (hs : so e0 ≠ 15) : ∀ r x, oR w r x → r + 2 ≠ a0 := by
  intro r x hr e
  obtain ⟨_, _, f, h3, _⟩ := hr
  exact so_ne h3 h0 (fun q => hs q.symm) e
/-- new cells; rows may be added -/
theorem Rc_rows {a0 : Nat} {R' : Nat → Option sR} (hR : Rc E S G w) (k : kp a0 n w w') (ha : w.1 ≤ a0) (hr : ∀ r x, R' r = some x → oR w' r x ∧ E.1 + 44 ≤ r) : Rc E (uRs S R') G w' := by
  have hd := Rc_d hR
  have hn := Rc_n hR
  obtain ⟨g, sh, he, p, q, f, b, t1, t2, pq, q1, q2, gg, pg, im, mm, rr, f1, f2, f3, f4, f5, ee⟩ := Rc_fr hR k
  have ne : ∀ {a : Nat} {e : xE}, w.2.2.2 a = some e → ¬ a = a0 := fun h => by have := hd _ _ h; omega
  have pn : ∀ h C, oP w h C → ¬ h + 1 = a0 := fun h C hp => by
    obtain ⟨_, f, h3, _⟩ := hp
    exact ne h3
  exact ⟨g, sh, he, p, q, b.2 (ne b.1), t1.2, t2.2, pq, q1.2 (fun a (e : a = a0) => by omega), q2.2 (fun a (e : a = a0) => by omega), gg, pg.2 (pn _ _ pg.1), ⟨f, im.2 (ne im.1), mm.2 (fun h C _ hp => pn h C hp)⟩, hr, ⟨f1.2 (ne f1.1), f2.2 (ne f2.1), f3.2 (ne f3.1), f4.2 (fun a (e : a = a0) => by omega), f5.2 (fun a (e : a = a0) => by omega)⟩, ee (fun a (e : a = a0) => by omega)⟩
theorem Rc_new {a0 : Nat} (hR : Rc E S G w) (k : kp a0 n w w') (ha : w.1 ≤ a0) : Rc E S G w' := Rc_rows (R' := qR S) hR k ha (fun r x hr => by
  obtain ⟨h1, h2, h3⟩ := Rc_R hR hr
  exact ⟨kp_R k (by omega) h1, h2⟩)
theorem Rc_row {a0 r : Nat} {x : sR} (hR : Rc E S G w) (k : kp a0 n w w') (ha : w.1 ≤ a0) (hr : oR w' r x) (hw : w.1 ≤ r) : Rc E (uR S r x) G w' := Rc_rows (R' := va_up (qR S) r (some x)) hR k ha (fun q y hq => by
  by_cases hqr : q = r
  · subst hqr
    rw [va_e] at hq
    cases hq
    have := Rc_n hR
    exact ⟨hr, by omega⟩
  · rw [va_n _ _ hqr] at hq
    obtain ⟨h1, h2, h3⟩ := Rc_R hR hq
    exact ⟨kp_R k (by omega) h1, h2⟩)
/-- a row is changed -/
theorem Rc_put {r : Nat} {x y : sR} (hR : Rc E S G w) (k : kp (r + 2) n w w') (hx : qR S r = some x) (hr : oR w' r y) : Rc E (uR S r y) G w' := by
  obtain ⟨r1, r2, r3⟩ := Rc_R hR hx
  obtain ⟨_, _, f0, c0, _⟩ := id r1
  obtain ⟨g, sh, he, p, q, f, b, t1, t2, pq, q1, q2, gg, pg, im, mm, rr, f1, f2, f3, f4, f5, ee⟩ := Rc_fr hR k
  have pn := pg_ne c0 (show 15 ≠ 14 by decide)
  refine ⟨g, sh, he, p, q, b.2 (show E.1 ≠ r + 2 by omega), t1.2, t2.2, pq, q1.2 (fun a (e : a = r + 2) => by omega), q2.2 (fun a (e : a = r + 2) => by omega), gg, pg.2 (pn _ _ pg.1), ⟨f, im.2 (show E.1 + 4 ≠ r + 2 by omega), mm.2 (fun h C _ hp => pn h C hp)⟩, fun s z hs => ?_, ⟨f1.2 (show E.1 + 19 ≠ r + 2 by omega), f2.2 (show E.1 + 20 ≠ r + 2 by omega), f3.2 (show E.1 + 21 ≠ r + 2 by omega), f4.2 (fun a (e : a = r + 2) => by omega), f5.2 (fun a (e : a = r + 2) => by omega)⟩, ee (fun a (e : a = r + 2) => by omega)⟩
  have hs' : va_up (qR S) r (some y) s = some z := hs
  by_cases hsr : s = r
  · subst hsr
    rw [va_e] at hs'
    cases hs'
    exact ⟨hr, r2⟩
  · rw [va_n _ _ hsr] at hs'
    exact ⟨(rr s z hs').1.2 (show ¬ s + 2 = r + 2 by omega), (rr s z hs').2⟩
/-- the page -/
theorem Rc_g (hR : Rc E S G w) : ∃ g, xgA w E.1 6 0 = some (some g) ∧ oP w g (qC S) := by
  obtain ⟨g, sh, he, p, q, h1, h2, h3, h4, h5, h6, h7, h8, h9, h10, h11, h12⟩ := hR
  exact ⟨g, xgA_of (k := 0) h1 rfl, h8⟩
theorem Rc_o (hR : Rc E S G w) : ∃ fs, xobj w E.1 6 = some fs := by
  obtain ⟨g, sh, he, p, q, h1, h2, h3, h4, h5, h6, h7, h8, h9, h10, h11, h12⟩ := hR
  exact ⟨_, xobj_of h1⟩
theorem Rc_uC {g c a : Nat} {h : sO} (hR : Rc E S G w) (hg : xgA w E.1 6 0 = some (some g)) (hc : c < 10) (ha : oH w a h) (hn : isH w a) : ∃ w', xev 2 0 [some (xA (some (g))), some (xI (nI c)), some (xA (some (a)))] [] w = some (none, w') ∧ kp (g + 1) 0 w w' ∧ Rc E (uC S c h) G w' := by
  obtain ⟨g', h0, h8⟩ := Rc_g hR
  rw [hg] at h0
  cases h0
  obtain ⟨w', e, k, o⟩ := c_pput h8 (Rc_d hR) hc ha hn
  refine ⟨w', e, k, ?_⟩
  obtain ⟨g', sh, he, p, q, f, b, t1, t2, pq, q1, q2, gg, pg, im, mm, rr, f1, f2, f3, f4, f5, ee⟩ := Rc_fr hR k
  have : g' = g := by
    have := xgA_of (k := 0) b.1 rfl
    rw [hg] at this
    cases this
    rfl
  subst this
  obtain ⟨_, f0, c0, _⟩ := id h8
  have rn := rw_ne c0 (show 14 ≠ 15 by decide)
  exact ⟨g', sh, he, p, q, b.2 (show E.1 ≠ g' + 1 by omega), t1.2, t2.2, pq, q1.2 (fun a (e : a = g' + 1) => by omega), q2.2 (fun a (e : a = g' + 1) => by omega), gg, o, ⟨f, im.2 (show E.1 + 4 ≠ g' + 1 by omega), mm.2 (fun h C hne hp => show ¬ h + 1 = g' + 1 by omega)⟩, fun r x hr => ⟨(rr r x hr).1.2 (rn r x (rr r x hr).1.1), (rr r x hr).2⟩, ⟨f1.2 (show E.1 + 19 ≠ g' + 1 by omega), f2.2 (show E.1 + 20 ≠ g' + 1 by omega), f3.2 (show E.1 + 21 ≠ g' + 1 by omega), f4.2 (fun a (e : a = g' + 1) => by omega), f5.2 (fun a (e : a = g' + 1) => by omega)⟩, ee (fun a (e : a = g' + 1) => by omega)⟩
/-- fields of the book -/
theorem bk_sn {x0 g sh he p q : Nat} {K : Option Nat} {N : Nat} {A : Int32} : so (book x0 g sh he p q K N A) = 6 := rfl
/-- the book itself is set anew -/
theorem Rc_bk {sh' he' : Nat} {K' : Option Nat} {N' : Nat} {A' : Int32} {v1 v2 : mC} {g sh he p q : Nat} (hR : Rc E S G w) (hb : w.2.2.2 E.1 = some (book E.1 g sh he p q (qK S) (qN S) (qA S))) (t1 : oT w sh' v1) (t2 : oT w he' v2) : kp E.1 0 w (xset w E.1 (book E.1 g sh' he' p q K' N' A')) ∧ Rc E (S.1, S.2.1, v1, v2, K', qP S, qW S, N', qT S, A', qI S) G (xset w E.1 (book E.1 g sh' he' p q K' N' A')) := by
  have k : kp E.1 0 w (xset w E.1 (book E.1 g sh' he' p q K' N' A')) := kp_set (Rc_d hR) hb (show 6 ≠ 5 ∧ 6 ≠ 3 ∧ 6 ≠ 0 ∧ 6 ≠ 17 by decide)
  refine ⟨k, ?_⟩
  obtain ⟨g', sh2, he2, p', q', f, b, _, _, pq, q1, q2, gg, pg, im, mm, rr, f1, f2, f3, f4, f5, ee⟩ := Rc_fr hR k
  have e := b.1
  rw [hb] at e
  have e2 : g = g' ∧ p = p' ∧ q = q' := by
    have e3 := Sum.inr.inj (Option.some.inj e)
    have e4 := (Prod.mk.inj e3).2
    simp only [List.cons.injEq, Sum.inr.injEq, Option.some.injEq] at e4
    exact ⟨e4.1, e4.2.2.2.2.2.1, e4.2.2.2.2.2.2.1⟩
  obtain ⟨rfl, rfl, rfl⟩ := e2
  have rn := rw_ne hb (show 6 ≠ 15 by decide)
  have pn := pg_ne hb (show 6 ≠ 14 by decide)
  exact ⟨g, sh', he', p, q, xset_at _ _ _, kp_T k t1, kp_T k t2, pq, q1.2 (fun a (e : a = E.1) => by omega), q2.2 (fun a (e : a = E.1) => by omega), gg, pg.2 (pn _ _ pg.1), ⟨f, im.2 (show ¬ E.1 + 4 = E.1 by omega), mm.2 (fun h C _ hp => pn h C hp)⟩, fun r x hr => ⟨(rr r x hr).1.2 (rn r x (rr r x hr).1.1), (rr r x hr).2⟩, ⟨f1.2 (show ¬ E.1 + 19 = E.1 by omega), f2.2 (show ¬ E.1 + 20 = E.1 by omega), f3.2 (show ¬ E.1 + 21 = E.1 by omega), f4.2 (fun a (e : a = E.1) => by omega), f5.2 (fun a (e : a = E.1) => by omega)⟩, ee (fun a (e : a = E.1) => by omega)⟩
theorem Rc_b (hR : Rc E S G w) : ∃ g sh he p q, w.2.2.2 E.1 = some (book E.1 g sh he p q (qK S) (qN S) (qA S)) ∧ oT w sh (qS S) ∧ oT w he (qH S) ∧ oQ w p (qP S) ∧ oQ w q G.2.2 ∧ oP w g (qC S) := by
  obtain ⟨g, sh, he, p, q, h1, h2, h3, h4, h5, h6, h7, h8, h9, h10, h11, h12⟩ := hR
  exact ⟨g, sh, he, p, q, h1, h2, h3, h5, h6, h8⟩
theorem Rc_uS {a : Nat} {v : mC} (hR : Rc E S G w) (ha : oT w a v) : ∃ w', xput w E.1 6 2 (xA (some a)) = some w' ∧ kp E.1 0 w w' ∧ Rc E (uS S v) G w' := by
  obtain ⟨g, sh, he, p, q, hb, t1, t2, _⟩ := Rc_b hR
  obtain ⟨k, r⟩ := Rc_bk (K' := qK S) (N' := qN S) (A' := qA S) hR hb ha t2
  exact ⟨_, xput_of (k := 2) hb (show 2 < 13 by decide), k, r⟩
theorem Rc_uH {a : Nat} {v : mC} (hR : Rc E S G w) (ha : oT w a v) : ∃ w', xput w E.1 6 3 (xA (some a)) = some w' ∧ kp E.1 0 w w' ∧ Rc E (uH S v) G w' := by
  obtain ⟨g, sh, he, p, q, hb, t1, t2, _⟩ := Rc_b hR
  obtain ⟨k, r⟩ := Rc_bk (K' := qK S) (N' := qN S) (A' := qA S) hR hb t1 ha
  exact ⟨_, xput_of (k := 3) hb (show 3 < 13 by decide), k, r⟩
theorem Rc_uK {a : Nat} (hR : Rc E S G w) : ∃ w', xput w E.1 6 4 (xA (some a)) = some w' ∧ kp E.1 0 w w' ∧ Rc E (uK S a) G w' := by
  obtain ⟨g, sh, he, p, q, hb, t1, t2, _⟩ := Rc_b hR
  obtain ⟨k, r⟩ := Rc_bk (K' := some a) (N' := qN S) (A' := qA S) hR hb t1 t2
  exact ⟨_, xput_of (k := 4) hb (show 4 < 13 by decide), k, r⟩
theorem Rc_uN (hR : Rc E S G w) (m : Nat) : ∃ w', xput w E.1 6 10 (xI (nI m)) = some w' ∧ kp E.1 0 w w' ∧ Rc E (uN S m) G w' := by
  obtain ⟨g, sh, he, p, q, hb, t1, t2, _⟩ := Rc_b hR
  obtain ⟨k, r⟩ := Rc_bk (K' := qK S) (N' := m) (A' := qA S) hR hb t1 t2
  exact ⟨_, xput_of (k := 10) hb (show 10 < 13 by decide), k, r⟩
theorem Rc_uA (hR : Rc E S G w) (x : Int32) : ∃ w', xput w E.1 6 12 (xI x) = some w' ∧ kp E.1 0 w w' ∧ Rc E (uA S x) G w' := by
  obtain ⟨g, sh, he, p, q, hb, t1, t2, _⟩ := Rc_b hR
  obtain ⟨k, r⟩ := Rc_bk (K' := qK S) (N' := qN S) (A' := x) hR hb t1 t2
  exact ⟨_, xput_of (k := 12) hb (show 12 < 13 by decide), k, r⟩
end FR
