/-! rows of the class -/
theorem lt_inB {x : Int32} {n : Nat} (hn : n < 2 ^ 31) (h0 : ¬ x < 0) : x < nI n ↔ inB x n := by
  obtain ⟨j, hj, rfl⟩ := nI_of h0
  rw [nI_ltI hj hn]
  constructor
  · intro h
    exact ⟨h0, by rw [nI_clamp hj]; exact h⟩
  · intro h
    have := h.2
    rw [nI_clamp hj] at this
    exact this
section RW
variable {w : xW} {a r i k ty n : Nat} {v u : mC} {x y : sR}
theorem R_ty (h : oR w r x) : xgI w r 3 0 = some (nI x.1) := xgI_of h.1 rfl
theorem R_c (h : oR w r x) : xgA w r 3 1 = some (some (r + 2)) := xgA_of h.1 rfl
theorem R_b (h : oR w r x) : xgA w r 3 2 = some (some (r + 1)) := xgA_of h.1 rfl
theorem R_o (h : oR w r x) : xobj w r 3 = some [xI (nI x.1), xA (some (r + 2)), xA (some (r + 1))] := xobj_of h.1
theorem R_n (h : oR w r x) : xcno w r = some 3 := xcno_of h.1
theorem R_l (h : oR w r x) : xlen w (r + 2) = some (nI x.2.1) := by
  obtain ⟨_, _, f, h3, _⟩ := h
  exact xlen_A h3
theorem R_e (h : oR w r x) (hx : x.2.1 ≤ 24) (hi : i < x.2.1) : ∃ a, xaA w (r + 2) (nI i) = some (some a) ∧ oT w a (x.2.2 i) := by
  obtain ⟨_, _, f, h3, h4⟩ := h
  obtain ⟨a, h5, h6⟩ := h4 i hi
  exact ⟨a, by rw [xaA_of h3 (by omega) hi (by omega), h5], h6⟩
theorem oR_congr (h : oR w r x) (e1 : y.1 = x.1) (e2 : y.2.1 = x.2.1) (hf : ∀ i, i < x.2.1 → y.2.2 i = x.2.2 i) : oR w r y := by
  obtain ⟨h1, h2, g, h3, h4⟩ := h
  refine ⟨by rw [e1]; exact h1, by rw [e1]; exact h2, g, by rw [e2]; exact h3, fun i hi => ?_⟩
  rw [e2] at hi
  obtain ⟨a, h5, h6⟩ := h4 i hi
  exact ⟨a, h5, by rw [hf i hi]; exact h6⟩
theorem so_5 (n : Nat) (f : Nat → Option Nat) : so (aA 5 n f) ≠ 5 ∧ so (aA 5 n f) ≠ 3 ∧ so (aA 5 n f) ≠ 0 ∧ so (aA 5 n f) ≠ 17 := (by decide : 15 ≠ 5 ∧ 15 ≠ 3 ∧ 15 ≠ 0 ∧ 15 ≠ 17)
theorem c_rcontent (h : oR w r x) : xev 18 0 [some (xA (some (r)))] [] w = some (some (xI (nI x.1)), w) := by
  rw [e_X4_content_0, b_X4_content_0, R_ty h, Option.bind_some]
theorem c_size (h : oR w r x) : xev 19 0 [some (xA (some (r)))] [] w = some (some (xI (nI x.2.1)), w) := by
  rw [e_X4_size_0, b_X4_size_0]
  simp only [R_c h, Option.bind_some, R_l h]
theorem c_has (h : oR w r x) (hx : x.2.1 ≤ 24) (j : Int32) : xev 20 0 [some (xA (some (r))), some (xI (j))] [] w = some (some (xI (if inB j x.2.1 then 1 else 0)), w) := by
  rw [e_X4_has_0, b_X4_has_0]
  simp only [R_c h, Option.bind_some, R_l h]
  by_cases h0 : j < 0
  · rw [if_pos h0, if_neg (fun q => q.1 h0)]
  · rw [if_neg h0]
    by_cases h1 : inB j x.2.1
    · rw [if_pos ((lt_inB (by omega) h0).mpr h1), if_pos h1]
    · rw [if_neg (fun q => h1 ((lt_inB (by omega) h0).mp q)), if_neg h1]
theorem c_rat (h : oR w r x) (hx : x.2.1 ≤ 24) (hi : i < x.2.1) : ∃ a, xev 21 0 [some (xA (some (r))), some (xI (nI i))] [] w = some (some (xA (some a)), w) ∧ oT w a (x.2.2 i) := by
  obtain ⟨a, h1, h2⟩ := R_e h hx hi
  refine ⟨a, ?_, h2⟩
  rw [e_X4_at_0, b_X4_at_0]
  simp only [R_o h, Option.bind_some, c_has h hx, xrI_e, if_pos (inB_of hi (by omega)), R_c h, h1]
  exact if_neg (by decide)
/-- a thing is put into a row -/
theorem c_rput (hd : wd w) (h : oR w r x) (hx : x.2.1 ≤ 24) (ht : x.1 < 13) (hi : i < x.2.1) (hv : oT w a v) : ∃ w', xev 22 0 [some (xA (some (r))), some (xI (nI i)), some (xA (some (a)))] [] w = some (none, w') ∧ kp (r + 2) 1 w w' ∧ oR w' r (x.1, x.2.1, va_up x.2.2 i (pv x.1 v)) := by
  rw [e_X4_put_0, b_X4_put_0]
  simp only [R_o h, Option.bind_some, c_has h hx, xrI_e, if_pos (inB_of hi (show x.2.1 < 2 ^ 31 by omega)), R_c h, R_ty h, T_o hv]
  rw [if_neg (by decide)]
  have h7 : (7 : Int32) < nI x.1 ↔ 7 < x.1 := nI_ltI (a := 7) (by decide) (by omega)
  have fin : ∀ (w1 : xW) (b : Nat) (u : mC), kp w.1 1 w w1 → oT w1 b u → ∃ w', (xsA w1 (r + 2) (nI i) b).bind (fun w' => some ((none : Option xV), w')) = some (none, w') ∧ kp (r + 2) 1 w w' ∧ oR w' r (x.1, x.2.1, va_up x.2.2 i u) := by
    intro w1 b u k1 hb
    have hr : oR w1 r x := kp_R k1 (by
      obtain ⟨_, _, f, h3, _⟩ := h
      have := hd _ _ h3
      omega) h
    obtain ⟨h1, h2, f, h3, h4⟩ := hr
    have k2 : kp (r + 2) 0 w1 (xset w1 (r + 2) (aA 5 x.2.1 (va_up f i (some b)))) := kp_set k1.2.1 h3 (so_5 _ _)
    have k3 : kp (r + 2) 1 w (xset w1 (r + 2) (aA 5 x.2.1 (va_up f i (some b)))) := by
      obtain ⟨_, _, f0, g3, _⟩ := h
      obtain ⟨q1, q2, q3, q4, q5, q6, q7, q8⟩ := k1
      refine ⟨q1, k2.2.1, q3, q4, q5, q6, fun a ha e he => ?_, fun a ha e he => ?_⟩
      · rw [xset_ne w1 _ ha]
        have := q1 _ _ he
        exact q7 a (by omega) e he
      · have ha' : a = r + 2 := ha
        rw [ha', g3] at he
        cases he
        exact so_5 _ _
    refine ⟨_, by rw [xsA_of h3 (T_c hb) rfl hi (by omega), Option.bind_some], k3, ?_⟩
    refine ⟨kp_c k2 (by omega) h1, kp_T k2 h2, _, xset_at w1 _ _, fun j hj => ?_⟩
    by_cases hji : j = i
    · subst hji
      exact ⟨b, va_e _ _ _, by show oT _ b (va_up x.2.2 j u j); rw [va_e]; exact kp_T k2 hb⟩
    · obtain ⟨c, g1, g2⟩ := h4 j hj
      exact ⟨c, by rw [va_n _ _ hji]; exact g1, by show oT _ c (va_up x.2.2 i u j); rw [va_n _ _ hji]; exact kp_T k2 g2⟩
  by_cases h8 : 7 < x.1
  · rw [if_pos (h7.mpr h8)]
    have : pv x.1 v = v := if_pos h8
    rw [this]
    exact fin w a v (kp_mono (kp_refl hd) (by decide)) hv
  · rw [if_neg (fun q => h8 (h7.mp q))]
    have : pv x.1 v = wid v x.1 := if_neg h8
    rw [this]
    obtain ⟨b, w1, e1, k1, t1⟩ := c_cwidened hd hv ht
    simp only [e1, Option.bind_some, xrA_e]
    exact fin w1 b _ k1 t1
/-- what a row is behind a copy -/
def rCp (x y : sR) (f p m : Nat) : sR := (x.1, x.2.1, fun i => if p ≤ i ∧ i < p + m then pv x.1 (y.2.2 (f + (i - p))) else x.2.2 i)
theorem c_copy_l {s f p m : Nat} (hx : x.2.1 ≤ 24) (ht : x.1 < 13) (hy : y.2.1 ≤ 24) (hrs : s ≠ r) (hf : f + m ≤ y.2.1) (hp : p + m ≤ x.2.1) : ∀ d i w, i + d = m → wd w → oR w r (rCp x y f p i) → oR w s y → ∃ w', xev 23 3 [some (xA (some (r))), some (xA (some (s))), some (xI (nI f)), some (xI (nI p)), some (xI (nI m)), some (xI (nI i))] [] w = some (none, w') ∧ kp (r + 2) d w w' ∧ oR w' r (rCp x y f p m)
  | 0, i, w, hid, hd, hr, hs => by
    have e : i = m := by omega
    subst e
    rw [e_X4_copy_3, b_X4_copy_3, if_neg (nI_nlt (Nat.le_refl _) (by omega))]
    obtain ⟨_, _, g, h3, _⟩ := id hr
    exact ⟨w, rfl, ⟨hd, hd, Nat.le_refl _, Nat.le_refl _, Nat.le_refl _, rfl, fun _ _ _ h => h, fun a ha e he => by have ha' : a = r + 2 := ha; rw [ha', h3] at he; cases he; exact so_5 _ _⟩, hr⟩
  | d + 1, i, w, hid, hd, hr, hs => by
    rw [e_X4_copy_3, b_X4_copy_3, if_pos (nI_lt (by omega) (by omega))]
    obtain ⟨a, e1, t1⟩ := c_rat hs hy (i := f + i) (by omega)
    obtain ⟨w1, e2, k2, r2⟩ := c_rput (i := p + i) hd hr hx ht (show p + i < x.2.1 by omega) t1
    simp only [R_o hs, Option.bind_some, nI_add, e1, xrA_e, R_o hr, e2, xrV_e, nI_1]
    have r3 : oR w1 r (rCp x y f p (i + 1)) := by
      refine oR_congr r2 rfl rfl (fun j hj => ?_)
      show (if p ≤ j ∧ j < p + (i + 1) then _ else _) = va_up (fun j => if p ≤ j ∧ j < p + i then _ else _) (p + i) _ j
      by_cases hji : j = p + i
      · subst hji
        rw [if_pos (by omega), va_e]
        show pv x.1 _ = pv x.1 _
        rw [Nat.add_sub_cancel_left]
      · rw [va_n _ _ hji]
        by_cases hq : p ≤ j ∧ j < p + i
        · rw [if_pos hq, if_pos (by omega)]
        · rw [if_neg hq, if_neg (by omega)]
    obtain ⟨w2, e4, k4, r4⟩ := c_copy_l hx ht hy hrs hf hp d (i + 1) w1 (by omega) k2.2.1 r3 (kp_R k2 (by omega) hs)
    exact ⟨w2, e4, kp_tr k2 k4 (Or.inl rfl) (by omega), r4⟩
theorem c_rcopy {s f p m : Nat} (hd : wd w) (hr : oR w r x) (hs : oR w s y) (hx : x.2.1 ≤ 24) (ht : x.1 < 13) (hy : y.2.1 ≤ 24) (hrs : s ≠ r) (hf : f + m ≤ y.2.1) (hp : p + m ≤ x.2.1) : ∃ w', xev 23 0 [some (xA (some (r))), some (xA (some (s))), some (xI (nI f)), some (xI (nI p)), some (xI (nI m)), none] [] w = some (none, w') ∧ kp (r + 2) m w w' ∧ oR w' r (rCp x y f p m) := by
  rw [e_X4_copy_0, b_X4_copy_0]
  have h0 : oR w r (rCp x y f p 0) := oR_congr hr rfl rfl (fun i hi => if_neg (by omega))
  have := c_copy_l hx ht hy hrs hf hp m 0 w (by omega) hd h0 hs
  rw [nI_0] at this
  exact this
/-- a new row -/
theorem c_new_l {w0 : xW} (hn : n ≤ 24) {r : Nat} (hr : w0.1 = r) : ∀ d i w f, i + d = n → kp w0.1 3 w0 w → r + 2 < w.1 → w.2.2.2 r = some (.inr (3, [xI (nI ty), xA (some (r + 2)), xA (some (r + 1))])) → oT w (r + 1) (blk ty) → w.2.2.2 (r + 2) = some (aA 5 n f) → (∀ j, j < i → f j = some (r + 1)) → ∃ w', xev 17 44 [some (xA (some (r))), none, some (xI (nI n)), some (xI (nI i))] [] w = some (none, w') ∧ kp w0.1 3 w0 w' ∧ w'.1 = w.1 ∧ w'.2.1 = w.2.1 ∧ oR w' r (ty, n, fun _ => blk ty)
  | 0, i, w, f, hid, hk, hl, h1, h2, h3, h4 => by
    have e : i = n := by omega
    subst e
    rw [e_X4_init_44, b_X4_init_44, if_neg (nI_nlt (Nat.le_refl _) (by omega))]
    exact ⟨w, rfl, hk, rfl, rfl, h1, h2, f, h3, fun j hj => ⟨r + 1, h4 j hj, h2⟩⟩
  | d + 1, i, w, f, hid, hk, hl, h1, h2, h3, h4 => by
    rw [e_X4_init_44, b_X4_init_44, if_pos (nI_lt (by omega) (by omega))]
    simp only [xgA_of (k := 1) h1 rfl, xgA_of (k := 2) h1 rfl, Option.bind_some, xsA_of h3 (T_c h2) rfl (show i < n by omega) (by omega), nI_1]
    have ne1 : r ≠ r + 2 := by omega
    have ne2 : r + 1 ≠ r + 2 := by omega
    obtain ⟨w', e1, e2, e3, e4, e5⟩ := c_new_l hn hr d (i + 1) (xset w (r + 2) (aA 5 n (va_up f i (some (r + 1))))) (va_up f i (some (r + 1))) (by omega) (kp_nset hk (Nat.le_refl _) (by omega) hl) hl ((xset_ne w _ ne1).trans h1) ((xset_ne w _ ne2).trans h2) (xset_at _ _ _) (fun j hj => by
      by_cases hji : j = i
      · rw [hji, va_e]
      · rw [va_n _ _ hji]; exact h4 j (by omega))
    exact ⟨w', e1, e2, e3, e4, e5⟩
theorem c_newRow (hd : wd w) (ht : ty < 13) (hn : n ≤ 24) : ∃ w', xev 17 0 [some (xA (some (w.1))), some (xI (nI ty)), some (xI (nI n)), none] [] (xpush w 3 (.inr (3, xdf 3))) = some (none, w') ∧ kp w.1 3 w w' ∧ w'.1 = w.1 + 3 ∧ oR w' w.1 (ty, n, fun _ => blk ty) := by
  rw [e_X4_init_0, b_X4_init_0, xput_of (xpush_at w 3 _) (show 0 < (xdf 3).length from (by decide : 0 < 3)), Option.bind_some, xset_push]
  have key : ∀ k : Int32, (k, 0, 0) = blk ty → ∃ w', (xev 31 0 [some (xA (some ((xpush w 3 (.inr (3, (xdf 3).set 0 (xI (nI ty))))).1))), some (xI (k)), some (xJ ((0 : Int64))), none, some (xD ((0 : UInt64))), none] [] (xpush (xpush w 3 (.inr (3, (xdf 3).set 0 (xI (nI ty))))) 3 (.inr (5, xdf 5)))).bind (fun p2 => xrV p2.1 ((xput p2.2 w.1 3 2 (xA (some (xpush w 3 (.inr (3, (xdf 3).set 0 (xI (nI ty))))).1))).bind fun w3 => (xnew w3 5 (nI n)).bind fun w4 => (xput w4 w.1 3 1 (xA (some w3.1))).bind fun w5 => xev 17 44 [some (xA (some (w.1))), none, some (xI (nI n)), some (xI ((0 : Int32)))] [] w5)) = some (none, w') ∧ kp w.1 3 w w' ∧ w'.1 = w.1 + 3 ∧ oR w' w.1 (ty, n, fun _ => blk ty) := by
    intro k hk
    have n1 : w.1 ≠ w.1 + 1 := by omega
    have n2 : w.1 ≠ w.1 + 2 := by omega
    have n3 : w.1 + 1 ≠ w.1 + 2 := by omega
    have n4 : w.1 + 1 ≠ w.1 := by omega
    have n5 : w.1 + 2 ≠ w.1 := by omega
    rw [c_Thing, Option.bind_some, xrV_e]
    have c1 : (nT (xpush w 3 (.inr (3, (xdf 3).set 0 (xI (nI ty))))) (k, 0, 0)).2.2.2 w.1 = some (.inr (3, [xI (nI ty), xA none, xA none])) := (xpush_ne _ 3 _ n1).trans (xpush_at w 3 _)
    have c2 : oT (nT (xpush w 3 (.inr (3, (xdf 3).set 0 (xI (nI ty))))) (k, 0, 0)) (w.1 + 1) (blk ty) := by
      rw [← hk]
      exact nT_T (xpush w 3 (.inr (3, (xdf 3).set 0 (xI (nI ty))))) (k, 0, 0)
    have k1 : kp w.1 2 w (nT (xpush w 3 (.inr (3, (xdf 3).set 0 (xI (nI ty))))) (k, 0, 0)) := kp_npush (kp_push hd (by decide)) (Nat.le_refl _) (by decide)
    have z1 : (nT (xpush w 3 (.inr (3, (xdf 3).set 0 (xI (nI ty))))) (k, 0, 0)).1 = w.1 + 2 := rfl
    generalize nT (xpush w 3 (.inr (3, (xdf 3).set 0 (xI (nI ty))))) (k, 0, 0) = u at c1 c2 k1 z1 ⊢
    show ∃ w', ((xput u w.1 3 2 (xA (some (w.1 + 1)))).bind fun w3 => (xnew w3 5 (nI n)).bind fun w4 => (xput w4 w.1 3 1 (xA (some w3.1))).bind fun w5 => xev 17 44 [some (xA (some (w.1))), none, some (xI (nI n)), some (xI ((0 : Int32)))] [] w5) = some (none, w') ∧ kp w.1 3 w w' ∧ w'.1 = w.1 + 3 ∧ oR w' w.1 (ty, n, fun _ => blk ty)
    rw [xput_of c1 (show 2 < 3 by decide), Option.bind_some, xnew_of _ 5 (by omega), Option.bind_some]
    have c3 : (xpush (xset u w.1 (.inr (3, [xI (nI ty), xA none, xA (some (w.1 + 1))]))) n (.inl (5, n, xzero 5))).2.2.2 w.1 = some (.inr (3, [xI (nI ty), xA none, xA (some (w.1 + 1))])) := (xpush_ne _ n _ (by show w.1 ≠ u.1; omega)).trans (xset_at _ _ _)
    show ∃ w', ((xput (xpush (xset u w.1 (.inr (3, [xI (nI ty), xA none, xA (some (w.1 + 1))]))) n (.inl (5, n, xzero 5))) w.1 3 1 (xA (some u.1))).bind fun w5 => xev 17 44 [some (xA (some (w.1))), none, some (xI (nI n)), some (xI ((0 : Int32)))] [] w5) = some (none, w') ∧ kp w.1 3 w w' ∧ w'.1 = w.1 + 3 ∧ oR w' w.1 (ty, n, fun _ => blk ty)
    rw [xput_of (k := 1) c3 (show 1 < 3 by decide), Option.bind_some]
    have e := c_new_l (ty := ty) hn (w0 := w) rfl n 0 (xset (xpush (xset u w.1 (.inr (3, [xI (nI ty), xA none, xA (some (w.1 + 1))]))) n (.inl (5, n, xzero 5))) w.1 (.inr (3, [xI (nI ty), xA (some u.1), xA (some (w.1 + 1))]))) (fun _ => none) (by omega) (kp_nset (kp_npush (kp_nset k1 (Nat.le_refl _) (Nat.le_refl _) (by omega)) (Nat.le_refl _) hn) (Nat.le_refl _) (Nat.le_refl _) (show w.1 < u.1 + 1 by omega)) (show w.1 + 2 < u.1 + 1 by omega) (by rw [← z1]; exact xset_at _ _ _) ((xset_ne _ _ n4).trans ((xpush_ne _ _ _ (by show w.1 + 1 ≠ u.1; omega)).trans ((xset_ne _ _ n4).trans c2))) ((xset_ne _ _ n5).trans (by rw [← z1]; exact xpush_at _ _ _)) (fun j hj => absurd hj (Nat.not_lt_zero j))
    rw [nI_0] at e
    obtain ⟨w', e1, e2, e3, e4, e5⟩ := e
    refine ⟨w', e1, e2, ?_, e5⟩
    rw [e3]
    show u.1 + 1 = _
    omega
  have h7 : (7 : Int32) < nI ty ↔ 7 < ty := nI_ltI (a := 7) (by decide) (by omega)
  by_cases h8 : 7 < ty
  · rw [if_pos (h7.mpr h8)]
    exact key 11 (by unfold blk; rw [if_pos h8])
  · rw [if_neg (fun q => h8 (h7.mp q))]
    exact key (nI ty) (by unfold blk; rw [if_neg h8])
/-- a part of a row -/
theorem c_part_l {w0 : xW} {f m r0 : Nat} (hx : x.2.1 ≤ 24) (hf : f + m ≤ x.2.1) (hr0 : w0.1 = r0) (hrr : r + 2 < r0) : ∀ d i w g, i + d = m → kp w0.1 3 w0 w → r0 + 2 < w.1 → oR w r x → w.2.2.2 r0 = some (.inr (3, [xI (nI x.1), xA (some (r0 + 2)), xA (some (r0 + 1))])) → oT w (r0 + 1) (blk x.1) → w.2.2.2 (r0 + 2) = some (aA 5 m g) → (∀ j, j < i → ∃ a, g j = some a ∧ oT w a (x.2.2 (f + j))) → ∃ w', xev 24 16 [some (xA (some (r))), some (xI (nI f)), some (xI (nI m)), some (xA (some (r0))), some (xI (nI i))] [] w = some (some (xA (some r0)), w') ∧ kp w0.1 3 w0 w' ∧ w'.1 = w.1 ∧ oR w' r0 (rPart x f m)
  | 0, i, w, g, hid, hk, hl, hr, h1, h2, h3, h4 => by
    have e : i = m := by omega
    subst e
    rw [e_X4_part_16, b_X4_part_16, if_neg (nI_nlt (Nat.le_refl _) (by omega))]
    exact ⟨w, rfl, hk, rfl, h1, h2, g, h3, h4⟩
  | d + 1, i, w, g, hid, hk, hl, hr, h1, h2, h3, h4 => by
    rw [e_X4_part_16, b_X4_part_16, if_pos (nI_lt (by omega) (by omega))]
    obtain ⟨a, e1, t1⟩ := c_rat hr hx (i := f + i) (by omega)
    simp only [xgA_of (k := 1) h1 rfl, Option.bind_some, R_o hr, nI_add, e1, xrA_e, xsA_of h3 (T_c t1) rfl (show i < m by omega) (by omega), nI_1]
    have kk : kp (r0 + 2) 0 w (xset w (r0 + 2) (aA 5 m (va_up g i (some a)))) := kp_set hk.2.1 h3 (so_5 _ _)
    obtain ⟨w', e5, e6, e7, e8⟩ := c_part_l hx hf hr0 hrr d (i + 1) (xset w (r0 + 2) (aA 5 m (va_up g i (some a)))) (va_up g i (some a)) (by omega) (kp_nset hk (Nat.le_refl _) (by omega) hl) hl (kp_R kk (by omega) hr) (kp_c kk (by omega) h1) (kp_T kk h2) (xset_at _ _ _) (fun j hj => by
      by_cases hji : j = i
      · subst hji
        exact ⟨a, va_e _ _ _, kp_T kk t1⟩
      · rw [va_n _ _ hji]
        obtain ⟨b, q1, q2⟩ := h4 j (by omega)
        exact ⟨b, q1, kp_T kk q2⟩)
    exact ⟨w', e5, e6, e7, e8⟩
theorem c_part {f m : Nat} (hd : wd w) (hr : oR w r x) (hx : x.2.1 ≤ 24) (ht : x.1 < 13) (hf : f + m ≤ x.2.1) : ∃ w', xev 24 0 [some (xA (some (r))), some (xI (nI f)), some (xI (nI m)), none, none] [] w = some (some (xA (some w.1)), w') ∧ kp w.1 3 w w' ∧ w'.1 = w.1 + 3 ∧ oR w' w.1 (rPart x f m) := by
  have hrl : r + 2 < w.1 := by
    obtain ⟨_, _, g, h3, _⟩ := hr
    exact hd _ _ h3
  have hr2 : oR (xpush w 3 (.inr (3, xdf 3))) r x := kp_R (kp_push hd (by decide)) (by omega) hr
  obtain ⟨w1, e1, k1, z1, r1⟩ := c_newRow (ty := x.1) (n := m) hd ht (by omega)
  rw [e_X4_part_0, b_X4_part_0]
  simp only [R_ty hr2, Option.bind_some, e1, xrV_e]
  obtain ⟨q1, q2, g, q3, q4⟩ := r1
  have := c_part_l hx hf rfl hrl m 0 w1 g (by omega) k1 (by omega) (kp_R k1 (by omega) hr) q1 q2 q3 (fun j hj => absurd hj (Nat.not_lt_zero j))
  rw [nI_0] at this
  obtain ⟨w', e5, e6, e7, e8⟩ := this
  exact ⟨w', e5, e6, e7.trans z1, e8⟩
end RW
