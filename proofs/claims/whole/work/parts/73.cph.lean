/-! calls of the class: image, restore -/
def fwA (f : Nat → Option Nat) (a : Nat) : Nat → Nat → Nat
  | 0, i => i
  | d + 1, i => if f i = some a then i else fwA f a d (i + 1)
theorem fwA_ok {f : Nat → Option Nat} {a c : Nat} (hc : f c = some a) : ∀ d i, i ≤ c → c < i + d → i ≤ fwA f a d i ∧ fwA f a d i ≤ c ∧ f (fwA f a d i) = some a ∧ ∀ j, i ≤ j → j < fwA f a d i → f j ≠ some a
  | 0, i, h1, h2 => by omega
  | d + 1, i, h1, h2 => by
    unfold fwA
    by_cases h : f i = some a
    · rw [if_pos h]
      exact ⟨Nat.le_refl _, h1, h, fun j a b => by omega⟩
    · rw [if_neg h]
      have hic : i ≠ c := fun e => h (e ▸ hc)
      obtain ⟨a, b, e, f⟩ := fwA_ok hc d (i + 1) (by omega) (by omega)
      refine ⟨by omega, b, e, fun j h3 h4 => ?_⟩
      by_cases hij : j = i
      · rw [hij]; exact h
      · exact f j (by omega) h4
theorem tw_congr {R : Nat → Option sR} {C : Nat → sO} {ids ids' : Nat → Nat} : ∀ n, (∀ c, c < n → ids c = ids' c) → tw R C ids n = tw R C ids' n
  | 0, _ => rfl
  | n + 1, h => by
    have ih := tw_congr (R := R) (C := C) n (fun c hc => h c (by omega))
    unfold tw
    rw [ih, h n (by omega)]
section PH
variable {E : sE} {S : sS} {G : sG} {w w' : xW}
theorem oT_inj {a : Nat} {u v : mC} (h : oT w a u) (g : oT w a v) : u = v := by
  unfold oT at h g
  rw [h] at g
  have e3 := Sum.inr.inj (Option.some.inj g)
  have e4 := (Prod.mk.inj e3).2
  simp only [List.cons.injEq, Sum.inl.injEq, Sum.inr.injEq, and_true] at e4
  obtain ⟨k1, n1, x1⟩ := u
  obtain ⟨k2, n2, x2⟩ := v
  obtain ⟨q1, q2, q3⟩ := e4
  simp only at q1 q2 q3
  rw [q1, q2, q3]
theorem oTR {a : Nat} {v : mC} {x : sR} (h : oT w a v) (g : oR w a x) : False := by
  have e1 := R_n g
  rw [T_c h] at e1
  exact absurd (Option.some.inj e1) (by decide)
theorem c_fw_l {g a : Nat} {f : Nat → Option Nat} (h1 : xgA w g 0 0 = some (some (g + 1))) (h3 : w.2.2.2 (g + 1) = some (aA 4 10 f)) : ∀ d i, i + d = 10 → xev 4 2 [some (xA (some (g))), some (xA (some (a))), some (xI (nI i))] [] w = some (some (xI (nI (fwA f a d i))), w)
  | 0, i, h => by
    have e : i = 10 := by omega
    subst e
    rw [e_X1_firstWith_2, b_X1_firstWith_2, if_neg (by decide)]
    rfl
  | d + 1, i, h => by
    rw [e_X1_firstWith_2, b_X1_firstWith_2, if_pos (show nI i < 10 from nI_lt (b := 10) (by omega) (by decide))]
    simp only [h1, Option.bind_some, xaA_of h3 (Or.inl rfl) (show i < 10 by omega) (by decide), nI_1]
    unfold fwA
    by_cases hf : f i = some a
    · rw [if_pos hf, if_pos hf]
    · rw [if_neg hf, if_neg hf]
      exact c_fw_l h1 h3 d (i + 1) (by omega)
/-- a new page -/
theorem c_page_l {w0 : xW} {r a1 : Nat} (hr : w0.1 = r) (ha : a1 = r + 2) : ∀ d i w f, i + d = 10 → kp w0.1 3 w0 w → r + 1 < w.1 → w.2.2.2 r = some (.inr (0, [xA (some (r + 1))])) → oT w a1 (11, 0, 0) → w.2.2.2 (r + 1) = some (aA 4 10 f) → (∀ j, j < i → f j = some a1) → ∃ w', xev 0 27 [some (xA (some (r))), some (xA (some (a1))), some (xI (nI i))] [] w = some (none, w') ∧ kp w0.1 3 w0 w' ∧ w'.1 = w.1 ∧ oP w' r (fun _ => .inr (11, 0, 0))
  | 0, i, w, f, hid, hk, hl, h1, h2, h3, h4 => by
    have e : i = 10 := by omega
    subst e
    rw [e_X1_init_27, b_X1_init_27, if_neg (by decide)]
    exact ⟨w, rfl, hk, rfl, h1, f, h3, fun c hc => ⟨a1, h4 c hc, h2⟩⟩
  | d + 1, i, w, f, hid, hk, hl, h1, h2, h3, h4 => by
    rw [e_X1_init_27, b_X1_init_27, if_pos (show nI i < 10 from nI_lt (b := 10) (by omega) (by decide))]
    simp only [xgA_of (k := 0) h1 rfl, Option.bind_some, xsA_of h3 (T_c h2) rfl (show i < 10 by omega) (by decide), nI_1]
    have ne1 : r ≠ r + 1 := by omega
    have ne2 : a1 ≠ r + 1 := by omega
    obtain ⟨w', e1, e2, e3, e4⟩ := c_page_l hr ha d (i + 1) (xset w (r + 1) (aA 4 10 (va_up f i (some a1)))) (va_up f i (some a1)) (by omega) (kp_nset hk (Nat.le_refl _) (by omega) hl) hl ((xset_ne w _ ne1).trans h1) ((xset_ne w _ ne2).trans h2) (xset_at _ _ _) (fun j hj => by
      by_cases hji : j = i
      · rw [hji, va_e]
      · rw [va_n _ _ hji]; exact h4 j (by omega))
    exact ⟨w', e1, e2, e3, e4⟩
theorem c_page (hd : wd w) : ∃ w', xev 0 0 [some (xA (some (w.1))), none, none] [] (xpush w 1 (.inr (0, xdf 0))) = some (none, w') ∧ kp w.1 3 w w' ∧ w'.1 = w.1 + 3 ∧ oP w' w.1 (fun _ => .inr (11, 0, 0)) := by
  rw [e_X1_init_0, b_X1_init_0, show (10 : Int32) = nI 10 from rfl, xnew_of _ 4 (by decide), Option.bind_some]
  have n1 : w.1 ≠ w.1 + 1 := by omega
  have n2 : w.1 ≠ w.1 + 2 := by omega
  have n3 : w.1 + 1 ≠ w.1 + 2 := by omega
  have n4 : w.1 + 1 ≠ w.1 := by omega
  have k1 : kp w.1 2 w (xpush (xpush w 1 (.inr (0, xdf 0))) 10 (.inl (4, 10, xzero 4))) := kp_npush (kp_push hd (by decide)) (Nat.le_refl _) (by decide)
  have c1 : (xpush (xpush w 1 (.inr (0, xdf 0))) 10 (.inl (4, 10, xzero 4))).2.2.2 w.1 = some (.inr (0, [xA none])) := (xpush_ne _ 10 _ n1).trans (xpush_at w 1 _)
  have c2 : (xpush (xpush w 1 (.inr (0, xdf 0))) 10 (.inl (4, 10, xzero 4))).2.2.2 (w.1 + 1) = some (aA 4 10 (fun _ => none)) := xpush_at (xpush w 1 (.inr (0, xdf 0))) 10 _
  have z1 : (xpush (xpush w 1 (.inr (0, xdf 0))) 10 (.inl (4, 10, xzero 4))).1 = w.1 + 2 := rfl
  have z0 : (xpush w 1 (.inr (0, xdf 0)) : xW).1 = w.1 + 1 := rfl
  rw [z0]
  generalize xpush (xpush w 1 (.inr (0, xdf 0))) 10 (.inl (4, 10, xzero 4)) = u at k1 c1 c2 z1 ⊢
  rw [xput_of (k := 0) c1 (show 0 < 1 by decide), Option.bind_some, c_Thing, Option.bind_some, xrV_e]
  have s1 : (xset u w.1 (.inr (0, ([xA none] : List xV).set 0 (xA (some (w.1 + 1))))) : xW).1 = w.1 + 2 := z1
  have k2 : kp w.1 2 w (xset u w.1 (.inr (0, ([xA none] : List xV).set 0 (xA (some (w.1 + 1)))))) := kp_nset k1 (Nat.le_refl _) (Nat.le_refl _) (by omega)
  have d1 : (xset u w.1 (.inr (0, ([xA none] : List xV).set 0 (xA (some (w.1 + 1)))))).2.2.2 w.1 = some (.inr (0, [xA (some (w.1 + 1))])) := xset_at _ _ _
  have d2 : (xset u w.1 (.inr (0, ([xA none] : List xV).set 0 (xA (some (w.1 + 1)))))).2.2.2 (w.1 + 1) = some (aA 4 10 (fun _ => none)) := (xset_ne _ _ n4).trans c2
  generalize xset u w.1 (.inr (0, ([xA none] : List xV).set 0 (xA (some (w.1 + 1))))) = t at s1 k2 d1 d2 ⊢
  have k3 : kp w.1 3 w (nT t (11, 0, 0)) := kp_npush k2 (Nat.le_refl _) (by decide)
  have f1 : (nT t (11, 0, 0)).2.2.2 w.1 = some (.inr (0, [xA (some (w.1 + 1))])) := (xpush_ne t 3 _ (show w.1 ≠ t.1 by omega)).trans d1
  have f2 : (nT t (11, 0, 0)).2.2.2 (w.1 + 1) = some (aA 4 10 (fun _ => none)) := (xpush_ne t 3 _ (show w.1 + 1 ≠ t.1 by omega)).trans d2
  have f3 : oT (nT t (11, 0, 0)) t.1 (11, 0, 0) := nT_T t _
  have z3 : (nT t (11, 0, 0)).1 = w.1 + 3 := by show t.1 + 1 = _; omega
  obtain ⟨w', e1, e2, e3, e4⟩ := c_page_l (r := w.1) (a1 := t.1) rfl (by omega) 10 0 (nT t (11, 0, 0)) (fun _ => none) rfl k3 (by omega) f1 f3 f2 (fun j hj => absurd hj (Nat.not_lt_zero j))
  rw [nI_0] at e1
  exact ⟨w', e1, e2, e3.trans z3, e4⟩
def idOK (b n : Nat) (w : xW) (ids : Nat → Nat) : Prop := (∀ c, n ≤ c → ids c = b + 1000 + c) ∧ (∀ c, c < n → (b ≤ ids c ∧ ids c < w.1) ∨ ids c = b + 1000 + c) ∧ ∀ c d, c < 10 → d < 10 → ids c = ids d → c = d
theorem c_twin_l {w0 : xW} {g h B N : Nat} {R : Nat → Option sR} {C : Nat → sO} (hd0 : wd w0) (hC : ∀ c, c < 10 → hok N R (C c)) (hRr : ∀ r x, R r = some x → oR w0 r x ∧ B ≤ r) (hP : oP w0 g C) (hh : w0.1 = h) (hB : B ≤ w0.1) : ∀ d n w ids, n + d = 10 → kp w0.1 (3 + 3 * n) w0 w → oP w h (tw R C ids n).2 → (∀ r x, (tw R C ids n).1 r = some x → oR w r x ∧ B ≤ r) → h + 3 ≤ w.1 → idOK w0.1 n w ids → ∃ ids' w', xev 3 10 [some (xA (some (g))), some (xA (some (h))), some (xI (nI n)), none, none, none] [] w = some (some (xA (some h)), w') ∧ kp w0.1 33 w0 w' ∧ oP w' h (tw R C ids' 10).2 ∧ (∀ r x, (tw R C ids' 10).1 r = some x → oR w' r x ∧ B ≤ r) ∧ frsh R ids'
  | 0, n, w, ids, hnd, kk, hp, hr, hl, hi => by
    have e : n = 10 := by omega
    subst e
    rw [e_X1_twin_10, b_X1_twin_10, if_neg (by decide)]
    refine ⟨ids, w, rfl, kk, hp, hr, ⟨fun c hc => ?_, hi.2.2⟩⟩
    cases hq : R (ids c) with
    | none => rfl
    | some x =>
      obtain ⟨o, _⟩ := hRr _ _ hq
      obtain ⟨_, _, f, c3, _⟩ := o
      have := hd0 _ _ c3
      rcases hi.2.1 c hc with q | q
      · omega
      · omega
  | d + 1, n, w, ids, hnd, kk, hp, hr, hl, hi => by
    have hn : n < 10 := by omega
    have rl : ∀ r x, R r = some x → r + 2 < w0.1 ∧ oR w r x := fun r x hx => by
      obtain ⟨o, _⟩ := hRr _ _ hx
      obtain ⟨_, _, f, c3, _⟩ := id o
      have := hd0 _ _ c3
      exact ⟨this, kp_R kk (show r + 2 ≠ w0.1 by omega) o⟩
    have fr : frsh R ids := ⟨fun c hc => by
      cases hq : R (ids c) with
      | none => rfl
      | some x =>
        have := (rl _ _ hq).1
        by_cases hcn : c < n
        · rcases hi.2.1 c hcn with q | q
          · omega
          · omega
        · have := hi.1 c (by omega)
          omega, hi.2.2⟩
    have hCx : ∀ c r, c < 10 → C c = .inl r → ∃ x, R r = some x := fun c r hc hq => by
      have := hC c hc
      rw [hq] at this
      obtain ⟨x, hx, _⟩ := this
      exact ⟨x, hx⟩
    obtain ⟨tw1, tw2, tw3, tw4⟩ := tw_ok hCx fr n (by omega)
    have hgl : g + 1 < w0.1 := by
      obtain ⟨_, f, c3, _⟩ := hP
      exact hd0 _ _ c3
    have hPw : oP w g C := kp_P kk (show g + 1 ≠ w0.1 by omega) hP
    obtain ⟨p1, f, p3, p4⟩ := id hPw
    obtain ⟨a, fa, ha⟩ := p4 n hn
    obtain ⟨t1, ft, t3, t4⟩ := id hp
    obtain ⟨_, i0n, fi0, fmin⟩ := fwA_ok fa 10 0 (by omega) (by omega)
    have fw : xev 4 0 [some (xA (some (g))), some (xA (some (a))), none] [] w = some (some (xI (nI (fwA f a 10 0))), w) := by
      rw [e_X1_firstWith_0, b_X1_firstWith_0]
      have := c_fw_l (a := a) (P_c hPw) p3 10 0 rfl
      rw [nI_0] at this
      exact this
    generalize hi0 : fwA f a 10 0 = i0 at i0n fi0 fmin fw
    have rn := rw_ne t3 (show 14 ≠ 15 by decide)
    rw [e_X1_twin_10, b_X1_twin_10, if_pos (show nI n < 10 from nI_lt (b := 10) (by omega) (by decide))]
    simp only [P_c hPw, P_o hPw, Option.bind_some, xaA_of p3 (Or.inl rfl) hn (by decide), fa, fw, xrI_e, P_c hp]
    have lt0 : (nI i0 < nI n) ↔ i0 < n := nI_ltI (by omega) (by omega)
    have next : ∀ (w1 : xW) (ids1 : Nat → Nat), kp w0.1 (3 + 3 * (n + 1)) w0 w1 → oP w1 h (tw R C ids1 (n + 1)).2 → (∀ r x, (tw R C ids1 (n + 1)).1 r = some x → oR w1 r x ∧ B ≤ r) → h + 3 ≤ w1.1 → idOK w0.1 (n + 1) w1 ids1 → ∃ ids' w', xev 3 10 [some (xA (some (g))), some (xA (some (h))), some (xI (nI n + 1)), none, none, none] [] w1 = some (some (xA (some h)), w') ∧ kp w0.1 33 w0 w' ∧ oP w' h (tw R C ids' 10).2 ∧ (∀ r x, (tw R C ids' 10).1 r = some x → oR w' r x ∧ B ≤ r) ∧ frsh R ids' := fun w1 ids1 a1 a2 a3 a4 a5 => by
      rw [nI_1]
      exact c_twin_l hd0 hC hRr hP hh hB d (n + 1) w1 ids1 (by omega) a1 a2 a3 a4 a5
    have same : ∀ (b : Nat) (v : sO), oH w b v → isH w b → (tw R C ids (n + 1)) = ((tw R C ids n).1, va_up (tw R C ids n).2 n v) → ∃ ids' w', ((xsA w (h + 1) (nI n) b).bind fun w10 => xev 3 10 [some (xA (some (g))), some (xA (some (h))), some (xI (nI n + 1)), none, none, none] [] w10) = some (some (xA (some h)), w') ∧ kp w0.1 33 w0 w' ∧ oP w' h (tw R C ids' 10).2 ∧ (∀ r x, (tw R C ids' 10).1 r = some x → oR w' r x ∧ B ≤ r) ∧ frsh R ids' := fun b v hb hbn htw => by
      obtain ⟨w1, e1, k1, z1, o1⟩ := xs_P hp kk.2.1 hn hb hbn
      rw [e1, Option.bind_some]
      refine next w1 ids (kp_tr kk k1 (Or.inr (by omega)) (by omega)) (by rw [htw]; exact o1) (fun r x hx => ?_) (by omega) ⟨fun c hc => hi.1 c (by omega), fun c hc => ?_, hi.2.2⟩
      · rw [htw] at hx
        obtain ⟨o, ob⟩ := hr r x hx
        exact ⟨kp_R k1 (rn r x o) o, ob⟩
      · by_cases hcn : c < n
        · rw [z1]
          exact hi.2.1 c hcn
        · exact Or.inr (hi.1 c (by omega))
    cases hq : C n with
    | inr v =>
      rw [hq] at ha
      have ha' : oT w a v := ha
      have htw := tw_th (R := R) (ids := ids) hq
      by_cases hlt : i0 < n
      · rw [if_pos (lt0.mpr hlt)]
        obtain ⟨b, fb, hb⟩ := t4 i0 (by omega)
        have hc0 : C i0 = .inr v := by
          obtain ⟨a2, fa2, ha2⟩ := p4 i0 (by omega)
          rw [fi0] at fa2
          cases fa2
          cases hq0 : C i0 with
          | inl r =>
            rw [hq0] at ha2
            have e : a = r := ha2
            subst e
            obtain ⟨x, hx⟩ := hCx i0 a (by omega) hq0
            exact (oTR ha' (rl _ _ hx).2).elim
          | inr v0 =>
            rw [hq0] at ha2
            rw [oT_inj ha' ha2]
        rw [tw1 i0 v hlt hc0] at hb
        simp only [xaA_of t3 (Or.inl rfl) (show i0 < 10 by omega) (by decide), Option.bind_some, fb]
        exact same b (.inr v) hb (isH_t hb) htw
      · rw [if_neg (fun q => hlt (lt0.mp q)), if_neg (by simp)]
        simp only [T_c ha', Option.bind_some]
        rw [if_neg (by decide), if_pos trivial]
        exact same a (.inr v) ha' (isH_t ha') htw
    | inl r =>
      rw [hq] at ha
      have e : a = r := ha
      subst e
      obtain ⟨x, hx⟩ := hCx n a hn hq
      obtain ⟨rl1, rl2⟩ := rl _ _ hx
      have hk : rok N x := by
        have := hC n hn
        rw [hq] at this
        obtain ⟨y, hy, hky⟩ := this
        rw [hx] at hy
        cases hy
        exact hky
      obtain ⟨f1, f2, f3⟩ := frs_ok hn hq
      have ei : i0 = frs C a := by
        have c1 : ¬ frs C a < i0 := fun q => by
          obtain ⟨a2, fa2, ha2⟩ := p4 (frs C a) (by omega)
          rw [f2] at ha2
          have e2 : a2 = a := ha2
          exact fmin (frs C a) (by omega) q (by rw [fa2, e2])
        have c2 : ¬ i0 < frs C a := fun q => by
          obtain ⟨a2, fa2, ha2⟩ := p4 i0 (by omega)
          rw [fi0] at fa2
          cases fa2
          cases hq0 : C i0 with
          | inl r0 =>
            rw [hq0] at ha2
            have e2 : a = r0 := ha2
            exact f3 i0 q (by rw [hq0, e2])
          | inr v0 =>
            rw [hq0] at ha2
            exact oTR ha2 rl2
        omega
      by_cases hlt : i0 < n
      · rw [if_pos (lt0.mpr hlt)]
        obtain ⟨b, fb, hb⟩ := t4 i0 (by omega)
        obtain ⟨q1, q2⟩ := tw2 i0 a hlt (by rw [ei]; exact f2)
        simp only [xaA_of t3 (Or.inl rfl) (show i0 < 10 by omega) (by decide), Option.bind_some, fb]
        have hbn : isH w b := by
          rw [q1] at hb
          have e2 : b = ids (frs C a) := hb
          rw [e2]
          exact isH_r (hr _ x (by rw [q2]; exact hx)).1
        exact same b _ hb hbn (by rw [ei]; exact tw_old hq (by omega))
      · rw [if_neg (fun q => hlt (lt0.mp q)), if_neg (by simp)]
        simp only [R_n rl2, R_o rl2, Option.bind_some, c_size rl2, xrI_e]
        rw [if_pos trivial]
        obtain ⟨w1, e1, k1, z1, o1⟩ := c_part (f := 0) (m := x.2.1) kk.2.1 rl2 hk.2.1 hk.1 (by omega)
        rw [nI_0] at e1
        have hwl : w0.1 ≤ w.1 := kk.2.2.1
        have hwu : w.1 ≤ w0.1 + (3 + 3 * n) := kk.2.2.2.1
        have o2 : oR w1 w.1 x := oR_congr o1 rfl rfl (fun i hi => by show x.2.2 i = x.2.2 (0 + i); rw [Nat.zero_add])
        have hp1 : oP w1 h (tw R C ids n).2 := kp_P k1 (show h + 1 ≠ w.1 by omega) hp
        obtain ⟨w2, e2, k2, z2, o3⟩ := xs_P (h := .inl w.1) hp1 k1.2.1 hn rfl (isH_r o2)
        have cg : tw R C (va_up ids n w.1) n = tw R C ids n := tw_congr n (fun c hc => va_n _ _ (by omega))
        have htw : tw R C (va_up ids n w.1) (n + 1) = (va_up (tw R C ids n).1 w.1 (some x), va_up (tw R C ids n).2 n (.inl w.1)) := by
          rw [tw_new hq (by omega) hx, cg, va_e]
        simp only [e1, Option.bind_some, xrA_e, e2]
        have hp1c : w1.2.2.2 (h + 1) = some (aA 4 10 ft) := kp_c k1 (show h + 1 ≠ w.1 by omega) t3
        have rn1 := rw_ne hp1c (show 14 ≠ 15 by decide)
        refine next w2 (va_up ids n w.1) (kp_tr (kp_tr kk k1 (Or.inr hwl) (Nat.le_refl _)) k2 (Or.inr (by omega)) (by omega)) (by rw [htw]; exact o3) (fun r y hy => ?_) (by omega) ⟨fun c hc => ?_, fun c hc => ?_, fun c e hc he hce => ?_⟩
        · rw [htw] at hy
          have hy' : va_up (tw R C ids n).1 w.1 (some x) r = some y := hy
          by_cases hrw : r = w.1
          · subst hrw
            rw [va_e] at hy'
            cases hy'
            exact ⟨kp_R k2 (rn1 _ _ o2) o2, by omega⟩
          · rw [va_n _ _ hrw] at hy'
            obtain ⟨o, ob⟩ := hr r y hy'
            have hrl : r + 2 < w.1 := by
              obtain ⟨_, _, f5, c5, _⟩ := id o
              exact kk.2.1 _ _ c5
            have o' := kp_R k1 (show r + 2 ≠ w.1 by omega) o
            exact ⟨kp_R k2 (rn1 _ _ o') o', ob⟩
        · rw [va_n _ _ (by omega)]
          exact hi.1 c (by omega)
        · by_cases hcn : c = n
          · subst hcn
            rw [va_e]
            exact Or.inl ⟨hwl, by omega⟩
          · rw [va_n _ _ hcn]
            rcases hi.2.1 c (by omega) with q | q
            · exact Or.inl ⟨q.1, by omega⟩
            · exact Or.inr q
        · have old : ∀ j, j < 10 → j ≠ n → ids j ≠ w.1 := fun j hj hjn => by
            by_cases hjl : j < n
            · rcases hi.2.1 j hjl with q | q
              · omega
              · omega
            · have := hi.1 j (by omega)
              omega
          by_cases hcn : c = n
          · by_cases hen : e = n
            · omega
            · rw [hcn, va_e, va_n _ _ hen] at hce
              exact absurd hce.symm (old e he hen)
          · by_cases hen : e = n
            · rw [hen, va_e, va_n _ _ hcn] at hce
              exact absurd hce (old c hc hcn)
            · rw [va_n _ _ hcn, va_n _ _ hen] at hce
              exact hi.2.2 c e hc he hce
theorem c_twin {g B N : Nat} {R : Nat → Option sR} {C : Nat → sO} (hd : wd w) (hC : ∀ c, c < 10 → hok N R (C c)) (hRr : ∀ r x, R r = some x → oR w r x ∧ B ≤ r) (hP : oP w g C) (hB : B ≤ w.1) : ∃ ids w', xev 3 0 [some (xA (some (g))), none, none, none, none, none] [] w = some (some (xA (some w.1)), w') ∧ kp w.1 33 w w' ∧ oP w' w.1 (tw R C ids 10).2 ∧ (∀ r x, (tw R C ids 10).1 r = some x → oR w' r x ∧ B ≤ r) ∧ frsh R ids := by
  obtain ⟨w1, e1, k1, z1, o1⟩ := c_page hd
  obtain ⟨ids, w2, e2, k2, o2, r2, f2⟩ := c_twin_l hd hC hRr hP rfl hB 10 0 w1 (fun c => w.1 + 1000 + c) rfl k1 o1 (fun r x hx => by
    obtain ⟨o, ob⟩ := hRr r x hx
    obtain ⟨_, _, f, c3, _⟩ := id o
    have := hd _ _ c3
    exact ⟨kp_R k1 (show r + 2 ≠ w.1 by omega) o, ob⟩) (by omega) ⟨fun c _ => rfl, fun c hc => absurd hc (Nat.not_lt_zero c), fun c d _ _ e => by simp only at e; omega⟩
  rw [nI_0] at e2
  refine ⟨ids, w2, ?_, k2, o2, r2, f2⟩
  rw [e_X1_twin_0, b_X1_twin_0]
  simp only [e1, Option.bind_some, xrV_e]
  exact e2
theorem Rc_1 (hR : Rc E S G w) : ∃ g f, xgA w E.1 6 0 = some (some g) ∧ oP w g (qC S) ∧ xgA w E.1 6 1 = some (some (E.1 + 4)) ∧ w.2.2.2 (E.1 + 4) = some (aA 6 2 f) ∧ oM w g f (qI S) := by
  obtain ⟨g, sh, he, p, q, h1, h2, h3, h4, h5, h6, h7, h8, ⟨f, h9, h9b⟩, h10, h11, h12⟩ := hR
  exact ⟨g, f, xgA_of (k := 0) h1 rfl, h8, xgA_of (k := 1) h1 rfl, h9, h9b⟩
theorem frsh_0 (hR : Rc E S G w) : frsh (qR S) (fun c => w.1 + c) := ⟨fun c _ => Rc_fresh hR (Nat.le_add_right _ _), fun c d _ _ e => by simp only at e; omega⟩
theorem c_cimage (hR : Rc E S G w) (hw : wf S) (k : Int32) : ∃ ids w', xev 62 0 [some (xA (some (E.1))), some (xI (k))] [] w = some (some (xI (spImage S k ids).1), w') ∧ Rc E (spImage S k ids).2 G w' ∧ frsh (qR S) ids ∧ gr 33 w w' := by
  rw [e_X7_image_0, b_X7_image_0]
  simp only [c_cimg, Option.bind_some, xrI_e, if10, spImage]
  by_cases hk : inB k 2
  · simp only [if_neg (nn hk)]
    obtain ⟨g, f, g1, g2, g3, g4, g5⟩ := Rc_1 hR
    obtain ⟨ids, w1, e1, k1, o1, r1, f1⟩ := c_twin (N := qN S) (B := E.1 + 44) (Rc_d hR) hw.1 (fun r x hx => ⟨(Rc_R hR hx).1, (Rc_R hR hx).2.1⟩) g2 (Rc_n hR)
    obtain ⟨j, hj, rfl, hjl⟩ := inB_ex hk
    obtain ⟨w2, e2, z1, z2, r2⟩ := Rc_im (k := j) hR k1 (Nat.le_refl _) r1 hj o1 (Nat.le_refl _)
    simp only [hjl]
    refine ⟨ids, w2, ?_, r2, f1, gr_tr (kp_gr k1) (gr_eq z1 (by omega) : gr 0 w1 w2) (by decide)⟩
    simp only [g3, g1, Option.bind_some, P_o g2, e1, xrA_e, e2]
  · simp only [if_pos hk]
    exact ⟨_, w, rfl, hR, frsh_0 hR, gr_refl⟩
theorem c_crestore (hR : Rc E S G w) (hw : wf S) (k : Int32) : ∃ ids w', xev 63 0 [some (xA (some (E.1))), some (xI (k)), none] [] w = some (some (xI (spRest S k ids).1), w') ∧ Rc E (spRest S k ids).2 G w' ∧ frsh (qR S) ids ∧ gr 33 w w' := by
  rw [e_X7_restore_0, b_X7_restore_0]
  simp only [c_cimg, Option.bind_some, xrI_e, if10, spRest]
  by_cases hk : inB k 2
  · simp only [if_neg (nn hk)]
    obtain ⟨g, f, g1, g2, g3, g4, g5⟩ := Rc_1 hR
    obtain ⟨j, hj, rfl, hjl⟩ := inB_ex hk
    simp only [hjl, g3, Option.bind_some, xaA_of g4 (Or.inr (Or.inr rfl)) hj (by decide)]
    cases hq : qI S j with
    | none =>
      rw [(g5 j hj).1 hq, if_pos rfl]
      exact ⟨_, w, rfl, hR, frsh_0 hR, gr_refl⟩
    | some C =>
      obtain ⟨h, f1, f2, f3⟩ := (g5 j hj).2 C hq
      obtain ⟨ids, w1, e1, k1, o1, r1, q1⟩ := c_twin (N := qN S) (B := E.1 + 44) (Rc_d hR) (fun c hc => (hw.2.2.2.2.2.2 j C hj hq c hc).1) (fun r x hx => ⟨(Rc_R hR hx).1, (Rc_R hR hx).2.1⟩) f3 (Rc_n hR)
      obtain ⟨w2, e2, z1, z2, r2⟩ := Rc_pg hR k1 (Nat.le_refl _) r1 o1 (Nat.le_refl _)
      refine ⟨ids, w2, ?_, r2, q1, gr_tr (kp_gr k1) (gr_eq z1 (by omega) : gr 0 w1 w2) (by decide)⟩
      rw [f1, if_neg (by simp)]
      simp only [Option.bind_some, P_o f3, e1, xrA_e, e2]
  · simp only [if_pos hk]
    exact ⟨_, w, rfl, hR, frsh_0 hR, gr_refl⟩
end PH
