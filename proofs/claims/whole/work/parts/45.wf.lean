/-! a notebook stays as it may be -/
section WF
variable {S : sS} {c k r : Nat} {cell : Int32} {v : mC} {x : sR} {N M : Nat} {R : Nat → Option sR}
theorem tok_mono (h : tok N v) (hNM : N ≤ M) : tok M v := by
  obtain ⟨k, h1, h2, h3⟩ := h
  refine ⟨k, h1, h2, h3.imp id (Or.imp id (Or.imp (fun h => ?_) id))⟩
  obtain ⟨a, b, j, j0, j1, e⟩ := h
  exact ⟨a, b, j, j0, by omega, e⟩
theorem rok_mono (h : rok N x) (hNM : N ≤ M) : rok M x := ⟨h.1, h.2.1, fun i hi => ⟨tok_mono (h.2.2 i hi).1 hNM, (h.2.2 i hi).2⟩⟩
theorem hok_mono {h : sO} (hh : hok N R h) (hNM : N ≤ M) : hok M R h := by
  cases h with
  | inl r =>
    obtain ⟨x, h1, h2⟩ := hh
    exact ⟨x, h1, rok_mono h2 hNM⟩
  | inr v => exact Or.imp id (Or.imp id (fun ⟨j, a, b, e⟩ => ⟨j, a, by omega, e⟩)) hh
theorem hok_upd {h : sO} (hx : rok N x) (hh : hok N R h) : hok N (va_up R r (some x)) h := by
  cases h with
  | inl s =>
    obtain ⟨y, h1, h2⟩ := hh
    by_cases hsr : s = r
    · exact ⟨x, if_pos hsr, hx⟩
    · exact ⟨y, (if_neg hsr).trans h1, h2⟩
  | inr v => exact hh
theorem wf_uT (i : Nat) (h : wf S) : wf (uT S i) := h
theorem wf_uA (i : Int32) (h : wf S) : wf (uA S i) := h
theorem wf_uS (h : wf S) (hk : k < 8) (hv : v.1 = nI k) (hn : (k = 6 ∨ k = 7) → nR 20 v.2.2) : wf (uS S v) := ⟨h.1, ⟨k, hk, hv, hn⟩, h.2.2⟩
theorem wf_uH (h : wf S) (hv : tok (qN S) v) : wf (uH S v) := ⟨h.1, h.2.1, hv, h.2.2.2⟩
theorem wf_uR (h : wf S) (hx : rok (qN S) x) : wf (uR S r x) := by
  obtain ⟨h1, h2, h3, h4, h5, h6, h7⟩ := h
  refine ⟨fun c hc => hok_upd hx (h1 c hc), h2, h3, fun s hs => ?_, h5, h6, fun k f hk hf c hc => ⟨hok_upd hx (h7 k f hk hf c hc).1, (h7 k f hk hf c hc).2⟩⟩
  obtain ⟨⟨y, a, b⟩, d⟩ := h4 s hs
  refine ⟨?_, d⟩
  by_cases hsr : s = r
  · exact ⟨x, if_pos hsr, hx⟩
  · exact ⟨y, (if_neg hsr).trans a, b⟩
/-- a row that hangs, if need be a new one -/
theorem wf_uC {h : sO} (hw : wf S) (hh : hok (qN S) (qR S) h) (hn : ∀ r, h = .inl r → qK S ≠ some r ∧ ∀ k f, k < 2 → qI S k = some f → ∀ d, d < 10 → f d ≠ .inl r) : wf (uC S c h) := by
  obtain ⟨h1, h2, h3, h4, h5, h6, h7⟩ := hw
  refine ⟨fun d hd => ?_, h2, h3, fun s hs => ⟨(h4 s hs).1, fun d hd e => ?_⟩, h5, h6, fun k f hk hf d hd => ⟨(h7 k f hk hf d hd).1, fun s hs e he q => ?_⟩⟩
  · show hok _ _ (if d = c then h else qC S d)
    split
    · exact hh
    · exact h1 d hd
  · have e' : (if d = c then h else qC S d) = .inl s := e
    by_cases hdc : d = c
    · rw [if_pos hdc] at e'
      exact (hn s e').1 hs
    · rw [if_neg hdc] at e'
      exact (h4 s hs).2 d hd e'
  · have e' : (if e = c then h else qC S e) = .inl s := q
    by_cases hdc : e = c
    · rw [if_pos hdc] at e'
      exact (hn s e').2 k f hk hf d hd hs
    · rw [if_neg hdc] at e'
      exact (h7 k f hk hf d hd).2 s hs e he e'
theorem fresh_c {id : Nat} (hw : wf S) (hf : qR S id = none) : (∀ d, d < 10 → qC S d ≠ .inl id) ∧ qK S ≠ some id ∧ ∀ k f, k < 2 → qI S k = some f → ∀ d, d < 10 → f d ≠ .inl id := by
  refine ⟨fun d hd e => ?_, fun e => ?_, fun k f hk hfk d hd e => ?_⟩
  · obtain ⟨y, hy, _⟩ := wf_row hw hd e
    rw [hf] at hy; cases hy
  · obtain ⟨⟨y, hy, _⟩, _⟩ := hw.2.2.2.1 id e
    rw [hf] at hy; cases hy
  · have := (hw.2.2.2.2.2.2 k f hk hfk d hd).1
    rw [e] at this
    obtain ⟨y, hy, _⟩ := this
    rw [hf] at hy; cases hy
theorem wf_new {id : Nat} (hw : wf S) (hf : qR S id = none) (hx : rok (qN S) x) : wf (uC (uR S id x) c (.inl id)) := by
  have hfr := fresh_c hw hf
  refine wf_uC (wf_uR hw hx) ⟨x, if_pos rfl, hx⟩ (fun r e => ?_)
  cases e
  exact hfr.2
theorem wf_thing {v : mC} (hw : wf S) (hv : hok (qN S) (qR S) (.inr v)) : wf (uC S c (.inr v)) := wf_uC hw hv (fun r e => by cases e)
theorem wf_same {e : Nat} (hw : wf S) (he : e < 10) : wf (uC S c (qC S e)) := wf_uC hw (hw.1 e he) (fun r h => ⟨fun q => (hw.2.2.2.1 r q).2 e he h, fun k f hk hf d hd q => (hw.2.2.2.2.2.2 k f hk hf d hd).2 r q e he h⟩)
theorem wf_stone {w : Int32} (hw : wf S) (hN : qN S < 60) : wf (uN (uW S (qN S) w) (qN S + 1)) := by
  obtain ⟨h1, h2, h3, h4, h5, h6, h7⟩ := hw
  refine ⟨fun d hd => hok_mono (h1 d hd) (Nat.le_succ _), h2, tok_mono h3 (Nat.le_succ _), fun s hs => ?_, h5, by show qN S + 1 ≤ 60; omega, fun k f hk hf d hd => ⟨hok_mono (h7 k f hk hf d hd).1 (Nat.le_succ _), (h7 k f hk hf d hd).2⟩⟩
  obtain ⟨⟨y, a, b⟩, d⟩ := h4 s hs
  exact ⟨⟨y, a, rok_mono b (Nat.le_succ _)⟩, d⟩
theorem pv_ok {ty : Nat} (ht : ty < 13) (hv : tok N v) (hf : fitB ty (kn v) = true) : tok N (pv ty v) ∧ (∃ k, k < 12 ∧ (pv ty v).1 = nI k ∧ fitB ty k = true) ∧ (ty ≤ 7 → (pv ty v).1 = nI ty) := by
  obtain ⟨k12, ek⟩ := tok_c hv
  unfold pv
  by_cases h8 : 7 < ty
  · rw [if_pos h8]
    exact ⟨hv, ⟨_, k12, ek, hf⟩, fun h => by omega⟩
  · rw [if_neg h8]
    have k8 := fit8 (by omega) k12 hf
    obtain ⟨o1, o2⟩ := wid_ok hv ek k8 (by omega) hf
    have d : ∀ ty, ty < 8 → fitB ty ty = true := by decide +kernel
    exact ⟨o1, ⟨ty, by omega, o2, d ty (by omega)⟩, fun _ => o2⟩
theorem rok_put {j : Nat} (hx : rok N x) (hv : tok N v) (hf : fitB x.1 (kn v) = true) : rok N (x.1, x.2.1, va_up x.2.2 j (pv x.1 v)) := by
  refine ⟨hx.1, hx.2.1, fun i hi => ?_⟩
  show tok N (if i = j then _ else _) ∧ (∃ k, k < 12 ∧ (if i = j then _ else _ : mC).1 = nI k ∧ _) ∧ (_ → (if i = j then _ else _ : mC).1 = _)
  by_cases h : i = j
  · rw [if_pos h]
    exact pv_ok hx.1 hv hf
  · rw [if_neg h]
    exact hx.2.2 i hi
theorem rdA_ok (hw : wf S) (hc : c < 10) (hk : k < 8) : wf (rdA S c cell k).2 ∧ qN (rdA S c cell k).2 = qN S ∧ qC (rdA S c cell k).2 = qC S ∧ qR (rdA S c cell k).2 = qR S ∧ ((rdA S c cell k).1 = 0 → tok (qN S) (qS (rdA S c cell k).2) ∧ (qS (rdA S c cell k).2).1 = nI k ∧ inB cell 24) := by
  cases hq : qC S c with
  | inr v =>
    rw [rdA_th hq]
    exact ⟨hw, rfl, rfl, rfl, fun h => absurd h (th1 v)⟩
  | inl r =>
    obtain ⟨x, hx, rk⟩ := wf_row hw hc hq
    rw [rdA_row hq hx]
    by_cases h8 : 7 < x.1
    · rw [if_pos h8]
      exact ⟨hw, rfl, rfl, rfl, fun h => absurd (show (3 : Nat) = 0 from h) (by decide)⟩
    · rw [if_neg h8]
      by_cases hb : inB cell x.2.1
      · rw [if_pos hb]
        by_cases hf : fitB k x.1 = true
        · rw [if_pos hf]
          obtain ⟨t1, t2, t3⟩ := rk.2.2 _ hb.2
          obtain ⟨o1, o2⟩ := wid_ok t1 (t3 (by omega)) (by omega) hk hf
          refine ⟨wf_uS hw hk o2 (fun h => tok_n o1 (by rw [kn_of o2 (by omega)]; exact h)), rfl, rfl, rfl, fun _ => ⟨o1, o2, hb.1, ?_⟩⟩
          have := hb.2
          have := rk.2.1
          omega
        · rw [if_neg hf]
          exact ⟨hw, rfl, rfl, rfl, fun h => absurd (show (5 : Nat) = 0 from h) (by decide)⟩
      · rw [if_neg hb]
        exact ⟨hw, rfl, rfl, rfl, fun h => absurd (show (4 : Nat) = 0 from h) (by decide)⟩
theorem wrA_ok (hw : wf S) (hc : c < 10) (hv : tok (qN S) v) : wf (wrA S c cell v).2 := by
  cases hq : qC S c with
  | inr v =>
    rw [wrA_th hq]
    exact hw
  | inl r =>
    obtain ⟨x, hx, rk⟩ := wf_row hw hc hq
    rw [wrA_row hq hx]
    by_cases h8 : 7 < x.1
    · rw [if_pos h8]
      exact hw
    · rw [if_neg h8]
      by_cases hb : inB cell x.2.1
      · rw [if_pos hb]
        by_cases hf : fitB x.1 (kn v) = true
        · rw [if_pos hf]
          exact wf_uR hw (rok_put rk hv hf)
        · rw [if_neg hf]
          exact hw
      · rw [if_neg hb]
        exact hw
theorem tkA_ok (hw : wf S) (hc : c < 10) : wf (tkA S c cell).2 ∧ ((tkA S c cell).1 = 0 → inB cell 24) := by
  cases hq : qC S c with
  | inr v =>
    rw [tkA_th hq]
    exact ⟨hw, fun h => absurd h (th1 v)⟩
  | inl r =>
    obtain ⟨x, hx, rk⟩ := wf_row hw hc hq
    rw [tkA_row hq hx]
    by_cases hb : inB cell x.2.1
    · rw [if_pos hb]
      refine ⟨wf_uH hw (rk.2.2 _ hb.2).1, fun _ => ⟨hb.1, ?_⟩⟩
      have := hb.2
      have := rk.2.1
      omega
    · rw [if_neg hb]
      exact ⟨hw, fun h => absurd (show (4 : Nat) = 0 from h) (by decide)⟩
theorem lyA_ok (hw : wf S) (hc : c < 10) : wf (lyA S c cell).2 := by
  cases hq : qC S c with
  | inr v =>
    rw [lyA_th hq]
    exact hw
  | inl r =>
    obtain ⟨x, hx, rk⟩ := wf_row hw hc hq
    rw [lyA_row hq hx]
    by_cases hb : inB cell x.2.1
    · rw [if_pos hb]
      by_cases hf : fitB x.1 (kn (qH S)) = true
      · rw [if_pos hf]
        exact wf_uR hw (rok_put rk hw.2.2.1 hf)
      · rw [if_neg hf]
        exact hw
    · rw [if_neg hb]
      exact hw
end WF
