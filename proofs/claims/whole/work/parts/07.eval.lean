/-! what a method does, as a function: fuel and rank are taken to their limits -/
section XB
variable {α β : Type}
theorem xcv_b (c : Option xV) (f : xV → Option α) (g : α → Option β) : (xcv c f).bind g = xcv c fun v => (f v).bind g := by cases c <;> rfl
theorem xpI_b (st : List xV) (f : Int32 → List xV → Option α) (g : α → Option β) : (xpI st f).bind g = xpI st fun x r => (f x r).bind g := by unfold xpI; split <;> rfl
theorem xpJ_b (st : List xV) (f : Int64 → List xV → Option α) (g : α → Option β) : (xpJ st f).bind g = xpJ st fun x r => (f x r).bind g := by unfold xpJ; split <;> rfl
theorem xpF_b (st : List xV) (f : UInt32 → List xV → Option α) (g : α → Option β) : (xpF st f).bind g = xpF st fun x r => (f x r).bind g := by unfold xpF; split <;> rfl
theorem xpD_b (st : List xV) (f : UInt64 → List xV → Option α) (g : α → Option β) : (xpD st f).bind g = xpD st fun x r => (f x r).bind g := by unfold xpD; split <;> rfl
theorem xpA_b (st : List xV) (f : Option Nat → List xV → Option α) (g : α → Option β) : (xpA st f).bind g = xpA st fun x r => (f x r).bind g := by unfold xpA; split <;> rfl
theorem xnl_b (st : List xV) (f : Option α) (g : α → Option β) : (xnl st f).bind g = xnl st (f.bind g) := by unfold xnl; split <;> rfl
theorem xlI_b (l : xL) (i : Nat) (f : Int32 → Option α) (g : α → Option β) : (xlI l i f).bind g = xlI l i fun x => (f x).bind g := by unfold xlI; split <;> rfl
theorem xlJ_b (l : xL) (i : Nat) (f : Int64 → Option α) (g : α → Option β) : (xlJ l i f).bind g = xlJ l i fun x => (f x).bind g := by unfold xlJ; split <;> rfl
theorem xlF_b (l : xL) (i : Nat) (f : UInt32 → Option α) (g : α → Option β) : (xlF l i f).bind g = xlF l i fun x => (f x).bind g := by unfold xlF; split <;> rfl
theorem xlD_b (l : xL) (i : Nat) (f : UInt64 → Option α) (g : α → Option β) : (xlD l i f).bind g = xlD l i fun x => (f x).bind g := by unfold xlD; split <;> rfl
theorem xlA_b (l : xL) (i : Nat) (f : Option Nat → Option α) (g : α → Option β) : (xlA l i f).bind g = xlA l i fun x => (f x).bind g := by unfold xlA; split <;> rfl
theorem xrV_b (r : Option xV) (f : Option α) (g : α → Option β) : (xrV r f).bind g = xrV r (f.bind g) := by unfold xrV; split <;> rfl
theorem xrI_b (r : Option xV) (f : Int32 → Option α) (g : α → Option β) : (xrI r f).bind g = xrI r fun x => (f x).bind g := by unfold xrI; split <;> rfl
theorem xrJ_b (r : Option xV) (f : Int64 → Option α) (g : α → Option β) : (xrJ r f).bind g = xrJ r fun x => (f x).bind g := by unfold xrJ; split <;> rfl
theorem xrD_b (r : Option xV) (f : UInt64 → Option α) (g : α → Option β) : (xrD r f).bind g = xrD r fun x => (f x).bind g := by unfold xrD; split <;> rfl
theorem xrA_b (r : Option xV) (f : Option Nat → Option α) (g : α → Option β) : (xrA r f).bind g = xrA r fun x => (f x).bind g := by unfold xrA; split <;> rfl
theorem xrc_b (r : List xV) (f : Option Nat → Option α) (g : α → Option β) : (xrc r f).bind g = xrc r fun x => (f x).bind g := by unfold xrc; split <;> rfl
theorem xnF_b (x : UInt32) (f : UInt32 → Option α) (g : α → Option β) : (xnF x f).bind g = xnF x fun x => (f x).bind g := by unfold xnF; split <;> rfl
theorem xnD_b (x : UInt64) (f : UInt64 → Option α) (g : α → Option β) : (xnD x f).bind g = xnD x fun x => (f x).bind g := by unfold xnD; split <;> rfl
theorem xif_b (c : Prop) [Decidable c] (x y : Option α) (g : α → Option β) : (if c then x else y).bind g = if c then x.bind g else y.bind g := by split <;> rfl
theorem xco_b (c : Bool) (x y : Option α) (g : α → Option β) : (bif c then x else y).bind g = bif c then x.bind g else y.bind g := by cases c <;> rfl
theorem xsw_b (x : Int32) (pc : Nat) (f : Nat → Option α) (g : α → Option β) : ∀ (os : List Int) (j : Int) (d : Nat), (xsw x pc f j os d).bind g = xsw x pc (fun t => (f t).bind g) j os d
  | [], _, _ => rfl
  | o :: r, j, d => by
    simp only [xsw]
    split
    · rfl
    · exact xsw_b x pc f g r (j + 1) d
theorem xans_b (cv r : Option xV) (st : List xV) (f : List xV → Option α) (g : α → Option β) : (xans cv r st f).bind g = xans cv r st fun s => (f s).bind g := by
  unfold xans
  split <;> simp only [xrV_b, xrI_b, xrJ_b, xrD_b, xrA_b, Option.bind_none]
theorem xno_b (g : α → Option β) : (none : Option α).bind g = none := rfl
theorem xas_b {γ : Type} (o : Option α) (f : α → Option β) (g : β → Option γ) : (o.bind f).bind g = o.bind fun x => (f x).bind g := by cases o <;> rfl
end XB
abbrev xR : Type := Option xV × xW
abbrev xK : Type := Nat → xL → List xV → xW → Option xR
abbrev xNx : Type := (Nat × xL × List xV × xW) ⊕ xR
def xel {α : Type} (k : Nat → xL → List xV → xW → Option α) (ret : Option xV → xW → Option α) : xNx → Option α
  | .inl q => k q.1 q.2.1 q.2.2.1 q.2.2.2
  | .inr q => ret q.1 q.2
def xk0 : Nat → xL → List xV → xW → Option xNx := fun p l s w => some (.inl (p, l, s, w))
def xr0 : Option xV → xW → Option xNx := fun r w => some (.inr (r, w))
theorem xk0_b {α : Type} (k : Nat → xL → List xV → xW → Option α) (ret : Option xV → xW → Option α) (p : Nat) (l : xL) (s : List xV) (w : xW) : (xk0 p l s w).bind (xel k ret) = k p l s w := rfl
theorem xr0_b {α : Type} (k : Nat → xL → List xV → xW → Option α) (ret : Option xV → xW → Option α) (r : Option xV) (w : xW) : (xr0 r w).bind (xel k ret) = ret r w := rfl
set_option maxHeartbeats 4000000 in
theorem xexec_nat {α : Type} (cal : Nat → List xV → xW → Option xR) (i : Instr) (pc len a b : Nat) (cv : Option xV) (l : xL) (st : List xV) (w : xW) (k : Nat → xL → List xV → xW → Option α) (ret : Option xV → xW → Option α) :
    xexec cal i pc len a b cv l st w k ret = (xexec cal i pc len a b cv l st w xk0 xr0).bind (xel k ret) := by
  cases i <;> first
    | (simp only [xexec, xcv_b, xpI_b, xpJ_b, xpF_b, xpD_b, xpA_b, xnl_b, xlI_b, xlJ_b, xlF_b, xlD_b, xlA_b, xrV_b, xrI_b, xrJ_b, xrD_b, xrA_b, xrc_b, xnF_b, xnD_b, xif_b, xco_b, xsw_b, xans_b, xno_b, xas_b, xk0_b, xr0_b]; done)
    | (rename_i c _; cases c <;> simp only [xexec, xpI_b, xpA_b, xif_b, xk0_b, xno_b]; done)
    | (unfold xexec; cases cv with
        | none => simp only [xpA_b, xas_b, xno_b]
        | some v => obtain x | x | x | x | x := v <;> simp only [xpI_b, xpJ_b, xpD_b, xpA_b, xas_b, xno_b, xk0_b]
       done)
    | (unfold xexec; cases b <;> simp only [xpI_b, xnl_b, xr0_b, xif_b, xno_b]; done)
/-! limits -/
noncomputable def xlim {β : Type} (f : Nat → Option β) : Option β := @dite _ (∃ r, ∃ n, f n = some r) (Classical.propDecidable _) (fun h => some h.choose) (fun _ => none)
def xmon {β : Type} (f : Nat → Option β) : Prop := ∀ n r, f n = some r → f (n + 1) = some r
theorem xmon_le {β : Type} {f : Nat → Option β} (h : xmon f) {n m : Nat} {r : β} (hn : f n = some r) (hm : n ≤ m) : f m = some r := by
  induction hm with
  | refl => exact hn
  | step _ ih => exact h _ _ ih
theorem xlim_some {β : Type} {f : Nat → Option β} (h : xmon f) {r : β} : xlim f = some r ↔ ∃ n, f n = some r := by
  constructor
  · intro hl
    unfold xlim at hl
    by_cases hx : ∃ r, ∃ n, f n = some r
    · rw [dif_pos hx] at hl
      obtain ⟨n, hn⟩ := hx.choose_spec
      exact ⟨n, hn.trans hl⟩
    · rw [dif_neg hx] at hl
      cases hl
  · rintro ⟨n, hn⟩
    have hx : ∃ r, ∃ n, f n = some r := ⟨r, n, hn⟩
    unfold xlim
    rw [dif_pos hx]
    obtain ⟨m, hm⟩ := hx.choose_spec
    have h1 := xmon_le h hn (Nat.le_max_left n m)
    have h2 := xmon_le h hm (Nat.le_max_right n m)
    rw [h1] at h2
    exact h2.symm
theorem xlim_ext {β : Type} {f g : Nat → Option β} (hf : xmon f) (hg : xmon g) (h : ∀ r, (∃ n, f n = some r) ↔ ∃ n, g n = some r) : xlim f = xlim g := by
  cases hx : xlim f with
  | none =>
    cases hy : xlim g with
    | none => rfl
    | some r =>
      have := (xlim_some hf).mpr ((h r).mpr ((xlim_some hg).mp hy))
      rw [hx] at this
      cases this
  | some r => exact ((xlim_some hg).mpr ((h r).mp ((xlim_some hf).mp hx))).symm
theorem xlim_const {β : Type} (o : Option β) : xlim (fun _ => o) = o := by
  have hm : xmon (fun _ : Nat => o) := fun _ _ h => h
  cases o with
  | none =>
    cases hx : xlim (fun _ : Nat => (none : Option β)) with
    | none => rfl
    | some r => obtain ⟨_, h⟩ := (xlim_some hm).mp hx; cases h
  | some r => exact (xlim_some hm).mpr ⟨0, rfl⟩
/-! runs -/
def xstp (cal : Nat → List xV → xW → Option xR) (m : Nat) (k : xK) (pc : Nat) (l : xL) (st : List xV) (w : xW) : Option xR := match xfetch m pc with
  | none => none
  | some (i, len, a, b, cv, mm) => xexec cal i pc len a b cv (xmk mm l) st w k (fun r w => some (r, w))
def xst0 (cal : Nat → List xV → xW → Option xR) (m : Nat) (pc : Nat) (l : xL) (st : List xV) (w : xW) : Option xNx := match xfetch m pc with
  | none => none
  | some (i, len, a, b, cv, mm) => xexec cal i pc len a b cv (xmk mm l) st w xk0 xr0
theorem xstp_eq (cal : Nat → List xV → xW → Option xR) (m : Nat) (k : xK) (pc : Nat) (l : xL) (st : List xV) (w : xW) : xstp cal m k pc l st w = (xst0 cal m pc l st w).bind (xel k fun r w => some (r, w)) := by
  unfold xstp xst0
  split
  · rfl
  · exact xexec_nat ..
def xrun (cal : Nat → List xV → xW → Option xR) (m : Nat) : Nat → xK
  | 0 => fun _ _ _ _ => none
  | n + 1 => xstp cal m (xrun cal m n)
theorem xrun_mon (cal : Nat → List xV → xW → Option xR) (m : Nat) : ∀ (n pc : Nat) (l : xL) (st : List xV) (w : xW) (r : xR), xrun cal m n pc l st w = some r → xrun cal m (n + 1) pc l st w = some r
  | 0, pc, l, st, w, r, h => by cases h
  | n + 1, pc, l, st, w, r, h => by
    have h1 : xstp cal m (xrun cal m n) pc l st w = some r := h
    show xstp cal m (xrun cal m (n + 1)) pc l st w = some r
    rw [xstp_eq] at h1 ⊢
    cases hx : xst0 cal m pc l st w with
    | none => rw [hx] at h1; cases h1
    | some z =>
      rw [hx] at h1
      cases z with
      | inl q => exact xrun_mon cal m n _ _ _ _ r h1
      | inr q => exact h1
theorem xrun_xm (cal : Nat → List xV → xW → Option xR) (m pc : Nat) (l : xL) (st : List xV) (w : xW) : xmon (fun n => xrun cal m n pc l st w) := fun n r h => xrun_mon cal m n pc l st w r h
noncomputable def xlm (cal : Nat → List xV → xW → Option xR) (m : Nat) : xK := fun pc l st w => xlim (fun n => xrun cal m n pc l st w)
theorem xlm_eq (cal : Nat → List xV → xW → Option xR) (m pc : Nat) (l : xL) (st : List xV) (w : xW) : xlm cal m pc l st w = xstp cal m (xlm cal m) pc l st w := by
  rw [xstp_eq]
  cases hx : xst0 cal m pc l st w with
  | none =>
    have h0 : (fun n => xrun cal m n pc l st w) = fun _ => none := by
      funext n
      cases n with
      | zero => rfl
      | succ n =>
        show xstp cal m (xrun cal m n) pc l st w = none
        rw [xstp_eq, hx]
        rfl
    show xlim _ = none
    rw [h0]
    exact xlim_const none
  | some z =>
    cases z with
    | inl q =>
      show xlim _ = xlim _
      refine xlim_ext (xrun_xm cal m pc l st w) (xrun_xm cal m q.1 q.2.1 q.2.2.1 q.2.2.2) (fun r => ⟨?_, ?_⟩)
      · rintro ⟨n, hn⟩
        cases n with
        | zero => cases hn
        | succ n =>
          have h1 : xstp cal m (xrun cal m n) pc l st w = some r := hn
          rw [xstp_eq, hx] at h1
          exact ⟨n, h1⟩
      · rintro ⟨n, hn⟩
        refine ⟨n + 1, ?_⟩
        show xstp cal m (xrun cal m n) pc l st w = some r
        rw [xstp_eq, hx]
        exact hn
    | inr q =>
      show xlim _ = some q
      refine (xlim_some (xrun_xm cal m pc l st w)).mpr ⟨1, ?_⟩
      show xstp cal m (xrun cal m 0) pc l st w = some q
      rw [xstp_eq, hx]
      rfl
/-- a call, of a method of lower rank -/
def xca (ev : Nat → xK) (m : Nat) : Nat → List xV → xW → Option xR := fun y as w => bif Nat.blt (xrk y) (xrk m) && Nat.ble (xent1 as).length (xml y) then ev y 0 (xent2 (xml y) (xent1 as)) [] w else none
noncomputable def xEr : Nat → Nat → xK
  | 0 => fun _ _ _ _ _ => none
  | k + 1 => fun m => bif Nat.blt (xrk m) k then xEr k m else xlm (xca (xEr k) m) m
/-- what a method does from a place on -/
noncomputable def xev (m : Nat) : xK := xEr (xrk m + 1) m
theorem xEr_st : ∀ (k m : Nat), xrk m < k → xEr k m = xev m
  | 0, m, h => absurd h (Nat.not_lt_zero _)
  | k + 1, m, h => by
    by_cases hk : xrk m < k
    · have hb : Nat.blt (xrk m) k = true := by simpa [Nat.blt_eq] using hk
      show (bif Nat.blt (xrk m) k then xEr k m else _) = _
      rw [hb]
      exact xEr_st k m hk
    · have he : k = xrk m := by omega
      rw [he]
      rfl
theorem xca_st (m : Nat) : xca (xEr (xrk m)) m = xca xev m := by
  funext y as w
  unfold xca
  by_cases hk : xrk y < xrk m
  · rw [xEr_st _ _ hk]
  · have hb : Nat.blt (xrk y) (xrk m) = false := by
      cases hx : Nat.blt (xrk y) (xrk m) with
      | false => rfl
      | true => exact absurd (by simpa [Nat.blt_eq] using hx) hk
    rw [hb]
    rfl
theorem xev_lm (m : Nat) : xev m = xlm (xca xev m) m := by
  unfold xev
  show (bif Nat.blt (xrk m) (xrk m) then xEr (xrk m) m else xlm (xca (xEr (xrk m)) m) m) = _
  have hb : Nat.blt (xrk m) (xrk m) = false := by
    cases hx : Nat.blt (xrk m) (xrk m) with
    | false => rfl
    | true => exact absurd (Nat.blt_eq.mp hx) (Nat.lt_irrefl (xrk m))
  rw [hb, xca_st]
  rfl
theorem xev_eq (m pc : Nat) (l : xL) (st : List xV) (w : xW) : xev m pc l st w = xstp (xca xev m) m (xev m) pc l st w := by
  rw [xev_lm m]
  exact xlm_eq ..
theorem xmk_mk : ∀ (ms : List Bool) (l : xL), xmk ms (xmk ms l) = xmk ms l := by
  intro ms l
  cases ms with
  | nil => rfl
  | cons c cs =>
    show List.zipWith _ (c :: cs) (List.zipWith _ (c :: cs) l) = List.zipWith _ (c :: cs) l
    generalize c :: cs = ms
    induction ms generalizing l with
    | nil => rfl
    | cons c cs ih =>
      cases l with
      | nil => rfl
      | cons x l =>
        simp only [List.zipWith_cons_cons]
        rw [ih l]
        cases c <;> rfl
/-- up to the next place where paths meet -/
def xgo (cal : Nat → List xV → xW → Option xR) (m : Nat) (kk : xK) : Nat → xK
  | 0 => kk
  | n + 1 => fun pc l st w => match xfetch m pc with
    | none => none
    | some (i, len, a, b, cv, []) => xexec cal i pc len a b cv l st w (xgo cal m kk n) (fun r w => some (r, w))
    | some (_, _, _, _, _, c :: cs) => kk pc (xmk (c :: cs) l) st w
theorem xgo_ev (m : Nat) : ∀ n, xgo (xca xev m) m (xev m) n = xev m
  | 0 => rfl
  | n + 1 => by
    funext pc l st w
    unfold xgo
    cases hf : xfetch m pc with
    | none =>
      rw [xev_eq]
      unfold xstp
      rw [hf]
    | some e =>
      obtain ⟨i, len, a, b, cv, mm⟩ := e
      cases mm with
      | nil =>
        rw [xgo_ev m n]
        show xexec .. = _
        rw [xev_eq m pc]
        unfold xstp
        rw [hf]
        rfl
      | cons c cs =>
        show xev m pc (xmk (c :: cs) l) st w = _
        rw [xev_eq, xev_eq m pc l]
        unfold xstp
        rw [hf]
        show xexec _ _ _ _ _ _ _ (xmk (c :: cs) (xmk (c :: cs) l)) _ _ _ _ = _
        rw [xmk_mk]
theorem xev_go (m n pc : Nat) (l : xL) (st : List xV) (w : xW) : xev m pc l st w = xstp (xca xev m) m (xgo (xca xev m) m (xev m) n) pc l st w := by
  rw [xgo_ev]
  exact xev_eq ..
