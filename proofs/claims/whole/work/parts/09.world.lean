/-! how a world lies in the machine's heap -/
def xty (k : Nat) : FieldType := match k with
  | 0 => .int
  | 1 => .long
  | 2 => .double
  | 3 => .boolean
  | 4 => .object "CoreBook$Holding"
  | 5 => .object "CoreBook$Thing"
  | 6 => .object "CoreBook$Page"
  | _ => .int
def xval (v : (Nat → Int32) ⊕ (Nat → Int64) ⊕ (Nat → UInt32) ⊕ (Nat → UInt64) ⊕ (Nat → Option Nat)) (j : Nat) : Value := match v with
  | .inl f => .int (f j)
  | .inr (.inl f) => .long (f j)
  | .inr (.inr (.inl f)) => .float (f j)
  | .inr (.inr (.inr (.inl f))) => .double (f j)
  | .inr (.inr (.inr (.inr f))) => va_rf (f j)
def xarC (s : State) (k n : Nat) (v : (Nat → Int32) ⊕ (Nat → Int64) ⊕ (Nat → UInt32) ⊕ (Nat → UInt64) ⊕ (Nat → Option Nat)) (cell : Cell) : Prop :=
  s.isArrayOf cell (xty k) ∧ (4 ≤ k → k ≤ 6 → va_RA s cell.cls (xty k)) ∧ cell.vm ≠ .unknown ∧ (n ≤ cell.slots.size ∧ cell.slots.size.toInt32 = Int32.ofNat n) ∧ ∀ j, j < n → cell.slots[j]? = some (xval v j)
def xat (D : va_G) (s : State) (a : Nat) (e : xE) (H : Heap) : Prop := match e with
  | .inl q => ∃ cell : Cell, H[a]? = some cell ∧ xarC s q.1 q.2.1 q.2.2 cell
  | .inr q => ∃ r : vw_C, xcl[q.1]? = some r ∧ t_OB a (D.1 q.1) r.2.2 (D.2 q.1) H (vp_V (q.2.map xv))
def xro (e : xE) : Prop := match e with
  | .inl q => q.1 = 7
  | .inr _ => False
/-- the world's cells lie in the heap; those that may be written lie from z0 on -/
def xP (D : va_G) (z0 : Nat) (s : State) (w : xW) (H : Heap) : Prop := H.size = w.1 ∧ z0 ≤ w.1 ∧ ∀ a e, w.2.2.2 a = some e → xat D s a e H ∧ (xro e ∨ z0 ≤ a)
theorem xat_kept {D : va_G} {s : State} {a : Nat} {e : xE} {H H1 : Heap} (h : xat D s a e H) (hq : H1[a]? = H[a]?) : xat D s a e H1 := by
  cases e with
  | inl q => obtain ⟨cell, h1, h2⟩ := h; exact ⟨cell, hq.trans h1, h2⟩
  | inr q => obtain ⟨r, h1, h2⟩ := h; exact ⟨r, h1, h2.kept hq⟩
theorem xat_lt {D : va_G} {s : State} {a : Nat} {e : xE} {H : Heap} (h : xat D s a e H) : a < H.size := by
  cases e with
  | inl q => obtain ⟨cell, h1, h2⟩ := h; exact (Array.getElem?_eq_some_iff.mp h1).1
  | inr q => obtain ⟨r, h1, cell, h2, -⟩ := h; exact (Array.getElem?_eq_some_iff.mp h2).1
theorem xat_moved {D : va_G} {s U : State} {a : Nat} {e : xE} {H : Heap} (hvm : s.vm.Alike U.vm) (h : xat D s a e H) : xat D U a e H := by
  cases e with
  | inl q => obtain ⟨cell, h1, h2, h3, h4⟩ := h; exact ⟨cell, h1, State.isArrayOf_alike hvm h2, fun a b => (h3 a b).moved hvm, h4⟩
  | inr q => exact h
theorem xP_moved {D : va_G} {z0 : Nat} {s U : State} {w : xW} {H : Heap} (hvm : s.vm.Alike U.vm) (h : xP D z0 s w H) : xP D z0 U w H := ⟨h.1, h.2.1, fun a e he => ⟨xat_moved hvm (h.2.2 a e he).1, (h.2.2 a e he).2⟩⟩
theorem xP_set {D : va_G} {z0 : Nat} {s : State} {w : xW} {H H1 : Heap} {a : Nat} {e0 e : xE} (h : xP D z0 s w H) (h0 : w.2.2.2 a = some e0) (hr : ¬ xro e0) (hz : H1.size = H.size) (ho : ∀ q : Nat, q ≠ a → H1[q]? = H[q]?) (he : xat D s a e H1) : xP D z0 s (xset w a e) H1 ∧ z0 ≤ a := by
  have ha : z0 ≤ a := (h.2.2 a e0 h0).2.resolve_left hr
  refine ⟨⟨hz.trans h.1, h.2.1, fun b f hb => ?_⟩, ha⟩
  have hb : xup w.2.2.2 a e b = some f := hb
  unfold xup at hb
  by_cases hba : b = a
  · rw [if_pos hba] at hb
    cases hb
    rw [hba]
    exact ⟨he, Or.inr ha⟩
  · rw [if_neg hba] at hb
    exact ⟨xat_kept (h.2.2 b f hb).1 (ho b hba), (h.2.2 b f hb).2⟩
theorem xP_push {D : va_G} {z0 n : Nat} {s : State} {w : xW} {H H1 : Heap} {e : xE} (h : xP D z0 s w H) (hz : H1.size = H.size + 1) (ho : ∀ q : Nat, q < H.size → H1[q]? = H[q]?) (he : xat D s H.size e H1) : xP D z0 s (xpush w n e) H1 := by
  refine ⟨by rw [hz, h.1]; rfl, Nat.le_succ_of_le h.2.1, fun b f hb => ?_⟩
  have hb : xup w.2.2.2 w.1 e b = some f := hb
  unfold xup at hb
  by_cases hba : b = w.1
  · rw [if_pos hba] at hb
    cases hb
    rw [hba, ← h.1]
    exact ⟨he, Or.inr (by rw [h.1]; exact h.2.1)⟩
  · rw [if_neg hba] at hb
    exact ⟨xat_kept (h.2.2 b f hb).1 (ho b (xat_lt (h.2.2 b f hb).1)), (h.2.2 b f hb).2⟩
/-! what the tables say, wherever a method of the program stands -/
theorem xcl_at {c : Nat} (h : c < 8) : xcl[c]? = some (xcs c, xTT c, (xdf c).length) := by
  match c, h with

  | 0, _ => rfl
  | 1, _ => rfl
  | 2, _ => rfl
  | 3, _ => rfl
  | 4, _ => rfl
  | 5, _ => rfl
  | 6, _ => rfl
  | 7, _ => rfl
theorem xnm {c : Nat} (h : c < 8) : ∀ a, a < (xdf c).length → ∀ b, b < (xdf c).length → a ≠ b → (xTT c a).2.1 ≠ (xTT c b).2.1 := by
  match c, h with
  | 0, _ => exact xn_0
  | 1, _ => exact xn_1
  | 2, _ => exact xn_2
  | 3, _ => exact xn_3
  | 4, _ => exact xn_4
  | 5, _ => exact xn_5
  | 6, _ => exact xn_6
  | 7, _ => exact xn_7
theorem xtd {c : Nat} (h : c < 8) : ∀ k, k < (xdf c).length → parseFieldDescriptor (xTT c k).2.2.1 = some (xYY c k) := by
  match c, h with
  | 0, _ => exact xt_0
  | 1, _ => exact xt_1
  | 2, _ => exact xt_2
  | 3, _ => exact xt_3
  | 4, _ => exact xt_4
  | 5, _ => exact xt_5
  | 6, _ => exact xt_6
  | 7, _ => exact xt_7
theorem xdv {c : Nat} (h : c < 8) : ∀ j, j < (xdf c).length → defaultValue (xYY c j) = vp_V ((xdf c).map xv) j := by
  match c, h with
  | 0, _ => decide +kernel
  | 1, _ => decide +kernel
  | 2, _ => decide +kernel
  | 3, _ => decide +kernel
  | 4, _ => decide +kernel
  | 5, _ => decide +kernel
  | 6, _ => decide +kernel
  | 7, _ => decide +kernel
abbrev xgd : List Cond := lw_tbl.filter goodWord
theorem xgd_at {i : Nat} {c : Cond} (h : lw_tbl[i]? = some c) (hg : goodWord c = true) : c ∈ xgd := List.mem_filter.mpr ⟨List.mem_of_getElem? h, hg⟩
theorem xlay_0 : ∀ k, k < 1 → lw_tbl[([84] : List Nat).getD k 0]? = some (u_lay (xcs 0) (xTT 0) k) ∧ goodWord (u_lay (xcs 0) (xTT 0) k) = true := by decide +kernel
theorem xlay_1 : ∀ k, k < 3 → lw_tbl[([99, 101, 103] : List Nat).getD k 0]? = some (u_lay (xcs 1) (xTT 1) k) ∧ goodWord (u_lay (xcs 1) (xTT 1) k) = true := by decide +kernel
theorem xlay_2 : ∀ k, k < 3 → lw_tbl[([119, 121, 123] : List Nat).getD k 0]? = some (u_lay (xcs 2) (xTT 2) k) ∧ goodWord (u_lay (xcs 2) (xTT 2) k) = true := by decide +kernel
theorem xlay_3 : ∀ k, k < 3 → lw_tbl[([210, 212, 214] : List Nat).getD k 0]? = some (u_lay (xcs 3) (xTT 3) k) ∧ goodWord (u_lay (xcs 3) (xTT 3) k) = true := by decide +kernel
theorem xlay_4 : ∀ k, k < 1 → lw_tbl[([133] : List Nat).getD k 0]? = some (u_lay (xcs 4) (xTT 4) k) ∧ goodWord (u_lay (xcs 4) (xTT 4) k) = true := by decide +kernel
theorem xlay_5 : ∀ k, k < 3 → lw_tbl[([76, 78, 80] : List Nat).getD k 0]? = some (u_lay (xcs 5) (xTT 5) k) ∧ goodWord (u_lay (xcs 5) (xTT 5) k) = true := by decide +kernel
theorem xlay_6 : ∀ k, k < 13 → lw_tbl[([149, 151, 153, 155, 157, 159, 161, 163, 165, 167, 169, 171, 173] : List Nat).getD k 0]? = some (u_lay (xcs 6) (xTT 6) k) ∧ goodWord (u_lay (xcs 6) (xTT 6) k) = true := by decide +kernel
theorem xlay_7 : ∀ k, k < 34 → lw_tbl[([579, 581, 583, 585, 587, 589, 591, 593, 595, 597, 599, 601, 603, 605, 607, 609, 611, 613, 615, 617, 619, 621, 623, 625, 627, 629, 631, 633, 635, 637, 639, 641, 643, 645] : List Nat).getD k 0]? = some (u_lay (xcs 7) (xTT 7) k) ∧ goodWord (u_lay (xcs 7) (xTT 7) k) = true := by decide +kernel
theorem xlay {c : Nat} (h : c < 8) : ∀ q ∈ u_ws (xcs c) (xTT c) (xdf c).length, q ∈ xgd := by
  intro q hq
  obtain ⟨k, hk, rfl⟩ := List.mem_map.mp hq
  have hk := List.mem_range.mp hk
  match c, h with
  | 0, _ => exact xgd_at (xlay_0 k hk).1 (xlay_0 k hk).2
  | 1, _ => exact xgd_at (xlay_1 k hk).1 (xlay_1 k hk).2
  | 2, _ => exact xgd_at (xlay_2 k hk).1 (xlay_2 k hk).2
  | 3, _ => exact xgd_at (xlay_3 k hk).1 (xlay_3 k hk).2
  | 4, _ => exact xgd_at (xlay_4 k hk).1 (xlay_4 k hk).2
  | 5, _ => exact xgd_at (xlay_5 k hk).1 (xlay_5 k hk).2
  | 6, _ => exact xgd_at (xlay_6 k hk).1 (xlay_6 k hk).2
  | 7, _ => exact xgd_at (xlay_7 k hk).1 (xlay_7 k hk).2
def xhc : MethodName := ⟨"CoreBook$Holding", "content", "()I"⟩
def xTb (D : va_G) (s : State) : Prop :=
  (∀ q ∈ xgd, q.before #[] s = true) ∧ va_K D xcl [] s ∧ va_Nw (.methodLinkNest (xcs 3) 49 (xmi 72).2.1 (xcs 6)) s ∧ va_Nw (.methodLinkNest (xcs 3) 53 (xmi 71).2.1 (xcs 6)) s ∧ va_Fw (xcs 3) xhc (xmi 18).2.1 s ∧ va_Fw (xcs 5) xhc (xmi 34).2.1 s ∧ va_AO (xqn 4) s ∧ va_AO (xqn 5) s ∧ va_AO (xqn 6) s ∧ va_Nc (xcs 5) (xcs 3) s
theorem xTb_moved {D : va_G} {s U : State} (hW : s.WarmedH U.vm) (h : xTb D s) : xTb D U := by
  obtain ⟨h1, h2, h3, h4, h5, h6, h7, h8, h9, h10⟩ := h
  refine ⟨fun q hq => word_at hW (good_of_word (List.mem_filter.mp hq).2) (h1 q hq), va_K.moved hW.alike h2, va_Nw.warmM hW h3, va_Nw.warmM hW h4, va_Fw.moved (by decide +kernel) hW.alike h5, va_Fw.moved (by decide +kernel) hW.alike h6, va_AO.moved hW.alike h7, va_AO.moved hW.alike h8, va_AO.moved hW.alike h9, va_Nc.moved hW.alike h10⟩
theorem xTb_word {D : va_G} {s : State} (h : xTb D s) {q : Cond} (hq : q ∈ xgd) (args : Array Value) : q.before args s = true := word_at (State.WarmedH.refl s) (good_of_word (List.mem_filter.mp hq).2) (h.1 q hq)

/-- the local variables -/
def xLs (ls : Array Slot) (l : xL) : Prop := ls.size = l.length ∧ lv_wf ls ∧ ∀ (i : Nat) (v : xV), l[i]? = some (some v) → ls[i]? = some (.val (xv v))
theorem xLs_mk {ls : Array Slot} {l : xL} {ms : List Bool} (h : xLs ls l) (hm : ms = [] ∨ ms.length = l.length) : xLs ls (xmk ms l) := by
  cases ms with
  | nil => exact h
  | cons c cs =>
    have hm : (c :: cs).length = l.length := hm.resolve_left (by simp)
    show xLs ls (List.zipWith (fun b x => bif b then x else none) (c :: cs) l)
    generalize c :: cs = ms at hm ⊢
    refine ⟨?_, h.2.1, fun i v hv => ?_⟩
    · rw [h.1, List.length_zipWith, hm, Nat.min_self]
    · apply h.2.2 i v
      rw [List.getElem?_zipWith] at hv
      cases h1 : ms[i]? with
      | none => rw [h1] at hv; simp at hv
      | some b =>
        cases h2 : l[i]? with
        | none => rw [h1, h2] at hv; simp at hv
        | some x =>
          rw [h1, h2] at hv
          cases b with
          | true => simpa using hv
          | false => simp at hv
theorem xct_cat (v : xV) : (xv v).category = xct v := by
  obtain x | x | x | x | x := v <;> try rfl
  cases x <;> rfl
theorem xclr_len (l : xL) (i : Nat) : (xclr l i).length = l.length := by
  unfold xclr
  split
  · rfl
  · split <;> simp
theorem xclr_get {l : xL} {i j : Nat} {v : xV} (h : (xclr l i)[j]? = some (some v)) : l[j]? = some (some v) ∧ ¬ (j + 1 = i ∧ xct v = 2) := by
  unfold xclr at h
  cases i with
  | zero => exact ⟨h, fun q => by omega⟩
  | succ k =>
    simp only at h
    by_cases hj : j = k
    · subst hj
      cases hl : l[j]? with
      | none => rw [hl] at h; simp only at h; rw [hl] at h; cases h
      | some o =>
        cases o with
        | none => rw [hl] at h; simp only at h; rw [hl] at h; cases h
        | some u =>
          have hlt : j < l.length := (List.getElem?_eq_some_iff.mp hl).1
          rw [hl] at h
          obtain x | x | x | x | x := u <;> simp only at h
          · rw [hl] at h; cases h; exact ⟨rfl, fun q => by simp [xct] at q⟩
          · rw [List.getElem?_set_self hlt] at h; cases h
          · rw [hl] at h; cases h; exact ⟨rfl, fun q => by simp [xct] at q⟩
          · rw [List.getElem?_set_self hlt] at h; cases h
          · rw [hl] at h; cases h; exact ⟨rfl, fun q => by simp [xct] at q⟩
    · refine ⟨?_, fun q => hj (by omega)⟩
      split at h
      · rw [List.getElem?_set_ne (Ne.symm hj)] at h; exact h
      · rw [List.getElem?_set_ne (Ne.symm hj)] at h; exact h
      · exact h
theorem xs1_ok {ls : Array Slot} {l : xL} {i : Nat} {v : xV} (h : xLs ls l) (hi : i < l.length) (hc : xct v = 1) : ∃ ls', storeLocals ls i (xv v) = some ls' ∧ xLs ls' (xs1 l i v) := by
  have hb : lv_has ls l.length [] := ⟨h.1, h.2.1, fun q hq => by cases hq⟩
  have hcv : (xv v).category = 1 := by rw [xct_cat]; exact hc
  obtain ⟨ls', e', h'⟩ := lv_store1 (v := xv v) hb hi hcv
  refine ⟨ls', e', by rw [h'.1]; unfold xs1; rw [List.length_set, xclr_len], h'.2.1, fun j u hu => ?_⟩
  unfold xs1 at hu
  by_cases hj : j = i
  · subst hj
    rw [List.getElem?_set_self (by rw [xclr_len]; exact hi)] at hu
    cases hu
    exact h'.2.2 (j, xv v) List.mem_cons_self
  · rw [List.getElem?_set_ne (Ne.symm hj)] at hu
    obtain ⟨h1, h2⟩ := xclr_get hu
    have hb2 : lv_has ls l.length [(j, xv u)] := ⟨h.1, h.2.1, fun q hq => by rw [List.mem_singleton.mp hq]; exact h.2.2 j u h1⟩
    obtain ⟨ls2, e2, h2'⟩ := lv_store1 (v := xv v) hb2 hi hcv
    cases e'.symm.trans e2
    refine h2'.2.2 (j, xv u) (List.mem_cons_of_mem _ (List.mem_filter.mpr ⟨List.mem_singleton.mpr rfl, ?_⟩))
    simp only [Bool.and_eq_true, Bool.not_eq_true', beq_eq_false_iff_ne, ne_eq, Bool.and_eq_false_iff]
    refine ⟨hj, ?_⟩
    by_cases hji : j + 1 = i
    · exact Or.inr (fun q => h2 ⟨hji, by rw [← xct_cat]; exact q⟩)
    · exact Or.inl hji
theorem xs2_ok {ls : Array Slot} {l : xL} {i : Nat} {v : xV} (h : xLs ls l) (hi : i + 1 < l.length) (hc : xct v = 2) : ∃ ls', storeLocals ls i (xv v) = some ls' ∧ xLs ls' (xs2 l i v) := by
  have hb : lv_has ls l.length [] := ⟨h.1, h.2.1, fun q hq => by cases hq⟩
  have hcv : (xv v).category = 2 := by rw [xct_cat]; exact hc
  obtain ⟨ls', e', h'⟩ := lv_store2 (v := xv v) hb hi hcv
  refine ⟨ls', e', by rw [h'.1]; unfold xs2; rw [List.length_set, List.length_set, xclr_len], h'.2.1, fun j u hu => ?_⟩
  unfold xs2 at hu
  by_cases hj1 : j = i + 1
  · subst hj1
    rw [List.getElem?_set_self (by rw [List.length_set, xclr_len]; exact hi)] at hu
    cases hu
  · rw [List.getElem?_set_ne (Ne.symm hj1)] at hu
    by_cases hj : j = i
    · subst hj
      rw [List.getElem?_set_self (by rw [xclr_len]; omega)] at hu
      cases hu
      exact h'.2.2 (j, xv v) List.mem_cons_self
    · rw [List.getElem?_set_ne (Ne.symm hj)] at hu
      obtain ⟨h1, h2⟩ := xclr_get hu
      have hb2 : lv_has ls l.length [(j, xv u)] := ⟨h.1, h.2.1, fun q hq => by rw [List.mem_singleton.mp hq]; exact h.2.2 j u h1⟩
      obtain ⟨ls2, e2, h2'⟩ := lv_store2 (v := xv v) hb2 hi hcv
      cases e'.symm.trans e2
      refine h2'.2.2 (j, xv u) (List.mem_cons_of_mem _ (List.mem_filter.mpr ⟨List.mem_singleton.mpr rfl, ?_⟩))
      simp only [Bool.and_eq_true, Bool.not_eq_true', beq_eq_false_iff_ne, ne_eq, Bool.and_eq_false_iff]
      refine ⟨hj, hj1, ?_⟩
      by_cases hji : j + 1 = i
      · exact Or.inr (fun q => h2 ⟨hji, by rw [← xct_cat]; exact q⟩)
      · exact Or.inl hji
