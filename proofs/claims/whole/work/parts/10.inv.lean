/-! what it means that a step was made -/
section XINV
variable {α : Type} {z : α}
theorem xcv_s {c : Option xV} {f : xV → Option α} (h : xcv c f = some z) : ∃ v, c = some v ∧ f v = some z := by
  cases c with
  | none => cases h
  | some v => exact ⟨v, rfl, h⟩
theorem xpI_s {st : List xV} {f : Int32 → List xV → Option α} (h : xpI st f = some z) : ∃ x r, st = xI x :: r ∧ f x r = some z := by
  unfold xpI at h
  split at h
  · exact ⟨_, _, rfl, h⟩
  · cases h
theorem xpJ_s {st : List xV} {f : Int64 → List xV → Option α} (h : xpJ st f = some z) : ∃ x r, st = xJ x :: r ∧ f x r = some z := by
  unfold xpJ at h
  split at h
  · exact ⟨_, _, rfl, h⟩
  · cases h
theorem xpF_s {st : List xV} {f : UInt32 → List xV → Option α} (h : xpF st f = some z) : ∃ x r, st = xF x :: r ∧ f x r = some z := by
  unfold xpF at h
  split at h
  · exact ⟨_, _, rfl, h⟩
  · cases h
theorem xpD_s {st : List xV} {f : UInt64 → List xV → Option α} (h : xpD st f = some z) : ∃ x r, st = xD x :: r ∧ f x r = some z := by
  unfold xpD at h
  split at h
  · exact ⟨_, _, rfl, h⟩
  · cases h
theorem xpA_s {st : List xV} {f : Option Nat → List xV → Option α} (h : xpA st f = some z) : ∃ x r, st = xA x :: r ∧ f x r = some z := by
  unfold xpA at h
  split at h
  · exact ⟨_, _, rfl, h⟩
  · cases h
theorem xnl_s {st : List xV} {f : Option α} (h : xnl st f = some z) : st = [] ∧ f = some z := by
  unfold xnl at h
  split at h
  · exact ⟨rfl, h⟩
  · cases h
theorem xlI_s {l : xL} {i : Nat} {f : Int32 → Option α} (h : xlI l i f = some z) : ∃ x, l[i]? = some (some (xI x)) ∧ f x = some z := by
  unfold xlI at h
  split at h
  · next x hx => exact ⟨x, hx, h⟩
  · cases h
theorem xlJ_s {l : xL} {i : Nat} {f : Int64 → Option α} (h : xlJ l i f = some z) : ∃ x, l[i]? = some (some (xJ x)) ∧ f x = some z := by
  unfold xlJ at h
  split at h
  · next x hx => exact ⟨x, hx, h⟩
  · cases h
theorem xlF_s {l : xL} {i : Nat} {f : UInt32 → Option α} (h : xlF l i f = some z) : ∃ x, l[i]? = some (some (xF x)) ∧ f x = some z := by
  unfold xlF at h
  split at h
  · next x hx => exact ⟨x, hx, h⟩
  · cases h
theorem xlD_s {l : xL} {i : Nat} {f : UInt64 → Option α} (h : xlD l i f = some z) : ∃ x, l[i]? = some (some (xD x)) ∧ f x = some z := by
  unfold xlD at h
  split at h
  · next x hx => exact ⟨x, hx, h⟩
  · cases h
theorem xlA_s {l : xL} {i : Nat} {f : Option Nat → Option α} (h : xlA l i f = some z) : ∃ x, l[i]? = some (some (xA x)) ∧ f x = some z := by
  unfold xlA at h
  split at h
  · next x hx => exact ⟨x, hx, h⟩
  · cases h
theorem xrV_s {r : Option xV} {f : Option α} (h : xrV r f = some z) : r = none ∧ f = some z := by
  unfold xrV at h
  split at h
  · exact ⟨rfl, h⟩
  · cases h
theorem xrI_s {r : Option xV} {f : Int32 → Option α} (h : xrI r f = some z) : ∃ x, r = some (xI x) ∧ f x = some z := by
  unfold xrI at h
  split at h
  · exact ⟨_, rfl, h⟩
  · cases h
theorem xrJ_s {r : Option xV} {f : Int64 → Option α} (h : xrJ r f = some z) : ∃ x, r = some (xJ x) ∧ f x = some z := by
  unfold xrJ at h
  split at h
  · exact ⟨_, rfl, h⟩
  · cases h
theorem xrD_s {r : Option xV} {f : UInt64 → Option α} (h : xrD r f = some z) : ∃ x, r = some (xD x) ∧ f x = some z := by
  unfold xrD at h
  split at h
  · exact ⟨_, rfl, h⟩
  · cases h
theorem xrA_s {r : Option xV} {f : Option Nat → Option α} (h : xrA r f = some z) : ∃ x, r = some (xA x) ∧ f x = some z := by
  unfold xrA at h
  split at h
  · exact ⟨_, rfl, h⟩
  · cases h
theorem xrc_s {as : List xV} {f : Option Nat → Option α} (h : xrc as f = some z) : ∃ x r, as = xA x :: r ∧ f x = some z := by
  unfold xrc at h
  split at h
  · exact ⟨_, _, rfl, h⟩
  · cases h
theorem xnF_s {x : UInt32} {f : UInt32 → Option α} (h : xnF x f = some z) : vf_n32 x ∧ f x = some z := by
  unfold xnF at h
  split at h
  · next hc => exact ⟨hc, h⟩
  · cases h
theorem xnD_s {x : UInt64} {f : UInt64 → Option α} (h : xnD x f = some z) : vf_n64 x ∧ f x = some z := by
  unfold xnD at h
  split at h
  · next hc => exact ⟨hc, h⟩
  · cases h
theorem xbi_s {β : Type} {o : Option β} {f : β → Option α} (h : o.bind f = some z) : ∃ x, o = some x ∧ f x = some z := by
  cases o with
  | none => cases h
  | some x => exact ⟨x, rfl, h⟩
theorem xco_s {c : Bool} {f : Option α} (h : (bif c then f else none) = some z) : c = true ∧ f = some z := by
  cases c with
  | true => exact ⟨rfl, h⟩
  | false => cases h
theorem xans_s {cv r : Option xV} {st : List xV} {f : List xV → Option α} (h : xans cv r st f = some z) : f (r.toList ++ st) = some z := by
  unfold xans at h
  split at h
  · obtain ⟨rfl, h⟩ := xrV_s h; exact h
  · obtain ⟨x, rfl, h⟩ := xrI_s h; exact h
  · obtain ⟨x, rfl, h⟩ := xrJ_s h; exact h
  · obtain ⟨x, rfl, h⟩ := xrD_s h; exact h
  · obtain ⟨x, rfl, h⟩ := xrA_s h; exact h
  · cases h
theorem xsw_s {x : Int32} {pc d : Nat} {f : Nat → Option α} : ∀ (os : List Int) (j : Int), xsw x pc f j os d = some z → (∃ (n : Nat) (o : Int), os[n]? = some o ∧ x = Int32.ofInt (j + n) ∧ f ((pc : Int) + o).toNat = some z) ∨ ((∀ n : Nat, n < os.length → x ≠ Int32.ofInt (j + n)) ∧ f d = some z)
  | [], j, h => Or.inr ⟨fun n hn => absurd hn (Nat.not_lt_zero _), h⟩
  | o :: r, j, h => by
    rw [xsw] at h
    by_cases hx : x = Int32.ofInt j
    · rw [if_pos hx] at h
      exact Or.inl ⟨0, o, rfl, by simpa using hx, h⟩
    · rw [if_neg hx] at h
      rcases xsw_s r (j + 1) h with ⟨n, o', h1, h2, h3⟩ | ⟨h1, h2⟩
      · refine Or.inl ⟨n + 1, o', by simpa using h1, ?_, h3⟩
        rw [h2]
        congr 1
        push_cast
        omega
      · refine Or.inr ⟨fun n hn => ?_, h2⟩
        cases n with
        | zero => simpa using hx
        | succ n =>
          have := h1 n (by simpa using hn)
          intro q
          apply this
          rw [q]
          congr 1
          push_cast
          omega
end XINV
theorem xk0_s {p : Nat} {l : xL} {s : List xV} {w : xW} {z : xNx} (h : xk0 p l s w = some z) : z = .inl (p, l, s, w) := (Option.some.inj h).symm
theorem xr0_s {r : Option xV} {w : xW} {z : xNx} (h : xr0 r w = some z) : z = .inr (r, w) := (Option.some.inj h).symm
theorem xobj_s {w : xW} {a c : Nat} {fs : List xV} (h : xobj w a c = some fs) : w.2.2.2 a = some (.inr (c, fs)) := by
  unfold xobj at h
  split at h
  · next c' fs' hm =>
    split at h
    · next hc => cases h; rw [hm, hc]
    · cases h
  · cases h
theorem xcno_s {w : xW} {a c : Nat} (h : xcno w a = some c) : ∃ fs, w.2.2.2 a = some (.inr (c, fs)) := by
  unfold xcno at h
  split at h
  · next c' fs' hm => cases h; exact ⟨_, hm⟩
  · cases h
theorem xgI_s {w : xW} {a c k : Nat} {x : Int32} (h : xgI w a c k = some x) : ∃ fs, w.2.2.2 a = some (.inr (c, fs)) ∧ fs[k]? = some (xI x) := by
  obtain ⟨fs, h1, h2⟩ := xbi_s h
  split at h2
  · next hk => cases h2; exact ⟨fs, xobj_s h1, hk⟩
  · cases h2
theorem xgJ_s {w : xW} {a c k : Nat} {x : Int64} (h : xgJ w a c k = some x) : ∃ fs, w.2.2.2 a = some (.inr (c, fs)) ∧ fs[k]? = some (xJ x) := by
  obtain ⟨fs, h1, h2⟩ := xbi_s h
  split at h2
  · next hk => cases h2; exact ⟨fs, xobj_s h1, hk⟩
  · cases h2
theorem xgD_s {w : xW} {a c k : Nat} {x : UInt64} (h : xgD w a c k = some x) : ∃ fs, w.2.2.2 a = some (.inr (c, fs)) ∧ fs[k]? = some (xD x) := by
  obtain ⟨fs, h1, h2⟩ := xbi_s h
  split at h2
  · next hk => cases h2; exact ⟨fs, xobj_s h1, hk⟩
  · cases h2
theorem xgA_s {w : xW} {a c k : Nat} {x : Option Nat} (h : xgA w a c k = some x) : ∃ fs, w.2.2.2 a = some (.inr (c, fs)) ∧ fs[k]? = some (xA x) := by
  obtain ⟨fs, h1, h2⟩ := xbi_s h
  split at h2
  · next hk => cases h2; exact ⟨fs, xobj_s h1, hk⟩
  · cases h2
theorem xput_s {w w' : xW} {a c k : Nat} {v : xV} (h : xput w a c k v = some w') : ∃ fs, w.2.2.2 a = some (.inr (c, fs)) ∧ k < fs.length ∧ w' = xset w a (.inr (c, fs.set k v)) := by
  obtain ⟨fs, h1, h2⟩ := xbi_s h
  split at h2
  · next hk => cases h2; exact ⟨fs, xobj_s h1, hk, rfl⟩
  · cases h2
theorem xin4_s {l : List (Nat × Nat × Nat × Nat × Nat)} {a b c d : Nat} (h : xin4 l a b c d = true) : ∃ p, (p, a, b, c, d) ∈ l := by
  obtain ⟨⟨p, q1, q2, q3, q4⟩, hq, h1⟩ := List.any_eq_true.mp h
  simp only [Bool.and_eq_true, beq_iff_eq] at h1
  obtain ⟨⟨⟨rfl, rfl⟩, rfl⟩, rfl⟩ := h1
  exact ⟨p, hq⟩
theorem xin3_s {l : List (Nat × Nat × Nat × Nat)} {a b c : Nat} (h : xin3 l a b c = true) : ∃ p, (p, a, b, c) ∈ l := by
  obtain ⟨⟨p, q1, q2, q3⟩, hq, h1⟩ := List.any_eq_true.mp h
  simp only [Bool.and_eq_true, beq_iff_eq] at h1
  obtain ⟨⟨rfl, rfl⟩, rfl⟩ := h1
  exact ⟨p, hq⟩
theorem xin2_s {l : List (Nat × Nat × Nat)} {a b : Nat} (h : xin2 l a b = true) : ∃ p, (p, a, b) ∈ l := by
  obtain ⟨⟨p, q1, q2⟩, hq, h1⟩ := List.any_eq_true.mp h
  simp only [Bool.and_eq_true, beq_iff_eq] at h1
  obtain ⟨rfl, rfl⟩ := h1
  exact ⟨p, hq⟩
theorem xin1_s {l : List (Nat × Nat)} {a : Nat} (h : xin1 l a = true) : ∃ p, (p, a) ∈ l := by
  obtain ⟨⟨p, q1⟩, hq, h1⟩ := List.any_eq_true.mp h
  simp only [beq_iff_eq] at h1
  subst h1
  exact ⟨p, hq⟩
theorem xinI_s {l : List (Nat × Nat × Nat × Int32)} {a b : Nat} {v : Int32} (h : xinK l a b v = true) : ∃ p, (p, a, b, v) ∈ l := by
  obtain ⟨⟨p, q1, q2, q3⟩, hq, h1⟩ := List.any_eq_true.mp h
  simp only [Bool.and_eq_true, beq_iff_eq] at h1
  obtain ⟨⟨rfl, rfl⟩, rfl⟩ := h1
  exact ⟨p, hq⟩
theorem xinJ_s {l : List (Nat × Nat × Nat × Int64)} {a b : Nat} {v : Int64} (h : xinK l a b v = true) : ∃ p, (p, a, b, v) ∈ l := by
  obtain ⟨⟨p, q1, q2, q3⟩, hq, h1⟩ := List.any_eq_true.mp h
  simp only [Bool.and_eq_true, beq_iff_eq] at h1
  obtain ⟨⟨rfl, rfl⟩, rfl⟩ := h1
  exact ⟨p, hq⟩
theorem xinF_s {l : List (Nat × Nat × Nat × UInt32)} {a b : Nat} {v : UInt32} (h : xinK l a b v = true) : ∃ p, (p, a, b, v) ∈ l := by
  obtain ⟨⟨p, q1, q2, q3⟩, hq, h1⟩ := List.any_eq_true.mp h
  simp only [Bool.and_eq_true, beq_iff_eq] at h1
  obtain ⟨⟨rfl, rfl⟩, rfl⟩ := h1
  exact ⟨p, hq⟩
theorem xinD_s {l : List (Nat × Nat × Nat × UInt64)} {a b : Nat} {v : UInt64} (h : xinK l a b v = true) : ∃ p, (p, a, b, v) ∈ l := by
  obtain ⟨⟨p, q1, q2, q3⟩, hq, h1⟩ := List.any_eq_true.mp h
  simp only [Bool.and_eq_true, beq_iff_eq] at h1
  obtain ⟨⟨rfl, rfl⟩, rfl⟩ := h1
  exact ⟨p, hq⟩
/-- sizes grow, the table stays -/
def xle (w w' : xW) : Prop := w.1 ≤ w'.1 ∧ w.2.1 ≤ w'.2.1 ∧ w'.2.2.1 = w.2.2.1
theorem xle_r (w : xW) : xle w w := ⟨Nat.le_refl _, Nat.le_refl _, rfl⟩
theorem xle_t {a b c : xW} (h : xle a b) (h2 : xle b c) : xle a c := ⟨Nat.le_trans h.1 h2.1, Nat.le_trans h.2.1 h2.2.1, h2.2.2.trans h.2.2⟩
theorem xle_set (w : xW) (a : Nat) (e : xE) : xle w (xset w a e) := ⟨Nat.le_refl _, Nat.le_refl _, rfl⟩
theorem xle_push (w : xW) (n : Nat) (e : xE) : xle w (xpush w n e) := ⟨Nat.le_succ _, Nat.le_add_right _ _, rfl⟩
/-- the pairs of the local variables -/
def xprs (l : xL) : List (Nat × Value) := (List.range l.length).filterMap fun i => match l[i]? with
  | some (some v) => some (i, xv v)
  | _ => none
theorem xprs_mem {l : xL} {i : Nat} {v : xV} (h : l[i]? = some (some v)) : (i, xv v) ∈ xprs l := by
  refine List.mem_filterMap.mpr ⟨i, List.mem_range.mpr (List.getElem?_eq_some_iff.mp h).1, ?_⟩
  rw [h]
theorem xprs_of {l : xL} {q : Nat × Value} (h : q ∈ xprs l) : ∃ v, l[q.1]? = some (some v) ∧ q.2 = xv v := by
  obtain ⟨i, -, hi⟩ := List.mem_filterMap.mp h
  split at hi
  · next v hv => cases hi; exact ⟨v, hv, rfl⟩
  · cases hi
theorem xLs_has {ls : Array Slot} {l : xL} (h : xLs ls l) : lv_has ls l.length (xprs l) := ⟨h.1, h.2.1, fun q hq => by
  obtain ⟨v, h1, h2⟩ := xprs_of hq
  rw [h2]
  exact h.2.2 q.1 v h1⟩
theorem xLs_1 {ls : Array Slot} {l : xL} {i : Nat} {v : xV} (hi : i < l.length) (h : lv_has ls l.length ((i, xv v) :: (xprs l).filter (fun q => !(q.1 == i) && !(q.1 + 1 == i && q.2.category == 2)))) : xLs ls (xs1 l i v) := by
  refine ⟨by rw [h.1]; unfold xs1; rw [List.length_set, xclr_len], h.2.1, fun j u hu => ?_⟩
  unfold xs1 at hu
  by_cases hj : j = i
  · subst hj
    rw [List.getElem?_set_self (by rw [xclr_len]; exact hi)] at hu
    cases hu
    exact h.2.2 (j, xv v) List.mem_cons_self
  · rw [List.getElem?_set_ne (Ne.symm hj)] at hu
    obtain ⟨h1, h2⟩ := xclr_get hu
    refine h.2.2 (j, xv u) (List.mem_cons_of_mem _ (List.mem_filter.mpr ⟨xprs_mem h1, ?_⟩))
    simp only [Bool.and_eq_true, Bool.not_eq_true', beq_eq_false_iff_ne, ne_eq, Bool.and_eq_false_iff]
    refine ⟨hj, ?_⟩
    by_cases hji : j + 1 = i
    · exact Or.inr (fun q => h2 ⟨hji, by rw [← xct_cat]; exact q⟩)
    · exact Or.inl hji
theorem xLs_2 {ls : Array Slot} {l : xL} {i : Nat} {v : xV} (hi : i + 1 < l.length) (h : lv_has ls l.length ((i, xv v) :: (xprs l).filter (fun q => !(q.1 == i) && (!(q.1 == i + 1) && !(q.1 + 1 == i && q.2.category == 2))))) : xLs ls (xs2 l i v) := by
  refine ⟨by rw [h.1]; unfold xs2; rw [List.length_set, List.length_set, xclr_len], h.2.1, fun j u hu => ?_⟩
  unfold xs2 at hu
  by_cases hj1 : j = i + 1
  · subst hj1
    rw [List.getElem?_set_self (by rw [List.length_set, xclr_len]; exact hi)] at hu
    cases hu
  · rw [List.getElem?_set_ne (Ne.symm hj1)] at hu
    by_cases hj : j = i
    · subst hj
      rw [List.getElem?_set_self (by rw [xclr_len]; omega)] at hu
      cases hu
      exact h.2.2 (j, xv v) List.mem_cons_self
    · rw [List.getElem?_set_ne (Ne.symm hj)] at hu
      obtain ⟨h1, h2⟩ := xclr_get hu
      refine h.2.2 (j, xv u) (List.mem_cons_of_mem _ (List.mem_filter.mpr ⟨xprs_mem h1, ?_⟩))
      simp only [Bool.and_eq_true, Bool.not_eq_true', beq_eq_false_iff_ne, ne_eq, Bool.and_eq_false_iff]
      refine ⟨hj, hj1, ?_⟩
      by_cases hji : j + 1 = i
      · exact Or.inr (fun q => h2 ⟨hji, by rw [← xct_cat]; exact q⟩)
      · exact Or.inl hji
theorem xs1_len (l : xL) (i : Nat) (v : xV) : (xs1 l i v).length = l.length := by unfold xs1; rw [List.length_set, xclr_len]
theorem xs2_len (l : xL) (i : Nat) (v : xV) : (xs2 l i v).length = l.length := by unfold xs2; rw [List.length_set, List.length_set, xclr_len]
theorem xwt_eq : ∀ st : List xV, ((st.map xv).map fun v => v.category).sum = xwt st
  | [] => rfl
  | v :: r => by
    simp only [List.map_cons, List.sum_cons, xwt]
    rw [xwt_eq r, xct_cat]
theorem xnlt {a b : Int32} : ¬ a < b ↔ b ≤ a := by
  rw [Int32.lt_iff_toInt_lt, Int32.le_iff_toInt_le]
  omega
theorem xnle {a b : Int32} : ¬ a ≤ b ↔ b < a := by
  rw [Int32.lt_iff_toInt_lt, Int32.le_iff_toInt_le]
  omega
