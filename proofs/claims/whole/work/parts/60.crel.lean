/-! the class's cells hold a notebook -/
def oT (w : xW) (a : Nat) (v : mC) : Prop := w.2.2.2 a = some (.inr (5, [xI v.1, xJ v.2.1, xD v.2.2]))
abbrev aA (k n : Nat) (f : Nat → Option Nat) : xE := .inl (k, n, .inr (.inr (.inr (.inr f))))
abbrev aI (k n : Nat) (f : Nat → Int32) : xE := .inl (k, n, .inl f)
def oR (w : xW) (r : Nat) (x : sR) : Prop := w.2.2.2 r = some (.inr (3, [xI (nI x.1), xA (some (r + 2)), xA (some (r + 1))])) ∧ oT w (r + 1) (blk x.1) ∧ ∃ f, w.2.2.2 (r + 2) = some (aA 5 x.2.1 f) ∧ ∀ i, i < x.2.1 → ∃ a, f i = some a ∧ oT w a (x.2.2 i)
def oH (w : xW) (a : Nat) (h : sO) : Prop := match h with
  | .inl r => a = r
  | .inr v => oT w a v
def oP (w : xW) (g : Nat) (C : Nat → sO) : Prop := w.2.2.2 g = some (.inr (0, [xA (some (g + 1))])) ∧ ∃ f, w.2.2.2 (g + 1) = some (aA 4 10 f) ∧ ∀ c, c < 10 → ∃ a, f c = some a ∧ oH w a (C c)
def oQ (w : xW) (p : Nat) (P : Nat × (Nat → Nat) × (Nat → Nat)) : Prop := w.2.2.2 p = some (.inr (1, [xA (some (p + 1)), xA (some (p + 2)), xI (nI P.1)])) ∧ ∃ f g, w.2.2.2 (p + 1) = some (aI 0 24 f) ∧ w.2.2.2 (p + 2) = some (aI 0 24 g) ∧ ∀ i, i < P.1 → f i = nI (P.2.1 i) ∧ g i = nI (P.2.2 i)
def oG (w : xW) (a : Nat) (G : Nat × (Nat → mC)) : Prop := w.2.2.2 a = some (.inr (2, [xA (some (a + 1)), xA (some (a + 2)), xI (nI G.1)])) ∧ oT w (a + 2) (11, 0, 0) ∧ ∃ f, w.2.2.2 (a + 1) = some (aA 5 24 f) ∧ ∀ i, i < G.1 → ∃ b, f i = some b ∧ oT w b (G.2 i)
def oM (w : xW) (g : Nat) (f : Nat → Option Nat) (I : Nat → Option (Nat → sO)) : Prop := ∀ k, k < 2 → (I k = none → f k = none) ∧ ∀ C, I k = some C → ∃ h, f k = some h ∧ h ≠ g ∧ oP w h C
def book (x0 g sh he p q : Nat) (K : Option Nat) (N : Nat) (A : Int32) : xE := .inr (6, [xA (some g), xA (some (x0 + 4)), xA (some sh), xA (some he), xA K, xA (some p), xA (some q), xA (some (x0 + 13)), xA (some (x0 + 16)), xA (some (x0 + 19)), xI (nI N), xA (some (x0 + 20)), xI A])
/-- what lies outside of the notebook: the reference, the table, the script -/
def oE (x0 b L : Nat) (xs : Nat → Int32) (t : mS) (w : xW) : Prop := (∀ k, k < 22 → w.2.2.2 (x0 + 22 + k) = mce (x0 + 22) t k) ∧ (∀ a e, w.2.2.2 a = some e → a < w.1) ∧ x0 + 44 ≤ w.1 ∧ w.2.2.2 w.2.2.1 = some (aI 7 12 xhom) ∧ w.2.2.2 b = some (aI 7 L xs)
/-- the parts that seldom change -/
def oF (x0 : Nat) (S : sS) (G1 G2 : Nat × (Nat → mC)) (w : xW) : Prop := w.2.2.2 (x0 + 19) = some (aI 0 60 (qW S)) ∧ w.2.2.2 (x0 + 20) = some (.inr (4, [xA (some (x0 + 21))])) ∧ w.2.2.2 (x0 + 21) = some (aI 0 114 (qT S)) ∧ oG w (x0 + 13) G1 ∧ oG w (x0 + 16) G2
abbrev sE : Type := Nat × Nat × Nat × (Nat → Int32) × mS
abbrev sG : Type := (Nat × (Nat → mC)) × (Nat × (Nat → mC)) × (Nat × (Nat → Nat) × (Nat → Nat))
def Rc (E : sE) (S : sS) (G : sG) (w : xW) : Prop := ∃ g sh he p q, w.2.2.2 E.1 = some (book E.1 g sh he p q (qK S) (qN S) (qA S)) ∧ oT w sh (qS S) ∧ oT w he (qH S) ∧ ((p = E.1 + 7 ∧ q = E.1 + 10) ∨ (p = E.1 + 10 ∧ q = E.1 + 7)) ∧ oQ w p (qP S) ∧ oQ w q G.2.2 ∧ (g = E.1 + 1 ∨ E.1 + 44 ≤ g) ∧ oP w g (qC S) ∧ (∃ f, w.2.2.2 (E.1 + 4) = some (aA 6 2 f) ∧ oM w g f (qI S)) ∧ (∀ r x, qR S r = some x → oR w r x ∧ E.1 + 44 ≤ r) ∧ oF E.1 S G.1 G.2.1 w ∧ oE E.1 E.2.1 E.2.2.1 E.2.2.2.1 E.2.2.2.2 w
/-! frames -/
def so (e : xE) : Nat := match e with
  | .inl e => 10 + e.1
  | .inr e => e.1
/-- all cells but one are kept -/
def kp (w w' : xW) (a0 : Nat) : Prop := w.1 ≤ w'.1 ∧ w'.2.2.1 = w.2.2.1 ∧ (∀ a, a ≠ a0 → ∀ e, w.2.2.2 a = some e → w'.2.2.2 a = some e) ∧ (∀ e, w.2.2.2 a0 = some e → so e ≠ 5 ∧ so e ≠ 3 ∧ so e ≠ 0 ∧ so e ≠ 17) ∧ ∀ a e, w'.2.2.2 a = some e → a < w'.1
section KP
variable {w w' : xW} {a0 : Nat}
theorem kp_T {a : Nat} {v : mC} (k : kp w w' a0) (h : oT w a v) : oT w' a v := k.2.2.1 a (by rintro rfl; exact (k.2.2.2.1 _ h).1 rfl) _ h
theorem kp_R {r : Nat} {x : sR} (k : kp w w' a0) (hr : r + 2 ≠ a0) (h : oR w r x) : oR w' r x := by
  obtain ⟨h1, h2, f, h3, h4⟩ := h
  refine ⟨k.2.2.1 r (by rintro rfl; exact (k.2.2.2.1 _ h1).2.1 rfl) _ h1, kp_T k h2, f, k.2.2.1 _ hr _ h3, fun i hi => ?_⟩
  obtain ⟨a, h5, h6⟩ := h4 i hi
  exact ⟨a, h5, kp_T k h6⟩
theorem kp_H {a : Nat} {h : sO} (k : kp w w' a0) (hh : oH w a h) : oH w' a h := by
  cases h with
  | inl r => exact hh
  | inr v => exact kp_T k hh
theorem kp_P {g : Nat} {C : Nat → sO} (k : kp w w' a0) (hg : g + 1 ≠ a0) (h : oP w g C) : oP w' g C := by
  obtain ⟨h1, f, h3, h4⟩ := h
  refine ⟨k.2.2.1 g (by rintro rfl; exact (k.2.2.2.1 _ h1).2.2.1 rfl) _ h1, f, k.2.2.1 _ hg _ h3, fun i hi => ?_⟩
  obtain ⟨a, h5, h6⟩ := h4 i hi
  exact ⟨a, h5, kp_H k h6⟩
theorem kp_Q {p : Nat} {P : Nat × (Nat → Nat) × (Nat → Nat)} (k : kp w w' a0) (hp : p ≠ a0 ∧ p + 1 ≠ a0 ∧ p + 2 ≠ a0) (h : oQ w p P) : oQ w' p P := by
  obtain ⟨h1, f, g, h3, h4, h5⟩ := h
  exact ⟨k.2.2.1 _ hp.1 _ h1, f, g, k.2.2.1 _ hp.2.1 _ h3, k.2.2.1 _ hp.2.2 _ h4, h5⟩
theorem kp_G {a : Nat} {G : Nat × (Nat → mC)} (k : kp w w' a0) (ha : a ≠ a0 ∧ a + 1 ≠ a0) (h : oG w a G) : oG w' a G := by
  obtain ⟨h1, h2, f, h3, h4⟩ := h
  refine ⟨k.2.2.1 _ ha.1 _ h1, kp_T k h2, f, k.2.2.1 _ ha.2 _ h3, fun i hi => ?_⟩
  obtain ⟨b, h5, h6⟩ := h4 i hi
  exact ⟨b, h5, kp_T k h6⟩
theorem kp_M {g : Nat} {f : Nat → Option Nat} {I : Nat → Option (Nat → sO)} (k : kp w w' a0) (hg : ∀ h C, h ≠ g → oP w h C → h + 1 ≠ a0) (h : oM w g f I) : oM w' g f I := by
  intro j hj
  refine ⟨(h j hj).1, fun C hC => ?_⟩
  obtain ⟨y, h1, h2, h3⟩ := (h j hj).2 C hC
  exact ⟨y, h1, h2, kp_P k (hg y C h2 h3) h3⟩
theorem kp_E {x0 b L : Nat} {xs : Nat → Int32} {t : mS} (k : kp w w' a0) (ha : a0 < x0 + 22 ∨ x0 + 44 ≤ a0) (h : oE x0 b L xs t w) : oE x0 b L xs t w' := by
  obtain ⟨h1, h2, h3, h4, h5⟩ := h
  refine ⟨fun j hj => ?_, k.2.2.2.2, by have := k.1; omega, ?_, k.2.2.1 _ (by rintro rfl; exact (k.2.2.2.1 _ h5).2.2.2 rfl) _ h5⟩
  · have := h1 j hj
    cases hm : mce (x0 + 22) t j with
    | none =>
      exfalso
      unfold mce at hm
      split at hm <;> first | exact absurd hm (by simp) | omega
    | some e =>
      rw [hm] at this
      exact k.2.2.1 _ (by omega) _ this
  · rw [k.2.1]
    exact k.2.2.1 _ (by rintro rfl; exact (k.2.2.2.1 _ h4).2.2.2 rfl) _ h4
theorem kp_set {a : Nat} {e e0 : xE} (hd : ∀ a e, w.2.2.2 a = some e → a < w.1) (h0 : w.2.2.2 a = some e0) (hs : so e0 ≠ 5 ∧ so e0 ≠ 3 ∧ so e0 ≠ 0 ∧ so e0 ≠ 17) : kp w (xset w a e) a := by
  refine ⟨Nat.le_refl _, rfl, fun b hb f hf => ?_, fun f hf => ?_, fun b f hf => ?_⟩
  · show (if b = a then some e else w.2.2.2 b) = _
    rw [if_neg hb, hf]
  · rw [h0] at hf
    cases hf
    exact hs
  · have hf' : (if b = a then some e else w.2.2.2 b) = some f := hf
    by_cases hb : b = a
    · rw [hb]
      exact hd _ _ h0
    · rw [if_neg hb] at hf'
      exact hd _ _ hf'
theorem xset_at (a : Nat) (e : xE) : (xset w a e).2.2.2 a = some e := if_pos rfl
theorem xpush_at (n : Nat) (e : xE) : (xpush w n e).2.2.2 w.1 = some e := if_pos rfl
theorem kp_push {n : Nat} {e : xE} (hd : ∀ a e, w.2.2.2 a = some e → a < w.1) : kp w (xpush w n e) w.1 := by
  refine ⟨Nat.le_succ _, rfl, fun b hb f hf => ?_, fun f hf => ?_, fun b f hf => ?_⟩
  · show (if b = w.1 then some e else w.2.2.2 b) = _
    rw [if_neg hb, hf]
  · exact absurd (hd _ _ hf) (Nat.lt_irrefl _)
  · have hf' : (if b = w.1 then some e else w.2.2.2 b) = some f := hf
    show b < w.1 + 1
    by_cases hb : b = w.1
    · omega
    · rw [if_neg hb] at hf'
      have := hd _ _ hf'
      omega
end KP
