/-! the class's cells hold a notebook -/
def oT (w : xW) (a : Nat) (v : mC) : Prop := w.2.2.2 a = some (.inr (5, [xI v.1, xJ v.2.1, xD v.2.2]))
abbrev aA (k n : Nat) (f : Nat → Option Nat) : xE := .inl (k, n, .inr (.inr (.inr (.inr f))))
abbrev aI (k n : Nat) (f : Nat → Int32) : xE := .inl (k, n, .inl f)
def oR (w : xW) (r : Nat) (x : sR) : Prop := w.2.2.2 r = some (.inr (3, [xI (nI x.1), xA (some (r + 2)), xA (some (r + 1))])) ∧ oT w (r + 1) (blk x.1) ∧ ∃ f, w.2.2.2 (r + 2) = some (aA 5 x.2.1 f) ∧ ∀ i, i < x.2.1 → ∃ a, f i = some a ∧ oT w a (x.2.2 i)
def oH (w : xW) (a : Nat) (h : sO) : Prop := match h with
  | .inl r => a = r
  | .inr v => oT w a v
def oP (w : xW) (g : Nat) (C : Nat → sO) : Prop := w.2.2.2 g = some (.inr (0, [xA (some (g + 1))])) ∧ ∃ f, w.2.2.2 (g + 1) = some (aA 4 10 f) ∧ ∀ c, c < 10 → ∃ a, f c = some a ∧ oH w a (C c)
def oQ (w : xW) (p : Nat) (P : Nat × (Nat → Nat) × (Nat → Nat)) : Prop := w.2.2.2 p = some (.inr (1, [xA (some (p + 1)), xA (some (p + 2)), xI (nI P.1)])) ∧ ∃ f g, w.2.2.2 (p + 1) = some (aI 0 24 f) ∧ w.2.2.2 (p + 2) = some (aI 0 24 g) ∧ ∀ i, i < P.1 → f i = nI (P.2.1 i) ∧ g i = nI (P.2.2 i)
def oG (w : xW) (a : Nat) (G : Nat × (Nat → mC)) : Prop := w.2.2.2 a = some (.inr (2, [xA (some (a + 1)), xA (some (a + 2)), xI (nI G.1)])) ∧ oT w (a + 2) (11, 0, 0) ∧ ∃ f, w.2.2.2 (a + 1) = some (aA 5 24 f) ∧ ∀ i, i < G.1 → ∃ b, f i = some b ∧ oT w b (G.2 i)
def oM (w : xW) (g : Nat) (f : Nat → Option Nat) (I : Nat → Option (Nat → sO)) : Prop := ∀ k, k < 2 → (I k = none → f k = none) ∧ ∀ C, I k = some C → ∃ h, f k = some h ∧ h ≠ g ∧ oP w h C
def book (x0 g sh he p q : Nat) (K : Option Nat) (N : Nat) (A : Int32) : xE := .inr (6, [xA (some g), xA (some (x0 + 4)), xA (some sh), xA (some he), xA K, xA (some p), xA (some q), xA (some (x0 + 13)), xA (some (x0 + 16)), xA (some (x0 + 19)), xI (nI N), xA (some (x0 + 20)), xI A])
/-- every cell lies below the world's size -/
def wd (w : xW) : Prop := ∀ a e, w.2.2.2 a = some e → a < w.1
/-- what lies outside of the notebook: the reference, the table, the script -/
def oE (x0 b L : Nat) (xs : Nat → Int32) (t : mS) (w : xW) : Prop := (∀ k, k < 22 → w.2.2.2 (x0 + 22 + k) = mce (x0 + 22) t k) ∧ wd w ∧ x0 + 44 ≤ w.1 ∧ w.2.2.2 w.2.2.1 = some (aI 7 12 xhom) ∧ w.2.2.2 b = some (aI 7 L xs)
/-- the parts that seldom change -/
def oF (x0 : Nat) (S : sS) (G1 G2 : Nat × (Nat → mC)) (w : xW) : Prop := w.2.2.2 (x0 + 19) = some (aI 0 60 (qW S)) ∧ w.2.2.2 (x0 + 20) = some (.inr (4, [xA (some (x0 + 21))])) ∧ w.2.2.2 (x0 + 21) = some (aI 0 114 (qT S)) ∧ oG w (x0 + 13) G1 ∧ oG w (x0 + 16) G2
abbrev sE : Type := Nat × Nat × Nat × (Nat → Int32) × mS
abbrev sG : Type := (Nat × (Nat → mC)) × (Nat × (Nat → mC)) × (Nat × (Nat → Nat) × (Nat → Nat))
def Rc (E : sE) (S : sS) (G : sG) (w : xW) : Prop := ∃ g sh he p q, w.2.2.2 E.1 = some (book E.1 g sh he p q (qK S) (qN S) (qA S)) ∧ oT w sh (qS S) ∧ oT w he (qH S) ∧ ((p = E.1 + 7 ∧ q = E.1 + 10) ∨ (p = E.1 + 10 ∧ q = E.1 + 7)) ∧ oQ w p (qP S) ∧ oQ w q G.2.2 ∧ (g = E.1 + 1 ∨ E.1 + 44 ≤ g) ∧ oP w g (qC S) ∧ (∃ f, w.2.2.2 (E.1 + 4) = some (aA 6 2 f) ∧ oM w g f (qI S)) ∧ (∀ r x, qR S r = some x → oR w r x ∧ E.1 + 44 ≤ r) ∧ oF E.1 S G.1 G.2.1 w ∧ oE E.1 E.2.1 E.2.2.1 E.2.2.2.1 E.2.2.2.2 w
/-! frames -/
def so (e : xE) : Nat := match e with
  | .inl e => 10 + e.1
  | .inr e => e.1
/-- all cells but some are kept; so many are new -/
def kpc (A : Nat → Prop) (n : Nat) (w w' : xW) : Prop := wd w ∧ wd w' ∧ w.1 ≤ w'.1 ∧ w'.1 ≤ w.1 + n ∧ w'.2.1 ≤ w.2.1 + 24 * n ∧ w'.2.2.1 = w.2.2.1 ∧ (∀ a, ¬ A a → ∀ e, w.2.2.2 a = some e → w'.2.2.2 a = some e) ∧ ∀ a, A a → ∀ e, w.2.2.2 a = some e → so e ≠ 5 ∧ so e ≠ 3 ∧ so e ≠ 0 ∧ so e ≠ 17
abbrev kp (a0 n : Nat) (w w' : xW) : Prop := kpc (fun a => a = a0) n w w'
theorem mce_some (m0 : Nat) (t : mS) {j : Nat} (h : j < 22) : ∃ e, mce m0 t j = some e := match j, h with
  | 0, _ => ⟨_, rfl⟩
  | 1, _ => ⟨_, rfl⟩
  | 2, _ => ⟨_, rfl⟩
  | 3, _ => ⟨_, rfl⟩
  | 4, _ => ⟨_, rfl⟩
  | 5, _ => ⟨_, rfl⟩
  | 6, _ => ⟨_, rfl⟩
  | 7, _ => ⟨_, rfl⟩
  | 8, _ => ⟨_, rfl⟩
  | 9, _ => ⟨_, rfl⟩
  | 10, _ => ⟨_, rfl⟩
  | 11, _ => ⟨_, rfl⟩
  | 12, _ => ⟨_, rfl⟩
  | 13, _ => ⟨_, rfl⟩
  | 14, _ => ⟨_, rfl⟩
  | 15, _ => ⟨_, rfl⟩
  | 16, _ => ⟨_, rfl⟩
  | 17, _ => ⟨_, rfl⟩
  | 18, _ => ⟨_, rfl⟩
  | 19, _ => ⟨_, rfl⟩
  | 20, _ => ⟨_, rfl⟩
  | 21, _ => ⟨_, rfl⟩
  | n + 22, h => absurd h (by omega)
section KP
variable {w w' w1 w2 : xW} {a0 a1 n m k : Nat} {A B : Nat → Prop}
theorem kp_c {a : Nat} {e : xE} (h : kpc A n w w') (ha : ¬ A a) (he : w.2.2.2 a = some e) : w'.2.2.2 a = some e := h.2.2.2.2.2.2.1 a ha e he
theorem kp_s {a : Nat} {e : xE} (h : kpc A n w w') (ha : A a) (he : w.2.2.2 a = some e) : so e ≠ 5 ∧ so e ≠ 3 ∧ so e ≠ 0 ∧ so e ≠ 17 := h.2.2.2.2.2.2.2 a ha e he
theorem kp_refl (hd : wd w) : kp w.1 0 w w := ⟨hd, hd, Nat.le_refl _, Nat.le_refl _, Nat.le_refl _, rfl, fun _ _ _ h => h, fun a ha e h => by have := hd _ _ h; have ha' : a = w.1 := ha; omega⟩
theorem kpc_tr (h : kpc A n w w1) (g : kpc B m w1 w2) (ha : ∀ a, B a → A a ∨ w.1 ≤ a) (hk : n + m ≤ k) : kpc A k w w2 := by
  obtain ⟨h1, h2, h3, h4, h5, h6, h7, h8⟩ := h
  obtain ⟨g1, g2, g3, g4, g5, g6, g7, g8⟩ := g
  refine ⟨h1, g2, by omega, by omega, by omega, g6.trans h6, fun a e1 e2 e3 => g7 a (fun hB => ?_) e2 (h7 a e1 e2 e3), h8⟩
  have := h1 _ _ e3
  rcases ha a hB with ha | ha
  · exact e1 ha
  · omega
theorem kp_tr (h : kpc A n w w1) (g : kp a1 m w1 w2) (ha : A a1 ∨ w.1 ≤ a1) (hk : n + m ≤ k) : kpc A k w w2 := kpc_tr h g (fun a e => by have e' : a = a1 := e; rw [e']; exact ha) hk
theorem kp_mono (h : kpc A n w w') (hm : n ≤ m) : kpc A m w w' := by
  obtain ⟨h1, h2, h3, h4, h5, h6, h7, h8⟩ := h
  exact ⟨h1, h2, h3, by omega, by omega, h6, h7, h8⟩
theorem kp_new (h : kp a0 n w w') (ha : w.1 ≤ a0) (hb : ∀ a, B a → w.1 ≤ a) : kpc B n w w' := by
  obtain ⟨h1, h2, h3, h4, h5, h6, h7, h8⟩ := h
  refine ⟨h1, h2, h3, h4, h5, h6, fun a e1 e e2 => h7 a (fun q => ?_) e e2, fun a ha e he => ?_⟩
  · have := h1 _ _ e2
    have q' : a = a0 := q
    omega
  · have := h1 _ _ he
    have := hb a ha
    omega
theorem xset_at (w : xW) (a : Nat) (e : xE) : (xset w a e).2.2.2 a = some e := if_pos rfl
theorem xset_ne (w : xW) {a b : Nat} (e : xE) (h : b ≠ a) : (xset w a e).2.2.2 b = w.2.2.2 b := if_neg h
theorem xpush_at (w : xW) (n : Nat) (e : xE) : (xpush w n e).2.2.2 w.1 = some e := if_pos rfl
theorem xpush_ne (w : xW) (n : Nat) {b : Nat} (e : xE) (h : b ≠ w.1) : (xpush w n e).2.2.2 b = w.2.2.2 b := if_neg h
theorem xset_xset (w : xW) (a : Nat) (e f : xE) : xset (xset w a e) a f = xset w a f := by
  unfold xset xup
  refine congrArg _ (congrArg _ (congrArg _ (funext fun b => ?_)))
  by_cases h : b = a
  · rw [if_pos h, if_pos h]
  · rw [if_neg h, if_neg h]
    exact if_neg h
theorem xset_push (w : xW) (n : Nat) (e f : xE) : xset (xpush w n e) w.1 f = xpush w n f := by
  unfold xset xpush xup
  refine congrArg _ (congrArg _ (congrArg _ (funext fun b => ?_)))
  by_cases h : b = w.1
  · rw [if_pos h, if_pos h]
  · rw [if_neg h, if_neg h]
    exact if_neg h
theorem wd_set {a : Nat} {e : xE} (hd : wd w) (ha : a < w.1) : wd (xset w a e) := by
  intro b f hf
  by_cases hb : b = a
  · rw [hb]; exact ha
  · rw [xset_ne w e hb] at hf
    exact hd _ _ hf
theorem wd_push {n : Nat} {e : xE} (hd : wd w) : wd (xpush w n e) := by
  intro b f hf
  show b < w.1 + 1
  by_cases hb : b = w.1
  · omega
  · rw [xpush_ne w n e hb] at hf
    have := hd _ _ hf
    omega
theorem kp_set {a : Nat} {e e0 : xE} (hd : wd w) (h0 : w.2.2.2 a = some e0) (hs : so e0 ≠ 5 ∧ so e0 ≠ 3 ∧ so e0 ≠ 0 ∧ so e0 ≠ 17) : kp a 0 w (xset w a e) := by
  refine ⟨hd, wd_set hd (hd _ _ h0), Nat.le_refl _, Nat.le_refl _, Nat.le_refl _, rfl, fun b hb f hf => ?_, fun b hb f hf => ?_⟩
  · rw [xset_ne w e hb]; exact hf
  · have hb' : b = a := hb
    rw [hb', h0] at hf
    cases hf
    exact hs
theorem kp_nset {a : Nat} {e : xE} (h : kp a0 n w w1) (h0 : w.1 ≤ a0) (ha : w.1 ≤ a) (hb : a < w1.1) : kp a0 n w (xset w1 a e) := by
  obtain ⟨h1, h2, h3, h4, h5, h6, h7, h8⟩ := h
  refine ⟨h1, wd_set h2 hb, h3, h4, h5, h6, fun b hb f hf => ?_, h8⟩
  have := h1 _ _ hf
  rw [xset_ne w1 e (by omega)]
  exact h7 b hb f hf
theorem kp_npush {e : xE} (h : kp a0 n w w1) (h0 : w.1 ≤ a0) (hm : m ≤ 24) : kp a0 (n + 1) w (xpush w1 m e) := by
  obtain ⟨h1, h2, h3, h4, h5, h6, h7, h8⟩ := h
  refine ⟨h1, wd_push h2, ?_, ?_, ?_, h6, fun b hb f hf => ?_, h8⟩
  · show w.1 ≤ w1.1 + 1
    omega
  · show w1.1 + 1 ≤ w.1 + (n + 1)
    omega
  · show w1.2.1 + m ≤ w.2.1 + 24 * (n + 1)
    omega
  · have := h1 _ _ hf
    rw [xpush_ne w1 m e (by omega)]
    exact h7 b hb f hf
theorem kp_push {e : xE} (hd : wd w) (hn : m ≤ 24) : kp w.1 1 w (xpush w m e) := kp_npush (kp_refl hd) (Nat.le_refl _) hn
theorem kp_T {a : Nat} {v : mC} (k : kpc A n w w') (h : oT w a v) : oT w' a v := kp_c k (fun q => (kp_s k q h).1 rfl) h
theorem kp_R {r : Nat} {x : sR} (k : kpc A n w w') (hr : ¬ A (r + 2)) (h : oR w r x) : oR w' r x := by
  obtain ⟨h1, h2, f, h3, h4⟩ := h
  refine ⟨kp_c k (fun q => (kp_s k q h1).2.1 rfl) h1, kp_T k h2, f, kp_c k hr h3, fun i hi => ?_⟩
  obtain ⟨a, h5, h6⟩ := h4 i hi
  exact ⟨a, h5, kp_T k h6⟩
theorem kp_H {a : Nat} {h : sO} (k : kpc A n w w') (hh : oH w a h) : oH w' a h := by
  cases h with
  | inl r => exact hh
  | inr v => exact kp_T k hh
theorem kp_P {g : Nat} {C : Nat → sO} (k : kpc A n w w') (hg : ¬ A (g + 1)) (h : oP w g C) : oP w' g C := by
  obtain ⟨h1, f, h3, h4⟩ := h
  refine ⟨kp_c k (fun q => (kp_s k q h1).2.2.1 rfl) h1, f, kp_c k hg h3, fun i hi => ?_⟩
  obtain ⟨a, h5, h6⟩ := h4 i hi
  exact ⟨a, h5, kp_H k h6⟩
theorem kp_Q {p : Nat} {P : Nat × (Nat → Nat) × (Nat → Nat)} (k : kpc A n w w') (hp : ∀ a, A a → a < p ∨ p + 3 ≤ a) (h : oQ w p P) : oQ w' p P := by
  obtain ⟨h1, f, g, h3, h4, h5⟩ := h
  exact ⟨kp_c k (fun q => by have := hp _ q; omega) h1, f, g, kp_c k (fun q => by have := hp _ q; omega) h3, kp_c k (fun q => by have := hp _ q; omega) h4, h5⟩
theorem kp_G {a : Nat} {G : Nat × (Nat → mC)} (k : kpc A n w w') (ha : ∀ b, A b → b < a ∨ a + 2 ≤ b) (h : oG w a G) : oG w' a G := by
  obtain ⟨h1, h2, f, h3, h4⟩ := h
  refine ⟨kp_c k (fun q => by have := ha _ q; omega) h1, kp_T k h2, f, kp_c k (fun q => by have := ha _ q; omega) h3, fun i hi => ?_⟩
  obtain ⟨b, h5, h6⟩ := h4 i hi
  exact ⟨b, h5, kp_T k h6⟩
theorem kp_M {g : Nat} {f : Nat → Option Nat} {I : Nat → Option (Nat → sO)} (k : kpc A n w w') (hg : ∀ h C, h ≠ g → oP w h C → ¬ A (h + 1)) (h : oM w g f I) : oM w' g f I := by
  intro j hj
  refine ⟨(h j hj).1, fun C hC => ?_⟩
  obtain ⟨y, h1, h2, h3⟩ := (h j hj).2 C hC
  exact ⟨y, h1, h2, kp_P k (hg y C h2 h3) h3⟩
theorem kp_E {x0 b L : Nat} {xs : Nat → Int32} {t : mS} (k : kpc A n w w') (ha : ∀ a, A a → a < x0 + 22 ∨ x0 + 44 ≤ a) (h : oE x0 b L xs t w) : oE x0 b L xs t w' := by
  obtain ⟨h1, h2, h3, h4, h5⟩ := h
  refine ⟨fun j hj => ?_, k.2.1, by have := k.2.2.1; omega, ?_, kp_c k (fun q => (kp_s k q h5).2.2.2 rfl) h5⟩
  · have := h1 j hj
    obtain ⟨e, he⟩ := mce_some (x0 + 22) t hj
    rw [he] at this ⊢
    exact kp_c k (fun q => by have := ha _ q; omega) this
  · rw [k.2.2.2.2.2.1]
    exact kp_c k (fun q => (kp_s k q h4).2.2.2 rfl) h4
/-- cells of different sorts are different -/
theorem so_ne {a b : Nat} {e f : xE} (h : w.2.2.2 a = some e) (g : w.2.2.2 b = some f) (hs : so e ≠ so f) : a ≠ b := by
  rintro rfl
  rw [h] at g
  cases g
  exact hs rfl
end KP
/-! single cells are read and set -/
section CE
variable {w : xW} {a k ci n i : Nat} {fs : List xV}
theorem xobj_of (h : w.2.2.2 a = some (.inr (ci, fs))) : xobj w a ci = some fs := by unfold xobj; rw [h]; exact if_pos rfl
theorem xcno_of (h : w.2.2.2 a = some (.inr (ci, fs))) : xcno w a = some ci := by unfold xcno; rw [h]
theorem xgI_of {x : Int32} (h : w.2.2.2 a = some (.inr (ci, fs))) (hk : fs[k]? = some (xI x)) : xgI w a ci k = some x := by unfold xgI; rw [xobj_of h]; simp only [Option.bind_some, hk]
theorem xgJ_of {x : Int64} (h : w.2.2.2 a = some (.inr (ci, fs))) (hk : fs[k]? = some (xJ x)) : xgJ w a ci k = some x := by unfold xgJ; rw [xobj_of h]; simp only [Option.bind_some, hk]
theorem xgD_of {x : UInt64} (h : w.2.2.2 a = some (.inr (ci, fs))) (hk : fs[k]? = some (xD x)) : xgD w a ci k = some x := by unfold xgD; rw [xobj_of h]; simp only [Option.bind_some, hk]
theorem xgA_of {x : Option Nat} (h : w.2.2.2 a = some (.inr (ci, fs))) (hk : fs[k]? = some (xA x)) : xgA w a ci k = some x := by unfold xgA; rw [xobj_of h]; simp only [Option.bind_some, hk]
theorem xput_of {v : xV} (h : w.2.2.2 a = some (.inr (ci, fs))) (hk : k < fs.length) : xput w a ci k v = some (xset w a (.inr (ci, fs.set k v))) := by unfold xput; rw [xobj_of h, Option.bind_some, if_pos hk]
theorem xlen_A {f : Nat → Option Nat} (h : w.2.2.2 a = some (aA k n f)) : xlen w a = some (nI n) := by unfold xlen; rw [h]
theorem xlen_I {f : Nat → Int32} (h : w.2.2.2 a = some (aI k n f)) : xlen w a = some (nI n) := by unfold xlen; rw [h]
theorem xaA_of {f : Nat → Option Nat} (h : w.2.2.2 a = some (aA k n f)) (hk : k = 4 ∨ k = 5 ∨ k = 6) (hi : i < n) (hn : n < 1000) : xaA w a (nI i) = some (f i) := by
  unfold xaA
  rw [h]
  obtain ⟨h1, h2⟩ := nI_rg hi hn
  simp only [h2]
  exact if_pos ⟨hk, h1, hi⟩
theorem xsA_of {f : Nat → Option Nat} {x c : Nat} (h : w.2.2.2 a = some (aA k n f)) (hc : xcno w x = some c) (hf : xfit k c = true) (hi : i < n) (hn : n < 1000) : xsA w a (nI i) x = some (xset w a (aA k n (va_up f i (some x)))) := by
  unfold xsA
  rw [h]
  obtain ⟨h1, h2⟩ := nI_rg hi hn
  simp only [h2, hc, Option.bind_some]
  exact if_pos ⟨hf, h1, hi⟩
theorem xaI_of {f : Nat → Int32} (h : w.2.2.2 a = some (aI k n f)) (hk : k = 0 ∨ k = 7) (hi : i < n) (hn : n < 1000) : xaI w a (nI i) = some (f i) := by
  unfold xaI
  rw [h]
  obtain ⟨h1, h2⟩ := nI_rg hi hn
  simp only [h2]
  exact if_pos ⟨hk, h1, hi⟩
theorem xsI_of {f : Nat → Int32} {x : Int32} (h : w.2.2.2 a = some (aI 0 n f)) (hi : i < n) (hn : n < 1000) : xsI w a (nI i) x = some (xset w a (aI 0 n (va_up f i x))) := by
  unfold xsI
  rw [h]
  obtain ⟨h1, h2⟩ := nI_rg hi hn
  simp only [h2]
  exact if_pos ⟨trivial, h1, hi⟩
theorem xnew_of (w : xW) (k : Nat) {n : Nat} (hn : n < 1000) : xnew w k (nI n) = some (xpush w n (.inl (k, n, xzero k))) := by
  unfold xnew
  rw [if_pos ⟨nI_pos (by omega), nI_le (b := 65536) (by omega) (by decide)⟩, nI_clamp (by omega)]
theorem va_e {α : Type} (f : Nat → α) (i : Nat) (x : α) : va_up f i x i = x := if_pos rfl
theorem va_n {α : Type} (f : Nat → α) {i j : Nat} (x : α) (h : j ≠ i) : va_up f i x j = f j := if_neg h
end CE
/-! things -/
def nT (w : xW) (v : mC) : xW := xpush w 3 (.inr (5, [xI v.1, xJ v.2.1, xD v.2.2]))
section TH
variable {w : xW} {a b k : Nat} {v u : mC}
theorem T_I (h : oT w a v) : xgI w a 5 0 = some v.1 := xgI_of h rfl
theorem T_J (h : oT w a v) : xgJ w a 5 1 = some v.2.1 := xgJ_of h rfl
theorem T_D (h : oT w a v) : xgD w a 5 2 = some v.2.2 := xgD_of h rfl
theorem T_o (h : oT w a v) : xobj w a 5 = some [xI v.1, xJ v.2.1, xD v.2.2] := xobj_of h
theorem T_c (h : oT w a v) : xcno w a = some 5 := xcno_of h
theorem nT_T (w : xW) (v : mC) : oT (nT w v) w.1 v := xpush_at w 3 _
theorem nT_k (hd : wd w) (v : mC) : kp w.1 1 w (nT w v) := kp_push hd (by decide)
theorem c_Thing (w : xW) (k : Int32) (n : Int64) (x : UInt64) : xev 31 0 [some (xA (some (w.1))), some (xI (k)), some (xJ (n)), none, some (xD (x)), none] [] (xpush w 3 (.inr (5, xdf 5))) = some (none, nT w (k, n, x)) := by
  rw [e_X6_init_0, b_X6_init_0, xput_of (xpush_at w 3 _) (show 0 < (xdf 5).length from (by decide : 0 < 3)), Option.bind_some, xput_of (xset_at _ _ _) (show 1 < ((xdf 5).set 0 (xI k)).length from (by decide : 1 < 3)), Option.bind_some, xput_of (xset_at _ _ _) (show 2 < (((xdf 5).set 0 (xI k)).set 1 (xJ n)).length from (by decide : 2 < 3)), Option.bind_some, xset_xset, xset_xset, xset_push]
  rfl
theorem c_number (w : xW) {k : Nat} (hk : k < 8) (n : Int64) : xev 32 0 [some (xI (nI k)), some (xJ (n)), none] [] w = some (some (xA (some w.1)), nT w (mkN k n)) := by
  rw [e_X6_number_0, b_X6_number_0]
  simp only [c_Thing, Option.bind_some, xrV_e]
  match k, hk with
  | 0, _ => rfl
  | 1, _ => rfl
  | 2, _ => rfl
  | 3, _ => rfl
  | 4, _ => rfl
  | 5, _ => rfl
  | 6, _ =>
    rw [if_neg (by decide), if_neg (by decide), if_neg (by decide), if_neg (by decide), if_neg (by decide), if_neg (by decide), if_pos (by decide), fl_m6]
    rfl
  | 7, _ =>
    rw [if_neg (by decide), if_neg (by decide), if_neg (by decide), if_neg (by decide), if_neg (by decide), if_neg (by decide), if_neg (by decide), if_pos (by decide), nR_D (nR_m7 n)]
    rfl
theorem c_isStone (h : oT w a v) : xev 33 0 [some (xA (some (a)))] [] w = some (some (xI (if v.1 = 8 ∨ v.1 = 9 then 1 else 0)), w) := by
  rw [e_X6_isStone_0, b_X6_isStone_0]
  simp only [T_I h, Option.bind_some]
  by_cases h8 : v.1 = 8
  · rw [if_pos h8, if_pos (Or.inl h8)]
  · rw [if_neg h8]
    by_cases h9 : v.1 = 9
    · rw [if_pos h9, if_pos (Or.inr h9)]
    · rw [if_neg h9, if_neg (fun q => q.elim h8 h9)]
theorem c_tcontent (h : oT w a v) : xev 34 0 [some (xA (some (a)))] [] w = some (some (xI (if v.1 = 8 ∨ v.1 = 9 then 13 else if v.1 = 10 then 14 else 15)), w) := by
  rw [e_X6_content_0, b_X6_content_0]
  simp only [T_o h, Option.bind_some, c_isStone h, xrI_e, T_I h]
  by_cases h8 : v.1 = 8 ∨ v.1 = 9
  · rw [if_pos h8, if_pos h8]
    exact if_neg (by decide)
  · rw [if_neg h8, if_neg h8, if_pos rfl]
    by_cases h9 : v.1 = 10
    · rw [if_pos h9, if_pos h9]
    · rw [if_neg h9, if_neg h9]
theorem c_cwidened (hd : wd w) (h : oT w a v) (hk : k < 13) : ∃ b w', xev 35 0 [some (xA (some (a))), some (xI (nI k))] [] w = some (some (xA (some b)), w') ∧ kp w.1 1 w w' ∧ oT w' b (wid v k) := by
  rw [e_X6_widened_0, b_X6_widened_0]
  have h2 : oT (xpush w 3 (.inr (5, xdf 5))) a v := by
    refine (xpush_ne w 3 _ ?_).trans h
    have := hd _ _ h
    omega
  have fin : ∀ u, oT (nT w u) w.1 u ∧ kp w.1 1 w (nT w u) := fun u => ⟨nT_T w u, nT_k hd u⟩
  simp only [T_I h, Option.bind_some, T_D h2, T_J h2, c_Thing, xrV_e, nR_D (nR_l2f v.2.1)]
  by_cases h1 : nI k = v.1
  · rw [if_pos h1]
    refine ⟨a, w, rfl, kp_mono (kp_refl hd) (by decide), ?_⟩
    unfold wid
    rw [if_pos h1]
    exact h
  · rw [if_neg h1]
    by_cases h6 : v.1 = 6
    · rw [if_pos h6]
      refine ⟨w.1, _, rfl, (fin _).2, ?_⟩
      have : wid v k = (nI k, 0, v.2.2) := by unfold wid; rw [if_neg h1, if_pos h6]
      rw [this]
      exact (fin _).1
    · rw [if_neg h6]
      have e6 : nI k = 6 ↔ k = 6 := nI_eq (b := 6) (by omega) (by decide)
      have e7 : nI k = 7 ↔ k = 7 := nI_eq (b := 7) (by omega) (by decide)
      have : wid v k = if k = 6 then (nI k, 0, FP.f2d (FP.l2f v.2.1)) else if k = 7 then (nI k, 0, FP.l2d v.2.1) else (nI k, v.2.1, 0) := by unfold wid; rw [if_neg h1, if_neg h6]
      rw [this]
      simp only [e6, e7]
      split
      · exact ⟨w.1, _, rfl, (fin _).2, (fin _).1⟩
      · split
        · exact ⟨w.1, _, rfl, (fin _).2, (fin _).1⟩
        · exact ⟨w.1, _, rfl, (fin _).2, (fin _).1⟩
end TH
