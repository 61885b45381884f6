/-! the reference holds a notebook -/
/-- a place holds an array -/
def slt (t : mS) (q : Nat) (x : sR) : Prop := mI t 0 q = nI x.1 ∧ mI t 1 q = nI x.2.1 ∧ ∀ i, i < x.2.1 → mT t (24 * q + i) = x.2.2 i
def hcd (v : mC) : Int32 := if v.1 = 11 then -1 else if v.1 = 10 then 100 + v.2.1.toInt32 else 1000 + v.2.1.toInt32
def RmC (C : Nat → sO) (R : Nat → Option sR) (K : Option Nat) (t : mS) : Prop :=
  (∀ c r, c < 10 → C c = .inl r → ∃ x q, R r = some x ∧ q < 16 ∧ mI t 5 c = nI q ∧ slt t q x) ∧
  (∀ c v, c < 10 → C c = .inr v → mI t 5 c = hcd v) ∧
  (∀ c d r s, c < 10 → d < 10 → C c = .inl r → C d = .inl s → (mI t 5 c = mI t 5 d ↔ r = s)) ∧
  (K = none → mi t 6 = -6) ∧
  (∀ r, K = some r → ∃ x q, R r = some x ∧ q < 16 ∧ mi t 6 = nI q ∧ slt t q x ∧ ∀ c, c < 10 → mI t 5 c ≠ nI q)
def RmH (v : mC) (t : mS) : Prop := mi t 7 = v.1 ∧ mj t 8 = v.2.1 ∧ md t 9 = v.2.2
def RmG (v : mC) (t : mS) : Prop := mj t 10 = cde v
def RmW (W : Nat → Int32) (N : Nat) (t : mS) : Prop := (∀ i, i < 60 → mI t 11 (i + 1) = W i) ∧ mi t 13 = nI N
def RmT (T : Nat → Int32) (A : Int32) (t : mS) : Prop := (∀ i, i < 114 → mI t 14 i = T i) ∧ mi t 15 = A
def RmP (P : Nat × (Nat → Nat) × (Nat → Nat)) (t : mS) : Prop := mi t 18 = nI P.1 ∧ ∀ i, i < P.1 → mI t 16 i = nI (P.2.1 i) ∧ mI t 17 i = nI (P.2.2 i)
/-- an image's place holds an array -/
def slI (t : mS) (q : Nat) (x : sR) : Prop := mI t 29 q = nI x.1 ∧ mI t 30 q = nI x.2.1 ∧ ∀ i, i < x.2.1 → (mI t 31 (24 * q + i), mJ t 32 (24 * q + i), mD t 33 (24 * q + i)) = x.2.2 i
def RmI (R : Nat → Option sR) (G : Nat → Option (Nat → sO)) (t : mS) : Prop := ∀ k, k < 2 → (G k = none → mI t 26 k = 0) ∧ ∀ f, G k = some f → mI t 26 k = 1 ∧
  (∀ c v, c < 10 → f c = .inr v → mI t 28 (10 * k + c) = -6 ∧ mI t 27 (10 * k + c) = hcd v) ∧
  (∀ c r, c < 10 → f c = .inl r → ∃ x j, R r = some x ∧ j ≤ c ∧ mI t 28 (10 * k + c) = nI j ∧ f j = .inl r ∧ (∀ i, i < j → f i ≠ .inl r) ∧ slI t (10 * k + c) x)
def Rm (S : sS) (t : mS) : Prop := RmC (qC S) (qR S) (qK S) t ∧ RmH (qH S) t ∧ RmG (qS S) t ∧ RmW (qW S) (qN S) t ∧ RmT (qT S) (qA S) t ∧ RmP (qP S) t ∧ RmI (qR S) (qI S) t
theorem inB_nI {x : Int32} {n : Nat} (h : inB x n) : x = nI x.toNatClampNeg := by
  obtain ⟨j, hj, e⟩ := nI_of h.1
  have e2 := e
  subst e2
  rw [nI_clamp hj]
theorem inB_iff {x : Int32} {n : Nat} (hn : n < 2 ^ 31) : inB x n ↔ inR x n := by
  constructor
  · intro h
    exact ⟨_, h.2, inB_nI h⟩
  · rintro ⟨i, hi, rfl⟩
    exact ⟨nI_pos (by omega), by rw [nI_clamp (by omega)]; exact hi⟩
theorem inB_of {j n : Nat} (h : j < n) (hn : n < 2 ^ 31) : inB (nI j) n := ⟨nI_pos (by omega), by rw [nI_clamp (by omega)]; exact h⟩
theorem c_inB_t {x : Int32} {n : Nat} (hn : n < 2 ^ 31) (h : inB x n) (w : xW) : xev 88 0 [some (xJ x.toInt64), none, some (xJ 0), none, some (xJ (nI n - 1).toInt64), none] [] w = some (some (xI 1), w) := (c_in32 x n _ hn rfl w).1 ((inB_iff hn).mp h)
theorem c_inB_f {x : Int32} {n : Nat} (hn : n < 2 ^ 31) (h : ¬ inB x n) (w : xW) : xev 88 0 [some (xJ x.toInt64), none, some (xJ 0), none, some (xJ (nI n - 1).toInt64), none] [] w = some (some (xI 0), w) := (c_in32 x n _ hn rfl w).2 (fun q => h ((inB_iff hn).mpr q))
section MR
variable {m0 : Nat} {t : mS} {u : xW}
theorem c_first_row {i q : Nat} (hi : i < 10) (hq : q < 16) (h : mI t 5 i = nI q) : xev 91 0 [some (xA (some m0)), some (xI (nI i))] [] (mW m0 t u) = some (some (xI 0), mW m0 t u) := by
  rw [e_X8_first_0, b_X8_first_0]
  simp only [g_5, Option.bind_some, a_5 hi, h, if_neg (nI_m1 (show q < 2 ^ 31 by omega)), mW_obj, c_isRow_t hi (t := t) ⟨q, hq, h⟩]
  rfl
theorem c_first_bare {i : Nat} (hi : i < 10) (h : mI t 5 i = -1) : xev 91 0 [some (xA (some m0)), some (xI (nI i))] [] (mW m0 t u) = some (some (xI 1), mW m0 t u) := by
  rw [e_X8_first_0, b_X8_first_0]
  simp only [g_5, Option.bind_some, a_5 hi, h, if_pos]
theorem c_first_no {i j : Nat} (hi : i < 10) (hj : 16 ≤ j) (hj2 : j < 2 ^ 31) (h : mI t 5 i = nI j) : xev 91 0 [some (xA (some m0)), some (xI (nI i))] [] (mW m0 t u) = some (some (xI 2), mW m0 t u) := by
  have h2 : ¬ inR (mI t 5 i) 16 := by
    rintro ⟨k, hk, e⟩
    have := (nI_eq hj2 (by omega)).mp (h.symm.trans e)
    omega
  rw [e_X8_first_0, b_X8_first_0]
  simp only [g_5, Option.bind_some, a_5 hi, h, if_neg (nI_m1 hj2), mW_obj, c_isRow_f hi h2]
  rfl
theorem hcd_no {N : Nat} {v : mC} (hN : N ≤ 60) (h : v = (11, 0, 0) ∨ (∃ j, j < 100 ∧ v = (10, lN j, 0)) ∨ (∃ j, 0 < j ∧ j ≤ N ∧ v = (8, lN j, 0))) : (v.1 = 11 ∧ hcd v = -1) ∨ (v.1 = 10 ∧ ∃ j, 100 ≤ j ∧ j < 200 ∧ hcd v = nI j) ∨ (v.1 = 8 ∧ ∃ j, 1000 ≤ j ∧ j < 1061 ∧ hcd v = nI j) := by
  rcases h with rfl | ⟨j, hj, rfl⟩ | ⟨j, h0, hj, rfl⟩
  · left; exact ⟨rfl, rfl⟩
  · right; left
    refine ⟨rfl, 100 + j, by omega, by omega, ?_⟩
    show (if (10 : Int32) = 11 then _ else if (10 : Int32) = 10 then _ else _) = _
    rw [if_neg (by decide), if_pos rfl]
    show (100 : Int32) + (lN j).toInt32 = _
    rw [lN_i, ← nI_add]; rfl
  · right; right
    refine ⟨rfl, 1000 + j, by omega, by omega, ?_⟩
    show (if (8 : Int32) = 11 then _ else if (8 : Int32) = 10 then _ else _) = _
    rw [if_neg (by decide), if_neg (by decide)]
    show (1000 : Int32) + (lN j).toInt32 = _
    rw [lN_i, ← nI_add]; rfl
theorem c_firstS {S : sS} {c : Nat} (hR : Rm S t) (hw : wf S) (hc : c < 10) : xev 91 0 [some (xA (some m0)), some (xI (nI c))] [] (mW m0 t u) = some (some (xI (nI (lenA S c))), mW m0 t u) := by
  unfold lenA
  cases hq : qC S c with
  | inl r =>
    obtain ⟨x, q, _, q16, e, _⟩ := hR.1.1 c r hc hq
    exact c_first_row hc q16 e
  | inr v =>
    have hv : mI t 5 c = hcd v := hR.1.2.1 c v hc hq
    have hk := hw.1 c hc
    rw [hq] at hk
    rcases hcd_no hw.2.2.2.2.2.1 hk with ⟨e1, e2⟩ | ⟨e1, j, h1, h2, e2⟩ | ⟨e1, j, h1, h2, e2⟩
    · simp only [e1, if_pos]
      exact c_first_bare hc (hv.trans e2)
    · simp only [e1]
      rw [if_neg (by decide)]
      exact c_first_no hc (by omega) (by omega) (hv.trans e2)
    · simp only [e1]
      rw [if_neg (by decide)]
      exact c_first_no hc (by omega) (by omega) (hv.trans e2)
/-! a place that is not used -/
def unu (t : mS) (but : Int32) (r : Nat) : Prop := nI r ≠ mi t 6 ∧ nI r ≠ but ∧ ∀ c, c < 10 → mI t 5 c ≠ nI r
theorem nI_cover : ∀ (n : Nat) (L : List Int32), n < 2 ^ 31 → (∀ r, r < n → nI r ∈ L) → n ≤ L.length
  | 0, _, _, _ => Nat.zero_le _
  | n + 1, L, hn, h => by
    have h1 := h n (Nat.lt_succ_self n)
    have ih := nI_cover n (L.erase (nI n)) (by omega) (fun r hr => (List.mem_erase_of_ne (fun e => by
      have := (nI_eq (by omega) (by omega)).mp e
      omega)).mpr (h r (by omega)))
    have := List.length_erase_of_mem h1
    have := List.length_pos_of_mem h1
    omega
theorem unu_some (t : mS) (but : Int32) : ∃ r, r < 16 ∧ unu t but r := by
  refine Classical.byContradiction fun hn => ?_
  have := nI_cover 16 [mi t 6, but, mI t 5 0, mI t 5 1, mI t 5 2, mI t 5 3, mI t 5 4, mI t 5 5, mI t 5 6, mI t 5 7, mI t 5 8, mI t 5 9] (by decide) (fun r hr => by
    refine Classical.byContradiction fun hm => hn ⟨r, hr, ?_⟩
    simp only [List.mem_cons, List.not_mem_nil, or_false, not_or] at hm
    obtain ⟨h1, h2, k0, k1, k2, k3, k4, k5, k6, k7, k8, k9⟩ := hm
    refine ⟨h1, h2, fun c hc e => ?_⟩
    have hc' : c = 0 ∨ c = 1 ∨ c = 2 ∨ c = 3 ∨ c = 4 ∨ c = 5 ∨ c = 6 ∨ c = 7 ∨ c = 8 ∨ c = 9 := by omega
    rcases hc' with rfl | rfl | rfl | rfl | rfl | rfl | rfl | rfl | rfl | rfl
    · exact k0 e.symm
    · exact k1 e.symm
    · exact k2 e.symm
    · exact k3 e.symm
    · exact k4 e.symm
    · exact k5 e.symm
    · exact k6 e.symm
    · exact k7 e.symm
    · exact k8 e.symm
    · exact k9 e.symm)
  simp at this
def uF (t : mS) (r : Nat) : Nat → Nat → Bool → Bool
  | 0, _, b => b
  | d + 1, c, b => uF t r d (c + 1) (b || decide (mI t 5 c = nI r))
theorem uF_f {r : Nat} : ∀ d c b, uF t r d c b = false ↔ b = false ∧ ∀ e, c ≤ e → e < c + d → mI t 5 e ≠ nI r
  | 0, c, b => by
    unfold uF
    exact ⟨fun h => ⟨h, fun e h1 h2 => by omega⟩, fun h => h.1⟩
  | d + 1, c, b => by
    unfold uF
    rw [uF_f d (c + 1)]
    constructor
    · rintro ⟨h1, h2⟩
      have h3 := Bool.or_eq_false_iff.mp h1
      refine ⟨h3.1, fun e he1 he2 => ?_⟩
      by_cases hce : e = c
      · subst hce
        exact of_decide_eq_false h3.2
      · exact h2 e (by omega) (by omega)
    · rintro ⟨h1, h2⟩
      exact ⟨Bool.or_eq_false_iff.mpr ⟨h1, decide_eq_false (h2 c (by omega) (by omega))⟩, fun e he1 he2 => h2 e (by omega) (by omega)⟩
theorem c_free_in {r : Nat} (but fnd : Int32) : ∀ d c, c + d = 10 → ∀ b, xev 92 34 [some (xA (some m0)), some (xI but), some (xI fnd), some (xI (nI r)), some (xI (bI b)), some (xI (nI c))] [] (mW m0 t u) = xev 92 5 [some (xA (some m0)), some (xI but), some (xI (if fnd < 0 ∧ uF t r d c b = false then nI r else fnd)), some (xI (nI (r + 1))), none, none] [] (mW m0 t u)
  | 0, c, h, b => by
    obtain rfl : c = 10 := by omega
    rw [e_X8_free_34, b_X8_free_34, if_neg (by decide)]
    simp only [nI_1]
    by_cases hf : fnd < 0
    · rw [if_pos hf]
      cases b
      · rw [if_pos (show bI false = 0 from rfl), if_pos ⟨hf, rfl⟩]
      · rw [if_neg (show ¬ bI true = 0 by decide), if_neg (fun h => absurd h.2 (by unfold uF; decide))]
    · rw [if_neg hf, if_neg (fun h => hf h.1)]
  | d + 1, c, h, b => by
    have ih := c_free_in (r := r) but fnd d (c + 1) (by omega)
    rw [e_X8_free_34, b_X8_free_34, if_pos (show nI c < 10 from nI_lt (b := 10) (by omega) (by decide))]
    simp only [nI_1, g_5, Option.bind_some, a_5 (show c < 10 by omega)]
    cases b
    · rw [if_pos (show bI false = 0 from rfl)]
      by_cases he : mI t 5 c = nI r
      · rw [if_pos he]
        have := ih true
        rw [show uF t r (d + 1) c false = uF t r d (c + 1) true by unfold uF; rw [decide_eq_true he]; cases d <;> rfl]
        exact this
      · rw [if_neg he]
        have := ih false
        rw [show uF t r (d + 1) c false = uF t r d (c + 1) false by show uF t r d (c + 1) (false || decide (mI t 5 c = nI r)) = _; rw [decide_eq_false he]; rfl]
        exact this
    · rw [if_neg (show ¬ bI true = 0 by decide)]
      have := ih true
      rw [show uF t r (d + 1) c true = uF t r d (c + 1) true by show uF t r d (c + 1) (true || decide (mI t 5 c = nI r)) = _; rfl]
      exact this
theorem c_free_step {r : Nat} (but fnd : Int32) (hr : r < 16) : xev 92 5 [some (xA (some m0)), some (xI but), some (xI fnd), some (xI (nI r)), none, none] [] (mW m0 t u) = xev 92 5 [some (xA (some m0)), some (xI but), some (xI (if fnd < 0 ∧ uF t r 10 0 (decide (nI r = mi t 6) || decide (nI r = but)) = false then nI r else fnd)), some (xI (nI (r + 1))), none, none] [] (mW m0 t u) := by
  have k := fun b => c_free_in (m0 := m0) (t := t) (u := u) (r := r) but fnd 10 0 rfl b
  conv => lhs; rw [e_X8_free_5, b_X8_free_5, if_pos (show nI r < 16 from nI_lt (b := 16) hr (by decide))]
  simp only [g_6, Option.bind_some]
  by_cases h1 : nI r = mi t 6
  · rw [if_pos h1, decide_eq_true h1]
    exact k true
  · rw [if_neg h1, decide_eq_false h1]
    by_cases h2 : nI r = but
    · rw [if_pos h2, decide_eq_true h2]
      exact k true
    · rw [if_neg h2, decide_eq_false h2]
      exact k false
theorem c_free_f (but : Int32) {q : Nat} (hq : q < 16) : ∀ d r, r + d = 16 → xev 92 5 [some (xA (some m0)), some (xI but), some (xI (nI q)), some (xI (nI r)), none, none] [] (mW m0 t u) = some (some (xI (nI q)), mW m0 t u)
  | 0, r, h => by
    obtain rfl : r = 16 := by omega
    rw [e_X8_free_5, b_X8_free_5, if_neg (by decide)]
  | d + 1, r, h => by
    rw [c_free_step but (nI q) (by omega), if_neg (fun h => nI_pos (show q < 2 ^ 31 by omega) h.1)]
    exact c_free_f but hq d (r + 1) (by omega)
theorem c_free_g (but : Int32) : ∀ d r, r + d = 16 → (∃ s, r ≤ s ∧ s < 16 ∧ unu t but s) → ∃ q, q < 16 ∧ unu t but q ∧ xev 92 5 [some (xA (some m0)), some (xI but), some (xI (-6)), some (xI (nI r)), none, none] [] (mW m0 t u) = some (some (xI (nI q)), mW m0 t u)
  | 0, r, h, ⟨s, h1, h2, _⟩ => by omega
  | d + 1, r, h, ⟨s, h1, h2, h3⟩ => by
    rw [c_free_step but (-6) (by omega)]
    by_cases hu : uF t r 10 0 (decide (nI r = mi t 6) || decide (nI r = but)) = false
    · rw [if_pos ⟨by decide, hu⟩]
      refine ⟨r, by omega, ?_, c_free_f but (by omega) d (r + 1) (by omega)⟩
      have := (uF_f _ _ _).mp hu
      have h4 := Bool.or_eq_false_iff.mp this.1
      exact ⟨of_decide_eq_false h4.1, of_decide_eq_false h4.2, fun c hc => this.2 c (by omega) (by omega)⟩
    · rw [if_neg (fun h => hu h.2)]
      refine c_free_g but d (r + 1) (by omega) ⟨s, ?_, h2, h3⟩
      by_cases hrs : r = s
      · subst hrs
        exact absurd ((uF_f _ _ _).mpr ⟨Bool.or_eq_false_iff.mpr ⟨decide_eq_false h3.1, decide_eq_false h3.2.1⟩, fun e _ he => h3.2.2 e (by omega)⟩) hu
      · omega
theorem c_free (but : Int32) : ∃ q, q < 16 ∧ unu t but q ∧ xev 92 0 [some (xA (some m0)), some (xI but), none, none, none, none] [] (mW m0 t u) = some (some (xI (nI q)), mW m0 t u) := by
  obtain ⟨s, h1, h2⟩ := unu_some t but
  obtain ⟨q, h3, h4, h5⟩ := c_free_g (m0 := m0) (t := t) (u := u) but 16 0 rfl ⟨s, by omega, h1, h2⟩
  refine ⟨q, h3, h4, ?_⟩
  rw [e_X8_free_0, b_X8_free_0]
  exact h5
end MR
