/-! the reference's rules -/
theorem nI_m1 {q : Nat} (h : q < 2 ^ 31) : nI q ≠ -1 := by
  intro e
  have := congrArg Int32.toInt e
  rw [nI_toInt h] at this
  have z : (-1 : Int32).toInt = -1 := by decide
  omega
theorem iteC {c : Prop} [Decidable c] {x y : Int32} {w : xW} : (if c then (some (some (xI x), w) : Option xR) else some (some (xI y), w)) = some (some (xI (if c then x else y)), w) := by split <;> rfl
def bI (b : Bool) : Int32 := if b = true then 1 else 0
theorem c_widens {a b : Nat} (ha : a < 8) (hb : b < 8) (w : xW) : xev 97 0 [some (xI (nI a)), some (xI (nI b))] [] w = some (some (xI (bI (fitB b a))), w) := by
  rw [e_X8_widens_0, b_X8_widens_0]
  simp only [iteC]
  have d : ∀ a, a < 8 → ∀ b, b < 8 → (if nI a = nI b then (1 : Int32) else if nI a = 0 then 0 else if nI b < 3 then 0 else if nI b < nI a then 0 else if nI a = 2 then if nI b = 3 then 0 else 1 else 1) = bI (fitB b a) := by decide +kernel
  rw [d a ha b hb]
theorem c_canHold {ty k : Nat} (ht : ty < 13) (hk : k < 12) (w : xW) : xev 114 0 [some (xI (nI ty)), some (xI (nI k))] [] w = some (some (xI (bI (fitB ty k))), w) := by
  rw [e_X8_canHold_0, b_X8_canHold_0]
  by_cases h8 : ty < 8
  · have n : ∀ ty, ty < 8 → ¬ nI ty = Int32.ofInt 8 ∧ ¬ nI ty = Int32.ofInt 9 ∧ ¬ nI ty = Int32.ofInt 10 ∧ ¬ nI ty = Int32.ofInt 11 ∧ ¬ nI ty = Int32.ofInt 12 := by decide +kernel
    obtain ⟨n1, n2, n3, n4, n5⟩ := n ty h8
    rw [if_neg n1, if_neg n2, if_neg n3, if_neg n4, if_neg n5]
    by_cases k8 : k < 8
    · rw [if_pos (show nI k < 8 from nI_lt (b := 8) k8 (by decide)), c_widens k8 h8]
      cases fitB ty k <;> rfl
    · rw [if_neg (show ¬ nI k < 8 from nI_nlt (b := 8) (by omega) (by omega))]
      have d : ∀ ty, ty < 8 → ∀ k, k < 12 → ¬ k < 8 → fitB ty k = false := by decide +kernel
      rw [d ty h8 k hk k8]
      rfl
  · simp only [iteC]
    have d8 : ∀ k, k < 12 → (if nI k = 11 then (1 : Int32) else if nI k = 4 then 1 else 0) = bI (fitB 8 k) := by decide +kernel
    have d9 : ∀ k, k < 12 → (if nI k = 11 then (1 : Int32) else if nI k < 8 then 1 else if nI k = 10 then 1 else 0) = bI (fitB 9 k) := by decide +kernel
    have d10 : ∀ k, k < 12 → (if nI k = 11 then (1 : Int32) else if nI k = 8 then 1 else if nI k = 9 then 1 else 0) = bI (fitB 10 k) := by decide +kernel
    have d11 : ∀ k, k < 12 → (if nI k = 11 then (1 : Int32) else if nI k = 9 then 1 else 0) = bI (fitB 11 k) := by decide +kernel
    have d12 : ∀ k, k < 12 → (if nI k = 11 then (1 : Int32) else if nI k = 10 then 1 else 0) = bI (fitB 12 k) := by decide +kernel
    have hc : ty = 8 ∨ ty = 9 ∨ ty = 10 ∨ ty = 11 ∨ ty = 12 := by omega
    rcases hc with rfl | rfl | rfl | rfl | rfl
    · rw [if_pos (by decide), d8 k hk]
    · rw [if_neg (by decide), if_pos (by decide), d9 k hk]
    · rw [if_neg (by decide), if_neg (by decide), if_pos (by decide), d10 k hk]
    · rw [if_neg (by decide), if_neg (by decide), if_neg (by decide), if_pos (by decide), d11 k hk]
    · rw [if_neg (by decide), if_neg (by decide), if_neg (by decide), if_neg (by decide), if_pos (by decide), d12 k hk]
/-- what becomes of a broken part -/
def mwd (a b : Nat) (n : Int64) (d : UInt64) : UInt64 := if b < 6 then 0 else if 5 < a then d else if b = 6 then FP.f2d (FP.l2f n) else FP.l2d n
theorem nI_d {a b : Nat} (ha : a < 1000) (hb : b < 1000) : (nI a < nI b ↔ a < b) ∧ (nI a = nI b ↔ a = b) := ⟨nI_ltI (by omega) (by omega), nI_eq (by omega) (by omega)⟩
theorem c_widened {a b : Nat} (ha : a < 12) (hb : b < 8) (n : Int64) (d : UInt64) (w : xW) : xev 98 0 [some (xI (nI a)), some (xI (nI b)), some (xJ n), none, some (xD d), none] [] w = some (some (xD (mwd a b n d)), w) := by
  rw [e_X8_widened_0, b_X8_widened_0]
  unfold mwd
  have h1 : (nI b < 6) ↔ b < 6 := nI_ltI (b := 6) (by omega) (by decide)
  have h2 : ((5 : Int32) < nI a) ↔ 5 < a := nI_ltI (a := 5) (by decide) (by omega)
  have h3 : (nI b = 6) ↔ b = 6 := nI_eq (b := 6) (by omega) (by decide)
  simp only [h1, h2, h3, nR_D (nR_l2f n)]
  split
  · rfl
  · split
    · rfl
    · split <;> rfl
theorem wid_m {N a b : Nat} {v : mC} (hv : tok N v) (hk : v.1 = nI a) (ha : a < 8) (hb : b < 8) (hf : fitB b a = true) : wid v b = (nI b, if b < 6 then v.2.1 else 0, mwd a b v.2.1 v.2.2) := by
  obtain ⟨k, hk12, e, h⟩ := hv
  have : k = a := (nI_eq (by omega) (by omega)).mp (e.symm.trans hk)
  subst this
  obtain ⟨v1, v2, v3⟩ := v
  simp only at hk h ⊢
  subst hk
  unfold wid mwd
  simp only
  have f67 : k = 6 → b = 6 ∨ b = 7 := by
    have d : ∀ b, b < 8 → fitB b 6 = true → b = 6 ∨ b = 7 := by decide +kernel
    rintro rfl
    exact d b hb hf
  have f7 : k = 7 → b = 7 := by
    have d : ∀ b, b < 8 → fitB b 7 = true → b = 7 := by decide +kernel
    rintro rfl
    exact d b hb hf
  have e6 : (nI k = 6) ↔ k = 6 := nI_eq (b := 6) (by omega) (by decide)
  simp only [nI_eq (a := b) (b := k) (by omega) (by omega), e6]
  by_cases hbk : b = k
  · subst hbk
    rw [if_pos rfl]
    rcases h with ⟨h6, h0⟩ | ⟨h6, h0, _⟩ | ⟨h6, _⟩ | ⟨h6, _⟩ | ⟨h6, _⟩
    · rw [if_pos h6, if_pos h6, h0]
    · rw [if_neg (by omega), if_neg (by omega), if_pos (by omega), h0]
    · omega
    · omega
    · omega
  · rw [if_neg hbk]
    by_cases h6 : k = 6
    · rw [if_pos h6, if_neg (by have := f67 h6; omega), if_neg (by have := f67 h6; omega), if_pos (by omega)]
    · rw [if_neg h6]
      have hk6 : k < 6 := by
        by_cases h7 : k = 7
        · exact absurd (f7 h7) (by omega)
        · omega
      by_cases b6 : b = 6
      · rw [if_pos b6, if_neg (by omega), if_neg (by omega), if_neg (by omega), if_pos b6]
      · rw [if_neg b6]
        by_cases b7 : b = 7
        · rw [if_pos b7, if_neg (by omega), if_neg (by omega), if_neg (by omega), if_neg b6]
        · rw [if_neg b7, if_pos (by omega), if_pos (by omega)]
theorem wid_ok {N a b : Nat} {v : mC} (hv : tok N v) (hk : v.1 = nI a) (ha : a < 8) (hb : b < 8) (hf : fitB b a = true) : tok N (wid v b) ∧ (wid v b).1 = nI b := by
  have e := wid_m hv hk ha hb hf
  refine ⟨?_, by rw [e]⟩
  obtain ⟨k, hk12, ek, h⟩ := hv
  have : k = a := (nI_eq (by omega) (by omega)).mp (ek.symm.trans hk)
  subst this
  rw [e]
  refine ⟨b, by omega, rfl, ?_⟩
  unfold mwd
  simp only
  by_cases b6 : b < 6
  · left
    exact ⟨b6, by rw [if_pos b6]⟩
  · right; left
    refine ⟨by omega, by rw [if_neg b6], ?_⟩
    rw [if_neg b6]
    by_cases h5 : 5 < k
    · rw [if_pos h5]
      rcases h with ⟨h6, _⟩ | ⟨_, _, h0⟩ | ⟨h6, _⟩ | ⟨h6, _⟩ | ⟨h6, _⟩
      · omega
      · exact h0
      · omega
      · omega
      · omega
    · rw [if_neg h5]
      split
      · exact nR_l2f _
      · exact nR_l2d _
