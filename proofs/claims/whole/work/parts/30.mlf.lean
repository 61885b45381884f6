/-! the reference's small methods -/
theorem xrI_e {α : Type} {x : Int32} {f : Int32 → Option α} : xrI (some (xI x)) f = f x := rfl
theorem xrJ_e {α : Type} {x : Int64} {f : Int64 → Option α} : xrJ (some (xJ x)) f = f x := rfl
theorem xrD_e {α : Type} {x : UInt64} {f : UInt64 → Option α} : xrD (some (xD x)) f = f x := rfl
theorem xrA_e {α : Type} {x : Option Nat} {f : Option Nat → Option α} : xrA (some (xA x)) f = f x := rfl
theorem xrV_e {α : Type} {f : Option α} : xrV none f = f := rfl
theorem lgc_lt (x y : Int64) : lg_cmp x y < 0 ↔ x < y := by
  have h := lg_cmp_ge x y
  rw [← xnle, h, Int64.lt_iff_toInt_lt, Int64.le_iff_toInt_le]
  omega
theorem lgc_gt (x y : Int64) : 0 < lg_cmp x y ↔ y < x := by
  unfold lg_cmp
  by_cases h : x > y
  · rw [if_pos h]; exact ⟨fun _ => h, fun _ => by decide⟩
  · rw [if_neg h]
    split
    · exact ⟨fun q => absurd q (by decide), fun q => absurd q h⟩
    · exact ⟨fun q => absurd q (by decide), fun q => absurd q h⟩
theorem w64 (a b : Int32) : a.toInt64 < b.toInt64 ↔ a < b := by
  rw [Int64.lt_iff_toInt_lt, Int32.lt_iff_toInt_lt, Int32.toInt_toInt64, Int32.toInt_toInt64]
/-- in(v, low, high) -/
theorem c_in (v lo hi : Int64) (w : xW) : xev 88 0 [some (xJ v), none, some (xJ lo), none, some (xJ hi), none] [] w = some (some (xI (if v < lo ∨ hi < v then 0 else 1)), w) := by
  rw [e_X8_in_0, b_X8_in_0]
  simp only [lgc_lt, lgc_gt]
  by_cases h1 : v < lo
  · rw [if_pos h1, if_pos (Or.inl h1)]
  · by_cases h2 : hi < v
    · rw [if_neg h1, if_pos h2, if_pos (Or.inr h2)]
    · rw [if_neg h1, if_neg h2, if_neg (by rintro (h | h) <;> contradiction)]
/-- is it one of the first n numbers -/
def inR (x : Int32) (n : Nat) : Prop := ∃ i : Nat, i < n ∧ x = nI i
theorem inR_iff {x : Int32} {n : Nat} (hn : n < 2 ^ 31) : inR x n ↔ ¬ x < 0 ∧ x < nI n := by
  constructor
  · rintro ⟨i, hi, rfl⟩
    exact ⟨nI_pos (by omega), nI_lt hi hn⟩
  · rintro ⟨h1, h2⟩
    obtain ⟨j, hj, rfl⟩ := nI_of h1
    exact ⟨j, (nI_ltI hj hn).mp h2, rfl⟩
theorem c_in32 (x : Int32) (n : Nat) (hi : Int64) (hn : n < 2 ^ 31) (hh : hi = (nI n - 1).toInt64) (w : xW) : (inR x n → xev 88 0 [some (xJ x.toInt64), none, some (xJ 0), none, some (xJ hi), none] [] w = some (some (xI 1), w)) ∧ (¬ inR x n → xev 88 0 [some (xJ x.toInt64), none, some (xJ 0), none, some (xJ hi), none] [] w = some (some (xI 0), w)) := by
  have h0 : (0 : Int64) = (0 : Int32).toInt64 := by decide
  have key : (x.toInt64 < 0 ∨ hi < x.toInt64) ↔ ¬ inR x n := by
    rw [hh, h0, w64, w64, inR_iff hn]
    have e1 : (nI n - 1).toInt = (n : Int) - 1 := by
      have := pk_sub_toInt (a := n) (b := 1)
      rw [Int32.toInt_sub, nI_toInt hn]
      show (_ : Int).bmod _ = _
      have : (1 : Int32).toInt = 1 := by decide
      rw [this, Int.bmod_eq_of_le (by omega) (by omega)]
    rw [Int32.lt_iff_toInt_lt, Int32.lt_iff_toInt_lt, Int32.lt_iff_toInt_lt, e1, nI_toInt hn]
    have z : (0 : Int32).toInt = 0 := by decide
    rw [z]
    omega
  constructor
  · intro h
    rw [c_in, if_neg (fun q => key.mp q h)]
  · intro h
    rw [c_in, if_pos (key.mpr h)]
/-- a check over two's powers of a small number: what a test of 0 and 1 says -/
theorem bit1 {x : Int32} (h : x = 0 ∨ x = 1) : x &&& 1 = x := by rcases h with rfl | rfl <;> decide
theorem c_col_t {c : Int32} (h : inR c 10) (w : xW) : xev 89 0 [some (xI c)] [] w = some (some (xI 1), w) := by
  rw [e_X8_isColumn_0, b_X8_isColumn_0, (c_in32 c 10 9 (by decide) (by decide) w).1 h]
  rfl
theorem c_col_f {c : Int32} (h : ¬ inR c 10) (w : xW) : xev 89 0 [some (xI c)] [] w = some (some (xI 0), w) := by
  rw [e_X8_isColumn_0, b_X8_isColumn_0, (c_in32 c 10 9 (by decide) (by decide) w).2 h]
  rfl
section ML
variable {m0 : Nat} {t : mS} {u : xW}
def mT (t : mS) (k : Nat) : mC := (mI t 2 k, mJ t 3 k, mD t 4 k)
def mPut (t : mS) (k : Nat) (x : mC) : mS := sD (sJ (sI t 2 k x.1) 3 k x.2.1) 4 k x.2.2
theorem mT_put (t : mS) (k j : Nat) (x : mC) : mT (mPut t k x) j = if j = k then x else mT t j := by
  unfold mT mPut sD sJ sI mI mJ mD va_up
  by_cases h : j = k
  · simp [h]
  · simp [h]
/-- what a put leaves as it was -/
theorem mPut_I (t : mS) (k : Nat) (x : mC) {j : Nat} (h : j ≠ 2) : mI (mPut t k x) j = mI t j := by
  unfold mPut sD sJ sI mI va_up
  simp [h]
theorem mPut_J (t : mS) (k : Nat) (x : mC) {j : Nat} (h : j ≠ 3) : mJ (mPut t k x) j = mJ t j := by
  unfold mPut sD sJ sI mJ va_up
  simp [h]
theorem mPut_D (t : mS) (k : Nat) (x : mC) {j : Nat} (h : j ≠ 4) : mD (mPut t k x) j = mD t j := by
  unfold mPut sD sJ sI mD va_up
  simp [h]
theorem mPut_i (t : mS) (k : Nat) (x : mC) : mi (mPut t k x) = mi t := rfl
theorem mPut_j (t : mS) (k : Nat) (x : mC) : mj (mPut t k x) = mj t := rfl
theorem mPut_d (t : mS) (k : Nat) (x : mC) : md (mPut t k x) = md t := rfl
theorem c_isRow_t {i : Nat} (hi : i < 10) (h : inR (mI t 5 i) 16) : xev 90 0 [some (xA (some m0)), some (xI (nI i))] [] (mW m0 t u) = some (some (xI 1), mW m0 t u) := by
  rw [e_X8_isRow_0, b_X8_isRow_0, g_5, Option.bind_some, Option.bind_some, a_5 hi, Option.bind_some, (c_in32 _ 16 15 (by decide) (by decide) _).1 h]
  rfl
theorem c_isRow_f {i : Nat} (hi : i < 10) (h : ¬ inR (mI t 5 i) 16) : xev 90 0 [some (xA (some m0)), some (xI (nI i))] [] (mW m0 t u) = some (some (xI 0), mW m0 t u) := by
  rw [e_X8_isRow_0, b_X8_isRow_0, g_5, Option.bind_some, Option.bind_some, a_5 hi, Option.bind_some, (c_in32 _ 16 15 (by decide) (by decide) _).2 h]
  rfl
theorem c_put {k : Nat} (hk : k < 384) (x : mC) : xev 94 0 [some (xA (some m0)), some (xI (nI k)), some (xI x.1), some (xJ x.2.1), none, some (xD x.2.2), none] [] (mW m0 t u) = some (none, mW m0 (mPut t k x) u) := by
  rw [e_X8_put_0, b_X8_put_0]
  simp only [g_2, g_3, g_4, Option.bind_some, s_2 hk, s_3 hk, s_4 hk]
  rfl
theorem c_copy {k j : Nat} (hk : k < 384) (hj : j < 384) : xev 95 0 [some (xA (some m0)), some (xI (nI k)), some (xI (nI j))] [] (mW m0 t u) = some (none, mW m0 (mPut t j (mT t k)) u) := by
  rw [e_X8_copy_0, b_X8_copy_0]
  simp only [g_2, g_3, g_4, Option.bind_some, a_2 hk, a_3 hk, a_4 hk, mW_obj]
  have h : xev 94 0 [some (xA (some m0)), some (xI (nI j)), some (xI (mI t 2 k)), some (xJ (mJ t 3 k)), none, some (xD (mD t 4 k)), none] [] (mW m0 t u) = some (none, mW m0 (mPut t j (mT t k)) u) := c_put hj (mT t k)
  rw [h]
  rfl
theorem c_counted {a b : Nat} (ha : a < 19) (hb : b < 6) : xev 106 0 [some (xA (some m0)), some (xI (nI a)), some (xI (nI b))] [] (mW m0 t u) = some (some (xI (nI b)), mW m0 (sI t 14 (6 * a + b) (mI t 14 (6 * a + b) + 1)) u) := by
  have e : (6 : Int32) * nI a + nI b = nI (6 * a + b) := by
    rw [show (6 : Int32) = nI 6 from rfl, pk_mul, nI_add]
  rw [e_X8_counted_0, b_X8_counted_0]
  simp only [g_14, Option.bind_some, e, a_14 (show 6 * a + b < 114 by omega), s_14 (show 6 * a + b < 114 by omega)]
/-! rows of puts -/
def mFold (t : mS) (dst : Nat → Nat) (v : Nat → mC) : Nat → mS
  | 0 => t
  | n + 1 => mPut (mFold t dst v n) (dst n) (v n)
theorem mFold_I (dst : Nat → Nat) (v : Nat → mC) {j : Nat} (h : j ≠ 2) : ∀ n, mI (mFold t dst v n) j = mI t j
  | 0 => rfl
  | n + 1 => by rw [mFold, mPut_I _ _ _ h, mFold_I dst v h n]
theorem mFold_J (dst : Nat → Nat) (v : Nat → mC) {j : Nat} (h : j ≠ 3) : ∀ n, mJ (mFold t dst v n) j = mJ t j
  | 0 => rfl
  | n + 1 => by rw [mFold, mPut_J _ _ _ h, mFold_J dst v h n]
theorem mFold_D (dst : Nat → Nat) (v : Nat → mC) {j : Nat} (h : j ≠ 4) : ∀ n, mD (mFold t dst v n) j = mD t j
  | 0 => rfl
  | n + 1 => by rw [mFold, mPut_D _ _ _ h, mFold_D dst v h n]
theorem mFold_i (dst : Nat → Nat) (v : Nat → mC) : ∀ n, mi (mFold t dst v n) = mi t
  | 0 => rfl
  | n + 1 => by rw [mFold, mPut_i, mFold_i dst v n]
theorem mFold_j (dst : Nat → Nat) (v : Nat → mC) : ∀ n, mj (mFold t dst v n) = mj t
  | 0 => rfl
  | n + 1 => by rw [mFold, mPut_j, mFold_j dst v n]
theorem mFold_d (dst : Nat → Nat) (v : Nat → mC) : ∀ n, md (mFold t dst v n) = md t
  | 0 => rfl
  | n + 1 => by rw [mFold, mPut_d, mFold_d dst v n]
theorem mFold_out {dst : Nat → Nat} {v : Nat → mC} {k : Nat} : ∀ n, (∀ j, j < n → dst j ≠ k) → mT (mFold t dst v n) k = mT t k
  | 0, _ => rfl
  | n + 1, h => by
    rw [mFold, mT_put, if_neg (fun q => h n (Nat.lt_succ_self n) q.symm)]
    exact mFold_out n (fun j hj => h j (by omega))
theorem mFold_in {dst : Nat → Nat} {v : Nat → mC} : ∀ n, (∀ i j, i < n → j < n → dst i = dst j → i = j) → ∀ j, j < n → mT (mFold t dst v n) (dst j) = v j
  | 0, _, j, hj => absurd hj (Nat.not_lt_zero _)
  | n + 1, h, j, hj => by
    rw [mFold, mT_put]
    by_cases hjn : j = n
    · subst hjn
      rw [if_pos rfl]
    · rw [if_neg (fun q => hjn (h j n hj (Nat.lt_succ_self n) q))]
      exact mFold_in n (fun a b ha hb => h a b (by omega) (by omega)) j (by omega)
/-- a new row -/
def mBlank (kind : Int32) : mC := (if kind < 8 then kind else 11, 0, 0)
def mBegin (t : mS) (r : Nat) (kind n : Int32) : mS := mFold (sI (sI t 0 r kind) 1 r n) (fun j => 24 * r + j) (fun _ => mBlank kind) 24
theorem c_begin_l {r : Nat} (hr : r < 16) {kind : Int32} (t0 : mS) : ∀ d k : Nat, k + d = 24 → xev 93 17 [some (xA (some m0)), some (xI (nI r)), some (xI kind), none, some (xI (nI k))] [] (mW m0 (mFold t0 (fun j => 24 * r + j) (fun _ => mBlank kind) k) u) = some (none, mW m0 (mFold t0 (fun j => 24 * r + j) (fun _ => mBlank kind) 24) u)
  | 0, k, h => by
    obtain rfl : k = 24 := by omega
    rw [e_X8_begin_17, b_X8_begin_17, if_neg (by decide)]
  | d + 1, k, h => by
    have hk : k < 24 := by omega
    have e : (24 : Int32) * nI r + nI k = nI (24 * r + k) := by
      rw [show (24 : Int32) = nI 24 from rfl, pk_mul, nI_add]
    have lt : nI k < (24 : Int32) := nI_lt (b := 24) hk (by decide)
    have ih := c_begin_l hr (kind := kind) t0 d (k + 1) (by omega)
    have hp := c_put (m0 := m0) (t := mFold t0 (fun j => 24 * r + j) (fun _ => mBlank kind) k) (u := u) (k := 24 * r + k) (by omega) (mBlank kind)
    rw [e_X8_begin_17, b_X8_begin_17, if_pos lt, e]
    simp only [mW_obj, Option.bind_some, nI_1]
    unfold mBlank at hp ih ⊢
    by_cases h8 : kind < 8
    · rw [if_pos h8] at hp ih ⊢
      rw [if_pos h8, hp]
      exact ih
    · rw [if_neg h8] at hp ih ⊢
      rw [if_neg h8, hp]
      exact ih
theorem c_begin {r : Nat} (hr : r < 16) (kind n : Int32) : xev 93 0 [some (xA (some m0)), some (xI (nI r)), some (xI kind), some (xI n), none] [] (mW m0 t u) = some (none, mW m0 (mBegin t r kind n) u) := by
  rw [e_X8_begin_0, b_X8_begin_0]
  simp only [g_0, g_1, Option.bind_some, s_0 hr, s_1 hr]
  exact c_begin_l hr _ 24 0 rfl
end ML
