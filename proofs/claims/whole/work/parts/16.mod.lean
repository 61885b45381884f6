/-! the reference's state: whole numbers, long ones, broken ones, and rows of each, by the numbers of the fields -/
abbrev mS : Type := (Nat → Int32) × (Nat → Int64) × (Nat → UInt64) × (Nat → Nat → Int32) × (Nat → Nat → Int64) × (Nat → Nat → UInt64)
abbrev mi (t : mS) : Nat → Int32 := t.1
abbrev mj (t : mS) : Nat → Int64 := t.2.1
abbrev md (t : mS) : Nat → UInt64 := t.2.2.1
abbrev mI (t : mS) : Nat → Nat → Int32 := t.2.2.2.1
abbrev mJ (t : mS) : Nat → Nat → Int64 := t.2.2.2.2.1
abbrev mD (t : mS) : Nat → Nat → UInt64 := t.2.2.2.2.2
def si (t : mS) (k : Nat) (x : Int32) : mS := (va_up t.1 k x, t.2)
def sj (t : mS) (k : Nat) (x : Int64) : mS := (t.1, va_up t.2.1 k x, t.2.2)
def sd (t : mS) (k : Nat) (x : UInt64) : mS := (t.1, t.2.1, va_up t.2.2.1 k x, t.2.2.2)
def sI (t : mS) (k n : Nat) (x : Int32) : mS := (t.1, t.2.1, t.2.2.1, va_up t.2.2.2.1 k (va_up (t.2.2.2.1 k) n x), t.2.2.2.2)
def sJ (t : mS) (k n : Nat) (x : Int64) : mS := (t.1, t.2.1, t.2.2.1, t.2.2.2.1, va_up t.2.2.2.2.1 k (va_up (t.2.2.2.2.1 k) n x), t.2.2.2.2.2)
def sD (t : mS) (k n : Nat) (x : UInt64) : mS := (t.1, t.2.1, t.2.2.1, t.2.2.2.1, t.2.2.2.2.1, va_up t.2.2.2.2.2 k (va_up (t.2.2.2.2.2 k) n x))
def mfs (m0 : Nat) (t : mS) : List xV := [xA (some (m0 + 1)), xA (some (m0 + 2)), xA (some (m0 + 3)), xA (some (m0 + 4)), xA (some (m0 + 5)), xA (some (m0 + 6)), xI (mi t 6), xI (mi t 7), xJ (mj t 8), xD (md t 9), xJ (mj t 10), xA (some (m0 + 7)), xA (some (m0 + 8)), xI (mi t 13), xA (some (m0 + 9)), xI (mi t 15), xA (some (m0 + 10)), xA (some (m0 + 11)), xI (mi t 18), xJ (mj t 19), xD (md t 20), xJ (mj t 21), xD (md t 22), xA (some (m0 + 12)), xA (some (m0 + 13)), xI (mi t 25), xA (some (m0 + 14)), xA (some (m0 + 15)), xA (some (m0 + 16)), xA (some (m0 + 17)), xA (some (m0 + 18)), xA (some (m0 + 19)), xA (some (m0 + 20)), xA (some (m0 + 21))]
def mce (m0 : Nat) (t : mS) (k : Nat) : Option xE := match k with
  | 0 => some (.inr (7, mfs m0 t))
  | 1 => some (.inl (0, 16, .inl (mI t 0)))
  | 2 => some (.inl (0, 16, .inl (mI t 1)))
  | 3 => some (.inl (0, 384, .inl (mI t 2)))
  | 4 => some (.inl (1, 384, .inr (.inl (mJ t 3))))
  | 5 => some (.inl (2, 384, .inr (.inr (.inr (.inl (mD t 4))))))
  | 6 => some (.inl (0, 10, .inl (mI t 5)))
  | 7 => some (.inl (0, 61, .inl (mI t 11)))
  | 8 => some (.inl (3, 61, .inl (mI t 12)))
  | 9 => some (.inl (0, 114, .inl (mI t 14)))
  | 10 => some (.inl (0, 24, .inl (mI t 16)))
  | 11 => some (.inl (0, 24, .inl (mI t 17)))
  | 12 => some (.inl (1, 48, .inr (.inl (mJ t 23))))
  | 13 => some (.inl (2, 48, .inr (.inr (.inr (.inl (mD t 24))))))
  | 14 => some (.inl (3, 2, .inl (mI t 26)))
  | 15 => some (.inl (0, 20, .inl (mI t 27)))
  | 16 => some (.inl (0, 20, .inl (mI t 28)))
  | 17 => some (.inl (0, 20, .inl (mI t 29)))
  | 18 => some (.inl (0, 20, .inl (mI t 30)))
  | 19 => some (.inl (0, 480, .inl (mI t 31)))
  | 20 => some (.inl (1, 480, .inr (.inl (mJ t 32))))
  | 21 => some (.inl (2, 480, .inr (.inr (.inr (.inl (mD t 33))))))
  | _ => none
def mW (m0 : Nat) (t : mS) (u : xW) : xW := (u.1, u.2.1, u.2.2.1, fun a => if m0 ≤ a ∧ a < m0 + 22 then mce m0 t (a - m0) else u.2.2.2 a)
section MOD
variable {m0 : Nat} {t : mS} {u : xW}
theorem mW_at {k : Nat} (h : k < 22) : (mW m0 t u).2.2.2 (m0 + k) = mce m0 t k := by
  show (if m0 ≤ m0 + k ∧ m0 + k < m0 + 22 then mce m0 t (m0 + k - m0) else u.2.2.2 (m0 + k)) = _
  rw [if_pos ⟨by omega, by omega⟩, Nat.add_sub_cancel_left]
theorem mW_out {a : Nat} (h : a < m0 ∨ m0 + 22 ≤ a) : (mW m0 t u).2.2.2 a = u.2.2.2 a := by
  show (if m0 ≤ a ∧ a < m0 + 22 then mce m0 t (a - m0) else u.2.2.2 a) = _
  rw [if_neg (by omega)]
theorem mW_ob : (mW m0 t u).2.2.2 m0 = some (.inr (7, mfs m0 t)) := mW_at (k := 0) (by decide)
theorem mW_obj : xobj (mW m0 t u) m0 7 = some (mfs m0 t) := by
  unfold xobj
  rw [mW_ob]
  rfl
/-- a cell of the state is set -/
theorem mW_set {k : Nat} {t2 : mS} {e : xE} (hk : k < 22) (he : mce m0 t2 k = some e) (ho : ∀ j, j ≠ k → mce m0 t2 j = mce m0 t j) : xset (mW m0 t u) (m0 + k) e = mW m0 t2 u := by
  unfold xset mW xup
  refine congrArg _ (congrArg _ (congrArg _ ?_))
  funext a
  by_cases ha : a = m0 + k
  · subst ha
    rw [if_pos rfl, if_pos ⟨by omega, by omega⟩, Nat.add_sub_cancel_left, he]
  · rw [if_neg ha]
    by_cases hr : m0 ≤ a ∧ a < m0 + 22
    · show (if m0 ≤ a ∧ a < m0 + 22 then mce m0 t (a - m0) else u.2.2.2 a) = _
      rw [if_pos hr, if_pos hr, ho (a - m0) (by omega)]
    · show (if m0 ≤ a ∧ a < m0 + 22 then mce m0 t (a - m0) else u.2.2.2 a) = _
      rw [if_neg hr, if_neg hr]
/-! fields are read and set -/
theorem g_0 : xgA (mW m0 t u) m0 7 0 = some (some (m0 + 1)) := by unfold xgA; rw [mW_obj]; rfl
theorem g_1 : xgA (mW m0 t u) m0 7 1 = some (some (m0 + 2)) := by unfold xgA; rw [mW_obj]; rfl
theorem g_2 : xgA (mW m0 t u) m0 7 2 = some (some (m0 + 3)) := by unfold xgA; rw [mW_obj]; rfl
theorem g_3 : xgA (mW m0 t u) m0 7 3 = some (some (m0 + 4)) := by unfold xgA; rw [mW_obj]; rfl
theorem g_4 : xgA (mW m0 t u) m0 7 4 = some (some (m0 + 5)) := by unfold xgA; rw [mW_obj]; rfl
theorem g_5 : xgA (mW m0 t u) m0 7 5 = some (some (m0 + 6)) := by unfold xgA; rw [mW_obj]; rfl
theorem g_6 : xgI (mW m0 t u) m0 7 6 = some (mi t 6) := by unfold xgI; rw [mW_obj]; rfl
theorem p_6 {x : Int32} : xput (mW m0 t u) m0 7 6 (xI x) = some (mW m0 (si t 6 x) u) := by
  unfold xput; rw [mW_obj, Option.bind_some, if_pos (show 6 < (mfs m0 t).length from (by decide : 6 < 34))]; exact congrArg some (mW_set (k := 0) (by decide) rfl (fun q hq => by unfold mce; split <;> first | rfl | exact absurd rfl hq))
theorem g_7 : xgI (mW m0 t u) m0 7 7 = some (mi t 7) := by unfold xgI; rw [mW_obj]; rfl
theorem p_7 {x : Int32} : xput (mW m0 t u) m0 7 7 (xI x) = some (mW m0 (si t 7 x) u) := by
  unfold xput; rw [mW_obj, Option.bind_some, if_pos (show 7 < (mfs m0 t).length from (by decide : 7 < 34))]; exact congrArg some (mW_set (k := 0) (by decide) rfl (fun q hq => by unfold mce; split <;> first | rfl | exact absurd rfl hq))
theorem g_8 : xgJ (mW m0 t u) m0 7 8 = some (mj t 8) := by unfold xgJ; rw [mW_obj]; rfl
theorem p_8 {x : Int64} : xput (mW m0 t u) m0 7 8 (xJ x) = some (mW m0 (sj t 8 x) u) := by
  unfold xput; rw [mW_obj, Option.bind_some, if_pos (show 8 < (mfs m0 t).length from (by decide : 8 < 34))]; exact congrArg some (mW_set (k := 0) (by decide) rfl (fun q hq => by unfold mce; split <;> first | rfl | exact absurd rfl hq))
theorem g_9 : xgD (mW m0 t u) m0 7 9 = some (md t 9) := by unfold xgD; rw [mW_obj]; rfl
theorem p_9 {x : UInt64} : xput (mW m0 t u) m0 7 9 (xD x) = some (mW m0 (sd t 9 x) u) := by
  unfold xput; rw [mW_obj, Option.bind_some, if_pos (show 9 < (mfs m0 t).length from (by decide : 9 < 34))]; exact congrArg some (mW_set (k := 0) (by decide) rfl (fun q hq => by unfold mce; split <;> first | rfl | exact absurd rfl hq))
theorem g_10 : xgJ (mW m0 t u) m0 7 10 = some (mj t 10) := by unfold xgJ; rw [mW_obj]; rfl
theorem p_10 {x : Int64} : xput (mW m0 t u) m0 7 10 (xJ x) = some (mW m0 (sj t 10 x) u) := by
  unfold xput; rw [mW_obj, Option.bind_some, if_pos (show 10 < (mfs m0 t).length from (by decide : 10 < 34))]; exact congrArg some (mW_set (k := 0) (by decide) rfl (fun q hq => by unfold mce; split <;> first | rfl | exact absurd rfl hq))
theorem g_11 : xgA (mW m0 t u) m0 7 11 = some (some (m0 + 7)) := by unfold xgA; rw [mW_obj]; rfl
theorem g_12 : xgA (mW m0 t u) m0 7 12 = some (some (m0 + 8)) := by unfold xgA; rw [mW_obj]; rfl
theorem g_13 : xgI (mW m0 t u) m0 7 13 = some (mi t 13) := by unfold xgI; rw [mW_obj]; rfl
theorem p_13 {x : Int32} : xput (mW m0 t u) m0 7 13 (xI x) = some (mW m0 (si t 13 x) u) := by
  unfold xput; rw [mW_obj, Option.bind_some, if_pos (show 13 < (mfs m0 t).length from (by decide : 13 < 34))]; exact congrArg some (mW_set (k := 0) (by decide) rfl (fun q hq => by unfold mce; split <;> first | rfl | exact absurd rfl hq))
theorem g_14 : xgA (mW m0 t u) m0 7 14 = some (some (m0 + 9)) := by unfold xgA; rw [mW_obj]; rfl
theorem g_15 : xgI (mW m0 t u) m0 7 15 = some (mi t 15) := by unfold xgI; rw [mW_obj]; rfl
theorem p_15 {x : Int32} : xput (mW m0 t u) m0 7 15 (xI x) = some (mW m0 (si t 15 x) u) := by
  unfold xput; rw [mW_obj, Option.bind_some, if_pos (show 15 < (mfs m0 t).length from (by decide : 15 < 34))]; exact congrArg some (mW_set (k := 0) (by decide) rfl (fun q hq => by unfold mce; split <;> first | rfl | exact absurd rfl hq))
theorem g_16 : xgA (mW m0 t u) m0 7 16 = some (some (m0 + 10)) := by unfold xgA; rw [mW_obj]; rfl
theorem g_17 : xgA (mW m0 t u) m0 7 17 = some (some (m0 + 11)) := by unfold xgA; rw [mW_obj]; rfl
theorem g_18 : xgI (mW m0 t u) m0 7 18 = some (mi t 18) := by unfold xgI; rw [mW_obj]; rfl
theorem p_18 {x : Int32} : xput (mW m0 t u) m0 7 18 (xI x) = some (mW m0 (si t 18 x) u) := by
  unfold xput; rw [mW_obj, Option.bind_some, if_pos (show 18 < (mfs m0 t).length from (by decide : 18 < 34))]; exact congrArg some (mW_set (k := 0) (by decide) rfl (fun q hq => by unfold mce; split <;> first | rfl | exact absurd rfl hq))
theorem g_19 : xgJ (mW m0 t u) m0 7 19 = some (mj t 19) := by unfold xgJ; rw [mW_obj]; rfl
theorem p_19 {x : Int64} : xput (mW m0 t u) m0 7 19 (xJ x) = some (mW m0 (sj t 19 x) u) := by
  unfold xput; rw [mW_obj, Option.bind_some, if_pos (show 19 < (mfs m0 t).length from (by decide : 19 < 34))]; exact congrArg some (mW_set (k := 0) (by decide) rfl (fun q hq => by unfold mce; split <;> first | rfl | exact absurd rfl hq))
theorem g_20 : xgD (mW m0 t u) m0 7 20 = some (md t 20) := by unfold xgD; rw [mW_obj]; rfl
theorem p_20 {x : UInt64} : xput (mW m0 t u) m0 7 20 (xD x) = some (mW m0 (sd t 20 x) u) := by
  unfold xput; rw [mW_obj, Option.bind_some, if_pos (show 20 < (mfs m0 t).length from (by decide : 20 < 34))]; exact congrArg some (mW_set (k := 0) (by decide) rfl (fun q hq => by unfold mce; split <;> first | rfl | exact absurd rfl hq))
theorem g_21 : xgJ (mW m0 t u) m0 7 21 = some (mj t 21) := by unfold xgJ; rw [mW_obj]; rfl
theorem p_21 {x : Int64} : xput (mW m0 t u) m0 7 21 (xJ x) = some (mW m0 (sj t 21 x) u) := by
  unfold xput; rw [mW_obj, Option.bind_some, if_pos (show 21 < (mfs m0 t).length from (by decide : 21 < 34))]; exact congrArg some (mW_set (k := 0) (by decide) rfl (fun q hq => by unfold mce; split <;> first | rfl | exact absurd rfl hq))
theorem g_22 : xgD (mW m0 t u) m0 7 22 = some (md t 22) := by unfold xgD; rw [mW_obj]; rfl
theorem p_22 {x : UInt64} : xput (mW m0 t u) m0 7 22 (xD x) = some (mW m0 (sd t 22 x) u) := by
  unfold xput; rw [mW_obj, Option.bind_some, if_pos (show 22 < (mfs m0 t).length from (by decide : 22 < 34))]; exact congrArg some (mW_set (k := 0) (by decide) rfl (fun q hq => by unfold mce; split <;> first | rfl | exact absurd rfl hq))
theorem g_23 : xgA (mW m0 t u) m0 7 23 = some (some (m0 + 12)) := by unfold xgA; rw [mW_obj]; rfl
theorem g_24 : xgA (mW m0 t u) m0 7 24 = some (some (m0 + 13)) := by unfold xgA; rw [mW_obj]; rfl
theorem g_25 : xgI (mW m0 t u) m0 7 25 = some (mi t 25) := by unfold xgI; rw [mW_obj]; rfl
theorem p_25 {x : Int32} : xput (mW m0 t u) m0 7 25 (xI x) = some (mW m0 (si t 25 x) u) := by
  unfold xput; rw [mW_obj, Option.bind_some, if_pos (show 25 < (mfs m0 t).length from (by decide : 25 < 34))]; exact congrArg some (mW_set (k := 0) (by decide) rfl (fun q hq => by unfold mce; split <;> first | rfl | exact absurd rfl hq))
theorem g_26 : xgA (mW m0 t u) m0 7 26 = some (some (m0 + 14)) := by unfold xgA; rw [mW_obj]; rfl
theorem g_27 : xgA (mW m0 t u) m0 7 27 = some (some (m0 + 15)) := by unfold xgA; rw [mW_obj]; rfl
theorem g_28 : xgA (mW m0 t u) m0 7 28 = some (some (m0 + 16)) := by unfold xgA; rw [mW_obj]; rfl
theorem g_29 : xgA (mW m0 t u) m0 7 29 = some (some (m0 + 17)) := by unfold xgA; rw [mW_obj]; rfl
theorem g_30 : xgA (mW m0 t u) m0 7 30 = some (some (m0 + 18)) := by unfold xgA; rw [mW_obj]; rfl
theorem g_31 : xgA (mW m0 t u) m0 7 31 = some (some (m0 + 19)) := by unfold xgA; rw [mW_obj]; rfl
theorem g_32 : xgA (mW m0 t u) m0 7 32 = some (some (m0 + 20)) := by unfold xgA; rw [mW_obj]; rfl
theorem g_33 : xgA (mW m0 t u) m0 7 33 = some (some (m0 + 21)) := by unfold xgA; rw [mW_obj]; rfl
theorem nI_rg {n N : Nat} (h : n < N) (hN : N < 1000) : ¬ nI n < 0 ∧ (nI n).toNatClampNeg = n := ⟨nI_pos (by omega), nI_clamp (by omega)⟩
theorem a_0 {n : Nat} (h : n < 16) : xaI (mW m0 t u) (m0 + 1) (nI n) = some (mI t 0 n) := by
  obtain ⟨h0, h1⟩ := nI_rg h (by decide)
  unfold xaI; rw [mW_at (by decide)]; show (if _ then _ else _) = _; rw [if_pos ⟨Or.inl rfl, h0, by rw [h1]; exact h⟩, h1]
theorem s_0 {n : Nat} {x : Int32} (h : n < 16) : xsI (mW m0 t u) (m0 + 1) (nI n) x = some (mW m0 (sI t 0 n (x)) u) := by
  obtain ⟨h0, h1⟩ := nI_rg h (by decide)
  unfold xsI; rw [mW_at (by decide)]; show (if _ then _ else _) = _; rw [if_pos ⟨rfl, h0, by rw [h1]; exact h⟩, h1]; refine congrArg some (mW_set (by decide) rfl (fun q hq => ?_))
  unfold mce; split <;> first | rfl | exact absurd rfl hq
theorem a_1 {n : Nat} (h : n < 16) : xaI (mW m0 t u) (m0 + 2) (nI n) = some (mI t 1 n) := by
  obtain ⟨h0, h1⟩ := nI_rg h (by decide)
  unfold xaI; rw [mW_at (by decide)]; show (if _ then _ else _) = _; rw [if_pos ⟨Or.inl rfl, h0, by rw [h1]; exact h⟩, h1]
theorem s_1 {n : Nat} {x : Int32} (h : n < 16) : xsI (mW m0 t u) (m0 + 2) (nI n) x = some (mW m0 (sI t 1 n (x)) u) := by
  obtain ⟨h0, h1⟩ := nI_rg h (by decide)
  unfold xsI; rw [mW_at (by decide)]; show (if _ then _ else _) = _; rw [if_pos ⟨rfl, h0, by rw [h1]; exact h⟩, h1]; refine congrArg some (mW_set (by decide) rfl (fun q hq => ?_))
  unfold mce; split <;> first | rfl | exact absurd rfl hq
theorem a_2 {n : Nat} (h : n < 384) : xaI (mW m0 t u) (m0 + 3) (nI n) = some (mI t 2 n) := by
  obtain ⟨h0, h1⟩ := nI_rg h (by decide)
  unfold xaI; rw [mW_at (by decide)]; show (if _ then _ else _) = _; rw [if_pos ⟨Or.inl rfl, h0, by rw [h1]; exact h⟩, h1]
theorem s_2 {n : Nat} {x : Int32} (h : n < 384) : xsI (mW m0 t u) (m0 + 3) (nI n) x = some (mW m0 (sI t 2 n (x)) u) := by
  obtain ⟨h0, h1⟩ := nI_rg h (by decide)
  unfold xsI; rw [mW_at (by decide)]; show (if _ then _ else _) = _; rw [if_pos ⟨rfl, h0, by rw [h1]; exact h⟩, h1]; refine congrArg some (mW_set (by decide) rfl (fun q hq => ?_))
  unfold mce; split <;> first | rfl | exact absurd rfl hq
theorem a_3 {n : Nat} (h : n < 384) : xaJ (mW m0 t u) (m0 + 4) (nI n) = some (mJ t 3 n) := by
  obtain ⟨h0, h1⟩ := nI_rg h (by decide)
  unfold xaJ; rw [mW_at (by decide)]; show (if _ then _ else _) = _; rw [if_pos ⟨rfl, h0, by rw [h1]; exact h⟩, h1]
theorem s_3 {n : Nat} {x : Int64} (h : n < 384) : xsJ (mW m0 t u) (m0 + 4) (nI n) x = some (mW m0 (sJ t 3 n (x)) u) := by
  obtain ⟨h0, h1⟩ := nI_rg h (by decide)
  unfold xsJ; rw [mW_at (by decide)]; show (if _ then _ else _) = _; rw [if_pos ⟨rfl, h0, by rw [h1]; exact h⟩, h1]; refine congrArg some (mW_set (by decide) rfl (fun q hq => ?_))
  unfold mce; split <;> first | rfl | exact absurd rfl hq
theorem a_4 {n : Nat} (h : n < 384) : xaD (mW m0 t u) (m0 + 5) (nI n) = some (mD t 4 n) := by
  obtain ⟨h0, h1⟩ := nI_rg h (by decide)
  unfold xaD; rw [mW_at (by decide)]; show (if _ then _ else _) = _; rw [if_pos ⟨rfl, h0, by rw [h1]; exact h⟩, h1]
theorem s_4 {n : Nat} {x : UInt64} (h : n < 384) : xsD (mW m0 t u) (m0 + 5) (nI n) x = some (mW m0 (sD t 4 n (x)) u) := by
  obtain ⟨h0, h1⟩ := nI_rg h (by decide)
  unfold xsD; rw [mW_at (by decide)]; show (if _ then _ else _) = _; rw [if_pos ⟨rfl, h0, by rw [h1]; exact h⟩, h1]; refine congrArg some (mW_set (by decide) rfl (fun q hq => ?_))
  unfold mce; split <;> first | rfl | exact absurd rfl hq
theorem a_5 {n : Nat} (h : n < 10) : xaI (mW m0 t u) (m0 + 6) (nI n) = some (mI t 5 n) := by
  obtain ⟨h0, h1⟩ := nI_rg h (by decide)
  unfold xaI; rw [mW_at (by decide)]; show (if _ then _ else _) = _; rw [if_pos ⟨Or.inl rfl, h0, by rw [h1]; exact h⟩, h1]
theorem s_5 {n : Nat} {x : Int32} (h : n < 10) : xsI (mW m0 t u) (m0 + 6) (nI n) x = some (mW m0 (sI t 5 n (x)) u) := by
  obtain ⟨h0, h1⟩ := nI_rg h (by decide)
  unfold xsI; rw [mW_at (by decide)]; show (if _ then _ else _) = _; rw [if_pos ⟨rfl, h0, by rw [h1]; exact h⟩, h1]; refine congrArg some (mW_set (by decide) rfl (fun q hq => ?_))
  unfold mce; split <;> first | rfl | exact absurd rfl hq
theorem a_11 {n : Nat} (h : n < 61) : xaI (mW m0 t u) (m0 + 7) (nI n) = some (mI t 11 n) := by
  obtain ⟨h0, h1⟩ := nI_rg h (by decide)
  unfold xaI; rw [mW_at (by decide)]; show (if _ then _ else _) = _; rw [if_pos ⟨Or.inl rfl, h0, by rw [h1]; exact h⟩, h1]
theorem s_11 {n : Nat} {x : Int32} (h : n < 61) : xsI (mW m0 t u) (m0 + 7) (nI n) x = some (mW m0 (sI t 11 n (x)) u) := by
  obtain ⟨h0, h1⟩ := nI_rg h (by decide)
  unfold xsI; rw [mW_at (by decide)]; show (if _ then _ else _) = _; rw [if_pos ⟨rfl, h0, by rw [h1]; exact h⟩, h1]; refine congrArg some (mW_set (by decide) rfl (fun q hq => ?_))
  unfold mce; split <;> first | rfl | exact absurd rfl hq
theorem a_12 {n : Nat} (h : n < 61) : xaZ (mW m0 t u) (m0 + 8) (nI n) = some (mI t 12 n) := by
  obtain ⟨h0, h1⟩ := nI_rg h (by decide)
  unfold xaZ; rw [mW_at (by decide)]; show (if _ then _ else _) = _; rw [if_pos ⟨rfl, h0, by rw [h1]; exact h⟩, h1]
theorem s_12 {n : Nat} {x : Int32} (h : n < 61) : xsZ (mW m0 t u) (m0 + 8) (nI n) x = some (mW m0 (sI t 12 n (vp_nar .boolean x)) u) := by
  obtain ⟨h0, h1⟩ := nI_rg h (by decide)
  unfold xsZ; rw [mW_at (by decide)]; show (if _ then _ else _) = _; rw [if_pos ⟨rfl, h0, by rw [h1]; exact h⟩, h1]; refine congrArg some (mW_set (by decide) rfl (fun q hq => ?_))
  unfold mce; split <;> first | rfl | exact absurd rfl hq
theorem a_14 {n : Nat} (h : n < 114) : xaI (mW m0 t u) (m0 + 9) (nI n) = some (mI t 14 n) := by
  obtain ⟨h0, h1⟩ := nI_rg h (by decide)
  unfold xaI; rw [mW_at (by decide)]; show (if _ then _ else _) = _; rw [if_pos ⟨Or.inl rfl, h0, by rw [h1]; exact h⟩, h1]
theorem s_14 {n : Nat} {x : Int32} (h : n < 114) : xsI (mW m0 t u) (m0 + 9) (nI n) x = some (mW m0 (sI t 14 n (x)) u) := by
  obtain ⟨h0, h1⟩ := nI_rg h (by decide)
  unfold xsI; rw [mW_at (by decide)]; show (if _ then _ else _) = _; rw [if_pos ⟨rfl, h0, by rw [h1]; exact h⟩, h1]; refine congrArg some (mW_set (by decide) rfl (fun q hq => ?_))
  unfold mce; split <;> first | rfl | exact absurd rfl hq
theorem a_16 {n : Nat} (h : n < 24) : xaI (mW m0 t u) (m0 + 10) (nI n) = some (mI t 16 n) := by
  obtain ⟨h0, h1⟩ := nI_rg h (by decide)
  unfold xaI; rw [mW_at (by decide)]; show (if _ then _ else _) = _; rw [if_pos ⟨Or.inl rfl, h0, by rw [h1]; exact h⟩, h1]
theorem s_16 {n : Nat} {x : Int32} (h : n < 24) : xsI (mW m0 t u) (m0 + 10) (nI n) x = some (mW m0 (sI t 16 n (x)) u) := by
  obtain ⟨h0, h1⟩ := nI_rg h (by decide)
  unfold xsI; rw [mW_at (by decide)]; show (if _ then _ else _) = _; rw [if_pos ⟨rfl, h0, by rw [h1]; exact h⟩, h1]; refine congrArg some (mW_set (by decide) rfl (fun q hq => ?_))
  unfold mce; split <;> first | rfl | exact absurd rfl hq
theorem a_17 {n : Nat} (h : n < 24) : xaI (mW m0 t u) (m0 + 11) (nI n) = some (mI t 17 n) := by
  obtain ⟨h0, h1⟩ := nI_rg h (by decide)
  unfold xaI; rw [mW_at (by decide)]; show (if _ then _ else _) = _; rw [if_pos ⟨Or.inl rfl, h0, by rw [h1]; exact h⟩, h1]
theorem s_17 {n : Nat} {x : Int32} (h : n < 24) : xsI (mW m0 t u) (m0 + 11) (nI n) x = some (mW m0 (sI t 17 n (x)) u) := by
  obtain ⟨h0, h1⟩ := nI_rg h (by decide)
  unfold xsI; rw [mW_at (by decide)]; show (if _ then _ else _) = _; rw [if_pos ⟨rfl, h0, by rw [h1]; exact h⟩, h1]; refine congrArg some (mW_set (by decide) rfl (fun q hq => ?_))
  unfold mce; split <;> first | rfl | exact absurd rfl hq
theorem a_23 {n : Nat} (h : n < 48) : xaJ (mW m0 t u) (m0 + 12) (nI n) = some (mJ t 23 n) := by
  obtain ⟨h0, h1⟩ := nI_rg h (by decide)
  unfold xaJ; rw [mW_at (by decide)]; show (if _ then _ else _) = _; rw [if_pos ⟨rfl, h0, by rw [h1]; exact h⟩, h1]
theorem s_23 {n : Nat} {x : Int64} (h : n < 48) : xsJ (mW m0 t u) (m0 + 12) (nI n) x = some (mW m0 (sJ t 23 n (x)) u) := by
  obtain ⟨h0, h1⟩ := nI_rg h (by decide)
  unfold xsJ; rw [mW_at (by decide)]; show (if _ then _ else _) = _; rw [if_pos ⟨rfl, h0, by rw [h1]; exact h⟩, h1]; refine congrArg some (mW_set (by decide) rfl (fun q hq => ?_))
  unfold mce; split <;> first | rfl | exact absurd rfl hq
theorem a_24 {n : Nat} (h : n < 48) : xaD (mW m0 t u) (m0 + 13) (nI n) = some (mD t 24 n) := by
  obtain ⟨h0, h1⟩ := nI_rg h (by decide)
  unfold xaD; rw [mW_at (by decide)]; show (if _ then _ else _) = _; rw [if_pos ⟨rfl, h0, by rw [h1]; exact h⟩, h1]
theorem s_24 {n : Nat} {x : UInt64} (h : n < 48) : xsD (mW m0 t u) (m0 + 13) (nI n) x = some (mW m0 (sD t 24 n (x)) u) := by
  obtain ⟨h0, h1⟩ := nI_rg h (by decide)
  unfold xsD; rw [mW_at (by decide)]; show (if _ then _ else _) = _; rw [if_pos ⟨rfl, h0, by rw [h1]; exact h⟩, h1]; refine congrArg some (mW_set (by decide) rfl (fun q hq => ?_))
  unfold mce; split <;> first | rfl | exact absurd rfl hq
theorem a_26 {n : Nat} (h : n < 2) : xaZ (mW m0 t u) (m0 + 14) (nI n) = some (mI t 26 n) := by
  obtain ⟨h0, h1⟩ := nI_rg h (by decide)
  unfold xaZ; rw [mW_at (by decide)]; show (if _ then _ else _) = _; rw [if_pos ⟨rfl, h0, by rw [h1]; exact h⟩, h1]
theorem s_26 {n : Nat} {x : Int32} (h : n < 2) : xsZ (mW m0 t u) (m0 + 14) (nI n) x = some (mW m0 (sI t 26 n (vp_nar .boolean x)) u) := by
  obtain ⟨h0, h1⟩ := nI_rg h (by decide)
  unfold xsZ; rw [mW_at (by decide)]; show (if _ then _ else _) = _; rw [if_pos ⟨rfl, h0, by rw [h1]; exact h⟩, h1]; refine congrArg some (mW_set (by decide) rfl (fun q hq => ?_))
  unfold mce; split <;> first | rfl | exact absurd rfl hq
theorem a_27 {n : Nat} (h : n < 20) : xaI (mW m0 t u) (m0 + 15) (nI n) = some (mI t 27 n) := by
  obtain ⟨h0, h1⟩ := nI_rg h (by decide)
  unfold xaI; rw [mW_at (by decide)]; show (if _ then _ else _) = _; rw [if_pos ⟨Or.inl rfl, h0, by rw [h1]; exact h⟩, h1]
theorem s_27 {n : Nat} {x : Int32} (h : n < 20) : xsI (mW m0 t u) (m0 + 15) (nI n) x = some (mW m0 (sI t 27 n (x)) u) := by
  obtain ⟨h0, h1⟩ := nI_rg h (by decide)
  unfold xsI; rw [mW_at (by decide)]; show (if _ then _ else _) = _; rw [if_pos ⟨rfl, h0, by rw [h1]; exact h⟩, h1]; refine congrArg some (mW_set (by decide) rfl (fun q hq => ?_))
  unfold mce; split <;> first | rfl | exact absurd rfl hq
theorem a_28 {n : Nat} (h : n < 20) : xaI (mW m0 t u) (m0 + 16) (nI n) = some (mI t 28 n) := by
  obtain ⟨h0, h1⟩ := nI_rg h (by decide)
  unfold xaI; rw [mW_at (by decide)]; show (if _ then _ else _) = _; rw [if_pos ⟨Or.inl rfl, h0, by rw [h1]; exact h⟩, h1]
theorem s_28 {n : Nat} {x : Int32} (h : n < 20) : xsI (mW m0 t u) (m0 + 16) (nI n) x = some (mW m0 (sI t 28 n (x)) u) := by
  obtain ⟨h0, h1⟩ := nI_rg h (by decide)
  unfold xsI; rw [mW_at (by decide)]; show (if _ then _ else _) = _; rw [if_pos ⟨rfl, h0, by rw [h1]; exact h⟩, h1]; refine congrArg some (mW_set (by decide) rfl (fun q hq => ?_))
  unfold mce; split <;> first | rfl | exact absurd rfl hq
theorem a_29 {n : Nat} (h : n < 20) : xaI (mW m0 t u) (m0 + 17) (nI n) = some (mI t 29 n) := by
  obtain ⟨h0, h1⟩ := nI_rg h (by decide)
  unfold xaI; rw [mW_at (by decide)]; show (if _ then _ else _) = _; rw [if_pos ⟨Or.inl rfl, h0, by rw [h1]; exact h⟩, h1]
theorem s_29 {n : Nat} {x : Int32} (h : n < 20) : xsI (mW m0 t u) (m0 + 17) (nI n) x = some (mW m0 (sI t 29 n (x)) u) := by
  obtain ⟨h0, h1⟩ := nI_rg h (by decide)
  unfold xsI; rw [mW_at (by decide)]; show (if _ then _ else _) = _; rw [if_pos ⟨rfl, h0, by rw [h1]; exact h⟩, h1]; refine congrArg some (mW_set (by decide) rfl (fun q hq => ?_))
  unfold mce; split <;> first | rfl | exact absurd rfl hq
theorem a_30 {n : Nat} (h : n < 20) : xaI (mW m0 t u) (m0 + 18) (nI n) = some (mI t 30 n) := by
  obtain ⟨h0, h1⟩ := nI_rg h (by decide)
  unfold xaI; rw [mW_at (by decide)]; show (if _ then _ else _) = _; rw [if_pos ⟨Or.inl rfl, h0, by rw [h1]; exact h⟩, h1]
theorem s_30 {n : Nat} {x : Int32} (h : n < 20) : xsI (mW m0 t u) (m0 + 18) (nI n) x = some (mW m0 (sI t 30 n (x)) u) := by
  obtain ⟨h0, h1⟩ := nI_rg h (by decide)
  unfold xsI; rw [mW_at (by decide)]; show (if _ then _ else _) = _; rw [if_pos ⟨rfl, h0, by rw [h1]; exact h⟩, h1]; refine congrArg some (mW_set (by decide) rfl (fun q hq => ?_))
  unfold mce; split <;> first | rfl | exact absurd rfl hq
theorem a_31 {n : Nat} (h : n < 480) : xaI (mW m0 t u) (m0 + 19) (nI n) = some (mI t 31 n) := by
  obtain ⟨h0, h1⟩ := nI_rg h (by decide)
  unfold xaI; rw [mW_at (by decide)]; show (if _ then _ else _) = _; rw [if_pos ⟨Or.inl rfl, h0, by rw [h1]; exact h⟩, h1]
theorem s_31 {n : Nat} {x : Int32} (h : n < 480) : xsI (mW m0 t u) (m0 + 19) (nI n) x = some (mW m0 (sI t 31 n (x)) u) := by
  obtain ⟨h0, h1⟩ := nI_rg h (by decide)
  unfold xsI; rw [mW_at (by decide)]; show (if _ then _ else _) = _; rw [if_pos ⟨rfl, h0, by rw [h1]; exact h⟩, h1]; refine congrArg some (mW_set (by decide) rfl (fun q hq => ?_))
  unfold mce; split <;> first | rfl | exact absurd rfl hq
theorem a_32 {n : Nat} (h : n < 480) : xaJ (mW m0 t u) (m0 + 20) (nI n) = some (mJ t 32 n) := by
  obtain ⟨h0, h1⟩ := nI_rg h (by decide)
  unfold xaJ; rw [mW_at (by decide)]; show (if _ then _ else _) = _; rw [if_pos ⟨rfl, h0, by rw [h1]; exact h⟩, h1]
theorem s_32 {n : Nat} {x : Int64} (h : n < 480) : xsJ (mW m0 t u) (m0 + 20) (nI n) x = some (mW m0 (sJ t 32 n (x)) u) := by
  obtain ⟨h0, h1⟩ := nI_rg h (by decide)
  unfold xsJ; rw [mW_at (by decide)]; show (if _ then _ else _) = _; rw [if_pos ⟨rfl, h0, by rw [h1]; exact h⟩, h1]; refine congrArg some (mW_set (by decide) rfl (fun q hq => ?_))
  unfold mce; split <;> first | rfl | exact absurd rfl hq
theorem a_33 {n : Nat} (h : n < 480) : xaD (mW m0 t u) (m0 + 21) (nI n) = some (mD t 33 n) := by
  obtain ⟨h0, h1⟩ := nI_rg h (by decide)
  unfold xaD; rw [mW_at (by decide)]; show (if _ then _ else _) = _; rw [if_pos ⟨rfl, h0, by rw [h1]; exact h⟩, h1]
theorem s_33 {n : Nat} {x : UInt64} (h : n < 480) : xsD (mW m0 t u) (m0 + 21) (nI n) x = some (mW m0 (sD t 33 n (x)) u) := by
  obtain ⟨h0, h1⟩ := nI_rg h (by decide)
  unfold xsD; rw [mW_at (by decide)]; show (if _ then _ else _) = _; rw [if_pos ⟨rfl, h0, by rw [h1]; exact h⟩, h1]; refine congrArg some (mW_set (by decide) rfl (fun q hq => ?_))
  unfold mce; split <;> first | rfl | exact absurd rfl hq
end MOD
