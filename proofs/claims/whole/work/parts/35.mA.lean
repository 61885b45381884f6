/-! the reference's calls, first half -/
section MA
variable {m0 : Nat} {t : mS} {u : xW} {S : sS}
theorem c_colt {c : Int32} (h : inB c 10) (w : xW) : xev 89 0 [some (xI (c))] [] w = some (some (xI 1), w) := c_col_t ((inB_iff (by decide)).mp h) w
theorem c_colf {c : Int32} (h : ¬ inB c 10) (w : xW) : xev 89 0 [some (xI (c))] [] w = some (some (xI 0), w) := c_col_f (fun q => h ((inB_iff (by decide)).mpr q)) w
theorem c_rt {x : Int32} {n : Nat} {hi : Int64} (h : inB x n) (hn : n < 2 ^ 31) (hh : hi = (nI n - 1).toInt64) (w : xW) : xev 88 0 [some (xJ (x.toInt64)), none, some (xJ (0)), none, some (xJ (hi)), none] [] w = some (some (xI 1), w) := (c_in32 x n _ hn hh w).1 ((inB_iff hn).mp h)
theorem c_rf {x : Int32} {n : Nat} {hi : Int64} (h : ¬ inB x n) (hn : n < 2 ^ 31) (hh : hi = (nI n - 1).toInt64) (w : xW) : xev 88 0 [some (xJ (x.toInt64)), none, some (xJ (0)), none, some (xJ (hi)), none] [] w = some (some (xI 0), w) := (c_in32 x n _ hn hh w).2 (fun q => h ((inB_iff hn).mpr q))
theorem i10 : ¬ (1 : Int32) = 0 := by decide
/-- a count is added -/
theorem Rm_cnt {a b : Nat} (hR : Rm S t) (hb : 6 * a + b < 114) : Rm (uT S (6 * a + b)) (sI t 14 (6 * a + b) (mI t 14 (6 * a + b) + 1)) := by
  obtain ⟨h1, h2, h3, h4, h5, h6, h7⟩ := hR
  refine ⟨h1, h2, h3, h4, ⟨fun i hi => ?_, h5.2⟩, h6, h7⟩
  rw [mI_sI_e]
  show _ = va_up (qT S) (6 * a + b) (qT S (6 * a + b) + 1) i
  unfold va_up
  split
  · rw [h5.1 _ hb]
  · exact h5.1 i hi
theorem m_cnt {a b : Nat} (hR : Rm S t) (ha : a < 19) (hb : b < 6) : ∃ t', xev 106 0 [some (xA (some (m0))), some (xI (nI a)), some (xI (nI b))] [] (mW m0 t u) = some (some (xI (nI b)), mW m0 t' u) ∧ Rm (uT S (6 * a + b)) t' ∧ mj t' = mj t ∧ md t' = md t :=
  ⟨_, c_counted ha hb, Rm_cnt hR (by omega), rfl, rfl⟩
theorem m_glass (hR : Rm S t) : xev 110 0 [some (xA (some (m0)))] [] (mW m0 t u) = some (some (xJ (cde (qS S))), mW m0 t u) := by
  rw [e_X8_glass_0, b_X8_glass_0]
  simp only [g_0, g_1, g_2, g_3, g_4, g_5, g_6, g_7, g_8, g_9, g_10, g_11, g_12, g_13, g_14, g_15, g_16, g_17, g_18, g_19, g_20, g_21, g_22, g_23, g_24, g_25, g_26, g_27, g_28, g_29, g_30, g_31, g_32, g_33, Option.bind_some, mW_obj, xrI_e, xrJ_e, xrD_e, xrA_e, xrV_e]
  rw [show mj t 10 = cde (qS S) from hR.2.2.1]
theorem rdA_lt (S : sS) (c : Nat) (cell : Int32) (k : Nat) : (rdA S c cell k).1 < 6 := by
  unfold rdA
  split
  · show (if _ then 1 else 2) < 6
    split <;> decide
  · split
    · exact (by decide : 0 < 6)
    · split
      · exact (by decide : 3 < 6)
      · split
        · split
          · exact (by decide : 0 < 6)
          · exact (by decide : 5 < 6)
        · exact (by decide : 4 < 6)
theorem wrA_lt (S : sS) (c : Nat) (cell : Int32) (v : mC) : (wrA S c cell v).1 < 6 := by
  unfold wrA
  split
  · show (if _ then 1 else 2) < 6
    split <;> decide
  · split
    · exact (by decide : 0 < 6)
    · split
      · exact (by decide : 3 < 6)
      · split
        · split
          · exact (by decide : 0 < 6)
          · exact (by decide : 5 < 6)
        · exact (by decide : 4 < 6)
theorem tkA_lt (S : sS) (c : Nat) (cell : Int32) : (tkA S c cell).1 < 6 := by
  unfold tkA
  split
  · show (if _ then 1 else 2) < 6
    split <;> decide
  · split
    · exact (by decide : 0 < 6)
    · split
      · exact (by decide : 0 < 6)
      · exact (by decide : 4 < 6)
theorem lyA_lt (S : sS) (c : Nat) (cell : Int32) : (lyA S c cell).1 < 6 := by
  unfold lyA
  split
  · show (if _ then 1 else 2) < 6
    split <;> decide
  · split
    · exact (by decide : 0 < 6)
    · split
      · split
        · exact (by decide : 0 < 6)
        · exact (by decide : 5 < 6)
      · exact (by decide : 4 < 6)
/-- read and count -/
theorem m_rdS {c k : Nat} {cell : Int32} (hR : Rm S t) (hw : wf S) (hc : c < 10) (hk : k < 8) : ∃ t1 t', xev 108 0 [some (xA (some (m0))), some (xI (nI c)), some (xI (cell)), some (xI (nI k)), none, none] [] (mW m0 t u) = some (some (xI (nI (rdA S c cell k).1)), mW m0 t1 u) ∧ xev 106 0 [some (xA (some (m0))), some (xI (nI k)), some (xI (nI (rdA S c cell k).1))] [] (mW m0 t1 u) = some (some (xI (nI (rdA S c cell k).1)), mW m0 t' u) ∧ Rm (cnt k (rdA S c cell k)).2 t' ∧ ((rdA S c cell k).1 = 0 → mj t' 21 = (qS (rdA S c cell k).2).2.1 ∧ md t' 22 = (qS (rdA S c cell k).2).2.2) := by
  obtain ⟨t1, h1, h2, h3, _⟩ := m_read0 (m0 := m0) (u := u) (cell := cell) hR hw hc hk
  obtain ⟨t', k1, k2, k3, k4⟩ := m_cnt (m0 := m0) (u := u) (a := k) h2 (by omega) (rdA_lt S c cell k)
  exact ⟨t1, t', h1, k1, k2, fun h => by rw [k3, k4]; exact h3 h⟩
theorem m_rdA2 {c k : Nat} {cell : Int32} (hR : Rm S t) (hw : wf S) (hc : c < 10) (hk : k < 8) : ∃ t1 t', xev 108 0 [some (xA (some (m0))), some (xI (nI c)), some (xI (cell)), some (xI (nI k)), none, none] [] (mW m0 t u) = some (some (xI (nI (rdA S c cell k).1)), mW m0 t1 u) ∧ xev 106 0 [some (xA (some (m0))), some (xI (nI k)), some (xI (nI (rdA S c cell k).1))] [] (mW m0 t1 u) = some (some (xI (nI (rdA S c cell k).1)), mW m0 t' u) ∧ Rm (cnt k (rdA S c cell k)).2 t' ∧ ((rdA S c cell k).1 = 0 → mj t' 21 = (qS (rdA S c cell k).2).2.1 ∧ md t' 22 = (qS (rdA S c cell k).2).2.2) ∧ (mi t' 25 = mi t 25 ∧ mJ t' = mJ t ∧ mD t' = mD t) := by
  obtain ⟨t1, h1, h2, h3, h4, h5, h6⟩ := m_read0 (m0 := m0) (u := u) (cell := cell) hR hw hc hk
  refine ⟨t1, _, h1, c_counted (by omega) (rdA_lt S c cell k), Rm_cnt h2 (by have := rdA_lt S c cell k; omega), h3, congrFun h4 25, h5, h6⟩
theorem m_read {c cell k : Int32} (hR : Rm S t) (hw : wf S) : ∃ t', xev 109 0 [some (xA (some (m0))), some (xI (c)), some (xI (cell)), some (xI (k))] [] (mW m0 t u) = some (some (xI (spRead S c cell k).1), mW m0 t' u) ∧ Rm (spRead S c cell k).2 t' := by
  unfold spRead
  rw [e_X8_read_0, b_X8_read_0]
  by_cases hc : inB c 10
  · rw [c_colt hc, if_neg (fun q => q hc)]
    by_cases hk : inB k 8
    · simp only [g_0, g_1, g_2, g_3, g_4, g_5, g_6, g_7, g_8, g_9, g_10, g_11, g_12, g_13, g_14, g_15, g_16, g_17, g_18, g_19, g_20, g_21, g_22, g_23, g_24, g_25, g_26, g_27, g_28, g_29, g_30, g_31, g_32, g_33, Option.bind_some, mW_obj, xrI_e, xrJ_e, xrD_e, xrA_e, xrV_e, if_neg i10, c_rt hk (by decide) (show (7 : Int64) = (nI 8 - 1).toInt64 by decide), if_neg (fun q => q hk : ¬ ¬ inB k 8)]
      obtain ⟨t1, t', h1, h2, h3, _⟩ := m_rdS (m0 := m0) (u := u) (cell := cell) hR hw hc.2 hk.2
      rw [← inB_nI hc, ← inB_nI hk] at h1
      rw [← inB_nI hk] at h2
      rw [h1]
      simp only [g_0, g_1, g_2, g_3, g_4, g_5, g_6, g_7, g_8, g_9, g_10, g_11, g_12, g_13, g_14, g_15, g_16, g_17, g_18, g_19, g_20, g_21, g_22, g_23, g_24, g_25, g_26, g_27, g_28, g_29, g_30, g_31, g_32, g_33, Option.bind_some, mW_obj, xrI_e, xrJ_e, xrD_e, xrA_e, xrV_e]
      rw [h2]
      exact ⟨t', rfl, h3⟩
    · simp only [g_0, g_1, g_2, g_3, g_4, g_5, g_6, g_7, g_8, g_9, g_10, g_11, g_12, g_13, g_14, g_15, g_16, g_17, g_18, g_19, g_20, g_21, g_22, g_23, g_24, g_25, g_26, g_27, g_28, g_29, g_30, g_31, g_32, g_33, Option.bind_some, mW_obj, xrI_e, xrJ_e, xrD_e, xrA_e, xrV_e, if_neg i10, c_rf hk (by decide) (show (7 : Int64) = (nI 8 - 1).toInt64 by decide), if_pos hk]
      exact ⟨t, rfl, hR⟩
  · rw [c_colf hc, if_pos hc]
    exact ⟨t, rfl, hR⟩
end MA
