/-! the reference's hand, and rows that are made of rows -/
section ME
variable {m0 : Nat} {t : mS} {u : xW} {S : sS}
theorem nI_sub {a b : Nat} (h : b ≤ a) : nI a - nI b = nI (a - b) := by
  have := nI_add (a - b) b
  rw [Nat.sub_add_cancel h] at this
  rw [← this, Int32.add_sub_cancel]
theorem m_hand {what : Int32} {v : Int64} (hR : Rm S t) (hw : wf S) : ∃ t', xev 120 0 [some (xA (some (m0))), some (xI (what)), some (xJ (v)), none] [] (mW m0 t u) = some (some (xI (spHand S what v).1), mW m0 t' u) ∧ Rm (spHand S what v).2 t' := by
  unfold spHand
  rw [e_X8_hand_0, b_X8_hand_0]
  have h13 : mi t 13 = nI (qN S) := hR.2.2.2.1.2
  have hN60 := hw.2.2.2.2.2.1
  have e60 : (nI (qN S) = 60) ↔ qN S = 60 := nI_eq (b := 60) (by omega) (by decide)
  by_cases h12 : inB what 12
  · rw [c_rt h12 (by decide) (show (11 : Int64) = (nI 12 - 1).toInt64 by decide)]
    simp only [g_0, g_1, g_2, g_3, g_4, g_5, g_6, g_7, g_8, g_9, g_10, g_11, g_12, g_13, g_14, g_15, g_16, g_17, g_18, g_19, g_20, g_21, g_22, g_23, g_24, g_25, g_26, g_27, g_28, g_29, g_30, g_31, g_32, g_33, Option.bind_some, mW_obj, xrI_e, xrJ_e, xrD_e, xrA_e, xrV_e, if_neg i10, h13]
    have hl := h12.2
    by_cases h8 : what.toNatClampNeg < 8
    · have f8 : what < 8 := (nI_big h12 8 (by decide) (by decide)).mpr h8
      have n8 : ¬ what = 8 := fun h => by have := (nI_e h12 8 (by decide) (by decide)).mp h; omega
      have n9 : ¬ what = 9 := fun h => by have := (nI_e h12 9 (by decide) (by decide)).mp h; omega
      have n10 : ¬ what = 10 := fun h => by have := (nI_e h12 10 (by decide) (by decide)).mp h; omega
      rw [if_neg (show ¬ (¬ inB what 12 ∨ _) from fun h => h.elim (fun h => h h12) (fun h => n10 h.1)), if_neg (show ¬ ((what = 8 ∨ what = 9) ∧ _) from fun h => h.1.elim n8 n9), if_pos (show inB what 8 from ⟨h12.1, h8⟩)]
      simp only [if_neg n10, if_neg n8, if_neg n9, if_pos f8, p_6, p_7, p_8, p_9, p_10, p_13, p_15, p_18, p_19, p_20, p_21, p_22, p_25, g_0, g_1, g_2, g_3, g_4, g_5, g_6, g_7, g_8, g_9, g_10, g_11, g_12, g_13, g_14, g_15, g_16, g_17, g_18, g_19, g_20, g_21, g_22, g_23, g_24, g_25, g_26, g_27, g_28, g_29, g_30, g_31, g_32, g_33, Option.bind_some, mW_obj, xrI_e, xrJ_e, xrD_e, xrA_e, xrV_e]
      obtain ⟨t1, h1, h2, h3, h4, h5⟩ := m_make (m0 := m0) (t := sd (sj (si t 7 what) 8 0) 9 0) (u := u) h8 v
      rw [← inB_nI h12] at h1
      rw [h1]
      simp only [p_6, p_7, p_8, p_9, p_10, p_13, p_15, p_18, p_19, p_20, p_21, p_22, p_25, g_0, g_1, g_2, g_3, g_4, g_5, g_6, g_7, g_8, g_9, g_10, g_11, g_12, g_13, g_14, g_15, g_16, g_17, g_18, g_19, g_20, g_21, g_22, g_23, g_24, g_25, g_26, g_27, g_28, g_29, g_30, g_31, g_32, g_33, Option.bind_some, mW_obj, xrI_e, xrJ_e, xrD_e, xrA_e, xrV_e, mj_si, md_si, mI_si, mJ_si, mD_si, mi_sj, md_sj, mI_sj, mJ_sj, mD_sj, mi_sd, mj_sd, mI_sd, mJ_sd, mD_sd, mi_sI, mj_sI, md_sI, mJ_sI, mD_sI, mi_sJ, mj_sJ, md_sJ, mI_sJ, mD_sJ, mi_sD, mj_sD, md_sD, mI_sD, mJ_sD, mi_si_e, mj_sj_e, md_sd_e, h2, h3]
      have hR' : Rm (uH S (what, 0, 0)) (sd (sj (si t 7 what) 8 0) 9 0) := ⟨hR.1, ⟨rfl, rfl, rfl⟩, hR.2.2⟩
      have hR1 := h4 _ hR'
      refine ⟨_, rfl, hR1.1, ⟨?_, rfl, rfl⟩, hR1.2.2⟩
      show mi t1 7 = nI what.toNatClampNeg
      rw [h5, ← inB_nI h12]
      rfl
    · have hs : what = 8 ∨ what = 9 ∨ what = 10 ∨ what = 11 := by
        have a1 := nI_e h12 8 (by decide) (by decide)
        have a2 := nI_e h12 9 (by decide) (by decide)
        have a3 := nI_e h12 10 (by decide) (by decide)
        have a4 := nI_e h12 11 (by decide) (by decide)
        have : what.toNatClampNeg = 8 ∨ what.toNatClampNeg = 9 ∨ what.toNatClampNeg = 10 ∨ what.toNatClampNeg = 11 := by omega
        rcases this with h | h | h | h
        · exact Or.inl (a1.mpr h)
        · exact Or.inr (Or.inl (a2.mpr h))
        · exact Or.inr (Or.inr (Or.inl (a3.mpr h)))
        · exact Or.inr (Or.inr (Or.inr (a4.mpr h)))
      have n8 : ¬ inB what 8 := fun h => h8 h.2
      rcases hs with rfl | rfl | rfl | rfl
      · rw [if_neg (show ¬ (¬ inB 8 12 ∨ _) from fun h => h.elim (fun h => h h12) (fun h => absurd h.1 (by decide)))]
        simp (config := { decide := true }) only [p_6, p_7, p_8, p_9, p_10, p_13, p_15, p_18, p_19, p_20, p_21, p_22, p_25, g_0, g_1, g_2, g_3, g_4, g_5, g_6, g_7, g_8, g_9, g_10, g_11, g_12, g_13, g_14, g_15, g_16, g_17, g_18, g_19, g_20, g_21, g_22, g_23, g_24, g_25, g_26, g_27, g_28, g_29, g_30, g_31, g_32, g_33, Option.bind_some, mW_obj, xrI_e, xrJ_e, xrD_e, xrA_e, xrV_e, ↓reduceIte, n8, true_and, true_or]
        by_cases h60 : qN S = 60
        · rw [if_pos (e60.mpr h60), if_pos h60]
          exact ⟨t, rfl, hR⟩
        · rw [if_neg (fun h => h60 (e60.mp h)), if_neg h60]
          have hR' : Rm (uH S (8, 0, 0)) (sd (sj (si t 7 8) 8 0) 9 0) := ⟨hR.1, ⟨rfl, rfl, rfl⟩, hR.2.2⟩
          obtain ⟨t1, k1, k2, k3, k4, k5⟩ := m_stone (m0 := m0) (u := u) (w := v.toInt32) (g := 0) hR' (show qN S < 60 by omega)
          rw [k1]
          simp only [p_6, p_7, p_8, p_9, p_10, p_13, p_15, p_18, p_19, p_20, p_21, p_22, p_25, g_0, g_1, g_2, g_3, g_4, g_5, g_6, g_7, g_8, g_9, g_10, g_11, g_12, g_13, g_14, g_15, g_16, g_17, g_18, g_19, g_20, g_21, g_22, g_23, g_24, g_25, g_26, g_27, g_28, g_29, g_30, g_31, g_32, g_33, Option.bind_some, mW_obj, xrI_e, xrJ_e, xrD_e, xrA_e, xrV_e]
          refine ⟨_, rfl, k2.1, ⟨k3, ?_, ?_⟩, k2.2.2⟩
          · show (nI (qN S + 1)).toInt64 = lN (qN S + 1)
            exact nI_l (by omega)
          · show md t1 9 = 0
            rw [k5]; rfl
      · rw [if_neg (show ¬ (¬ inB 9 12 ∨ _) from fun h => h.elim (fun h => h h12) (fun h => absurd h.1 (by decide)))]
        simp (config := { decide := true }) only [p_6, p_7, p_8, p_9, p_10, p_13, p_15, p_18, p_19, p_20, p_21, p_22, p_25, g_0, g_1, g_2, g_3, g_4, g_5, g_6, g_7, g_8, g_9, g_10, g_11, g_12, g_13, g_14, g_15, g_16, g_17, g_18, g_19, g_20, g_21, g_22, g_23, g_24, g_25, g_26, g_27, g_28, g_29, g_30, g_31, g_32, g_33, Option.bind_some, mW_obj, xrI_e, xrJ_e, xrD_e, xrA_e, xrV_e, ↓reduceIte, n8, true_and, or_true]
        by_cases h60 : qN S = 60
        · rw [if_pos (e60.mpr h60), if_pos h60]
          exact ⟨t, rfl, hR⟩
        · rw [if_neg (fun h => h60 (e60.mp h)), if_neg h60]
          have hR' : Rm (uH S (9, 0, 0)) (sd (sj (si t 7 9) 8 0) 9 0) := ⟨hR.1, ⟨rfl, rfl, rfl⟩, hR.2.2⟩
          obtain ⟨t1, k1, k2, k3, k4, k5⟩ := m_stone (m0 := m0) (u := u) (w := v.toInt32) (g := 1) hR' (show qN S < 60 by omega)
          rw [k1]
          simp only [p_6, p_7, p_8, p_9, p_10, p_13, p_15, p_18, p_19, p_20, p_21, p_22, p_25, g_0, g_1, g_2, g_3, g_4, g_5, g_6, g_7, g_8, g_9, g_10, g_11, g_12, g_13, g_14, g_15, g_16, g_17, g_18, g_19, g_20, g_21, g_22, g_23, g_24, g_25, g_26, g_27, g_28, g_29, g_30, g_31, g_32, g_33, Option.bind_some, mW_obj, xrI_e, xrJ_e, xrD_e, xrA_e, xrV_e]
          refine ⟨_, rfl, k2.1, ⟨k3, ?_, ?_⟩, k2.2.2⟩
          · show (nI (qN S + 1)).toInt64 = lN (qN S + 1)
            exact nI_l (by omega)
          · show md t1 9 = 0
            rw [k5]; rfl
      · simp (config := { decide := true }) only [p_6, p_7, p_8, p_9, p_10, p_13, p_15, p_18, p_19, p_20, p_21, p_22, p_25, g_0, g_1, g_2, g_3, g_4, g_5, g_6, g_7, g_8, g_9, g_10, g_11, g_12, g_13, g_14, g_15, g_16, g_17, g_18, g_19, g_20, g_21, g_22, g_23, g_24, g_25, g_26, g_27, g_28, g_29, g_30, g_31, g_32, g_33, Option.bind_some, mW_obj, xrI_e, xrJ_e, xrD_e, xrA_e, xrV_e, ↓reduceIte, n8, c_in, true_and, false_and, not_true_eq_false, false_or, h12, or_false, or_self]
        by_cases hv : v < 0 ∨ 99 < v
        · simp only [if_pos hv, xrI_e, ↓reduceIte]
          exact ⟨t, rfl, hR⟩
        · simp only [if_neg hv, xrI_e, if_neg i10]
          exact ⟨_, rfl, hR.1, ⟨rfl, rfl, rfl⟩, hR.2.2⟩
      · rw [if_neg (show ¬ (¬ inB 11 12 ∨ _) from fun h => h.elim (fun h => h h12) (fun h => absurd h.1 (by decide)))]
        simp (config := { decide := true }) only [p_6, p_7, p_8, p_9, p_10, p_13, p_15, p_18, p_19, p_20, p_21, p_22, p_25, g_0, g_1, g_2, g_3, g_4, g_5, g_6, g_7, g_8, g_9, g_10, g_11, g_12, g_13, g_14, g_15, g_16, g_17, g_18, g_19, g_20, g_21, g_22, g_23, g_24, g_25, g_26, g_27, g_28, g_29, g_30, g_31, g_32, g_33, Option.bind_some, mW_obj, xrI_e, xrJ_e, xrD_e, xrA_e, xrV_e, ↓reduceIte, n8, false_and, or_self]
        exact ⟨_, rfl, hR.1, ⟨rfl, rfl, rfl⟩, hR.2.2⟩
  · rw [c_rf h12 (by decide) (show (11 : Int64) = (nI 12 - 1).toInt64 by decide), if_pos (Or.inl h12)]
    exact ⟨t, rfl, hR⟩
theorem c_hasStone : xev 121 0 [some (xA (some (m0)))] [] (mW m0 t u) = some (some (xI (if mi t 7 = 8 ∨ mi t 7 = 9 then 1 else 0)), mW m0 t u) := by
  rw [e_X8_hasStone_0, b_X8_hasStone_0]
  simp only [g_0, g_1, g_2, g_3, g_4, g_5, g_6, g_7, g_8, g_9, g_10, g_11, g_12, g_13, g_14, g_15, g_16, g_17, g_18, g_19, g_20, g_21, g_22, g_23, g_24, g_25, g_26, g_27, g_28, g_29, g_30, g_31, g_32, g_33, Option.bind_some, mW_obj, xrI_e, xrJ_e, xrD_e, xrA_e, xrV_e]
  by_cases h8 : mi t 7 = 8
  · rw [if_pos h8, if_pos (Or.inl h8)]
  · rw [if_neg h8]
    by_cases h9 : mi t 7 = 9
    · rw [if_pos h9, if_pos (Or.inr h9)]
    · rw [if_neg h9, if_neg (fun h => h.elim h8 h9)]
theorem tok_stone {N : Nat} {v : mC} (h : tok N v) (hs : v.1 = 8 ∨ v.1 = 9) : ∃ j, 0 < j ∧ j ≤ N ∧ v.2.1 = lN j := by
  obtain ⟨k, h1, h2, h3⟩ := h
  have hk : k = 8 ∨ k = 9 := by
    rcases hs with e | e
    · left; exact (nI_eq (by omega) (by decide)).mp (h2.symm.trans e)
    · right; exact (nI_eq (by omega) (by decide)).mp (h2.symm.trans e)
  rcases h3 with ⟨h6, _⟩ | ⟨h6, _⟩ | ⟨_, _, h0⟩ | ⟨h6, _⟩ | ⟨h6, _⟩
  · omega
  · omega
  · exact h0
  · omega
  · omega
theorem m_inHand {what : Int32} (hR : Rm S t) (hw : wf S) : xev 122 0 [some (xA (some (m0))), some (xI (what))] [] (mW m0 t u) = some (some (xJ (spInH S what)), mW m0 t u) := by
  unfold spInH
  rw [e_X8_inHand_0, b_X8_inHand_0]
  obtain ⟨f1, f2, f3⟩ := hR.2.1
  have ht := hw.2.2.1
  simp only [g_0, g_1, g_2, g_3, g_4, g_5, g_6, g_7, g_8, g_9, g_10, g_11, g_12, g_13, g_14, g_15, g_16, g_17, g_18, g_19, g_20, g_21, g_22, g_23, g_24, g_25, g_26, g_27, g_28, g_29, g_30, g_31, g_32, g_33, Option.bind_some, mW_obj, xrI_e, xrJ_e, xrD_e, xrA_e, xrV_e, show Int32.ofInt 0 = 0 from rfl, show Int32.ofInt 1 = 1 from rfl, show Int32.ofInt 2 = 2 from rfl, c_hasStone, f1, f2, f3]
  by_cases h0 : what = 0
  · rw [if_pos h0, if_pos h0]
  · rw [if_neg h0, if_neg h0]
    by_cases h1 : what = 1
    · rw [if_pos h1, if_pos h1]
      by_cases hs : (qH S).1 = 8 ∨ (qH S).1 = 9
      · rw [if_pos hs, if_pos hs, if_neg i10]
        obtain ⟨j, j0, jN, e⟩ := tok_stone ht hs
        have := hw.2.2.2.2.2.1
        simp only [e, lN_i, a_11 (show j < 61 by omega), Option.bind_some]
        have w := hR.2.2.2.1.1 (j - 1) (by omega)
        rw [Nat.sub_add_cancel (by omega)] at w
        rw [w, show nI j - 1 = nI (j - 1) from nI_sub (b := 1) (by omega), nI_clamp (by omega)]
      · rw [if_neg hs, if_neg hs, if_pos rfl]
        obtain ⟨k12, ek⟩ := tok_c ht
        by_cases h11 : (qH S).1 = 11
        · rw [if_pos h11]
          unfold cde
          rw [h11, if_neg (by decide), if_neg (by decide)]
          obtain ⟨k, g1, g2, g3⟩ := ht
          have : k = 11 := (nI_eq (by omega) (by decide)).mp (g2.symm.trans h11)
          rcases g3 with ⟨h6, _⟩ | ⟨h6, _⟩ | ⟨h6, _⟩ | ⟨h6, _⟩ | ⟨_, h6, _⟩
          · omega
          · omega
          · omega
          · omega
          · rw [h6]
        · rw [if_neg h11]
          have := c_told (v := qH S) ek k12 (tok_n ht) (mW m0 t u)
          rw [← ek] at this
          rw [this]
          rfl
    · rw [if_neg h1, if_neg h1]
      by_cases h2 : what = 2
      · rw [if_pos h2, if_pos h2]
        by_cases hs : (qH S).1 = 8 ∨ (qH S).1 = 9
        · rw [if_pos hs, if_pos hs, if_neg i10]
        · rw [if_neg hs, if_neg hs, if_pos rfl]
      · rw [if_neg h2, if_neg h2]
theorem m_chip {n : Int32} (hR : Rm S t) (hw : wf S) : ∃ t', xev 123 0 [some (xA (some (m0))), some (xI (n))] [] (mW m0 t u) = some (some (xI (spChip S n).1), mW m0 t' u) ∧ Rm (spChip S n).2 t' := by
  unfold spChip
  rw [e_X8_chip_0, b_X8_chip_0]
  obtain ⟨f1, f2, f3⟩ := hR.2.1
  simp only [g_0, g_1, g_2, g_3, g_4, g_5, g_6, g_7, g_8, g_9, g_10, g_11, g_12, g_13, g_14, g_15, g_16, g_17, g_18, g_19, g_20, g_21, g_22, g_23, g_24, g_25, g_26, g_27, g_28, g_29, g_30, g_31, g_32, g_33, Option.bind_some, mW_obj, xrI_e, xrJ_e, xrD_e, xrA_e, xrV_e, c_hasStone, f1, f2]
  by_cases hs : (qH S).1 = 8 ∨ (qH S).1 = 9
  · rw [if_pos hs, if_pos hs, if_neg i10]
    obtain ⟨j, j0, jN, e⟩ := tok_stone hw.2.2.1 hs
    have := hw.2.2.2.2.2.1
    have w := hR.2.2.2.1.1 (j - 1) (by omega)
    rw [Nat.sub_add_cancel (by omega)] at w
    simp only [e, lN_i, a_11 (show j < 61 by omega), s_11 (show j < 61 by omega), g_0, g_1, g_2, g_3, g_4, g_5, g_6, g_7, g_8, g_9, g_10, g_11, g_12, g_13, g_14, g_15, g_16, g_17, g_18, g_19, g_20, g_21, g_22, g_23, g_24, g_25, g_26, g_27, g_28, g_29, g_30, g_31, g_32, g_33, Option.bind_some, mW_obj, xrI_e, xrJ_e, xrD_e, xrA_e, xrV_e, mj_si, md_si, mI_si, mJ_si, mD_si, mi_sj, md_sj, mI_sj, mJ_sj, mD_sj, mi_sd, mj_sd, mI_sd, mJ_sd, mD_sd, mi_sI, mj_sI, md_sI, mJ_sI, mD_sI, mi_sJ, mj_sJ, md_sJ, mI_sJ, mD_sJ, mi_sD, mj_sD, md_sD, mI_sD, mJ_sD, mi_si_e, mj_sj_e, md_sd_e, f2, w, mI_sI_e]
    rw [show nI j - 1 = nI (j - 1) from nI_sub (b := 1) (by omega), nI_clamp (by omega), if_pos trivial]
    refine ⟨_, rfl, hR.1, hR.2.1, hR.2.2.1, ⟨fun i hi => ?_, hR.2.2.2.1.2⟩, hR.2.2.2.2⟩
    rw [mI_sI_e]
    show _ = va_up (qW S) (j - 1) _ i
    unfold va_up
    by_cases hij : i = j - 1
    · rw [if_pos (by omega), if_pos hij]
    · rw [if_neg (by omega), if_neg hij]
      exact hR.2.2.2.1.1 i hi
  · rw [if_neg hs, if_neg hs, if_pos rfl]
    exact ⟨t, rfl, hR⟩
end ME
