/-! the reference sums, searches, joins -/
section MK
variable {m0 : Nat} {t t0 : mS} {u : xW} {S : sS}
theorem real_ok {k : Nat} {v : mC} {N : Nat} (hv : tok N v) (hk : v.1 = nI k) (h8 : k < 8) : nR 11 v.2.2 := by
  obtain ⟨j, h1, h2, h3⟩ := hv
  have : j = k := (nI_eq (by omega) (by omega)).mp (h2.symm.trans hk)
  subst this
  rcases h3 with ⟨_, h0⟩ | ⟨_, _, h0⟩ | ⟨h6, _⟩ | ⟨h6, _⟩ | ⟨h6, _⟩
  · rw [h0]; exact nR_0 11
  · exact h0
  · omega
  · omega
  · omega
theorem c_sum_l {k n : Nat} {g : Nat → mC} (hn : n ≤ 24) (hk : k < 8) (h25 : mi t 25 = nI n) (ho : oAll t 0 n g) (hg : ∀ j, j < n → nR 11 (g j).2.2) : ∀ d i, i + d = n → xev 133 62 [some (xA (some (m0))), none, some (xI (nI k)), some (xJ (jS (fun i => (g i).2.1) i)), none, some (xF (fS (fun i => (g i).2.2) i)), some (xD (dS (fun i => (g i).2.2) i)), none, some (xI (nI i))] [] (mW m0 t u) = some (some (xI 0), mW m0 (sj t 10 (cde (tot k n g))) u)
  | 0, i, h => by
    obtain rfl : i = n := by omega
    rw [e_X8_sum_62, b_X8_sum_62]
    simp only [g_0, g_1, g_2, g_3, g_4, g_5, g_6, g_7, g_8, g_9, g_10, g_11, g_12, g_13, g_14, g_15, g_16, g_17, g_18, g_19, g_20, g_21, g_22, g_23, g_24, g_25, g_26, g_27, g_28, g_29, g_30, g_31, g_32, g_33, Option.bind_some, mW_obj, xrI_e, xrJ_e, xrD_e, xrA_e, xrV_e, p_6, p_7, p_8, p_9, p_10, p_13, p_15, p_18, p_19, p_20, p_21, p_22, p_25, h25]
    rw [if_neg (nI_nlt (by omega) (by omega))]
    have e6 : (nI k = 6) ↔ k = 6 := nI_eq (b := 6) (by omega) (by decide)
    have e7 : (nI k = 7) ↔ k = 7 := nI_eq (b := 7) (by omega) (by decide)
    simp only [e6, e7]
    unfold tot cde
    by_cases h6 : k = 6
    · rw [if_pos h6, if_pos h6]
      obtain ⟨f1, f2, f3⟩ := fS_ok (g := fun i => (g i).2.2) hn hg
      simp only [nR_D f1, fl_b6 f1, g_0, g_1, g_2, g_3, g_4, g_5, g_6, g_7, g_8, g_9, g_10, g_11, g_12, g_13, g_14, g_15, g_16, g_17, g_18, g_19, g_20, g_21, g_22, g_23, g_24, g_25, g_26, g_27, g_28, g_29, g_30, g_31, g_32, g_33, Option.bind_some, mW_obj, xrI_e, xrJ_e, xrD_e, xrA_e, xrV_e, p_6, p_7, p_8, p_9, p_10, p_13, p_15, p_18, p_19, p_20, p_21, p_22, p_25]
      rfl
    · rw [if_neg h6, if_neg h6]
      by_cases h7 : k = 7
      · rw [if_pos h7, if_pos h7]
        have f1 := dS_ok (g := fun i => (g i).2.2) hn hg
        simp only [fl_b7 f1, g_0, g_1, g_2, g_3, g_4, g_5, g_6, g_7, g_8, g_9, g_10, g_11, g_12, g_13, g_14, g_15, g_16, g_17, g_18, g_19, g_20, g_21, g_22, g_23, g_24, g_25, g_26, g_27, g_28, g_29, g_30, g_31, g_32, g_33, Option.bind_some, mW_obj, xrI_e, xrJ_e, xrD_e, xrA_e, xrV_e, p_6, p_7, p_8, p_9, p_10, p_13, p_15, p_18, p_19, p_20, p_21, p_22, p_25]
        rfl
      · rw [if_neg h7, if_neg h7]
        rfl
  | d + 1, i, h => by
    have ih := c_sum_l hn hk h25 ho hg d (i + 1) (by omega)
    obtain ⟨o1, o2⟩ := ho i (by omega)
    rw [Nat.zero_add] at o1 o2
    obtain ⟨f1, f2, f3⟩ := fS_ok (g := fun i => (g i).2.2) (n := i + 1) (by omega) (fun j hj => hg j (by omega))
    have d1 := dS_ok (g := fun i => (g i).2.2) (n := i + 1) (by omega) (fun j hj => hg j (by omega))
    rw [e_X8_sum_62, b_X8_sum_62]
    simp only [g_0, g_1, g_2, g_3, g_4, g_5, g_6, g_7, g_8, g_9, g_10, g_11, g_12, g_13, g_14, g_15, g_16, g_17, g_18, g_19, g_20, g_21, g_22, g_23, g_24, g_25, g_26, g_27, g_28, g_29, g_30, g_31, g_32, g_33, Option.bind_some, mW_obj, xrI_e, xrJ_e, xrD_e, xrA_e, xrV_e, h25]
    rw [if_pos (nI_lt (by omega) (by omega))]
    simp only [a_23 (show i < 48 by omega), a_24 (show i < 48 by omega), Option.bind_some, o1, o2, fl_d2f (hg i (by omega))]
    have f3' : ∀ {α : Type} (f : UInt32 → Option α), xnF (FP.fadd (fS (fun i => (g i).2.2) i) (FP.d2f (g i).2.2)) f = f (fS (fun i => (g i).2.2) (i + 1)) := f3
    have d1' : ∀ {α : Type} (f : UInt64 → Option α), xnD (FP.dadd (dS (fun i => (g i).2.2) i) (g i).2.2) f = f (dS (fun i => (g i).2.2) (i + 1)) := fun f => nR_D d1
    rw [f3', d1', nI_1]
    exact ih
theorem tot_ok {k n : Nat} {g : Nat → mC} (hn : n ≤ 24) (hk : k < 8) (hg : ∀ j, j < n → nR 11 (g j).2.2) : ∃ j, j < 8 ∧ (tot k n g).1 = nI j ∧ ((j = 6 ∨ j = 7) → nR 20 (tot k n g).2.2) := by
  unfold tot
  by_cases h6 : k = 6
  · rw [if_pos h6]
    exact ⟨6, by decide, rfl, fun _ => (fS_ok (g := fun i => (g i).2.2) hn hg).1⟩
  · rw [if_neg h6]
    by_cases h7 : k = 7
    · rw [if_pos h7]
      exact ⟨7, by decide, rfl, fun _ => dS_ok (g := fun i => (g i).2.2) hn hg⟩
    · rw [if_neg h7]
      exact ⟨5, by decide, rfl, fun h => by omega⟩
theorem c_in17 {k : Int32} (w : xW) : xev 88 0 [some (xJ (k.toInt64)), none, some (xJ (1)), none, some (xJ (7)), none] [] w = some (some (xI (if ¬ inB k 8 ∨ k = 0 then 0 else 1)), w) := by
  rw [c_in]
  have key : (k.toInt64 < 1 ∨ 7 < k.toInt64) ↔ (¬ inB k 8 ∨ k = 0) := by
    rw [show (1 : Int64) = (1 : Int32).toInt64 by decide, show (7 : Int64) = (7 : Int32).toInt64 by decide, w64, w64, inB_iff (by decide), inR_iff (by decide)]
    rw [Int32.lt_iff_toInt_lt, Int32.lt_iff_toInt_lt, Int32.lt_iff_toInt_lt, Int32.lt_iff_toInt_lt, ← Int32.toInt_inj]
    have a : (1 : Int32).toInt = 1 := by decide
    have b : (7 : Int32).toInt = 7 := by decide
    have c : (0 : Int32).toInt = 0 := by decide
    have d : (nI 8).toInt = 8 := by decide
    rw [a, b, c, d]
    omega
  by_cases h : ¬ inB k 8 ∨ k = 0
  · rw [if_pos h, if_pos (key.mpr h)]
  · rw [if_neg h, if_neg (fun q => h (key.mp q))]
theorem n4 {a : Nat} (h : a < 6) : (nI a = 4) ↔ a = 4 := nI_eq (b := 4) (by omega) (by decide)
theorem m_sum {c k : Int32} (hR : Rm S t) (hw : wf S) : ∃ t', xev 133 0 [some (xA (some (m0))), some (xI (c)), some (xI (k)), none, none, none, none, none, none] [] (mW m0 t u) = some (some (xI (spSum S c k).1), mW m0 t' u) ∧ Rm (spSum S c k).2 t' := by
  unfold spSum
  rw [e_X8_sum_0, b_X8_sum_0]
  by_cases hc : inB c 10
  · rw [if_neg (fun q => q hc), c_colt hc]
    simp only [g_0, g_1, g_2, g_3, g_4, g_5, g_6, g_7, g_8, g_9, g_10, g_11, g_12, g_13, g_14, g_15, g_16, g_17, g_18, g_19, g_20, g_21, g_22, g_23, g_24, g_25, g_26, g_27, g_28, g_29, g_30, g_31, g_32, g_33, Option.bind_some, mW_obj, xrI_e, xrJ_e, xrD_e, xrA_e, xrV_e, if_neg i10, c_in17]
    by_cases hk : ¬ inB k 8 ∨ k = 0
    · rw [if_pos hk, if_pos hk, if_pos rfl]
      exact ⟨t, rfl, hR⟩
    · rw [if_neg hk, if_neg hk, if_neg i10]
      have hk8 : inB k 8 := Classical.byContradiction fun h => hk (Or.inl h)
      obtain ⟨t1, h1, h2, h3, h4, _⟩ := m_readAll (m0 := m0) (u := u) (b := 0) hR hw hc.2 hk8.2 (by decide)
      obtain ⟨r1, r2, r3, r4, r5, r6⟩ := rAll_ok hw hc.2 hk8.2
      rw [← inB_nI hc, ← inB_nI hk8, nI_0] at h1
      simp only [h1, g_0, g_1, g_2, g_3, g_4, g_5, g_6, g_7, g_8, g_9, g_10, g_11, g_12, g_13, g_14, g_15, g_16, g_17, g_18, g_19, g_20, g_21, g_22, g_23, g_24, g_25, g_26, g_27, g_28, g_29, g_30, g_31, g_32, g_33, Option.bind_some, mW_obj, xrI_e, xrJ_e, xrD_e, xrA_e, xrV_e, p_6, p_7, p_8, p_9, p_10, p_13, p_15, p_18, p_19, p_20, p_21, p_22, p_25, mj_si, md_si, mI_si, mJ_si, mD_si, mi_sj, md_sj, mI_sj, mJ_sj, mD_sj, mi_sd, mj_sd, mI_sd, mJ_sd, mD_sd, mi_sI, mj_sI, md_sI, mJ_sI, mD_sI, mi_sJ, mj_sJ, md_sJ, mI_sJ, mD_sJ, mi_sD, mj_sD, md_sD, mI_sD, mJ_sD, mi_si_e, mj_sj_e, md_sd_e]
      by_cases h4' : (rAll S c.toNatClampNeg k.toNatClampNeg).1 = 4
      · rw [if_pos ((n4 r1).mpr h4'), if_pos h4']
        have hl := c_sum_l (m0 := m0) (u := u) (t := si t1 15 (nI (rAll S c.toNatClampNeg k.toNatClampNeg).1)) r3 hk8.2 h3 h4 (fun j hj => real_ok (r6 j hj).1 (r6 j hj).2 hk8.2) _ 0 (Nat.zero_add _)
        rw [← inB_nI hk8, nI_0] at hl
        have hl' : xev 133 62 [some (xA (some (m0))), none, some (xI (k)), some (xJ (0)), none, some (xF (0)), some (xD (0)), none, some (xI (0))] [] (mW m0 (si t1 15 (nI (rAll S c.toNatClampNeg k.toNatClampNeg).1)) u) = _ := hl
        rw [hl']
        have h2' := Rm_uA (x := nI (rAll S c.toNatClampNeg k.toNatClampNeg).1) h2
        rw [h4'] at h2' ⊢
        exact ⟨_, rfl, h2'.1, h2'.2.1, rfl, h2'.2.2.2⟩
      · rw [if_neg (fun h => h4' ((n4 r1).mp h)), if_neg h4']
        exact ⟨_, rfl, Rm_uA h2⟩
  · rw [if_pos hc, c_colf hc]
    exact ⟨t, rfl, hR⟩
end MK
