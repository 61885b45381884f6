/-! the reference joins, tells what fits -/
section MM
variable {m0 : Nat} {t t0 : mS} {u : xW} {S : sS}
theorem c_areEq {k n m i j : Nat} {g h : Nat → mC} (hk : k < 8) (hn : n ≤ 24) (hm : m ≤ 24) (og : oAll t 0 n g) (oh : oAll t 24 m h) (gg : ∀ j, j < n → nR 11 (g j).2.2) (hh : ∀ j, j < m → nR 11 (h j).2.2) (hi : i < n) (hj : j < m) : xev 136 0 [some (xA (some (m0))), some (xI (nI k)), some (xI (nI i)), some (xI (nI j))] [] (mW m0 t u) = some (some (xI (if ord3 k (g i) (h j) = 1 then 1 else 0)), mW m0 t u) := by
  obtain ⟨o1, o2⟩ := og i hi
  obtain ⟨o3, o4⟩ := oh j hj
  rw [Nat.zero_add] at o1 o2
  rw [e_X8_areEqual_0, b_X8_areEqual_0]
  simp only [g_0, g_1, g_2, g_3, g_4, g_5, g_6, g_7, g_8, g_9, g_10, g_11, g_12, g_13, g_14, g_15, g_16, g_17, g_18, g_19, g_20, g_21, g_22, g_23, g_24, g_25, g_26, g_27, g_28, g_29, g_30, g_31, g_32, g_33, Option.bind_some, mW_obj, xrI_e, xrJ_e, xrD_e, xrA_e, xrV_e, show (24 : Int32) = nI 24 from rfl, nI_add, a_23 (show i < 48 by omega), a_24 (show i < 48 by omega), a_23 (show 24 + j < 48 by omega), a_24 (show 24 + j < 48 by omega), o1, o2, o3, o4, c_order hk (gg i hi) (hh j hj)]
  have := ord3_lt k (g i) (h j)
  have key : (nI (ord3 k (g i) (h j)) = 1) ↔ ord3 k (g i) (h j) = 1 := nI_eq (b := 1) (by omega) (by decide)
  by_cases he : ord3 k (g i) (h j) = 1
  · rw [if_pos he, if_pos (key.mpr he)]
  · rw [if_neg he, if_neg (fun q => he (key.mp q))]
/-- how many pairs there are -/
def fndc (e : Nat → Bool) : Nat → Nat → Nat → Nat
  | 0, _, a => a
  | d + 1, i, a => fndc e d (i + 1) (if e i = true then a + 1 else a)
theorem fnd_1 (e : Nat → Bool) (l r : Nat → Nat) : ∀ d i P, (fnd e l r d i P).1 = fndc e d i P.1
  | 0, _, _ => rfl
  | d + 1, i, P => by
    unfold fnd fndc
    rw [fnd_1 e l r d (i + 1)]
    split <;> rfl
theorem fndc_le (e : Nat → Bool) : ∀ d i a, fndc e d i a ≤ a + d
  | 0, _, _ => Nat.le_refl _
  | d + 1, i, a => by
    unfold fndc
    have := fndc_le e d (i + 1) (if e i = true then a + 1 else a)
    split at this
    · rename_i h
      rw [if_pos h]
      omega
    · rename_i h
      rw [if_neg h]
      omega
section MEET
variable {k n m : Nat} {g h : Nat → mC}
theorem c_meet_1 (hk : k < 8) (hn : n ≤ 24) (hm : m ≤ 24) (og : oAll t 0 n g) (oh : oAll t 24 m h) (gg : ∀ j, j < n → nR 11 (g j).2.2) (hh : ∀ j, j < m → nR 11 (h j).2.2) (h25 : mi t 25 = nI m) (hnm : n * m ≤ 576) : ∀ d q a, q + d = n * m → a ≤ q → xev 137 90 [some (xA (some (m0))), none, none, some (xI (nI k)), some (xI (nI n)), some (xI (nI a)), some (xI (nI q))] [] (mW m0 t u) = if 24 < fndc (fun q => decide (ord3 k (g (q / m)) (h (q % m)) = 1)) d q a then some (some (xI (-4)), mW m0 t u) else xev 137 158 [some (xA (some (m0))), none, none, some (xI (nI k)), some (xI (nI n)), none, some (xI (0))] [] (mW m0 (si t 18 0) u)
  | 0, q, a, hq, ha => by
    conv => lhs; rw [e_X8_meet_90, b_X8_meet_90]
    simp only [g_0, g_1, g_2, g_3, g_4, g_5, g_6, g_7, g_8, g_9, g_10, g_11, g_12, g_13, g_14, g_15, g_16, g_17, g_18, g_19, g_20, g_21, g_22, g_23, g_24, g_25, g_26, g_27, g_28, g_29, g_30, g_31, g_32, g_33, Option.bind_some, mW_obj, xrI_e, xrJ_e, xrD_e, xrA_e, xrV_e, p_6, p_7, p_8, p_9, p_10, p_13, p_15, p_18, p_19, p_20, p_21, p_22, p_25, h25, pk_mul]
    rw [if_neg (nI_nlt (by omega) (by omega))]
    unfold fndc
    by_cases h24 : 24 < a
    · rw [if_pos h24, if_pos (show (24 : Int32) < nI a from nI_lt (a := 24) h24 (by omega))]
    · rw [if_neg h24, if_neg (show ¬ (24 : Int32) < nI a from nI_nlt (a := 24) (by omega) (by decide))]
  | d + 1, q, a, hq, ha => by
    have hm0 : 0 < m := by
      rcases Nat.eq_zero_or_pos m with h0 | h0
      · rw [h0, Nat.mul_zero] at hq; omega
      · exact h0
    have hqn : q / m < n := Nat.div_lt_of_lt_mul (by rw [Nat.mul_comm]; omega)
    have hqm : q % m < m := Nat.mod_lt _ hm0
    have ih := fun a ha => c_meet_1 hk hn hm og oh gg hh h25 hnm d (q + 1) a (by omega) ha
    conv => lhs; rw [e_X8_meet_90, b_X8_meet_90]
    simp only [g_0, g_1, g_2, g_3, g_4, g_5, g_6, g_7, g_8, g_9, g_10, g_11, g_12, g_13, g_14, g_15, g_16, g_17, g_18, g_19, g_20, g_21, g_22, g_23, g_24, g_25, g_26, g_27, g_28, g_29, g_30, g_31, g_32, g_33, Option.bind_some, mW_obj, xrI_e, xrJ_e, xrD_e, xrA_e, xrV_e, h25, pk_mul]
    rw [if_pos (nI_lt (by omega) (by omega)), if_neg (nI_ne0 hm0 (by omega)), if_neg (nI_ne0 hm0 (by omega)), pk_div (by omega) hm0 (by omega), pk_mul, nI_sub (Nat.div_mul_le_self q m), show q - q / m * m = q % m by rw [Nat.mul_comm]; have := Nat.div_add_mod q m; omega, c_areEq hk hn hm og oh gg hh hqn hqm]
    simp only [g_0, g_1, g_2, g_3, g_4, g_5, g_6, g_7, g_8, g_9, g_10, g_11, g_12, g_13, g_14, g_15, g_16, g_17, g_18, g_19, g_20, g_21, g_22, g_23, g_24, g_25, g_26, g_27, g_28, g_29, g_30, g_31, g_32, g_33, Option.bind_some, mW_obj, xrI_e, xrJ_e, xrD_e, xrA_e, xrV_e]
    unfold fndc
    by_cases he : ord3 k (g (q / m)) (h (q % m)) = 1
    · rw [if_pos he, if_neg i10, nI_1, nI_1, ih (a + 1) (by omega)]
      simp only [decide_eq_true he, ↓reduceIte]
    · rw [if_neg he, if_pos rfl, Int32.add_zero, nI_1, ih a (by omega)]
      simp only [decide_eq_false he, Bool.false_eq_true, ↓reduceIte]
theorem c_meet_2 (hk : k < 8) (hn : n ≤ 24) (hm : m ≤ 24) (gg : ∀ j, j < n → nR 11 (g j).2.2) (hh : ∀ j, j < m → nR 11 (h j).2.2) (hnm : n * m ≤ 576) : ∀ d q t P, q + d = n * m → fndc (fun q => decide (ord3 k (g (q / m)) (h (q % m)) = 1)) d q P.1 ≤ 24 → Rm (uP S P) t → mi t 25 = nI m → oAll t 0 n g → oAll t 24 m h → ∃ t', xev 137 158 [some (xA (some (m0))), none, none, some (xI (nI k)), some (xI (nI n)), none, some (xI (nI q))] [] (mW m0 t u) = some (some (xI (nI (fnd (fun q => decide (ord3 k (g (q / m)) (h (q % m)) = 1)) (fun q => q / m) (fun q => q % m) d q P).1)), mW m0 t' u) ∧ Rm (uP S (fnd (fun q => decide (ord3 k (g (q / m)) (h (q % m)) = 1)) (fun q => q / m) (fun q => q % m) d q P)) t'
  | 0, q, t, P, hq, _, hR, h25, _, _ => by
    have hp : mi t 18 = nI P.1 := hR.2.2.2.2.2.1.1
    rw [e_X8_meet_158, b_X8_meet_158]
    simp only [g_0, g_1, g_2, g_3, g_4, g_5, g_6, g_7, g_8, g_9, g_10, g_11, g_12, g_13, g_14, g_15, g_16, g_17, g_18, g_19, g_20, g_21, g_22, g_23, g_24, g_25, g_26, g_27, g_28, g_29, g_30, g_31, g_32, g_33, Option.bind_some, mW_obj, xrI_e, xrJ_e, xrD_e, xrA_e, xrV_e, h25, pk_mul, hp]
    rw [if_neg (nI_nlt (by omega) (by omega))]
    exact ⟨t, rfl, hR⟩
  | d + 1, q, t, P, hq, h24, hR, h25, og, oh => by
    have hm0 : 0 < m := by
      rcases Nat.eq_zero_or_pos m with h0 | h0
      · rw [h0, Nat.mul_zero] at hq; omega
      · exact h0
    have hqn : q / m < n := Nat.div_lt_of_lt_mul (by rw [Nat.mul_comm]; omega)
    have hqm : q % m < m := Nat.mod_lt _ hm0
    have hp : mi t 18 = nI P.1 := hR.2.2.2.2.2.1.1
    have hp2 := hR.2.2.2.2.2.1.2
    have hdm : q - q / m * m = q % m := by rw [Nat.mul_comm]; have := Nat.div_add_mod q m; omega
    rw [e_X8_meet_158, b_X8_meet_158]
    simp only [g_0, g_1, g_2, g_3, g_4, g_5, g_6, g_7, g_8, g_9, g_10, g_11, g_12, g_13, g_14, g_15, g_16, g_17, g_18, g_19, g_20, g_21, g_22, g_23, g_24, g_25, g_26, g_27, g_28, g_29, g_30, g_31, g_32, g_33, Option.bind_some, mW_obj, xrI_e, xrJ_e, xrD_e, xrA_e, xrV_e, h25, pk_mul]
    rw [if_pos (nI_lt (by omega) (by omega)), if_neg (nI_ne0 hm0 (by omega)), if_neg (nI_ne0 hm0 (by omega)), pk_div (by omega) hm0 (by omega), pk_mul, nI_sub (Nat.div_mul_le_self q m), hdm, c_areEq hk hn hm og oh gg hh hqn hqm]
    simp only [g_0, g_1, g_2, g_3, g_4, g_5, g_6, g_7, g_8, g_9, g_10, g_11, g_12, g_13, g_14, g_15, g_16, g_17, g_18, g_19, g_20, g_21, g_22, g_23, g_24, g_25, g_26, g_27, g_28, g_29, g_30, g_31, g_32, g_33, Option.bind_some, mW_obj, xrI_e, xrJ_e, xrD_e, xrA_e, xrV_e]
    unfold fndc at h24
    unfold fnd
    by_cases he : ord3 k (g (q / m)) (h (q % m)) = 1
    · simp only [decide_eq_true he, ↓reduceIte] at h24 ⊢
      have hP24 : P.1 < 24 := by
        have a := (fnd_le (fun q => decide (ord3 k (g (q / m)) (h (q % m)) = 1)) (fun q => q / m) (fun q => q % m) d (q + 1) (P.1 + 1, P.2.1, P.2.2)).1
        rw [fnd_1] at a
        simp only at a
        omega
      rw [if_pos he, if_neg i10]
      simp only [hp, h25, mj_si, md_si, mI_si, mJ_si, mD_si, mi_sj, md_sj, mI_sj, mJ_sj, mD_sj, mi_sd, mj_sd, mI_sd, mJ_sd, mD_sd, mi_sI, mj_sI, md_sI, mJ_sI, mD_sI, mi_sJ, mj_sJ, md_sJ, mI_sJ, mD_sJ, mi_sD, mj_sD, md_sD, mI_sD, mJ_sD, mi_si_e, mj_sj_e, md_sd_e, s_16 hP24, s_17 hP24, g_0, g_1, g_2, g_3, g_4, g_5, g_6, g_7, g_8, g_9, g_10, g_11, g_12, g_13, g_14, g_15, g_16, g_17, g_18, g_19, g_20, g_21, g_22, g_23, g_24, g_25, g_26, g_27, g_28, g_29, g_30, g_31, g_32, g_33, Option.bind_some, mW_obj, xrI_e, xrJ_e, xrD_e, xrA_e, xrV_e, p_6, p_7, p_8, p_9, p_10, p_13, p_15, p_18, p_19, p_20, p_21, p_22, p_25, nI_1, if_neg i10, if_neg (nI_ne0 hm0 (show m < 2 ^ 31 by omega)), pk_div (show q < 2 ^ 31 by omega) hm0 (show m < 2 ^ 31 by omega), pk_mul, nI_sub (Nat.div_mul_le_self q m), hdm]
      refine c_meet_2 hk hn hm gg hh hnm d (q + 1) _ _ (by omega) h24 ⟨hR.1, hR.2.1, hR.2.2.1, hR.2.2.2.1, hR.2.2.2.2.1, ⟨rfl, fun j hj => ?_⟩, hR.2.2.2.2.2.2⟩ h25 og oh
      rw [mI_si, mI_sI_n _ _ _ _ (show 16 ≠ 17 by decide), mI_sI_e, mI_sI_e, mI_sI_n _ _ _ _ (show 17 ≠ 16 by decide)]
      show (if j = P.1 then _ else _) = nI (if j = P.1 then q / m else P.2.1 j) ∧ (if j = P.1 then _ else _) = nI (if j = P.1 then q % m else P.2.2 j)
      by_cases hj2 : j = P.1
      · rw [if_pos hj2, if_pos hj2, if_pos hj2, if_pos hj2]
        exact ⟨rfl, rfl⟩
      · rw [if_neg hj2, if_neg hj2, if_neg hj2, if_neg hj2]
        exact hp2 j (by have : j < P.1 + 1 := hj; show j < P.1; omega)
    · simp only [decide_eq_false he, Bool.false_eq_true, ↓reduceIte] at h24 ⊢
      rw [if_neg he, if_pos rfl, nI_1]
      exact c_meet_2 hk hn hm gg hh hnm d (q + 1) t P (by omega) h24 hR h25 og oh
end MEET
theorem m_meet {c d k : Int32} (hR : Rm S t) (hw : wf S) : ∃ t', xev 137 0 [some (xA (some (m0))), some (xI (c)), some (xI (d)), some (xI (k)), none, none, none] [] (mW m0 t u) = some (some (xI (spMeet S c d k).1), mW m0 t' u) ∧ Rm (spMeet S c d k).2 t' := by
  unfold spMeet
  rw [e_X8_meet_0, b_X8_meet_0]
  by_cases hc : inB c 10
  · by_cases hd : inB d 10
    · rw [if_neg (fun q => q.elim (fun q => q hc) (fun q => q hd)), c_colt hc]
      simp only [g_0, g_1, g_2, g_3, g_4, g_5, g_6, g_7, g_8, g_9, g_10, g_11, g_12, g_13, g_14, g_15, g_16, g_17, g_18, g_19, g_20, g_21, g_22, g_23, g_24, g_25, g_26, g_27, g_28, g_29, g_30, g_31, g_32, g_33, Option.bind_some, mW_obj, xrI_e, xrJ_e, xrD_e, xrA_e, xrV_e, if_neg i10, c_colt hd]
      by_cases hk8 : inB k 8
      · rw [c_rt hk8 (by decide) (show (7 : Int64) = (nI 8 - 1).toInt64 by decide), if_neg (fun q => q hk8)]
        obtain ⟨t1, h1, h2, h3, h4, _⟩ := m_readAll (m0 := m0) (u := u) (b := 0) hR hw hc.2 hk8.2 (by decide)
        obtain ⟨r1, r2, r3, r4, r5, r6⟩ := rAll_ok hw hc.2 hk8.2
        rw [← inB_nI hc, ← inB_nI hk8, nI_0] at h1
        simp only [h1, g_0, g_1, g_2, g_3, g_4, g_5, g_6, g_7, g_8, g_9, g_10, g_11, g_12, g_13, g_14, g_15, g_16, g_17, g_18, g_19, g_20, g_21, g_22, g_23, g_24, g_25, g_26, g_27, g_28, g_29, g_30, g_31, g_32, g_33, Option.bind_some, mW_obj, xrI_e, xrJ_e, xrD_e, xrA_e, xrV_e, p_6, p_7, p_8, p_9, p_10, p_13, p_15, p_18, p_19, p_20, p_21, p_22, p_25, mj_si, md_si, mI_si, mJ_si, mD_si, mi_sj, md_sj, mI_sj, mJ_sj, mD_sj, mi_sd, mj_sd, mI_sd, mJ_sd, mD_sd, mi_sI, mj_sI, md_sI, mJ_sI, mD_sI, mi_sJ, mj_sJ, md_sJ, mI_sJ, mD_sJ, mi_sD, mj_sD, md_sD, mI_sD, mJ_sD, mi_si_e, mj_sj_e, md_sd_e, if_neg i10, h3]
        by_cases h4' : (rAll S c.toNatClampNeg k.toNatClampNeg).1 = 4
        · have h2' := Rm_uA (x := nI (rAll S c.toNatClampNeg k.toNatClampNeg).1) h2
          rw [h4'] at h2'
          simp only [h4', ↓reduceIte, show nI 4 = 4 from rfl]
          obtain ⟨t2, k1, k2, k3, k4, k5⟩ := m_readAll (m0 := m0) (u := u) (b := 24) (c := d.toNatClampNeg) (k := k.toNatClampNeg) h2' (wf_uA _ r4) hd.2 hk8.2 (by decide)
          obtain ⟨q1, q2, q3, q4, q5, q6⟩ := rAll_ok (S := uA (rAll S c.toNatClampNeg k.toNatClampNeg).2.2.2 (nI 4)) (c := d.toNatClampNeg) (k := k.toNatClampNeg) (wf_uA _ r4) hd.2 hk8.2
          rw [← inB_nI hd, ← inB_nI hk8] at k1
          simp only [show (24 : Int32) = nI 24 from rfl, show (4 : Int32) = nI 4 from rfl, k1, g_0, g_1, g_2, g_3, g_4, g_5, g_6, g_7, g_8, g_9, g_10, g_11, g_12, g_13, g_14, g_15, g_16, g_17, g_18, g_19, g_20, g_21, g_22, g_23, g_24, g_25, g_26, g_27, g_28, g_29, g_30, g_31, g_32, g_33, Option.bind_some, mW_obj, xrI_e, xrJ_e, xrD_e, xrA_e, xrV_e, p_6, p_7, p_8, p_9, p_10, p_13, p_15, p_18, p_19, p_20, p_21, p_22, p_25, mj_si, md_si, mI_si, mJ_si, mD_si, mi_sj, md_sj, mI_sj, mJ_sj, mD_sj, mi_sd, mj_sd, mI_sd, mJ_sd, mD_sd, mi_sI, mj_sI, md_sI, mJ_sI, mD_sI, mi_sJ, mj_sJ, md_sJ, mI_sJ, mD_sJ, mi_sD, mj_sD, md_sD, mI_sD, mJ_sD, mi_si_e, mj_sj_e, md_sd_e]
          by_cases h5' : (rAll (uA (rAll S c.toNatClampNeg k.toNatClampNeg).2.2.2 (nI 4)) d.toNatClampNeg k.toNatClampNeg).1 = 4
          · rw [if_pos (by rw [h5']), if_pos h5']
            have og : oAll t2 0 (rAll S c.toNatClampNeg k.toNatClampNeg).2.1 (rAll S c.toNatClampNeg k.toNatClampNeg).2.2.1 := fun j hj => by
              obtain ⟨e1, e2⟩ := k5 (0 + j) (Or.inl (by omega))
              rw [e1, e2]
              exact h4 j hj
            have hnm : (rAll S c.toNatClampNeg k.toNatClampNeg).2.1 * (rAll (uA (rAll S c.toNatClampNeg k.toNatClampNeg).2.2.2 (nI 4)) d.toNatClampNeg k.toNatClampNeg).2.1 ≤ 576 := Nat.mul_le_mul r3 q3
            have gg := fun j hj => real_ok (r6 j hj).1 (r6 j hj).2 hk8.2
            have hh := fun j hj => real_ok (q6 j hj).1 (q6 j hj).2 hk8.2
            have l1 := c_meet_1 (m0 := m0) (u := u) (t := si t2 15 (nI (rAll (uA (rAll S c.toNatClampNeg k.toNatClampNeg).2.2.2 (nI 4)) d.toNatClampNeg k.toNatClampNeg).1)) hk8.2 r3 q3 og k4 gg hh k3 hnm _ 0 0 (Nat.zero_add _) (Nat.le_refl _)
            rw [← inB_nI hk8, nI_0] at l1
            rw [mi_si_n _ _ _ (show 25 ≠ 15 by decide), h3, l1]
            have e1 := fnd_1 (fun q => decide (ord3 k.toNatClampNeg ((rAll S c.toNatClampNeg k.toNatClampNeg).2.2.1 (q / (rAll (uA (rAll S c.toNatClampNeg k.toNatClampNeg).2.2.2 (nI 4)) d.toNatClampNeg k.toNatClampNeg).2.1)) ((rAll (uA (rAll S c.toNatClampNeg k.toNatClampNeg).2.2.2 (nI 4)) d.toNatClampNeg k.toNatClampNeg).2.2.1 (q % (rAll (uA (rAll S c.toNatClampNeg k.toNatClampNeg).2.2.2 (nI 4)) d.toNatClampNeg k.toNatClampNeg).2.1)) = 1)) (fun q => q / (rAll (uA (rAll S c.toNatClampNeg k.toNatClampNeg).2.2.2 (nI 4)) d.toNatClampNeg k.toNatClampNeg).2.1) (fun q => q % (rAll (uA (rAll S c.toNatClampNeg k.toNatClampNeg).2.2.2 (nI 4)) d.toNatClampNeg k.toNatClampNeg).2.1) ((rAll S c.toNatClampNeg k.toNatClampNeg).2.1 * (rAll (uA (rAll S c.toNatClampNeg k.toNatClampNeg).2.2.2 (nI 4)) d.toNatClampNeg k.toNatClampNeg).2.1) 0 P00
            unfold mtP
            rw [e1]
            have k2' := Rm_uA (x := nI (rAll (uA (rAll S c.toNatClampNeg k.toNatClampNeg).2.2.2 (nI 4)) d.toNatClampNeg k.toNatClampNeg).1) k2
            rw [h5'] at k2' ⊢
            split
            · exact ⟨_, rfl, k2'⟩
            · next h24 =>
              obtain ⟨t', l2, l3⟩ := c_meet_2 (m0 := m0) (u := u) (S := uA (rAll (uA (rAll S c.toNatClampNeg k.toNatClampNeg).2.2.2 (nI 4)) d.toNatClampNeg k.toNatClampNeg).2.2.2 (nI 4)) hk8.2 r3 q3 gg hh hnm _ 0 (si (si t2 15 (nI 4)) 18 0) P00 (Nat.zero_add _) (Nat.not_lt.mp h24) ⟨k2'.1, k2'.2.1, k2'.2.2.1, k2'.2.2.2.1, k2'.2.2.2.2.1, ⟨rfl, fun j hj => absurd hj (Nat.not_lt_zero j)⟩, k2'.2.2.2.2.2.2⟩ k3 og k4
              rw [← inB_nI hk8, nI_0] at l2
              rw [e1] at l2
              exact ⟨t', l2, l3⟩
          · rw [if_neg (show ¬ nI _ = nI 4 from fun h => h5' ((n4 q1).mp h)), if_neg h5']
            exact ⟨_, rfl, Rm_uA k2⟩
        · simp only [if_neg (fun h => h4' ((n4 r1).mp h) : ¬ nI (rAll S c.toNatClampNeg k.toNatClampNeg).1 = 4), if_neg h4']
          exact ⟨_, rfl, Rm_uA h2⟩
      · rw [c_rf hk8 (by decide) (show (7 : Int64) = (nI 8 - 1).toInt64 by decide), if_pos hk8]
        exact ⟨t, rfl, hR⟩
    · rw [if_pos (Or.inr hd), c_colt hc]
      simp only [g_0, g_1, g_2, g_3, g_4, g_5, g_6, g_7, g_8, g_9, g_10, g_11, g_12, g_13, g_14, g_15, g_16, g_17, g_18, g_19, g_20, g_21, g_22, g_23, g_24, g_25, g_26, g_27, g_28, g_29, g_30, g_31, g_32, g_33, Option.bind_some, mW_obj, xrI_e, xrJ_e, xrD_e, xrA_e, xrV_e, if_neg i10, c_colf hd, if_pos]
      exact ⟨t, rfl, hR⟩
  · rw [if_pos (Or.inl hc), c_colf hc]
    exact ⟨t, rfl, hR⟩
end MM
