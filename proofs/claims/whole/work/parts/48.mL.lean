/-! the reference searches, joins -/
section ML2
variable {m0 : Nat} {t t0 : mS} {u : xW} {S : sS}
theorem lgc_eq (x y : Int64) : lg_cmp x y = 0 ↔ x = y := by
  unfold lg_cmp
  by_cases h : x > y
  · rw [if_pos h]
    exact ⟨fun q => absurd q (by decide), fun q => by rw [q] at h; exact absurd h Int64.lt_irrefl⟩
  · rw [if_neg h]
    split
    · next h2 => exact ⟨fun _ => h2, fun _ => rfl⟩
    · next h2 => exact ⟨fun q => absurd q (by decide), fun q => absurd q h2⟩
theorem ord3_lt (k : Nat) (a b : mC) : ord3 k a b < 3 := by
  unfold ord3
  split
  · split
    · decide
    · split <;> decide
  · split
    · decide
    · split <;> decide
theorem c_order {k : Nat} {a b : mC} (hk : k < 8) (ha : nR 11 a.2.2) (hb : nR 11 b.2.2) (w : xW) : xev 134 0 [some (xI (nI k)), some (xJ (a.2.1)), none, some (xD (a.2.2)), none, some (xJ (b.2.1)), none, some (xD (b.2.2)), none] [] w = some (some (xI (nI (ord3 k a b))), w) := by
  rw [e_X8_order_0, b_X8_order_0]
  have h6 : (nI k < 6) ↔ k < 6 := nI_ltI (b := 6) (by omega) (by decide)
  simp only [h6, lgc_lt, lgc_eq]
  unfold ord3
  by_cases hk6 : k < 6
  · rw [if_pos hk6, if_pos hk6]
    by_cases h1 : a.2.1 < b.2.1
    · rw [if_pos h1, if_pos h1]; rfl
    · rw [if_neg h1, if_neg h1]
      by_cases h2 : a.2.1 = b.2.1
      · rw [if_pos h2, if_pos h2]; rfl
      · rw [if_neg h2, if_neg h2]; rfl
  · rw [if_neg hk6, if_neg hk6]
    rcases fl_cmp ha hb with h | h | h
    · rw [h]; rfl
    · rw [h]; rfl
    · rw [h]; rfl
theorem c_where_l {k n : Nat} {how : Int32} {g : Nat → mC} {b : mC} (hn : n ≤ 24) (hk : k < 8) (hh : inB how 3) (hg : ∀ j, j < n → nR 11 (g j).2.2) (hb : nR 11 b.2.2) : ∀ d i t P, i + d = n → P.1 ≤ i → Rm (uP S P) t → mi t 25 = nI n → oAll t 0 n g → mj t 19 = b.2.1 → md t 20 = b.2.2 → ∃ t', xev 135 88 [some (xA (some (m0))), none, some (xI (nI k)), some (xI (how)), none, none, some (xI (nI i))] [] (mW m0 t u) = some (some (xI (nI (fnd (fun i => decide (ord3 k (g i) b = how.toNatClampNeg)) id id d i P).1)), mW m0 t' u) ∧ Rm (uP S (fnd (fun i => decide (ord3 k (g i) b = how.toNatClampNeg)) id id d i P)) t'
  | 0, i, t, P, h, _, hR, h25, _, _, _ => by
    obtain rfl : i = n := by omega
    rw [e_X8_where_88, b_X8_where_88]
    have hp : mi t 18 = nI P.1 := hR.2.2.2.2.2.1.1
    simp only [g_0, g_1, g_2, g_3, g_4, g_5, g_6, g_7, g_8, g_9, g_10, g_11, g_12, g_13, g_14, g_15, g_16, g_17, g_18, g_19, g_20, g_21, g_22, g_23, g_24, g_25, g_26, g_27, g_28, g_29, g_30, g_31, g_32, g_33, Option.bind_some, mW_obj, xrI_e, xrJ_e, xrD_e, xrA_e, xrV_e, h25, hp]
    rw [if_neg (nI_nlt (by omega) (by omega))]
    exact ⟨t, rfl, hR⟩
  | d + 1, i, t, P, h, hPi, hR, h25, ho, m1, m2 => by
    obtain ⟨o1, o2⟩ := ho i (by omega)
    rw [Nat.zero_add] at o1 o2
    have hp : mi t 18 = nI P.1 := hR.2.2.2.2.2.1.1
    have hp2 := hR.2.2.2.2.2.1.2
    rw [e_X8_where_88, b_X8_where_88]
    simp only [g_0, g_1, g_2, g_3, g_4, g_5, g_6, g_7, g_8, g_9, g_10, g_11, g_12, g_13, g_14, g_15, g_16, g_17, g_18, g_19, g_20, g_21, g_22, g_23, g_24, g_25, g_26, g_27, g_28, g_29, g_30, g_31, g_32, g_33, Option.bind_some, mW_obj, xrI_e, xrJ_e, xrD_e, xrA_e, xrV_e, h25]
    rw [if_pos (nI_lt (by omega) (by omega))]
    simp only [a_23 (show i < 48 by omega), a_24 (show i < 48 by omega), Option.bind_some, o1, o2, m1, m2, c_order hk (hg i (by omega)) hb, g_0, g_1, g_2, g_3, g_4, g_5, g_6, g_7, g_8, g_9, g_10, g_11, g_12, g_13, g_14, g_15, g_16, g_17, g_18, g_19, g_20, g_21, g_22, g_23, g_24, g_25, g_26, g_27, g_28, g_29, g_30, g_31, g_32, g_33, Option.bind_some, mW_obj, xrI_e, xrJ_e, xrD_e, xrA_e, xrV_e]
    unfold fnd
    have key : (nI (ord3 k (g i) b) = how) ↔ ord3 k (g i) b = how.toNatClampNeg := by
      have := ord3_lt k (g i) b
      have := hh.2
      conv => lhs; rw [inB_nI hh]
      exact nI_eq (by omega) (by omega)
    by_cases he : ord3 k (g i) b = how.toNatClampNeg
    · rw [if_pos (key.mpr he)]
      simp only [hp, s_16 (show P.1 < 24 by omega), s_17 (show P.1 < 24 by omega), g_0, g_1, g_2, g_3, g_4, g_5, g_6, g_7, g_8, g_9, g_10, g_11, g_12, g_13, g_14, g_15, g_16, g_17, g_18, g_19, g_20, g_21, g_22, g_23, g_24, g_25, g_26, g_27, g_28, g_29, g_30, g_31, g_32, g_33, Option.bind_some, mW_obj, xrI_e, xrJ_e, xrD_e, xrA_e, xrV_e, p_6, p_7, p_8, p_9, p_10, p_13, p_15, p_18, p_19, p_20, p_21, p_22, p_25, mj_si, md_si, mI_si, mJ_si, mD_si, mi_sj, md_sj, mI_sj, mJ_sj, mD_sj, mi_sd, mj_sd, mI_sd, mJ_sd, mD_sd, mi_sI, mj_sI, md_sI, mJ_sI, mD_sI, mi_sJ, mj_sJ, md_sJ, mI_sJ, mD_sJ, mi_sD, mj_sD, md_sD, mI_sD, mJ_sD, mi_si_e, mj_sj_e, md_sd_e, nI_1, decide_eq_true he, ↓reduceIte]
      refine c_where_l hn hk hh hg hb d (i + 1) _ _ (by omega) (by simp only; omega) ⟨hR.1, hR.2.1, hR.2.2.1, hR.2.2.2.1, hR.2.2.2.2.1, ⟨rfl, fun j hj => ?_⟩, hR.2.2.2.2.2.2⟩ h25 ho m1 m2
      rw [mI_si, mI_sI_n _ _ _ _ (show 16 ≠ 17 by decide), mI_sI_e, mI_sI_e, mI_sI_n _ _ _ _ (show 17 ≠ 16 by decide)]
      show (if j = P.1 then _ else _) = nI (if j = P.1 then i else P.2.1 j) ∧ (if j = P.1 then _ else _) = nI (if j = P.1 then i else P.2.2 j)
      by_cases hj2 : j = P.1
      · rw [if_pos hj2, if_pos hj2, if_pos hj2, if_pos hj2]
        exact ⟨rfl, rfl⟩
      · rw [if_neg hj2, if_neg hj2, if_neg hj2, if_neg hj2]
        exact hp2 j (by have : j < P.1 + 1 := hj; show j < P.1; omega)
    · rw [if_neg (fun q => he (key.mp q))]
      simp only [nI_1, decide_eq_false he, Bool.false_eq_true, ↓reduceIte]
      exact c_where_l hn hk hh hg hb d (i + 1) t P (by omega) (by omega) hR h25 ho m1 m2
theorem m_where {c k how : Int32} {v : Int64} (hR : Rm S t) (hw : wf S) : ∃ t', xev 135 0 [some (xA (some (m0))), some (xI (c)), some (xI (k)), some (xI (how)), some (xJ (v)), none, none] [] (mW m0 t u) = some (some (xI (spWhere S c k how v).1), mW m0 t' u) ∧ Rm (spWhere S c k how v).2 t' := by
  unfold spWhere
  rw [e_X8_where_0, b_X8_where_0]
  by_cases hc : inB c 10
  · rw [if_neg (fun q => q hc), c_colt hc]
    simp only [g_0, g_1, g_2, g_3, g_4, g_5, g_6, g_7, g_8, g_9, g_10, g_11, g_12, g_13, g_14, g_15, g_16, g_17, g_18, g_19, g_20, g_21, g_22, g_23, g_24, g_25, g_26, g_27, g_28, g_29, g_30, g_31, g_32, g_33, Option.bind_some, mW_obj, xrI_e, xrJ_e, xrD_e, xrA_e, xrV_e, if_neg i10]
    by_cases hk8 : inB k 8
    · rw [c_rt hk8 (by decide) (show (7 : Int64) = (nI 8 - 1).toInt64 by decide)]
      simp only [g_0, g_1, g_2, g_3, g_4, g_5, g_6, g_7, g_8, g_9, g_10, g_11, g_12, g_13, g_14, g_15, g_16, g_17, g_18, g_19, g_20, g_21, g_22, g_23, g_24, g_25, g_26, g_27, g_28, g_29, g_30, g_31, g_32, g_33, Option.bind_some, mW_obj, xrI_e, xrJ_e, xrD_e, xrA_e, xrV_e, if_neg i10]
      by_cases hh : inB how 3
      · rw [c_rt hh (by decide) (show (2 : Int64) = (nI 3 - 1).toInt64 by decide), if_neg (fun q => q.elim (fun q => q hk8) (fun q => q hh))]
        obtain ⟨t1, h1, h2, h3, h4, _⟩ := m_readAll (m0 := m0) (u := u) (b := 0) hR hw hc.2 hk8.2 (by decide)
        obtain ⟨r1, r2, r3, r4, r5, r6⟩ := rAll_ok hw hc.2 hk8.2
        rw [← inB_nI hc, ← inB_nI hk8, nI_0] at h1
        simp only [h1, g_0, g_1, g_2, g_3, g_4, g_5, g_6, g_7, g_8, g_9, g_10, g_11, g_12, g_13, g_14, g_15, g_16, g_17, g_18, g_19, g_20, g_21, g_22, g_23, g_24, g_25, g_26, g_27, g_28, g_29, g_30, g_31, g_32, g_33, Option.bind_some, mW_obj, xrI_e, xrJ_e, xrD_e, xrA_e, xrV_e, p_6, p_7, p_8, p_9, p_10, p_13, p_15, p_18, p_19, p_20, p_21, p_22, p_25, mj_si, md_si, mI_si, mJ_si, mD_si, mi_sj, md_sj, mI_sj, mJ_sj, mD_sj, mi_sd, mj_sd, mI_sd, mJ_sd, mD_sd, mi_sI, mj_sI, md_sI, mJ_sI, mD_sI, mi_sJ, mj_sJ, md_sJ, mI_sJ, mD_sJ, mi_sD, mj_sD, md_sD, mI_sD, mJ_sD, mi_si_e, mj_sj_e, md_sd_e, if_neg i10]
        by_cases h4' : (rAll S c.toNatClampNeg k.toNatClampNeg).1 = 4
        · rw [if_pos ((n4 r1).mpr h4'), if_pos h4']
          have h2' := Rm_uA (x := nI (rAll S c.toNatClampNeg k.toNatClampNeg).1) h2
          have e6 : (k < 6) ↔ k.toNatClampNeg < 6 := nI_big hk8 6 (by decide) (by decide)
          have hkk : (if k.toNatClampNeg < 6 then 5 else k.toNatClampNeg) < 8 := by
            split
            · decide
            · exact hk8.2
          obtain ⟨t2, k1, k2, k3, k4, k5⟩ := m_make2 (m0 := m0) (u := u) (t := si t1 15 (nI (rAll S c.toNatClampNeg k.toNatClampNeg).1)) hkk v
          obtain ⟨z1, z2⟩ := mkN_ok (qN S) hkk v
          have go : ∀ w, w = (mW m0 t2 u) → ∃ t', (xput w m0 7 18 (xI 0)).bind (fun w => xev 135 88 [some (xA (some (m0))), none, some (xI (k)), some (xI (how)), none, none, some (xI (0))] [] w) = some (some (xI (nI (fnd (fun i => decide (ord3 k.toNatClampNeg ((rAll S c.toNatClampNeg k.toNatClampNeg).2.2.1 i) (mkN (if k.toNatClampNeg < 6 then 5 else k.toNatClampNeg) v) = how.toNatClampNeg)) id id (rAll S c.toNatClampNeg k.toNatClampNeg).2.1 0 P00).1)), mW m0 t' u) ∧ Rm (uP (uA (rAll S c.toNatClampNeg k.toNatClampNeg).2.2.2 4) (fnd (fun i => decide (ord3 k.toNatClampNeg ((rAll S c.toNatClampNeg k.toNatClampNeg).2.2.1 i) (mkN (if k.toNatClampNeg < 6 then 5 else k.toNatClampNeg) v) = how.toNatClampNeg)) id id (rAll S c.toNatClampNeg k.toNatClampNeg).2.1 0 P00)) t' := by
            rintro w rfl
            simp only [p_6, p_7, p_8, p_9, p_10, p_13, p_15, p_18, p_19, p_20, p_21, p_22, p_25, Option.bind_some]
            have hR2 := k4 _ h2'
            have hl := c_where_l (m0 := m0) (u := u) (S := uA (rAll S c.toNatClampNeg k.toNatClampNeg).2.2.2 (nI (rAll S c.toNatClampNeg k.toNatClampNeg).1)) (how := how) (b := mkN (if k.toNatClampNeg < 6 then 5 else k.toNatClampNeg) v) r3 hk8.2 hh (fun j hj => real_ok (r6 j hj).1 (r6 j hj).2 hk8.2) (real_ok z1 z2 hkk) _ 0 (si t2 18 0) P00 (Nat.zero_add _) (Nat.zero_le _) ⟨hR2.1, hR2.2.1, hR2.2.2.1, hR2.2.2.2.1, hR2.2.2.2.2.1, ⟨rfl, fun j hj => absurd hj (Nat.not_lt_zero j)⟩, hR2.2.2.2.2.2.2⟩ ((congrFun k5.1 25).trans h3) (fun j hj => by
              have := h4 j hj
              rw [mJ_si, mD_si, k5.2.1, k5.2.2]
              exact this) k2 k3
            rw [← inB_nI hk8, nI_0, h4'] at hl
            exact hl
          by_cases h6 : k.toNatClampNeg < 6
          · rw [if_pos (e6.mpr h6)]
            rw [if_pos h6] at k1
            rw [show (5 : Int32) = nI 5 from rfl, k1]
            exact go _ rfl
          · rw [if_neg (fun q => h6 (e6.mp q))]
            rw [if_neg h6, ← inB_nI hk8] at k1
            rw [k1]
            exact go _ rfl
        · rw [if_neg (fun h => h4' ((n4 r1).mp h)), if_neg h4']
          exact ⟨_, rfl, Rm_uA h2⟩
      · rw [c_rf hh (by decide) (show (2 : Int64) = (nI 3 - 1).toInt64 by decide), if_pos (Or.inr hh)]
        exact ⟨t, rfl, hR⟩
    · rw [c_rf hk8 (by decide) (show (7 : Int64) = (nI 8 - 1).toInt64 by decide), if_pos (Or.inl hk8)]
      exact ⟨t, rfl, hR⟩
  · rw [if_pos hc, c_colf hc]
    exact ⟨t, rfl, hR⟩
end ML2
