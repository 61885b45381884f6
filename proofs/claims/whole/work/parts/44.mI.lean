/-! the reference gathers, tells, counts -/
section MI
variable {m0 : Nat} {t t0 : mS} {u : xW} {S : sS}
theorem c_gath_1 {f q0 : Nat} {side to : Int32} {P : Nat × (Nat → Nat) × (Nat → Nat)} {n : Nat} (hP : RmP P t) (hP2 : P.1 ≤ 24 ∧ ∀ i, i < P.1 → P.2.1 i < 24 ∧ P.2.2 i < 24) (hf : f < 16) (h1 : mI t 1 f = nI n) (hn : n ≤ 24) (h0 : mI t 0 f = nI q0) : ∀ d k, k + d = P.1 → (∀ i, i < k → sdX P side i < n) → ((∀ i, i < P.1 → sdX P side i < n) → ∃ q, q < 16 ∧ unu t (-6) q ∧ xev 139 54 [some (xA (some (m0))), none, some (xI (side)), some (xI (to)), some (xI (nI f)), some (xI (nI k)), none] [] (mW m0 t u) = xev 139 130 [some (xA (some (m0))), none, some (xI (side)), some (xI (to)), some (xI (nI f)), some (xI (nI q)), some (xI (0))] [] (mW m0 (mBegin t q (nI q0) (nI P.1)) u)) ∧ ((¬ ∀ i, i < P.1 → sdX P side i < n) → xev 139 54 [some (xA (some (m0))), none, some (xI (side)), some (xI (to)), some (xI (nI f)), some (xI (nI k)), none] [] (mW m0 t u) = some (some (xI 4), mW m0 t u))
  | 0, k, h, hk => by
    obtain rfl : k = P.1 := by omega
    refine ⟨fun _ => ?_, fun h => absurd hk h⟩
    obtain ⟨q, q16, un, hfr⟩ := c_free (m0 := m0) (t := t) (u := u) (-6)
    refine ⟨q, q16, un, ?_⟩
    conv => lhs; rw [e_X8_gather_54, b_X8_gather_54]
    simp only [g_0, g_1, g_2, g_3, g_4, g_5, g_6, g_7, g_8, g_9, g_10, g_11, g_12, g_13, g_14, g_15, g_16, g_17, g_18, g_19, g_20, g_21, g_22, g_23, g_24, g_25, g_26, g_27, g_28, g_29, g_30, g_31, g_32, g_33, Option.bind_some, mW_obj, xrI_e, xrJ_e, xrD_e, xrA_e, xrV_e, hP.1]
    rw [if_neg (nI_nlt (by omega) (by omega)), hfr]
    simp only [g_0, g_1, g_2, g_3, g_4, g_5, g_6, g_7, g_8, g_9, g_10, g_11, g_12, g_13, g_14, g_15, g_16, g_17, g_18, g_19, g_20, g_21, g_22, g_23, g_24, g_25, g_26, g_27, g_28, g_29, g_30, g_31, g_32, g_33, Option.bind_some, mW_obj, xrI_e, xrJ_e, xrD_e, xrA_e, xrV_e, a_0 hf, h0, hP.1, c_begin q16]
  | d + 1, k, h, hk => by
    obtain ⟨p1, p2⟩ := hP.2 k (by omega)
    obtain ⟨p3, p4⟩ := hP2.2 k (by omega)
    have step : xev 139 54 [some (xA (some (m0))), none, some (xI (side)), some (xI (to)), some (xI (nI f)), some (xI (nI k)), none] [] (mW m0 t u) = if sdX P side k < n then xev 139 54 [some (xA (some (m0))), none, some (xI (side)), some (xI (to)), some (xI (nI f)), some (xI (nI (k + 1))), none] [] (mW m0 t u) else some (some (xI 4), mW m0 t u) := by
      conv => lhs; rw [e_X8_gather_54, b_X8_gather_54]
      simp only [g_0, g_1, g_2, g_3, g_4, g_5, g_6, g_7, g_8, g_9, g_10, g_11, g_12, g_13, g_14, g_15, g_16, g_17, g_18, g_19, g_20, g_21, g_22, g_23, g_24, g_25, g_26, g_27, g_28, g_29, g_30, g_31, g_32, g_33, Option.bind_some, mW_obj, xrI_e, xrJ_e, xrD_e, xrA_e, xrV_e, hP.1]
      rw [if_pos (nI_lt (by omega) (by omega))]
      simp only [a_16 (show k < 24 by omega), a_17 (show k < 24 by omega), Option.bind_some, p1, p2, a_1 hf, h1, nI_ltI (show P.2.1 k < 2 ^ 31 by omega) (show n < 2 ^ 31 by omega), nI_ltI (show P.2.2 k < 2 ^ 31 by omega) (show n < 2 ^ 31 by omega), nI_1]
      unfold sdX
      by_cases hs : side = 0
      · rw [if_pos hs, if_pos hs]
      · rw [if_neg hs, if_neg hs]
    by_cases hb : sdX P side k < n
    · rw [step, if_pos hb]
      exact c_gath_1 hP hP2 hf h1 hn h0 d (k + 1) (by omega) (fun i hi => by
        by_cases hik : i = k
        · rw [hik]; exact hb
        · exact hk i (by omega))
    · rw [step, if_neg hb]
      exact ⟨fun h => absurd (h k (by omega)) hb, fun _ => rfl⟩
theorem c_gath_2 {f q c n : Nat} {side : Int32} {P : Nat × (Nat → Nat) × (Nat → Nat)} (hP : RmP P t0) (hP2 : P.1 ≤ 24) (hf : f < 16) (hq : q < 16) (hqf : q ≠ f) (hc : c < 10) (hn : n ≤ 24) (hall : ∀ i, i < P.1 → sdX P side i < n) : ∀ d k, k + d = P.1 → xev 139 130 [some (xA (some (m0))), none, some (xI (side)), some (xI (nI c)), some (xI (nI f)), some (xI (nI q)), some (xI (nI k))] [] (mW m0 (mFold t0 (fun j => 24 * q + j) (fun j => mT t0 (24 * f + sdX P side j)) k) u) = some (some (xI 0), mW m0 (sI (mFold t0 (fun j => 24 * q + j) (fun j => mT t0 (24 * f + sdX P side j)) P.1) 5 c (nI q)) u)
  | 0, k, h => by
    obtain rfl : k = P.1 := by omega
    rw [e_X8_gather_130, b_X8_gather_130]
    simp only [g_0, g_1, g_2, g_3, g_4, g_5, g_6, g_7, g_8, g_9, g_10, g_11, g_12, g_13, g_14, g_15, g_16, g_17, g_18, g_19, g_20, g_21, g_22, g_23, g_24, g_25, g_26, g_27, g_28, g_29, g_30, g_31, g_32, g_33, Option.bind_some, mW_obj, xrI_e, xrJ_e, xrD_e, xrA_e, xrV_e, mFold_i (t := t0), hP.1]
    rw [if_neg (nI_nlt (by omega) (by omega)), s_5 hc]
    rfl
  | d + 1, k, h => by
    obtain ⟨p1, p2⟩ := hP.2 k (by omega)
    have hb := hall k (by omega)
    have ih := c_gath_2 (side := side) hP hP2 hf hq hqf hc hn hall d (k + 1) (by omega)
    have ev : mT (mFold t0 (fun j => 24 * q + j) (fun j => mT t0 (24 * f + sdX P side j)) k) (24 * f + sdX P side k) = mT t0 (24 * f + sdX P side k) := mFold_out k (fun j hj => by omega)
    have hcp := c_copy (m0 := m0) (u := u) (t := mFold t0 (fun j => 24 * q + j) (fun j => mT t0 (24 * f + sdX P side j)) k) (k := 24 * f + sdX P side k) (j := 24 * q + k) (by omega) (by omega)
    rw [ev] at hcp
    rw [e_X8_gather_130, b_X8_gather_130]
    simp only [g_0, g_1, g_2, g_3, g_4, g_5, g_6, g_7, g_8, g_9, g_10, g_11, g_12, g_13, g_14, g_15, g_16, g_17, g_18, g_19, g_20, g_21, g_22, g_23, g_24, g_25, g_26, g_27, g_28, g_29, g_30, g_31, g_32, g_33, Option.bind_some, mW_obj, xrI_e, xrJ_e, xrD_e, xrA_e, xrV_e, mFold_i (t := t0), hP.1]
    rw [if_pos (nI_lt (by omega) (by omega))]
    simp only [a_16 (show k < 24 by omega), a_17 (show k < 24 by omega), mFold_I (t := t0) _ _ (show 16 ≠ 2 by decide), mFold_I (t := t0) _ _ (show 17 ≠ 2 by decide), Option.bind_some, p1, p2, at_N]
    by_cases hs : side = 0
    · have e : sdX P side k = P.2.1 k := by unfold sdX; rw [if_pos hs]
      rw [if_pos hs, ← e, hcp]
      simp only [g_0, g_1, g_2, g_3, g_4, g_5, g_6, g_7, g_8, g_9, g_10, g_11, g_12, g_13, g_14, g_15, g_16, g_17, g_18, g_19, g_20, g_21, g_22, g_23, g_24, g_25, g_26, g_27, g_28, g_29, g_30, g_31, g_32, g_33, Option.bind_some, mW_obj, xrI_e, xrJ_e, xrD_e, xrA_e, xrV_e, nI_1]
      exact ih
    · have e : sdX P side k = P.2.2 k := by unfold sdX; rw [if_neg hs]
      rw [if_neg hs, ← e, hcp]
      simp only [g_0, g_1, g_2, g_3, g_4, g_5, g_6, g_7, g_8, g_9, g_10, g_11, g_12, g_13, g_14, g_15, g_16, g_17, g_18, g_19, g_20, g_21, g_22, g_23, g_24, g_25, g_26, g_27, g_28, g_29, g_30, g_31, g_32, g_33, Option.bind_some, mW_obj, xrI_e, xrJ_e, xrD_e, xrA_e, xrV_e, nI_1]
      exact ih
theorem m_gather {c side to : Int32} {id : Nat} (hR : Rm S t) (hw : wf S) (hf : qR S id = none) : ∃ t', xev 139 0 [some (xA (some (m0))), some (xI (c)), some (xI (side)), some (xI (to)), none, none, none] [] (mW m0 t u) = some (some (xI (spGath S c side to id).1), mW m0 t' u) ∧ Rm (spGath S c side to id).2 t' := by
  unfold spGath
  rw [e_X8_gather_0, b_X8_gather_0]
  by_cases hc : inB c 10
  · by_cases ht : inB to 10
    · rw [if_neg (fun q => q.elim (fun q => q hc) (fun q => q ht)), c_colt hc]
      simp only [g_0, g_1, g_2, g_3, g_4, g_5, g_6, g_7, g_8, g_9, g_10, g_11, g_12, g_13, g_14, g_15, g_16, g_17, g_18, g_19, g_20, g_21, g_22, g_23, g_24, g_25, g_26, g_27, g_28, g_29, g_30, g_31, g_32, g_33, Option.bind_some, mW_obj, xrI_e, xrJ_e, xrD_e, xrA_e, xrV_e, if_neg i10, c_colt ht]
      by_cases hh : inB side 2
      · rw [c_rt hh (by decide) (show (1 : Int64) = (nI 2 - 1).toInt64 by decide), if_neg (fun q => q hh)]
        have hfs := c_firstS (m0 := m0) (u := u) hR hw hc.2
        rw [← inB_nI hc] at hfs
        have ac := a_5 (m0 := m0) (t := t) (u := u) hc.2
        rw [← inB_nI hc] at ac
        simp only [g_0, g_1, g_2, g_3, g_4, g_5, g_6, g_7, g_8, g_9, g_10, g_11, g_12, g_13, g_14, g_15, g_16, g_17, g_18, g_19, g_20, g_21, g_22, g_23, g_24, g_25, g_26, g_27, g_28, g_29, g_30, g_31, g_32, g_33, Option.bind_some, mW_obj, xrI_e, xrJ_e, xrD_e, xrA_e, xrV_e, if_neg i10, hfs]
        cases hq : qC S c.toNatClampNeg with
        | inr v =>
          rw [lenA_th hq, if_neg (th0 v)]
          exact ⟨t, rfl, hR⟩
        | inl r =>
          obtain ⟨x, f, hx, f16, e5, hs⟩ := hR.1.1 _ r hc.2 hq
          obtain ⟨y, hy, rk⟩ := wf_row hw hc.2 hq
          obtain rfl : x = y := Option.some.inj (hx.symm.trans hy)
          have hn := rk.2.1
          have hP := hR.2.2.2.2.2.1
          have hP2 := hw.2.2.2.2.1
          rw [lenA_row hq, if_pos (show nI 0 = 0 from rfl)]
          simp only [ac, Option.bind_some, e5, hx]
          obtain ⟨g1, g2⟩ := c_gath_1 (m0 := m0) (t := t) (u := u) (side := side) (to := to) hP hP2 f16 hs.2.1 hn hs.1 (qP S).1 0 (by omega) (fun i hi => absurd hi (Nat.not_lt_zero _))
          rw [nI_0] at g1 g2
          by_cases hall : ∀ i, i < (qP S).1 → sdX (qP S) side i < x.2.1
          · obtain ⟨q, q16, un, hg⟩ := g1 hall
            rw [hg, if_pos hall]
            have hqf : q ≠ f := fun h => un.2.2 _ hc.2 (h ▸ e5)
            have wb := wr_begin t q (nI x.1) (nI (qP S).1)
            have hP' := (Rm_oth wb.1 hR.2).2.2.2.2.1
            have hl := c_gath_2 (m0 := m0) (u := u) (t0 := mBegin t q (nI x.1) (nI (qP S).1)) (side := side) hP' hP2.1 f16 q16 hqf ht.2 hn hall (qP S).1 0 (by omega)
            rw [← inB_nI ht, nI_0, mFold_0] at hl
            rw [hl]
            have wa := wr_tr wb (wr_fold (mBegin t q (nI x.1) (nI (qP S).1)) (q := q) (dst := fun j => 24 * q + j) (v := fun j => mT (mBegin t q (nI x.1) (nI (qP S).1)) (24 * f + sdX (qP S) side j)) (qP S).1 (fun j hj => ⟨by omega, by have := hP2.1; omega⟩))
            refine ⟨_, rfl, Rm_hang hR hw hf q16 un.2.2 (fun h => un.1 h.symm) (fun p _ hp _ => wa.2.2 p hp) wa.1 wa.2.1 (slt_fold (x := (x.1, (qP S).1, fun i => x.2.2 (sdX (qP S) side i))) (begin_0 _ _ _ _).1 (begin_0 _ _ _ _).2 rfl (fun i hi => ?_)) ht.2⟩
            have hb := hall i hi
            rw [(wb.2.2 f (fun h => hqf h.symm)).2.2 _ (by omega)]
            exact hs.2.2 _ hb
          · rw [g2 hall, if_neg hall]
            exact ⟨t, rfl, hR⟩
      · rw [c_rf hh (by decide) (show (1 : Int64) = (nI 2 - 1).toInt64 by decide), if_pos hh]
        exact ⟨t, rfl, hR⟩
    · rw [if_pos (Or.inr ht), c_colt hc]
      simp only [g_0, g_1, g_2, g_3, g_4, g_5, g_6, g_7, g_8, g_9, g_10, g_11, g_12, g_13, g_14, g_15, g_16, g_17, g_18, g_19, g_20, g_21, g_22, g_23, g_24, g_25, g_26, g_27, g_28, g_29, g_30, g_31, g_32, g_33, Option.bind_some, mW_obj, xrI_e, xrJ_e, xrD_e, xrA_e, xrV_e, if_neg i10, c_colf ht, if_pos]
      exact ⟨t, rfl, hR⟩
  · rw [if_pos (Or.inl hc), c_colf hc]
    exact ⟨t, rfl, hR⟩
theorem m_pair {i what : Int32} (hR : Rm S t) (hw : wf S) : xev 138 0 [some (xA (some (m0))), some (xI (i)), some (xI (what))] [] (mW m0 t u) = some (some (xI (spPair S i what)), mW m0 t u) := by
  unfold spPair
  rw [e_X8_pair_0, b_X8_pair_0]
  have hP := hR.2.2.2.2.2.1
  have hP2 := hw.2.2.2.2.1
  by_cases hh : inB what 2
  · rw [c_rt hh (by decide) (show (1 : Int64) = (nI 2 - 1).toInt64 by decide), if_neg (fun q => q hh)]
    simp only [g_0, g_1, g_2, g_3, g_4, g_5, g_6, g_7, g_8, g_9, g_10, g_11, g_12, g_13, g_14, g_15, g_16, g_17, g_18, g_19, g_20, g_21, g_22, g_23, g_24, g_25, g_26, g_27, g_28, g_29, g_30, g_31, g_32, g_33, Option.bind_some, mW_obj, xrI_e, xrJ_e, xrD_e, xrA_e, xrV_e, if_neg i10, hP.1]
    by_cases hi : inB i (qP S).1
    · rw [c_rt hi (by omega) rfl, if_pos hi]
      have h24 : i.toNatClampNeg < 24 := by have := hi.2; omega
      have a16 := a_16 (m0 := m0) (t := t) (u := u) h24
      have a17 := a_17 (m0 := m0) (t := t) (u := u) h24
      rw [← inB_nI hi] at a16 a17
      obtain ⟨p1, p2⟩ := hP.2 _ hi.2
      simp only [g_0, g_1, g_2, g_3, g_4, g_5, g_6, g_7, g_8, g_9, g_10, g_11, g_12, g_13, g_14, g_15, g_16, g_17, g_18, g_19, g_20, g_21, g_22, g_23, g_24, g_25, g_26, g_27, g_28, g_29, g_30, g_31, g_32, g_33, Option.bind_some, mW_obj, xrI_e, xrJ_e, xrD_e, xrA_e, xrV_e, if_neg i10, a16, a17, p1, p2]
      by_cases h0 : what = 0
      · rw [if_pos h0, if_pos h0]
      · rw [if_neg h0, if_neg h0]
    · rw [c_rf hi (by omega) rfl, if_neg hi]
      rfl
  · rw [c_rf hh (by decide) (show (1 : Int64) = (nI 2 - 1).toInt64 by decide), if_pos hh]
    rfl
theorem m_met {a b : Int32} (hR : Rm S t) : xev 143 0 [some (xA (some (m0))), some (xI (a)), some (xI (b))] [] (mW m0 t u) = some (some (xI (spMet S a b)), mW m0 t u) := by
  unfold spMet
  rw [e_X8_met_0, b_X8_met_0]
  by_cases ha : inB a 19
  · rw [c_rt ha (by decide) (show (18 : Int64) = (nI 19 - 1).toInt64 by decide)]
    simp only [g_0, g_1, g_2, g_3, g_4, g_5, g_6, g_7, g_8, g_9, g_10, g_11, g_12, g_13, g_14, g_15, g_16, g_17, g_18, g_19, g_20, g_21, g_22, g_23, g_24, g_25, g_26, g_27, g_28, g_29, g_30, g_31, g_32, g_33, Option.bind_some, mW_obj, xrI_e, xrJ_e, xrD_e, xrA_e, xrV_e, if_neg i10]
    by_cases hb : inB b 6
    · rw [c_rt hb (by decide) (show (5 : Int64) = (nI 6 - 1).toInt64 by decide), if_pos ⟨ha, hb⟩]
      have hl : 6 * a.toNatClampNeg + b.toNatClampNeg < 114 := by have := ha.2; have := hb.2; omega
      have e : (6 : Int32) * a + b = nI (6 * a.toNatClampNeg + b.toNatClampNeg) := by
        conv => lhs; rw [inB_nI ha, inB_nI hb]
        rw [show (6 : Int32) = nI 6 from rfl, pk_mul, nI_add]
      simp only [g_0, g_1, g_2, g_3, g_4, g_5, g_6, g_7, g_8, g_9, g_10, g_11, g_12, g_13, g_14, g_15, g_16, g_17, g_18, g_19, g_20, g_21, g_22, g_23, g_24, g_25, g_26, g_27, g_28, g_29, g_30, g_31, g_32, g_33, Option.bind_some, mW_obj, xrI_e, xrJ_e, xrD_e, xrA_e, xrV_e, if_neg i10, e, a_14 hl]
      rw [hR.2.2.2.2.1.1 _ hl]
    · rw [c_rf hb (by decide) (show (5 : Int64) = (nI 6 - 1).toInt64 by decide), if_neg (fun q => hb q.2)]
      rfl
  · rw [c_rf ha (by decide) (show (18 : Int64) = (nI 19 - 1).toInt64 by decide), if_neg (fun q => ha q.1)]
    rfl
theorem c_unlike_l {T : Nat → Int32} (hT : ∀ i, i < 114 → mI t 14 i = T i) : ∀ d k a, k + d = 114 → xev 144 4 [some (xA (some (m0))), some (xI (nI a)), some (xI (nI k))] [] (mW m0 t u) = some (some (xI (nI (a + dif T d k))), mW m0 t u)
  | 0, k, a, h => by
    obtain rfl : k = 114 := by omega
    rw [e_X8_unlike_4, b_X8_unlike_4, if_neg (by decide)]
    rfl
  | d + 1, k, a, h => by
    rw [e_X8_unlike_4, b_X8_unlike_4, if_pos (show nI k < 114 from nI_lt (b := 114) (by omega) (by decide))]
    simp only [g_0, g_1, g_2, g_3, g_4, g_5, g_6, g_7, g_8, g_9, g_10, g_11, g_12, g_13, g_14, g_15, g_16, g_17, g_18, g_19, g_20, g_21, g_22, g_23, g_24, g_25, g_26, g_27, g_28, g_29, g_30, g_31, g_32, g_33, Option.bind_some, mW_obj, xrI_e, xrJ_e, xrD_e, xrA_e, xrV_e, a_14 (show k < 114 by omega), hT k (by omega)]
    unfold dif
    by_cases h0 : 0 < T k
    · rw [if_pos h0, if_pos h0]
      simp only [nI_1]
      rw [c_unlike_l hT d (k + 1) (a + 1) (by omega), Nat.add_assoc]
    · rw [if_neg h0, if_neg h0]
      simp only [nI_1, Int32.add_zero]
      rw [c_unlike_l hT d (k + 1) a (by omega), Nat.zero_add]
theorem m_count {what : Int32} (hR : Rm S t) (hw : wf S) : xev 146 0 [some (xA (some (m0))), some (xI (what))] [] (mW m0 t u) = some (some (xI (spCount S what)), mW m0 t u) := by
  unfold spCount
  rw [e_X8_count_0, b_X8_count_0]
  simp only [g_0, g_1, g_2, g_3, g_4, g_5, g_6, g_7, g_8, g_9, g_10, g_11, g_12, g_13, g_14, g_15, g_16, g_17, g_18, g_19, g_20, g_21, g_22, g_23, g_24, g_25, g_26, g_27, g_28, g_29, g_30, g_31, g_32, g_33, Option.bind_some, mW_obj, xrI_e, xrJ_e, xrD_e, xrA_e, xrV_e, show Int32.ofInt 0 = 0 from rfl, show Int32.ofInt 1 = 1 from rfl, show Int32.ofInt 2 = 2 from rfl, show Int32.ofInt 3 = 3 from rfl, show Int32.ofInt 4 = 4 from rfl, show Int32.ofInt 5 = 5 from rfl]
  by_cases h0 : what = 0
  · rw [if_pos h0, if_pos h0, hR.2.2.2.2.1.2]
  rw [if_neg h0, if_neg h0]
  by_cases h1 : what = 1
  · rw [if_pos h1, if_pos h1, hR.2.2.2.2.2.1.1]
  rw [if_neg h1, if_neg h1]
  by_cases h2 : what = 2
  · rw [if_pos h2, if_pos h2]
    cases hK : qK S with
    | none => rw [hR.1.2.2.2.1 hK, if_pos (by decide)]
    | some s =>
      obtain ⟨y, e, hy, e16, h6, hse, _⟩ := hR.1.2.2.2.2 s hK
      rw [h6, if_neg (nI_pos (by omega))]
      simp only [a_1 e16, hse.2.1, Option.bind_some, hy]
  rw [if_neg h2, if_neg h2]
  by_cases h3 : what = 3
  · rw [if_pos h3, if_pos h3]
    cases hK : qK S with
    | none => rw [hR.1.2.2.2.1 hK, if_pos (by decide)]
    | some s =>
      obtain ⟨y, e, hy, e16, h6, hse, _⟩ := hR.1.2.2.2.2 s hK
      rw [h6, if_neg (nI_pos (by omega))]
      simp only [a_0 e16, hse.1, Option.bind_some, hy]
  rw [if_neg h3, if_neg h3]
  by_cases h4 : what = 4
  · rw [if_pos h4, if_pos h4, hR.2.2.2.1.2]
  rw [if_neg h4, if_neg h4]
  by_cases h5 : what = 5
  · rw [if_pos h5, if_pos h5, e_X8_unlike_0, b_X8_unlike_0]
    have := c_unlike_l (m0 := m0) (u := u) hR.2.2.2.2.1.1 114 0 0 (by omega)
    rw [nI_0, Nat.zero_add] at this
    rw [this]
    rfl
  rw [if_neg h5, if_neg h5, c_in]
  simp only [Option.bind_some, xrI_e]
  have key : (what.toInt64 < 10 ∨ 19 < what.toInt64) ↔ ¬ (inB (what - 10) 10 ∧ ¬ what < 10) := by
    rw [show (10 : Int64) = (10 : Int32).toInt64 by decide, show (19 : Int64) = (19 : Int32).toInt64 by decide, w64, w64]
    by_cases hl : what < 10
    · exact ⟨fun _ h => h.2 hl, fun _ => Or.inl hl⟩
    · have hp : ¬ what < 0 := by
        intro h
        apply hl
        rw [Int32.lt_iff_toInt_lt] at h ⊢
        have z : (0 : Int32).toInt = 0 := by decide
        have o : (10 : Int32).toInt = 10 := by decide
        omega
      obtain ⟨j, hj, rfl⟩ := nI_of hp
      have hj10 : ¬ j < 10 := fun h => hl (nI_lt (b := 10) h (by decide))
      rw [show nI j - 10 = nI (j - 10) from nI_sub (b := 10) (by omega), inB_iff (by decide), show (19 : Int32) = nI 19 from rfl, nI_ltI (by decide) hj]
      constructor
      · rintro (h | h)
        · exact absurd h hl
        · rintro ⟨⟨i, hi, e⟩, _⟩
          have := (nI_eq (by omega) (by omega)).mp e
          omega
      · intro h
        right
        refine Classical.byContradiction fun q => h ⟨⟨j - 10, by omega, rfl⟩, hl⟩
  by_cases hb : inB (what - 10) 10 ∧ ¬ what < 10
  · rw [if_neg (fun q => key.mp q hb), if_neg i10, if_pos hb, e_X8_hung_0, b_X8_hung_0]
    have hc := hb.1
    have ac := a_5 (m0 := m0) (t := t) (u := u) hc.2
    rw [← inB_nI hc] at ac
    unfold cntO
    cases hq : qC S (what - 10).toNatClampNeg with
    | inr v =>
      have hk := hw.1 _ hc.2
      rw [hq] at hk
      have hn := hcd_np hw.2.2.2.2.2.1 hk
      have hv := hR.1.2.1 _ v hc.2 hq
      have hr := c_isRow_f (m0 := m0) (t := t) (u := u) hc.2 (by rintro ⟨i, hi, e⟩; exact hn i hi (hv.symm.trans e))
      rw [← inB_nI hc] at hr
      simp only [hr, g_0, g_1, g_2, g_3, g_4, g_5, g_6, g_7, g_8, g_9, g_10, g_11, g_12, g_13, g_14, g_15, g_16, g_17, g_18, g_19, g_20, g_21, g_22, g_23, g_24, g_25, g_26, g_27, g_28, g_29, g_30, g_31, g_32, g_33, Option.bind_some, mW_obj, xrI_e, xrJ_e, xrD_e, xrA_e, xrV_e, if_pos, ac, hv]
      rcases hcd_no hw.2.2.2.2.2.1 hk with ⟨e1, e2⟩ | ⟨e1, j, j1, j2, e2⟩ | ⟨e1, j, j1, j2, e2⟩
      · rw [e2, e1]; rfl
      · rw [e2, e1, if_neg (nI_m1 (by omega)), if_pos (show nI j < 1000 from nI_lt (b := 1000) (by omega) (by decide))]
        rfl
      · rw [e2, e1, if_neg (nI_m1 (by omega)), if_neg (show ¬ nI j < 1000 from nI_nlt (b := 1000) (by omega) (by omega))]
        rfl
    | inl r =>
      obtain ⟨x, f, hx, f16, e5, hs⟩ := hR.1.1 _ r hc.2 hq
      have hr := c_isRow_t (m0 := m0) (t := t) (u := u) hc.2 ⟨f, f16, e5⟩
      rw [← inB_nI hc] at hr
      rw [e5] at ac
      simp only [hr, g_0, g_1, g_2, g_3, g_4, g_5, g_6, g_7, g_8, g_9, g_10, g_11, g_12, g_13, g_14, g_15, g_16, g_17, g_18, g_19, g_20, g_21, g_22, g_23, g_24, g_25, g_26, g_27, g_28, g_29, g_30, g_31, g_32, g_33, Option.bind_some, mW_obj, xrI_e, xrJ_e, xrD_e, xrA_e, xrV_e, if_neg i10, ac, a_0 f16, hs.1, hx]
  · rw [if_pos (key.mpr hb), if_neg hb, if_pos rfl]
end MI
