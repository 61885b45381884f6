/-! the reference's pens and hand -/
section MB
variable {m0 : Nat} {t : mS} {u : xW} {S : sS} {c k : Nat} {cell : Int32}
theorem m_make (hk : k < 8) (v : Int64) : ∃ t', xev 96 0 [some (xA (some (m0))), some (xI (nI k)), some (xJ (v)), none] [] (mW m0 t u) = some (none, mW m0 t' u) ∧ mj t' 19 = (mkN k v).2.1 ∧ md t' 20 = (mkN k v).2.2 ∧ (∀ S, Rm S t → Rm S t') ∧ mi t' = mi t := by
  have h8 : k = 0 ∨ k = 1 ∨ k = 2 ∨ k = 3 ∨ k = 4 ∨ k = 5 ∨ k = 6 ∨ k = 7 := by omega
  rw [e_X8_make_0, b_X8_make_0]
  rcases h8 with rfl | rfl | rfl | rfl | rfl | rfl | rfl | rfl
  · simp (config := { decide := true }) only [g_0, g_1, g_2, g_3, g_4, g_5, g_6, g_7, g_8, g_9, g_10, g_11, g_12, g_13, g_14, g_15, g_16, g_17, g_18, g_19, g_20, g_21, g_22, g_23, g_24, g_25, g_26, g_27, g_28, g_29, g_30, g_31, g_32, g_33, Option.bind_some, mW_obj, xrI_e, xrJ_e, xrD_e, xrA_e, xrV_e, p_6, p_7, p_8, p_9, p_10, p_13, p_15, p_18, p_19, p_20, p_21, p_22, p_25, ↓reduceIte]
    exact ⟨_, rfl, rfl, rfl, fun _ h => h, rfl⟩
  · simp (config := { decide := true }) only [g_0, g_1, g_2, g_3, g_4, g_5, g_6, g_7, g_8, g_9, g_10, g_11, g_12, g_13, g_14, g_15, g_16, g_17, g_18, g_19, g_20, g_21, g_22, g_23, g_24, g_25, g_26, g_27, g_28, g_29, g_30, g_31, g_32, g_33, Option.bind_some, mW_obj, xrI_e, xrJ_e, xrD_e, xrA_e, xrV_e, p_6, p_7, p_8, p_9, p_10, p_13, p_15, p_18, p_19, p_20, p_21, p_22, p_25, ↓reduceIte]
    exact ⟨_, rfl, rfl, rfl, fun _ h => h, rfl⟩
  · simp (config := { decide := true }) only [g_0, g_1, g_2, g_3, g_4, g_5, g_6, g_7, g_8, g_9, g_10, g_11, g_12, g_13, g_14, g_15, g_16, g_17, g_18, g_19, g_20, g_21, g_22, g_23, g_24, g_25, g_26, g_27, g_28, g_29, g_30, g_31, g_32, g_33, Option.bind_some, mW_obj, xrI_e, xrJ_e, xrD_e, xrA_e, xrV_e, p_6, p_7, p_8, p_9, p_10, p_13, p_15, p_18, p_19, p_20, p_21, p_22, p_25, ↓reduceIte]
    exact ⟨_, rfl, rfl, rfl, fun _ h => h, rfl⟩
  · simp (config := { decide := true }) only [g_0, g_1, g_2, g_3, g_4, g_5, g_6, g_7, g_8, g_9, g_10, g_11, g_12, g_13, g_14, g_15, g_16, g_17, g_18, g_19, g_20, g_21, g_22, g_23, g_24, g_25, g_26, g_27, g_28, g_29, g_30, g_31, g_32, g_33, Option.bind_some, mW_obj, xrI_e, xrJ_e, xrD_e, xrA_e, xrV_e, p_6, p_7, p_8, p_9, p_10, p_13, p_15, p_18, p_19, p_20, p_21, p_22, p_25, ↓reduceIte]
    exact ⟨_, rfl, rfl, rfl, fun _ h => h, rfl⟩
  · simp (config := { decide := true }) only [g_0, g_1, g_2, g_3, g_4, g_5, g_6, g_7, g_8, g_9, g_10, g_11, g_12, g_13, g_14, g_15, g_16, g_17, g_18, g_19, g_20, g_21, g_22, g_23, g_24, g_25, g_26, g_27, g_28, g_29, g_30, g_31, g_32, g_33, Option.bind_some, mW_obj, xrI_e, xrJ_e, xrD_e, xrA_e, xrV_e, p_6, p_7, p_8, p_9, p_10, p_13, p_15, p_18, p_19, p_20, p_21, p_22, p_25, ↓reduceIte]
    exact ⟨_, rfl, rfl, rfl, fun _ h => h, rfl⟩
  · simp (config := { decide := true }) only [g_0, g_1, g_2, g_3, g_4, g_5, g_6, g_7, g_8, g_9, g_10, g_11, g_12, g_13, g_14, g_15, g_16, g_17, g_18, g_19, g_20, g_21, g_22, g_23, g_24, g_25, g_26, g_27, g_28, g_29, g_30, g_31, g_32, g_33, Option.bind_some, mW_obj, xrI_e, xrJ_e, xrD_e, xrA_e, xrV_e, p_6, p_7, p_8, p_9, p_10, p_13, p_15, p_18, p_19, p_20, p_21, p_22, p_25, ↓reduceIte]
    exact ⟨_, rfl, rfl, rfl, fun _ h => h, rfl⟩
  · simp (config := { decide := true }) only [g_0, g_1, g_2, g_3, g_4, g_5, g_6, g_7, g_8, g_9, g_10, g_11, g_12, g_13, g_14, g_15, g_16, g_17, g_18, g_19, g_20, g_21, g_22, g_23, g_24, g_25, g_26, g_27, g_28, g_29, g_30, g_31, g_32, g_33, Option.bind_some, mW_obj, xrI_e, xrJ_e, xrD_e, xrA_e, xrV_e, p_6, p_7, p_8, p_9, p_10, p_13, p_15, p_18, p_19, p_20, p_21, p_22, p_25, ↓reduceIte, nR_D (nR_l2f v), mj_si, md_si, mI_si, mJ_si, mD_si, mi_sj, md_sj, mI_sj, mJ_sj, mD_sj, mi_sd, mj_sd, mI_sd, mJ_sd, mD_sd, mi_sI, mj_sI, md_sI, mJ_sI, mD_sI, mi_sJ, mj_sJ, md_sJ, mI_sJ, mD_sJ, mi_sD, mj_sD, md_sD, mI_sD, mJ_sD, mi_si_e, mj_sj_e, md_sd_e, nR_D (nR_m6 v)]
    exact ⟨_, rfl, rfl, rfl, fun _ h => h, rfl⟩
  · simp (config := { decide := true }) only [g_0, g_1, g_2, g_3, g_4, g_5, g_6, g_7, g_8, g_9, g_10, g_11, g_12, g_13, g_14, g_15, g_16, g_17, g_18, g_19, g_20, g_21, g_22, g_23, g_24, g_25, g_26, g_27, g_28, g_29, g_30, g_31, g_32, g_33, Option.bind_some, mW_obj, xrI_e, xrJ_e, xrD_e, xrA_e, xrV_e, p_6, p_7, p_8, p_9, p_10, p_13, p_15, p_18, p_19, p_20, p_21, p_22, p_25, ↓reduceIte, nR_D (nR_m7 v)]
    exact ⟨_, rfl, rfl, rfl, fun _ h => h, rfl⟩
theorem m_make2 (hk : k < 8) (v : Int64) : ∃ t', xev 96 0 [some (xA (some (m0))), some (xI (nI k)), some (xJ (v)), none] [] (mW m0 t u) = some (none, mW m0 t' u) ∧ mj t' 19 = (mkN k v).2.1 ∧ md t' 20 = (mkN k v).2.2 ∧ (∀ S, Rm S t → Rm S t') ∧ (mi t' = mi t ∧ mJ t' = mJ t ∧ mD t' = mD t) := by
  have h8 : k = 0 ∨ k = 1 ∨ k = 2 ∨ k = 3 ∨ k = 4 ∨ k = 5 ∨ k = 6 ∨ k = 7 := by omega
  rw [e_X8_make_0, b_X8_make_0]
  rcases h8 with rfl | rfl | rfl | rfl | rfl | rfl | rfl | rfl
  · simp (config := { decide := true }) only [g_0, g_1, g_2, g_3, g_4, g_5, g_6, g_7, g_8, g_9, g_10, g_11, g_12, g_13, g_14, g_15, g_16, g_17, g_18, g_19, g_20, g_21, g_22, g_23, g_24, g_25, g_26, g_27, g_28, g_29, g_30, g_31, g_32, g_33, Option.bind_some, mW_obj, xrI_e, xrJ_e, xrD_e, xrA_e, xrV_e, p_6, p_7, p_8, p_9, p_10, p_13, p_15, p_18, p_19, p_20, p_21, p_22, p_25, ↓reduceIte]
    exact ⟨_, rfl, rfl, rfl, fun _ h => h, rfl, rfl, rfl⟩
  · simp (config := { decide := true }) only [g_0, g_1, g_2, g_3, g_4, g_5, g_6, g_7, g_8, g_9, g_10, g_11, g_12, g_13, g_14, g_15, g_16, g_17, g_18, g_19, g_20, g_21, g_22, g_23, g_24, g_25, g_26, g_27, g_28, g_29, g_30, g_31, g_32, g_33, Option.bind_some, mW_obj, xrI_e, xrJ_e, xrD_e, xrA_e, xrV_e, p_6, p_7, p_8, p_9, p_10, p_13, p_15, p_18, p_19, p_20, p_21, p_22, p_25, ↓reduceIte]
    exact ⟨_, rfl, rfl, rfl, fun _ h => h, rfl, rfl, rfl⟩
  · simp (config := { decide := true }) only [g_0, g_1, g_2, g_3, g_4, g_5, g_6, g_7, g_8, g_9, g_10, g_11, g_12, g_13, g_14, g_15, g_16, g_17, g_18, g_19, g_20, g_21, g_22, g_23, g_24, g_25, g_26, g_27, g_28, g_29, g_30, g_31, g_32, g_33, Option.bind_some, mW_obj, xrI_e, xrJ_e, xrD_e, xrA_e, xrV_e, p_6, p_7, p_8, p_9, p_10, p_13, p_15, p_18, p_19, p_20, p_21, p_22, p_25, ↓reduceIte]
    exact ⟨_, rfl, rfl, rfl, fun _ h => h, rfl, rfl, rfl⟩
  · simp (config := { decide := true }) only [g_0, g_1, g_2, g_3, g_4, g_5, g_6, g_7, g_8, g_9, g_10, g_11, g_12, g_13, g_14, g_15, g_16, g_17, g_18, g_19, g_20, g_21, g_22, g_23, g_24, g_25, g_26, g_27, g_28, g_29, g_30, g_31, g_32, g_33, Option.bind_some, mW_obj, xrI_e, xrJ_e, xrD_e, xrA_e, xrV_e, p_6, p_7, p_8, p_9, p_10, p_13, p_15, p_18, p_19, p_20, p_21, p_22, p_25, ↓reduceIte]
    exact ⟨_, rfl, rfl, rfl, fun _ h => h, rfl, rfl, rfl⟩
  · simp (config := { decide := true }) only [g_0, g_1, g_2, g_3, g_4, g_5, g_6, g_7, g_8, g_9, g_10, g_11, g_12, g_13, g_14, g_15, g_16, g_17, g_18, g_19, g_20, g_21, g_22, g_23, g_24, g_25, g_26, g_27, g_28, g_29, g_30, g_31, g_32, g_33, Option.bind_some, mW_obj, xrI_e, xrJ_e, xrD_e, xrA_e, xrV_e, p_6, p_7, p_8, p_9, p_10, p_13, p_15, p_18, p_19, p_20, p_21, p_22, p_25, ↓reduceIte]
    exact ⟨_, rfl, rfl, rfl, fun _ h => h, rfl, rfl, rfl⟩
  · simp (config := { decide := true }) only [g_0, g_1, g_2, g_3, g_4, g_5, g_6, g_7, g_8, g_9, g_10, g_11, g_12, g_13, g_14, g_15, g_16, g_17, g_18, g_19, g_20, g_21, g_22, g_23, g_24, g_25, g_26, g_27, g_28, g_29, g_30, g_31, g_32, g_33, Option.bind_some, mW_obj, xrI_e, xrJ_e, xrD_e, xrA_e, xrV_e, p_6, p_7, p_8, p_9, p_10, p_13, p_15, p_18, p_19, p_20, p_21, p_22, p_25, ↓reduceIte]
    exact ⟨_, rfl, rfl, rfl, fun _ h => h, rfl, rfl, rfl⟩
  · simp (config := { decide := true }) only [g_0, g_1, g_2, g_3, g_4, g_5, g_6, g_7, g_8, g_9, g_10, g_11, g_12, g_13, g_14, g_15, g_16, g_17, g_18, g_19, g_20, g_21, g_22, g_23, g_24, g_25, g_26, g_27, g_28, g_29, g_30, g_31, g_32, g_33, Option.bind_some, mW_obj, xrI_e, xrJ_e, xrD_e, xrA_e, xrV_e, p_6, p_7, p_8, p_9, p_10, p_13, p_15, p_18, p_19, p_20, p_21, p_22, p_25, ↓reduceIte, nR_D (nR_l2f v), mj_si, md_si, mI_si, mJ_si, mD_si, mi_sj, md_sj, mI_sj, mJ_sj, mD_sj, mi_sd, mj_sd, mI_sd, mJ_sd, mD_sd, mi_sI, mj_sI, md_sI, mJ_sI, mD_sI, mi_sJ, mj_sJ, md_sJ, mI_sJ, mD_sJ, mi_sD, mj_sD, md_sD, mI_sD, mJ_sD, mi_si_e, mj_sj_e, md_sd_e, nR_D (nR_m6 v)]
    exact ⟨_, rfl, rfl, rfl, fun _ h => h, rfl, rfl, rfl⟩
  · simp (config := { decide := true }) only [g_0, g_1, g_2, g_3, g_4, g_5, g_6, g_7, g_8, g_9, g_10, g_11, g_12, g_13, g_14, g_15, g_16, g_17, g_18, g_19, g_20, g_21, g_22, g_23, g_24, g_25, g_26, g_27, g_28, g_29, g_30, g_31, g_32, g_33, Option.bind_some, mW_obj, xrI_e, xrJ_e, xrD_e, xrA_e, xrV_e, p_6, p_7, p_8, p_9, p_10, p_13, p_15, p_18, p_19, p_20, p_21, p_22, p_25, ↓reduceIte, nR_D (nR_m7 v)]
    exact ⟨_, rfl, rfl, rfl, fun _ h => h, rfl, rfl, rfl⟩
theorem mkN_ok (N : Nat) (hk : k < 8) (v : Int64) : tok N (mkN k v) ∧ (mkN k v).1 = nI k := by
  refine ⟨⟨k, by omega, rfl, ?_⟩, rfl⟩
  unfold mkN
  simp only
  by_cases h6 : k < 6
  · left
    exact ⟨h6, by rw [if_neg (by omega), if_neg (by omega)]⟩
  · right; left
    refine ⟨by omega, ?_, ?_⟩
    · rw [if_neg (by omega), if_neg (by omega), if_neg (by omega), if_neg (by omega), if_neg (by omega), if_neg (by omega)]
    · split
      · exact nR_m6 v
      · rw [if_pos (by omega)]
        exact nR_m7 v
/-- something is put into a row that hangs -/
theorem Rm_store {r q j : Nat} {x : sR} {y : mC} (hR : Rm S t) (hw : wf S) (hc : c < 10) (hr : qC S c = .inl r) (hx : qR S r = some x) (hq : q < 16) (h5 : mI t 5 c = nI q) (hj : j < x.2.1) : Rm (uR S r (x.1, x.2.1, va_up x.2.2 j y)) (mPut t (24 * q + j) y) := by
  obtain ⟨x', hx', rk⟩ := wf_row hw hc hr
  obtain rfl : x' = x := Option.some.inj (hx'.symm.trans hx)
  have hn := rk.2.1
  have ho := Rm_oth (oth_put t (24 * q + j) y) hR.2
  have hs := (wr_put t (q := q) (k := 24 * q + j) ⟨by omega, by omega⟩ y).2.2
  have e5 : mI (mPut t (24 * q + j) y) 5 = mI t 5 := mPut_I _ _ _ (by decide)
  obtain ⟨hA, hB, hC, hD, hE⟩ := hR.1
  refine ⟨⟨fun d s hd hs' => ?_, fun d v hd hv => by rw [e5]; exact hB d v hd hv, fun a b r s h1 h2 h3 h4 => by rw [e5]; exact hC a b r s h1 h2 h3 h4, hD, fun s hs' => ?_⟩, ho.1, ho.2.1, ho.2.2.1, ho.2.2.2.1, ho.2.2.2.2.1, RmI_upd ho.2.2.2.2.2 (fun k f hk hfk d s h1 h2 => ?_)⟩
  · obtain ⟨y', p, a1, a2, a3, a4⟩ := hA d s hd hs'
    by_cases hsr : s = r
    · subst hsr
      obtain rfl : y' = x' := Option.some.inj (a1.symm.trans hx)
      have hpq : p = q := (nI_eq (by omega) (by omega)).mp (a3.symm.trans (((hC d c s s hd hc hs' hr).mpr rfl).trans h5))
      subst hpq
      refine ⟨_, p, if_pos rfl, a2, by rw [e5]; exact a3, ?_, ?_, fun i hi => ?_⟩
      · rw [mPut_I _ _ _ (by decide)]; exact a4.1
      · rw [mPut_I _ _ _ (by decide)]; exact a4.2.1
      · rw [mT_put]
        show _ = va_up y'.2.2 j y i
        unfold va_up
        by_cases hij : i = j
        · rw [if_pos (by omega), if_pos hij]
        · rw [if_neg (by omega), if_neg hij]
          exact a4.2.2 i hi
    · have hpq : p ≠ q := by
        rintro rfl
        exact hsr ((hC d c s r hd hc hs' hr).mp (a3.trans h5.symm))
      obtain ⟨z, hz, zk⟩ := wf_row hw hd hs'
      obtain rfl : y' = z := Option.some.inj (a1.symm.trans hz)
      refine ⟨y', p, ?_, a2, by rw [e5]; exact a3, sam_slt (hs p hpq) zk.2.1 a4⟩
      show (if s = r then _ else _) = _
      rw [if_neg hsr]; exact a1
  · obtain ⟨y', p, a1, a2, a3, a4, a5⟩ := hE s hs'
    obtain ⟨⟨z, hz, zk⟩, hn⟩ := hw.2.2.2.1 s hs'
    obtain rfl : y' = z := Option.some.inj (a1.symm.trans hz)
    have hsr : s ≠ r := by
      rintro rfl
      exact hn c hc hr
    refine ⟨y', p, ?_, a2, a3, sam_slt (hs p (fun h => a5 c hc (h ▸ h5))) zk.2.1 a4, fun d hd => by rw [e5]; exact a5 d hd⟩
    show (if s = r then _ else _) = _
    rw [if_neg hsr]; exact a1
  · show (if s = r then _ else _) = _
    rw [if_neg]
    rintro rfl
    exact (hw.2.2.2.2.2.2 k f hk hfk d h1).2 s h2 c hc hr
theorem fit8 {ty k : Nat} (ht : ty < 8) (hk : k < 12) (h : fitB ty k = true) : k < 8 := by
  have d : ∀ ty, ty < 8 → ∀ k, k < 12 → fitB ty k = true → k < 8 := by decide +kernel
  exact d ty ht k hk h
theorem m_lay0 {N at' ty : Nat} {v : mC} (ha : at' < 384) (ht : ty < 13) (hv : tok N v) (hf : fitB ty (kn v) = true) : xev 113 0 [some (xA (some (m0))), some (xI (nI at')), some (xI (nI ty)), some (xI (v.1)), some (xJ (v.2.1)), none, some (xD (v.2.2)), none] [] (mW m0 t u) = some (none, mW m0 (mPut t at' (pv ty v)) u) := by
  obtain ⟨k12, ek⟩ := tok_c hv
  rw [e_X8_lay0_0, b_X8_lay0_0]
  unfold pv
  have h7 : ((7 : Int32) < nI ty) ↔ 7 < ty := nI_ltI (a := 7) (by decide) (by omega)
  have h6 : (nI ty < (6 : Int32)) ↔ ty < 6 := nI_ltI (b := 6) (by omega) (by decide)
  simp only [h7, h6]
  by_cases h8 : 7 < ty
  · rw [if_pos h8, if_pos h8]
    simp only [g_0, g_1, g_2, g_3, g_4, g_5, g_6, g_7, g_8, g_9, g_10, g_11, g_12, g_13, g_14, g_15, g_16, g_17, g_18, g_19, g_20, g_21, g_22, g_23, g_24, g_25, g_26, g_27, g_28, g_29, g_30, g_31, g_32, g_33, Option.bind_some, mW_obj, xrI_e, xrJ_e, xrD_e, xrA_e, xrV_e, c_put ha v]
  · rw [if_neg h8, if_neg h8]
    have k8 := fit8 (by omega) k12 hf
    have hm := wid_m hv ek k8 (by omega) hf
    have hp := c_put (m0 := m0) (t := t) (u := u) ha (wid v ty)
    rw [hm] at hp ⊢
    have hcw := c_widened (a := kn v) (b := ty) k12 (by omega) v.2.1 v.2.2 (mW m0 t u)
    rw [← ek] at hcw
    rw [hcw]
    by_cases h6' : ty < 6
    · simp only [if_pos h6'] at hp ⊢
      simp only [g_0, g_1, g_2, g_3, g_4, g_5, g_6, g_7, g_8, g_9, g_10, g_11, g_12, g_13, g_14, g_15, g_16, g_17, g_18, g_19, g_20, g_21, g_22, g_23, g_24, g_25, g_26, g_27, g_28, g_29, g_30, g_31, g_32, g_33, Option.bind_some, mW_obj, xrI_e, xrJ_e, xrD_e, xrA_e, xrV_e, hp]
    · simp only [if_neg h6'] at hp ⊢
      simp only [g_0, g_1, g_2, g_3, g_4, g_5, g_6, g_7, g_8, g_9, g_10, g_11, g_12, g_13, g_14, g_15, g_16, g_17, g_18, g_19, g_20, g_21, g_22, g_23, g_24, g_25, g_26, g_27, g_28, g_29, g_30, g_31, g_32, g_33, Option.bind_some, mW_obj, xrI_e, xrJ_e, xrD_e, xrA_e, xrV_e, hp]
theorem m_write0 {v : mC} (hR : Rm S t) (hw : wf S) (hc : c < 10) (hk : k < 8) (hv : tok (qN S) v) (hvk : v.1 = nI k) : ∃ t', xev 111 0 [some (xA (some (m0))), some (xI (nI c)), some (xI (cell)), some (xI (nI k)), some (xJ (v.2.1)), none, some (xD (v.2.2)), none, none] [] (mW m0 t u) = some (some (xI (nI (wrA S c cell v).1)), mW m0 t' u) ∧ Rm (wrA S c cell v).2 t' := by
  rw [e_X8_write0_0, b_X8_write0_0]
  simp only [mW_obj, Option.bind_some, c_firstS hR hw hc, xrI_e]
  cases hq : qC S c with
  | inr v =>
    rw [lenA_th hq, wrA_th hq]
    rw [if_neg (th0 v)]
    exact ⟨t, rfl, hR⟩
  | inl r =>
    obtain ⟨x, q, hx, q16, e5, s0, s1, s2⟩ := hR.1.1 c r hc hq
    obtain ⟨y, hy, rk⟩ := wf_row hw hc hq
    obtain rfl : x = y := Option.some.inj (hx.symm.trans hy)
    obtain ⟨k13, n24, ck⟩ := rk
    rw [lenA_row hq, wrA_row hq hx]
    rw [if_pos (show nI 0 = 0 from rfl)]
    have h7 : ((7 : Int32) < nI x.1) ↔ 7 < x.1 := nI_ltI (a := 7) (by decide) (by omega)
    simp only [g_0, g_1, g_2, g_3, g_4, g_5, g_6, g_7, g_8, g_9, g_10, g_11, g_12, g_13, g_14, g_15, g_16, g_17, g_18, g_19, g_20, g_21, g_22, g_23, g_24, g_25, g_26, g_27, g_28, g_29, g_30, g_31, g_32, g_33, Option.bind_some, mW_obj, xrI_e, xrJ_e, xrD_e, xrA_e, xrV_e, a_5 hc, e5, a_0 q16, s0, a_1 q16, s1, h7]
    by_cases h8 : 7 < x.1
    · rw [if_pos h8, if_pos h8]
      exact ⟨t, rfl, hR⟩
    · rw [if_neg h8, if_neg h8]
      by_cases hb : inB cell x.2.1
      · have b24 : inB cell 24 := ⟨hb.1, by omega⟩
        have ha : 24 * q + cell.toNatClampNeg < 384 := by have := b24.2; omega
        rw [c_inB_t (by omega) hb, if_pos hb]
        simp only [Option.bind_some, xrI_e]
        rw [if_neg i10]
        simp only [g_0, g_1, g_2, g_3, g_4, g_5, g_6, g_7, g_8, g_9, g_10, g_11, g_12, g_13, g_14, g_15, g_16, g_17, g_18, g_19, g_20, g_21, g_22, g_23, g_24, g_25, g_26, g_27, g_28, g_29, g_30, g_31, g_32, g_33, Option.bind_some, mW_obj, xrI_e, xrJ_e, xrD_e, xrA_e, xrV_e, a_0 q16, s0, c_widens hk (show x.1 < 8 by omega), kn_of hvk (by omega)]
        cases hf : fitB x.1 k with
        | false =>
          rw [if_pos (show bI false = 0 from rfl), if_neg (by decide)]
          exact ⟨t, rfl, hR⟩
        | true =>
          rw [if_neg (show ¬ bI true = 0 by decide), if_pos rfl, c_at b24]
          have hl := m_lay0 (m0 := m0) (t := t) (u := u) ha k13 hv (by rw [kn_of hvk (by omega)]; exact hf)
          rw [hvk] at hl
          rw [hl]
          exact ⟨_, rfl, Rm_store hR hw hc hq hx q16 e5 hb.2⟩
      · rw [c_inB_f (by omega) hb, if_neg hb]
        exact ⟨t, rfl, hR⟩
theorem m_write {c cell k : Int32} {v : Int64} (hR : Rm S t) (hw : wf S) : ∃ t', xev 112 0 [some (xA (some (m0))), some (xI (c)), some (xI (cell)), some (xI (k)), some (xJ (v)), none] [] (mW m0 t u) = some (some (xI (spWrite S c cell k v).1), mW m0 t' u) ∧ Rm (spWrite S c cell k v).2 t' := by
  unfold spWrite
  rw [e_X8_write_0, b_X8_write_0]
  by_cases hc : inB c 10
  · rw [c_colt hc, if_neg (fun q => q hc)]
    by_cases hk : inB k 8
    · simp only [g_0, g_1, g_2, g_3, g_4, g_5, g_6, g_7, g_8, g_9, g_10, g_11, g_12, g_13, g_14, g_15, g_16, g_17, g_18, g_19, g_20, g_21, g_22, g_23, g_24, g_25, g_26, g_27, g_28, g_29, g_30, g_31, g_32, g_33, Option.bind_some, mW_obj, xrI_e, xrJ_e, xrD_e, xrA_e, xrV_e, if_neg i10, c_rt hk (by decide) (show (7 : Int64) = (nI 8 - 1).toInt64 by decide), if_neg (fun q => q hk : ¬ ¬ inB k 8)]
      obtain ⟨t1, h1, h2, h3, h4, _⟩ := m_make (m0 := m0) (t := t) (u := u) hk.2 v
      rw [← inB_nI hk] at h1
      rw [h1]
      simp only [g_0, g_1, g_2, g_3, g_4, g_5, g_6, g_7, g_8, g_9, g_10, g_11, g_12, g_13, g_14, g_15, g_16, g_17, g_18, g_19, g_20, g_21, g_22, g_23, g_24, g_25, g_26, g_27, g_28, g_29, g_30, g_31, g_32, g_33, Option.bind_some, mW_obj, xrI_e, xrJ_e, xrD_e, xrA_e, xrV_e, h2, h3]
      obtain ⟨o1, o2⟩ := mkN_ok (qN S) hk.2 v
      obtain ⟨t2, k1, k2⟩ := m_write0 (m0 := m0) (u := u) (cell := cell) (h4 S hR) hw hc.2 hk.2 o1 o2
      rw [← inB_nI hc, ← inB_nI hk] at k1
      rw [k1]
      simp only [g_0, g_1, g_2, g_3, g_4, g_5, g_6, g_7, g_8, g_9, g_10, g_11, g_12, g_13, g_14, g_15, g_16, g_17, g_18, g_19, g_20, g_21, g_22, g_23, g_24, g_25, g_26, g_27, g_28, g_29, g_30, g_31, g_32, g_33, Option.bind_some, mW_obj, xrI_e, xrJ_e, xrD_e, xrA_e, xrV_e]
      obtain ⟨t3, j1, j2, _⟩ := m_cnt (m0 := m0) (u := u) (a := 9 + k.toNatClampNeg) k2 (by have := hk.2; omega) (wrA_lt _ _ _ _)
      rw [← nI_add, ← inB_nI hk] at j1
      rw [show (9 : Int32) = nI 9 from rfl, j1]
      exact ⟨t3, rfl, j2⟩
    · simp only [g_0, g_1, g_2, g_3, g_4, g_5, g_6, g_7, g_8, g_9, g_10, g_11, g_12, g_13, g_14, g_15, g_16, g_17, g_18, g_19, g_20, g_21, g_22, g_23, g_24, g_25, g_26, g_27, g_28, g_29, g_30, g_31, g_32, g_33, Option.bind_some, mW_obj, xrI_e, xrJ_e, xrD_e, xrA_e, xrV_e, if_neg i10, c_rf hk (by decide) (show (7 : Int64) = (nI 8 - 1).toInt64 by decide), if_pos hk]
      exact ⟨t, rfl, hR⟩
  · rw [c_colf hc, if_pos hc]
    exact ⟨t, rfl, hR⟩
end MB
