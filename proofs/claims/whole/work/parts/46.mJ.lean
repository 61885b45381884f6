/-! the reference goes over columns -/
section MJ
variable {m0 : Nat} {t t0 : mS} {u : xW} {S : sS}
theorem pr1_ok {c to k : Nat} {cell place : Int32} (hw : wf S) (hc : c < 10) (ht : to < 10) (hk : k < 9) : wf (pr1 S c cell to place k).2 ∧ (pr1 S c cell to place k).1 < 6 ∧ ((pr1 S c cell to place k).1 = 0 → inB cell 24) := by
  unfold pr1
  by_cases h8 : k = 8
  · rw [if_pos h8]
    obtain ⟨a1, a2⟩ := tkA_ok (cell := cell) hw hc
    by_cases h0 : (cnt 8 (tkA S c cell)).1 = 0
    · rw [if_pos h0]
      exact ⟨lyA_ok (S := (cnt 8 (tkA S c cell)).2) a1 ht, lyA_lt _ _ _, fun _ => a2 h0⟩
    · rw [if_neg h0]
      exact ⟨a1, tkA_lt _ _ _, a2⟩
  · rw [if_neg h8]
    obtain ⟨a1, a2, _, _, a3⟩ := rdA_ok (cell := cell) (k := k) hw hc (by omega)
    by_cases h0 : (cnt k (rdA S c cell k)).1 = 0
    · rw [if_pos h0]
      obtain ⟨b1, b2, b3⟩ := a3 h0
      exact ⟨wrA_ok (S := (cnt k (rdA S c cell k)).2) a1 ht (by show tok (qN (rdA S c cell k).2) _; rw [a2]; exact b1), wrA_lt _ _ _ _, fun _ => b3⟩
    · rw [if_neg h0]
      exact ⟨a1, rdA_lt _ _ _ _, fun h => (a3 h).2.2⟩
theorem nz {a : Nat} (h : a < 6) : (nI a = 0) ↔ a = 0 := nI_eq (b := 0) (by omega) (by decide)
theorem m_pr1 {c to k : Nat} {cell place : Int32} (hR : Rm S t) (hw : wf S) (hc : c < 10) (ht : to < 10) (hk : k < 9) : ∃ t', xev 130 0 [some (xA (some (m0))), some (xI (nI c)), some (xI (cell)), some (xI (nI to)), some (xI (place)), some (xI (nI k)), none] [] (mW m0 t u) = some (some (xI (nI (pr1 S c cell to place k).1)), mW m0 t' u) ∧ Rm (pr1 S c cell to place k).2 t' := by
  rw [e_X8_pourOne_0, b_X8_pourOne_0]
  unfold pr1
  have e8 : (nI k = 8) ↔ k = 8 := nI_eq (b := 8) (by omega) (by decide)
  by_cases h8 : k = 8
  · rw [if_pos h8, if_pos (e8.mpr h8)]
    obtain ⟨t1, h1, h2⟩ := m_tkS (m0 := m0) (u := u) (cell := cell) hR hw hc
    simp only [g_0, g_1, g_2, g_3, g_4, g_5, g_6, g_7, g_8, g_9, g_10, g_11, g_12, g_13, g_14, g_15, g_16, g_17, g_18, g_19, g_20, g_21, g_22, g_23, g_24, g_25, g_26, g_27, g_28, g_29, g_30, g_31, g_32, g_33, Option.bind_some, mW_obj, xrI_e, xrJ_e, xrD_e, xrA_e, xrV_e, h1]
    by_cases h0 : (tkA S c cell).1 = 0
    · rw [if_pos ((nz (tkA_lt _ _ _)).mpr h0), if_pos (show (cnt 8 (tkA S c cell)).1 = 0 from h0)]
      obtain ⟨t2, k1, k2⟩ := m_lyS (m0 := m0) (u := u) (cell := place) (S := (cnt 8 (tkA S c cell)).2) h2 (tkA_ok hw hc).1 ht
      rw [k1]
      exact ⟨t2, rfl, k2⟩
    · rw [if_neg (fun h => h0 ((nz (tkA_lt _ _ _)).mp h)), if_neg (show ¬ (cnt 8 (tkA S c cell)).1 = 0 from h0)]
      exact ⟨t1, rfl, h2⟩
  · rw [if_neg h8, if_neg (fun h => h8 (e8.mp h))]
    obtain ⟨t1, t2, h1, h2, h3, h4⟩ := m_rdS (m0 := m0) (u := u) (cell := cell) (k := k) hR hw hc (by omega)
    obtain ⟨a1, a2, _, _, a3⟩ := rdA_ok (cell := cell) (k := k) hw hc (by omega)
    simp only [g_0, g_1, g_2, g_3, g_4, g_5, g_6, g_7, g_8, g_9, g_10, g_11, g_12, g_13, g_14, g_15, g_16, g_17, g_18, g_19, g_20, g_21, g_22, g_23, g_24, g_25, g_26, g_27, g_28, g_29, g_30, g_31, g_32, g_33, Option.bind_some, mW_obj, xrI_e, xrJ_e, xrD_e, xrA_e, xrV_e, h1, h2]
    by_cases h0 : (rdA S c cell k).1 = 0
    · rw [if_pos ((nz (rdA_lt _ _ _ _)).mpr h0), if_pos (show (cnt k (rdA S c cell k)).1 = 0 from h0)]
      obtain ⟨b1, b2, b3⟩ := a3 h0
      obtain ⟨d1, d2⟩ := h4 h0
      obtain ⟨t3, k1, k2⟩ := m_write0 (m0 := m0) (u := u) (cell := place) (S := (cnt k (rdA S c cell k)).2) (v := qS (rdA S c cell k).2) h3 a1 ht (show k < 8 by omega) (by show tok (qN (rdA S c cell k).2) _; rw [a2]; exact b1) b2
      simp only [g_0, g_1, g_2, g_3, g_4, g_5, g_6, g_7, g_8, g_9, g_10, g_11, g_12, g_13, g_14, g_15, g_16, g_17, g_18, g_19, g_20, g_21, g_22, g_23, g_24, g_25, g_26, g_27, g_28, g_29, g_30, g_31, g_32, g_33, Option.bind_some, mW_obj, xrI_e, xrJ_e, xrD_e, xrA_e, xrV_e, d1, d2, k1]
      obtain ⟨t4, j1, j2, _⟩ := m_cnt (m0 := m0) (u := u) (a := 9 + k) k2 (by omega) (wrA_lt _ _ _ _)
      rw [← nI_add] at j1
      rw [show (9 : Int32) = nI 9 from rfl, j1]
      exact ⟨t4, rfl, j2⟩
    · rw [if_neg (fun h => h0 ((nz (rdA_lt _ _ _ _)).mp h)), if_neg (show ¬ (cnt k (rdA S c cell k)).1 = 0 from h0)]
      exact ⟨t2, rfl, h3⟩
theorem Rm_uA {x : Int32} (hR : Rm S t) : Rm (uA S x) (si t 15 x) := ⟨hR.1, hR.2.1, hR.2.2.1, hR.2.2.2.1, ⟨hR.2.2.2.2.1.1, rfl⟩, hR.2.2.2.2.2⟩
/-- the last one that can be poured -/
theorem inB_24 {cell : Int32} {i : Nat} (h : i = 0 ∨ inB cell 24) (hi : i ≤ 24) (h2 : inB (cell + nI i) 24) : i < 24 ∧ inB cell 24 := by
  rcases h with rfl | h
  · rw [nI_0, Int32.add_zero] at h2
    exact ⟨by decide, h2⟩
  · refine ⟨?_, h⟩
    have e := inB_nI h
    rw [e, nI_add] at h2
    have := h2.2
    rw [nI_clamp (by have := h.2; omega)] at this
    omega
theorem c_pour_l {c to k : Nat} {cell place : Int32} (hc : c < 10) (ht : to < 10) (hk : k < 9) : ∀ d i S t, i + d = 25 → Rm S t → wf S → mi t 15 = 0 → (i = 0 ∨ inB cell 24) → (0 < d) → ∃ t', xev 131 43 [some (xA (some (m0))), some (xI (nI c)), some (xI (cell)), some (xI (nI to)), some (xI (place)), some (xI (nI k)), some (xI (nI i)), some (xI (nI i))] [] (mW m0 t u) = some (some (xI (nI (prS c cell to place k d i S).1)), mW m0 t' u) ∧ Rm (prS c cell to place k d i S).2 t'
  | 0, i, S, t, h, _, _, _, _, h0 => absurd h0 (by decide)
  | d + 1, i, S, t, h, hR, hw, h15, hin, _ => by
    rw [e_X8_pour_43, b_X8_pour_43, if_neg (show ¬ (24 : Int32) < nI i from nI_nlt (a := 24) (by omega) (by decide))]
    simp only [g_0, g_1, g_2, g_3, g_4, g_5, g_6, g_7, g_8, g_9, g_10, g_11, g_12, g_13, g_14, g_15, g_16, g_17, g_18, g_19, g_20, g_21, g_22, g_23, g_24, g_25, g_26, g_27, g_28, g_29, g_30, g_31, g_32, g_33, Option.bind_some, mW_obj, xrI_e, xrJ_e, xrD_e, xrA_e, xrV_e, h15, if_pos]
    obtain ⟨t1, h1, h2⟩ := m_pr1 (m0 := m0) (u := u) (cell := cell + nI i) (place := place + nI i) hR hw hc ht hk
    obtain ⟨w1, w2, w3⟩ := pr1_ok (cell := cell + nI i) (place := place + nI i) hw hc ht hk
    simp only [g_0, g_1, g_2, g_3, g_4, g_5, g_6, g_7, g_8, g_9, g_10, g_11, g_12, g_13, g_14, g_15, g_16, g_17, g_18, g_19, g_20, g_21, g_22, g_23, g_24, g_25, g_26, g_27, g_28, g_29, g_30, g_31, g_32, g_33, Option.bind_some, mW_obj, xrI_e, xrJ_e, xrD_e, xrA_e, xrV_e, p_6, p_7, p_8, p_9, p_10, p_13, p_15, p_18, p_19, p_20, p_21, p_22, p_25, mj_si, md_si, mI_si, mJ_si, mD_si, mi_sj, md_sj, mI_sj, mJ_sj, mD_sj, mi_sd, mj_sd, mI_sd, mJ_sd, mD_sd, mi_sI, mj_sI, md_sI, mJ_sI, mD_sI, mi_sJ, mj_sJ, md_sJ, mI_sJ, mD_sJ, mi_sD, mj_sD, md_sD, mI_sD, mJ_sD, mi_si_e, mj_sj_e, md_sd_e, h1]
    unfold prS
    by_cases h0 : (pr1 S c (cell + nI i) to (place + nI i) k).1 = 0
    · rw [if_pos ((nz w2).mpr h0), if_pos h0]
      obtain ⟨i24, c24⟩ := inB_24 hin (by omega) (w3 h0)
      simp only [nI_1]
      rw [h0]
      exact c_pour_l hc ht hk d (i + 1) _ _ (by omega) (Rm_uA h2) w1 rfl (Or.inr c24) (by omega)
    · rw [if_neg (fun h => h0 ((nz w2).mp h)), if_neg h0]
      simp only [nI_1, Int32.add_zero]
      have hk5 : mi (si t1 15 (nI (pr1 S c (cell + nI i) to (place + nI i) k).1)) 15 = nI (pr1 S c (cell + nI i) to (place + nI i) k).1 := rfl
      refine ⟨_, ?_, Rm_uA h2⟩
      rw [e_X8_pour_43, b_X8_pour_43]
      simp only [g_0, g_1, g_2, g_3, g_4, g_5, g_6, g_7, g_8, g_9, g_10, g_11, g_12, g_13, g_14, g_15, g_16, g_17, g_18, g_19, g_20, g_21, g_22, g_23, g_24, g_25, g_26, g_27, g_28, g_29, g_30, g_31, g_32, g_33, Option.bind_some, mW_obj, xrI_e, xrJ_e, xrD_e, xrA_e, xrV_e]
      rw [hk5, if_neg (fun h => h0 ((nz w2).mp h))]
      split <;> rfl
theorem rdA_uA {c k : Nat} {cell a : Int32} : rdA (uA S a) c cell k = ((rdA S c cell k).1, uA (rdA S c cell k).2 a) := by
  cases hq : qC S c with
  | inr v => rw [rdA_th hq, rdA_th (S := uA S a) hq]
  | inl r =>
    cases hx : qR S r with
    | none => unfold rdA; rw [show qC (uA S a) c = .inl r from hq, hq]; simp only; rw [show qR (uA S a) r = none from hx, hx]
    | some x =>
      rw [rdA_row hq hx, rdA_row (S := uA S a) hq hx]
      split
      · rfl
      · split
        · split <;> rfl
        · rfl
theorem wrA_uA {c : Nat} {v : mC} {cell a : Int32} : wrA (uA S a) c cell v = ((wrA S c cell v).1, uA (wrA S c cell v).2 a) := by
  cases hq : qC S c with
  | inr w => rw [wrA_th hq, wrA_th (S := uA S a) hq]
  | inl r =>
    cases hx : qR S r with
    | none => unfold wrA; rw [show qC (uA S a) c = .inl r from hq, hq]; simp only; rw [show qR (uA S a) r = none from hx, hx]
    | some x =>
      rw [wrA_row hq hx, wrA_row (S := uA S a) hq hx]
      split
      · rfl
      · split
        · split <;> rfl
        · rfl
theorem tkA_uA {c : Nat} {cell a : Int32} : tkA (uA S a) c cell = ((tkA S c cell).1, uA (tkA S c cell).2 a) := by
  cases hq : qC S c with
  | inr w => rw [tkA_th hq, tkA_th (S := uA S a) hq]
  | inl r =>
    cases hx : qR S r with
    | none => unfold tkA; rw [show qC (uA S a) c = .inl r from hq, hq]; simp only; rw [show qR (uA S a) r = none from hx, hx]
    | some x =>
      rw [tkA_row hq hx, tkA_row (S := uA S a) hq hx]
      split <;> rfl
theorem lyA_uA {c : Nat} {cell a : Int32} : lyA (uA S a) c cell = ((lyA S c cell).1, uA (lyA S c cell).2 a) := by
  cases hq : qC S c with
  | inr w => rw [lyA_th hq, lyA_th (S := uA S a) hq]
  | inl r =>
    cases hx : qR S r with
    | none => unfold lyA; rw [show qC (uA S a) c = .inl r from hq, hq]; simp only; rw [show qR (uA S a) r = none from hx, hx]
    | some x =>
      rw [lyA_row hq hx, lyA_row (S := uA S a) hq hx, show qH (uA S a) = qH S from rfl]
      split
      · split <;> rfl
      · rfl
theorem pr1_uA {c to k : Nat} {cell place a : Int32} : pr1 (uA S a) c cell to place k = ((pr1 S c cell to place k).1, uA (pr1 S c cell to place k).2 a) := by
  unfold pr1
  by_cases h8 : k = 8
  · rw [if_pos h8, if_pos h8, tkA_uA]
    show (if (cnt 8 (tkA S c cell)).1 = 0 then cnt 17 (lyA (uA (cnt 8 (tkA S c cell)).2 a) to place) else ((cnt 8 (tkA S c cell)).1, uA (cnt 8 (tkA S c cell)).2 a)) = _
    split
    · rw [lyA_uA]; rfl
    · rfl
  · rw [if_neg h8, if_neg h8, rdA_uA]
    show (if (cnt k (rdA S c cell k)).1 = 0 then cnt (9 + k) (wrA (uA (cnt k (rdA S c cell k)).2 a) to place (qS (cnt k (rdA S c cell k)).2)) else ((cnt k (rdA S c cell k)).1, uA (cnt k (rdA S c cell k)).2 a)) = _
    split
    · rw [wrA_uA]; rfl
    · rfl
theorem prS_uA {c to k d i : Nat} {cell place a : Int32} : prS c cell to place k (d + 1) i (uA S a) = prS c cell to place k (d + 1) i S := by
  unfold prS
  rw [pr1_uA]
  rfl
theorem m_pour {c cell to place k : Int32} (hR : Rm S t) (hw : wf S) : ∃ t', xev 131 0 [some (xA (some (m0))), some (xI (c)), some (xI (cell)), some (xI (to)), some (xI (place)), some (xI (k)), none, none] [] (mW m0 t u) = some (some (xI (spPour S c cell to place k).1), mW m0 t' u) ∧ Rm (spPour S c cell to place k).2 t' := by
  unfold spPour
  rw [e_X8_pour_0, b_X8_pour_0]
  by_cases hc : inB c 10
  · by_cases ht : inB to 10
    · rw [if_neg (fun q => q.elim (fun q => q hc) (fun q => q ht)), c_colt hc]
      simp only [g_0, g_1, g_2, g_3, g_4, g_5, g_6, g_7, g_8, g_9, g_10, g_11, g_12, g_13, g_14, g_15, g_16, g_17, g_18, g_19, g_20, g_21, g_22, g_23, g_24, g_25, g_26, g_27, g_28, g_29, g_30, g_31, g_32, g_33, Option.bind_some, mW_obj, xrI_e, xrJ_e, xrD_e, xrA_e, xrV_e, if_neg i10, c_colt ht]
      by_cases hk : inB k 9
      · rw [c_rt hk (by decide) (show (8 : Int64) = (nI 9 - 1).toInt64 by decide), if_neg (fun q => q hk)]
        simp only [g_0, g_1, g_2, g_3, g_4, g_5, g_6, g_7, g_8, g_9, g_10, g_11, g_12, g_13, g_14, g_15, g_16, g_17, g_18, g_19, g_20, g_21, g_22, g_23, g_24, g_25, g_26, g_27, g_28, g_29, g_30, g_31, g_32, g_33, Option.bind_some, mW_obj, xrI_e, xrJ_e, xrD_e, xrA_e, xrV_e, if_neg i10, p_6, p_7, p_8, p_9, p_10, p_13, p_15, p_18, p_19, p_20, p_21, p_22, p_25]
        obtain ⟨t', h1, h2⟩ := c_pour_l (m0 := m0) (u := u) (cell := cell) (place := place) hc.2 ht.2 hk.2 25 0 (uA S 0) (si t 15 0) rfl (Rm_uA hR) hw rfl (Or.inl rfl) (by decide)
        rw [← inB_nI hc, ← inB_nI ht, ← inB_nI hk, nI_0] at h1
        rw [h1]
        rw [prS_uA] at h2 ⊢
        exact ⟨t', rfl, h2⟩
      · rw [c_rf hk (by decide) (show (8 : Int64) = (nI 9 - 1).toInt64 by decide), if_pos hk]
        exact ⟨t, rfl, hR⟩
    · rw [if_pos (Or.inr ht), c_colt hc]
      simp only [g_0, g_1, g_2, g_3, g_4, g_5, g_6, g_7, g_8, g_9, g_10, g_11, g_12, g_13, g_14, g_15, g_16, g_17, g_18, g_19, g_20, g_21, g_22, g_23, g_24, g_25, g_26, g_27, g_28, g_29, g_30, g_31, g_32, g_33, Option.bind_some, mW_obj, xrI_e, xrJ_e, xrD_e, xrA_e, xrV_e, if_neg i10, c_colf ht, if_pos]
      exact ⟨t, rfl, hR⟩
  · rw [if_pos (Or.inl hc), c_colf hc]
    exact ⟨t, rfl, hR⟩
/-- a whole column is read -/
theorem raS_ok {c k : Nat} (hc : c < 10) (hk : k < 8) : ∀ d i S g, i + d = 25 → 0 < d → wf S → (∀ j, j < i → tok (qN S) (g j) ∧ (g j).1 = nI k) → (raS c k d i S g).1 < 6 ∧ (raS c k d i S g).1 ≠ 0 ∧ (raS c k d i S g).2.1 ≤ 24 ∧ wf (raS c k d i S g).2.2.2 ∧ qN (raS c k d i S g).2.2.2 = qN S ∧ ∀ j, j < (raS c k d i S g).2.1 → tok (qN S) ((raS c k d i S g).2.2.1 j) ∧ ((raS c k d i S g).2.2.1 j).1 = nI k
  | 0, _, _, _, _, h, _, _ => absurd h (by decide)
  | d + 1, i, S, g, h, _, hw, hg => by
    obtain ⟨a1, a2, _, _, a3⟩ := rdA_ok (cell := nI i) (k := k) hw hc hk
    unfold raS
    by_cases h0 : (cnt k (rdA S c (nI i) k)).1 = 0
    · rw [if_pos h0]
      obtain ⟨b1, b2, b3⟩ := a3 h0
      have hi : i < 24 := by have := b3.2; rw [nI_clamp (by omega)] at this; exact this
      have := raS_ok hc hk d (i + 1) (cnt k (rdA S c (nI i) k)).2 (va_up g i (qS (cnt k (rdA S c (nI i) k)).2)) (by omega) (by omega) a1 (fun j hj => by
        show tok (qN (rdA S c (nI i) k).2) (if j = i then _ else _) ∧ (if j = i then _ else _ : mC).1 = _
        rw [a2]
        by_cases hji : j = i
        · rw [if_pos hji]; exact ⟨b1, b2⟩
        · rw [if_neg hji]; exact hg j (by omega))
      have e : qN (cnt k (rdA S c (nI i) k)).2 = qN S := a2
      rw [e] at this
      exact this
    · rw [if_neg h0]
      exact ⟨rdA_lt _ _ _ _, h0, (by show i ≤ 24; omega), a1, a2, hg⟩
theorem rAll_ok {c k : Nat} (hw : wf S) (hc : c < 10) (hk : k < 8) : (rAll S c k).1 < 6 ∧ (rAll S c k).1 ≠ 0 ∧ (rAll S c k).2.1 ≤ 24 ∧ wf (rAll S c k).2.2.2 ∧ qN (rAll S c k).2.2.2 = qN S ∧ ∀ j, j < (rAll S c k).2.1 → tok (qN S) ((rAll S c k).2.2.1 j) ∧ ((rAll S c k).2.2.1 j).1 = nI k := raS_ok hc hk 25 0 S _ rfl (by decide) hw (fun j hj => absurd hj (Nat.not_lt_zero j))
/-- what lies in the rows for all that is read -/
def oAll (t : mS) (b n : Nat) (g : Nat → mC) : Prop := ∀ j, j < n → mJ t 23 (b + j) = (g j).2.1 ∧ mD t 24 (b + j) = (g j).2.2
theorem c_readAll_l {c k b : Nat} (hc : c < 10) (hk : k < 8) (hb : b + 24 ≤ 48) : ∀ d i S t g, i + d = 25 → 0 < d → Rm S t → wf S → mi t 25 = nI i → oAll t b i g → ∃ t', xev 132 11 [some (xA (some (m0))), some (xI (nI c)), some (xI (nI k)), some (xI (nI b)), some (xI (0)), some (xI (nI i))] [] (mW m0 t u) = some (some (xI (nI (raS c k d i S g).1)), mW m0 t' u) ∧ Rm (raS c k d i S g).2.2.2 t' ∧ mi t' 25 = nI (raS c k d i S g).2.1 ∧ oAll t' b (raS c k d i S g).2.1 (raS c k d i S g).2.2.1 ∧ ∀ j, j < b ∨ b + 24 ≤ j → mJ t' 23 j = mJ t 23 j ∧ mD t' 24 j = mD t 24 j
  | 0, _, _, _, _, _, h, _, _, _, _ => absurd h (by decide)
  | d + 1, i, S, t, g, h, _, hR, hw, h25, ho => by
    obtain ⟨t1, t2, h1, h2, h3, h4, h5⟩ := m_rdA2 (m0 := m0) (u := u) (cell := nI i) (k := k) hR hw hc hk
    obtain ⟨a1, a2, _, _, a3⟩ := rdA_ok (cell := nI i) (k := k) hw hc hk
    rw [e_X8_readAll_11, b_X8_readAll_11, if_neg (show ¬ (24 : Int32) < nI i from nI_nlt (a := 24) (by omega) (by decide)), if_pos rfl]
    simp only [g_0, g_1, g_2, g_3, g_4, g_5, g_6, g_7, g_8, g_9, g_10, g_11, g_12, g_13, g_14, g_15, g_16, g_17, g_18, g_19, g_20, g_21, g_22, g_23, g_24, g_25, g_26, g_27, g_28, g_29, g_30, g_31, g_32, g_33, Option.bind_some, mW_obj, xrI_e, xrJ_e, xrD_e, xrA_e, xrV_e, h1, h2]
    unfold raS
    by_cases h0 : (rdA S c (nI i) k).1 = 0
    · rw [if_pos ((nz (rdA_lt _ _ _ _)).mpr h0), if_pos (show (cnt k (rdA S c (nI i) k)).1 = 0 from h0)]
      obtain ⟨b1, b2, b3⟩ := a3 h0
      have hi : i < 24 := by have := b3.2; rw [nI_clamp (by omega)] at this; exact this
      obtain ⟨d1, d2⟩ := h4 h0
      simp only [g_0, g_1, g_2, g_3, g_4, g_5, g_6, g_7, g_8, g_9, g_10, g_11, g_12, g_13, g_14, g_15, g_16, g_17, g_18, g_19, g_20, g_21, g_22, g_23, g_24, g_25, g_26, g_27, g_28, g_29, g_30, g_31, g_32, g_33, Option.bind_some, mW_obj, xrI_e, xrJ_e, xrD_e, xrA_e, xrV_e, p_6, p_7, p_8, p_9, p_10, p_13, p_15, p_18, p_19, p_20, p_21, p_22, p_25, mj_si, md_si, mI_si, mJ_si, mD_si, mi_sj, md_sj, mI_sj, mJ_sj, mD_sj, mi_sd, mj_sd, mI_sd, mJ_sd, mD_sd, mi_sI, mj_sI, md_sI, mJ_sI, mD_sI, mi_sJ, mj_sJ, md_sJ, mI_sJ, mD_sJ, mi_sD, mj_sD, md_sD, mI_sD, mJ_sD, mi_si_e, mj_sj_e, md_sd_e, d1, d2, nI_add, s_23 (show b + i < 48 by omega), s_24 (show b + i < 48 by omega), h5.1, h25, nI_1, h0, nI_0]
      obtain ⟨t', k1, k2, k3, k4, k5⟩ := c_readAll_l hc hk hb d (i + 1) (cnt k (rdA S c (nI i) k)).2 (si (sD (sJ t2 23 (b + i) (qS (rdA S c (nI i) k).2).2.1) 24 (b + i) (qS (rdA S c (nI i) k).2).2.2) 25 (nI (i + 1))) (va_up g i (qS (cnt k (rdA S c (nI i) k)).2)) (by omega) (by omega) h3 a1 rfl (fun j hj => by
        rw [mJ_si, mD_si, mJ_sD, mJ_sJ_e, mD_sD_e, mD_sJ, h5.2.1, h5.2.2]
        show (if b + j = b + i then _ else _) = (if j = i then _ else _ : mC).2.1 ∧ (if b + j = b + i then _ else _) = (if j = i then _ else _ : mC).2.2
        by_cases hji : j = i
        · rw [if_pos (by omega), if_pos hji, if_pos (by omega)]
          exact ⟨rfl, rfl⟩
        · rw [if_neg (by omega), if_neg hji, if_neg (by omega)]
          exact ho j (by omega))
      refine ⟨t', k1, k2, k3, k4, fun j hj => ?_⟩
      obtain ⟨e1, e2⟩ := k5 j hj
      rw [e1, e2, mJ_si, mD_si, mJ_sD, mJ_sJ_e, mD_sD_e, mD_sJ, if_neg (by omega), if_neg (by omega), h5.2.1, h5.2.2]
      exact ⟨rfl, rfl⟩
    · rw [if_neg (fun h => h0 ((nz (rdA_lt _ _ _ _)).mp h)), if_neg (show ¬ (cnt k (rdA S c (nI i) k)).1 = 0 from h0)]
      refine ⟨t2, ?_, h3, h5.1.trans h25, fun j hj => by rw [h5.2.1, h5.2.2]; exact ho j hj, fun j _ => by rw [h5.2.1, h5.2.2]; exact ⟨rfl, rfl⟩⟩
      rw [e_X8_readAll_11, b_X8_readAll_11]
      rw [if_neg (fun h => h0 ((nz (rdA_lt _ _ _ _)).mp h))]
      split <;> rfl
theorem m_readAll {c k b : Nat} (hR : Rm S t) (hw : wf S) (hc : c < 10) (hk : k < 8) (hb : b + 24 ≤ 48) : ∃ t', xev 132 0 [some (xA (some (m0))), some (xI (nI c)), some (xI (nI k)), some (xI (nI b)), none, none] [] (mW m0 t u) = some (some (xI (nI (rAll S c k).1)), mW m0 t' u) ∧ Rm (rAll S c k).2.2.2 t' ∧ mi t' 25 = nI (rAll S c k).2.1 ∧ oAll t' b (rAll S c k).2.1 (rAll S c k).2.2.1 ∧ ∀ j, j < b ∨ b + 24 ≤ j → mJ t' 23 j = mJ t 23 j ∧ mD t' 24 j = mD t 24 j := by
  rw [e_X8_readAll_0, b_X8_readAll_0]
  simp only [p_6, p_7, p_8, p_9, p_10, p_13, p_15, p_18, p_19, p_20, p_21, p_22, p_25, Option.bind_some]
  have hR' : Rm S (si t 25 0) := hR
  have := c_readAll_l (m0 := m0) (u := u) hc hk hb 25 0 S (si t 25 0) (fun _ => (0, 0, 0)) rfl (by decide) hR' hw rfl (fun j hj => absurd hj (Nat.not_lt_zero j))
  exact this
end MJ
