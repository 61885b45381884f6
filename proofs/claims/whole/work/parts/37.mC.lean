/-! the reference's hand and columns -/
section MC
variable {m0 : Nat} {t : mS} {u : xW} {S : sS} {c k : Nat} {cell : Int32}
def clA (S : sS) (c : Nat) (cell : Int32) : Nat := match qC S c with
  | .inr v => if v.1 = 11 then 1 else 2
  | .inl r => match qR S r with
    | none => 0
    | some x => if inB cell x.2.1 then 0 else 4
theorem clA_th {v : mC} (h : qC S c = .inr v) : clA S c cell = if v.1 = 11 then 1 else 2 := by unfold clA; rw [h]
theorem clA_row {r : Nat} {x : sR} (h : qC S c = .inl r) (hx : qR S r = some x) : clA S c cell = if inB cell x.2.1 then 0 else 4 := by
  unfold clA; rw [h]; simp only; rw [hx]
theorem c_cellOf (hR : Rm S t) (hw : wf S) (hc : c < 10) : xev 115 0 [some (xA (some (m0))), some (xI (nI c)), some (xI (cell))] [] (mW m0 t u) = some (some (xI (nI (clA S c cell))), mW m0 t u) := by
  rw [e_X8_cellOf_0, b_X8_cellOf_0]
  simp only [mW_obj, Option.bind_some, c_firstS hR hw hc, xrI_e]
  cases hq : qC S c with
  | inr v =>
    rw [lenA_th hq, clA_th hq, if_neg (th0 v)]
  | inl r =>
    obtain ⟨x, q, hx, q16, e5, s0, s1, s2⟩ := hR.1.1 c r hc hq
    obtain ⟨y, hy, rk⟩ := wf_row hw hc hq
    obtain rfl : x = y := Option.some.inj (hx.symm.trans hy)
    have n24 := rk.2.1
    rw [lenA_row hq, clA_row hq hx, if_pos (show nI 0 = 0 from rfl)]
    simp only [g_0, g_1, g_2, g_3, g_4, g_5, g_6, g_7, g_8, g_9, g_10, g_11, g_12, g_13, g_14, g_15, g_16, g_17, g_18, g_19, g_20, g_21, g_22, g_23, g_24, g_25, g_26, g_27, g_28, g_29, g_30, g_31, g_32, g_33, Option.bind_some, mW_obj, xrI_e, xrJ_e, xrD_e, xrA_e, xrV_e, a_5 hc, e5, a_1 q16, s1]
    by_cases hb : inB cell x.2.1
    · rw [c_inB_t (by omega) hb, if_pos hb]
      rfl
    · rw [c_inB_f (by omega) hb, if_neg hb]
      rfl
theorem m_tkS (hR : Rm S t) (hw : wf S) (hc : c < 10) : ∃ t', xev 116 0 [some (xA (some (m0))), some (xI (nI c)), some (xI (cell)), none, none] [] (mW m0 t u) = some (some (xI (nI (tkA S c cell).1)), mW m0 t' u) ∧ Rm (cnt 8 (tkA S c cell)).2 t' := by
  rw [e_X8_take0_0, b_X8_take0_0]
  simp only [mW_obj, Option.bind_some, c_cellOf hR hw hc, xrI_e]
  cases hq : qC S c with
  | inr v =>
    rw [clA_th hq, tkA_th hq, if_neg (th0 v)]
    obtain ⟨t', k1, k2, _⟩ := m_cnt (m0 := m0) (u := u) (a := 8) (b := if v.1 = 11 then 1 else 2) hR (by decide) (by split <;> decide)
    rw [show (8 : Int32) = nI 8 from rfl, k1]
    exact ⟨t', rfl, k2⟩
  | inl r =>
    obtain ⟨x, q, hx, q16, e5, s0, s1, s2⟩ := hR.1.1 c r hc hq
    obtain ⟨y, hy, rk⟩ := wf_row hw hc hq
    obtain rfl : x = y := Option.some.inj (hx.symm.trans hy)
    have n24 := rk.2.1
    rw [clA_row hq hx, tkA_row hq hx]
    by_cases hb : inB cell x.2.1
    · have b24 : inB cell 24 := ⟨hb.1, by omega⟩
      have ha : 24 * q + cell.toNatClampNeg < 384 := by have := b24.2; omega
      have hat := s2 _ hb.2
      rw [if_pos hb, if_pos hb, if_pos (show nI 0 = 0 from rfl)]
      simp only [g_0, g_1, g_2, g_3, g_4, g_5, g_6, g_7, g_8, g_9, g_10, g_11, g_12, g_13, g_14, g_15, g_16, g_17, g_18, g_19, g_20, g_21, g_22, g_23, g_24, g_25, g_26, g_27, g_28, g_29, g_30, g_31, g_32, g_33, Option.bind_some, mW_obj, xrI_e, xrJ_e, xrD_e, xrA_e, xrV_e, p_6, p_7, p_8, p_9, p_10, p_13, p_15, p_18, p_19, p_20, p_21, p_22, p_25, mj_si, md_si, mI_si, mJ_si, mD_si, mi_sj, md_sj, mI_sj, mJ_sj, mD_sj, mi_sd, mj_sd, mI_sd, mJ_sd, mD_sd, mi_sI, mj_sI, md_sI, mJ_sI, mD_sI, mi_sJ, mj_sJ, md_sJ, mI_sJ, mD_sJ, mi_sD, mj_sD, md_sD, mI_sD, mJ_sD, mi_si_e, mj_sj_e, md_sd_e, a_5 hc, e5, c_at b24, a_2 ha, a_3 ha, a_4 ha]
      have hR' : Rm (uH S (x.2.2 cell.toNatClampNeg)) (sd (sj (si t 7 (mI t 2 (24 * q + cell.toNatClampNeg))) 8 (mJ t 3 (24 * q + cell.toNatClampNeg))) 9 (mD t 4 (24 * q + cell.toNatClampNeg))) :=
        ⟨hR.1, ⟨congrArg (fun z => z.1) hat, congrArg (fun z => z.2.1) hat, congrArg (fun z => z.2.2) hat⟩, hR.2.2⟩
      obtain ⟨t', k1, k2, _⟩ := m_cnt (m0 := m0) (u := u) (a := 8) (b := 0) hR' (by decide) (by decide)
      rw [show (8 : Int32) = nI 8 from rfl, k1]
      exact ⟨t', rfl, k2⟩
    · rw [if_neg hb, if_neg hb, if_neg (show ¬ nI 4 = 0 by decide)]
      obtain ⟨t', k1, k2, _⟩ := m_cnt (m0 := m0) (u := u) (a := 8) (b := 4) hR (by decide) (by decide)
      rw [show (8 : Int32) = nI 8 from rfl, k1]
      exact ⟨t', rfl, k2⟩
theorem m_lyS (hR : Rm S t) (hw : wf S) (hc : c < 10) : ∃ t', xev 117 0 [some (xA (some (m0))), some (xI (nI c)), some (xI (cell)), none] [] (mW m0 t u) = some (some (xI (nI (lyA S c cell).1)), mW m0 t' u) ∧ Rm (cnt 17 (lyA S c cell)).2 t' := by
  rw [e_X8_putDown_0, b_X8_putDown_0]
  simp only [mW_obj, Option.bind_some, c_cellOf hR hw hc, xrI_e]
  cases hq : qC S c with
  | inr v =>
    rw [clA_th hq, lyA_th hq, if_neg (th0 v), if_neg (th0 v)]
    obtain ⟨t', k1, k2, _⟩ := m_cnt (m0 := m0) (u := u) (a := 17) (b := if v.1 = 11 then 1 else 2) hR (by decide) (by split <;> decide)
    rw [show (17 : Int32) = nI 17 from rfl, k1]
    exact ⟨t', rfl, k2⟩
  | inl r =>
    obtain ⟨x, q, hx, q16, e5, s0, s1, s2⟩ := hR.1.1 c r hc hq
    obtain ⟨y, hy, rk⟩ := wf_row hw hc hq
    obtain rfl : x = y := Option.some.inj (hx.symm.trans hy)
    have n24 := rk.2.1
    rw [clA_row hq hx, lyA_row hq hx]
    by_cases hb : inB cell x.2.1
    · have b24 : inB cell 24 := ⟨hb.1, by omega⟩
      have ha : 24 * q + cell.toNatClampNeg < 384 := by have := b24.2; omega
      have ht := hw.2.2.1
      obtain ⟨k12, ek⟩ := tok_c ht
      obtain ⟨f1, f2, f3⟩ := hR.2.1
      rw [if_pos hb, if_pos hb, if_pos (show nI 0 = 0 from rfl)]
      simp only [g_0, g_1, g_2, g_3, g_4, g_5, g_6, g_7, g_8, g_9, g_10, g_11, g_12, g_13, g_14, g_15, g_16, g_17, g_18, g_19, g_20, g_21, g_22, g_23, g_24, g_25, g_26, g_27, g_28, g_29, g_30, g_31, g_32, g_33, Option.bind_some, mW_obj, xrI_e, xrJ_e, xrD_e, xrA_e, xrV_e, a_5 hc, e5, c_at b24, a_0 q16, s0, f1, f2, f3]
      have hch := c_canHold (k := kn (qH S)) rk.1 k12 (mW m0 t u)
      rw [← ek] at hch
      rw [hch]
      cases hf : fitB x.1 (kn (qH S)) with
      | false =>
        rw [if_neg (by decide)]
        simp only [g_0, g_1, g_2, g_3, g_4, g_5, g_6, g_7, g_8, g_9, g_10, g_11, g_12, g_13, g_14, g_15, g_16, g_17, g_18, g_19, g_20, g_21, g_22, g_23, g_24, g_25, g_26, g_27, g_28, g_29, g_30, g_31, g_32, g_33, Option.bind_some, mW_obj, xrI_e, xrJ_e, xrD_e, xrA_e, xrV_e]
        rw [if_pos (show bI false = 0 from rfl)]
        obtain ⟨t', k1, k2, _⟩ := m_cnt (m0 := m0) (u := u) (a := 17) (b := 5) hR (by decide) (by decide)
        rw [show (17 : Int32) = nI 17 from rfl, show (5 : Int32) = nI 5 from rfl, k1]
        exact ⟨t', rfl, k2⟩
      | true =>
        rw [if_pos rfl]
        simp only [g_0, g_1, g_2, g_3, g_4, g_5, g_6, g_7, g_8, g_9, g_10, g_11, g_12, g_13, g_14, g_15, g_16, g_17, g_18, g_19, g_20, g_21, g_22, g_23, g_24, g_25, g_26, g_27, g_28, g_29, g_30, g_31, g_32, g_33, Option.bind_some, mW_obj, xrI_e, xrJ_e, xrD_e, xrA_e, xrV_e]
        rw [if_neg (show ¬ bI true = 0 by decide), if_pos (show nI 0 = 0 from rfl)]
        simp only [a_5 hc, e5, c_at b24, a_0 q16, s0, f1, f2, f3, Option.bind_some, m_lay0 ha rk.1 ht hf]
        simp only [g_0, g_1, g_2, g_3, g_4, g_5, g_6, g_7, g_8, g_9, g_10, g_11, g_12, g_13, g_14, g_15, g_16, g_17, g_18, g_19, g_20, g_21, g_22, g_23, g_24, g_25, g_26, g_27, g_28, g_29, g_30, g_31, g_32, g_33, Option.bind_some, mW_obj, xrI_e, xrJ_e, xrD_e, xrA_e, xrV_e]
        obtain ⟨t', k1, k2, _⟩ := m_cnt (m0 := m0) (u := u) (a := 17) (b := 0) (Rm_store hR hw hc hq hx q16 e5 hb.2) (by decide) (by decide)
        rw [show (17 : Int32) = nI 17 from rfl, k1]
        exact ⟨t', rfl, k2⟩
    · rw [if_neg hb, if_neg hb, if_neg (show ¬ nI 4 = 0 by decide), if_neg (show ¬ nI 4 = 0 by decide)]
      obtain ⟨t', k1, k2, _⟩ := m_cnt (m0 := m0) (u := u) (a := 17) (b := 4) hR (by decide) (by decide)
      rw [show (17 : Int32) = nI 17 from rfl, k1]
      exact ⟨t', rfl, k2⟩
theorem m_take {c cell : Int32} (hR : Rm S t) (hw : wf S) : ∃ t', xev 118 0 [some (xA (some (m0))), some (xI (c)), some (xI (cell))] [] (mW m0 t u) = some (some (xI (spTake S c cell).1), mW m0 t' u) ∧ Rm (spTake S c cell).2 t' := by
  unfold spTake
  rw [e_X8_take_0, b_X8_take_0]
  by_cases hc : inB c 10
  · rw [c_colt hc, if_neg (fun q => q hc)]
    simp only [g_0, g_1, g_2, g_3, g_4, g_5, g_6, g_7, g_8, g_9, g_10, g_11, g_12, g_13, g_14, g_15, g_16, g_17, g_18, g_19, g_20, g_21, g_22, g_23, g_24, g_25, g_26, g_27, g_28, g_29, g_30, g_31, g_32, g_33, Option.bind_some, mW_obj, xrI_e, xrJ_e, xrD_e, xrA_e, xrV_e, if_neg i10]
    obtain ⟨t', h1, h2⟩ := m_tkS (m0 := m0) (u := u) (cell := cell) hR hw hc.2
    rw [← inB_nI hc] at h1
    rw [h1]
    exact ⟨t', rfl, h2⟩
  · rw [c_colf hc, if_pos hc]
    exact ⟨t, rfl, hR⟩
theorem m_lay {c cell : Int32} (hR : Rm S t) (hw : wf S) : ∃ t', xev 119 0 [some (xA (some (m0))), some (xI (c)), some (xI (cell))] [] (mW m0 t u) = some (some (xI (spLay S c cell).1), mW m0 t' u) ∧ Rm (spLay S c cell).2 t' := by
  unfold spLay
  rw [e_X8_lay_0, b_X8_lay_0]
  by_cases hc : inB c 10
  · rw [c_colt hc, if_neg (fun q => q hc)]
    simp only [g_0, g_1, g_2, g_3, g_4, g_5, g_6, g_7, g_8, g_9, g_10, g_11, g_12, g_13, g_14, g_15, g_16, g_17, g_18, g_19, g_20, g_21, g_22, g_23, g_24, g_25, g_26, g_27, g_28, g_29, g_30, g_31, g_32, g_33, Option.bind_some, mW_obj, xrI_e, xrJ_e, xrD_e, xrA_e, xrV_e, if_neg i10]
    obtain ⟨t', h1, h2⟩ := m_lyS (m0 := m0) (u := u) (cell := cell) hR hw hc.2
    rw [← inB_nI hc] at h1
    rw [h1]
    exact ⟨t', rfl, h2⟩
  · rw [c_colf hc, if_pos hc]
    exact ⟨t, rfl, hR⟩
theorem m_length {c : Int32} (hR : Rm S t) (hw : wf S) : ∃ t', xev 107 0 [some (xA (some (m0))), some (xI (c)), none] [] (mW m0 t u) = some (some (xI (spLen S c).1), mW m0 t' u) ∧ Rm (spLen S c).2 t' := by
  unfold spLen
  rw [e_X8_length_0, b_X8_length_0]
  by_cases hc : inB c 10
  · rw [c_colt hc, if_neg (fun q => q hc)]
    have hf := c_firstS (m0 := m0) (u := u) hR hw hc.2
    rw [← inB_nI hc] at hf
    simp only [g_0, g_1, g_2, g_3, g_4, g_5, g_6, g_7, g_8, g_9, g_10, g_11, g_12, g_13, g_14, g_15, g_16, g_17, g_18, g_19, g_20, g_21, g_22, g_23, g_24, g_25, g_26, g_27, g_28, g_29, g_30, g_31, g_32, g_33, Option.bind_some, mW_obj, xrI_e, xrJ_e, xrD_e, xrA_e, xrV_e, if_neg i10, hf]
    cases hq : qC S c.toNatClampNeg with
    | inr v =>
      rw [lenA_th hq]
      obtain ⟨t', k1, k2, _⟩ := m_cnt (m0 := m0) (u := u) (a := 18) (b := if v.1 = 11 then 1 else 2) hR (by decide) (by split <;> decide)
      rw [show (18 : Int32) = nI 18 from rfl, k1]
      simp only [g_0, g_1, g_2, g_3, g_4, g_5, g_6, g_7, g_8, g_9, g_10, g_11, g_12, g_13, g_14, g_15, g_16, g_17, g_18, g_19, g_20, g_21, g_22, g_23, g_24, g_25, g_26, g_27, g_28, g_29, g_30, g_31, g_32, g_33, Option.bind_some, mW_obj, xrI_e, xrJ_e, xrD_e, xrA_e, xrV_e]
      rw [if_neg (th0 v)]
      exact ⟨t', rfl, k2⟩
    | inl r =>
      obtain ⟨x, q, hx, q16, e5, s0, s1, s2⟩ := hR.1.1 _ r hc.2 hq
      rw [lenA_row hq, show (18 : Int32) = nI 18 from rfl, c_counted (a := 18) (b := 0) (by decide) (by decide)]
      simp only [g_0, g_1, g_2, g_3, g_4, g_5, g_6, g_7, g_8, g_9, g_10, g_11, g_12, g_13, g_14, g_15, g_16, g_17, g_18, g_19, g_20, g_21, g_22, g_23, g_24, g_25, g_26, g_27, g_28, g_29, g_30, g_31, g_32, g_33, Option.bind_some, mW_obj, xrI_e, xrJ_e, xrD_e, xrA_e, xrV_e, mj_si, md_si, mI_si, mJ_si, mD_si, mi_sj, md_sj, mI_sj, mJ_sj, mD_sj, mi_sd, mj_sd, mI_sd, mJ_sd, mD_sd, mi_sI, mj_sI, md_sI, mJ_sI, mD_sI, mi_sJ, mj_sJ, md_sJ, mI_sJ, mD_sJ, mi_sD, mj_sD, md_sD, mI_sD, mJ_sD, mi_si_e, mj_sj_e, md_sd_e, hx]
      rw [if_pos (show nI 0 = 0 from rfl)]
      have a5 := a_5 (m0 := m0) (t := sI t 14 (6 * 18 + 0) (mI t 14 (6 * 18 + 0) + 1)) (u := u) hc.2
      rw [← inB_nI hc, mI_sI_n _ _ _ _ (show 5 ≠ 14 by decide), e5] at a5
      simp only [a5, Option.bind_some, a_1 q16, mI_sI_n _ _ _ _ (show 1 ≠ 14 by decide), s1]
      exact ⟨_, rfl, Rm_cnt hR (by decide)⟩
  · rw [c_colf hc, if_pos hc]
    exact ⟨t, rfl, hR⟩
theorem m_same {c d : Int32} (hR : Rm S t) (hw : wf S) : xev 105 0 [some (xA (some (m0))), some (xI (c)), some (xI (d))] [] (mW m0 t u) = some (some (xI (spSame S c d)), mW m0 t u) := by
  unfold spSame
  rw [e_X8_same_0, b_X8_same_0]
  by_cases hc : inB c 10
  · by_cases hd : inB d 10
    · rw [if_neg (fun q => q.elim (fun q => q hc) (fun q => q hd)), c_colt hc]
      simp only [g_0, g_1, g_2, g_3, g_4, g_5, g_6, g_7, g_8, g_9, g_10, g_11, g_12, g_13, g_14, g_15, g_16, g_17, g_18, g_19, g_20, g_21, g_22, g_23, g_24, g_25, g_26, g_27, g_28, g_29, g_30, g_31, g_32, g_33, Option.bind_some, mW_obj, xrI_e, xrJ_e, xrD_e, xrA_e, xrV_e, if_neg i10, c_colt hd]
      have hc' := inB_nI hc
      have hd' := inB_nI hd
      have ac := a_5 (m0 := m0) (t := t) (u := u) hc.2
      have ad := a_5 (m0 := m0) (t := t) (u := u) hd.2
      rw [← hc'] at ac
      rw [← hd'] at ad
      cases hq : qC S c.toNatClampNeg with
      | inr v =>
        have hk := hw.1 _ hc.2
        rw [hq] at hk
        have hn := hcd_np hw.2.2.2.2.2.1 hk
        have hv := hR.1.2.1 _ v hc.2 hq
        have := c_isRow_f (m0 := m0) (t := t) (u := u) hc.2 (by rintro ⟨i, hi, e⟩; exact hn i hi (hv.symm.trans e))
        rw [← hc'] at this
        rw [this]
        rfl
      | inl r =>
        obtain ⟨x, q, hx, q16, e5, _⟩ := hR.1.1 _ r hc.2 hq
        have := c_isRow_t (m0 := m0) (t := t) (u := u) hc.2 ⟨q, q16, e5⟩
        rw [← hc'] at this
        rw [this]
        simp only [g_0, g_1, g_2, g_3, g_4, g_5, g_6, g_7, g_8, g_9, g_10, g_11, g_12, g_13, g_14, g_15, g_16, g_17, g_18, g_19, g_20, g_21, g_22, g_23, g_24, g_25, g_26, g_27, g_28, g_29, g_30, g_31, g_32, g_33, Option.bind_some, mW_obj, xrI_e, xrJ_e, xrD_e, xrA_e, xrV_e, if_neg i10, ac, ad]
        have key : (mI t 5 c.toNatClampNeg = mI t 5 d.toNatClampNeg) ↔ qC S d.toNatClampNeg = .inl r := by
          cases hq2 : qC S d.toNatClampNeg with
          | inr v =>
            have hk := hw.1 _ hd.2
            rw [hq2] at hk
            have hn := hcd_np hw.2.2.2.2.2.1 hk
            have hv := hR.1.2.1 _ v hd.2 hq2
            rw [hv, e5]
            exact ⟨fun h => absurd h.symm (hn q q16), fun h => by cases h⟩
          | inl s =>
            rw [hR.1.2.2.1 _ _ r s hc.2 hd.2 hq hq2]
            exact ⟨fun h => by rw [h], fun h => by cases h; rfl⟩
        by_cases hs : qC S d.toNatClampNeg = .inl r
        · rw [if_pos (key.mpr hs), if_pos hs]
        · rw [if_neg (fun h => hs (key.mp h)), if_neg hs]
    · rw [if_pos (Or.inr hd), c_colt hc]
      simp only [g_0, g_1, g_2, g_3, g_4, g_5, g_6, g_7, g_8, g_9, g_10, g_11, g_12, g_13, g_14, g_15, g_16, g_17, g_18, g_19, g_20, g_21, g_22, g_23, g_24, g_25, g_26, g_27, g_28, g_29, g_30, g_31, g_32, g_33, Option.bind_some, mW_obj, xrI_e, xrJ_e, xrD_e, xrA_e, xrV_e, if_neg i10, c_colf hd, if_pos]
  · rw [if_pos (Or.inl hc), c_colf hc]
    rfl
end MC
