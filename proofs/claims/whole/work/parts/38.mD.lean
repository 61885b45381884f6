/-! the reference's stones, what is opened and hung -/
section MD
variable {m0 : Nat} {t t' : mS} {u : xW} {S : sS} {C C' : Nat → sO} {R : Nat → Option sR} {K : Option Nat}
/-- columns change, no row does -/
theorem RmC_old (hR : RmC C R K t) (h6 : mi t' 6 = mi t 6) (hI0 : mI t' 0 = mI t 0) (hI1 : mI t' 1 = mI t 1) (hT : mT t' = mT t)
    (hc : ∀ d, d < 10 → (∃ e, e < 10 ∧ C' d = C e ∧ mI t' 5 d = mI t 5 e) ∨ (∃ v, C' d = .inr v ∧ mI t' 5 d = hcd v ∧ ∀ p, p < 16 → hcd v ≠ nI p)) : RmC C' R K t' := by
  obtain ⟨hA, hB, hC, hD, hE⟩ := hR
  have hs : ∀ q x, slt t q x → slt t' q x := fun q x h => by unfold slt at h ⊢; rw [hI0, hI1, hT]; exact h
  refine ⟨fun d r hd hr => ?_, fun d v hd hv => ?_, fun c d r s h1 h2 h3 h4 => ?_, fun h => h6.trans (hD h), fun r hr => ?_⟩
  · rcases hc d hd with ⟨e, he, e1, e2⟩ | ⟨v, e1, _⟩
    · obtain ⟨y, p, a1, a2, a3, a4⟩ := hA e r he (e1.symm.trans hr)
      exact ⟨y, p, a1, a2, e2.trans a3, hs _ _ a4⟩
    · rw [hr] at e1; cases e1
  · rcases hc d hd with ⟨e, he, e1, e2⟩ | ⟨w, e1, e2, _⟩
    · exact e2.trans (hB e v he (e1.symm.trans hv))
    · rw [hv] at e1; cases e1; exact e2
  · rcases hc c h1 with ⟨e, he, e1, e2⟩ | ⟨w, e1, _⟩
    · rcases hc d h2 with ⟨g, hg, g1, g2⟩ | ⟨w, g1, _⟩
      · rw [e2, g2]
        exact hC e g r s he hg (e1.symm.trans h3) (g1.symm.trans h4)
      · rw [h4] at g1; cases g1
    · rw [h3] at e1; cases e1
  · obtain ⟨y, p, a1, a2, a3, a4, a5⟩ := hE r hr
    refine ⟨y, p, a1, a2, h6.trans a3, hs _ _ a4, fun c hc' => ?_⟩
    rcases hc c hc' with ⟨e, he, e1, e2⟩ | ⟨w, e1, e2, e3⟩
    · rw [e2]; exact a5 e he
    · rw [e2]; exact e3 p a2
theorem Rm_thing {c : Nat} {v : mC} (hR : Rm S t) (hv : ∀ p, p < 16 → hcd v ≠ nI p) : Rm (uC S c (.inr v)) (sI t 5 c (hcd v)) := by
  refine ⟨RmC_old hR.1 rfl rfl rfl rfl (fun d hd => ?_), Rm_oth (oth_sI t 5 c _ (by decide)) hR.2⟩
  rw [mI_sI_e]
  show (∃ e, e < 10 ∧ (if d = c then _ else qC S d) = qC S e ∧ _) ∨ _
  by_cases hdc : d = c
  · right
    exact ⟨v, if_pos hdc, if_pos hdc, hv⟩
  · left
    exact ⟨d, hd, if_neg hdc, if_neg hdc⟩
theorem Rm_same {c e : Nat} (hR : Rm S t) (he : e < 10) : Rm (uC S c (qC S e)) (sI t 5 c (mI t 5 e)) := by
  refine ⟨RmC_old hR.1 rfl rfl rfl rfl (fun d hd => ?_), Rm_oth (oth_sI t 5 c _ (by decide)) hR.2⟩
  rw [mI_sI_e]
  show (∃ g, g < 10 ∧ (if d = c then _ else qC S d) = qC S g ∧ _) ∨ _
  left
  by_cases hdc : d = c
  · exact ⟨e, he, if_pos hdc, if_pos hdc⟩
  · exact ⟨d, hd, if_neg hdc, if_neg hdc⟩
/-- a new stone -/
theorem m_stone {w g : Int32} (hR : Rm S t) (hN : qN S < 60) : ∃ t', xev 103 0 [some (xA (some (m0))), some (xI (w)), some (xI (g))] [] (mW m0 t u) = some (some (xI (nI (qN S + 1))), mW m0 t' u) ∧ Rm (uN (uW S (qN S) w) (qN S + 1)) t' ∧ mi t' 7 = mi t 7 ∧ mj t' = mj t ∧ md t' = md t := by
  have h13 : mi t 13 = nI (qN S) := hR.2.2.2.1.2
  rw [e_X8_newStone_0, b_X8_newStone_0]
  simp only [g_0, g_1, g_2, g_3, g_4, g_5, g_6, g_7, g_8, g_9, g_10, g_11, g_12, g_13, g_14, g_15, g_16, g_17, g_18, g_19, g_20, g_21, g_22, g_23, g_24, g_25, g_26, g_27, g_28, g_29, g_30, g_31, g_32, g_33, Option.bind_some, mW_obj, xrI_e, xrJ_e, xrD_e, xrA_e, xrV_e, p_6, p_7, p_8, p_9, p_10, p_13, p_15, p_18, p_19, p_20, p_21, p_22, p_25, mj_si, md_si, mI_si, mJ_si, mD_si, mi_sj, md_sj, mI_sj, mJ_sj, mD_sj, mi_sd, mj_sd, mI_sd, mJ_sd, mD_sd, mi_sI, mj_sI, md_sI, mJ_sI, mD_sI, mi_sJ, mj_sJ, md_sJ, mI_sJ, mD_sJ, mi_sD, mj_sD, md_sD, mI_sD, mJ_sD, mi_si_e, mj_sj_e, md_sd_e, h13, nI_1, s_11 (show qN S + 1 < 61 by omega), s_12 (show qN S + 1 < 61 by omega)]
  refine ⟨_, rfl, ⟨hR.1, hR.2.1, hR.2.2.1, ⟨fun i hi => ?_, rfl⟩, hR.2.2.2.2⟩, rfl, rfl, rfl⟩
  rw [mI_sI_n _ _ _ _ (by decide), mI_sI_e]
  show _ = va_up (qW S) (qN S) w i
  unfold va_up
  by_cases h : i = qN S
  · rw [if_pos (by omega), if_pos h]
  · rw [if_neg (by omega), if_neg h]
    exact hR.2.2.2.1.1 i hi
theorem nI_big {x : Int32} {n : Nat} (h : inB x n) : ∀ m, m < 2 ^ 31 → n < 2 ^ 31 → (x < nI m ↔ x.toNatClampNeg < m) := by
  intro m hm hn
  have := h.2
  conv => lhs; rw [inB_nI h]
  exact nI_ltI (by omega) hm
theorem nI_e {x : Int32} {n : Nat} (h : inB x n) : ∀ m, m < 2 ^ 31 → n < 2 ^ 31 → (x = nI m ↔ x.toNatClampNeg = m) := by
  intro m hm hn
  have := h.2
  conv => lhs; rw [inB_nI h]
  exact nI_eq (by omega) hm
theorem m_open {c what n : Int32} {id : Nat} (hR : Rm S t) (hw : wf S) (hf : qR S id = none) : ∃ t', xev 102 0 [some (xA (some (m0))), some (xI (c)), some (xI (what)), some (xI (n)), none] [] (mW m0 t u) = some (some (xI (spOpen S c what n id).1), mW m0 t' u) ∧ Rm (spOpen S c what n id).2 t' := by
  unfold spOpen
  rw [e_X8_open_0, b_X8_open_0]
  by_cases hc : inB c 10
  · rw [if_neg (fun q => q hc), c_colt hc]
    simp only [g_0, g_1, g_2, g_3, g_4, g_5, g_6, g_7, g_8, g_9, g_10, g_11, g_12, g_13, g_14, g_15, g_16, g_17, g_18, g_19, g_20, g_21, g_22, g_23, g_24, g_25, g_26, g_27, g_28, g_29, g_30, g_31, g_32, g_33, Option.bind_some, mW_obj, xrI_e, xrJ_e, xrD_e, xrA_e, xrV_e, if_neg i10]
    by_cases h16 : inB what 16
    · rw [c_rt h16 (by decide) (show (15 : Int64) = (nI 16 - 1).toInt64 by decide)]
      have e13 : what < 13 ↔ what.toNatClampNeg < 13 := nI_big h16 13 (by decide) (by decide)
      have d13 : what = 13 ↔ what.toNatClampNeg = 13 := nI_e h16 13 (by decide) (by decide)
      have d14 : what = 14 ↔ what.toNatClampNeg = 14 := nI_e h16 14 (by decide) (by decide)
      have b13 : inB what 13 ↔ what.toNatClampNeg < 13 := ⟨fun h => h.2, fun h => ⟨h16.1, h⟩⟩
      have h13 : mi t 13 = nI (qN S) := hR.2.2.2.1.2
      simp only [g_0, g_1, g_2, g_3, g_4, g_5, g_6, g_7, g_8, g_9, g_10, g_11, g_12, g_13, g_14, g_15, g_16, g_17, g_18, g_19, g_20, g_21, g_22, g_23, g_24, g_25, g_26, g_27, g_28, g_29, g_30, g_31, g_32, g_33, Option.bind_some, mW_obj, xrI_e, xrJ_e, xrD_e, xrA_e, xrV_e, if_neg i10, h13]
      have s5 : ∀ (t : mS) (x : Int32), xsI (mW m0 t u) (m0 + 6) c x = some (mW m0 (sI t 5 c.toNatClampNeg x) u) := fun t x => by
        have := s_5 (m0 := m0) (t := t) (u := u) (x := x) hc.2
        rw [← inB_nI hc] at this
        exact this
      by_cases hl : what.toNatClampNeg < 13
      · have n13 : ¬ what = 13 := fun h => by have := d13.mp h; omega
        have n14 : ¬ what = 14 := fun h => by have := d14.mp h; omega
        simp only [if_pos (e13.mpr hl), if_neg n14, if_neg n13]
        by_cases hn : inB n 25
        · rw [c_rt hn (by decide) (show (24 : Int64) = (nI 25 - 1).toInt64 by decide)]
          rw [if_neg (by rintro (h | h | h); exact h h16; exact h.2 hn; exact n14 h.1), if_neg (fun h => n13 h.1), if_pos (b13.mpr hl)]
          obtain ⟨q, q16, un, hq⟩ := c_free (m0 := m0) (t := t) (u := u) (-6)
          simp only [g_0, g_1, g_2, g_3, g_4, g_5, g_6, g_7, g_8, g_9, g_10, g_11, g_12, g_13, g_14, g_15, g_16, g_17, g_18, g_19, g_20, g_21, g_22, g_23, g_24, g_25, g_26, g_27, g_28, g_29, g_30, g_31, g_32, g_33, Option.bind_some, mW_obj, xrI_e, xrJ_e, xrD_e, xrA_e, xrV_e, if_neg i10, hq, c_begin q16, s5]
          refine ⟨_, rfl, Rm_hang hR hw hf q16 un.2.2 (fun h => un.1 h.symm) (fun p _ hp _ => (wr_begin t q what n).2.2 p hp) (wr_begin t q what n).1 (wr_begin t q what n).2.1 ⟨(begin_0 t q what n).1.trans (inB_nI h16), (begin_0 t q what n).2.trans (inB_nI hn), fun i hi => ?_⟩ hc.2⟩
          have hi' : i < 24 := by
            have := hn.2
            have hi2 : i < n.toNatClampNeg := hi
            omega
          rw [begin_T t q what n hi']
          have e8 : what < 8 ↔ what.toNatClampNeg < 8 := nI_big h16 8 (by decide) (by decide)
          unfold mBlank blk
          by_cases h8 : what.toNatClampNeg < 8
          · rw [if_pos (e8.mpr h8)]
            show _ = ((if 7 < what.toNatClampNeg then 11 else nI what.toNatClampNeg, 0, 0) : mC)
            rw [if_neg (by omega), ← inB_nI h16]
          · rw [if_neg (fun h => h8 (e8.mp h))]
            show _ = ((if 7 < what.toNatClampNeg then 11 else nI what.toNatClampNeg, 0, 0) : mC)
            rw [if_pos (by omega)]
        · rw [c_rf hn (by decide) (show (24 : Int64) = (nI 25 - 1).toInt64 by decide), if_pos (Or.inr (Or.inl ⟨b13.mpr hl, hn⟩))]
          exact ⟨t, rfl, hR⟩
      · have n13 : ¬ inB what 13 := fun h => hl (b13.mp h)
        simp only [if_neg (fun h => hl (e13.mp h) : ¬ what < 13), if_neg n13]
        by_cases h14 : what = 14
        · have m13 : ¬ what = 13 := by rw [h14]; decide
          simp only [if_pos h14, if_neg m13]
          by_cases hn : inB n 100
          · rw [c_rt hn (by decide) (show (99 : Int64) = (nI 100 - 1).toInt64 by decide)]
            rw [if_neg (by rintro (h | h | h); exact h h16; exact n13 h.1; exact h.2 hn), if_neg (fun h => m13 h.1)]
            simp only [g_0, g_1, g_2, g_3, g_4, g_5, g_6, g_7, g_8, g_9, g_10, g_11, g_12, g_13, g_14, g_15, g_16, g_17, g_18, g_19, g_20, g_21, g_22, g_23, g_24, g_25, g_26, g_27, g_28, g_29, g_30, g_31, g_32, g_33, Option.bind_some, mW_obj, xrI_e, xrJ_e, xrD_e, xrA_e, xrV_e, if_neg i10, s5]
            have hv : hok (qN S) (qR S) (.inr ((10, n.toInt64, 0) : mC)) := Or.inr (Or.inl ⟨n.toNatClampNeg, hn.2, by conv => lhs; rw [inB_nI hn, nI_l (show n.toNatClampNeg < 2 ^ 31 by have := hn.2; omega)]⟩)
            have e : hcd (10, n.toInt64, 0) = 100 + n := by
              show (if (10 : Int32) = 11 then _ else if (10 : Int32) = 10 then (100 : Int32) + n.toInt64.toInt32 else _) = _
              rw [if_neg (by decide), if_pos rfl, Int32.toInt32_toInt64]
            rw [← e]
            exact ⟨_, rfl, Rm_thing hR (hcd_np hw.2.2.2.2.2.1 hv)⟩
          · rw [c_rf hn (by decide) (show (99 : Int64) = (nI 100 - 1).toInt64 by decide), if_pos (Or.inr (Or.inr ⟨h14, hn⟩))]
            exact ⟨t, rfl, hR⟩
        · have hN2 : ¬ (¬ inB what 16 ∨ (inB what 13 ∧ ¬ inB n 25) ∨ (what = 14 ∧ ¬ inB n 100)) := by
            rintro (h | h | h)
            · exact h h16
            · exact n13 h.1
            · exact h14 h.1
          rw [if_neg hN2]
          simp only [if_neg h14]
          by_cases h13' : what = 13
          · simp only [if_pos h13']
            have e60 : (nI (qN S) = 60) ↔ qN S = 60 := nI_eq (b := 60) (by have := hw.2.2.2.2.2.1; omega) (by decide)
            by_cases h60 : qN S = 60
            · rw [if_pos (e60.mpr h60), if_pos ⟨h13', h60⟩]
              exact ⟨t, rfl, hR⟩
            · rw [if_neg (fun h => h60 (e60.mp h)), if_neg (fun h => h60 h.2)]
              have hN : qN S < 60 := by have := hw.2.2.2.2.2.1; omega
              obtain ⟨t1, k1, k2, _⟩ := m_stone (m0 := m0) (u := u) (w := n) (g := 0) hR hN
              simp only [k1, g_0, g_1, g_2, g_3, g_4, g_5, g_6, g_7, g_8, g_9, g_10, g_11, g_12, g_13, g_14, g_15, g_16, g_17, g_18, g_19, g_20, g_21, g_22, g_23, g_24, g_25, g_26, g_27, g_28, g_29, g_30, g_31, g_32, g_33, Option.bind_some, mW_obj, xrI_e, xrJ_e, xrD_e, xrA_e, xrV_e, s5]
              have e : hcd (8, lN (qN S + 1), 0) = 1000 + nI (qN S + 1) := by
                show (if (8 : Int32) = 11 then _ else if (8 : Int32) = 10 then _ else (1000 : Int32) + (lN (qN S + 1)).toInt32) = _
                rw [if_neg (by decide), if_neg (by decide), lN_i]
              rw [← e]
              exact ⟨_, rfl, Rm_thing k2 (hcd_np (N := qN S + 1) (by omega) (Or.inr (Or.inr ⟨qN S + 1, by omega, by omega, rfl⟩)))⟩
          · simp only [if_neg h13']
            rw [if_neg (fun h => h13' h.1)]
            simp only [g_0, g_1, g_2, g_3, g_4, g_5, g_6, g_7, g_8, g_9, g_10, g_11, g_12, g_13, g_14, g_15, g_16, g_17, g_18, g_19, g_20, g_21, g_22, g_23, g_24, g_25, g_26, g_27, g_28, g_29, g_30, g_31, g_32, g_33, Option.bind_some, mW_obj, xrI_e, xrJ_e, xrD_e, xrA_e, xrV_e, s5]
            have e : hcd (11, 0, 0) = -1 := rfl
            rw [← e]
            exact ⟨_, rfl, Rm_thing hR (hcd_np (N := 0) (by decide) (Or.inl rfl))⟩
    · rw [c_rf h16 (by decide) (show (15 : Int64) = (nI 16 - 1).toInt64 by decide), if_pos (Or.inl h16)]
      exact ⟨t, rfl, hR⟩
  · rw [if_pos hc, c_colf hc]
    exact ⟨t, rfl, hR⟩
end MD
