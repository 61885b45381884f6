/-! the reference's accesses -/
section MO
variable {m0 : Nat} {t : mS} {u : xW} {S : sS} {c k : Nat} {cell : Int32}
theorem wf_row {r : Nat} (hw : wf S) (hc : c < 10) (h : qC S c = .inl r) : ∃ x, qR S r = some x ∧ rok (qN S) x := by
  have := hw.1 c hc
  rw [h] at this
  exact this
theorem tok_c {N : Nat} {v : mC} (h : tok N v) : kn v < 12 ∧ v.1 = nI (kn v) := by
  obtain ⟨k, h1, h2, _⟩ := h
  have : kn v = k := by unfold kn; rw [h2, nI_clamp (by omega)]
  rw [this]
  exact ⟨h1, h2⟩
theorem kn_of {v : mC} {k : Nat} (h : v.1 = nI k) (hk : k < 12) : kn v = k := by unfold kn; rw [h, nI_clamp (by omega)]
theorem c_told {v : mC} {k : Nat} (hv : v.1 = nI k) (hk : k < 12) (hn : (k = 6 ∨ k = 7) → nR 20 v.2.2) (w : xW) : xev 101 0 [some (xI (nI k)), some (xJ v.2.1), none, some (xD v.2.2), none] [] w = some (some (xJ (cde v)), w) := by
  rw [e_X8_told_0, b_X8_told_0]
  unfold cde
  rw [hv]
  have e6 : (nI k = 6) ↔ k = 6 := nI_eq (b := 6) (by omega) (by decide)
  have e7 : (nI k = 7) ↔ k = 7 := nI_eq (b := 7) (by omega) (by decide)
  simp only [e6, e7]
  by_cases h6 : k = 6
  · rw [if_pos h6, if_pos h6, fl_b6 (hn (Or.inl h6))]
    rfl
  · rw [if_neg h6, if_neg h6]
    by_cases h7 : k = 7
    · rw [if_pos h7, if_pos h7, fl_b7 (hn (Or.inr h7))]
      rfl
    · rw [if_neg h7, if_neg h7]
theorem tok_n {N : Nat} {v : mC} (h : tok N v) : (kn v = 6 ∨ kn v = 7) → nR 20 v.2.2 := by
  intro hk
  obtain ⟨k, h1, h2, h3⟩ := h
  rw [kn_of h2 h1] at hk
  rcases h3 with ⟨h6, _⟩ | ⟨_, _, h0⟩ | ⟨h6, _⟩ | ⟨h6, _⟩ | ⟨h6, _⟩
  · omega
  · exact nR_mono h0 (by decide)
  · omega
  · omega
  · omega
theorem c_at {q : Nat} (h : inB cell 24) : (24 : Int32) * nI q + cell = nI (24 * q + cell.toNatClampNeg) := by
  conv => lhs; rw [inB_nI h]
  rw [show (24 : Int32) = nI 24 from rfl, pk_mul, nI_add]
theorem th0 (v : mC) : ¬ nI (if v.1 = 11 then 1 else 2) = 0 := by split <;> decide
theorem th1 (v : mC) : ¬ (if v.1 = 11 then 1 else 2) = 0 := by split <;> decide
theorem m_read0 (hR : Rm S t) (hw : wf S) (hc : c < 10) (hk : k < 8) : ∃ t', xev 108 0 [some (xA (some m0)), some (xI (nI c)), some (xI cell), some (xI (nI k)), none, none] [] (mW m0 t u) = some (some (xI (nI (rdA S c cell k).1)), mW m0 t' u) ∧ Rm (rdA S c cell k).2 t' ∧ ((rdA S c cell k).1 = 0 → mj t' 21 = (qS (rdA S c cell k).2).2.1 ∧ md t' 22 = (qS (rdA S c cell k).2).2.2) ∧ mi t' = mi t ∧ mJ t' = mJ t ∧ mD t' = mD t := by
  rw [e_X8_read0_0, b_X8_read0_0]
  simp only [mW_obj, Option.bind_some, c_firstS hR hw hc, xrI_e]
  cases hq : qC S c with
  | inr v =>
    rw [lenA_th hq, rdA_th hq]
    rw [if_neg (th0 v)]
    exact ⟨t, rfl, hR, fun h => absurd h (th1 v), rfl, rfl, rfl⟩
  | inl r =>
    obtain ⟨x, q, hx, q16, e5, s0, s1, s2⟩ := hR.1.1 c r hc hq
    obtain ⟨y, hy, rk⟩ := wf_row hw hc hq
    obtain rfl : x = y := Option.some.inj (hx.symm.trans hy)
    obtain ⟨k13, n24, ck⟩ := rk
    rw [lenA_row hq, rdA_row hq hx]
    rw [if_pos (show nI 0 = 0 from rfl)]
    have h7 : ((7 : Int32) < nI x.1) ↔ 7 < x.1 := nI_ltI (a := 7) (by decide) (by omega)
    have hi : ∀ w, inB cell x.2.1 → xev 88 0 [some (xJ cell.toInt64), none, some (xJ 0), none, some (xJ (nI x.2.1 - 1).toInt64), none] [] w = some (some (xI 1), w) := fun w h => c_inB_t (by omega) h w
    have hj : ∀ w, ¬ inB cell x.2.1 → xev 88 0 [some (xJ cell.toInt64), none, some (xJ 0), none, some (xJ (nI x.2.1 - 1).toInt64), none] [] w = some (some (xI 0), w) := fun w h => c_inB_f (by omega) h w
    simp only [g_0, g_1, g_2, g_3, g_4, g_5, g_6, g_7, g_8, g_9, g_10, g_11, g_12, g_13, g_14, g_15, g_16, g_17, g_18, g_19, g_20, g_21, g_22, g_23, g_24, g_25, g_26, g_27, g_28, g_29, g_30, g_31, g_32, g_33, Option.bind_some, mW_obj, xrI_e, xrJ_e, xrD_e, xrA_e, xrV_e, a_5 hc, e5, a_0 q16, s0, a_1 q16, s1, h7]
    by_cases h8 : 7 < x.1
    · rw [if_pos h8, if_pos h8]
      exact ⟨t, rfl, hR, fun h => absurd (show (3 : Nat) = 0 from h) (by decide), rfl, rfl, rfl⟩
    · rw [if_neg h8, if_neg h8]
      by_cases hb : inB cell x.2.1
      · obtain ⟨tk, _, tt⟩ := ck _ hb.2
        have tt := tt (by omega)
        have hat := s2 _ hb.2
        have b24 : inB cell 24 := ⟨hb.1, by omega⟩
        have ha : 24 * q + cell.toNatClampNeg < 384 := by have := b24.2; omega
        rw [hi _ hb, if_pos hb]
        simp only [Option.bind_some, xrI_e]
        rw [if_neg (show ¬ (1 : Int32) = 0 by decide)]
        simp only [g_0, g_1, g_2, g_3, g_4, g_5, g_6, g_7, g_8, g_9, g_10, g_11, g_12, g_13, g_14, g_15, g_16, g_17, g_18, g_19, g_20, g_21, g_22, g_23, g_24, g_25, g_26, g_27, g_28, g_29, g_30, g_31, g_32, g_33, Option.bind_some, mW_obj, xrI_e, xrJ_e, xrD_e, xrA_e, xrV_e, a_0 q16, s0, c_widens (show x.1 < 8 by omega) hk]
        cases hf : fitB k x.1 with
        | false =>
          rw [if_pos (show bI false = 0 from rfl), if_neg (by decide)]
          exact ⟨t, rfl, hR, fun h => absurd (show (5 : Nat) = 0 from h) (by decide), rfl, rfl, rfl⟩
        | true =>
          rw [if_neg (show ¬ bI true = 0 by decide), if_pos rfl]
          have hm := wid_m tk tt (by omega) hk hf
          have ho := wid_ok tk tt (by omega) hk hf
          have h6 : (nI k < 6) ↔ k < 6 := nI_ltI (b := 6) (by omega) (by decide)
          simp only [h6, c_at b24]
          have eJ : mJ t 3 (24 * q + cell.toNatClampNeg) = (x.2.2 cell.toNatClampNeg).2.1 := congrArg (fun z => z.2.1) hat
          have eD : mD t 4 (24 * q + cell.toNatClampNeg) = (x.2.2 cell.toNatClampNeg).2.2 := congrArg (fun z => z.2.2) hat
          have hcd := fun w => c_told (v := wid (x.2.2 cell.toNatClampNeg) k) ho.2 (by omega) (fun h => tok_n ho.1 (by rw [kn_of ho.2 (by omega)]; exact h)) w
          rw [hm] at hcd
          refine ⟨sj (sd (sj t 21 (if k < 6 then (x.2.2 cell.toNatClampNeg).2.1 else 0)) 22 (mwd x.1 k (x.2.2 cell.toNatClampNeg).2.1 (x.2.2 cell.toNatClampNeg).2.2)) 10 (cde (wid (x.2.2 cell.toNatClampNeg) k)), ?_, ⟨hR.1, hR.2.1, rfl, hR.2.2.2⟩, fun _ => ?_, rfl, rfl, rfl⟩
          · by_cases k6 : k < 6
            · simp only [if_pos k6] at hcd ⊢
              simp only [g_0, g_1, g_2, g_3, g_4, g_5, g_6, g_7, g_8, g_9, g_10, g_11, g_12, g_13, g_14, g_15, g_16, g_17, g_18, g_19, g_20, g_21, g_22, g_23, g_24, g_25, g_26, g_27, g_28, g_29, g_30, g_31, g_32, g_33, Option.bind_some, mW_obj, xrI_e, xrJ_e, xrD_e, xrA_e, xrV_e, a_3 ha, a_4 ha, a_0 q16, p_21, p_22, p_10, eJ, eD, s0, c_widened (show x.1 < 12 by omega) hk, mj_si, md_si, mI_si, mJ_si, mD_si, mi_sj, md_sj, mI_sj, mJ_sj, mD_sj, mi_sd, mj_sd, mI_sd, mJ_sd, mD_sd, mi_sI, mj_sI, md_sI, mJ_sI, mD_sI, mi_sJ, mj_sJ, md_sJ, mI_sJ, mD_sJ, mi_sD, mj_sD, md_sD, mI_sD, mJ_sD, mi_si_e, mj_sj_e, md_sd_e, hcd]
              rw [hm, if_pos k6]; rfl
            · simp only [if_neg k6] at hcd ⊢
              simp only [g_0, g_1, g_2, g_3, g_4, g_5, g_6, g_7, g_8, g_9, g_10, g_11, g_12, g_13, g_14, g_15, g_16, g_17, g_18, g_19, g_20, g_21, g_22, g_23, g_24, g_25, g_26, g_27, g_28, g_29, g_30, g_31, g_32, g_33, Option.bind_some, mW_obj, xrI_e, xrJ_e, xrD_e, xrA_e, xrV_e, a_3 ha, a_4 ha, a_0 q16, p_21, p_22, p_10, eJ, eD, s0, c_widened (show x.1 < 12 by omega) hk, mj_si, md_si, mI_si, mJ_si, mD_si, mi_sj, md_sj, mI_sj, mJ_sj, mD_sj, mi_sd, mj_sd, mI_sd, mJ_sd, mD_sd, mi_sI, mj_sI, md_sI, mJ_sI, mD_sI, mi_sJ, mj_sJ, md_sJ, mI_sJ, mD_sJ, mi_sD, mj_sD, md_sD, mI_sD, mJ_sD, mi_si_e, mj_sj_e, md_sd_e, hcd]
              rw [hm, if_neg k6]; rfl
          · show (if k < 6 then _ else _) = (wid _ k).2.1 ∧ mwd _ _ _ _ = (wid _ k).2.2
            rw [hm]
            exact ⟨rfl, rfl⟩
      · rw [hj _ hb, if_neg hb]
        exact ⟨t, rfl, hR, fun h => absurd (show (4 : Nat) = 0 from h) (by decide), rfl, rfl, rfl⟩
end MO
