/-! the reference tells what fits, and keeps images -/
section MN
variable {m0 : Nat} {t t0 : mS} {u : xW} {S : sS}
theorem m_fits {c : Int32} (hR : Rm S t) (hw : wf S) : xev 129 0 [some (xA (some (m0))), some (xI (c)), none, none] [] (mW m0 t u) = some (some (xI (spFits S c)), mW m0 t u) := by
  unfold spFits
  rw [e_X8_fits_0, b_X8_fits_0]
  by_cases hc : inB c 10
  · rw [if_neg (fun q => q hc), c_colt hc]
    simp only [g_0, g_1, g_2, g_3, g_4, g_5, g_6, g_7, g_8, g_9, g_10, g_11, g_12, g_13, g_14, g_15, g_16, g_17, g_18, g_19, g_20, g_21, g_22, g_23, g_24, g_25, g_26, g_27, g_28, g_29, g_30, g_31, g_32, g_33, Option.bind_some, mW_obj, xrI_e, xrJ_e, xrD_e, xrA_e, xrV_e, if_neg i10]
    have ac := a_5 (m0 := m0) (t := t) (u := u) hc.2
    rw [← inB_nI hc] at ac
    cases hq : qC S c.toNatClampNeg with
    | inr v =>
      have hk := hw.1 _ hc.2
      rw [hq] at hk
      have hn := hcd_np hw.2.2.2.2.2.1 hk
      have hv := hR.1.2.1 _ v hc.2 hq
      have hr := c_isRow_f (m0 := m0) (t := t) (u := u) hc.2 (by rintro ⟨i, hi, e⟩; exact hn i hi (hv.symm.trans e))
      rw [← inB_nI hc] at hr
      rw [e_X8_fits_13, b_X8_fits_13, if_pos (by decide)]
      simp only [g_0, g_1, g_2, g_3, g_4, g_5, g_6, g_7, g_8, g_9, g_10, g_11, g_12, g_13, g_14, g_15, g_16, g_17, g_18, g_19, g_20, g_21, g_22, g_23, g_24, g_25, g_26, g_27, g_28, g_29, g_30, g_31, g_32, g_33, Option.bind_some, mW_obj, xrI_e, xrJ_e, xrD_e, xrA_e, xrV_e, hr, if_pos]
    | inl r =>
      obtain ⟨x, f, hx, f16, e5, hs⟩ := hR.1.1 _ r hc.2 hq
      obtain ⟨x', hx', rk⟩ := wf_row hw hc.2 hq
      obtain rfl : x = x' := Option.some.inj (hx.symm.trans hx')
      have hr := c_isRow_t (m0 := m0) (t := t) (u := u) hc.2 ⟨f, f16, e5⟩
      rw [← inB_nI hc] at hr
      rw [e5] at ac
      simp only [hx]
      have step : ∀ k a, k < 13 → xev 129 13 [some (xA (some (m0))), some (xI (c)), some (xI (a)), some (xI (nI k))] [] (mW m0 t u) = xev 129 13 [some (xA (some (m0))), some (xI (c)), some (xI ((a ||| (if ufit x k = x.2.1 then (1 : Int32) <<< (nI k &&& 31) else 0)))), some (xI (nI (k + 1)))] [] (mW m0 t u) := by
        intro k a hk
        conv => lhs; rw [e_X8_fits_13, b_X8_fits_13, if_pos (show nI k < 13 from nI_lt (b := 13) hk (by decide))]
        have hu := c_unfit (m0 := m0) (u := u) f16 hk hs rk
        have hle := ufit_le x k
        have hn := rk.2.1
        simp only [g_0, g_1, g_2, g_3, g_4, g_5, g_6, g_7, g_8, g_9, g_10, g_11, g_12, g_13, g_14, g_15, g_16, g_17, g_18, g_19, g_20, g_21, g_22, g_23, g_24, g_25, g_26, g_27, g_28, g_29, g_30, g_31, g_32, g_33, Option.bind_some, mW_obj, xrI_e, xrJ_e, xrD_e, xrA_e, xrV_e, hr, if_neg i10, ac, hu, a_1 f16, hs.2.1, nI_1]
        by_cases he : ufit x k = x.2.1
        · rw [if_pos he, if_pos (by rw [he])]
        · rw [if_neg he, if_neg (fun h => he ((nI_eq (by omega) (by omega)).mp h))]
      have e0 := step 0 0 (by decide)
      rw [nI_0] at e0
      rw [e0, step 1 _ (by decide), step 2 _ (by decide), step 3 _ (by decide), step 4 _ (by decide), step 5 _ (by decide), step 6 _ (by decide), step 7 _ (by decide), step 8 _ (by decide), step 9 _ (by decide), step 10 _ (by decide), step 11 _ (by decide), step 12 _ (by decide)]
      rw [e_X8_fits_13, b_X8_fits_13, if_neg (by decide)]
      unfold mskB
      simp only [decide_eq_true_eq, Int32.zero_or]
      rfl
  · rw [if_pos hc, c_colf hc]
    rfl
/-- which columns hang the same -/
theorem hang_eq {c d r : Nat} (hR : Rm S t) (hw : wf S) (hc : c < 10) (hd : d < 10) (hq : qC S c = .inl r) : mI t 5 d = mI t 5 c ↔ qC S d = .inl r := by
  obtain ⟨x, q, hx, q16, e5, _⟩ := hR.1.1 c r hc hq
  cases hq2 : qC S d with
  | inr v =>
    have hk := hw.1 _ hd
    rw [hq2] at hk
    have hn := hcd_np hw.2.2.2.2.2.1 hk
    have hv := hR.1.2.1 _ v hd hq2
    rw [hv, e5]
    exact ⟨fun h => absurd h (hn q q16), fun h => by cases h⟩
  | inl s =>
    rw [hR.1.2.2.1 d c s r hd hc hq2 hq]
    exact ⟨fun h => by rw [h], fun h => by cases h; rfl⟩
theorem c_first_l {c r : Nat} (h5 : ∀ d, d < 10 → (mI t 5 d = mI t 5 c ↔ qC S d = .inl r)) (hc : c < 10) (hq : qC S c = .inl r) : ∀ d i, i ≤ c → c < i + d → i + d = 10 → xev 140 2 [some (xA (some (m0))), some (xI (nI c)), some (xI (nI i))] [] (mW m0 t u) = some (some (xI (nI (frsA (qC S) r d i))), mW m0 t u)
  | 0, i, h1, h2, _ => by omega
  | d + 1, i, h1, h2, h3 => by
    rw [e_X8_firstWith_2, b_X8_firstWith_2]
    simp only [g_0, g_1, g_2, g_3, g_4, g_5, g_6, g_7, g_8, g_9, g_10, g_11, g_12, g_13, g_14, g_15, g_16, g_17, g_18, g_19, g_20, g_21, g_22, g_23, g_24, g_25, g_26, g_27, g_28, g_29, g_30, g_31, g_32, g_33, Option.bind_some, mW_obj, xrI_e, xrJ_e, xrD_e, xrA_e, xrV_e, a_5 (show i < 10 by omega), a_5 hc]
    unfold frsA
    by_cases h : qC S i = .inl r
    · rw [if_pos h, if_pos ((h5 i (by omega)).mpr h)]
    · rw [if_neg h, if_neg (fun q => h ((h5 i (by omega)).mp q)), nI_1]
      have hic : i ≠ c := fun e => h (e ▸ hq)
      exact c_first_l h5 hc hq d (i + 1) (by omega) (by omega) (by omega)
end MN
