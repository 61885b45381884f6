/-! the reference pastes, gathers, counts -/
section MH
variable {m0 : Nat} {t t0 : mS} {u : xW} {S : sS}
/-- where an element goes when a piece is put in -/
def pasD (q p m i : Nat) : Nat := 24 * q + (if i < p then i else i + m)
theorem c_paste_l1 {c f q p m n : Nat} {k : Int32} (hq : q < 16) (hf : f < 16) (hfq : f ≠ q) (hn : n + m ≤ 24) (hp : p ≤ n) (hk : k < 0 ∨ True) (h1 : mI t0 1 f = nI n) {e : Nat} (he : e < 16) (h6 : mi t0 6 = nI e) (e1 : mI t0 1 e = nI m) : ∀ d k, k + d = n → xev 127 173 [some (xA (some (m0))), some (xI (nI c)), some (xI (nI p)), some (xI (nI f)), none, some (xI (nI q)), some (xI (nI k))] [] (mW m0 (mFold t0 (pasD q p m) (fun j => mT t0 (24 * f + j)) k) u) = xev 127 233 [some (xA (some (m0))), some (xI (nI c)), some (xI (nI p)), none, none, some (xI (nI q)), some (xI (0))] [] (mW m0 (mFold t0 (pasD q p m) (fun j => mT t0 (24 * f + j)) n) u)
  | 0, k, h => by
    obtain rfl : k = n := by omega
    conv => lhs; rw [e_X8_paste_173, b_X8_paste_173]
    simp only [g_0, g_1, g_2, g_3, g_4, g_5, g_6, g_7, g_8, g_9, g_10, g_11, g_12, g_13, g_14, g_15, g_16, g_17, g_18, g_19, g_20, g_21, g_22, g_23, g_24, g_25, g_26, g_27, g_28, g_29, g_30, g_31, g_32, g_33, Option.bind_some, mW_obj, xrI_e, xrJ_e, xrD_e, xrA_e, xrV_e, a_1 hf, mFold_I (t := t0) _ _ (show 1 ≠ 2 by decide), h1]
    rw [if_neg (nI_nlt (by omega) (by omega))]
  | d + 1, k, h => by
    have ih := c_paste_l1 (c := c) (k := 0) hq hf hfq hn hp (Or.inr trivial) h1 he h6 e1 d (k + 1) (by omega)
    have ev : mT (mFold t0 (pasD q p m) (fun j => mT t0 (24 * f + j)) k) (24 * f + k) = mT t0 (24 * f + k) := mFold_out k (fun j hj => by
      unfold pasD
      split <;> omega)
    conv => lhs; rw [e_X8_paste_173, b_X8_paste_173]
    simp only [g_0, g_1, g_2, g_3, g_4, g_5, g_6, g_7, g_8, g_9, g_10, g_11, g_12, g_13, g_14, g_15, g_16, g_17, g_18, g_19, g_20, g_21, g_22, g_23, g_24, g_25, g_26, g_27, g_28, g_29, g_30, g_31, g_32, g_33, Option.bind_some, mW_obj, xrI_e, xrJ_e, xrD_e, xrA_e, xrV_e, a_1 hf, mFold_I (t := t0) _ _ (show 1 ≠ 2 by decide), h1, mFold_i (t := t0), h6, a_1 he, e1]
    rw [if_pos (nI_lt (by omega) (by omega))]
    by_cases ha : k < p
    · rw [if_pos (nI_lt ha (by omega))]
      have ed : pasD q p m k = 24 * q + k := by unfold pasD; rw [if_pos ha]
      simp only [at_N, c_copy (show 24 * f + k < 384 by omega) (show 24 * q + k < 384 by omega), g_0, g_1, g_2, g_3, g_4, g_5, g_6, g_7, g_8, g_9, g_10, g_11, g_12, g_13, g_14, g_15, g_16, g_17, g_18, g_19, g_20, g_21, g_22, g_23, g_24, g_25, g_26, g_27, g_28, g_29, g_30, g_31, g_32, g_33, Option.bind_some, mW_obj, xrI_e, xrJ_e, xrD_e, xrA_e, xrV_e, nI_1]
      rw [ev, ← ed]
      exact ih
    · rw [if_neg (nI_nlt (by omega) (by omega))]
      have ed : pasD q p m k = 24 * q + (k + m) := by unfold pasD; rw [if_neg ha]
      simp only [nI_add, at_N, c_copy (show 24 * f + k < 384 by omega) (show 24 * q + (k + m) < 384 by omega), g_0, g_1, g_2, g_3, g_4, g_5, g_6, g_7, g_8, g_9, g_10, g_11, g_12, g_13, g_14, g_15, g_16, g_17, g_18, g_19, g_20, g_21, g_22, g_23, g_24, g_25, g_26, g_27, g_28, g_29, g_30, g_31, g_32, g_33, Option.bind_some, mW_obj, xrI_e, xrJ_e, xrD_e, xrA_e, xrV_e, nI_1]
      rw [ev, ← ed]
      exact ih
theorem c_paste_l2 {c q p e ty N : Nat} {y : sR} (hq : q < 16) (he : e < 16) (hqe : q ≠ e) (hc : c < 10) (hm : p + y.2.1 ≤ 24) (ht : ty < 13) (h0 : mI t0 0 q = nI ty) (h6 : mi t0 6 = nI e) (hs : slt t0 e y) (hk : rok N y) (hfit : ∀ i, i < y.2.1 → fitB ty (kn (y.2.2 i)) = true) : ∀ d k, k + d = y.2.1 → xev 127 233 [some (xA (some (m0))), some (xI (nI c)), some (xI (nI p)), none, none, some (xI (nI q)), some (xI (nI k))] [] (mW m0 (mFold t0 (fun j => 24 * q + (p + j)) (fun j => pv ty (y.2.2 j)) k) u) = some (some (xI 0), mW m0 (sI (mFold t0 (fun j => 24 * q + (p + j)) (fun j => pv ty (y.2.2 j)) y.2.1) 5 c (nI q)) u)
  | 0, k, h => by
    obtain rfl : k = y.2.1 := by omega
    rw [e_X8_paste_233, b_X8_paste_233]
    simp only [g_0, g_1, g_2, g_3, g_4, g_5, g_6, g_7, g_8, g_9, g_10, g_11, g_12, g_13, g_14, g_15, g_16, g_17, g_18, g_19, g_20, g_21, g_22, g_23, g_24, g_25, g_26, g_27, g_28, g_29, g_30, g_31, g_32, g_33, Option.bind_some, mW_obj, xrI_e, xrJ_e, xrD_e, xrA_e, xrV_e, mFold_i (t := t0), h6, a_1 he, mFold_I (t := t0) _ _ (show 1 ≠ 2 by decide), hs.2.1]
    rw [if_neg (nI_nlt (by omega) (by omega)), s_5 hc]
    rfl
  | d + 1, k, h => by
    rw [e_X8_paste_233, b_X8_paste_233]
    simp only [g_0, g_1, g_2, g_3, g_4, g_5, g_6, g_7, g_8, g_9, g_10, g_11, g_12, g_13, g_14, g_15, g_16, g_17, g_18, g_19, g_20, g_21, g_22, g_23, g_24, g_25, g_26, g_27, g_28, g_29, g_30, g_31, g_32, g_33, Option.bind_some, mW_obj, xrI_e, xrJ_e, xrD_e, xrA_e, xrV_e, mFold_i (t := t0), h6, a_1 he, mFold_I (t := t0) _ _ (show 1 ≠ 2 by decide), hs.2.1]
    rw [if_pos (nI_lt (by omega) (by omega)), nI_add]
    have ev : mT (mFold t0 (fun j => 24 * q + (p + j)) (fun j => pv ty (y.2.2 j)) k) (24 * e + k) = y.2.2 k := (mFold_out k (fun j hj => by omega)).trans (hs.2.2 k (by omega))
    rw [c_layCell he hq (by omega) (by omega) (by rw [mFold_I _ _ (by decide)]; exact h0) ht ev (hk.2.2 k (by omega)).1 (hfit k (by omega))]
    simp only [g_0, g_1, g_2, g_3, g_4, g_5, g_6, g_7, g_8, g_9, g_10, g_11, g_12, g_13, g_14, g_15, g_16, g_17, g_18, g_19, g_20, g_21, g_22, g_23, g_24, g_25, g_26, g_27, g_28, g_29, g_30, g_31, g_32, g_33, Option.bind_some, mW_obj, xrI_e, xrJ_e, xrD_e, xrA_e, xrV_e, nI_1]
    exact c_paste_l2 hq he hqe hc hm ht h0 h6 hs hk hfit d (k + 1) (by omega)
theorem c_le {x : Int32} {n : Nat} (hn : n + 1 < 2 ^ 31) : (nI n).toInt64 = (nI (n + 1) - 1).toInt64 := by rw [nI_pred]
theorem m_paste {c p : Int32} {id : Nat} (hR : Rm S t) (hw : wf S) (hf : qR S id = none) : ∃ t', xev 127 0 [some (xA (some (m0))), some (xI (c)), some (xI (p)), none, none, none, none] [] (mW m0 t u) = some (some (xI (spPaste S c p id).1), mW m0 t' u) ∧ Rm (spPaste S c p id).2 t' := by
  unfold spPaste
  rw [e_X8_paste_0, b_X8_paste_0]
  by_cases hc : inB c 10
  · rw [if_neg (fun q => q hc), c_colt hc]
    simp only [g_0, g_1, g_2, g_3, g_4, g_5, g_6, g_7, g_8, g_9, g_10, g_11, g_12, g_13, g_14, g_15, g_16, g_17, g_18, g_19, g_20, g_21, g_22, g_23, g_24, g_25, g_26, g_27, g_28, g_29, g_30, g_31, g_32, g_33, Option.bind_some, mW_obj, xrI_e, xrJ_e, xrD_e, xrA_e, xrV_e, if_neg i10]
    cases hK : qK S with
    | none =>
      rw [hR.1.2.2.2.1 hK, if_pos (by decide)]
      exact ⟨t, rfl, hR⟩
    | some s =>
      obtain ⟨y, e, hy, e16, h6, hse, hue⟩ := hR.1.2.2.2.2 s hK
      obtain ⟨⟨y', hy', rky⟩, hns⟩ := hw.2.2.2.1 s hK
      obtain rfl : y = y' := Option.some.inj (hy.symm.trans hy')
      rw [h6, if_neg (nI_pos (by omega))]
      have hfs := c_firstS (m0 := m0) (u := u) hR hw hc.2
      rw [← inB_nI hc] at hfs
      have ac := a_5 (m0 := m0) (t := t) (u := u) hc.2
      rw [← inB_nI hc] at ac
      cases hq : qC S c.toNatClampNeg with
      | inr v =>
        have hk := hw.1 _ hc.2
        rw [hq] at hk
        have hn := hcd_np hw.2.2.2.2.2.1 hk
        have hv := hR.1.2.1 _ v hc.2 hq
        have hr := c_isRow_f (m0 := m0) (t := t) (u := u) hc.2 (by rintro ⟨i, hi, e⟩; exact hn i hi (hv.symm.trans e))
        rw [← inB_nI hc] at hr
        rw [lenA_th hq] at hfs
        simp only [hr, hfs, g_0, g_1, g_2, g_3, g_4, g_5, g_6, g_7, g_8, g_9, g_10, g_11, g_12, g_13, g_14, g_15, g_16, g_17, g_18, g_19, g_20, g_21, g_22, g_23, g_24, g_25, g_26, g_27, g_28, g_29, g_30, g_31, g_32, g_33, Option.bind_some, mW_obj, xrI_e, xrJ_e, xrD_e, xrA_e, xrV_e, if_pos, if_neg (th0 v)]
        exact ⟨t, rfl, hR⟩
      | inl r =>
        obtain ⟨x, f, hx, f16, e5, hs⟩ := hR.1.1 _ r hc.2 hq
        obtain ⟨x', hx', rk⟩ := wf_row hw hc.2 hq
        obtain rfl : x = x' := Option.some.inj (hx.symm.trans hx')
        have hn := rk.2.1
        have hny := rky.2.1
        have hr := c_isRow_t (m0 := m0) (t := t) (u := u) hc.2 ⟨f, f16, e5⟩
        rw [← inB_nI hc] at hr
        rw [e5] at ac
        rw [lenA_row hq] at hfs
        simp only [hr, g_0, g_1, g_2, g_3, g_4, g_5, g_6, g_7, g_8, g_9, g_10, g_11, g_12, g_13, g_14, g_15, g_16, g_17, g_18, g_19, g_20, g_21, g_22, g_23, g_24, g_25, g_26, g_27, g_28, g_29, g_30, g_31, g_32, g_33, Option.bind_some, mW_obj, xrI_e, xrJ_e, xrD_e, xrA_e, xrV_e, if_neg i10, ac, a_1 f16, hs.2.1, h6, a_1 e16, hse.2.1, nI_add, hx, hy]
        by_cases h24 : 24 < x.2.1 + y.2.1
        · rw [if_pos (show (24 : Int32) < nI _ from nI_lt (a := 24) h24 (by omega)), if_pos h24]
          exact ⟨t, rfl, hR⟩
        · rw [if_neg (show ¬ (24 : Int32) < nI _ from nI_nlt (a := 24) (by omega) (by decide)), if_neg h24]
          simp only [hfs, g_0, g_1, g_2, g_3, g_4, g_5, g_6, g_7, g_8, g_9, g_10, g_11, g_12, g_13, g_14, g_15, g_16, g_17, g_18, g_19, g_20, g_21, g_22, g_23, g_24, g_25, g_26, g_27, g_28, g_29, g_30, g_31, g_32, g_33, Option.bind_some, mW_obj, xrI_e, xrJ_e, xrD_e, xrA_e, xrV_e, ac, a_1 f16, hs.2.1]
          rw [if_pos (show nI 0 = 0 from rfl)]
          by_cases hp : inB p (x.2.1 + 1)
          · rw [c_rt hp (by omega) (c_le (x := 0) (by omega)), if_neg (fun q => q hp)]
            have hu := c_unfit (m0 := m0) (u := u) e16 rk.1 hse rky
            have hle := ufit_le y x.1
            simp only [g_0, g_1, g_2, g_3, g_4, g_5, g_6, g_7, g_8, g_9, g_10, g_11, g_12, g_13, g_14, g_15, g_16, g_17, g_18, g_19, g_20, g_21, g_22, g_23, g_24, g_25, g_26, g_27, g_28, g_29, g_30, g_31, g_32, g_33, Option.bind_some, mW_obj, xrI_e, xrJ_e, xrD_e, xrA_e, xrV_e, if_neg i10, h6, a_0 f16, hs.1, hu, a_1 e16, hse.2.1]
            by_cases hb : ufit y x.1 < y.2.1
            · rw [if_pos (nI_lt hb (by omega)), if_pos hb]
              simp only [p_6, p_7, p_8, p_9, p_10, p_13, p_15, p_18, p_19, p_20, p_21, p_22, p_25, Option.bind_some]
              refine ⟨_, rfl, hR.1, hR.2.1, ?_, hR.2.2.2⟩
              show (nI (ufit y x.1)).toInt64 = cde (4, lN (ufit y x.1), 0)
              rw [nI_l (by omega)]
              rfl
            · rw [if_neg (nI_nlt (by omega) (by omega)), if_neg hb]
              obtain ⟨q, q16, un, hfr⟩ := c_free (m0 := m0) (t := t) (u := u) (-6)
              have hfq : f ≠ q := fun h => un.2.2 _ hc.2 (h ▸ e5)
              have hqe : q ≠ e := fun h => un.1 (h ▸ h6.symm)
              simp only [hfr, g_0, g_1, g_2, g_3, g_4, g_5, g_6, g_7, g_8, g_9, g_10, g_11, g_12, g_13, g_14, g_15, g_16, g_17, g_18, g_19, g_20, g_21, g_22, g_23, g_24, g_25, g_26, g_27, g_28, g_29, g_30, g_31, g_32, g_33, Option.bind_some, mW_obj, xrI_e, xrJ_e, xrD_e, xrA_e, xrV_e, a_0 f16, hs.1, a_1 f16, hs.2.1, h6, a_1 e16, hse.2.1, nI_add, c_begin q16]
              have wb := wr_begin t q (nI x.1) (nI (x.2.1 + y.2.1))
              have sf := sam_slt (wb.2.2 f hfq) hn hs
              have se := sam_slt (wb.2.2 e (fun h => hqe h.symm)) hny hse
              have h6' : mi (mBegin t q (nI x.1) (nI (x.2.1 + y.2.1))) 6 = nI e := (congrFun wb.1.1 6).trans h6
              have hp2 := hp.2
              have l1 := c_paste_l1 (m0 := m0) (u := u) (c := c.toNatClampNeg) (k := 0) q16 f16 hfq (show x.2.1 + y.2.1 ≤ 24 by omega) (show p.toNatClampNeg ≤ x.2.1 by omega) (Or.inr trivial) sf.2.1 e16 h6' se.2.1 x.2.1 0 (by omega)
              rw [← inB_nI hc, ← inB_nI hp, nI_0, mFold_0] at l1
              rw [l1]
              have wb1 := wr_fold (mBegin t q (nI x.1) (nI (x.2.1 + y.2.1))) (q := q) (dst := pasD q p.toNatClampNeg y.2.1) (v := fun j => mT (mBegin t q (nI x.1) (nI (x.2.1 + y.2.1))) (24 * f + j)) x.2.1 (fun j hj => by unfold pasD; split <;> omega)
              have l2 := c_paste_l2 (m0 := m0) (u := u) (c := c.toNatClampNeg) (p := p.toNatClampNeg) (t0 := mFold (mBegin t q (nI x.1) (nI (x.2.1 + y.2.1))) (pasD q p.toNatClampNeg y.2.1) (fun j => mT (mBegin t q (nI x.1) (nI (x.2.1 + y.2.1))) (24 * f + j)) x.2.1) q16 e16 hqe hc.2 (by omega) rk.1 (by rw [mFold_I _ _ (by decide)]; exact (begin_0 _ _ _ _).1) (by rw [mFold_i]; exact h6') (sam_slt (wb1.2.2 e (fun h => hqe h.symm)) hny se) rky (ufit_all hb) y.2.1 0 (by omega)
              rw [← inB_nI hc, ← inB_nI hp, nI_0, mFold_0] at l2
              rw [l2]
              have wb2 := wr_fold (mFold (mBegin t q (nI x.1) (nI (x.2.1 + y.2.1))) (pasD q p.toNatClampNeg y.2.1) (fun j => mT (mBegin t q (nI x.1) (nI (x.2.1 + y.2.1))) (24 * f + j)) x.2.1) (q := q) (dst := fun j => 24 * q + (p.toNatClampNeg + j)) (v := fun j => pv x.1 (y.2.2 j)) y.2.1 (fun j hj => ⟨by omega, by omega⟩)
              have wa := wr_tr wb (wr_tr wb1 wb2)
              refine ⟨_, rfl, Rm_hang hR hw hf q16 un.2.2 (fun h => un.1 h.symm) (fun p _ hp _ => wa.2.2 p hp) wa.1 wa.2.1 ⟨?_, ?_, fun i hi => ?_⟩ hc.2⟩
              · rw [mFold_I _ _ (by decide), mFold_I _ _ (by decide)]
                exact (begin_0 _ _ _ _).1
              · rw [mFold_I _ _ (by decide), mFold_I _ _ (by decide)]
                exact (begin_0 _ _ _ _).2
              · have hi' : i < x.2.1 + y.2.1 := hi
                show _ = (if i < p.toNatClampNeg then x.2.2 i else if i < p.toNatClampNeg + y.2.1 then pv x.1 (y.2.2 (i - p.toNatClampNeg)) else x.2.2 (i - y.2.1))
                have inj : ∀ i j, i < x.2.1 → j < x.2.1 → pasD q p.toNatClampNeg y.2.1 i = pasD q p.toNatClampNeg y.2.1 j → i = j := by
                  intro i j _ _ e
                  unfold pasD at e
                  split at e <;> split at e <;> omega
                by_cases h1 : i < p.toNatClampNeg
                · rw [if_pos h1, mFold_out y.2.1 (fun j hj => by omega)]
                  have ed : pasD q p.toNatClampNeg y.2.1 i = 24 * q + i := by unfold pasD; rw [if_pos h1]
                  rw [← ed, mFold_in x.2.1 inj i (by omega)]
                  exact sf.2.2 i (by omega)
                · rw [if_neg h1]
                  by_cases h2 : i < p.toNatClampNeg + y.2.1
                  · rw [if_pos h2]
                    have := mFold_in (t := mFold (mBegin t q (nI x.1) (nI (x.2.1 + y.2.1))) (pasD q p.toNatClampNeg y.2.1) (fun j => mT (mBegin t q (nI x.1) (nI (x.2.1 + y.2.1))) (24 * f + j)) x.2.1) (dst := fun j => 24 * q + (p.toNatClampNeg + j)) (v := fun j => pv x.1 (y.2.2 j)) y.2.1 (fun i j _ _ e => by omega) (i - p.toNatClampNeg) (by omega)
                    rw [show 24 * q + (p.toNatClampNeg + (i - p.toNatClampNeg)) = 24 * q + i by omega] at this
                    exact this
                  · rw [if_neg h2, mFold_out y.2.1 (fun j hj => by omega)]
                    have ed : pasD q p.toNatClampNeg y.2.1 (i - y.2.1) = 24 * q + i := by unfold pasD; rw [if_neg (by omega)]; omega
                    rw [← ed, mFold_in x.2.1 inj (i - y.2.1) (by omega)]
                    exact sf.2.2 (i - y.2.1) (by omega)
          · rw [c_rf hp (by omega) (c_le (x := 0) (by omega)), if_pos hp]
            exact ⟨t, rfl, hR⟩
  · rw [if_pos hc, c_colf hc]
    exact ⟨t, rfl, hR⟩
end MH
