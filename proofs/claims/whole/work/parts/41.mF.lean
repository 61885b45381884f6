/-! the reference's rows that are made of rows -/
section MF
variable {m0 : Nat} {t t0 : mS} {u : xW} {S : sS}
theorem at_N (q k : Nat) : (24 : Int32) * nI q + nI k = nI (24 * q + k) := by rw [show (24 : Int32) = nI 24 from rfl, pk_mul, nI_add]
theorem c_unfit_l {q ty : Nat} {x : sR} {N : Nat} (hq : q < 16) (ht : ty < 13) (hs : slt t q x) (hk : rok N x) : ∀ d k, k + d = x.2.1 → xev 125 2 [some (xA (some (m0))), some (xI (nI q)), some (xI (nI ty)), some (xI (nI k))] [] (mW m0 t u) = some (some (xI (nI (ufA ty x.2.2 d k))), mW m0 t u)
  | 0, k, h => by
    have := hk.2.1
    rw [e_X8_unfit_2, b_X8_unfit_2]
    simp only [g_0, g_1, g_2, g_3, g_4, g_5, g_6, g_7, g_8, g_9, g_10, g_11, g_12, g_13, g_14, g_15, g_16, g_17, g_18, g_19, g_20, g_21, g_22, g_23, g_24, g_25, g_26, g_27, g_28, g_29, g_30, g_31, g_32, g_33, Option.bind_some, mW_obj, xrI_e, xrJ_e, xrD_e, xrA_e, xrV_e, a_1 hq, hs.2.1]
    rw [if_neg (nI_nlt (by omega) (by omega))]
    rfl
  | d + 1, k, h => by
    have hn := hk.2.1
    have hkx : k < x.2.1 := by omega
    obtain ⟨tk, _, _⟩ := hk.2.2 k hkx
    obtain ⟨k12, ek⟩ := tok_c tk
    have e2 : mI t 2 (24 * q + k) = (x.2.2 k).1 := congrArg (fun z => z.1) (hs.2.2 k hkx)
    rw [e_X8_unfit_2, b_X8_unfit_2]
    simp only [g_0, g_1, g_2, g_3, g_4, g_5, g_6, g_7, g_8, g_9, g_10, g_11, g_12, g_13, g_14, g_15, g_16, g_17, g_18, g_19, g_20, g_21, g_22, g_23, g_24, g_25, g_26, g_27, g_28, g_29, g_30, g_31, g_32, g_33, Option.bind_some, mW_obj, xrI_e, xrJ_e, xrD_e, xrA_e, xrV_e, a_1 hq, hs.2.1]
    rw [if_pos (nI_lt (by omega) (by omega)), at_N]
    simp only [a_2 (show 24 * q + k < 384 by omega), Option.bind_some, e2]
    have hc := c_canHold (k := kn (x.2.2 k)) ht k12 (mW m0 t u)
    rw [← ek] at hc
    rw [hc]
    simp only [g_0, g_1, g_2, g_3, g_4, g_5, g_6, g_7, g_8, g_9, g_10, g_11, g_12, g_13, g_14, g_15, g_16, g_17, g_18, g_19, g_20, g_21, g_22, g_23, g_24, g_25, g_26, g_27, g_28, g_29, g_30, g_31, g_32, g_33, Option.bind_some, mW_obj, xrI_e, xrJ_e, xrD_e, xrA_e, xrV_e]
    unfold ufA
    cases hf : fitB ty (kn (x.2.2 k)) with
    | false =>
      rw [if_pos (show bI false = 0 from rfl), if_neg (by decide)]
    | true =>
      rw [if_neg (show ¬ bI true = 0 by decide), if_pos rfl, nI_1]
      exact c_unfit_l hq ht hs hk d (k + 1) (by omega)
theorem c_unfit {q ty : Nat} {x : sR} {N : Nat} (hq : q < 16) (ht : ty < 13) (hs : slt t q x) (hk : rok N x) : xev 125 0 [some (xA (some (m0))), some (xI (nI q)), some (xI (nI ty)), none] [] (mW m0 t u) = some (some (xI (nI (ufit x ty))), mW m0 t u) := by
  rw [e_X8_unfit_0, b_X8_unfit_0]
  exact c_unfit_l hq ht hs hk _ 0 (by omega)
theorem c_layCell {f i q j ty N : Nat} {v : mC} (hf : f < 16) (hq : q < 16) (hi : i < 24) (hj : j < 24) (h0 : mI t 0 q = nI ty) (hty : ty < 13) (hv : mT t (24 * f + i) = v) (ht : tok N v) (hfit : fitB ty (kn v) = true) : xev 126 0 [some (xA (some (m0))), some (xI (nI f)), some (xI (nI i)), some (xI (nI q)), some (xI (nI j)), none] [] (mW m0 t u) = some (none, mW m0 (mPut t (24 * q + j) (pv ty v)) u) := by
  subst hv
  rw [e_X8_layCell_0, b_X8_layCell_0]
  simp only [g_0, g_1, g_2, g_3, g_4, g_5, g_6, g_7, g_8, g_9, g_10, g_11, g_12, g_13, g_14, g_15, g_16, g_17, g_18, g_19, g_20, g_21, g_22, g_23, g_24, g_25, g_26, g_27, g_28, g_29, g_30, g_31, g_32, g_33, Option.bind_some, mW_obj, xrI_e, xrJ_e, xrD_e, xrA_e, xrV_e, a_0 hq, h0, at_N, a_2 (show 24 * f + i < 384 by omega), a_3 (show 24 * f + i < 384 by omega), a_4 (show 24 * f + i < 384 by omega)]
  have := m_lay0 (m0 := m0) (t := t) (u := u) (at' := 24 * q + j) (by omega) hty ht hfit
  show ((xev 113 0 [some (xA (some m0)), some (xI (nI (24 * q + j))), some (xI (nI ty)), some (xI (mT t (24 * f + i)).1), some (xJ (mT t (24 * f + i)).2.1), none, some (xD (mT t (24 * f + i)).2.2), none] [] (mW m0 t u)).bind _) = _
  rw [this]
  rfl
theorem mFold_0 (dst : Nat → Nat) (v : Nat → mC) : mFold t0 dst v 0 = t0 := rfl
/-- a row is copied -/
theorem c_hang_l {q f n c : Nat} (hq : q < 16) (hf : f < 16) (hqf : q ≠ f) (hn : n ≤ 24) (hc : c < 10) (h1 : mI t0 1 f = nI n) : ∀ d k, k + d = n → xev 104 100 [some (xA (some (m0))), none, some (xI (nI c)), none, some (xI (nI f)), some (xI (nI q)), some (xI (nI k))] [] (mW m0 (mFold t0 (fun j => 24 * q + j) (fun j => mT t0 (24 * f + j)) k) u) = some (some (xI 0), mW m0 (sI (mFold t0 (fun j => 24 * q + j) (fun j => mT t0 (24 * f + j)) n) 5 c (nI q)) u)
  | 0, k, h => by
    obtain rfl : k = n := by omega
    rw [e_X8_hang_100, b_X8_hang_100]
    simp only [g_0, g_1, g_2, g_3, g_4, g_5, g_6, g_7, g_8, g_9, g_10, g_11, g_12, g_13, g_14, g_15, g_16, g_17, g_18, g_19, g_20, g_21, g_22, g_23, g_24, g_25, g_26, g_27, g_28, g_29, g_30, g_31, g_32, g_33, Option.bind_some, mW_obj, xrI_e, xrJ_e, xrD_e, xrA_e, xrV_e, a_1 hf, mFold_I (t := t0) _ _ (show 1 ≠ 2 by decide), h1]
    rw [if_neg (nI_nlt (by omega) (by omega)), s_5 hc]
    rfl
  | d + 1, k, h => by
    rw [e_X8_hang_100, b_X8_hang_100]
    simp only [g_0, g_1, g_2, g_3, g_4, g_5, g_6, g_7, g_8, g_9, g_10, g_11, g_12, g_13, g_14, g_15, g_16, g_17, g_18, g_19, g_20, g_21, g_22, g_23, g_24, g_25, g_26, g_27, g_28, g_29, g_30, g_31, g_32, g_33, Option.bind_some, mW_obj, xrI_e, xrJ_e, xrD_e, xrA_e, xrV_e, a_1 hf, mFold_I (t := t0) _ _ (show 1 ≠ 2 by decide), h1]
    rw [if_pos (nI_lt (by omega) (by omega))]
    simp only [at_N, c_copy (show 24 * f + k < 384 by omega) (show 24 * q + k < 384 by omega), g_0, g_1, g_2, g_3, g_4, g_5, g_6, g_7, g_8, g_9, g_10, g_11, g_12, g_13, g_14, g_15, g_16, g_17, g_18, g_19, g_20, g_21, g_22, g_23, g_24, g_25, g_26, g_27, g_28, g_29, g_30, g_31, g_32, g_33, Option.bind_some, mW_obj, xrI_e, xrJ_e, xrD_e, xrA_e, xrV_e, nI_1]
    have e : mT (mFold t0 (fun j => 24 * q + j) (fun j => mT t0 (24 * f + j)) k) (24 * f + k) = mT t0 (24 * f + k) := mFold_out k (fun j hj => by omega)
    rw [e]
    exact c_hang_l hq hf hqf hn hc h1 d (k + 1) (by omega)
theorem slt_fold {q n : Nat} {x : sR} (h0 : mI t0 0 q = nI x.1) (h1 : mI t0 1 q = nI x.2.1) {v : Nat → mC} (hn : x.2.1 = n) (hv : ∀ i, i < n → v i = x.2.2 i) : slt (mFold t0 (fun j => 24 * q + j) v n) q x := by
  refine ⟨by rw [mFold_I _ _ (by decide)]; exact h0, by rw [mFold_I _ _ (by decide)]; exact h1, fun i hi => ?_⟩
  rw [mFold_in (dst := fun j => 24 * q + j) n (fun i j _ _ e => by omega) i (by omega), hv i (by omega)]
theorem m_hang {c to how : Int32} {id : Nat} (hR : Rm S t) (hw : wf S) (hf : qR S id = none) : ∃ t', xev 104 0 [some (xA (some (m0))), some (xI (c)), some (xI (to)), some (xI (how)), none, none, none] [] (mW m0 t u) = some (some (xI (spHang S c to how id).1), mW m0 t' u) ∧ Rm (spHang S c to how id).2 t' := by
  unfold spHang
  rw [e_X8_hang_0, b_X8_hang_0]
  by_cases hc : inB c 10
  · by_cases ht : inB to 10
    · rw [if_neg (fun q => q.elim (fun q => q hc) (fun q => q ht)), c_colt hc]
      simp only [g_0, g_1, g_2, g_3, g_4, g_5, g_6, g_7, g_8, g_9, g_10, g_11, g_12, g_13, g_14, g_15, g_16, g_17, g_18, g_19, g_20, g_21, g_22, g_23, g_24, g_25, g_26, g_27, g_28, g_29, g_30, g_31, g_32, g_33, Option.bind_some, mW_obj, xrI_e, xrJ_e, xrD_e, xrA_e, xrV_e, if_neg i10, c_colt ht]
      by_cases hh : inB how 2
      · rw [c_rt hh (by decide) (show (1 : Int64) = (nI 2 - 1).toInt64 by decide), if_neg (fun q => q hh)]
        simp only [g_0, g_1, g_2, g_3, g_4, g_5, g_6, g_7, g_8, g_9, g_10, g_11, g_12, g_13, g_14, g_15, g_16, g_17, g_18, g_19, g_20, g_21, g_22, g_23, g_24, g_25, g_26, g_27, g_28, g_29, g_30, g_31, g_32, g_33, Option.bind_some, mW_obj, xrI_e, xrJ_e, xrD_e, xrA_e, xrV_e, if_neg i10]
        have ac := a_5 (m0 := m0) (t := t) (u := u) hc.2
        rw [← inB_nI hc] at ac
        by_cases h0 : how = 0
        · rw [if_pos h0, if_pos h0, ac]
          have := s_5 (m0 := m0) (t := t) (u := u) (x := mI t 5 c.toNatClampNeg) ht.2
          rw [← inB_nI ht] at this
          simp only [Option.bind_some, this]
          exact ⟨_, rfl, Rm_same hR hc.2⟩
        · rw [if_neg h0, if_neg h0]
          have hfs := c_firstS (m0 := m0) (u := u) hR hw hc.2
          rw [← inB_nI hc] at hfs
          simp only [hfs, g_0, g_1, g_2, g_3, g_4, g_5, g_6, g_7, g_8, g_9, g_10, g_11, g_12, g_13, g_14, g_15, g_16, g_17, g_18, g_19, g_20, g_21, g_22, g_23, g_24, g_25, g_26, g_27, g_28, g_29, g_30, g_31, g_32, g_33, Option.bind_some, mW_obj, xrI_e, xrJ_e, xrD_e, xrA_e, xrV_e]
          cases hq : qC S c.toNatClampNeg with
          | inr v =>
            rw [lenA_th hq, if_neg (th0 v)]
            exact ⟨t, rfl, hR⟩
          | inl r =>
            obtain ⟨x, p, hx, p16, e5, s0, s1, s2⟩ := hR.1.1 _ r hc.2 hq
            obtain ⟨y, hy, rk⟩ := wf_row hw hc.2 hq
            obtain rfl : x = y := Option.some.inj (hx.symm.trans hy)
            have hn := rk.2.1
            rw [lenA_row hq, if_pos (show nI 0 = 0 from rfl)]
            obtain ⟨q, q16, un, hfr⟩ := c_free (m0 := m0) (t := t) (u := u) (-6)
            have hqp : q ≠ p := fun h => un.2.2 _ hc.2 (h ▸ e5)
            simp only [ac, e5, hfr, g_0, g_1, g_2, g_3, g_4, g_5, g_6, g_7, g_8, g_9, g_10, g_11, g_12, g_13, g_14, g_15, g_16, g_17, g_18, g_19, g_20, g_21, g_22, g_23, g_24, g_25, g_26, g_27, g_28, g_29, g_30, g_31, g_32, g_33, Option.bind_some, mW_obj, xrI_e, xrJ_e, xrD_e, xrA_e, xrV_e, a_0 p16, s0, a_1 p16, s1, c_begin q16, hx]
            have wb := wr_begin t q (nI x.1) (nI x.2.1)
            have h1 : mI (mBegin t q (nI x.1) (nI x.2.1)) 1 p = nI x.2.1 := (wb.2.2 p (fun h => hqp h.symm)).2.1.trans s1
            have hl := c_hang_l (m0 := m0) (u := u) q16 p16 hqp hn ht.2 h1 x.2.1 0 (by omega)
            rw [← inB_nI ht, nI_0, mFold_0] at hl
            rw [hl]
            have wf' := wr_tr wb (wr_fold (mBegin t q (nI x.1) (nI x.2.1)) (q := q) (dst := fun j => 24 * q + j) (v := fun j => mT (mBegin t q (nI x.1) (nI x.2.1)) (24 * p + j)) x.2.1 (fun j hj => ⟨by omega, by omega⟩))
            refine ⟨_, rfl, Rm_hang hR hw hf q16 un.2.2 (fun h => un.1 h.symm) (fun p _ hp _ => wf'.2.2 p hp) wf'.1 wf'.2.1 (slt_fold (begin_0 t q _ _).1 (begin_0 t q _ _).2 rfl (fun i hi => ?_)) ht.2⟩
            rw [(wb.2.2 p (fun h => hqp h.symm)).2.2 i (by omega)]
            exact s2 i hi
      · rw [c_rf hh (by decide) (show (1 : Int64) = (nI 2 - 1).toInt64 by decide), if_pos hh]
        exact ⟨t, rfl, hR⟩
    · rw [if_pos (Or.inr ht), c_colt hc]
      simp only [g_0, g_1, g_2, g_3, g_4, g_5, g_6, g_7, g_8, g_9, g_10, g_11, g_12, g_13, g_14, g_15, g_16, g_17, g_18, g_19, g_20, g_21, g_22, g_23, g_24, g_25, g_26, g_27, g_28, g_29, g_30, g_31, g_32, g_33, Option.bind_some, mW_obj, xrI_e, xrJ_e, xrD_e, xrA_e, xrV_e, if_neg i10, c_colf ht, if_pos]
      exact ⟨t, rfl, hR⟩
  · rw [if_pos (Or.inl hc), c_colf hc]
    exact ⟨t, rfl, hR⟩
theorem c_turn_l {q f n c ty N : Nat} {x : sR} (hq : q < 16) (hf : f < 16) (hqf : q ≠ f) (hn : x.2.1 = n) (hc : c < 10) (ht : ty < 13) (h0 : mI t0 0 q = nI ty) (hs : slt t0 f x) (hk : rok N x) (hfit : ∀ i, i < n → fitB ty (kn (x.2.2 i)) = true) : ∀ d k, k + d = n → xev 128 97 [some (xA (some (m0))), some (xI (nI c)), none, some (xI (nI f)), none, some (xI (nI q)), some (xI (nI k))] [] (mW m0 (mFold t0 (fun j => 24 * q + j) (fun j => pv ty (x.2.2 j)) k) u) = some (some (xI 0), mW m0 (sI (mFold t0 (fun j => 24 * q + j) (fun j => pv ty (x.2.2 j)) n) 5 c (nI q)) u)
  | 0, k, h => by
    have := hk.2.1
    obtain rfl : k = n := by omega
    rw [e_X8_turn_97, b_X8_turn_97]
    simp only [g_0, g_1, g_2, g_3, g_4, g_5, g_6, g_7, g_8, g_9, g_10, g_11, g_12, g_13, g_14, g_15, g_16, g_17, g_18, g_19, g_20, g_21, g_22, g_23, g_24, g_25, g_26, g_27, g_28, g_29, g_30, g_31, g_32, g_33, Option.bind_some, mW_obj, xrI_e, xrJ_e, xrD_e, xrA_e, xrV_e, a_1 hf, mFold_I (t := t0) _ _ (show 1 ≠ 2 by decide), hs.2.1]
    rw [if_neg (nI_nlt (by omega) (by omega)), s_5 hc]
    rfl
  | d + 1, k, h => by
    have := hk.2.1
    rw [e_X8_turn_97, b_X8_turn_97]
    simp only [g_0, g_1, g_2, g_3, g_4, g_5, g_6, g_7, g_8, g_9, g_10, g_11, g_12, g_13, g_14, g_15, g_16, g_17, g_18, g_19, g_20, g_21, g_22, g_23, g_24, g_25, g_26, g_27, g_28, g_29, g_30, g_31, g_32, g_33, Option.bind_some, mW_obj, xrI_e, xrJ_e, xrD_e, xrA_e, xrV_e, a_1 hf, mFold_I (t := t0) _ _ (show 1 ≠ 2 by decide), hs.2.1]
    rw [if_pos (nI_lt (by omega) (by omega))]
    have e : mT (mFold t0 (fun j => 24 * q + j) (fun j => pv ty (x.2.2 j)) k) (24 * f + k) = x.2.2 k := (mFold_out k (fun j hj => by omega)).trans (hs.2.2 k (by omega))
    rw [c_layCell hf hq (by omega) (by omega) (by rw [mFold_I _ _ (by decide)]; exact h0) ht e (hk.2.2 k (by omega)).1 (hfit k (by omega))]
    simp only [g_0, g_1, g_2, g_3, g_4, g_5, g_6, g_7, g_8, g_9, g_10, g_11, g_12, g_13, g_14, g_15, g_16, g_17, g_18, g_19, g_20, g_21, g_22, g_23, g_24, g_25, g_26, g_27, g_28, g_29, g_30, g_31, g_32, g_33, Option.bind_some, mW_obj, xrI_e, xrJ_e, xrD_e, xrA_e, xrV_e, nI_1]
    exact c_turn_l hq hf hqf hn hc ht h0 hs hk hfit d (k + 1) (by omega)
theorem m_turn {c k : Int32} {id : Nat} (hR : Rm S t) (hw : wf S) (hf : qR S id = none) : ∃ t', xev 128 0 [some (xA (some (m0))), some (xI (c)), some (xI (k)), none, none, none, none] [] (mW m0 t u) = some (some (xI (spTurn S c k id).1), mW m0 t' u) ∧ Rm (spTurn S c k id).2 t' := by
  unfold spTurn
  rw [e_X8_turn_0, b_X8_turn_0]
  by_cases hc : inB c 10
  · rw [if_neg (fun q => q hc), c_colt hc]
    simp only [g_0, g_1, g_2, g_3, g_4, g_5, g_6, g_7, g_8, g_9, g_10, g_11, g_12, g_13, g_14, g_15, g_16, g_17, g_18, g_19, g_20, g_21, g_22, g_23, g_24, g_25, g_26, g_27, g_28, g_29, g_30, g_31, g_32, g_33, Option.bind_some, mW_obj, xrI_e, xrJ_e, xrD_e, xrA_e, xrV_e, if_neg i10]
    by_cases hk : inB k 13
    · rw [c_rt hk (by decide) (show (12 : Int64) = (nI 13 - 1).toInt64 by decide), if_neg (fun q => q hk)]
      have hfs := c_firstS (m0 := m0) (u := u) hR hw hc.2
      rw [← inB_nI hc] at hfs
      simp only [hfs, g_0, g_1, g_2, g_3, g_4, g_5, g_6, g_7, g_8, g_9, g_10, g_11, g_12, g_13, g_14, g_15, g_16, g_17, g_18, g_19, g_20, g_21, g_22, g_23, g_24, g_25, g_26, g_27, g_28, g_29, g_30, g_31, g_32, g_33, Option.bind_some, mW_obj, xrI_e, xrJ_e, xrD_e, xrA_e, xrV_e, if_neg i10]
      cases hq : qC S c.toNatClampNeg with
      | inr v =>
        rw [lenA_th hq, if_neg (th0 v)]
        exact ⟨t, rfl, hR⟩
      | inl r =>
        obtain ⟨x, p, hx, p16, e5, hs⟩ := hR.1.1 _ r hc.2 hq
        obtain ⟨y, hy, rk⟩ := wf_row hw hc.2 hq
        obtain rfl : x = y := Option.some.inj (hx.symm.trans hy)
        have hn := rk.2.1
        rw [lenA_row hq, if_pos (show nI 0 = 0 from rfl)]
        have ac := a_5 (m0 := m0) (t := t) (u := u) hc.2
        rw [← inB_nI hc, e5] at ac
        have hu := c_unfit (m0 := m0) (u := u) p16 hk.2 hs rk
        rw [← inB_nI hk] at hu
        have hle := ufit_le x k.toNatClampNeg
        simp only [ac, Option.bind_some, hu, hx, g_0, g_1, g_2, g_3, g_4, g_5, g_6, g_7, g_8, g_9, g_10, g_11, g_12, g_13, g_14, g_15, g_16, g_17, g_18, g_19, g_20, g_21, g_22, g_23, g_24, g_25, g_26, g_27, g_28, g_29, g_30, g_31, g_32, g_33, Option.bind_some, mW_obj, xrI_e, xrJ_e, xrD_e, xrA_e, xrV_e, a_1 p16, hs.2.1]
        by_cases hb : ufit x k.toNatClampNeg < x.2.1
        · rw [if_pos (nI_lt hb (by omega)), if_pos hb]
          simp only [p_6, p_7, p_8, p_9, p_10, p_13, p_15, p_18, p_19, p_20, p_21, p_22, p_25, Option.bind_some]
          refine ⟨_, rfl, hR.1, hR.2.1, ?_, hR.2.2.2⟩
          show (nI (ufit x k.toNatClampNeg)).toInt64 = cde (4, lN (ufit x k.toNatClampNeg), 0)
          rw [nI_l (by omega)]
          rfl
        · rw [if_neg (nI_nlt (by omega) (by omega)), if_neg hb]
          obtain ⟨q, q16, un, hfr⟩ := c_free (m0 := m0) (t := t) (u := u) (-6)
          have hqp : q ≠ p := fun h => un.2.2 _ hc.2 (h ▸ e5)
          simp only [hfr, g_0, g_1, g_2, g_3, g_4, g_5, g_6, g_7, g_8, g_9, g_10, g_11, g_12, g_13, g_14, g_15, g_16, g_17, g_18, g_19, g_20, g_21, g_22, g_23, g_24, g_25, g_26, g_27, g_28, g_29, g_30, g_31, g_32, g_33, Option.bind_some, mW_obj, xrI_e, xrJ_e, xrD_e, xrA_e, xrV_e, a_1 p16, hs.2.1, c_begin q16]
          have wb := wr_begin t q k (nI x.2.1)
          have hl := c_turn_l (m0 := m0) (u := u) (t0 := mBegin t q k (nI x.2.1)) q16 p16 hqp rfl hc.2 hk.2 ((begin_0 t q k _).1.trans (inB_nI hk)) (sam_slt (wb.2.2 p (fun h => hqp h.symm)) hn hs) rk (ufit_all hb) x.2.1 0 (by omega)
          rw [← inB_nI hc, nI_0, mFold_0] at hl
          rw [hl]
          have wf' := wr_tr wb (wr_fold (mBegin t q k (nI x.2.1)) (q := q) (dst := fun j => 24 * q + j) (v := fun j => pv k.toNatClampNeg (x.2.2 j)) x.2.1 (fun j hj => ⟨by omega, by omega⟩))
          exact ⟨_, rfl, Rm_hang hR hw hf q16 un.2.2 (fun h => un.1 h.symm) (fun p _ hp _ => wf'.2.2 p hp) wf'.1 wf'.2.1 (slt_fold (x := rTurn x k.toNatClampNeg) ((begin_0 t q k _).1.trans (inB_nI hk)) (begin_0 t q _ _).2 rfl (fun i hi => rfl)) hc.2⟩
    · rw [c_rf hk (by decide) (show (12 : Int64) = (nI 13 - 1).toInt64 by decide), if_pos hk]
      exact ⟨t, rfl, hR⟩
  · rw [if_pos hc, c_colf hc]
    exact ⟨t, rfl, hR⟩
end MF
