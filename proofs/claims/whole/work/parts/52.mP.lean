/-! the reference's images are kept and taken back -/
section MP
variable {m0 : Nat} {t t' t0 : mS} {u : xW} {S : sS} {ids : Nat → Nat}
theorem wf_hC (hw : wf S) : ∀ c r, c < 10 → qC S c = .inl r → ∃ x, qR S r = some x := fun c r hc hr => by
  obtain ⟨x, hx, _⟩ := wf_row hw hc hr
  exact ⟨x, hx⟩
/-- old rows are kept in a twin -/
theorem tw_keep {R : Nat → Option sR} {C : Nat → sO} (hC : ∀ c r, c < 10 → C c = .inl r → ∃ x, R r = some x) (hf : frsh R ids) {r : Nat} {x : sR} (hx : R r = some x) {n : Nat} (hn : n ≤ 10) : (tw R C ids n).1 r = some x := by
  rw [(tw_ok hC hf n hn).2.2.2 r (fun c hc e => by rw [e, hf.1 c (by omega)] at hx; cases hx), hx]
theorem m_image {k : Int32} (hR : Rm S t) (hw : wf S) (hf : frsh (qR S) ids) : ∃ t', xev 141 0 [some (xA (some (m0))), some (xI (k)), none, none, none, none] [] (mW m0 t u) = some (some (xI (spImage S k ids).1), mW m0 t' u) ∧ Rm (spImage S k ids).2 t' := by
  unfold spImage
  rw [e_X8_image_0, b_X8_image_0]
  by_cases hk : inB k 2
  · rw [c_rt hk (by decide) (show (1 : Int64) = (nI 2 - 1).toInt64 by decide), if_neg (fun q => q hk)]
    simp only [g_0, g_1, g_2, g_3, g_4, g_5, g_6, g_7, g_8, g_9, g_10, g_11, g_12, g_13, g_14, g_15, g_16, g_17, g_18, g_19, g_20, g_21, g_22, g_23, g_24, g_25, g_26, g_27, g_28, g_29, g_30, g_31, g_32, g_33, Option.bind_some, mW_obj, xrI_e, xrJ_e, xrD_e, xrA_e, xrV_e, if_neg i10]
    obtain ⟨t1, h1, h2⟩ := c_img_l (m0 := m0) (u := u) hk.2 hR hw 10 0 t rfl ⟨oI_refl t, fun j _ => ⟨rfl, rfl, rfl, rfl, fun _ _ => rfl⟩, rfl, fun d hd => absurd hd (Nat.not_lt_zero d)⟩
    rw [← inB_nI hk, nI_0] at h1
    rw [h1]
    obtain ⟨i1, i2, i3, i4⟩ := h2
    have hC := wf_hC hw
    have tk := tw_ok hC hf 10 (by decide)
    have ho := Rm_oI (oI_tr i1 (oI_sI t1 (k := 26) k.toNatClampNeg 1 (by decide))) ⟨hR.1, hR.2.1, hR.2.2.1, hR.2.2.2.1, hR.2.2.2.2.1, hR.2.2.2.2.2.1⟩
    refine ⟨_, rfl, ⟨fun c r hc hr => ?_, ho.1.2.1, ho.1.2.2.1, ho.1.2.2.2.1, fun r hr => ?_⟩, ho.2.1, ho.2.2.1, ho.2.2.2.1, ho.2.2.2.2.1, ho.2.2.2.2.2, fun j hj => ?_⟩
    · obtain ⟨x, q, a1, a2⟩ := ho.1.1 c r hc hr
      exact ⟨x, q, tw_keep hC hf a1 (by decide), a2⟩
    · obtain ⟨x, q, a1, a2⟩ := ho.1.2.2.2.2 r hr
      exact ⟨x, q, tw_keep hC hf a1 (by decide), a2⟩
    · have hk2 := hk.2
      by_cases hjk : j = k.toNatClampNeg
      · subst hjk
        refine ⟨fun h => ?_, fun f hfj => ?_⟩
        · have h' : (if k.toNatClampNeg = k.toNatClampNeg then some (tw (qR S) (qC S) ids 10).2 else qI S k.toNatClampNeg) = none := h
          rw [if_pos rfl] at h'
          cases h'
        · have h' : (if k.toNatClampNeg = k.toNatClampNeg then some (tw (qR S) (qC S) ids 10).2 else qI S k.toNatClampNeg) = some f := hfj
          rw [if_pos rfl] at h'
          cases h'
          refine ⟨?_, fun c v hc hv => ?_, fun c r hc hr => ?_⟩
          · rw [mI_sI_g, if_pos ⟨rfl, rfl⟩]
          · cases hq : qC S c with
            | inr w =>
              rw [tk.1 c w hc hq] at hv
              cases hv
              rw [mI_sI_n _ _ _ _ (by decide), mI_sI_n _ _ _ _ (by decide)]
              exact (i4 c hc).1 _ hq
            | inl r =>
              rw [(tk.2.1 c r hc hq).1] at hv
              cases hv
          · cases hq : qC S c with
            | inr w =>
              rw [tk.1 c w hc hq] at hr
              cases hr
            | inl s =>
              obtain ⟨a, b⟩ := tk.2.1 c s hc hq
              rw [a] at hr
              cases hr
              obtain ⟨x, hx⟩ := hC c s hc hq
              obtain ⟨f1, f2, f3⟩ := frs_ok hc hq
              obtain ⟨b1, b2⟩ := (i4 c hc).2 s x hq hx
              refine ⟨x, frs (qC S) s, b.trans hx, f1, ?_, (tk.2.1 _ s (by omega) f2).1, fun i hi e => ?_, ?_⟩
              · rw [mI_sI_n _ _ _ _ (by decide)]
                exact b1
              · cases hqi : qC S i with
                | inr w =>
                  rw [tk.1 i w (by omega) hqi] at e
                  cases e
                | inl s' =>
                  rw [(tk.2.1 i s' (by omega) hqi).1] at e
                  have e' := Sum.inl.inj e
                  obtain ⟨g1, g2, g3⟩ := frs_ok (by omega) hqi
                  have := hf.2 _ _ (by omega) (by omega) e'
                  rw [this, f2] at g2
                  cases g2
                  exact f3 i hi hqi
              · exact b2
      · have hI : qI (uI (uRs S (tw (qR S) (qC S) ids 10).1) k.toNatClampNeg (tw (qR S) (qC S) ids 10).2) j = qI S j := if_neg hjk
        obtain ⟨o1, o2⟩ := hR.2.2.2.2.2.2 j hj
        refine ⟨fun h => ?_, fun f hfj => ?_⟩
        · rw [mI_sI_g, if_neg (fun q => hjk q.2), i3]
          exact o1 (hI.symm.trans h)
        · obtain ⟨p1, p2, p3⟩ := o2 f (hI.symm.trans hfj)
          refine ⟨?_, fun c v hc hv => ?_, fun c r hc hr => ?_⟩
          · rw [mI_sI_g, if_neg (fun q => hjk q.2), i3]
            exact p1
          · obtain ⟨a1, a2, a3, a4, a5⟩ := i2 (10 * j + c) (by omega)
            rw [mI_sI_n _ _ _ _ (by decide), mI_sI_n _ _ _ _ (by decide), a1, a2]
            exact p2 c v hc hv
          · obtain ⟨a1, a2, a3, a4, a5⟩ := i2 (10 * j + c) (by omega)
            obtain ⟨x, l, x1, x2, x3, x4, x5, x6⟩ := p3 c r hc hr
            refine ⟨x, l, tw_keep hC hf x1 (by decide), x2, ?_, x4, x5, ?_, ?_, fun i hi => ?_⟩
            · rw [mI_sI_n _ _ _ _ (by decide), a2]; exact x3
            · rw [mI_sI_n _ _ _ _ (by decide), a3]; exact x6.1
            · rw [mI_sI_n _ _ _ _ (by decide), a4]; exact x6.2.1
            · have n24 : x.2.1 ≤ 24 := by
                have := (hw.2.2.2.2.2.2 j f hj (hI.symm.trans hfj) c hc).1
                rw [hr] at this
                obtain ⟨y, hy, rk⟩ := this
                obtain rfl : x = y := Option.some.inj (x1.symm.trans hy)
                exact rk.2.1
              exact (a5 i (by omega)).trans (x6.2.2 i hi)
  · rw [c_rf hk (by decide) (show (1 : Int64) = (nI 2 - 1).toInt64 by decide), if_pos hk]
    exact ⟨t, rfl, hR⟩
/-- all columns are bared -/
theorem c_bare_l {k : Int32} : ∀ d c t, c + d = 10 → (∀ e, e < c → mI t 5 e = -1) → ∃ t', xev 142 27 [some (xA (some (m0))), some (xI (k)), some (xI (nI c)), none, none, none] [] (mW m0 t u) = xev 142 48 [some (xA (some (m0))), some (xI (k)), some (xI (0)), none, none, none] [] (mW m0 t' u) ∧ oth t t' ∧ mI t' 0 = mI t 0 ∧ mI t' 1 = mI t 1 ∧ mT t' = mT t ∧ ∀ e, e < 10 → mI t' 5 e = -1
  | 0, c, t, h, hb => by
    obtain rfl : c = 10 := by omega
    refine ⟨t, ?_, oth_refl t, rfl, rfl, rfl, hb⟩
    conv => lhs; rw [e_X8_restore_27, b_X8_restore_27, if_neg (by decide)]
  | d + 1, c, t, h, hb => by
    have step : xev 142 27 [some (xA (some (m0))), some (xI (k)), some (xI (nI c)), none, none, none] [] (mW m0 t u) = xev 142 27 [some (xA (some (m0))), some (xI (k)), some (xI (nI (c + 1))), none, none, none] [] (mW m0 (sI t 5 c (-1)) u) := by
      conv => lhs; rw [e_X8_restore_27, b_X8_restore_27, if_pos (show nI c < 10 from nI_lt (b := 10) (by omega) (by decide))]
      simp only [g_0, g_1, g_2, g_3, g_4, g_5, g_6, g_7, g_8, g_9, g_10, g_11, g_12, g_13, g_14, g_15, g_16, g_17, g_18, g_19, g_20, g_21, g_22, g_23, g_24, g_25, g_26, g_27, g_28, g_29, g_30, g_31, g_32, g_33, Option.bind_some, mW_obj, xrI_e, xrJ_e, xrD_e, xrA_e, xrV_e, s_5 (show c < 10 by omega), nI_1]
    rw [step]
    obtain ⟨t', h1, h2, h3, h4, h5, h6⟩ := c_bare_l (k := k) d (c + 1) (sI t 5 c (-1)) (by omega) (fun e he => by
      rw [mI_sI_e]
      by_cases hec : e = c
      · rw [if_pos hec]
      · rw [if_neg hec]; exact hb e (by omega))
    exact ⟨t', h1, oth_tr (oth_sI t 5 c _ (by decide)) h2, h3, h4, h5, h6⟩
theorem c_rest_in {k : Int32} {c q f n : Nat} (hc : c < 10) (hq : q < 16) (hf : f < 20) (hn : n ≤ 24) (h1 : mI t0 30 f = nI n) : ∀ d i, i + d = n → xev 142 144 [some (xA (some (m0))), some (xI (k)), some (xI (nI c)), some (xI (nI f)), some (xI (nI q)), some (xI (nI i))] [] (mW m0 (mFold t0 (fun j => 24 * q + j) (fun j => mTI t0 (24 * f + j)) i) u) = xev 142 48 [some (xA (some (m0))), some (xI (k)), some (xI (nI (c + 1))), none, none, none] [] (mW m0 (sI (mFold t0 (fun j => 24 * q + j) (fun j => mTI t0 (24 * f + j)) n) 5 c (nI q)) u)
  | 0, i, h => by
    obtain rfl : i = n := by omega
    conv => lhs; rw [e_X8_restore_144, b_X8_restore_144]
    simp only [g_0, g_1, g_2, g_3, g_4, g_5, g_6, g_7, g_8, g_9, g_10, g_11, g_12, g_13, g_14, g_15, g_16, g_17, g_18, g_19, g_20, g_21, g_22, g_23, g_24, g_25, g_26, g_27, g_28, g_29, g_30, g_31, g_32, g_33, Option.bind_some, mW_obj, xrI_e, xrJ_e, xrD_e, xrA_e, xrV_e, show xaI (mW m0 (mFold t0 (fun j => 24 * q + j) (fun j => mTI t0 (24 * f + j)) i) u) (m0 + 18) (nI f) = _ from a_30 hf, mFold_I (t := t0) _ _ (show 30 ≠ 2 by decide), h1]
    rw [if_neg (nI_nlt (by omega) (by omega)), s_5 hc]
    simp only [Option.bind_some, nI_1]
  | d + 1, i, h => by
    conv => lhs; rw [e_X8_restore_144, b_X8_restore_144]
    simp only [g_0, g_1, g_2, g_3, g_4, g_5, g_6, g_7, g_8, g_9, g_10, g_11, g_12, g_13, g_14, g_15, g_16, g_17, g_18, g_19, g_20, g_21, g_22, g_23, g_24, g_25, g_26, g_27, g_28, g_29, g_30, g_31, g_32, g_33, Option.bind_some, mW_obj, xrI_e, xrJ_e, xrD_e, xrA_e, xrV_e, a_30 hf, mFold_I (t := t0) _ _ (show 30 ≠ 2 by decide), h1]
    rw [if_pos (nI_lt (by omega) (by omega))]
    simp only [at_N, a_31 (show 24 * f + i < 480 by omega), a_32 (show 24 * f + i < 480 by omega), a_33 (show 24 * f + i < 480 by omega), Option.bind_some, mFold_I (t := t0) _ _ (show 31 ≠ 2 by decide), mFold_J (t := t0) _ _ (show 32 ≠ 3 by decide), mFold_D (t := t0) _ _ (show 33 ≠ 4 by decide)]
    have hp := c_put (m0 := m0) (u := u) (t := mFold t0 (fun j => 24 * q + j) (fun j => mTI t0 (24 * f + j)) i) (k := 24 * q + i) (by omega) (mTI t0 (24 * f + i))
    have hp' : xev 94 0 [some (xA (some (m0))), some (xI (nI (24 * q + i))), some (xI (mI t0 31 (24 * f + i))), some (xJ (mJ t0 32 (24 * f + i))), none, some (xD (mD t0 33 (24 * f + i))), none] [] (mW m0 (mFold t0 (fun j => 24 * q + j) (fun j => mTI t0 (24 * f + j)) i) u) = some (none, mW m0 (mFold t0 (fun j => 24 * q + j) (fun j => mTI t0 (24 * f + j)) (i + 1)) u) := hp
    rw [hp']
    simp only [g_0, g_1, g_2, g_3, g_4, g_5, g_6, g_7, g_8, g_9, g_10, g_11, g_12, g_13, g_14, g_15, g_16, g_17, g_18, g_19, g_20, g_21, g_22, g_23, g_24, g_25, g_26, g_27, g_28, g_29, g_30, g_31, g_32, g_33, Option.bind_some, mW_obj, xrI_e, xrJ_e, xrD_e, xrA_e, xrV_e, nI_1]
    exact c_rest_in hc hq hf hn h1 d (i + 1) (by omega)
/-- the notebook while an image is taken back -/
def rsS (S : sS) (f : Nat → sO) (ids : Nat → Nat) (n : Nat) : sS := uPg (uRs S (tw (qR S) f ids n).1) (tw (qR S) f ids n).2
theorem wf_rs0 {f : Nat → sO} (hw : wf S) : wf (rsS S f ids 0) := by
  obtain ⟨h1, h2, h3, h4, h5, h6, h7⟩ := hw
  exact ⟨fun _ _ => Or.inl rfl, h2, h3, fun r hr => ⟨(h4 r hr).1, fun _ _ e => by cases e⟩, h5, h6, fun k f hk hf c hc => ⟨(h7 k f hk hf c hc).1, fun _ _ _ _ e => by cases e⟩⟩
theorem c_rest_l {k : Nat} {f : Nat → sO} (hk : k < 2) (hw : wf S) (hI : qI S k = some f) (hfr : frsh (qR S) ids) : ∀ d c t, c + d = 10 → Rm (rsS S f ids c) t → wf (rsS S f ids c) → ∃ t', xev 142 48 [some (xA (some (m0))), some (xI (nI k)), some (xI (nI c)), none, none, none] [] (mW m0 t u) = some (some (xI 1), mW m0 t' u) ∧ Rm (rsS S f ids 10) t' ∧ wf (rsS S f ids 10)
  | 0, c, t, h, hR, hwc => by
    obtain rfl : c = 10 := by omega
    rw [e_X8_restore_48, b_X8_restore_48, if_neg (by decide)]
    exact ⟨t, rfl, hR, hwc⟩
  | d + 1, c, t, h, hR, hwc => by
    have hc : c < 10 := by omega
    have hfok := fun c hc => (hw.2.2.2.2.2.2 k f hk hI c hc).1
    have hC : ∀ c r, c < 10 → f c = .inl r → ∃ x, qR S r = some x := fun c r hc hr => by
      have := hfok c hc
      rw [hr] at this
      obtain ⟨x, hx, _⟩ := this
      exact ⟨x, hx⟩
    obtain ⟨_, o2⟩ := hR.2.2.2.2.2.2 k hk
    obtain ⟨p1, p2, p3⟩ := o2 f hI
    have e10 : (10 : Int32) * nI k + nI c = nI (10 * k + c) := by rw [show (10 : Int32) = nI 10 from rfl, pk_mul, nI_add]
    have h20 : 10 * k + c < 20 := by omega
    rw [e_X8_restore_48, b_X8_restore_48, if_pos (show nI c < 10 from nI_lt (b := 10) hc (by decide))]
    simp only [g_0, g_1, g_2, g_3, g_4, g_5, g_6, g_7, g_8, g_9, g_10, g_11, g_12, g_13, g_14, g_15, g_16, g_17, g_18, g_19, g_20, g_21, g_22, g_23, g_24, g_25, g_26, g_27, g_28, g_29, g_30, g_31, g_32, g_33, Option.bind_some, mW_obj, xrI_e, xrJ_e, xrD_e, xrA_e, xrV_e, e10, a_28 h20, a_27 h20]
    cases hq : f c with
    | inr v =>
      obtain ⟨q1, q2⟩ := p2 c v hc hq
      have hv := hfok c hc
      rw [hq] at hv
      rw [q1, if_pos (by decide), q2, s_5 hc, Option.bind_some, nI_1]
      have e : rsS S f ids (c + 1) = uC (rsS S f ids c) c (.inr v) := by unfold rsS; rw [tw_th hq]; rfl
      refine c_rest_l hk hw hI hfr d (c + 1) _ (by omega) ?_ ?_
      · rw [e]; exact Rm_thing hR (hcd_np hw.2.2.2.2.2.1 hv)
      · rw [e]; exact wf_thing hwc hv
    | inl r =>
      obtain ⟨x, j, x1, x2, x3, x4, x5, x6⟩ := p3 c r hc hq
      obtain ⟨f1, f2, f3⟩ := frs_ok hc hq
      have hj : j = frs f r := by
        rcases Nat.lt_trichotomy j (frs f r) with h | h | h
        · exact absurd x4 (f3 j h)
        · exact h
        · exact absurd f2 (x5 _ h)
      subst hj
      obtain ⟨y, hy⟩ := hC c r hc hq
      have hxy : x = y := by
        have := tw_keep hC hfr hy (show c ≤ 10 by omega)
        exact Option.some.inj (x1.symm.trans this)
      subst hxy
      have rk : rok (qN S) x := by
        have := hfok c hc
        rw [hq] at this
        obtain ⟨z, hz, rk⟩ := this
        obtain rfl : x = z := Option.some.inj (hy.symm.trans hz)
        exact rk
      have hn := rk.2.1
      rw [x3, if_neg (nI_pos (by omega))]
      by_cases hfc : frs f r < c
      · rw [if_pos (nI_lt hfc (by omega))]
        simp only [a_5 (show frs f r < 10 by omega), Option.bind_some, s_5 hc, nI_1]
        have e : rsS S f ids (c + 1) = uC (rsS S f ids c) c (qC (rsS S f ids c) (frs f r)) := by unfold rsS; rw [tw_old hq hfc]; rfl
        refine c_rest_l hk hw hI hfr d (c + 1) _ (by omega) ?_ ?_
        · rw [e]; exact Rm_same hR (by omega)
        · rw [e]; exact wf_same hwc (by omega)
      · rw [if_neg (nI_nlt (by omega) (by omega))]
        obtain ⟨q, q16, un, hfree⟩ := c_free (m0 := m0) (t := t) (u := u) (-6)
        simp only [hfree, g_0, g_1, g_2, g_3, g_4, g_5, g_6, g_7, g_8, g_9, g_10, g_11, g_12, g_13, g_14, g_15, g_16, g_17, g_18, g_19, g_20, g_21, g_22, g_23, g_24, g_25, g_26, g_27, g_28, g_29, g_30, g_31, g_32, g_33, Option.bind_some, mW_obj, xrI_e, xrJ_e, xrD_e, xrA_e, xrV_e, a_29 h20, a_30 h20, x6.1, x6.2.1, c_begin q16]
        have wb := wr_begin t q (nI x.1) (nI x.2.1)
        have eI : ∀ a, mTI (mBegin t q (nI x.1) (nI x.2.1)) a = mTI t a := fun a => by
          unfold mTI
          rw [wb.1.2.2.2.1 31 (by decide) (by decide) (by decide) (by decide), wb.1.2.2.2.2.1 32 (by decide), wb.1.2.2.2.2.2 33 (by decide)]
        have hl := c_rest_in (m0 := m0) (u := u) (k := nI k) (t0 := mBegin t q (nI x.1) (nI x.2.1)) hc q16 h20 hn (by rw [wb.1.2.2.2.1 30 (by decide) (by decide) (by decide) (by decide)]; exact x6.2.1) x.2.1 0 (by omega)
        rw [nI_0, mFold_0] at hl
        rw [hl]
        have wa := wr_tr wb (wr_fold (mBegin t q (nI x.1) (nI x.2.1)) (q := q) (dst := fun j => 24 * q + j) (v := fun j => mTI (mBegin t q (nI x.1) (nI x.2.1)) (24 * (10 * k + c) + j)) x.2.1 (fun j hj => ⟨by omega, by omega⟩))
        have e : rsS S f ids (c + 1) = uC (uR (rsS S f ids c) (ids c) x) c (.inl (ids c)) := by unfold rsS; rw [tw_new hq hfc hy]; rfl
        have hfresh : qR (rsS S f ids c) (ids c) = none := by
          show (tw (qR S) f ids c).1 (ids c) = none
          rw [(tw_ok hC hfr c (by omega)).2.2.2 _ (fun d hd e => by have := hfr.2 _ _ hc (by omega) e; omega)]
          exact hfr.1 c hc
        refine c_rest_l hk hw hI hfr d (c + 1) _ (by omega) ?_ ?_
        · rw [e]
          refine Rm_hang hR hwc hfresh q16 un.2.2 (fun h => un.1 h.symm) (fun p _ hp _ => wa.2.2 p hp) wa.1 wa.2.1 (slt_fold (begin_0 _ _ _ _).1 (begin_0 _ _ _ _).2 rfl (fun i hi => ?_)) hc
          rw [eI]
          exact x6.2.2 i hi
        · rw [e]
          exact wf_new hwc hfresh rk
theorem m_restore {k : Int32} (hR : Rm S t) (hw : wf S) (hf : frsh (qR S) ids) : ∃ t', xev 142 0 [some (xA (some (m0))), some (xI (k)), none, none, none, none] [] (mW m0 t u) = some (some (xI (spRest S k ids).1), mW m0 t' u) ∧ Rm (spRest S k ids).2 t' ∧ wf (spRest S k ids).2 := by
  unfold spRest
  rw [e_X8_restore_0, b_X8_restore_0]
  by_cases hk : inB k 2
  · rw [c_rt hk (by decide) (show (1 : Int64) = (nI 2 - 1).toInt64 by decide), if_neg (fun q => q hk)]
    have a26 := a_26 (m0 := m0) (t := t) (u := u) hk.2
    rw [← inB_nI hk] at a26
    simp only [g_0, g_1, g_2, g_3, g_4, g_5, g_6, g_7, g_8, g_9, g_10, g_11, g_12, g_13, g_14, g_15, g_16, g_17, g_18, g_19, g_20, g_21, g_22, g_23, g_24, g_25, g_26, g_27, g_28, g_29, g_30, g_31, g_32, g_33, Option.bind_some, mW_obj, xrI_e, xrJ_e, xrD_e, xrA_e, xrV_e, if_neg i10, a26]
    obtain ⟨o1, o2⟩ := hR.2.2.2.2.2.2 _ hk.2
    cases hI : qI S k.toNatClampNeg with
    | none =>
      rw [o1 hI, if_pos rfl]
      exact ⟨t, rfl, hR, hw⟩
    | some f =>
      rw [(o2 f hI).1, if_neg i10]
      obtain ⟨t1, h1, h2, h3, h4, h5, h6⟩ := c_bare_l (m0 := m0) (u := u) (k := k) 10 0 t rfl (fun e he => absurd he (Nat.not_lt_zero e))
      rw [nI_0] at h1
      rw [h1]
      have hR1 : Rm (rsS S f ids 0) t1 := ⟨RmC_old hR.1 (congrFun h2.1 6) h3 h4 h5 (fun d hd => Or.inr ⟨(11, 0, 0), rfl, h6 d hd, hcd_np (N := 0) (by decide) (Or.inl rfl)⟩), Rm_oth h2 hR.2⟩
      obtain ⟨t2, k1, k2, k3⟩ := c_rest_l (m0 := m0) (u := u) hk.2 hw hI hf 10 0 t1 rfl hR1 (wf_rs0 hw)
      rw [← inB_nI hk, nI_0] at k1
      exact ⟨t2, k1, k2, k3⟩
  · rw [c_rf hk (by decide) (show (1 : Int64) = (nI 2 - 1).toInt64 by decide), if_pos hk]
    exact ⟨t, rfl, hR, hw⟩
end MP
