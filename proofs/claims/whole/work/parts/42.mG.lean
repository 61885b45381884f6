/-! the reference cuts and pastes -/
section MG
variable {m0 : Nat} {t t0 : mS} {u : xW} {S : sS}
/-- where an element goes when a piece is cut out -/
def cutD (l p a m i : Nat) : Nat := if i < a then 24 * l + i else if i < a + m then 24 * p + (i - a) else 24 * l + (i - m)
theorem c_cut_l {c f p l a m n : Nat} (hp : p < 16) (hl : l < 16) (hf : f < 16) (hfp : f ≠ p) (hfl : f ≠ l) (hn : n ≤ 24) (ham : a + m ≤ n) (hc : c < 10) (h1 : mI t0 1 f = nI n) : ∀ d k, k + d = n → xev 124 125 [some (xA (some (m0))), some (xI (nI c)), some (xI (nI a)), some (xI (nI m)), some (xI (nI f)), some (xI (nI p)), some (xI (nI l)), some (xI (nI k)), none] [] (mW m0 (mFold t0 (cutD l p a m) (fun j => mT t0 (24 * f + j)) k) u) = some (some (xI 0), mW m0 (sI (si (mFold t0 (cutD l p a m) (fun j => mT t0 (24 * f + j)) n) 6 (nI p)) 5 c (nI l)) u)
  | 0, k, h => by
    obtain rfl : k = n := by omega
    rw [e_X8_cut_125, b_X8_cut_125]
    simp only [g_0, g_1, g_2, g_3, g_4, g_5, g_6, g_7, g_8, g_9, g_10, g_11, g_12, g_13, g_14, g_15, g_16, g_17, g_18, g_19, g_20, g_21, g_22, g_23, g_24, g_25, g_26, g_27, g_28, g_29, g_30, g_31, g_32, g_33, Option.bind_some, mW_obj, xrI_e, xrJ_e, xrD_e, xrA_e, xrV_e, p_6, p_7, p_8, p_9, p_10, p_13, p_15, p_18, p_19, p_20, p_21, p_22, p_25, a_1 hf, mFold_I (t := t0) _ _ (show 1 ≠ 2 by decide), h1]
    rw [if_neg (nI_nlt (by omega) (by omega)), s_5 hc]
    rfl
  | d + 1, k, h => by
    have ih := c_cut_l hp hl hf hfp hfl hn ham hc h1 d (k + 1) (by omega)
    have e : mT (mFold t0 (cutD l p a m) (fun j => mT t0 (24 * f + j)) k) (24 * f + k) = mT t0 (24 * f + k) := mFold_out k (fun j hj => by
      unfold cutD
      split
      · omega
      · split <;> omega)
    rw [e_X8_cut_125, b_X8_cut_125]
    simp only [g_0, g_1, g_2, g_3, g_4, g_5, g_6, g_7, g_8, g_9, g_10, g_11, g_12, g_13, g_14, g_15, g_16, g_17, g_18, g_19, g_20, g_21, g_22, g_23, g_24, g_25, g_26, g_27, g_28, g_29, g_30, g_31, g_32, g_33, Option.bind_some, mW_obj, xrI_e, xrJ_e, xrD_e, xrA_e, xrV_e, a_1 hf, mFold_I (t := t0) _ _ (show 1 ≠ 2 by decide), h1]
    rw [if_pos (nI_lt (by omega) (by omega))]
    by_cases ha : k < a
    · rw [if_pos (nI_lt ha (by omega))]
      have ed : cutD l p a m k = 24 * l + k := by unfold cutD; rw [if_pos ha]
      simp only [at_N, c_copy (show 24 * f + k < 384 by omega) (show 24 * l + k < 384 by omega), g_0, g_1, g_2, g_3, g_4, g_5, g_6, g_7, g_8, g_9, g_10, g_11, g_12, g_13, g_14, g_15, g_16, g_17, g_18, g_19, g_20, g_21, g_22, g_23, g_24, g_25, g_26, g_27, g_28, g_29, g_30, g_31, g_32, g_33, Option.bind_some, mW_obj, xrI_e, xrJ_e, xrD_e, xrA_e, xrV_e, nI_1]
      rw [e, ← ed]
      exact ih
    · rw [if_neg (nI_nlt (by omega) (by omega)), nI_add]
      by_cases hm : k < a + m
      · rw [if_pos (nI_lt hm (by omega))]
        have ed : cutD l p a m k = 24 * p + k - a := by unfold cutD; rw [if_neg ha, if_pos hm]; omega
        simp only [at_N, nI_sub (show a ≤ 24 * p + k by omega), c_copy (show 24 * f + k < 384 by omega) (show 24 * p + k - a < 384 by omega), g_0, g_1, g_2, g_3, g_4, g_5, g_6, g_7, g_8, g_9, g_10, g_11, g_12, g_13, g_14, g_15, g_16, g_17, g_18, g_19, g_20, g_21, g_22, g_23, g_24, g_25, g_26, g_27, g_28, g_29, g_30, g_31, g_32, g_33, Option.bind_some, mW_obj, xrI_e, xrJ_e, xrD_e, xrA_e, xrV_e, nI_1]
        rw [e, ← ed]
        exact ih
      · rw [if_neg (nI_nlt (by omega) (by omega))]
        have ed : cutD l p a m k = 24 * l + k - m := by unfold cutD; rw [if_neg ha, if_neg hm]; omega
        simp only [at_N, nI_sub (show m ≤ 24 * l + k by omega), c_copy (show 24 * f + k < 384 by omega) (show 24 * l + k - m < 384 by omega), g_0, g_1, g_2, g_3, g_4, g_5, g_6, g_7, g_8, g_9, g_10, g_11, g_12, g_13, g_14, g_15, g_16, g_17, g_18, g_19, g_20, g_21, g_22, g_23, g_24, g_25, g_26, g_27, g_28, g_29, g_30, g_31, g_32, g_33, Option.bind_some, mW_obj, xrI_e, xrJ_e, xrD_e, xrA_e, xrV_e, nI_1]
        rw [e, ← ed]
        exact ih
/-- a row becomes the clip -/
theorem RmC_clip {C : Nat → sO} {R : Nat → Option sR} {K : Option Nat} {q id : Nat} {x : sR} (hR : RmC C R K t) (hk : ∀ c r, c < 10 → C c = .inl r → r ≠ id) (hq : q < 16) (hs : slt t q x) (hu : ∀ d, d < 10 → mI t 5 d ≠ nI q) : RmC C (va_up R id (some x)) (some id) (si t 6 (nI q)) := by
  obtain ⟨hA, hB, hC, hD, hE⟩ := hR
  refine ⟨fun c r hc hr => ?_, hB, hC, (fun h => by cases h), fun r hr => ?_⟩
  · obtain ⟨y, p, a1, a2, a3, a4⟩ := hA c r hc hr
    refine ⟨y, p, ?_, a2, a3, a4⟩
    unfold va_up
    rw [if_neg (hk c r hc hr)]
    exact a1
  · cases hr
    exact ⟨x, q, if_pos rfl, hq, rfl, hs, hu⟩
theorem nI_sub_lt {n : Nat} {a m : Int32} (hn : n ≤ 24) (ha : ¬ a < 0) (hm : ¬ m < 1) (h : ¬ nI n - a < m) : inB a n ∧ inB m 25 ∧ a.toNatClampNeg + m.toNatClampNeg ≤ n ∧ 0 < m.toNatClampNeg := by
  obtain ⟨i, hi, rfl⟩ := nI_of ha
  have hm0 : ¬ m < 0 := by
    intro h
    rw [Int32.lt_iff_toInt_lt] at h hm
    have z : (0 : Int32).toInt = 0 := by decide
    have o : (1 : Int32).toInt = 1 := by decide
    omega
  obtain ⟨j, hj, rfl⟩ := nI_of hm0
  have o : (1 : Int32).toInt = 1 := by decide
  have h1 : ¬ j < 1 := fun q => hm (nI_lt (b := 1) q (by decide))
  have e : (nI n - nI i).toInt = (n : Int) - i := by
    rw [Int32.toInt_sub, nI_toInt (by omega), nI_toInt hi]
    exact Int.bmod_eq_of_le (by omega) (by omega)
  rw [Int32.lt_iff_toInt_lt, e, nI_toInt hj] at h
  rw [nI_clamp hi, nI_clamp hj]
  exact ⟨inB_of (by omega) (by omega), inB_of (by omega) (by omega), by omega, by omega⟩
theorem cutD_inj {l p a m n : Nat} (hlp : l ≠ p) (hn : n ≤ 24) (ham : a + m ≤ n) : ∀ i j, i < n → j < n → cutD l p a m i = cutD l p a m j → i = j := by
  intro i j hi hj e
  unfold cutD at e
  split at e
  · split at e
    · omega
    · split at e <;> omega
  · split at e
    · split at e
      · omega
      · split at e <;> omega
    · split at e
      · omega
      · split at e <;> omega
theorem cut_end {p l n a m c id id2 : Nat} {x : sR} {v : Nat → mC} (hR : Rm S t) (hw : wf S) (hf : qR S id = none) (hf2 : qR S id2 = none) (hid : id ≠ id2) (hc : c < 10) (p16 : p < 16) (l16 : l < 16) (hlp : l ≠ p) (unp : unu t (-6) p) (unl : unu t (nI p) l) (hn : x.2.1 = n) (hn24 : n ≤ 24) (ham : a + m ≤ n) (hv : ∀ i, i < n → v i = x.2.2 i) (ho : oth t t0) (o5 : mI t0 5 = mI t 5) (hs : ∀ q, q ≠ p → q ≠ l → sam t t0 q) (l0 : mI t0 0 l = nI x.1) (l1 : mI t0 1 l = nI (n - m)) (p0 : mI t0 0 p = nI x.1) (p1 : mI t0 1 p = nI m) : Rm (uC (uK (uR (uR S id (rCut x a m)) id2 (rPart x a m)) id2) c (.inl id)) (sI (si (mFold t0 (cutD l p a m) v n) 6 (nI p)) 5 c (nI l)) := by
  have inj := cutD_inj hlp hn24 ham
  have hT := mFold_in (t := t0) (v := v) n inj
  have dl : ∀ j, j < n → (24 * l ≤ cutD l p a m j ∧ cutD l p a m j < 24 * l + 24) ∨ (24 * p ≤ cutD l p a m j ∧ cutD l p a m j < 24 * p + 24) := by
    intro j hj
    unfold cutD
    split
    · left; omega
    · split
      · right; omega
      · left; omega
  have o1 : ∀ k, oth t0 (mFold t0 (cutD l p a m) v k) := by
    intro k
    exact ⟨mFold_i _ _ k, mFold_j _ _ k, mFold_d _ _ k, fun j _ _ h _ => mFold_I _ _ h k, fun j h => mFold_J _ _ h k, fun j h => mFold_D _ _ h k⟩
  have o5' : mI (mFold t0 (cutD l p a m) v n) 5 = mI t 5 := (mFold_I _ _ (by decide) n).trans o5
  have hs' : ∀ q, q ≠ p → q ≠ l → sam t (mFold t0 (cutD l p a m) v n) q := by
    intro q h1 h2
    obtain ⟨s1, s2, s3⟩ := hs q h1 h2
    refine ⟨by rw [mFold_I _ _ (by decide)]; exact s1, by rw [mFold_I _ _ (by decide)]; exact s2, fun i hi => ?_⟩
    rw [mFold_out n (fun j hj => by have := dl j hj; omega)]
    exact s3 i hi
  have sl : slt (mFold t0 (cutD l p a m) v n) l (rCut x a m) := by
    refine ⟨by rw [mFold_I _ _ (by decide)]; exact l0, by rw [mFold_I _ _ (by decide)]; exact l1.trans (by unfold rCut; rw [hn]), fun i hi => ?_⟩
    have hi' : i < n - m := by unfold rCut at hi; simp only at hi; omega
    unfold rCut
    simp only
    by_cases hia : i < a
    · have ed : cutD l p a m i = 24 * l + i := by unfold cutD; rw [if_pos hia]
      rw [if_pos hia, ← ed, hT i (by omega), hv i (by omega)]
    · have ed : cutD l p a m (i + m) = 24 * l + i := by unfold cutD; rw [if_neg (by omega), if_neg (by omega)]; omega
      rw [if_neg hia, ← ed, hT (i + m) (by omega), hv (i + m) (by omega)]
  have sp : slt (mFold t0 (cutD l p a m) v n) p (rPart x a m) := by
    refine ⟨by rw [mFold_I _ _ (by decide)]; exact p0, by rw [mFold_I _ _ (by decide)]; exact p1, fun i hi => ?_⟩
    have hi' : i < m := hi
    have ed : cutD l p a m (a + i) = 24 * p + i := by unfold cutD; rw [if_neg (by omega), if_pos (by omega)]; omega
    unfold rPart
    simp only
    rw [← ed, hT (a + i) (by omega), hv (a + i) (by omega)]
  have h1 := Rm_hang hR hw hf l16 unl.2.2 (fun h => unl.1 h.symm) (fun q _ hql hu => hs' q (by
    rintro rfl
    rcases hu with ⟨d, hd, e⟩ | e
    · exact unp.2.2 d hd e
    · exact unp.1 e.symm) hql) (oth_tr ho (o1 n)) o5' sl hc
  have hfr : ∀ d r, d < 10 → va_up (qC S) c (.inl id) d = .inl r → r ≠ id2 := by
    intro d r hd hr
    unfold va_up at hr
    by_cases hdc : d = c
    · rw [if_pos hdc] at hr
      cases hr
      exact hid
    · rw [if_neg hdc] at hr
      rintro rfl
      obtain ⟨y, hy, _⟩ := wf_row hw hd hr
      rw [hf2] at hy
      cases hy
  refine ⟨RmC_clip h1.1 hfr p16 sp (fun d hd => ?_), h1.2.1, h1.2.2.1, h1.2.2.2.1, h1.2.2.2.2.1, h1.2.2.2.2.2.1, RmI_upd h1.2.2.2.2.2.2 (fun k f hk hfk d r hd hr => ?_)⟩
  · rw [mI_sI_e, o5']
    split
    · exact fun h => hlp ((nI_eq (by omega) (by omega)).mp h)
    · exact unp.2.2 d hd
  · show (if r = id2 then _ else _) = _
    rw [if_neg]
    · rfl
    rintro rfl
    have := (hw.2.2.2.2.2.2 k f hk hfk d hd).1
    rw [hr] at this
    obtain ⟨y, hy, _⟩ := this
    rw [hf2] at hy
    cases hy
theorem m_cut {c a m : Int32} {id id2 : Nat} (hR : Rm S t) (hw : wf S) (hf : qR S id = none) (hf2 : qR S id2 = none) (hid : id ≠ id2) : ∃ t', xev 124 0 [some (xA (some (m0))), some (xI (c)), some (xI (a)), some (xI (m)), none, none, none, none, none] [] (mW m0 t u) = some (some (xI (spCut S c a m id id2).1), mW m0 t' u) ∧ Rm (spCut S c a m id id2).2 t' := by
  unfold spCut
  rw [e_X8_cut_0, b_X8_cut_0]
  by_cases hc : inB c 10
  · rw [if_neg (fun q => q hc), c_colt hc]
    have hfs := c_firstS (m0 := m0) (u := u) hR hw hc.2
    rw [← inB_nI hc] at hfs
    simp only [hfs, g_0, g_1, g_2, g_3, g_4, g_5, g_6, g_7, g_8, g_9, g_10, g_11, g_12, g_13, g_14, g_15, g_16, g_17, g_18, g_19, g_20, g_21, g_22, g_23, g_24, g_25, g_26, g_27, g_28, g_29, g_30, g_31, g_32, g_33, Option.bind_some, mW_obj, xrI_e, xrJ_e, xrD_e, xrA_e, xrV_e, if_neg i10]
    cases hq : qC S c.toNatClampNeg with
    | inr v =>
      rw [lenA_th hq, if_neg (th0 v)]
      exact ⟨t, rfl, hR⟩
    | inl r =>
      obtain ⟨x, f, hx, f16, e5, hs⟩ := hR.1.1 _ r hc.2 hq
      obtain ⟨y, hy, rk⟩ := wf_row hw hc.2 hq
      obtain rfl : x = y := Option.some.inj (hx.symm.trans hy)
      have hn := rk.2.1
      rw [lenA_row hq, if_pos (show nI 0 = 0 from rfl)]
      have ac := a_5 (m0 := m0) (t := t) (u := u) hc.2
      rw [← inB_nI hc, e5] at ac
      simp only [ac, Option.bind_some, hx, g_0, g_1, g_2, g_3, g_4, g_5, g_6, g_7, g_8, g_9, g_10, g_11, g_12, g_13, g_14, g_15, g_16, g_17, g_18, g_19, g_20, g_21, g_22, g_23, g_24, g_25, g_26, g_27, g_28, g_29, g_30, g_31, g_32, g_33, Option.bind_some, mW_obj, xrI_e, xrJ_e, xrD_e, xrA_e, xrV_e, a_1 f16, hs.2.1, a_0 f16, hs.1]
      by_cases hm : m < 1
      · rw [if_pos hm, if_pos (Or.inr (Or.inl hm))]
        exact ⟨t, rfl, hR⟩
      · rw [if_neg hm]
        by_cases ha : inB a x.2.1
        · rw [c_inB_t (by omega) ha]
          simp only [Option.bind_some, xrI_e, if_neg i10, g_0, g_1, g_2, g_3, g_4, g_5, g_6, g_7, g_8, g_9, g_10, g_11, g_12, g_13, g_14, g_15, g_16, g_17, g_18, g_19, g_20, g_21, g_22, g_23, g_24, g_25, g_26, g_27, g_28, g_29, g_30, g_31, g_32, g_33, Option.bind_some, mW_obj, xrI_e, xrJ_e, xrD_e, xrA_e, xrV_e, a_1 f16, hs.2.1]
          by_cases hb : nI x.2.1 - a < m
          · rw [if_pos hb, if_pos (Or.inr (Or.inr hb))]
            exact ⟨t, rfl, hR⟩
          · obtain ⟨_, m25, ham, m0'⟩ := nI_sub_lt hn ha.1 hm hb
            rw [if_neg hb, if_neg (show ¬ (a < 0 ∨ m < 1 ∨ nI x.2.1 - a < m) by rintro (h | h | h); exact ha.1 h; exact hm h; exact hb h)]
            obtain ⟨p, p16, un, hfr⟩ := c_free (m0 := m0) (t := t) (u := u) (-6)
            obtain ⟨l, l16, un2, hfr2⟩ := c_free (m0 := m0) (t := t) (u := u) (nI p)
            have hfp : f ≠ p := fun h => un.2.2 _ hc.2 (h ▸ e5)
            have hfl : f ≠ l := fun h => un2.2.2 _ hc.2 (h ▸ e5)
            have hlp : l ≠ p := fun h => un2.2.1 (h ▸ rfl)
            have wb := wr_begin t p (nI x.1) m
            have f0 : mI (mBegin t p (nI x.1) m) 0 f = nI x.1 := (wb.2.2 f hfp).1.trans hs.1
            have f1 : mI (mBegin t p (nI x.1) m) 1 f = nI x.2.1 := (wb.2.2 f hfp).2.1.trans hs.2.1
            have wb2 := wr_begin (mBegin t p (nI x.1) m) l (nI x.1) (nI x.2.1 - m)
            simp only [hfr, hfr2, g_0, g_1, g_2, g_3, g_4, g_5, g_6, g_7, g_8, g_9, g_10, g_11, g_12, g_13, g_14, g_15, g_16, g_17, g_18, g_19, g_20, g_21, g_22, g_23, g_24, g_25, g_26, g_27, g_28, g_29, g_30, g_31, g_32, g_33, Option.bind_some, mW_obj, xrI_e, xrJ_e, xrD_e, xrA_e, xrV_e, a_0 f16, hs.1, c_begin p16, f0, a_1 f16, f1, c_begin l16]
            have em : nI x.2.1 - m = nI (x.2.1 - m.toNatClampNeg) := by
              conv => lhs; rw [inB_nI m25]
              exact nI_sub (by omega)
            rw [em] at wb2 ⊢
            have hl := c_cut_l (m0 := m0) (u := u) (t0 := mBegin (mBegin t p (nI x.1) m) l (nI x.1) (nI (x.2.1 - m.toNatClampNeg))) p16 l16 f16 hfp hfl hn ham hc.2 ((wb2.2.2 f hfl).2.1.trans f1) x.2.1 0 (by omega)
            rw [← inB_nI hc, ← inB_nI ha, ← inB_nI m25, nI_0, mFold_0] at hl
            rw [hl]
            refine ⟨_, rfl, cut_end hR hw hf hf2 hid hc.2 p16 l16 hlp un un2 rfl hn ham (fun i hi => ?_) (oth_tr wb.1 wb2.1) (wb2.2.1.trans wb.2.1) (fun q h1 h2 => ?_) (begin_0 _ _ _ _).1 (begin_0 _ _ _ _).2 ((wb2.2.2 p (fun h => hlp h.symm)).1.trans (begin_0 _ _ _ _).1) (((wb2.2.2 p (fun h => hlp h.symm)).2.1.trans (begin_0 _ _ _ _).2).trans (inB_nI m25))⟩
            · rw [(wb2.2.2 f hfl).2.2 i (by omega), (wb.2.2 f hfp).2.2 i (by omega)]
              exact hs.2.2 i hi
            · have a1 := wb.2.2 q h1
              have a2 := wb2.2.2 q h2
              exact ⟨a2.1.trans a1.1, a2.2.1.trans a1.2.1, fun i hi => (a2.2.2 i hi).trans (a1.2.2 i hi)⟩
        · rw [c_inB_f (by omega) ha]
          simp only [Option.bind_some, xrI_e, if_pos]
          rw [if_pos]
          · exact ⟨t, rfl, hR⟩
          · by_cases h0 : a < 0
            · exact Or.inl h0
            · right; right
              refine Classical.byContradiction fun hb => ha (nI_sub_lt hn h0 hm hb).1
  · rw [if_pos hc, c_colf hc]
    exact ⟨t, rfl, hR⟩
end MG
