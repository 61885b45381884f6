/-! the reference's images -/
section MO2
variable {m0 : Nat} {t t' t0 : mS} {u : xW} {S : sS}
theorem mI_sI_g (t : mS) (k n : Nat) (x : Int32) (j i : Nat) : mI (sI t k n x) j i = if j = k ∧ i = n then x else mI t j i := by
  by_cases h : j = k
  · subst h
    rw [mI_sI_e]
    by_cases h2 : i = n
    · rw [if_pos h2, if_pos ⟨rfl, h2⟩]
    · rw [if_neg h2, if_neg (fun q => h2 q.2)]
  · rw [mI_sI_n _ _ _ _ h, if_neg (fun q => h q.1)]
/-- all but images is kept -/
def oI (t t' : mS) : Prop := mi t' = mi t ∧ mj t' = mj t ∧ md t' = md t ∧ (∀ j, j < 26 → mI t' j = mI t j) ∧ (∀ j, j < 32 → mJ t' j = mJ t j) ∧ ∀ j, j < 33 → mD t' j = mD t j
theorem oI_refl (t : mS) : oI t t := ⟨rfl, rfl, rfl, fun _ _ => rfl, fun _ _ => rfl, fun _ _ => rfl⟩
theorem oI_tr {t1 t2 t3 : mS} (h : oI t1 t2) (k : oI t2 t3) : oI t1 t3 := ⟨k.1.trans h.1, k.2.1.trans h.2.1, k.2.2.1.trans h.2.2.1, fun j a => (k.2.2.2.1 j a).trans (h.2.2.2.1 j a), fun j a => (k.2.2.2.2.1 j a).trans (h.2.2.2.2.1 j a), fun j a => (k.2.2.2.2.2 j a).trans (h.2.2.2.2.2 j a)⟩
theorem oI_sI (t : mS) {k : Nat} (n : Nat) (x : Int32) (h : 26 ≤ k) : oI t (sI t k n x) := ⟨rfl, rfl, rfl, fun j hj => mI_sI_n t k n x (by omega), fun _ _ => rfl, fun _ _ => rfl⟩
theorem oI_T (o : oI t t') : mT t' = mT t := by
  funext k
  unfold mT
  rw [o.2.2.2.1 2 (by decide), o.2.2.2.2.1 3 (by decide), o.2.2.2.2.2 4 (by decide)]
theorem Rm_oI {C : Nat → sO} {R : Nat → Option sR} {K : Option Nat} {H G' : mC} {W T : Nat → Int32} {N : Nat} {A : Int32} {P : Nat × (Nat → Nat) × (Nat → Nat)} (o : oI t t') (h : RmC C R K t ∧ RmH H t ∧ RmG G' t ∧ RmW W N t ∧ RmT T A t ∧ RmP P t) : RmC C R K t' ∧ RmH H t' ∧ RmG G' t' ∧ RmW W N t' ∧ RmT T A t' ∧ RmP P t' := by
  have oT := oI_T o
  obtain ⟨o1, o2, o3, o4, o5, o6⟩ := o
  unfold RmC RmH RmG RmW RmT RmP slt at h ⊢
  rw [o1, o2, o3, o4 0 (by decide), o4 1 (by decide), o4 5 (by decide), o4 11 (by decide), o4 14 (by decide), o4 16 (by decide), o4 17 (by decide), oT]
  exact h
def mTI (t : mS) (k : Nat) : mC := (mI t 31 k, mJ t 32 k, mD t 33 k)
def mPI (t : mS) (k : Nat) (x : mC) : mS := sD (sJ (sI t 31 k x.1) 32 k x.2.1) 33 k x.2.2
theorem mTI_put (t : mS) (k j : Nat) (x : mC) : mTI (mPI t k x) j = if j = k then x else mTI t j := by
  unfold mTI mPI sD sJ sI mI mJ mD va_up
  by_cases h : j = k
  · simp [h]
  · simp [h]
theorem oI_put (t : mS) (k : Nat) (x : mC) : oI t (mPI t k x) := ⟨rfl, rfl, rfl, fun j hj => mI_sI_n t 31 k x.1 (by omega), fun j hj => mJ_sJ_n _ 32 k x.2.1 (by omega), fun j hj => mD_sD_n _ 33 k x.2.2 (by omega)⟩
theorem mPI_I (t : mS) (k : Nat) (x : mC) {j : Nat} (h : j ≠ 31) : mI (mPI t k x) j = mI t j := mI_sI_n t 31 k x.1 h
/-- cells are copied into an image -/
def gI (t : mS) (f q : Nat) : Nat → mS
  | 0 => t
  | n + 1 => mPI (gI t f q n) (24 * q + n) (mT t (24 * f + n))
theorem gI_o (f q : Nat) : ∀ n, oI t (gI t f q n) ∧ (∀ j, j ≠ 31 → mI (gI t f q n) j = mI t j) ∧ (∀ i, i < n → mTI (gI t f q n) (24 * q + i) = mT t (24 * f + i)) ∧ ∀ a, (a < 24 * q ∨ 24 * q + n ≤ a) → mTI (gI t f q n) a = mTI t a
  | 0 => ⟨oI_refl t, fun _ _ => rfl, fun i hi => absurd hi (Nat.not_lt_zero i), fun _ _ => rfl⟩
  | n + 1 => by
    obtain ⟨h1, h2, h3, h4⟩ := gI_o f q n
    refine ⟨oI_tr h1 (oI_put _ _ _), fun j hj => (mPI_I _ _ _ hj).trans (h2 j hj), fun i hi => ?_, fun a ha => ?_⟩
    · show mTI (mPI (gI t f q n) (24 * q + n) (mT t (24 * f + n))) (24 * q + i) = _
      rw [mTI_put]
      by_cases hin : i = n
      · rw [if_pos (by omega), hin]
      · rw [if_neg (by omega)]
        exact h3 i (by omega)
    · show mTI (mPI (gI t f q n) (24 * q + n) (mT t (24 * f + n))) a = _
      rw [mTI_put, if_neg (by omega)]
      exact h4 a (by omega)
theorem c_img_in {k c q f : Nat} (hc : c < 10) (hq : q < 20) (hf : f < 16) (h5 : mI t0 5 c = nI f) : ∀ d i, i + d = 24 → xev 141 109 [some (xA (some (m0))), some (xI (nI k)), some (xI (nI c)), some (xI (nI q)), some (xI (nI i)), none] [] (mW m0 (gI t0 f q i) u) = xev 141 15 [some (xA (some (m0))), some (xI (nI k)), some (xI (nI (c + 1))), none, none, none] [] (mW m0 (gI t0 f q 24) u)
  | 0, i, h => by
    obtain rfl : i = 24 := by omega
    conv => lhs; rw [e_X8_image_109, b_X8_image_109, if_neg (by decide)]
    rw [nI_1]
  | d + 1, i, h => by
    obtain ⟨g1, g2, g3, g4⟩ := gI_o (t := t0) f q i
    have gT := oI_T g1
    have hT : mT (gI t0 f q i) (24 * f + i) = mT t0 (24 * f + i) := congrFun gT _
    have eI : mI (gI t0 f q i) 2 (24 * f + i) = (mT t0 (24 * f + i)).1 := congrArg (fun z => z.1) hT
    have eJ : mJ (gI t0 f q i) 3 (24 * f + i) = (mT t0 (24 * f + i)).2.1 := congrArg (fun z => z.2.1) hT
    have eD : mD (gI t0 f q i) 4 (24 * f + i) = (mT t0 (24 * f + i)).2.2 := congrArg (fun z => z.2.2) hT
    have e5 : mI (gI t0 f q i) 5 c = nI f := by rw [g1.2.2.2.1 5 (by decide)]; exact h5
    conv => lhs; rw [e_X8_image_109, b_X8_image_109, if_pos (show nI i < 24 from nI_lt (b := 24) (by omega) (by decide))]
    simp only [g_0, g_1, g_2, g_3, g_4, g_5, g_6, g_7, g_8, g_9, g_10, g_11, g_12, g_13, g_14, g_15, g_16, g_17, g_18, g_19, g_20, g_21, g_22, g_23, g_24, g_25, g_26, g_27, g_28, g_29, g_30, g_31, g_32, g_33, Option.bind_some, mW_obj, xrI_e, xrJ_e, xrD_e, xrA_e, xrV_e, mj_si, md_si, mI_si, mJ_si, mD_si, mi_sj, md_sj, mI_sj, mJ_sj, mD_sj, mi_sd, mj_sd, mI_sd, mJ_sd, mD_sd, mi_sI, mj_sI, md_sI, mJ_sI, mD_sI, mi_sJ, mj_sJ, md_sJ, mI_sJ, mD_sJ, mi_sD, mj_sD, md_sD, mI_sD, mJ_sD, mi_si_e, mj_sj_e, md_sd_e, a_5 hc, e5, at_N, a_2 (show 24 * f + i < 384 by omega), eI, s_31 (show 24 * q + i < 480 by omega), a_3 (show 24 * f + i < 384 by omega), eJ, s_32 (show 24 * q + i < 480 by omega), a_4 (show 24 * f + i < 384 by omega), eD, s_33 (show 24 * q + i < 480 by omega), nI_1]
    exact c_img_in hc hq hf h5 d (i + 1) (by omega)
/-- how far an image is made -/
def imI (S : sS) (k : Nat) (t0 : mS) (c : Nat) (t : mS) : Prop := oI t0 t ∧ (∀ j, j < 10 * k ∨ 10 * k + 10 ≤ j → mI t 27 j = mI t0 27 j ∧ mI t 28 j = mI t0 28 j ∧ mI t 29 j = mI t0 29 j ∧ mI t 30 j = mI t0 30 j ∧ ∀ i, i < 24 → mTI t (24 * j + i) = mTI t0 (24 * j + i)) ∧ mI t 26 = mI t0 26 ∧ ∀ d, d < c → (∀ v, qC S d = .inr v → mI t 28 (10 * k + d) = -6 ∧ mI t 27 (10 * k + d) = hcd v) ∧ ∀ r x, qC S d = .inl r → qR S r = some x → mI t 28 (10 * k + d) = nI (frs (qC S) r) ∧ slI t (10 * k + d) x
theorem c_img_l {k : Nat} (hk : k < 2) (hR : Rm S t0) (hw : wf S) : ∀ d c t, c + d = 10 → imI S k t0 c t → ∃ t', xev 141 15 [some (xA (some (m0))), some (xI (nI k)), some (xI (nI c)), none, none, none] [] (mW m0 t u) = some (some (xI 1), mW m0 (sI t' 26 k 1) u) ∧ imI S k t0 10 t'
  | 0, c, t, h, hi => by
    obtain rfl : c = 10 := by omega
    rw [e_X8_image_15, b_X8_image_15, if_neg (by decide)]
    simp only [g_0, g_1, g_2, g_3, g_4, g_5, g_6, g_7, g_8, g_9, g_10, g_11, g_12, g_13, g_14, g_15, g_16, g_17, g_18, g_19, g_20, g_21, g_22, g_23, g_24, g_25, g_26, g_27, g_28, g_29, g_30, g_31, g_32, g_33, Option.bind_some, mW_obj, xrI_e, xrJ_e, xrD_e, xrA_e, xrV_e, s_26 (show k < 2 from hk)]
    exact ⟨t, rfl, hi⟩
  | d + 1, c, t, h, hi => by
    obtain ⟨o, i2, i3, i4⟩ := hi
    have hc : c < 10 := by omega
    have e10 : (10 : Int32) * nI k + nI c = nI (10 * k + c) := by rw [show (10 : Int32) = nI 10 from rfl, pk_mul, nI_add]
    have h5 : mI t 5 c = mI t0 5 c := by rw [o.2.2.2.1 5 (by decide)]
    have h20 : 10 * k + c < 20 := by omega
    rw [e_X8_image_15, b_X8_image_15, if_pos (show nI c < 10 from nI_lt (b := 10) hc (by decide))]
    simp only [g_0, g_1, g_2, g_3, g_4, g_5, g_6, g_7, g_8, g_9, g_10, g_11, g_12, g_13, g_14, g_15, g_16, g_17, g_18, g_19, g_20, g_21, g_22, g_23, g_24, g_25, g_26, g_27, g_28, g_29, g_30, g_31, g_32, g_33, Option.bind_some, mW_obj, xrI_e, xrJ_e, xrD_e, xrA_e, xrV_e, a_5 hc, e10, s_27 h20, h5]
    cases hq : qC S c with
    | inr v =>
      have hk := hw.1 _ hc
      rw [hq] at hk
      have hn := hcd_np hw.2.2.2.2.2.1 hk
      have hv := hR.1.2.1 _ v hc hq
      have f1 : ¬ inR (mI (sI t 27 (10 * k + c) (mI t0 5 c)) 5 c) 16 := by
        rw [mI_sI_n _ _ _ _ (by decide), h5]
        rintro ⟨i, hi, e⟩
        exact hn i hi (hv.symm.trans e)
      have f2 : ¬ inR (mI (sI (sI t 27 (10 * k + c) (mI t0 5 c)) 28 (10 * k + c) (-6)) 5 c) 16 := by
        rw [mI_sI_n _ _ _ _ (by decide)]
        exact f1
      simp only [c_isRow_f hc f1, g_0, g_1, g_2, g_3, g_4, g_5, g_6, g_7, g_8, g_9, g_10, g_11, g_12, g_13, g_14, g_15, g_16, g_17, g_18, g_19, g_20, g_21, g_22, g_23, g_24, g_25, g_26, g_27, g_28, g_29, g_30, g_31, g_32, g_33, Option.bind_some, mW_obj, xrI_e, xrJ_e, xrD_e, xrA_e, xrV_e, if_pos, s_28 h20, c_isRow_f hc f2, nI_1]
      refine c_img_l (by assumption) hR hw d (c + 1) _ (by omega) ⟨oI_tr o (oI_tr (oI_sI t _ _ (by decide)) (oI_sI _ _ _ (by decide))), fun j hj => ?_, ?_, fun e he => ?_⟩
      · obtain ⟨a1, a2, a3, a4, a5⟩ := i2 j hj
        refine ⟨?_, ?_, ?_, ?_, a5⟩
        · rw [mI_sI_g, if_neg (by omega), mI_sI_g, if_neg (by omega)]; exact a1
        · rw [mI_sI_g, if_neg (by omega), mI_sI_g, if_neg (by omega)]; exact a2
        · rw [mI_sI_g, if_neg (by omega), mI_sI_g, if_neg (by omega)]; exact a3
        · rw [mI_sI_g, if_neg (by omega), mI_sI_g, if_neg (by omega)]; exact a4
      · exact i3
      · by_cases hec : e = c
        · subst hec
          refine ⟨fun w hw' => ?_, fun r x hr => by rw [hq] at hr; cases hr⟩
          rw [hq] at hw'; cases hw'
          rw [mI_sI_g, if_pos ⟨rfl, rfl⟩, mI_sI_g, if_neg (by omega), mI_sI_g, if_pos ⟨rfl, rfl⟩]
          exact ⟨rfl, hv⟩
        · obtain ⟨b1, b2⟩ := i4 e (by omega)
          refine ⟨fun w hw' => ?_, fun r x hr hx => ?_⟩
          · rw [mI_sI_g, if_neg (by omega), mI_sI_g, if_neg (by omega), mI_sI_g, if_neg (by omega), mI_sI_g, if_neg (by omega)]
            exact b1 w hw'
          · rw [mI_sI_g, if_neg (by omega), mI_sI_g, if_neg (by omega)]
            exact b2 r x hr hx
    | inl r =>
      obtain ⟨x, f, hx, f16, e5, hs⟩ := hR.1.1 _ r hc hq
      have f1 : inR (mI (sI t 27 (10 * k + c) (mI t0 5 c)) 5 c) 16 := by
        rw [mI_sI_n _ _ _ _ (by decide), h5]
        exact ⟨f, f16, e5⟩
      have hfw : ∀ (t1 : mS), mI t1 5 = mI t0 5 → xev 140 0 [some (xA (some (m0))), some (xI (nI c)), none] [] (mW m0 t1 u) = some (some (xI (nI (frs (qC S) r))), mW m0 t1 u) := by
        intro t1 h1
        rw [e_X8_firstWith_0, b_X8_firstWith_0]
        exact c_first_l (S := S) (fun d hd => by rw [h1]; exact hang_eq hR hw hc hd hq) hc hq 10 0 (by omega) (by omega) rfl
      have t5 : ∀ j, j ≤ 30 → mI t j = mI t j := fun _ _ => rfl
      have f2 : inR (mI (sI (sI t 27 (10 * k + c) (mI t0 5 c)) 28 (10 * k + c) (nI (frs (qC S) r))) 5 c) 16 := by
        rw [mI_sI_n _ _ _ _ (by decide)]
        exact f1
      have k0 : mI t 0 f = nI x.1 := by rw [o.2.2.2.1 0 (by decide)]; exact hs.1
      have k1 : mI t 1 f = nI x.2.1 := by rw [o.2.2.2.1 1 (by decide)]; exact hs.2.1
      have s5 : mI (sI t 27 (10 * k + c) (mI t0 5 c)) 5 = mI t0 5 := by rw [mI_sI_n _ _ _ _ (by decide)]; exact o.2.2.2.1 5 (by decide)
      have e5' : mI t 5 c = nI f := h5.trans e5
      simp only [c_isRow_t hc f1, g_0, g_1, g_2, g_3, g_4, g_5, g_6, g_7, g_8, g_9, g_10, g_11, g_12, g_13, g_14, g_15, g_16, g_17, g_18, g_19, g_20, g_21, g_22, g_23, g_24, g_25, g_26, g_27, g_28, g_29, g_30, g_31, g_32, g_33, Option.bind_some, mW_obj, xrI_e, xrJ_e, xrD_e, xrA_e, xrV_e, if_neg i10, hfw _ s5, s_28 h20, c_isRow_t hc f2, a_5 hc, mI_sI_n _ _ _ _ (show 5 ≠ 28 by decide), mI_sI_n _ _ _ _ (show 5 ≠ 27 by decide), e5', a_0 f16, mI_sI_n _ _ _ _ (show 0 ≠ 28 by decide), mI_sI_n _ _ _ _ (show 0 ≠ 27 by decide), k0, s_29 h20, mI_sI_n _ _ _ _ (show 5 ≠ 29 by decide), a_1 f16, mI_sI_n _ _ _ _ (show 1 ≠ 29 by decide), mI_sI_n _ _ _ _ (show 1 ≠ 28 by decide), mI_sI_n _ _ _ _ (show 1 ≠ 27 by decide), k1, s_30 h20]
      have hin := c_img_in (m0 := m0) (u := u) (k := k) (t0 := sI (sI (sI (sI t 27 (10 * k + c) (mI t0 5 c)) 28 (10 * k + c) (nI (frs (qC S) r))) 29 (10 * k + c) (nI x.1)) 30 (10 * k + c) (nI x.2.1)) hc h20 f16 (by rw [mI_sI_n _ _ _ _ (by decide), mI_sI_n _ _ _ _ (by decide), mI_sI_n _ _ _ _ (by decide), mI_sI_n _ _ _ _ (by decide)]; exact e5') 24 0 rfl
      have hz : ∀ t f q, gI t f q 0 = t := fun _ _ _ => rfl
      rw [nI_0, hz] at hin
      rw [hin]
      have o4 : oI t (sI (sI (sI (sI t 27 (10 * k + c) (mI t0 5 c)) 28 (10 * k + c) (nI (frs (qC S) r))) 29 (10 * k + c) (nI x.1)) 30 (10 * k + c) (nI x.2.1)) := oI_tr (oI_tr (oI_tr (oI_sI t _ _ (by decide)) (oI_sI _ _ _ (by decide))) (oI_sI _ _ _ (by decide))) (oI_sI _ _ _ (by decide))
      obtain ⟨g1, g2, g3, g4⟩ := gI_o (t := sI (sI (sI (sI t 27 (10 * k + c) (mI t0 5 c)) 28 (10 * k + c) (nI (frs (qC S) r))) 29 (10 * k + c) (nI x.1)) 30 (10 * k + c) (nI x.2.1)) f (10 * k + c) 24
      have n24 : x.2.1 ≤ 24 := by
        obtain ⟨y, hy, rk⟩ := wf_row hw hc hq
        obtain rfl : x = y := Option.some.inj (hx.symm.trans hy)
        exact rk.2.1
      refine c_img_l hk hR hw d (c + 1) _ (by omega) ⟨oI_tr o (oI_tr o4 g1), fun j hj => ?_, ?_, fun e he => ?_⟩
      · obtain ⟨a1, a2, a3, a4, a5⟩ := i2 j hj
        rw [g2 27 (by decide), g2 28 (by decide), g2 29 (by decide), g2 30 (by decide)]
        refine ⟨?_, ?_, ?_, ?_, fun i hi => (g4 _ (by omega)).trans (a5 i hi)⟩
        · rw [mI_sI_g, if_neg (by omega), mI_sI_g, if_neg (by omega), mI_sI_g, if_neg (by omega), mI_sI_g, if_neg (by omega)]; exact a1
        · rw [mI_sI_g, if_neg (by omega), mI_sI_g, if_neg (by omega), mI_sI_g, if_neg (by omega), mI_sI_g, if_neg (by omega)]; exact a2
        · rw [mI_sI_g, if_neg (by omega), mI_sI_g, if_neg (by omega), mI_sI_g, if_neg (by omega), mI_sI_g, if_neg (by omega)]; exact a3
        · rw [mI_sI_g, if_neg (by omega), mI_sI_g, if_neg (by omega), mI_sI_g, if_neg (by omega), mI_sI_g, if_neg (by omega)]; exact a4
      · rw [g2 26 (by decide)]
        exact i3
      · unfold slI
        rw [g2 27 (by decide), g2 28 (by decide), g2 29 (by decide), g2 30 (by decide)]
        by_cases hec : e = c
        · subst hec
          refine ⟨(fun w hw' => by rw [hq] at hw'; cases hw'), fun s y hr hy => ?_⟩
          rw [hq] at hr; cases hr
          obtain rfl : x = y := Option.some.inj (hx.symm.trans hy)
          refine ⟨?_, ?_, ?_, fun i hi => ?_⟩
          · rw [mI_sI_g, if_neg (by omega), mI_sI_g, if_neg (by omega), mI_sI_g, if_pos ⟨rfl, rfl⟩]
          · rw [mI_sI_g, if_neg (by omega), mI_sI_g, if_pos ⟨rfl, rfl⟩]
          · rw [mI_sI_g, if_pos ⟨rfl, rfl⟩]
          · have := g3 i (by omega)
            rw [congrFun (oI_T o4) _, congrFun (oI_T o) _, hs.2.2 i hi] at this
            exact this
        · obtain ⟨b1, b2⟩ := i4 e (by omega)
          refine ⟨fun w hw' => ?_, fun s y hr hy => ?_⟩
          · rw [mI_sI_g, if_neg (by omega), mI_sI_g, if_neg (by omega), mI_sI_g, if_neg (by omega), mI_sI_g, if_neg (by omega), mI_sI_g, if_neg (by omega), mI_sI_g, if_neg (by omega), mI_sI_g, if_neg (by omega), mI_sI_g, if_neg (by omega)]
            exact b1 w hw'
          · obtain ⟨c1, c2, c3, c4⟩ := b2 s y hr hy
            refine ⟨?_, ?_, ?_, fun i hi => ?_⟩
            · rw [mI_sI_g, if_neg (by omega), mI_sI_g, if_neg (by omega), mI_sI_g, if_neg (by omega), mI_sI_g, if_neg (by omega)]
              exact c1
            · rw [mI_sI_g, if_neg (by omega), mI_sI_g, if_neg (by omega), mI_sI_g, if_neg (by omega), mI_sI_g, if_neg (by omega)]
              exact c2
            · rw [mI_sI_g, if_neg (by omega), mI_sI_g, if_neg (by omega), mI_sI_g, if_neg (by omega), mI_sI_g, if_neg (by omega)]
              exact c3
            · have n24' : y.2.1 ≤ 24 := by
                obtain ⟨z, hz, rk⟩ := wf_row hw (show e < 10 by omega) hr
                obtain rfl : y = z := Option.some.inj (hy.symm.trans hz)
                exact rk.2.1
              exact (g4 (24 * (10 * k + e) + i) (by omega)).trans (c4 i hi)
end MO2
