/-! how the reference's places change -/
section MS
variable {t t' : mS} {C C' : Nat → sO} {R R' : Nat → Option sR} {K : Option Nat} {S : sS}
/-- a place is used -/
def usd (t : mS) (p : Nat) : Prop := (∃ d, d < 10 ∧ mI t 5 d = nI p) ∨ mi t 6 = nI p
/-- a place stays as it is -/
def sam (t t' : mS) (p : Nat) : Prop := mI t' 0 p = mI t 0 p ∧ mI t' 1 p = mI t 1 p ∧ ∀ i, i < 24 → mT t' (24 * p + i) = mT t (24 * p + i)
theorem sam_slt {p : Nat} {x : sR} (h : sam t t' p) (hx : x.2.1 ≤ 24) (hs : slt t p x) : slt t' p x := ⟨h.1.trans hs.1, h.2.1.trans hs.2.1, fun i hi => (h.2.2 i (by omega)).trans (hs.2.2 i hi)⟩
theorem RmC_gen {N id q : Nat} {x : sR} (hR : RmC C R K t) (hk : ∀ c r, c < 10 → C c = .inl r → ∃ x, R r = some x ∧ rok N x) (hkK : ∀ r, K = some r → (∃ x, R r = some x ∧ rok N x)) (hf : R id = none) (hq : q < 16) (hu : ∀ d, d < 10 → mI t 5 d ≠ nI q) (hu6 : mi t 6 ≠ nI q) (h6 : mi t' 6 = mi t 6)
    (hs : ∀ p, p < 16 → p ≠ q → usd t p → sam t t' p) (hx : slt t' q x)
    (hc : ∀ d, d < 10 → (∃ e, e < 10 ∧ C' d = C e ∧ mI t' 5 d = mI t 5 e) ∨ (∃ v, C' d = .inr v ∧ mI t' 5 d = hcd v ∧ ∀ p, p < 16 → hcd v ≠ nI p) ∨ (C' d = .inl id ∧ mI t' 5 d = nI q)) : RmC C' (va_up R id (some x)) K t' := by
  obtain ⟨hA, hB, hC, hD, hE⟩ := hR
  have hid : ∀ c r, c < 10 → C c = .inl r → r ≠ id := by
    rintro c r hc' hr rfl
    obtain ⟨x, h1, _⟩ := hk c r hc' hr
    rw [hf] at h1
    cases h1
  refine ⟨fun d r hd hr => ?_, fun d v hd hv => ?_, fun c d r s h1 h2 h3 h4 => ?_, fun h => h6.trans (hD h), fun r hr => ?_⟩
  · rcases hc d hd with ⟨e, he, e1, e2⟩ | ⟨v, e1, e2, _⟩ | ⟨e1, e2⟩
    · rw [hr] at e1
      obtain ⟨y, p, a1, a2, a3, a4⟩ := hA e r he e1.symm
      obtain ⟨y', b1, b2⟩ := hk e r he e1.symm
      obtain rfl : y = y' := Option.some.inj (a1.symm.trans b1)
      refine ⟨y, p, ?_, a2, e2.trans a3, sam_slt (hs p a2 (fun h => hu e he (h ▸ a3)) (Or.inl ⟨e, he, a3⟩)) b2.2.1 a4⟩
      unfold va_up
      rw [if_neg (hid e r he e1.symm), a1]
    · rw [hr] at e1; cases e1
    · rw [hr] at e1; cases e1
      exact ⟨x, q, if_pos rfl, hq, e2, hx⟩
  · rcases hc d hd with ⟨e, he, e1, e2⟩ | ⟨w, e1, e2, _⟩ | ⟨e1, e2⟩
    · exact e2.trans (hB e v he (e1.symm.trans hv))
    · rw [hv] at e1; cases e1; exact e2
    · rw [hv] at e1; cases e1
  · rcases hc c h1 with ⟨e, he, e1, e2⟩ | ⟨w, e1, e2, _⟩ | ⟨e1, e2⟩
    · rcases hc d h2 with ⟨g, hg, g1, g2⟩ | ⟨w, g1, g2, _⟩ | ⟨g1, g2⟩
      · rw [e2, g2]
        exact hC e g r s he hg (e1.symm.trans h3) (g1.symm.trans h4)
      · rw [h4] at g1; cases g1
      · rw [h4] at g1; cases g1
        rw [e2, g2]
        exact ⟨fun h => absurd h (hu e he), fun h => absurd h (hid e r he (e1.symm.trans h3))⟩
    · rw [h3] at e1; cases e1
    · rw [h3] at e1; cases e1
      rcases hc d h2 with ⟨g, hg, g1, g2⟩ | ⟨w, g1, g2, _⟩ | ⟨g1, g2⟩
      · rw [e2, g2]
        exact ⟨fun h => absurd h.symm (hu g hg), fun h => absurd h.symm (hid g s hg (g1.symm.trans h4))⟩
      · rw [h4] at g1; cases g1
      · rw [h4] at g1; cases g1
        rw [e2, g2]
        exact ⟨fun _ => rfl, fun _ => rfl⟩
  · obtain ⟨y, p, a1, a2, a3, a4, a5⟩ := hE r hr
    obtain ⟨y', b1, b2⟩ := hkK r hr
    obtain rfl : y = y' := Option.some.inj (a1.symm.trans b1)
    have hpq : p ≠ q := fun h => hu6 (h ▸ a3)
    refine ⟨y, p, ?_, a2, h6.trans a3, sam_slt (hs p a2 hpq (Or.inr a3)) b2.2.1 a4, fun c hc' => ?_⟩
    · unfold va_up
      rw [if_neg (by rintro rfl; rw [hf] at a1; cases a1), a1]
    · rcases hc c hc' with ⟨e, he, e1, e2⟩ | ⟨w, e1, e2, e3⟩ | ⟨e1, e2⟩
      · rw [e2]; exact a5 e he
      · rw [e2]; exact e3 p a2
      · rw [e2]
        exact fun h => hpq ((nI_eq (by omega) (by omega)).mp h).symm
theorem RmI_upd {G : Nat → Option (Nat → sO)} (h : RmI R G t) (hr : ∀ k f, k < 2 → G k = some f → ∀ c r, c < 10 → f c = .inl r → R' r = R r) : RmI R' G t := by
  intro k hk
  obtain ⟨h1, h2⟩ := h k hk
  refine ⟨h1, fun f hf => ?_⟩
  obtain ⟨a, b, c⟩ := h2 f hf
  refine ⟨a, b, fun d r hd hdr => ?_⟩
  obtain ⟨x, j, e1, e2⟩ := c d r hd hdr
  exact ⟨x, j, (hr k f hk hf d r hd hdr).trans e1, e2⟩
theorem hcd_np {N : Nat} {v : mC} (hN : N ≤ 60) (h : v = (11, 0, 0) ∨ (∃ j, j < 100 ∧ v = (10, lN j, 0)) ∨ (∃ j, 0 < j ∧ j ≤ N ∧ v = (8, lN j, 0))) : ∀ p, p < 16 → hcd v ≠ nI p := by
  intro p hp
  rcases hcd_no hN h with ⟨_, e⟩ | ⟨_, j, h1, h2, e⟩ | ⟨_, j, h1, h2, e⟩
  · rw [e]; exact fun h => nI_m1 (by omega) h.symm
  · rw [e]; intro h; have := (nI_eq (by omega) (by omega)).mp h; omega
  · rw [e]; intro h; have := (nI_eq (by omega) (by omega)).mp h; omega
/-- all but the places and what hangs is kept -/
def oth (t t' : mS) : Prop := mi t' = mi t ∧ mj t' = mj t ∧ md t' = md t ∧ (∀ j, j ≠ 0 → j ≠ 1 → j ≠ 2 → j ≠ 5 → mI t' j = mI t j) ∧ (∀ j, j ≠ 3 → mJ t' j = mJ t j) ∧ ∀ j, j ≠ 4 → mD t' j = mD t j
theorem oth_refl (t : mS) : oth t t := ⟨rfl, rfl, rfl, fun _ _ _ _ _ => rfl, fun _ _ => rfl, fun _ _ => rfl⟩
theorem oth_tr {t1 t2 t3 : mS} (h : oth t1 t2) (k : oth t2 t3) : oth t1 t3 := ⟨k.1.trans h.1, k.2.1.trans h.2.1, k.2.2.1.trans h.2.2.1, fun j a b c d => (k.2.2.2.1 j a b c d).trans (h.2.2.2.1 j a b c d), fun j a => (k.2.2.2.2.1 j a).trans (h.2.2.2.2.1 j a), fun j a => (k.2.2.2.2.2 j a).trans (h.2.2.2.2.2 j a)⟩
theorem oth_put (t : mS) (k : Nat) (x : mC) : oth t (mPut t k x) := ⟨rfl, rfl, rfl, fun _ _ _ c _ => mPut_I t k x c, fun _ a => mPut_J t k x a, fun _ a => mPut_D t k x a⟩
theorem oth_sI (t : mS) (k n : Nat) (x : Int32) (h : k = 0 ∨ k = 1 ∨ k = 2 ∨ k = 5) : oth t (sI t k n x) := ⟨rfl, rfl, rfl, fun j a b c d => mI_sI_n t k n x (by rintro rfl; rcases h with h | h | h | h <;> contradiction), fun _ _ => rfl, fun _ _ => rfl⟩
theorem Rm_oth {H G' : mC} {W T : Nat → Int32} {N : Nat} {A : Int32} {P : Nat × (Nat → Nat) × (Nat → Nat)} {I : Nat → Option (Nat → sO)} (o : oth t t') (h : RmH H t ∧ RmG G' t ∧ RmW W N t ∧ RmT T A t ∧ RmP P t ∧ RmI R I t) : RmH H t' ∧ RmG G' t' ∧ RmW W N t' ∧ RmT T A t' ∧ RmP P t' ∧ RmI R I t' := by
  obtain ⟨o1, o2, o3, o4, o5, o6⟩ := o
  unfold RmH RmG RmW RmT RmP RmI slI at h ⊢
  rw [o1, o2, o3, o4 11 (by decide) (by decide) (by decide) (by decide), o4 14 (by decide) (by decide) (by decide) (by decide), o4 16 (by decide) (by decide) (by decide) (by decide), o4 17 (by decide) (by decide) (by decide) (by decide), o4 26 (by decide) (by decide) (by decide) (by decide), o4 27 (by decide) (by decide) (by decide) (by decide), o4 28 (by decide) (by decide) (by decide) (by decide), o4 29 (by decide) (by decide) (by decide) (by decide), o4 30 (by decide) (by decide) (by decide) (by decide), o4 31 (by decide) (by decide) (by decide) (by decide), o5 32 (by decide), o6 33 (by decide)]
  exact h
/-- only one place is written -/
def wr (t t' : mS) (q : Nat) : Prop := oth t t' ∧ mI t' 5 = mI t 5 ∧ ∀ p, p ≠ q → sam t t' p
theorem wr_refl (t : mS) (q : Nat) : wr t t q := ⟨oth_refl t, rfl, fun _ _ => ⟨rfl, rfl, fun _ _ => rfl⟩⟩
theorem wr_tr {t1 t2 t3 : mS} {q : Nat} (h : wr t1 t2 q) (k : wr t2 t3 q) : wr t1 t3 q := ⟨oth_tr h.1 k.1, k.2.1.trans h.2.1, fun p hp => ⟨(k.2.2 p hp).1.trans (h.2.2 p hp).1, (k.2.2 p hp).2.1.trans (h.2.2 p hp).2.1, fun i hi => ((k.2.2 p hp).2.2 i hi).trans ((h.2.2 p hp).2.2 i hi)⟩⟩
theorem wr_put (t : mS) {q k : Nat} (hk : 24 * q ≤ k ∧ k < 24 * q + 24) (x : mC) : wr t (mPut t k x) q := by
  refine ⟨oth_put t k x, mPut_I t k x (by decide), fun p hp => ⟨congrFun (mPut_I t k x (by decide)) p, congrFun (mPut_I t k x (by decide)) p, fun i hi => ?_⟩⟩
  rw [mT_put, if_neg]
  omega
theorem wr_fold (t : mS) {q : Nat} {dst : Nat → Nat} {v : Nat → mC} : ∀ n, (∀ j, j < n → 24 * q ≤ dst j ∧ dst j < 24 * q + 24) → wr t (mFold t dst v n) q
  | 0, _ => wr_refl t q
  | n + 1, h => wr_tr (wr_fold t n (fun j hj => h j (by omega))) (wr_put _ (h n (by omega)) _)
theorem wr_begin (t : mS) (q : Nat) (kind n : Int32) : wr t (mBegin t q kind n) q := by
  refine wr_tr (t2 := sI (sI t 0 q kind) 1 q n) ⟨oth_tr (oth_sI _ _ _ _ (by decide)) (oth_sI _ _ _ _ (by decide)), rfl, fun p hp => ⟨?_, ?_, fun i hi => rfl⟩⟩ (wr_fold _ 24 (fun j hj => ⟨by omega, by omega⟩))
  · rw [mI_sI_n _ _ _ _ (by decide), mI_sI_e, if_neg hp]
  · rw [mI_sI_e, if_neg hp, mI_sI_n _ _ _ _ (by decide)]
theorem begin_0 (t : mS) (q : Nat) (kind n : Int32) : mI (mBegin t q kind n) 0 q = kind ∧ mI (mBegin t q kind n) 1 q = n := by
  constructor
  · unfold mBegin
    rw [mFold_I _ _ (by decide), mI_sI_n _ _ _ _ (by decide), mI_sI_e, if_pos rfl]
  · unfold mBegin
    rw [mFold_I _ _ (by decide), mI_sI_e, if_pos rfl]
theorem begin_T (t : mS) (q : Nat) (kind n : Int32) {i : Nat} (h : i < 24) : mT (mBegin t q kind n) (24 * q + i) = mBlank kind := by
  unfold mBegin
  exact mFold_in (dst := fun j => 24 * q + j) 24 (fun i j _ _ e => by omega) i h
/-- a new row is hung up -/
theorem Rm_hang {id q c : Nat} {x : sR} {t1 : mS} (hR : Rm S t) (hw : wf S) (hf : qR S id = none) (hq : q < 16) (hu : ∀ d, d < 10 → mI t 5 d ≠ nI q) (hu6 : mi t 6 ≠ nI q) (w : ∀ p, p < 16 → p ≠ q → usd t p → sam t t1 p) (o : oth t t1) (o5 : mI t1 5 = mI t 5) (hx : slt t1 q x) (hc : c < 10) : Rm (uC (uR S id x) c (.inl id)) (sI t1 5 c (nI q)) := by
  have e5 : ∀ d, mI (sI t1 5 c (nI q)) 5 d = if d = c then nI q else mI t 5 d := fun d => by rw [mI_sI_e, o5]
  refine ⟨RmC_gen (N := qN S) hR.1 (fun c r h1 h2 => wf_row hw h1 h2) (fun r hr => (hw.2.2.2.1 r hr).1) hf hq hu hu6 (congrFun o.1 6) w hx (fun d hd => ?_), ?_⟩
  · rw [e5]
    show (∃ e, e < 10 ∧ (if d = c then .inl id else qC S d) = qC S e ∧ _) ∨ _ ∨ _
    by_cases hdc : d = c
    · right; right
      exact ⟨if_pos hdc, if_pos hdc⟩
    · left
      exact ⟨d, hd, if_neg hdc, if_neg hdc⟩
  · have := Rm_oth (oth_tr o (oth_sI t1 5 c (nI q) (by decide))) hR.2
    refine ⟨this.1, this.2.1, this.2.2.1, this.2.2.2.1, this.2.2.2.2.1, RmI_upd this.2.2.2.2.2 (fun k f hk hfk c r h1 h2 => ?_)⟩
    show (if r = id then some x else qR S r) = qR S r
    rw [if_neg]
    rintro rfl
    have := (hw.2.2.2.2.2.2 k f hk hfk c h1).1
    rw [h2] at this
    obtain ⟨y, hy, _⟩ := this
    rw [hf] at hy
    cases hy
end MS
