/-! arrays, casts, calls -/
section XROW2
variable {p : Program} {l : Launch} {e : Env} {R : Room} {s : State} {m : MethodId} {args : Array Value} {below : List Frame} {meth : Method} {c : Code} {Q : State → Prop} {D : va_G} {z0 : Nat} {w0 w w2 wE : xW} {mi n pc k a b o : Nat} {lo : xL} {st : List xV}
theorem xh_ald {i : Int32} {x : Int32} (hC : xCx p R s m meth c D z0 w0 mi) (hd : decode (xmi mi).2.2.1 pc = .ok (.iaload, 1)) (h : xaI w o i = some x)
    (K : xWn p l e R s m args below meth c Q D z0 w0 n (pc + 1) lo (xI x :: st) w) : xWn p l e R s m args below meth c Q D z0 w0 n pc lo (xI i :: xA (some o) :: st) w := by
  intro hn ls H locs cells slots hls hSt
  obtain ⟨hx, hb, -⟩ := hC
  unfold xaI at h
  split at h
  · next k N f hm =>
    split at h
    · next hc =>
      cases h
      obtain ⟨hk, h0, hN⟩ := hc
      obtain ⟨cell, h1, h2, h3, h4, h5, h6⟩ := (hSt.1.2.2 o _ hm).1
      have hty : xty k = .int := by rcases hk with rfl | rfl <;> rfl
      refine W.iald hx hb h1 (by rw [← hty]; exact h2) h4 (fun q => q.elim h0 (fun q => absurd hN (Nat.not_lt.mpr (Nat.le_trans h5.1 q)))) (h6 _ hN) rfl rfl hd (K hn ls H locs cells slots hls hSt)
    · cases h
  · cases h
theorem xh_zld {i : Int32} {x : Int32} (hC : xCx p R s m meth c D z0 w0 mi) (hd : decode (xmi mi).2.2.1 pc = .ok (.baload, 1)) (h : xaZ w o i = some x)
    (K : xWn p l e R s m args below meth c Q D z0 w0 n (pc + 1) lo (xI x :: st) w) : xWn p l e R s m args below meth c Q D z0 w0 n pc lo (xI i :: xA (some o) :: st) w := by
  intro hn ls H locs cells slots hls hSt
  obtain ⟨hx, hb, -⟩ := hC
  unfold xaZ at h
  split at h
  · next k N f hm =>
    split at h
    · next hc =>
      cases h
      obtain ⟨hk, h0, hN⟩ := hc
      obtain ⟨cell, h1, h2, h3, h4, h5, h6⟩ := (hSt.1.2.2 o _ hm).1
      have hty : xty k = .boolean := by rw [hk]; rfl
      refine W.zald hx hb h1 (by rw [← hty]; exact h2) h4 (fun q => q.elim h0 (fun q => absurd hN (Nat.not_lt.mpr (Nat.le_trans h5.1 q)))) (h6 _ hN) rfl rfl hd (K hn ls H locs cells slots hls hSt)
    · cases h
  · cases h
theorem xh_jld {i : Int32} {x : Int64} (hC : xCx p R s m meth c D z0 w0 mi) (hd : decode (xmi mi).2.2.1 pc = .ok (.laload, 1)) (h : xaJ w o i = some x)
    (K : xWn p l e R s m args below meth c Q D z0 w0 n (pc + 1) lo (xJ x :: st) w) : xWn p l e R s m args below meth c Q D z0 w0 n pc lo (xI i :: xA (some o) :: st) w := by
  intro hn ls H locs cells slots hls hSt
  obtain ⟨hx, hb, -⟩ := hC
  unfold xaJ at h
  split at h
  · next k N f hm =>
    split at h
    · next hc =>
      cases h
      obtain ⟨hk, h0, hN⟩ := hc
      obtain ⟨cell, h1, h2, h3, h4, h5, h6⟩ := (hSt.1.2.2 o _ hm).1
      have hty : xty k = .long := by rw [hk]; rfl
      refine W.lald hx hb h1 (by rw [← hty]; exact h2) h4 (fun q => q.elim h0 (fun q => absurd hN (Nat.not_lt.mpr (Nat.le_trans h5.1 q)))) (h6 _ hN) rfl rfl hd (K hn ls H locs cells slots hls hSt)
    · cases h
  · cases h
theorem xh_dld {i : Int32} {x : UInt64} (hC : xCx p R s m meth c D z0 w0 mi) (hd : decode (xmi mi).2.2.1 pc = .ok (.daload, 1)) (h : xaD w o i = some x)
    (K : xWn p l e R s m args below meth c Q D z0 w0 n (pc + 1) lo (xD x :: st) w) : xWn p l e R s m args below meth c Q D z0 w0 n pc lo (xI i :: xA (some o) :: st) w := by
  intro hn ls H locs cells slots hls hSt
  obtain ⟨hx, hb, -⟩ := hC
  unfold xaD at h
  split at h
  · next k N f hm =>
    split at h
    · next hc =>
      cases h
      obtain ⟨hk, h0, hN⟩ := hc
      obtain ⟨cell, h1, h2, h3, h4, h5, h6⟩ := (hSt.1.2.2 o _ hm).1
      have hty : xty k = .double := by rw [hk]; rfl
      refine W.dald hx hb h1 (by rw [← hty]; exact h2) h4 (fun q => q.elim h0 (fun q => absurd hN (Nat.not_lt.mpr (Nat.le_trans h5.1 q)))) (h6 _ hN) rfl rfl hd (K hn ls H locs cells slots hls hSt)
    · cases h
  · cases h
theorem xh_ref {i : Int32} {x : Option Nat} (hC : xCx p R s m meth c D z0 w0 mi) (hd : decode (xmi mi).2.2.1 pc = .ok (.aaload, 1)) (h : xaA w o i = some x)
    (K : xWn p l e R s m args below meth c Q D z0 w0 n (pc + 1) lo (xA x :: st) w) : xWn p l e R s m args below meth c Q D z0 w0 n pc lo (xI i :: xA (some o) :: st) w := by
  intro hn ls H locs cells slots hls hSt
  obtain ⟨hx, hb, -⟩ := hC
  unfold xaA at h
  split at h
  · next k N f hm =>
    split at h
    · next hc =>
      cases h
      obtain ⟨hk, h0, hN⟩ := hc
      obtain ⟨cell, h1, h2, h3, h4, h5, h6⟩ := (hSt.1.2.2 o _ hm).1
      have hty : (xty k).isReference = true := by rcases hk with rfl | rfl | rfl <;> rfl
      exact W.aald hx hb h1 h2 hty h4 (fun q => q.elim h0 (fun q => absurd hN (Nat.not_lt.mpr (Nat.le_trans h5.1 q)))) (h6 _ hN) rfl rfl hd (K hn ls H locs cells slots hls hSt)
    · cases h
  · cases h
theorem xarC_set {s : State} {k N : Nat} {v v2 : (Nat → Int32) ⊕ (Nat → Int64) ⊕ (Nat → UInt32) ⊕ (Nat → UInt64) ⊕ (Nat → Option Nat)} {cell : Cell} {i : Nat} {x : Value} (h : xarC s k N v cell) (hi : i < N) (hv : ∀ j, j < N → xval v2 j = if j = i then x else xval v j) : xarC s k N v2 (cell.setSlot i x) := by
  obtain ⟨h2, h3, h4, h5, h6⟩ := h
  have hs : (cell.setSlot i x).slots = cell.slots.setIfInBounds i x := rfl
  refine ⟨h2, h3, h4, by rw [hs, Array.size_setIfInBounds]; exact h5, fun j hj => ?_⟩
  rw [hs, hv j hj]
  by_cases hji : j = i
  · subst hji
    rw [if_pos rfl, Array.getElem?_setIfInBounds_self_of_lt (Nat.lt_of_lt_of_le hj h5.1)]
  · rw [if_neg hji, Array.getElem?_setIfInBounds_ne (fun q => hji q.symm)]
    exact h6 j hj
theorem xh_ast {i : Int32} {x : Int32} (hC : xCx p R s m meth c D z0 w0 mi) (hd : decode (xmi mi).2.2.1 pc = .ok (.iastore, 1)) (h : xsI w o i x = some w2)
    (K : xWn p l e R s m args below meth c Q D z0 w0 n (pc + 1) lo st w2) : xWn p l e R s m args below meth c Q D z0 w0 n pc lo (xI x :: xI i :: xA (some o) :: st) w := by
  intro hn ls H locs cells slots hls hSt
  obtain ⟨hx, hb, -⟩ := hC
  unfold xsI at h
  split at h
  · next k N f hm =>
    split at h
    · next hc =>
      cases h
      obtain ⟨rfl, h0, hN⟩ := hc
      obtain ⟨cell, h1, hA⟩ := (hSt.1.2.2 o _ hm).1
      refine W.iast hx hb h1 hA.1 hA.2.2.1 (fun q => q.elim h0 (fun q => absurd hN (Nat.not_lt.mpr (Nat.le_trans hA.2.2.2.1.1 q)))) rfl rfl hd fun H' e1 e2 e3 => ?_
      have hat : xat D s o (.inl (0, N, .inl (va_up f i.toNatClampNeg x))) H' := ⟨_, e1, xarC_set hA hN (fun j _ => by
        by_cases hj : j = i.toNatClampNeg
        · simp [xval, va_up, hj]
        · simp [xval, va_up, hj])⟩
      obtain ⟨hP', hz⟩ := xP_set hSt.1 hm (by simp [xro]) e2 e3 hat
      exact K hn ls H' _ cells slots hls ⟨hP', hSt.2.1.put e2 e3 hz, hSt.2.2⟩
    · cases h
  · cases h
theorem xh_zst {i : Int32} {x : Int32} (hC : xCx p R s m meth c D z0 w0 mi) (hd : decode (xmi mi).2.2.1 pc = .ok (.bastore, 1)) (h : xsZ w o i x = some w2)
    (K : xWn p l e R s m args below meth c Q D z0 w0 n (pc + 1) lo st w2) : xWn p l e R s m args below meth c Q D z0 w0 n pc lo (xI x :: xI i :: xA (some o) :: st) w := by
  intro hn ls H locs cells slots hls hSt
  obtain ⟨hx, hb, -⟩ := hC
  unfold xsZ at h
  split at h
  · next k N f hm =>
    split at h
    · next hc =>
      cases h
      obtain ⟨rfl, h0, hN⟩ := hc
      obtain ⟨cell, h1, hA⟩ := (hSt.1.2.2 o _ hm).1
      refine W.zast hx hb h1 hA.1 hA.2.2.1 (fun q => q.elim h0 (fun q => absurd hN (Nat.not_lt.mpr (Nat.le_trans hA.2.2.2.1.1 q)))) rfl rfl hd fun H' e1 e2 e3 => ?_
      have hat : xat D s o (.inl (3, N, .inl (va_up f i.toNatClampNeg (vp_nar .boolean x)))) H' := ⟨_, e1, xarC_set hA hN (fun j _ => by
        by_cases hj : j = i.toNatClampNeg
        · simp [xval, va_up, hj, vp_nar, narrow]
        · simp [xval, va_up, hj])⟩
      obtain ⟨hP', hz⟩ := xP_set hSt.1 hm (by simp [xro]) e2 e3 hat
      exact K hn ls H' _ cells slots hls ⟨hP', hSt.2.1.put e2 e3 hz, hSt.2.2⟩
    · cases h
  · cases h
theorem xh_jst {i : Int32} {x : Int64} (hC : xCx p R s m meth c D z0 w0 mi) (hd : decode (xmi mi).2.2.1 pc = .ok (.lastore, 1)) (h : xsJ w o i x = some w2)
    (K : xWn p l e R s m args below meth c Q D z0 w0 n (pc + 1) lo st w2) : xWn p l e R s m args below meth c Q D z0 w0 n pc lo (xJ x :: xI i :: xA (some o) :: st) w := by
  intro hn ls H locs cells slots hls hSt
  obtain ⟨hx, hb, -⟩ := hC
  unfold xsJ at h
  split at h
  · next k N f hm =>
    split at h
    · next hc =>
      cases h
      obtain ⟨rfl, h0, hN⟩ := hc
      obtain ⟨cell, h1, hA⟩ := (hSt.1.2.2 o _ hm).1
      refine W.last hx hb h1 hA.1 hA.2.2.1 (fun q => q.elim h0 (fun q => absurd hN (Nat.not_lt.mpr (Nat.le_trans hA.2.2.2.1.1 q)))) rfl rfl hd fun H' e1 e2 e3 => ?_
      have hat : xat D s o (.inl (1, N, .inr (.inl (va_up f i.toNatClampNeg x)))) H' := ⟨_, e1, xarC_set hA hN (fun j _ => by
        by_cases hj : j = i.toNatClampNeg
        · simp [xval, va_up, hj]
        · simp [xval, va_up, hj])⟩
      obtain ⟨hP', hz⟩ := xP_set hSt.1 hm (by simp [xro]) e2 e3 hat
      exact K hn ls H' _ cells slots hls ⟨hP', hSt.2.1.put e2 e3 hz, hSt.2.2⟩
    · cases h
  · cases h
theorem xh_dst {i : Int32} {x : UInt64} (hC : xCx p R s m meth c D z0 w0 mi) (hd : decode (xmi mi).2.2.1 pc = .ok (.dastore, 1)) (h : xsD w o i x = some w2)
    (K : xWn p l e R s m args below meth c Q D z0 w0 n (pc + 1) lo st w2) : xWn p l e R s m args below meth c Q D z0 w0 n pc lo (xD x :: xI i :: xA (some o) :: st) w := by
  intro hn ls H locs cells slots hls hSt
  obtain ⟨hx, hb, -⟩ := hC
  unfold xsD at h
  split at h
  · next k N f hm =>
    split at h
    · next hc =>
      cases h
      obtain ⟨rfl, h0, hN⟩ := hc
      obtain ⟨cell, h1, hA⟩ := (hSt.1.2.2 o _ hm).1
      refine W.dast hx hb h1 hA.1 hA.2.2.1 (fun q => q.elim h0 (fun q => absurd hN (Nat.not_lt.mpr (Nat.le_trans hA.2.2.2.1.1 q)))) rfl rfl hd fun H' e1 e2 e3 => ?_
      have hat : xat D s o (.inl (2, N, .inr (.inr (.inr (.inl (va_up f i.toNatClampNeg x)))))) H' := ⟨_, e1, xarC_set hA hN (fun j _ => by
        by_cases hj : j = i.toNatClampNeg
        · simp [xval, va_up, hj]
        · simp [xval, va_up, hj])⟩
      obtain ⟨hP', hz⟩ := xP_set hSt.1 hm (by simp [xro]) e2 e3 hat
      exact K hn ls H' _ cells slots hls ⟨hP', hSt.2.1.put e2 e3 hz, hSt.2.2⟩
    · cases h
  · cases h
theorem xh_rst {i : Int32} {x : Nat} (hC : xCx p R s m meth c D z0 w0 mi) (hd : decode (xmi mi).2.2.1 pc = .ok (.aastore, 1)) (h : xsA w o i x = some w2)
    (K : xWn p l e R s m args below meth c Q D z0 w0 n (pc + 1) lo st w2) : xWn p l e R s m args below meth c Q D z0 w0 n pc lo (xA (some x) :: xI i :: xA (some o) :: st) w := by
  intro hn ls H locs cells slots hls hSt
  obtain ⟨hx, hb, -, -, -, hT, -⟩ := hC
  unfold xsA at h
  split at h
  · next k N f hm =>
    obtain ⟨cn, hcn, h⟩ := xbi_s h
    obtain ⟨fs, hfs⟩ := xcno_s hcn
    split at h
    · next hc =>
      cases h
      obtain ⟨hk, h0, hN⟩ := hc
      obtain ⟨cell, h1, hA⟩ := (hSt.1.2.2 o _ hm).1
      obtain ⟨r, hr, cv, g1, g2, g3, -⟩ := (hSt.1.2.2 x _ hfs).1
      have hkind : k = 4 ∧ (cn = 3 ∨ cn = 5) ∨ k = 5 ∧ cn = 5 ∨ k = 6 ∧ cn = 0 := by
        unfold xfit at hk
        simp only [Bool.or_eq_true, Bool.and_eq_true, beq_iff_eq] at hk
        rcases hk with (h | h) | h
        · exact Or.inl h
        · exact Or.inr (Or.inl h)
        · exact Or.inr (Or.inr h)
      have h8 : cn < 8 := by omega
      have hcls := (hT.2.1.1 cn _ (xcl_at h8)).2
      have hk46 : 4 ≤ k ∧ k ≤ 6 := by omega
      have hra := hA.2.1 hk46.1 hk46.2
      have hty : xty k = .object (xqn k) := by
        rcases hkind with ⟨rfl, -⟩ | ⟨rfl, -⟩ | ⟨rfl, -⟩ <;> rfl
      rw [hty] at hra
      obtain ⟨kA, comp, k1, k2, k3, -⟩ := hra
      obtain ⟨kC, hkC, -⟩ := hcls.2
      obtain ⟨kP, hkP, -⟩ := Vm.findClass_spec k3
      have hasg : s.vm.assignable cv.cls comp = true := by
        rw [g2]
        rcases hkind with ⟨rfl, rfl | rfl⟩ | ⟨rfl, rfl⟩ | ⟨rfl, rfl⟩
        · obtain ⟨c0, t0, f1, f2, f3⟩ := Cond.castable_spec hT.2.2.2.2.1.2.2.2.2
          have e1 : c0 = D.1 3 := Option.some.inj (f1.symm.trans hcls.1)
          have e2 : t0 = comp := Option.some.inj (f2.symm.trans k3)
          rw [← e1, ← e2]; exact f3
        · obtain ⟨c0, t0, f1, f2, f3⟩ := Cond.castable_spec hT.2.2.2.2.2.1.2.2.2.2
          have e1 : c0 = D.1 5 := Option.some.inj (f1.symm.trans hcls.1)
          have e2 : t0 = comp := Option.some.inj (f2.symm.trans k3)
          rw [← e1, ← e2]; exact f3
        · have e2 : comp = D.1 5 := Option.some.inj (k3.symm.trans hcls.1)
          rw [e2]; exact va_assign hcls
        · have e2 : comp = D.1 0 := Option.some.inj (k3.symm.trans hcls.1)
          rw [e2]; exact va_assign hcls
      refine W.aast hx hb h1 hA.1.1 hA.2.2.1 k1 k2 rfl hkP ⟨h0, Nat.lt_of_lt_of_le hN hA.2.2.2.1.1⟩ g1 (fun q h => by rw [g3] at h; cases h) (by rw [g2]; exact hkC) hasg rfl rfl hd fun H' e1 e2 e3 => ?_
      have hat : xat D s o (.inl (k, N, .inr (.inr (.inr (.inr (va_up f i.toNatClampNeg (some x))))))) H' := ⟨_, e1, xarC_set hA hN (fun j _ => by
        by_cases hj : j = i.toNatClampNeg
        · simp [xval, va_up, hj, va_rf]
        · simp [xval, va_up, hj])⟩
      obtain ⟨hP', hz⟩ := xP_set hSt.1 hm (by simp only [xro]; omega) e2 e3 hat
      exact K hn ls H' _ cells slots hls ⟨hP', hSt.2.1.put e2 e3 hz, hSt.2.2⟩
    · cases h
  · cases h
theorem xrecv {fs : List xV} (hT : xTb D s) {H : Heap} (hP : xP D z0 s w H) (ho : w.2.2.2 o = some (.inr (a, fs))) (h8 : a < 8) : ∃ cell : Cell, H[o]? = some cell ∧ cell.vm.isStatics = false ∧ s.vm.findClass (xcs a) = some cell.cls := by
  obtain ⟨r, h1, cell, g1, g2, g3, -⟩ := (hP.2.2 o _ ho).1
  exact ⟨cell, g1, by rw [g3]; rfl, by rw [g2]; exact (hT.2.1.1 a _ (xcl_at h8)).2.1⟩
theorem xh_cast {fs : List xV} (hC : xCx p R s m meth c D z0 w0 mi) (hd : decode (xmi mi).2.2.1 pc = .ok (.checkcast k, 3)) (hin : xin2 xka (xmi mi).1 k = true) (ho : w.2.2.2 o = some (.inr (3, fs)))
    (K : xWn p l e R s m args below meth c Q D z0 w0 n (pc + 3) lo (xA (some o) :: st) w) : xWn p l e R s m args below meth c Q D z0 w0 n pc lo (xA (some o) :: st) w := by
  intro hn ls H locs cells slots hls hSt
  obtain ⟨hx, hb, -, hown, -, hT, -⟩ := hC
  obtain ⟨q, hq⟩ := xin2_s hin
  have hcl : (Cond.classLink (xcs (xmi mi).1) k (xcs 3)).before args s = true := xTb_word hT (xgd_at (xka_ok _ hq) rfl) args
  exact va_castS hx hb hown hcl (hT.2.1.1 3 _ (xcl_at (by decide))).2 (xrecv hT hSt.1 ho (by decide)) hd (K hn ls H locs cells slots hls hSt)
theorem xh_isY {fs : List xV} (hC : xCx p R s m meth c D z0 w0 mi) (hd : decode (xmi mi).2.2.1 pc = .ok (.instanceof k, 3)) (hin : xin2 xka (xmi mi).1 k = true) (ho : w.2.2.2 o = some (.inr (3, fs)))
    (K : xWn p l e R s m args below meth c Q D z0 w0 n (pc + 3) lo (xI 1 :: st) w) : xWn p l e R s m args below meth c Q D z0 w0 n pc lo (xA (some o) :: st) w := by
  intro hn ls H locs cells slots hls hSt
  obtain ⟨hx, hb, -, hown, -, hT, -⟩ := hC
  obtain ⟨q, hq⟩ := xin2_s hin
  have hcl : (Cond.classLink (xcs (xmi mi).1) k (xcs 3)).before args s = true := xTb_word hT (xgd_at (xka_ok _ hq) rfl) args
  exact va_instS hx hb hown hcl (hT.2.1.1 3 _ (xcl_at (by decide))).2 (xrecv hT hSt.1 ho (by decide)) hd (K hn ls H locs cells slots hls hSt)
theorem xh_isN {fs : List xV} (hC : xCx p R s m meth c D z0 w0 mi) (hd : decode (xmi mi).2.2.1 pc = .ok (.instanceof k, 3)) (hin : xin2 xka (xmi mi).1 k = true) (ho : w.2.2.2 o = some (.inr (5, fs)))
    (K : xWn p l e R s m args below meth c Q D z0 w0 n (pc + 3) lo (xI 0 :: st) w) : xWn p l e R s m args below meth c Q D z0 w0 n pc lo (xA (some o) :: st) w := by
  intro hn ls H locs cells slots hls hSt
  obtain ⟨hx, hb, -, hown, -, hT, -⟩ := hC
  obtain ⟨q, hq⟩ := xin2_s hin
  have hcl : (Cond.classLink (xcs (xmi mi).1) k (xcs 3)).before args s = true := xTb_word hT (xgd_at (xka_ok _ hq) rfl) args
  exact va_instNo hx hb hown hcl hT.2.2.2.2.2.2.2.2.2 (xrecv hT hSt.1 ho (by decide)) hd (K hn ls H locs cells slots hls hSt)
end XROW2
