/-! the machine does what the pure machine does: rows of heap and calls -/
def xSt (D : va_G) (z0 : Nat) (s : State) (w0 : xW) (H : Heap) (locs : List Loc) (cells slots : Nat) (w : xW) : Prop :=
  xP D z0 s w H ∧ va_S (fun q => z0 ≤ q) s.heap H locs ∧ w0.1 + cells = w.1 ∧ w0.2.1 + slots = w.2.1 ∧ w.2.2.1 = w0.2.2.1
def xCx (p : Program) (R : Room) (s : State) (m : MethodId) (meth : Method) (c : Code) (D : va_G) (z0 : Nat) (w0 : xW) (mi : Nat) : Prop :=
  p.tables.exec = Jvm.exec ∧ c.code = (xmi mi).2.2.1 ∧ c.maxLocals = xml mi ∧ s.vm.findClass (xcs (xmi mi).1) = some m.cls ∧ ((xmi mi).2.1.name = "<init>" → meth.name = "<init>") ∧ xTb D s ∧ xrk mi ≤ R.frames ∧ 38 * xrk mi ≤ R.locals ∧ va_Z "CoreBook" "HOMES" "[I" (.ref w0.2.2.1) (fun q => z0 ≤ q) s s.heap
def xWn (p : Program) (l : Launch) (e : Env) (R : Room) (s : State) (m : MethodId) (args : Array Value) (below : List Frame) (meth : Method) (c : Code) (Q : State → Prop) (D : va_G) (z0 : Nat) (w0 : xW) (n pc : Nat) (lo : xL) (st : List xV) (w : xW) : Prop :=
  lo.length = n → ∀ (ls : Array Slot) (H : Heap) (locs : List Loc) (cells slots : Nat), xLs ls lo → xSt D z0 s w0 H locs cells slots w → W p l e R s m args below meth c H locs cells slots Q (F0 m pc ls (st.map xv))
section XROW
variable {p : Program} {l : Launch} {e : Env} {R : Room} {s : State} {m : MethodId} {args : Array Value} {below : List Frame} {meth : Method} {c : Code} {Q : State → Prop} {D : va_G} {z0 : Nat} {w0 w w2 wE : xW} {mi n pc k a b o : Nat} {lo : xL} {st : List xV}
theorem xfl {mi k a b : Nat} (hT : xTb D s) (h : xin4 xkf (xmi mi).1 k a b = true) : (Cond.fieldLink (xcs (xmi mi).1) k (xTT a b).1 (xTT a b).2.1 (xTT a b).2.2.1).before args s = true := by
  obtain ⟨q, hq⟩ := xin4_s h
  exact xTb_word hT (xgd_at (xkf_ok _ hq) rfl) args
theorem xh_get {fs : List xV} {v : xV} (hC : xCx p R s m meth c D z0 w0 mi) (hd : decode (xmi mi).2.2.1 pc = .ok (.getfield k, 3)) (hin : xin4 xkf (xmi mi).1 k a b = true) (h8 : a < 8) (hk : b < (xdf a).length) (ho : w.2.2.2 o = some (.inr (a, fs))) (hv : fs[b]? = some v)
    (K : xWn p l e R s m args below meth c Q D z0 w0 n (pc + 3) lo (v :: st) w) : xWn p l e R s m args below meth c Q D z0 w0 n pc lo (xA (some o) :: st) w := by
  intro hn ls H locs cells slots hls hSt
  obtain ⟨hx, hb, -, hown, -, hT, -⟩ := hC
  have hP1 : va_P D xcl [(o, .inr (a, fs.map xv))] H := by
    intro i q hq
    match i, hq with
    | 0, hq => cases hq; exact (hSt.1.2.2 o _ ho).1
    | i + 1, hq => simp at hq
  exact va_get (Ts := xgd) hx hb (fun q hq => xTb_word hT hq args) (xlay h8) hown hT.2.1 hP1 0 rfl (xcl_at h8) b hk (xfl hT hin) (fun _ h => h) (v := xv v) (by rw [List.getElem?_map, hv]; rfl) hd (K hn ls H locs cells slots hls hSt)
theorem xfits {ty : FieldType} {v : xV} {cv : xV} (h : xtok ty (some cv) = true) (hk : ∃ f : xV → Nat, f cv = f v ∧ f (xI 0) = 0 ∧ (∀ x, f (xI x) = 0) ∧ (∀ x, f (xJ x) = 1) ∧ (∀ x, f (xF x) = 2) ∧ (∀ x, f (xD x) = 3) ∧ ∀ x, f (xA x) = 4) : narrow ty (xv v) = xv v ∧ fits ty (xv v) = true := by
  obtain ⟨f, h0, -, h1, h2, h3, h4, h5⟩ := hk
  obtain x | x | x | x | x := cv <;> obtain y | y | y | y | y := v <;> simp only [xtok, h1, h2, h3, h4, h5] at h h0 <;> try (exact absurd h0 (by decide))
  · rw [eq_of_beq h]; exact ⟨rfl, rfl⟩
  · rw [eq_of_beq h]; exact ⟨rfl, rfl⟩
  · cases h
  · rw [eq_of_beq h]; exact ⟨rfl, rfl⟩
  · cases ty <;> simp [FieldType.isReference] at h <;> cases y <;> exact ⟨rfl, rfl⟩
theorem xh_put {fs : List xV} {v : xV} (hC : xCx p R s m meth c D z0 w0 mi) (hd : decode (xmi mi).2.2.1 pc = .ok (.putfield k, 3)) (hin : xin4 xkf (xmi mi).1 k a b = true) (h8 : a < 8) (hk : b < (xdf a).length) (ho : w.2.2.2 o = some (.inr (a, fs))) (hl : b < fs.length) (hty : narrow (xYY a b) (xv v) = xv v ∧ fits (xYY a b) (xv v) = true) (hfin : (xTT a b).2.2.2 = false ∨ ((xmi mi).2.1.name = "<init>" ∧ (xTT a b).1 = xcs (xmi mi).1))
    (K : xWn p l e R s m args below meth c Q D z0 w0 n (pc + 3) lo st (xset w o (.inr (a, fs.set b v)))) : xWn p l e R s m args below meth c Q D z0 w0 n pc lo (v :: xA (some o) :: st) w := by
  intro hn ls H locs cells slots hls hSt
  obtain ⟨hx, hb, -, hown, hnm, hT, -⟩ := hC
  have hts : ∀ q ∈ xgd, q.before args s = true := fun q hq => xTb_word hT hq args
  have hin8 := xlay h8
  have hc := xcl_at h8
  have hap := va_apart (own := xcs a) hts hin8 (xYY a) (xtd h8) (xnm h8) hT.2.1 hc
  obtain ⟨r, h1, cell, q1, q2, q3, q4⟩ := (hSt.1.2.2 o _ ho).1
  have hr : r = (xcs a, xTT a, (xdf a).length) := Option.some.inj (h1.symm.trans hc)
  subst hr
  obtain ⟨hS, hfc, kC, hkC, hkind⟩ := hT.2.1.1 a _ hc
  obtain ⟨cf, kf, fi, f, hi, hsl⟩ := hS b hk
  have hst := (u_facts hfc hkC (u_lays hts hin8 hk) hi).1
  have hlay := hts _ (hin8 _ (u_in_lay hk))
  have hd2 := xtd h8 b hk
  have key : ∀ (H' : Heap), H'[o]? = some (cell.setSlot (D.2 a b) (xv v)) → H'.size = H.size → (∀ q : Nat, q ≠ o → H'[q]? = H[q]?) → xSt D z0 s w0 H' (locs ++ [⟨o, D.2 a b⟩]) cells slots (xset w o (.inr (a, fs.set b v))) := by
    intro H' e1 e2 e3
    obtain ⟨hP', hz⟩ := xP_set (e := .inr (a, fs.set b v)) hSt.1 ho (fun h => h.elim) e2 e3 ⟨_, hc, t_OB.to (V := updV (vp_V (fs.map xv)) b (xv v)) ⟨_, e1, q2, q3, t_set q4 hap hk (xv v)⟩ (fun j _ => by rw [vp_updV_set (by rw [List.length_map]; exact hl), List.map_set])⟩
    exact ⟨hP', hSt.2.1.put e2 e3 hz, hSt.2.2⟩
  rcases hfin with hfin | ⟨hin2, hdecl⟩
  · unfold u_lay at hlay
    rw [if_neg (by rw [hfin]; decide)] at hlay
    have h6 := u_store hfc hkC hkind hlay hi hd2 hty.1 hty.2
    refine W.putK hx hb (f := f) ⟨hown, xfl hT hin, ⟨_, _, _, hi⟩, hst⟩ (by rw [q2]; exact h6) q1 q3 (by rw [hsl]; exact k2_hasslot (q4 b hk)) rfl rfl hd fun H' e1 e2 e3 => ?_
    rw [hsl] at e1 ⊢
    exact K hn ls H' _ cells slots hls (key H' e1 e2 e3)
  · by_cases hf : (xTT a b).2.2.2 = true
    · unfold u_lay at hlay
      rw [if_pos hf] at hlay
      have hcf : m.cls = cf := by
        obtain ⟨_, _, c', _, _, _, -, -, hf', -, -, -, hown2, -⟩ := Cond.laysFinal_spec hlay
        have e1 : c' = cf := by have := hi.symm.trans hf'; simp at this; exact this.1.symm
        rw [hdecl] at hown2
        rw [← e1]; exact Option.some.inj (hown.symm.trans hown2)
      have h6 := u_fits hfc hkC hkind (Or.inr hlay) hi hd2 hty.1 hty.2
      refine W.putFinK hx hb hown (xfl hT hin) hi hst hcf (hnm hin2) (by rw [q2]; exact h6) q1 q3 (by rw [hsl]; exact k2_hasslot (q4 b hk)) rfl rfl hd fun H' e1 e2 e3 => ?_
      rw [hsl] at e1 ⊢
      exact K hn ls H' _ cells slots hls (key H' e1 e2 e3)
    · unfold u_lay at hlay
      rw [if_neg hf] at hlay
      have h6 := u_store hfc hkC hkind hlay hi hd2 hty.1 hty.2
      refine W.putK hx hb (f := f) ⟨hown, xfl hT hin, ⟨_, _, _, hi⟩, hst⟩ (by rw [q2]; exact h6) q1 q3 (by rw [hsl]; exact k2_hasslot (q4 b hk)) rfl rfl hd fun H' e1 e2 e3 => ?_
      rw [hsl] at e1 ⊢
      exact K hn ls H' _ cells slots hls (key H' e1 e2 e3)
theorem xh_gets (hC : xCx p R s m meth c D z0 w0 mi) (hd : decode (xmi mi).2.2.1 pc = .ok (.getstatic 240, 3)) (h6 : (xmi mi).1 = 6)
    (K : xWn p l e R s m args below meth c Q D z0 w0 n (pc + 3) lo (xA (some w.2.2.1) :: st) w) : xWn p l e R s m args below meth c Q D z0 w0 n pc lo st w := by
  intro hn ls H locs cells slots hls hSt
  obtain ⟨hx, hb, -, hown, -, hT, -, -, hZ⟩ := hC
  have hl : (Cond.fieldLink (xcs 6) 240 "CoreBook" "HOMES" "[I").before args s = true := xTb_word hT (xgd_at (i := 303) (by decide +kernel) rfl) args
  rw [h6] at hown
  refine va_gets (C := "CoreBook") (n := "HOMES") (d := "[I") (ref := "CoreBook") hx hb hZ hSt.2.1 hown hl (fun _ h => h) hd ?_
  have := K hn ls H locs cells slots hls hSt
  rw [List.map_cons, show xv (xA (some w.2.2.1)) = Value.ref w0.2.2.1 by rw [hSt.2.2.2.2]; rfl] at this
  exact this
theorem xh_new (hC : xCx p R s m meth c D z0 w0 mi) (hd : decode (xmi mi).2.2.1 pc = .ok (.new k, 3)) (hin : xin3 xkl (xmi mi).1 k a = true) (h8 : a < 8) (hle : xle (xpush w (xdf a).length (.inr (a, xdf a))) wE) (hE1 : wE.1 ≤ w0.1 + R.cells) (hE2 : wE.2.1 ≤ w0.2.1 + R.slots)
    (K : xWn p l e R s m args below meth c Q D z0 w0 n (pc + 3) lo (xA (some w.1) :: st) (xpush w (xdf a).length (.inr (a, xdf a)))) : xWn p l e R s m args below meth c Q D z0 w0 n pc lo st w := by
  intro hn ls H locs cells slots hls hSt
  obtain ⟨hx, hb, -, hown, -, hT, -⟩ := hC
  have hts : ∀ q ∈ xgd, q.before args s = true := fun q hq => xTb_word hT hq args
  obtain ⟨q, hq⟩ := xin3_s hin
  have hcl : (Cond.classLink (xcs (xmi mi).1) k (xcs a)).before args s = true := xTb_word hT (xgd_at (xkl_ok _ hq) rfl) args
  have hmt : ∃ i, (i, a) ∈ xkt := by
    match a, h8 with
    | 0, _ => exact ⟨_, List.mem_of_getElem? (i := 0) rfl⟩
    | 1, _ => exact ⟨_, List.mem_of_getElem? (i := 1) rfl⟩
    | 2, _ => exact ⟨_, List.mem_of_getElem? (i := 2) rfl⟩
    | 3, _ => exact ⟨_, List.mem_of_getElem? (i := 3) rfl⟩
    | 4, _ => exact ⟨_, List.mem_of_getElem? (i := 4) rfl⟩
    | 5, _ => exact ⟨_, List.mem_of_getElem? (i := 5) rfl⟩
    | 6, _ => exact ⟨_, List.mem_of_getElem? (i := 6) rfl⟩
    | 7, _ => exact ⟨_, List.mem_of_getElem? (i := 7) rfl⟩
  obtain ⟨i, hi⟩ := hmt
  have hinst : (Cond.instantiable (xcs a) (xdf a).length).before args s = true := xTb_word hT (xgd_at (xkt_ok _ hi) rfl) args
  have hmn : ∃ i, (i, a) ∈ xkn := by
    match a, h8 with
    | 0, _ => exact ⟨_, List.mem_of_getElem? (i := 0) rfl⟩
    | 1, _ => exact ⟨_, List.mem_of_getElem? (i := 1) rfl⟩
    | 2, _ => exact ⟨_, List.mem_of_getElem? (i := 2) rfl⟩
    | 3, _ => exact ⟨_, List.mem_of_getElem? (i := 3) rfl⟩
    | 4, _ => exact ⟨_, List.mem_of_getElem? (i := 4) rfl⟩
    | 5, _ => exact ⟨_, List.mem_of_getElem? (i := 5) rfl⟩
    | 6, _ => exact ⟨_, List.mem_of_getElem? (i := 6) rfl⟩
    | 7, _ => exact ⟨_, List.mem_of_getElem? (i := 7) rfl⟩
  obtain ⟨j, hj⟩ := hmn
  have hini : (Cond.initialized (xcs a)).before args s = true := xTb_word hT (xgd_at (xkn_ok _ hj) rfl) args
  have hc := xcl_at h8
  have hKn := hT.2.1.1 a _ hc
  have hs1 : w.1 + 1 ≤ wE.1 := hle.1
  have hs2 : w.2.1 + (xdf a).length ≤ wE.2.1 := hle.2.1
  have c1 := hSt.2.2.1
  have c2 := hSt.2.2.2.1
  refine W.newcK hx hb hown hcl hinst hini rfl hd (by omega) (by omega) hKn.2.1 rfl fun H1 kC hkC e1 z1 o1 => ?_
  have hP' := xP_push (n := (xdf a).length) (e := .inr (a, xdf a)) hSt.1 z1 o1 ⟨_, hc, (u_born (xYY a) hts (xlay h8) hKn hkC e1 (xtd h8)).to (xdv h8)⟩
  have hS' : va_S (fun q => z0 ≤ q) s.heap H1 locs := ⟨Nat.le_trans hSt.2.1.1 (by omega), fun x h1 h2 => (o1 x (Nat.lt_of_lt_of_le h1 hSt.2.1.1)).trans (hSt.2.1.2.1 x h1 h2), hSt.2.1.2.2⟩
  have := K hn ls H1 locs (cells + 1) (slots + (xdf a).length) hls ⟨hP', hS', by show _ = w.1 + 1; omega, by show _ = w.2.1 + _; omega, hSt.2.2.2.2⟩
  rw [List.map_cons, show xv (xA (some w.1)) = Value.ref H.size by rw [hSt.1.1]; rfl] at this
  exact this
/-- a new array of whole or broken numbers -/
theorem xh_newa {t : ArrayType} {nn : Int32} (hC : xCx p R s m meth c D z0 w0 mi) (hd : decode (xmi mi).2.2.1 pc = .ok (.newarray t, 2)) (ht : newarray.typeOf t = xty a) (ha : (Cond.arrayClass (xty a)) ∈ xgd) (ha4 : a < 4) (hb8 : componentBytes (xty a) ≤ 8) (hw : xnew w a nn = some w2) (hdef : ∀ j : Nat, defaultValue (xty a) = xval (xzero a) j) (hle : xle w2 wE) (hE1 : wE.1 ≤ w0.1 + R.cells) (hE2 : wE.2.1 ≤ w0.2.1 + R.slots)
    (K : xWn p l e R s m args below meth c Q D z0 w0 n (pc + 2) lo (xA (some w.1) :: st) w2) : xWn p l e R s m args below meth c Q D z0 w0 n pc lo (xI nn :: st) w := by
  intro hn ls H locs cells slots hls hSt
  obtain ⟨hx, hb, -, hown, -, hT, -⟩ := hC
  unfold xnew at hw
  split at hw
  · next hnn =>
    cases hw
    have hs1 : w.1 + 1 ≤ wE.1 := hle.1
    have hs2 : w.2.1 + nn.toNatClampNeg ≤ wE.2.1 := hle.2.1
    have c1 := hSt.2.2.1
    have c2 := hSt.2.2.2.1
    have hsm : nn.toNatClampNeg ≤ 65536 := by
      have h1 := hnn.2
      rw [Int32.le_iff_toInt_le] at h1
      have h2 : (65536 : Int32).toInt = 65536 := by decide
      have h3 : nn.toNatClampNeg = nn.toInt.toNat := rfl
      omega
    refine va_newaK hx hb (atype := t) (by rw [ht]; exact xTb_word hT ha args) rfl hd rfl hnn.1 rfl (by rw [ht]; exact Nat.le_trans (Nat.mul_le_mul hsm hb8) (by decide)) (by omega) (by omega) rfl fun H1 cA e1 z1 o1 hAr hNm => ?_
    rw [ht] at e1 hAr
    have hP' := xP_push (n := nn.toNatClampNeg) (e := .inl (a, nn.toNatClampNeg, xzero a)) hSt.1 z1 o1 ⟨_, e1, hAr _ _, fun h => by omega, by simp [arrV], ⟨Nat.le_of_eq (arrV_size _ _ _).symm, by rw [arrV_size] <;> rfl⟩, fun j hj => by rw [arrV_read _ _ hj, hdef j]⟩
    have hS' : va_S (fun q => z0 ≤ q) s.heap H1 locs := ⟨Nat.le_trans hSt.2.1.1 (by omega), fun x h1 h2 => (o1 x (Nat.lt_of_lt_of_le h1 hSt.2.1.1)).trans (hSt.2.1.2.1 x h1 h2), hSt.2.1.2.2⟩
    have := K hn ls H1 locs (cells + 1) (slots + nn.toNatClampNeg) hls ⟨hP', hS', by show _ = w.1 + 1; omega, by show _ = w.2.1 + _; omega, hSt.2.2.2.2⟩
    rw [List.map_cons, show xv (xA (some w.1)) = Value.ref H.size by rw [hSt.1.1]; rfl] at this
    exact this
  · cases hw
theorem xh_newq {nn : Int32} (hC : xCx p R s m meth c D z0 w0 mi) (hd : decode (xmi mi).2.2.1 pc = .ok (.anewarray k, 3)) (hin : xin3 xkq (xmi mi).1 k a = true) (ha : a = 4 ∨ a = 5 ∨ a = 6) (hw : xnew w a nn = some w2) (hle : xle w2 wE) (hE1 : wE.1 ≤ w0.1 + R.cells) (hE2 : wE.2.1 ≤ w0.2.1 + R.slots)
    (K : xWn p l e R s m args below meth c Q D z0 w0 n (pc + 3) lo (xA (some w.1) :: st) w2) : xWn p l e R s m args below meth c Q D z0 w0 n pc lo (xI nn :: st) w := by
  intro hn ls H locs cells slots hls hSt
  obtain ⟨hx, hb, -, hown, -, hT, -⟩ := hC
  obtain ⟨q, hq⟩ := xin3_s hin
  have hcl : (Cond.classLink (xcs (xmi mi).1) k (xqn a)).before args s = true := xTb_word hT (xgd_at (xkq_ok _ hq) rfl) args
  have hao : va_AO (xqn a) s := by
    rcases ha with rfl | rfl | rfl
    · exact hT.2.2.2.2.2.2.1
    · exact hT.2.2.2.2.2.2.2.1
    · exact hT.2.2.2.2.2.2.2.2.1
  have hty : xty a = .object (xqn a) := by rcases ha with rfl | rfl | rfl <;> rfl
  have hze : xzero a = .inr (.inr (.inr (.inr fun _ => none))) := by rcases ha with rfl | rfl | rfl <;> rfl
  unfold xnew at hw
  split at hw
  · next hnn =>
    cases hw
    have hs1 : w.1 + 1 ≤ wE.1 := hle.1
    have hs2 : w.2.1 + nn.toNatClampNeg ≤ wE.2.1 := hle.2.1
    have c1 := hSt.2.2.1
    have c2 := hSt.2.2.2.1
    have hsm : nn.toNatClampNeg ≤ 65536 := by
      have h1 := hnn.2
      rw [Int32.le_iff_toInt_le] at h1
      have h2 : (65536 : Int32).toInt = 65536 := by decide
      have h3 : nn.toNatClampNeg = nn.toInt.toNat := rfl
      omega
    refine W.anew hx hb hown hcl (va_AO.use hao) rfl hd rfl hnn.1 (by omega) (by omega) (by omega) fun cA kA comp f1 f2 f3 f4 => ?_
    generalize hH1 : H.push ({ cls := cA, slots := Array.replicate nn.toNatClampNeg .null, vm := .none } : Cell) = H1
    have z1 : H1.size = H.size + 1 := by rw [← hH1, Array.size_push]
    have e1 : H1[H.size]? = some (arrV cA nn.toNatClampNeg (fun _ => .null)) := by rw [← hH1, Array.getElem?_push_size, ← arrV_new]
    have o1 : ∀ q : Nat, q < H.size → H1[q]? = H[q]? := fun q hq => by rw [← hH1, Array.getElem?_push, if_neg (Nat.ne_of_lt hq)]
    have hAr : ArrOfT s cA (.object (xqn a)) := fun N z => ⟨(fun k h => by cases h), kA, f2, comp, f3⟩
    have hP' := xP_push (n := nn.toNatClampNeg) (e := .inl (a, nn.toNatClampNeg, xzero a)) hSt.1 z1 o1 ⟨_, e1, by rw [hty]; exact hAr _ _, fun _ _ => by rw [hty]; exact ⟨kA, comp, f2, f3, f4, f1⟩, by simp [arrV], ⟨Nat.le_of_eq (arrV_size _ _ _).symm, by rw [arrV_size] <;> rfl⟩, fun j hj => by rw [arrV_read _ _ hj, hze]; rfl⟩
    have hS' : va_S (fun q => z0 ≤ q) s.heap H1 locs := ⟨Nat.le_trans hSt.2.1.1 (by omega), fun x h1 h2 => (o1 x (Nat.lt_of_lt_of_le h1 hSt.2.1.1)).trans (hSt.2.1.2.1 x h1 h2), hSt.2.1.2.2⟩
    have := K hn ls H1 locs (cells + 1) (slots + nn.toNatClampNeg) hls ⟨hP', hS', by show _ = w.1 + 1; omega, by show _ = w.2.1 + _; omega, hSt.2.2.2.2⟩
    rw [List.map_cons, show xv (xA (some w.1)) = Value.ref H.size by rw [hSt.1.1]; rfl] at this
    exact this
  · cases hw
theorem xh_len {q : Nat × vp_A} (hC : xCx p R s m meth c D z0 w0 mi) (hd : decode (xmi mi).2.2.1 pc = .ok (.arraylength, 1)) (ho : w.2.2.2 o = some (.inl q))
    (K : xWn p l e R s m args below meth c Q D z0 w0 n (pc + 1) lo (xI (nI q.2.1) :: st) w) : xWn p l e R s m args below meth c Q D z0 w0 n pc lo (xA (some o) :: st) w := by
  intro hn ls H locs cells slots hls hSt
  obtain ⟨hx, hb, -⟩ := hC
  obtain ⟨cell, h1, h2, h3, h4, h5, h6⟩ := (hSt.1.2.2 o _ ho).1
  exact W.alen (n := nI q.2.1) hx hb h1 h2 h5.2 rfl rfl hd (K hn ls H locs cells slots hls hSt)
end XROW
