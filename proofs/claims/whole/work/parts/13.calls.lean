/-! calls -/
theorem xkc_all {p y : Nat} (h : (p, y) ∈ xkc) : lw_tbl[p]? = some (.code (xmi y).2.1 (xmi y).2.2.1 (xml y) (xmi y).2.2.2) := by
  have e : xkc = xkc_0 ++ (xkc_1 ++ (xkc_2 ++ (xkc_3))) := rfl
  rw [e] at h
  have key : ∀ {L : List (Nat × Nat)}, L.map (fun q => lw_tbl[q.1]?) = L.map (fun q => some (.code (xmi q.2).2.1 (xmi q.2).2.2.1 (xml q.2) (xmi q.2).2.2.2)) → (p, y) ∈ L → lw_tbl[p]? = some (.code (xmi y).2.1 (xmi y).2.2.1 (xml y) (xmi y).2.2.2) := by
    intro L hL hm
    exact List.map_inj_left.mp hL (p, y) hm
  simp only [List.mem_append] at h
  rcases h with h | h | h | h
  · exact key xkc_ok_0 h
  · exact key xkc_ok_1 h
  · exact key xkc_ok_2 h
  · exact key xkc_ok_3 h
def xPc (D : va_G) (z0 : Nat) (w : xW) (U : State) : Prop := xTb D U ∧ va_Z "CoreBook" "HOMES" "[I" (.ref w.2.2.1) (fun q => z0 ≤ q) U U.heap ∧ xP D z0 U w U.heap
def xQc (D : va_G) (z0 : Nat) (r : Option xV) (w' : xW) : Array Value → State → Outcome → State → Prop := fun _ st oc t => (oc = .returned (r.map xv) ∧ xP D z0 t w' t.heap) ∧ va_F (fun q => z0 ≤ q) st t
def xwd (y : Nat) : List Cond := [.code (xmi y).2.1 (xmi y).2.2.1 (xml y) (xmi y).2.2.2]
def xrm (y : Nat) (w w' : xW) : Room := { frames := xrk y, cells := w'.1 - w.1, slots := w'.2.1 - w.2.1, locals := 38 * xrk y }
def xMt (l : Launch) (D : va_G) (z0 y : Nat) (as : List xV) (w : xW) (r : Option xV) (w' : xW) : Prop :=
  xle w w' ∧ Met l (xmi y).2.1 (xwd y) (xrm y w w') (va_Pc (as.map xv) (xPc D z0 w)) (xQc D z0 r w') (w'.1 - w.1) (w'.2.1 - w.2.1) (fun q => z0 ≤ q)
section XCALL
variable {p : Program} {l : Launch} {e : Env} {R : Room} {s : State} {m : MethodId} {args : Array Value} {below : List Frame} {meth : Method} {c : Code} {Q : State → Prop} {D : va_G} {z0 : Nat} {w0 w w2 wE : xW} {mi n pc k a b o y : Nat} {lo : xL} {st : List xV} {H : Heap} {locs : List Loc} {cells slots mc ms : Nat} {ls : Array Slot} {rest st0 : List Value} {r : Option xV}
theorem xblind {av : List Value} : FrameBlind (va_Pc av (xPc D z0 w)) := fun a U g mk h => ⟨h.1, xTb_moved (s := U) (U := U.calling g mk a) (State.WarmedH.refl U) h.2.1, va_Z.moved (u := U) (U := U.calling g mk a) (Vm.Alike.refl U.vm) h.2.2.1, xP_moved (s := U) (U := U.calling g mk a) (Vm.Alike.refl U.vm) h.2.2.2⟩
theorem xpre {av : List Value} (hC : xCx p R s m meth c D z0 w0 mi) (hSt : xSt D z0 s w0 H locs cells slots w) (U : State) (hU : U.heap = H) (hW : s.WarmedH U.vm) : va_Pc av (xPc D z0 w) av.toArray U := by
  obtain ⟨-, -, -, -, -, hT, -, -, hZ⟩ := hC
  refine ⟨rfl, xTb_moved hW hT, ?_, by rw [hU]; exact xP_moved hW.alike hSt.1⟩
  rw [hU, hSt.2.2.2.2]
  exact va_Z.moved hW.alike (va_Z.kept hZ (fun q h1 h2 => hSt.2.1.2.1 q h1 h2))
theorem xcs_mh (q : Nat) : xcs q ≠ "java/lang/invoke/MethodHandle" ∧ xcs q ≠ "java/lang/invoke/VarHandle" := by
  unfold xcs
  split <;> exact ⟨by decide, by decide⟩
theorem xarg_len {sig : MethodDescriptor} (h : parseMethodDescriptor (xmi y).2.1.desc = some sig) : xnar y = sig.parameters.length := by
  unfold xnar
  rw [h]
  rfl
theorem xcok_s (h : xcok mi y = true) : (∃ q, (q, y) ∈ xkc) ∧ xrk y < xrk mi ∧ xml y ≤ 19 ∧ (∃ q, (q, (xmi y).1) ∈ xkn) ∧ (xmi y).2.1.cls = xcs (xmi y).1 := by
  unfold xcok at h
  simp only [Bool.and_eq_true, beq_iff_eq, Nat.blt_eq, Nat.ble_eq] at h
  obtain ⟨⟨⟨⟨h1, h2⟩, h3⟩, h4⟩, h5⟩ := h
  exact ⟨xin1_s h1, h2, h3, xin1_s h4, h5⟩
/-- what every call asks of the tables and of the room -/
theorem xcb (hC : xCx p R s m meth c D z0 w0 mi) (h : xcok mi y = true) : (xrm y w w2).frames + 1 ≤ R.frames ∧ 8 + (xml y + 11) + (xrm y w w2).locals ≤ R.locals ∧ (∀ q ∈ xwd y, ∀ (a' : Array Value) (U : State), s.WarmedH U.vm → q.before a' U = true) ∧ Cond.code (xmi y).2.1 (xmi y).2.2.1 (xml y) (xmi y).2.2.2 ∈ xwd y ∧ (Cond.code (xmi y).2.1 (xmi y).2.2.1 (xml y) (xmi y).2.2.2).before args s = true ∧ (Cond.initialized (xmi y).2.1.cls).before args s = true ∧ ((xmi y).2.1.cls ≠ "java/lang/invoke/MethodHandle" ∧ (xmi y).2.1.cls ≠ "java/lang/invoke/VarHandle") := by
  obtain ⟨-, -, -, -, -, hT, hf, hl, -⟩ := hC
  obtain ⟨⟨q, hq⟩, h2, h3, ⟨i, hi⟩, h5⟩ := xcok_s h
  have hcw : Cond.code (xmi y).2.1 (xmi y).2.2.1 (xml y) (xmi y).2.2.2 ∈ xgd := xgd_at (xkc_all hq) rfl
  refine ⟨?_, ?_, ?_, List.mem_singleton.mpr rfl, xTb_word hT hcw args, ?_, ?_⟩
  · show xrk y + 1 ≤ _
    omega
  · show 8 + (xml y + 11) + 38 * xrk y ≤ _
    omega
  · intro z hz a' U hW
    rw [List.mem_singleton.mp hz]
    exact word_at hW (good_of_word (List.mem_filter.mp hcw).2) (hT.1 _ hcw)
  · rw [h5]
    exact xTb_word hT (xgd_at (xkn_ok _ hi) rfl) args
  · rw [h5]
    exact xcs_mh _
theorem xfin (hr : va_Run p l e R s m args below meth c H locs cells slots mc ms (F0 m pc ls st0) rest (fun st oc t => (oc = .returned (r.map xv) ∧ xP D z0 t w2 t.heap) ∧ va_F (fun q => z0 ≤ q) st t) (fun q => z0 ≤ q)) (hS : va_S (fun q => z0 ≤ q) s.heap H locs)
    (kk : ∀ (H1 : Heap) (locs1 : List Loc), xP D z0 s w2 H1 → va_S (fun q => z0 ≤ q) s.heap H1 locs1 → W p l e R s m args below meth c H1 locs1 (cells + mc) (slots + ms) Q (F0 m (pc + 3) ls ((r.map xv).toList ++ rest))) : W p l e R s m args below meth c H locs cells slots Q (F0 m pc ls st0) := by
  intro T hT X
  obtain ⟨v, st₀, t, T', L, h0, X', hL, e1, e2, ⟨⟨hv, hp⟩, hz, hk⟩, hst⟩ := hr T hT X
  cases hv
  rw [h0] at hz hk
  obtain ⟨t2, a1, b1⟩ := kk T'.heap (locs ++ L) (by rw [e1]; exact xP_moved (by rw [← e2]; exact X'.warmed.alike.symm) hp)
    ⟨Nat.le_trans hS.1 (by rw [e1]; exact hz), fun q h1 h2 => by rw [e1, hk q (Nat.lt_of_lt_of_le h1 hS.1) h2]; exact hS.2.1 q h1 h2, fun q hq => by
      rcases List.mem_append.mp hq with h | h
      · exact hS.2.2 q h
      · exact hL q h⟩ T' rfl X'
  exact ⟨t2, hst t2 a1, b1⟩
theorem xfin5 (hr : va_Run5 p l e R s m args below meth c H locs cells slots mc ms (F0 m pc ls st0) rest (fun st oc t => (oc = .returned (r.map xv) ∧ xP D z0 t w2 t.heap) ∧ va_F (fun q => z0 ≤ q) st t) (fun q => z0 ≤ q)) (hS : va_S (fun q => z0 ≤ q) s.heap H locs)
    (kk : ∀ (H1 : Heap) (locs1 : List Loc), xP D z0 s w2 H1 → va_S (fun q => z0 ≤ q) s.heap H1 locs1 → W p l e R s m args below meth c H1 locs1 (cells + mc) (slots + ms) Q (F0 m (pc + 5) ls ((r.map xv).toList ++ rest))) : W p l e R s m args below meth c H locs cells slots Q (F0 m pc ls st0) := by
  intro T hT X
  obtain ⟨v, st₀, t, T', L, h0, X', hL, e1, e2, ⟨⟨hv, hp⟩, hz, hk⟩, hst⟩ := hr T hT X
  cases hv
  rw [h0] at hz hk
  obtain ⟨t2, a1, b1⟩ := kk T'.heap (locs ++ L) (by rw [e1]; exact xP_moved (by rw [← e2]; exact X'.warmed.alike.symm) hp)
    ⟨Nat.le_trans hS.1 (by rw [e1]; exact hz), fun q h1 h2 => by rw [e1, hk q (Nat.lt_of_lt_of_le h1 hS.1) h2]; exact hS.2.1 q h1 h2, fun q hq => by
      rcases List.mem_append.mp hq with h | h
      · exact hS.2.2 q h
      · exact hL q h⟩ T' rfl X'
  exact ⟨t2, hst t2 a1, b1⟩
theorem xmapr (r : Option xV) (st : List xV) : (r.toList ++ st).map xv = (r.map xv).toList ++ st.map xv := by
  cases r <;> rfl
theorem xkkn {pc3 : Nat} (hn : lo.length = n) (hls : xLs ls lo) (hSt : xSt D z0 s w0 H locs cells slots w) (hle : xle w w2) (K : xWn p l e R s m args below meth c Q D z0 w0 n pc3 lo (r.toList ++ st) w2) : ∀ (H1 : Heap) (locs1 : List Loc), xP D z0 s w2 H1 → va_S (fun q => z0 ≤ q) s.heap H1 locs1 → W p l e R s m args below meth c H1 locs1 (cells + (w2.1 - w.1)) (slots + (w2.2.1 - w.2.1)) Q (F0 m pc3 ls ((r.map xv).toList ++ st.map xv)) := by
  intro H1 locs1 hP hS
  have h1 := hle.1
  have h2 := hle.2.1
  have c1 := hSt.2.2.1
  have c2 := hSt.2.2.2.1
  rw [← xmapr]
  exact K hn ls H1 locs1 _ _ hls ⟨hP, hS, by omega, by omega, hle.2.2.trans hSt.2.2.2.2⟩
theorem xroomf (hSt : xSt D z0 s w0 H locs cells slots w) (hle : xle w w2) (hle2 : xle w2 wE) (hE1 : wE.1 ≤ w0.1 + R.cells) (hE2 : wE.2.1 ≤ w0.2.1 + R.slots) : cells + (w2.1 - w.1) ≤ R.cells ∧ slots + (w2.2.1 - w.2.1) ≤ R.slots := by
  have h1 := hle.1
  have h2 := hle.2.1
  have h3 := hle2.1
  have h4 := hle2.2.1
  have c1 := hSt.2.2.1
  have c2 := hSt.2.2.2.1
  exact ⟨by omega, by omega⟩
theorem xroomw {as st : List xV} (h : xwt st ≤ 8) : 2 * (F0 m pc ls rest).monitorRoom + ((st.map xv).map fun v => v.category).sum ≤ 8 := by
  rw [xwt_eq]
  show 2 * 0 + _ ≤ 8
  omega
/-- a static call -/
theorem xh_calls {as : List xV} (hC : xCx p R s m meth c D z0 w0 mi) (hd : decode (xmi mi).2.2.1 pc = .ok (.invokestatic k, 3)) (hcok : xcok mi y = true) (hst : xin1 xks y = true) (hlen : as.length = xnar y) (hlk : xin3 xkm (xmi mi).1 k y = true ∨ ((xmi mi).1 = 3 ∧ k = 49 ∧ y = 72) ∨ ((xmi mi).1 = 3 ∧ k = 53 ∧ y = 71)) (hwt : xwt st ≤ 8) (hM : xMt l D z0 y as w r w2) (hle2 : xle w2 wE) (hE1 : wE.1 ≤ w0.1 + R.cells) (hE2 : wE.2.1 ≤ w0.2.1 + R.slots)
    (K : xWn p l e R s m args below meth c Q D z0 w0 n (pc + 3) lo (r.toList ++ st) w2) (hnn : n = xml mi) : xWn p l e R s m args below meth c Q D z0 w0 n pc lo (as.reverse ++ st) w := by
  intro hn ls H locs cells slots hls hSt
  obtain ⟨c1, c2, c3, c4, c5, c6, c7⟩ := xcb (args := args) (w := w) (w2 := w2) hC hcok
  have hC' := hC
  obtain ⟨hx, hb, hml, hown, -, hT, -⟩ := hC'
  have hsz : ls.size = xml mi := by rw [hls.1, hn, hnn]
  have hstk : (as.reverse ++ st).map xv = (as.map xv).reverse ++ st.map xv := by rw [List.map_append, List.map_reverse]
  obtain ⟨i, hi⟩ := xin1_s hst
  have hs : (Cond.static (xmi y).2.1).before args s = true := xTb_word hT (xgd_at (xks_ok _ hi) rfl) args
  refine xfin (r := r) (w2 := w2) (mc := w2.1 - w.1) (ms := w2.2.1 - w.2.1) (rest := st.map xv) ?_ hSt.2.1 (xkkn hn hls hSt hM.1 K)
  rcases hlk with hlk | hlk
  · obtain ⟨j, hj⟩ := xin3_s hlk
    exact va_runS (Ts := xgd) (As := as.map xv) ⟨hx, hb, hml, hown, fun q hq => xTb_word hT hq args⟩ hM.2 ⟨⟨rfl, rfl, c1, c2, c3, c4, c5, c6, c7, fun sig h => xarg_len h, xTb_word hT (xgd_at (xkm_ok _ hj) rfl) args⟩, hs⟩ ⟨xblind, xpre hC hSt⟩ rfl (by rw [List.length_map]; exact hlen) hsz hstk (xroomw (as := as) hwt) hd (xroomf hSt hM.1 hle2 hE1 hE2)
  · have hnl : ∃ host, va_Nw (.methodLinkNest (xcs (xmi mi).1) k (xmi y).2.1 host) s := by
      rcases hlk with ⟨h3, rfl, rfl⟩ | ⟨h3, rfl, rfl⟩
      · rw [h3]; exact ⟨_, hT.2.2.1⟩
      · rw [h3]; exact ⟨_, hT.2.2.2.1⟩
    obtain ⟨host, hnl⟩ := hnl
    exact va_runSN (Ts := xgd) (As := as.map xv) (host := host) ⟨hx, hb, hml, hown, fun q hq => xTb_word hT hq args⟩ hM.2 ⟨⟨⟨rfl, rfl, c1, c2, c3, c4⟩, c5, c6, c7, fun sig h => xarg_len h, va_Nw.use rfl hnl⟩, hs, trivial⟩ ⟨xblind, xpre hC hSt⟩ rfl (by rw [List.length_map]; exact hlen) hsz hstk (xroomw (as := as) hwt) hd (xroomf hSt hM.1 hle2 hE1 hE2)
theorem xstk (as st : List xV) (o : Nat) : ((xA (some o) :: as).reverse ++ st).map xv = (as.map xv).reverse ++ Value.ref o :: st.map xv := by
  rw [List.reverse_cons, List.append_assoc, List.map_append, List.map_reverse]
  rfl
/-- a call on an object -/
theorem xh_callv {as fs : List xV} (hC : xCx p R s m meth c D z0 w0 mi) (hd : decode (xmi mi).2.2.1 pc = .ok (.invokevirtual k, 3)) (hcok : xcok mi y = true) (hin : xin1 xki y = true) (hse : xin1 xkv y = true) (hlen : as.length = xnar y) (hlk : xin3 xkm (xmi mi).1 k y = true) (h8 : (xmi y).1 < 8) (ho : w.2.2.2 o = some (.inr ((xmi y).1, fs))) (hwt : xwt st ≤ 8) (hM : xMt l D z0 y (xA (some o) :: as) w r w2) (hle2 : xle w2 wE) (hE1 : wE.1 ≤ w0.1 + R.cells) (hE2 : wE.2.1 ≤ w0.2.1 + R.slots)
    (K : xWn p l e R s m args below meth c Q D z0 w0 n (pc + 3) lo (r.toList ++ st) w2) (hnn : n = xml mi) : xWn p l e R s m args below meth c Q D z0 w0 n pc lo ((xA (some o) :: as).reverse ++ st) w := by
  intro hn ls H locs cells slots hls hSt
  obtain ⟨c1, c2, c3, c4, c5, c6, c7⟩ := xcb (args := args) (w := w) (w2 := w2) hC hcok
  have hC' := hC
  obtain ⟨hx, hb, hml, hown, -, hT, -⟩ := hC'
  have hsz : ls.size = xml mi := by rw [hls.1, hn, hnn]
  obtain ⟨i, hi⟩ := xin1_s hin
  obtain ⟨i2, hi2⟩ := xin1_s hse
  obtain ⟨j, hj⟩ := xin3_s hlk
  refine xfin (r := r) (w2 := w2) (mc := w2.1 - w.1) (ms := w2.2.1 - w.2.1) (rest := st.map xv) ?_ hSt.2.1 (xkkn hn hls hSt hM.1 K)
  exact va_runV (Ts := xgd) (C := xcs (xmi y).1) (As := as.map xv) (b := o) ⟨hx, hb, hml, hown, fun q hq => xTb_word hT hq args⟩ hM.2 ⟨⟨rfl, rfl, c1, c2, c3, c4, c5, c6, c7, fun sig h => xarg_len h, xTb_word hT (xgd_at (xkm_ok _ hj) rfl) args⟩, xTb_word hT (xgd_at (xki_ok _ hi) rfl) args, xTb_word hT (xgd_at (xkv_ok _ hi2) rfl) args⟩ ⟨xblind, xrecv hT hSt.1 ho h8, xpre hC hSt⟩ rfl (by rw [List.length_map]; exact hlen) hsz (xstk as st o) (xroomw (as := as) hwt) hd (xroomf hSt hM.1 hle2 hE1 hE2)
/-- a constructor -/
theorem xh_calli {as : List xV} (hC : xCx p R s m meth c D z0 w0 mi) (hd : decode (xmi mi).2.2.1 pc = .ok (.invokespecial k, 3)) (hcok : xcok mi y = true) (hin : xin1 xki y = true) (hlen : as.length = xnar y) (hlk : xin3 xkm (xmi mi).1 k y = true) (hnm : (xmi y).2.1.name = "<init>") (hre : (xmi y).2.2.2 = none) (hwt : xwt st ≤ 8) (hM : xMt l D z0 y (xA (some o) :: as) w r w2) (hle2 : xle w2 wE) (hE1 : wE.1 ≤ w0.1 + R.cells) (hE2 : wE.2.1 ≤ w0.2.1 + R.slots)
    (K : xWn p l e R s m args below meth c Q D z0 w0 n (pc + 3) lo (r.toList ++ st) w2) (hnn : n = xml mi) : xWn p l e R s m args below meth c Q D z0 w0 n pc lo ((xA (some o) :: as).reverse ++ st) w := by
  intro hn ls H locs cells slots hls hSt
  obtain ⟨c1, c2, c3, c4, c5, c6, c7⟩ := xcb (args := args) (w := w) (w2 := w2) hC hcok
  have hC' := hC
  obtain ⟨hx, hb, hml, hown, -, hT, -⟩ := hC'
  have hsz : ls.size = xml mi := by rw [hls.1, hn, hnn]
  obtain ⟨i, hi⟩ := xin1_s hin
  obtain ⟨j, hj⟩ := xin3_s hlk
  refine xfin (r := r) (w2 := w2) (mc := w2.1 - w.1) (ms := w2.2.1 - w.2.1) (rest := st.map xv) ?_ hSt.2.1 (xkkn hn hls hSt hM.1 K)
  rw [hre] at c4 c5
  exact va_runI (Ts := xgd) (As := as.map xv) (b := o) ⟨hx, hb, hml, hown, fun q hq => xTb_word hT hq args⟩ hM.2 ⟨⟨rfl, rfl, c1, c2, c3, c4, c5, c6, c7, fun sig h => xarg_len h, xTb_word hT (xgd_at (xkm_ok _ hj) rfl) args⟩, hnm, xTb_word hT (xgd_at (xki_ok _ hi) rfl) args⟩ ⟨xblind, xpre hC hSt⟩ rfl (by rw [List.length_map]; exact hlen) hsz (xstk as st o) (xroomw (as := as) hwt) hd (xroomf hSt hM.1 hle2 hE1 hE2)
/-- a call through the interface -/
theorem xh_callf {fs : List xV} {cnt cn : Nat} (hC : xCx p R s m meth c D z0 w0 mi) (hd : decode (xmi mi).2.2.1 pc = .ok (.invokeinterface 233 cnt, 5)) (h6 : (xmi mi).1 = 6) (hcok : xcok mi y = true) (hin : xin1 xki y = true) (hcy : (cn = 3 ∧ y = 18) ∨ (cn = 5 ∧ y = 34)) (ho : w.2.2.2 o = some (.inr (cn, fs))) (hwt : xwt st ≤ 8) (hM : xMt l D z0 y [xA (some o)] w r w2) (hle2 : xle w2 wE) (hE1 : wE.1 ≤ w0.1 + R.cells) (hE2 : wE.2.1 ≤ w0.2.1 + R.slots)
    (K : xWn p l e R s m args below meth c Q D z0 w0 n (pc + 5) lo (r.toList ++ st) w2) (hnn : n = xml mi) : xWn p l e R s m args below meth c Q D z0 w0 n pc lo (xA (some o) :: st) w := by
  intro hn ls H locs cells slots hls hSt
  obtain ⟨c1, c2, c3, c4, c5, c6, c7⟩ := xcb (args := args) (w := w) (w2 := w2) hC hcok
  have hC' := hC
  obtain ⟨hx, hb, hml, hown, -, hT, -⟩ := hC'
  have hsz : ls.size = xml mi := by rw [hls.1, hn, hnn]
  obtain ⟨i, hi⟩ := xin1_s hin
  rw [h6] at hown
  have hF : va_Fw (xcs cn) xhc (xmi y).2.1 s ∧ (Cond.selects (xcs cn) xhc (xmi y).2.1).before args s = true ∧ cn < 8 := by
    rcases hcy with ⟨rfl, rfl⟩ | ⟨rfl, rfl⟩
    · exact ⟨hT.2.2.2.2.1, xTb_word hT (xgd_at (i := 255) (by decide +kernel) rfl) args, by decide⟩
    · exact ⟨hT.2.2.2.2.2.1, xTb_word hT (xgd_at (i := 261) (by decide +kernel) rfl) args, by decide⟩
  have hlk : (Cond.methodLink (xcs 6) 233 xhc).before args s = true := xTb_word hT (xgd_at (i := 251) (by decide +kernel) rfl) args
  refine xfin5 (r := r) (w2 := w2) (mc := w2.1 - w.1) (ms := w2.2.1 - w.2.1) (rest := st.map xv) ?_ hSt.2.1 (xkkn hn hls hSt hM.1 K)
  exact va_runF (Ts := xgd) (C := xcs cn) (x := xhc) (As := []) (n := 0) (b := o) (hT.2.1.1 cn _ (xcl_at hF.2.2)).2 ⟨hx, hb, hml, hown, fun q hq => xTb_word hT hq args⟩ hM.2 ⟨⟨rfl, rfl, c1, c2, c3, c4⟩, hlk, va_any rfl hF.1.1, va_any rfl hF.1.2.1, hF.2.1, xTb_word hT (xgd_at (xki_ok _ hi) rfl) args, va_any rfl hF.1.2.2.1, va_any rfl hF.1.2.2.2.1, va_any rfl hF.1.2.2.2.2, c6, c5, by decide +kernel, fun sig h => by
    have e : parseMethodDescriptor xhc.desc = some sig := h
    have e2 : (parseMethodDescriptor xhc.desc).map (fun d => d.parameters.length) = some 0 := by decide +kernel
    rw [e] at e2
    exact (Option.some.inj e2).symm⟩ ⟨xblind, xrecv hT hSt.1 ho hF.2.2, xpre hC hSt⟩ rfl rfl hsz rfl (xroomw (as := st) hwt) hd (xroomf hSt hM.1 hle2 hE1 hE2)
/-- the constructor of Object -/
theorem xh_obj (hC : xCx p R s m meth c D z0 w0 mi) (hd : decode (xmi mi).2.2.1 pc = .ok (.invokespecial k, 3)) (hlk : xin2 xko (xmi mi).1 k = true) (hrk : 0 < xrk mi) (hwt : xwt st ≤ 8) (hnn : n = xml mi)
    (K : xWn p l e R s m args below meth c Q D z0 w0 n (pc + 3) lo st w) : xWn p l e R s m args below meth c Q D z0 w0 n pc lo (xA (some o) :: st) w := by
  intro hn ls H locs cells slots hls hSt
  obtain ⟨hx, hb, hml, hown, -, hT, hf, hl, -⟩ := hC
  obtain ⟨j, hj⟩ := xin2_s hlk
  refine W.objInit (a := o) (rest := st.map xv) hx hb hown (xTb_word hT (xgd_at (xko_ok _ hj) rfl) args) (xTb_word hT (xgd_at (i := 52) (by decide +kernel) rfl) args) (xTb_word hT (xgd_at (i := 53) (by decide +kernel) rfl) args) rfl (by rw [hml, ← hnn, ← hn]; exact hls.1) rfl hd (by omega) ?_ (K hn ls H locs cells slots hls hSt)
  rw [xwt_eq]
  show 2 * 0 + _ + 12 ≤ _
  omega
end XCALL
