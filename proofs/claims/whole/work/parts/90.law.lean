/-! THE CLAIM OUT OF ONE WALK OF THE LAW'S BODY. Your part is whole_start (and what it stands on); all else here is the same for every law, but numbers. -/
def R_law : String := "CoreBookLaw"
def lw_P (b : Addr) (xs : List Int32) (args : Array Value) (s : State) : Prop := args = #[.ref b] ∧ s.IntsAt b xs ∧ xs.length ≤ 3072 ∧ (Jvm.Cond.and given_1 narrow_1).before args s = true
/-- what a walk over the start with the record d0 says of its end, said of the start itself -/
theorem lw_closed {s t : State} {o : Outcome} {d0 : Drawn} {L : List Loc} {k n : Nat} (hd0 : s.drawn.sameBut d0 lw_cs) (hv : ∃ v, o = .returned v) (hW : (s.setDrawn d0).WarmedH t.vm) (hs : (s.setDrawn d0).sameButNew ({ t with vm := s.vm } : State) L k n) : State.butDraws s t lw_cs (fun t1 => Framed s o t1 L k n) := by
  have h2 : t.drawn = d0 := congrArg State.drawn hs.1
  refine ⟨⟨hv, hW, State.sameButNew.setDrawn hs s.drawn⟩, ?_, by decide⟩
  rw [h2]
  exact hd0
def lw_Q (_ : Array Value) (s : State) (o : Outcome) (t : State) : Prop := o = .returned (some (.int 1)) ∧ State.butDraws s t lw_cs (fun t1 => Framed s o t1 [] room_1.cells room_1.slots)
def lw_Z (below : List Frame) (a : Array Value) (s : State) : State → Prop := fun t => ∃ o, t.status = .running ∧ Ended t below o ∧ lw_Q a s o t
/-- the law's own end, with 1 on the stack, nothing written that was there before, its room as the claim has it; d0: the record of draws at this point (at the entry s.drawn: begin with 'refine W.base ?_' and 'have hd0 := Drawn.sameBut.refl s.drawn lw_cs') -/
theorem lw_ret {p : Program} {l : Launch} {e : Env} {s : State} {m : MethodId} {below : List Frame} {meth : Method} {c : Code} {b : Nat} {d0 : Drawn} (hd0 : s.drawn.sameBut d0 lw_cs) (hx : p.tables.exec = Jvm.exec) (hb : c.code = code) (hr : meth.sig.returnType = ret) (hlocks : meth.locks = false) {pc : Nat} {H : Heap} {ls : Array Slot} (hdg : decode code pc = .ok (.ireturn, 1)) : W p l e room_1 (s.setDrawn d0) m #[Value.ref b] below meth c H [] room_1.cells room_1.slots (lw_Z below #[Value.ref b] s) (F0 m pc ls [.int 1]) := by
  intro T hT X
  obtain ⟨fs, hret, hrun, hended, hW, hframe⟩ := X.leave (v := some (.int 1)) (hlocks := hlocks) (fun h => by rw [hr] at h; cases h)
  have hmeth' : T.vm.method? m = some meth := X.method'
  refine ⟨T.setFrames fs, ?_, .returned (some (.int 1)), hrun, hended, rfl, lw_closed hd0 ⟨_, rfl⟩ hW hframe⟩
  jvm_step X.here [X.here.top, hx, hb, hdg, hmeth', hr, ret, narrow_b1]
  (try refine ⟨rfl, ?_⟩); (try refine ⟨rfl, ?_⟩)
  first | (intro acts; rw [hret _ acts rfl rfl rfl]) | rw [hret _ _ rfl rfl rfl]
  exact Steps.refl _
/-- what holds at the law's entry: the machine, the code, the tables' words (any of lw_tbl by 'hts w (by decide +kernel)'), the script of L ints xs at the cell b, what the Statement gives of the start (any of its parts by flat_of_before) -/
def lw_At (p : Program) (s : State) (m : MethodId) (meth : Method) (c : Code) (b L : Nat) (xs : Nat → Int32) : Prop :=
  p.tables.exec = Jvm.exec ∧ c.code = code ∧ meth.sig.returnType = ret ∧ c.maxLocals = 4 ∧ s.vm.findClass R_law = some m.cls ∧ (∀ w ∈ lw_tbl, w.before #[Value.ref b] s = true) ∧ va_X b L xs s s.heap ∧ b < s.heap.size ∧ meth.locks = false ∧ (Jvm.Cond.and given_1 narrow_1).before #[Value.ref b] s = true
-- ===== YOUR PART BEGINS =====
theorem xinst {k : Nat} (h8 : k < 8) : Cond.instantiable (xcs k) (xdf k).length ∈ xgd := by
  have hmt : ∃ i, (i, k) ∈ xkt := by
    match k, h8 with
    | 0, _ => exact ⟨_, List.mem_of_getElem? (i := 0) rfl⟩
    | 1, _ => exact ⟨_, List.mem_of_getElem? (i := 1) rfl⟩
    | 2, _ => exact ⟨_, List.mem_of_getElem? (i := 2) rfl⟩
    | 3, _ => exact ⟨_, List.mem_of_getElem? (i := 3) rfl⟩
    | 4, _ => exact ⟨_, List.mem_of_getElem? (i := 4) rfl⟩
    | 5, _ => exact ⟨_, List.mem_of_getElem? (i := 5) rfl⟩
    | 6, _ => exact ⟨_, List.mem_of_getElem? (i := 6) rfl⟩
    | 7, _ => exact ⟨_, List.mem_of_getElem? (i := 7) rfl⟩
  obtain ⟨i, hi⟩ := hmt
  exact xgd_at (xkt_ok _ hi) rfl
set_option maxHeartbeats 4000000 in
set_option maxRecDepth 100000 in
theorem whole_start {p : Program} {e : Env} {s : State} {m : MethodId} {below : List Frame} {meth : Method} {c : Code} (l : Launch) (hflags : l.flags = flags0) {b L : Nat} {xs : Nat → Int32} (hL : L ≤ 3072) (C0 : lw_At p s m meth c b L xs) : W p l e room_1 s m #[Value.ref b] below meth c s.heap [] 0 0 (lw_Z below #[Value.ref b] s) (entryFrame m ([Value.ref b] : List Value).toArray 4) := by
  obtain ⟨hx, hb, hr, hml, hown, hts, hX, hbl, hlocks, hgv⟩ := id C0
  have hs := flat_of_before _ hgv
  have hA : ∀ a : Nat, a < s.heap.size → ¬ (fun q : Nat => s.heap.size ≤ q) a := fun a h1 h2 => absurd h1 (Nat.not_lt.mpr h2)
  have hgd : ∀ q ∈ xgd, q.before #[] s = true := fun q hq => word_at (State.WarmedH.refl s) (good_of_word (List.mem_filter.mp hq).2) (hts q (List.mem_filter.mp hq).1)
  have hkn : ∀ k, ∃ q : ClassId × (Nat → Nat), k < 8 → u_Kn s (xcs k) (xTT k) (xdf k).length q.1 q.2 := by
    intro k
    by_cases hk : k < 8
    · obtain ⟨cC, iS, h⟩ := u_known (n := (xdf k).length) hgd (xlay hk) (hgd _ (xinst hk))
      exact ⟨(cC, iS), fun _ => h⟩
    · exact ⟨(0, fun _ => 0), fun h => absurd h hk⟩
  obtain ⟨D, hD⟩ : ∃ D : va_G, ∀ k, k < 8 → u_Kn s (xcs k) (xTT k) (xdf k).length (D.1 k) (D.2 k) := ⟨(fun k => (hkn k).choose.1, fun k => (hkn k).choose.2), fun k hk => (hkn k).choose_spec hk⟩
  have hK : va_K D xcl [] s := by
    refine ⟨fun k q hq => ?_, fun k q h => by simp at h⟩
    have h8 : k < 8 := (List.getElem?_eq_some_iff.mp hq).1
    rw [xcl_at h8] at hq
    cases hq
    exact hD k h8
  have hT : xTb D s := ⟨hgd, hK, va_Nw.of rfl (hts _ (List.mem_of_getElem? (i := 397) (by decide +kernel))), va_Nw.of rfl (hts _ (List.mem_of_getElem? (i := 414) (by decide +kernel))), va_Fw.of (hts _ (List.mem_of_getElem? (i := 253) (by decide +kernel))) (hts _ (List.mem_of_getElem? (i := 252) (by decide +kernel))) (hts _ (List.mem_of_getElem? (i := 258) (by decide +kernel))) (hts _ (List.mem_of_getElem? (i := 256) (by decide +kernel))) (hts _ (List.mem_of_getElem? (i := 254) (by decide +kernel))), va_Fw.of (hts _ (List.mem_of_getElem? (i := 253) (by decide +kernel))) (hts _ (List.mem_of_getElem? (i := 252) (by decide +kernel))) (hts _ (List.mem_of_getElem? (i := 264) (by decide +kernel))) (hts _ (List.mem_of_getElem? (i := 262) (by decide +kernel))) (hts _ (List.mem_of_getElem? (i := 260) (by decide +kernel))), va_AO.of (hts _ (List.mem_of_getElem? (i := 61) (by decide +kernel))), va_AO.of (hts _ (List.mem_of_getElem? (i := 114) (by decide +kernel))), va_AO.of (hts _ (List.mem_of_getElem? (i := 87) (by decide +kernel))), va_Nc.of (hs (.not (.castable (xcs 5) (xcs 3))) (by decide +kernel))⟩
  have hel : ∀ j : Nat, j < 12 → (Term.elem (.static "CoreBook" "HOMES" "[I") (.int (Int32.ofNat j))).eval #[Value.ref b] s none [] s = some (.int (xhom j)) := by
    intro j hj
    match j, hj with
    | 0, _ => exact va_eqt (hs (.eq (.elem (.static "CoreBook" "HOMES" "[I") (.int 0)) (.int (xhom 0))) (by decide +kernel))
    | 1, _ => exact va_eqt (hs (.eq (.elem (.static "CoreBook" "HOMES" "[I") (.int 1)) (.int (xhom 1))) (by decide +kernel))
    | 2, _ => exact va_eqt (hs (.eq (.elem (.static "CoreBook" "HOMES" "[I") (.int 2)) (.int (xhom 2))) (by decide +kernel))
    | 3, _ => exact va_eqt (hs (.eq (.elem (.static "CoreBook" "HOMES" "[I") (.int 3)) (.int (xhom 3))) (by decide +kernel))
    | 4, _ => exact va_eqt (hs (.eq (.elem (.static "CoreBook" "HOMES" "[I") (.int 4)) (.int (xhom 4))) (by decide +kernel))
    | 5, _ => exact va_eqt (hs (.eq (.elem (.static "CoreBook" "HOMES" "[I") (.int 5)) (.int (xhom 5))) (by decide +kernel))
    | 6, _ => exact va_eqt (hs (.eq (.elem (.static "CoreBook" "HOMES" "[I") (.int 6)) (.int (xhom 6))) (by decide +kernel))
    | 7, _ => exact va_eqt (hs (.eq (.elem (.static "CoreBook" "HOMES" "[I") (.int 7)) (.int (xhom 7))) (by decide +kernel))
    | 8, _ => exact va_eqt (hs (.eq (.elem (.static "CoreBook" "HOMES" "[I") (.int 8)) (.int (xhom 8))) (by decide +kernel))
    | 9, _ => exact va_eqt (hs (.eq (.elem (.static "CoreBook" "HOMES" "[I") (.int 9)) (.int (xhom 9))) (by decide +kernel))
    | 10, _ => exact va_eqt (hs (.eq (.elem (.static "CoreBook" "HOMES" "[I") (.int 10)) (.int (xhom 10))) (by decide +kernel))
    | 11, _ => exact va_eqt (hs (.eq (.elem (.static "CoreBook" "HOMES" "[I") (.int 11)) (.int (xhom 11))) (by decide +kernel))
  obtain ⟨t, ht, hTt⟩ := va_Tof (tm := .static "CoreBook" "HOMES" "[I") (ty := .int) (N := 12) (f := fun j => .int (xhom j)) (A := fun q : Nat => s.heap.size ≤ q) (by decide) (hs _ (by decide +kernel)) (va_eqt (z := 12) (hs (.eq (.length (.static "CoreBook" "HOMES" "[I")) (.int 12)) (by decide +kernel))) hel hA
  have hZ := va_Zref (A := fun q : Nat => s.heap.size ≤ q) (hts _ (List.mem_of_getElem? (i := 304) (by decide +kernel))) (hts _ (List.mem_of_getElem? (i := 37) (by decide +kernel))) ht hA
  have hne : ¬ b = t := by
    intro hbt
    have h1 := hs (.not (.eq (.arg 0) (.static "CoreBook" "HOMES" "[I"))) (by decide +kernel)
    have e1 : (Term.arg 0).eval #[Value.ref b] s none [] s = some (.ref b) := rfl
    simp [Cond.before, Cond.holds, Cond.value, e1, ht] at h1
    exact h1 hbt
  obtain ⟨scr, x1, x2, x3, x4, x5⟩ := hX
  obtain ⟨tc, y1, y2, y3, y4, y5, y6, y7⟩ := hTt
  have ht0 : t < s.heap.size := (Array.getElem?_eq_some_iff.mp y1).1
  let w0 : xW := (s.heap.size, 0, t, fun a => if a = b then some (.inl (7, L, .inl xs)) else if a = t then some (.inl (7, 12, .inl xhom)) else none)
  have hcell : ∀ a q, w0.2.2.2 a = some q → (a = b ∧ q = .inl (7, L, .inl xs)) ∨ (a = t ∧ q = .inl (7, 12, .inl xhom)) := by
    intro a q hq
    have hq : (if a = b then some (.inl (7, L, .inl xs)) else if a = t then some (.inl (7, 12, .inl xhom)) else none) = some q := hq
    split at hq
    · next h => cases hq; exact Or.inl ⟨h, rfl⟩
    · split at hq
      · next h => cases hq; exact Or.inr ⟨h, rfl⟩
      · cases hq
  have hP : xP D s.heap.size s w0 s.heap := by
    refine ⟨rfl, Nat.le_refl _, fun a q hq => ?_⟩
    rcases hcell a q hq with ⟨rfl, rfl⟩ | ⟨rfl, rfl⟩
    · exact ⟨⟨scr, x1, x2, fun _ h => absurd h (by show ¬ 7 ≤ 6; decide), x3, ⟨Nat.le_of_eq x4.symm, by rw [x4] <;> rfl⟩, x5⟩, Or.inl rfl⟩
    · exact ⟨⟨tc, y1, y2, fun _ h => absurd h (by show ¬ 7 ≤ 6; decide), y3, ⟨y4, y5⟩, y6⟩, Or.inl rfl⟩
  obtain ⟨wE, hev, hE1s, hE2s⟩ := law_pure (w := w0) hL (b := b) (xs := xs) (if_pos rfl) (by show (if t = b then _ else if t = t then _ else _) = _; rw [if_neg (fun h => hne h.symm), if_pos rfl]) (fun a q hq => by
    rcases hcell a q hq with ⟨rfl, -⟩ | ⟨rfl, -⟩
    · exact hbl
    · exact ht0)
  have hE1 : wE.1 ≤ w0.1 + room_1.cells := Nat.le_trans hE1s (Nat.add_le_add_left (by decide) _)
  have hE2 : wE.2.1 ≤ w0.2.1 + room_1.slots := Nat.le_trans hE2s (Nat.add_le_add_left (by decide) _)
  have hC : xCx p room_1 s m meth c D s.heap.size w0 148 := ⟨hx, hb, hml, hown, fun h => absurd h (by decide +kernel), hT, by decide +kernel, by decide +kernel, hZ⟩
  rw [xev_lm] at hev
  obtain ⟨j, hj⟩ := (xlim_some (xrun_xm (xca xev 148) 148 0 _ [] w0)).mp hev
  have hcal : ∀ (y2 : Nat) (as : List xV) (u : xW) (r : Option xV) (u2 : xW), xca xev 148 y2 as u = some (r, u2) → xMt l D s.heap.size y2 as u r u2 := by
    intro y2 as u r u2 hc
    unfold xca at hc
    obtain ⟨hb2, hc⟩ := xco_s hc
    simp only [Bool.and_eq_true, Nat.blt_eq, Nat.ble_eq] at hb2
    exact xmeth l D s.heap.size (xrk y2 + 1) y2 (Nat.lt_succ_self _) as u r u2 hb2.2 hc
  obtain ⟨ls, hen, hls⟩ := xentry (as := [xA (some b)]) (n := 4) (by show 1 ≤ 4; decide) m
  have hen : entryFrame m ([Value.ref b] : List Value).toArray 4 = F0 m 0 ls [] := hen
  rw [hen]
  have hle : xle w0 wE := xev_le (xrk 148 + 1) 148 (Nat.lt_succ_self _) _ _ _ _ _ (by rw [xev_lm]; exact hev)
  refine (xrun_sound hC rfl hcal j 0 _ [] w0 _ wE hj).2 hE1 hE2 ?_ (by show 4 = xml 148; decide +kernel) ls s.heap [] 0 0 hls ⟨hP, va_S.rf, rfl, rfl, rfl⟩
  intro pc ls H locs cells slots hSt hd hrt
  have c1 : s.heap.size + cells = wE.1 := hSt.2.2.1
  have c2 : 0 + slots = wE.2.1 := hSt.2.2.2.1
  have hE1 : wE.1 ≤ s.heap.size + room_1.cells := hE1
  have hE2 : wE.2.1 ≤ 0 + room_1.slots := hE2
  refine va_forget (fun q hq => hSt.2.1.2.2 q hq) ?_
  refine W.widen (k := room_1.cells) (n := room_1.slots) (by omega) (by omega) ?_
  exact lw_ret (d0 := s.drawn) (Drawn.sameBut.refl s.drawn lw_cs) hx hb hr hlocks hd
-- ===== YOUR PART ENDS =====
set_option maxHeartbeats 4000000 in
theorem lw_walk (l : Launch) (hflags : l.flags = flags0) (b : Addr) (xs : List Int32) : MetFree l x (headSpec (Jvm.Cond.code x code maxLocals ret :: tables_1) room_1) (lw_P b xs) (fun _ _ _ _ _ => True) lw_Q := by
  refine MetFree.of_bodyS (code := code) (maxLocals := maxLocals) (ret := ret) (by decide) ?_ ?_
  · intro args s m h hn
    obtain ⟨meth, c, h1, h2, h3, h4, h5, h6, -, -⟩ := Cond.code_spec hn (atoms_spec (ws := Jvm.Cond.code x code maxLocals ret :: tables_1) h _ List.mem_cons_self)
    exact ⟨meth, c, h1, h2, h3, h4, h5, h6⟩
  · intro p e s m args below meth c s₁ B hml0 hP _
    obtain ⟨rfl, hx, hbd, hgv⟩ := hP
    obtain ⟨scr, harrAt, hlist, hof, hsmall⟩ := hx
    obtain ⟨hcb, hkn, -, -⟩ := State.arrayAt?_spec harrAt
    have hown : s.vm.findClass R_law = some m.cls := findClass_of_methodNamed B.named
    have hts0 : ∀ c ∈ (Jvm.Cond.code x code maxLocals ret :: tables_1), c.before #[Value.ref b] s = true := atoms_spec (ws := Jvm.Cond.code x code maxLocals ret :: tables_1) B.pre
    have hts : ∀ w ∈ lw_tbl, w.before #[Value.ref b] s = true := k2_hts_sels lw_privs (fun w hw => hts0 w (List.mem_cons_of_mem _ hw)) lw_privs_ok
    have hml : c.maxLocals = 4 := B.maxLocals_eq (hts0 _ List.mem_cons_self)
    have X₀ : Stand p l e room_1 s m #[Value.ref b] below meth c s₁ [] 0 0 := Stand.of_body B
    have hh0 : s₁.heap = s.heap := by rw [B.state]; rfl
    have hsz : scr.slots.size = xs.length := by rw [← Array.length_toList, hlist, List.length_map]
    have hval : ∀ j : Nat, j < xs.length → scr.slots[j]? = some (.int (xs.getD j 0)) := fun j hj => by
      rw [← Array.getElem?_toList, hlist]
      simp [hj]
    have hbl : b < s.heap.size := (Array.getElem?_eq_some_iff.mp hcb).1
    have hX : va_X b xs.length (fun j => xs.getD j 0) s s.heap := ⟨scr, hcb, hof, hkn, hsz, hval⟩
    have K : W p l e room_1 s m #[Value.ref b] below meth c s₁.heap [] 0 0 (lw_Z below #[Value.ref b] s) (entryFrame m ([Value.ref b] : List Value).toArray 4) := by
      rw [hh0]
      exact whole_start l hflags hbd ⟨B.exec, B.bytes, B.returns, hml, hown, hts, hX, hbl, B.notSynchronized, hgv⟩
    obtain ⟨t, a1, o, b1, b2, b3⟩ := K s₁ rfl X₀
    exact ⟨t, o, a1, b1, b2, b3⟩
theorem lw_pre_spec {args : Array Value} {s : State} (h : (Jvm.Cond.and given_1 narrow_1).before args s = true) (hr : rest_1_c.before args s = true) : ∃ (b : Addr) (xs : List Int32), lw_P b xs args s := by
  have hs := flat_of_before _ h
  have hq := flat_of_before _ hr
  have hc : (Cond.count 1).before args s = true := hs _ (by decide +kernel)
  have harr : (Cond.arrayOf (.arg 0) .int).before args s = true := hs _ (by decide +kernel)
  have hle : (Cond.le (.length (.arg 0)) (.int 3072)).before args s = true := hs _ (by decide +kernel)
  have hlen : (Cond.isInt (.length (.arg 0))).before args s = true := hq _ (by decide +kernel)
  have hall : (Cond.all (.arg 0) (.isInt (.elem (.arg 0) (.index 0)))).before args s = true := hq _ (by decide +kernel)
  obtain ⟨b, xs, hb, hx⟩ := State.ints_of_pre rfl harr hlen hall
  have hsm : xs.length < 2 ^ 31 := hx.choose_spec.2.2.2
  have hev : (Term.length (.arg 0)).eval args s none [] s = some (.int xs.length.toInt32) := hx.length_eval hb
  have hv := Cond.le_ints hev (show (Term.int 3072).eval args s none [] s = some (.int 3072) from rfl)
  have hd : xs.length.toInt32 ≤ 3072 := by
    simpa [Cond.before, Cond.holds, hv] using hle
  have hN : xs.length ≤ 3072 := (Int32.ofNat_le_ofNat hsm (by decide)).mp (show Int32.ofNat xs.length ≤ Int32.ofNat 3072 from hd)
  exact ⟨b, xs, Cond.one_arg hc (show args[0]? = some (.ref b) from hb), hx, hN, h⟩
theorem lw_comes (l : Launch) (hflags : l.flags = flags0) : Comes l x (Jvm.Cond.code x code maxLocals ret :: tables_1) room_1 (fun tb e args s => Calls_1 tb e args s ∧ rest_1 tb e args s ∧ Pre_1 tb e args s)
    (fun _ _ args s o t => lw_Q args s o t) := by
  intro p e ha hc hk s m args below hf hfit hheap happ hpre
  obtain ⟨b, xs, hP⟩ := lw_pre_spec hpre.2.2 hpre.2.1
  obtain ⟨k, o, h1, h2, h3, hQ⟩ := lw_walk l hflags b xs p e ha hc hk s m args below hf ((Spec.applies_iff_loose hf).mp happ).1 hP trivial
  exact ⟨k, o, h1, h2, h3, hQ⟩
theorem lw_frame {s t : State} {o : Outcome} {args : Array Value} (h : State.butDraws s t lw_cs (fun t1 => Framed s o t1 [] room_1.cells room_1.slots)) :
    State.butDraws s t [Jvm.Choice.named "NaN.bits"] (fun t1 => Framed s o t1 (fieldLocs frame_1_writes args s ++ arrayLocs frame_1_arrays args s ++ staticLocs frame_1_statics s) room_1.cells room_1.slots) := h
theorem lw_limb (L : Cond) (hL : ∀ (args : Array Value) (s t : State), L.after args s (.returned (some (.int 1))) t = true) :
    ArmFor flags0 classFile x code maxLocals ret World_1 tables_1 room_1 Calls_1 rest_1 Pre_1
      (fun tb e a s o t => postC L tb e a s o t ∧ State.butDraws s t [Jvm.Choice.named "NaN.bits"] (fun t1 => Framed s o t1 (fieldLocs frame_1_writes a s ++ arrayLocs frame_1_arrays a s ++ staticLocs frame_1_statics s) room_1.cells room_1.slots)) := by
  intro l hflags _ _ p e ha hc hk s m args below hf hfit hheap happ hpre
  obtain ⟨k, o, h1, h2, h3, rfl, hF⟩ := lw_comes l hflags p e ha hc hk s m args below hf hfit hheap happ hpre
  exact ⟨k, _, h1, h2, h3, hL args s _, lw_frame hF⟩
theorem i_vc : Claimed_1_1 ∧ Claimed_1_2 := ⟨lw_limb limb_1_1 (fun args s t => by simp [limb_1_1, Cond.after, Cond.holds, Cond.value]), lw_limb limb_1_2 (fun args s t => Cond.after_iff.mpr (by
  first | (rw [show limb_1_2 = Cond.eq .result (.int 1) from rfl, Cond.eq_ints (x := 1) (y := 1) rfl rfl]; simp; done) | (simp [limb_1_2, Cond.value, Term.eval]; done)))⟩
