/-! methods -/
section XSOUND
variable {p : Program} {l : Launch} {e : Env} {R : Room} {s : State} {m : MethodId} {args : Array Value} {below : List Frame} {meth : Method} {c : Code} {Q : State → Prop} {D : va_G} {z0 : Nat} {w0 : xW} {mi n : Nat} {cal : Nat → List xV → xW → Option xR}
theorem xsound1 {w wE : xW} {pc len a b : Nat} {cv : Option xV} {mm : List Bool} {lo : xL} {st : List xV} {z : xNx} {i : Instr} (hC : xCx p R s m meth c D z0 w0 mi) (hn : n = xml mi) (hcal : ∀ (y : Nat) (as : List xV) (u : xW) (r : Option xV) (u2 : xW), cal y as u = some (r, u2) → xMt l D z0 y as u r u2) (hk : xchk mi pc (i, len, a, b, cv, mm) = true) (h : xexec cal i pc len a b cv lo st w xk0 xr0 = some z) : xG p l e R s m args below meth c Q D z0 w0 wE n mi pc lo st w z := by
  cases i with
  | iconst q => exact xz_iconst hC hn hk h
  | bipush q => exact xz_bipush hC hn hk h
  | sipush q => exact xz_sipush hC hn hk h
  | lconst q => exact xz_lconst hC hn hk h
  | fconst q => exact xz_fconst hC hn hk h
  | dconst q => exact xz_dconst hC hn hk h
  | ldc q => exact xz_ldc hC hn hk h
  | ldc2_w q => exact xz_ldc2_w hC hn hk h
  | aconst_null => exact xz_aconst_null hC hn hk h
  | iload q => exact xz_iload hC hn hk h
  | iload_n q => exact xz_iload_n hC hn hk h
  | lload q => exact xz_lload hC hn hk h
  | lload_n q => exact xz_lload_n hC hn hk h
  | fload q => exact xz_fload hC hn hk h
  | dload q => exact xz_dload hC hn hk h
  | dload_n q => exact xz_dload_n hC hn hk h
  | aload q => exact xz_aload hC hn hk h
  | aload_n q => exact xz_aload_n hC hn hk h
  | istore q => exact xz_istore hC hn hk h
  | istore_n q => exact xz_istore_n hC hn hk h
  | lstore q => exact xz_lstore hC hn hk h
  | lstore_n q => exact xz_lstore_n hC hn hk h
  | fstore q => exact xz_fstore hC hn hk h
  | dstore q => exact xz_dstore hC hn hk h
  | dstore_n q => exact xz_dstore_n hC hn hk h
  | astore q => exact xz_astore hC hn hk h
  | astore_n q => exact xz_astore_n hC hn hk h
  | iinc q q2 => exact xz_iinc hC hn hk h
  | iadd => exact xz_iadd hC hn hk h
  | isub => exact xz_isub hC hn hk h
  | imul => exact xz_imul hC hn hk h
  | iand => exact xz_iand hC hn hk h
  | ior => exact xz_ior hC hn hk h
  | ishl => exact xz_ishl hC hn hk h
  | ishr => exact xz_ishr hC hn hk h
  | ladd => exact xz_ladd hC hn hk h
  | lsub => exact xz_lsub hC hn hk h
  | land => exact xz_land hC hn hk h
  | lor => exact xz_lor hC hn hk h
  | lshl => exact xz_lshl hC hn hk h
  | idiv => exact xz_idiv hC hn hk h
  | irem => exact xz_irem hC hn hk h
  | lcmp => exact xz_lcmp hC hn hk h
  | fadd => exact xz_fadd hC hn hk h
  | fdiv => exact xz_fdiv hC hn hk h
  | dadd => exact xz_dadd hC hn hk h
  | dsub => exact xz_dsub hC hn hk h
  | dmul => exact xz_dmul hC hn hk h
  | ddiv => exact xz_ddiv hC hn hk h
  | dneg => exact xz_dneg hC hn hk h
  | dcmp q => exact xz_dcmp hC hn hk h
  | i2l => exact xz_i2l hC hn hk h
  | l2i => exact xz_l2i hC hn hk h
  | i2b => exact xz_i2b hC hn hk h
  | i2s => exact xz_i2s hC hn hk h
  | i2c => exact xz_i2c hC hn hk h
  | l2f => exact xz_l2f hC hn hk h
  | l2d => exact xz_l2d hC hn hk h
  | d2i => exact xz_d2i hC hn hk h
  | d2l => exact xz_d2l hC hn hk h
  | f2d => exact xz_f2d hC hn hk h
  | d2f => exact xz_d2f hC hn hk h
  | ifnonnull q => exact xz_ifnonnull hC hn hk h
  | goto q => exact xz_goto hC hn hk h
  | tableswitch q1 q2 q3 q4 => exact xz_tableswitch hC hn hk h
  | ireturn => exact xz_ireturn hC hn hk h
  | lreturn => exact xz_lreturn hC hn hk h
  | dreturn => exact xz_dreturn hC hn hk h
  | areturn => exact xz_areturn hC hn hk h
  | return_ => exact xz_return_ hC hn hk h
  | getfield q => exact xz_getfield hC hn hk h
  | putfield q => exact xz_putfield hC hn hk h
  | getstatic q => exact xz_getstatic hC hn hk h
  | new q => exact xz_new hC hn hk h
  | newarray q => exact xz_newarray hC hn hk h
  | anewarray q => exact xz_anewarray hC hn hk h
  | arraylength => exact xz_arraylength hC hn hk h
  | iaload => exact xz_iaload hC hn hk h
  | baload => exact xz_baload hC hn hk h
  | laload => exact xz_laload hC hn hk h
  | daload => exact xz_daload hC hn hk h
  | aaload => exact xz_aaload hC hn hk h
  | iastore => exact xz_iastore hC hn hk h
  | bastore => exact xz_bastore hC hn hk h
  | lastore => exact xz_lastore hC hn hk h
  | dastore => exact xz_dastore hC hn hk h
  | aastore => exact xz_aastore hC hn hk h
  | instanceof q => exact xz_instanceof hC hn hk h
  | checkcast q => exact xz_checkcast hC hn hk h
  | dup => exact xz_dup hC hn hk h
  | dup2 => exact xz_dup2 hC hn hk h
  | pop => exact xz_pop hC hn hk h
  | invokestatic q => exact xz_invokestatic hC hn hcal hk h
  | invokevirtual q => exact xz_invokevirtual hC hn hcal hk h
  | invokespecial q => exact xz_invokespecial hC hn hcal hk h
  | invokeinterface q q2 => exact xz_invokeinterface hC hn hcal hk h
  | ifCond q1 q2 =>
    cases q1 with
    | eq => exact xz_ifCond_eq hC hn hk h
    | ne => exact xz_ifCond_ne hC hn hk h
    | lt => exact xz_ifCond_lt hC hn hk h
    | ge => exact xz_ifCond_ge hC hn hk h
    | gt => exact xz_ifCond_gt hC hn hk h
    | le => exact xz_ifCond_le hC hn hk h
  | if_icmp q1 q2 =>
    cases q1 with
    | eq => exact xz_if_icmp_eq hC hn hk h
    | ne => exact xz_if_icmp_ne hC hn hk h
    | lt => exact xz_if_icmp_lt hC hn hk h
    | ge => exact xz_if_icmp_ge hC hn hk h
    | gt => exact xz_if_icmp_gt hC hn hk h
    | le => exact xz_if_icmp_le hC hn hk h
  | if_acmp q1 q2 =>
    cases q1 with
    | ne => exact xz_if_acmp_ne hC hn hk h
    | _ => simp only [xexec] at h; cases h
  | _ => simp only [xexec] at h; cases h
theorem xmk_len {mm : List Bool} {lo : xL} (h : mm = [] ∨ mm.length = lo.length) : (xmk mm lo).length = lo.length := by
  cases mm with
  | nil => rfl
  | cons q qs =>
    have h2 : (q :: qs).length = lo.length := h.resolve_left (by simp)
    show (List.zipWith _ (q :: qs) lo).length = _
    rw [List.length_zipWith, h2, Nat.min_self]
theorem xrun_sound (hC : xCx p R s m meth c D z0 w0 mi) (hn : n = xml mi) (hcal : ∀ (y : Nat) (as : List xV) (u : xW) (r : Option xV) (u2 : xW), cal y as u = some (r, u2) → xMt l D z0 y as u r u2) : ∀ (k pc : Nat) (lo : xL) (st : List xV) (w : xW) (r : Option xV) (wE : xW), xrun cal mi k pc lo st w = some (r, wE) →
    xle w wE ∧ (wE.1 ≤ w0.1 + R.cells → wE.2.1 ≤ w0.2.1 + R.slots → xKz p l e R s m args below meth c Q D z0 w0 n mi (.inr (r, wE)) → xWn p l e R s m args below meth c Q D z0 w0 n pc lo st w)
  | 0, pc, lo, st, w, r, wE, h => by cases h
  | k + 1, pc, lo, st, w, r, wE, h => by
    have h : xstp cal mi (xrun cal mi k) pc lo st w = some (r, wE) := h
    rw [xstp_eq] at h
    obtain ⟨z, hz, h⟩ := xbi_s h
    unfold xst0 at hz
    split at hz
    · cases hz
    · next i len a b cv mm hf =>
      have hk := xfetch_ok hf
      have hmm : mm = [] ∨ mm.length = xml mi := by
        unfold xchk at hk
        simp only [Bool.and_eq_true, Bool.or_eq_true, beq_iff_eq] at hk
        exact hk.1.2
      have key := xsound1 (p := p) (l := l) (e := e) (args := args) (below := below) (Q := Q) (wE := wE) hC hn hcal hk hz
      have conv : ∀ (K : xWn p l e R s m args below meth c Q D z0 w0 n pc (xmk mm lo) st w), xWn p l e R s m args below meth c Q D z0 w0 n pc lo st w := by
        intro K hl ls H locs cells slots hls hSt
        have hmm2 : mm = [] ∨ mm.length = lo.length := by rw [hl, hn]; exact hmm
        exact K (by rw [xmk_len hmm2]; exact hl) ls H locs cells slots (xLs_mk hls hmm2) hSt
      cases z with
      | inl q =>
        have h : xrun cal mi k q.1 q.2.1 q.2.2.1 q.2.2.2 = some (r, wE) := h
        obtain ⟨i1, i2⟩ := xrun_sound hC hn hcal k _ _ _ _ _ _ h
        exact ⟨xle_t key.1 i1, fun h1 h2 K => conv (key.2 i1 h1 h2 (i2 h1 h2 K))⟩
      | inr q =>
        have h : some (q.1, q.2) = some (r, wE) := h
        cases h
        exact ⟨key.1, fun h1 h2 K => conv (key.2 (xle_r _) h1 h2 K)⟩
end XSOUND
theorem xent2_len : ∀ (n : Nat) (lo : xL), (xent2 n lo).length = n
  | 0, _ => rfl
  | n + 1, [] => by rw [xent2, List.length_cons, xent2_len n []]
  | n + 1, _ :: r => by rw [xent2, List.length_cons, xent2_len n r]
theorem xent2_get : ∀ (n : Nat) (lo : xL) (i : Nat) (v : xV), (xent2 n lo)[i]? = some (some v) → lo[i]? = some (some v)
  | 0, _, i, v, h => by simp [xent2] at h
  | n + 1, [], i, v, h => by
    cases i with
    | zero => simp [xent2] at h
    | succ i =>
      have := xent2_get n [] i v (by simpa [xent2] using h)
      simp at this
  | n + 1, x :: r, i, v, h => by
    cases i with
    | zero => simpa [xent2] using h
    | succ i =>
      have := xent2_get n r i v (by simpa [xent2] using h)
      simpa using this
theorem xent1_mem : ∀ (as : List xV) (j i : Nat) (v : xV), (xent1 as)[i]? = some (some v) → (j + i, xv v) ∈ lv_args j (as.map xv)
  | [], j, i, v, h => by simp [xent1] at h
  | u :: r, j, i, v, h => by
    have one : ∀ (hu : xent1 (u :: r) = some u :: xent1 r) (hc : ¬ (xv u).category = 2), (j + i, xv v) ∈ lv_args j ((u :: r).map xv) := by
      intro hu hc
      rw [hu] at h
      rw [List.map_cons, lv_args, if_neg hc]
      cases i with
      | zero => cases h; exact List.mem_cons_self
      | succ i =>
        refine List.mem_cons_of_mem _ ?_
        have := xent1_mem r (j + 1) i v (by simpa using h)
        rw [show j + (i + 1) = j + 1 + i by omega]
        exact this
    have two : ∀ (hu : xent1 (u :: r) = some u :: none :: xent1 r) (hc : (xv u).category = 2), (j + i, xv v) ∈ lv_args j ((u :: r).map xv) := by
      intro hu hc
      rw [hu] at h
      rw [List.map_cons, lv_args, if_pos hc]
      match i, h with
      | 0, h => cases h; exact List.mem_cons_self
      | 1, h => cases h
      | i + 2, h =>
        refine List.mem_cons_of_mem _ ?_
        have := xent1_mem r (j + 2) i v (by simpa using h)
        rw [show j + (i + 2) = j + 2 + i by omega]
        exact this
    obtain x | x | x | x | x := u
    · exact one rfl (by simp [xv, Value.category])
    · exact two rfl rfl
    · exact one rfl (by simp [xv, Value.category])
    · exact two rfl rfl
    · exact one rfl (by rw [xct_cat]; simp [xct])
theorem xent1_len : ∀ as : List xV, (lg_sl (as.map xv)).length = (xent1 as).length
  | [] => rfl
  | u :: r => by
    have ih := xent1_len r
    have one : ∀ (hu : xent1 (u :: r) = some u :: xent1 r) (hc : ¬ (xv u).category = 2), (lg_sl ((u :: r).map xv)).length = (xent1 (u :: r)).length := by
      intro hu hc
      rw [hu, List.map_cons, lg_sl, List.flatMap_cons, if_neg hc, List.length_append, List.length_cons]
      unfold lg_sl at ih
      rw [ih]
      simp [Nat.add_comm]
    have two : ∀ (hu : xent1 (u :: r) = some u :: none :: xent1 r) (hc : (xv u).category = 2), (lg_sl ((u :: r).map xv)).length = (xent1 (u :: r)).length := by
      intro hu hc
      rw [hu, List.map_cons, lg_sl, List.flatMap_cons, if_pos hc, List.length_append, List.length_cons, List.length_cons]
      unfold lg_sl at ih
      rw [ih]
      simp only [List.length_cons, List.length_nil]
      omega
    obtain x | x | x | x | x := u
    · exact one rfl (by simp [xv, Value.category])
    · exact two rfl rfl
    · exact one rfl (by simp [xv, Value.category])
    · exact two rfl rfl
    · exact one rfl (by rw [xct_cat]; simp [xct])
theorem xentry {as : List xV} {n : Nat} (h : (xent1 as).length ≤ n) (m : MethodId) : ∃ ls, entryFrame m (as.map xv).toArray n = F0 m 0 ls [] ∧ xLs ls (xent2 n (xent1 as)) := by
  have hl := lv_entry (as.map xv) (n := n) (by rw [xent1_len]; exact h)
  refine ⟨_, lg_entry_eq m (as.map xv) n, ?_⟩
  refine ⟨by rw [hl.1, xent2_len], hl.2.1, fun i v hv => ?_⟩
  have h1 := xent1_mem as 0 i v (xent2_get _ _ _ _ hv)
  rw [Nat.zero_add] at h1
  exact hl.2.2 _ h1
theorem xmeth_ok : ∀ y, y < 149 → (xmi y).2.1.cls = xcs (xmi y).1 := by decide +kernel
theorem xplain (q : Nat) : plainName (xcs q) = true := by
  unfold xcs
  split <;> decide
theorem xcode_lt : ∀ q ∈ xcode, ∀ e ∈ q.2, e.1 < 149 := by
  have h : (xcode.all fun q => q.2.all fun e => Nat.blt e.1 149) = true := by decide +kernel
  intro q hq e he
  have h1 := List.all_eq_true.mp (List.all_eq_true.mp h q hq) e he
  exact Nat.blt_eq.mp h1
theorem xfetch_lt {y pc : Nat} {e : xEn} (h : xfetch y pc = some e) : y < 149 := by
  unfold xfetch at h
  split at h
  · next t ht =>
    obtain ⟨q, es, h1, h2⟩ := xf2_mem _ _ _ ht
    exact xcode_lt _ h1 _ h2
  · cases h
/-! sizes -/
section XLE
variable {C : Prop} {α : Type} {z : α}
theorem xcv_g {c : Option xV} {f : xV → Option α} (H : ∀ v, f v = some z → C) (h : xcv c f = some z) : C := by
  obtain ⟨v, -, h⟩ := xcv_s h
  exact H v h
theorem xpI_g {st : List xV} {f : Int32 → List xV → Option α} (H : ∀ x r, f x r = some z → C) (h : xpI st f = some z) : C := by
  obtain ⟨x, r, -, h⟩ := xpI_s h
  exact H x r h
theorem xpJ_g {st : List xV} {f : Int64 → List xV → Option α} (H : ∀ x r, f x r = some z → C) (h : xpJ st f = some z) : C := by
  obtain ⟨x, r, -, h⟩ := xpJ_s h
  exact H x r h
theorem xpF_g {st : List xV} {f : UInt32 → List xV → Option α} (H : ∀ x r, f x r = some z → C) (h : xpF st f = some z) : C := by
  obtain ⟨x, r, -, h⟩ := xpF_s h
  exact H x r h
theorem xpD_g {st : List xV} {f : UInt64 → List xV → Option α} (H : ∀ x r, f x r = some z → C) (h : xpD st f = some z) : C := by
  obtain ⟨x, r, -, h⟩ := xpD_s h
  exact H x r h
theorem xpA_g {st : List xV} {f : Option Nat → List xV → Option α} (H : ∀ x r, f x r = some z → C) (h : xpA st f = some z) : C := by
  obtain ⟨x, r, -, h⟩ := xpA_s h
  exact H x r h
theorem xnl_g {st : List xV} {f : Option α} (H : f = some z → C) (h : xnl st f = some z) : C := H (xnl_s h).2
theorem xlI_g {lo : xL} {i : Nat} {f : Int32 → Option α} (H : ∀ x, f x = some z → C) (h : xlI lo i f = some z) : C := by
  obtain ⟨x, -, h⟩ := xlI_s h
  exact H x h
theorem xlJ_g {lo : xL} {i : Nat} {f : Int64 → Option α} (H : ∀ x, f x = some z → C) (h : xlJ lo i f = some z) : C := by
  obtain ⟨x, -, h⟩ := xlJ_s h
  exact H x h
theorem xlF_g {lo : xL} {i : Nat} {f : UInt32 → Option α} (H : ∀ x, f x = some z → C) (h : xlF lo i f = some z) : C := by
  obtain ⟨x, -, h⟩ := xlF_s h
  exact H x h
theorem xlD_g {lo : xL} {i : Nat} {f : UInt64 → Option α} (H : ∀ x, f x = some z → C) (h : xlD lo i f = some z) : C := by
  obtain ⟨x, -, h⟩ := xlD_s h
  exact H x h
theorem xlA_g {lo : xL} {i : Nat} {f : Option Nat → Option α} (H : ∀ x, f x = some z → C) (h : xlA lo i f = some z) : C := by
  obtain ⟨x, -, h⟩ := xlA_s h
  exact H x h
theorem xrI_g {r : Option xV} {f : Int32 → Option α} (H : ∀ x, f x = some z → C) (h : xrI r f = some z) : C := by
  obtain ⟨x, -, h⟩ := xrI_s h
  exact H x h
theorem xrc_g {as : List xV} {f : Option Nat → Option α} (H : ∀ x, f x = some z → C) (h : xrc as f = some z) : C := by
  obtain ⟨x, r, -, h⟩ := xrc_s h
  exact H x h
theorem xnF_g {x : UInt32} {f : UInt32 → Option α} (H : f x = some z → C) (h : xnF x f = some z) : C := H (xnF_s h).2
theorem xnD_g {x : UInt64} {f : UInt64 → Option α} (H : f x = some z → C) (h : xnD x f = some z) : C := H (xnD_s h).2
theorem xbi_g {β : Type} {o : Option β} {f : β → Option α} (H : ∀ x, o = some x → f x = some z → C) (h : o.bind f = some z) : C := by
  obtain ⟨x, hx, h⟩ := xbi_s h
  exact H x hx h
theorem xco_g {c : Bool} {f g : Option α} (H : f = some z → C) (H2 : g = some z → C) (h : (bif c then f else g) = some z) : C := by
  cases c with
  | true => exact H h
  | false => exact H2 h
theorem xif_g {c : Prop} [Decidable c] {f g : Option α} (H : f = some z → C) (H2 : g = some z → C) (h : (if c then f else g) = some z) : C := by
  split at h
  · exact H h
  · exact H2 h
theorem xno_g (h : (none : Option α) = some z) : C := by cases h
theorem xans_g {cv r : Option xV} {st : List xV} {f : List xV → Option α} (H : ∀ s, f s = some z → C) (h : xans cv r st f = some z) : C := H _ (xans_s h)
theorem xsw_g {x : Int32} {pc : Nat} {f : Nat → Option α} {os : List Int} {j : Int} {d : Nat} (H : ∀ t, f t = some z → C) (h : xsw x pc f j os d = some z) : C := by
  rcases xsw_s _ _ h with ⟨_, _, _, _, h⟩ | ⟨_, h⟩
  · exact H _ h
  · exact H _ h
end XLE
theorem xle_put {w w2 : xW} {o c k : Nat} {v : xV} (h : xput w o c k v = some w2) : xle w w2 := by
  obtain ⟨fs, -, -, rfl⟩ := xput_s h
  exact xle_set _ _ _
theorem xk0_le {p : Nat} {lo : xL} {st : List xV} {w w2 : xW} {z : xNx} (hw : xle w w2) (h : xk0 p lo st w2 = some z) : xle w (xwz z) := by
  rw [xk0_s h]
  exact hw
theorem xr0_le {r : Option xV} {w w2 : xW} {z : xNx} (hw : xle w w2) (h : xr0 r w2 = some z) : xle w (xwz z) := by
  rw [xr0_s h]
  exact hw
theorem xex_if {C : Prop} {c : Nat} {A B : Option xR} {q : xR} (h : (if c = 3 then A else if c = 5 then B else none) = some q) (h1 : A = some q → C) (h2 : B = some q → C) : C := by
  split at h
  · exact h1 h
  · split at h
    · exact h2 h
    · cases h
set_option maxHeartbeats 4000000 in
theorem xexec_le {cal : Nat → List xV → xW → Option xR} {w : xW} {pc len a b : Nat} {cv : Option xV} {lo : xL} {st : List xV} {z : xNx} (i : Instr) (hcal : ∀ (y : Nat) (as : List xV) (u : xW) (q : xR), cal y as u = some q → xle u q.2) : xexec cal i pc len a b cv lo st w xk0 xr0 = some z → xle w (xwz z) := by
  unfold xexec
  split
  all_goals repeat' (first
    | exact xk0_le (xle_r _)
    | exact xr0_le (xle_r _)
    | exact xk0_le (xle_push _ _ _)
    | exact xk0_le (xle_new (by assumption))
    | exact xk0_le (xle_put (by assumption))
    | exact xk0_le (xle_sI (by assumption))
    | exact xk0_le (xle_sZ (by assumption))
    | exact xk0_le (xle_sJ (by assumption))
    | exact xk0_le (xle_sD (by assumption))
    | exact xk0_le (xle_sA (by assumption))
    | exact xk0_le (hcal _ _ _ _ (by assumption))
    | exact xk0_le (xex_if (by assumption) (hcal _ _ _ _) (hcal _ _ _ _))
    | exact xno_g
    | refine xcv_g (fun _ => ?_)
    | refine xpI_g (fun _ _ => ?_)
    | refine xpJ_g (fun _ _ => ?_)
    | refine xpF_g (fun _ _ => ?_)
    | refine xpD_g (fun _ _ => ?_)
    | refine xpA_g (fun _ _ => ?_)
    | refine xnl_g ?_
    | refine xlI_g (fun _ => ?_)
    | refine xlJ_g (fun _ => ?_)
    | refine xlF_g (fun _ => ?_)
    | refine xlD_g (fun _ => ?_)
    | refine xlA_g (fun _ => ?_)
    | refine xrI_g (fun _ => ?_)
    | refine xrc_g (fun _ => ?_)
    | refine xnF_g ?_
    | refine xnD_g ?_
    | refine xans_g (fun _ => ?_)
    | refine xsw_g (fun _ => ?_)
    | refine xbi_g (fun _ _ => ?_)
    | refine xco_g ?_ ?_
    | refine xif_g ?_ ?_
    | split)
theorem xrun_le {cal : Nat → List xV → xW → Option xR} {mi : Nat} (hcal : ∀ (y : Nat) (as : List xV) (u : xW) (q : xR), cal y as u = some q → xle u q.2) : ∀ (k pc : Nat) (lo : xL) (st : List xV) (w : xW) (q : xR), xrun cal mi k pc lo st w = some q → xle w q.2
  | 0, pc, lo, st, w, q, h => by cases h
  | k + 1, pc, lo, st, w, q, h => by
    have h : xstp cal mi (xrun cal mi k) pc lo st w = some q := h
    rw [xstp_eq] at h
    obtain ⟨z, hz, h⟩ := xbi_s h
    unfold xst0 at hz
    split at hz
    · cases hz
    · have h1 := xexec_le _ hcal hz
      cases z with
      | inl u => exact xle_t h1 (xrun_le hcal k _ _ _ _ _ h)
      | inr u => cases h; exact h1
theorem xev_le : ∀ (k y : Nat), xrk y < k → ∀ (pc : Nat) (lo : xL) (st : List xV) (w : xW) (q : xR), xev y pc lo st w = some q → xle w q.2
  | 0, y, hk, pc, lo, st, w, q, h => absurd hk (Nat.not_lt_zero _)
  | k + 1, y, hk, pc, lo, st, w, q, h => by
    rw [xev_lm] at h
    obtain ⟨j, hj⟩ := (xlim_some (xrun_xm (xca xev y) y pc lo st w)).mp h
    refine xrun_le (fun y2 as u q hc => ?_) j pc lo st w q hj
    unfold xca at hc
    obtain ⟨hb, hc⟩ := xco_s hc
    simp only [Bool.and_eq_true, Nat.blt_eq, Nat.ble_eq] at hb
    exact xev_le k y2 (by omega) _ _ _ _ _ hc
/-- a method of the table that comes to an end has a contract that says so -/
theorem xmeth (l : Launch) (D : va_G) (z0 : Nat) : ∀ (k y : Nat), xrk y < k → ∀ (as : List xV) (w : xW) (r : Option xV) (w2 : xW), (xent1 as).length ≤ xml y → xev y 0 (xent2 (xml y) (xent1 as)) [] w = some (r, w2) → xMt l D z0 y as w r w2
  | 0, y, hk, as, w, r, w2, hlen, h => absurd hk (Nat.not_lt_zero _)
  | k + 1, y, hk, as, w, r, w2, hlen, h => by
    have hcal : ∀ (y2 : Nat) (as : List xV) (u : xW) (r : Option xV) (u2 : xW), xca xev y y2 as u = some (r, u2) → xMt l D z0 y2 as u r u2 := by
      intro y2 as u r u2 hc
      unfold xca at hc
      obtain ⟨hb, hc⟩ := xco_s hc
      simp only [Bool.and_eq_true, Nat.blt_eq, Nat.ble_eq] at hb
      exact xmeth l D z0 k y2 (by omega) as u r u2 hb.2 hc
    have hle : xle w w2 := xev_le (k + 1) y hk _ _ _ _ _ h
    have hlt : y < 149 := by
      rw [xev_eq] at h
      unfold xstp at h
      split at h
      · cases h
      · next hf => exact xfetch_lt hf
    have hcls := xmeth_ok y hlt
    rw [xev_lm] at h
    obtain ⟨j, hj⟩ := (xlim_some (xrun_xm (xca xev y) y 0 _ [] w)).mp h
    refine ⟨hle, ?_⟩
    refine Met.ofW (cc := (xmi y).2.2.1) (maxL := xml y) (ret := (xmi y).2.2.2) (by rw [hcls]; exact xplain _) rfl ?_
    intro p e s m args below meth c s₁ B hml hv
    obtain ⟨rfl, hT, hZ, hP⟩ := hv
    have hC : xCx p (headSpec (xwd y) (xrm y w w2)).room s m meth c D z0 w y := ⟨B.exec, B.bytes, hml, by rw [← hcls]; exact findClass_of_methodNamed B.named, fun h => (name_of_methodNamed B.named B.method).1.trans h, hT, Nat.le_refl _, Nat.le_refl _, hZ⟩
    have hr := B.returns
    have hlocks := B.notSynchronized
    obtain ⟨ls, hen, hls⟩ := xentry hlen m
    rw [hen]
    have h1 := hle.1
    have h2 := hle.2.1
    refine (xrun_sound hC rfl hcal j 0 _ [] w r w2 hj).2 ?_ ?_ ?_ (xent2_len _ _) ls s.heap [] 0 0 hls ⟨hP, va_S.rf, rfl, rfl, rfl⟩
    · show w2.1 ≤ w.1 + (w2.1 - w.1)
      omega
    · show w2.2.1 ≤ w.2.1 + (w2.2.1 - w.2.1)
      omega
    · intro pc ls H locs cells slots hSt hd hrt
      have c1 := hSt.2.2.1
      have c2 := hSt.2.2.2.1
      obtain rfl : cells = w2.1 - w.1 := by
        have c1 : w.1 + cells = w2.1 := c1
        omega
      obtain rfl : slots = w2.2.1 - w.2.1 := by
        have c2 : w.2.1 + slots = w2.2.1 := c2
        omega
      have hq : ∀ t : State, t.heap = H → s.WarmedH t.vm → xQc D z0 r w2 (as.map xv).toArray s (.returned (r.map xv)) t := fun t ht hW => ⟨⟨rfl, by rw [ht]; exact xP_moved hW.alike hSt.1⟩, hSt.2.1.F ht⟩
      have hf := hSt.2.1.2.2
      cases r with
      | none => exact W.vret B.exec B.bytes (hr.trans hrt) hq hf hd
      | some v =>
        obtain x | x | x | x | x := v
        · rcases hrt with hrt | ⟨hrt, hx⟩
          · exact W.iret B.exec B.bytes (hr.trans hrt) hq hf hd
          · exact W.zret B.exec B.bytes (hr.trans hrt) (by simp [narrow, hx]) hq hf hd
        · exact W.lret B.exec B.bytes (hr.trans hrt) hq hf hd
        · exact hrt.elim
        · exact W.dret B.exec B.bytes (hr.trans hrt) hq hf hd
        · obtain ⟨nm, hnm⟩ := hrt
          exact W.aret B.exec B.bytes (hr.trans hnm) (Or.inl ⟨nm, rfl⟩) (va_rf_or x) hq hf hd
