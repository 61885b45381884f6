/-! every instruction -/
theorem xbv {u v : xV} (h : (u == v) = true) : u = v := by
  obtain x | x | x | x | x := u <;> obtain y | y | y | y | y := v <;> first
    | (cases h; done)
    | exact congrArg (fun q => (Sum.inl q : xV)) (eq_of_beq (show (x == y) = true from h))
    | exact congrArg (fun q => (Sum.inr (Sum.inl q) : xV)) (eq_of_beq (show (x == y) = true from h))
    | exact congrArg (fun q => (Sum.inr (Sum.inr (Sum.inl q)) : xV)) (eq_of_beq (show (x == y) = true from h))
    | exact congrArg (fun q => (Sum.inr (Sum.inr (Sum.inr (Sum.inl q))) : xV)) (eq_of_beq (show (x == y) = true from h))
    | exact congrArg (fun q => (Sum.inr (Sum.inr (Sum.inr (Sum.inr q))) : xV)) (eq_of_beq (show (x == y) = true from h))
theorem xbq {c d : Option xV} (h : (c == d) = true) : c = d := by
  cases c with
  | none => cases d with
    | none => rfl
    | some v => cases h
  | some u => cases d with
    | none => cases h
    | some v => exact congrArg some (xbv (show (u == v) = true from h))
def xri : Option xV → Instr
  | none => .return_
  | some (.inl _) => .ireturn
  | some (.inr (.inl _)) => .lreturn
  | some (.inr (.inr (.inl _))) => .freturn
  | some (.inr (.inr (.inr (.inl _)))) => .dreturn
  | some (.inr (.inr (.inr (.inr _)))) => .areturn
def xrt (rt : Option FieldType) : Option xV → Prop
  | none => rt = none
  | some (.inl x) => rt = some .int ∨ (rt = some .boolean ∧ x &&& 1 = x)
  | some (.inr (.inl _)) => rt = some .long
  | some (.inr (.inr (.inl _))) => False
  | some (.inr (.inr (.inr (.inl _)))) => rt = some .double
  | some (.inr (.inr (.inr (.inr _)))) => ∃ q, rt = some (.object q)
def xwz : xNx → xW
  | .inl q => q.2.2.2
  | .inr q => q.2
def xKz (p : Program) (l : Launch) (e : Env) (R : Room) (s : State) (m : MethodId) (args : Array Value) (below : List Frame) (meth : Method) (c : Code) (Q : State → Prop) (D : va_G) (z0 : Nat) (w0 : xW) (n mi : Nat) : xNx → Prop
  | .inl q => xWn p l e R s m args below meth c Q D z0 w0 n q.1 q.2.1 q.2.2.1 q.2.2.2
  | .inr q => ∀ (pc : Nat) (ls : Array Slot) (H : Heap) (locs : List Loc) (cells slots : Nat), xSt D z0 s w0 H locs cells slots q.2 → decode (xmi mi).2.2.1 pc = .ok (xri q.1, 1) → xrt (xmi mi).2.2.2 q.1 → W p l e R s m args below meth c H locs cells slots Q (F0 m pc ls (q.1.map xv).toList)
def xG (p : Program) (l : Launch) (e : Env) (R : Room) (s : State) (m : MethodId) (args : Array Value) (below : List Frame) (meth : Method) (c : Code) (Q : State → Prop) (D : va_G) (z0 : Nat) (w0 wE : xW) (n mi pc : Nat) (lo : xL) (st : List xV) (w : xW) (z : xNx) : Prop :=
  xle w (xwz z) ∧ (xle (xwz z) wE → wE.1 ≤ w0.1 + R.cells → wE.2.1 ≤ w0.2.1 + R.slots → xKz p l e R s m args below meth c Q D z0 w0 n mi z → xWn p l e R s m args below meth c Q D z0 w0 n pc lo st w)
section XZ
variable {p : Program} {l : Launch} {e : Env} {R : Room} {s : State} {m : MethodId} {args : Array Value} {below : List Frame} {meth : Method} {c : Code} {Q : State → Prop} {D : va_G} {z0 : Nat} {w0 w wE : xW} {mi n pc len a b : Nat} {cv : Option xV} {mm : List Bool} {lo : xL} {st : List xV} {cal : Nat → List xV → xW → Option xR} {z : xNx}
theorem xz_iconst {q : Int} (hC : xCx p R s m meth c D z0 w0 mi) (hn : n = xml mi) (hk : xchk mi pc ((.iconst q), len, a, b, cv, mm) = true) (h : xexec cal (.iconst q) pc len a b cv lo st w xk0 xr0 = some z) : xG p l e R s m args below meth c Q D z0 w0 wE n mi pc lo st w z := by
  simp only [xchk, Bool.and_eq_true, decide_eq_true_eq, beq_iff_eq] at hk
  simp only [xexec] at h
  obtain ⟨⟨hd, -⟩, rfl, hv⟩ := hk
  have hv := xbq hv
  subst hv
  obtain ⟨v, hv, h⟩ := xcv_s h
  cases hv
  obtain rfl := xk0_s h
  exact ⟨xle_r _, fun _ _ _ K hn1 ls H locs cells slots hls hSt => lv_iconst hC.1 hC.2.1 hd rfl (K hn1 ls H locs cells slots hls hSt)⟩
theorem xz_bipush {q : Int} (hC : xCx p R s m meth c D z0 w0 mi) (hn : n = xml mi) (hk : xchk mi pc ((.bipush q), len, a, b, cv, mm) = true) (h : xexec cal (.bipush q) pc len a b cv lo st w xk0 xr0 = some z) : xG p l e R s m args below meth c Q D z0 w0 wE n mi pc lo st w z := by
  simp only [xchk, Bool.and_eq_true, decide_eq_true_eq, beq_iff_eq] at hk
  simp only [xexec] at h
  obtain ⟨⟨hd, -⟩, rfl, hv⟩ := hk
  have hv := xbq hv
  subst hv
  obtain ⟨v, hv, h⟩ := xcv_s h
  cases hv
  obtain rfl := xk0_s h
  exact ⟨xle_r _, fun _ _ _ K hn1 ls H locs cells slots hls hSt => lv_bipush hC.1 hC.2.1 hd rfl (K hn1 ls H locs cells slots hls hSt)⟩
theorem xz_sipush {q : Int} (hC : xCx p R s m meth c D z0 w0 mi) (hn : n = xml mi) (hk : xchk mi pc ((.sipush q), len, a, b, cv, mm) = true) (h : xexec cal (.sipush q) pc len a b cv lo st w xk0 xr0 = some z) : xG p l e R s m args below meth c Q D z0 w0 wE n mi pc lo st w z := by
  simp only [xchk, Bool.and_eq_true, decide_eq_true_eq, beq_iff_eq] at hk
  simp only [xexec] at h
  obtain ⟨⟨hd, -⟩, rfl, hv⟩ := hk
  have hv := xbq hv
  subst hv
  obtain ⟨v, hv, h⟩ := xcv_s h
  cases hv
  obtain rfl := xk0_s h
  exact ⟨xle_r _, fun _ _ _ K hn1 ls H locs cells slots hls hSt => lv_sipush hC.1 hC.2.1 hd rfl (K hn1 ls H locs cells slots hls hSt)⟩
theorem xz_lconst {q : Fin 2} (hC : xCx p R s m meth c D z0 w0 mi) (hn : n = xml mi) (hk : xchk mi pc ((.lconst q), len, a, b, cv, mm) = true) (h : xexec cal (.lconst q) pc len a b cv lo st w xk0 xr0 = some z) : xG p l e R s m args below meth c Q D z0 w0 wE n mi pc lo st w z := by
  simp only [xchk, Bool.and_eq_true, decide_eq_true_eq, beq_iff_eq] at hk
  simp only [xexec] at h
  obtain ⟨⟨hd, -⟩, rfl, hv⟩ := hk
  have hv := xbq hv
  subst hv
  obtain ⟨v, hv, h⟩ := xcv_s h
  cases hv
  obtain rfl := xk0_s h
  exact ⟨xle_r _, fun _ _ _ K hn1 ls H locs cells slots hls hSt => lv_lconst hC.1 hC.2.1 hd rfl (K hn1 ls H locs cells slots hls hSt)⟩
theorem xz_fconst {q : Fin 3} (hC : xCx p R s m meth c D z0 w0 mi) (hn : n = xml mi) (hk : xchk mi pc ((.fconst q), len, a, b, cv, mm) = true) (h : xexec cal (.fconst q) pc len a b cv lo st w xk0 xr0 = some z) : xG p l e R s m args below meth c Q D z0 w0 wE n mi pc lo st w z := by
  simp only [xchk, Bool.and_eq_true, decide_eq_true_eq, beq_iff_eq] at hk
  simp only [xexec] at h
  obtain ⟨⟨hd, -⟩, ⟨rfl, rfl⟩, hv⟩ := hk
  have hv := xbq hv
  subst hv
  obtain ⟨v, hv, h⟩ := xcv_s h
  cases hv
  obtain rfl := xk0_s h
  exact ⟨xle_r _, fun _ _ _ K hn1 ls H locs cells slots hls hSt => lv_fconst0 hC.1 hC.2.1 hd (K hn1 ls H locs cells slots hls hSt)⟩
theorem xz_dconst {q : Fin 2} (hC : xCx p R s m meth c D z0 w0 mi) (hn : n = xml mi) (hk : xchk mi pc ((.dconst q), len, a, b, cv, mm) = true) (h : xexec cal (.dconst q) pc len a b cv lo st w xk0 xr0 = some z) : xG p l e R s m args below meth c Q D z0 w0 wE n mi pc lo st w z := by
  simp only [xchk, Bool.and_eq_true, decide_eq_true_eq, beq_iff_eq] at hk
  simp only [xexec] at h
  obtain ⟨⟨hd, -⟩, rfl, hv⟩ := hk
  have hv := xbq hv
  subst hv
  obtain ⟨v, hv, h⟩ := xcv_s h
  cases hv
  obtain rfl := xk0_s h
  match q, hd with
  | 0, hd => exact ⟨xle_r _, fun _ _ _ K hn1 ls H locs cells slots hls hSt => lv_dconst0 hC.1 hC.2.1 hd (K hn1 ls H locs cells slots hls hSt)⟩
  | 1, hd => exact ⟨xle_r _, fun _ _ _ K hn1 ls H locs cells slots hls hSt => lv_dconst1 hC.1 hC.2.1 hd (K hn1 ls H locs cells slots hls hSt)⟩
theorem xz_ldc {q : Nat} (hC : xCx p R s m meth c D z0 w0 mi) (hn : n = xml mi) (hk : xchk mi pc ((.ldc q), len, a, b, cv, mm) = true) (h : xexec cal (.ldc q) pc len a b cv lo st w xk0 xr0 = some z) : xG p l e R s m args below meth c Q D z0 w0 wE n mi pc lo st w z := by
  simp only [xchk, Bool.and_eq_true, decide_eq_true_eq, beq_iff_eq] at hk
  simp only [xexec] at h
  obtain ⟨⟨hd, -⟩, rfl, hv⟩ := hk
  obtain ⟨v, rfl, hh⟩ := xcv_s h
  replace h := hh
  clear hh
  obtain rfl := xk0_s h
  obtain x | x | x | x | x := v <;> simp only [reduceCtorEq] at hv
  · obtain ⟨i, hi⟩ := xinI_s hv
    exact ⟨xle_r _, fun _ _ _ K hn1 ls H locs cells slots hls hSt => lv_ldc hC.1 hC.2.1 hC.2.2.2.1 (xTb_word hC.2.2.2.2.2.1 (xgd_at (xkI_ok _ hi) rfl) args) hd (K hn1 ls H locs cells slots hls hSt)⟩
  · obtain ⟨i, hi⟩ := xinF_s hv
    exact ⟨xle_r _, fun _ _ _ K hn1 ls H locs cells slots hls hSt => lv_ldcf hC.1 hC.2.1 hC.2.2.2.1 (xTb_word hC.2.2.2.2.2.1 (xgd_at (xkF_ok _ hi) rfl) args) hd (K hn1 ls H locs cells slots hls hSt)⟩
theorem xz_ldc2_w {q : Nat} (hC : xCx p R s m meth c D z0 w0 mi) (hn : n = xml mi) (hk : xchk mi pc ((.ldc2_w q), len, a, b, cv, mm) = true) (h : xexec cal (.ldc2_w q) pc len a b cv lo st w xk0 xr0 = some z) : xG p l e R s m args below meth c Q D z0 w0 wE n mi pc lo st w z := by
  simp only [xchk, Bool.and_eq_true, decide_eq_true_eq, beq_iff_eq] at hk
  simp only [xexec] at h
  obtain ⟨⟨hd, -⟩, rfl, hv⟩ := hk
  obtain ⟨v, rfl, hh⟩ := xcv_s h
  replace h := hh
  clear hh
  obtain rfl := xk0_s h
  obtain x | x | x | x | x := v <;> simp only [reduceCtorEq] at hv
  · obtain ⟨i, hi⟩ := xinJ_s hv
    exact ⟨xle_r _, fun _ _ _ K hn1 ls H locs cells slots hls hSt => lv_ldc2 hC.1 hC.2.1 hC.2.2.2.1 (xTb_word hC.2.2.2.2.2.1 (xgd_at (xkJ_ok _ hi) rfl) args) hd (K hn1 ls H locs cells slots hls hSt)⟩
  · obtain ⟨i, hi⟩ := xinD_s hv
    exact ⟨xle_r _, fun _ _ _ K hn1 ls H locs cells slots hls hSt => lv_ldc2d hC.1 hC.2.1 hC.2.2.2.1 (xTb_word hC.2.2.2.2.2.1 (xgd_at (xkD_ok _ hi) rfl) args) hd (K hn1 ls H locs cells slots hls hSt)⟩
theorem xz_aconst_null (hC : xCx p R s m meth c D z0 w0 mi) (hn : n = xml mi) (hk : xchk mi pc (.aconst_null, len, a, b, cv, mm) = true) (h : xexec cal .aconst_null pc len a b cv lo st w xk0 xr0 = some z) : xG p l e R s m args below meth c Q D z0 w0 wE n mi pc lo st w z := by
  simp only [xchk, Bool.and_eq_true, decide_eq_true_eq, beq_iff_eq] at hk
  simp only [xexec] at h
  obtain ⟨⟨hd, -⟩, rfl⟩ := hk
  obtain rfl := xk0_s h
  exact ⟨xle_r _, fun _ _ _ K hn1 ls H locs cells slots hls hSt => lv_null hC.1 hC.2.1 hd (K hn1 ls H locs cells slots hls hSt)⟩
theorem xz_iload {q : Nat} (hC : xCx p R s m meth c D z0 w0 mi) (hn : n = xml mi) (hk : xchk mi pc ((.iload q), len, a, b, cv, mm) = true) (h : xexec cal (.iload q) pc len a b cv lo st w xk0 xr0 = some z) : xG p l e R s m args below meth c Q D z0 w0 wE n mi pc lo st w z := by
  simp only [xchk, Bool.and_eq_true, decide_eq_true_eq, beq_iff_eq] at hk
  simp only [xexec] at h
  obtain ⟨⟨hd, -⟩, rfl, rfl⟩ := hk
  obtain ⟨x, hx, h⟩ := xlI_s h
  obtain rfl := xk0_s h
  exact ⟨xle_r _, fun _ _ _ K hn1 ls H locs cells slots hls hSt => lv_iload hC.1 hC.2.1 hd (hls.2.2 _ _ hx) (K hn1 ls H locs cells slots hls hSt)⟩
theorem xz_iload_n {q : Fin 4} (hC : xCx p R s m meth c D z0 w0 mi) (hn : n = xml mi) (hk : xchk mi pc ((.iload_n q), len, a, b, cv, mm) = true) (h : xexec cal (.iload_n q) pc len a b cv lo st w xk0 xr0 = some z) : xG p l e R s m args below meth c Q D z0 w0 wE n mi pc lo st w z := by
  simp only [xchk, Bool.and_eq_true, decide_eq_true_eq, beq_iff_eq] at hk
  simp only [xexec] at h
  obtain ⟨⟨hd, -⟩, rfl, rfl⟩ := hk
  obtain ⟨x, hx, h⟩ := xlI_s h
  obtain rfl := xk0_s h
  exact ⟨xle_r _, fun _ _ _ K hn1 ls H locs cells slots hls hSt => lv_iload_n hC.1 hC.2.1 hd rfl (hls.2.2 _ _ hx) (K hn1 ls H locs cells slots hls hSt)⟩
theorem xz_lload {q : Nat} (hC : xCx p R s m meth c D z0 w0 mi) (hn : n = xml mi) (hk : xchk mi pc ((.lload q), len, a, b, cv, mm) = true) (h : xexec cal (.lload q) pc len a b cv lo st w xk0 xr0 = some z) : xG p l e R s m args below meth c Q D z0 w0 wE n mi pc lo st w z := by
  simp only [xchk, Bool.and_eq_true, decide_eq_true_eq, beq_iff_eq] at hk
  simp only [xexec] at h
  obtain ⟨⟨hd, -⟩, rfl, rfl⟩ := hk
  obtain ⟨x, hx, h⟩ := xlJ_s h
  obtain rfl := xk0_s h
  exact ⟨xle_r _, fun _ _ _ K hn1 ls H locs cells slots hls hSt => lv_lload hC.1 hC.2.1 hd (hls.2.2 _ _ hx) (K hn1 ls H locs cells slots hls hSt)⟩
theorem xz_lload_n {q : Fin 4} (hC : xCx p R s m meth c D z0 w0 mi) (hn : n = xml mi) (hk : xchk mi pc ((.lload_n q), len, a, b, cv, mm) = true) (h : xexec cal (.lload_n q) pc len a b cv lo st w xk0 xr0 = some z) : xG p l e R s m args below meth c Q D z0 w0 wE n mi pc lo st w z := by
  simp only [xchk, Bool.and_eq_true, decide_eq_true_eq, beq_iff_eq] at hk
  simp only [xexec] at h
  obtain ⟨⟨hd, -⟩, rfl, rfl⟩ := hk
  obtain ⟨x, hx, h⟩ := xlJ_s h
  obtain rfl := xk0_s h
  exact ⟨xle_r _, fun _ _ _ K hn1 ls H locs cells slots hls hSt => lv_lload_n hC.1 hC.2.1 hd rfl (hls.2.2 _ _ hx) (K hn1 ls H locs cells slots hls hSt)⟩
theorem xz_fload {q : Nat} (hC : xCx p R s m meth c D z0 w0 mi) (hn : n = xml mi) (hk : xchk mi pc ((.fload q), len, a, b, cv, mm) = true) (h : xexec cal (.fload q) pc len a b cv lo st w xk0 xr0 = some z) : xG p l e R s m args below meth c Q D z0 w0 wE n mi pc lo st w z := by
  simp only [xchk, Bool.and_eq_true, decide_eq_true_eq, beq_iff_eq] at hk
  simp only [xexec] at h
  obtain ⟨⟨hd, -⟩, rfl, rfl⟩ := hk
  obtain ⟨x, hx, h⟩ := xlF_s h
  obtain rfl := xk0_s h
  exact ⟨xle_r _, fun _ _ _ K hn1 ls H locs cells slots hls hSt => lv_fload hC.1 hC.2.1 hd (hls.2.2 _ _ hx) (K hn1 ls H locs cells slots hls hSt)⟩
theorem xz_dload {q : Nat} (hC : xCx p R s m meth c D z0 w0 mi) (hn : n = xml mi) (hk : xchk mi pc ((.dload q), len, a, b, cv, mm) = true) (h : xexec cal (.dload q) pc len a b cv lo st w xk0 xr0 = some z) : xG p l e R s m args below meth c Q D z0 w0 wE n mi pc lo st w z := by
  simp only [xchk, Bool.and_eq_true, decide_eq_true_eq, beq_iff_eq] at hk
  simp only [xexec] at h
  obtain ⟨⟨hd, -⟩, rfl, rfl⟩ := hk
  obtain ⟨x, hx, h⟩ := xlD_s h
  obtain rfl := xk0_s h
  exact ⟨xle_r _, fun _ _ _ K hn1 ls H locs cells slots hls hSt => lv_dload hC.1 hC.2.1 hd (hls.2.2 _ _ hx) (K hn1 ls H locs cells slots hls hSt)⟩
theorem xz_dload_n {q : Fin 4} (hC : xCx p R s m meth c D z0 w0 mi) (hn : n = xml mi) (hk : xchk mi pc ((.dload_n q), len, a, b, cv, mm) = true) (h : xexec cal (.dload_n q) pc len a b cv lo st w xk0 xr0 = some z) : xG p l e R s m args below meth c Q D z0 w0 wE n mi pc lo st w z := by
  simp only [xchk, Bool.and_eq_true, decide_eq_true_eq, beq_iff_eq] at hk
  simp only [xexec] at h
  obtain ⟨⟨hd, -⟩, rfl, rfl⟩ := hk
  obtain ⟨x, hx, h⟩ := xlD_s h
  obtain rfl := xk0_s h
  exact ⟨xle_r _, fun _ _ _ K hn1 ls H locs cells slots hls hSt => lv_dload_n hC.1 hC.2.1 hd rfl (hls.2.2 _ _ hx) (K hn1 ls H locs cells slots hls hSt)⟩
theorem xz_aload {q : Nat} (hC : xCx p R s m meth c D z0 w0 mi) (hn : n = xml mi) (hk : xchk mi pc ((.aload q), len, a, b, cv, mm) = true) (h : xexec cal (.aload q) pc len a b cv lo st w xk0 xr0 = some z) : xG p l e R s m args below meth c Q D z0 w0 wE n mi pc lo st w z := by
  simp only [xchk, Bool.and_eq_true, decide_eq_true_eq, beq_iff_eq] at hk
  simp only [xexec] at h
  obtain ⟨⟨hd, -⟩, rfl, rfl⟩ := hk
  obtain ⟨x, hx, h⟩ := xlA_s h
  obtain rfl := xk0_s h
  cases x with
  | none => exact ⟨xle_r _, fun _ _ _ K hn1 ls H locs cells slots hls hSt => lv_aloadN hC.1 hC.2.1 hd (hls.2.2 _ _ hx) (K hn1 ls H locs cells slots hls hSt)⟩
  | some x => exact ⟨xle_r _, fun _ _ _ K hn1 ls H locs cells slots hls hSt => lv_aload hC.1 hC.2.1 hd (hls.2.2 _ _ hx) (K hn1 ls H locs cells slots hls hSt)⟩
theorem xz_aload_n {q : Fin 4} (hC : xCx p R s m meth c D z0 w0 mi) (hn : n = xml mi) (hk : xchk mi pc ((.aload_n q), len, a, b, cv, mm) = true) (h : xexec cal (.aload_n q) pc len a b cv lo st w xk0 xr0 = some z) : xG p l e R s m args below meth c Q D z0 w0 wE n mi pc lo st w z := by
  simp only [xchk, Bool.and_eq_true, decide_eq_true_eq, beq_iff_eq] at hk
  simp only [xexec] at h
  obtain ⟨⟨hd, -⟩, rfl, rfl⟩ := hk
  obtain ⟨x, hx, h⟩ := xlA_s h
  obtain rfl := xk0_s h
  cases x with
  | none => exact ⟨xle_r _, fun _ _ _ K hn1 ls H locs cells slots hls hSt => lv_aload_nN hC.1 hC.2.1 hd rfl (hls.2.2 _ _ hx) (K hn1 ls H locs cells slots hls hSt)⟩
  | some x => exact ⟨xle_r _, fun _ _ _ K hn1 ls H locs cells slots hls hSt => lv_aload_n hC.1 hC.2.1 hd rfl (hls.2.2 _ _ hx) (K hn1 ls H locs cells slots hls hSt)⟩
theorem xz_istore {q : Nat} (hC : xCx p R s m meth c D z0 w0 mi) (hn : n = xml mi) (hk : xchk mi pc ((.istore q), len, a, b, cv, mm) = true) (h : xexec cal (.istore q) pc len a b cv lo st w xk0 xr0 = some z) : xG p l e R s m args below meth c Q D z0 w0 wE n mi pc lo st w z := by
  simp only [xchk, Bool.and_eq_true, decide_eq_true_eq, beq_iff_eq] at hk
  simp only [xexec] at h
  obtain ⟨⟨hd, -⟩, ⟨rfl, rfl⟩, hb⟩ := hk
  rw [Nat.blt_eq] at hb
  obtain ⟨x, st, rfl, hh⟩ := xpI_s h
  replace h := hh
  clear hh
  obtain rfl := xk0_s h
  exact ⟨xle_r _, fun _ _ _ K hn1 ls H locs cells slots hls hSt => lv_istore hC.1 hC.2.1 hd (xLs_has hls) (by omega) rfl (fun ls2 h2 => K (by rw [xs1_len]; exact hn1) ls2 H locs cells slots (xLs_1 (by omega) h2) hSt)⟩
theorem xz_istore_n {q : Fin 4} (hC : xCx p R s m meth c D z0 w0 mi) (hn : n = xml mi) (hk : xchk mi pc ((.istore_n q), len, a, b, cv, mm) = true) (h : xexec cal (.istore_n q) pc len a b cv lo st w xk0 xr0 = some z) : xG p l e R s m args below meth c Q D z0 w0 wE n mi pc lo st w z := by
  simp only [xchk, Bool.and_eq_true, decide_eq_true_eq, beq_iff_eq] at hk
  simp only [xexec] at h
  obtain ⟨⟨hd, -⟩, ⟨rfl, rfl⟩, hb⟩ := hk
  rw [Nat.blt_eq] at hb
  obtain ⟨x, st, rfl, hh⟩ := xpI_s h
  replace h := hh
  clear hh
  obtain rfl := xk0_s h
  exact ⟨xle_r _, fun _ _ _ K hn1 ls H locs cells slots hls hSt => lv_istore_n hC.1 hC.2.1 hd rfl (xLs_has hls) (by omega) rfl (fun ls2 h2 => K (by rw [xs1_len]; exact hn1) ls2 H locs cells slots (xLs_1 (by omega) h2) hSt)⟩
theorem xz_lstore {q : Nat} (hC : xCx p R s m meth c D z0 w0 mi) (hn : n = xml mi) (hk : xchk mi pc ((.lstore q), len, a, b, cv, mm) = true) (h : xexec cal (.lstore q) pc len a b cv lo st w xk0 xr0 = some z) : xG p l e R s m args below meth c Q D z0 w0 wE n mi pc lo st w z := by
  simp only [xchk, Bool.and_eq_true, decide_eq_true_eq, beq_iff_eq] at hk
  simp only [xexec] at h
  obtain ⟨⟨hd, -⟩, ⟨rfl, rfl⟩, hb⟩ := hk
  rw [Nat.blt_eq] at hb
  obtain ⟨x, st, rfl, hh⟩ := xpJ_s h
  replace h := hh
  clear hh
  obtain rfl := xk0_s h
  exact ⟨xle_r _, fun _ _ _ K hn1 ls H locs cells slots hls hSt => lv_lstore hC.1 hC.2.1 hd (xLs_has hls) (by omega) rfl (fun ls2 h2 => K (by rw [xs2_len]; exact hn1) ls2 H locs cells slots (xLs_2 (by omega) h2) hSt)⟩
theorem xz_lstore_n {q : Fin 4} (hC : xCx p R s m meth c D z0 w0 mi) (hn : n = xml mi) (hk : xchk mi pc ((.lstore_n q), len, a, b, cv, mm) = true) (h : xexec cal (.lstore_n q) pc len a b cv lo st w xk0 xr0 = some z) : xG p l e R s m args below meth c Q D z0 w0 wE n mi pc lo st w z := by
  simp only [xchk, Bool.and_eq_true, decide_eq_true_eq, beq_iff_eq] at hk
  simp only [xexec] at h
  obtain ⟨⟨hd, -⟩, ⟨rfl, rfl⟩, hb⟩ := hk
  rw [Nat.blt_eq] at hb
  obtain ⟨x, st, rfl, hh⟩ := xpJ_s h
  replace h := hh
  clear hh
  obtain rfl := xk0_s h
  exact ⟨xle_r _, fun _ _ _ K hn1 ls H locs cells slots hls hSt => lv_lstore_n hC.1 hC.2.1 hd rfl (xLs_has hls) (by omega) rfl (fun ls2 h2 => K (by rw [xs2_len]; exact hn1) ls2 H locs cells slots (xLs_2 (by omega) h2) hSt)⟩
theorem xz_fstore {q : Nat} (hC : xCx p R s m meth c D z0 w0 mi) (hn : n = xml mi) (hk : xchk mi pc ((.fstore q), len, a, b, cv, mm) = true) (h : xexec cal (.fstore q) pc len a b cv lo st w xk0 xr0 = some z) : xG p l e R s m args below meth c Q D z0 w0 wE n mi pc lo st w z := by
  simp only [xchk, Bool.and_eq_true, decide_eq_true_eq, beq_iff_eq] at hk
  simp only [xexec] at h
  obtain ⟨⟨hd, -⟩, ⟨rfl, rfl⟩, hb⟩ := hk
  rw [Nat.blt_eq] at hb
  obtain ⟨x, st, rfl, hh⟩ := xpF_s h
  replace h := hh
  clear hh
  obtain rfl := xk0_s h
  exact ⟨xle_r _, fun _ _ _ K hn1 ls H locs cells slots hls hSt => lv_fstore hC.1 hC.2.1 hd (xLs_has hls) (by omega) rfl (fun ls2 h2 => K (by rw [xs1_len]; exact hn1) ls2 H locs cells slots (xLs_1 (by omega) h2) hSt)⟩
theorem xz_dstore {q : Nat} (hC : xCx p R s m meth c D z0 w0 mi) (hn : n = xml mi) (hk : xchk mi pc ((.dstore q), len, a, b, cv, mm) = true) (h : xexec cal (.dstore q) pc len a b cv lo st w xk0 xr0 = some z) : xG p l e R s m args below meth c Q D z0 w0 wE n mi pc lo st w z := by
  simp only [xchk, Bool.and_eq_true, decide_eq_true_eq, beq_iff_eq] at hk
  simp only [xexec] at h
  obtain ⟨⟨hd, -⟩, ⟨rfl, rfl⟩, hb⟩ := hk
  rw [Nat.blt_eq] at hb
  obtain ⟨x, st, rfl, hh⟩ := xpD_s h
  replace h := hh
  clear hh
  obtain rfl := xk0_s h
  exact ⟨xle_r _, fun _ _ _ K hn1 ls H locs cells slots hls hSt => lv_dstore hC.1 hC.2.1 hd (xLs_has hls) (by omega) rfl (fun ls2 h2 => K (by rw [xs2_len]; exact hn1) ls2 H locs cells slots (xLs_2 (by omega) h2) hSt)⟩
theorem xz_dstore_n {q : Fin 4} (hC : xCx p R s m meth c D z0 w0 mi) (hn : n = xml mi) (hk : xchk mi pc ((.dstore_n q), len, a, b, cv, mm) = true) (h : xexec cal (.dstore_n q) pc len a b cv lo st w xk0 xr0 = some z) : xG p l e R s m args below meth c Q D z0 w0 wE n mi pc lo st w z := by
  simp only [xchk, Bool.and_eq_true, decide_eq_true_eq, beq_iff_eq] at hk
  simp only [xexec] at h
  obtain ⟨⟨hd, -⟩, ⟨rfl, rfl⟩, hb⟩ := hk
  rw [Nat.blt_eq] at hb
  obtain ⟨x, st, rfl, hh⟩ := xpD_s h
  replace h := hh
  clear hh
  obtain rfl := xk0_s h
  exact ⟨xle_r _, fun _ _ _ K hn1 ls H locs cells slots hls hSt => lv_dstore_n hC.1 hC.2.1 hd rfl (xLs_has hls) (by omega) rfl (fun ls2 h2 => K (by rw [xs2_len]; exact hn1) ls2 H locs cells slots (xLs_2 (by omega) h2) hSt)⟩
theorem xz_astore {q : Nat} (hC : xCx p R s m meth c D z0 w0 mi) (hn : n = xml mi) (hk : xchk mi pc ((.astore q), len, a, b, cv, mm) = true) (h : xexec cal (.astore q) pc len a b cv lo st w xk0 xr0 = some z) : xG p l e R s m args below meth c Q D z0 w0 wE n mi pc lo st w z := by
  simp only [xchk, Bool.and_eq_true, decide_eq_true_eq, beq_iff_eq] at hk
  simp only [xexec] at h
  obtain ⟨⟨hd, -⟩, ⟨rfl, rfl⟩, hb⟩ := hk
  rw [Nat.blt_eq] at hb
  obtain ⟨x, st, rfl, hh⟩ := xpA_s h
  replace h := hh
  clear hh
  obtain rfl := xk0_s h
  cases x with
  | none => exact ⟨xle_r _, fun _ _ _ K hn1 ls H locs cells slots hls hSt => lv_astoreN hC.1 hC.2.1 hd (xLs_has hls) (by omega) rfl (fun ls2 h2 => K (by rw [xs1_len]; exact hn1) ls2 H locs cells slots (xLs_1 (by omega) h2) hSt)⟩
  | some x => exact ⟨xle_r _, fun _ _ _ K hn1 ls H locs cells slots hls hSt => lv_astore hC.1 hC.2.1 hd (xLs_has hls) (by omega) rfl (fun ls2 h2 => K (by rw [xs1_len]; exact hn1) ls2 H locs cells slots (xLs_1 (by omega) h2) hSt)⟩
theorem xz_astore_n {q : Fin 4} (hC : xCx p R s m meth c D z0 w0 mi) (hn : n = xml mi) (hk : xchk mi pc ((.astore_n q), len, a, b, cv, mm) = true) (h : xexec cal (.astore_n q) pc len a b cv lo st w xk0 xr0 = some z) : xG p l e R s m args below meth c Q D z0 w0 wE n mi pc lo st w z := by
  simp only [xchk, Bool.and_eq_true, decide_eq_true_eq, beq_iff_eq] at hk
  simp only [xexec] at h
  obtain ⟨⟨hd, -⟩, ⟨rfl, rfl⟩, hb⟩ := hk
  rw [Nat.blt_eq] at hb
  obtain ⟨x, st, rfl, hh⟩ := xpA_s h
  replace h := hh
  clear hh
  obtain rfl := xk0_s h
  cases x with
  | none => exact ⟨xle_r _, fun _ _ _ K hn1 ls H locs cells slots hls hSt => lv_astore_nN hC.1 hC.2.1 hd rfl (xLs_has hls) (by omega) rfl (fun ls2 h2 => K (by rw [xs1_len]; exact hn1) ls2 H locs cells slots (xLs_1 (by omega) h2) hSt)⟩
  | some x => exact ⟨xle_r _, fun _ _ _ K hn1 ls H locs cells slots hls hSt => lv_astore_n hC.1 hC.2.1 hd rfl (xLs_has hls) (by omega) rfl (fun ls2 h2 => K (by rw [xs1_len]; exact hn1) ls2 H locs cells slots (xLs_1 (by omega) h2) hSt)⟩
theorem xz_iinc {q : Nat} {q2 : Int} (hC : xCx p R s m meth c D z0 w0 mi) (hn : n = xml mi) (hk : xchk mi pc ((.iinc q q2), len, a, b, cv, mm) = true) (h : xexec cal (.iinc q q2) pc len a b cv lo st w xk0 xr0 = some z) : xG p l e R s m args below meth c Q D z0 w0 wE n mi pc lo st w z := by
  simp only [xchk, Bool.and_eq_true, decide_eq_true_eq, beq_iff_eq] at hk
  simp only [xexec] at h
  obtain ⟨⟨hd, -⟩, ⟨⟨rfl, rfl⟩, hb⟩, hv⟩ := hk
  rw [Nat.blt_eq] at hb
  have hv := xbq hv
  subst hv
  obtain ⟨x, hx, h⟩ := xlI_s h
  obtain ⟨v, hv, h⟩ := xcv_s h
  cases hv
  obtain ⟨y, hy, h⟩ := xrI_s h
  cases hy
  obtain rfl := xk0_s h
  exact ⟨xle_r _, fun _ _ _ K hn1 ls H locs cells slots hls hSt => by
    obtain ⟨j, hj⟩ := List.getElem?_of_mem (xprs_mem hx)
    exact lv_iinc hC.1 hC.2.1 hd (xLs_has hls) hj rfl (by omega) rfl (fun ls2 h2 => K (by rw [xs1_len]; exact hn1) ls2 H locs cells slots (xLs_1 (v := xI (x + Int32.ofInt q2)) (by omega) h2) hSt)⟩
theorem xz_iadd (hC : xCx p R s m meth c D z0 w0 mi) (hn : n = xml mi) (hk : xchk mi pc (.iadd, len, a, b, cv, mm) = true) (h : xexec cal .iadd pc len a b cv lo st w xk0 xr0 = some z) : xG p l e R s m args below meth c Q D z0 w0 wE n mi pc lo st w z := by
  simp only [xchk, Bool.and_eq_true, decide_eq_true_eq, beq_iff_eq] at hk
  simp only [xexec] at h
  obtain ⟨⟨hd, -⟩, rfl⟩ := hk
  obtain ⟨y, st, rfl, hh⟩ := xpI_s h
  replace h := hh
  clear hh
  obtain ⟨x, st, rfl, hh⟩ := xpI_s h
  replace h := hh
  clear hh
  obtain rfl := xk0_s h
  exact ⟨xle_r _, fun _ _ _ K hn1 ls H locs cells slots hls hSt => lv_iadd hC.1 hC.2.1 hd (K hn1 ls H locs cells slots hls hSt)⟩
theorem xz_isub (hC : xCx p R s m meth c D z0 w0 mi) (hn : n = xml mi) (hk : xchk mi pc (.isub, len, a, b, cv, mm) = true) (h : xexec cal .isub pc len a b cv lo st w xk0 xr0 = some z) : xG p l e R s m args below meth c Q D z0 w0 wE n mi pc lo st w z := by
  simp only [xchk, Bool.and_eq_true, decide_eq_true_eq, beq_iff_eq] at hk
  simp only [xexec] at h
  obtain ⟨⟨hd, -⟩, rfl⟩ := hk
  obtain ⟨y, st, rfl, hh⟩ := xpI_s h
  replace h := hh
  clear hh
  obtain ⟨x, st, rfl, hh⟩ := xpI_s h
  replace h := hh
  clear hh
  obtain rfl := xk0_s h
  exact ⟨xle_r _, fun _ _ _ K hn1 ls H locs cells slots hls hSt => lv_isub hC.1 hC.2.1 hd (K hn1 ls H locs cells slots hls hSt)⟩
theorem xz_imul (hC : xCx p R s m meth c D z0 w0 mi) (hn : n = xml mi) (hk : xchk mi pc (.imul, len, a, b, cv, mm) = true) (h : xexec cal .imul pc len a b cv lo st w xk0 xr0 = some z) : xG p l e R s m args below meth c Q D z0 w0 wE n mi pc lo st w z := by
  simp only [xchk, Bool.and_eq_true, decide_eq_true_eq, beq_iff_eq] at hk
  simp only [xexec] at h
  obtain ⟨⟨hd, -⟩, rfl⟩ := hk
  obtain ⟨y, st, rfl, hh⟩ := xpI_s h
  replace h := hh
  clear hh
  obtain ⟨x, st, rfl, hh⟩ := xpI_s h
  replace h := hh
  clear hh
  obtain rfl := xk0_s h
  exact ⟨xle_r _, fun _ _ _ K hn1 ls H locs cells slots hls hSt => lv_imul hC.1 hC.2.1 hd (K hn1 ls H locs cells slots hls hSt)⟩
theorem xz_iand (hC : xCx p R s m meth c D z0 w0 mi) (hn : n = xml mi) (hk : xchk mi pc (.iand, len, a, b, cv, mm) = true) (h : xexec cal .iand pc len a b cv lo st w xk0 xr0 = some z) : xG p l e R s m args below meth c Q D z0 w0 wE n mi pc lo st w z := by
  simp only [xchk, Bool.and_eq_true, decide_eq_true_eq, beq_iff_eq] at hk
  simp only [xexec] at h
  obtain ⟨⟨hd, -⟩, rfl⟩ := hk
  obtain ⟨y, st, rfl, hh⟩ := xpI_s h
  replace h := hh
  clear hh
  obtain ⟨x, st, rfl, hh⟩ := xpI_s h
  replace h := hh
  clear hh
  obtain rfl := xk0_s h
  exact ⟨xle_r _, fun _ _ _ K hn1 ls H locs cells slots hls hSt => lv_iand hC.1 hC.2.1 hd (K hn1 ls H locs cells slots hls hSt)⟩
theorem xz_ior (hC : xCx p R s m meth c D z0 w0 mi) (hn : n = xml mi) (hk : xchk mi pc (.ior, len, a, b, cv, mm) = true) (h : xexec cal .ior pc len a b cv lo st w xk0 xr0 = some z) : xG p l e R s m args below meth c Q D z0 w0 wE n mi pc lo st w z := by
  simp only [xchk, Bool.and_eq_true, decide_eq_true_eq, beq_iff_eq] at hk
  simp only [xexec] at h
  obtain ⟨⟨hd, -⟩, rfl⟩ := hk
  obtain ⟨y, st, rfl, hh⟩ := xpI_s h
  replace h := hh
  clear hh
  obtain ⟨x, st, rfl, hh⟩ := xpI_s h
  replace h := hh
  clear hh
  obtain rfl := xk0_s h
  exact ⟨xle_r _, fun _ _ _ K hn1 ls H locs cells slots hls hSt => lv_ior hC.1 hC.2.1 hd (K hn1 ls H locs cells slots hls hSt)⟩
theorem xz_ishl (hC : xCx p R s m meth c D z0 w0 mi) (hn : n = xml mi) (hk : xchk mi pc (.ishl, len, a, b, cv, mm) = true) (h : xexec cal .ishl pc len a b cv lo st w xk0 xr0 = some z) : xG p l e R s m args below meth c Q D z0 w0 wE n mi pc lo st w z := by
  simp only [xchk, Bool.and_eq_true, decide_eq_true_eq, beq_iff_eq] at hk
  simp only [xexec] at h
  obtain ⟨⟨hd, -⟩, rfl⟩ := hk
  obtain ⟨y, st, rfl, hh⟩ := xpI_s h
  replace h := hh
  clear hh
  obtain ⟨x, st, rfl, hh⟩ := xpI_s h
  replace h := hh
  clear hh
  obtain rfl := xk0_s h
  exact ⟨xle_r _, fun _ _ _ K hn1 ls H locs cells slots hls hSt => lv_ishl hC.1 hC.2.1 hd (K hn1 ls H locs cells slots hls hSt)⟩
theorem xz_ishr (hC : xCx p R s m meth c D z0 w0 mi) (hn : n = xml mi) (hk : xchk mi pc (.ishr, len, a, b, cv, mm) = true) (h : xexec cal .ishr pc len a b cv lo st w xk0 xr0 = some z) : xG p l e R s m args below meth c Q D z0 w0 wE n mi pc lo st w z := by
  simp only [xchk, Bool.and_eq_true, decide_eq_true_eq, beq_iff_eq] at hk
  simp only [xexec] at h
  obtain ⟨⟨hd, -⟩, rfl⟩ := hk
  obtain ⟨y, st, rfl, hh⟩ := xpI_s h
  replace h := hh
  clear hh
  obtain ⟨x, st, rfl, hh⟩ := xpI_s h
  replace h := hh
  clear hh
  obtain rfl := xk0_s h
  exact ⟨xle_r _, fun _ _ _ K hn1 ls H locs cells slots hls hSt => lv_ishr hC.1 hC.2.1 hd (K hn1 ls H locs cells slots hls hSt)⟩
theorem xz_ladd (hC : xCx p R s m meth c D z0 w0 mi) (hn : n = xml mi) (hk : xchk mi pc (.ladd, len, a, b, cv, mm) = true) (h : xexec cal .ladd pc len a b cv lo st w xk0 xr0 = some z) : xG p l e R s m args below meth c Q D z0 w0 wE n mi pc lo st w z := by
  simp only [xchk, Bool.and_eq_true, decide_eq_true_eq, beq_iff_eq] at hk
  simp only [xexec] at h
  obtain ⟨⟨hd, -⟩, rfl⟩ := hk
  obtain ⟨y, st, rfl, hh⟩ := xpJ_s h
  replace h := hh
  clear hh
  obtain ⟨x, st, rfl, hh⟩ := xpJ_s h
  replace h := hh
  clear hh
  obtain rfl := xk0_s h
  exact ⟨xle_r _, fun _ _ _ K hn1 ls H locs cells slots hls hSt => lv_ladd hC.1 hC.2.1 hd (K hn1 ls H locs cells slots hls hSt)⟩
theorem xz_lsub (hC : xCx p R s m meth c D z0 w0 mi) (hn : n = xml mi) (hk : xchk mi pc (.lsub, len, a, b, cv, mm) = true) (h : xexec cal .lsub pc len a b cv lo st w xk0 xr0 = some z) : xG p l e R s m args below meth c Q D z0 w0 wE n mi pc lo st w z := by
  simp only [xchk, Bool.and_eq_true, decide_eq_true_eq, beq_iff_eq] at hk
  simp only [xexec] at h
  obtain ⟨⟨hd, -⟩, rfl⟩ := hk
  obtain ⟨y, st, rfl, hh⟩ := xpJ_s h
  replace h := hh
  clear hh
  obtain ⟨x, st, rfl, hh⟩ := xpJ_s h
  replace h := hh
  clear hh
  obtain rfl := xk0_s h
  exact ⟨xle_r _, fun _ _ _ K hn1 ls H locs cells slots hls hSt => lv_lsub hC.1 hC.2.1 hd (K hn1 ls H locs cells slots hls hSt)⟩
theorem xz_land (hC : xCx p R s m meth c D z0 w0 mi) (hn : n = xml mi) (hk : xchk mi pc (.land, len, a, b, cv, mm) = true) (h : xexec cal .land pc len a b cv lo st w xk0 xr0 = some z) : xG p l e R s m args below meth c Q D z0 w0 wE n mi pc lo st w z := by
  simp only [xchk, Bool.and_eq_true, decide_eq_true_eq, beq_iff_eq] at hk
  simp only [xexec] at h
  obtain ⟨⟨hd, -⟩, rfl⟩ := hk
  obtain ⟨y, st, rfl, hh⟩ := xpJ_s h
  replace h := hh
  clear hh
  obtain ⟨x, st, rfl, hh⟩ := xpJ_s h
  replace h := hh
  clear hh
  obtain rfl := xk0_s h
  exact ⟨xle_r _, fun _ _ _ K hn1 ls H locs cells slots hls hSt => lv_land hC.1 hC.2.1 hd (K hn1 ls H locs cells slots hls hSt)⟩
theorem xz_lor (hC : xCx p R s m meth c D z0 w0 mi) (hn : n = xml mi) (hk : xchk mi pc (.lor, len, a, b, cv, mm) = true) (h : xexec cal .lor pc len a b cv lo st w xk0 xr0 = some z) : xG p l e R s m args below meth c Q D z0 w0 wE n mi pc lo st w z := by
  simp only [xchk, Bool.and_eq_true, decide_eq_true_eq, beq_iff_eq] at hk
  simp only [xexec] at h
  obtain ⟨⟨hd, -⟩, rfl⟩ := hk
  obtain ⟨y, st, rfl, hh⟩ := xpJ_s h
  replace h := hh
  clear hh
  obtain ⟨x, st, rfl, hh⟩ := xpJ_s h
  replace h := hh
  clear hh
  obtain rfl := xk0_s h
  exact ⟨xle_r _, fun _ _ _ K hn1 ls H locs cells slots hls hSt => lv_lor hC.1 hC.2.1 hd (K hn1 ls H locs cells slots hls hSt)⟩
theorem xz_lshl (hC : xCx p R s m meth c D z0 w0 mi) (hn : n = xml mi) (hk : xchk mi pc (.lshl, len, a, b, cv, mm) = true) (h : xexec cal .lshl pc len a b cv lo st w xk0 xr0 = some z) : xG p l e R s m args below meth c Q D z0 w0 wE n mi pc lo st w z := by
  simp only [xchk, Bool.and_eq_true, decide_eq_true_eq, beq_iff_eq] at hk
  simp only [xexec] at h
  obtain ⟨⟨hd, -⟩, rfl⟩ := hk
  obtain ⟨y, st, rfl, hh⟩ := xpI_s h
  replace h := hh
  clear hh
  obtain ⟨x, st, rfl, hh⟩ := xpJ_s h
  replace h := hh
  clear hh
  obtain rfl := xk0_s h
  exact ⟨xle_r _, fun _ _ _ K hn1 ls H locs cells slots hls hSt => lv_lshl hC.1 hC.2.1 hd rfl (K hn1 ls H locs cells slots hls hSt)⟩
theorem xz_idiv (hC : xCx p R s m meth c D z0 w0 mi) (hn : n = xml mi) (hk : xchk mi pc (.idiv, len, a, b, cv, mm) = true) (h : xexec cal .idiv pc len a b cv lo st w xk0 xr0 = some z) : xG p l e R s m args below meth c Q D z0 w0 wE n mi pc lo st w z := by
  simp only [xchk, Bool.and_eq_true, decide_eq_true_eq, beq_iff_eq] at hk
  simp only [xexec] at h
  obtain ⟨⟨hd, -⟩, rfl⟩ := hk
  obtain ⟨y, st, rfl, hh⟩ := xpI_s h
  replace h := hh
  clear hh
  obtain ⟨x, st, rfl, hh⟩ := xpI_s h
  replace h := hh
  clear hh
  split at h
  · cases h
  · next hne =>
    obtain rfl := xk0_s h
    exact ⟨xle_r _, fun _ _ _ K hn1 ls H locs cells slots hls hSt => lv_idiv hC.1 hC.2.1 hd hne (K hn1 ls H locs cells slots hls hSt)⟩
theorem xz_irem (hC : xCx p R s m meth c D z0 w0 mi) (hn : n = xml mi) (hk : xchk mi pc (.irem, len, a, b, cv, mm) = true) (h : xexec cal .irem pc len a b cv lo st w xk0 xr0 = some z) : xG p l e R s m args below meth c Q D z0 w0 wE n mi pc lo st w z := by
  simp only [xchk, Bool.and_eq_true, decide_eq_true_eq, beq_iff_eq] at hk
  simp only [xexec] at h
  obtain ⟨⟨hd, -⟩, rfl⟩ := hk
  obtain ⟨y, st, rfl, hh⟩ := xpI_s h
  replace h := hh
  clear hh
  obtain ⟨x, st, rfl, hh⟩ := xpI_s h
  replace h := hh
  clear hh
  split at h
  · cases h
  · next hne =>
    obtain rfl := xk0_s h
    exact ⟨xle_r _, fun _ _ _ K hn1 ls H locs cells slots hls hSt => lv_irem hC.1 hC.2.1 hd hne (K hn1 ls H locs cells slots hls hSt)⟩
theorem xz_lcmp (hC : xCx p R s m meth c D z0 w0 mi) (hn : n = xml mi) (hk : xchk mi pc (.lcmp, len, a, b, cv, mm) = true) (h : xexec cal .lcmp pc len a b cv lo st w xk0 xr0 = some z) : xG p l e R s m args below meth c Q D z0 w0 wE n mi pc lo st w z := by
  simp only [xchk, Bool.and_eq_true, decide_eq_true_eq, beq_iff_eq] at hk
  simp only [xexec] at h
  obtain ⟨⟨hd, -⟩, rfl⟩ := hk
  obtain ⟨y, st, rfl, hh⟩ := xpJ_s h
  replace h := hh
  clear hh
  obtain ⟨x, st, rfl, hh⟩ := xpJ_s h
  replace h := hh
  clear hh
  obtain rfl := xk0_s h
  exact ⟨xle_r _, fun _ _ _ K hn1 ls H locs cells slots hls hSt => W.lcmp hC.1 hC.2.1 hd (K hn1 ls H locs cells slots hls hSt)⟩
theorem xz_fadd (hC : xCx p R s m meth c D z0 w0 mi) (hn : n = xml mi) (hk : xchk mi pc (.fadd, len, a, b, cv, mm) = true) (h : xexec cal .fadd pc len a b cv lo st w xk0 xr0 = some z) : xG p l e R s m args below meth c Q D z0 w0 wE n mi pc lo st w z := by
  simp only [xchk, Bool.and_eq_true, decide_eq_true_eq, beq_iff_eq] at hk
  simp only [xexec] at h
  obtain ⟨⟨hd, -⟩, rfl⟩ := hk
  obtain ⟨y, st, rfl, hh⟩ := xpF_s h
  replace h := hh
  clear hh
  obtain ⟨x, st, rfl, hh⟩ := xpF_s h
  replace h := hh
  clear hh
  obtain ⟨hne, h⟩ := xnF_s h
  obtain rfl := xk0_s h
  exact ⟨xle_r _, fun _ _ _ K hn1 ls H locs cells slots hls hSt => lv_fadd hC.1 hC.2.1 hd hne (K hn1 ls H locs cells slots hls hSt)⟩
theorem xz_fdiv (hC : xCx p R s m meth c D z0 w0 mi) (hn : n = xml mi) (hk : xchk mi pc (.fdiv, len, a, b, cv, mm) = true) (h : xexec cal .fdiv pc len a b cv lo st w xk0 xr0 = some z) : xG p l e R s m args below meth c Q D z0 w0 wE n mi pc lo st w z := by
  simp only [xchk, Bool.and_eq_true, decide_eq_true_eq, beq_iff_eq] at hk
  simp only [xexec] at h
  obtain ⟨⟨hd, -⟩, rfl⟩ := hk
  obtain ⟨y, st, rfl, hh⟩ := xpF_s h
  replace h := hh
  clear hh
  obtain ⟨x, st, rfl, hh⟩ := xpF_s h
  replace h := hh
  clear hh
  obtain ⟨hne, h⟩ := xnF_s h
  obtain rfl := xk0_s h
  exact ⟨xle_r _, fun _ _ _ K hn1 ls H locs cells slots hls hSt => lv_fdiv hC.1 hC.2.1 hd hne (K hn1 ls H locs cells slots hls hSt)⟩
theorem xz_dadd (hC : xCx p R s m meth c D z0 w0 mi) (hn : n = xml mi) (hk : xchk mi pc (.dadd, len, a, b, cv, mm) = true) (h : xexec cal .dadd pc len a b cv lo st w xk0 xr0 = some z) : xG p l e R s m args below meth c Q D z0 w0 wE n mi pc lo st w z := by
  simp only [xchk, Bool.and_eq_true, decide_eq_true_eq, beq_iff_eq] at hk
  simp only [xexec] at h
  obtain ⟨⟨hd, -⟩, rfl⟩ := hk
  obtain ⟨y, st, rfl, hh⟩ := xpD_s h
  replace h := hh
  clear hh
  obtain ⟨x, st, rfl, hh⟩ := xpD_s h
  replace h := hh
  clear hh
  obtain ⟨hne, h⟩ := xnD_s h
  obtain rfl := xk0_s h
  exact ⟨xle_r _, fun _ _ _ K hn1 ls H locs cells slots hls hSt => lv_dadd hC.1 hC.2.1 hd hne (K hn1 ls H locs cells slots hls hSt)⟩
theorem xz_dsub (hC : xCx p R s m meth c D z0 w0 mi) (hn : n = xml mi) (hk : xchk mi pc (.dsub, len, a, b, cv, mm) = true) (h : xexec cal .dsub pc len a b cv lo st w xk0 xr0 = some z) : xG p l e R s m args below meth c Q D z0 w0 wE n mi pc lo st w z := by
  simp only [xchk, Bool.and_eq_true, decide_eq_true_eq, beq_iff_eq] at hk
  simp only [xexec] at h
  obtain ⟨⟨hd, -⟩, rfl⟩ := hk
  obtain ⟨y, st, rfl, hh⟩ := xpD_s h
  replace h := hh
  clear hh
  obtain ⟨x, st, rfl, hh⟩ := xpD_s h
  replace h := hh
  clear hh
  obtain ⟨hne, h⟩ := xnD_s h
  obtain rfl := xk0_s h
  exact ⟨xle_r _, fun _ _ _ K hn1 ls H locs cells slots hls hSt => lv_dsub hC.1 hC.2.1 hd hne (K hn1 ls H locs cells slots hls hSt)⟩
theorem xz_dmul (hC : xCx p R s m meth c D z0 w0 mi) (hn : n = xml mi) (hk : xchk mi pc (.dmul, len, a, b, cv, mm) = true) (h : xexec cal .dmul pc len a b cv lo st w xk0 xr0 = some z) : xG p l e R s m args below meth c Q D z0 w0 wE n mi pc lo st w z := by
  simp only [xchk, Bool.and_eq_true, decide_eq_true_eq, beq_iff_eq] at hk
  simp only [xexec] at h
  obtain ⟨⟨hd, -⟩, rfl⟩ := hk
  obtain ⟨y, st, rfl, hh⟩ := xpD_s h
  replace h := hh
  clear hh
  obtain ⟨x, st, rfl, hh⟩ := xpD_s h
  replace h := hh
  clear hh
  obtain ⟨hne, h⟩ := xnD_s h
  obtain rfl := xk0_s h
  exact ⟨xle_r _, fun _ _ _ K hn1 ls H locs cells slots hls hSt => lv_dmul hC.1 hC.2.1 hd hne (K hn1 ls H locs cells slots hls hSt)⟩
theorem xz_ddiv (hC : xCx p R s m meth c D z0 w0 mi) (hn : n = xml mi) (hk : xchk mi pc (.ddiv, len, a, b, cv, mm) = true) (h : xexec cal .ddiv pc len a b cv lo st w xk0 xr0 = some z) : xG p l e R s m args below meth c Q D z0 w0 wE n mi pc lo st w z := by
  simp only [xchk, Bool.and_eq_true, decide_eq_true_eq, beq_iff_eq] at hk
  simp only [xexec] at h
  obtain ⟨⟨hd, -⟩, rfl⟩ := hk
  obtain ⟨y, st, rfl, hh⟩ := xpD_s h
  replace h := hh
  clear hh
  obtain ⟨x, st, rfl, hh⟩ := xpD_s h
  replace h := hh
  clear hh
  obtain ⟨hne, h⟩ := xnD_s h
  obtain rfl := xk0_s h
  exact ⟨xle_r _, fun _ _ _ K hn1 ls H locs cells slots hls hSt => lv_ddiv hC.1 hC.2.1 hd hne (K hn1 ls H locs cells slots hls hSt)⟩
theorem xz_dneg (hC : xCx p R s m meth c D z0 w0 mi) (hn : n = xml mi) (hk : xchk mi pc (.dneg, len, a, b, cv, mm) = true) (h : xexec cal .dneg pc len a b cv lo st w xk0 xr0 = some z) : xG p l e R s m args below meth c Q D z0 w0 wE n mi pc lo st w z := by
  simp only [xchk, Bool.and_eq_true, decide_eq_true_eq, beq_iff_eq] at hk
  simp only [xexec] at h
  obtain ⟨⟨hd, -⟩, rfl⟩ := hk
  obtain ⟨x, st, rfl, hh⟩ := xpD_s h
  replace h := hh
  clear hh
  obtain rfl := xk0_s h
  exact ⟨xle_r _, fun _ _ _ K hn1 ls H locs cells slots hls hSt => lv_dneg hC.1 hC.2.1 hd (K hn1 ls H locs cells slots hls hSt)⟩
theorem xz_dcmp {q : CmpOp} (hC : xCx p R s m meth c D z0 w0 mi) (hn : n = xml mi) (hk : xchk mi pc ((.dcmp q), len, a, b, cv, mm) = true) (h : xexec cal (.dcmp q) pc len a b cv lo st w xk0 xr0 = some z) : xG p l e R s m args below meth c Q D z0 w0 wE n mi pc lo st w z := by
  simp only [xchk, Bool.and_eq_true, decide_eq_true_eq, beq_iff_eq] at hk
  simp only [xexec] at h
  obtain ⟨⟨hd, -⟩, rfl⟩ := hk
  obtain ⟨y, st, rfl, hh⟩ := xpD_s h
  replace h := hh
  clear hh
  obtain ⟨x, st, rfl, hh⟩ := xpD_s h
  replace h := hh
  clear hh
  obtain rfl := xk0_s h
  exact ⟨xle_r _, fun _ _ _ K hn1 ls H locs cells slots hls hSt => lv_dcmp hC.1 hC.2.1 hd (K hn1 ls H locs cells slots hls hSt)⟩
theorem xz_i2l (hC : xCx p R s m meth c D z0 w0 mi) (hn : n = xml mi) (hk : xchk mi pc (.i2l, len, a, b, cv, mm) = true) (h : xexec cal .i2l pc len a b cv lo st w xk0 xr0 = some z) : xG p l e R s m args below meth c Q D z0 w0 wE n mi pc lo st w z := by
  simp only [xchk, Bool.and_eq_true, decide_eq_true_eq, beq_iff_eq] at hk
  simp only [xexec] at h
  obtain ⟨⟨hd, -⟩, rfl⟩ := hk
  obtain ⟨x, st, rfl, hh⟩ := xpI_s h
  replace h := hh
  clear hh
  obtain rfl := xk0_s h
  exact ⟨xle_r _, fun _ _ _ K hn1 ls H locs cells slots hls hSt => lv_i2l hC.1 hC.2.1 hd rfl (K hn1 ls H locs cells slots hls hSt)⟩
theorem xz_l2i (hC : xCx p R s m meth c D z0 w0 mi) (hn : n = xml mi) (hk : xchk mi pc (.l2i, len, a, b, cv, mm) = true) (h : xexec cal .l2i pc len a b cv lo st w xk0 xr0 = some z) : xG p l e R s m args below meth c Q D z0 w0 wE n mi pc lo st w z := by
  simp only [xchk, Bool.and_eq_true, decide_eq_true_eq, beq_iff_eq] at hk
  simp only [xexec] at h
  obtain ⟨⟨hd, -⟩, rfl⟩ := hk
  obtain ⟨x, st, rfl, hh⟩ := xpJ_s h
  replace h := hh
  clear hh
  obtain rfl := xk0_s h
  exact ⟨xle_r _, fun _ _ _ K hn1 ls H locs cells slots hls hSt => lv_l2i hC.1 hC.2.1 hd rfl (K hn1 ls H locs cells slots hls hSt)⟩
theorem xz_i2b (hC : xCx p R s m meth c D z0 w0 mi) (hn : n = xml mi) (hk : xchk mi pc (.i2b, len, a, b, cv, mm) = true) (h : xexec cal .i2b pc len a b cv lo st w xk0 xr0 = some z) : xG p l e R s m args below meth c Q D z0 w0 wE n mi pc lo st w z := by
  simp only [xchk, Bool.and_eq_true, decide_eq_true_eq, beq_iff_eq] at hk
  simp only [xexec] at h
  obtain ⟨⟨hd, -⟩, rfl⟩ := hk
  obtain ⟨x, st, rfl, hh⟩ := xpI_s h
  replace h := hh
  clear hh
  obtain rfl := xk0_s h
  exact ⟨xle_r _, fun _ _ _ K hn1 ls H locs cells slots hls hSt => lv_i2b hC.1 hC.2.1 hd rfl (K hn1 ls H locs cells slots hls hSt)⟩
theorem xz_i2s (hC : xCx p R s m meth c D z0 w0 mi) (hn : n = xml mi) (hk : xchk mi pc (.i2s, len, a, b, cv, mm) = true) (h : xexec cal .i2s pc len a b cv lo st w xk0 xr0 = some z) : xG p l e R s m args below meth c Q D z0 w0 wE n mi pc lo st w z := by
  simp only [xchk, Bool.and_eq_true, decide_eq_true_eq, beq_iff_eq] at hk
  simp only [xexec] at h
  obtain ⟨⟨hd, -⟩, rfl⟩ := hk
  obtain ⟨x, st, rfl, hh⟩ := xpI_s h
  replace h := hh
  clear hh
  obtain rfl := xk0_s h
  exact ⟨xle_r _, fun _ _ _ K hn1 ls H locs cells slots hls hSt => lv_i2s hC.1 hC.2.1 hd rfl (K hn1 ls H locs cells slots hls hSt)⟩
theorem xz_i2c (hC : xCx p R s m meth c D z0 w0 mi) (hn : n = xml mi) (hk : xchk mi pc (.i2c, len, a, b, cv, mm) = true) (h : xexec cal .i2c pc len a b cv lo st w xk0 xr0 = some z) : xG p l e R s m args below meth c Q D z0 w0 wE n mi pc lo st w z := by
  simp only [xchk, Bool.and_eq_true, decide_eq_true_eq, beq_iff_eq] at hk
  simp only [xexec] at h
  obtain ⟨⟨hd, -⟩, rfl⟩ := hk
  obtain ⟨x, st, rfl, hh⟩ := xpI_s h
  replace h := hh
  clear hh
  obtain rfl := xk0_s h
  exact ⟨xle_r _, fun _ _ _ K hn1 ls H locs cells slots hls hSt => lv_i2c hC.1 hC.2.1 hd rfl (K hn1 ls H locs cells slots hls hSt)⟩
theorem xz_l2f (hC : xCx p R s m meth c D z0 w0 mi) (hn : n = xml mi) (hk : xchk mi pc (.l2f, len, a, b, cv, mm) = true) (h : xexec cal .l2f pc len a b cv lo st w xk0 xr0 = some z) : xG p l e R s m args below meth c Q D z0 w0 wE n mi pc lo st w z := by
  simp only [xchk, Bool.and_eq_true, decide_eq_true_eq, beq_iff_eq] at hk
  simp only [xexec] at h
  obtain ⟨⟨hd, -⟩, rfl⟩ := hk
  obtain ⟨x, st, rfl, hh⟩ := xpJ_s h
  replace h := hh
  clear hh
  obtain rfl := xk0_s h
  exact ⟨xle_r _, fun _ _ _ K hn1 ls H locs cells slots hls hSt => lv_l2f hC.1 hC.2.1 hd (K hn1 ls H locs cells slots hls hSt)⟩
theorem xz_l2d (hC : xCx p R s m meth c D z0 w0 mi) (hn : n = xml mi) (hk : xchk mi pc (.l2d, len, a, b, cv, mm) = true) (h : xexec cal .l2d pc len a b cv lo st w xk0 xr0 = some z) : xG p l e R s m args below meth c Q D z0 w0 wE n mi pc lo st w z := by
  simp only [xchk, Bool.and_eq_true, decide_eq_true_eq, beq_iff_eq] at hk
  simp only [xexec] at h
  obtain ⟨⟨hd, -⟩, rfl⟩ := hk
  obtain ⟨x, st, rfl, hh⟩ := xpJ_s h
  replace h := hh
  clear hh
  obtain rfl := xk0_s h
  exact ⟨xle_r _, fun _ _ _ K hn1 ls H locs cells slots hls hSt => lv_l2d hC.1 hC.2.1 hd (K hn1 ls H locs cells slots hls hSt)⟩
theorem xz_d2i (hC : xCx p R s m meth c D z0 w0 mi) (hn : n = xml mi) (hk : xchk mi pc (.d2i, len, a, b, cv, mm) = true) (h : xexec cal .d2i pc len a b cv lo st w xk0 xr0 = some z) : xG p l e R s m args below meth c Q D z0 w0 wE n mi pc lo st w z := by
  simp only [xchk, Bool.and_eq_true, decide_eq_true_eq, beq_iff_eq] at hk
  simp only [xexec] at h
  obtain ⟨⟨hd, -⟩, rfl⟩ := hk
  obtain ⟨x, st, rfl, hh⟩ := xpD_s h
  replace h := hh
  clear hh
  obtain rfl := xk0_s h
  exact ⟨xle_r _, fun _ _ _ K hn1 ls H locs cells slots hls hSt => lv_d2i hC.1 hC.2.1 hd (K hn1 ls H locs cells slots hls hSt)⟩
theorem xz_d2l (hC : xCx p R s m meth c D z0 w0 mi) (hn : n = xml mi) (hk : xchk mi pc (.d2l, len, a, b, cv, mm) = true) (h : xexec cal .d2l pc len a b cv lo st w xk0 xr0 = some z) : xG p l e R s m args below meth c Q D z0 w0 wE n mi pc lo st w z := by
  simp only [xchk, Bool.and_eq_true, decide_eq_true_eq, beq_iff_eq] at hk
  simp only [xexec] at h
  obtain ⟨⟨hd, -⟩, rfl⟩ := hk
  obtain ⟨x, st, rfl, hh⟩ := xpD_s h
  replace h := hh
  clear hh
  obtain rfl := xk0_s h
  exact ⟨xle_r _, fun _ _ _ K hn1 ls H locs cells slots hls hSt => lv_d2l hC.1 hC.2.1 hd (K hn1 ls H locs cells slots hls hSt)⟩
theorem xz_f2d (hC : xCx p R s m meth c D z0 w0 mi) (hn : n = xml mi) (hk : xchk mi pc (.f2d, len, a, b, cv, mm) = true) (h : xexec cal .f2d pc len a b cv lo st w xk0 xr0 = some z) : xG p l e R s m args below meth c Q D z0 w0 wE n mi pc lo st w z := by
  simp only [xchk, Bool.and_eq_true, decide_eq_true_eq, beq_iff_eq] at hk
  simp only [xexec] at h
  obtain ⟨⟨hd, -⟩, rfl⟩ := hk
  obtain ⟨x, st, rfl, hh⟩ := xpF_s h
  replace h := hh
  clear hh
  obtain ⟨hne, h⟩ := xnD_s h
  obtain rfl := xk0_s h
  exact ⟨xle_r _, fun _ _ _ K hn1 ls H locs cells slots hls hSt => lv_f2d hC.1 hC.2.1 hd hne (K hn1 ls H locs cells slots hls hSt)⟩
theorem xz_d2f (hC : xCx p R s m meth c D z0 w0 mi) (hn : n = xml mi) (hk : xchk mi pc (.d2f, len, a, b, cv, mm) = true) (h : xexec cal .d2f pc len a b cv lo st w xk0 xr0 = some z) : xG p l e R s m args below meth c Q D z0 w0 wE n mi pc lo st w z := by
  simp only [xchk, Bool.and_eq_true, decide_eq_true_eq, beq_iff_eq] at hk
  simp only [xexec] at h
  obtain ⟨⟨hd, -⟩, rfl⟩ := hk
  obtain ⟨x, st, rfl, hh⟩ := xpD_s h
  replace h := hh
  clear hh
  obtain ⟨hne, h⟩ := xnF_s h
  obtain rfl := xk0_s h
  exact ⟨xle_r _, fun _ _ _ K hn1 ls H locs cells slots hls hSt => lv_d2f hC.1 hC.2.1 hd hne (K hn1 ls H locs cells slots hls hSt)⟩
theorem xz_ifCond_eq {q : Int} (hC : xCx p R s m meth c D z0 w0 mi) (hn : n = xml mi) (hk : xchk mi pc ((.ifCond .eq q), len, a, b, cv, mm) = true) (h : xexec cal (.ifCond .eq q) pc len a b cv lo st w xk0 xr0 = some z) : xG p l e R s m args below meth c Q D z0 w0 wE n mi pc lo st w z := by
  simp only [xchk, Bool.and_eq_true, decide_eq_true_eq, beq_iff_eq] at hk
  simp only [xexec] at h
  obtain ⟨⟨hd, -⟩, rfl, ht⟩ := hk
  obtain ⟨x, st, rfl, hh⟩ := xpI_s h
  replace h := hh
  clear hh
  split at h
  · next hc =>
    obtain rfl := xk0_s h
    exact ⟨xle_r _, fun _ _ _ K hn1 ls H locs cells slots hls hSt => lv_if_eq hC.1 hC.2.1 hd ht (fun _ => K hn1 ls H locs cells slots hls hSt) (fun g => absurd hc g)⟩
  · next hc =>
    obtain rfl := xk0_s h
    exact ⟨xle_r _, fun _ _ _ K hn1 ls H locs cells slots hls hSt => lv_if_eq hC.1 hC.2.1 hd ht (fun g => absurd g hc) (fun _ => K hn1 ls H locs cells slots hls hSt)⟩
theorem xz_ifCond_ne {q : Int} (hC : xCx p R s m meth c D z0 w0 mi) (hn : n = xml mi) (hk : xchk mi pc ((.ifCond .ne q), len, a, b, cv, mm) = true) (h : xexec cal (.ifCond .ne q) pc len a b cv lo st w xk0 xr0 = some z) : xG p l e R s m args below meth c Q D z0 w0 wE n mi pc lo st w z := by
  simp only [xchk, Bool.and_eq_true, decide_eq_true_eq, beq_iff_eq] at hk
  simp only [xexec] at h
  obtain ⟨⟨hd, -⟩, rfl, ht⟩ := hk
  obtain ⟨x, st, rfl, hh⟩ := xpI_s h
  replace h := hh
  clear hh
  split at h
  · next hc =>
    obtain rfl := xk0_s h
    exact ⟨xle_r _, fun _ _ _ K hn1 ls H locs cells slots hls hSt => lv_if_ne hC.1 hC.2.1 hd ht (fun g => absurd hc g) (fun _ => K hn1 ls H locs cells slots hls hSt)⟩
  · next hc =>
    obtain rfl := xk0_s h
    exact ⟨xle_r _, fun _ _ _ K hn1 ls H locs cells slots hls hSt => lv_if_ne hC.1 hC.2.1 hd ht (fun _ => K hn1 ls H locs cells slots hls hSt) (fun g => absurd g hc)⟩
theorem xz_ifCond_lt {q : Int} (hC : xCx p R s m meth c D z0 w0 mi) (hn : n = xml mi) (hk : xchk mi pc ((.ifCond .lt q), len, a, b, cv, mm) = true) (h : xexec cal (.ifCond .lt q) pc len a b cv lo st w xk0 xr0 = some z) : xG p l e R s m args below meth c Q D z0 w0 wE n mi pc lo st w z := by
  simp only [xchk, Bool.and_eq_true, decide_eq_true_eq, beq_iff_eq] at hk
  simp only [xexec] at h
  obtain ⟨⟨hd, -⟩, rfl, ht⟩ := hk
  obtain ⟨x, st, rfl, hh⟩ := xpI_s h
  replace h := hh
  clear hh
  split at h
  · next hc =>
    obtain rfl := xk0_s h
    exact ⟨xle_r _, fun _ _ _ K hn1 ls H locs cells slots hls hSt => lv_if_lt hC.1 hC.2.1 hd ht (fun _ => K hn1 ls H locs cells slots hls hSt) (fun g => absurd hc g)⟩
  · next hc =>
    obtain rfl := xk0_s h
    exact ⟨xle_r _, fun _ _ _ K hn1 ls H locs cells slots hls hSt => lv_if_lt hC.1 hC.2.1 hd ht (fun g => absurd g hc) (fun _ => K hn1 ls H locs cells slots hls hSt)⟩
theorem xz_ifCond_ge {q : Int} (hC : xCx p R s m meth c D z0 w0 mi) (hn : n = xml mi) (hk : xchk mi pc ((.ifCond .ge q), len, a, b, cv, mm) = true) (h : xexec cal (.ifCond .ge q) pc len a b cv lo st w xk0 xr0 = some z) : xG p l e R s m args below meth c Q D z0 w0 wE n mi pc lo st w z := by
  simp only [xchk, Bool.and_eq_true, decide_eq_true_eq, beq_iff_eq] at hk
  simp only [xexec] at h
  obtain ⟨⟨hd, -⟩, rfl, ht⟩ := hk
  obtain ⟨x, st, rfl, hh⟩ := xpI_s h
  replace h := hh
  clear hh
  split at h
  · next hc =>
    obtain rfl := xk0_s h
    exact ⟨xle_r _, fun _ _ _ K hn1 ls H locs cells slots hls hSt => lv_if_ge hC.1 hC.2.1 hd ht (fun g => absurd hc (xnlt.mpr g)) (fun _ => K hn1 ls H locs cells slots hls hSt)⟩
  · next hc =>
    obtain rfl := xk0_s h
    exact ⟨xle_r _, fun _ _ _ K hn1 ls H locs cells slots hls hSt => lv_if_ge hC.1 hC.2.1 hd ht (fun _ => K hn1 ls H locs cells slots hls hSt) (fun g => absurd (xnlt.mp hc) g)⟩
theorem xz_ifCond_gt {q : Int} (hC : xCx p R s m meth c D z0 w0 mi) (hn : n = xml mi) (hk : xchk mi pc ((.ifCond .gt q), len, a, b, cv, mm) = true) (h : xexec cal (.ifCond .gt q) pc len a b cv lo st w xk0 xr0 = some z) : xG p l e R s m args below meth c Q D z0 w0 wE n mi pc lo st w z := by
  simp only [xchk, Bool.and_eq_true, decide_eq_true_eq, beq_iff_eq] at hk
  simp only [xexec] at h
  obtain ⟨⟨hd, -⟩, rfl, ht⟩ := hk
  obtain ⟨x, st, rfl, hh⟩ := xpI_s h
  replace h := hh
  clear hh
  split at h
  · next hc =>
    obtain rfl := xk0_s h
    exact ⟨xle_r _, fun _ _ _ K hn1 ls H locs cells slots hls hSt => lv_if_gt hC.1 hC.2.1 hd ht (fun _ => K hn1 ls H locs cells slots hls hSt) (fun g => absurd hc g)⟩
  · next hc =>
    obtain rfl := xk0_s h
    exact ⟨xle_r _, fun _ _ _ K hn1 ls H locs cells slots hls hSt => lv_if_gt hC.1 hC.2.1 hd ht (fun g => absurd g hc) (fun _ => K hn1 ls H locs cells slots hls hSt)⟩
theorem xz_ifCond_le {q : Int} (hC : xCx p R s m meth c D z0 w0 mi) (hn : n = xml mi) (hk : xchk mi pc ((.ifCond .le q), len, a, b, cv, mm) = true) (h : xexec cal (.ifCond .le q) pc len a b cv lo st w xk0 xr0 = some z) : xG p l e R s m args below meth c Q D z0 w0 wE n mi pc lo st w z := by
  simp only [xchk, Bool.and_eq_true, decide_eq_true_eq, beq_iff_eq] at hk
  simp only [xexec] at h
  obtain ⟨⟨hd, -⟩, rfl, ht⟩ := hk
  obtain ⟨x, st, rfl, hh⟩ := xpI_s h
  replace h := hh
  clear hh
  split at h
  · next hc =>
    obtain rfl := xk0_s h
    exact ⟨xle_r _, fun _ _ _ K hn1 ls H locs cells slots hls hSt => lv_if_le hC.1 hC.2.1 hd ht (fun g => absurd hc (xnlt.mpr g)) (fun _ => K hn1 ls H locs cells slots hls hSt)⟩
  · next hc =>
    obtain rfl := xk0_s h
    exact ⟨xle_r _, fun _ _ _ K hn1 ls H locs cells slots hls hSt => lv_if_le hC.1 hC.2.1 hd ht (fun _ => K hn1 ls H locs cells slots hls hSt) (fun g => absurd (xnlt.mp hc) g)⟩
theorem xz_if_icmp_eq {q : Int} (hC : xCx p R s m meth c D z0 w0 mi) (hn : n = xml mi) (hk : xchk mi pc ((.if_icmp .eq q), len, a, b, cv, mm) = true) (h : xexec cal (.if_icmp .eq q) pc len a b cv lo st w xk0 xr0 = some z) : xG p l e R s m args below meth c Q D z0 w0 wE n mi pc lo st w z := by
  simp only [xchk, Bool.and_eq_true, decide_eq_true_eq, beq_iff_eq] at hk
  simp only [xexec] at h
  obtain ⟨⟨hd, -⟩, rfl, ht⟩ := hk
  obtain ⟨y, st, rfl, hh⟩ := xpI_s h
  replace h := hh
  clear hh
  obtain ⟨x, st, rfl, hh⟩ := xpI_s h
  replace h := hh
  clear hh
  split at h
  · next hc =>
    obtain rfl := xk0_s h
    exact ⟨xle_r _, fun _ _ _ K hn1 ls H locs cells slots hls hSt => lv_icmp_eq hC.1 hC.2.1 hd ht (fun _ => K hn1 ls H locs cells slots hls hSt) (fun g => absurd hc g)⟩
  · next hc =>
    obtain rfl := xk0_s h
    exact ⟨xle_r _, fun _ _ _ K hn1 ls H locs cells slots hls hSt => lv_icmp_eq hC.1 hC.2.1 hd ht (fun g => absurd g hc) (fun _ => K hn1 ls H locs cells slots hls hSt)⟩
theorem xz_if_icmp_ne {q : Int} (hC : xCx p R s m meth c D z0 w0 mi) (hn : n = xml mi) (hk : xchk mi pc ((.if_icmp .ne q), len, a, b, cv, mm) = true) (h : xexec cal (.if_icmp .ne q) pc len a b cv lo st w xk0 xr0 = some z) : xG p l e R s m args below meth c Q D z0 w0 wE n mi pc lo st w z := by
  simp only [xchk, Bool.and_eq_true, decide_eq_true_eq, beq_iff_eq] at hk
  simp only [xexec] at h
  obtain ⟨⟨hd, -⟩, rfl, ht⟩ := hk
  obtain ⟨y, st, rfl, hh⟩ := xpI_s h
  replace h := hh
  clear hh
  obtain ⟨x, st, rfl, hh⟩ := xpI_s h
  replace h := hh
  clear hh
  split at h
  · next hc =>
    obtain rfl := xk0_s h
    exact ⟨xle_r _, fun _ _ _ K hn1 ls H locs cells slots hls hSt => lv_icmp_ne hC.1 hC.2.1 hd ht (fun g => absurd hc g) (fun _ => K hn1 ls H locs cells slots hls hSt)⟩
  · next hc =>
    obtain rfl := xk0_s h
    exact ⟨xle_r _, fun _ _ _ K hn1 ls H locs cells slots hls hSt => lv_icmp_ne hC.1 hC.2.1 hd ht (fun _ => K hn1 ls H locs cells slots hls hSt) (fun g => absurd g hc)⟩
theorem xz_if_icmp_lt {q : Int} (hC : xCx p R s m meth c D z0 w0 mi) (hn : n = xml mi) (hk : xchk mi pc ((.if_icmp .lt q), len, a, b, cv, mm) = true) (h : xexec cal (.if_icmp .lt q) pc len a b cv lo st w xk0 xr0 = some z) : xG p l e R s m args below meth c Q D z0 w0 wE n mi pc lo st w z := by
  simp only [xchk, Bool.and_eq_true, decide_eq_true_eq, beq_iff_eq] at hk
  simp only [xexec] at h
  obtain ⟨⟨hd, -⟩, rfl, ht⟩ := hk
  obtain ⟨y, st, rfl, hh⟩ := xpI_s h
  replace h := hh
  clear hh
  obtain ⟨x, st, rfl, hh⟩ := xpI_s h
  replace h := hh
  clear hh
  split at h
  · next hc =>
    obtain rfl := xk0_s h
    exact ⟨xle_r _, fun _ _ _ K hn1 ls H locs cells slots hls hSt => lv_icmp_lt hC.1 hC.2.1 hd ht (fun _ => K hn1 ls H locs cells slots hls hSt) (fun g => absurd hc g)⟩
  · next hc =>
    obtain rfl := xk0_s h
    exact ⟨xle_r _, fun _ _ _ K hn1 ls H locs cells slots hls hSt => lv_icmp_lt hC.1 hC.2.1 hd ht (fun g => absurd g hc) (fun _ => K hn1 ls H locs cells slots hls hSt)⟩
theorem xz_if_icmp_ge {q : Int} (hC : xCx p R s m meth c D z0 w0 mi) (hn : n = xml mi) (hk : xchk mi pc ((.if_icmp .ge q), len, a, b, cv, mm) = true) (h : xexec cal (.if_icmp .ge q) pc len a b cv lo st w xk0 xr0 = some z) : xG p l e R s m args below meth c Q D z0 w0 wE n mi pc lo st w z := by
  simp only [xchk, Bool.and_eq_true, decide_eq_true_eq, beq_iff_eq] at hk
  simp only [xexec] at h
  obtain ⟨⟨hd, -⟩, rfl, ht⟩ := hk
  obtain ⟨y, st, rfl, hh⟩ := xpI_s h
  replace h := hh
  clear hh
  obtain ⟨x, st, rfl, hh⟩ := xpI_s h
  replace h := hh
  clear hh
  split at h
  · next hc =>
    obtain rfl := xk0_s h
    exact ⟨xle_r _, fun _ _ _ K hn1 ls H locs cells slots hls hSt => lv_icmp_ge hC.1 hC.2.1 hd ht (fun g => absurd hc (xnlt.mpr g)) (fun _ => K hn1 ls H locs cells slots hls hSt)⟩
  · next hc =>
    obtain rfl := xk0_s h
    exact ⟨xle_r _, fun _ _ _ K hn1 ls H locs cells slots hls hSt => lv_icmp_ge hC.1 hC.2.1 hd ht (fun _ => K hn1 ls H locs cells slots hls hSt) (fun g => absurd (xnlt.mp hc) g)⟩
theorem xz_if_icmp_gt {q : Int} (hC : xCx p R s m meth c D z0 w0 mi) (hn : n = xml mi) (hk : xchk mi pc ((.if_icmp .gt q), len, a, b, cv, mm) = true) (h : xexec cal (.if_icmp .gt q) pc len a b cv lo st w xk0 xr0 = some z) : xG p l e R s m args below meth c Q D z0 w0 wE n mi pc lo st w z := by
  simp only [xchk, Bool.and_eq_true, decide_eq_true_eq, beq_iff_eq] at hk
  simp only [xexec] at h
  obtain ⟨⟨hd, -⟩, rfl, ht⟩ := hk
  obtain ⟨y, st, rfl, hh⟩ := xpI_s h
  replace h := hh
  clear hh
  obtain ⟨x, st, rfl, hh⟩ := xpI_s h
  replace h := hh
  clear hh
  split at h
  · next hc =>
    obtain rfl := xk0_s h
    exact ⟨xle_r _, fun _ _ _ K hn1 ls H locs cells slots hls hSt => lv_icmp_gt hC.1 hC.2.1 hd ht (fun _ => K hn1 ls H locs cells slots hls hSt) (fun g => absurd hc g)⟩
  · next hc =>
    obtain rfl := xk0_s h
    exact ⟨xle_r _, fun _ _ _ K hn1 ls H locs cells slots hls hSt => lv_icmp_gt hC.1 hC.2.1 hd ht (fun g => absurd g hc) (fun _ => K hn1 ls H locs cells slots hls hSt)⟩
theorem xz_if_icmp_le {q : Int} (hC : xCx p R s m meth c D z0 w0 mi) (hn : n = xml mi) (hk : xchk mi pc ((.if_icmp .le q), len, a, b, cv, mm) = true) (h : xexec cal (.if_icmp .le q) pc len a b cv lo st w xk0 xr0 = some z) : xG p l e R s m args below meth c Q D z0 w0 wE n mi pc lo st w z := by
  simp only [xchk, Bool.and_eq_true, decide_eq_true_eq, beq_iff_eq] at hk
  simp only [xexec] at h
  obtain ⟨⟨hd, -⟩, rfl, ht⟩ := hk
  obtain ⟨y, st, rfl, hh⟩ := xpI_s h
  replace h := hh
  clear hh
  obtain ⟨x, st, rfl, hh⟩ := xpI_s h
  replace h := hh
  clear hh
  split at h
  · next hc =>
    obtain rfl := xk0_s h
    exact ⟨xle_r _, fun _ _ _ K hn1 ls H locs cells slots hls hSt => lv_icmp_le hC.1 hC.2.1 hd ht (fun g => absurd hc (xnlt.mpr g)) (fun _ => K hn1 ls H locs cells slots hls hSt)⟩
  · next hc =>
    obtain rfl := xk0_s h
    exact ⟨xle_r _, fun _ _ _ K hn1 ls H locs cells slots hls hSt => lv_icmp_le hC.1 hC.2.1 hd ht (fun _ => K hn1 ls H locs cells slots hls hSt) (fun g => absurd (xnlt.mp hc) g)⟩
theorem xz_if_acmp_ne {q : Int} (hC : xCx p R s m meth c D z0 w0 mi) (hn : n = xml mi) (hk : xchk mi pc ((.if_acmp .ne q), len, a, b, cv, mm) = true) (h : xexec cal (.if_acmp .ne q) pc len a b cv lo st w xk0 xr0 = some z) : xG p l e R s m args below meth c Q D z0 w0 wE n mi pc lo st w z := by
  simp only [xchk, Bool.and_eq_true, decide_eq_true_eq, beq_iff_eq] at hk
  simp only [xexec] at h
  obtain ⟨⟨hd, -⟩, rfl, ht⟩ := hk
  obtain ⟨y, st, rfl, hh⟩ := xpA_s h
  replace h := hh
  clear hh
  obtain ⟨x, st, rfl, hh⟩ := xpA_s h
  replace h := hh
  clear hh
  split at h
  · next hc =>
    obtain rfl := xk0_s h
    exact ⟨xle_r _, fun _ _ _ K hn1 ls H locs cells slots hls hSt => lv_acmp_ne (rx := x) (ry := y) hC.1 hC.2.1 hd ht (fun g => absurd hc g) (fun _ => K hn1 ls H locs cells slots hls hSt)⟩
  · next hc =>
    obtain rfl := xk0_s h
    exact ⟨xle_r _, fun _ _ _ K hn1 ls H locs cells slots hls hSt => lv_acmp_ne (rx := x) (ry := y) hC.1 hC.2.1 hd ht (fun _ => K hn1 ls H locs cells slots hls hSt) (fun g => absurd g hc)⟩
theorem xz_ifnonnull {q : Int} (hC : xCx p R s m meth c D z0 w0 mi) (hn : n = xml mi) (hk : xchk mi pc ((.ifnonnull q), len, a, b, cv, mm) = true) (h : xexec cal (.ifnonnull q) pc len a b cv lo st w xk0 xr0 = some z) : xG p l e R s m args below meth c Q D z0 w0 wE n mi pc lo st w z := by
  simp only [xchk, Bool.and_eq_true, decide_eq_true_eq, beq_iff_eq] at hk
  simp only [xexec] at h
  obtain ⟨⟨hd, -⟩, rfl, ht⟩ := hk
  obtain ⟨x, st, rfl, hh⟩ := xpA_s h
  replace h := hh
  clear hh
  split at h
  · next hc =>
    subst hc
    obtain rfl := xk0_s h
    exact ⟨xle_r _, fun _ _ _ K hn1 ls H locs cells slots hls hSt => lv_ifnonnullN hC.1 hC.2.1 hd (K hn1 ls H locs cells slots hls hSt)⟩
  · next hc =>
    obtain rfl := xk0_s h
    cases x with
    | none => exact absurd rfl hc
    | some x => exact ⟨xle_r _, fun _ _ _ K hn1 ls H locs cells slots hls hSt => lv_ifnonnull hC.1 hC.2.1 hd ht (K hn1 ls H locs cells slots hls hSt)⟩
theorem xz_goto {q : Int} (hC : xCx p R s m meth c D z0 w0 mi) (hn : n = xml mi) (hk : xchk mi pc ((.goto q), len, a, b, cv, mm) = true) (h : xexec cal (.goto q) pc len a b cv lo st w xk0 xr0 = some z) : xG p l e R s m args below meth c Q D z0 w0 wE n mi pc lo st w z := by
  simp only [xchk, Bool.and_eq_true, decide_eq_true_eq, beq_iff_eq] at hk
  simp only [xexec] at h
  obtain ⟨⟨hd, -⟩, rfl, ht⟩ := hk
  obtain rfl := xk0_s h
  exact ⟨xle_r _, fun _ _ _ K hn1 ls H locs cells slots hls hSt => lv_goto hC.1 hC.2.1 hd ht (K hn1 ls H locs cells slots hls hSt)⟩
theorem xz_tableswitch {q1 q2 q3 : Int} {q4 : Array Int} (hC : xCx p R s m meth c D z0 w0 mi) (hn : n = xml mi) (hk : xchk mi pc ((.tableswitch q1 q2 q3 q4), len, a, b, cv, mm) = true) (h : xexec cal (.tableswitch q1 q2 q3 q4) pc len a b cv lo st w xk0 xr0 = some z) : xG p l e R s m args below meth c Q D z0 w0 wE n mi pc lo st w z := by
  simp only [xchk, Bool.and_eq_true, decide_eq_true_eq, beq_iff_eq] at hk
  simp only [xexec] at h
  obtain ⟨⟨hd, -⟩, ⟨⟨⟨ht, h0⟩, h1⟩, h2⟩, h3⟩ := hk
  obtain ⟨x, st, rfl, hh⟩ := xpI_s h
  replace h := hh
  clear hh
  have hal : ∀ o ∈ q4.toList, 0 ≤ (pc : Int) + o := fun o ho => of_decide_eq_true (List.all_eq_true.mp h3 o ho)
  have hsz : q4.toList.length = q4.size := Array.length_toList
  rcases xsw_s _ _ h with ⟨j, o, hj, hx, h⟩ | ⟨hx, h⟩
  · obtain rfl := xk0_s h
    have hjl : j < q4.toList.length := (List.getElem?_eq_some_iff.mp hj).1
    have hxi : x.toInt = q2 + j := by
      rw [hx, Int32.toInt_ofInt_of_le (by omega) (by omega)]
    have ho : q4[(x.toInt - q2).toNat]? = some o := by
      rw [hxi, show (q2 + (j : Int) - q2).toNat = j by omega, ← Array.getElem?_toList]
      exact hj
    have htt : (pc : Int) + o = ((((pc : Int) + o).toNat : Nat) : Int) := (Int.toNat_of_nonneg (hal o (List.mem_of_getElem? hj))).symm
    exact ⟨xle_r _, fun _ _ _ K hn1 ls H locs cells slots hls hSt => lv_tableIn hC.1 hC.2.1 hd (by omega) (by omega) ho htt (K hn1 ls H locs cells slots hls hSt)⟩
  · obtain rfl := xk0_s h
    have hout : x.toInt < q2 ∨ q3 < x.toInt := by
      by_cases g : x.toInt < q2 ∨ q3 < x.toInt
      · exact g
      · exfalso
        have g1 : q2 ≤ x.toInt ∧ x.toInt ≤ q3 := ⟨by omega, by omega⟩
        refine hx (x.toInt - q2).toNat (by omega) ?_
        rw [show q2 + ((x.toInt - q2).toNat : Int) = x.toInt by omega]
        exact (Int32.ofInt_toInt x).symm
    exact ⟨xle_r _, fun _ _ _ K hn1 ls H locs cells slots hls hSt => lv_tableOut hC.1 hC.2.1 hd hout ht (K hn1 ls H locs cells slots hls hSt)⟩
theorem xz_ireturn (hC : xCx p R s m meth c D z0 w0 mi) (hn : n = xml mi) (hk : xchk mi pc (.ireturn, len, a, b, cv, mm) = true) (h : xexec cal .ireturn pc len a b cv lo st w xk0 xr0 = some z) : xG p l e R s m args below meth c Q D z0 w0 wE n mi pc lo st w z := by
  simp only [xchk, Bool.and_eq_true, decide_eq_true_eq, beq_iff_eq] at hk
  simp only [xexec] at h
  obtain ⟨⟨hd, -⟩, rfl, hr⟩ := hk
  obtain ⟨x, st, rfl, hh⟩ := xpI_s h
  replace h := hh
  clear hh
  obtain ⟨rfl, hh⟩ := xnl_s h
  replace h := hh
  clear hh
  cases b with
  | zero =>
    obtain rfl := xr0_s h
    exact ⟨xle_r _, fun _ _ _ K hn1 ls H locs cells slots hls hSt => K pc ls H locs cells slots hSt hd (Or.inl hr)⟩
  | succ b =>
    simp only at h
    split at h
    · next hx =>
      obtain rfl := xr0_s h
      exact ⟨xle_r _, fun _ _ _ K hn1 ls H locs cells slots hls hSt => K pc ls H locs cells slots hSt hd (Or.inr ⟨by simpa using hr, hx⟩)⟩
    · cases h
theorem xz_lreturn (hC : xCx p R s m meth c D z0 w0 mi) (hn : n = xml mi) (hk : xchk mi pc (.lreturn, len, a, b, cv, mm) = true) (h : xexec cal .lreturn pc len a b cv lo st w xk0 xr0 = some z) : xG p l e R s m args below meth c Q D z0 w0 wE n mi pc lo st w z := by
  simp only [xchk, Bool.and_eq_true, decide_eq_true_eq, beq_iff_eq] at hk
  simp only [xexec] at h
  obtain ⟨⟨hd, -⟩, rfl, hr⟩ := hk
  obtain ⟨x, st, rfl, hh⟩ := xpJ_s h
  replace h := hh
  clear hh
  obtain ⟨rfl, hh⟩ := xnl_s h
  replace h := hh
  clear hh
  obtain rfl := xr0_s h
  exact ⟨xle_r _, fun _ _ _ K hn1 ls H locs cells slots hls hSt => K pc ls H locs cells slots hSt hd (hr)⟩
theorem xz_dreturn (hC : xCx p R s m meth c D z0 w0 mi) (hn : n = xml mi) (hk : xchk mi pc (.dreturn, len, a, b, cv, mm) = true) (h : xexec cal .dreturn pc len a b cv lo st w xk0 xr0 = some z) : xG p l e R s m args below meth c Q D z0 w0 wE n mi pc lo st w z := by
  simp only [xchk, Bool.and_eq_true, decide_eq_true_eq, beq_iff_eq] at hk
  simp only [xexec] at h
  obtain ⟨⟨hd, -⟩, rfl, hr⟩ := hk
  obtain ⟨x, st, rfl, hh⟩ := xpD_s h
  replace h := hh
  clear hh
  obtain ⟨rfl, hh⟩ := xnl_s h
  replace h := hh
  clear hh
  obtain rfl := xr0_s h
  exact ⟨xle_r _, fun _ _ _ K hn1 ls H locs cells slots hls hSt => K pc ls H locs cells slots hSt hd (hr)⟩
theorem xz_areturn (hC : xCx p R s m meth c D z0 w0 mi) (hn : n = xml mi) (hk : xchk mi pc (.areturn, len, a, b, cv, mm) = true) (h : xexec cal .areturn pc len a b cv lo st w xk0 xr0 = some z) : xG p l e R s m args below meth c Q D z0 w0 wE n mi pc lo st w z := by
  simp only [xchk, Bool.and_eq_true, decide_eq_true_eq, beq_iff_eq] at hk
  simp only [xexec] at h
  obtain ⟨⟨hd, -⟩, rfl, hr⟩ := hk
  obtain ⟨x, st, rfl, hh⟩ := xpA_s h
  replace h := hh
  clear hh
  obtain ⟨rfl, hh⟩ := xnl_s h
  replace h := hh
  clear hh
  obtain rfl := xr0_s h
  have hr2 : ∃ q, (xmi mi).2.2.2 = some (.object q) := by
    split at hr
    · next q hq => exact ⟨q, hq⟩
    · cases hr
  exact ⟨xle_r _, fun _ _ _ K hn1 ls H locs cells slots hls hSt => K pc ls H locs cells slots hSt hd (hr2)⟩
theorem xz_return_ (hC : xCx p R s m meth c D z0 w0 mi) (hn : n = xml mi) (hk : xchk mi pc (.return_, len, a, b, cv, mm) = true) (h : xexec cal .return_ pc len a b cv lo st w xk0 xr0 = some z) : xG p l e R s m args below meth c Q D z0 w0 wE n mi pc lo st w z := by
  simp only [xchk, Bool.and_eq_true, decide_eq_true_eq, beq_iff_eq] at hk
  simp only [xexec] at h
  obtain ⟨⟨hd, -⟩, rfl, hr⟩ := hk
  obtain ⟨rfl, hh⟩ := xnl_s h
  replace h := hh
  clear hh
  obtain rfl := xr0_s h
  exact ⟨xle_r _, fun _ _ _ K hn1 ls H locs cells slots hls hSt => K pc ls H locs cells slots hSt hd (hr)⟩
theorem xz_getfield {q : Nat} (hC : xCx p R s m meth c D z0 w0 mi) (hn : n = xml mi) (hk : xchk mi pc ((.getfield q), len, a, b, cv, mm) = true) (h : xexec cal (.getfield q) pc len a b cv lo st w xk0 xr0 = some z) : xG p l e R s m args below meth c Q D z0 w0 wE n mi pc lo st w z := by
  simp only [xchk, Bool.and_eq_true, decide_eq_true_eq, beq_iff_eq] at hk
  simp only [xexec] at h
  obtain ⟨⟨hd, -⟩, ⟨⟨rfl, hin⟩, h8⟩, hk2⟩ := hk
  rw [Nat.blt_eq] at h8 hk2
  obtain ⟨r, st, rfl, hh⟩ := xpA_s h
  replace h := hh
  clear hh
  obtain ⟨o, rfl, hh⟩ := xbi_s h
  replace h := hh
  clear hh
  split at h
  · obtain ⟨x, hx, h⟩ := xbi_s h
    obtain ⟨fs, ho, hv⟩ := xgI_s hx
    obtain rfl := xk0_s h
    exact ⟨xle_r _, fun _ _ _ K => xh_get hC hd hin h8 hk2 ho hv K⟩
  · obtain ⟨x, hx, h⟩ := xbi_s h
    obtain ⟨fs, ho, hv⟩ := xgJ_s hx
    obtain rfl := xk0_s h
    exact ⟨xle_r _, fun _ _ _ K => xh_get hC hd hin h8 hk2 ho hv K⟩
  · obtain ⟨x, hx, h⟩ := xbi_s h
    obtain ⟨fs, ho, hv⟩ := xgD_s hx
    obtain rfl := xk0_s h
    exact ⟨xle_r _, fun _ _ _ K => xh_get hC hd hin h8 hk2 ho hv K⟩
  · obtain ⟨x, hx, h⟩ := xbi_s h
    obtain ⟨fs, ho, hv⟩ := xgA_s hx
    obtain rfl := xk0_s h
    exact ⟨xle_r _, fun _ _ _ K => xh_get hC hd hin h8 hk2 ho hv K⟩
  · cases h
theorem xrefok {ty : FieldType} (h : ty.isReference = true) (x : Option Nat) : narrow ty (xv (xA x)) = xv (xA x) ∧ fits ty (xv (xA x)) = true := by
  cases ty <;> simp [FieldType.isReference] at h <;> cases x <;> exact ⟨rfl, rfl⟩
theorem xz_putfield {q : Nat} (hC : xCx p R s m meth c D z0 w0 mi) (hn : n = xml mi) (hk : xchk mi pc ((.putfield q), len, a, b, cv, mm) = true) (h : xexec cal (.putfield q) pc len a b cv lo st w xk0 xr0 = some z) : xG p l e R s m args below meth c Q D z0 w0 wE n mi pc lo st w z := by
  simp only [xchk, Bool.and_eq_true, decide_eq_true_eq, beq_iff_eq] at hk
  simp only [xexec] at h
  obtain ⟨⟨hd, -⟩, ⟨⟨⟨⟨rfl, hin⟩, h8⟩, hk2⟩, hty⟩, hf⟩ := hk
  rw [Nat.blt_eq] at h8 hk2
  have hfin : (xTT a b).2.2.2 = false ∨ ((xmi mi).2.1.name = "<init>" ∧ (xTT a b).1 = xcs (xmi mi).1) := by
    simp only [Bool.or_eq_true, Bool.not_eq_true', Bool.and_eq_true, beq_iff_eq] at hf
    exact hf
  split at h
  · obtain ⟨x, st, rfl, hh⟩ := xpI_s h
    replace h := hh
    clear hh
    obtain ⟨r, st, rfl, hh⟩ := xpA_s h
    replace h := hh
    clear hh
    obtain ⟨o, rfl, hh⟩ := xbi_s h
    replace h := hh
    clear hh
    obtain ⟨w2, hx, h⟩ := xbi_s h
    obtain ⟨fs, ho, hl, rfl⟩ := xput_s hx
    obtain rfl := xk0_s h
    exact ⟨xle_set _ _ _, fun _ _ _ K => xh_put hC hd hin h8 hk2 ho hl (by rw [eq_of_beq hty]; exact ⟨rfl, rfl⟩) hfin K⟩
  · obtain ⟨x, st, rfl, hh⟩ := xpJ_s h
    replace h := hh
    clear hh
    obtain ⟨r, st, rfl, hh⟩ := xpA_s h
    replace h := hh
    clear hh
    obtain ⟨o, rfl, hh⟩ := xbi_s h
    replace h := hh
    clear hh
    obtain ⟨w2, hx, h⟩ := xbi_s h
    obtain ⟨fs, ho, hl, rfl⟩ := xput_s hx
    obtain rfl := xk0_s h
    exact ⟨xle_set _ _ _, fun _ _ _ K => xh_put hC hd hin h8 hk2 ho hl (by rw [eq_of_beq hty]; exact ⟨rfl, rfl⟩) hfin K⟩
  · obtain ⟨x, st, rfl, hh⟩ := xpD_s h
    replace h := hh
    clear hh
    obtain ⟨r, st, rfl, hh⟩ := xpA_s h
    replace h := hh
    clear hh
    obtain ⟨o, rfl, hh⟩ := xbi_s h
    replace h := hh
    clear hh
    obtain ⟨w2, hx, h⟩ := xbi_s h
    obtain ⟨fs, ho, hl, rfl⟩ := xput_s hx
    obtain rfl := xk0_s h
    exact ⟨xle_set _ _ _, fun _ _ _ K => xh_put hC hd hin h8 hk2 ho hl (by rw [eq_of_beq hty]; exact ⟨rfl, rfl⟩) hfin K⟩
  · obtain ⟨x, st, rfl, hh⟩ := xpA_s h
    replace h := hh
    clear hh
    obtain ⟨r, st, rfl, hh⟩ := xpA_s h
    replace h := hh
    clear hh
    obtain ⟨o, rfl, hh⟩ := xbi_s h
    replace h := hh
    clear hh
    obtain ⟨w2, hx, h⟩ := xbi_s h
    obtain ⟨fs, ho, hl, rfl⟩ := xput_s hx
    obtain rfl := xk0_s h
    exact ⟨xle_set _ _ _, fun _ _ _ K => xh_put hC hd hin h8 hk2 ho hl (xrefok hty x) hfin K⟩
  · cases h
theorem xz_getstatic {q : Nat} (hC : xCx p R s m meth c D z0 w0 mi) (hn : n = xml mi) (hk : xchk mi pc ((.getstatic q), len, a, b, cv, mm) = true) (h : xexec cal (.getstatic q) pc len a b cv lo st w xk0 xr0 = some z) : xG p l e R s m args below meth c Q D z0 w0 wE n mi pc lo st w z := by
  simp only [xchk, Bool.and_eq_true, decide_eq_true_eq, beq_iff_eq] at hk
  simp only [xexec] at h
  obtain ⟨⟨hd, -⟩, ⟨rfl, h6⟩, rfl⟩ := hk
  obtain rfl := xk0_s h
  exact ⟨xle_r _, fun _ _ _ K => xh_gets hC hd h6 K⟩
theorem xz_new {q : Nat} (hC : xCx p R s m meth c D z0 w0 mi) (hn : n = xml mi) (hk : xchk mi pc ((.new q), len, a, b, cv, mm) = true) (h : xexec cal (.new q) pc len a b cv lo st w xk0 xr0 = some z) : xG p l e R s m args below meth c Q D z0 w0 wE n mi pc lo st w z := by
  simp only [xchk, Bool.and_eq_true, decide_eq_true_eq, beq_iff_eq] at hk
  simp only [xexec] at h
  obtain ⟨⟨hd, -⟩, ⟨⟨rfl, hin⟩, h8⟩, rfl⟩ := hk
  rw [Nat.blt_eq] at h8
  obtain rfl := xk0_s h
  exact ⟨xle_push _ _ _, fun h1 h2 h3 K => xh_new hC hd hin h8 h1 h2 h3 K⟩
theorem xle_new {w w2 : xW} {k : Nat} {q : Int32} (h : xnew w k q = some w2) : xle w w2 := by
  unfold xnew at h
  split at h
  · cases h; exact xle_push _ _ _
  · cases h
theorem xle_sI {w w2 : xW} {o : Nat} {i x : Int32} (h : xsI w o i x = some w2) : xle w w2 := by
  unfold xsI at h
  split at h
  · split at h
    · cases h; exact xle_set _ _ _
    · cases h
  · cases h
theorem xle_sZ {w w2 : xW} {o : Nat} {i x : Int32} (h : xsZ w o i x = some w2) : xle w w2 := by
  unfold xsZ at h
  split at h
  · split at h
    · cases h; exact xle_set _ _ _
    · cases h
  · cases h
theorem xle_sJ {w w2 : xW} {o : Nat} {i : Int32} {x : Int64} (h : xsJ w o i x = some w2) : xle w w2 := by
  unfold xsJ at h
  split at h
  · split at h
    · cases h; exact xle_set _ _ _
    · cases h
  · cases h
theorem xle_sD {w w2 : xW} {o : Nat} {i : Int32} {x : UInt64} (h : xsD w o i x = some w2) : xle w w2 := by
  unfold xsD at h
  split at h
  · split at h
    · cases h; exact xle_set _ _ _
    · cases h
  · cases h
theorem xle_sA {w w2 : xW} {o : Nat} {i : Int32} {x : Nat} (h : xsA w o i x = some w2) : xle w w2 := by
  unfold xsA at h
  split at h
  · obtain ⟨q, -, h⟩ := xbi_s h
    split at h
    · cases h; exact xle_set _ _ _
    · cases h
  · cases h
theorem xz_newarray {q : ArrayType} (hC : xCx p R s m meth c D z0 w0 mi) (hn : n = xml mi) (hk : xchk mi pc ((.newarray q), len, a, b, cv, mm) = true) (h : xexec cal (.newarray q) pc len a b cv lo st w xk0 xr0 = some z) : xG p l e R s m args below meth c Q D z0 w0 wE n mi pc lo st w z := by
  simp only [xchk, Bool.and_eq_true, decide_eq_true_eq, beq_iff_eq] at hk
  simp only [xexec] at h
  obtain ⟨⟨hd, -⟩, rfl, ht⟩ := hk
  obtain ⟨x, st, rfl, hh⟩ := xpI_s h
  replace h := hh
  clear hh
  obtain ⟨w2, hw, h⟩ := xbi_s h
  obtain rfl := xk0_s h
  cases q with
  | int =>
    simp only [beq_iff_eq] at ht
    subst ht
    exact ⟨xle_new hw, fun h1 h2 h3 K => xh_newa hC hd rfl (xgd_at (i := 106) (by decide +kernel) rfl) (by decide) (by decide) hw (fun _ => rfl) h1 h2 h3 K⟩
  | long =>
    simp only [beq_iff_eq] at ht
    subst ht
    exact ⟨xle_new hw, fun h1 h2 h3 K => xh_newa hC hd rfl (xgd_at (i := 648) (by decide +kernel) rfl) (by decide) (by decide) hw (fun _ => rfl) h1 h2 h3 K⟩
  | double =>
    simp only [beq_iff_eq] at ht
    subst ht
    exact ⟨xle_new hw, fun h1 h2 h3 K => xh_newa hC hd rfl (xgd_at (i := 649) (by decide +kernel) rfl) (by decide) (by decide) hw (fun _ => rfl) h1 h2 h3 K⟩
  | boolean =>
    simp only [beq_iff_eq] at ht
    subst ht
    exact ⟨xle_new hw, fun h1 h2 h3 K => xh_newa hC hd rfl (xgd_at (i := 650) (by decide +kernel) rfl) (by decide) (by decide) hw (fun _ => rfl) h1 h2 h3 K⟩
  | _ => cases ht
theorem xz_anewarray {q : Nat} (hC : xCx p R s m meth c D z0 w0 mi) (hn : n = xml mi) (hk : xchk mi pc ((.anewarray q), len, a, b, cv, mm) = true) (h : xexec cal (.anewarray q) pc len a b cv lo st w xk0 xr0 = some z) : xG p l e R s m args below meth c Q D z0 w0 wE n mi pc lo st w z := by
  simp only [xchk, Bool.and_eq_true, decide_eq_true_eq, beq_iff_eq] at hk
  simp only [xexec] at h
  obtain ⟨⟨hd, -⟩, ⟨rfl, hin⟩, ha⟩ := hk
  obtain ⟨x, st, rfl, hh⟩ := xpI_s h
  replace h := hh
  clear hh
  obtain ⟨w2, hw, h⟩ := xbi_s h
  obtain rfl := xk0_s h
  have ha2 : a = 4 ∨ a = 5 ∨ a = 6 := by
    simp only [Bool.or_eq_true, beq_iff_eq] at ha
    omega
  exact ⟨xle_new hw, fun h1 h2 h3 K => xh_newq hC hd hin ha2 hw h1 h2 h3 K⟩
theorem xz_arraylength (hC : xCx p R s m meth c D z0 w0 mi) (hn : n = xml mi) (hk : xchk mi pc (.arraylength, len, a, b, cv, mm) = true) (h : xexec cal .arraylength pc len a b cv lo st w xk0 xr0 = some z) : xG p l e R s m args below meth c Q D z0 w0 wE n mi pc lo st w z := by
  simp only [xchk, Bool.and_eq_true, decide_eq_true_eq, beq_iff_eq] at hk
  simp only [xexec] at h
  obtain ⟨⟨hd, -⟩, rfl⟩ := hk
  obtain ⟨r, st, rfl, hh⟩ := xpA_s h
  replace h := hh
  clear hh
  obtain ⟨o, rfl, hh⟩ := xbi_s h
  replace h := hh
  clear hh
  obtain ⟨x, hx, h⟩ := xbi_s h
  unfold xlen at hx
  split at hx
  · next q hq =>
    cases hx
    obtain rfl := xk0_s h
    exact ⟨xle_r _, fun _ _ _ K => xh_len hC hd hq K⟩
  · cases hx
theorem xz_iaload (hC : xCx p R s m meth c D z0 w0 mi) (hn : n = xml mi) (hk : xchk mi pc (.iaload, len, a, b, cv, mm) = true) (h : xexec cal .iaload pc len a b cv lo st w xk0 xr0 = some z) : xG p l e R s m args below meth c Q D z0 w0 wE n mi pc lo st w z := by
  simp only [xchk, Bool.and_eq_true, decide_eq_true_eq, beq_iff_eq] at hk
  simp only [xexec] at h
  obtain ⟨⟨hd, -⟩, rfl⟩ := hk
  obtain ⟨i, st, rfl, hh⟩ := xpI_s h
  replace h := hh
  clear hh
  obtain ⟨r, st, rfl, hh⟩ := xpA_s h
  replace h := hh
  clear hh
  obtain ⟨o, rfl, hh⟩ := xbi_s h
  replace h := hh
  clear hh
  obtain ⟨x, hx, h⟩ := xbi_s h
  obtain rfl := xk0_s h
  exact ⟨xle_r _, fun _ _ _ K => xh_ald hC hd hx K⟩
theorem xz_baload (hC : xCx p R s m meth c D z0 w0 mi) (hn : n = xml mi) (hk : xchk mi pc (.baload, len, a, b, cv, mm) = true) (h : xexec cal .baload pc len a b cv lo st w xk0 xr0 = some z) : xG p l e R s m args below meth c Q D z0 w0 wE n mi pc lo st w z := by
  simp only [xchk, Bool.and_eq_true, decide_eq_true_eq, beq_iff_eq] at hk
  simp only [xexec] at h
  obtain ⟨⟨hd, -⟩, rfl⟩ := hk
  obtain ⟨i, st, rfl, hh⟩ := xpI_s h
  replace h := hh
  clear hh
  obtain ⟨r, st, rfl, hh⟩ := xpA_s h
  replace h := hh
  clear hh
  obtain ⟨o, rfl, hh⟩ := xbi_s h
  replace h := hh
  clear hh
  obtain ⟨x, hx, h⟩ := xbi_s h
  obtain rfl := xk0_s h
  exact ⟨xle_r _, fun _ _ _ K => xh_zld hC hd hx K⟩
theorem xz_laload (hC : xCx p R s m meth c D z0 w0 mi) (hn : n = xml mi) (hk : xchk mi pc (.laload, len, a, b, cv, mm) = true) (h : xexec cal .laload pc len a b cv lo st w xk0 xr0 = some z) : xG p l e R s m args below meth c Q D z0 w0 wE n mi pc lo st w z := by
  simp only [xchk, Bool.and_eq_true, decide_eq_true_eq, beq_iff_eq] at hk
  simp only [xexec] at h
  obtain ⟨⟨hd, -⟩, rfl⟩ := hk
  obtain ⟨i, st, rfl, hh⟩ := xpI_s h
  replace h := hh
  clear hh
  obtain ⟨r, st, rfl, hh⟩ := xpA_s h
  replace h := hh
  clear hh
  obtain ⟨o, rfl, hh⟩ := xbi_s h
  replace h := hh
  clear hh
  obtain ⟨x, hx, h⟩ := xbi_s h
  obtain rfl := xk0_s h
  exact ⟨xle_r _, fun _ _ _ K => xh_jld hC hd hx K⟩
theorem xz_daload (hC : xCx p R s m meth c D z0 w0 mi) (hn : n = xml mi) (hk : xchk mi pc (.daload, len, a, b, cv, mm) = true) (h : xexec cal .daload pc len a b cv lo st w xk0 xr0 = some z) : xG p l e R s m args below meth c Q D z0 w0 wE n mi pc lo st w z := by
  simp only [xchk, Bool.and_eq_true, decide_eq_true_eq, beq_iff_eq] at hk
  simp only [xexec] at h
  obtain ⟨⟨hd, -⟩, rfl⟩ := hk
  obtain ⟨i, st, rfl, hh⟩ := xpI_s h
  replace h := hh
  clear hh
  obtain ⟨r, st, rfl, hh⟩ := xpA_s h
  replace h := hh
  clear hh
  obtain ⟨o, rfl, hh⟩ := xbi_s h
  replace h := hh
  clear hh
  obtain ⟨x, hx, h⟩ := xbi_s h
  obtain rfl := xk0_s h
  exact ⟨xle_r _, fun _ _ _ K => xh_dld hC hd hx K⟩
theorem xz_aaload (hC : xCx p R s m meth c D z0 w0 mi) (hn : n = xml mi) (hk : xchk mi pc (.aaload, len, a, b, cv, mm) = true) (h : xexec cal .aaload pc len a b cv lo st w xk0 xr0 = some z) : xG p l e R s m args below meth c Q D z0 w0 wE n mi pc lo st w z := by
  simp only [xchk, Bool.and_eq_true, decide_eq_true_eq, beq_iff_eq] at hk
  simp only [xexec] at h
  obtain ⟨⟨hd, -⟩, rfl⟩ := hk
  obtain ⟨i, st, rfl, hh⟩ := xpI_s h
  replace h := hh
  clear hh
  obtain ⟨r, st, rfl, hh⟩ := xpA_s h
  replace h := hh
  clear hh
  obtain ⟨o, rfl, hh⟩ := xbi_s h
  replace h := hh
  clear hh
  obtain ⟨x, hx, h⟩ := xbi_s h
  obtain rfl := xk0_s h
  exact ⟨xle_r _, fun _ _ _ K => xh_ref hC hd hx K⟩
theorem xz_iastore (hC : xCx p R s m meth c D z0 w0 mi) (hn : n = xml mi) (hk : xchk mi pc (.iastore, len, a, b, cv, mm) = true) (h : xexec cal .iastore pc len a b cv lo st w xk0 xr0 = some z) : xG p l e R s m args below meth c Q D z0 w0 wE n mi pc lo st w z := by
  simp only [xchk, Bool.and_eq_true, decide_eq_true_eq, beq_iff_eq] at hk
  simp only [xexec] at h
  obtain ⟨⟨hd, -⟩, rfl⟩ := hk
  obtain ⟨x, st, rfl, hh⟩ := xpI_s h
  replace h := hh
  clear hh
  obtain ⟨i, st, rfl, hh⟩ := xpI_s h
  replace h := hh
  clear hh
  obtain ⟨r, st, rfl, hh⟩ := xpA_s h
  replace h := hh
  clear hh
  obtain ⟨o, rfl, hh⟩ := xbi_s h
  replace h := hh
  clear hh
  obtain ⟨w2, hx, h⟩ := xbi_s h
  obtain rfl := xk0_s h
  exact ⟨xle_sI hx, fun _ _ _ K => xh_ast hC hd hx K⟩
theorem xz_bastore (hC : xCx p R s m meth c D z0 w0 mi) (hn : n = xml mi) (hk : xchk mi pc (.bastore, len, a, b, cv, mm) = true) (h : xexec cal .bastore pc len a b cv lo st w xk0 xr0 = some z) : xG p l e R s m args below meth c Q D z0 w0 wE n mi pc lo st w z := by
  simp only [xchk, Bool.and_eq_true, decide_eq_true_eq, beq_iff_eq] at hk
  simp only [xexec] at h
  obtain ⟨⟨hd, -⟩, rfl⟩ := hk
  obtain ⟨x, st, rfl, hh⟩ := xpI_s h
  replace h := hh
  clear hh
  obtain ⟨i, st, rfl, hh⟩ := xpI_s h
  replace h := hh
  clear hh
  obtain ⟨r, st, rfl, hh⟩ := xpA_s h
  replace h := hh
  clear hh
  obtain ⟨o, rfl, hh⟩ := xbi_s h
  replace h := hh
  clear hh
  obtain ⟨w2, hx, h⟩ := xbi_s h
  obtain rfl := xk0_s h
  exact ⟨xle_sZ hx, fun _ _ _ K => xh_zst hC hd hx K⟩
theorem xz_lastore (hC : xCx p R s m meth c D z0 w0 mi) (hn : n = xml mi) (hk : xchk mi pc (.lastore, len, a, b, cv, mm) = true) (h : xexec cal .lastore pc len a b cv lo st w xk0 xr0 = some z) : xG p l e R s m args below meth c Q D z0 w0 wE n mi pc lo st w z := by
  simp only [xchk, Bool.and_eq_true, decide_eq_true_eq, beq_iff_eq] at hk
  simp only [xexec] at h
  obtain ⟨⟨hd, -⟩, rfl⟩ := hk
  obtain ⟨x, st, rfl, hh⟩ := xpJ_s h
  replace h := hh
  clear hh
  obtain ⟨i, st, rfl, hh⟩ := xpI_s h
  replace h := hh
  clear hh
  obtain ⟨r, st, rfl, hh⟩ := xpA_s h
  replace h := hh
  clear hh
  obtain ⟨o, rfl, hh⟩ := xbi_s h
  replace h := hh
  clear hh
  obtain ⟨w2, hx, h⟩ := xbi_s h
  obtain rfl := xk0_s h
  exact ⟨xle_sJ hx, fun _ _ _ K => xh_jst hC hd hx K⟩
theorem xz_dastore (hC : xCx p R s m meth c D z0 w0 mi) (hn : n = xml mi) (hk : xchk mi pc (.dastore, len, a, b, cv, mm) = true) (h : xexec cal .dastore pc len a b cv lo st w xk0 xr0 = some z) : xG p l e R s m args below meth c Q D z0 w0 wE n mi pc lo st w z := by
  simp only [xchk, Bool.and_eq_true, decide_eq_true_eq, beq_iff_eq] at hk
  simp only [xexec] at h
  obtain ⟨⟨hd, -⟩, rfl⟩ := hk
  obtain ⟨x, st, rfl, hh⟩ := xpD_s h
  replace h := hh
  clear hh
  obtain ⟨i, st, rfl, hh⟩ := xpI_s h
  replace h := hh
  clear hh
  obtain ⟨r, st, rfl, hh⟩ := xpA_s h
  replace h := hh
  clear hh
  obtain ⟨o, rfl, hh⟩ := xbi_s h
  replace h := hh
  clear hh
  obtain ⟨w2, hx, h⟩ := xbi_s h
  obtain rfl := xk0_s h
  exact ⟨xle_sD hx, fun _ _ _ K => xh_dst hC hd hx K⟩
theorem xz_aastore (hC : xCx p R s m meth c D z0 w0 mi) (hn : n = xml mi) (hk : xchk mi pc (.aastore, len, a, b, cv, mm) = true) (h : xexec cal .aastore pc len a b cv lo st w xk0 xr0 = some z) : xG p l e R s m args below meth c Q D z0 w0 wE n mi pc lo st w z := by
  simp only [xchk, Bool.and_eq_true, decide_eq_true_eq, beq_iff_eq] at hk
  simp only [xexec] at h
  obtain ⟨⟨hd, -⟩, rfl⟩ := hk
  obtain ⟨v, st, rfl, hh⟩ := xpA_s h
  replace h := hh
  clear hh
  obtain ⟨i, st, rfl, hh⟩ := xpI_s h
  replace h := hh
  clear hh
  obtain ⟨r, st, rfl, hh⟩ := xpA_s h
  replace h := hh
  clear hh
  obtain ⟨o, rfl, hh⟩ := xbi_s h
  replace h := hh
  clear hh
  obtain ⟨x, rfl, hh⟩ := xbi_s h
  replace h := hh
  clear hh
  obtain ⟨w2, hx, h⟩ := xbi_s h
  obtain rfl := xk0_s h
  exact ⟨xle_sA hx, fun _ _ _ K => xh_rst hC hd hx K⟩
theorem xz_instanceof {q : Nat} (hC : xCx p R s m meth c D z0 w0 mi) (hn : n = xml mi) (hk : xchk mi pc ((.instanceof q), len, a, b, cv, mm) = true) (h : xexec cal (.instanceof q) pc len a b cv lo st w xk0 xr0 = some z) : xG p l e R s m args below meth c Q D z0 w0 wE n mi pc lo st w z := by
  simp only [xchk, Bool.and_eq_true, decide_eq_true_eq, beq_iff_eq] at hk
  simp only [xexec] at h
  obtain ⟨⟨hd, -⟩, ⟨⟨rfl, hin⟩, rfl⟩, rfl⟩ := hk
  obtain ⟨r, st, rfl, hh⟩ := xpA_s h
  replace h := hh
  clear hh
  split at h
  · next hr =>
    subst hr
    obtain rfl := xk0_s h
    exact ⟨xle_r _, fun _ _ _ K hn1 ls H locs cells slots hls hSt => lv_instN hC.1 hC.2.1 hd (K hn1 ls H locs cells slots hls hSt)⟩
  · obtain ⟨o, rfl, hh⟩ := xbi_s h
    replace h := hh
    clear hh
    obtain ⟨c, hc, h⟩ := xbi_s h
    obtain ⟨fs, ho⟩ := xcno_s hc
    split at h
    · next hc3 =>
      subst hc3
      obtain rfl := xk0_s h
      exact ⟨xle_r _, fun _ _ _ K => xh_isY hC hd hin ho K⟩
    · split at h
      · next hc5 =>
        subst hc5
        obtain rfl := xk0_s h
        exact ⟨xle_r _, fun _ _ _ K => xh_isN hC hd hin ho K⟩
      · cases h
theorem xz_checkcast {q : Nat} (hC : xCx p R s m meth c D z0 w0 mi) (hn : n = xml mi) (hk : xchk mi pc ((.checkcast q), len, a, b, cv, mm) = true) (h : xexec cal (.checkcast q) pc len a b cv lo st w xk0 xr0 = some z) : xG p l e R s m args below meth c Q D z0 w0 wE n mi pc lo st w z := by
  simp only [xchk, Bool.and_eq_true, decide_eq_true_eq, beq_iff_eq] at hk
  simp only [xexec] at h
  obtain ⟨⟨hd, -⟩, ⟨rfl, hin⟩, rfl⟩ := hk
  obtain ⟨r, st, rfl, hh⟩ := xpA_s h
  replace h := hh
  clear hh
  obtain ⟨o, rfl, hh⟩ := xbi_s h
  replace h := hh
  clear hh
  obtain ⟨fs, hx, h⟩ := xbi_s h
  obtain rfl := xk0_s h
  exact ⟨xle_r _, fun _ _ _ K => xh_cast hC hd hin (xobj_s hx) K⟩
theorem xct1 (x : Option Nat) : (xv (xA x)).category = 1 := by cases x <;> rfl
theorem xz_dup (hC : xCx p R s m meth c D z0 w0 mi) (hn : n = xml mi) (hk : xchk mi pc (.dup, len, a, b, cv, mm) = true) (h : xexec cal .dup pc len a b cv lo st w xk0 xr0 = some z) : xG p l e R s m args below meth c Q D z0 w0 wE n mi pc lo st w z := by
  simp only [xchk, Bool.and_eq_true, decide_eq_true_eq, beq_iff_eq] at hk
  simp only [xexec] at h
  obtain ⟨⟨hd, -⟩, rfl⟩ := hk
  obtain ⟨r, st, rfl, hh⟩ := xpA_s h
  replace h := hh
  clear hh
  obtain rfl := xk0_s h
  exact ⟨xle_r _, fun _ _ _ K hn1 ls H locs cells slots hls hSt => lv_dup hC.1 hC.2.1 hd (xct1 r) (K hn1 ls H locs cells slots hls hSt)⟩
theorem xz_dup2 (hC : xCx p R s m meth c D z0 w0 mi) (hn : n = xml mi) (hk : xchk mi pc (.dup2, len, a, b, cv, mm) = true) (h : xexec cal .dup2 pc len a b cv lo st w xk0 xr0 = some z) : xG p l e R s m args below meth c Q D z0 w0 wE n mi pc lo st w z := by
  simp only [xchk, Bool.and_eq_true, decide_eq_true_eq, beq_iff_eq] at hk
  simp only [xexec] at h
  obtain ⟨⟨hd, -⟩, rfl⟩ := hk
  obtain ⟨i, st, rfl, hh⟩ := xpI_s h
  replace h := hh
  clear hh
  obtain ⟨r, st, rfl, hh⟩ := xpA_s h
  replace h := hh
  clear hh
  obtain rfl := xk0_s h
  exact ⟨xle_r _, fun _ _ _ K hn1 ls H locs cells slots hls hSt => lv_dup2_11 hC.1 hC.2.1 hd rfl (xct1 r) (K hn1 ls H locs cells slots hls hSt)⟩
theorem xz_pop (hC : xCx p R s m meth c D z0 w0 mi) (hn : n = xml mi) (hk : xchk mi pc (.pop, len, a, b, cv, mm) = true) (h : xexec cal .pop pc len a b cv lo st w xk0 xr0 = some z) : xG p l e R s m args below meth c Q D z0 w0 wE n mi pc lo st w z := by
  simp only [xchk, Bool.and_eq_true, decide_eq_true_eq, beq_iff_eq] at hk
  simp only [xexec] at h
  obtain ⟨⟨hd, -⟩, rfl⟩ := hk
  obtain ⟨x, st, rfl, hh⟩ := xpI_s h
  replace h := hh
  clear hh
  obtain rfl := xk0_s h
  exact ⟨xle_r _, fun _ _ _ K hn1 ls H locs cells slots hls hSt => lv_pop hC.1 hC.2.1 hd rfl (K hn1 ls H locs cells slots hls hSt)⟩
theorem xtd2 {st : List xV} {b : Nat} : ((st.take b).reverse).reverse ++ st.drop b = st := by rw [List.reverse_reverse, List.take_append_drop]
theorem xtl {st : List xV} {b : Nat} (h : b ≤ st.length) : ((st.take b).reverse).length = b := by rw [List.length_reverse, List.length_take]; omega
theorem xz_invokestatic {q : Nat} (hC : xCx p R s m meth c D z0 w0 mi) (hn : n = xml mi) (hcal : ∀ (y : Nat) (as : List xV) (u : xW) (r : Option xV) (u2 : xW), cal y as u = some (r, u2) → xMt l D z0 y as u r u2) (hk : xchk mi pc ((.invokestatic q), len, a, b, cv, mm) = true) (h : xexec cal (.invokestatic q) pc len a b cv lo st w xk0 xr0 = some z) : xG p l e R s m args below meth c Q D z0 w0 wE n mi pc lo st w z := by
  simp only [xchk, Bool.and_eq_true, decide_eq_true_eq, beq_iff_eq] at hk
  simp only [xexec] at h
  obtain ⟨⟨hd, -⟩, ⟨⟨⟨rfl, hcok⟩, hst⟩, hb⟩, hlk⟩ := hk
  obtain ⟨hc, h⟩ := xco_s h
  simp only [Bool.and_eq_true, Nat.ble_eq] at hc
  obtain ⟨⟨r, w2⟩, hr, h⟩ := xbi_s h
  have h := xans_s h
  obtain rfl := xk0_s h
  have hM := hcal _ _ _ _ _ hr
  have hlk2 : xin3 xkm (xmi mi).1 q a = true ∨ ((xmi mi).1 = 3 ∧ q = 49 ∧ a = 72) ∨ ((xmi mi).1 = 3 ∧ q = 53 ∧ a = 71) := by
    simp only [Bool.or_eq_true, Bool.and_eq_true, beq_iff_eq] at hlk
    rcases hlk with (h1 | ⟨⟨h1, h2⟩, h3⟩) | ⟨⟨h1, h2⟩, h3⟩
    · exact Or.inl h1
    · exact Or.inr (Or.inl ⟨h1, h2, h3⟩)
    · exact Or.inr (Or.inr ⟨h1, h2, h3⟩)
  refine ⟨hM.1, fun h1 h2 h3 K => ?_⟩
  have := xh_calls (as := (st.take b).reverse) hC hd hcok hst (by rw [xtl hc.1]; exact hb) hlk2 hc.2 hM h1 h2 h3 K hn
  rw [xtd2] at this
  exact this
theorem xvirt8 {y : Nat} (h : xin1 xkv y = true) : (xmi y).1 < 8 := by
  obtain ⟨q, hq⟩ := xin1_s h
  have hall : ∀ q ∈ xkv, (xmi q.2).1 < 8 := by decide +kernel
  exact hall _ hq
theorem xz_invokevirtual {q : Nat} (hC : xCx p R s m meth c D z0 w0 mi) (hn : n = xml mi) (hcal : ∀ (y : Nat) (as : List xV) (u : xW) (r : Option xV) (u2 : xW), cal y as u = some (r, u2) → xMt l D z0 y as u r u2) (hk : xchk mi pc ((.invokevirtual q), len, a, b, cv, mm) = true) (h : xexec cal (.invokevirtual q) pc len a b cv lo st w xk0 xr0 = some z) : xG p l e R s m args below meth c Q D z0 w0 wE n mi pc lo st w z := by
  simp only [xchk, Bool.and_eq_true, decide_eq_true_eq, beq_iff_eq] at hk
  simp only [xexec] at h
  obtain ⟨⟨hd, -⟩, ⟨⟨⟨⟨⟨rfl, hlk⟩, hcok⟩, hin⟩, hse⟩, hb⟩, h16⟩ := hk
  rw [Nat.blt_eq] at h16
  obtain ⟨hc, h⟩ := xco_s h
  simp only [Bool.and_eq_true, Nat.ble_eq] at hc
  obtain ⟨r, as, has, h⟩ := xrc_s h
  obtain ⟨o, rfl, hh⟩ := xbi_s h
  replace h := hh
  clear hh
  obtain ⟨fs, hfs, h⟩ := xbi_s h
  obtain ⟨⟨r, w2⟩, hr, h⟩ := xbi_s h
  have h := xans_s h
  obtain rfl := xk0_s h
  rw [has] at hr
  have hM := hcal _ _ _ _ _ hr
  have hb16 : b % 16 = xnar a + 1 := by omega
  have hbd : b / 16 = (xmi a).1 := by omega
  have hlen : as.length = xnar a := by
    have := xtl hc.1
    rw [has, List.length_cons] at this
    omega
  rw [hbd] at hfs
  have ho := xobj_s hfs
  refine ⟨hM.1, fun h1 h2 h3 K => ?_⟩
  have h8 : (xmi a).1 < 8 := xvirt8 hse
  have := xh_callv (as := as) hC hd hcok hin hse hlen hlk h8 ho hc.2 hM h1 h2 h3 K hn
  rw [← has, xtd2] at this
  exact this
theorem xz_invokespecial {q : Nat} (hC : xCx p R s m meth c D z0 w0 mi) (hn : n = xml mi) (hcal : ∀ (y : Nat) (as : List xV) (u : xW) (r : Option xV) (u2 : xW), cal y as u = some (r, u2) → xMt l D z0 y as u r u2) (hk : xchk mi pc ((.invokespecial q), len, a, b, cv, mm) = true) (h : xexec cal (.invokespecial q) pc len a b cv lo st w xk0 xr0 = some z) : xG p l e R s m args below meth c Q D z0 w0 wE n mi pc lo st w z := by
  simp only [xchk, Bool.and_eq_true, decide_eq_true_eq, beq_iff_eq] at hk
  simp only [xexec] at h
  obtain ⟨⟨hd, -⟩, rfl, hk⟩ := hk
  cases ha : Nat.beq a 1000 with
  | true =>
    rw [ha] at h
    have ha2 : (a == 1000) = true := beq_iff_eq.mpr (Nat.eq_of_beq_eq_true ha)
    rw [ha2] at hk
    simp only [cond_true, Bool.and_eq_true, Nat.blt_eq] at hk h
    obtain ⟨r, st, rfl, hh⟩ := xpA_s h
    replace h := hh
    clear hh
    obtain ⟨hc, h⟩ := xco_s h
    obtain ⟨o, rfl, hh⟩ := xbi_s h
    replace h := hh
    clear hh
    obtain rfl := xk0_s h
    rw [Nat.ble_eq] at hc
    exact ⟨xle_r _, fun _ _ _ K => xh_obj hC hd hk.1 hk.2 hc hn K⟩
  | false =>
    rw [ha] at h
    have ha2 : (a == 1000) = false := beq_eq_false_iff_ne.mpr (Nat.ne_of_beq_eq_false ha)
    rw [ha2] at hk
    simp only [cond_false, Bool.and_eq_true, beq_iff_eq] at hk h
    obtain ⟨⟨⟨⟨⟨hlk, hcok⟩, hin⟩, hb⟩, hnm⟩, hre⟩ := hk
    obtain ⟨hc, h⟩ := xco_s h
    simp only [Bool.and_eq_true, Nat.ble_eq] at hc
    obtain ⟨r, as, has, h⟩ := xrc_s h
    obtain ⟨o, rfl, hh⟩ := xbi_s h
    replace h := hh
    clear hh
    obtain ⟨⟨r, w2⟩, hr, h⟩ := xbi_s h
    have h := xans_s h
    obtain rfl := xk0_s h
    rw [has] at hr
    have hM := hcal _ _ _ _ _ hr
    have hlen : as.length = xnar a := by
      have := xtl hc.1
      rw [has, List.length_cons] at this
      omega
    refine ⟨hM.1, fun h1 h2 h3 K => ?_⟩
    have := xh_calli (as := as) hC hd hcok hin hlen hlk hnm hre hc.2 hM h1 h2 h3 K hn
    rw [← has, xtd2] at this
    exact this
theorem xz_invokeinterface {q q2 : Nat} (hC : xCx p R s m meth c D z0 w0 mi) (hn : n = xml mi) (hcal : ∀ (y : Nat) (as : List xV) (u : xW) (r : Option xV) (u2 : xW), cal y as u = some (r, u2) → xMt l D z0 y as u r u2) (hk : xchk mi pc ((.invokeinterface q q2), len, a, b, cv, mm) = true) (h : xexec cal (.invokeinterface q q2) pc len a b cv lo st w xk0 xr0 = some z) : xG p l e R s m args below meth c Q D z0 w0 wE n mi pc lo st w z := by
  simp only [xchk, Bool.and_eq_true, decide_eq_true_eq, beq_iff_eq] at hk
  simp only [xexec] at h
  obtain ⟨⟨hd, -⟩, ⟨⟨⟨⟨⟨⟨⟨rfl, h6⟩, rfl⟩, rfl⟩, rfl⟩, hca⟩, hia⟩, hcb⟩, hib⟩ := hk
  obtain ⟨r, st, rfl, hh⟩ := xpA_s h
  replace h := hh
  clear hh
  obtain ⟨hc, h⟩ := xco_s h
  rw [Nat.ble_eq] at hc
  obtain ⟨o, rfl, hh⟩ := xbi_s h
  replace h := hh
  clear hh
  obtain ⟨cn, hcn, h⟩ := xbi_s h
  obtain ⟨fs, ho⟩ := xcno_s hcn
  obtain ⟨⟨r, w2⟩, hr, h⟩ := xbi_s h
  have h := xans_s h
  obtain rfl := xk0_s h
  split at hr
  · next h3 =>
    subst h3
    have hM := hcal _ _ _ _ _ hr
    exact ⟨hM.1, fun h1 h2 h3 K => xh_callf hC hd h6 hca hia (Or.inl ⟨rfl, rfl⟩) ho hc hM h1 h2 h3 K hn⟩
  · split at hr
    · next h5 =>
      subst h5
      have hM := hcal _ _ _ _ _ hr
      exact ⟨hM.1, fun h1 h2 h3 K => xh_callf hC hd h6 hcb hib (Or.inr ⟨rfl, rfl⟩) ho hc hM h1 h2 h3 K hn⟩
    · cases hr
end XZ
