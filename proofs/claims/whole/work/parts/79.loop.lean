/-! the law's loop -/
theorem xqI_w {α : Type} {x : Int32} {f : Int32 → Option α} {z : Option α} (h : f x = z) : xrI (some (xI x)) f = z := h
theorem xqJ_w {α : Type} {x : Int64} {f : Int64 → Option α} {z : Option α} (h : f x = z) : xrJ (some (xJ x)) f = z := h
theorem lt6 {L i : Nat} (hL : L ≤ 3072) (hi : i ≤ 4000) : (nI L - 6 < nI i) ↔ L < i + 6 := by
  by_cases h : L < 6
  · have h1 : nI L - 6 < 0 := pk_sneg (a := L) (b := 6) (by decide) h
    exact ⟨fun _ => by omega, fun _ => Int32.lt_of_lt_of_le h1 (nI_pos' (by omega))⟩
  · rw [show nI L - 6 = nI (L - 6) from nI_sub (b := 6) (by omega), nI_ltI (by omega) (by omega)]
    omega
section LW
variable {x0 b L i N : Nat} {xs : Nat → Int32} {t : mS} {S : sS} {G : sG} {w : xW}
def nxt (x0 b L i N : Nat) (xs : Nat → Int32) (t : mS) (w : xW) : Prop := ∀ w1 t', aft x0 b L xs t w w1 t' → ∃ wE, xev 148 18 [some (xA (some (b))), some (xA (some (x0))), some (xA (some (x0 + 22))), some (xI (nI i + 6))] [] (mW (x0 + 22) t' w1) = some (some (xI 1), wE) ∧ gr N w wE
theorem Rc_s0 (hR : Rc (x0, b, L, xs, t) S G w) (hL : L ≤ 3072) (hi : i < L) : xaI w b (nI i) = some (xs i) := by
  have := Rc_s (j := 0) hR hL hi
  rw [nI_add, Nat.add_zero] at this
  exact this
theorem lw_open (hL : L ≤ 3072) (hi : i + 6 ≤ L) (hR : Rc (x0, b, L, xs, t) S G w) (hm : Rm S t) (hw : wf S) (nx : nxt x0 b L i N xs t w)  (hk : xs i &&& 31 = Int32.ofInt 0) : ∃ wE, xev 148 18 [some (xA (some (b))), some (xA (some (x0))), some (xA (some (x0 + 22))), some (xI (nI i))] [] w = some (some (xI 1), wE) ∧ gr N w wE := by
  obtain ⟨r, w1, t', e1, e2, af⟩ := q_open hR hm hw (xs (i + 1)) (xs (i + 2)) (xs (i + 3))
  obtain ⟨wE, eE, gE⟩ := nx w1 t' af
  obtain ⟨S', G', r1, _⟩ := af
  obtain ⟨fo, ho⟩ := Rc_o hR
  refine ⟨wE, ?_, gE⟩
  rw [e_L_law_18, b_L_law_18]
  refine bnd (Rc_sl hR) ?_
  refine (if_neg (fun q => by have := (lt6 hL (by omega)).mp q; omega)).trans ?_
  refine bnd (Rc_s0 hR hL (by omega)) ?_
  refine (if_pos hk).trans ?_
  refine bnd (Rc_s (j := 1) hR hL (by omega)) ?_
  refine bnd (Rc_s (j := 2) hR hL (by omega)) ?_
  refine bnd (Rc_s (j := 3) hR hL (by omega)) ?_
  refine bnd ho ?_
  refine bnd e1 ?_
  refine xqI_w ?_
  refine bnd (Rc_s (j := 1) r1 hL (by omega)) ?_
  refine bnd (Rc_s (j := 2) r1 hL (by omega)) ?_
  refine bnd (Rc_s (j := 3) r1 hL (by omega)) ?_
  refine bnd (Rc_mo r1) ?_
  refine bnd e2 ?_
  refine xqI_w ?_
  exact (if_pos rfl).trans eE
theorem lw_hang (hL : L ≤ 3072) (hi : i + 6 ≤ L) (hR : Rc (x0, b, L, xs, t) S G w) (hm : Rm S t) (hw : wf S) (nx : nxt x0 b L i N xs t w) (h0 : ¬ xs i &&& 31 = Int32.ofInt 0) (hk : xs i &&& 31 = Int32.ofInt 1) : ∃ wE, xev 148 18 [some (xA (some (b))), some (xA (some (x0))), some (xA (some (x0 + 22))), some (xI (nI i))] [] w = some (some (xI 1), wE) ∧ gr N w wE := by
  obtain ⟨r, w1, t', e1, e2, af⟩ := q_hang hR hm hw (xs (i + 1)) (xs (i + 2)) (xs (i + 3))
  obtain ⟨wE, eE, gE⟩ := nx w1 t' af
  obtain ⟨S', G', r1, _⟩ := af
  obtain ⟨fo, ho⟩ := Rc_o hR
  refine ⟨wE, ?_, gE⟩
  rw [e_L_law_18, b_L_law_18]
  refine bnd (Rc_sl hR) ?_
  refine (if_neg (fun q => by have := (lt6 hL (by omega)).mp q; omega)).trans ?_
  refine bnd (Rc_s0 hR hL (by omega)) ?_
  refine (if_neg h0).trans ?_
  refine (if_pos hk).trans ?_
  refine bnd (Rc_s (j := 1) hR hL (by omega)) ?_
  refine bnd (Rc_s (j := 2) hR hL (by omega)) ?_
  refine bnd (Rc_s (j := 3) hR hL (by omega)) ?_
  refine bnd ho ?_
  refine bnd e1 ?_
  refine xqI_w ?_
  refine bnd (Rc_s (j := 1) r1 hL (by omega)) ?_
  refine bnd (Rc_s (j := 2) r1 hL (by omega)) ?_
  refine bnd (Rc_s (j := 3) r1 hL (by omega)) ?_
  refine bnd (Rc_mo r1) ?_
  refine bnd e2 ?_
  refine xqI_w ?_
  exact (if_pos rfl).trans eE
theorem lw_same (hL : L ≤ 3072) (hi : i + 6 ≤ L) (hR : Rc (x0, b, L, xs, t) S G w) (hm : Rm S t) (hw : wf S) (nx : nxt x0 b L i N xs t w) (h0 : ¬ xs i &&& 31 = Int32.ofInt 0) (h1 : ¬ xs i &&& 31 = Int32.ofInt 1) (hk : xs i &&& 31 = Int32.ofInt 2) : ∃ wE, xev 148 18 [some (xA (some (b))), some (xA (some (x0))), some (xA (some (x0 + 22))), some (xI (nI i))] [] w = some (some (xI 1), wE) ∧ gr N w wE := by
  obtain ⟨r, w1, t', e1, e2, af⟩ := q_same hR hm hw (xs (i + 1)) (xs (i + 2))
  obtain ⟨wE, eE, gE⟩ := nx w1 t' af
  obtain ⟨S', G', r1, _⟩ := af
  obtain ⟨fo, ho⟩ := Rc_o hR
  refine ⟨wE, ?_, gE⟩
  rw [e_L_law_18, b_L_law_18]
  refine bnd (Rc_sl hR) ?_
  refine (if_neg (fun q => by have := (lt6 hL (by omega)).mp q; omega)).trans ?_
  refine bnd (Rc_s0 hR hL (by omega)) ?_
  refine (if_neg h0).trans ?_
  refine (if_neg h1).trans ?_
  refine (if_pos hk).trans ?_
  refine bnd (Rc_s (j := 1) hR hL (by omega)) ?_
  refine bnd (Rc_s (j := 2) hR hL (by omega)) ?_
  refine bnd ho ?_
  refine bnd e1 ?_
  refine xqI_w ?_
  refine bnd (Rc_s (j := 1) r1 hL (by omega)) ?_
  refine bnd (Rc_s (j := 2) r1 hL (by omega)) ?_
  refine bnd (Rc_mo r1) ?_
  refine bnd e2 ?_
  refine xqI_w ?_
  exact (if_pos rfl).trans eE
theorem lw_length (hL : L ≤ 3072) (hi : i + 6 ≤ L) (hR : Rc (x0, b, L, xs, t) S G w) (hm : Rm S t) (hw : wf S) (nx : nxt x0 b L i N xs t w) (h0 : ¬ xs i &&& 31 = Int32.ofInt 0) (h1 : ¬ xs i &&& 31 = Int32.ofInt 1) (h2 : ¬ xs i &&& 31 = Int32.ofInt 2) (hk : xs i &&& 31 = Int32.ofInt 3) : ∃ wE, xev 148 18 [some (xA (some (b))), some (xA (some (x0))), some (xA (some (x0 + 22))), some (xI (nI i))] [] w = some (some (xI 1), wE) ∧ gr N w wE := by
  obtain ⟨r, w1, t', e1, e2, af⟩ := q_length hR hm hw (xs (i + 1))
  obtain ⟨wE, eE, gE⟩ := nx w1 t' af
  obtain ⟨S', G', r1, _⟩ := af
  obtain ⟨fo, ho⟩ := Rc_o hR
  refine ⟨wE, ?_, gE⟩
  rw [e_L_law_18, b_L_law_18]
  refine bnd (Rc_sl hR) ?_
  refine (if_neg (fun q => by have := (lt6 hL (by omega)).mp q; omega)).trans ?_
  refine bnd (Rc_s0 hR hL (by omega)) ?_
  refine (if_neg h0).trans ?_
  refine (if_neg h1).trans ?_
  refine (if_neg h2).trans ?_
  refine (if_pos hk).trans ?_
  refine bnd (Rc_s (j := 1) hR hL (by omega)) ?_
  refine bnd ho ?_
  refine bnd e1 ?_
  refine xqI_w ?_
  refine bnd (Rc_s (j := 1) r1 hL (by omega)) ?_
  refine bnd (Rc_mo r1) ?_
  refine bnd e2 ?_
  refine xqI_w ?_
  exact (if_pos rfl).trans eE
theorem lw_read (hL : L ≤ 3072) (hi : i + 6 ≤ L) (hR : Rc (x0, b, L, xs, t) S G w) (hm : Rm S t) (hw : wf S) (nx : nxt x0 b L i N xs t w) (h0 : ¬ xs i &&& 31 = Int32.ofInt 0) (h1 : ¬ xs i &&& 31 = Int32.ofInt 1) (h2 : ¬ xs i &&& 31 = Int32.ofInt 2) (h3 : ¬ xs i &&& 31 = Int32.ofInt 3) (hk : xs i &&& 31 = Int32.ofInt 4) : ∃ wE, xev 148 18 [some (xA (some (b))), some (xA (some (x0))), some (xA (some (x0 + 22))), some (xI (nI i))] [] w = some (some (xI 1), wE) ∧ gr N w wE := by
  obtain ⟨r, w1, t', e1, e2, af⟩ := q_read hR hm hw (xs (i + 1)) (xs (i + 2)) (xs (i + 3))
  obtain ⟨wE, eE, gE⟩ := nx w1 t' af
  obtain ⟨S', G', r1, _⟩ := af
  obtain ⟨fo, ho⟩ := Rc_o hR
  refine ⟨wE, ?_, gE⟩
  rw [e_L_law_18, b_L_law_18]
  refine bnd (Rc_sl hR) ?_
  refine (if_neg (fun q => by have := (lt6 hL (by omega)).mp q; omega)).trans ?_
  refine bnd (Rc_s0 hR hL (by omega)) ?_
  refine (if_neg h0).trans ?_
  refine (if_neg h1).trans ?_
  refine (if_neg h2).trans ?_
  refine (if_neg h3).trans ?_
  refine (if_pos hk).trans ?_
  refine bnd (Rc_s (j := 1) hR hL (by omega)) ?_
  refine bnd (Rc_s (j := 2) hR hL (by omega)) ?_
  refine bnd (Rc_s (j := 3) hR hL (by omega)) ?_
  refine bnd ho ?_
  refine bnd e1 ?_
  refine xqI_w ?_
  refine bnd (Rc_s (j := 1) r1 hL (by omega)) ?_
  refine bnd (Rc_s (j := 2) r1 hL (by omega)) ?_
  refine bnd (Rc_s (j := 3) r1 hL (by omega)) ?_
  refine bnd (Rc_mo r1) ?_
  refine bnd e2 ?_
  refine xqI_w ?_
  exact (if_pos rfl).trans eE
theorem lw_glass (hL : L ≤ 3072) (hi : i + 6 ≤ L) (hR : Rc (x0, b, L, xs, t) S G w) (hm : Rm S t) (hw : wf S) (nx : nxt x0 b L i N xs t w) (h0 : ¬ xs i &&& 31 = Int32.ofInt 0) (h1 : ¬ xs i &&& 31 = Int32.ofInt 1) (h2 : ¬ xs i &&& 31 = Int32.ofInt 2) (h3 : ¬ xs i &&& 31 = Int32.ofInt 3) (h4 : ¬ xs i &&& 31 = Int32.ofInt 4) (hk : xs i &&& 31 = Int32.ofInt 5) : ∃ wE, xev 148 18 [some (xA (some (b))), some (xA (some (x0))), some (xA (some (x0 + 22))), some (xI (nI i))] [] w = some (some (xI 1), wE) ∧ gr N w wE := by
  obtain ⟨r, w1, t', e1, e2, af⟩ := q_glass hR hm hw
  obtain ⟨wE, eE, gE⟩ := nx w1 t' af
  obtain ⟨S', G', r1, _⟩ := af
  obtain ⟨fo, ho⟩ := Rc_o hR
  refine ⟨wE, ?_, gE⟩
  rw [e_L_law_18, b_L_law_18]
  refine bnd (Rc_sl hR) ?_
  refine (if_neg (fun q => by have := (lt6 hL (by omega)).mp q; omega)).trans ?_
  refine bnd (Rc_s0 hR hL (by omega)) ?_
  refine (if_neg h0).trans ?_
  refine (if_neg h1).trans ?_
  refine (if_neg h2).trans ?_
  refine (if_neg h3).trans ?_
  refine (if_neg h4).trans ?_
  refine (if_pos hk).trans ?_
  refine bnd ho ?_
  refine bnd e1 ?_
  refine xqJ_w ?_
  refine bnd (Rc_mo r1) ?_
  refine bnd e2 ?_
  refine xqJ_w ?_
  exact (if_pos ((lgc_eq _ _).mpr rfl)).trans eE
theorem lw_write (hL : L ≤ 3072) (hi : i + 6 ≤ L) (hR : Rc (x0, b, L, xs, t) S G w) (hm : Rm S t) (hw : wf S) (nx : nxt x0 b L i N xs t w) (h0 : ¬ xs i &&& 31 = Int32.ofInt 0) (h1 : ¬ xs i &&& 31 = Int32.ofInt 1) (h2 : ¬ xs i &&& 31 = Int32.ofInt 2) (h3 : ¬ xs i &&& 31 = Int32.ofInt 3) (h4 : ¬ xs i &&& 31 = Int32.ofInt 4) (h5 : ¬ xs i &&& 31 = Int32.ofInt 5) (hk : xs i &&& 31 = Int32.ofInt 6) : ∃ wE, xev 148 18 [some (xA (some (b))), some (xA (some (x0))), some (xA (some (x0 + 22))), some (xI (nI i))] [] w = some (some (xI 1), wE) ∧ gr N w wE := by
  obtain ⟨r, w1, t', e1, e2, af⟩ := q_write hR hm hw (xs (i + 1)) (xs (i + 2)) (xs (i + 3)) (((xs (i + 4)).toInt64 <<< ((32 : Int32).toInt64 &&& 63)) ||| ((xs (i + 5)).toInt64 &&& (4294967295 : Int64)))
  obtain ⟨wE, eE, gE⟩ := nx w1 t' af
  obtain ⟨S', G', r1, _⟩ := af
  obtain ⟨fo, ho⟩ := Rc_o hR
  refine ⟨wE, ?_, gE⟩
  rw [e_L_law_18, b_L_law_18]
  refine bnd (Rc_sl hR) ?_
  refine (if_neg (fun q => by have := (lt6 hL (by omega)).mp q; omega)).trans ?_
  refine bnd (Rc_s0 hR hL (by omega)) ?_
  refine (if_neg h0).trans ?_
  refine (if_neg h1).trans ?_
  refine (if_neg h2).trans ?_
  refine (if_neg h3).trans ?_
  refine (if_neg h4).trans ?_
  refine (if_neg h5).trans ?_
  refine (if_pos hk).trans ?_
  refine bnd (Rc_s (j := 1) hR hL (by omega)) ?_
  refine bnd (Rc_s (j := 2) hR hL (by omega)) ?_
  refine bnd (Rc_s (j := 3) hR hL (by omega)) ?_
  refine bnd (Rc_s (j := 4) hR hL (by omega)) ?_
  refine bnd (Rc_s (j := 5) hR hL (by omega)) ?_
  refine bnd ho ?_
  refine bnd e1 ?_
  refine xqI_w ?_
  refine bnd (Rc_s (j := 1) r1 hL (by omega)) ?_
  refine bnd (Rc_s (j := 2) r1 hL (by omega)) ?_
  refine bnd (Rc_s (j := 3) r1 hL (by omega)) ?_
  refine bnd (Rc_s (j := 4) r1 hL (by omega)) ?_
  refine bnd (Rc_s (j := 5) r1 hL (by omega)) ?_
  refine bnd (Rc_mo r1) ?_
  refine bnd e2 ?_
  refine xqI_w ?_
  exact (if_pos rfl).trans eE
theorem lw_take (hL : L ≤ 3072) (hi : i + 6 ≤ L) (hR : Rc (x0, b, L, xs, t) S G w) (hm : Rm S t) (hw : wf S) (nx : nxt x0 b L i N xs t w) (h0 : ¬ xs i &&& 31 = Int32.ofInt 0) (h1 : ¬ xs i &&& 31 = Int32.ofInt 1) (h2 : ¬ xs i &&& 31 = Int32.ofInt 2) (h3 : ¬ xs i &&& 31 = Int32.ofInt 3) (h4 : ¬ xs i &&& 31 = Int32.ofInt 4) (h5 : ¬ xs i &&& 31 = Int32.ofInt 5) (h6 : ¬ xs i &&& 31 = Int32.ofInt 6) (hk : xs i &&& 31 = Int32.ofInt 7) : ∃ wE, xev 148 18 [some (xA (some (b))), some (xA (some (x0))), some (xA (some (x0 + 22))), some (xI (nI i))] [] w = some (some (xI 1), wE) ∧ gr N w wE := by
  obtain ⟨r, w1, t', e1, e2, af⟩ := q_take hR hm hw (xs (i + 1)) (xs (i + 2))
  obtain ⟨wE, eE, gE⟩ := nx w1 t' af
  obtain ⟨S', G', r1, _⟩ := af
  obtain ⟨fo, ho⟩ := Rc_o hR
  refine ⟨wE, ?_, gE⟩
  rw [e_L_law_18, b_L_law_18]
  refine bnd (Rc_sl hR) ?_
  refine (if_neg (fun q => by have := (lt6 hL (by omega)).mp q; omega)).trans ?_
  refine bnd (Rc_s0 hR hL (by omega)) ?_
  refine (if_neg h0).trans ?_
  refine (if_neg h1).trans ?_
  refine (if_neg h2).trans ?_
  refine (if_neg h3).trans ?_
  refine (if_neg h4).trans ?_
  refine (if_neg h5).trans ?_
  refine (if_neg h6).trans ?_
  refine (if_pos hk).trans ?_
  refine bnd (Rc_s (j := 1) hR hL (by omega)) ?_
  refine bnd (Rc_s (j := 2) hR hL (by omega)) ?_
  refine bnd ho ?_
  refine bnd e1 ?_
  refine xqI_w ?_
  refine bnd (Rc_s (j := 1) r1 hL (by omega)) ?_
  refine bnd (Rc_s (j := 2) r1 hL (by omega)) ?_
  refine bnd (Rc_mo r1) ?_
  refine bnd e2 ?_
  refine xqI_w ?_
  exact (if_pos rfl).trans eE
theorem lw_lay (hL : L ≤ 3072) (hi : i + 6 ≤ L) (hR : Rc (x0, b, L, xs, t) S G w) (hm : Rm S t) (hw : wf S) (nx : nxt x0 b L i N xs t w) (h0 : ¬ xs i &&& 31 = Int32.ofInt 0) (h1 : ¬ xs i &&& 31 = Int32.ofInt 1) (h2 : ¬ xs i &&& 31 = Int32.ofInt 2) (h3 : ¬ xs i &&& 31 = Int32.ofInt 3) (h4 : ¬ xs i &&& 31 = Int32.ofInt 4) (h5 : ¬ xs i &&& 31 = Int32.ofInt 5) (h6 : ¬ xs i &&& 31 = Int32.ofInt 6) (h7 : ¬ xs i &&& 31 = Int32.ofInt 7) (hk : xs i &&& 31 = Int32.ofInt 8) : ∃ wE, xev 148 18 [some (xA (some (b))), some (xA (some (x0))), some (xA (some (x0 + 22))), some (xI (nI i))] [] w = some (some (xI 1), wE) ∧ gr N w wE := by
  obtain ⟨r, w1, t', e1, e2, af⟩ := q_lay hR hm hw (xs (i + 1)) (xs (i + 2))
  obtain ⟨wE, eE, gE⟩ := nx w1 t' af
  obtain ⟨S', G', r1, _⟩ := af
  obtain ⟨fo, ho⟩ := Rc_o hR
  refine ⟨wE, ?_, gE⟩
  rw [e_L_law_18, b_L_law_18]
  refine bnd (Rc_sl hR) ?_
  refine (if_neg (fun q => by have := (lt6 hL (by omega)).mp q; omega)).trans ?_
  refine bnd (Rc_s0 hR hL (by omega)) ?_
  refine (if_neg h0).trans ?_
  refine (if_neg h1).trans ?_
  refine (if_neg h2).trans ?_
  refine (if_neg h3).trans ?_
  refine (if_neg h4).trans ?_
  refine (if_neg h5).trans ?_
  refine (if_neg h6).trans ?_
  refine (if_neg h7).trans ?_
  refine (if_pos hk).trans ?_
  refine bnd (Rc_s (j := 1) hR hL (by omega)) ?_
  refine bnd (Rc_s (j := 2) hR hL (by omega)) ?_
  refine bnd ho ?_
  refine bnd e1 ?_
  refine xqI_w ?_
  refine bnd (Rc_s (j := 1) r1 hL (by omega)) ?_
  refine bnd (Rc_s (j := 2) r1 hL (by omega)) ?_
  refine bnd (Rc_mo r1) ?_
  refine bnd e2 ?_
  refine xqI_w ?_
  exact (if_pos rfl).trans eE
theorem lw_hand (hL : L ≤ 3072) (hi : i + 6 ≤ L) (hR : Rc (x0, b, L, xs, t) S G w) (hm : Rm S t) (hw : wf S) (nx : nxt x0 b L i N xs t w) (h0 : ¬ xs i &&& 31 = Int32.ofInt 0) (h1 : ¬ xs i &&& 31 = Int32.ofInt 1) (h2 : ¬ xs i &&& 31 = Int32.ofInt 2) (h3 : ¬ xs i &&& 31 = Int32.ofInt 3) (h4 : ¬ xs i &&& 31 = Int32.ofInt 4) (h5 : ¬ xs i &&& 31 = Int32.ofInt 5) (h6 : ¬ xs i &&& 31 = Int32.ofInt 6) (h7 : ¬ xs i &&& 31 = Int32.ofInt 7) (h8 : ¬ xs i &&& 31 = Int32.ofInt 8) (hk : xs i &&& 31 = Int32.ofInt 9) : ∃ wE, xev 148 18 [some (xA (some (b))), some (xA (some (x0))), some (xA (some (x0 + 22))), some (xI (nI i))] [] w = some (some (xI 1), wE) ∧ gr N w wE := by
  obtain ⟨r, w1, t', e1, e2, af⟩ := q_hand hR hm hw (xs (i + 1)) (((xs (i + 2)).toInt64 <<< ((32 : Int32).toInt64 &&& 63)) ||| ((xs (i + 3)).toInt64 &&& (4294967295 : Int64)))
  obtain ⟨wE, eE, gE⟩ := nx w1 t' af
  obtain ⟨S', G', r1, _⟩ := af
  obtain ⟨fo, ho⟩ := Rc_o hR
  refine ⟨wE, ?_, gE⟩
  rw [e_L_law_18, b_L_law_18]
  refine bnd (Rc_sl hR) ?_
  refine (if_neg (fun q => by have := (lt6 hL (by omega)).mp q; omega)).trans ?_
  refine bnd (Rc_s0 hR hL (by omega)) ?_
  refine (if_neg h0).trans ?_
  refine (if_neg h1).trans ?_
  refine (if_neg h2).trans ?_
  refine (if_neg h3).trans ?_
  refine (if_neg h4).trans ?_
  refine (if_neg h5).trans ?_
  refine (if_neg h6).trans ?_
  refine (if_neg h7).trans ?_
  refine (if_neg h8).trans ?_
  refine (if_pos hk).trans ?_
  refine bnd (Rc_s (j := 1) hR hL (by omega)) ?_
  refine bnd (Rc_s (j := 2) hR hL (by omega)) ?_
  refine bnd (Rc_s (j := 3) hR hL (by omega)) ?_
  refine bnd ho ?_
  refine bnd e1 ?_
  refine xqI_w ?_
  refine bnd (Rc_s (j := 1) r1 hL (by omega)) ?_
  refine bnd (Rc_s (j := 2) r1 hL (by omega)) ?_
  refine bnd (Rc_s (j := 3) r1 hL (by omega)) ?_
  refine bnd (Rc_mo r1) ?_
  refine bnd e2 ?_
  refine xqI_w ?_
  exact (if_pos rfl).trans eE
theorem lw_inHand (hL : L ≤ 3072) (hi : i + 6 ≤ L) (hR : Rc (x0, b, L, xs, t) S G w) (hm : Rm S t) (hw : wf S) (nx : nxt x0 b L i N xs t w) (h0 : ¬ xs i &&& 31 = Int32.ofInt 0) (h1 : ¬ xs i &&& 31 = Int32.ofInt 1) (h2 : ¬ xs i &&& 31 = Int32.ofInt 2) (h3 : ¬ xs i &&& 31 = Int32.ofInt 3) (h4 : ¬ xs i &&& 31 = Int32.ofInt 4) (h5 : ¬ xs i &&& 31 = Int32.ofInt 5) (h6 : ¬ xs i &&& 31 = Int32.ofInt 6) (h7 : ¬ xs i &&& 31 = Int32.ofInt 7) (h8 : ¬ xs i &&& 31 = Int32.ofInt 8) (h9 : ¬ xs i &&& 31 = Int32.ofInt 9) (hk : xs i &&& 31 = Int32.ofInt 10) : ∃ wE, xev 148 18 [some (xA (some (b))), some (xA (some (x0))), some (xA (some (x0 + 22))), some (xI (nI i))] [] w = some (some (xI 1), wE) ∧ gr N w wE := by
  obtain ⟨r, w1, t', e1, e2, af⟩ := q_inHand hR hm hw (xs (i + 1))
  obtain ⟨wE, eE, gE⟩ := nx w1 t' af
  obtain ⟨S', G', r1, _⟩ := af
  obtain ⟨fo, ho⟩ := Rc_o hR
  refine ⟨wE, ?_, gE⟩
  rw [e_L_law_18, b_L_law_18]
  refine bnd (Rc_sl hR) ?_
  refine (if_neg (fun q => by have := (lt6 hL (by omega)).mp q; omega)).trans ?_
  refine bnd (Rc_s0 hR hL (by omega)) ?_
  refine (if_neg h0).trans ?_
  refine (if_neg h1).trans ?_
  refine (if_neg h2).trans ?_
  refine (if_neg h3).trans ?_
  refine (if_neg h4).trans ?_
  refine (if_neg h5).trans ?_
  refine (if_neg h6).trans ?_
  refine (if_neg h7).trans ?_
  refine (if_neg h8).trans ?_
  refine (if_neg h9).trans ?_
  refine (if_pos hk).trans ?_
  refine bnd (Rc_s (j := 1) hR hL (by omega)) ?_
  refine bnd ho ?_
  refine bnd e1 ?_
  refine xqJ_w ?_
  refine bnd (Rc_s (j := 1) r1 hL (by omega)) ?_
  refine bnd (Rc_mo r1) ?_
  refine bnd e2 ?_
  refine xqJ_w ?_
  exact (if_pos ((lgc_eq _ _).mpr rfl)).trans eE
theorem lw_chip (hL : L ≤ 3072) (hi : i + 6 ≤ L) (hR : Rc (x0, b, L, xs, t) S G w) (hm : Rm S t) (hw : wf S) (nx : nxt x0 b L i N xs t w) (h0 : ¬ xs i &&& 31 = Int32.ofInt 0) (h1 : ¬ xs i &&& 31 = Int32.ofInt 1) (h2 : ¬ xs i &&& 31 = Int32.ofInt 2) (h3 : ¬ xs i &&& 31 = Int32.ofInt 3) (h4 : ¬ xs i &&& 31 = Int32.ofInt 4) (h5 : ¬ xs i &&& 31 = Int32.ofInt 5) (h6 : ¬ xs i &&& 31 = Int32.ofInt 6) (h7 : ¬ xs i &&& 31 = Int32.ofInt 7) (h8 : ¬ xs i &&& 31 = Int32.ofInt 8) (h9 : ¬ xs i &&& 31 = Int32.ofInt 9) (h10 : ¬ xs i &&& 31 = Int32.ofInt 10) (hk : xs i &&& 31 = Int32.ofInt 11) : ∃ wE, xev 148 18 [some (xA (some (b))), some (xA (some (x0))), some (xA (some (x0 + 22))), some (xI (nI i))] [] w = some (some (xI 1), wE) ∧ gr N w wE := by
  obtain ⟨r, w1, t', e1, e2, af⟩ := q_chip hR hm hw (xs (i + 1))
  obtain ⟨wE, eE, gE⟩ := nx w1 t' af
  obtain ⟨S', G', r1, _⟩ := af
  obtain ⟨fo, ho⟩ := Rc_o hR
  refine ⟨wE, ?_, gE⟩
  rw [e_L_law_18, b_L_law_18]
  refine bnd (Rc_sl hR) ?_
  refine (if_neg (fun q => by have := (lt6 hL (by omega)).mp q; omega)).trans ?_
  refine bnd (Rc_s0 hR hL (by omega)) ?_
  refine (if_neg h0).trans ?_
  refine (if_neg h1).trans ?_
  refine (if_neg h2).trans ?_
  refine (if_neg h3).trans ?_
  refine (if_neg h4).trans ?_
  refine (if_neg h5).trans ?_
  refine (if_neg h6).trans ?_
  refine (if_neg h7).trans ?_
  refine (if_neg h8).trans ?_
  refine (if_neg h9).trans ?_
  refine (if_neg h10).trans ?_
  refine (if_pos hk).trans ?_
  refine bnd (Rc_s (j := 1) hR hL (by omega)) ?_
  refine bnd ho ?_
  refine bnd e1 ?_
  refine xqI_w ?_
  refine bnd (Rc_s (j := 1) r1 hL (by omega)) ?_
  refine bnd (Rc_mo r1) ?_
  refine bnd e2 ?_
  refine xqI_w ?_
  exact (if_pos rfl).trans eE
theorem lw_cut (hL : L ≤ 3072) (hi : i + 6 ≤ L) (hR : Rc (x0, b, L, xs, t) S G w) (hm : Rm S t) (hw : wf S) (nx : nxt x0 b L i N xs t w) (h0 : ¬ xs i &&& 31 = Int32.ofInt 0) (h1 : ¬ xs i &&& 31 = Int32.ofInt 1) (h2 : ¬ xs i &&& 31 = Int32.ofInt 2) (h3 : ¬ xs i &&& 31 = Int32.ofInt 3) (h4 : ¬ xs i &&& 31 = Int32.ofInt 4) (h5 : ¬ xs i &&& 31 = Int32.ofInt 5) (h6 : ¬ xs i &&& 31 = Int32.ofInt 6) (h7 : ¬ xs i &&& 31 = Int32.ofInt 7) (h8 : ¬ xs i &&& 31 = Int32.ofInt 8) (h9 : ¬ xs i &&& 31 = Int32.ofInt 9) (h10 : ¬ xs i &&& 31 = Int32.ofInt 10) (h11 : ¬ xs i &&& 31 = Int32.ofInt 11) (hk : xs i &&& 31 = Int32.ofInt 12) : ∃ wE, xev 148 18 [some (xA (some (b))), some (xA (some (x0))), some (xA (some (x0 + 22))), some (xI (nI i))] [] w = some (some (xI 1), wE) ∧ gr N w wE := by
  obtain ⟨r, w1, t', e1, e2, af⟩ := q_cut hR hm hw (xs (i + 1)) (xs (i + 2)) (xs (i + 3))
  obtain ⟨wE, eE, gE⟩ := nx w1 t' af
  obtain ⟨S', G', r1, _⟩ := af
  obtain ⟨fo, ho⟩ := Rc_o hR
  refine ⟨wE, ?_, gE⟩
  rw [e_L_law_18, b_L_law_18]
  refine bnd (Rc_sl hR) ?_
  refine (if_neg (fun q => by have := (lt6 hL (by omega)).mp q; omega)).trans ?_
  refine bnd (Rc_s0 hR hL (by omega)) ?_
  refine (if_neg h0).trans ?_
  refine (if_neg h1).trans ?_
  refine (if_neg h2).trans ?_
  refine (if_neg h3).trans ?_
  refine (if_neg h4).trans ?_
  refine (if_neg h5).trans ?_
  refine (if_neg h6).trans ?_
  refine (if_neg h7).trans ?_
  refine (if_neg h8).trans ?_
  refine (if_neg h9).trans ?_
  refine (if_neg h10).trans ?_
  refine (if_neg h11).trans ?_
  refine (if_pos hk).trans ?_
  refine bnd (Rc_s (j := 1) hR hL (by omega)) ?_
  refine bnd (Rc_s (j := 2) hR hL (by omega)) ?_
  refine bnd (Rc_s (j := 3) hR hL (by omega)) ?_
  refine bnd ho ?_
  refine bnd e1 ?_
  refine xqI_w ?_
  refine bnd (Rc_s (j := 1) r1 hL (by omega)) ?_
  refine bnd (Rc_s (j := 2) r1 hL (by omega)) ?_
  refine bnd (Rc_s (j := 3) r1 hL (by omega)) ?_
  refine bnd (Rc_mo r1) ?_
  refine bnd e2 ?_
  refine xqI_w ?_
  exact (if_pos rfl).trans eE
theorem lw_paste (hL : L ≤ 3072) (hi : i + 6 ≤ L) (hR : Rc (x0, b, L, xs, t) S G w) (hm : Rm S t) (hw : wf S) (nx : nxt x0 b L i N xs t w) (h0 : ¬ xs i &&& 31 = Int32.ofInt 0) (h1 : ¬ xs i &&& 31 = Int32.ofInt 1) (h2 : ¬ xs i &&& 31 = Int32.ofInt 2) (h3 : ¬ xs i &&& 31 = Int32.ofInt 3) (h4 : ¬ xs i &&& 31 = Int32.ofInt 4) (h5 : ¬ xs i &&& 31 = Int32.ofInt 5) (h6 : ¬ xs i &&& 31 = Int32.ofInt 6) (h7 : ¬ xs i &&& 31 = Int32.ofInt 7) (h8 : ¬ xs i &&& 31 = Int32.ofInt 8) (h9 : ¬ xs i &&& 31 = Int32.ofInt 9) (h10 : ¬ xs i &&& 31 = Int32.ofInt 10) (h11 : ¬ xs i &&& 31 = Int32.ofInt 11) (h12 : ¬ xs i &&& 31 = Int32.ofInt 12) (hk : xs i &&& 31 = Int32.ofInt 13) : ∃ wE, xev 148 18 [some (xA (some (b))), some (xA (some (x0))), some (xA (some (x0 + 22))), some (xI (nI i))] [] w = some (some (xI 1), wE) ∧ gr N w wE := by
  obtain ⟨r, w1, t', e1, e2, af⟩ := q_paste hR hm hw (xs (i + 1)) (xs (i + 2))
  obtain ⟨wE, eE, gE⟩ := nx w1 t' af
  obtain ⟨S', G', r1, _⟩ := af
  obtain ⟨fo, ho⟩ := Rc_o hR
  refine ⟨wE, ?_, gE⟩
  rw [e_L_law_18, b_L_law_18]
  refine bnd (Rc_sl hR) ?_
  refine (if_neg (fun q => by have := (lt6 hL (by omega)).mp q; omega)).trans ?_
  refine bnd (Rc_s0 hR hL (by omega)) ?_
  refine (if_neg h0).trans ?_
  refine (if_neg h1).trans ?_
  refine (if_neg h2).trans ?_
  refine (if_neg h3).trans ?_
  refine (if_neg h4).trans ?_
  refine (if_neg h5).trans ?_
  refine (if_neg h6).trans ?_
  refine (if_neg h7).trans ?_
  refine (if_neg h8).trans ?_
  refine (if_neg h9).trans ?_
  refine (if_neg h10).trans ?_
  refine (if_neg h11).trans ?_
  refine (if_neg h12).trans ?_
  refine (if_pos hk).trans ?_
  refine bnd (Rc_s (j := 1) hR hL (by omega)) ?_
  refine bnd (Rc_s (j := 2) hR hL (by omega)) ?_
  refine bnd ho ?_
  refine bnd e1 ?_
  refine xqI_w ?_
  refine bnd (Rc_s (j := 1) r1 hL (by omega)) ?_
  refine bnd (Rc_s (j := 2) r1 hL (by omega)) ?_
  refine bnd (Rc_mo r1) ?_
  refine bnd e2 ?_
  refine xqI_w ?_
  exact (if_pos rfl).trans eE
theorem lw_turn (hL : L ≤ 3072) (hi : i + 6 ≤ L) (hR : Rc (x0, b, L, xs, t) S G w) (hm : Rm S t) (hw : wf S) (nx : nxt x0 b L i N xs t w) (h0 : ¬ xs i &&& 31 = Int32.ofInt 0) (h1 : ¬ xs i &&& 31 = Int32.ofInt 1) (h2 : ¬ xs i &&& 31 = Int32.ofInt 2) (h3 : ¬ xs i &&& 31 = Int32.ofInt 3) (h4 : ¬ xs i &&& 31 = Int32.ofInt 4) (h5 : ¬ xs i &&& 31 = Int32.ofInt 5) (h6 : ¬ xs i &&& 31 = Int32.ofInt 6) (h7 : ¬ xs i &&& 31 = Int32.ofInt 7) (h8 : ¬ xs i &&& 31 = Int32.ofInt 8) (h9 : ¬ xs i &&& 31 = Int32.ofInt 9) (h10 : ¬ xs i &&& 31 = Int32.ofInt 10) (h11 : ¬ xs i &&& 31 = Int32.ofInt 11) (h12 : ¬ xs i &&& 31 = Int32.ofInt 12) (h13 : ¬ xs i &&& 31 = Int32.ofInt 13) (hk : xs i &&& 31 = Int32.ofInt 14) : ∃ wE, xev 148 18 [some (xA (some (b))), some (xA (some (x0))), some (xA (some (x0 + 22))), some (xI (nI i))] [] w = some (some (xI 1), wE) ∧ gr N w wE := by
  obtain ⟨r, w1, t', e1, e2, af⟩ := q_turn hR hm hw (xs (i + 1)) (xs (i + 2))
  obtain ⟨wE, eE, gE⟩ := nx w1 t' af
  obtain ⟨S', G', r1, _⟩ := af
  obtain ⟨fo, ho⟩ := Rc_o hR
  refine ⟨wE, ?_, gE⟩
  rw [e_L_law_18, b_L_law_18]
  refine bnd (Rc_sl hR) ?_
  refine (if_neg (fun q => by have := (lt6 hL (by omega)).mp q; omega)).trans ?_
  refine bnd (Rc_s0 hR hL (by omega)) ?_
  refine (if_neg h0).trans ?_
  refine (if_neg h1).trans ?_
  refine (if_neg h2).trans ?_
  refine (if_neg h3).trans ?_
  refine (if_neg h4).trans ?_
  refine (if_neg h5).trans ?_
  refine (if_neg h6).trans ?_
  refine (if_neg h7).trans ?_
  refine (if_neg h8).trans ?_
  refine (if_neg h9).trans ?_
  refine (if_neg h10).trans ?_
  refine (if_neg h11).trans ?_
  refine (if_neg h12).trans ?_
  refine (if_neg h13).trans ?_
  refine (if_pos hk).trans ?_
  refine bnd (Rc_s (j := 1) hR hL (by omega)) ?_
  refine bnd (Rc_s (j := 2) hR hL (by omega)) ?_
  refine bnd ho ?_
  refine bnd e1 ?_
  refine xqI_w ?_
  refine bnd (Rc_s (j := 1) r1 hL (by omega)) ?_
  refine bnd (Rc_s (j := 2) r1 hL (by omega)) ?_
  refine bnd (Rc_mo r1) ?_
  refine bnd e2 ?_
  refine xqI_w ?_
  exact (if_pos rfl).trans eE
theorem lw_fits (hL : L ≤ 3072) (hi : i + 6 ≤ L) (hR : Rc (x0, b, L, xs, t) S G w) (hm : Rm S t) (hw : wf S) (nx : nxt x0 b L i N xs t w) (h0 : ¬ xs i &&& 31 = Int32.ofInt 0) (h1 : ¬ xs i &&& 31 = Int32.ofInt 1) (h2 : ¬ xs i &&& 31 = Int32.ofInt 2) (h3 : ¬ xs i &&& 31 = Int32.ofInt 3) (h4 : ¬ xs i &&& 31 = Int32.ofInt 4) (h5 : ¬ xs i &&& 31 = Int32.ofInt 5) (h6 : ¬ xs i &&& 31 = Int32.ofInt 6) (h7 : ¬ xs i &&& 31 = Int32.ofInt 7) (h8 : ¬ xs i &&& 31 = Int32.ofInt 8) (h9 : ¬ xs i &&& 31 = Int32.ofInt 9) (h10 : ¬ xs i &&& 31 = Int32.ofInt 10) (h11 : ¬ xs i &&& 31 = Int32.ofInt 11) (h12 : ¬ xs i &&& 31 = Int32.ofInt 12) (h13 : ¬ xs i &&& 31 = Int32.ofInt 13) (h14 : ¬ xs i &&& 31 = Int32.ofInt 14) (hk : xs i &&& 31 = Int32.ofInt 15) : ∃ wE, xev 148 18 [some (xA (some (b))), some (xA (some (x0))), some (xA (some (x0 + 22))), some (xI (nI i))] [] w = some (some (xI 1), wE) ∧ gr N w wE := by
  obtain ⟨r, w1, t', e1, e2, af⟩ := q_fits hR hm hw (xs (i + 1))
  obtain ⟨wE, eE, gE⟩ := nx w1 t' af
  obtain ⟨S', G', r1, _⟩ := af
  obtain ⟨fo, ho⟩ := Rc_o hR
  refine ⟨wE, ?_, gE⟩
  rw [e_L_law_18, b_L_law_18]
  refine bnd (Rc_sl hR) ?_
  refine (if_neg (fun q => by have := (lt6 hL (by omega)).mp q; omega)).trans ?_
  refine bnd (Rc_s0 hR hL (by omega)) ?_
  refine (if_neg h0).trans ?_
  refine (if_neg h1).trans ?_
  refine (if_neg h2).trans ?_
  refine (if_neg h3).trans ?_
  refine (if_neg h4).trans ?_
  refine (if_neg h5).trans ?_
  refine (if_neg h6).trans ?_
  refine (if_neg h7).trans ?_
  refine (if_neg h8).trans ?_
  refine (if_neg h9).trans ?_
  refine (if_neg h10).trans ?_
  refine (if_neg h11).trans ?_
  refine (if_neg h12).trans ?_
  refine (if_neg h13).trans ?_
  refine (if_neg h14).trans ?_
  refine (if_pos hk).trans ?_
  refine bnd (Rc_s (j := 1) hR hL (by omega)) ?_
  refine bnd ho ?_
  refine bnd e1 ?_
  refine xqI_w ?_
  refine bnd (Rc_s (j := 1) r1 hL (by omega)) ?_
  refine bnd (Rc_mo r1) ?_
  refine bnd e2 ?_
  refine xqI_w ?_
  exact (if_pos rfl).trans eE
theorem lw_pour (hL : L ≤ 3072) (hi : i + 6 ≤ L) (hR : Rc (x0, b, L, xs, t) S G w) (hm : Rm S t) (hw : wf S) (nx : nxt x0 b L i N xs t w) (h0 : ¬ xs i &&& 31 = Int32.ofInt 0) (h1 : ¬ xs i &&& 31 = Int32.ofInt 1) (h2 : ¬ xs i &&& 31 = Int32.ofInt 2) (h3 : ¬ xs i &&& 31 = Int32.ofInt 3) (h4 : ¬ xs i &&& 31 = Int32.ofInt 4) (h5 : ¬ xs i &&& 31 = Int32.ofInt 5) (h6 : ¬ xs i &&& 31 = Int32.ofInt 6) (h7 : ¬ xs i &&& 31 = Int32.ofInt 7) (h8 : ¬ xs i &&& 31 = Int32.ofInt 8) (h9 : ¬ xs i &&& 31 = Int32.ofInt 9) (h10 : ¬ xs i &&& 31 = Int32.ofInt 10) (h11 : ¬ xs i &&& 31 = Int32.ofInt 11) (h12 : ¬ xs i &&& 31 = Int32.ofInt 12) (h13 : ¬ xs i &&& 31 = Int32.ofInt 13) (h14 : ¬ xs i &&& 31 = Int32.ofInt 14) (h15 : ¬ xs i &&& 31 = Int32.ofInt 15) (hk : xs i &&& 31 = Int32.ofInt 16) : ∃ wE, xev 148 18 [some (xA (some (b))), some (xA (some (x0))), some (xA (some (x0 + 22))), some (xI (nI i))] [] w = some (some (xI 1), wE) ∧ gr N w wE := by
  obtain ⟨r, w1, t', e1, e2, af⟩ := q_pour hR hm hw (xs (i + 1)) (xs (i + 2)) (xs (i + 3)) (xs (i + 4)) (xs (i + 5))
  obtain ⟨wE, eE, gE⟩ := nx w1 t' af
  obtain ⟨S', G', r1, _⟩ := af
  obtain ⟨fo, ho⟩ := Rc_o hR
  refine ⟨wE, ?_, gE⟩
  rw [e_L_law_18, b_L_law_18]
  refine bnd (Rc_sl hR) ?_
  refine (if_neg (fun q => by have := (lt6 hL (by omega)).mp q; omega)).trans ?_
  refine bnd (Rc_s0 hR hL (by omega)) ?_
  refine (if_neg h0).trans ?_
  refine (if_neg h1).trans ?_
  refine (if_neg h2).trans ?_
  refine (if_neg h3).trans ?_
  refine (if_neg h4).trans ?_
  refine (if_neg h5).trans ?_
  refine (if_neg h6).trans ?_
  refine (if_neg h7).trans ?_
  refine (if_neg h8).trans ?_
  refine (if_neg h9).trans ?_
  refine (if_neg h10).trans ?_
  refine (if_neg h11).trans ?_
  refine (if_neg h12).trans ?_
  refine (if_neg h13).trans ?_
  refine (if_neg h14).trans ?_
  refine (if_neg h15).trans ?_
  refine (if_pos hk).trans ?_
  refine bnd (Rc_s (j := 1) hR hL (by omega)) ?_
  refine bnd (Rc_s (j := 2) hR hL (by omega)) ?_
  refine bnd (Rc_s (j := 3) hR hL (by omega)) ?_
  refine bnd (Rc_s (j := 4) hR hL (by omega)) ?_
  refine bnd (Rc_s (j := 5) hR hL (by omega)) ?_
  refine bnd ho ?_
  refine bnd e1 ?_
  refine xqI_w ?_
  refine bnd (Rc_s (j := 1) r1 hL (by omega)) ?_
  refine bnd (Rc_s (j := 2) r1 hL (by omega)) ?_
  refine bnd (Rc_s (j := 3) r1 hL (by omega)) ?_
  refine bnd (Rc_s (j := 4) r1 hL (by omega)) ?_
  refine bnd (Rc_s (j := 5) r1 hL (by omega)) ?_
  refine bnd (Rc_mo r1) ?_
  refine bnd e2 ?_
  refine xqI_w ?_
  exact (if_pos rfl).trans eE
theorem lw_sum (hL : L ≤ 3072) (hi : i + 6 ≤ L) (hR : Rc (x0, b, L, xs, t) S G w) (hm : Rm S t) (hw : wf S) (nx : nxt x0 b L i N xs t w) (h0 : ¬ xs i &&& 31 = Int32.ofInt 0) (h1 : ¬ xs i &&& 31 = Int32.ofInt 1) (h2 : ¬ xs i &&& 31 = Int32.ofInt 2) (h3 : ¬ xs i &&& 31 = Int32.ofInt 3) (h4 : ¬ xs i &&& 31 = Int32.ofInt 4) (h5 : ¬ xs i &&& 31 = Int32.ofInt 5) (h6 : ¬ xs i &&& 31 = Int32.ofInt 6) (h7 : ¬ xs i &&& 31 = Int32.ofInt 7) (h8 : ¬ xs i &&& 31 = Int32.ofInt 8) (h9 : ¬ xs i &&& 31 = Int32.ofInt 9) (h10 : ¬ xs i &&& 31 = Int32.ofInt 10) (h11 : ¬ xs i &&& 31 = Int32.ofInt 11) (h12 : ¬ xs i &&& 31 = Int32.ofInt 12) (h13 : ¬ xs i &&& 31 = Int32.ofInt 13) (h14 : ¬ xs i &&& 31 = Int32.ofInt 14) (h15 : ¬ xs i &&& 31 = Int32.ofInt 15) (h16 : ¬ xs i &&& 31 = Int32.ofInt 16) (hk : xs i &&& 31 = Int32.ofInt 17) : ∃ wE, xev 148 18 [some (xA (some (b))), some (xA (some (x0))), some (xA (some (x0 + 22))), some (xI (nI i))] [] w = some (some (xI 1), wE) ∧ gr N w wE := by
  obtain ⟨r, w1, t', e1, e2, af⟩ := q_sum hR hm hw (xs (i + 1)) (xs (i + 2))
  obtain ⟨wE, eE, gE⟩ := nx w1 t' af
  obtain ⟨S', G', r1, _⟩ := af
  obtain ⟨fo, ho⟩ := Rc_o hR
  refine ⟨wE, ?_, gE⟩
  rw [e_L_law_18, b_L_law_18]
  refine bnd (Rc_sl hR) ?_
  refine (if_neg (fun q => by have := (lt6 hL (by omega)).mp q; omega)).trans ?_
  refine bnd (Rc_s0 hR hL (by omega)) ?_
  refine (if_neg h0).trans ?_
  refine (if_neg h1).trans ?_
  refine (if_neg h2).trans ?_
  refine (if_neg h3).trans ?_
  refine (if_neg h4).trans ?_
  refine (if_neg h5).trans ?_
  refine (if_neg h6).trans ?_
  refine (if_neg h7).trans ?_
  refine (if_neg h8).trans ?_
  refine (if_neg h9).trans ?_
  refine (if_neg h10).trans ?_
  refine (if_neg h11).trans ?_
  refine (if_neg h12).trans ?_
  refine (if_neg h13).trans ?_
  refine (if_neg h14).trans ?_
  refine (if_neg h15).trans ?_
  refine (if_neg h16).trans ?_
  refine (if_pos hk).trans ?_
  refine bnd (Rc_s (j := 1) hR hL (by omega)) ?_
  refine bnd (Rc_s (j := 2) hR hL (by omega)) ?_
  refine bnd ho ?_
  refine bnd e1 ?_
  refine xqI_w ?_
  refine bnd (Rc_s (j := 1) r1 hL (by omega)) ?_
  refine bnd (Rc_s (j := 2) r1 hL (by omega)) ?_
  refine bnd (Rc_mo r1) ?_
  refine bnd e2 ?_
  refine xqI_w ?_
  exact (if_pos rfl).trans eE
theorem lw_where (hL : L ≤ 3072) (hi : i + 6 ≤ L) (hR : Rc (x0, b, L, xs, t) S G w) (hm : Rm S t) (hw : wf S) (nx : nxt x0 b L i N xs t w) (h0 : ¬ xs i &&& 31 = Int32.ofInt 0) (h1 : ¬ xs i &&& 31 = Int32.ofInt 1) (h2 : ¬ xs i &&& 31 = Int32.ofInt 2) (h3 : ¬ xs i &&& 31 = Int32.ofInt 3) (h4 : ¬ xs i &&& 31 = Int32.ofInt 4) (h5 : ¬ xs i &&& 31 = Int32.ofInt 5) (h6 : ¬ xs i &&& 31 = Int32.ofInt 6) (h7 : ¬ xs i &&& 31 = Int32.ofInt 7) (h8 : ¬ xs i &&& 31 = Int32.ofInt 8) (h9 : ¬ xs i &&& 31 = Int32.ofInt 9) (h10 : ¬ xs i &&& 31 = Int32.ofInt 10) (h11 : ¬ xs i &&& 31 = Int32.ofInt 11) (h12 : ¬ xs i &&& 31 = Int32.ofInt 12) (h13 : ¬ xs i &&& 31 = Int32.ofInt 13) (h14 : ¬ xs i &&& 31 = Int32.ofInt 14) (h15 : ¬ xs i &&& 31 = Int32.ofInt 15) (h16 : ¬ xs i &&& 31 = Int32.ofInt 16) (h17 : ¬ xs i &&& 31 = Int32.ofInt 17) (hk : xs i &&& 31 = Int32.ofInt 18) : ∃ wE, xev 148 18 [some (xA (some (b))), some (xA (some (x0))), some (xA (some (x0 + 22))), some (xI (nI i))] [] w = some (some (xI 1), wE) ∧ gr N w wE := by
  obtain ⟨r, w1, t', e1, e2, af⟩ := q_where hR hm hw (xs (i + 1)) (xs (i + 2)) (xs (i + 3)) (((xs (i + 4)).toInt64 <<< ((32 : Int32).toInt64 &&& 63)) ||| ((xs (i + 5)).toInt64 &&& (4294967295 : Int64)))
  obtain ⟨wE, eE, gE⟩ := nx w1 t' af
  obtain ⟨S', G', r1, _⟩ := af
  obtain ⟨fo, ho⟩ := Rc_o hR
  refine ⟨wE, ?_, gE⟩
  rw [e_L_law_18, b_L_law_18]
  refine bnd (Rc_sl hR) ?_
  refine (if_neg (fun q => by have := (lt6 hL (by omega)).mp q; omega)).trans ?_
  refine bnd (Rc_s0 hR hL (by omega)) ?_
  refine (if_neg h0).trans ?_
  refine (if_neg h1).trans ?_
  refine (if_neg h2).trans ?_
  refine (if_neg h3).trans ?_
  refine (if_neg h4).trans ?_
  refine (if_neg h5).trans ?_
  refine (if_neg h6).trans ?_
  refine (if_neg h7).trans ?_
  refine (if_neg h8).trans ?_
  refine (if_neg h9).trans ?_
  refine (if_neg h10).trans ?_
  refine (if_neg h11).trans ?_
  refine (if_neg h12).trans ?_
  refine (if_neg h13).trans ?_
  refine (if_neg h14).trans ?_
  refine (if_neg h15).trans ?_
  refine (if_neg h16).trans ?_
  refine (if_neg h17).trans ?_
  refine (if_pos hk).trans ?_
  refine bnd (Rc_s (j := 1) hR hL (by omega)) ?_
  refine bnd (Rc_s (j := 2) hR hL (by omega)) ?_
  refine bnd (Rc_s (j := 3) hR hL (by omega)) ?_
  refine bnd (Rc_s (j := 4) hR hL (by omega)) ?_
  refine bnd (Rc_s (j := 5) hR hL (by omega)) ?_
  refine bnd ho ?_
  refine bnd e1 ?_
  refine xqI_w ?_
  refine bnd (Rc_s (j := 1) r1 hL (by omega)) ?_
  refine bnd (Rc_s (j := 2) r1 hL (by omega)) ?_
  refine bnd (Rc_s (j := 3) r1 hL (by omega)) ?_
  refine bnd (Rc_s (j := 4) r1 hL (by omega)) ?_
  refine bnd (Rc_s (j := 5) r1 hL (by omega)) ?_
  refine bnd (Rc_mo r1) ?_
  refine bnd e2 ?_
  refine xqI_w ?_
  exact (if_pos rfl).trans eE
theorem lw_meet (hL : L ≤ 3072) (hi : i + 6 ≤ L) (hR : Rc (x0, b, L, xs, t) S G w) (hm : Rm S t) (hw : wf S) (nx : nxt x0 b L i N xs t w) (h0 : ¬ xs i &&& 31 = Int32.ofInt 0) (h1 : ¬ xs i &&& 31 = Int32.ofInt 1) (h2 : ¬ xs i &&& 31 = Int32.ofInt 2) (h3 : ¬ xs i &&& 31 = Int32.ofInt 3) (h4 : ¬ xs i &&& 31 = Int32.ofInt 4) (h5 : ¬ xs i &&& 31 = Int32.ofInt 5) (h6 : ¬ xs i &&& 31 = Int32.ofInt 6) (h7 : ¬ xs i &&& 31 = Int32.ofInt 7) (h8 : ¬ xs i &&& 31 = Int32.ofInt 8) (h9 : ¬ xs i &&& 31 = Int32.ofInt 9) (h10 : ¬ xs i &&& 31 = Int32.ofInt 10) (h11 : ¬ xs i &&& 31 = Int32.ofInt 11) (h12 : ¬ xs i &&& 31 = Int32.ofInt 12) (h13 : ¬ xs i &&& 31 = Int32.ofInt 13) (h14 : ¬ xs i &&& 31 = Int32.ofInt 14) (h15 : ¬ xs i &&& 31 = Int32.ofInt 15) (h16 : ¬ xs i &&& 31 = Int32.ofInt 16) (h17 : ¬ xs i &&& 31 = Int32.ofInt 17) (h18 : ¬ xs i &&& 31 = Int32.ofInt 18) (hk : xs i &&& 31 = Int32.ofInt 19) : ∃ wE, xev 148 18 [some (xA (some (b))), some (xA (some (x0))), some (xA (some (x0 + 22))), some (xI (nI i))] [] w = some (some (xI 1), wE) ∧ gr N w wE := by
  obtain ⟨r, w1, t', e1, e2, af⟩ := q_meet hR hm hw (xs (i + 1)) (xs (i + 2)) (xs (i + 3))
  obtain ⟨wE, eE, gE⟩ := nx w1 t' af
  obtain ⟨S', G', r1, _⟩ := af
  obtain ⟨fo, ho⟩ := Rc_o hR
  refine ⟨wE, ?_, gE⟩
  rw [e_L_law_18, b_L_law_18]
  refine bnd (Rc_sl hR) ?_
  refine (if_neg (fun q => by have := (lt6 hL (by omega)).mp q; omega)).trans ?_
  refine bnd (Rc_s0 hR hL (by omega)) ?_
  refine (if_neg h0).trans ?_
  refine (if_neg h1).trans ?_
  refine (if_neg h2).trans ?_
  refine (if_neg h3).trans ?_
  refine (if_neg h4).trans ?_
  refine (if_neg h5).trans ?_
  refine (if_neg h6).trans ?_
  refine (if_neg h7).trans ?_
  refine (if_neg h8).trans ?_
  refine (if_neg h9).trans ?_
  refine (if_neg h10).trans ?_
  refine (if_neg h11).trans ?_
  refine (if_neg h12).trans ?_
  refine (if_neg h13).trans ?_
  refine (if_neg h14).trans ?_
  refine (if_neg h15).trans ?_
  refine (if_neg h16).trans ?_
  refine (if_neg h17).trans ?_
  refine (if_neg h18).trans ?_
  refine (if_pos hk).trans ?_
  refine bnd (Rc_s (j := 1) hR hL (by omega)) ?_
  refine bnd (Rc_s (j := 2) hR hL (by omega)) ?_
  refine bnd (Rc_s (j := 3) hR hL (by omega)) ?_
  refine bnd ho ?_
  refine bnd e1 ?_
  refine xqI_w ?_
  refine bnd (Rc_s (j := 1) r1 hL (by omega)) ?_
  refine bnd (Rc_s (j := 2) r1 hL (by omega)) ?_
  refine bnd (Rc_s (j := 3) r1 hL (by omega)) ?_
  refine bnd (Rc_mo r1) ?_
  refine bnd e2 ?_
  refine xqI_w ?_
  exact (if_pos rfl).trans eE
theorem lw_pair (hL : L ≤ 3072) (hi : i + 6 ≤ L) (hR : Rc (x0, b, L, xs, t) S G w) (hm : Rm S t) (hw : wf S) (nx : nxt x0 b L i N xs t w) (h0 : ¬ xs i &&& 31 = Int32.ofInt 0) (h1 : ¬ xs i &&& 31 = Int32.ofInt 1) (h2 : ¬ xs i &&& 31 = Int32.ofInt 2) (h3 : ¬ xs i &&& 31 = Int32.ofInt 3) (h4 : ¬ xs i &&& 31 = Int32.ofInt 4) (h5 : ¬ xs i &&& 31 = Int32.ofInt 5) (h6 : ¬ xs i &&& 31 = Int32.ofInt 6) (h7 : ¬ xs i &&& 31 = Int32.ofInt 7) (h8 : ¬ xs i &&& 31 = Int32.ofInt 8) (h9 : ¬ xs i &&& 31 = Int32.ofInt 9) (h10 : ¬ xs i &&& 31 = Int32.ofInt 10) (h11 : ¬ xs i &&& 31 = Int32.ofInt 11) (h12 : ¬ xs i &&& 31 = Int32.ofInt 12) (h13 : ¬ xs i &&& 31 = Int32.ofInt 13) (h14 : ¬ xs i &&& 31 = Int32.ofInt 14) (h15 : ¬ xs i &&& 31 = Int32.ofInt 15) (h16 : ¬ xs i &&& 31 = Int32.ofInt 16) (h17 : ¬ xs i &&& 31 = Int32.ofInt 17) (h18 : ¬ xs i &&& 31 = Int32.ofInt 18) (h19 : ¬ xs i &&& 31 = Int32.ofInt 19) (hk : xs i &&& 31 = Int32.ofInt 20) : ∃ wE, xev 148 18 [some (xA (some (b))), some (xA (some (x0))), some (xA (some (x0 + 22))), some (xI (nI i))] [] w = some (some (xI 1), wE) ∧ gr N w wE := by
  obtain ⟨r, w1, t', e1, e2, af⟩ := q_pair hR hm hw (xs (i + 1)) (xs (i + 2))
  obtain ⟨wE, eE, gE⟩ := nx w1 t' af
  obtain ⟨S', G', r1, _⟩ := af
  obtain ⟨fo, ho⟩ := Rc_o hR
  refine ⟨wE, ?_, gE⟩
  rw [e_L_law_18, b_L_law_18]
  refine bnd (Rc_sl hR) ?_
  refine (if_neg (fun q => by have := (lt6 hL (by omega)).mp q; omega)).trans ?_
  refine bnd (Rc_s0 hR hL (by omega)) ?_
  refine (if_neg h0).trans ?_
  refine (if_neg h1).trans ?_
  refine (if_neg h2).trans ?_
  refine (if_neg h3).trans ?_
  refine (if_neg h4).trans ?_
  refine (if_neg h5).trans ?_
  refine (if_neg h6).trans ?_
  refine (if_neg h7).trans ?_
  refine (if_neg h8).trans ?_
  refine (if_neg h9).trans ?_
  refine (if_neg h10).trans ?_
  refine (if_neg h11).trans ?_
  refine (if_neg h12).trans ?_
  refine (if_neg h13).trans ?_
  refine (if_neg h14).trans ?_
  refine (if_neg h15).trans ?_
  refine (if_neg h16).trans ?_
  refine (if_neg h17).trans ?_
  refine (if_neg h18).trans ?_
  refine (if_neg h19).trans ?_
  refine (if_pos hk).trans ?_
  refine bnd (Rc_s (j := 1) hR hL (by omega)) ?_
  refine bnd (Rc_s (j := 2) hR hL (by omega)) ?_
  refine bnd ho ?_
  refine bnd e1 ?_
  refine xqI_w ?_
  refine bnd (Rc_s (j := 1) r1 hL (by omega)) ?_
  refine bnd (Rc_s (j := 2) r1 hL (by omega)) ?_
  refine bnd (Rc_mo r1) ?_
  refine bnd e2 ?_
  refine xqI_w ?_
  exact (if_pos rfl).trans eE
theorem lw_gather (hL : L ≤ 3072) (hi : i + 6 ≤ L) (hR : Rc (x0, b, L, xs, t) S G w) (hm : Rm S t) (hw : wf S) (nx : nxt x0 b L i N xs t w) (h0 : ¬ xs i &&& 31 = Int32.ofInt 0) (h1 : ¬ xs i &&& 31 = Int32.ofInt 1) (h2 : ¬ xs i &&& 31 = Int32.ofInt 2) (h3 : ¬ xs i &&& 31 = Int32.ofInt 3) (h4 : ¬ xs i &&& 31 = Int32.ofInt 4) (h5 : ¬ xs i &&& 31 = Int32.ofInt 5) (h6 : ¬ xs i &&& 31 = Int32.ofInt 6) (h7 : ¬ xs i &&& 31 = Int32.ofInt 7) (h8 : ¬ xs i &&& 31 = Int32.ofInt 8) (h9 : ¬ xs i &&& 31 = Int32.ofInt 9) (h10 : ¬ xs i &&& 31 = Int32.ofInt 10) (h11 : ¬ xs i &&& 31 = Int32.ofInt 11) (h12 : ¬ xs i &&& 31 = Int32.ofInt 12) (h13 : ¬ xs i &&& 31 = Int32.ofInt 13) (h14 : ¬ xs i &&& 31 = Int32.ofInt 14) (h15 : ¬ xs i &&& 31 = Int32.ofInt 15) (h16 : ¬ xs i &&& 31 = Int32.ofInt 16) (h17 : ¬ xs i &&& 31 = Int32.ofInt 17) (h18 : ¬ xs i &&& 31 = Int32.ofInt 18) (h19 : ¬ xs i &&& 31 = Int32.ofInt 19) (h20 : ¬ xs i &&& 31 = Int32.ofInt 20) (hk : xs i &&& 31 = Int32.ofInt 21) : ∃ wE, xev 148 18 [some (xA (some (b))), some (xA (some (x0))), some (xA (some (x0 + 22))), some (xI (nI i))] [] w = some (some (xI 1), wE) ∧ gr N w wE := by
  obtain ⟨r, w1, t', e1, e2, af⟩ := q_gather hR hm hw (xs (i + 1)) (xs (i + 2)) (xs (i + 3))
  obtain ⟨wE, eE, gE⟩ := nx w1 t' af
  obtain ⟨S', G', r1, _⟩ := af
  obtain ⟨fo, ho⟩ := Rc_o hR
  refine ⟨wE, ?_, gE⟩
  rw [e_L_law_18, b_L_law_18]
  refine bnd (Rc_sl hR) ?_
  refine (if_neg (fun q => by have := (lt6 hL (by omega)).mp q; omega)).trans ?_
  refine bnd (Rc_s0 hR hL (by omega)) ?_
  refine (if_neg h0).trans ?_
  refine (if_neg h1).trans ?_
  refine (if_neg h2).trans ?_
  refine (if_neg h3).trans ?_
  refine (if_neg h4).trans ?_
  refine (if_neg h5).trans ?_
  refine (if_neg h6).trans ?_
  refine (if_neg h7).trans ?_
  refine (if_neg h8).trans ?_
  refine (if_neg h9).trans ?_
  refine (if_neg h10).trans ?_
  refine (if_neg h11).trans ?_
  refine (if_neg h12).trans ?_
  refine (if_neg h13).trans ?_
  refine (if_neg h14).trans ?_
  refine (if_neg h15).trans ?_
  refine (if_neg h16).trans ?_
  refine (if_neg h17).trans ?_
  refine (if_neg h18).trans ?_
  refine (if_neg h19).trans ?_
  refine (if_neg h20).trans ?_
  refine (if_pos hk).trans ?_
  refine bnd (Rc_s (j := 1) hR hL (by omega)) ?_
  refine bnd (Rc_s (j := 2) hR hL (by omega)) ?_
  refine bnd (Rc_s (j := 3) hR hL (by omega)) ?_
  refine bnd ho ?_
  refine bnd e1 ?_
  refine xqI_w ?_
  refine bnd (Rc_s (j := 1) r1 hL (by omega)) ?_
  refine bnd (Rc_s (j := 2) r1 hL (by omega)) ?_
  refine bnd (Rc_s (j := 3) r1 hL (by omega)) ?_
  refine bnd (Rc_mo r1) ?_
  refine bnd e2 ?_
  refine xqI_w ?_
  exact (if_pos rfl).trans eE
theorem lw_image (hL : L ≤ 3072) (hi : i + 6 ≤ L) (hR : Rc (x0, b, L, xs, t) S G w) (hm : Rm S t) (hw : wf S) (nx : nxt x0 b L i N xs t w) (h0 : ¬ xs i &&& 31 = Int32.ofInt 0) (h1 : ¬ xs i &&& 31 = Int32.ofInt 1) (h2 : ¬ xs i &&& 31 = Int32.ofInt 2) (h3 : ¬ xs i &&& 31 = Int32.ofInt 3) (h4 : ¬ xs i &&& 31 = Int32.ofInt 4) (h5 : ¬ xs i &&& 31 = Int32.ofInt 5) (h6 : ¬ xs i &&& 31 = Int32.ofInt 6) (h7 : ¬ xs i &&& 31 = Int32.ofInt 7) (h8 : ¬ xs i &&& 31 = Int32.ofInt 8) (h9 : ¬ xs i &&& 31 = Int32.ofInt 9) (h10 : ¬ xs i &&& 31 = Int32.ofInt 10) (h11 : ¬ xs i &&& 31 = Int32.ofInt 11) (h12 : ¬ xs i &&& 31 = Int32.ofInt 12) (h13 : ¬ xs i &&& 31 = Int32.ofInt 13) (h14 : ¬ xs i &&& 31 = Int32.ofInt 14) (h15 : ¬ xs i &&& 31 = Int32.ofInt 15) (h16 : ¬ xs i &&& 31 = Int32.ofInt 16) (h17 : ¬ xs i &&& 31 = Int32.ofInt 17) (h18 : ¬ xs i &&& 31 = Int32.ofInt 18) (h19 : ¬ xs i &&& 31 = Int32.ofInt 19) (h20 : ¬ xs i &&& 31 = Int32.ofInt 20) (h21 : ¬ xs i &&& 31 = Int32.ofInt 21) (hk : xs i &&& 31 = Int32.ofInt 22) : ∃ wE, xev 148 18 [some (xA (some (b))), some (xA (some (x0))), some (xA (some (x0 + 22))), some (xI (nI i))] [] w = some (some (xI 1), wE) ∧ gr N w wE := by
  obtain ⟨r, w1, t', e1, e2, af⟩ := q_image hR hm hw (xs (i + 1))
  obtain ⟨wE, eE, gE⟩ := nx w1 t' af
  obtain ⟨S', G', r1, _⟩ := af
  obtain ⟨fo, ho⟩ := Rc_o hR
  refine ⟨wE, ?_, gE⟩
  rw [e_L_law_18, b_L_law_18]
  refine bnd (Rc_sl hR) ?_
  refine (if_neg (fun q => by have := (lt6 hL (by omega)).mp q; omega)).trans ?_
  refine bnd (Rc_s0 hR hL (by omega)) ?_
  refine (if_neg h0).trans ?_
  refine (if_neg h1).trans ?_
  refine (if_neg h2).trans ?_
  refine (if_neg h3).trans ?_
  refine (if_neg h4).trans ?_
  refine (if_neg h5).trans ?_
  refine (if_neg h6).trans ?_
  refine (if_neg h7).trans ?_
  refine (if_neg h8).trans ?_
  refine (if_neg h9).trans ?_
  refine (if_neg h10).trans ?_
  refine (if_neg h11).trans ?_
  refine (if_neg h12).trans ?_
  refine (if_neg h13).trans ?_
  refine (if_neg h14).trans ?_
  refine (if_neg h15).trans ?_
  refine (if_neg h16).trans ?_
  refine (if_neg h17).trans ?_
  refine (if_neg h18).trans ?_
  refine (if_neg h19).trans ?_
  refine (if_neg h20).trans ?_
  refine (if_neg h21).trans ?_
  refine (if_pos hk).trans ?_
  refine bnd (Rc_s (j := 1) hR hL (by omega)) ?_
  refine bnd ho ?_
  refine bnd e1 ?_
  refine xqI_w ?_
  refine bnd (Rc_s (j := 1) r1 hL (by omega)) ?_
  refine bnd (Rc_mo r1) ?_
  refine bnd e2 ?_
  refine xqI_w ?_
  exact (if_pos rfl).trans eE
theorem lw_restore (hL : L ≤ 3072) (hi : i + 6 ≤ L) (hR : Rc (x0, b, L, xs, t) S G w) (hm : Rm S t) (hw : wf S) (nx : nxt x0 b L i N xs t w) (h0 : ¬ xs i &&& 31 = Int32.ofInt 0) (h1 : ¬ xs i &&& 31 = Int32.ofInt 1) (h2 : ¬ xs i &&& 31 = Int32.ofInt 2) (h3 : ¬ xs i &&& 31 = Int32.ofInt 3) (h4 : ¬ xs i &&& 31 = Int32.ofInt 4) (h5 : ¬ xs i &&& 31 = Int32.ofInt 5) (h6 : ¬ xs i &&& 31 = Int32.ofInt 6) (h7 : ¬ xs i &&& 31 = Int32.ofInt 7) (h8 : ¬ xs i &&& 31 = Int32.ofInt 8) (h9 : ¬ xs i &&& 31 = Int32.ofInt 9) (h10 : ¬ xs i &&& 31 = Int32.ofInt 10) (h11 : ¬ xs i &&& 31 = Int32.ofInt 11) (h12 : ¬ xs i &&& 31 = Int32.ofInt 12) (h13 : ¬ xs i &&& 31 = Int32.ofInt 13) (h14 : ¬ xs i &&& 31 = Int32.ofInt 14) (h15 : ¬ xs i &&& 31 = Int32.ofInt 15) (h16 : ¬ xs i &&& 31 = Int32.ofInt 16) (h17 : ¬ xs i &&& 31 = Int32.ofInt 17) (h18 : ¬ xs i &&& 31 = Int32.ofInt 18) (h19 : ¬ xs i &&& 31 = Int32.ofInt 19) (h20 : ¬ xs i &&& 31 = Int32.ofInt 20) (h21 : ¬ xs i &&& 31 = Int32.ofInt 21) (h22 : ¬ xs i &&& 31 = Int32.ofInt 22) (hk : xs i &&& 31 = Int32.ofInt 23) : ∃ wE, xev 148 18 [some (xA (some (b))), some (xA (some (x0))), some (xA (some (x0 + 22))), some (xI (nI i))] [] w = some (some (xI 1), wE) ∧ gr N w wE := by
  obtain ⟨r, w1, t', e1, e2, af⟩ := q_restore hR hm hw (xs (i + 1))
  obtain ⟨wE, eE, gE⟩ := nx w1 t' af
  obtain ⟨S', G', r1, _⟩ := af
  obtain ⟨fo, ho⟩ := Rc_o hR
  refine ⟨wE, ?_, gE⟩
  rw [e_L_law_18, b_L_law_18]
  refine bnd (Rc_sl hR) ?_
  refine (if_neg (fun q => by have := (lt6 hL (by omega)).mp q; omega)).trans ?_
  refine bnd (Rc_s0 hR hL (by omega)) ?_
  refine (if_neg h0).trans ?_
  refine (if_neg h1).trans ?_
  refine (if_neg h2).trans ?_
  refine (if_neg h3).trans ?_
  refine (if_neg h4).trans ?_
  refine (if_neg h5).trans ?_
  refine (if_neg h6).trans ?_
  refine (if_neg h7).trans ?_
  refine (if_neg h8).trans ?_
  refine (if_neg h9).trans ?_
  refine (if_neg h10).trans ?_
  refine (if_neg h11).trans ?_
  refine (if_neg h12).trans ?_
  refine (if_neg h13).trans ?_
  refine (if_neg h14).trans ?_
  refine (if_neg h15).trans ?_
  refine (if_neg h16).trans ?_
  refine (if_neg h17).trans ?_
  refine (if_neg h18).trans ?_
  refine (if_neg h19).trans ?_
  refine (if_neg h20).trans ?_
  refine (if_neg h21).trans ?_
  refine (if_neg h22).trans ?_
  refine (if_pos hk).trans ?_
  refine bnd (Rc_s (j := 1) hR hL (by omega)) ?_
  refine bnd ho ?_
  refine bnd e1 ?_
  refine xqI_w ?_
  refine bnd (Rc_s (j := 1) r1 hL (by omega)) ?_
  refine bnd (Rc_mo r1) ?_
  refine bnd e2 ?_
  refine xqI_w ?_
  exact (if_pos rfl).trans eE
theorem lw_met (hL : L ≤ 3072) (hi : i + 6 ≤ L) (hR : Rc (x0, b, L, xs, t) S G w) (hm : Rm S t) (hw : wf S) (nx : nxt x0 b L i N xs t w) (h0 : ¬ xs i &&& 31 = Int32.ofInt 0) (h1 : ¬ xs i &&& 31 = Int32.ofInt 1) (h2 : ¬ xs i &&& 31 = Int32.ofInt 2) (h3 : ¬ xs i &&& 31 = Int32.ofInt 3) (h4 : ¬ xs i &&& 31 = Int32.ofInt 4) (h5 : ¬ xs i &&& 31 = Int32.ofInt 5) (h6 : ¬ xs i &&& 31 = Int32.ofInt 6) (h7 : ¬ xs i &&& 31 = Int32.ofInt 7) (h8 : ¬ xs i &&& 31 = Int32.ofInt 8) (h9 : ¬ xs i &&& 31 = Int32.ofInt 9) (h10 : ¬ xs i &&& 31 = Int32.ofInt 10) (h11 : ¬ xs i &&& 31 = Int32.ofInt 11) (h12 : ¬ xs i &&& 31 = Int32.ofInt 12) (h13 : ¬ xs i &&& 31 = Int32.ofInt 13) (h14 : ¬ xs i &&& 31 = Int32.ofInt 14) (h15 : ¬ xs i &&& 31 = Int32.ofInt 15) (h16 : ¬ xs i &&& 31 = Int32.ofInt 16) (h17 : ¬ xs i &&& 31 = Int32.ofInt 17) (h18 : ¬ xs i &&& 31 = Int32.ofInt 18) (h19 : ¬ xs i &&& 31 = Int32.ofInt 19) (h20 : ¬ xs i &&& 31 = Int32.ofInt 20) (h21 : ¬ xs i &&& 31 = Int32.ofInt 21) (h22 : ¬ xs i &&& 31 = Int32.ofInt 22) (h23 : ¬ xs i &&& 31 = Int32.ofInt 23) (hk : xs i &&& 31 = Int32.ofInt 24) : ∃ wE, xev 148 18 [some (xA (some (b))), some (xA (some (x0))), some (xA (some (x0 + 22))), some (xI (nI i))] [] w = some (some (xI 1), wE) ∧ gr N w wE := by
  obtain ⟨r, w1, t', e1, e2, af⟩ := q_met hR hm hw (xs (i + 1)) (xs (i + 2))
  obtain ⟨wE, eE, gE⟩ := nx w1 t' af
  obtain ⟨S', G', r1, _⟩ := af
  obtain ⟨fo, ho⟩ := Rc_o hR
  refine ⟨wE, ?_, gE⟩
  rw [e_L_law_18, b_L_law_18]
  refine bnd (Rc_sl hR) ?_
  refine (if_neg (fun q => by have := (lt6 hL (by omega)).mp q; omega)).trans ?_
  refine bnd (Rc_s0 hR hL (by omega)) ?_
  refine (if_neg h0).trans ?_
  refine (if_neg h1).trans ?_
  refine (if_neg h2).trans ?_
  refine (if_neg h3).trans ?_
  refine (if_neg h4).trans ?_
  refine (if_neg h5).trans ?_
  refine (if_neg h6).trans ?_
  refine (if_neg h7).trans ?_
  refine (if_neg h8).trans ?_
  refine (if_neg h9).trans ?_
  refine (if_neg h10).trans ?_
  refine (if_neg h11).trans ?_
  refine (if_neg h12).trans ?_
  refine (if_neg h13).trans ?_
  refine (if_neg h14).trans ?_
  refine (if_neg h15).trans ?_
  refine (if_neg h16).trans ?_
  refine (if_neg h17).trans ?_
  refine (if_neg h18).trans ?_
  refine (if_neg h19).trans ?_
  refine (if_neg h20).trans ?_
  refine (if_neg h21).trans ?_
  refine (if_neg h22).trans ?_
  refine (if_neg h23).trans ?_
  refine (if_pos hk).trans ?_
  refine bnd (Rc_s (j := 1) hR hL (by omega)) ?_
  refine bnd (Rc_s (j := 2) hR hL (by omega)) ?_
  refine bnd ho ?_
  refine bnd e1 ?_
  refine xqI_w ?_
  refine bnd (Rc_s (j := 1) r1 hL (by omega)) ?_
  refine bnd (Rc_s (j := 2) r1 hL (by omega)) ?_
  refine bnd (Rc_mo r1) ?_
  refine bnd e2 ?_
  refine xqI_w ?_
  exact (if_pos rfl).trans eE
theorem lw_count (hL : L ≤ 3072) (hi : i + 6 ≤ L) (hR : Rc (x0, b, L, xs, t) S G w) (hm : Rm S t) (hw : wf S) (nx : nxt x0 b L i N xs t w) (h0 : ¬ xs i &&& 31 = Int32.ofInt 0) (h1 : ¬ xs i &&& 31 = Int32.ofInt 1) (h2 : ¬ xs i &&& 31 = Int32.ofInt 2) (h3 : ¬ xs i &&& 31 = Int32.ofInt 3) (h4 : ¬ xs i &&& 31 = Int32.ofInt 4) (h5 : ¬ xs i &&& 31 = Int32.ofInt 5) (h6 : ¬ xs i &&& 31 = Int32.ofInt 6) (h7 : ¬ xs i &&& 31 = Int32.ofInt 7) (h8 : ¬ xs i &&& 31 = Int32.ofInt 8) (h9 : ¬ xs i &&& 31 = Int32.ofInt 9) (h10 : ¬ xs i &&& 31 = Int32.ofInt 10) (h11 : ¬ xs i &&& 31 = Int32.ofInt 11) (h12 : ¬ xs i &&& 31 = Int32.ofInt 12) (h13 : ¬ xs i &&& 31 = Int32.ofInt 13) (h14 : ¬ xs i &&& 31 = Int32.ofInt 14) (h15 : ¬ xs i &&& 31 = Int32.ofInt 15) (h16 : ¬ xs i &&& 31 = Int32.ofInt 16) (h17 : ¬ xs i &&& 31 = Int32.ofInt 17) (h18 : ¬ xs i &&& 31 = Int32.ofInt 18) (h19 : ¬ xs i &&& 31 = Int32.ofInt 19) (h20 : ¬ xs i &&& 31 = Int32.ofInt 20) (h21 : ¬ xs i &&& 31 = Int32.ofInt 21) (h22 : ¬ xs i &&& 31 = Int32.ofInt 22) (h23 : ¬ xs i &&& 31 = Int32.ofInt 23) (h24 : ¬ xs i &&& 31 = Int32.ofInt 24) (hk : xs i &&& 31 = Int32.ofInt 25) : ∃ wE, xev 148 18 [some (xA (some (b))), some (xA (some (x0))), some (xA (some (x0 + 22))), some (xI (nI i))] [] w = some (some (xI 1), wE) ∧ gr N w wE := by
  obtain ⟨r, w1, t', e1, e2, af⟩ := q_count hR hm hw (xs (i + 1))
  obtain ⟨wE, eE, gE⟩ := nx w1 t' af
  obtain ⟨S', G', r1, _⟩ := af
  obtain ⟨fo, ho⟩ := Rc_o hR
  refine ⟨wE, ?_, gE⟩
  rw [e_L_law_18, b_L_law_18]
  refine bnd (Rc_sl hR) ?_
  refine (if_neg (fun q => by have := (lt6 hL (by omega)).mp q; omega)).trans ?_
  refine bnd (Rc_s0 hR hL (by omega)) ?_
  refine (if_neg h0).trans ?_
  refine (if_neg h1).trans ?_
  refine (if_neg h2).trans ?_
  refine (if_neg h3).trans ?_
  refine (if_neg h4).trans ?_
  refine (if_neg h5).trans ?_
  refine (if_neg h6).trans ?_
  refine (if_neg h7).trans ?_
  refine (if_neg h8).trans ?_
  refine (if_neg h9).trans ?_
  refine (if_neg h10).trans ?_
  refine (if_neg h11).trans ?_
  refine (if_neg h12).trans ?_
  refine (if_neg h13).trans ?_
  refine (if_neg h14).trans ?_
  refine (if_neg h15).trans ?_
  refine (if_neg h16).trans ?_
  refine (if_neg h17).trans ?_
  refine (if_neg h18).trans ?_
  refine (if_neg h19).trans ?_
  refine (if_neg h20).trans ?_
  refine (if_neg h21).trans ?_
  refine (if_neg h22).trans ?_
  refine (if_neg h23).trans ?_
  refine (if_neg h24).trans ?_
  refine (if_pos hk).trans ?_
  refine bnd (Rc_s (j := 1) hR hL (by omega)) ?_
  refine bnd ho ?_
  refine bnd e1 ?_
  refine xqI_w ?_
  refine bnd (Rc_s (j := 1) r1 hL (by omega)) ?_
  refine bnd (Rc_mo r1) ?_
  refine bnd e2 ?_
  refine xqI_w ?_
  exact (if_pos rfl).trans eE
theorem lw_none (hL : L ≤ 3072) (hi : i + 6 ≤ L) (hR : Rc (x0, b, L, xs, t) S G w) (hm : Rm S t) (hw : wf S) (nx : nxt x0 b L i N xs t w) (h0 : ¬ xs i &&& 31 = Int32.ofInt 0) (h1 : ¬ xs i &&& 31 = Int32.ofInt 1) (h2 : ¬ xs i &&& 31 = Int32.ofInt 2) (h3 : ¬ xs i &&& 31 = Int32.ofInt 3) (h4 : ¬ xs i &&& 31 = Int32.ofInt 4) (h5 : ¬ xs i &&& 31 = Int32.ofInt 5) (h6 : ¬ xs i &&& 31 = Int32.ofInt 6) (h7 : ¬ xs i &&& 31 = Int32.ofInt 7) (h8 : ¬ xs i &&& 31 = Int32.ofInt 8) (h9 : ¬ xs i &&& 31 = Int32.ofInt 9) (h10 : ¬ xs i &&& 31 = Int32.ofInt 10) (h11 : ¬ xs i &&& 31 = Int32.ofInt 11) (h12 : ¬ xs i &&& 31 = Int32.ofInt 12) (h13 : ¬ xs i &&& 31 = Int32.ofInt 13) (h14 : ¬ xs i &&& 31 = Int32.ofInt 14) (h15 : ¬ xs i &&& 31 = Int32.ofInt 15) (h16 : ¬ xs i &&& 31 = Int32.ofInt 16) (h17 : ¬ xs i &&& 31 = Int32.ofInt 17) (h18 : ¬ xs i &&& 31 = Int32.ofInt 18) (h19 : ¬ xs i &&& 31 = Int32.ofInt 19) (h20 : ¬ xs i &&& 31 = Int32.ofInt 20) (h21 : ¬ xs i &&& 31 = Int32.ofInt 21) (h22 : ¬ xs i &&& 31 = Int32.ofInt 22) (h23 : ¬ xs i &&& 31 = Int32.ofInt 23) (h24 : ¬ xs i &&& 31 = Int32.ofInt 24) (h25 : ¬ xs i &&& 31 = Int32.ofInt 25) : ∃ wE, xev 148 18 [some (xA (some (b))), some (xA (some (x0))), some (xA (some (x0 + 22))), some (xI (nI i))] [] w = some (some (xI 1), wE) ∧ gr N w wE := by
  obtain ⟨wE, eE, gE⟩ := nx w t ⟨S, G, hR, hm, hw, gr_refl⟩
  rw [Rc_w hR] at eE
  refine ⟨wE, ?_, gE⟩
  rw [e_L_law_18, b_L_law_18]
  refine bnd (Rc_sl hR) ?_
  refine (if_neg (fun q => by have := (lt6 hL (by omega)).mp q; omega)).trans ?_
  refine bnd (Rc_s0 hR hL (by omega)) ?_
  refine (if_neg h0).trans ?_
  refine (if_neg h1).trans ?_
  refine (if_neg h2).trans ?_
  refine (if_neg h3).trans ?_
  refine (if_neg h4).trans ?_
  refine (if_neg h5).trans ?_
  refine (if_neg h6).trans ?_
  refine (if_neg h7).trans ?_
  refine (if_neg h8).trans ?_
  refine (if_neg h9).trans ?_
  refine (if_neg h10).trans ?_
  refine (if_neg h11).trans ?_
  refine (if_neg h12).trans ?_
  refine (if_neg h13).trans ?_
  refine (if_neg h14).trans ?_
  refine (if_neg h15).trans ?_
  refine (if_neg h16).trans ?_
  refine (if_neg h17).trans ?_
  refine (if_neg h18).trans ?_
  refine (if_neg h19).trans ?_
  refine (if_neg h20).trans ?_
  refine (if_neg h21).trans ?_
  refine (if_neg h22).trans ?_
  refine (if_neg h23).trans ?_
  refine (if_neg h24).trans ?_
  refine (if_neg h25).trans ?_
  exact eE
theorem law_l (hL : L ≤ 3072) : ∀ d i t S G w, L < i + 6 * d → i ≤ 3080 → Rc (x0, b, L, xs, t) S G w → Rm S t → wf S → ∃ wE, xev 148 18 [some (xA (some (b))), some (xA (some (x0))), some (xA (some (x0 + 22))), some (xI (nI i))] [] w = some (some (xI 1), wE) ∧ gr (60 * d) w wE
  | 0, i, t, S, G, w, hd, hi, hR, hm, hw => by
    rw [e_L_law_18, b_L_law_18]
    exact ⟨w, bnd (Rc_sl hR) (if_pos ((lt6 hL (by omega)).mpr (by omega))), gr_refl⟩
  | d + 1, i, t, S, G, w, hd, hi, hR, hm, hw => by
    by_cases h6 : L < i + 6
    · rw [e_L_law_18, b_L_law_18]
      exact ⟨w, bnd (Rc_sl hR) (if_pos ((lt6 hL (by omega)).mpr h6)), gr_refl⟩
    · have nx : nxt x0 b L i (60 * (d + 1)) xs t w := fun w1 t' af => by
        obtain ⟨S', G', r1, m1, f1, g1⟩ := af
        obtain ⟨wE, eE, gE⟩ := law_l hL d (i + 6) t' S' G' (mW (x0 + 22) t' w1) (by omega) (by omega) (Rc_mod r1) m1 f1
        rw [show nI i + 6 = nI (i + 6) from nI_add i 6]
        exact ⟨wE, eE, gr_tr g1 (show gr (60 * d) w1 wE from gE) (by omega)⟩
      have hi6 : i + 6 ≤ L := by omega
      by_cases h0 : xs i &&& 31 = Int32.ofInt 0
      · exact lw_open hL hi6 hR hm hw nx h0
      by_cases h1 : xs i &&& 31 = Int32.ofInt 1
      · exact lw_hang hL hi6 hR hm hw nx h0 h1
      by_cases h2 : xs i &&& 31 = Int32.ofInt 2
      · exact lw_same hL hi6 hR hm hw nx h0 h1 h2
      by_cases h3 : xs i &&& 31 = Int32.ofInt 3
      · exact lw_length hL hi6 hR hm hw nx h0 h1 h2 h3
      by_cases h4 : xs i &&& 31 = Int32.ofInt 4
      · exact lw_read hL hi6 hR hm hw nx h0 h1 h2 h3 h4
      by_cases h5 : xs i &&& 31 = Int32.ofInt 5
      · exact lw_glass hL hi6 hR hm hw nx h0 h1 h2 h3 h4 h5
      by_cases h6 : xs i &&& 31 = Int32.ofInt 6
      · exact lw_write hL hi6 hR hm hw nx h0 h1 h2 h3 h4 h5 h6
      by_cases h7 : xs i &&& 31 = Int32.ofInt 7
      · exact lw_take hL hi6 hR hm hw nx h0 h1 h2 h3 h4 h5 h6 h7
      by_cases h8 : xs i &&& 31 = Int32.ofInt 8
      · exact lw_lay hL hi6 hR hm hw nx h0 h1 h2 h3 h4 h5 h6 h7 h8
      by_cases h9 : xs i &&& 31 = Int32.ofInt 9
      · exact lw_hand hL hi6 hR hm hw nx h0 h1 h2 h3 h4 h5 h6 h7 h8 h9
      by_cases h10 : xs i &&& 31 = Int32.ofInt 10
      · exact lw_inHand hL hi6 hR hm hw nx h0 h1 h2 h3 h4 h5 h6 h7 h8 h9 h10
      by_cases h11 : xs i &&& 31 = Int32.ofInt 11
      · exact lw_chip hL hi6 hR hm hw nx h0 h1 h2 h3 h4 h5 h6 h7 h8 h9 h10 h11
      by_cases h12 : xs i &&& 31 = Int32.ofInt 12
      · exact lw_cut hL hi6 hR hm hw nx h0 h1 h2 h3 h4 h5 h6 h7 h8 h9 h10 h11 h12
      by_cases h13 : xs i &&& 31 = Int32.ofInt 13
      · exact lw_paste hL hi6 hR hm hw nx h0 h1 h2 h3 h4 h5 h6 h7 h8 h9 h10 h11 h12 h13
      by_cases h14 : xs i &&& 31 = Int32.ofInt 14
      · exact lw_turn hL hi6 hR hm hw nx h0 h1 h2 h3 h4 h5 h6 h7 h8 h9 h10 h11 h12 h13 h14
      by_cases h15 : xs i &&& 31 = Int32.ofInt 15
      · exact lw_fits hL hi6 hR hm hw nx h0 h1 h2 h3 h4 h5 h6 h7 h8 h9 h10 h11 h12 h13 h14 h15
      by_cases h16 : xs i &&& 31 = Int32.ofInt 16
      · exact lw_pour hL hi6 hR hm hw nx h0 h1 h2 h3 h4 h5 h6 h7 h8 h9 h10 h11 h12 h13 h14 h15 h16
      by_cases h17 : xs i &&& 31 = Int32.ofInt 17
      · exact lw_sum hL hi6 hR hm hw nx h0 h1 h2 h3 h4 h5 h6 h7 h8 h9 h10 h11 h12 h13 h14 h15 h16 h17
      by_cases h18 : xs i &&& 31 = Int32.ofInt 18
      · exact lw_where hL hi6 hR hm hw nx h0 h1 h2 h3 h4 h5 h6 h7 h8 h9 h10 h11 h12 h13 h14 h15 h16 h17 h18
      by_cases h19 : xs i &&& 31 = Int32.ofInt 19
      · exact lw_meet hL hi6 hR hm hw nx h0 h1 h2 h3 h4 h5 h6 h7 h8 h9 h10 h11 h12 h13 h14 h15 h16 h17 h18 h19
      by_cases h20 : xs i &&& 31 = Int32.ofInt 20
      · exact lw_pair hL hi6 hR hm hw nx h0 h1 h2 h3 h4 h5 h6 h7 h8 h9 h10 h11 h12 h13 h14 h15 h16 h17 h18 h19 h20
      by_cases h21 : xs i &&& 31 = Int32.ofInt 21
      · exact lw_gather hL hi6 hR hm hw nx h0 h1 h2 h3 h4 h5 h6 h7 h8 h9 h10 h11 h12 h13 h14 h15 h16 h17 h18 h19 h20 h21
      by_cases h22 : xs i &&& 31 = Int32.ofInt 22
      · exact lw_image hL hi6 hR hm hw nx h0 h1 h2 h3 h4 h5 h6 h7 h8 h9 h10 h11 h12 h13 h14 h15 h16 h17 h18 h19 h20 h21 h22
      by_cases h23 : xs i &&& 31 = Int32.ofInt 23
      · exact lw_restore hL hi6 hR hm hw nx h0 h1 h2 h3 h4 h5 h6 h7 h8 h9 h10 h11 h12 h13 h14 h15 h16 h17 h18 h19 h20 h21 h22 h23
      by_cases h24 : xs i &&& 31 = Int32.ofInt 24
      · exact lw_met hL hi6 hR hm hw nx h0 h1 h2 h3 h4 h5 h6 h7 h8 h9 h10 h11 h12 h13 h14 h15 h16 h17 h18 h19 h20 h21 h22 h23 h24
      by_cases h25 : xs i &&& 31 = Int32.ofInt 25
      · exact lw_count hL hi6 hR hm hw nx h0 h1 h2 h3 h4 h5 h6 h7 h8 h9 h10 h11 h12 h13 h14 h15 h16 h17 h18 h19 h20 h21 h22 h23 h24 h25
      exact lw_none hL hi6 hR hm hw nx h0 h1 h2 h3 h4 h5 h6 h7 h8 h9 h10 h11 h12 h13 h14 h15 h16 h17 h18 h19 h20 h21 h22 h23 h24 h25
end LW
