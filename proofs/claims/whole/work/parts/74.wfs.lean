/-! a notebook stays well formed -/
section WFS
variable {S : sS} {N id id2 : Nat} {x y : sR} {c d to cell place what n k how side a m p v32 : Int32} {v : Int64}
theorem rok_blk {ty n : Nat} (ht : ty < 13) (hn : n ≤ 24) : rok N (ty, n, fun _ => blk ty) := by
  refine ⟨ht, hn, fun i _ => ?_⟩
  show tok N (blk ty) ∧ (∃ k, k < 12 ∧ (blk ty).1 = nI k ∧ fitB ty k = true) ∧ (ty ≤ 7 → (blk ty).1 = nI ty)
  by_cases h7 : 7 < ty
  · have e : blk ty = (11, 0, 0) := by unfold blk; rw [if_pos h7]
    rw [e]
    refine ⟨⟨11, by decide, rfl, Or.inr (Or.inr (Or.inr (Or.inr ⟨rfl, rfl, rfl⟩)))⟩, ⟨11, by decide, rfl, ?_⟩, fun h => absurd h (by omega)⟩
    have : ∀ ty, ty < 13 → 7 < ty → fitB ty 11 = true := by decide
    exact this ty ht h7
  · have e : blk ty = (nI ty, 0, 0) := by unfold blk; rw [if_neg h7]
    rw [e]
    refine ⟨⟨ty, by omega, rfl, ?_⟩, ⟨ty, by omega, rfl, ?_⟩, fun _ => rfl⟩
    · by_cases h6 : ty < 6
      · exact Or.inl ⟨h6, rfl⟩
      · exact Or.inr (Or.inl ⟨by omega, rfl, nR_0 _⟩)
    · have : ∀ ty, ty < 8 → fitB ty ty = true := by decide
      exact this ty (by omega)
theorem rok_sub (hx : rok N x) (e1 : y.1 = x.1) (hn : y.2.1 ≤ 24) (h : ∀ i, i < y.2.1 → ∃ j, j < x.2.1 ∧ y.2.2 i = x.2.2 j) : rok N y := by
  refine ⟨by rw [e1]; exact hx.1, hn, fun i hi => ?_⟩
  obtain ⟨j, hj, e⟩ := h i hi
  rw [e, e1]
  exact hx.2.2 j hj
theorem rok_turn {k : Nat} (hx : rok N x) (hk : k < 13) (h : ¬ ufit x k < x.2.1) : rok N (rTurn x k) := ⟨hk, hx.2.1, fun i hi => pv_ok hk (hx.2.2 i hi).1 (ufit_all h i hi)⟩
theorem rok_paste {p : Nat} (hx : rok N x) (hy : rok N y) (hs : x.2.1 + y.2.1 ≤ 24) (hp : p ≤ x.2.1) (h : ¬ ufit y x.1 < y.2.1) : rok N (rPaste x y p) := by
  refine ⟨hx.1, hs, fun i hi => ?_⟩
  have hi' : i < x.2.1 + y.2.1 := hi
  show tok N (if i < p then x.2.2 i else if i < p + y.2.1 then pv x.1 (y.2.2 (i - p)) else x.2.2 (i - y.2.1)) ∧ (∃ k, k < 12 ∧ (if i < p then x.2.2 i else if i < p + y.2.1 then pv x.1 (y.2.2 (i - p)) else x.2.2 (i - y.2.1)).1 = nI k ∧ fitB x.1 k = true) ∧ (x.1 ≤ 7 → (if i < p then x.2.2 i else if i < p + y.2.1 then pv x.1 (y.2.2 (i - p)) else x.2.2 (i - y.2.1)).1 = nI x.1)
  by_cases h1 : i < p
  · simp only [if_pos h1]
    exact hx.2.2 i (by omega)
  · simp only [if_neg h1]
    by_cases h2 : i < p + y.2.1
    · simp only [if_pos h2]
      exact pv_ok hx.1 (hy.2.2 (i - p) (by omega)).1 (ufit_all h (i - p) (by omega))
    · simp only [if_neg h2]
      exact hx.2.2 (i - y.2.1) (by omega)
theorem wf_rx {r j : Nat} (hw : wf S) (hj : j < 10) (h : qC S j = .inl r) (hx : qR S r = some x) : rok (qN S) x := by
  have := hw.1 j hj
  rw [h] at this
  obtain ⟨y, hy, hk⟩ := this
  rw [hx] at hy
  cases hy
  exact hk
theorem wf_open (hw : wf S) (hf : qR S id = none) : wf (spOpen S c what n id).2 := by
  unfold spOpen
  by_cases hc : inB c 10
  · rw [if_neg (nn hc)]
    by_cases h2 : ¬ inB what 16 ∨ (inB what 13 ∧ ¬ inB n 25) ∨ (what = 14 ∧ ¬ inB n 100)
    · rw [if_pos h2]; exact hw
    · rw [if_neg h2]
      by_cases h3 : what = 13 ∧ qN S = 60
      · rw [if_pos h3]; exact hw
      · rw [if_neg h3]
        show wf (if inB what 13 then _ else _)
        by_cases h13 : inB what 13
        · rw [if_pos h13]
          have hn : inB n 25 := Decidable.by_contra (fun q => h2 (Or.inr (Or.inl ⟨h13, q⟩)))
          exact wf_new hw hf (rok_blk h13.2 (by have := hn.2; omega))
        · rw [if_neg h13]
          by_cases h4 : what = 13
          · rw [if_pos h4]
            have hN := hw.2.2.2.2.2.1
            have hN2 : qN S < 60 := by
              have : ¬ qN S = 60 := fun q => h3 ⟨h4, q⟩
              omega
            exact wf_thing (wf_stone hw hN2) (Or.inr (Or.inr ⟨qN S + 1, by omega, Nat.le_refl _, rfl⟩))
          · rw [if_neg h4]
            by_cases h5 : what = 14
            · rw [if_pos h5]
              have hn : inB n 100 := Decidable.by_contra (fun q => h2 (Or.inr (Or.inr ⟨h5, q⟩)))
              obtain ⟨j, hj, rfl, _⟩ := inB_ex hn
              exact wf_thing hw (Or.inr (Or.inl ⟨j, hj, by rw [nI_l (by omega)]⟩))
            · rw [if_neg h5]
              exact wf_thing hw (Or.inl rfl)
  · rw [if_pos hc]; exact hw
theorem wf_hang (hw : wf S) (hf : qR S id = none) : wf (spHang S c to how id).2 := by
  unfold spHang
  by_cases hc : ¬ inB c 10 ∨ ¬ inB to 10
  · rw [if_pos hc]; exact hw
  · rw [if_neg hc]
    have hc1 : inB c 10 := Decidable.by_contra (fun q => hc (Or.inl q))
    by_cases h1 : ¬ inB how 2
    · rw [if_pos h1]; exact hw
    · rw [if_neg h1]
      by_cases h0 : how = 0
      · rw [if_pos h0]; exact wf_same hw hc1.2
      · rw [if_neg h0]
        cases hq : qC S c.toNatClampNeg with
        | inr v => exact hw
        | inl r =>
          cases hx : qR S r with
          | none => simp only [hx]; exact hw
          | some x => simp only [hx]; exact wf_new hw hf (wf_rx hw hc1.2 hq hx)
theorem wf_len (hw : wf S) : wf (spLen S c).2 := by
  unfold spLen
  by_cases hc : inB c 10
  · rw [if_neg (nn hc)]
    cases hq : qC S c.toNatClampNeg with
    | inr v => exact hw
    | inl r =>
      cases hx : qR S r with
      | none => simp only [hx]; exact hw
      | some x => simp only [hx]; exact hw
  · rw [if_pos hc]; exact hw
theorem wf_read (hw : wf S) : wf (spRead S c cell k).2 := by
  unfold spRead
  by_cases hc : inB c 10
  · rw [if_neg (nn hc)]
    by_cases hk : inB k 8
    · rw [if_neg (nn hk)]
      exact (rdA_ok (cell := cell) hw hc.2 hk.2).1
    · rw [if_pos hk]; exact hw
  · rw [if_pos hc]; exact hw
theorem wf_write (hw : wf S) : wf (spWrite S c cell k v).2 := by
  unfold spWrite
  by_cases hc : inB c 10
  · rw [if_neg (nn hc)]
    by_cases hk : inB k 8
    · rw [if_neg (nn hk)]
      exact wrA_ok (cell := cell) hw hc.2 (mkN_ok (qN S) hk.2 v).1
    · rw [if_pos hk]; exact hw
  · rw [if_pos hc]; exact hw
theorem wf_take (hw : wf S) : wf (spTake S c cell).2 := by
  unfold spTake
  by_cases hc : inB c 10
  · rw [if_neg (nn hc)]
    exact (tkA_ok (cell := cell) hw hc.2).1
  · rw [if_pos hc]; exact hw
theorem wf_lay (hw : wf S) : wf (spLay S c cell).2 := by
  unfold spLay
  by_cases hc : inB c 10
  · rw [if_neg (nn hc)]
    exact lyA_ok (cell := cell) hw hc.2
  · rw [if_pos hc]; exact hw
theorem wf_hand (hw : wf S) : wf (spHand S what v).2 := by
  unfold spHand
  by_cases h1 : ¬ inB what 12 ∨ (what = 10 ∧ (v < 0 ∨ 99 < v))
  · rw [if_pos h1]; exact hw
  · rw [if_neg h1]
    by_cases h2 : (what = 8 ∨ what = 9) ∧ qN S = 60
    · rw [if_pos h2]; exact hw
    · rw [if_neg h2]
      show wf (if inB what 8 then _ else _)
      by_cases h8 : inB what 8
      · rw [if_pos h8]
        exact wf_uH hw (mkN_ok (qN S) h8.2 v).1
      · rw [if_neg h8]
        by_cases h3 : what = 8 ∨ what = 9
        · rw [if_pos h3]
          have hN := hw.2.2.2.2.2.1
          have hN2 : qN S < 60 := by
            have : ¬ qN S = 60 := fun q => h2 ⟨h3, q⟩
            omega
          refine wf_uH (wf_stone hw hN2) ?_
          rcases h3 with rfl | rfl
          · exact ⟨8, by decide, rfl, Or.inr (Or.inr (Or.inl ⟨Or.inl rfl, rfl, qN S + 1, by omega, Nat.le_refl _, rfl⟩))⟩
          · exact ⟨9, by decide, rfl, Or.inr (Or.inr (Or.inl ⟨Or.inr rfl, rfl, qN S + 1, by omega, Nat.le_refl _, rfl⟩))⟩
        · rw [if_neg h3]
          by_cases h4 : what = 10
          · rw [if_pos h4]
            have hv : ¬ (v < 0 ∨ 99 < v) := fun q => h1 (Or.inr ⟨h4, q⟩)
            obtain ⟨j, hj, rfl⟩ := pk_lOf (fun q => hv (Or.inl q))
            have : ¬ 99 < j := fun q => hv (Or.inr ((pk_lLT (a := 99) (by decide) hj).mpr q))
            exact wf_uH hw ⟨10, by decide, rfl, Or.inr (Or.inr (Or.inr (Or.inl ⟨rfl, rfl, j, by omega, rfl⟩)))⟩
          · rw [if_neg h4]
            exact wf_uH hw ⟨11, by decide, rfl, Or.inr (Or.inr (Or.inr (Or.inr ⟨rfl, rfl, rfl⟩)))⟩
theorem wf_chip (hw : wf S) : wf (spChip S n).2 := by
  unfold spChip
  split
  · exact hw
  · exact hw
theorem wf_cut (hw : wf S) (hf : qR S id = none ∧ qR S id2 = none ∧ id ≠ id2) : wf (spCut S c a m id id2).2 := by
  unfold spCut
  by_cases hc : inB c 10
  · rw [if_neg (nn hc)]
    cases hq : qC S c.toNatClampNeg with
    | inr v => exact hw
    | inl r =>
      cases hx : qR S r with
      | none => simp only [hx]; exact hw
      | some x =>
        simp only [hx]
        by_cases h1 : a < 0 ∨ m < 1 ∨ nI x.2.1 - a < m
        · rw [if_pos h1]; exact hw
        · rw [if_neg h1]
          have hk := wf_rx hw hc.2 hq hx
          have h24 := hk.2.1
          obtain ⟨i1, i2, i3, i4⟩ := nI_sub_lt h24 (fun q => h1 (Or.inl q)) (fun q => h1 (Or.inr (Or.inl q))) (fun q => h1 (Or.inr (Or.inr q)))
          have k1 : rok (qN S) (rCut x a.toNatClampNeg m.toNatClampNeg) := rok_sub hk rfl (by show x.2.1 - _ ≤ 24; omega) (fun i hi => by
            have hi' : i < x.2.1 - m.toNatClampNeg := hi
            show ∃ j, j < x.2.1 ∧ (if i < a.toNatClampNeg then x.2.2 i else x.2.2 (i + m.toNatClampNeg)) = x.2.2 j
            split
            · exact ⟨i, by omega, rfl⟩
            · exact ⟨i + m.toNatClampNeg, by omega, rfl⟩)
          have k2 : rok (qN S) (rPart x a.toNatClampNeg m.toNatClampNeg) := rok_sub hk rfl (by show m.toNatClampNeg ≤ 24; omega) (fun i hi => by
            have hi' : i < m.toNatClampNeg := hi
            exact ⟨a.toNatClampNeg + i, by omega, rfl⟩)
          obtain ⟨f1, f2, f3⟩ := fresh_c hw hf.1
          obtain ⟨e1, e2, e3⟩ := fresh_c hw hf.2.1
          have w2 : wf (uR (uR S id (rCut x a.toNatClampNeg m.toNatClampNeg)) id2 (rPart x a.toNatClampNeg m.toNatClampNeg)) := wf_uR (wf_uR hw k1) k2
          have w3 : wf (uK (uR (uR S id (rCut x a.toNatClampNeg m.toNatClampNeg)) id2 (rPart x a.toNatClampNeg m.toNatClampNeg)) id2) := by
            obtain ⟨h1, h2, h3, h4, h5, h6, h7⟩ := w2
            refine ⟨h1, h2, h3, fun s hs => ?_, h5, h6, h7⟩
            have hs' : some id2 = some s := hs
            cases hs'
            exact ⟨⟨_, va_e _ _ _, k2⟩, e1⟩
          refine wf_uC w3 ⟨rCut x a.toNatClampNeg m.toNatClampNeg, (va_n (va_up (qR S) id (some (rCut x a.toNatClampNeg m.toNatClampNeg))) (i := id2) (j := id) _ hf.2.2).trans (va_e _ _ _), k1⟩ (fun s hs => ?_)
          cases hs
          refine ⟨fun q => ?_, f3⟩
          have q' : some id2 = some id := q
          cases q'
          exact hf.2.2 rfl
  · rw [if_pos hc]; exact hw
theorem wf_paste (hw : wf S) (hf : qR S id = none) : wf (spPaste S c p id).2 := by
  unfold spPaste
  by_cases hc : inB c 10
  · rw [if_neg (nn hc)]
    cases hK : qK S with
    | none => exact hw
    | some s =>
      obtain ⟨⟨y, hy, hky⟩, _⟩ := hw.2.2.2.1 s hK
      cases hq : qC S c.toNatClampNeg with
      | inr v => exact hw
      | inl r =>
        cases hx : qR S r with
        | none => simp only [hx]; exact hw
        | some x =>
          have hk := wf_rx hw hc.2 hq hx
          simp only [hx, hy]
          by_cases h1 : 24 < x.2.1 + y.2.1
          · rw [if_pos h1]; exact hw
          · rw [if_neg h1]
            by_cases h2 : inB p (x.2.1 + 1)
            · rw [if_neg (nn h2)]
              by_cases h3 : ufit y x.1 < y.2.1
              · rw [if_pos h3]
                exact wf_uS (k := 4) hw (by decide) rfl (fun q => by omega)
              · rw [if_neg h3]
                exact wf_new hw hf (rok_paste hk hky (by omega) (by have := h2.2; omega) h3)
            · rw [if_pos h2]; exact hw
  · rw [if_pos hc]; exact hw
theorem wf_turn (hw : wf S) (hf : qR S id = none) : wf (spTurn S c k id).2 := by
  unfold spTurn
  by_cases hc : inB c 10
  · rw [if_neg (nn hc)]
    by_cases hk : inB k 13
    · rw [if_neg (nn hk)]
      cases hq : qC S c.toNatClampNeg with
      | inr v => exact hw
      | inl r =>
        cases hx : qR S r with
        | none => simp only [hx]; exact hw
        | some x =>
          simp only [hx]
          by_cases h3 : ufit x k.toNatClampNeg < x.2.1
          · rw [if_pos h3]
            exact wf_uS (k := 4) hw (by decide) rfl (fun q => by omega)
          · rw [if_neg h3]
            exact wf_new hw hf (rok_turn (wf_rx hw hc.2 hq hx) hk.2 h3)
    · rw [if_pos hk]; exact hw
  · rw [if_pos hc]; exact hw
theorem wf_gath (hw : wf S) (hf : qR S id = none) : wf (spGath S c side to id).2 := by
  unfold spGath
  by_cases hc : ¬ inB c 10 ∨ ¬ inB to 10
  · rw [if_pos hc]; exact hw
  · rw [if_neg hc]
    have hc1 : inB c 10 := Decidable.by_contra (fun q => hc (Or.inl q))
    by_cases h1 : ¬ inB side 2
    · rw [if_pos h1]; exact hw
    · rw [if_neg h1]
      cases hq : qC S c.toNatClampNeg with
      | inr v => exact hw
      | inl r =>
        cases hx : qR S r with
        | none => simp only [hx]; exact hw
        | some x =>
          simp only [hx]
          split
          · next hall => exact wf_new hw hf (rok_sub (wf_rx hw hc1.2 hq hx) rfl hw.2.2.2.2.1.1 (fun i hi => ⟨_, hall i hi, rfl⟩))
          · exact hw
theorem wf_prS {c to k : Nat} (hc : c < 10) (ht : to < 10) (hk : k < 9) : ∀ d i S, wf S → wf (prS c cell to place k d i S).2
  | 0, i, S, hw => hw
  | d + 1, i, S, hw => by
    unfold prS
    obtain ⟨p1, p2, p3⟩ := pr1_ok (cell := cell + nI i) (place := place + nI i) hw hc ht hk
    split
    · exact wf_prS hc ht hk d (i + 1) _ p1
    · exact p1
theorem wf_pour (hw : wf S) : wf (spPour S c cell to place k).2 := by
  unfold spPour
  by_cases hc : ¬ inB c 10 ∨ ¬ inB to 10
  · rw [if_pos hc]; exact hw
  · rw [if_neg hc]
    have hc1 : inB c 10 := Decidable.by_contra (fun q => hc (Or.inl q))
    have hc2 : inB to 10 := Decidable.by_contra (fun q => hc (Or.inr q))
    by_cases hk : inB k 9
    · rw [if_neg (nn hk)]
      exact wf_prS hc1.2 hc2.2 hk.2 25 0 S hw
    · rw [if_pos hk]; exact hw
theorem wf_sum (hw : wf S) : wf (spSum S c k).2 := by
  unfold spSum
  by_cases hc : inB c 10
  · rw [if_neg (nn hc)]
    by_cases hk : ¬ inB k 8 ∨ k = 0
    · rw [if_pos hk]; exact hw
    · rw [if_neg hk]
      have hk8 : inB k 8 := Decidable.by_contra (fun q => hk (Or.inl q))
      obtain ⟨a1, a2, a3, a4, a5, a6⟩ := rAll_ok hw hc.2 hk8.2
      split
      · have g11 : ∀ q, q < (rAll S c.toNatClampNeg k.toNatClampNeg).2.1 → nR 11 ((fun i => ((rAll S c.toNatClampNeg k.toNatClampNeg).2.2.1 i).2.2) q) := fun q hq => tok_11 (a6 q hq).1 (a6 q hq).2 hk8.2
        show wf (uS (uA (rAll S c.toNatClampNeg k.toNatClampNeg).2.2.2 4) (tot k.toNatClampNeg (rAll S c.toNatClampNeg k.toNatClampNeg).2.1 (rAll S c.toNatClampNeg k.toNatClampNeg).2.2.1))
        unfold tot
        by_cases h6 : k.toNatClampNeg = 6
        · rw [if_pos h6]
          exact wf_uS (k := 6) (S := uA (rAll S c.toNatClampNeg k.toNatClampNeg).2.2.2 4) a4 (by decide) rfl (fun _ => (fS_ok a3 g11).1)
        · rw [if_neg h6]
          by_cases h7 : k.toNatClampNeg = 7
          · rw [if_pos h7]
            exact wf_uS (k := 7) (S := uA (rAll S c.toNatClampNeg k.toNatClampNeg).2.2.2 4) a4 (by decide) rfl (fun _ => dS_ok a3 g11)
          · rw [if_neg h7]
            exact wf_uS (k := 5) (S := uA (rAll S c.toNatClampNeg k.toNatClampNeg).2.2.2 4) a4 (by decide) rfl (fun q => by omega)
      · exact a4
  · rw [if_pos hc]; exact hw
theorem wf_uP {P : Nat × (Nat → Nat) × (Nat → Nat)} (hw : wf S) (h : P.1 ≤ 24 ∧ ∀ i, i < P.1 → P.2.1 i < 24 ∧ P.2.2 i < 24) : wf (uP S P) := ⟨hw.1, hw.2.1, hw.2.2.1, hw.2.2.2.1, h, hw.2.2.2.2.2⟩
theorem wf_where (hw : wf S) : wf (spWhere S c k how v).2 := by
  unfold spWhere
  by_cases hc : inB c 10
  · rw [if_neg (nn hc)]
    by_cases hk : ¬ inB k 8 ∨ ¬ inB how 3
    · rw [if_pos hk]; exact hw
    · rw [if_neg hk]
      have hk8 : inB k 8 := Decidable.by_contra (fun q => hk (Or.inl q))
      obtain ⟨a1, a2, a3, a4, a5, a6⟩ := rAll_ok hw hc.2 hk8.2
      split
      · refine wf_uP (S := uA (rAll S c.toNatClampNeg k.toNatClampNeg).2.2.2 4) a4 ⟨?_, ?_⟩
        · have := (fnd_le (fun i => decide (ord3 k.toNatClampNeg ((rAll S c.toNatClampNeg k.toNatClampNeg).2.2.1 i) (mkN (if k.toNatClampNeg < 6 then 5 else k.toNatClampNeg) v) = how.toNatClampNeg)) id id (rAll S c.toNatClampNeg k.toNatClampNeg).2.1 0 P00).2
          simp only at this
          omega
        · exact fnd_lt _ id id _ 0 P00 (fun j _ h2 => ⟨by show j < 24; omega, by show j < 24; omega⟩) (fun j hj => absurd hj (Nat.not_lt_zero j))
      · exact a4
  · rw [if_pos hc]; exact hw
theorem wf_meet (hw : wf S) : wf (spMeet S c d k).2 := by
  unfold spMeet
  by_cases hc : ¬ inB c 10 ∨ ¬ inB d 10
  · rw [if_pos hc]; exact hw
  · rw [if_neg hc]
    have hc1 : inB c 10 := Decidable.by_contra (fun q => hc (Or.inl q))
    have hc2 : inB d 10 := Decidable.by_contra (fun q => hc (Or.inr q))
    by_cases hk : inB k 8
    · rw [if_neg (nn hk)]
      obtain ⟨a1, a2, a3, a4, a5, a6⟩ := rAll_ok hw hc1.2 hk.2
      have hw2 : wf (uA (rAll S c.toNatClampNeg k.toNatClampNeg).2.2.2 4) := a4
      obtain ⟨b1, b2, b3, b4, b5, b6⟩ := rAll_ok hw2 hc2.2 hk.2
      simp only
      split
      · split
        · split
          · exact b4
          · next h24 =>
            refine wf_uP (S := uA (rAll (uA (rAll S c.toNatClampNeg k.toNatClampNeg).2.2.2 4) d.toNatClampNeg k.toNatClampNeg).2.2.2 4) b4 ⟨by omega, ?_⟩
            unfold mtP
            refine fnd_lt _ _ _ _ 0 P00 (fun j _ h2 => ?_) (fun j hj => absurd hj (Nat.not_lt_zero j))
            rw [Nat.zero_add] at h2
            have hm : 0 < (rAll (uA (rAll S c.toNatClampNeg k.toNatClampNeg).2.2.2 4) d.toNatClampNeg k.toNatClampNeg).2.1 := by
              rcases Nat.eq_zero_or_pos (rAll (uA (rAll S c.toNatClampNeg k.toNatClampNeg).2.2.2 4) d.toNatClampNeg k.toNatClampNeg).2.1 with q | q
              · rw [q, Nat.mul_zero] at h2
                omega
              · exact q
            refine ⟨?_, ?_⟩
            · have := (Nat.div_lt_iff_lt_mul hm).mpr h2
              omega
            · have := Nat.mod_lt j hm
              omega
        · exact b4
      · exact a4
    · rw [if_pos hk]; exact hw
theorem wf_image {ids : Nat → Nat} (hw : wf S) (hf : frsh (qR S) ids) : wf (spImage S k ids).2 := by
  unfold spImage
  by_cases hk : inB k 2
  · rw [if_neg (nn hk)]
    have hCx : ∀ c r, c < 10 → qC S c = .inl r → ∃ x, qR S r = some x := fun c r hc hq => by
      have := hw.1 c hc
      rw [hq] at this
      obtain ⟨x, hx, _⟩ := this
      exact ⟨x, hx⟩
    obtain ⟨t1, t2, t3, t4⟩ := tw_ok hCx hf 10 (Nat.le_refl _)
    have keep : ∀ r x, qR S r = some x → (tw (qR S) (qC S) ids 10).1 r = some x := fun r x hx => by
      rw [t4 r (fun c hc e => by rw [e, hf.1 c hc] at hx; cases hx)]
      exact hx
    have hh : ∀ h, hok (qN S) (qR S) h → hok (qN S) (tw (qR S) (qC S) ids 10).1 h := fun h hh => by
      cases h with
      | inr v => exact hh
      | inl r =>
        obtain ⟨x, hx, hk⟩ := hh
        exact ⟨x, keep r x hx, hk⟩
    obtain ⟨h1, h2, h3, h4, h5, h6, h7⟩ := id hw
    refine ⟨fun c hc => hh _ (h1 c hc), h2, h3, fun s hs => ?_, h5, h6, fun j f hj hq c hc => ?_⟩
    · obtain ⟨⟨y, a, b⟩, e⟩ := h4 s hs
      exact ⟨⟨y, keep s y a, b⟩, e⟩
    · have hq' : va_up (qI S) k.toNatClampNeg (some (tw (qR S) (qC S) ids 10).2) j = some f := hq
      by_cases hjk : j = k.toNatClampNeg
      · subst hjk
        rw [va_e] at hq'
        cases hq'
        cases hC : qC S c with
        | inr v =>
          have e := t1 c v hc hC
          refine ⟨?_, fun r hr => ?_⟩
          · rw [e]
            have := h1 c hc
            rw [hC] at this
            exact this
          · rw [e] at hr
            cases hr
        | inl r =>
          obtain ⟨e1, e2⟩ := t2 c r hc hC
          obtain ⟨f1, f2, f3⟩ := frs_ok hc hC
          refine ⟨?_, fun q hr => ?_⟩
          · rw [e1]
            have := h1 c hc
            rw [hC] at this
            obtain ⟨x, hx, hk2⟩ := this
            exact ⟨x, e2.trans hx, hk2⟩
          · rw [e1] at hr
            cases hr
            exact (fresh_c hw (hf.1 (frs (qC S) r) (by omega))).1
      · rw [va_n _ _ hjk] at hq'
        exact ⟨hh _ (h7 j f hj hq' c hc).1, (h7 j f hj hq' c hc).2⟩
  · rw [if_pos hk]; exact hw
end WFS
