/-! calls of the class: the hand, what fits -/
section PC
variable {E : sE} {S : sS} {G : sG} {w w' : xW}
theorem c_code {a : Nat} {v : mC} (h : oT w a v) (h6 : v.1 = 6 ∨ v.1 = 7 → nR 20 v.2.2) : xev 37 0 [some (xA (some (a)))] [] w = some (some (xJ (cde v)), w) := by
  rw [e_X6_code_0, b_X6_code_0]
  simp only [T_I h, T_D h, T_J h, Option.bind_some]
  unfold cde
  by_cases e6 : v.1 = 6
  · rw [if_pos e6, if_pos e6, fl_x6 (h6 (Or.inl e6))]
    rfl
  · rw [if_neg e6, if_neg e6]
    by_cases e7 : v.1 = 7
    · rw [if_pos e7, if_pos e7, fl_x7 (h6 (Or.inr e7))]
      rfl
    · rw [if_neg e7, if_neg e7]
theorem c_cglass (hR : Rc E S G w) (hw : wf S) : xev 45 0 [some (xA (some (E.1)))] [] w = some (some (xJ (cde (qS S))), w) := by
  obtain ⟨sh, he, s1, s2, s3, s4, s5⟩ := Rc_sh hR
  obtain ⟨k, k8, e, hn⟩ := hw.2.1
  have h6 : (qS S).1 = 6 ∨ (qS S).1 = 7 → nR 20 (qS S).2.2 := by
    rw [e]
    rintro (q | q)
    · exact hn (Or.inl ((nI_eq (b := 6) (by omega) (by decide)).mp q))
    · exact hn (Or.inr ((nI_eq (b := 7) (by omega) (by decide)).mp q))
  rw [e_X7_glass_0, b_X7_glass_0]
  simp only [s1, Option.bind_some, T_o s3, c_code s3 h6, xrJ_e]
theorem tok_67 {N : Nat} {v : mC} (h : tok N v) : v.1 = 6 ∨ v.1 = 7 → nR 20 v.2.2 := by
  intro q
  refine tok_n h (q.imp (fun e => ?_) (fun e => ?_))
  · unfold kn; rw [e]; rfl
  · unfold kn; rw [e]; rfl
theorem c_weight {a j : Nat} {v : mC} (hR : Rc E S G w) (h : oT w a v) (e : v.2.1 = lN j) (j0 : 0 < j) (j60 : j ≤ 60) : xev 75 0 [some (xA (some (E.1))), some (xA (some (a))), none] [] w = some (some (xI (qW S (j - 1))), w) := by
  obtain ⟨h1, h2, h3⟩ := Rc_wgt hR
  have e2 : nI j - 1 = nI (j - 1) := nI_sub (b := 1) (by omega)
  rw [e_X7_weightOf_0, b_X7_weightOf_0]
  simp only [T_J h, Option.bind_some, e, lN_i, e2, h1, xlen_I h2, xaI_of h2 (Or.inl rfl) (show j - 1 < 60 by omega) (by decide)]
  rw [if_neg (nI_pos (by omega)), if_pos (nI_lt (show j - 1 < 60 by omega) (by decide))]
theorem c_cinHand (hR : Rc E S G w) (hw : wf S) (what : Int32) : xev 50 0 [some (xA (some (E.1))), some (xI (what))] [] w = some (some (xJ (spInH S what)), w) := by
  obtain ⟨sh, he, s1, s2, s3, s4, s5⟩ := Rc_sh hR
  obtain ⟨fo, ho⟩ := Rc_o hR
  have hN := hw.2.2.2.2.2.1
  rw [e_X7_inHand_0, b_X7_inHand_0]
  simp only [s2, ho, Option.bind_some, T_o s4, T_I s4, T_J s4, c_isStone s4, c_code s4 (tok_67 hw.2.2.1), xrI_e, xrJ_e, if10, spInH, show Int32.ofInt 0 = 0 from rfl, show Int32.ofInt 1 = 1 from rfl, show Int32.ofInt 2 = 2 from rfl]
  by_cases h0 : what = 0
  · rw [if_pos h0, if_pos h0]
  · rw [if_neg h0, if_neg h0]
    by_cases h1 : what = 1
    · rw [if_pos h1, if_pos h1]
      by_cases hs : (qH S).1 = 8 ∨ (qH S).1 = 9
      · rw [if_neg (nn hs), if_pos hs]
        obtain ⟨j, j0, jN, e⟩ := tok_stone hw.2.2.1 hs
        simp only [c_weight hR s4 e j0 (by omega), Option.bind_some, xrI_e, e, lN_i]
        rw [show nI j - 1 = nI (j - 1) from nI_sub (b := 1) (by omega), nI_clamp (by omega)]
      · rw [if_pos hs, if_neg hs]
    · rw [if_neg h1, if_neg h1]
      by_cases h2 : what = 2
      · rw [if_pos h2, if_pos h2]
        by_cases hs : (qH S).1 = 8 ∨ (qH S).1 = 9
        · rw [if_neg (nn hs), if_pos hs]
        · rw [if_pos hs, if_neg hs]
      · rw [if_neg h2, if_neg h2]
theorem c_cchip (hR : Rc E S G w) (hw : wf S) (n : Int32) : ∃ w', xev 51 0 [some (xA (some (E.1))), some (xI (n)), none] [] w = some (some (xI (spChip S n).1), w') ∧ Rc E (spChip S n).2 G w' ∧ gr 0 w w' := by
  obtain ⟨sh, he, s1, s2, s3, s4, s5⟩ := Rc_sh hR
  have hN := hw.2.2.2.2.2.1
  rw [e_X7_chip_0, b_X7_chip_0]
  simp only [s2, Option.bind_some, T_o s4, T_J s4, c_isStone s4, xrI_e, if10, spChip]
  by_cases hs : (qH S).1 = 8 ∨ (qH S).1 = 9
  · rw [if_neg (nn hs), if_pos hs]
    obtain ⟨j, j0, jN, e⟩ := tok_stone hw.2.2.1 hs
    have e2 : nI j - 1 = nI (j - 1) := nI_sub (b := 1) (by omega)
    obtain ⟨h1, h2, h3⟩ := Rc_wgt hR
    obtain ⟨w1, e1, k1, r1⟩ := Rc_uW (i := j - 1) (x := qW S (j - 1) + n) hR (by omega)
    have g1 : xgA w1 E.1 6 3 = some (some he) := (Rc_gk hR k1 (show ¬ E.1 = E.1 + 19 by omega)).trans s2
    obtain ⟨fo, ho⟩ := Rc_o r1
    have cw := c_weight r1 (kp_T k1 s4) e j0 (by omega)
    have cv : qW (uW S (j - 1) (qW S (j - 1) + n)) (j - 1) = qW S (j - 1) + n := va_e _ _ _
    rw [cv] at cw
    simp only [e, lN_i, e2, h1, xlen_I h2, Option.bind_some, xaI_of h2 (Or.inl rfl) (show j - 1 < 60 by omega) (by decide), e1, g1, ho, cw, xrI_e, nI_clamp (show j - 1 < 2 ^ 31 by omega)]
    rw [if_neg (nI_pos (by omega)), if_pos (nI_lt (show j - 1 < 60 by omega) (by decide))]
    exact ⟨w1, rfl, r1, kp_gr k1⟩
  · rw [if_pos hs, if_neg hs]
    exact ⟨w, rfl, hR, gr_refl⟩
theorem k_uH {a : Nat} {v : mC} (hR : Rc E S G w) (t : oT w a v) : ∃ w', ((xput w E.1 6 3 (xA (some a))).bind fun w6 => some (some (xI (0 : Int32)), w6)) = some (some (xI 0), w') ∧ Rc E (uH S v) G w' ∧ gr 0 w w' := by
  obtain ⟨w1, e1, k1, r1⟩ := Rc_uH hR t
  exact ⟨w1, by rw [e1, Option.bind_some], r1, kp_gr k1⟩
theorem c_chand (hR : Rc E S G w) (hw : wf S) (what : Int32) (v : Int64) : ∃ w', xev 49 0 [some (xA (some (E.1))), some (xI (what)), some (xJ (v)), none, none] [] w = some (some (xI (spHand S what v).1), w') ∧ Rc E (spHand S what v).2 G w' ∧ gr 1 w w' := by
  obtain ⟨fo, ho⟩ := Rc_o hR
  obtain ⟨h1, h2, h3⟩ := Rc_wgt hR
  have hN := hw.2.2.2.2.2.1
  rw [e_X7_hand_0, b_X7_hand_0]
  simp only [c_clab, c_cnum, Option.bind_some, xrI_e, if10, if01, spHand, h3, ho, c_Thing, xrV_e]
  have thg : ∀ u : mC, ∃ w', ((xput (nT w u) E.1 6 3 (xA (some w.1))).bind fun w6 => some (some (xI (0 : Int32)), w6)) = some (some (xI 0), w') ∧ Rc E (uH S u) G w' ∧ gr 1 w w' := fun u => by
    have kk := nT_k (Rc_d hR) u
    obtain ⟨w', e, r, g⟩ := k_uH (Rc_new hR kk (Nat.le_refl _)) (nT_T w u)
    exact ⟨w', e, r, gr_tr (kp_gr kk) g (Nat.le_refl _)⟩
  have stn : ∀ k : Int32, ¬ qN S = 60 → ∃ w', ((xev 74 0 [some (xA (some E.1)), some (xI k), some (xI v.toInt32)] [] w).bind fun p4 => xrA p4.1 fun r5 => (xput p4.2 E.1 6 3 (xA r5)).bind fun w6 => some (some (xI (0 : Int32)), w6)) = some (some (xI 0), w') ∧ Rc E (uH (uN (uW S (qN S) v.toInt32) (qN S + 1)) (k, lN (qN S + 1), 0)) G w' ∧ gr 1 w w' := fun k hq => by
    obtain ⟨a, w1, e1, r1, t1, g1, _⟩ := c_newStone hR (show qN S < 60 by omega) k v.toInt32
    obtain ⟨w', e, r, g⟩ := k_uH r1 t1
    refine ⟨w', ?_, r, gr_tr g1 g (Nat.le_refl _)⟩
    simp only [e1, Option.bind_some, xrA_e]
    exact e
  by_cases h0 : what < 0
  · rw [if_pos h0, if_pos (Or.inl (fun q => q.1 h0))]
    exact ⟨w, rfl, hR, gr_refl⟩
  · rw [if_neg h0]
    have l11 := le_inB (c := what) (n := 11) (by decide) h0
    by_cases h12 : inB what 12
    · rw [if_neg (show ¬ (11 : Int32) < what from fun q => l11.mp q h12)]
      by_cases h10 : what = 10
      · subst h10
        rw [if_pos rfl]
        by_cases hl : v < 0 ∨ 99 < v
        · rw [if_pos hl, if_pos (Or.inr ⟨rfl, hl⟩)]
          exact ⟨w, rfl, hR, gr_refl⟩
        · rw [if_neg hl, if_neg (show ¬ (10 : Int32) = 8 by decide), if_neg (show ¬ (10 : Int32) = 9 by decide), if_pos (show ¬ inB (10 : Int32) 8 by decide), if_neg (show ¬ (¬ inB (10 : Int32) 12 ∨ (10 : Int32) = 10 ∧ (v < 0 ∨ 99 < v)) from fun q => q.elim (nn h12) (fun q => hl q.2)), if_neg (show ¬ (((10 : Int32) = 8 ∨ (10 : Int32) = 9) ∧ qN S = 60) from fun q => absurd q.1 (by decide)), if_neg (show ¬ inB (10 : Int32) 8 by decide), if_neg (show ¬ ((10 : Int32) = 8 ∨ (10 : Int32) = 9) by decide), if_pos rfl, if_pos rfl]
          exact thg (10, v, 0)
      · rw [if_neg h10, if_neg (show ¬ (¬ inB what 12 ∨ what = 10 ∧ (v < 0 ∨ 99 < v)) from fun q => q.elim (nn h12) (fun q => h10 q.1))]
        by_cases h8 : what = 8
        · subst h8
          rw [if_pos rfl]
          by_cases hq : qN S = 60
          · rw [if_neg (show ¬ nI (qN S) < 60 by rw [hq]; decide), if_pos (show ((8 : Int32) = 8 ∨ (8 : Int32) = 9) ∧ qN S = 60 from ⟨Or.inl rfl, hq⟩)]
            exact ⟨w, rfl, hR, gr_refl⟩
          · rw [if_neg (show ¬ (((8 : Int32) = 8 ∨ (8 : Int32) = 9) ∧ qN S = 60) from fun q => hq q.2), if_pos (show nI (qN S) < 60 from nI_lt (b := 60) (by omega) (by decide)), if_neg (show ¬ inB (8 : Int32) 8 by decide), if_pos (show (8 : Int32) = 8 ∨ (8 : Int32) = 9 from Or.inl rfl)]
            exact stn 8 hq
        · rw [if_neg h8]
          by_cases h9 : what = 9
          · subst h9
            rw [if_pos rfl]
            by_cases hq : qN S = 60
            · rw [if_neg (show ¬ nI (qN S) < 60 by rw [hq]; decide), if_pos (show ((9 : Int32) = 8 ∨ (9 : Int32) = 9) ∧ qN S = 60 from ⟨Or.inr rfl, hq⟩)]
              exact ⟨w, rfl, hR, gr_refl⟩
            · rw [if_neg (show ¬ (((9 : Int32) = 8 ∨ (9 : Int32) = 9) ∧ qN S = 60) from fun q => hq q.2), if_pos (show nI (qN S) < 60 from nI_lt (b := 60) (by omega) (by decide)), if_neg (show ¬ inB (9 : Int32) 8 by decide), if_pos (show (9 : Int32) = 8 ∨ (9 : Int32) = 9 from Or.inr rfl)]
              exact stn 9 hq
          · rw [if_neg h9, if_neg (show ¬ ((what = 8 ∨ what = 9) ∧ qN S = 60) from fun q => q.1.elim h8 h9)]
            by_cases hk : inB what 8
            · rw [if_neg (nn hk), if_pos hk]
              obtain ⟨i, hi, rfl, hdl⟩ := inB_ex hk
              simp only [c_number w hi v, Option.bind_some, xrA_e, hdl]
              exact thg (mkN i v)
            · rw [if_pos hk, if_neg h10, if_neg hk, if_neg (fun q => q.elim h8 h9), if_neg h10]
              have e11 : what = 11 := by
                obtain ⟨i, hi, rfl, hdl⟩ := inB_ex h12
                have a8 : ¬ i < 8 := fun q => hk (inB_of q (by decide))
                have b8 : ¬ i = 8 := fun q => h8 (by rw [q]; rfl)
                have b9 : ¬ i = 9 := fun q => h9 (by rw [q]; rfl)
                have b10 : ¬ i = 10 := fun q => h10 (by rw [q]; rfl)
                have : i = 11 := by omega
                rw [this]; rfl
              rw [e11]
              exact thg (11, 0, 0)
    · rw [if_pos (show (11 : Int32) < what from l11.mpr h12), if_pos (Or.inl h12)]
      exact ⟨w, rfl, hR, gr_refl⟩
/-! which types have all elements -/
theorem i_aod (x y z : Int32) : (x ||| y) &&& z = (x &&& z) ||| (y &&& z) := Int32.toBitVec_inj.1 (by simp [BitVec.and_or_distrib_right])
theorem mk_h0 : ∀ k, k < 12 → ∀ c : Bool, (if c = true then (1 : Int32) else 0) &&& xhom k = if (c && fitB 0 k) = true then 1 else 0 := by decide +kernel
theorem mk_h1 : ∀ k, k < 12 → ∀ c : Bool, (if c = true then (2 : Int32) else 0) &&& xhom k = if (c && fitB 1 k) = true then 2 else 0 := by decide +kernel
theorem mk_h2 : ∀ k, k < 12 → ∀ c : Bool, (if c = true then (4 : Int32) else 0) &&& xhom k = if (c && fitB 2 k) = true then 4 else 0 := by decide +kernel
theorem mk_h3 : ∀ k, k < 12 → ∀ c : Bool, (if c = true then (8 : Int32) else 0) &&& xhom k = if (c && fitB 3 k) = true then 8 else 0 := by decide +kernel
theorem mk_h4 : ∀ k, k < 12 → ∀ c : Bool, (if c = true then (16 : Int32) else 0) &&& xhom k = if (c && fitB 4 k) = true then 16 else 0 := by decide +kernel
theorem mk_h5 : ∀ k, k < 12 → ∀ c : Bool, (if c = true then (32 : Int32) else 0) &&& xhom k = if (c && fitB 5 k) = true then 32 else 0 := by decide +kernel
theorem mk_h6 : ∀ k, k < 12 → ∀ c : Bool, (if c = true then (64 : Int32) else 0) &&& xhom k = if (c && fitB 6 k) = true then 64 else 0 := by decide +kernel
theorem mk_h7 : ∀ k, k < 12 → ∀ c : Bool, (if c = true then (128 : Int32) else 0) &&& xhom k = if (c && fitB 7 k) = true then 128 else 0 := by decide +kernel
theorem mk_h8 : ∀ k, k < 12 → ∀ c : Bool, (if c = true then (256 : Int32) else 0) &&& xhom k = if (c && fitB 8 k) = true then 256 else 0 := by decide +kernel
theorem mk_h9 : ∀ k, k < 12 → ∀ c : Bool, (if c = true then (512 : Int32) else 0) &&& xhom k = if (c && fitB 9 k) = true then 512 else 0 := by decide +kernel
theorem mk_h10 : ∀ k, k < 12 → ∀ c : Bool, (if c = true then (1024 : Int32) else 0) &&& xhom k = if (c && fitB 10 k) = true then 1024 else 0 := by decide +kernel
theorem mk_h11 : ∀ k, k < 12 → ∀ c : Bool, (if c = true then (2048 : Int32) else 0) &&& xhom k = if (c && fitB 11 k) = true then 2048 else 0 := by decide +kernel
theorem mk_h12 : ∀ k, k < 12 → ∀ c : Bool, (if c = true then (4096 : Int32) else 0) &&& xhom k = if (c && fitB 12 k) = true then 4096 else 0 := by decide +kernel
theorem mskB_and (b : Nat → Bool) {k : Nat} (hk : k < 12) : mskB b &&& xhom k = mskB (fun ty => b ty && fitB ty k) := by
  unfold mskB
  simp only [i_aod, mk_h0 k hk (b 0), mk_h1 k hk (b 1), mk_h2 k hk (b 2), mk_h3 k hk (b 3), mk_h4 k hk (b 4), mk_h5 k hk (b 5), mk_h6 k hk (b 6), mk_h7 k hk (b 7), mk_h8 k hk (b 8), mk_h9 k hk (b 9), mk_h10 k hk (b 10), mk_h11 k hk (b 11), mk_h12 k hk (b 12)]
theorem c_common_l {a : Nat} {x : sR} {N : Nat} (h : oR w a x) (hk : rok N x) (hh : w.2.2.2 w.2.2.1 = some (aI 7 12 xhom)) : ∀ d i b, i + d = x.2.1 → xev 26 6 [some (xA (some (a))), some (xI (mskB b)), some (xI (nI i))] [] w = some (some (xI (mskB (fun ty => b ty && decide (ufA ty x.2.2 d i = i + d)))), w)
  | 0, i, b, hid => by
    rw [e_X4_commonHomes_6, b_X4_commonHomes_6]
    simp only [R_c h, Option.bind_some, R_l h, if_neg (nI_nlt (show x.2.1 ≤ i by omega) (show i < 2 ^ 31 by have := hk.2.1; omega))]
    have : (fun ty => b ty && decide (ufA ty x.2.2 0 i = i + 0)) = b := by
      funext ty
      unfold ufA
      simp
    rw [this]
  | d + 1, i, b, hid => by
    have h24 := hk.2.1
    obtain ⟨c, e1, t1⟩ := R_e h h24 (show i < x.2.1 by omega)
    obtain ⟨⟨tk, _⟩, _⟩ := And.intro (hk.2.2 i (by omega)) trivial
    obtain ⟨k12, ek⟩ := tok_c tk
    rw [e_X4_commonHomes_6, b_X4_commonHomes_6]
    simp only [R_c h, Option.bind_some, R_l h, if_pos (nI_lt (show i < x.2.1 by omega) (show x.2.1 < 2 ^ 31 by omega)), e1, T_I t1]
    rw [ek]
    simp only [c_homes hh k12, Option.bind_some, xrI_e, mskB_and b k12, nI_1]
    rw [c_common_l h hk hh d (i + 1) _ (by omega)]
    have : (fun ty => (b ty && fitB ty (kn (x.2.2 i))) && decide (ufA ty x.2.2 d (i + 1) = i + 1 + d)) = fun ty => b ty && decide (ufA ty x.2.2 (d + 1) i = i + (d + 1)) := by
      funext ty
      conv => rhs; unfold ufA
      by_cases hf : fitB ty (kn (x.2.2 i)) = true
      · rw [if_pos hf, hf, Bool.and_true, show i + 1 + d = i + (d + 1) by omega]
      · rw [if_neg hf]
        have : fitB ty (kn (x.2.2 i)) = false := by simpa using hf
        rw [this, Bool.and_false, Bool.false_and, decide_eq_false (show ¬ i = i + (d + 1) by omega), Bool.and_false]
    rw [this]
theorem c_common {a : Nat} {x : sR} {N : Nat} (h : oR w a x) (hk : rok N x) (hh : w.2.2.2 w.2.2.1 = some (aI 7 12 xhom)) : xev 26 0 [some (xA (some (a))), none, none] [] w = some (some (xI (mskB (fun ty => decide (ufit x ty = x.2.1)))), w) := by
  rw [e_X4_commonHomes_0, b_X4_commonHomes_0]
  have e := c_common_l h hk hh x.2.1 0 (fun _ => true) (by omega)
  rw [show mskB (fun _ => true) = (8191 : Int32) by decide, nI_0] at e
  rw [e]
  have : (fun ty => (true && decide (ufA ty x.2.2 x.2.1 0 = 0 + x.2.1))) = fun ty => decide (ufit x ty = x.2.1) := by
    funext ty
    rw [Bool.true_and, Nat.zero_add]
    rfl
  rw [this]
theorem c_cfits (hR : Rc E S G w) (hw : wf S) (c : Int32) : xev 55 0 [some (xA (some (E.1))), some (xI (c)), none, none] [] w = some (some (xI (spFits S c)), w) := by
  rw [e_X7_fits_0, b_X7_fits_0]
  simp only [c_ccol, Option.bind_some, xrI_e, if10, spFits]
  by_cases hc : inB c 10
  · rw [if_neg (nn hc), if_neg (nn hc)]
    obtain ⟨j, hj, rfl, hcl⟩ := inB_ex hc
    simp only [hcl]
    obtain ⟨g, fs, a, g1, g2, g3, hh⟩ := k_at hR hw hj
    simp only [g1, Option.bind_some, g2, g3, xrA_e]
    rw [if_neg (by simp)]
    rcases hh with ⟨v, hq, t, hv⟩ | ⟨x, hq, hx, hr, hk⟩
    · simp only [T_c t, Option.bind_some, hq]
      rw [if_neg (by decide), if_pos trivial]
    · simp only [R_n hr, R_o hr, Option.bind_some, hq, hx, c_common hr hk (Rc_h hR), xrI_e]
      rw [if_pos trivial]
  · rw [if_pos hc, if_pos hc]
theorem c_funfit_l {a ty : Nat} {x : sR} {N : Nat} (h : oR w a x) (hk : rok N x) (hh : w.2.2.2 w.2.2.1 = some (aI 7 12 xhom)) (ht : ty < 13) : ∀ d i, i + d = x.2.1 → xev 25 2 [some (xA (some (a))), some (xI (nI ty)), some (xI (nI i))] [] w = some (some (xI (nI (ufA ty x.2.2 d i))), w)
  | 0, i, hid => by
    rw [e_X4_firstUnfit_2, b_X4_firstUnfit_2]
    simp only [R_c h, Option.bind_some, R_l h, if_neg (nI_nlt (show x.2.1 ≤ i by omega) (show i < 2 ^ 31 by have := hk.2.1; omega))]
    have : ufA ty x.2.2 0 i = x.2.1 := by unfold ufA; omega
    rw [this]
  | d + 1, i, hid => by
    have h24 := hk.2.1
    obtain ⟨c, e1, t1⟩ := R_e h h24 (show i < x.2.1 by omega)
    obtain ⟨⟨tk, _⟩, _⟩ := And.intro (hk.2.2 i (by omega)) trivial
    obtain ⟨k12, ek⟩ := tok_c tk
    rw [e_X4_firstUnfit_2, b_X4_firstUnfit_2]
    simp only [R_c h, Option.bind_some, R_l h, if_pos (nI_lt (show i < x.2.1 by omega) (show x.2.1 < 2 ^ 31 by omega)), e1, T_I t1]
    rw [ek]
    simp only [c_fitsInto hh ht k12, Option.bind_some, xrI_e, nI_1]
    rw [c_funfit_l h hk hh ht d (i + 1) (by omega)]
    conv => rhs; unfold ufA
    by_cases hf : fitB ty (kn (x.2.2 i)) = true
    · rw [bI_t hf, if_neg (by decide), if_pos hf]
    · rw [bI_f hf, if_pos rfl, if_neg hf]
theorem c_funfit {a ty : Nat} {x : sR} {N : Nat} (h : oR w a x) (hk : rok N x) (hh : w.2.2.2 w.2.2.1 = some (aI 7 12 xhom)) (ht : ty < 13) : xev 25 0 [some (xA (some (a))), some (xI (nI ty)), none] [] w = some (some (xI (nI (ufit x ty))), w) := by
  rw [e_X4_firstUnfit_0, b_X4_firstUnfit_0]
  have := c_funfit_l h hk hh ht x.2.1 0 (by omega)
  rw [nI_0] at this
  exact this
end PC
