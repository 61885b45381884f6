/-! calls of the class: where, meet -/
section PG2
variable {E : sE} {S : sS} {G : sG} {w w' : xW}
theorem c_corder {a b k : Nat} {v u : mC} (ha : oT w a v) (hb : oT w b u) (hv : v.1 = nI k) (hk : k < 8) (na : nR 11 v.2.2) (nb : nR 11 u.2.2) : xev 36 0 [some (xA (some (a))), some (xA (some (b)))] [] w = some (some (xI (nI (ord3 k v u) - 1)), w) := by
  have e6 : (nI k = 6) ↔ k = 6 := nI_eq (b := 6) (by omega) (by decide)
  have e7 : (nI k = 7) ↔ k = 7 := nI_eq (b := 7) (by omega) (by decide)
  have fl : (if Op.cmpValue (FP.dcmp v.2.2 u.2.2) .l = 0 then (some (some (xI (0 : Int32)), w) : Option xR) else if Op.cmpValue (FP.dcmp v.2.2 u.2.2) .g < 0 then some (some (xI (-1 : Int32)), w) else some (some (xI (1 : Int32)), w)) = some (some (xI (nI (if FP.dcmp v.2.2 u.2.2 = some .lt then 0 else if FP.dcmp v.2.2 u.2.2 = some .eq then 1 else 2) - 1)), w) := by
    rcases fl_cmp na nb with h | h | h
    · rw [h]; rfl
    · rw [h]; rfl
    · rw [h]; rfl
  rw [e_X6_order_0, b_X6_order_0]
  simp only [T_I ha, hv, Option.bind_some, T_D ha, T_D hb, T_J ha, T_J hb, e6, e7, e_J13_compare_74951_0, b_J13_compare_74951_0, lgc_lt, lgc_eq, fl]
  unfold ord3
  by_cases h6 : k = 6
  · rw [if_pos h6, if_neg (show ¬ k < 6 by omega)]
  · rw [if_neg h6]
    by_cases h7 : k = 7
    · rw [if_pos h7, if_neg (show ¬ k < 6 by omega)]
    · rw [if_neg h7, if_pos (show k < 6 by omega)]
      by_cases h1 : v.2.1 < u.2.1
      · rw [if_pos h1, if_pos h1]; rfl
      · rw [if_neg h1, if_neg h1]
        by_cases h2 : v.2.1 = u.2.1
        · rw [if_pos h2, if_pos h2]; rfl
        · rw [if_neg h2, if_neg h2]; rfl
theorem o3_e : ∀ a, a < 3 → ∀ b, b < 3 → ((nI a - 1 = nI b - 1) ↔ a = b) := by decide
theorem o3_1 : ∀ a, a < 3 → ((nI a - 1 = 0) ↔ a = 1) := by decide
theorem c_cwh_l {k n how b : Nat} {u : mC} {g : Nat → mC} {G2 : Nat × (Nat → mC)} (hn : n ≤ 24) (hk : k < 8) (hh : how < 3) (hg : ∀ j, j < n → (g j).1 = nI k ∧ nR 11 (g j).2.2) (hu : nR 11 u.2.2) : ∀ d i w P, i + d = n → P.1 ≤ i → Rc E S ((n, g), G2, P) w → oT w b u → ∃ G' w', xev 58 85 [some (xA (some (E.1))), none, none, some (xI (nI how)), none, none, some (xA (some (b))), some (xI (nI i))] [] w = some (some (xI (nI (fnd (fun i => decide (ord3 k (g i) u = how)) id id d i P).1)), w') ∧ Rc E (uP S (fnd (fun i => decide (ord3 k (g i) u = how)) id id d i P)) G' w' ∧ gr 0 w w'
  | 0, i, w, P, hin, hP, hR, hb => by
    obtain ⟨fo, hob⟩ := Rc_o hR
    obtain ⟨j7, _, _⟩ := Rc_G7 hR
    have og : oG w (E.1 + 13) (n, g) := Rc_G hR (Or.inl rfl)
    obtain ⟨w1, e1, z1, z2, r1⟩ := Rc_adopt hR
    rw [e_X7_where_85, b_X7_where_85]
    simp only [j7, Option.bind_some, G_o og, c_gsize og, xrI_e, hob]
    rw [if_neg (nI_nlt (show n ≤ i by omega) (by omega))]
    simp only [e1, Option.bind_some, xrI_e]
    exact ⟨_, w1, rfl, r1, gr_eq z1 (by omega)⟩
  | d + 1, i, w, P, hin, hP, hR, hb => by
    obtain ⟨j7, _, _⟩ := Rc_G7 hR
    have og : oG w (E.1 + 13) (n, g) := Rc_G hR (Or.inl rfl)
    obtain ⟨c, e1, t1⟩ := c_gat og hn (show i < n by omega)
    have t1' : oT w c (g i) := t1
    obtain ⟨p, q, p1, p2, p3, p4⟩ := Rc_pq hR
    have p4' : oQ w q P := p4
    obtain ⟨f1, f2⟩ := hg i (by omega)
    have oc := c_corder t1' hb f1 hk f2 hu
    rw [e_X7_where_85, b_X7_where_85]
    simp only [j7, Option.bind_some, G_o og, c_gsize og, xrI_e, e1, xrA_e, T_o t1', oc, p2, Q_o p4', nI_1]
    rw [if_pos (nI_lt (show i < n by omega) (by omega))]
    unfold fnd
    have eq := o3_e _ (ord3_lt k (g i) u) how hh
    by_cases ho : ord3 k (g i) u = how
    · rw [if_pos (eq.mpr ho), if_pos (decide_eq_true ho)]
      obtain ⟨w1, e2, k2, o2⟩ := c_qadd (i := i) (j := i) p4' (Rc_d hR) (show P.1 < 24 by omega)
      have r2 := Rc_dr hR p2 k2 o2
      obtain ⟨G', w2, e3, r3, g3⟩ := c_cwh_l hn hk hh hg hu d (i + 1) w1 _ (by omega) (show P.1 + 1 ≤ i + 1 by omega) r2 (kp_T k2 hb)
      simp only [e2, Option.bind_some, xrI_e]
      exact ⟨G', w2, e3, r3, gr_tr (kp_gr k2) g3 (by decide)⟩
    · rw [if_neg (fun q => ho (eq.mp q)), if_neg (fun q => ho (of_decide_eq_true q))]
      exact c_cwh_l hn hk hh hg hu d (i + 1) w P (by omega) (by omega) hR hb
/-- the draft is cleared -/
theorem k_clear {q : Nat} (hR : Rc E S G w) (hq : xgA w E.1 6 6 = some (some q)) (o : oQ w q G.2.2) : ∃ w', xev 6 0 [some (xA (some (q)))] [] w = some (none, w') ∧ kpc (fun a => q ≤ a ∧ a < q + 3) 0 w w' ∧ Rc E S (G.1, G.2.1, P00) w' := by
  obtain ⟨w', e, k, o'⟩ := c_qclear o (Rc_d hR)
  have kk := kp_wide k (A := fun a => q ≤ a ∧ a < q + 3) (fun a e => by omega) (oQ_s o)
  obtain ⟨h1, f, g, h3, h4, _⟩ := o'
  exact ⟨w', e, kk, Rc_dr hR hq kk ⟨h1, f, g, h3, h4, fun i hi => absurd hi (Nat.not_lt_zero i)⟩⟩
theorem c_cwhere (hR : Rc E S G w) (hw : wf S) (c k how : Int32) (v : Int64) : ∃ G' w', xev 58 0 [some (xA (some (E.1))), some (xI (c)), some (xI (k)), some (xI (how)), some (xJ (v)), none, none, none] [] w = some (some (xI (spWhere S c k how v).1), w') ∧ Rc E (spWhere S c k how v).2 G' w' ∧ gr 30 w w' := by
  obtain ⟨fo, hob⟩ := Rc_o hR
  obtain ⟨j7, _, _⟩ := Rc_G7 hR
  rw [e_X7_where_0, b_X7_where_0]
  simp only [c_ccol, c_cnum, Option.bind_some, xrI_e, if10, spWhere]
  by_cases hc : inB c 10
  · simp only [if_neg (show ¬ ¬ inB c 10 from fun q => q hc)]
    by_cases hk : inB k 8
    · simp only [if_neg (show ¬ ¬ inB k 8 from fun q => q hk)]
      by_cases h0 : how < 0
      · simp only [if_pos h0, if_pos (show ¬ inB k 8 ∨ ¬ inB how 3 from Or.inr (fun q => q.1 h0))]
        exact ⟨G, w, rfl, hR, gr_refl⟩
      · rw [if_neg h0]
        have l2 := le_inB (c := how) (n := 2) (by decide) h0
        by_cases h3 : inB how 3
        · rw [if_neg (show ¬ (2 : Int32) < how from fun q => l2.mp q h3)]
          simp only [if_neg (show ¬ (¬ inB k 8 ∨ ¬ inB how 3) from or_nn hk h3)]
          obtain ⟨j, hj, rfl, hcl⟩ := inB_ex hc
          obtain ⟨i, hi, rfl, hil⟩ := inB_ex hk
          obtain ⟨m, hm, rfl, hml⟩ := inB_ex h3
          simp only [hcl, hil, hml]
          obtain ⟨a1, a2, a3, a4, a5, a6⟩ := rAll_ok hw hj hi
          obtain ⟨w1, e1, r1, g1⟩ := c_rall hR hw hj hi (o := 13) (Or.inl rfl)
          obtain ⟨w2, e2, k2, r2⟩ := Rc_uA r1 (nI (rAll S j i).1)
          obtain ⟨i7, _, x2⟩ := Rc_G7 r2
          have x2' : xgI w2 E.1 6 12 = some (nI (rAll S j i).1) := x2
          have e4 : (nI (rAll S j i).1 = 4) ↔ (rAll S j i).1 = 4 := nI_eq (b := 4) (by omega) (by decide)
          have e5 : ((5 : Int32) < nI i) ↔ 5 < i := nI_ltI (a := 5) (by decide) (by omega)
          simp only [j7, hob, Option.bind_some, e1, xrI_e, e2, x2', e4, e5]
          by_cases h4 : (rAll S j i).1 = 4
          · simp only [if_pos h4]
            rw [h4] at r2
            have fin : ∀ t, t < 8 → ∃ G' w', ((xev 32 0 [some (xI (nI t)), some (xJ v), none] [] w2).bind fun p10 => xrA p10.1 fun r11 => (xgA p10.2 E.1 6 6).bind fun r12 => r12.bind fun o14 => (xobj p10.2 o14 1).bind fun _ => (xev 6 0 [some (xA r12)] [] p10.2).bind fun p13 => xrV p13.1 (xev 58 85 [some (xA (some E.1)), none, none, some (xI (nI m)), none, none, some (xA r11), some (xI (0 : Int32))] [] p13.2)) = some (some (xI (nI (fnd (fun q => decide (ord3 i ((rAll S j i).2.2.1 q) (mkN t v) = m)) id id (rAll S j i).2.1 0 P00).1)), w') ∧ Rc E (uP (uA (rAll S j i).2.2.2 4) (fnd (fun q => decide (ord3 i ((rAll S j i).2.2.1 q) (mkN t v) = m)) id id (rAll S j i).2.1 0 P00)) G' w' ∧ gr 1 w2 w' := by
              intro t ht
              have kk := nT_k (Rc_d r2) (mkN t v)
              have r3 := Rc_new r2 kk (Nat.le_refl _)
              obtain ⟨p, q, p1, p2, p3, p4⟩ := Rc_pq r3
              obtain ⟨w4, e4', k4, r4⟩ := k_clear r3 p2 p4
              have tk := mkN_ok 0 ht v
              obtain ⟨G', w5, e5', r5, g5⟩ := c_cwh_l (how := m) (g := (rAll S j i).2.2.1) a3 hi hm (fun q hq => ⟨(a6 q hq).2, tok_11 (a6 q hq).1 (a6 q hq).2 hi⟩) (tok_11 tk.1 tk.2 ht) (rAll S j i).2.1 0 w4 P00 (by omega) (Nat.le_refl _) r4 (kp_T k4 (nT_T w2 (mkN t v)))
              rw [nI_0] at e5'
              refine ⟨G', w5, ?_, r5, gr_tr (gr_tr (kp_gr kk) (kp_gr k4) (Nat.le_refl _)) g5 (by decide)⟩
              simp only [c_number w2 ht v, Option.bind_some, xrA_e, p2, Q_o p4, e4', xrV_e]
              exact e5'
            by_cases h5 : 5 < i
            · rw [if_pos h5]
              simp only [if_neg (show ¬ i < 6 by omega)]
              obtain ⟨G', w3, e3, r3, g3⟩ := fin i hi
              exact ⟨G', w3, e3, r3, gr_tr (gr_tr g1 (kp_gr k2) (Nat.le_refl _)) g3 (by decide)⟩
            · rw [if_neg h5]
              simp only [if_pos (show i < 6 by omega)]
              obtain ⟨G', w3, e3, r3, g3⟩ := fin 5 (by decide)
              exact ⟨G', w3, e3, r3, gr_tr (gr_tr g1 (kp_gr k2) (Nat.le_refl _)) g3 (by decide)⟩
          · simp only [if_neg h4]
            exact ⟨_, w2, rfl, r2, gr_tr g1 (kp_gr k2) (by decide)⟩
        · rw [if_pos (show (2 : Int32) < how from l2.mpr h3)]
          simp only [if_pos (show ¬ inB k 8 ∨ ¬ inB how 3 from Or.inr h3)]
          exact ⟨G, w, rfl, hR, gr_refl⟩
    · simp only [if_pos hk, if_pos (show ¬ inB k 8 ∨ ¬ inB how 3 from Or.inl hk)]
      exact ⟨G, w, rfl, hR, gr_refl⟩
  · simp only [if_pos hc]
    exact ⟨G, w, rfl, hR, gr_refl⟩
/-! meet -/
def mtE (k m : Nat) (g h : Nat → mC) : Nat → Bool := fun q => decide (ord3 k (g (q / m)) (h (q % m)) = 1)
def mtT (k n m : Nat) (g h : Nat → mC) (q : Nat) (P : Nat × (Nat → Nat) × (Nat → Nat)) : Nat × (Nat → Nat) × (Nat → Nat) := fnd (mtE k m g h) (fun q => q / m) (fun q => q % m) (n * m - q) q P
def mtR (E : sE) (S : sS) (n m : Nat) (g h : Nat → mC) (w : xW) (x : Option xR) (F : Nat × (Nat → Nat) × (Nat → Nat)) : Prop := ∃ P' w', x = some (some (xI (if 24 < F.1 then 0 else 1)), w') ∧ Rc E S ((n, g), (m, h), P') w' ∧ (¬ 24 < F.1 → P' = F) ∧ gr 0 w w'
theorem c_cin_l {k n m i : Nat} {g h : Nat → mC} (hn : n ≤ 24) (hm : m ≤ 24) (hk : k < 8) (hg : ∀ j, j < n → (g j).1 = nI k ∧ nR 11 (g j).2.2) (hh : ∀ j, j < m → (h j).1 = nI k ∧ nR 11 (h j).2.2) (hi : i < n) (out : ∀ w P, Rc E S ((n, g), (m, h), P) w → P.1 ≤ 24 → mtR E S n m g h w (xev 85 9 [some (xA (some (E.1))), some (xI (nI (i + 1))), none] [] w) (mtT k n m g h ((i + 1) * m) P)) : ∀ d j w P, j + d = m → Rc E S ((n, g), (m, h), P) w → P.1 ≤ 24 → mtR E S n m g h w (xev 85 22 [some (xA (some (E.1))), some (xI (nI i)), some (xI (nI j))] [] w) (mtT k n m g h (i * m + j) P)
  | 0, j, w, P, hj, hR, hP => by
    obtain ⟨j7, j8, _⟩ := Rc_G7 hR
    have og2 : oG w (E.1 + 16) (m, h) := Rc_G hR (Or.inr rfl)
    have e : j = m := by omega
    subst e
    rw [e_X7_draftEqualOnes_22, b_X7_draftEqualOnes_22]
    simp only [j8, Option.bind_some, G_o og2, c_gsize og2, xrI_e, nI_1]
    rw [if_neg (nI_nlt (Nat.le_refl _) (by omega)), show i * j + j = (i + 1) * j from (Nat.succ_mul i j).symm]
    exact out w P hR hP
  | d + 1, j, w, P, hj, hR, hP => by
    obtain ⟨j7, j8, _⟩ := Rc_G7 hR
    have og1 : oG w (E.1 + 13) (n, g) := Rc_G hR (Or.inl rfl)
    have og2 : oG w (E.1 + 16) (m, h) := Rc_G hR (Or.inr rfl)
    obtain ⟨a, e1, t1⟩ := c_gat og1 hn (show i < n from hi)
    obtain ⟨b, e2, t2⟩ := c_gat og2 hm (show j < m by omega)
    have t1' : oT w a (g i) := t1
    have t2' : oT w b (h j) := t2
    obtain ⟨p, q, p1, p2, p3, p4⟩ := Rc_pq hR
    have p4' : oQ w q P := p4
    obtain ⟨f1, f2⟩ := hg i hi
    obtain ⟨f3, f4⟩ := hh j (by omega)
    have oc := c_corder t1' t2' f1 hk f2 f4
    have hq : i * m + j < n * m := by
      have : (i + 1) * m ≤ n * m := Nat.mul_le_mul_right m hi
      rw [Nat.succ_mul] at this
      omega
    have hd : (i * m + j) / m = i := by rw [Nat.mul_comm, Nat.mul_add_div (by omega), Nat.div_eq_of_lt (by omega), Nat.add_zero]
    have hr : (i * m + j) % m = j := by rw [Nat.mul_comm, Nat.mul_add_mod, Nat.mod_eq_of_lt (by omega)]
    have st : mtT k n m g h (i * m + j) P = mtT k n m g h (i * m + (j + 1)) (if ord3 k (g i) (h j) = 1 then (P.1 + 1, va_up P.2.1 P.1 i, va_up P.2.2 P.1 j) else P) := by
      unfold mtT
      rw [show n * m - (i * m + j) = (n * m - (i * m + (j + 1))) + 1 by omega]
      conv => lhs; unfold fnd
      rw [hd, hr]
      unfold mtE
      rw [hd, hr, show i * m + j + 1 = i * m + (j + 1) by omega]
      by_cases ho : ord3 k (g i) (h j) = 1
      · rw [if_pos (decide_eq_true ho), if_pos ho]
      · rw [if_neg (fun q => ho (of_decide_eq_true q)), if_neg ho]
    rw [st, e_X7_draftEqualOnes_22, b_X7_draftEqualOnes_22]
    simp only [j7, j8, Option.bind_some, G_o og1, G_o og2, c_gsize og2, xrI_e, e1, e2, xrA_e, T_o t1', oc, p2, Q_o p4', nI_1]
    rw [if_pos (nI_lt (show j < m by omega) (by omega))]
    have eq := o3_1 _ (ord3_lt k (g i) (h j))
    by_cases ho : ord3 k (g i) (h j) = 1
    · rw [if_pos (eq.mpr ho), if_pos ho]
      by_cases hf : P.1 < 24
      · obtain ⟨w1, e3, k3, o3⟩ := c_qadd (i := i) (j := j) p4' (Rc_d hR) hf
        have r3 := Rc_dr hR p2 k3 o3
        simp only [e3, Option.bind_some, xrI_e]
        rw [if_neg (by decide)]
        obtain ⟨P', w2, b1, b2, b3, b4⟩ := c_cin_l hn hm hk hg hh hi out d (j + 1) w1 _ (by omega) r3 (show P.1 + 1 ≤ 24 by omega)
        exact ⟨P', w2, b1, b2, b3, gr_tr (kp_gr k3) b4 (by decide)⟩
      · have h24 : P.1 = 24 := by omega
        simp only [c_qfull p4' h24, Option.bind_some, xrI_e]
        rw [if_pos trivial]
        have big : 24 < (mtT k n m g h (i * m + (j + 1)) (P.1 + 1, va_up P.2.1 P.1 i, va_up P.2.2 P.1 j)).1 := by
          have := (fnd_le (mtE k m g h) (fun q => q / m) (fun q => q % m) (n * m - (i * m + (j + 1))) (i * m + (j + 1)) (P.1 + 1, va_up P.2.1 P.1 i, va_up P.2.2 P.1 j)).1
          unfold mtT
          simp only at this
          omega
        exact ⟨P, w, by rw [if_pos big], hR, fun q => absurd big q, gr_refl⟩
    · rw [if_neg (fun q => ho (eq.mp q)), if_neg ho]
      exact c_cin_l hn hm hk hg hh hi out d (j + 1) w P (by omega) hR hP
theorem c_cout_l {k n m : Nat} {g h : Nat → mC} (hn : n ≤ 24) (hm : m ≤ 24) (hk : k < 8) (hg : ∀ j, j < n → (g j).1 = nI k ∧ nR 11 (g j).2.2) (hh : ∀ j, j < m → (h j).1 = nI k ∧ nR 11 (h j).2.2) : ∀ d i w P, i + d = n → Rc E S ((n, g), (m, h), P) w → P.1 ≤ 24 → mtR E S n m g h w (xev 85 9 [some (xA (some (E.1))), some (xI (nI i)), none] [] w) (mtT k n m g h (i * m) P)
  | 0, i, w, P, hin, hR, hP => by
    obtain ⟨j7, j8, _⟩ := Rc_G7 hR
    have og1 : oG w (E.1 + 13) (n, g) := Rc_G hR (Or.inl rfl)
    have e : i = n := by omega
    subst e
    have ft : mtT k i m g h (i * m) P = P := by
      unfold mtT
      rw [Nat.sub_self]
      rfl
    rw [ft, e_X7_draftEqualOnes_9, b_X7_draftEqualOnes_9]
    simp only [j7, Option.bind_some, G_o og1, c_gsize og1, xrI_e]
    rw [if_neg (nI_nlt (Nat.le_refl _) (by omega))]
    exact ⟨P, w, by rw [if_neg (show ¬ 24 < P.1 by omega)], hR, fun _ => rfl, gr_refl⟩
  | d + 1, i, w, P, hin, hR, hP => by
    obtain ⟨j7, j8, _⟩ := Rc_G7 hR
    have og1 : oG w (E.1 + 13) (n, g) := Rc_G hR (Or.inl rfl)
    have key := c_cin_l hn hm hk hg hh (show i < n by omega) (fun w P r p => c_cout_l hn hm hk hg hh d (i + 1) w P (by omega) r p) m 0 w P (by omega) hR hP
    rw [nI_0, Nat.add_zero] at key
    rw [e_X7_draftEqualOnes_9, b_X7_draftEqualOnes_9]
    simp only [j7, Option.bind_some, G_o og1, c_gsize og1, xrI_e]
    rw [if_pos (nI_lt (show i < n by omega) (by omega))]
    exact key
theorem c_cmeet (hR : Rc E S G w) (hw : wf S) (c d k : Int32) : ∃ G' w', xev 59 0 [some (xA (some (E.1))), some (xI (c)), some (xI (d)), some (xI (k))] [] w = some (some (xI (spMeet S c d k).1), w') ∧ Rc E (spMeet S c d k).2 G' w' ∧ gr 60 w w' := by
  obtain ⟨fo, hob⟩ := Rc_o hR
  obtain ⟨j7, _, _⟩ := Rc_G7 hR
  rw [e_X7_meet_0, b_X7_meet_0]
  simp only [c_ccol, c_cnum, Option.bind_some, xrI_e, if10, spMeet]
  by_cases hc : inB c 10
  · simp only [if_neg (show ¬ ¬ inB c 10 from fun q => q hc)]
    by_cases hd : inB d 10
    · simp only [if_neg (show ¬ ¬ inB d 10 from fun q => q hd), if_neg (or_nn hc hd)]
      by_cases hk : inB k 8
      · simp only [if_neg (show ¬ ¬ inB k 8 from fun q => q hk)]
        obtain ⟨j, hj, rfl, hcl⟩ := inB_ex hc
        obtain ⟨l, hl, rfl, hll⟩ := inB_ex hd
        obtain ⟨i, hi, rfl, hil⟩ := inB_ex hk
        simp only [hcl, hil, hll]
        obtain ⟨a1, a2, a3, a4, a5, a6⟩ := rAll_ok hw hj hi
        obtain ⟨w1, e1, r1, g1⟩ := c_rall hR hw hj hi (o := 13) (Or.inl rfl)
        obtain ⟨w2, e2, k2, r2⟩ := Rc_uA r1 (nI (rAll S j i).1)
        obtain ⟨i7, i8, x2⟩ := Rc_G7 r2
        obtain ⟨fo2, hob2⟩ := Rc_o r2
        have x2' : xgI w2 E.1 6 12 = some (nI (rAll S j i).1) := x2
        have e4 : (nI (rAll S j i).1 = 4) ↔ (rAll S j i).1 = 4 := nI_eq (b := 4) (by omega) (by decide)
        simp only [j7, hob, Option.bind_some, e1, xrI_e, e2, x2', e4, i8, hob2]
        by_cases h4 : (rAll S j i).1 = 4
        · simp only [if_pos h4]
          rw [h4] at r2
          have hw2 : wf (uA (rAll S j i).2.2.2 4) := a4
          have r2' : Rc E (uA (rAll S j i).2.2.2 4) (sGo G 13 ((rAll S j i).2.1, (rAll S j i).2.2.1)) w2 := r2
          obtain ⟨b1, b2, b3, b4, b5, b6⟩ := rAll_ok hw2 hl hi
          obtain ⟨w3, e3, r3, g3⟩ := c_rall r2' hw2 hl hi (o := 16) (Or.inr rfl)
          obtain ⟨w4, e4', k4, r4⟩ := Rc_uA r3 (nI (rAll (uA (rAll S j i).2.2.2 4) l i).1)
          obtain ⟨_, _, x4⟩ := Rc_G7 r4
          obtain ⟨fo4, hob4⟩ := Rc_o r4
          have x4' : xgI w4 E.1 6 12 = some (nI (rAll (uA (rAll S j i).2.2.2 4) l i).1) := x4
          have f4 : (nI (rAll (uA (rAll S j i).2.2.2 4) l i).1 = 4) ↔ (rAll (uA (rAll S j i).2.2.2 4) l i).1 = 4 := nI_eq (b := 4) (by omega) (by decide)
          have gg : gr 50 w w4 := gr_tr (gr_tr (gr_tr g1 (kp_gr k2) (Nat.le_refl _)) g3 (Nat.le_refl _)) (kp_gr k4) (by decide)
          simp only [e3, Option.bind_some, xrI_e, e4', x4', f4, hob4]
          by_cases h5 : (rAll (uA (rAll S j i).2.2.2 4) l i).1 = 4
          · simp only [if_pos h5]
            rw [h5] at r4
            have r4' : Rc E (uA (rAll (uA (rAll S j i).2.2.2 4) l i).2.2.2 4) (((rAll S j i).2.1, (rAll S j i).2.2.1), ((rAll (uA (rAll S j i).2.2.2 4) l i).2.1, (rAll (uA (rAll S j i).2.2.2 4) l i).2.2.1), G.2.2) w4 := r4
            obtain ⟨p, q, p1, p2, p3, p4⟩ := Rc_pq r4'
            obtain ⟨w5, e5, k5, r5⟩ := k_clear r4' p2 p4
            obtain ⟨P', w6, m1, m2, m3, m4⟩ := c_cout_l a3 b3 hi (fun q hq => ⟨(a6 q hq).2, tok_11 (a6 q hq).1 (a6 q hq).2 hi⟩) (fun q hq => ⟨(b6 q hq).2, tok_11 (b6 q hq).1 (b6 q hq).2 hi⟩) (rAll S j i).2.1 0 w5 P00 (by omega) r5 (by decide)
            have hF : mtT i (rAll S j i).2.1 (rAll (uA (rAll S j i).2.2.2 4) l i).2.1 (rAll S j i).2.2.1 (rAll (uA (rAll S j i).2.2.2 4) l i).2.2.1 (0 * (rAll (uA (rAll S j i).2.2.2 4) l i).2.1) P00 = mtP i (rAll S j i).2.1 (rAll (uA (rAll S j i).2.2.2 4) l i).2.1 (rAll S j i).2.2.1 (rAll (uA (rAll S j i).2.2.2 4) l i).2.2.1 := by
              unfold mtT
              rw [Nat.zero_mul, Nat.sub_zero]
              rfl
            rw [hF] at m1 m3
            rw [nI_0] at m1
            have de : xev 85 0 [some (xA (some (E.1))), none, none] [] w4 = some (some (xI (if 24 < (mtP i (rAll S j i).2.1 (rAll (uA (rAll S j i).2.2.2 4) l i).2.1 (rAll S j i).2.2.1 (rAll (uA (rAll S j i).2.2.2 4) l i).2.2.1).1 then 0 else 1)), w6) := by
              rw [e_X7_draftEqualOnes_0, b_X7_draftEqualOnes_0]
              simp only [p2, Option.bind_some, Q_o p4, e5, xrV_e]
              exact m1
            have gg6 : gr 60 w w6 := gr_tr (gr_tr gg (kp_gr k5) (Nat.le_refl _)) m4 (by decide)
            obtain ⟨fo6, hob6⟩ := Rc_o m2
            simp only [de, Option.bind_some, xrI_e, if01, hob6]
            by_cases hb : 24 < (mtP i (rAll S j i).2.1 (rAll (uA (rAll S j i).2.2.2 4) l i).2.1 (rAll S j i).2.2.1 (rAll (uA (rAll S j i).2.2.2 4) l i).2.2.1).1
            · simp only [if_pos hb]
              exact ⟨_, w6, rfl, m2, gg6⟩
            · simp only [if_neg hb]
              rw [m3 hb] at m2
              obtain ⟨w7, e7, z1, z2, r7⟩ := Rc_adopt m2
              simp only [e7, Option.bind_some, xrI_e]
              exact ⟨_, w7, rfl, r7, gr_tr gg6 (gr_eq z1 (by omega) : gr 0 w6 w7) (by decide)⟩
          · simp only [if_neg h5]
            exact ⟨_, w4, rfl, r4, gr_up gg (by decide)⟩
        · simp only [if_neg h4]
          exact ⟨_, w2, rfl, r2, gr_tr g1 (kp_gr k2) (by decide)⟩
      · simp only [if_pos hk]
        exact ⟨G, w, rfl, hR, gr_refl⟩
    · simp only [if_pos hd, if_pos (show ¬ inB c 10 ∨ ¬ inB d 10 from Or.inr hd)]
      exact ⟨G, w, rfl, hR, gr_refl⟩
  · simp only [if_pos hc, if_pos (show ¬ inB c 10 ∨ ¬ inB d 10 from Or.inl hc)]
    exact ⟨G, w, rfl, hR, gr_refl⟩
end PG2
