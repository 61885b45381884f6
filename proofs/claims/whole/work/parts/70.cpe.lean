/-! calls of the class: gather, pairs, counts -/
section PE
variable {E : sE} {S : sS} {G : sG} {w w' : xW}
theorem sd_24 {side : Int32} {i : Nat} (hw : wf S) (hi : i < (qP S).1) : sdX (qP S) side i < 24 := by
  have := hw.2.2.2.2.1.2 i hi
  unfold sdX
  split
  · exact this.1
  · exact this.2
theorem c_gather_l {w0 : xW} {b d r1 g : Nat} {side : Int32} {x : sR} (hR : Rc E S G w0) (hw : wf S) (hx : qR S b = some x) (hk : rok (qN S) x) (hd : d < 10) (h1 : w0.1 = r1) (hg : xgA w0 E.1 6 0 = some (some g)) : ∀ n i w, i + n = (qP S).1 → kp w0.1 (3 + i) w0 w → oR w r1 (x.1, (qP S).1, fun q => if q < i then x.2.2 (sdX (qP S) side q) else blk x.1) → (∀ q, q < i → sdX (qP S) side q < x.2.1) →
    ((∀ i, i < (qP S).1 → sdX (qP S) side i < x.2.1) ∧ ∃ w', xev 61 86 [some (xA (some (E.1))), none, some (xI (side)), some (xI (nI d)), none, some (xA (some (b))), some (xA (some (r1))), some (xI (nI i)), none] [] w = some (some (xI 0), w') ∧ Rc E (uC (uR S r1 (x.1, (qP S).1, fun i => x.2.2 (sdX (qP S) side i))) d (.inl r1)) G w' ∧ gr 30 w0 w') ∨
    (¬ (∀ i, i < (qP S).1 → sdX (qP S) side i < x.2.1) ∧ ∃ w', xev 61 86 [some (xA (some (E.1))), none, some (xI (side)), some (xI (nI d)), none, some (xA (some (b))), some (xA (some (r1))), some (xI (nI i)), none] [] w = some (some (xI 4), w') ∧ Rc E S G w' ∧ gr 30 w0 w')
  | 0, i, w, hin, kk, o1, ha => by
    have hP := hw.2.2.2.2.1.1
    have hE0 : E.1 ≠ w0.1 := by have := Rc_n hR; omega
    have hRw := Rc_new hR kk (Nat.le_refl _)
    obtain ⟨p, q, p1, p2, p3, p4⟩ := Rc_pq hRw
    have hi : i = (qP S).1 := by omega
    subst hi
    refine Or.inl ⟨ha, ?_⟩
    have o2 : oR w r1 (x.1, (qP S).1, fun i => x.2.2 (sdX (qP S) side i)) := oR_congr o1 rfl rfl (fun q hq => (if_pos hq).symm)
    have r2 := Rc_row hR kk (Nat.le_refl _) o2 (by omega)
    have hg2 : xgA w E.1 6 0 = some (some g) := (Rc_gk hR kk hE0).trans hg
    obtain ⟨w3, e3, r3, g3⟩ := k_put (h := .inl r1) r2 hg2 hd rfl (isH_r o2)
    rw [e_X7_gather_86, b_X7_gather_86]
    simp only [p1, Option.bind_some, Q_o p3, c_qsize p3, xrI_e, hg2]
    rw [if_neg (nI_nlt (Nat.le_refl _) (by omega))]
    exact ⟨w3, e3, r3, gr_tr (kp_gr kk) g3 (by omega)⟩
  | n + 1, i, w, hin, kk, o1, ha => by
    have hP := hw.2.2.2.2.1.1
    have h24 := hk.2.1
    have hRw := Rc_new hR kk (Nat.le_refl _)
    obtain ⟨p, q, p1, p2, p3, p4⟩ := Rc_pq hRw
    obtain ⟨hb, _, hbl⟩ := Rc_R hRw hx
    have hbl0 := (Rc_R hR hx).2.2
    have hs := sd_24 (side := side) hw (show i < (qP S).1 by omega)
    rw [e_X7_gather_86, b_X7_gather_86]
    simp only [p1, Option.bind_some, Q_o p3, c_qsize p3, xrI_e, c_qidx p3 hP (show i < (qP S).1 by omega), R_o hb, c_has hb h24]
    rw [if_pos (nI_lt (show i < (qP S).1 by omega) (by omega))]
    by_cases hc : sdX (qP S) side i < x.2.1
    · rw [if_pos (inB_of hc (by omega)), if_neg (by decide)]
      obtain ⟨c, e1, t1⟩ := c_rat hb h24 hc
      obtain ⟨w1, e2, k2, o2⟩ := c_rput (i := i) kk.2.1 o1 hP hk.1 (show i < (qP S).1 by omega) t1
      simp only [e1, Option.bind_some, xrA_e, R_o o1, e2, xrV_e, nI_1]
      refine c_gather_l hR hw hx hk hd h1 hg n (i + 1) w1 (by omega) (kp_tr kk k2 (Or.inr (by omega)) (by omega)) (oR_congr o2 rfl rfl (fun q hq => ?_)) (fun q hq => ?_)
      · show (if q < i + 1 then x.2.2 (sdX (qP S) side q) else blk x.1) = va_up (fun q => if q < i then x.2.2 (sdX (qP S) side q) else blk x.1) i (pv x.1 (x.2.2 (sdX (qP S) side i))) q
        by_cases hqi : q = i
        · subst hqi
          rw [va_e, if_pos (by omega), pv_id hk hc]
        · rw [va_n _ _ hqi]
          by_cases h3 : q < i
          · rw [if_pos h3, if_pos (by omega)]
          · rw [if_neg h3, if_neg (by omega)]
      · by_cases hqi : q = i
        · rw [hqi]; exact hc
        · exact ha q (by omega)
    · rw [if_neg (show ¬ inB (nI (sdX (qP S) side i)) x.2.1 from fun q => hc (by have := q.2; rw [nI_clamp (by omega)] at this; exact this)), if_pos rfl]
      exact Or.inr ⟨fun q => hc (q i (by omega)), w, rfl, hRw, gr_up (kp_gr kk) (by omega)⟩
theorem c_cgather (hR : Rc E S G w) (hw : wf S) (c side to : Int32) : ∃ id w', xev 61 0 [some (xA (some (E.1))), some (xI (c)), some (xI (side)), some (xI (to)), none, none, none, none, none] [] w = some (some (xI (spGath S c side to id).1), w') ∧ Rc E (spGath S c side to id).2 G w' ∧ qR S id = none ∧ gr 30 w w' := by
  have hf : qR S w.1 = none := Rc_fresh hR (Nat.le_refl _)
  have hP := hw.2.2.2.2.1.1
  refine ⟨w.1, ?_⟩
  rw [e_X7_gather_0, b_X7_gather_0]
  simp only [c_ccol, Option.bind_some, xrI_e, if10, spGath]
  by_cases hc : inB c 10
  · rw [if_neg (nn hc)]
    by_cases ht : inB to 10
    · rw [if_neg (nn ht), if_neg (or_nn hc ht)]
      obtain ⟨j, hj, rfl, hcl⟩ := inB_ex hc
      obtain ⟨d, hd, rfl, hdl⟩ := inB_ex ht
      simp only [hcl, hdl]
      obtain ⟨g, fs, a, g1, g2, g3, hh⟩ := k_at hR hw hj
      by_cases h0 : side = 0
      · subst h0
        rw [if_pos rfl, if_neg (nn (by decide))]
        simp only [g1, Option.bind_some, g2, g3, xrA_e]
        rw [if_neg (by simp)]
        rcases hh with ⟨v, hq, t, hv⟩ | ⟨x, hq, hx, hr, hk⟩
        · simp only [T_c t, Option.bind_some, c_alen_t t hv, xrI_e, hq]
          rw [if_neg (by decide), if_pos trivial]
          exact ⟨w, rfl, hR, hf, gr_refl⟩
        · have hal := (Rc_R hR hx).2.2
          have kp0 : kp w.1 1 w (xpush w 3 (.inr (3, xdf 3))) := kp_push (Rc_d hR) (by decide)
          have hrp : oR (xpush w 3 (.inr (3, xdf 3))) a x := kp_R kp0 (show a + 2 ≠ w.1 by omega) hr
          obtain ⟨p, q, p1, p2, p3, p4⟩ := Rc_pq (Rc_new hR kp0 (Nat.le_refl _))
          obtain ⟨w1, e1, k1, z1, o1⟩ := c_newRow (ty := x.1) (n := (qP S).1) (Rc_d hR) hk.1 hP
          have o2 : oR w1 w.1 (x.1, (qP S).1, fun i => if i < 0 then x.2.2 (sdX (qP S) 0 i) else blk x.1) := oR_congr o1 rfl rfl (fun i hi => by show (if i < 0 then x.2.2 (sdX (qP S) 0 i) else blk x.1) = blk x.1; rw [if_neg (Nat.not_lt_zero i)])
          have L := c_gather_l (side := 0) hR hw hx hk hd rfl g1 (qP S).1 0 w1 (by omega) k1 o2 (fun i hi => absurd hi (Nat.not_lt_zero i))
          rw [nI_0] at L
          simp only [R_n hr, R_o hr, Option.bind_some, hq, hx, R_ty hrp, p1, Q_o p3, c_qsize p3, xrI_e, e1, xrV_e]
          rw [if_pos trivial]
          rcases L with ⟨hall, w2, e2, r2, g2⟩ | ⟨hall, w2, e2, r2, g2⟩
          · rw [if_pos hall]
            exact ⟨w2, e2, r2, hf, g2⟩
          · rw [if_neg hall]
            exact ⟨w2, e2, r2, hf, g2⟩
      · rw [if_neg h0]
        by_cases h1 : side = 1
        · subst h1
          rw [if_pos rfl, if_neg (nn (by decide))]
          simp only [g1, Option.bind_some, g2, g3, xrA_e]
          rw [if_neg (by simp)]
          rcases hh with ⟨v, hq, t, hv⟩ | ⟨x, hq, hx, hr, hk⟩
          · simp only [T_c t, Option.bind_some, c_alen_t t hv, xrI_e, hq]
            rw [if_neg (by decide), if_pos trivial]
            exact ⟨w, rfl, hR, hf, gr_refl⟩
          · have hal := (Rc_R hR hx).2.2
            have kp0 : kp w.1 1 w (xpush w 3 (.inr (3, xdf 3))) := kp_push (Rc_d hR) (by decide)
            have hrp : oR (xpush w 3 (.inr (3, xdf 3))) a x := kp_R kp0 (show a + 2 ≠ w.1 by omega) hr
            obtain ⟨p, q, p1, p2, p3, p4⟩ := Rc_pq (Rc_new hR kp0 (Nat.le_refl _))
            obtain ⟨w1, e1, k1, z1, o1⟩ := c_newRow (ty := x.1) (n := (qP S).1) (Rc_d hR) hk.1 hP
            have o2 : oR w1 w.1 (x.1, (qP S).1, fun i => if i < 0 then x.2.2 (sdX (qP S) 1 i) else blk x.1) := oR_congr o1 rfl rfl (fun i hi => by show (if i < 0 then x.2.2 (sdX (qP S) 1 i) else blk x.1) = blk x.1; rw [if_neg (Nat.not_lt_zero i)])
            have L := c_gather_l (side := 1) hR hw hx hk hd rfl g1 (qP S).1 0 w1 (by omega) k1 o2 (fun i hi => absurd hi (Nat.not_lt_zero i))
            rw [nI_0] at L
            simp only [R_n hr, R_o hr, Option.bind_some, hq, hx, R_ty hrp, p1, Q_o p3, c_qsize p3, xrI_e, e1, xrV_e]
            rw [if_pos trivial]
            rcases L with ⟨hall, w2, e2, r2, g2⟩ | ⟨hall, w2, e2, r2, g2⟩
            · rw [if_pos hall]
              exact ⟨w2, e2, r2, hf, g2⟩
            · rw [if_neg hall]
              exact ⟨w2, e2, r2, hf, g2⟩
        · rw [if_neg h1, if_pos (fun q => (inB2.mp q).elim h0 h1)]
          exact ⟨w, rfl, hR, hf, gr_refl⟩
    · rw [if_pos ht, if_pos (Or.inr ht)]
      exact ⟨w, rfl, hR, hf, gr_refl⟩
  · rw [if_pos hc, if_pos (Or.inl hc)]
    exact ⟨w, rfl, hR, hf, gr_refl⟩
theorem c_cpair (hR : Rc E S G w) (hw : wf S) (i what : Int32) : xev 60 0 [some (xA (some (E.1))), some (xI (i)), some (xI (what))] [] w = some (some (xI (spPair S i what)), w) := by
  have hP := hw.2.2.2.2.1.1
  obtain ⟨p, q, p1, p2, p3, p4⟩ := Rc_pq hR
  have key : ∀ s : Int32, (if (if inB i (qP S).1 then (1 : Int32) else 0) = 0 then some (some (xI (-6 : Int32)), w) else (xev 10 0 [some (xA (some p)), some (xI i), some (xI s)] [] w).bind fun p6 => xrI p6.1 fun i8 => some (some (xI i8), p6.2)) = some (some (xI (if inB i (qP S).1 then nI (sdX (qP S) s i.toNatClampNeg) else -6)), w) := by
    intro s
    by_cases hi : inB i (qP S).1
    · rw [if_pos hi, if_neg (by decide), if_pos hi]
      obtain ⟨n, hn, rfl, hl⟩ := inB_ex hi
      rw [c_qidx p3 hP hn s, hl]
      rfl
    · rw [if_neg hi, if_pos rfl, if_neg hi]
  rw [e_X7_pair_0, b_X7_pair_0]
  simp only [p1, Option.bind_some, Q_o p3, c_qhas p3 hP, xrI_e, key, spPair]
  by_cases h0 : what = 0
  · subst h0
    rw [if_pos rfl, if_neg (nn (by decide)), if_pos rfl]
    rfl
  · rw [if_neg h0]
    by_cases h1 : what = 1
    · subst h1
      rw [if_pos rfl, if_neg (nn (by decide)), if_neg h0]
      rfl
    · rw [if_neg h1, if_pos (fun q => (inB2.mp q).elim h0 h1)]
theorem c_cmet (hR : Rc E S G w) (a b : Int32) : xev 64 0 [some (xA (some (E.1))), some (xI (a)), some (xI (b))] [] w = some (some (xI (spMet S a b)), w) := by
  obtain ⟨t1, t2, t3, t4⟩ := Rc_tal hR
  rw [e_X7_met_0, b_X7_met_0]
  unfold spMet
  by_cases h0 : a < 0
  · rw [if_pos h0, if_neg (fun q => q.1.1 h0)]
  · rw [if_neg h0]
    have la := lt_inB (x := a) (n := 19) (by decide) h0
    by_cases h1 : inB a 19
    · rw [if_pos (show a < 19 from la.mpr h1)]
      by_cases h2 : b < 0
      · rw [if_pos h2, if_neg (fun q => q.2.1 h2)]
      · rw [if_neg h2]
        have lb := lt_inB (x := b) (n := 6) (by decide) h2
        by_cases h3 : inB b 6
        · rw [if_pos (show b < 6 from lb.mpr h3), if_pos ⟨h1, h3⟩]
          obtain ⟨i, hi, rfl, hil⟩ := inB_ex h1
          obtain ⟨j, hj, rfl, hjl⟩ := inB_ex h3
          have e : nI i * (6 : Int32) + nI j = nI (6 * i + j) := by
            rw [show (6 : Int32) = nI 6 from rfl, pk_mul, nI_add, Nat.mul_comm]
          simp only [t1, Option.bind_some, t2, e_X5_of_0, b_X5_of_0, t4, e, xaI_of t3 (Or.inl rfl) (show 6 * i + j < 114 by omega) (by decide), xrI_e, hil, hjl]
        · rw [if_neg (fun q : b < 6 => h3 (lb.mp q)), if_neg (fun q => h3 q.2)]
    · rw [if_neg (fun q : a < 19 => h1 (la.mp q)), if_neg (fun q => h1 q.1)]
theorem c_diff_l (hR : Rc E S G w) : ∀ d i n, i + d = 114 → n ≤ i → xev 30 4 [some (xA (some (E.1 + 20))), some (xI (nI n)), some (xI (nI i))] [] w = some (some (xI (nI (n + dif (qT S) d i))), w)
  | 0, i, n, hid, hn => by
    obtain ⟨t1, t2, t3, t4⟩ := Rc_tal hR
    rw [e_X5_different_4, b_X5_different_4]
    simp only [t4, Option.bind_some, xlen_I t3]
    rw [if_neg (nI_nlt (show 114 ≤ i by omega) (by omega))]
    rfl
  | d + 1, i, n, hid, hn => by
    obtain ⟨t1, t2, t3, t4⟩ := Rc_tal hR
    rw [e_X5_different_4, b_X5_different_4]
    simp only [t4, Option.bind_some, xlen_I t3, xaI_of t3 (Or.inl rfl) (show i < 114 by omega) (by decide), nI_1]
    rw [if_pos (nI_lt (show i < 114 by omega) (by decide)), c_diff_l hR d (i + 1) (n + 1) (by omega) (by omega), c_diff_l hR d (i + 1) n (by omega) (by omega)]
    conv => rhs; unfold dif
    by_cases h0 : 0 < qT S i
    · rw [if_pos h0, if_pos h0, Nat.add_assoc]
    · rw [if_neg h0, if_neg h0, Nat.zero_add]
theorem c_ccount (hR : Rc E S G w) (hw : wf S) (what : Int32) : xev 65 0 [some (xA (some (E.1))), some (xI (what))] [] w = some (some (xI (spCount S what)), w) := by
  obtain ⟨p, q, p1, p2, p3, p4⟩ := Rc_pq hR
  obtain ⟨t1, t2, t3, t4⟩ := Rc_tal hR
  obtain ⟨h1, h2, h3⟩ := Rc_wgt hR
  obtain ⟨sh, he, s1, s2, s3, s4, s5⟩ := Rc_sh hR
  obtain ⟨_, _, hA⟩ := Rc_G7 hR
  have df := c_diff_l hR 114 0 0 rfl (Nat.le_refl _)
  rw [nI_0, Nat.zero_add] at df
  have df0 : xev 30 0 [some (xA (some (E.1 + 20))), none, none] [] w = some (some (xI (nI (dif (qT S) 114 0))), w) := by
    rw [e_X5_different_0, b_X5_different_0]
    exact df
  rw [e_X7_count_0, b_X7_count_0]
  simp only [show Int32.ofInt 0 = 0 from rfl, show Int32.ofInt 1 = 1 from rfl, show Int32.ofInt 2 = 2 from rfl, show Int32.ofInt 3 = 3 from rfl, show Int32.ofInt 4 = 4 from rfl, show Int32.ofInt 5 = 5 from rfl, hA, Option.bind_some, p1, Q_o p3, c_qsize p3, xrI_e, s5, h3, t1, t2, df0, spCount]
  by_cases c0 : what = 0
  · rw [if_pos c0, if_pos c0]
  · rw [if_neg c0, if_neg c0]
    by_cases c1 : what = 1
    · rw [if_pos c1, if_pos c1]
    · rw [if_neg c1, if_neg c1]
      by_cases c2 : what = 2
      · rw [if_pos c2, if_pos c2]
        cases hK : qK S with
        | none => rw [if_pos rfl]
        | some s =>
          obtain ⟨⟨y, hy, hky⟩, _⟩ := hw.2.2.2.1 s hK
          have hry := (Rc_R hR hy).1
          rw [if_neg (by simp)]
          simp only [Option.bind_some, R_o hry, c_size hry, xrI_e, hy]
      · rw [if_neg c2, if_neg c2]
        by_cases c3 : what = 3
        · rw [if_pos c3, if_pos c3]
          cases hK : qK S with
          | none => rw [if_pos rfl]
          | some s =>
            obtain ⟨⟨y, hy, hky⟩, _⟩ := hw.2.2.2.1 s hK
            have hry := (Rc_R hR hy).1
            rw [if_neg (by simp)]
            simp only [Option.bind_some, R_ty hry, hy]
        · rw [if_neg c3, if_neg c3]
          by_cases c4 : what = 4
          · rw [if_pos c4, if_pos c4]
          · rw [if_neg c4, if_neg c4]
            by_cases c5 : what = 5
            · rw [if_pos c5, if_pos c5]
            · rw [if_neg c5, if_neg c5]
              by_cases l10 : what < 10
              · rw [if_pos l10, if_neg (fun q => q.2 l10)]
              · rw [if_neg l10]
                have n0 : ¬ what < 0 := fun q => l10 (Int32.lt_trans q (by decide))
                obtain ⟨m, hm, rfl⟩ := nI_of n0
                have b10 : nI m < 10 ↔ m < 10 := nI_ltI (b := 10) hm (by decide)
                have b20 : nI m < 20 ↔ m < 20 := nI_ltI (b := 20) hm (by decide)
                have m10 : 10 ≤ m := by
                  have : ¬ m < 10 := fun q => l10 (b10.mpr q)
                  omega
                have e : nI m - 10 = nI (m - 10) := nI_sub (b := 10) m10
                by_cases l20 : m < 20
                · rw [if_pos (b20.mpr l20), e, if_pos ⟨inB_of (show m - 10 < 10 by omega) (by decide), l10⟩, nI_clamp (by omega)]
                  obtain ⟨g, fs, a, g1, g2, g3, hh⟩ := k_at hR hw (show m - 10 < 10 by omega)
                  simp only [g1, Option.bind_some, g2, g3, xrA_e]
                  unfold cntO
                  rcases hh with ⟨v, hq, t, hv⟩ | ⟨x, hq, hx, hr, hk⟩
                  · simp only [T_c t, Option.bind_some, hq]
                    rw [if_neg (by decide), if_pos trivial]
                    simp only [c_tcontent t, Option.bind_some, xrI_e, th_c hv]
                  · simp only [R_n hr, Option.bind_some, hq, hx]
                    rw [if_pos trivial]
                    simp only [c_rcontent hr, Option.bind_some, xrI_e]
                · rw [if_neg (fun q => l20 (b20.mp q)), e, if_neg]
                  intro q
                  have := q.1.2
                  rw [nI_clamp (by omega)] at this
                  omega
end PE
