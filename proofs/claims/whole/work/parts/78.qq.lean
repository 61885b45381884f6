/-! each call of the law: class and reference answer alike -/
section QQ
variable {x0 b L : Nat} {xs : Nat → Int32} {t : mS} {S : sS} {G : sG} {w : xW}
/-- what holds behind a call -/
def aft (x0 b L : Nat) (xs : Nat → Int32) (t : mS) (w w1 : xW) (t' : mS) : Prop := ∃ S' G', Rc (x0, b, L, xs, t) S' G' w1 ∧ Rm S' t' ∧ wf S' ∧ gr 60 w w1
theorem q_open (hR : Rc (x0, b, L, xs, t) S G w) (hm : Rm S t) (hw : wf S) (a1 : Int32) (a2 : Int32) (a3 : Int32) : ∃ (r : Int32) (w1 : xW) (t' : mS), xev 40 0 [some (xA (some (x0))), some (xI (a1)), some (xI (a2)), some (xI (a3))] [] w = some (some (xI r), w1) ∧ xev 102 0 [some (xA (some (x0 + 22))), some (xI (a1)), some (xI (a2)), some (xI (a3)), none] [] w1 = some (some (xI r), mW (x0 + 22) t' w1) ∧ aft x0 b L xs t w w1 t' := by
  obtain ⟨i1, w1, e1, r1, f1, g1⟩ := c_copen hR hw a1 a2 a3
  obtain ⟨t', e2, m2⟩ := m_open (m0 := x0 + 22) (u := w1) (c := a1) (what := a2) (n := a3) hm hw f1
  rw [Rc_w r1] at e2
  exact ⟨_, w1, t', e1, e2, _, G, r1, m2, wf_open hw f1, gr_up g1 (by decide)⟩
theorem q_hang (hR : Rc (x0, b, L, xs, t) S G w) (hm : Rm S t) (hw : wf S) (a1 : Int32) (a2 : Int32) (a3 : Int32) : ∃ (r : Int32) (w1 : xW) (t' : mS), xev 41 0 [some (xA (some (x0))), some (xI (a1)), some (xI (a2)), some (xI (a3)), none, none] [] w = some (some (xI r), w1) ∧ xev 104 0 [some (xA (some (x0 + 22))), some (xI (a1)), some (xI (a2)), some (xI (a3)), none, none, none] [] w1 = some (some (xI r), mW (x0 + 22) t' w1) ∧ aft x0 b L xs t w w1 t' := by
  obtain ⟨i1, w1, e1, r1, f1, g1⟩ := c_chang hR hw a1 a2 a3
  obtain ⟨t', e2, m2⟩ := m_hang (m0 := x0 + 22) (u := w1) (c := a1) (to := a2) (how := a3) hm hw f1
  rw [Rc_w r1] at e2
  exact ⟨_, w1, t', e1, e2, _, G, r1, m2, wf_hang hw f1, gr_up g1 (by decide)⟩
theorem q_same (hR : Rc (x0, b, L, xs, t) S G w) (hm : Rm S t) (hw : wf S) (a1 : Int32) (a2 : Int32) : ∃ (r : Int32) (w1 : xW) (t' : mS), xev 42 0 [some (xA (some (x0))), some (xI (a1)), some (xI (a2)), none] [] w = some (some (xI r), w1) ∧ xev 105 0 [some (xA (some (x0 + 22))), some (xI (a1)), some (xI (a2))] [] w1 = some (some (xI r), mW (x0 + 22) t' w1) ∧ aft x0 b L xs t w w1 t' := by
  have e1 := c_csame hR hw a1 a2
  refine ⟨_, w, t, e1, ?_, S, G, hR, hm, hw, gr_refl⟩
  have e2 := m_same (m0 := x0 + 22) (u := w) (c := a1) (d := a2) hm hw
  rw [Rc_w hR] at e2
  rw [Rc_w hR]
  exact e2
theorem q_length (hR : Rc (x0, b, L, xs, t) S G w) (hm : Rm S t) (hw : wf S) (a1 : Int32) : ∃ (r : Int32) (w1 : xW) (t' : mS), xev 43 0 [some (xA (some (x0))), some (xI (a1)), none, none, none] [] w = some (some (xI r), w1) ∧ xev 107 0 [some (xA (some (x0 + 22))), some (xI (a1)), none] [] w1 = some (some (xI r), mW (x0 + 22) t' w1) ∧ aft x0 b L xs t w w1 t' := by
  obtain ⟨w1, e1, r1, g1⟩ := c_clength hR hw a1
  obtain ⟨t', e2, m2⟩ := m_length (m0 := x0 + 22) (u := w1) (c := a1) hm hw
  rw [Rc_w r1] at e2
  exact ⟨_, w1, t', e1, e2, _, G, r1, m2, wf_len hw, gr_up g1 (by decide)⟩
theorem q_read (hR : Rc (x0, b, L, xs, t) S G w) (hm : Rm S t) (hw : wf S) (a1 : Int32) (a2 : Int32) (a3 : Int32) : ∃ (r : Int32) (w1 : xW) (t' : mS), xev 44 0 [some (xA (some (x0))), some (xI (a1)), some (xI (a2)), some (xI (a3))] [] w = some (some (xI r), w1) ∧ xev 109 0 [some (xA (some (x0 + 22))), some (xI (a1)), some (xI (a2)), some (xI (a3))] [] w1 = some (some (xI r), mW (x0 + 22) t' w1) ∧ aft x0 b L xs t w w1 t' := by
  obtain ⟨w1, e1, r1, g1⟩ := c_cRead hR hw a1 a2 a3
  obtain ⟨t', e2, m2⟩ := m_read (m0 := x0 + 22) (u := w1) (c := a1) (cell := a2) (k := a3) hm hw
  rw [Rc_w r1] at e2
  exact ⟨_, w1, t', e1, e2, _, G, r1, m2, wf_read hw, gr_up g1 (by decide)⟩
theorem q_glass (hR : Rc (x0, b, L, xs, t) S G w) (hm : Rm S t) (hw : wf S)  : ∃ (r : Int64) (w1 : xW) (t' : mS), xev 45 0 [some (xA (some (x0)))] [] w = some (some (xJ r), w1) ∧ xev 110 0 [some (xA (some (x0 + 22)))] [] w1 = some (some (xJ r), mW (x0 + 22) t' w1) ∧ aft x0 b L xs t w w1 t' := by
  have e1 := c_cglass hR hw
  refine ⟨_, w, t, e1, ?_, S, G, hR, hm, hw, gr_refl⟩
  have e2 := m_glass (m0 := x0 + 22) (u := w)  hm
  rw [Rc_w hR] at e2
  rw [Rc_w hR]
  exact e2
theorem q_write (hR : Rc (x0, b, L, xs, t) S G w) (hm : Rm S t) (hw : wf S) (a1 : Int32) (a2 : Int32) (a3 : Int32) (a4 : Int64) : ∃ (r : Int32) (w1 : xW) (t' : mS), xev 46 0 [some (xA (some (x0))), some (xI (a1)), some (xI (a2)), some (xI (a3)), some (xJ (a4)), none] [] w = some (some (xI r), w1) ∧ xev 112 0 [some (xA (some (x0 + 22))), some (xI (a1)), some (xI (a2)), some (xI (a3)), some (xJ (a4)), none] [] w1 = some (some (xI r), mW (x0 + 22) t' w1) ∧ aft x0 b L xs t w w1 t' := by
  obtain ⟨w1, e1, r1, g1⟩ := c_cWrite hR hw a1 a2 a3 a4
  obtain ⟨t', e2, m2⟩ := m_write (m0 := x0 + 22) (u := w1) (c := a1) (cell := a2) (k := a3) (v := a4) hm hw
  rw [Rc_w r1] at e2
  exact ⟨_, w1, t', e1, e2, _, G, r1, m2, wf_write hw, gr_up g1 (by decide)⟩
theorem q_take (hR : Rc (x0, b, L, xs, t) S G w) (hm : Rm S t) (hw : wf S) (a1 : Int32) (a2 : Int32) : ∃ (r : Int32) (w1 : xW) (t' : mS), xev 47 0 [some (xA (some (x0))), some (xI (a1)), some (xI (a2))] [] w = some (some (xI r), w1) ∧ xev 118 0 [some (xA (some (x0 + 22))), some (xI (a1)), some (xI (a2))] [] w1 = some (some (xI r), mW (x0 + 22) t' w1) ∧ aft x0 b L xs t w w1 t' := by
  obtain ⟨w1, e1, r1, g1⟩ := c_cTake hR hw a1 a2
  obtain ⟨t', e2, m2⟩ := m_take (m0 := x0 + 22) (u := w1) (c := a1) (cell := a2) hm hw
  rw [Rc_w r1] at e2
  exact ⟨_, w1, t', e1, e2, _, G, r1, m2, wf_take hw, gr_up g1 (by decide)⟩
theorem q_lay (hR : Rc (x0, b, L, xs, t) S G w) (hm : Rm S t) (hw : wf S) (a1 : Int32) (a2 : Int32) : ∃ (r : Int32) (w1 : xW) (t' : mS), xev 48 0 [some (xA (some (x0))), some (xI (a1)), some (xI (a2))] [] w = some (some (xI r), w1) ∧ xev 119 0 [some (xA (some (x0 + 22))), some (xI (a1)), some (xI (a2))] [] w1 = some (some (xI r), mW (x0 + 22) t' w1) ∧ aft x0 b L xs t w w1 t' := by
  obtain ⟨w1, e1, r1, g1⟩ := c_cLay hR hw a1 a2
  obtain ⟨t', e2, m2⟩ := m_lay (m0 := x0 + 22) (u := w1) (c := a1) (cell := a2) hm hw
  rw [Rc_w r1] at e2
  exact ⟨_, w1, t', e1, e2, _, G, r1, m2, wf_lay hw, gr_up g1 (by decide)⟩
theorem q_hand (hR : Rc (x0, b, L, xs, t) S G w) (hm : Rm S t) (hw : wf S) (a1 : Int32) (a2 : Int64) : ∃ (r : Int32) (w1 : xW) (t' : mS), xev 49 0 [some (xA (some (x0))), some (xI (a1)), some (xJ (a2)), none, none] [] w = some (some (xI r), w1) ∧ xev 120 0 [some (xA (some (x0 + 22))), some (xI (a1)), some (xJ (a2)), none] [] w1 = some (some (xI r), mW (x0 + 22) t' w1) ∧ aft x0 b L xs t w w1 t' := by
  obtain ⟨w1, e1, r1, g1⟩ := c_chand hR hw a1 a2
  obtain ⟨t', e2, m2⟩ := m_hand (m0 := x0 + 22) (u := w1) (what := a1) (v := a2) hm hw
  rw [Rc_w r1] at e2
  exact ⟨_, w1, t', e1, e2, _, G, r1, m2, wf_hand hw, gr_up g1 (by decide)⟩
theorem q_inHand (hR : Rc (x0, b, L, xs, t) S G w) (hm : Rm S t) (hw : wf S) (a1 : Int32) : ∃ (r : Int64) (w1 : xW) (t' : mS), xev 50 0 [some (xA (some (x0))), some (xI (a1))] [] w = some (some (xJ r), w1) ∧ xev 122 0 [some (xA (some (x0 + 22))), some (xI (a1))] [] w1 = some (some (xJ r), mW (x0 + 22) t' w1) ∧ aft x0 b L xs t w w1 t' := by
  have e1 := c_cinHand hR hw a1
  refine ⟨_, w, t, e1, ?_, S, G, hR, hm, hw, gr_refl⟩
  have e2 := m_inHand (m0 := x0 + 22) (u := w) (what := a1) hm hw
  rw [Rc_w hR] at e2
  rw [Rc_w hR]
  exact e2
theorem q_chip (hR : Rc (x0, b, L, xs, t) S G w) (hm : Rm S t) (hw : wf S) (a1 : Int32) : ∃ (r : Int32) (w1 : xW) (t' : mS), xev 51 0 [some (xA (some (x0))), some (xI (a1)), none] [] w = some (some (xI r), w1) ∧ xev 123 0 [some (xA (some (x0 + 22))), some (xI (a1))] [] w1 = some (some (xI r), mW (x0 + 22) t' w1) ∧ aft x0 b L xs t w w1 t' := by
  obtain ⟨w1, e1, r1, g1⟩ := c_cchip hR hw a1
  obtain ⟨t', e2, m2⟩ := m_chip (m0 := x0 + 22) (u := w1) (n := a1) hm hw
  rw [Rc_w r1] at e2
  exact ⟨_, w1, t', e1, e2, _, G, r1, m2, wf_chip hw, gr_up g1 (by decide)⟩
theorem q_cut (hR : Rc (x0, b, L, xs, t) S G w) (hm : Rm S t) (hw : wf S) (a1 : Int32) (a2 : Int32) (a3 : Int32) : ∃ (r : Int32) (w1 : xW) (t' : mS), xev 52 0 [some (xA (some (x0))), some (xI (a1)), some (xI (a2)), some (xI (a3)), none, none, none] [] w = some (some (xI r), w1) ∧ xev 124 0 [some (xA (some (x0 + 22))), some (xI (a1)), some (xI (a2)), some (xI (a3)), none, none, none, none, none] [] w1 = some (some (xI r), mW (x0 + 22) t' w1) ∧ aft x0 b L xs t w w1 t' := by
  obtain ⟨i1, i2, w1, e1, r1, f1, g1⟩ := c_ccut hR hw a1 a2 a3
  obtain ⟨t', e2, m2⟩ := m_cut (m0 := x0 + 22) (u := w1) (c := a1) (a := a2) (m := a3) hm hw f1.1 f1.2.1 f1.2.2
  rw [Rc_w r1] at e2
  exact ⟨_, w1, t', e1, e2, _, G, r1, m2, wf_cut hw f1, gr_up g1 (by decide)⟩
theorem q_paste (hR : Rc (x0, b, L, xs, t) S G w) (hm : Rm S t) (hw : wf S) (a1 : Int32) (a2 : Int32) : ∃ (r : Int32) (w1 : xW) (t' : mS), xev 53 0 [some (xA (some (x0))), some (xI (a1)), some (xI (a2)), none, none, none, none] [] w = some (some (xI r), w1) ∧ xev 127 0 [some (xA (some (x0 + 22))), some (xI (a1)), some (xI (a2)), none, none, none, none] [] w1 = some (some (xI r), mW (x0 + 22) t' w1) ∧ aft x0 b L xs t w w1 t' := by
  obtain ⟨i1, w1, e1, r1, f1, g1⟩ := c_cpaste hR hw a1 a2
  obtain ⟨t', e2, m2⟩ := m_paste (m0 := x0 + 22) (u := w1) (c := a1) (p := a2) hm hw f1
  rw [Rc_w r1] at e2
  exact ⟨_, w1, t', e1, e2, _, G, r1, m2, wf_paste hw f1, gr_up g1 (by decide)⟩
theorem q_turn (hR : Rc (x0, b, L, xs, t) S G w) (hm : Rm S t) (hw : wf S) (a1 : Int32) (a2 : Int32) : ∃ (r : Int32) (w1 : xW) (t' : mS), xev 54 0 [some (xA (some (x0))), some (xI (a1)), some (xI (a2)), none, none, none, none] [] w = some (some (xI r), w1) ∧ xev 128 0 [some (xA (some (x0 + 22))), some (xI (a1)), some (xI (a2)), none, none, none, none] [] w1 = some (some (xI r), mW (x0 + 22) t' w1) ∧ aft x0 b L xs t w w1 t' := by
  obtain ⟨i1, w1, e1, r1, f1, g1⟩ := c_cturn hR hw a1 a2
  obtain ⟨t', e2, m2⟩ := m_turn (m0 := x0 + 22) (u := w1) (c := a1) (k := a2) hm hw f1
  rw [Rc_w r1] at e2
  exact ⟨_, w1, t', e1, e2, _, G, r1, m2, wf_turn hw f1, gr_up g1 (by decide)⟩
theorem q_fits (hR : Rc (x0, b, L, xs, t) S G w) (hm : Rm S t) (hw : wf S) (a1 : Int32) : ∃ (r : Int32) (w1 : xW) (t' : mS), xev 55 0 [some (xA (some (x0))), some (xI (a1)), none, none] [] w = some (some (xI r), w1) ∧ xev 129 0 [some (xA (some (x0 + 22))), some (xI (a1)), none, none] [] w1 = some (some (xI r), mW (x0 + 22) t' w1) ∧ aft x0 b L xs t w w1 t' := by
  have e1 := c_cfits hR hw a1
  refine ⟨_, w, t, e1, ?_, S, G, hR, hm, hw, gr_refl⟩
  have e2 := m_fits (m0 := x0 + 22) (u := w) (c := a1) hm hw
  rw [Rc_w hR] at e2
  rw [Rc_w hR]
  exact e2
theorem q_pour (hR : Rc (x0, b, L, xs, t) S G w) (hm : Rm S t) (hw : wf S) (a1 : Int32) (a2 : Int32) (a3 : Int32) (a4 : Int32) (a5 : Int32) : ∃ (r : Int32) (w1 : xW) (t' : mS), xev 56 0 [some (xA (some (x0))), some (xI (a1)), some (xI (a2)), some (xI (a3)), some (xI (a4)), some (xI (a5)), none] [] w = some (some (xI r), w1) ∧ xev 131 0 [some (xA (some (x0 + 22))), some (xI (a1)), some (xI (a2)), some (xI (a3)), some (xI (a4)), some (xI (a5)), none, none] [] w1 = some (some (xI r), mW (x0 + 22) t' w1) ∧ aft x0 b L xs t w w1 t' := by
  obtain ⟨w1, e1, r1, g1⟩ := c_cpour hR hw a1 a2 a3 a4 a5
  obtain ⟨t', e2, m2⟩ := m_pour (m0 := x0 + 22) (u := w1) (c := a1) (cell := a2) (to := a3) (place := a4) (k := a5) hm hw
  rw [Rc_w r1] at e2
  exact ⟨_, w1, t', e1, e2, _, G, r1, m2, wf_pour hw, gr_up g1 (by decide)⟩
theorem q_sum (hR : Rc (x0, b, L, xs, t) S G w) (hm : Rm S t) (hw : wf S) (a1 : Int32) (a2 : Int32) : ∃ (r : Int32) (w1 : xW) (t' : mS), xev 57 0 [some (xA (some (x0))), some (xI (a1)), some (xI (a2))] [] w = some (some (xI r), w1) ∧ xev 133 0 [some (xA (some (x0 + 22))), some (xI (a1)), some (xI (a2)), none, none, none, none, none, none] [] w1 = some (some (xI r), mW (x0 + 22) t' w1) ∧ aft x0 b L xs t w w1 t' := by
  obtain ⟨G1, w1, e1, r1, g1⟩ := c_csum hR hw a1 a2
  obtain ⟨t', e2, m2⟩ := m_sum (m0 := x0 + 22) (u := w1) (c := a1) (k := a2) hm hw
  rw [Rc_w r1] at e2
  exact ⟨_, w1, t', e1, e2, _, G1, r1, m2, wf_sum hw, gr_up g1 (by decide)⟩
theorem q_where (hR : Rc (x0, b, L, xs, t) S G w) (hm : Rm S t) (hw : wf S) (a1 : Int32) (a2 : Int32) (a3 : Int32) (a4 : Int64) : ∃ (r : Int32) (w1 : xW) (t' : mS), xev 58 0 [some (xA (some (x0))), some (xI (a1)), some (xI (a2)), some (xI (a3)), some (xJ (a4)), none, none, none] [] w = some (some (xI r), w1) ∧ xev 135 0 [some (xA (some (x0 + 22))), some (xI (a1)), some (xI (a2)), some (xI (a3)), some (xJ (a4)), none, none] [] w1 = some (some (xI r), mW (x0 + 22) t' w1) ∧ aft x0 b L xs t w w1 t' := by
  obtain ⟨G1, w1, e1, r1, g1⟩ := c_cwhere hR hw a1 a2 a3 a4
  obtain ⟨t', e2, m2⟩ := m_where (m0 := x0 + 22) (u := w1) (c := a1) (k := a2) (how := a3) (v := a4) hm hw
  rw [Rc_w r1] at e2
  exact ⟨_, w1, t', e1, e2, _, G1, r1, m2, wf_where hw, gr_up g1 (by decide)⟩
theorem q_meet (hR : Rc (x0, b, L, xs, t) S G w) (hm : Rm S t) (hw : wf S) (a1 : Int32) (a2 : Int32) (a3 : Int32) : ∃ (r : Int32) (w1 : xW) (t' : mS), xev 59 0 [some (xA (some (x0))), some (xI (a1)), some (xI (a2)), some (xI (a3))] [] w = some (some (xI r), w1) ∧ xev 137 0 [some (xA (some (x0 + 22))), some (xI (a1)), some (xI (a2)), some (xI (a3)), none, none, none] [] w1 = some (some (xI r), mW (x0 + 22) t' w1) ∧ aft x0 b L xs t w w1 t' := by
  obtain ⟨G1, w1, e1, r1, g1⟩ := c_cmeet hR hw a1 a2 a3
  obtain ⟨t', e2, m2⟩ := m_meet (m0 := x0 + 22) (u := w1) (c := a1) (d := a2) (k := a3) hm hw
  rw [Rc_w r1] at e2
  exact ⟨_, w1, t', e1, e2, _, G1, r1, m2, wf_meet hw, gr_up g1 (by decide)⟩
theorem q_pair (hR : Rc (x0, b, L, xs, t) S G w) (hm : Rm S t) (hw : wf S) (a1 : Int32) (a2 : Int32) : ∃ (r : Int32) (w1 : xW) (t' : mS), xev 60 0 [some (xA (some (x0))), some (xI (a1)), some (xI (a2))] [] w = some (some (xI r), w1) ∧ xev 138 0 [some (xA (some (x0 + 22))), some (xI (a1)), some (xI (a2))] [] w1 = some (some (xI r), mW (x0 + 22) t' w1) ∧ aft x0 b L xs t w w1 t' := by
  have e1 := c_cpair hR hw a1 a2
  refine ⟨_, w, t, e1, ?_, S, G, hR, hm, hw, gr_refl⟩
  have e2 := m_pair (m0 := x0 + 22) (u := w) (i := a1) (what := a2) hm hw
  rw [Rc_w hR] at e2
  rw [Rc_w hR]
  exact e2
theorem q_gather (hR : Rc (x0, b, L, xs, t) S G w) (hm : Rm S t) (hw : wf S) (a1 : Int32) (a2 : Int32) (a3 : Int32) : ∃ (r : Int32) (w1 : xW) (t' : mS), xev 61 0 [some (xA (some (x0))), some (xI (a1)), some (xI (a2)), some (xI (a3)), none, none, none, none, none] [] w = some (some (xI r), w1) ∧ xev 139 0 [some (xA (some (x0 + 22))), some (xI (a1)), some (xI (a2)), some (xI (a3)), none, none, none] [] w1 = some (some (xI r), mW (x0 + 22) t' w1) ∧ aft x0 b L xs t w w1 t' := by
  obtain ⟨i1, w1, e1, r1, f1, g1⟩ := c_cgather hR hw a1 a2 a3
  obtain ⟨t', e2, m2⟩ := m_gather (m0 := x0 + 22) (u := w1) (c := a1) (side := a2) (to := a3) hm hw f1
  rw [Rc_w r1] at e2
  exact ⟨_, w1, t', e1, e2, _, G, r1, m2, wf_gath hw f1, gr_up g1 (by decide)⟩
theorem q_image (hR : Rc (x0, b, L, xs, t) S G w) (hm : Rm S t) (hw : wf S) (a1 : Int32) : ∃ (r : Int32) (w1 : xW) (t' : mS), xev 62 0 [some (xA (some (x0))), some (xI (a1))] [] w = some (some (xI r), w1) ∧ xev 141 0 [some (xA (some (x0 + 22))), some (xI (a1)), none, none, none, none] [] w1 = some (some (xI r), mW (x0 + 22) t' w1) ∧ aft x0 b L xs t w w1 t' := by
  obtain ⟨i1, w1, e1, r1, f1, g1⟩ := c_cimage hR hw a1
  obtain ⟨t', e2, m2⟩ := m_image (m0 := x0 + 22) (u := w1) (k := a1) hm hw f1
  rw [Rc_w r1] at e2
  exact ⟨_, w1, t', e1, e2, _, G, r1, m2, wf_image hw f1, gr_up g1 (by decide)⟩
theorem q_restore (hR : Rc (x0, b, L, xs, t) S G w) (hm : Rm S t) (hw : wf S) (a1 : Int32) : ∃ (r : Int32) (w1 : xW) (t' : mS), xev 63 0 [some (xA (some (x0))), some (xI (a1)), none] [] w = some (some (xI r), w1) ∧ xev 142 0 [some (xA (some (x0 + 22))), some (xI (a1)), none, none, none, none] [] w1 = some (some (xI r), mW (x0 + 22) t' w1) ∧ aft x0 b L xs t w w1 t' := by
  obtain ⟨i1, w1, e1, r1, f1, g1⟩ := c_crestore hR hw a1
  obtain ⟨t', e2, m2, w2⟩ := m_restore (m0 := x0 + 22) (u := w1) (k := a1) hm hw f1
  rw [Rc_w r1] at e2
  exact ⟨_, w1, t', e1, e2, _, G, r1, m2, w2, gr_up g1 (by decide)⟩
theorem q_met (hR : Rc (x0, b, L, xs, t) S G w) (hm : Rm S t) (hw : wf S) (a1 : Int32) (a2 : Int32) : ∃ (r : Int32) (w1 : xW) (t' : mS), xev 64 0 [some (xA (some (x0))), some (xI (a1)), some (xI (a2))] [] w = some (some (xI r), w1) ∧ xev 143 0 [some (xA (some (x0 + 22))), some (xI (a1)), some (xI (a2))] [] w1 = some (some (xI r), mW (x0 + 22) t' w1) ∧ aft x0 b L xs t w w1 t' := by
  have e1 := c_cmet hR a1 a2
  refine ⟨_, w, t, e1, ?_, S, G, hR, hm, hw, gr_refl⟩
  have e2 := m_met (m0 := x0 + 22) (u := w) (a := a1) (b := a2) hm
  rw [Rc_w hR] at e2
  rw [Rc_w hR]
  exact e2
theorem q_count (hR : Rc (x0, b, L, xs, t) S G w) (hm : Rm S t) (hw : wf S) (a1 : Int32) : ∃ (r : Int32) (w1 : xW) (t' : mS), xev 65 0 [some (xA (some (x0))), some (xI (a1))] [] w = some (some (xI r), w1) ∧ xev 146 0 [some (xA (some (x0 + 22))), some (xI (a1))] [] w1 = some (some (xI r), mW (x0 + 22) t' w1) ∧ aft x0 b L xs t w w1 t' := by
  have e1 := c_ccount hR hw a1
  refine ⟨_, w, t, e1, ?_, S, G, hR, hm, hw, gr_refl⟩
  have e2 := m_count (m0 := x0 + 22) (u := w) (what := a1) hm hw
  rw [Rc_w hR] at e2
  rw [Rc_w hR]
  exact e2
end QQ
