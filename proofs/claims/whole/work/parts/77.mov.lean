/-! the notebook at first; the reference moves alone -/
def S00 : sS := (fun _ => .inr (11, 0, 0), fun _ => none, (4, 0, 0), (11, 0, 0), none, P00, fun _ => 0, 0, fun _ => 0, -6, fun _ => none)
def G00 : sG := ((0, fun _ => (0, 0, 0)), (0, fun _ => (0, 0, 0)), P00)
abbrev f10 : Nat → Int32 := fun j => if j < 10 then -1 else 0
theorem wf_00 : wf S00 := ⟨fun c _ => Or.inl rfl, ⟨4, by decide, rfl, fun q => by omega⟩, ⟨11, by decide, rfl, Or.inr (Or.inr (Or.inr (Or.inr ⟨rfl, rfl, rfl⟩)))⟩, fun r h => (by cases h), ⟨by decide, fun i hi => absurd hi (Nat.not_lt_zero i)⟩, by decide, fun k f _ h => (by cases h)⟩
theorem Rm_00 : Rm S00 (t00 f10) := by
  refine ⟨⟨fun c r _ h => (by cases h), fun c v hc h => ?_, fun c d r s _ _ h => (by cases h), fun _ => rfl, fun r h => (by cases h)⟩, ⟨rfl, rfl, rfl⟩, rfl, ⟨fun i _ => rfl, rfl⟩, ⟨fun i _ => rfl, rfl⟩, ⟨rfl, fun i hi => absurd hi (Nat.not_lt_zero i)⟩, fun k _ => ⟨fun _ => rfl, fun f h => (by cases h)⟩⟩
  cases h
  exact if_pos hc
theorem Rc_00 {w : xW} {b L : Nat} {xs : Nat → Int32} (hd : wd w) (hh : w.2.2.2 w.2.2.1 = some (aI 7 12 xhom)) (hb : w.2.2.2 b = some (aI 7 L xs)) : Rc (w.1, b, L, xs, t00 f10) S00 G00 (bW (bW w (bkL w.1) 372) (mdL (w.1 + 22) f10) 3130) := by
  have cb : ∀ k, k < 22 → (bW (bW w (bkL w.1) 372) (mdL (w.1 + 22) f10) 3130).2.2.2 (w.1 + k) = (bkL w.1)[k]? := fun k hk => (bW_old (show w.1 + k < w.1 + 22 by omega)).trans (bW_at w (bkL w.1) 372 k)
  have cm : ∀ k, (bW (bW w (bkL w.1) 372) (mdL (w.1 + 22) f10) 3130).2.2.2 (w.1 + 22 + k) = (mdL (w.1 + 22) f10)[k]? := fun k => bW_at (bW w (bkL w.1) 372) (mdL (w.1 + 22) f10) 3130 k
  have co : ∀ a e, w.2.2.2 a = some e → (bW (bW w (bkL w.1) 372) (mdL (w.1 + 22) f10) 3130).2.2.2 a = some e := fun a e he => by
    have ha := hd a e he
    exact (bW_old (show a < w.1 + 22 by omega)).trans ((bW_old ha).trans he)
  have hd2 : wd (bW (bW w (bkL w.1) 372) (mdL (w.1 + 22) f10) 3130) := bW_wd (bW_wd hd)
  have vq : ∀ (f g : Nat → Int32) i, i < (P00).1 → f i = nI ((P00).2.1 i) ∧ g i = nI ((P00).2.2 i) := fun f g i hi => absurd hi (Nat.not_lt_zero i)
  exact ⟨w.1 + 1, w.1 + 5, w.1 + 6, w.1 + 7, w.1 + 10, cb 0 (by decide), cb 5 (by decide), cb 6 (by decide), Or.inl ⟨rfl, rfl⟩, ⟨cb 7 (by decide), _, _, cb 8 (by decide), cb 9 (by decide), fun i hi => absurd hi (Nat.not_lt_zero i)⟩, ⟨cb 10 (by decide), _, _, cb 11 (by decide), cb 12 (by decide), fun i hi => absurd hi (Nat.not_lt_zero i)⟩, Or.inl rfl, ⟨cb 1 (by decide), _, cb 2 (by decide), fun c hc => ⟨w.1 + 3, if_pos hc, cb 3 (by decide)⟩⟩, ⟨_, cb 4 (by decide), fun k _ => ⟨fun _ => rfl, fun C h => (by cases h)⟩⟩, fun r x h => (by cases h), ⟨cb 19 (by decide), cb 20 (by decide), cb 21 (by decide), ⟨cb 13 (by decide), cb 15 (by decide), _, cb 14 (by decide), fun i hi => absurd hi (Nat.not_lt_zero i)⟩, ⟨cb 16 (by decide), cb 18 (by decide), _, cb 17 (by decide), fun i hi => absurd hi (Nat.not_lt_zero i)⟩⟩, ⟨fun k hk => (cm k).trans (mdL_at _ _ hk), hd2, Nat.le_refl _, co _ _ hh, co _ _ hb⟩⟩
section MV
variable {x0 b L : Nat} {xs : Nat → Int32} {t t' : mS} {S : sS} {G : sG} {w : xW}
theorem mce_so {m0 k : Nat} {e : xE} (hk : k < 22) (h : mce m0 t k = some e) : so e = 7 ∨ so e = 10 ∨ so e = 11 ∨ so e = 12 ∨ so e = 13 := match k, hk with

  | 0, _ => by cases h; exact Or.inl rfl
  | 1, _ => by cases h; exact Or.inr (Or.inl rfl)
  | 2, _ => by cases h; exact Or.inr (Or.inl rfl)
  | 3, _ => by cases h; exact Or.inr (Or.inl rfl)
  | 4, _ => by cases h; exact Or.inr (Or.inr (Or.inl rfl))
  | 5, _ => by cases h; exact Or.inr (Or.inr (Or.inr (Or.inl rfl)))
  | 6, _ => by cases h; exact Or.inr (Or.inl rfl)
  | 7, _ => by cases h; exact Or.inr (Or.inl rfl)
  | 8, _ => by cases h; exact Or.inr (Or.inr (Or.inr (Or.inr rfl)))
  | 9, _ => by cases h; exact Or.inr (Or.inl rfl)
  | 10, _ => by cases h; exact Or.inr (Or.inl rfl)
  | 11, _ => by cases h; exact Or.inr (Or.inl rfl)
  | 12, _ => by cases h; exact Or.inr (Or.inr (Or.inl rfl))
  | 13, _ => by cases h; exact Or.inr (Or.inr (Or.inr (Or.inl rfl)))
  | 14, _ => by cases h; exact Or.inr (Or.inr (Or.inr (Or.inr rfl)))
  | 15, _ => by cases h; exact Or.inr (Or.inl rfl)
  | 16, _ => by cases h; exact Or.inr (Or.inl rfl)
  | 17, _ => by cases h; exact Or.inr (Or.inl rfl)
  | 18, _ => by cases h; exact Or.inr (Or.inl rfl)
  | 19, _ => by cases h; exact Or.inr (Or.inl rfl)
  | 20, _ => by cases h; exact Or.inr (Or.inr (Or.inl rfl))
  | 21, _ => by cases h; exact Or.inr (Or.inr (Or.inr (Or.inl rfl)))
  | n + 22, h => absurd h (by omega)
/-- the world holds the reference -/
theorem Rc_w (hR : Rc (x0, b, L, xs, t) S G w) : mW (x0 + 22) t w = w := by
  obtain ⟨g, sh, he, p, q, h1, h2, h3, h4, h5, h6, h7, h8, h9, h10, h11, h12⟩ := hR
  have hc := h12.1
  obtain ⟨n, s, h, f⟩ := w
  show (n, s, h, fun a => if x0 + 22 ≤ a ∧ a < x0 + 22 + 22 then mce (x0 + 22) t (a - (x0 + 22)) else f a) = (n, s, h, f)
  refine congrArg (fun g => (n, s, h, g)) (funext fun a => ?_)
  by_cases ha : x0 + 22 ≤ a ∧ a < x0 + 22 + 22
  · rw [if_pos ha]
    have := hc (a - (x0 + 22)) (by omega)
    rw [← this]
    show f (x0 + 22 + (a - (x0 + 22))) = f a
    rw [show x0 + 22 + (a - (x0 + 22)) = a by omega]
  · rw [if_neg ha]
theorem Rc_mod (hR : Rc (x0, b, L, xs, t) S G w) : Rc (x0, b, L, xs, t') S G (mW (x0 + 22) t' w) := by
  have hd := Rc_d hR
  have hn : x0 + 44 ≤ w.1 := Rc_n hR
  obtain ⟨_, _, _, _, _, _, _, _, _, _, _, _, _, _, _, _, hE⟩ := id hR
  have hc : ∀ k, k < 22 → w.2.2.2 (x0 + 22 + k) = mce (x0 + 22) t k := hE.1
  have hs : ∀ a, (x0 + 22 ≤ a ∧ a < x0 + 44) → ∀ e, w.2.2.2 a = some e → so e = 7 ∨ so e = 10 ∨ so e = 11 ∨ so e = 12 ∨ so e = 13 := fun a ha e he => by
    have := hc (a - (x0 + 22)) (by omega)
    rw [show x0 + 22 + (a - (x0 + 22)) = a by omega, he] at this
    exact mce_so (show a - (x0 + 22) < 22 by omega) this.symm
  have hd2 : wd (mW (x0 + 22) t' w) := fun a e he => by
    show a < w.1
    by_cases ha : x0 + 22 ≤ a ∧ a < x0 + 22 + 22
    · omega
    · have : (mW (x0 + 22) t' w).2.2.2 a = w.2.2.2 a := mW_out (by omega)
      rw [this] at he
      exact hd a e he
  have k : kpc (fun a => x0 + 22 ≤ a ∧ a < x0 + 44) 0 w (mW (x0 + 22) t' w) := ⟨hd, hd2, Nat.le_refl _, Nat.le_refl _, Nat.le_refl _, rfl, fun a ha e he => (mW_out (by omega)).trans he, fun a ha e he => by have := hs a ha e he; omega⟩
  have pn : ∀ h C, oP w h C → ¬ (x0 + 22 ≤ h + 1 ∧ h + 1 < x0 + 44) := fun h C hp ha => by
    obtain ⟨_, f, c3, _⟩ := hp
    have q := hs _ ha _ c3
    have q' : (14 = 7 ∨ 14 = 10 ∨ 14 = 11 ∨ 14 = 12 ∨ 14 = 13) := q
    omega
  obtain ⟨g, sh, he, p, q, f, b1, t1, t2, pq, q1, q2, gg, pg, im, mm, rr, f1, f2, f3, f4, f5, ee⟩ := Rc_fr hR k
  have pq' : (p = x0 + 7 ∧ q = x0 + 10) ∨ (p = x0 + 10 ∧ q = x0 + 7) := pq
  exact ⟨g, sh, he, p, q, b1.2 (show ¬ (x0 + 22 ≤ x0 ∧ x0 < x0 + 44) by omega), t1.2, t2.2, pq, q1.2 (fun a (e : x0 + 22 ≤ a ∧ a < x0 + 44) => by omega), q2.2 (fun a (e : x0 + 22 ≤ a ∧ a < x0 + 44) => by omega), gg, pg.2 (pn _ _ pg.1), ⟨f, im.2 (show ¬ (x0 + 22 ≤ x0 + 4 ∧ x0 + 4 < x0 + 44) by omega), mm.2 (fun h C _ hp => pn h C hp)⟩, fun r x hr => ⟨(rr r x hr).1.2 (show ¬ (x0 + 22 ≤ r + 2 ∧ r + 2 < x0 + 44) by have h2 : x0 + 44 ≤ r := (rr r x hr).2; omega), (rr r x hr).2⟩, ⟨f1.2 (show ¬ (x0 + 22 ≤ x0 + 19 ∧ x0 + 19 < x0 + 44) by omega), f2.2 (show ¬ (x0 + 22 ≤ x0 + 20 ∧ x0 + 20 < x0 + 44) by omega), f3.2 (show ¬ (x0 + 22 ≤ x0 + 21 ∧ x0 + 21 < x0 + 44) by omega), f4.2 (fun a (e : x0 + 22 ≤ a ∧ a < x0 + 44) => show a < x0 + 13 ∨ x0 + 13 + 2 ≤ a by omega), f5.2 (fun a (e : x0 + 22 ≤ a ∧ a < x0 + 44) => show a < x0 + 16 ∨ x0 + 16 + 2 ≤ a by omega)⟩, ⟨fun k hk => mW_at hk, hd2, hn, kp_c k (fun q => (kp_s k q hE.2.2.2.1).2.2.2 rfl) hE.2.2.2.1, kp_c k (fun q => (kp_s k q hE.2.2.2.2).2.2.2 rfl) hE.2.2.2.2⟩⟩
/-- the script is read -/
theorem Rc_s {i j : Nat} (hR : Rc (x0, b, L, xs, t) S G w) (hL : L ≤ 3072) (hi : i + j < L) : xaI w b (nI i + nI j) = some (xs (i + j)) := by
  obtain ⟨_, _, _, _, _, _, _, _, _, _, _, _, _, _, _, _, hE⟩ := hR
  have hb : w.2.2.2 b = some (aI 7 L xs) := hE.2.2.2.2
  unfold xaI
  rw [hb, nI_add]
  simp only [nI_clamp (show i + j < 2 ^ 31 by omega)]
  exact if_pos ⟨Or.inr trivial, nI_pos (by omega), hi⟩
theorem Rc_sl (hR : Rc (x0, b, L, xs, t) S G w) : xlen w b = some (nI L) := by
  obtain ⟨_, _, _, _, _, _, _, _, _, _, _, _, _, _, _, _, hE⟩ := hR
  exact xlen_I hE.2.2.2.2
theorem Rc_mo (hR : Rc (x0, b, L, xs, t) S G w) : xobj w (x0 + 22) 7 = some (mfs (x0 + 22) t) := by
  obtain ⟨_, _, _, _, _, _, _, _, _, _, _, _, _, _, _, _, hE⟩ := hR
  exact xobj_of (hE.1 0 (by decide))
end MV
