/-! the constructors of the notebook and of the reference -/
def bkL (x0 : Nat) : List xE := [book x0 (x0 + 1) (x0 + 5) (x0 + 6) (x0 + 7) (x0 + 10) none 0 (-6), .inr (0, [xA (some (x0 + 2))]), aA 4 10 (fun j => if j < 10 then some (x0 + 3) else none), eT (11, 0, 0), aA 6 2 (fun _ => none), eT (4, 0, 0), eT (11, 0, 0), .inr (1, [xA (some (x0 + 8)), xA (some (x0 + 9)), xI 0]), aI 0 24 (fun _ => 0), aI 0 24 (fun _ => 0), .inr (1, [xA (some (x0 + 11)), xA (some (x0 + 12)), xI 0]), aI 0 24 (fun _ => 0), aI 0 24 (fun _ => 0), .inr (2, [xA (some (x0 + 14)), xA (some (x0 + 15)), xI 0]), aA 5 24 (fun _ => none), eT (11, 0, 0), .inr (2, [xA (some (x0 + 17)), xA (some (x0 + 18)), xI 0]), aA 5 24 (fun _ => none), eT (11, 0, 0), aI 0 60 (fun _ => 0), .inr (4, [xA (some (x0 + 21))]), aI 0 114 (fun _ => 0)]
section CT
variable {w : xW}
set_option maxRecDepth 100000 in
theorem b_Book (hd : wd w) : xev 39 0 [some (xA (some (w.1)))] [] (xpush w 13 (.inr (6, xdf 6))) = some (none, bW w (bkL w.1) 372) := by
  rw [b_one hd, e_X7_init_0, b_X7_init_0]
  refine bnd ((b_Page (bW_wd hd)).trans (congrArg (fun z => some (none, z)) (bW_bW _ _ _ _ _))) ?_
  show xrV none _ = _
  rw [xrV_e]
  refine bnd (b_put0 (by exact (by decide : 0 < 13))) ?_
  refine bnd (b_new _ _ _ _ (n := 2) (by decide)) ?_
  refine bnd (b_put0 (by exact (by decide : 1 < 13))) ?_
  refine bnd (b_Thing _ _ _ _ _ _) ?_
  show xrV none _ = _
  rw [xrV_e]
  refine bnd (b_put0 (by exact (by decide : 2 < 13))) ?_
  refine bnd (b_Thing _ _ _ _ _ _) ?_
  show xrV none _ = _
  rw [xrV_e]
  refine bnd (b_put0 (by exact (by decide : 3 < 13))) ?_
  refine bnd (b_put0 (by exact (by decide : 4 < 13))) ?_
  refine bnd ((b_Pairs (bW_wd hd)).trans (congrArg (fun z => some (none, z)) (bW_bW _ _ _ _ _))) ?_
  show xrV none _ = _
  rw [xrV_e]
  refine bnd (b_put0 (by exact (by decide : 5 < 13))) ?_
  refine bnd ((b_Pairs (bW_wd hd)).trans (congrArg (fun z => some (none, z)) (bW_bW _ _ _ _ _))) ?_
  show xrV none _ = _
  rw [xrV_e]
  refine bnd (b_put0 (by exact (by decide : 6 < 13))) ?_
  refine bnd ((b_Read (bW_wd hd)).trans (congrArg (fun z => some (none, z)) (bW_bW _ _ _ _ _))) ?_
  show xrV none _ = _
  rw [xrV_e]
  refine bnd (b_put0 (by exact (by decide : 7 < 13))) ?_
  refine bnd ((b_Read (bW_wd hd)).trans (congrArg (fun z => some (none, z)) (bW_bW _ _ _ _ _))) ?_
  show xrV none _ = _
  rw [xrV_e]
  refine bnd (b_put0 (by exact (by decide : 8 < 13))) ?_
  refine bnd (b_new _ _ _ _ (n := 60) (by decide)) ?_
  refine bnd (b_put0 (by exact (by decide : 9 < 13))) ?_
  refine bnd (b_put0 (by exact (by decide : 10 < 13))) ?_
  refine bnd ((b_Tally (bW_wd hd)).trans (congrArg (fun z => some (none, z)) (bW_bW _ _ _ _ _))) ?_
  show xrV none _ = _
  rw [xrV_e]
  refine bnd (b_put0 (by exact (by decide : 11 < 13))) ?_
  refine bnd (b_put0 (by exact (by decide : 12 < 13))) ?_
  rfl
/-- the reference's state at first -/
def t00 (f : Nat → Int32) : mS := (fun k => if k = 6 then -6 else if k = 7 then 11 else if k = 15 then -6 else 0, fun _ => 0, fun _ => 0, fun k => if k = 5 then f else fun _ => 0, fun _ _ => 0, fun _ _ => 0)
def mdL (m0 : Nat) (f : Nat → Int32) : List xE := [.inr (7, mfs m0 (t00 f)), .inl (0, 16, .inl (fun _ => 0)), .inl (0, 16, .inl (fun _ => 0)), .inl (0, 384, .inl (fun _ => 0)), .inl (1, 384, .inr (.inl (fun _ => 0))), .inl (2, 384, .inr (.inr (.inr (.inl (fun _ => 0))))), .inl (0, 10, .inl f), .inl (0, 61, .inl (fun _ => 0)), .inl (3, 61, .inl (fun _ => 0)), .inl (0, 114, .inl (fun _ => 0)), .inl (0, 24, .inl (fun _ => 0)), .inl (0, 24, .inl (fun _ => 0)), .inl (1, 48, .inr (.inl (fun _ => 0))), .inl (2, 48, .inr (.inr (.inr (.inl (fun _ => 0))))), .inl (3, 2, .inl (fun _ => 0)), .inl (0, 20, .inl (fun _ => 0)), .inl (0, 20, .inl (fun _ => 0)), .inl (0, 20, .inl (fun _ => 0)), .inl (0, 20, .inl (fun _ => 0)), .inl (0, 480, .inl (fun _ => 0)), .inl (1, 480, .inr (.inl (fun _ => 0))), .inl (2, 480, .inr (.inr (.inr (.inl (fun _ => 0)))))]
theorem mdL_at (m0 : Nat) (f : Nat → Int32) {k : Nat} (hk : k < 22) : (mdL m0 f)[k]? = mce m0 (t00 f) k := match k, hk with
  | 0, _ => rfl
  | 1, _ => rfl
  | 2, _ => rfl
  | 3, _ => rfl
  | 4, _ => rfl
  | 5, _ => rfl
  | 6, _ => rfl
  | 7, _ => rfl
  | 8, _ => rfl
  | 9, _ => rfl
  | 10, _ => rfl
  | 11, _ => rfl
  | 12, _ => rfl
  | 13, _ => rfl
  | 14, _ => rfl
  | 15, _ => rfl
  | 16, _ => rfl
  | 17, _ => rfl
  | 18, _ => rfl
  | 19, _ => rfl
  | 20, _ => rfl
  | 21, _ => rfl
  | n + 22, h => absurd h (by omega)
theorem b_mod_l : ∀ d i, i + d = 10 → xev 87 197 [some (xA (some (w.1))), some (xI (nI i))] [] (bW w (mdL w.1 (fun j => if j < i then -1 else 0)) 3130) = some (none, bW w (mdL w.1 (fun j => if j < 10 then -1 else 0)) 3130)
  | 0, i, h => by
    have e : i = 10 := by omega
    subst e
    rw [e_X8_init_197, b_X8_init_197, if_neg (by decide)]
  | d + 1, i, h => by
    have c0 : (bW w (mdL w.1 (fun j => if j < i then -1 else 0)) 3130).2.2.2 w.1 = some (.inr (7, mfs w.1 (t00 (fun j => if j < i then -1 else 0)))) := bW_at w (mdL w.1 (fun j => if j < i then -1 else 0)) 3130 0
    have c1 : (bW w (mdL w.1 (fun j => if j < i then -1 else 0)) 3130).2.2.2 (w.1 + 6) = some (aI 0 10 (fun j => if j < i then -1 else 0)) := bW_at w (mdL w.1 (fun j => if j < i then -1 else 0)) 3130 6
    have st : xset (bW w (mdL w.1 (fun j => if j < i then -1 else 0)) 3130) (w.1 + 6) (aI 0 10 (va_up (fun j => if j < i then -1 else 0) i (-1))) = bW w (mdL w.1 (fun j => if j < i + 1 then -1 else 0)) 3130 := by
      rw [bW_set (by show 6 < 22; decide), fil_s]
      rfl
    rw [e_X8_init_197, b_X8_init_197, if_pos (show nI i < 10 from nI_lt (b := 10) (by omega) (by decide)), xgA_of (k := 5) c0 rfl, Option.bind_some, Option.bind_some, xsI_of c1 (show i < 10 by omega) (by decide), Option.bind_some, nI_1, st]
    exact b_mod_l d (i + 1) (by omega)
set_option maxRecDepth 100000 in
theorem b_Model (hd : wd w) : xev 87 0 [some (xA (some (w.1))), none] [] (xpush w 34 (.inr (7, xdf 7))) = some (none, bW w (mdL w.1 (fun j => if j < 10 then -1 else 0)) 3130) := by
  have L := b_mod_l (w := w) 10 0 rfl
  rw [nI_0] at L
  have z : (fun j => if j < 0 then (-1 : Int32) else 0) = (fun _ : Nat => (0 : Int32)) := by
    funext j
    rw [if_neg (Nat.not_lt_zero j)]
  rw [z] at L
  rw [b_one hd, e_X8_init_0, b_X8_init_0]
  refine bnd (b_new _ _ _ _ (n := 16) (by decide)) ?_
  refine bnd (y := bW w [.inr (7, [xA (some (w.1 + 1)), xA none, xA none, xA none, xA none, xA none, xI 0, xI 0, xJ 0, xD 0, xJ 0, xA none, xA none, xI 0, xA none, xI 0, xA none, xA none, xI 0, xJ 0, xD 0, xJ 0, xD 0, xA none, xA none, xI 0, xA none, xA none, xA none, xA none, xA none, xA none, xA none, xA none]), .inl (0, 16, .inl (fun _ => 0))] 50) (b_put0 (by exact (by decide : 0 < 34))) ?_
  refine bnd (b_new _ _ _ _ (n := 16) (by decide)) ?_
  refine bnd (y := bW w [.inr (7, [xA (some (w.1 + 1)), xA (some (w.1 + 2)), xA none, xA none, xA none, xA none, xI 0, xI 0, xJ 0, xD 0, xJ 0, xA none, xA none, xI 0, xA none, xI 0, xA none, xA none, xI 0, xJ 0, xD 0, xJ 0, xD 0, xA none, xA none, xI 0, xA none, xA none, xA none, xA none, xA none, xA none, xA none, xA none]), .inl (0, 16, .inl (fun _ => 0)), .inl (0, 16, .inl (fun _ => 0))] 66) (b_put0 (by exact (by decide : 1 < 34))) ?_
  refine bnd (b_new _ _ _ _ (n := 384) (by decide)) ?_
  refine bnd (y := bW w [.inr (7, [xA (some (w.1 + 1)), xA (some (w.1 + 2)), xA (some (w.1 + 3)), xA none, xA none, xA none, xI 0, xI 0, xJ 0, xD 0, xJ 0, xA none, xA none, xI 0, xA none, xI 0, xA none, xA none, xI 0, xJ 0, xD 0, xJ 0, xD 0, xA none, xA none, xI 0, xA none, xA none, xA none, xA none, xA none, xA none, xA none, xA none]), .inl (0, 16, .inl (fun _ => 0)), .inl (0, 16, .inl (fun _ => 0)), .inl (0, 384, .inl (fun _ => 0))] 450) (b_put0 (by exact (by decide : 2 < 34))) ?_
  refine bnd (b_new _ _ _ _ (n := 384) (by decide)) ?_
  refine bnd (y := bW w [.inr (7, [xA (some (w.1 + 1)), xA (some (w.1 + 2)), xA (some (w.1 + 3)), xA (some (w.1 + 4)), xA none, xA none, xI 0, xI 0, xJ 0, xD 0, xJ 0, xA none, xA none, xI 0, xA none, xI 0, xA none, xA none, xI 0, xJ 0, xD 0, xJ 0, xD 0, xA none, xA none, xI 0, xA none, xA none, xA none, xA none, xA none, xA none, xA none, xA none]), .inl (0, 16, .inl (fun _ => 0)), .inl (0, 16, .inl (fun _ => 0)), .inl (0, 384, .inl (fun _ => 0)), .inl (1, 384, .inr (.inl (fun _ => 0)))] 834) (b_put0 (by exact (by decide : 3 < 34))) ?_
  refine bnd (b_new _ _ _ _ (n := 384) (by decide)) ?_
  refine bnd (y := bW w [.inr (7, [xA (some (w.1 + 1)), xA (some (w.1 + 2)), xA (some (w.1 + 3)), xA (some (w.1 + 4)), xA (some (w.1 + 5)), xA none, xI 0, xI 0, xJ 0, xD 0, xJ 0, xA none, xA none, xI 0, xA none, xI 0, xA none, xA none, xI 0, xJ 0, xD 0, xJ 0, xD 0, xA none, xA none, xI 0, xA none, xA none, xA none, xA none, xA none, xA none, xA none, xA none]), .inl (0, 16, .inl (fun _ => 0)), .inl (0, 16, .inl (fun _ => 0)), .inl (0, 384, .inl (fun _ => 0)), .inl (1, 384, .inr (.inl (fun _ => 0))), .inl (2, 384, .inr (.inr (.inr (.inl (fun _ => 0)))))] 1218) (b_put0 (by exact (by decide : 4 < 34))) ?_
  refine bnd (b_new _ _ _ _ (n := 10) (by decide)) ?_
  refine bnd (y := bW w [.inr (7, [xA (some (w.1 + 1)), xA (some (w.1 + 2)), xA (some (w.1 + 3)), xA (some (w.1 + 4)), xA (some (w.1 + 5)), xA (some (w.1 + 6)), xI 0, xI 0, xJ 0, xD 0, xJ 0, xA none, xA none, xI 0, xA none, xI 0, xA none, xA none, xI 0, xJ 0, xD 0, xJ 0, xD 0, xA none, xA none, xI 0, xA none, xA none, xA none, xA none, xA none, xA none, xA none, xA none]), .inl (0, 16, .inl (fun _ => 0)), .inl (0, 16, .inl (fun _ => 0)), .inl (0, 384, .inl (fun _ => 0)), .inl (1, 384, .inr (.inl (fun _ => 0))), .inl (2, 384, .inr (.inr (.inr (.inl (fun _ => 0))))), .inl (0, 10, .inl (fun _ => 0))] 1228) (b_put0 (by exact (by decide : 5 < 34))) ?_
  refine bnd (y := bW w [.inr (7, [xA (some (w.1 + 1)), xA (some (w.1 + 2)), xA (some (w.1 + 3)), xA (some (w.1 + 4)), xA (some (w.1 + 5)), xA (some (w.1 + 6)), xI (-6), xI 0, xJ 0, xD 0, xJ 0, xA none, xA none, xI 0, xA none, xI 0, xA none, xA none, xI 0, xJ 0, xD 0, xJ 0, xD 0, xA none, xA none, xI 0, xA none, xA none, xA none, xA none, xA none, xA none, xA none, xA none]), .inl (0, 16, .inl (fun _ => 0)), .inl (0, 16, .inl (fun _ => 0)), .inl (0, 384, .inl (fun _ => 0)), .inl (1, 384, .inr (.inl (fun _ => 0))), .inl (2, 384, .inr (.inr (.inr (.inl (fun _ => 0))))), .inl (0, 10, .inl (fun _ => 0))] 1228) (b_put0 (by exact (by decide : 6 < 34))) ?_
  refine bnd (y := bW w [.inr (7, [xA (some (w.1 + 1)), xA (some (w.1 + 2)), xA (some (w.1 + 3)), xA (some (w.1 + 4)), xA (some (w.1 + 5)), xA (some (w.1 + 6)), xI (-6), xI 11, xJ 0, xD 0, xJ 0, xA none, xA none, xI 0, xA none, xI 0, xA none, xA none, xI 0, xJ 0, xD 0, xJ 0, xD 0, xA none, xA none, xI 0, xA none, xA none, xA none, xA none, xA none, xA none, xA none, xA none]), .inl (0, 16, .inl (fun _ => 0)), .inl (0, 16, .inl (fun _ => 0)), .inl (0, 384, .inl (fun _ => 0)), .inl (1, 384, .inr (.inl (fun _ => 0))), .inl (2, 384, .inr (.inr (.inr (.inl (fun _ => 0))))), .inl (0, 10, .inl (fun _ => 0))] 1228) (b_put0 (by exact (by decide : 7 < 34))) ?_
  refine bnd (b_new _ _ _ _ (n := 61) (by decide)) ?_
  refine bnd (y := bW w [.inr (7, [xA (some (w.1 + 1)), xA (some (w.1 + 2)), xA (some (w.1 + 3)), xA (some (w.1 + 4)), xA (some (w.1 + 5)), xA (some (w.1 + 6)), xI (-6), xI 11, xJ 0, xD 0, xJ 0, xA (some (w.1 + 7)), xA none, xI 0, xA none, xI 0, xA none, xA none, xI 0, xJ 0, xD 0, xJ 0, xD 0, xA none, xA none, xI 0, xA none, xA none, xA none, xA none, xA none, xA none, xA none, xA none]), .inl (0, 16, .inl (fun _ => 0)), .inl (0, 16, .inl (fun _ => 0)), .inl (0, 384, .inl (fun _ => 0)), .inl (1, 384, .inr (.inl (fun _ => 0))), .inl (2, 384, .inr (.inr (.inr (.inl (fun _ => 0))))), .inl (0, 10, .inl (fun _ => 0)), .inl (0, 61, .inl (fun _ => 0))] 1289) (b_put0 (by exact (by decide : 11 < 34))) ?_
  refine bnd (b_new _ _ _ _ (n := 61) (by decide)) ?_
  refine bnd (y := bW w [.inr (7, [xA (some (w.1 + 1)), xA (some (w.1 + 2)), xA (some (w.1 + 3)), xA (some (w.1 + 4)), xA (some (w.1 + 5)), xA (some (w.1 + 6)), xI (-6), xI 11, xJ 0, xD 0, xJ 0, xA (some (w.1 + 7)), xA (some (w.1 + 8)), xI 0, xA none, xI 0, xA none, xA none, xI 0, xJ 0, xD 0, xJ 0, xD 0, xA none, xA none, xI 0, xA none, xA none, xA none, xA none, xA none, xA none, xA none, xA none]), .inl (0, 16, .inl (fun _ => 0)), .inl (0, 16, .inl (fun _ => 0)), .inl (0, 384, .inl (fun _ => 0)), .inl (1, 384, .inr (.inl (fun _ => 0))), .inl (2, 384, .inr (.inr (.inr (.inl (fun _ => 0))))), .inl (0, 10, .inl (fun _ => 0)), .inl (0, 61, .inl (fun _ => 0)), .inl (3, 61, .inl (fun _ => 0))] 1350) (b_put0 (by exact (by decide : 12 < 34))) ?_
  refine bnd (b_new _ _ _ _ (n := 114) (by decide)) ?_
  refine bnd (y := bW w [.inr (7, [xA (some (w.1 + 1)), xA (some (w.1 + 2)), xA (some (w.1 + 3)), xA (some (w.1 + 4)), xA (some (w.1 + 5)), xA (some (w.1 + 6)), xI (-6), xI 11, xJ 0, xD 0, xJ 0, xA (some (w.1 + 7)), xA (some (w.1 + 8)), xI 0, xA (some (w.1 + 9)), xI 0, xA none, xA none, xI 0, xJ 0, xD 0, xJ 0, xD 0, xA none, xA none, xI 0, xA none, xA none, xA none, xA none, xA none, xA none, xA none, xA none]), .inl (0, 16, .inl (fun _ => 0)), .inl (0, 16, .inl (fun _ => 0)), .inl (0, 384, .inl (fun _ => 0)), .inl (1, 384, .inr (.inl (fun _ => 0))), .inl (2, 384, .inr (.inr (.inr (.inl (fun _ => 0))))), .inl (0, 10, .inl (fun _ => 0)), .inl (0, 61, .inl (fun _ => 0)), .inl (3, 61, .inl (fun _ => 0)), .inl (0, 114, .inl (fun _ => 0))] 1464) (b_put0 (by exact (by decide : 14 < 34))) ?_
  refine bnd (y := bW w [.inr (7, [xA (some (w.1 + 1)), xA (some (w.1 + 2)), xA (some (w.1 + 3)), xA (some (w.1 + 4)), xA (some (w.1 + 5)), xA (some (w.1 + 6)), xI (-6), xI 11, xJ 0, xD 0, xJ 0, xA (some (w.1 + 7)), xA (some (w.1 + 8)), xI 0, xA (some (w.1 + 9)), xI (-6), xA none, xA none, xI 0, xJ 0, xD 0, xJ 0, xD 0, xA none, xA none, xI 0, xA none, xA none, xA none, xA none, xA none, xA none, xA none, xA none]), .inl (0, 16, .inl (fun _ => 0)), .inl (0, 16, .inl (fun _ => 0)), .inl (0, 384, .inl (fun _ => 0)), .inl (1, 384, .inr (.inl (fun _ => 0))), .inl (2, 384, .inr (.inr (.inr (.inl (fun _ => 0))))), .inl (0, 10, .inl (fun _ => 0)), .inl (0, 61, .inl (fun _ => 0)), .inl (3, 61, .inl (fun _ => 0)), .inl (0, 114, .inl (fun _ => 0))] 1464) (b_put0 (by exact (by decide : 15 < 34))) ?_
  refine bnd (b_new _ _ _ _ (n := 24) (by decide)) ?_
  refine bnd (y := bW w [.inr (7, [xA (some (w.1 + 1)), xA (some (w.1 + 2)), xA (some (w.1 + 3)), xA (some (w.1 + 4)), xA (some (w.1 + 5)), xA (some (w.1 + 6)), xI (-6), xI 11, xJ 0, xD 0, xJ 0, xA (some (w.1 + 7)), xA (some (w.1 + 8)), xI 0, xA (some (w.1 + 9)), xI (-6), xA (some (w.1 + 10)), xA none, xI 0, xJ 0, xD 0, xJ 0, xD 0, xA none, xA none, xI 0, xA none, xA none, xA none, xA none, xA none, xA none, xA none, xA none]), .inl (0, 16, .inl (fun _ => 0)), .inl (0, 16, .inl (fun _ => 0)), .inl (0, 384, .inl (fun _ => 0)), .inl (1, 384, .inr (.inl (fun _ => 0))), .inl (2, 384, .inr (.inr (.inr (.inl (fun _ => 0))))), .inl (0, 10, .inl (fun _ => 0)), .inl (0, 61, .inl (fun _ => 0)), .inl (3, 61, .inl (fun _ => 0)), .inl (0, 114, .inl (fun _ => 0)), .inl (0, 24, .inl (fun _ => 0))] 1488) (b_put0 (by exact (by decide : 16 < 34))) ?_
  refine bnd (b_new _ _ _ _ (n := 24) (by decide)) ?_
  refine bnd (y := bW w [.inr (7, [xA (some (w.1 + 1)), xA (some (w.1 + 2)), xA (some (w.1 + 3)), xA (some (w.1 + 4)), xA (some (w.1 + 5)), xA (some (w.1 + 6)), xI (-6), xI 11, xJ 0, xD 0, xJ 0, xA (some (w.1 + 7)), xA (some (w.1 + 8)), xI 0, xA (some (w.1 + 9)), xI (-6), xA (some (w.1 + 10)), xA (some (w.1 + 11)), xI 0, xJ 0, xD 0, xJ 0, xD 0, xA none, xA none, xI 0, xA none, xA none, xA none, xA none, xA none, xA none, xA none, xA none]), .inl (0, 16, .inl (fun _ => 0)), .inl (0, 16, .inl (fun _ => 0)), .inl (0, 384, .inl (fun _ => 0)), .inl (1, 384, .inr (.inl (fun _ => 0))), .inl (2, 384, .inr (.inr (.inr (.inl (fun _ => 0))))), .inl (0, 10, .inl (fun _ => 0)), .inl (0, 61, .inl (fun _ => 0)), .inl (3, 61, .inl (fun _ => 0)), .inl (0, 114, .inl (fun _ => 0)), .inl (0, 24, .inl (fun _ => 0)), .inl (0, 24, .inl (fun _ => 0))] 1512) (b_put0 (by exact (by decide : 17 < 34))) ?_
  refine bnd (b_new _ _ _ _ (n := 48) (by decide)) ?_
  refine bnd (y := bW w [.inr (7, [xA (some (w.1 + 1)), xA (some (w.1 + 2)), xA (some (w.1 + 3)), xA (some (w.1 + 4)), xA (some (w.1 + 5)), xA (some (w.1 + 6)), xI (-6), xI 11, xJ 0, xD 0, xJ 0, xA (some (w.1 + 7)), xA (some (w.1 + 8)), xI 0, xA (some (w.1 + 9)), xI (-6), xA (some (w.1 + 10)), xA (some (w.1 + 11)), xI 0, xJ 0, xD 0, xJ 0, xD 0, xA (some (w.1 + 12)), xA none, xI 0, xA none, xA none, xA none, xA none, xA none, xA none, xA none, xA none]), .inl (0, 16, .inl (fun _ => 0)), .inl (0, 16, .inl (fun _ => 0)), .inl (0, 384, .inl (fun _ => 0)), .inl (1, 384, .inr (.inl (fun _ => 0))), .inl (2, 384, .inr (.inr (.inr (.inl (fun _ => 0))))), .inl (0, 10, .inl (fun _ => 0)), .inl (0, 61, .inl (fun _ => 0)), .inl (3, 61, .inl (fun _ => 0)), .inl (0, 114, .inl (fun _ => 0)), .inl (0, 24, .inl (fun _ => 0)), .inl (0, 24, .inl (fun _ => 0)), .inl (1, 48, .inr (.inl (fun _ => 0)))] 1560) (b_put0 (by exact (by decide : 23 < 34))) ?_
  refine bnd (b_new _ _ _ _ (n := 48) (by decide)) ?_
  refine bnd (y := bW w [.inr (7, [xA (some (w.1 + 1)), xA (some (w.1 + 2)), xA (some (w.1 + 3)), xA (some (w.1 + 4)), xA (some (w.1 + 5)), xA (some (w.1 + 6)), xI (-6), xI 11, xJ 0, xD 0, xJ 0, xA (some (w.1 + 7)), xA (some (w.1 + 8)), xI 0, xA (some (w.1 + 9)), xI (-6), xA (some (w.1 + 10)), xA (some (w.1 + 11)), xI 0, xJ 0, xD 0, xJ 0, xD 0, xA (some (w.1 + 12)), xA (some (w.1 + 13)), xI 0, xA none, xA none, xA none, xA none, xA none, xA none, xA none, xA none]), .inl (0, 16, .inl (fun _ => 0)), .inl (0, 16, .inl (fun _ => 0)), .inl (0, 384, .inl (fun _ => 0)), .inl (1, 384, .inr (.inl (fun _ => 0))), .inl (2, 384, .inr (.inr (.inr (.inl (fun _ => 0))))), .inl (0, 10, .inl (fun _ => 0)), .inl (0, 61, .inl (fun _ => 0)), .inl (3, 61, .inl (fun _ => 0)), .inl (0, 114, .inl (fun _ => 0)), .inl (0, 24, .inl (fun _ => 0)), .inl (0, 24, .inl (fun _ => 0)), .inl (1, 48, .inr (.inl (fun _ => 0))), .inl (2, 48, .inr (.inr (.inr (.inl (fun _ => 0)))))] 1608) (b_put0 (by exact (by decide : 24 < 34))) ?_
  refine bnd (b_new _ _ _ _ (n := 2) (by decide)) ?_
  refine bnd (y := bW w [.inr (7, [xA (some (w.1 + 1)), xA (some (w.1 + 2)), xA (some (w.1 + 3)), xA (some (w.1 + 4)), xA (some (w.1 + 5)), xA (some (w.1 + 6)), xI (-6), xI 11, xJ 0, xD 0, xJ 0, xA (some (w.1 + 7)), xA (some (w.1 + 8)), xI 0, xA (some (w.1 + 9)), xI (-6), xA (some (w.1 + 10)), xA (some (w.1 + 11)), xI 0, xJ 0, xD 0, xJ 0, xD 0, xA (some (w.1 + 12)), xA (some (w.1 + 13)), xI 0, xA (some (w.1 + 14)), xA none, xA none, xA none, xA none, xA none, xA none, xA none]), .inl (0, 16, .inl (fun _ => 0)), .inl (0, 16, .inl (fun _ => 0)), .inl (0, 384, .inl (fun _ => 0)), .inl (1, 384, .inr (.inl (fun _ => 0))), .inl (2, 384, .inr (.inr (.inr (.inl (fun _ => 0))))), .inl (0, 10, .inl (fun _ => 0)), .inl (0, 61, .inl (fun _ => 0)), .inl (3, 61, .inl (fun _ => 0)), .inl (0, 114, .inl (fun _ => 0)), .inl (0, 24, .inl (fun _ => 0)), .inl (0, 24, .inl (fun _ => 0)), .inl (1, 48, .inr (.inl (fun _ => 0))), .inl (2, 48, .inr (.inr (.inr (.inl (fun _ => 0))))), .inl (3, 2, .inl (fun _ => 0))] 1610) (b_put0 (by exact (by decide : 26 < 34))) ?_
  refine bnd (b_new _ _ _ _ (n := 20) (by decide)) ?_
  refine bnd (y := bW w [.inr (7, [xA (some (w.1 + 1)), xA (some (w.1 + 2)), xA (some (w.1 + 3)), xA (some (w.1 + 4)), xA (some (w.1 + 5)), xA (some (w.1 + 6)), xI (-6), xI 11, xJ 0, xD 0, xJ 0, xA (some (w.1 + 7)), xA (some (w.1 + 8)), xI 0, xA (some (w.1 + 9)), xI (-6), xA (some (w.1 + 10)), xA (some (w.1 + 11)), xI 0, xJ 0, xD 0, xJ 0, xD 0, xA (some (w.1 + 12)), xA (some (w.1 + 13)), xI 0, xA (some (w.1 + 14)), xA (some (w.1 + 15)), xA none, xA none, xA none, xA none, xA none, xA none]), .inl (0, 16, .inl (fun _ => 0)), .inl (0, 16, .inl (fun _ => 0)), .inl (0, 384, .inl (fun _ => 0)), .inl (1, 384, .inr (.inl (fun _ => 0))), .inl (2, 384, .inr (.inr (.inr (.inl (fun _ => 0))))), .inl (0, 10, .inl (fun _ => 0)), .inl (0, 61, .inl (fun _ => 0)), .inl (3, 61, .inl (fun _ => 0)), .inl (0, 114, .inl (fun _ => 0)), .inl (0, 24, .inl (fun _ => 0)), .inl (0, 24, .inl (fun _ => 0)), .inl (1, 48, .inr (.inl (fun _ => 0))), .inl (2, 48, .inr (.inr (.inr (.inl (fun _ => 0))))), .inl (3, 2, .inl (fun _ => 0)), .inl (0, 20, .inl (fun _ => 0))] 1630) (b_put0 (by exact (by decide : 27 < 34))) ?_
  refine bnd (b_new _ _ _ _ (n := 20) (by decide)) ?_
  refine bnd (y := bW w [.inr (7, [xA (some (w.1 + 1)), xA (some (w.1 + 2)), xA (some (w.1 + 3)), xA (some (w.1 + 4)), xA (some (w.1 + 5)), xA (some (w.1 + 6)), xI (-6), xI 11, xJ 0, xD 0, xJ 0, xA (some (w.1 + 7)), xA (some (w.1 + 8)), xI 0, xA (some (w.1 + 9)), xI (-6), xA (some (w.1 + 10)), xA (some (w.1 + 11)), xI 0, xJ 0, xD 0, xJ 0, xD 0, xA (some (w.1 + 12)), xA (some (w.1 + 13)), xI 0, xA (some (w.1 + 14)), xA (some (w.1 + 15)), xA (some (w.1 + 16)), xA none, xA none, xA none, xA none, xA none]), .inl (0, 16, .inl (fun _ => 0)), .inl (0, 16, .inl (fun _ => 0)), .inl (0, 384, .inl (fun _ => 0)), .inl (1, 384, .inr (.inl (fun _ => 0))), .inl (2, 384, .inr (.inr (.inr (.inl (fun _ => 0))))), .inl (0, 10, .inl (fun _ => 0)), .inl (0, 61, .inl (fun _ => 0)), .inl (3, 61, .inl (fun _ => 0)), .inl (0, 114, .inl (fun _ => 0)), .inl (0, 24, .inl (fun _ => 0)), .inl (0, 24, .inl (fun _ => 0)), .inl (1, 48, .inr (.inl (fun _ => 0))), .inl (2, 48, .inr (.inr (.inr (.inl (fun _ => 0))))), .inl (3, 2, .inl (fun _ => 0)), .inl (0, 20, .inl (fun _ => 0)), .inl (0, 20, .inl (fun _ => 0))] 1650) (b_put0 (by exact (by decide : 28 < 34))) ?_
  refine bnd (b_new _ _ _ _ (n := 20) (by decide)) ?_
  refine bnd (y := bW w [.inr (7, [xA (some (w.1 + 1)), xA (some (w.1 + 2)), xA (some (w.1 + 3)), xA (some (w.1 + 4)), xA (some (w.1 + 5)), xA (some (w.1 + 6)), xI (-6), xI 11, xJ 0, xD 0, xJ 0, xA (some (w.1 + 7)), xA (some (w.1 + 8)), xI 0, xA (some (w.1 + 9)), xI (-6), xA (some (w.1 + 10)), xA (some (w.1 + 11)), xI 0, xJ 0, xD 0, xJ 0, xD 0, xA (some (w.1 + 12)), xA (some (w.1 + 13)), xI 0, xA (some (w.1 + 14)), xA (some (w.1 + 15)), xA (some (w.1 + 16)), xA (some (w.1 + 17)), xA none, xA none, xA none, xA none]), .inl (0, 16, .inl (fun _ => 0)), .inl (0, 16, .inl (fun _ => 0)), .inl (0, 384, .inl (fun _ => 0)), .inl (1, 384, .inr (.inl (fun _ => 0))), .inl (2, 384, .inr (.inr (.inr (.inl (fun _ => 0))))), .inl (0, 10, .inl (fun _ => 0)), .inl (0, 61, .inl (fun _ => 0)), .inl (3, 61, .inl (fun _ => 0)), .inl (0, 114, .inl (fun _ => 0)), .inl (0, 24, .inl (fun _ => 0)), .inl (0, 24, .inl (fun _ => 0)), .inl (1, 48, .inr (.inl (fun _ => 0))), .inl (2, 48, .inr (.inr (.inr (.inl (fun _ => 0))))), .inl (3, 2, .inl (fun _ => 0)), .inl (0, 20, .inl (fun _ => 0)), .inl (0, 20, .inl (fun _ => 0)), .inl (0, 20, .inl (fun _ => 0))] 1670) (b_put0 (by exact (by decide : 29 < 34))) ?_
  refine bnd (b_new _ _ _ _ (n := 20) (by decide)) ?_
  refine bnd (y := bW w [.inr (7, [xA (some (w.1 + 1)), xA (some (w.1 + 2)), xA (some (w.1 + 3)), xA (some (w.1 + 4)), xA (some (w.1 + 5)), xA (some (w.1 + 6)), xI (-6), xI 11, xJ 0, xD 0, xJ 0, xA (some (w.1 + 7)), xA (some (w.1 + 8)), xI 0, xA (some (w.1 + 9)), xI (-6), xA (some (w.1 + 10)), xA (some (w.1 + 11)), xI 0, xJ 0, xD 0, xJ 0, xD 0, xA (some (w.1 + 12)), xA (some (w.1 + 13)), xI 0, xA (some (w.1 + 14)), xA (some (w.1 + 15)), xA (some (w.1 + 16)), xA (some (w.1 + 17)), xA (some (w.1 + 18)), xA none, xA none, xA none]), .inl (0, 16, .inl (fun _ => 0)), .inl (0, 16, .inl (fun _ => 0)), .inl (0, 384, .inl (fun _ => 0)), .inl (1, 384, .inr (.inl (fun _ => 0))), .inl (2, 384, .inr (.inr (.inr (.inl (fun _ => 0))))), .inl (0, 10, .inl (fun _ => 0)), .inl (0, 61, .inl (fun _ => 0)), .inl (3, 61, .inl (fun _ => 0)), .inl (0, 114, .inl (fun _ => 0)), .inl (0, 24, .inl (fun _ => 0)), .inl (0, 24, .inl (fun _ => 0)), .inl (1, 48, .inr (.inl (fun _ => 0))), .inl (2, 48, .inr (.inr (.inr (.inl (fun _ => 0))))), .inl (3, 2, .inl (fun _ => 0)), .inl (0, 20, .inl (fun _ => 0)), .inl (0, 20, .inl (fun _ => 0)), .inl (0, 20, .inl (fun _ => 0)), .inl (0, 20, .inl (fun _ => 0))] 1690) (b_put0 (by exact (by decide : 30 < 34))) ?_
  refine bnd (b_new _ _ _ _ (n := 480) (by decide)) ?_
  refine bnd (y := bW w [.inr (7, [xA (some (w.1 + 1)), xA (some (w.1 + 2)), xA (some (w.1 + 3)), xA (some (w.1 + 4)), xA (some (w.1 + 5)), xA (some (w.1 + 6)), xI (-6), xI 11, xJ 0, xD 0, xJ 0, xA (some (w.1 + 7)), xA (some (w.1 + 8)), xI 0, xA (some (w.1 + 9)), xI (-6), xA (some (w.1 + 10)), xA (some (w.1 + 11)), xI 0, xJ 0, xD 0, xJ 0, xD 0, xA (some (w.1 + 12)), xA (some (w.1 + 13)), xI 0, xA (some (w.1 + 14)), xA (some (w.1 + 15)), xA (some (w.1 + 16)), xA (some (w.1 + 17)), xA (some (w.1 + 18)), xA (some (w.1 + 19)), xA none, xA none]), .inl (0, 16, .inl (fun _ => 0)), .inl (0, 16, .inl (fun _ => 0)), .inl (0, 384, .inl (fun _ => 0)), .inl (1, 384, .inr (.inl (fun _ => 0))), .inl (2, 384, .inr (.inr (.inr (.inl (fun _ => 0))))), .inl (0, 10, .inl (fun _ => 0)), .inl (0, 61, .inl (fun _ => 0)), .inl (3, 61, .inl (fun _ => 0)), .inl (0, 114, .inl (fun _ => 0)), .inl (0, 24, .inl (fun _ => 0)), .inl (0, 24, .inl (fun _ => 0)), .inl (1, 48, .inr (.inl (fun _ => 0))), .inl (2, 48, .inr (.inr (.inr (.inl (fun _ => 0))))), .inl (3, 2, .inl (fun _ => 0)), .inl (0, 20, .inl (fun _ => 0)), .inl (0, 20, .inl (fun _ => 0)), .inl (0, 20, .inl (fun _ => 0)), .inl (0, 20, .inl (fun _ => 0)), .inl (0, 480, .inl (fun _ => 0))] 2170) (b_put0 (by exact (by decide : 31 < 34))) ?_
  refine bnd (b_new _ _ _ _ (n := 480) (by decide)) ?_
  refine bnd (y := bW w [.inr (7, [xA (some (w.1 + 1)), xA (some (w.1 + 2)), xA (some (w.1 + 3)), xA (some (w.1 + 4)), xA (some (w.1 + 5)), xA (some (w.1 + 6)), xI (-6), xI 11, xJ 0, xD 0, xJ 0, xA (some (w.1 + 7)), xA (some (w.1 + 8)), xI 0, xA (some (w.1 + 9)), xI (-6), xA (some (w.1 + 10)), xA (some (w.1 + 11)), xI 0, xJ 0, xD 0, xJ 0, xD 0, xA (some (w.1 + 12)), xA (some (w.1 + 13)), xI 0, xA (some (w.1 + 14)), xA (some (w.1 + 15)), xA (some (w.1 + 16)), xA (some (w.1 + 17)), xA (some (w.1 + 18)), xA (some (w.1 + 19)), xA (some (w.1 + 20)), xA none]), .inl (0, 16, .inl (fun _ => 0)), .inl (0, 16, .inl (fun _ => 0)), .inl (0, 384, .inl (fun _ => 0)), .inl (1, 384, .inr (.inl (fun _ => 0))), .inl (2, 384, .inr (.inr (.inr (.inl (fun _ => 0))))), .inl (0, 10, .inl (fun _ => 0)), .inl (0, 61, .inl (fun _ => 0)), .inl (3, 61, .inl (fun _ => 0)), .inl (0, 114, .inl (fun _ => 0)), .inl (0, 24, .inl (fun _ => 0)), .inl (0, 24, .inl (fun _ => 0)), .inl (1, 48, .inr (.inl (fun _ => 0))), .inl (2, 48, .inr (.inr (.inr (.inl (fun _ => 0))))), .inl (3, 2, .inl (fun _ => 0)), .inl (0, 20, .inl (fun _ => 0)), .inl (0, 20, .inl (fun _ => 0)), .inl (0, 20, .inl (fun _ => 0)), .inl (0, 20, .inl (fun _ => 0)), .inl (0, 480, .inl (fun _ => 0)), .inl (1, 480, .inr (.inl (fun _ => 0)))] 2650) (b_put0 (by exact (by decide : 32 < 34))) ?_
  refine bnd (b_new _ _ _ _ (n := 480) (by decide)) ?_
  refine bnd (y := bW w [.inr (7, [xA (some (w.1 + 1)), xA (some (w.1 + 2)), xA (some (w.1 + 3)), xA (some (w.1 + 4)), xA (some (w.1 + 5)), xA (some (w.1 + 6)), xI (-6), xI 11, xJ 0, xD 0, xJ 0, xA (some (w.1 + 7)), xA (some (w.1 + 8)), xI 0, xA (some (w.1 + 9)), xI (-6), xA (some (w.1 + 10)), xA (some (w.1 + 11)), xI 0, xJ 0, xD 0, xJ 0, xD 0, xA (some (w.1 + 12)), xA (some (w.1 + 13)), xI 0, xA (some (w.1 + 14)), xA (some (w.1 + 15)), xA (some (w.1 + 16)), xA (some (w.1 + 17)), xA (some (w.1 + 18)), xA (some (w.1 + 19)), xA (some (w.1 + 20)), xA (some (w.1 + 21))]), .inl (0, 16, .inl (fun _ => 0)), .inl (0, 16, .inl (fun _ => 0)), .inl (0, 384, .inl (fun _ => 0)), .inl (1, 384, .inr (.inl (fun _ => 0))), .inl (2, 384, .inr (.inr (.inr (.inl (fun _ => 0))))), .inl (0, 10, .inl (fun _ => 0)), .inl (0, 61, .inl (fun _ => 0)), .inl (3, 61, .inl (fun _ => 0)), .inl (0, 114, .inl (fun _ => 0)), .inl (0, 24, .inl (fun _ => 0)), .inl (0, 24, .inl (fun _ => 0)), .inl (1, 48, .inr (.inl (fun _ => 0))), .inl (2, 48, .inr (.inr (.inr (.inl (fun _ => 0))))), .inl (3, 2, .inl (fun _ => 0)), .inl (0, 20, .inl (fun _ => 0)), .inl (0, 20, .inl (fun _ => 0)), .inl (0, 20, .inl (fun _ => 0)), .inl (0, 20, .inl (fun _ => 0)), .inl (0, 480, .inl (fun _ => 0)), .inl (1, 480, .inr (.inl (fun _ => 0))), .inl (2, 480, .inr (.inr (.inr (.inl (fun _ => 0)))))] 3130) (b_put0 (by exact (by decide : 33 < 34))) ?_
  exact L
end CT
