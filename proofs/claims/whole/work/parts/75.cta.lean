/-! the constructors -/
def bW (w0 : xW) (cs : List xE) (s : Nat) : xW := (w0.1 + cs.length, w0.2.1 + s, w0.2.2.1, fun a => if a < w0.1 then w0.2.2.2 a else cs[a - w0.1]?)
theorem bnd {α β : Type} {x : Option α} {f : α → Option β} {y : α} {z : Option β} (h : x = some y) (g : f y = z) : x.bind f = z := by rw [h]; exact g
section BW
variable {w w0 : xW} {cs : List xE} {s k n ci j : Nat} {e : xE}
theorem bW_0 (hd : wd w) : w = bW w [] 0 := by
  obtain ⟨n, s, h, f⟩ := w
  show (n, s, h, f) = (n, s, h, fun a => if a < n then f a else none)
  refine congrArg (fun g => (n, s, h, g)) (funext fun a => ?_)
  by_cases ha : a < n
  · rw [if_pos ha]
  · rw [if_neg ha]
    cases hfa : f a with
    | none => rfl
    | some e => exact absurd (hd a e hfa) ha
theorem bW_push (w0 : xW) (cs : List xE) (s n : Nat) (e : xE) : xpush (bW w0 cs s) n e = bW w0 (cs ++ [e]) (s + n) := by
  have h1 : (cs ++ [e]).length = cs.length + 1 := by simp
  show (w0.1 + cs.length + 1, w0.2.1 + s + n, w0.2.2.1, xup (fun a => if a < w0.1 then w0.2.2.2 a else cs[a - w0.1]?) (w0.1 + cs.length) e) = (w0.1 + (cs ++ [e]).length, w0.2.1 + (s + n), w0.2.2.1, fun a => if a < w0.1 then w0.2.2.2 a else (cs ++ [e])[a - w0.1]?)
  rw [h1, Nat.add_assoc, Nat.add_assoc]
  refine congrArg (fun g => (w0.1 + (cs.length + 1), w0.2.1 + (s + n), w0.2.2.1, g)) (funext fun a => ?_)
  show (if a = w0.1 + cs.length then some e else if a < w0.1 then w0.2.2.2 a else cs[a - w0.1]?) = if a < w0.1 then w0.2.2.2 a else (cs ++ [e])[a - w0.1]?
  by_cases ha : a < w0.1
  · rw [if_neg (by omega), if_pos ha, if_pos ha]
  · by_cases h2 : a = w0.1 + cs.length
    · rw [if_pos h2, if_neg ha, h2, Nat.add_sub_cancel_left, List.getElem?_append_right (Nat.le_refl _), Nat.sub_self]
      rfl
    · rw [if_neg h2, if_neg ha, if_neg ha]
      by_cases h3 : a - w0.1 < cs.length
      · rw [List.getElem?_append_left h3]
      · rw [List.getElem?_eq_none (by omega), List.getElem?_eq_none (by rw [h1]; omega)]
theorem bW_at (w0 : xW) (cs : List xE) (s k : Nat) : (bW w0 cs s).2.2.2 (w0.1 + k) = cs[k]? := by
  show (if w0.1 + k < w0.1 then _ else cs[w0.1 + k - w0.1]?) = _
  rw [if_neg (by omega), Nat.add_sub_cancel_left]
theorem bW_old {a : Nat} (h : a < w0.1) : (bW w0 cs s).2.2.2 a = w0.2.2.2 a := if_pos h
theorem bW_set (hk : k < cs.length) : xset (bW w0 cs s) (w0.1 + k) e = bW w0 (cs.set k e) s := by
  show (w0.1 + cs.length, w0.2.1 + s, w0.2.2.1, xup (fun a => if a < w0.1 then w0.2.2.2 a else cs[a - w0.1]?) (w0.1 + k) e) = (w0.1 + (cs.set k e).length, w0.2.1 + s, w0.2.2.1, fun a => if a < w0.1 then w0.2.2.2 a else (cs.set k e)[a - w0.1]?)
  rw [List.length_set]
  refine congrArg (fun g => (w0.1 + cs.length, w0.2.1 + s, w0.2.2.1, g)) (funext fun a => ?_)
  show (if a = w0.1 + k then some e else if a < w0.1 then w0.2.2.2 a else cs[a - w0.1]?) = if a < w0.1 then w0.2.2.2 a else (cs.set k e)[a - w0.1]?
  by_cases ha : a < w0.1
  · rw [if_neg (by omega), if_pos ha, if_pos ha]
  · by_cases h2 : a = w0.1 + k
    · rw [if_pos h2, if_neg ha, h2, Nat.add_sub_cancel_left, List.getElem?_set_self hk]
    · rw [if_neg h2, if_neg ha, if_neg ha, List.getElem?_set_ne (by omega)]
theorem bW_bW (w0 : xW) (cs cs2 : List xE) (s s2 : Nat) : bW (bW w0 cs s) cs2 s2 = bW w0 (cs ++ cs2) (s + s2) := by
  show (w0.1 + cs.length + cs2.length, w0.2.1 + s + s2, w0.2.2.1, fun a => if a < w0.1 + cs.length then (if a < w0.1 then w0.2.2.2 a else cs[a - w0.1]?) else cs2[a - (w0.1 + cs.length)]?) = (w0.1 + (cs ++ cs2).length, w0.2.1 + (s + s2), w0.2.2.1, fun a => if a < w0.1 then w0.2.2.2 a else (cs ++ cs2)[a - w0.1]?)
  rw [List.length_append, Nat.add_assoc, Nat.add_assoc]
  refine congrArg (fun g => (w0.1 + (cs.length + cs2.length), w0.2.1 + (s + s2), w0.2.2.1, g)) (funext fun a => ?_)
  by_cases ha : a < w0.1
  · rw [if_pos (by omega), if_pos ha, if_pos ha]
  · rw [if_neg ha, if_neg ha]
    by_cases h2 : a < w0.1 + cs.length
    · rw [if_pos h2, List.getElem?_append_left (by omega)]
    · rw [if_neg h2, List.getElem?_append_right (by omega), Nat.sub_sub]
theorem bW_wd (hd : wd w0) : wd (bW w0 cs s) := by
  intro a e he
  show a < w0.1 + cs.length
  by_cases ha : a < w0.1
  · omega
  · have he' : (if a < w0.1 then w0.2.2.2 a else cs[a - w0.1]?) = some e := he
    rw [if_neg ha] at he'
    obtain ⟨h, _⟩ := List.getElem?_eq_some_iff.mp he'
    omega
theorem b_put0 {fs : List xV} {v : xV} (hj : j < fs.length) : xput (bW w0 (.inr (ci, fs) :: cs) s) w0.1 ci j v = some (bW w0 (.inr (ci, fs.set j v) :: cs) s) := by
  have h : (bW w0 (.inr (ci, fs) :: cs) s).2.2.2 w0.1 = some (.inr (ci, fs)) := bW_at w0 (.inr (ci, fs) :: cs) s 0
  rw [xput_of h hj]
  exact congrArg some (bW_set (k := 0) (by simp))
theorem b_new (w0 : xW) (cs : List xE) (s k : Nat) {n : Nat} (hn : n < 1000) : xnew (bW w0 cs s) k (nI n) = some (bW w0 (cs ++ [.inl (k, n, xzero k)]) (s + n)) := by
  rw [xnew_of _ k hn, bW_push]
theorem b_one (hd : wd w) (n : Nat) (e : xE) : xpush w n e = bW w [e] n := by
  have := (congrArg (fun u => xpush u n e) (bW_0 hd)).trans (bW_push w [] 0 n e)
  rw [Nat.zero_add] at this
  exact this
abbrev eT (v : mC) : xE := .inr (5, [xI v.1, xJ v.2.1, xD v.2.2])
theorem b_Thing (w0 : xW) (cs : List xE) (s : Nat) (k : Int32) (m : Int64) (x : UInt64) : xev 31 0 [some (xA (some ((bW w0 cs s).1))), some (xI (k)), some (xJ (m)), none, some (xD (x)), none] [] (xpush (bW w0 cs s) 3 (.inr (5, xdf 5))) = some (none, bW w0 (cs ++ [eT (k, m, x)]) (s + 3)) := by
  rw [c_Thing]
  exact congrArg (fun u => some (none, u)) (bW_push w0 cs s 3 _)
theorem b_Pairs (hd : wd w) : xev 5 0 [some (xA (some (w.1)))] [] (xpush w 3 (.inr (1, xdf 1))) = some (none, bW w [.inr (1, [xA (some (w.1 + 1)), xA (some (w.1 + 2)), xI 0]), aI 0 24 (fun _ => 0), aI 0 24 (fun _ => 0)] 51) := by
  rw [b_one hd, e_X2_init_0, b_X2_init_0]
  refine bnd (b_new _ _ _ _ (n := 24) (by decide)) ?_
  refine bnd (b_put0 (by exact (by decide : 0 < 3))) ?_
  refine bnd (b_new _ _ _ _ (n := 24) (by decide)) ?_
  refine bnd (b_put0 (by exact (by decide : 1 < 3))) ?_
  refine bnd (b_put0 (by exact (by decide : 2 < 3))) ?_
  rfl
theorem b_Read (hd : wd w) : xev 11 0 [some (xA (some (w.1)))] [] (xpush w 3 (.inr (2, xdf 2))) = some (none, bW w [.inr (2, [xA (some (w.1 + 1)), xA (some (w.1 + 2)), xI 0]), aA 5 24 (fun _ => none), eT (11, 0, 0)] 30) := by
  rw [b_one hd, e_X3_init_0, b_X3_init_0]
  refine bnd (b_new _ _ _ _ (n := 24) (by decide)) ?_
  refine bnd (b_put0 (by exact (by decide : 0 < 3))) ?_
  refine bnd (b_Thing _ _ _ _ _ _) ?_
  show xrV none _ = _
  rw [xrV_e]
  refine bnd (b_put0 (by exact (by decide : 1 < 3))) ?_
  refine bnd (b_put0 (by exact (by decide : 2 < 3))) ?_
  rfl
theorem b_Tally (hd : wd w) : xev 27 0 [some (xA (some (w.1)))] [] (xpush w 1 (.inr (4, xdf 4))) = some (none, bW w [.inr (4, [xA (some (w.1 + 1))]), aI 0 114 (fun _ => 0)] 115) := by
  rw [b_one hd, e_X5_init_0, b_X5_init_0]
  refine bnd (b_new _ _ _ _ (n := 114) (by decide)) ?_
  refine bnd (b_put0 (by exact (by decide : 0 < 1))) ?_
  rfl
theorem fil_s {α : Type} (i : Nat) (x y : α) : va_up (fun j => if j < i then x else y) i x = fun j => if j < i + 1 then x else y := by
  funext j
  by_cases hj : j = i
  · subst hj
    rw [va_e, if_pos (by omega)]
  · rw [va_n _ _ hj]
    by_cases h : j < i
    · rw [if_pos h, if_pos (by omega)]
    · rw [if_neg h, if_neg (by omega)]
theorem b_Page_l : ∀ d i, i + d = 10 → xev 0 27 [some (xA (some (w.1))), some (xA (some (w.1 + 2))), some (xI (nI i))] [] (bW w [.inr (0, [xA (some (w.1 + 1))]), aA 4 10 (fun j => if j < i then some (w.1 + 2) else none), eT (11, 0, 0)] 14) = some (none, bW w [.inr (0, [xA (some (w.1 + 1))]), aA 4 10 (fun j => if j < 10 then some (w.1 + 2) else none), eT (11, 0, 0)] 14)
  | 0, i, h => by
    have e : i = 10 := by omega
    subst e
    rw [e_X1_init_27, b_X1_init_27, if_neg (by decide)]
  | d + 1, i, h => by
    have c0 : (bW w [.inr (0, [xA (some (w.1 + 1))]), aA 4 10 (fun j => if j < i then some (w.1 + 2) else none), eT (11, 0, 0)] 14).2.2.2 w.1 = some (.inr (0, [xA (some (w.1 + 1))])) := bW_at w [.inr (0, [xA (some (w.1 + 1))]), aA 4 10 (fun j => if j < i then some (w.1 + 2) else none), eT (11, 0, 0)] 14 0
    have c1 : (bW w [.inr (0, [xA (some (w.1 + 1))]), aA 4 10 (fun j => if j < i then some (w.1 + 2) else none), eT (11, 0, 0)] 14).2.2.2 (w.1 + 1) = some (aA 4 10 (fun j => if j < i then some (w.1 + 2) else none)) := bW_at w [.inr (0, [xA (some (w.1 + 1))]), aA 4 10 (fun j => if j < i then some (w.1 + 2) else none), eT (11, 0, 0)] 14 1
    have c2 : oT (bW w [.inr (0, [xA (some (w.1 + 1))]), aA 4 10 (fun j => if j < i then some (w.1 + 2) else none), eT (11, 0, 0)] 14) (w.1 + 2) (11, 0, 0) := bW_at w [.inr (0, [xA (some (w.1 + 1))]), aA 4 10 (fun j => if j < i then some (w.1 + 2) else none), eT (11, 0, 0)] 14 2
    have st : xset (bW w [.inr (0, [xA (some (w.1 + 1))]), aA 4 10 (fun j => if j < i then some (w.1 + 2) else none), eT (11, 0, 0)] 14) (w.1 + 1) (aA 4 10 (va_up (fun j => if j < i then some (w.1 + 2) else none) i (some (w.1 + 2)))) = bW w [.inr (0, [xA (some (w.1 + 1))]), aA 4 10 (fun j => if j < i + 1 then some (w.1 + 2) else none), eT (11, 0, 0)] 14 := by
      rw [bW_set (by show 1 < 3; decide), fil_s]
      rfl
    rw [e_X1_init_27, b_X1_init_27, if_pos (show nI i < 10 from nI_lt (b := 10) (by omega) (by decide)), xgA_of (k := 0) c0 rfl, Option.bind_some, Option.bind_some, xsA_of c1 (T_c c2) rfl (show i < 10 by omega) (by decide), Option.bind_some, nI_1, st]
    exact b_Page_l d (i + 1) (by omega)
theorem b_Page (hd : wd w) : xev 0 0 [some (xA (some (w.1))), none, none] [] (xpush w 1 (.inr (0, xdf 0))) = some (none, bW w [.inr (0, [xA (some (w.1 + 1))]), aA 4 10 (fun j => if j < 10 then some (w.1 + 2) else none), eT (11, 0, 0)] 14) := by
  rw [b_one hd, e_X1_init_0, b_X1_init_0]
  refine bnd (b_new _ _ _ _ (n := 10) (by decide)) ?_
  refine bnd (b_put0 (by exact (by decide : 0 < 1))) ?_
  refine bnd (b_Thing _ _ _ _ _ _) ?_
  show xrV none _ = _
  rw [xrV_e]
  have := b_Page_l (w := w) 10 0 rfl
  rw [nI_0] at this
  have z : (fun j => if j < 0 then some (w.1 + 2) else none) = (fun _ : Nat => (none : Option Nat)) := by
    funext j
    rw [if_neg (Nat.not_lt_zero j)]
  rw [z] at this
  exact this
end BW
