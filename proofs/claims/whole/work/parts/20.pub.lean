/-! what the calls do -/
/-- the first element that an array of a type can not have -/
def ufA (ty : Nat) (f : Nat → mC) : Nat → Nat → Nat
  | 0, i => i
  | d + 1, i => if fitB ty (kn (f i)) = true then ufA ty f d (i + 1) else i
def ufit (x : sR) (ty : Nat) : Nat := ufA ty x.2.2 x.2.1 0
theorem ufA_le (ty : Nat) (f : Nat → mC) : ∀ d i, i ≤ ufA ty f d i ∧ ufA ty f d i ≤ i + d
  | 0, i => ⟨Nat.le_refl _, Nat.le_refl _⟩
  | d + 1, i => by
    unfold ufA
    have := ufA_le ty f d (i + 1)
    split
    · omega
    · omega
theorem ufA_fit (ty : Nat) (f : Nat → mC) : ∀ d i j, i ≤ j → j < ufA ty f d i → fitB ty (kn (f j)) = true
  | 0, i, j, h1, h2 => by unfold ufA at h2; omega
  | d + 1, i, j, h1, h2 => by
    unfold ufA at h2
    by_cases h : fitB ty (kn (f i)) = true
    · rw [if_pos h] at h2
      by_cases hij : i = j
      · subst hij; exact h
      · exact ufA_fit ty f d (i + 1) j (by omega) h2
    · rw [if_neg h] at h2
      omega
theorem ufit_le (x : sR) (ty : Nat) : ufit x ty ≤ x.2.1 := by
  have := (ufA_le ty x.2.2 x.2.1 0).2
  unfold ufit
  omega
theorem ufit_all {x : sR} {ty : Nat} (h : ¬ ufit x ty < x.2.1) : ∀ i, i < x.2.1 → fitB ty (kn (x.2.2 i)) = true := fun i hi => ufA_fit ty x.2.2 x.2.1 0 i (by omega) (by unfold ufit at h; omega)
abbrev sA (x : Int32) : sR := (0, 0, fun _ => (x, 0, 0))
def spOpen (S : sS) (c what n : Int32) (id : Nat) : Int32 × sS :=
  if ¬ inB c 10 then (-1, S) else if ¬ inB what 16 ∨ (inB what 13 ∧ ¬ inB n 25) ∨ (what = 14 ∧ ¬ inB n 100) then (-2, S) else if what = 13 ∧ qN S = 60 then (-4, S) else
  (0, if inB what 13 then uC (uR S id (what.toNatClampNeg, n.toNatClampNeg, fun _ => blk what.toNatClampNeg)) c.toNatClampNeg (.inl id) else if what = 13 then uC (uN (uW S (qN S) n) (qN S + 1)) c.toNatClampNeg (.inr (8, lN (qN S + 1), 0)) else if what = 14 then uC S c.toNatClampNeg (.inr (10, n.toInt64, 0)) else uC S c.toNatClampNeg (.inr (11, 0, 0)))
def spHang (S : sS) (c to how : Int32) (id : Nat) : Int32 × sS :=
  if ¬ inB c 10 ∨ ¬ inB to 10 then (-1, S) else if ¬ inB how 2 then (-2, S) else if how = 0 then (0, uC S to.toNatClampNeg (qC S c.toNatClampNeg)) else match qC S c.toNatClampNeg with
  | .inr v => (nI (if v.1 = 11 then 1 else 2), S)
  | .inl r => match qR S r with
    | none => (0, S)
    | some x => (0, uC (uR S id x) to.toNatClampNeg (.inl id))
def spSame (S : sS) (c d : Int32) : Int32 :=
  if ¬ inB c 10 ∨ ¬ inB d 10 then -1 else match qC S c.toNatClampNeg with
  | .inr _ => 0
  | .inl r => if qC S d.toNatClampNeg = .inl r then 1 else 0
def spLen (S : sS) (c : Int32) : Int32 × sS :=
  if ¬ inB c 10 then (-1, S) else match qC S c.toNatClampNeg with
  | .inr v => (-10 - nI (if v.1 = 11 then 1 else 2), uT S (6 * 18 + if v.1 = 11 then 1 else 2))
  | .inl r => match qR S r with
    | none => (0, S)
    | some x => (nI x.2.1, uT S (6 * 18 + 0))
def spRead (S : sS) (c cell k : Int32) : Int32 × sS :=
  if ¬ inB c 10 then (-1, S) else if ¬ inB k 8 then (-2, S) else (nI (cnt k.toNatClampNeg (rdA S c.toNatClampNeg cell k.toNatClampNeg)).1, (cnt k.toNatClampNeg (rdA S c.toNatClampNeg cell k.toNatClampNeg)).2)
/-- the number of a type that is made of v -/
def mkN (k : Nat) (v : Int64) : mC := (nI k, if k = 0 then v &&& 1 else if k = 1 then v.toInt32.toInt8.toInt32.toInt64 else if k = 2 then ((v.toInt32.toUInt32 % 65536).toInt32).toInt64 else if k = 3 then v.toInt32.toInt16.toInt32.toInt64 else if k = 4 then v.toInt32.toInt64 else if k = 5 then v else 0, if k = 6 then FP.ddiv (FP.f2d (FP.l2f v)) 4620693217682128896 else if k = 7 then FP.ddiv (FP.l2d v) 4620693217682128896 else 0)
def spWrite (S : sS) (c cell k : Int32) (v : Int64) : Int32 × sS :=
  if ¬ inB c 10 then (-1, S) else if ¬ inB k 8 then (-2, S) else (nI (cnt (9 + k.toNatClampNeg) (wrA S c.toNatClampNeg cell (mkN k.toNatClampNeg v))).1, (cnt (9 + k.toNatClampNeg) (wrA S c.toNatClampNeg cell (mkN k.toNatClampNeg v))).2)
def spTake (S : sS) (c cell : Int32) : Int32 × sS :=
  if ¬ inB c 10 then (-1, S) else (nI (cnt 8 (tkA S c.toNatClampNeg cell)).1, (cnt 8 (tkA S c.toNatClampNeg cell)).2)
def spLay (S : sS) (c cell : Int32) : Int32 × sS :=
  if ¬ inB c 10 then (-1, S) else (nI (cnt 17 (lyA S c.toNatClampNeg cell)).1, (cnt 17 (lyA S c.toNatClampNeg cell)).2)
def inJ (v : Int64) (n : Int64) : Prop := ¬ v < 0 ∧ ¬ n < v
def spHand (S : sS) (what : Int32) (v : Int64) : Int32 × sS :=
  if ¬ inB what 12 ∨ (what = 10 ∧ (v < 0 ∨ 99 < v)) then (-2, S) else if (what = 8 ∨ what = 9) ∧ qN S = 60 then (-4, S) else
  (0, if inB what 8 then uH S (mkN what.toNatClampNeg v) else if what = 8 ∨ what = 9 then uH (uN (uW S (qN S) v.toInt32) (qN S + 1)) (what, lN (qN S + 1), 0) else if what = 10 then uH S (10, v, 0) else uH S (11, 0, 0))
def stn (S : sS) : Prop := (qH S).1 = 8 ∨ (qH S).1 = 9
def spInH (S : sS) (what : Int32) : Int64 :=
  if what = 0 then (qH S).1.toInt64 else if what = 1 then (if (qH S).1 = 8 ∨ (qH S).1 = 9 then (qW S ((qH S).2.1.toInt32 - 1).toNatClampNeg).toInt64 else cde (qH S)) else if what = 2 then (if (qH S).1 = 8 ∨ (qH S).1 = 9 then (qH S).2.1 else 0) else -2
def spChip (S : sS) (n : Int32) : Int32 × sS :=
  if (qH S).1 = 8 ∨ (qH S).1 = 9 then (qW S ((qH S).2.1.toInt32 - 1).toNatClampNeg + n, uW S ((qH S).2.1.toInt32 - 1).toNatClampNeg (qW S ((qH S).2.1.toInt32 - 1).toNatClampNeg + n)) else (-3, S)
/-- a row with a piece cut out, and the piece -/
def rCut (x : sR) (a m : Nat) : sR := (x.1, x.2.1 - m, fun i => if i < a then x.2.2 i else x.2.2 (i + m))
def rPart (x : sR) (a m : Nat) : sR := (x.1, m, fun i => x.2.2 (a + i))
def spCut (S : sS) (c a m : Int32) (id id2 : Nat) : Int32 × sS :=
  if ¬ inB c 10 then (-1, S) else match qC S c.toNatClampNeg with
  | .inr v => (nI (if v.1 = 11 then 1 else 2), S)
  | .inl r => match qR S r with
    | none => (0, S)
    | some x => if a < 0 ∨ m < 1 ∨ nI x.2.1 - a < m then (4, S) else (0, uC (uK (uR (uR S id (rCut x a.toNatClampNeg m.toNatClampNeg)) id2 (rPart x a.toNatClampNeg m.toNatClampNeg)) id2) c.toNatClampNeg (.inl id))
def rPaste (x y : sR) (p : Nat) : sR := (x.1, x.2.1 + y.2.1, fun i => if i < p then x.2.2 i else if i < p + y.2.1 then pv x.1 (y.2.2 (i - p)) else x.2.2 (i - y.2.1))
def spPaste (S : sS) (c p : Int32) (id : Nat) : Int32 × sS :=
  if ¬ inB c 10 then (-1, S) else match qK S with
  | none => (-3, S)
  | some s => match qC S c.toNatClampNeg with
    | .inr v => (nI (if v.1 = 11 then 1 else 2), S)
    | .inl r => match qR S r, qR S s with
      | some x, some y => if 24 < x.2.1 + y.2.1 then (-4, S) else if ¬ inB p (x.2.1 + 1) then (4, S) else if ufit y x.1 < y.2.1 then (5, uS S (4, lN (ufit y x.1), 0)) else (0, uC (uR S id (rPaste x y p.toNatClampNeg)) c.toNatClampNeg (.inl id))
      | _, _ => (0, S)
def rTurn (x : sR) (k : Nat) : sR := (k, x.2.1, fun i => pv k (x.2.2 i))
def spTurn (S : sS) (c k : Int32) (id : Nat) : Int32 × sS :=
  if ¬ inB c 10 then (-1, S) else if ¬ inB k 13 then (-2, S) else match qC S c.toNatClampNeg with
  | .inr v => (nI (if v.1 = 11 then 1 else 2), S)
  | .inl r => match qR S r with
    | none => (0, S)
    | some x => if ufit x k.toNatClampNeg < x.2.1 then (5, uS S (4, lN (ufit x k.toNatClampNeg), 0)) else (0, uC (uR S id (rTurn x k.toNatClampNeg)) c.toNatClampNeg (.inl id))
/-! calls, second half -/
/-- an index of a pair -/
def sdX (P : Nat × (Nat → Nat) × (Nat → Nat)) (side : Int32) (i : Nat) : Nat := if side = 0 then P.2.1 i else P.2.2 i
def spGath (S : sS) (c side to : Int32) (id : Nat) : Int32 × sS :=
  if ¬ inB c 10 ∨ ¬ inB to 10 then (-1, S) else if ¬ inB side 2 then (-2, S) else match qC S c.toNatClampNeg with
  | .inr v => (nI (if v.1 = 11 then 1 else 2), S)
  | .inl r => match qR S r with
    | none => (0, S)
    | some x => if ∀ i, i < (qP S).1 → sdX (qP S) side i < x.2.1 then (0, uC (uR S id (x.1, (qP S).1, fun i => x.2.2 (sdX (qP S) side i))) to.toNatClampNeg (.inl id)) else (4, S)
def spPair (S : sS) (i what : Int32) : Int32 :=
  if ¬ inB what 2 then -2 else if inB i (qP S).1 then (if what = 0 then nI ((qP S).2.1 i.toNatClampNeg) else nI ((qP S).2.2 i.toNatClampNeg)) else -6
def spMet (S : sS) (a b : Int32) : Int32 := if inB a 19 ∧ inB b 6 then qT S (6 * a.toNatClampNeg + b.toNatClampNeg) else -2
/-- how many counts are above 0 -/
def dif (T : Nat → Int32) : Nat → Nat → Nat
  | 0, _ => 0
  | d + 1, i => (if 0 < T i then 1 else 0) + dif T d (i + 1)
def cntO (S : sS) (c : Nat) : Int32 := match qC S c with
  | .inr v => if v.1 = 11 then 15 else if v.1 = 10 then 14 else 13
  | .inl r => match qR S r with
    | none => 0
    | some x => nI x.1
def spCount (S : sS) (what : Int32) : Int32 :=
  if what = 0 then qA S else if what = 1 then nI (qP S).1 else if what = 2 then (match qK S with
    | none => -6
    | some s => match qR S s with
      | none => 0
      | some y => nI y.2.1) else if what = 3 then (match qK S with
    | none => -6
    | some s => match qR S s with
      | none => 0
      | some y => nI y.1) else if what = 4 then nI (qN S) else if what = 5 then nI (dif (qT S) 114 0) else if inB (what - 10) 10 ∧ ¬ what < 10 then cntO S (what - 10).toNatClampNeg else -2
/-- which types can have all elements, bit by bit -/
def mskB (b : Nat → Bool) : Int32 := (if b 0 = true then 1 else 0) ||| (if b 1 = true then 2 else 0) ||| (if b 2 = true then 4 else 0) ||| (if b 3 = true then 8 else 0) ||| (if b 4 = true then 16 else 0) ||| (if b 5 = true then 32 else 0) ||| (if b 6 = true then 64 else 0) ||| (if b 7 = true then 128 else 0) ||| (if b 8 = true then 256 else 0) ||| (if b 9 = true then 512 else 0) ||| (if b 10 = true then 1024 else 0) ||| (if b 11 = true then 2048 else 0) ||| (if b 12 = true then 4096 else 0)
def spFits (S : sS) (c : Int32) : Int32 :=
  if ¬ inB c 10 then -1 else match qC S c.toNatClampNeg with
  | .inr _ => 0
  | .inl r => match qR S r with
    | none => 0
    | some x => mskB (fun ty => decide (ufit x ty = x.2.1))
