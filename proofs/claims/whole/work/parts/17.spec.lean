/-! what a notebook is: rows by their names, columns, what is shown and held, the clip, pairs, stones, counts, images -/
/-- the table of homes -/
def xhom (j : Nat) : Int32 := match j with
  | 0 => 513
  | 1 => 762
  | 2 => 756
  | 3 => 760
  | 4 => 1008
  | 5 => 736
  | 6 => 704
  | 7 => 640
  | 8 => 1024
  | 9 => 3072
  | 10 => 4608
  | _ => 7936
/-- a thing: its kind, its number, its broken number -/
abbrev mC : Type := Int32 × Int64 × UInt64
/-- an array: its type, its size, its elements -/
abbrev sR : Type := Nat × Nat × (Nat → mC)
/-- what a column holds: an array or a thing -/
abbrev sO : Type := Nat ⊕ mC
abbrev sS : Type := (Nat → sO) × (Nat → Option sR) × mC × mC × Option Nat × (Nat × (Nat → Nat) × (Nat → Nat)) × (Nat → Int32) × Nat × (Nat → Int32) × Int32 × (Nat → Option (Nat → sO))
abbrev qC (S : sS) : Nat → sO := S.1
abbrev qR (S : sS) : Nat → Option sR := S.2.1
abbrev qS (S : sS) : mC := S.2.2.1
abbrev qH (S : sS) : mC := S.2.2.2.1
abbrev qK (S : sS) : Option Nat := S.2.2.2.2.1
abbrev qP (S : sS) : Nat × (Nat → Nat) × (Nat → Nat) := S.2.2.2.2.2.1
abbrev qW (S : sS) : Nat → Int32 := S.2.2.2.2.2.2.1
abbrev qN (S : sS) : Nat := S.2.2.2.2.2.2.2.1
abbrev qT (S : sS) : Nat → Int32 := S.2.2.2.2.2.2.2.2.1
abbrev qA (S : sS) : Int32 := S.2.2.2.2.2.2.2.2.2.1
abbrev qI (S : sS) : Nat → Option (Nat → sO) := S.2.2.2.2.2.2.2.2.2.2
def uC (S : sS) (c : Nat) (h : sO) : sS := (va_up S.1 c h, S.2)
def uPg (S : sS) (f : Nat → sO) : sS := (f, S.2)
def uR (S : sS) (r : Nat) (x : sR) : sS := (S.1, va_up S.2.1 r (some x), S.2.2)
def uS (S : sS) (v : mC) : sS := (S.1, S.2.1, v, S.2.2.2)
def uH (S : sS) (v : mC) : sS := (S.1, S.2.1, S.2.2.1, v, S.2.2.2.2)
def uK (S : sS) (r : Nat) : sS := (S.1, S.2.1, S.2.2.1, S.2.2.2.1, some r, S.2.2.2.2.2)
def uP (S : sS) (p : Nat × (Nat → Nat) × (Nat → Nat)) : sS := (S.1, S.2.1, S.2.2.1, S.2.2.2.1, S.2.2.2.2.1, p, S.2.2.2.2.2.2)
def uW (S : sS) (i : Nat) (x : Int32) : sS := (S.1, S.2.1, S.2.2.1, S.2.2.2.1, S.2.2.2.2.1, S.2.2.2.2.2.1, va_up S.2.2.2.2.2.2.1 i x, S.2.2.2.2.2.2.2)
def uN (S : sS) (n : Nat) : sS := (S.1, S.2.1, S.2.2.1, S.2.2.2.1, S.2.2.2.2.1, S.2.2.2.2.2.1, S.2.2.2.2.2.2.1, n, S.2.2.2.2.2.2.2.2)
def uT (S : sS) (i : Nat) : sS := (S.1, S.2.1, S.2.2.1, S.2.2.2.1, S.2.2.2.2.1, S.2.2.2.2.2.1, S.2.2.2.2.2.2.1, S.2.2.2.2.2.2.2.1, va_up S.2.2.2.2.2.2.2.2.1 i (S.2.2.2.2.2.2.2.2.1 i + 1), S.2.2.2.2.2.2.2.2.2)
def uA (S : sS) (x : Int32) : sS := (S.1, S.2.1, S.2.2.1, S.2.2.2.1, S.2.2.2.2.1, S.2.2.2.2.2.1, S.2.2.2.2.2.2.1, S.2.2.2.2.2.2.2.1, S.2.2.2.2.2.2.2.2.1, x, S.2.2.2.2.2.2.2.2.2.2)
def uI (S : sS) (k : Nat) (f : Nat → sO) : sS := (S.1, S.2.1, S.2.2.1, S.2.2.2.1, S.2.2.2.2.1, S.2.2.2.2.2.1, S.2.2.2.2.2.2.1, S.2.2.2.2.2.2.2.1, S.2.2.2.2.2.2.2.2.1, S.2.2.2.2.2.2.2.2.2.1, va_up S.2.2.2.2.2.2.2.2.2.2 k (some f))
/-- can an array of a type have a thing of a kind -/
def fitB (ty k : Nat) : Bool := (xhom k).toBitVec.getLsbD ty
/-- a number as one of a type that its own widens to -/
def wid (v : mC) (k : Nat) : mC := if nI k = v.1 then v else if v.1 = 6 then (nI k, 0, v.2.2) else if k = 6 then (nI k, 0, FP.f2d (FP.l2f v.2.1)) else if k = 7 then (nI k, 0, FP.l2d v.2.1) else (nI k, v.2.1, 0)
/-- what is put into an array of a type -/
def pv (ty : Nat) (v : mC) : mC := if 7 < ty then v else wid v ty
def blk (ty : Nat) : mC := (if 7 < ty then 11 else nI ty, 0, 0)
/-- a broken number that is a multiple of an eighth, and not too great -/
def nR (B : Int) (x : UInt64) : Prop := ∃ s c q, FP.Core.val64 x = FP.Core.Datum.fin s c q ∧ (c = 0 ∨ q ≤ B ∧ 2 ^ (-3 - q).toNat ∣ c)
/-- a thing as it may be, with so many stones -/
def tok (N : Nat) (v : mC) : Prop := ∃ k, k < 12 ∧ v.1 = nI k ∧ ((k < 6 ∧ v.2.2 = 0) ∨ ((k = 6 ∨ k = 7) ∧ v.2.1 = 0 ∧ nR 11 v.2.2) ∨ ((k = 8 ∨ k = 9) ∧ v.2.2 = 0 ∧ ∃ j, 0 < j ∧ j ≤ N ∧ v.2.1 = lN j) ∨ (k = 10 ∧ v.2.2 = 0 ∧ ∃ j, j < 100 ∧ v.2.1 = lN j) ∨ (k = 11 ∧ v.2.1 = 0 ∧ v.2.2 = 0))
/-- an array as it may be -/
def rok (N : Nat) (r : sR) : Prop := r.1 < 13 ∧ r.2.1 ≤ 24 ∧ ∀ i, i < r.2.1 → tok N (r.2.2 i) ∧ (∃ k, k < 12 ∧ (r.2.2 i).1 = nI k ∧ fitB r.1 k = true) ∧ (r.1 ≤ 7 → (r.2.2 i).1 = nI r.1)
/-- a column as it may be -/
def hok (N : Nat) (R : Nat → Option sR) (h : sO) : Prop := match h with
  | .inl r => ∃ x, R r = some x ∧ rok N x
  | .inr v => v = (11, 0, 0) ∨ (∃ j, j < 100 ∧ v = (10, lN j, 0)) ∨ (∃ j, 0 < j ∧ j ≤ N ∧ v = (8, lN j, 0))
def wf (S : sS) : Prop :=
  (∀ c, c < 10 → hok (qN S) (qR S) (qC S c)) ∧
  (∃ k, k < 8 ∧ (qS S).1 = nI k ∧ ((k = 6 ∨ k = 7) → nR 20 (qS S).2.2)) ∧
  tok (qN S) (qH S) ∧
  (∀ r, qK S = some r → (∃ x, qR S r = some x ∧ rok (qN S) x) ∧ ∀ c, c < 10 → qC S c ≠ .inl r) ∧
  ((qP S).1 ≤ 24 ∧ ∀ i, i < (qP S).1 → (qP S).2.1 i < 24 ∧ (qP S).2.2 i < 24) ∧
  qN S ≤ 60 ∧
  (∀ k f, k < 2 → qI S k = some f → ∀ c, c < 10 → hok (qN S) (qR S) (f c) ∧ ∀ r, f c = .inl r → ∀ d, d < 10 → qC S d ≠ .inl r)
