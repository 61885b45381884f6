/-! what single accesses do -/
/-- what length would answer -/
def lenA (S : sS) (c : Nat) : Nat := match qC S c with
  | .inl _ => 0
  | .inr v => if v.1 = 11 then 1 else 2
abbrev inB (x : Int32) (n : Nat) : Prop := ¬ x < 0 ∧ x.toNatClampNeg < n
/-- the kind of a thing -/
abbrev kn (v : mC) : Nat := v.1.toNatClampNeg
def rdA (S : sS) (c : Nat) (cell : Int32) (k : Nat) : Nat × sS := match qC S c with
  | .inr v => (if v.1 = 11 then 1 else 2, S)
  | .inl r => match qR S r with
    | none => (0, S)
    | some x => if 7 < x.1 then (3, S) else if inB cell x.2.1 then (if fitB k x.1 = true then (0, uS S (wid (x.2.2 cell.toNatClampNeg) k)) else (5, S)) else (4, S)
def wrA (S : sS) (c : Nat) (cell : Int32) (v : mC) : Nat × sS := match qC S c with
  | .inr v => (if v.1 = 11 then 1 else 2, S)
  | .inl r => match qR S r with
    | none => (0, S)
    | some x => if 7 < x.1 then (3, S) else if inB cell x.2.1 then (if fitB x.1 (kn v) = true then (0, uR S r (x.1, x.2.1, va_up x.2.2 cell.toNatClampNeg (pv x.1 v))) else (5, S)) else (4, S)
def tkA (S : sS) (c : Nat) (cell : Int32) : Nat × sS := match qC S c with
  | .inr v => (if v.1 = 11 then 1 else 2, S)
  | .inl r => match qR S r with
    | none => (0, S)
    | some x => if inB cell x.2.1 then (0, uH S (x.2.2 cell.toNatClampNeg)) else (4, S)
def lyA (S : sS) (c : Nat) (cell : Int32) : Nat × sS := match qC S c with
  | .inr v => (if v.1 = 11 then 1 else 2, S)
  | .inl r => match qR S r with
    | none => (0, S)
    | some x => if inB cell x.2.1 then (if fitB x.1 (kn (qH S)) = true then (0, uR S r (x.1, x.2.1, va_up x.2.2 cell.toNatClampNeg (pv x.1 (qH S)))) else (5, S)) else (4, S)
/-- an access is counted -/
def cnt (a : Nat) (p : Nat × sS) : Nat × sS := (p.1, uT p.2 (6 * a + p.1))
section OPS
variable {S : sS} {c k r : Nat} {cell : Int32} {v w : mC} {x : sR}
theorem lenA_th (h : qC S c = .inr v) : lenA S c = if v.1 = 11 then 1 else 2 := by unfold lenA; rw [h]
theorem lenA_row (h : qC S c = .inl r) : lenA S c = 0 := by unfold lenA; rw [h]
theorem rdA_th (h : qC S c = .inr v) : rdA S c cell k = (if v.1 = 11 then 1 else 2, S) := by unfold rdA; rw [h]
theorem rdA_row (h : qC S c = .inl r) (hx : qR S r = some x) : rdA S c cell k = if 7 < x.1 then (3, S) else if inB cell x.2.1 then (if fitB k x.1 = true then (0, uS S (wid (x.2.2 cell.toNatClampNeg) k)) else (5, S)) else (4, S) := by
  unfold rdA; rw [h]; simp only; rw [hx]
theorem wrA_th (h : qC S c = .inr v) : wrA S c cell w = (if v.1 = 11 then 1 else 2, S) := by unfold wrA; rw [h]
theorem wrA_row (h : qC S c = .inl r) (hx : qR S r = some x) : wrA S c cell w = if 7 < x.1 then (3, S) else if inB cell x.2.1 then (if fitB x.1 (kn w) = true then (0, uR S r (x.1, x.2.1, va_up x.2.2 cell.toNatClampNeg (pv x.1 w))) else (5, S)) else (4, S) := by
  unfold wrA; rw [h]; simp only; rw [hx]
theorem tkA_th (h : qC S c = .inr v) : tkA S c cell = (if v.1 = 11 then 1 else 2, S) := by unfold tkA; rw [h]
theorem tkA_row (h : qC S c = .inl r) (hx : qR S r = some x) : tkA S c cell = if inB cell x.2.1 then (0, uH S (x.2.2 cell.toNatClampNeg)) else (4, S) := by
  unfold tkA; rw [h]; simp only; rw [hx]
theorem lyA_th (h : qC S c = .inr v) : lyA S c cell = (if v.1 = 11 then 1 else 2, S) := by unfold lyA; rw [h]
theorem lyA_row (h : qC S c = .inl r) (hx : qR S r = some x) : lyA S c cell = if inB cell x.2.1 then (if fitB x.1 (kn (qH S)) = true then (0, uR S r (x.1, x.2.1, va_up x.2.2 cell.toNatClampNeg (pv x.1 (qH S)))) else (5, S)) else (4, S) := by
  unfold lyA; rw [h]; simp only; rw [hx]
end OPS
