/-! what single accesses do -/
/-- what length would answer -/
def lenA (S : sS) (c : Nat) : Nat := match qC S c with
  | .inl _ => 0
  | .inr v => if v.1 = 11 then 1 else 2
abbrev inB (x : Int32) (n : Nat) : Prop := ¬ x < 0 ∧ x.toNatClampNeg < n
/-- the kind of a thing -/
abbrev kn (v : mC) : Nat := v.1.toNatClampNeg
def rdA (S : sS) (c : Nat) (cell : Int32) (k : Nat) : Nat × sS := match qC S c with
  | .inr v => (if v.1 = 11 then 1 else 2, S)
  | .inl r => match qR S r with
    | none => (0, S)
    | some x => if 7 < x.1 then (3, S) else if inB cell x.2.1 then (if fitB k x.1 = true then (0, uS S (wid (x.2.2 cell.toNatClampNeg) k)) else (5, S)) else (4, S)
def wrA (S : sS) (c : Nat) (cell : Int32) (v : mC) : Nat × sS := match qC S c with
  | .inr v => (if v.1 = 11 then 1 else 2, S)
  | .inl r => match qR S r with
    | none => (0, S)
    | some x => if 7 < x.1 then (3, S) else if inB cell x.2.1 then (if fitB x.1 (kn v) = true then (0, uR S r (x.1, x.2.1, va_up x.2.2 cell.toNatClampNeg (pv x.1 v))) else (5, S)) else (4, S)
def tkA (S : sS) (c : Nat) (cell : Int32) : Nat × sS := match qC S c with
  | .inr v => (if v.1 = 11 then 1 else 2, S)
  | .inl r => match qR S r with
    | none => (0, S)
    | some x => if inB cell x.2.1 then (0, uH S (x.2.2 cell.toNatClampNeg)) else (4, S)
def lyA (S : sS) (c : Nat) (cell : Int32) : Nat × sS := match qC S c with
  | .inr v => (if v.1 = 11 then 1 else 2, S)
  | .inl r => match qR S r with
    | none => (0, S)
    | some x => if inB cell x.2.1 then (if fitB x.1 (kn (qH S)) = true then (0, uR S r (x.1, x.2.1, va_up x.2.2 cell.toNatClampNeg (pv x.1 (qH S)))) else (5, S)) else (4, S)
/-- an access is counted -/
def cnt (a : Nat) (p : Nat × sS) : Nat × sS := (p.1, uT p.2 (6 * a + p.1))
section OPS
variable {S : sS} {c k r : Nat} {cell : Int32} {v w : mC} {x : sR}
theorem lenA_th (h : qC S c = .inr v) : lenA S c = if v.1 = 11 then 1 else 2 := by unfold lenA; rw [h]
theorem lenA_row (h : qC S c = .inl r) : lenA S c = 0 := by unfold lenA; rw [h]
theorem rdA_th (h : qC S c = .inr v) : rdA S c cell k = (if v.1 = 11 then 1 else 2, S) := by unfold rdA; rw [h]
theorem rdA_row (h : qC S c = .inl r) (hx : qR S r = some x) : rdA S c cell k = if 7 < x.1 then (3, S) else if inB cell x.2.1 then (if fitB k x.1 = true then (0, uS S (wid (x.2.2 cell.toNatClampNeg) k)) else (5, S)) else (4, S) := by
  unfold rdA; rw [h]; simp only; rw [hx]
theorem wrA_th (h : qC S c = .inr v) : wrA S c cell w = (if v.1 = 11 then 1 else 2, S) := by unfold wrA; rw [h]
theorem wrA_row (h : qC S c = .inl r) (hx : qR S r = some x) : wrA S c cell w = if 7 < x.1 then (3, S) else if inB cell x.2.1 then (if fitB x.1 (kn w) = true then (0, uR S r (x.1, x.2.1, va_up x.2.2 cell.toNatClampNeg (pv x.1 w))) else (5, S)) else (4, S) := by
  unfold wrA; rw [h]; simp only; rw [hx]
theorem tkA_th (h : qC S c = .inr v) : tkA S c cell = (if v.1 = 11 then 1 else 2, S) := by unfold tkA; rw [h]
theorem tkA_row (h : qC S c = .inl r) (hx : qR S r = some x) : tkA S c cell = if inB cell x.2.1 then (0, uH S (x.2.2 cell.toNatClampNeg)) else (4, S) := by
  unfold tkA; rw [h]; simp only; rw [hx]
theorem lyA_th (h : qC S c = .inr v) : lyA S c cell = (if v.1 = 11 then 1 else 2, S) := by unfold lyA; rw [h]
theorem lyA_row (h : qC S c = .inl r) (hx : qR S r = some x) : lyA S c cell = if inB cell x.2.1 then (if fitB x.1 (kn (qH S)) = true then (0, uR S r (x.1, x.2.1, va_up x.2.2 cell.toNatClampNeg (pv x.1 (qH S)))) else (5, S)) else (4, S) := by
  unfold lyA; rw [h]; simp only; rw [hx]
end OPS
/-! the reference's state is set -/
theorem mj_si (t : mS) (k : Nat) (x : Int32) : mj (si t k x) = mj t := rfl
theorem md_si (t : mS) (k : Nat) (x : Int32) : md (si t k x) = md t := rfl
theorem mI_si (t : mS) (k : Nat) (x : Int32) : mI (si t k x) = mI t := rfl
theorem mJ_si (t : mS) (k : Nat) (x : Int32) : mJ (si t k x) = mJ t := rfl
theorem mD_si (t : mS) (k : Nat) (x : Int32) : mD (si t k x) = mD t := rfl
theorem mi_sj (t : mS) (k : Nat) (x : Int64) : mi (sj t k x) = mi t := rfl
theorem md_sj (t : mS) (k : Nat) (x : Int64) : md (sj t k x) = md t := rfl
theorem mI_sj (t : mS) (k : Nat) (x : Int64) : mI (sj t k x) = mI t := rfl
theorem mJ_sj (t : mS) (k : Nat) (x : Int64) : mJ (sj t k x) = mJ t := rfl
theorem mD_sj (t : mS) (k : Nat) (x : Int64) : mD (sj t k x) = mD t := rfl
theorem mi_sd (t : mS) (k : Nat) (x : UInt64) : mi (sd t k x) = mi t := rfl
theorem mj_sd (t : mS) (k : Nat) (x : UInt64) : mj (sd t k x) = mj t := rfl
theorem mI_sd (t : mS) (k : Nat) (x : UInt64) : mI (sd t k x) = mI t := rfl
theorem mJ_sd (t : mS) (k : Nat) (x : UInt64) : mJ (sd t k x) = mJ t := rfl
theorem mD_sd (t : mS) (k : Nat) (x : UInt64) : mD (sd t k x) = mD t := rfl
theorem mi_sI (t : mS) (k n : Nat) (x : Int32) : mi (sI t k n x) = mi t := rfl
theorem mj_sI (t : mS) (k n : Nat) (x : Int32) : mj (sI t k n x) = mj t := rfl
theorem md_sI (t : mS) (k n : Nat) (x : Int32) : md (sI t k n x) = md t := rfl
theorem mJ_sI (t : mS) (k n : Nat) (x : Int32) : mJ (sI t k n x) = mJ t := rfl
theorem mD_sI (t : mS) (k n : Nat) (x : Int32) : mD (sI t k n x) = mD t := rfl
theorem mi_sJ (t : mS) (k n : Nat) (x : Int64) : mi (sJ t k n x) = mi t := rfl
theorem mj_sJ (t : mS) (k n : Nat) (x : Int64) : mj (sJ t k n x) = mj t := rfl
theorem md_sJ (t : mS) (k n : Nat) (x : Int64) : md (sJ t k n x) = md t := rfl
theorem mI_sJ (t : mS) (k n : Nat) (x : Int64) : mI (sJ t k n x) = mI t := rfl
theorem mD_sJ (t : mS) (k n : Nat) (x : Int64) : mD (sJ t k n x) = mD t := rfl
theorem mi_sD (t : mS) (k n : Nat) (x : UInt64) : mi (sD t k n x) = mi t := rfl
theorem mj_sD (t : mS) (k n : Nat) (x : UInt64) : mj (sD t k n x) = mj t := rfl
theorem md_sD (t : mS) (k n : Nat) (x : UInt64) : md (sD t k n x) = md t := rfl
theorem mI_sD (t : mS) (k n : Nat) (x : UInt64) : mI (sD t k n x) = mI t := rfl
theorem mJ_sD (t : mS) (k n : Nat) (x : UInt64) : mJ (sD t k n x) = mJ t := rfl
theorem mi_si_e (t : mS) (k : Nat) (x : Int32) : mi (si t k x) k = x := if_pos rfl
theorem mi_si_n (t : mS) (k : Nat) (x : Int32) {j : Nat} (h : j ≠ k) : mi (si t k x) j = mi t j := if_neg h
theorem mj_sj_e (t : mS) (k : Nat) (x : Int64) : mj (sj t k x) k = x := if_pos rfl
theorem mj_sj_n (t : mS) (k : Nat) (x : Int64) {j : Nat} (h : j ≠ k) : mj (sj t k x) j = mj t j := if_neg h
theorem md_sd_e (t : mS) (k : Nat) (x : UInt64) : md (sd t k x) k = x := if_pos rfl
theorem md_sd_n (t : mS) (k : Nat) (x : UInt64) {j : Nat} (h : j ≠ k) : md (sd t k x) j = md t j := if_neg h
theorem mI_sI_n (t : mS) (k n : Nat) (x : Int32) {j : Nat} (h : j ≠ k) : mI (sI t k n x) j = mI t j := if_neg h
theorem mI_sI_e (t : mS) (k n : Nat) (x : Int32) (i : Nat) : mI (sI t k n x) k i = if i = n then x else mI t k i := congrFun (if_pos (rfl : k = k)) i
theorem mJ_sJ_n (t : mS) (k n : Nat) (x : Int64) {j : Nat} (h : j ≠ k) : mJ (sJ t k n x) j = mJ t j := if_neg h
theorem mJ_sJ_e (t : mS) (k n : Nat) (x : Int64) (i : Nat) : mJ (sJ t k n x) k i = if i = n then x else mJ t k i := congrFun (if_pos (rfl : k = k)) i
theorem mD_sD_n (t : mS) (k n : Nat) (x : UInt64) {j : Nat} (h : j ≠ k) : mD (sD t k n x) j = mD t j := if_neg h
theorem mD_sD_e (t : mS) (k n : Nat) (x : UInt64) (i : Nat) : mD (sD t k n x) k i = if i = n then x else mD t k i := congrFun (if_pos (rfl : k = k)) i
