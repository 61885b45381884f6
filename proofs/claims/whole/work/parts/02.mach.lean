/-! values, worlds, and what an instruction does to them: a pure machine -/
abbrev xV : Type := Int32 ⊕ Int64 ⊕ UInt32 ⊕ UInt64 ⊕ Option Nat
abbrev xI (x : Int32) : xV := .inl x
abbrev xJ (x : Int64) : xV := .inr (.inl x)
abbrev xF (x : UInt32) : xV := .inr (.inr (.inl x))
abbrev xD (x : UInt64) : xV := .inr (.inr (.inr (.inl x)))
abbrev xA (x : Option Nat) : xV := .inr (.inr (.inr (.inr x)))
def xv : xV → Value
  | .inl x => .int x
  | .inr (.inl x) => .long x
  | .inr (.inr (.inl x)) => .float x
  | .inr (.inr (.inr (.inl x))) => .double x
  | .inr (.inr (.inr (.inr x))) => va_rf x
def xct : xV → Nat
  | .inl _ => 1
  | .inr (.inl _) => 2
  | .inr (.inr (.inl _)) => 1
  | .inr (.inr (.inr (.inl _))) => 2
  | .inr (.inr (.inr (.inr _))) => 1
abbrev xL : Type := List (Option xV)
/-- a cell: an array (its kind, length, contents), or an object (the number of its class, its fields) -/
abbrev xE : Type := (Nat × vp_A) ⊕ (Nat × List xV)
/-- a world: how many cells there are, how many slots were made, where the table lies, the cells -/
abbrev xW : Type := Nat × Nat × Nat × (Nat → Option xE)
def xup (m : Nat → Option xE) (a : Nat) (e : xE) : Nat → Option xE := fun b => if b = a then some e else m b
def xset (w : xW) (a : Nat) (e : xE) : xW := (w.1, w.2.1, w.2.2.1, xup w.2.2.2 a e)
def xpush (w : xW) (n : Nat) (e : xE) : xW := (w.1 + 1, w.2.1 + n, w.2.2.1, xup w.2.2.2 w.1 e)
section XH
variable {α : Type}
def xcv (c : Option xV) (f : xV → Option α) : Option α := match c with
  | some v => f v
  | none => none
def xpI (st : List xV) (f : Int32 → List xV → Option α) : Option α := match st with
  | .inl x :: r => f x r
  | _ => none
def xpJ (st : List xV) (f : Int64 → List xV → Option α) : Option α := match st with
  | .inr (.inl x) :: r => f x r
  | _ => none
def xpF (st : List xV) (f : UInt32 → List xV → Option α) : Option α := match st with
  | .inr (.inr (.inl x)) :: r => f x r
  | _ => none
def xpD (st : List xV) (f : UInt64 → List xV → Option α) : Option α := match st with
  | .inr (.inr (.inr (.inl x))) :: r => f x r
  | _ => none
def xpA (st : List xV) (f : Option Nat → List xV → Option α) : Option α := match st with
  | .inr (.inr (.inr (.inr x))) :: r => f x r
  | _ => none
def xnl (st : List xV) (f : Option α) : Option α := match st with
  | [] => f
  | _ => none
def xlI (l : xL) (i : Nat) (f : Int32 → Option α) : Option α := match l[i]? with
  | some (some (.inl x)) => f x
  | _ => none
def xlJ (l : xL) (i : Nat) (f : Int64 → Option α) : Option α := match l[i]? with
  | some (some (.inr (.inl x))) => f x
  | _ => none
def xlF (l : xL) (i : Nat) (f : UInt32 → Option α) : Option α := match l[i]? with
  | some (some (.inr (.inr (.inl x)))) => f x
  | _ => none
def xlD (l : xL) (i : Nat) (f : UInt64 → Option α) : Option α := match l[i]? with
  | some (some (.inr (.inr (.inr (.inl x))))) => f x
  | _ => none
def xlA (l : xL) (i : Nat) (f : Option Nat → Option α) : Option α := match l[i]? with
  | some (some (.inr (.inr (.inr (.inr x))))) => f x
  | _ => none
/-- what a call answers -/
def xrV (r : Option xV) (f : Option α) : Option α := match r with
  | none => f
  | some _ => none
def xrI (r : Option xV) (f : Int32 → Option α) : Option α := match r with
  | some (.inl x) => f x
  | _ => none
def xrJ (r : Option xV) (f : Int64 → Option α) : Option α := match r with
  | some (.inr (.inl x)) => f x
  | _ => none
def xrD (r : Option xV) (f : UInt64 → Option α) : Option α := match r with
  | some (.inr (.inr (.inr (.inl x)))) => f x
  | _ => none
def xrA (r : Option xV) (f : Option Nat → Option α) : Option α := match r with
  | some (.inr (.inr (.inr (.inr x)))) => f x
  | _ => none
def xrc (as : List xV) (f : Option Nat → Option α) : Option α := match as with
  | .inr (.inr (.inr (.inr x))) :: _ => f x
  | _ => none
/-- no NaN -/
def xnF (x : UInt32) (f : UInt32 → Option α) : Option α := if x &&& 0x7fffffff ≤ 0x7f800000 then f x else none
def xnD (x : UInt64) (f : UInt64 → Option α) : Option α := if x &&& 0x7fffffffffffffff ≤ 0x7ff0000000000000 then f x else none
end XH
/-- a store into a local variable spoils a long that begins just before it -/
def xclr (l : xL) (i : Nat) : xL := match i with
  | 0 => l
  | j + 1 => match l[j]? with
    | some (some (.inr (.inl _))) => l.set j none
    | some (some (.inr (.inr (.inr (.inl _))))) => l.set j none
    | _ => l
def xs1 (l : xL) (i : Nat) (v : xV) : xL := (xclr l i).set i (some v)
def xs2 (l : xL) (i : Nat) (v : xV) : xL := ((xclr l i).set i (some v)).set (i + 1) none
def xmk (ms : List Bool) (l : xL) : xL := match ms with
  | [] => l
  | _ => List.zipWith (fun b x => bif b then x else none) ms l
def xent1 : List xV → xL
  | [] => []
  | .inl x :: r => some (.inl x) :: xent1 r
  | .inr (.inl x) :: r => some (.inr (.inl x)) :: none :: xent1 r
  | .inr (.inr (.inl x)) :: r => some (.inr (.inr (.inl x))) :: xent1 r
  | .inr (.inr (.inr (.inl x))) :: r => some (.inr (.inr (.inr (.inl x)))) :: none :: xent1 r
  | .inr (.inr (.inr (.inr x))) :: r => some (.inr (.inr (.inr (.inr x)))) :: xent1 r
def xent2 : Nat → xL → xL
  | 0, _ => []
  | n + 1, [] => none :: xent2 n []
  | n + 1, x :: r => x :: xent2 n r
def xwt : List xV → Nat
  | [] => 0
  | v :: r => xct v + xwt r
/-! cells -/
def xobj (w : xW) (a ci : Nat) : Option (List xV) := match w.2.2.2 a with
  | some (.inr (c, fs)) => if c = ci then some fs else none
  | _ => none
def xcno (w : xW) (a : Nat) : Option Nat := match w.2.2.2 a with
  | some (.inr (c, _)) => some c
  | _ => none
def xgI (w : xW) (a ci k : Nat) : Option Int32 := (xobj w a ci).bind fun fs => match fs[k]? with
  | some (.inl x) => some x
  | _ => none
def xgJ (w : xW) (a ci k : Nat) : Option Int64 := (xobj w a ci).bind fun fs => match fs[k]? with
  | some (.inr (.inl x)) => some x
  | _ => none
def xgD (w : xW) (a ci k : Nat) : Option UInt64 := (xobj w a ci).bind fun fs => match fs[k]? with
  | some (.inr (.inr (.inr (.inl x)))) => some x
  | _ => none
def xgA (w : xW) (a ci k : Nat) : Option (Option Nat) := (xobj w a ci).bind fun fs => match fs[k]? with
  | some (.inr (.inr (.inr (.inr x)))) => some x
  | _ => none
def xput (w : xW) (a ci k : Nat) (v : xV) : Option xW := (xobj w a ci).bind fun fs => if k < fs.length then some (xset w a (.inr (ci, fs.set k v))) else none
def xlen (w : xW) (a : Nat) : Option Int32 := match w.2.2.2 a with
  | some (.inl e) => some (nI e.2.1)
  | _ => none
def xaI (w : xW) (a : Nat) (i : Int32) : Option Int32 := match w.2.2.2 a with
  | some (.inl (k, n, .inl f)) => if (k = 0 ∨ k = 7) ∧ ¬ i < 0 ∧ i.toNatClampNeg < n then some (f i.toNatClampNeg) else none
  | _ => none
def xaZ (w : xW) (a : Nat) (i : Int32) : Option Int32 := match w.2.2.2 a with
  | some (.inl (k, n, .inl f)) => if k = 3 ∧ ¬ i < 0 ∧ i.toNatClampNeg < n then some (f i.toNatClampNeg) else none
  | _ => none
def xaJ (w : xW) (a : Nat) (i : Int32) : Option Int64 := match w.2.2.2 a with
  | some (.inl (k, n, .inr (.inl f))) => if k = 1 ∧ ¬ i < 0 ∧ i.toNatClampNeg < n then some (f i.toNatClampNeg) else none
  | _ => none
def xaD (w : xW) (a : Nat) (i : Int32) : Option UInt64 := match w.2.2.2 a with
  | some (.inl (k, n, .inr (.inr (.inr (.inl f))))) => if k = 2 ∧ ¬ i < 0 ∧ i.toNatClampNeg < n then some (f i.toNatClampNeg) else none
  | _ => none
def xaA (w : xW) (a : Nat) (i : Int32) : Option (Option Nat) := match w.2.2.2 a with
  | some (.inl (k, n, .inr (.inr (.inr (.inr f))))) => if (k = 4 ∨ k = 5 ∨ k = 6) ∧ ¬ i < 0 ∧ i.toNatClampNeg < n then some (f i.toNatClampNeg) else none
  | _ => none
def xsI (w : xW) (a : Nat) (i x : Int32) : Option xW := match w.2.2.2 a with
  | some (.inl (k, n, .inl f)) => if k = 0 ∧ ¬ i < 0 ∧ i.toNatClampNeg < n then some (xset w a (.inl (0, n, .inl (va_up f i.toNatClampNeg x)))) else none
  | _ => none
def xsZ (w : xW) (a : Nat) (i x : Int32) : Option xW := match w.2.2.2 a with
  | some (.inl (k, n, .inl f)) => if k = 3 ∧ ¬ i < 0 ∧ i.toNatClampNeg < n then some (xset w a (.inl (3, n, .inl (va_up f i.toNatClampNeg (vp_nar .boolean x))))) else none
  | _ => none
def xsJ (w : xW) (a : Nat) (i : Int32) (x : Int64) : Option xW := match w.2.2.2 a with
  | some (.inl (k, n, .inr (.inl f))) => if k = 1 ∧ ¬ i < 0 ∧ i.toNatClampNeg < n then some (xset w a (.inl (1, n, .inr (.inl (va_up f i.toNatClampNeg x))))) else none
  | _ => none
def xsD (w : xW) (a : Nat) (i : Int32) (x : UInt64) : Option xW := match w.2.2.2 a with
  | some (.inl (k, n, .inr (.inr (.inr (.inl f))))) => if k = 2 ∧ ¬ i < 0 ∧ i.toNatClampNeg < n then some (xset w a (.inl (2, n, .inr (.inr (.inr (.inl (va_up f i.toNatClampNeg x))))))) else none
  | _ => none
/-- which objects an array of references may hold: Page 0, Row 3, Thing 5 -/
def xfit (k c : Nat) : Bool := (k == 4 && (c == 3 || c == 5)) || (k == 5 && c == 5) || (k == 6 && c == 0)
def xsA (w : xW) (a : Nat) (i : Int32) (x : Nat) : Option xW := match w.2.2.2 a with
  | some (.inl (k, n, .inr (.inr (.inr (.inr f))))) => (xcno w x).bind fun c => if xfit k c = true ∧ ¬ i < 0 ∧ i.toNatClampNeg < n then some (xset w a (.inl (k, n, .inr (.inr (.inr (.inr (va_up f i.toNatClampNeg (some x)))))))) else none
  | _ => none
/-- a new array: its contents at first -/
def xzero (k : Nat) : (Nat → Int32) ⊕ (Nat → Int64) ⊕ (Nat → UInt32) ⊕ (Nat → UInt64) ⊕ (Nat → Option Nat) := match k with
  | 0 => .inl fun _ => 0
  | 1 => .inr (.inl fun _ => 0)
  | 2 => .inr (.inr (.inr (.inl fun _ => 0)))
  | 3 => .inl fun _ => 0
  | _ => .inr (.inr (.inr (.inr fun _ => none)))
def xnew (w : xW) (k : Nat) (n : Int32) : Option xW := if ¬ n < 0 ∧ n ≤ 65536 then some (xpush w n.toNatClampNeg (.inl (k, n.toNatClampNeg, xzero k))) else none
/-- a switch over neighbouring numbers -/
def xsw {α : Type} (x : Int32) (pc : Nat) (f : Nat → Option α) : Int → List Int → Nat → Option α
  | _, [], d => f d
  | j, o :: r, d => if x = Int32.ofInt j then f ((pc : Int) + o).toNat else xsw x pc f (j + 1) r d
/-- the fields of a new object -/
def xdf (c : Nat) : List xV := match c with
  | 0 => [xA none]
  | 1 => [xA none, xA none, xI 0]
  | 2 => [xA none, xA none, xI 0]
  | 3 => [xI 0, xA none, xA none]
  | 4 => [xA none]
  | 5 => [xI 0, xJ 0, xD 0]
  | 6 => [xA none, xA none, xA none, xA none, xA none, xA none, xA none, xA none, xA none, xA none, xI 0, xA none, xI 0]
  | _ => [xA none, xA none, xA none, xA none, xA none, xA none, xI 0, xI 0, xJ 0, xD 0, xJ 0, xA none, xA none, xI 0, xA none, xI 0, xA none, xA none, xI 0, xJ 0, xD 0, xJ 0, xD 0, xA none, xA none, xI 0, xA none, xA none, xA none, xA none, xA none, xA none, xA none, xA none]
/-- what a call leaves on the stack -/
def xans {α : Type} (cv : Option xV) (r : Option xV) (st : List xV) (f : List xV → Option α) : Option α := match cv with
  | none => xrV r (f st)
  | some (.inl _) => xrI r fun x => f (xI x :: st)
  | some (.inr (.inl _)) => xrJ r fun x => f (xJ x :: st)
  | some (.inr (.inr (.inr (.inl _)))) => xrD r fun x => f (xD x :: st)
  | some (.inr (.inr (.inr (.inr _)))) => xrA r fun x => f (xA x :: st)
  | _ => none
def xexec {α : Type} (cal : Nat → List xV → xW → Option (Option xV × xW)) (i : Instr) (pc len a b : Nat) (cv : Option xV) (l : xL) (st : List xV) (w : xW) (k : Nat → xL → List xV → xW → Option α) (ret : Option xV → xW → Option α) : Option α :=
  match i with
  | .iconst _ => xcv cv fun v => k (pc + len) l (v :: st) w
  | .bipush _ => xcv cv fun v => k (pc + len) l (v :: st) w
  | .sipush _ => xcv cv fun v => k (pc + len) l (v :: st) w
  | .lconst _ => xcv cv fun v => k (pc + len) l (v :: st) w
  | .fconst _ => xcv cv fun v => k (pc + len) l (v :: st) w
  | .dconst _ => xcv cv fun v => k (pc + len) l (v :: st) w
  | .ldc _ => xcv cv fun v => k (pc + len) l (v :: st) w
  | .ldc2_w _ => xcv cv fun v => k (pc + len) l (v :: st) w
  | .aconst_null => k (pc + len) l (xA none :: st) w
  | .iload _ => xlI l a fun x => k (pc + len) l (xI x :: st) w
  | .iload_n _ => xlI l a fun x => k (pc + len) l (xI x :: st) w
  | .lload _ => xlJ l a fun x => k (pc + len) l (xJ x :: st) w
  | .lload_n _ => xlJ l a fun x => k (pc + len) l (xJ x :: st) w
  | .fload _ => xlF l a fun x => k (pc + len) l (xF x :: st) w
  | .dload _ => xlD l a fun x => k (pc + len) l (xD x :: st) w
  | .dload_n _ => xlD l a fun x => k (pc + len) l (xD x :: st) w
  | .aload _ => xlA l a fun x => k (pc + len) l (xA x :: st) w
  | .aload_n _ => xlA l a fun x => k (pc + len) l (xA x :: st) w
  | .istore _ => xpI st fun x st => k (pc + len) (xs1 l a (xI x)) st w
  | .istore_n _ => xpI st fun x st => k (pc + len) (xs1 l a (xI x)) st w
  | .lstore _ => xpJ st fun x st => k (pc + len) (xs2 l a (xJ x)) st w
  | .lstore_n _ => xpJ st fun x st => k (pc + len) (xs2 l a (xJ x)) st w
  | .fstore _ => xpF st fun x st => k (pc + len) (xs1 l a (xF x)) st w
  | .dstore _ => xpD st fun x st => k (pc + len) (xs2 l a (xD x)) st w
  | .dstore_n _ => xpD st fun x st => k (pc + len) (xs2 l a (xD x)) st w
  | .astore _ => xpA st fun x st => k (pc + len) (xs1 l a (xA x)) st w
  | .astore_n _ => xpA st fun x st => k (pc + len) (xs1 l a (xA x)) st w
  | .iinc _ _ => xlI l a fun x => xcv cv fun v => xrI (some v) fun d => k (pc + len) (xs1 l a (xI (x + d))) st w
  | .iadd => xpI st fun y st => xpI st fun x st => k (pc + len) l (xI (x + y) :: st) w
  | .isub => xpI st fun y st => xpI st fun x st => k (pc + len) l (xI (x - y) :: st) w
  | .imul => xpI st fun y st => xpI st fun x st => k (pc + len) l (xI (x * y) :: st) w
  | .idiv => xpI st fun y st => xpI st fun x st => if y = 0 then none else k (pc + len) l (xI (x / y) :: st) w
  | .irem => xpI st fun y st => xpI st fun x st => if y = 0 then none else k (pc + len) l (xI (x - x / y * y) :: st) w
  | .iand => xpI st fun y st => xpI st fun x st => k (pc + len) l (xI (x &&& y) :: st) w
  | .ior => xpI st fun y st => xpI st fun x st => k (pc + len) l (xI (x ||| y) :: st) w
  | .ishl => xpI st fun y st => xpI st fun x st => k (pc + len) l (xI (x <<< (y &&& 31)) :: st) w
  | .ishr => xpI st fun y st => xpI st fun x st => k (pc + len) l (xI (x >>> (y &&& 31)) :: st) w
  | .ladd => xpJ st fun y st => xpJ st fun x st => k (pc + len) l (xJ (x + y) :: st) w
  | .lsub => xpJ st fun y st => xpJ st fun x st => k (pc + len) l (xJ (x - y) :: st) w
  | .land => xpJ st fun y st => xpJ st fun x st => k (pc + len) l (xJ (x &&& y) :: st) w
  | .lor => xpJ st fun y st => xpJ st fun x st => k (pc + len) l (xJ (x ||| y) :: st) w
  | .lshl => xpI st fun y st => xpJ st fun x st => k (pc + len) l (xJ (x <<< (y.toInt64 &&& 63)) :: st) w
  | .lcmp => xpJ st fun y st => xpJ st fun x st => k (pc + len) l (xI (lg_cmp x y) :: st) w
  | .fadd => xpF st fun y st => xpF st fun x st => xnF (FP.fadd x y) fun z => k (pc + len) l (xF z :: st) w
  | .fdiv => xpF st fun y st => xpF st fun x st => xnF (FP.fdiv x y) fun z => k (pc + len) l (xF z :: st) w
  | .dadd => xpD st fun y st => xpD st fun x st => xnD (FP.dadd x y) fun z => k (pc + len) l (xD z :: st) w
  | .dsub => xpD st fun y st => xpD st fun x st => xnD (FP.dsub x y) fun z => k (pc + len) l (xD z :: st) w
  | .dmul => xpD st fun y st => xpD st fun x st => xnD (FP.dmul x y) fun z => k (pc + len) l (xD z :: st) w
  | .ddiv => xpD st fun y st => xpD st fun x st => xnD (FP.ddiv x y) fun z => k (pc + len) l (xD z :: st) w
  | .dneg => xpD st fun x st => k (pc + len) l (xD (FP.dneg x) :: st) w
  | .dcmp op => xpD st fun y st => xpD st fun x st => k (pc + len) l (xI (Op.cmpValue (FP.dcmp x y) op) :: st) w
  | .i2l => xpI st fun x st => k (pc + len) l (xJ x.toInt64 :: st) w
  | .l2i => xpJ st fun x st => k (pc + len) l (xI x.toInt32 :: st) w
  | .i2b => xpI st fun x st => k (pc + len) l (xI x.toInt8.toInt32 :: st) w
  | .i2s => xpI st fun x st => k (pc + len) l (xI x.toInt16.toInt32 :: st) w
  | .i2c => xpI st fun x st => k (pc + len) l (xI (x.toUInt32 % 65536).toInt32 :: st) w
  | .l2f => xpJ st fun x st => k (pc + len) l (xF (FP.l2f x) :: st) w
  | .l2d => xpJ st fun x st => k (pc + len) l (xD (FP.l2d x) :: st) w
  | .f2d => xpF st fun x st => xnD (FP.f2d x) fun z => k (pc + len) l (xD z :: st) w
  | .d2f => xpD st fun x st => xnF (FP.d2f x) fun z => k (pc + len) l (xF z :: st) w
  | .d2i => xpD st fun x st => k (pc + len) l (xI (FP.d2i x) :: st) w
  | .d2l => xpD st fun x st => k (pc + len) l (xJ (FP.d2l x) :: st) w
  | .ifCond .eq _ => xpI st fun x st => if x = 0 then k a l st w else k (pc + len) l st w
  | .ifCond .ne _ => xpI st fun x st => if x = 0 then k (pc + len) l st w else k a l st w
  | .ifCond .lt _ => xpI st fun x st => if x < 0 then k a l st w else k (pc + len) l st w
  | .ifCond .ge _ => xpI st fun x st => if x < 0 then k (pc + len) l st w else k a l st w
  | .ifCond .gt _ => xpI st fun x st => if 0 < x then k a l st w else k (pc + len) l st w
  | .ifCond .le _ => xpI st fun x st => if 0 < x then k (pc + len) l st w else k a l st w
  | .if_icmp .eq _ => xpI st fun y st => xpI st fun x st => if x = y then k a l st w else k (pc + len) l st w
  | .if_icmp .ne _ => xpI st fun y st => xpI st fun x st => if x = y then k (pc + len) l st w else k a l st w
  | .if_icmp .lt _ => xpI st fun y st => xpI st fun x st => if x < y then k a l st w else k (pc + len) l st w
  | .if_icmp .ge _ => xpI st fun y st => xpI st fun x st => if x < y then k (pc + len) l st w else k a l st w
  | .if_icmp .gt _ => xpI st fun y st => xpI st fun x st => if y < x then k a l st w else k (pc + len) l st w
  | .if_icmp .le _ => xpI st fun y st => xpI st fun x st => if y < x then k (pc + len) l st w else k a l st w
  | .if_acmp .ne _ => xpA st fun y st => xpA st fun x st => if x = y then k (pc + len) l st w else k a l st w
  | .ifnonnull _ => xpA st fun x st => if x = none then k (pc + len) l st w else k a l st w
  | .goto _ => k a l st w
  | .tableswitch _ lo _ offs => xpI st fun x st => xsw x pc (fun t => k t l st w) lo offs.toList a
  | .ireturn => xpI st fun x st => xnl st (match b with
    | 0 => ret (some (xI x)) w
    | _ => if x &&& 1 = x then ret (some (xI x)) w else none)
  | .lreturn => xpJ st fun x st => xnl st (ret (some (xJ x)) w)
  | .dreturn => xpD st fun x st => xnl st (ret (some (xD x)) w)
  | .areturn => xpA st fun x st => xnl st (ret (some (xA x)) w)
  | .return_ => xnl st (ret none w)
  | .getfield _ => xpA st fun r st => r.bind fun o => match cv with
    | some (.inl _) => (xgI w o a b).bind fun x => k (pc + len) l (xI x :: st) w
    | some (.inr (.inl _)) => (xgJ w o a b).bind fun x => k (pc + len) l (xJ x :: st) w
    | some (.inr (.inr (.inr (.inl _)))) => (xgD w o a b).bind fun x => k (pc + len) l (xD x :: st) w
    | some (.inr (.inr (.inr (.inr _)))) => (xgA w o a b).bind fun x => k (pc + len) l (xA x :: st) w
    | _ => none
  | .putfield _ => match cv with
    | some (.inl _) => xpI st fun x st => xpA st fun r st => r.bind fun o => (xput w o a b (xI x)).bind fun w => k (pc + len) l st w
    | some (.inr (.inl _)) => xpJ st fun x st => xpA st fun r st => r.bind fun o => (xput w o a b (xJ x)).bind fun w => k (pc + len) l st w
    | some (.inr (.inr (.inr (.inl _)))) => xpD st fun x st => xpA st fun r st => r.bind fun o => (xput w o a b (xD x)).bind fun w => k (pc + len) l st w
    | some (.inr (.inr (.inr (.inr _)))) => xpA st fun x st => xpA st fun r st => r.bind fun o => (xput w o a b (xA x)).bind fun w => k (pc + len) l st w
    | _ => none
  | .getstatic _ => k (pc + len) l (xA (some w.2.2.1) :: st) w
  | .new _ => k (pc + len) l (xA (some w.1) :: st) (xpush w b (.inr (a, xdf a)))
  | .newarray _ => xpI st fun n st => (xnew w a n).bind fun w2 => k (pc + len) l (xA (some w.1) :: st) w2
  | .anewarray _ => xpI st fun n st => (xnew w a n).bind fun w2 => k (pc + len) l (xA (some w.1) :: st) w2
  | .arraylength => xpA st fun r st => r.bind fun o => (xlen w o).bind fun n => k (pc + len) l (xI n :: st) w
  | .iaload => xpI st fun i st => xpA st fun r st => r.bind fun o => (xaI w o i).bind fun x => k (pc + len) l (xI x :: st) w
  | .baload => xpI st fun i st => xpA st fun r st => r.bind fun o => (xaZ w o i).bind fun x => k (pc + len) l (xI x :: st) w
  | .laload => xpI st fun i st => xpA st fun r st => r.bind fun o => (xaJ w o i).bind fun x => k (pc + len) l (xJ x :: st) w
  | .daload => xpI st fun i st => xpA st fun r st => r.bind fun o => (xaD w o i).bind fun x => k (pc + len) l (xD x :: st) w
  | .aaload => xpI st fun i st => xpA st fun r st => r.bind fun o => (xaA w o i).bind fun x => k (pc + len) l (xA x :: st) w
  | .iastore => xpI st fun x st => xpI st fun i st => xpA st fun r st => r.bind fun o => (xsI w o i x).bind fun w => k (pc + len) l st w
  | .bastore => xpI st fun x st => xpI st fun i st => xpA st fun r st => r.bind fun o => (xsZ w o i x).bind fun w => k (pc + len) l st w
  | .lastore => xpJ st fun x st => xpI st fun i st => xpA st fun r st => r.bind fun o => (xsJ w o i x).bind fun w => k (pc + len) l st w
  | .dastore => xpD st fun x st => xpI st fun i st => xpA st fun r st => r.bind fun o => (xsD w o i x).bind fun w => k (pc + len) l st w
  | .aastore => xpA st fun v st => xpI st fun i st => xpA st fun r st => r.bind fun o => v.bind fun x => (xsA w o i x).bind fun w => k (pc + len) l st w
  | .instanceof _ => xpA st fun r st => if r = none then k (pc + len) l (xI 0 :: st) w else r.bind fun o => (xcno w o).bind fun c => if c = a then k (pc + len) l (xI 1 :: st) w else if c = b then k (pc + len) l (xI 0 :: st) w else none
  | .checkcast _ => xpA st fun r st => r.bind fun o => (xobj w o a).bind fun _ => k (pc + len) l (xA r :: st) w
  | .dup => xpA st fun r st => k (pc + len) l (xA r :: xA r :: st) w
  | .dup2 => xpI st fun i st => xpA st fun r st => k (pc + len) l (xI i :: xA r :: xI i :: xA r :: st) w
  | .pop => xpI st fun _ st => k (pc + len) l st w
  | .invokestatic _ => bif Nat.ble b st.length && Nat.ble (xwt (st.drop b)) 8 then (cal a (st.take b).reverse w).bind fun p => xans cv p.1 (st.drop b) fun st => k (pc + len) l st p.2 else none
  | .invokevirtual _ => bif Nat.ble (b % 16) st.length && Nat.ble (xwt (st.drop (b % 16))) 8 then xrc (st.take (b % 16)).reverse fun r => r.bind fun o => (xobj w o (b / 16)).bind fun _ => (cal a (st.take (b % 16)).reverse w).bind fun p => xans cv p.1 (st.drop (b % 16)) fun st => k (pc + len) l st p.2 else none
  | .invokespecial _ => bif Nat.beq a 1000 then xpA st fun r st => bif Nat.ble (xwt st) 8 then r.bind fun _ => k (pc + len) l st w else none
    else bif Nat.ble b st.length && Nat.ble (xwt (st.drop b)) 8 then xrc (st.take b).reverse fun r => r.bind fun _ => (cal a (st.take b).reverse w).bind fun p => xans cv p.1 (st.drop b) fun st => k (pc + len) l st p.2 else none
  | .invokeinterface _ _ => xpA st fun r st => bif Nat.ble (xwt st) 8 then r.bind fun o => (xcno w o).bind fun c => (if c = 3 then cal a [xA r] w else if c = 5 then cal b [xA r] w else none).bind fun p => xans cv p.1 st fun st => k (pc + len) l st p.2 else none
  | _ => none
