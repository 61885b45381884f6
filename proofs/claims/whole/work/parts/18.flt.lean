/-! broken numbers: what is asked of them (proved further on by the values) -/
theorem nR_D {α : Type} {B : Int} {x : UInt64} {f : UInt64 → Option α} (h : nR B x) : xnD x f = f x := by sorry
theorem nR_mono {B C : Int} {x : UInt64} (h : nR B x) (hB : B ≤ C) : nR C x := by
  obtain ⟨s, c, q, h1, h2⟩ := h
  exact ⟨s, c, q, h1, h2.imp id (fun h => ⟨by omega, h.2⟩)⟩
theorem nR_0 (B : Int) : nR B 0 := by sorry
theorem nR_l2f (n : Int64) : nR 11 (FP.f2d (FP.l2f n)) := by sorry
theorem nR_l2d (n : Int64) : nR 11 (FP.l2d n) := by sorry
theorem nR_m7 (n : Int64) : nR 11 (FP.ddiv (FP.l2d n) 4620693217682128896) := by sorry
theorem nR_m6 (n : Int64) : nR 11 (FP.ddiv (FP.f2d (FP.l2f n)) 4620693217682128896) := by sorry
theorem fl_m6 {α : Type} (n : Int64) (f : UInt64 → Option α) : (xnF (FP.fdiv (FP.l2f n) 1090519040) fun z => xnD (FP.f2d z) f) = f (FP.ddiv (FP.f2d (FP.l2f n)) 4620693217682128896) := by sorry
def dS (g : Nat → UInt64) : Nat → UInt64
  | 0 => 0
  | n + 1 => FP.dadd (dS g n) (g n)
def fS (g : Nat → UInt64) : Nat → UInt32
  | 0 => 0
  | n + 1 => FP.fadd (fS g n) (FP.d2f (g n))
theorem dS_ok {g : Nat → UInt64} {n : Nat} (hn : n ≤ 24) (h : ∀ i, i < n → nR 11 (g i)) : nR 20 (dS g n) := by sorry
theorem fS_ok {g : Nat → UInt64} {n : Nat} (hn : n ≤ 24) (h : ∀ i, i < n → nR 11 (g i)) : nR 20 (FP.f2d (fS g n)) ∧ FP.d2f (FP.f2d (fS g n)) = fS g n ∧ (∀ {α : Type} (f : UInt32 → Option α), xnF (fS g n) f = f (fS g n)) := by sorry
theorem fl_d2f {α : Type} {x : UInt64} (h : nR 11 x) (f : UInt32 → Option α) : xnF (FP.d2f x) f = f (FP.d2f x) := by sorry
/-- two numbers are compared: less, equal, greater -/
theorem fl_cmp {x y : UInt64} (hx : nR 11 x) (hy : nR 11 y) : FP.dcmp x y = some .lt ∨ FP.dcmp x y = some .eq ∨ FP.dcmp x y = some .gt := by sorry
/-- the bits of a number as a float, as a double -/
def c6 (x : UInt64) : Int32 := if x.toNat % 2 ^ 63 = 0 then 0 else Int32.ofNat (x.toNat % 2 ^ 52 / 2 ^ 29 + (x.toNat / 2 ^ 52 % 2048 - 896) * 2 ^ 23) ||| (if x.toNat / 2 ^ 63 = 1 then -2147483648 else 0)
def c7 (x : UInt64) : Int64 := if x.toNat % 2 ^ 63 = 0 then 0 else x.toInt64
theorem fl_b6 {x : UInt64} (h : nR 20 x) (w : xW) : xev 99 0 [some (xD x), none, none, none, none, none] [] w = some (some (xI (c6 x)), w) := by sorry
theorem fl_b7 {x : UInt64} (h : nR 20 x) (w : xW) : xev 100 0 [some (xD x), none, none, none, none, none, none, none] [] w = some (some (xJ (c7 x)), w) := by sorry
theorem fl_x6 {x : UInt64} (h : nR 20 x) (w : xW) : xev 38 0 [some (xD x), none, some (xI 23), some (xI 127), some (xI 31), none, none, none, none, none, none, none] [] w = some (some (xJ (c6 x).toInt64), w) := by sorry
theorem fl_x7 {x : UInt64} (h : nR 20 x) (w : xW) : xev 38 0 [some (xD x), none, some (xI 52), some (xI 1023), some (xI 63), none, none, none, none, none, none, none] [] w = some (some (xJ (c7 x)), w) := by sorry
/-- what glass shows of a thing -/
def cde (v : mC) : Int64 := if v.1 = 6 then (c6 v.2.2).toInt64 else if v.1 = 7 then c7 v.2.2 else v.2.1
