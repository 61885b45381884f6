/-! broken numbers: sums, bits -/
def dS (g : Nat → UInt64) : Nat → UInt64
  | 0 => 0
  | n + 1 => FP.dadd (dS g n) (g n)
def fS (g : Nat → UInt64) : Nat → UInt32
  | 0 => 0
  | n + 1 => FP.fadd (fS g n) (FP.d2f (g n))
/-- the bits of a number as a float, as a double -/
def c6 (x : UInt64) : Int32 := if x.toNat % 2 ^ 63 = 0 then 0 else Int32.ofNat (x.toNat % 2 ^ 52 / 2 ^ 29 + (x.toNat / 2 ^ 52 % 2048 - 896) * 2 ^ 23) ||| (if x.toNat / 2 ^ 63 = 1 then -2147483648 else 0)
def c7 (x : UInt64) : Int64 := if x.toNat % 2 ^ 63 = 0 then 0 else x.toInt64
