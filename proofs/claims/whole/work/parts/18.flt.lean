/-! broken numbers: what is asked of them (proved further on by the values) -/
theorem nR_D {α : Type} {B : Int} {x : UInt64} {f : UInt64 → Option α} (h : nR B x) : xnD x f = f x := zR_D h
theorem nR_mono {B C : Int} {x : UInt64} (h : nR B x) (hB : B ≤ C) : nR C x := by
  obtain ⟨s, c, q, h1, h2⟩ := h
  exact ⟨s, c, q, h1, h2.imp id (fun h => ⟨by omega, h.2⟩)⟩
theorem nR_0 (B : Int) : nR B 0 := zR_0 B
theorem nR_l2f (n : Int64) : nR 11 (FP.f2d (FP.l2f n)) := zR_l2f n
theorem nR_l2d (n : Int64) : nR 11 (FP.l2d n) := zR_l2d n
theorem nR_m7 (n : Int64) : nR 11 (FP.ddiv (FP.l2d n) 4620693217682128896) := zR_m7 n
theorem nR_m6 (n : Int64) : nR 11 (FP.ddiv (FP.f2d (FP.l2f n)) 4620693217682128896) := zR_m6 n
theorem fl_m6 {α : Type} (n : Int64) (f : UInt64 → Option α) : (xnF (FP.fdiv (FP.l2f n) 1090519040) fun z => xnD (FP.f2d z) f) = f (FP.ddiv (FP.f2d (FP.l2f n)) 4620693217682128896) := z_m6 n f
theorem dS_ok {g : Nat → UInt64} {n : Nat} (hn : n ≤ 24) (h : ∀ i, i < n → nR 11 (g i)) : nR 20 (dS g n) := zdS_ok hn h
theorem fS_ok {g : Nat → UInt64} {n : Nat} (hn : n ≤ 24) (h : ∀ i, i < n → nR 11 (g i)) : nR 20 (FP.f2d (fS g n)) ∧ FP.d2f (FP.f2d (fS g n)) = fS g n ∧ (∀ {α : Type} (f : UInt32 → Option α), xnF (fS g n) f = f (fS g n)) := zfS_ok hn h
theorem fl_d2f {α : Type} {x : UInt64} (h : nR 11 x) (f : UInt32 → Option α) : xnF (FP.d2f x) f = f (FP.d2f x) := z_d2f h f
/-- two numbers are compared: less, equal, greater -/
theorem fl_cmp {x y : UInt64} (hx : nR 11 x) (hy : nR 11 y) : FP.dcmp x y = some .lt ∨ FP.dcmp x y = some .eq ∨ FP.dcmp x y = some .gt := z_cmp hx hy
theorem fl_b6 {x : UInt64} (h : nR 20 x) (w : xW) : xev 99 0 [some (xD x), none, none, none, none, none] [] w = some (some (xI (c6 x)), w) := z_b6 h w
theorem fl_b7 {x : UInt64} (h : nR 20 x) (w : xW) : xev 100 0 [some (xD x), none, none, none, none, none, none, none] [] w = some (some (xJ (c7 x)), w) := z_b7 h w
theorem fl_x6 {x : UInt64} (h : nR 20 x) (w : xW) : xev 38 0 [some (xD x), none, some (xI 23), some (xI 127), some (xI 31), none, none, none, none, none, none, none] [] w = some (some (xJ (c6 x).toInt64), w) := z_x6 h w
theorem fl_x7 {x : UInt64} (h : nR 20 x) (w : xW) : xev 38 0 [some (xD x), none, some (xI 52), some (xI 1023), some (xI 63), none, none, none, none, none, none, none] [] w = some (some (xJ (c7 x)), w) := z_x7 h w
/-- what glass shows of a thing -/
def cde (v : mC) : Int64 := if v.1 = 6 then (c6 v.2.2).toInt64 else if v.1 = 7 then c7 v.2.2 else v.2.1
