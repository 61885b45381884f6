/-! calls that go over a column -/
def pr1 (S : sS) (c : Nat) (cell : Int32) (to : Nat) (place : Int32) (k : Nat) : Nat × sS :=
  if k = 8 then (if (cnt 8 (tkA S c cell)).1 = 0 then cnt 17 (lyA (cnt 8 (tkA S c cell)).2 to place) else cnt 8 (tkA S c cell))
  else (if (cnt k (rdA S c cell k)).1 = 0 then cnt (9 + k) (wrA (cnt k (rdA S c cell k)).2 to place (qS (cnt k (rdA S c cell k)).2)) else cnt k (rdA S c cell k))
def prS (c : Nat) (cell : Int32) (to : Nat) (place : Int32) (k : Nat) : Nat → Nat → sS → Nat × sS
  | 0, i, S => (i, S)
  | d + 1, i, S => if (pr1 S c (cell + nI i) to (place + nI i) k).1 = 0 then prS c cell to place k d (i + 1) (uA (pr1 S c (cell + nI i) to (place + nI i) k).2 0) else (i, uA (pr1 S c (cell + nI i) to (place + nI i) k).2 (nI (pr1 S c (cell + nI i) to (place + nI i) k).1))
def spPour (S : sS) (c cell to place k : Int32) : Int32 × sS :=
  if ¬ inB c 10 ∨ ¬ inB to 10 then (-1, S) else if ¬ inB k 9 then (-2, S) else (nI (prS c.toNatClampNeg cell to.toNatClampNeg place k.toNatClampNeg 25 0 S).1, (prS c.toNatClampNeg cell to.toNatClampNeg place k.toNatClampNeg 25 0 S).2)
/-- a whole column is read: the last answer, how many, what, and what is then -/
def raS (c k : Nat) : Nat → Nat → sS → (Nat → mC) → Nat × Nat × (Nat → mC) × sS
  | 0, i, S, g => (0, i, g, S)
  | d + 1, i, S, g => if (cnt k (rdA S c (nI i) k)).1 = 0 then raS c k d (i + 1) (cnt k (rdA S c (nI i) k)).2 (va_up g i (qS (cnt k (rdA S c (nI i) k)).2)) else ((cnt k (rdA S c (nI i) k)).1, i, g, (cnt k (rdA S c (nI i) k)).2)
def rAll (S : sS) (c k : Nat) : Nat × Nat × (Nat → mC) × sS := raS c k 25 0 S (fun _ => (0, 0, 0))
def jS (g : Nat → Int64) : Nat → Int64
  | 0 => 0
  | n + 1 => jS g n + g n
/-- the sum of what was read -/
def tot (k n : Nat) (g : Nat → mC) : mC := if k = 6 then (6, 0, FP.f2d (fS (fun i => (g i).2.2) n)) else if k = 7 then (7, 0, dS (fun i => (g i).2.2) n) else (5, jS (fun i => (g i).2.1) n, 0)
def spSum (S : sS) (c k : Int32) : Int32 × sS :=
  if ¬ inB c 10 then (-1, S) else if ¬ inB k 8 ∨ k = 0 then (-2, S) else
  if (rAll S c.toNatClampNeg k.toNatClampNeg).1 = 4 then (0, uS (uA (rAll S c.toNatClampNeg k.toNatClampNeg).2.2.2 4) (tot k.toNatClampNeg (rAll S c.toNatClampNeg k.toNatClampNeg).2.1 (rAll S c.toNatClampNeg k.toNatClampNeg).2.2.1))
  else (-10 - nI (rAll S c.toNatClampNeg k.toNatClampNeg).1, uA (rAll S c.toNatClampNeg k.toNatClampNeg).2.2.2 (nI (rAll S c.toNatClampNeg k.toNatClampNeg).1))
/-- less, equal, greater: 0, 1, 2 -/
def ord3 (k : Nat) (a b : mC) : Nat := if k < 6 then (if a.2.1 < b.2.1 then 0 else if a.2.1 = b.2.1 then 1 else 2) else (if FP.dcmp a.2.2 b.2.2 = some .lt then 0 else if FP.dcmp a.2.2 b.2.2 = some .eq then 1 else 2)
/-- pairs are found one after another -/
def fnd (e : Nat → Bool) (l r : Nat → Nat) : Nat → Nat → Nat × (Nat → Nat) × (Nat → Nat) → Nat × (Nat → Nat) × (Nat → Nat)
  | 0, _, P => P
  | d + 1, i, P => fnd e l r d (i + 1) (if e i = true then (P.1 + 1, va_up P.2.1 P.1 (l i), va_up P.2.2 P.1 (r i)) else P)
abbrev P00 : Nat × (Nat → Nat) × (Nat → Nat) := (0, fun _ => 0, fun _ => 0)
def spWhere (S : sS) (c k how : Int32) (v : Int64) : Int32 × sS :=
  if ¬ inB c 10 then (-1, S) else if ¬ inB k 8 ∨ ¬ inB how 3 then (-2, S) else
  if (rAll S c.toNatClampNeg k.toNatClampNeg).1 = 4 then
    (nI (fnd (fun i => decide (ord3 k.toNatClampNeg ((rAll S c.toNatClampNeg k.toNatClampNeg).2.2.1 i) (mkN (if k.toNatClampNeg < 6 then 5 else k.toNatClampNeg) v) = how.toNatClampNeg)) id id (rAll S c.toNatClampNeg k.toNatClampNeg).2.1 0 P00).1, uP (uA (rAll S c.toNatClampNeg k.toNatClampNeg).2.2.2 4) (fnd (fun i => decide (ord3 k.toNatClampNeg ((rAll S c.toNatClampNeg k.toNatClampNeg).2.2.1 i) (mkN (if k.toNatClampNeg < 6 then 5 else k.toNatClampNeg) v) = how.toNatClampNeg)) id id (rAll S c.toNatClampNeg k.toNatClampNeg).2.1 0 P00))
  else (-10 - nI (rAll S c.toNatClampNeg k.toNatClampNeg).1, uA (rAll S c.toNatClampNeg k.toNatClampNeg).2.2.2 (nI (rAll S c.toNatClampNeg k.toNatClampNeg).1))
/-- the pairs of equal numbers of two columns -/
def mtP (k n m : Nat) (g h : Nat → mC) : Nat × (Nat → Nat) × (Nat → Nat) := fnd (fun q => decide (ord3 k (g (q / m)) (h (q % m)) = 1)) (fun q => q / m) (fun q => q % m) (n * m) 0 P00
def spMeet (S : sS) (c d k : Int32) : Int32 × sS :=
  if ¬ inB c 10 ∨ ¬ inB d 10 then (-1, S) else if ¬ inB k 8 then (-2, S) else
  let A := rAll S c.toNatClampNeg k.toNatClampNeg
  if A.1 = 4 then
    let B := rAll (uA A.2.2.2 4) d.toNatClampNeg k.toNatClampNeg
    if B.1 = 4 then
      let P := mtP k.toNatClampNeg A.2.1 B.2.1 A.2.2.1 B.2.2.1
      if 24 < P.1 then (-4, uA B.2.2.2 4) else (nI P.1, uP (uA B.2.2.2 4) P)
    else (-10 - nI B.1, uA B.2.2.2 (nI B.1))
  else (-10 - nI A.1, uA A.2.2.2 (nI A.1))
theorem fnd_le (e : Nat → Bool) (l r : Nat → Nat) : ∀ d i P, P.1 ≤ (fnd e l r d i P).1 ∧ (fnd e l r d i P).1 ≤ P.1 + d
  | 0, _, P => ⟨Nat.le_refl _, Nat.le_refl _⟩
  | d + 1, i, P => by
    unfold fnd
    have := fnd_le e l r d (i + 1) (if e i = true then (P.1 + 1, va_up P.2.1 P.1 (l i), va_up P.2.2 P.1 (r i)) else P)
    split at this
    · rename_i h
      rw [if_pos h]
      simp only at this
      omega
    · rename_i h
      rw [if_neg h]
      omega
theorem fnd_lt (e : Nat → Bool) (l r : Nat → Nat) {B : Nat} : ∀ d i P, (∀ j, i ≤ j → j < i + d → l j < B ∧ r j < B) → (∀ j, j < P.1 → P.2.1 j < B ∧ P.2.2 j < B) → ∀ j, j < (fnd e l r d i P).1 → (fnd e l r d i P).2.1 j < B ∧ (fnd e l r d i P).2.2 j < B
  | 0, _, P, _, h => h
  | d + 1, i, P, hl, h => by
    unfold fnd
    refine fnd_lt e l r d (i + 1) _ (fun j h1 h2 => hl j (by omega) (by omega)) ?_
    split
    · intro j hj
      show (if j = P.1 then _ else _) < B ∧ (if j = P.1 then _ else _) < B
      by_cases hjp : j = P.1
      · rw [if_pos hjp, if_pos hjp]
        exact hl i (by omega) (by omega)
      · rw [if_neg hjp, if_neg hjp]
        exact h j (by simp only at hj; omega)
    · exact h
/-! pages that are twins -/
def frsA (C : Nat → sO) (r : Nat) : Nat → Nat → Nat
  | 0, i => i
  | d + 1, i => if C i = .inl r then i else frsA C r d (i + 1)
/-- the first column with an array -/
def frs (C : Nat → sO) (r : Nat) : Nat := frsA C r 10 0
theorem frsA_ok {C : Nat → sO} {r c : Nat} (hc : C c = .inl r) : ∀ d i, i ≤ c → c < i + d → i ≤ frsA C r d i ∧ frsA C r d i ≤ c ∧ C (frsA C r d i) = .inl r ∧ ∀ j, i ≤ j → j < frsA C r d i → C j ≠ .inl r
  | 0, i, h1, h2 => by omega
  | d + 1, i, h1, h2 => by
    unfold frsA
    by_cases h : C i = .inl r
    · rw [if_pos h]
      exact ⟨Nat.le_refl _, h1, h, fun j a b => by omega⟩
    · rw [if_neg h]
      have hic : i ≠ c := fun e => h (e ▸ hc)
      obtain ⟨a, b, e, f⟩ := frsA_ok hc d (i + 1) (by omega) (by omega)
      refine ⟨by omega, b, e, fun j h3 h4 => ?_⟩
      by_cases hij : j = i
      · rw [hij]; exact h
      · exact f j (by omega) h4
theorem frs_ok {C : Nat → sO} {r c : Nat} (h10 : c < 10) (hc : C c = .inl r) : frs C r ≤ c ∧ C (frs C r) = .inl r ∧ ∀ j, j < frs C r → C j ≠ .inl r := by
  obtain ⟨_, b, e, f⟩ := frsA_ok hc 10 0 (by omega) (by omega)
  exact ⟨b, e, fun j hj => f j (by omega) hj⟩
/-- a twin: its rows, and what it holds -/
def tw (R : Nat → Option sR) (C : Nat → sO) (ids : Nat → Nat) : Nat → (Nat → Option sR) × (Nat → sO)
  | 0 => (R, fun _ => .inr (11, 0, 0))
  | n + 1 => match C n with
    | .inr v => ((tw R C ids n).1, va_up (tw R C ids n).2 n (.inr v))
    | .inl r => if frs C r < n then ((tw R C ids n).1, va_up (tw R C ids n).2 n ((tw R C ids n).2 (frs C r))) else match R r with
      | none => tw R C ids n
      | some x => (va_up (tw R C ids n).1 (ids n) (some x), va_up (tw R C ids n).2 n (.inl (ids n)))
def frsh (R : Nat → Option sR) (ids : Nat → Nat) : Prop := (∀ c, c < 10 → R (ids c) = none) ∧ ∀ c d, c < 10 → d < 10 → ids c = ids d → c = d
section TW
variable {R : Nat → Option sR} {C : Nat → sO} {ids : Nat → Nat} {n r : Nat} {v : mC} {x : sR}
theorem tw_th (h : C n = .inr v) : tw R C ids (n + 1) = ((tw R C ids n).1, va_up (tw R C ids n).2 n (.inr v)) := by
  conv => lhs; unfold tw; rw [h]
theorem tw_old (h : C n = .inl r) (hf : frs C r < n) : tw R C ids (n + 1) = ((tw R C ids n).1, va_up (tw R C ids n).2 n ((tw R C ids n).2 (frs C r))) := by
  conv => lhs; unfold tw; rw [h]; simp only; rw [if_pos hf]
theorem tw_new (h : C n = .inl r) (hf : ¬ frs C r < n) (hx : R r = some x) : tw R C ids (n + 1) = (va_up (tw R C ids n).1 (ids n) (some x), va_up (tw R C ids n).2 n (.inl (ids n))) := by
  conv => lhs; unfold tw; rw [h]; simp only; rw [if_neg hf, hx]
/-- what is in a twin -/
theorem tw_ok (hC : ∀ c r, c < 10 → C c = .inl r → ∃ x, R r = some x) (hf : frsh R ids) : ∀ n, n ≤ 10 → (∀ c v, c < n → C c = .inr v → (tw R C ids n).2 c = .inr v) ∧ (∀ c r, c < n → C c = .inl r → (tw R C ids n).2 c = .inl (ids (frs C r)) ∧ (tw R C ids n).1 (ids (frs C r)) = R r) ∧ (∀ c, n ≤ c → (tw R C ids n).2 c = .inr (11, 0, 0)) ∧ (∀ a, (∀ c, c < n → a ≠ ids c) → (tw R C ids n).1 a = R a)
  | 0, _ => ⟨fun c v h => absurd h (Nat.not_lt_zero c), fun c r h => absurd h (Nat.not_lt_zero c), fun _ _ => rfl, fun _ _ => rfl⟩
  | n + 1, hn => by
    obtain ⟨h1, h2, h3, h4⟩ := tw_ok hC hf n (by omega)
    have up : ∀ (f : Nat → sO) (y : sO) c, c < n → va_up f n y c = f c := fun f y c hc => by unfold va_up; rw [if_neg (by omega)]
    have up2 : ∀ (f : Nat → sO) (y : sO) c, n + 1 ≤ c → va_up f n y c = f c := fun f y c hc => by unfold va_up; rw [if_neg (by omega)]
    cases hq : C n with
    | inr v =>
      rw [tw_th hq]
      refine ⟨fun c w hc hw => ?_, fun c r hc hr => ?_, fun c hc => (up2 _ _ c hc).trans (h3 c (by omega)), fun a ha => h4 a (fun c hc => ha c (by omega))⟩
      · by_cases hcn : c = n
        · subst hcn
          rw [hq] at hw; cases hw
          exact if_pos rfl
        · exact (up _ _ c (by omega)).trans (h1 c w (by omega) hw)
      · by_cases hcn : c = n
        · subst hcn
          rw [hq] at hr; cases hr
        · obtain ⟨a, b⟩ := h2 c r (by omega) hr
          exact ⟨(up _ _ c (by omega)).trans a, b⟩
    | inl r =>
      obtain ⟨f1, f2, f3⟩ := frs_ok (by omega) hq
      obtain ⟨x, hx⟩ := hC n r (by omega) hq
      by_cases hfr : frs C r < n
      · rw [tw_old hq hfr]
        obtain ⟨a0, b0⟩ := h2 _ r hfr f2
        refine ⟨fun c w hc hw => ?_, fun c s hc hs => ?_, fun c hc => (up2 _ _ c hc).trans (h3 c (by omega)), fun a ha => h4 a (fun c hc => ha c (by omega))⟩
        · by_cases hcn : c = n
          · subst hcn
            rw [hq] at hw; cases hw
          · exact (up _ _ c (by omega)).trans (h1 c w (by omega) hw)
        · by_cases hcn : c = n
          · subst hcn
            rw [hq] at hs; cases hs
            exact ⟨(if_pos rfl).trans a0, b0⟩
          · obtain ⟨a, b⟩ := h2 c s (by omega) hs
            exact ⟨(up _ _ c (by omega)).trans a, b⟩
      · have hfn : frs C r = n := by omega
        rw [tw_new hq hfr hx]
        refine ⟨fun c w hc hw => ?_, fun c s hc hs => ?_, fun c hc => (up2 _ _ c hc).trans (h3 c (by omega)), fun a ha => ?_⟩
        · by_cases hcn : c = n
          · subst hcn
            rw [hq] at hw; cases hw
          · exact (up _ _ c (by omega)).trans (h1 c w (by omega) hw)
        · by_cases hcn : c = n
          · subst hcn
            rw [hq] at hs; cases hs
            rw [hfn]
            exact ⟨if_pos rfl, (if_pos rfl).trans hx.symm⟩
          · obtain ⟨a, b⟩ := h2 c s (by omega) hs
            have g := frs_ok (by omega) hs
            refine ⟨(up _ _ c (by omega)).trans a, ?_⟩
            show (if ids (frs C s) = ids n then _ else _) = _
            rw [if_neg (fun e => by have := hf.2 _ _ (by omega) (by omega) e; omega)]
            exact b
        · show (if a = ids n then _ else _) = _
          rw [if_neg (ha n (by omega))]
          exact h4 a (fun c hc => ha c (by omega))
end TW
def uRs (S : sS) (R : Nat → Option sR) : sS := (S.1, R, S.2.2)
def spImage (S : sS) (k : Int32) (ids : Nat → Nat) : Int32 × sS :=
  if ¬ inB k 2 then (-2, S) else (1, uI (uRs S (tw (qR S) (qC S) ids 10).1) k.toNatClampNeg (tw (qR S) (qC S) ids 10).2)
def spRest (S : sS) (k : Int32) (ids : Nat → Nat) : Int32 × sS :=
  if ¬ inB k 2 then (-2, S) else match qI S k.toNatClampNeg with
  | none => (-3, S)
  | some f => (1, uPg (uRs S (tw (qR S) f ids 10).1) (tw (qR S) f ids 10).2)
