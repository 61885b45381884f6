/-- the table of homes -/
def xhom (j : Nat) : Int32 := match j with
  | 0 => 513
  | 1 => 762
  | 2 => 756
  | 3 => 760
  | 4 => 1008
  | 5 => 736
  | 6 => 704
  | 7 => 640
  | 8 => 1024
  | 9 => 3072
  | 10 => 4608
  | _ => 7936
theorem law_pure {b L : Nat} {xs : Nat → Int32} {w : xW} (hL : L ≤ 3072) (hb : w.2.2.2 b = some (.inl (7, L, .inl xs))) (hh : w.2.2.2 w.2.2.1 = some (.inl (7, 12, .inl xhom))) (hf : ∀ a e, w.2.2.2 a = some e → a < w.1) : ∃ wE : xW, xev 148 0 [some (xA (some b)), none, none, none] [] w = some (some (xI 1), wE) ∧ wE.1 ≤ w.1 + 600000 ∧ wE.2.1 ≤ w.2.1 + 7302250 := by
  sorry
