theorem zp_main (L : Nat) (xs : Nat → Int32) (n0 : Nat) (hL : L ≤ 4097) : ∃ σ', zf_Law_law L xs (fun _ => none, n0) = some (nI 1, σ') := by
  sorry
