theorem za_sw {x : Int32} (lo hi : Nat) (hh : hi < 2 ^ 31) (h : ∀ k : Nat, lo ≤ k → k ≤ hi → ¬ x = nI k) : x.toInt < (lo : Int) ∨ (hi : Int) < x.toInt := by
  by_cases h0 : x < 0
  · left
    have h1 : x.toInt < (0 : Int32).toInt := Int32.lt_iff_toInt_lt.mp h0
    have h2 : (0 : Int32).toInt = 0 := by decide
    omega
  · obtain ⟨j, hj, rfl⟩ := nI_of h0
    rw [nI_toInt hj]
    by_cases h1 : lo ≤ j
    · by_cases h2 : j ≤ hi
      · exact absurd rfl (h j h1 h2)
      · right; omega
    · left; omega
theorem za_rfc (o : Option Nat) : (va_rf o).category = 1 := by cases o <;> rfl
