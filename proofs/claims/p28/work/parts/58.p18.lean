/-! PURE: the model's ways -/
theorem l64_le (x y : Int64) : x ≤ y ↔ x.toInt ≤ y.toInt := Int64.le_iff_toInt_le
theorem l64_lt (x y : Int64) : x < y ↔ x.toInt < y.toInt := Int64.lt_iff_toInt_lt
theorem l64_m1 : ∀ n, n < 64 → ((nI n).toInt64 - 1).toInt = (n : Int) - 1 := by decide +kernel
theorem l64_0 : (0 : Int64).toInt = 0 ∧ (1 : Int64).toInt = 1 ∧ (2 : Int64).toInt = 2 ∧ (7 : Int64).toInt = 7 ∧ (50 : Int64).toInt = 50 ∧ (3 : Int64).toInt = 3 ∧ (9 : Int64).toInt = 9 ∧ (6 : Int64).toInt = 6 ∧ (4 : Int64).toInt = 4 ∧ (13 : Int64).toInt = 13 ∧ (127 : Int64).toInt = 127 ∧ (224 : Int64).toInt = 224 ∧ (48 : Int64).toInt = 48 ∧ (57 : Int64).toInt = 57 := by decide
theorem sh_toInt : ∀ a, a < 8 → ∀ b, b < 16 → (nI a + (nI b - 7)).toInt = (a : Int) + b - 7 := by decide +kernel
section
variable {Z : ZZ} {M : MM} {m : Nat} {g : GG} {W H : Nat} {lb : Nat → Int32}
theorem cmp7 : ∀ a, a < 8 → ∀ b, b < 16 → (nI a < nI b - 7 ↔ a + 7 < b) ∧ (nI b - 7 = nI a ↔ b = a + 7) := by decide +kernel
end
