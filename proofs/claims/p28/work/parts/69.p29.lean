/-! PURE: the model's calls -/
section
variable {Z : ZZ} {M : MM} {m : Nat} {g : GG} {W H : Nat} {sk : Nat → GG} {n len : Nat} {tx : Nat → Int32}
/-- a rectangle in small numbers -/
theorem isR_ex {c : Nat} {v h : Int32} (hc : c < W * H) (r : isR W H c v h) : ∃ a b, 1 ≤ a ∧ 1 ≤ b ∧ v = nI a ∧ h = nI b ∧ c % W + a ≤ W ∧ c / W + b ≤ H := by
  obtain ⟨r1, r2, r3, r4, r5, r6⟩ := r
  obtain ⟨a, a1, rfl⟩ := small_ex (n := 7) (by omega) r2 (by omega)
  obtain ⟨b, b1, rfl⟩ := small_ex (n := 7) (by omega) r4 (by omega)
  rw [i_toInt a (by omega)] at r1 r5
  rw [i_toInt b (by omega)] at r3 r6
  exact ⟨a, b, by omega, by omega, rfl, rfl, by omega, by omega⟩
end
