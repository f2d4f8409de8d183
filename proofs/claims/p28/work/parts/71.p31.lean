/-! PURE: the model's moves and what-if questions -/
theorem gmv_ok {lg ou : Nat → Prop} {f : Nat → Int32} {p r : Nat} (F : IsFar lg ou f) (hr : r < 900) (h : f p = nI (r + 1)) : gmv f p r < 4 ∧ f (Em p (gmv f p r)) = nI r ∧ ∀ s, s < gmv f p r → f (Em p s) ≠ nI r := by
  obtain ⟨m, m1, m2⟩ := F.2.2.2.1 p r hr h
  unfold gmv
  by_cases h0 : f (Em p 0) = nI r
  · rw [if_pos h0]; exact ⟨by omega, h0, fun s hs => by omega⟩
  rw [if_neg h0]
  by_cases h1 : f (Em p 1) = nI r
  · rw [if_pos h1]
    refine ⟨by omega, h1, fun s hs => ?_⟩
    obtain rfl : s = 0 := by omega
    exact h0
  rw [if_neg h1]
  by_cases h2 : f (Em p 2) = nI r
  · rw [if_pos h2]
    refine ⟨by omega, h2, fun s hs => ?_⟩
    obtain rfl | rfl : s = 0 ∨ s = 1 := by omega
    · exact h0
    · exact h1
  rw [if_neg h2]
  have : m = 3 := by
    have q0 : m ≠ 0 := fun e => h0 (by rw [← e]; exact m2)
    have q1 : m ≠ 1 := fun e => h1 (by rw [← e]; exact m2)
    have q2 : m ≠ 2 := fun e => h2 (by rw [← e]; exact m2)
    omega
  subst this
  refine ⟨by omega, m2, fun s hs => ?_⟩
  obtain rfl | rfl | rfl : s = 0 ∨ s = 1 ∨ s = 2 := by omega
  · exact h0
  · exact h1
  · exact h2
theorem gp_far {lg ou : Nat → Prop} {f : Nat → Int32} {D : Nat} (F : IsFar lg ou f) (hD : D < 400) (h : f 112 = nI D) : ∀ k, k ≤ D → f (gp f D k) = nI (D - k) := by
  intro k
  induction k with
  | zero => intro _; exact h
  | succ k ih =>
    intro hk
    have e := ih (by omega)
    have := (gmv_ok (r := D - k - 1) F (by omega) (by rw [e]; congr 1; omega)).2.1
    show f (Em (gp f D k) (gmv f (gp f D k) (D - k - 1))) = _
    rw [this]; rfl
theorem far_small {W H : Nat} {th lb : Nat → Int32} {r p j : Nat} (hj : j < 2147483648) (h : farX W H th lb r p = nI j) : j ≤ 300 := by
  unfold farX at h
  exact (fz_lg (f0X_is W H th lb r) (by omega) hj h).2.1
def mvI (f : Nat → Int32) (D i : Nat) : Int32 := if i = 0 then -1 else nI (gmv f (gp f D (i - 1)) (D - (i - 1) - 1))
section
variable {Z : ZZ} {M : MM} {m : Nat} {g : GG} {W H : Nat} {sk : Nat → GG} {n len : Nat} {tx : Nat → Int32}
end
