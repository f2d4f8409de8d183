/-! PURE: the model takes blocks out, and melts -/
theorem sxm_all : ∀ k, k < 8 → sxm k < 8 ∧ sxm (sxm k) = k := by decide
theorem sxm_inj {j k : Nat} (hj : j < 8) (hk : k < 8) : sxm j = sxm k ↔ j = k := ⟨fun h => by
  have := congrArg sxm h
  rwa [(sxm_all j hj).2, (sxm_all k hk).2] at this, fun h => by rw [h]⟩
section
variable {Z : ZZ} {M : MM} {m : Nat} {g : GG} {W H : Nat} {lb : Nat → Int32}
def nxP (W H : Nat) (g : GG) (b : Bool) (n : Nat) : Prop := looG W H g n ∧ (wayI (farG W H g n) ≠ -1 ↔ b = true)
end
