/-! PURE: the model's days and bars -/
section
variable {Z : ZZ} {M : MM} {m : Nat} {g : GG} {W H : Nat} {sk : Nat → GG} {n len : Nat} {tx : Nat → Int32}
theorem nx_st {k : Nat} : nxP W H g false k ↔ stG W H g k := by
  unfold nxP stG
  refine ⟨fun q => ⟨q.1, Classical.byContradiction (fun z => absurd (q.2.1 z) (by decide))⟩, fun q => ⟨q.1, fun z => absurd q.2 z, fun z => absurd z (by decide)⟩⟩
end
