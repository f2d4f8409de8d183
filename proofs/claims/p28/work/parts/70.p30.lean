/-! PURE: the model's calls, more -/
section
variable {Z : ZZ} {M : MM} {m : Nat} {g : GG} {W H : Nat} {sk : Nat → GG} {n len : Nat} {tx : Nat → Int32}
theorem Tk_ok {W H : Nat} : ∀ k g g1, TkR W H k g g1 → gc g1 = gc g := by
  intro k
  induction k with
  | zero => intro g g1 h; rw [h.1]
  | succ k ih =>
    intro g g1 ⟨n, n1, n2⟩
    exact (ih _ _ n2).trans rfl
theorem Tk_wh {W H : Nat} : ∀ k g g1, TkR W H k g g1 → WH g W H → WH g1 W H := by
  intro k
  induction k with
  | zero => intro g g1 h w; rw [h.1]; exact w
  | succ k ih =>
    intro g g1 ⟨n, n1, n2⟩ w
    exact ih _ _ n2 (w.tak _ _)
end
