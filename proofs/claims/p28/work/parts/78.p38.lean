/-! PURE: the steps without a throw, the law's loop -/
def Same (r r2 : Int32) (K : MM → Prop) (M : MM) : Prop := (r = r2 → K M) ∧ (¬ r = r2 → (False))
theorem same_ok {r r2 : Int32} {K : MM → Prop} {M : MM} (h : r = r2) (hK : K M) : Same r r2 K M := ⟨fun _ => hK, fun q => absurd h q⟩
section
variable {Z : ZZ} {M : MM} {a m o T : Nat} {K : MM → Prop}
theorem tk_of {g : GG} {W H : Nat} (w : WH g W H) : ∃ j g1, j ≤ 49 ∧ TkR W H j g g1 := by
  have h49 : W * H ≤ 49 := wh_lt w.2.2.2.1 w.2.2.2.2.2
  have hW : 0 < W := by have := w.2.2.1; omega
  have hle := cnI_le (gt g) (W * H)
  exact Tk_ex hW h49 49 g (by omega)
end
