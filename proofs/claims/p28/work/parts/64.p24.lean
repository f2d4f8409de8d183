/-! PURE: the model's facts -/
section
variable {Z : ZZ} {M : MM} {m : Nat} {g : GG} {W H : Nat}
theorem lbG_out {c : Nat} (hc : ¬ c < W * H) : lbG W H g c = -1 := labS_none (fun q => hc q.1)
theorem cnE_lb (h49 : W * H ≤ 49) {n : Nat} (hn : n < 49) : cnE (lbG W H g) (nI n) 49 = cnE (lbG W H g) (nI n) (W * H) :=
  cnE_zero h49 (fun i h1 _ q => by rw [lbG_out (by omega)] at q; exact i_n1 n (by omega) q.symm)
/-- what is counted: 0 all blocks, 1 loose ones, 2 stranded ones -/
def bkP (W H : Nat) (g : GG) (k n : Nat) : Prop := lbG W H g n = nI n ∧ (k = 0 ∨ ¬ heldP W (gc g) (lbG W H g) (nI n)) ∧ (k < 2 ∨ wayI (farG W H g n) = -1)
end
