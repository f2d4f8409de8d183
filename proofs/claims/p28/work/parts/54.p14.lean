/-! PURE: the model's state; its leaves -/
def RowAt (Z : ZZ) (a n : Nat) : Prop := zK Z a = 7 ∧ zN Z a = n
theorem vpn {k n : Nat} (h : k < n) (hn : n ≤ 1000) : vp_in (nI k) n := by
  rw [vp_in_iff, i_toInt k (by omega)]; omega
def sxm (k : Nat) : Nat := if k = 5 then 6 else if k = 6 then 5 else k
def bts (W N : Nat) (ct : Nat → Int32) (c : Nat) : Int32 := (if c < N ∧ c % W + 1 < W ∧ ct (57 + c) = 1 then 1 else 0) + (if c + W < N ∧ ct (c + W) = 1 then 2 else 0) + (if c < N ∧ c < W ∧ ct c = 1 then 4 else 0)
def wd (g : GG) : Nat := (gs g 0).toNatClampNeg
def ht (g : GG) : Nat := (gs g 1).toNatClampNeg
theorem WH.wd {g : GG} {W H : Nat} (w : WH g W H) : wd g = W ∧ ht g = H := by
  have h1 := w.2.2.2.1
  have h2 := w.2.2.2.2.2
  have h3 := w.1
  have h4 := w.2.1
  refine ⟨?_, ?_⟩
  · show (gs g 0).toNatClampNeg = W
    rw [h3, i_cl W (by omega)]
  · show (gs g 1).toNatClampNeg = H
    rw [h4, i_cl H (by omega)]
/-- cuts stand at places only where something can be sawn -/
def CtOk (W H : Nat) (ct : Nat → Int32) : Prop := ∀ p, p < 106 → (ct p = 0 ∨ ct p = 1) ∧ (ct p = 1 → p < W * H ∨ ∃ c, p = 57 + c ∧ c < W * H ∧ c % W + 1 < W)
section
variable {Z : ZZ} {M : MM} {m : Nat} {g : GG} {W H : Nat}
theorem vp0 : vp_in 0 226 ∧ vp_in 1 226 ∧ vp_in 2 226 ∧ vp_in 4 226 := ⟨vpn (k := 0) (by omega) (by omega), vpn (k := 1) (by omega) (by omega), vpn (k := 2) (by omega) (by omega), vpn (k := 4) (by omega) (by omega)⟩
theorem e8 (c : Nat) : (8 : Int32) + nI c = nI (8 + c) := nI_add 8 c
theorem e57 (c : Nat) : (57 : Int32) + nI c = nI (57 + c) := nI_add 57 c
theorem below_iff {W H c : Nat} (hW : 0 < W) : c / W + 1 < H ↔ c + W < W * H := by
  have e : (c + W) / W = c / W + 1 := Nat.add_div_right c hW
  rw [← e, Nat.div_lt_iff_lt_mul hW, Nat.mul_comm]
theorem row_lt {W H c : Nat} (hc : c < W * H) : c / W < H := Nat.div_lt_of_lt_mul hc
/-- where the model keeps a cut -/
def kp (W c s : Nat) : Nat := if s = 3 then c - 1 else if s = 2 then (if W ≤ c then c - W else c) else c
def bitN (W c s : Nat) : Int32 := if s = 0 ∨ s = 3 then 1 else if s = 1 ∨ W ≤ c then 2 else 4
theorem row_pos {W c : Nat} (hW : 0 < W) : 0 < c / W ↔ W ≤ c := Nat.div_pos_iff.trans ⟨fun h => h.2, fun h => ⟨hW, h⟩⟩
theorem b_and (p q r : Prop) [Decidable p] [Decidable q] [Decidable r] : ((((if p then (1 : Int32) else 0) + (if q then 2 else 0) + (if r then 4 else 0)) &&& 1 = 0) ↔ ¬ p) ∧ ((((if p then (1 : Int32) else 0) + (if q then 2 else 0) + (if r then 4 else 0)) &&& 2 = 0) ↔ ¬ q) ∧ ((((if p then (1 : Int32) else 0) + (if q then 2 else 0) + (if r then 4 else 0)) &&& 4 = 0) ↔ ¬ r) := by
  by_cases hp : p <;> by_cases hq : q <;> by_cases hr : r <;> simp only [hp, hq, hr, if_true, if_false] <;> decide
theorem b_or (p q r : Prop) [Decidable p] [Decidable q] [Decidable r] : (((if p then (1 : Int32) else 0) + (if q then 2 else 0) + (if r then 4 else 0)) ||| 1 = 1 + (if q then 2 else 0) + (if r then 4 else 0)) ∧ (((if p then (1 : Int32) else 0) + (if q then 2 else 0) + (if r then 4 else 0)) ||| 2 = (if p then 1 else 0) + 2 + (if r then 4 else 0)) ∧ (((if p then (1 : Int32) else 0) + (if q then 2 else 0) + (if r then 4 else 0)) ||| 4 = (if p then 1 else 0) + (if q then 2 else 0) + 4) := by
  by_cases hp : p <;> by_cases hq : q <;> by_cases hr : r <;> simp only [hp, hq, hr, if_true, if_false] <;> decide
theorem md_pred {W c : Nat} (hW : 0 < W) (h : 0 < c % W) : (c - 1) % W + 1 = c % W := by
  have hdm : W * (c / W) + c % W = c := Nat.div_add_mod c W
  have hm : c % W < W := Nat.mod_lt _ hW
  have e : c - 1 = W * (c / W) + (c % W - 1) := by omega
  rw [e, Nat.mul_add_mod, Nat.mod_eq_of_lt (by omega)]
  omega
end
