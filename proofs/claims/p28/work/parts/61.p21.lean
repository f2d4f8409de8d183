/-! PURE: the model keeps states; its small checks -/
def pushS (sk : Nat → GG) (n : Nat) (g : GG) : Nat → GG := if n = 4 then (fun i => if i = 3 then g else sk (i + 1)) else (fun i => if i = n then g else sk i)
def pc (n : Nat) : Nat := if n = 4 then 4 else n + 1
section
variable {Z : ZZ} {M : MM} {m : Nat} {g : GG} {W H : Nat}
/-- all arrays but these, all ints of objects but these fields of the model -/
def FrM (m : Nat) (rs fs : List Nat) (M M1 : MM) : Prop := (∀ a, a ∉ rs → mA M1 a = mA M a) ∧ (∀ f a, (a ≠ m ∨ f ∉ fs) → mI M1 f a = mI M f a) ∧ mJ M1 = mJ M
theorem Fr.toM {rs : List Nat} {M M1 : MM} (f : Fr rs [] M M1) (m : Nat) (fs : List Nat) : FrM m rs fs M M1 := ⟨f.1, fun k a _ => f.2.1 k a (by simp), f.2.2⟩
theorem FrM.trans {m : Nat} {rs fs : List Nat} {M M1 M2 : MM} (h : FrM m rs fs M M1) (h2 : FrM m rs fs M1 M2) : FrM m rs fs M M2 := ⟨fun a ha => (h2.1 a ha).trans (h.1 a ha), fun f a ha => (h2.2.1 f a ha).trans (h.2.1 f a ha), h2.2.2.trans h.2.2⟩
theorem FrM.mono {m : Nat} {rs fs rs2 fs2 : List Nat} {M M1 : MM} (h : FrM m rs fs M M1) (h1 : ∀ a ∈ rs, a ∈ rs2) (h2 : ∀ a ∈ fs, a ∈ fs2) : FrM m rs2 fs2 M M1 := ⟨fun a ha => h.1 a (fun q => ha (h1 a q)), fun f a ha => h.2.1 f a (ha.imp id (fun q r => q (h2 f r))), h.2.2⟩
theorem FrM.setI (M : MM) (f m : Nat) (x : Int32) : FrM m [] [f] M (setI M f m x) := ⟨fun _ _ => rfl, fun k a ha => by
  rw [mI_setI]
  rcases ha with ha | ha
  · rw [if_neg (fun q => ha q.2)]
  · rw [if_neg (fun q => ha (by simp [q.1]))], rfl⟩
theorem FrM.refl (m : Nat) (rs fs : List Nat) (M : MM) : FrM m rs fs M M := ⟨fun _ _ => rfl, fun _ _ _ => rfl, rfl⟩
/-- a cell, or none -/
def isC (W H : Nat) (v : Int32) : Prop := 0 ≤ v.toInt ∧ v.toInt < (W * H : Nat)
theorem isC_ex {v : Int32} (h : isC W H v) : ∃ c, c < W * H ∧ v = nI c := by
  refine ⟨v.toInt.toNat, ?_, ?_⟩
  · have := h.1; have := h.2; omega
  · rw [i_eq, i_toInt _ (by have := h.2; have h2 := v.toInt_lt; omega)]
    have := h.1; omega
/-- a rectangle within the field -/
def isR (W H c : Nat) (v h : Int32) : Prop := 1 ≤ v.toInt ∧ v.toInt ≤ 7 ∧ 1 ≤ h.toInt ∧ h.toInt ≤ 7 ∧ ((c % W : Nat) : Int) + v.toInt ≤ (W : Int) ∧ ((c / W : Nat) : Int) + h.toInt ≤ (H : Int)
theorem small_ex {v : Int32} {n : Nat} (h0 : 0 ≤ v.toInt) (h : v.toInt ≤ (n : Int)) (hn : n < 2147483648) : ∃ k, k ≤ n ∧ v = nI k := by
  refine ⟨v.toInt.toNat, by omega, ?_⟩
  rw [i_eq, i_toInt _ (by omega)]; omega
end
