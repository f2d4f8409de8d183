/-! PURE: the steps of the law, the changes -/
theorem jat (M : MM) (o : Nat) (r : Int64) : mJ (setJ M o (vp_updL (mJ M o) (0 : Int32).toNatClampNeg r)) o 0 = r := by
  simp [mJ, setJ, va_up, vp_updL]
section
variable {Z : ZZ} {M : MM} {a m o T : Nat} {K : MM → Prop}
def OksG (sk : Nat → GG) (n T : Nat) : Prop := ∀ i, i < n → ∃ W H, OkG (sk i) W H T
theorem OksG.mono {sk : Nat → GG} {n T T1 : Nat} (h : OksG sk n T) (hT : T ≤ T1) : OksG sk n T1 := fun i hi => by
  obtain ⟨W, H, q⟩ := h i hi
  exact ⟨W, H, q.mono hT⟩
theorem OksG.push {sk : Nat → GG} {n T T1 W H : Nat} {g : GG} (h : OksG sk n T) (hn : n ≤ 4) (hg : OkG g W H T) (hT : T ≤ T1) : OksG (pushS sk n g) (pc n) T1 :=
  push_ok (P := fun g => ∃ W H, OkG g W H T1) hn (h.mono hT) ⟨W, H, hg.mono hT⟩
theorem v9 (ho : zK Z o = 9 ∧ zN Z o = 1) : vp_in 0 (zN Z o) := by rw [ho.2]; exact vpn (k := 0) (by omega) (by omega)
end
