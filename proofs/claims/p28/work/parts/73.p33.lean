/-! PURE: the model's text, undo, harvest -/
section
variable {Z : ZZ} {M : MM} {m : Nat} {g : GG} {W H : Nat} {sk : Nat → GG} {n len : Nat} {tx : Nat → Int32}
theorem fp_nan {a : UInt64} (h : Jvm.FP.Core.dIsNaN a = false) : vf_n64 a := by
  have h1 := mt (Jvm.FP.Core.isNaN_bits a).mpr (by rw [h]; decide)
  unfold vf_n64
  rw [UInt64.le_iff_toNat_le, UInt64.toNat_and]
  have e : (0x7fffffffffffffff : UInt64).toNat = 2 ^ 63 - 1 := by decide
  have e2 : (0x7ff0000000000000 : UInt64).toNat = 9218868437227405312 := by decide
  rw [e, e2, Nat.and_two_pow_sub_one_eq_mod]
  omega
theorem fp_no (x : Int32) {y : Int32} (h : y ≠ 0) : Jvm.FP.Core.dIsNaN (FP.ddiv (FP.i2d x) (FP.i2d y)) = false := by
  have hx : Jvm.FP.Core.dIsNaN (FP.i2d x) = false := by
    have h1 := (Jvm.FP.Core.fin_bits _).1 (Jvm.FP.Core.i2d_fin x)
    exact Bool.eq_false_iff.mpr (fun q => by
      have := (Jvm.FP.Core.isNaN_bits _).1 q
      have e : FP.i2d x = Jvm.FP.Core.i2d x := rfl
      rw [e] at this
      omega)
  exact Jvm.FP.Core.ddiv_out hx (Jvm.FP.Core.i2d_fin y) (fun q => Jvm.FP.Core.i2d_ne_zero h ((Jvm.FP.Core.zero_bits2 _).1 q))
noncomputable def hvG (g : GG) : UInt64 := if gs g 4 = 0 then FP.dconst0 else FP.ddiv (FP.i2d (gs g 6)) (FP.i2d (gs g 4))
theorem hv_self (g : GG) : Op.cmpValue (FP.dcmp (hvG g) (hvG g)) .l = 0 := by
  have : Jvm.FP.Core.dIsNaN (hvG g) = false := by
    unfold hvG
    by_cases e : gs g 4 = 0
    · rw [if_pos e]; decide
    · rw [if_neg e]; exact fp_no _ e
  have h : FP.dcmp (hvG g) (hvG g) = some .eq := Jvm.FP.Core.dcmp_self ((Jvm.FP.Core.notNaN_iff _).1 this)
  rw [h]; rfl
theorem c_harvest {a ns : Nat} {Q : UInt64 → MM → Prop} (F : FieldAt Z a) (c : ClsI M a g sk n ns tx len) (hQ : Q (hvG g) M) : P_X5_harvest Z M a Q := by
  unfold P_X5_harvest B_X5_harvest_0
  refine ⟨F.1.1, a + 1, F.1.2.1, F.2.1.1.1, ?_⟩
  rw [c.1.1 4 (by omega), c.1.1 6 (by omega)]
  unfold hvG at hQ
  refine ⟨fun z => ?_, fun z => ?_⟩
  · rw [if_neg z] at hQ
    exact ⟨fp_nan (fp_no _ z), hQ⟩
  · rw [if_pos z] at hQ
    exact hQ
end
