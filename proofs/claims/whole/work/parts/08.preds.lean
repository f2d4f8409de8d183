/-! IceField.isOutside(III)Z -/
def B_X5_isOutside_0 (Z : ZZ) (Q : Int32 → MM → Prop)  (M : MM) (v0 : Int32) (v1 : Int32) (v2 : Int32) : Prop := (v0 < v1 → (Q 1 M)) ∧ (¬ v0 < v1 → ((v0 ≤ v2 → (Q 0 M)) ∧ (¬ v0 ≤ v2 → (Q 1 M))))
def P_X5_isOutside (Z : ZZ) (M : MM) (v0 : Int32) (v1 : Int32) (v2 : Int32) (Q : Int32 → MM → Prop) : Prop := B_X5_isOutside_0 Z Q M v0 v1 v2
def rm_X5_isOutside : Room := { frames := 0, cells := 0, slots := 0, locals := 0 }
/-! IceField.savedAt(I)LIceField$Ice; -/
def B_X5_savedAt_0 (Z : ZZ) (Q : Option Nat → MM → Prop)  (M : MM) (a0 : Nat) (v1 : Int32) : Prop := (v1 < 0 → (Q none M)) ∧ (¬ v1 < 0 → ((zK Z a0 = 5 ∧ (∃ y6_1, zR Z 15 a0 = some y6_1 ∧ (zK Z y6_1 = 8 ∧ ((nI (zN Z y6_1)) ≤ v1 → (Q none M)) ∧ (¬ (nI (zN Z y6_1)) ≤ v1 → ((vp_in v1 (zN Z y6_1) ∧ ∃ y18_3, zG Z y6_1 v1.toNatClampNeg = some y18_3 ∧ Q (some y18_3) M))))))))
def P_X5_savedAt (Z : ZZ) (M : MM) (a0 : Nat) (v1 : Int32) (Q : Option Nat → MM → Prop) : Prop := B_X5_savedAt_0 Z Q M a0 v1
def rm_X5_savedAt : Room := { frames := 0, cells := 0, slots := 0, locals := 0 }
/-! IceField$Numbers.at(I)I -/
def B_X2_at_0 (Z : ZZ) (Q : Int32 → MM → Prop)  (M : MM) (a0 : Nat) (v1 : Int32) : Prop := (v1 < 0 → (Q 0 M)) ∧ (¬ v1 < 0 → ((zK Z a0 = 2 ∧ (∃ y6_1, zR Z 7 a0 = some y6_1 ∧ (zK Z y6_1 = 7 ∧ ((nI (zN Z y6_1)) ≤ v1 → (Q 0 M)) ∧ (¬ (nI (zN Z y6_1)) ≤ v1 → ((vp_in v1 (zN Z y6_1) ∧ Q (mA M y6_1 v1.toNatClampNeg) M))))))))
def P_X2_at (Z : ZZ) (M : MM) (a0 : Nat) (v1 : Int32) (Q : Int32 → MM → Prop) : Prop := B_X2_at_0 Z Q M a0 v1
def rm_X2_at : Room := { frames := 0, cells := 0, slots := 0, locals := 0 }
/-! IceField$Numbers.copyFrom(LIceField$Numbers;)V -/
def B_X2_copyFrom_2 (Z : ZZ) (Q : MM → Prop) (K2 : MM → Nat → Nat → Int32 → Prop) (M : MM) (a0 : Nat) (a1 : Nat) (v2 : Int32) : Prop := (zK Z a0 = 2 ∧ (∃ y4_1, zR Z 7 a0 = some y4_1 ∧ (zK Z y4_1 = 7 ∧ ((nI (zN Z y4_1)) ≤ v2 → (Q M)) ∧ (¬ (nI (zN Z y4_1)) ≤ v2 → ((zK Z a1 = 2 ∧ (P_X2_at Z M a1 v2 (fun r18 M18 => (vp_in v2 (zN Z y4_1) ∧ K2 (setA M18 y4_1 (upd (mA M18 y4_1) v2.toNatClampNeg r18)) a0 a1 (v2 + 1))))))))))
def L_X2_copyFrom_2 (Z : ZZ) (Q : MM → Prop)  : Nat → MM → Nat → Nat → Int32 → Prop
  | 0 => fun _ _ _ _ => False
  | n + 1 => B_X2_copyFrom_2 Z Q  (L_X2_copyFrom_2 Z Q   n)
def B_X2_copyFrom_0 (Z : ZZ) (Q : MM → Prop)  (M : MM) (a0 : Nat) (a1 : Nat) : Prop := ∃ n, L_X2_copyFrom_2 Z Q  n M a0 a1 0
def P_X2_copyFrom (Z : ZZ) (M : MM) (a0 : Nat) (a1 : Nat) (Q : MM → Prop) : Prop := B_X2_copyFrom_0 Z Q M a0 a1
def rm_X2_copyFrom : Room := { frames := 1, cells := 0, slots := 0, locals := 21 }
/-! IceField$Ice.copyFrom(LIceField$Ice;)V -/
def B_X1_copyFrom_0 (Z : ZZ) (Q : MM → Prop)  (M : MM) (a0 : Nat) (a1 : Nat) : Prop := (zK Z a1 = 1 ∧ (zK Z a0 = 1 ∧ (∃ y65_2, zR Z 3 a0 = some y65_2 ∧ (∃ y69_3, zR Z 3 a1 = some y69_3 ∧ (zK Z y65_2 = 2 ∧ (P_X2_copyFrom Z (setI (setI (setI (setI (setI (setI (setI (setI M 0 a0 (mI M 0 a1)) 1 a0 (mI (setI M 0 a0 (mI M 0 a1)) 1 a1)) 2 a0 (mI (setI (setI M 0 a0 (mI M 0 a1)) 1 a0 (mI (setI M 0 a0 (mI M 0 a1)) 1 a1)) 2 a1)) 3 a0 (mI (setI (setI (setI M 0 a0 (mI M 0 a1)) 1 a0 (mI (setI M 0 a0 (mI M 0 a1)) 1 a1)) 2 a0 (mI (setI (setI M 0 a0 (mI M 0 a1)) 1 a0 (mI (setI M 0 a0 (mI M 0 a1)) 1 a1)) 2 a1)) 3 a1)) 4 a0 (mI (setI (setI (setI (setI M 0 a0 (mI M 0 a1)) 1 a0 (mI (setI M 0 a0 (mI M 0 a1)) 1 a1)) 2 a0 (mI (setI (setI M 0 a0 (mI M 0 a1)) 1 a0 (mI (setI M 0 a0 (mI M 0 a1)) 1 a1)) 2 a1)) 3 a0 (mI (setI (setI (setI M 0 a0 (mI M 0 a1)) 1 a0 (mI (setI M 0 a0 (mI M 0 a1)) 1 a1)) 2 a0 (mI (setI (setI M 0 a0 (mI M 0 a1)) 1 a0 (mI (setI M 0 a0 (mI M 0 a1)) 1 a1)) 2 a1)) 3 a1)) 4 a1)) 5 a0 (mI (setI (setI (setI (setI (setI M 0 a0 (mI M 0 a1)) 1 a0 (mI (setI M 0 a0 (mI M 0 a1)) 1 a1)) 2 a0 (mI (setI (setI M 0 a0 (mI M 0 a1)) 1 a0 (mI (setI M 0 a0 (mI M 0 a1)) 1 a1)) 2 a1)) 3 a0 (mI (setI (setI (setI M 0 a0 (mI M 0 a1)) 1 a0 (mI (setI M 0 a0 (mI M 0 a1)) 1 a1)) 2 a0 (mI (setI (setI M 0 a0 (mI M 0 a1)) 1 a0 (mI (setI M 0 a0 (mI M 0 a1)) 1 a1)) 2 a1)) 3 a1)) 4 a0 (mI (setI (setI (setI (setI M 0 a0 (mI M 0 a1)) 1 a0 (mI (setI M 0 a0 (mI M 0 a1)) 1 a1)) 2 a0 (mI (setI (setI M 0 a0 (mI M 0 a1)) 1 a0 (mI (setI M 0 a0 (mI M 0 a1)) 1 a1)) 2 a1)) 3 a0 (mI (setI (setI (setI M 0 a0 (mI M 0 a1)) 1 a0 (mI (setI M 0 a0 (mI M 0 a1)) 1 a1)) 2 a0 (mI (setI (setI M 0 a0 (mI M 0 a1)) 1 a0 (mI (setI M 0 a0 (mI M 0 a1)) 1 a1)) 2 a1)) 3 a1)) 4 a1)) 5 a1)) 6 a0 (mI (setI (setI (setI (setI (setI (setI M 0 a0 (mI M 0 a1)) 1 a0 (mI (setI M 0 a0 (mI M 0 a1)) 1 a1)) 2 a0 (mI (setI (setI M 0 a0 (mI M 0 a1)) 1 a0 (mI (setI M 0 a0 (mI M 0 a1)) 1 a1)) 2 a1)) 3 a0 (mI (setI (setI (setI M 0 a0 (mI M 0 a1)) 1 a0 (mI (setI M 0 a0 (mI M 0 a1)) 1 a1)) 2 a0 (mI (setI (setI M 0 a0 (mI M 0 a1)) 1 a0 (mI (setI M 0 a0 (mI M 0 a1)) 1 a1)) 2 a1)) 3 a1)) 4 a0 (mI (setI (setI (setI (setI M 0 a0 (mI M 0 a1)) 1 a0 (mI (setI M 0 a0 (mI M 0 a1)) 1 a1)) 2 a0 (mI (setI (setI M 0 a0 (mI M 0 a1)) 1 a0 (mI (setI M 0 a0 (mI M 0 a1)) 1 a1)) 2 a1)) 3 a0 (mI (setI (setI (setI M 0 a0 (mI M 0 a1)) 1 a0 (mI (setI M 0 a0 (mI M 0 a1)) 1 a1)) 2 a0 (mI (setI (setI M 0 a0 (mI M 0 a1)) 1 a0 (mI (setI M 0 a0 (mI M 0 a1)) 1 a1)) 2 a1)) 3 a1)) 4 a1)) 5 a0 (mI (setI (setI (setI (setI (setI M 0 a0 (mI M 0 a1)) 1 a0 (mI (setI M 0 a0 (mI M 0 a1)) 1 a1)) 2 a0 (mI (setI (setI M 0 a0 (mI M 0 a1)) 1 a0 (mI (setI M 0 a0 (mI M 0 a1)) 1 a1)) 2 a1)) 3 a0 (mI (setI (setI (setI M 0 a0 (mI M 0 a1)) 1 a0 (mI (setI M 0 a0 (mI M 0 a1)) 1 a1)) 2 a0 (mI (setI (setI M 0 a0 (mI M 0 a1)) 1 a0 (mI (setI M 0 a0 (mI M 0 a1)) 1 a1)) 2 a1)) 3 a1)) 4 a0 (mI (setI (setI (setI (setI M 0 a0 (mI M 0 a1)) 1 a0 (mI (setI M 0 a0 (mI M 0 a1)) 1 a1)) 2 a0 (mI (setI (setI M 0 a0 (mI M 0 a1)) 1 a0 (mI (setI M 0 a0 (mI M 0 a1)) 1 a1)) 2 a1)) 3 a0 (mI (setI (setI (setI M 0 a0 (mI M 0 a1)) 1 a0 (mI (setI M 0 a0 (mI M 0 a1)) 1 a1)) 2 a0 (mI (setI (setI M 0 a0 (mI M 0 a1)) 1 a0 (mI (setI M 0 a0 (mI M 0 a1)) 1 a1)) 2 a1)) 3 a1)) 4 a1)) 5 a1)) 6 a1)) 7 a0 (mI (setI (setI (setI (setI (setI (setI (setI M 0 a0 (mI M 0 a1)) 1 a0 (mI (setI M 0 a0 (mI M 0 a1)) 1 a1)) 2 a0 (mI (setI (setI M 0 a0 (mI M 0 a1)) 1 a0 (mI (setI M 0 a0 (mI M 0 a1)) 1 a1)) 2 a1)) 3 a0 (mI (setI (setI (setI M 0 a0 (mI M 0 a1)) 1 a0 (mI (setI M 0 a0 (mI M 0 a1)) 1 a1)) 2 a0 (mI (setI (setI M 0 a0 (mI M 0 a1)) 1 a0 (mI (setI M 0 a0 (mI M 0 a1)) 1 a1)) 2 a1)) 3 a1)) 4 a0 (mI (setI (setI (setI (setI M 0 a0 (mI M 0 a1)) 1 a0 (mI (setI M 0 a0 (mI M 0 a1)) 1 a1)) 2 a0 (mI (setI (setI M 0 a0 (mI M 0 a1)) 1 a0 (mI (setI M 0 a0 (mI M 0 a1)) 1 a1)) 2 a1)) 3 a0 (mI (setI (setI (setI M 0 a0 (mI M 0 a1)) 1 a0 (mI (setI M 0 a0 (mI M 0 a1)) 1 a1)) 2 a0 (mI (setI (setI M 0 a0 (mI M 0 a1)) 1 a0 (mI (setI M 0 a0 (mI M 0 a1)) 1 a1)) 2 a1)) 3 a1)) 4 a1)) 5 a0 (mI (setI (setI (setI (setI (setI M 0 a0 (mI M 0 a1)) 1 a0 (mI (setI M 0 a0 (mI M 0 a1)) 1 a1)) 2 a0 (mI (setI (setI M 0 a0 (mI M 0 a1)) 1 a0 (mI (setI M 0 a0 (mI M 0 a1)) 1 a1)) 2 a1)) 3 a0 (mI (setI (setI (setI M 0 a0 (mI M 0 a1)) 1 a0 (mI (setI M 0 a0 (mI M 0 a1)) 1 a1)) 2 a0 (mI (setI (setI M 0 a0 (mI M 0 a1)) 1 a0 (mI (setI M 0 a0 (mI M 0 a1)) 1 a1)) 2 a1)) 3 a1)) 4 a0 (mI (setI (setI (setI (setI M 0 a0 (mI M 0 a1)) 1 a0 (mI (setI M 0 a0 (mI M 0 a1)) 1 a1)) 2 a0 (mI (setI (setI M 0 a0 (mI M 0 a1)) 1 a0 (mI (setI M 0 a0 (mI M 0 a1)) 1 a1)) 2 a1)) 3 a0 (mI (setI (setI (setI M 0 a0 (mI M 0 a1)) 1 a0 (mI (setI M 0 a0 (mI M 0 a1)) 1 a1)) 2 a0 (mI (setI (setI M 0 a0 (mI M 0 a1)) 1 a0 (mI (setI M 0 a0 (mI M 0 a1)) 1 a1)) 2 a1)) 3 a1)) 4 a1)) 5 a1)) 6 a0 (mI (setI (setI (setI (setI (setI (setI M 0 a0 (mI M 0 a1)) 1 a0 (mI (setI M 0 a0 (mI M 0 a1)) 1 a1)) 2 a0 (mI (setI (setI M 0 a0 (mI M 0 a1)) 1 a0 (mI (setI M 0 a0 (mI M 0 a1)) 1 a1)) 2 a1)) 3 a0 (mI (setI (setI (setI M 0 a0 (mI M 0 a1)) 1 a0 (mI (setI M 0 a0 (mI M 0 a1)) 1 a1)) 2 a0 (mI (setI (setI M 0 a0 (mI M 0 a1)) 1 a0 (mI (setI M 0 a0 (mI M 0 a1)) 1 a1)) 2 a1)) 3 a1)) 4 a0 (mI (setI (setI (setI (setI M 0 a0 (mI M 0 a1)) 1 a0 (mI (setI M 0 a0 (mI M 0 a1)) 1 a1)) 2 a0 (mI (setI (setI M 0 a0 (mI M 0 a1)) 1 a0 (mI (setI M 0 a0 (mI M 0 a1)) 1 a1)) 2 a1)) 3 a0 (mI (setI (setI (setI M 0 a0 (mI M 0 a1)) 1 a0 (mI (setI M 0 a0 (mI M 0 a1)) 1 a1)) 2 a0 (mI (setI (setI M 0 a0 (mI M 0 a1)) 1 a0 (mI (setI M 0 a0 (mI M 0 a1)) 1 a1)) 2 a1)) 3 a1)) 4 a1)) 5 a0 (mI (setI (setI (setI (setI (setI M 0 a0 (mI M 0 a1)) 1 a0 (mI (setI M 0 a0 (mI M 0 a1)) 1 a1)) 2 a0 (mI (setI (setI M 0 a0 (mI M 0 a1)) 1 a0 (mI (setI M 0 a0 (mI M 0 a1)) 1 a1)) 2 a1)) 3 a0 (mI (setI (setI (setI M 0 a0 (mI M 0 a1)) 1 a0 (mI (setI M 0 a0 (mI M 0 a1)) 1 a1)) 2 a0 (mI (setI (setI M 0 a0 (mI M 0 a1)) 1 a0 (mI (setI M 0 a0 (mI M 0 a1)) 1 a1)) 2 a1)) 3 a1)) 4 a0 (mI (setI (setI (setI (setI M 0 a0 (mI M 0 a1)) 1 a0 (mI (setI M 0 a0 (mI M 0 a1)) 1 a1)) 2 a0 (mI (setI (setI M 0 a0 (mI M 0 a1)) 1 a0 (mI (setI M 0 a0 (mI M 0 a1)) 1 a1)) 2 a1)) 3 a0 (mI (setI (setI (setI M 0 a0 (mI M 0 a1)) 1 a0 (mI (setI M 0 a0 (mI M 0 a1)) 1 a1)) 2 a0 (mI (setI (setI M 0 a0 (mI M 0 a1)) 1 a0 (mI (setI M 0 a0 (mI M 0 a1)) 1 a1)) 2 a1)) 3 a1)) 4 a1)) 5 a1)) 6 a1)) 7 a1)) y65_2 y69_3 (fun M72 => (∃ y76_5, zR Z 4 a0 = some y76_5 ∧ (∃ y80_6, zR Z 4 a1 = some y80_6 ∧ (zK Z y76_5 = 2 ∧ (P_X2_copyFrom Z M72 y76_5 y80_6 (fun M83 => (∃ y87_8, zR Z 5 a0 = some y87_8 ∧ (∃ y91_9, zR Z 5 a1 = some y91_9 ∧ (zK Z y87_8 = 2 ∧ (P_X2_copyFrom Z M83 y87_8 y91_9 (fun M94 => Q M94)))))))))))))))))
def P_X1_copyFrom (Z : ZZ) (M : MM) (a0 : Nat) (a1 : Nat) (Q : MM → Prop) : Prop := B_X1_copyFrom_0 Z Q M a0 a1
def rm_X1_copyFrom : Room := { frames := 2, cells := 0, slots := 0, locals := 43 }
/-! IceField.saveState()V -/
def B_X5_saveState_21 (Z : ZZ) (Q : MM → Prop)  (M : MM) (a0 : Nat) : Prop := (zK Z a0 = 5 ∧ (4 ≤ (mI (setI M 12 a0 (((mI M 12 a0) + 1) - ((mI M 12 a0) + 1) / 4 * 4)) 13 a0) → (Q (setI M 12 a0 (((mI M 12 a0) + 1) - ((mI M 12 a0) + 1) / 4 * 4)))) ∧ (¬ 4 ≤ (mI (setI M 12 a0 (((mI M 12 a0) + 1) - ((mI M 12 a0) + 1) / 4 * 4)) 13 a0) → (Q (setI (setI M 12 a0 (((mI M 12 a0) + 1) - ((mI M 12 a0) + 1) / 4 * 4)) 13 a0 ((mI (setI M 12 a0 (((mI M 12 a0) + 1) - ((mI M 12 a0) + 1) / 4 * 4)) 13 a0) + 1)))))
def B_X5_saveState_0 (Z : ZZ) (Q : MM → Prop)  (M : MM) (a0 : Nat) : Prop := (zK Z a0 = 5 ∧ (P_X5_savedAt Z M a0 (mI M 12 a0) (fun r5 M5 => (r5 = none → (B_X5_saveState_21 Z Q  M5 a0)) ∧ (∀ y5_1, r5 = some y5_1 → ((∃ y15_2, zR Z 13 a0 = some y15_2 ∧ (zK Z y5_1 = 1 ∧ (P_X1_copyFrom Z M5 y5_1 y15_2 (fun M18 => B_X5_saveState_21 Z Q  M18 a0)))))))))
def P_X5_saveState (Z : ZZ) (M : MM) (a0 : Nat) (Q : MM → Prop) : Prop := B_X5_saveState_0 Z Q M a0
def rm_X5_saveState : Room := { frames := 3, cells := 0, slots := 0, locals := 64 }
/-! IceField$Numbers.fill(I)V -/
def B_X2_fill_2 (Z : ZZ) (Q : MM → Prop) (K2 : MM → Nat → Int32 → Int32 → Prop) (M : MM) (a0 : Nat) (v1 : Int32) (v2 : Int32) : Prop := (zK Z a0 = 2 ∧ (∃ y4_1, zR Z 7 a0 = some y4_1 ∧ (zK Z y4_1 = 7 ∧ ((nI (zN Z y4_1)) ≤ v2 → (Q M)) ∧ (¬ (nI (zN Z y4_1)) ≤ v2 → ((vp_in v2 (zN Z y4_1) ∧ K2 (setA M y4_1 (upd (mA M y4_1) v2.toNatClampNeg v1)) a0 v1 (v2 + 1)))))))
def L_X2_fill_2 (Z : ZZ) (Q : MM → Prop)  : Nat → MM → Nat → Int32 → Int32 → Prop
  | 0 => fun _ _ _ _ => False
  | n + 1 => B_X2_fill_2 Z Q  (L_X2_fill_2 Z Q   n)
def B_X2_fill_0 (Z : ZZ) (Q : MM → Prop)  (M : MM) (a0 : Nat) (v1 : Int32) : Prop := ∃ n, L_X2_fill_2 Z Q  n M a0 v1 0
def P_X2_fill (Z : ZZ) (M : MM) (a0 : Nat) (v1 : Int32) (Q : MM → Prop) : Prop := B_X2_fill_0 Z Q M a0 v1
def rm_X2_fill : Room := { frames := 0, cells := 0, slots := 0, locals := 0 }
/-! IceField$Ice.beginAnew(II)V -/
def B_X1_beginAnew_0 (Z : ZZ) (Q : MM → Prop)  (M : MM) (a0 : Nat) (v1 : Int32) (v2 : Int32) : Prop := (zK Z a0 = 1 ∧ (∃ y36_1, zR Z 3 a0 = some y36_1 ∧ (zK Z y36_1 = 2 ∧ (P_X2_fill Z (setI (setI (setI (setI (setI (setI (setI M 0 a0 v1) 1 a0 v2) 3 a0 0) 4 a0 0) 5 a0 0) 6 a0 0) 7 a0 0) y36_1 0 (fun M40 => (∃ y44_3, zR Z 4 a0 = some y44_3 ∧ (zK Z y44_3 = 2 ∧ (P_X2_fill Z M40 y44_3 0 (fun M48 => (∃ y52_5, zR Z 5 a0 = some y52_5 ∧ (zK Z y52_5 = 2 ∧ (P_X2_fill Z M48 y52_5 0 (fun M56 => Q M56)))))))))))))
def P_X1_beginAnew (Z : ZZ) (M : MM) (a0 : Nat) (v1 : Int32) (v2 : Int32) (Q : MM → Prop) : Prop := B_X1_beginAnew_0 Z Q M a0 v1 v2
def rm_X1_beginAnew : Room := { frames := 1, cells := 0, slots := 0, locals := 22 }
/-! IceField$Ice.cellCount()I -/
def B_X1_cellCount_0 (Z : ZZ) (Q : Int32 → MM → Prop)  (M : MM) (a0 : Nat) : Prop := (zK Z a0 = 1 ∧ Q ((mI M 0 a0) * (mI M 1 a0)) M)
def P_X1_cellCount (Z : ZZ) (M : MM) (a0 : Nat) (Q : Int32 → MM → Prop) : Prop := B_X1_cellCount_0 Z Q M a0
def rm_X1_cellCount : Room := { frames := 0, cells := 0, slots := 0, locals := 0 }
/-! IceField$Numbers.put(II)V -/
def B_X2_put_0 (Z : ZZ) (Q : MM → Prop)  (M : MM) (a0 : Nat) (v1 : Int32) (v2 : Int32) : Prop := (v1 < 0 → (Q M)) ∧ (¬ v1 < 0 → ((zK Z a0 = 2 ∧ (∃ y6_1, zR Z 7 a0 = some y6_1 ∧ (zK Z y6_1 = 7 ∧ ((nI (zN Z y6_1)) ≤ v1 → (Q M)) ∧ (¬ (nI (zN Z y6_1)) ≤ v1 → ((vp_in v1 (zN Z y6_1) ∧ Q (setA M y6_1 (upd (mA M y6_1) v1.toNatClampNeg v2))))))))))
def P_X2_put (Z : ZZ) (M : MM) (a0 : Nat) (v1 : Int32) (v2 : Int32) (Q : MM → Prop) : Prop := B_X2_put_0 Z Q M a0 v1 v2
def rm_X2_put : Room := { frames := 0, cells := 0, slots := 0, locals := 0 }
/-! IceField$Ice.add(II)V -/
def B_X1_add_0 (Z : ZZ) (Q : MM → Prop)  (M : MM) (a0 : Nat) (v1 : Int32) (v2 : Int32) : Prop := (zK Z a0 = 1 ∧ (∃ y1_1, zR Z 3 a0 = some y1_1 ∧ (zK Z y1_1 = 2 ∧ (P_X2_at Z M y1_1 v1 (fun r10 M10 => (P_X2_put Z M10 y1_1 v1 (r10 + v2) (fun M15 => Q (setI M15 4 a0 ((mI M15 4 a0) + v2)))))))))
def P_X1_add (Z : ZZ) (M : MM) (a0 : Nat) (v1 : Int32) (v2 : Int32) (Q : MM → Prop) : Prop := B_X1_add_0 Z Q M a0 v1 v2
def rm_X1_add : Room := { frames := 1, cells := 0, slots := 0, locals := 22 }
/-! IceField$Ice.addEverywhere(I)V -/
def B_X1_addEverywhere_2 (Z : ZZ) (Q : MM → Prop) (K2 : MM → Nat → Int32 → Int32 → Prop) (M : MM) (a0 : Nat) (v1 : Int32) (v2 : Int32) : Prop := (zK Z a0 = 1 ∧ (P_X1_cellCount Z M a0  (fun r4 M4 => (r4 ≤ v2 → (Q M4)) ∧ (¬ r4 ≤ v2 → ((P_X1_add Z M4 a0 v2 v1 (fun M13 => K2 M13 a0 v1 (v2 + 1))))))))
def L_X1_addEverywhere_2 (Z : ZZ) (Q : MM → Prop)  : Nat → MM → Nat → Int32 → Int32 → Prop
  | 0 => fun _ _ _ _ => False
  | n + 1 => B_X1_addEverywhere_2 Z Q  (L_X1_addEverywhere_2 Z Q   n)
def B_X1_addEverywhere_0 (Z : ZZ) (Q : MM → Prop)  (M : MM) (a0 : Nat) (v1 : Int32) : Prop := ∃ n, L_X1_addEverywhere_2 Z Q  n M a0 v1 0
def P_X1_addEverywhere (Z : ZZ) (M : MM) (a0 : Nat) (v1 : Int32) (Q : MM → Prop) : Prop := B_X1_addEverywhere_0 Z Q M a0 v1
def rm_X1_addEverywhere : Room := { frames := 2, cells := 0, slots := 0, locals := 44 }
/-! IceField.make(III)I -/
def B_X5_make_0 (Z : ZZ) (Q : Int32 → MM → Prop) (X : String → MM → Prop)  (M : MM) (a0 : Nat) (v1 : Int32) (v2 : Int32) (v3 : Int32) : Prop := (P_X5_isOutside Z M v1 2 7 (fun r4 M4 => (¬ r4 = 0 → (X "java/lang/IllegalArgumentException" M4)) ∧ (r4 = 0 → ((P_X5_isOutside Z M4 v2 2 7 (fun r14 M14 => (¬ r14 = 0 → (X "java/lang/IllegalArgumentException" M14)) ∧ (r14 = 0 → ((P_X5_isOutside Z M14 v3 0 50 (fun r24 M24 => (r24 = 0 → ((zK Z a0 = 5 ∧ (P_X5_saveState Z M24 a0  (fun M41 => (∃ y45_1, zR Z 13 a0 = some y45_1 ∧ (zK Z y45_1 = 1 ∧ (P_X1_beginAnew Z M41 y45_1 v1 v2 (fun M50 => (P_X1_addEverywhere Z M50 y45_1 v3 (fun M58 => Q (mI M58 4 y45_1) M58))))))))))) ∧ (¬ r24 = 0 → (X "java/lang/IllegalArgumentException" M24))))))))))))
def P_X5_make (Z : ZZ) (M : MM) (a0 : Nat) (v1 : Int32) (v2 : Int32) (v3 : Int32) (Q : Int32 → MM → Prop) (X : String → MM → Prop) : Prop := B_X5_make_0 Z Q X M a0 v1 v2 v3
def rm_X5_make : Room := { frames := 6, cells := 1, slots := 6, locals := 90 }
/-! IceField.checkCell(I)V -/
def B_X5_checkCell_0 (Z : ZZ) (Q : MM → Prop) (X : String → MM → Prop)  (M : MM) (a0 : Nat) (v1 : Int32) : Prop := (zK Z a0 = 5 ∧ (∃ y3_1, zR Z 13 a0 = some y3_1 ∧ (zK Z y3_1 = 1 ∧ (P_X1_cellCount Z M y3_1  (fun r6 M6 => (P_X5_isOutside Z M6 v1 0 (r6 - 1) (fun r11 M11 => (r11 = 0 → (Q M11)) ∧ (¬ r11 = 0 → (X "java/lang/IndexOutOfBoundsException" M11)))))))))
def P_X5_checkCell (Z : ZZ) (M : MM) (a0 : Nat) (v1 : Int32) (Q : MM → Prop) (X : String → MM → Prop) : Prop := B_X5_checkCell_0 Z Q X M a0 v1
def rm_X5_checkCell : Room := { frames := 6, cells := 1, slots := 6, locals := 90 }
/-! IceField.lay(II)I -/
def B_X5_lay_0 (Z : ZZ) (Q : Int32 → MM → Prop) (X : String → MM → Prop)  (M : MM) (a0 : Nat) (v1 : Int32) (v2 : Int32) : Prop := (zK Z a0 = 5 ∧ (P_X5_checkCell Z M a0 v1 (fun M2 => ((P_X5_isOutside Z M2 v2 1 50 (fun r9 M9 => (r9 = 0 → ((∃ y26_1, zR Z 13 a0 = some y26_1 ∧ (zK Z y26_1 = 1 ∧ (∃ y29_3, zR Z 3 y26_1 = some y29_3 ∧ (zK Z y29_3 = 2 ∧ (P_X2_at Z M9 y29_3 v1 (fun r33 M33 => ((r33 + v2) ≤ 50 → ((P_X5_saveState Z M33 a0  (fun M54 => (P_X1_add Z M54 y26_1 v1 v2 (fun M63 => (P_X2_at Z M63 y29_3 v1 (fun r74 M74 => Q r74 M74)))))))) ∧ (¬ (r33 + v2) ≤ 50 → (X "java/lang/IllegalStateException" M33)))))))))) ∧ (¬ r9 = 0 → (X "java/lang/IllegalArgumentException" M9)))))) X))
def P_X5_lay (Z : ZZ) (M : MM) (a0 : Nat) (v1 : Int32) (v2 : Int32) (Q : Int32 → MM → Prop) (X : String → MM → Prop) : Prop := B_X5_lay_0 Z Q X M a0 v1 v2
def rm_X5_lay : Room := { frames := 7, cells := 2, slots := 12, locals := 111 }
/-! IceField$Ice.columnOf(I)I -/
def B_X1_columnOf_0 (Z : ZZ) (Q : Int32 → MM → Prop)  (M : MM) (a0 : Nat) (v1 : Int32) : Prop := (zK Z a0 = 1 ∧ ((mI M 0 a0) ≤ 0 → (Q 0 M)) ∧ (¬ (mI M 0 a0) ≤ 0 → ((¬ (mI M 0 a0) = 0 ∧ Q (v1 - v1 / (mI M 0 a0) * (mI M 0 a0)) M))))
def P_X1_columnOf (Z : ZZ) (M : MM) (a0 : Nat) (v1 : Int32) (Q : Int32 → MM → Prop) : Prop := B_X1_columnOf_0 Z Q M a0 v1
def rm_X1_columnOf : Room := { frames := 0, cells := 0, slots := 0, locals := 0 }
/-! IceField$Ice.beside(II)I -/
def B_X1_beside_0 (Z : ZZ) (Q : Int32 → MM → Prop)  (M : MM) (a0 : Nat) (v1 : Int32) (v2 : Int32) : Prop := (v2 = 0 → ((zK Z a0 = 1 ∧ (P_X1_columnOf Z M a0 v1 (fun r34 M34 => (((mI M34 0 a0) - 1) ≤ r34 → (Q (-1) M34)) ∧ (¬ ((mI M34 0 a0) - 1) ≤ r34 → (Q (v1 + 1) M34))))))) ∧ (¬ v2 = 0 → (v2 = 1 → ((zK Z a0 = 1 ∧ (P_X1_cellCount Z M a0  (fun r61 M61 => (r61 ≤ (v1 + (mI M 0 a0)) → (Q (-1) M61)) ∧ (¬ r61 ≤ (v1 + (mI M 0 a0)) → (Q (v1 + (mI M61 0 a0)) M61))))))) ∧ (¬ v2 = 1 → (v2 = 2 → ((zK Z a0 = 1 ∧ (v1 < (mI M 0 a0) → (Q (-1) M)) ∧ (¬ v1 < (mI M 0 a0) → (Q (v1 - (mI M 0 a0)) M))))) ∧ (¬ v2 = 2 → (v2 = 3 → ((zK Z a0 = 1 ∧ (P_X1_columnOf Z M a0 v1 (fun r99 M99 => (r99 ≤ 0 → (Q (-1) M99)) ∧ (¬ r99 ≤ 0 → (Q (v1 - 1) M99))))))) ∧ (¬ v2 = 3 → (Q (-1) M)))))
def P_X1_beside (Z : ZZ) (M : MM) (a0 : Nat) (v1 : Int32) (v2 : Int32) (Q : Int32 → MM → Prop) : Prop := B_X1_beside_0 Z Q M a0 v1 v2
def rm_X1_beside : Room := { frames := 1, cells := 0, slots := 0, locals := 21 }
/-! IceField$Ice.canCut(II)Z -/
def B_X1_canCut_0 (Z : ZZ) (Q : Int32 → MM → Prop)  (M : MM) (a0 : Nat) (v1 : Int32) (v2 : Int32) : Prop := (v2 = 2 → (Q 1 M)) ∧ (¬ v2 = 2 → ((zK Z a0 = 1 ∧ (P_X1_beside Z M a0 v1 v2 (fun r8 M8 => (r8 = (-1) → (Q 0 M8)) ∧ (¬ r8 = (-1) → (Q 1 M8)))))))
def P_X1_canCut (Z : ZZ) (M : MM) (a0 : Nat) (v1 : Int32) (v2 : Int32) (Q : Int32 → MM → Prop) : Prop := B_X1_canCut_0 Z Q M a0 v1 v2
def rm_X1_canCut : Room := { frames := 2, cells := 0, slots := 0, locals := 43 }
/-! IceField$Ice.cutPlace(II)I -/
def B_X1_cutPlace_0 (Z : ZZ) (Q : Int32 → MM → Prop)  (M : MM) (a0 : Nat) (v1 : Int32) (v2 : Int32) : Prop := (v2 = 0 → (Q ((56 + v1) + 1) M)) ∧ (¬ v2 = 0 → (v2 = 1 → ((zK Z a0 = 1 ∧ Q (v1 + (mI M 0 a0)) M))) ∧ (¬ v2 = 1 → (v2 = 2 → (Q v1 M)) ∧ (¬ v2 = 2 → (v2 = 3 → (Q (56 + v1) M)) ∧ (¬ v2 = 3 → (Q v1 M)))))
def P_X1_cutPlace (Z : ZZ) (M : MM) (a0 : Nat) (v1 : Int32) (v2 : Int32) (Q : Int32 → MM → Prop) : Prop := B_X1_cutPlace_0 Z Q M a0 v1 v2
def rm_X1_cutPlace : Room := { frames := 0, cells := 0, slots := 0, locals := 0 }
/-! IceField$Ice.cutAt(II)I -/
def B_X1_cutAt_0 (Z : ZZ) (Q : Int32 → MM → Prop)  (M : MM) (a0 : Nat) (v1 : Int32) (v2 : Int32) : Prop := (zK Z a0 = 1 ∧ (∃ y1_1, zR Z 4 a0 = some y1_1 ∧ (P_X1_cutPlace Z M a0 v1 v2 (fun r7 M7 => (zK Z y1_1 = 2 ∧ (P_X2_at Z M7 y1_1 r7 (fun r10 M10 => Q r10 M10)))))))
def P_X1_cutAt (Z : ZZ) (M : MM) (a0 : Nat) (v1 : Int32) (v2 : Int32) (Q : Int32 → MM → Prop) : Prop := B_X1_cutAt_0 Z Q M a0 v1 v2
def rm_X1_cutAt : Room := { frames := 1, cells := 0, slots := 0, locals := 22 }
/-! IceField$Ice.cutSide(II)I -/
def B_X1_cutSide_0 (Z : ZZ) (Q : Int32 → MM → Prop)  (M : MM) (a0 : Nat) (v1 : Int32) (v2 : Int32) : Prop := (zK Z a0 = 1 ∧ (P_X1_canCut Z M a0 v1 v2 (fun r3 M3 => (r3 = 0 → (Q 0 M3)) ∧ (¬ r3 = 0 → ((P_X1_cutAt Z M3 a0 v1 v2 (fun r12 M12 => (¬ r12 = 1 → ((∃ y22_1, zR Z 4 a0 = some y22_1 ∧ (P_X1_cutPlace Z M12 a0 v1 v2 (fun r28 M28 => (zK Z y22_1 = 2 ∧ (P_X2_put Z M28 y22_1 r28 1 (fun M32 => Q 1 M32)))))))) ∧ (r12 = 1 → (Q 0 M12)))))))))
def P_X1_cutSide (Z : ZZ) (M : MM) (a0 : Nat) (v1 : Int32) (v2 : Int32) (Q : Int32 → MM → Prop) : Prop := B_X1_cutSide_0 Z Q M a0 v1 v2
def rm_X1_cutSide : Room := { frames := 3, cells := 0, slots := 0, locals := 65 }
/-! IceField.saw(II)I -/
def B_X5_saw_0 (Z : ZZ) (Q : Int32 → MM → Prop) (X : String → MM → Prop)  (M : MM) (a0 : Nat) (v1 : Int32) (v2 : Int32) : Prop := (zK Z a0 = 5 ∧ (P_X5_checkCell Z M a0 v1 (fun M2 => ((P_X5_isOutside Z M2 v2 0 3 (fun r8 M8 => (r8 = 0 → ((∃ y25_1, zR Z 13 a0 = some y25_1 ∧ (zK Z y25_1 = 1 ∧ (P_X1_canCut Z M8 y25_1 v1 v2 (fun r30 M30 => (¬ r30 = 0 → ((P_X5_saveState Z M30 a0  (fun M47 => (P_X1_cutSide Z M47 y25_1 v1 v2 (fun r56 M56 => Q r56 M56)))))) ∧ (r30 = 0 → (X "java/lang/IllegalStateException" M30)))))))) ∧ (¬ r8 = 0 → (X "java/lang/IllegalArgumentException" M8)))))) X))
def P_X5_saw (Z : ZZ) (M : MM) (a0 : Nat) (v1 : Int32) (v2 : Int32) (Q : Int32 → MM → Prop) (X : String → MM → Prop) : Prop := B_X5_saw_0 Z Q X M a0 v1 v2
def rm_X5_saw : Room := { frames := 7, cells := 2, slots := 12, locals := 111 }
/-! IceField$Ice.rowOf(I)I -/
def B_X1_rowOf_0 (Z : ZZ) (Q : Int32 → MM → Prop)  (M : MM) (a0 : Nat) (v1 : Int32) : Prop := (zK Z a0 = 1 ∧ ((mI M 0 a0) ≤ 0 → (Q 0 M)) ∧ (¬ (mI M 0 a0) ≤ 0 → ((¬ (mI M 0 a0) = 0 ∧ Q (v1 / (mI M 0 a0)) M))))
def P_X1_rowOf (Z : ZZ) (M : MM) (a0 : Nat) (v1 : Int32) (Q : Int32 → MM → Prop) : Prop := B_X1_rowOf_0 Z Q M a0 v1
def rm_X1_rowOf : Room := { frames := 0, cells := 0, slots := 0, locals := 0 }
/-! IceField.checkRectangle(III)V -/
def B_X5_checkRectangle_0 (Z : ZZ) (Q : MM → Prop) (X : String → MM → Prop)  (M : MM) (a0 : Nat) (v1 : Int32) (v2 : Int32) (v3 : Int32) : Prop := (zK Z a0 = 5 ∧ (P_X5_checkCell Z M a0 v1 (fun M2 => ((P_X5_isOutside Z M2 v2 1 7 (fun r9 M9 => (¬ r9 = 0 → (X "java/lang/IllegalArgumentException" M9)) ∧ (r9 = 0 → ((P_X5_isOutside Z M9 v3 1 7 (fun r19 M19 => (¬ r19 = 0 → (X "java/lang/IllegalArgumentException" M19)) ∧ (r19 = 0 → ((∃ y26_1, zR Z 13 a0 = some y26_1 ∧ (zK Z y26_1 = 1 ∧ (P_X1_columnOf Z M19 y26_1 v1 (fun r30 M30 => ((mI M30 0 y26_1) < (r30 + v2) → (X "java/lang/IllegalArgumentException" M30)) ∧ (¬ (mI M30 0 y26_1) < (r30 + v2) → ((P_X1_rowOf Z M30 y26_1 v1 (fun r50 M50 => ((r50 + v3) ≤ (mI M50 1 y26_1) → (Q M50)) ∧ (¬ (r50 + v3) ≤ (mI M50 1 y26_1) → (X "java/lang/IllegalArgumentException" M50)))))))))))))))))))) X))
def P_X5_checkRectangle (Z : ZZ) (M : MM) (a0 : Nat) (v1 : Int32) (v2 : Int32) (v3 : Int32) (Q : MM → Prop) (X : String → MM → Prop) : Prop := B_X5_checkRectangle_0 Z Q X M a0 v1 v2 v3
def rm_X5_checkRectangle : Room := { frames := 7, cells := 2, slots := 12, locals := 111 }
/-! IceField$Ice.cutRectangle(III)I -/
def B_X1_cutRectangle_58 (Z : ZZ) (Q : Int32 → MM → Prop) (K58 : MM → Nat → Int32 → Int32 → Int32 → Int32 → Int32 → Prop) (M : MM) (a0 : Nat) (v1 : Int32) (v2 : Int32) (v3 : Int32) (v4 : Int32) (v5 : Int32) : Prop := (v3 ≤ v5 → (Q v4 M)) ∧ (¬ v3 ≤ v5 → ((zK Z a0 = 1 ∧ (P_X1_cutSide Z M a0 (v1 + (v5 * (mI M 0 a0))) 3 (fun r77 M77 => (P_X1_cutSide Z M77 a0 (((v1 + (v5 * (mI M77 0 a0))) + v2) - 1) 0 (fun r100 M100 => K58 M100 a0 v1 v2 v3 ((v4 + r77) + r100) (v5 + 1))))))))
def L_X1_cutRectangle_58 (Z : ZZ) (Q : Int32 → MM → Prop)  : Nat → MM → Nat → Int32 → Int32 → Int32 → Int32 → Int32 → Prop
  | 0 => fun _ _ _ _ _ _ _ => False
  | n + 1 => B_X1_cutRectangle_58 Z Q  (L_X1_cutRectangle_58 Z Q   n)
def B_X1_cutRectangle_6 (Z : ZZ) (Q : Int32 → MM → Prop) (K6 : MM → Nat → Int32 → Int32 → Int32 → Int32 → Int32 → Prop) (M : MM) (a0 : Nat) (v1 : Int32) (v2 : Int32) (v3 : Int32) (v4 : Int32) (v5 : Int32) : Prop := (v2 ≤ v5 → (∃ n, L_X1_cutRectangle_58 Z Q  n M a0 v1 v2 v3 v4 0)) ∧ (¬ v2 ≤ v5 → ((zK Z a0 = 1 ∧ (P_X1_cutSide Z M a0 (v1 + v5) 2 (fun r20 M20 => (P_X1_cutSide Z M20 a0 ((v1 + ((v3 - 1) * (mI M20 0 a0))) + v5) 1 (fun r43 M43 => K6 M43 a0 v1 v2 v3 ((v4 + r20) + r43) (v5 + 1))))))))
def L_X1_cutRectangle_6 (Z : ZZ) (Q : Int32 → MM → Prop)  : Nat → MM → Nat → Int32 → Int32 → Int32 → Int32 → Int32 → Prop
  | 0 => fun _ _ _ _ _ _ _ => False
  | n + 1 => B_X1_cutRectangle_6 Z Q  (L_X1_cutRectangle_6 Z Q   n)
def B_X1_cutRectangle_0 (Z : ZZ) (Q : Int32 → MM → Prop)  (M : MM) (a0 : Nat) (v1 : Int32) (v2 : Int32) (v3 : Int32) : Prop := ∃ n, L_X1_cutRectangle_6 Z Q  n M a0 v1 v2 v3 0 0
def P_X1_cutRectangle (Z : ZZ) (M : MM) (a0 : Nat) (v1 : Int32) (v2 : Int32) (v3 : Int32) (Q : Int32 → MM → Prop) : Prop := B_X1_cutRectangle_0 Z Q M a0 v1 v2 v3
def rm_X1_cutRectangle : Room := { frames := 4, cells := 0, slots := 0, locals := 87 }
/-! IceField.sawAround(III)I -/
def B_X5_sawAround_0 (Z : ZZ) (Q : Int32 → MM → Prop) (X : String → MM → Prop)  (M : MM) (a0 : Nat) (v1 : Int32) (v2 : Int32) (v3 : Int32) : Prop := (zK Z a0 = 5 ∧ (P_X5_checkRectangle Z M a0 v1 v2 v3 (fun M4 => ((P_X5_saveState Z M4 a0  (fun M8 => (∃ y12_1, zR Z 13 a0 = some y12_1 ∧ (zK Z y12_1 = 1 ∧ (P_X1_cutRectangle Z M8 y12_1 v1 v2 v3 (fun r18 M18 => Q r18 M18)))))))) X))
def P_X5_sawAround (Z : ZZ) (M : MM) (a0 : Nat) (v1 : Int32) (v2 : Int32) (v3 : Int32) (Q : Int32 → MM → Prop) (X : String → MM → Prop) : Prop := B_X5_sawAround_0 Z Q X M a0 v1 v2 v3
def rm_X5_sawAround : Room := { frames := 8, cells := 2, slots := 12, locals := 134 }
/-! IceField$Ice.isIce(I)Z -/
def B_X1_isIce_0 (Z : ZZ) (Q : Int32 → MM → Prop)  (M : MM) (a0 : Nat) (v1 : Int32) : Prop := (zK Z a0 = 1 ∧ (∃ y1_1, zR Z 3 a0 = some y1_1 ∧ (zK Z y1_1 = 2 ∧ (P_X2_at Z M y1_1 v1 (fun r5 M5 => (r5 ≤ 0 → (Q 0 M5)) ∧ (¬ r5 ≤ 0 → (Q 1 M5)))))))
def P_X1_isIce (Z : ZZ) (M : MM) (a0 : Nat) (v1 : Int32) (Q : Int32 → MM → Prop) : Prop := B_X1_isIce_0 Z Q M a0 v1
def rm_X1_isIce : Room := { frames := 1, cells := 0, slots := 0, locals := 21 }
/-! IceField$Ice.isTiedToShore(I)Z -/
def B_X1_isTiedToShore_0 (Z : ZZ) (Q : Int32 → MM → Prop)  (M : MM) (a0 : Nat) (v1 : Int32) : Prop := (zK Z a0 = 1 ∧ ((mI M 0 a0) ≤ v1 → (Q 0 M)) ∧ (¬ (mI M 0 a0) ≤ v1 → ((P_X1_cutAt Z M a0 v1 2 (fun r11 M11 => (¬ r11 = 0 → (Q 0 M11)) ∧ (r11 = 0 → (Q 1 M11)))))))
def P_X1_isTiedToShore (Z : ZZ) (M : MM) (a0 : Nat) (v1 : Int32) (Q : Int32 → MM → Prop) : Prop := B_X1_isTiedToShore_0 Z Q M a0 v1
def rm_X1_isTiedToShore : Room := { frames := 2, cells := 0, slots := 0, locals := 44 }
/-! IceField$Blocks.spread(LIceField$Ice;I)V -/
def B_X0_spread_146 (Z : ZZ) (Q : MM → Prop) (K68 : MM → Nat → Nat → Int32 → Int32 → Int32 → Int32 → Int32 → Prop) (M : MM) (a0 : Nat) (a1 : Nat) (v2 : Int32) (v3 : Int32) (v4 : Int32) (v5 : Int32) (v6 : Int32) : Prop := K68 M a0 a1 v2 v3 v4 v5 (v6 + 1)
def B_X0_spread_68 (Z : ZZ) (Q : MM → Prop) (K23 : MM → Nat → Nat → Int32 → Int32 → Int32 → Prop) (K68 : MM → Nat → Nat → Int32 → Int32 → Int32 → Int32 → Int32 → Prop) (M : MM) (a0 : Nat) (a1 : Nat) (v2 : Int32) (v3 : Int32) (v4 : Int32) (v5 : Int32) (v6 : Int32) : Prop := (4 ≤ v6 → (K23 M a0 a1 v2 v3 (v4 + 1))) ∧ (¬ 4 ≤ v6 → ((zK Z a1 = 1 ∧ (P_X1_beside Z M a1 v5 v6 (fun r79 M79 => (r79 = (-1) → (B_X0_spread_146 Z Q K68 M79 a0 a1 v2 v3 v4 v5 v6)) ∧ (¬ r79 = (-1) → ((P_X1_isIce Z M79 a1 r79 (fun r93 M93 => (r93 = 0 → (B_X0_spread_146 Z Q K68 M93 a0 a1 v2 v3 v4 v5 v6)) ∧ (¬ r93 = 0 → ((zK Z a0 = 0 ∧ (∃ y100_2, zR Z 0 a0 = some y100_2 ∧ (zK Z y100_2 = 2 ∧ (P_X2_at Z M93 y100_2 r79 (fun r105 M105 => (¬ r105 = (-1) → (B_X0_spread_146 Z Q K68 M105 a0 a1 v2 v3 v4 v5 v6)) ∧ (r105 = (-1) → ((P_X1_cutAt Z M105 a1 v5 v6 (fun r117 M117 => (¬ r117 = 0 → (B_X0_spread_146 Z Q K68 M117 a0 a1 v2 v3 v4 v5 v6)) ∧ (r117 = 0 → ((P_X2_put Z M117 y100_2 r79 v2 (fun M130 => (∃ y134_4, zR Z 2 a0 = some y134_4 ∧ (zK Z y134_4 = 2 ∧ (P_X2_put Z M130 y134_4 v3 r79 (fun M140 => B_X0_spread_146 Z Q K68 M140 a0 a1 v2 (v3 + 1) v4 v5 v6))))))))))))))))))))))))))))
def L_X0_spread_68 (Z : ZZ) (Q : MM → Prop) (K23 : MM → Nat → Nat → Int32 → Int32 → Int32 → Prop) : Nat → MM → Nat → Nat → Int32 → Int32 → Int32 → Int32 → Int32 → Prop
  | 0 => fun _ _ _ _ _ _ _ _ => False
  | n + 1 => B_X0_spread_68 Z Q  K23 (L_X0_spread_68 Z Q  K23 n)
def B_X0_spread_65 (Z : ZZ) (Q : MM → Prop) (K23 : MM → Nat → Nat → Int32 → Int32 → Int32 → Prop) (M : MM) (a0 : Nat) (a1 : Nat) (v2 : Int32) (v3 : Int32) (v4 : Int32) (v5 : Int32) : Prop := ∃ n, L_X0_spread_68 Z Q K23 n M a0 a1 v2 v3 v4 v5 0
def B_X0_spread_23 (Z : ZZ) (Q : MM → Prop) (K23 : MM → Nat → Nat → Int32 → Int32 → Int32 → Prop) (M : MM) (a0 : Nat) (a1 : Nat) (v2 : Int32) (v3 : Int32) (v4 : Int32) : Prop := (v3 ≤ v4 → (Q M)) ∧ (¬ v3 ≤ v4 → ((49 ≤ v4 → (Q M)) ∧ (¬ 49 ≤ v4 → ((zK Z a0 = 0 ∧ (∃ y37_1, zR Z 2 a0 = some y37_1 ∧ (zK Z y37_1 = 2 ∧ (P_X2_at Z M y37_1 v4 (fun r42 M42 => (zK Z a1 = 1 ∧ (P_X1_isTiedToShore Z M42 a1 r42 (fun r50 M50 => (r50 = 0 → (B_X0_spread_65 Z Q K23 M50 a0 a1 v2 v3 v4 r42)) ∧ (¬ r50 = 0 → ((∃ y57_4, zR Z 1 a0 = some y57_4 ∧ (zK Z y57_4 = 2 ∧ (P_X2_put Z M50 y57_4 v2 1 (fun M62 => B_X0_spread_65 Z Q K23 M62 a0 a1 v2 v3 v4 r42))))))))))))))))))
def L_X0_spread_23 (Z : ZZ) (Q : MM → Prop)  : Nat → MM → Nat → Nat → Int32 → Int32 → Int32 → Prop
  | 0 => fun _ _ _ _ _ _ => False
  | n + 1 => B_X0_spread_23 Z Q  (L_X0_spread_23 Z Q   n)
def B_X0_spread_0 (Z : ZZ) (Q : MM → Prop)  (M : MM) (a0 : Nat) (a1 : Nat) (v2 : Int32) : Prop := (zK Z a0 = 0 ∧ (∃ y1_1, zR Z 0 a0 = some y1_1 ∧ (zK Z y1_1 = 2 ∧ (P_X2_put Z M y1_1 v2 v2 (fun M6 => (∃ y10_3, zR Z 2 a0 = some y10_3 ∧ (zK Z y10_3 = 2 ∧ (P_X2_put Z M6 y10_3 0 v2 (fun M15 => ∃ n, L_X0_spread_23 Z Q  n M15 a0 a1 v2 1 0)))))))))
def P_X0_spread (Z : ZZ) (M : MM) (a0 : Nat) (a1 : Nat) (v2 : Int32) (Q : MM → Prop) : Prop := B_X0_spread_0 Z Q M a0 a1 v2
def rm_X0_spread : Room := { frames := 3, cells := 0, slots := 0, locals := 65 }
/-! IceField$Blocks.find(LIceField$Ice;)V -/
def B_X0_find_52 (Z : ZZ) (Q : MM → Prop) (K18 : MM → Nat → Nat → Int32 → Prop) (M : MM) (a0 : Nat) (a1 : Nat) (v2 : Int32) : Prop := K18 M a0 a1 (v2 + 1)
def B_X0_find_18 (Z : ZZ) (Q : MM → Prop) (K18 : MM → Nat → Nat → Int32 → Prop) (M : MM) (a0 : Nat) (a1 : Nat) (v2 : Int32) : Prop := (zK Z a1 = 1 ∧ (P_X1_cellCount Z M a1  (fun r20 M20 => (r20 ≤ v2 → (Q M20)) ∧ (¬ r20 ≤ v2 → ((P_X1_isIce Z M20 a1 v2 (fun r28 M28 => (r28 = 0 → (B_X0_find_52 Z Q K18 M28 a0 a1 v2)) ∧ (¬ r28 = 0 → ((zK Z a0 = 0 ∧ (∃ y35_2, zR Z 0 a0 = some y35_2 ∧ (zK Z y35_2 = 2 ∧ (P_X2_at Z M28 y35_2 v2 (fun r39 M39 => (¬ r39 = (-1) → (B_X0_find_52 Z Q K18 M39 a0 a1 v2)) ∧ (r39 = (-1) → ((P_X0_spread Z M39 a0 a1 v2 (fun M49 => B_X0_find_52 Z Q K18 M49 a0 a1 v2))))))))))))))))))
def L_X0_find_18 (Z : ZZ) (Q : MM → Prop)  : Nat → MM → Nat → Nat → Int32 → Prop
  | 0 => fun _ _ _ _ => False
  | n + 1 => B_X0_find_18 Z Q  (L_X0_find_18 Z Q   n)
def B_X0_find_0 (Z : ZZ) (Q : MM → Prop)  (M : MM) (a0 : Nat) (a1 : Nat) : Prop := (zK Z a0 = 0 ∧ (∃ y1_1, zR Z 0 a0 = some y1_1 ∧ (zK Z y1_1 = 2 ∧ (P_X2_fill Z M y1_1 (-1) (fun M5 => (∃ y9_3, zR Z 1 a0 = some y9_3 ∧ (zK Z y9_3 = 2 ∧ (P_X2_fill Z M5 y9_3 0 (fun M13 => ∃ n, L_X0_find_18 Z Q  n M13 a0 a1 0)))))))))
def P_X0_find (Z : ZZ) (M : MM) (a0 : Nat) (a1 : Nat) (Q : MM → Prop) : Prop := B_X0_find_0 Z Q M a0 a1
def rm_X0_find : Room := { frames := 4, cells := 0, slots := 0, locals := 92 }
/-! IceField$Blocks.numberAt(I)I -/
def B_X0_numberAt_0 (Z : ZZ) (Q : Int32 → MM → Prop)  (M : MM) (a0 : Nat) (v1 : Int32) : Prop := (zK Z a0 = 0 ∧ (∃ y1_1, zR Z 0 a0 = some y1_1 ∧ (zK Z y1_1 = 2 ∧ (P_X2_at Z M y1_1 v1 (fun r5 M5 => Q r5 M5)))))
def P_X0_numberAt (Z : ZZ) (M : MM) (a0 : Nat) (v1 : Int32) (Q : Int32 → MM → Prop) : Prop := B_X0_numberAt_0 Z Q M a0 v1
def rm_X0_numberAt : Room := { frames := 1, cells := 0, slots := 0, locals := 21 }
/-! IceField$Blocks.isBlock(I)Z -/
def B_X0_isBlock_0 (Z : ZZ) (Q : Int32 → MM → Prop)  (M : MM) (a0 : Nat) (v1 : Int32) : Prop := (v1 < 0 → (Q 0 M)) ∧ (¬ v1 < 0 → ((49 ≤ v1 → (Q 0 M)) ∧ (¬ 49 ≤ v1 → ((zK Z a0 = 0 ∧ (∃ y11_1, zR Z 0 a0 = some y11_1 ∧ (zK Z y11_1 = 2 ∧ (P_X2_at Z M y11_1 v1 (fun r15 M15 => (¬ r15 = v1 → (Q 0 M15)) ∧ (r15 = v1 → (Q 1 M15)))))))))))
def P_X0_isBlock (Z : ZZ) (M : MM) (a0 : Nat) (v1 : Int32) (Q : Int32 → MM → Prop) : Prop := B_X0_isBlock_0 Z Q M a0 v1
def rm_X0_isBlock : Room := { frames := 1, cells := 0, slots := 0, locals := 21 }
/-! IceField$Blocks.isLoose(I)Z -/
def B_X0_isLoose_0 (Z : ZZ) (Q : Int32 → MM → Prop)  (M : MM) (a0 : Nat) (v1 : Int32) : Prop := (zK Z a0 = 0 ∧ (P_X0_isBlock Z M a0 v1 (fun r2 M2 => (r2 = 0 → (Q 0 M2)) ∧ (¬ r2 = 0 → ((∃ y9_1, zR Z 1 a0 = some y9_1 ∧ (zK Z y9_1 = 2 ∧ (P_X2_at Z M2 y9_1 v1 (fun r13 M13 => (¬ r13 = 0 → (Q 0 M13)) ∧ (r13 = 0 → (Q 1 M13)))))))))))
def P_X0_isLoose (Z : ZZ) (M : MM) (a0 : Nat) (v1 : Int32) (Q : Int32 → MM → Prop) : Prop := B_X0_isLoose_0 Z Q M a0 v1
def rm_X0_isLoose : Room := { frames := 2, cells := 0, slots := 0, locals := 42 }
/-! IceField$Way.gatherCells(LIceField$Blocks;I)V -/
def B_X4_gatherCells_44 (Z : ZZ) (Q : MM → Prop) (K7 : MM → Nat → Nat → Int32 → Int32 → Prop) (M : MM) (a0 : Nat) (a1 : Nat) (v2 : Int32) (v3 : Int32) : Prop := K7 M a0 a1 v2 (v3 + 1)
def B_X4_gatherCells_7 (Z : ZZ) (Q : MM → Prop) (K7 : MM → Nat → Nat → Int32 → Int32 → Prop) (M : MM) (a0 : Nat) (a1 : Nat) (v2 : Int32) (v3 : Int32) : Prop := (49 ≤ v3 → (Q M)) ∧ (¬ 49 ≤ v3 → ((zK Z a1 = 0 ∧ (P_X0_numberAt Z M a1 v3 (fun r15 M15 => (¬ r15 = v2 → (B_X4_gatherCells_44 Z Q K7 M15 a0 a1 v2 v3)) ∧ (r15 = v2 → ((zK Z a0 = 4 ∧ (∃ y23_2, zR Z 10 a0 = some y23_2 ∧ (zK Z y23_2 = 2 ∧ (P_X2_put Z M15 y23_2 (mI M15 11 a0) v3 (fun M31 => B_X4_gatherCells_44 Z Q K7 (setI M31 11 a0 ((mI M31 11 a0) + 1)) a0 a1 v2 v3))))))))))))
def L_X4_gatherCells_7 (Z : ZZ) (Q : MM → Prop)  : Nat → MM → Nat → Nat → Int32 → Int32 → Prop
  | 0 => fun _ _ _ _ _ => False
  | n + 1 => B_X4_gatherCells_7 Z Q  (L_X4_gatherCells_7 Z Q   n)
def B_X4_gatherCells_0 (Z : ZZ) (Q : MM → Prop)  (M : MM) (a0 : Nat) (a1 : Nat) (v2 : Int32) : Prop := (zK Z a0 = 4 ∧ ∃ n, L_X4_gatherCells_7 Z Q  n (setI M 11 a0 0) a0 a1 v2 0)
def P_X4_gatherCells (Z : ZZ) (M : MM) (a0 : Nat) (a1 : Nat) (v2 : Int32) (Q : MM → Prop) : Prop := B_X4_gatherCells_0 Z Q M a0 a1 v2
def rm_X4_gatherCells : Room := { frames := 2, cells := 0, slots := 0, locals := 42 }
/-! IceField$Way.stepOf(I)I -/
def B_X4_stepOf_0 (Z : ZZ) (Q : Int32 → MM → Prop)  (M : MM) (v0 : Int32) : Prop := (v0 = 0 → (Q (-1) M)) ∧ (¬ v0 = 0 → (v0 = 1 → (Q 1 M)) ∧ (¬ v0 = 1 → (v0 = 2 → (Q (-15) M)) ∧ (¬ v0 = 2 → (v0 = 3 → (Q 15 M)) ∧ (¬ v0 = 3 → (Q 0 M)))))
def P_X4_stepOf (Z : ZZ) (M : MM) (v0 : Int32) (Q : Int32 → MM → Prop) : Prop := B_X4_stepOf_0 Z Q M v0
def rm_X4_stepOf : Room := { frames := 0, cells := 0, slots := 0, locals := 0 }
/-! IceField$Way.downAt(I)I -/
def B_X4_downAt_0 (Z : ZZ) (Q : Int32 → MM → Prop)  (M : MM) (v0 : Int32) : Prop := Q ((v0 / 15) - 7) M
def P_X4_downAt (Z : ZZ) (M : MM) (v0 : Int32) (Q : Int32 → MM → Prop) : Prop := B_X4_downAt_0 Z Q M v0
def rm_X4_downAt : Room := { frames := 0, cells := 0, slots := 0, locals := 0 }
/-! IceField$Way.rightAt(I)I -/
def B_X4_rightAt_0 (Z : ZZ) (Q : Int32 → MM → Prop)  (M : MM) (v0 : Int32) : Prop := Q ((v0 - v0 / 15 * 15) - 7) M
def P_X4_rightAt (Z : ZZ) (M : MM) (v0 : Int32) (Q : Int32 → MM → Prop) : Prop := B_X4_rightAt_0 Z Q M v0
def rm_X4_rightAt : Room := { frames := 0, cells := 0, slots := 0, locals := 0 }
/-! IceField$Way.canLie(LIceField$Ice;LIceField$Blocks;II)Z -/
def B_X4_canLie_125 (Z : ZZ) (Q : Int32 → MM → Prop) (K17 : MM → Nat → Nat → Nat → Int32 → Int32 → Int32 → Int32 → Prop) (M : MM) (a0 : Nat) (a1 : Nat) (a2 : Nat) (v3 : Int32) (v5 : Int32) (v6 : Int32) (v7 : Int32) : Prop := K17 M a0 a1 a2 v3 v5 v6 (v7 + 1)
def B_X4_canLie_17 (Z : ZZ) (Q : Int32 → MM → Prop) (K17 : MM → Nat → Nat → Nat → Int32 → Int32 → Int32 → Int32 → Prop) (M : MM) (a0 : Nat) (a1 : Nat) (a2 : Nat) (v3 : Int32) (v5 : Int32) (v6 : Int32) (v7 : Int32) : Prop := (zK Z a0 = 4 ∧ ((mI M 11 a0) ≤ v7 → (Q 1 M)) ∧ (¬ (mI M 11 a0) ≤ v7 → ((∃ y28_1, zR Z 10 a0 = some y28_1 ∧ (zK Z y28_1 = 2 ∧ (P_X2_at Z M y28_1 v7 (fun r33 M33 => (zK Z a1 = 1 ∧ (P_X1_rowOf Z M33 a1 r33 (fun r36 M36 => (P_X2_at Z M36 y28_1 v7 (fun r51 M51 => (P_X1_columnOf Z M51 a1 r51 (fun r54 M54 => ((r36 + v5) < 0 → (Q 0 M54)) ∧ (¬ (r36 + v5) < 0 → (((r54 + v6) < 0 → (Q 0 M54)) ∧ (¬ (r54 + v6) < 0 → (((r54 + v6) < (mI M54 0 a1) → (((mI M54 1 a1) ≤ (r36 + v5) → (B_X4_canLie_125 Z Q K17 M54 a0 a1 a2 v3 v5 v6 v7)) ∧ (¬ (mI M54 1 a1) ≤ (r36 + v5) → ((P_X1_isIce Z M54 a1 (((r36 + v5) * (mI M54 0 a1)) + (r54 + v6)) (fun r107 M107 => (r107 = 0 → (B_X4_canLie_125 Z Q K17 M107 a0 a1 a2 v3 v5 v6 v7)) ∧ (¬ r107 = 0 → ((zK Z a2 = 0 ∧ (P_X0_numberAt Z M107 a2 (((r36 + v5) * (mI M54 0 a1)) + (r54 + v6)) (fun r116 M116 => (r116 = v3 → (B_X4_canLie_125 Z Q K17 M116 a0 a1 a2 v3 v5 v6 v7)) ∧ (¬ r116 = v3 → (Q 0 M116))))))))))))) ∧ (¬ (r54 + v6) < (mI M54 0 a1) → (Q 0 M54))))))))))))))))))))
def L_X4_canLie_17 (Z : ZZ) (Q : Int32 → MM → Prop)  : Nat → MM → Nat → Nat → Nat → Int32 → Int32 → Int32 → Int32 → Prop
  | 0 => fun _ _ _ _ _ _ _ _ => False
  | n + 1 => B_X4_canLie_17 Z Q  (L_X4_canLie_17 Z Q   n)
def B_X4_canLie_0 (Z : ZZ) (Q : Int32 → MM → Prop)  (M : MM) (a0 : Nat) (a1 : Nat) (a2 : Nat) (v3 : Int32) (v4 : Int32) : Prop := (P_X4_downAt Z M v4 (fun r2 M2 => (P_X4_rightAt Z M2 v4 (fun r9 M9 => ∃ n, L_X4_canLie_17 Z Q  n M9 a0 a1 a2 v3 r2 r9 0))))
def P_X4_canLie (Z : ZZ) (M : MM) (a0 : Nat) (a1 : Nat) (a2 : Nat) (v3 : Int32) (v4 : Int32) (Q : Int32 → MM → Prop) : Prop := B_X4_canLie_0 Z Q M a0 a1 a2 v3 v4
def rm_X4_canLie : Room := { frames := 2, cells := 0, slots := 0, locals := 42 }
/-! IceField$Way.traceBack(I)I -/
def B_X4_traceBack_51 (Z : ZZ) (Q : Int32 → MM → Prop) (K51 : MM → Nat → Int32 → Int32 → Int32 → Prop) (M : MM) (a0 : Nat) (v2 : Int32) (v3 : Int32) (v4 : Int32) : Prop := (v4 < 0 → (Q v2 M)) ∧ (¬ v4 < 0 → ((zK Z a0 = 4 ∧ (∃ y57_1, zR Z 9 a0 = some y57_1 ∧ (∃ y63_2, zR Z 11 a0 = some y63_2 ∧ (zK Z y63_2 = 2 ∧ (P_X2_at Z M y63_2 v3 (fun r67 M67 => (zK Z y57_1 = 2 ∧ (P_X2_put Z M67 y57_1 v4 r67 (fun M70 => (P_X2_at Z M70 y63_2 v3 (fun r79 M79 => (P_X4_stepOf Z M79 r79 (fun r82 M82 => K51 M82 a0 v2 (v3 - r82) (v4 + (-1)))))))))))))))))
def L_X4_traceBack_51 (Z : ZZ) (Q : Int32 → MM → Prop)  : Nat → MM → Nat → Int32 → Int32 → Int32 → Prop
  | 0 => fun _ _ _ _ _ => False
  | n + 1 => B_X4_traceBack_51 Z Q  (L_X4_traceBack_51 Z Q   n)
def B_X4_traceBack_44 (Z : ZZ) (Q : Int32 → MM → Prop)  (M : MM) (a0 : Nat) (v1 : Int32) (v2 : Int32) : Prop := ∃ n, L_X4_traceBack_51 Z Q  n M a0 v2 v1 (v2 - 1)
def B_X4_traceBack_7 (Z : ZZ) (Q : Int32 → MM → Prop) (K7 : MM → Nat → Int32 → Int32 → Int32 → Int32 → Prop) (M : MM) (a0 : Nat) (v1 : Int32) (v2 : Int32) (v3 : Int32) (v4 : Int32) : Prop := (240 ≤ v4 → (B_X4_traceBack_44 Z Q  M a0 v1 v2)) ∧ (¬ 240 ≤ v4 → ((v3 = 112 → (B_X4_traceBack_44 Z Q  M a0 v1 v2)) ∧ (¬ v3 = 112 → ((zK Z a0 = 4 ∧ (∃ y26_1, zR Z 11 a0 = some y26_1 ∧ (zK Z y26_1 = 2 ∧ (P_X2_at Z M y26_1 v3 (fun r30 M30 => (P_X4_stepOf Z M30 r30 (fun r33 M33 => K7 M33 a0 v1 (v2 + 1) (v3 - r33) (v4 + 1))))))))))))
def L_X4_traceBack_7 (Z : ZZ) (Q : Int32 → MM → Prop)  : Nat → MM → Nat → Int32 → Int32 → Int32 → Int32 → Prop
  | 0 => fun _ _ _ _ _ _ => False
  | n + 1 => B_X4_traceBack_7 Z Q  (L_X4_traceBack_7 Z Q   n)
def B_X4_traceBack_0 (Z : ZZ) (Q : Int32 → MM → Prop)  (M : MM) (a0 : Nat) (v1 : Int32) : Prop := ∃ n, L_X4_traceBack_7 Z Q  n M a0 v1 0 v1 0
def P_X4_traceBack (Z : ZZ) (M : MM) (a0 : Nat) (v1 : Int32) (Q : Int32 → MM → Prop) : Prop := B_X4_traceBack_0 Z Q M a0 v1
def rm_X4_traceBack : Room := { frames := 1, cells := 0, slots := 0, locals := 22 }
/-! IceField$Way.search(LIceField$Ice;LIceField$Blocks;I)I -/
def B_X4_search_156 (Z : ZZ) (Q : Int32 → MM → Prop) (K58 : MM → Nat → Nat → Nat → Int32 → Int32 → Int32 → Int32 → Prop) (M : MM) (a0 : Nat) (a1 : Nat) (a2 : Nat) (v3 : Int32) (v4 : Int32) (v5 : Int32) (v6 : Int32) : Prop := K58 M a0 a1 a2 v3 v4 v5 (v6 + 1)
def B_X4_search_58 (Z : ZZ) (Q : Int32 → MM → Prop) (K40 : MM → Nat → Nat → Nat → Int32 → Int32 → Int32 → Prop) (K58 : MM → Nat → Nat → Nat → Int32 → Int32 → Int32 → Int32 → Prop) (M : MM) (a0 : Nat) (a1 : Nat) (a2 : Nat) (v3 : Int32) (v4 : Int32) (v5 : Int32) (v6 : Int32) : Prop := (4 ≤ v6 → (K40 M a0 a1 a2 v3 v4 (v5 + 1))) ∧ (¬ 4 ≤ v6 → ((zK Z a0 = 4 ∧ (∃ y65_1, zR Z 12 a0 = some y65_1 ∧ (zK Z y65_1 = 2 ∧ (P_X2_at Z M y65_1 v5 (fun r70 M70 => (P_X4_stepOf Z M70 v6 (fun r75 M75 => (∃ y82_3, zR Z 11 a0 = some y82_3 ∧ (zK Z y82_3 = 2 ∧ (P_X2_at Z M75 y82_3 (r70 + r75) (fun r87 M87 => (¬ r87 = (-1) → (B_X4_search_156 Z Q K58 M87 a0 a1 a2 v3 v4 v5 v6)) ∧ (r87 = (-1) → ((P_X4_canLie Z M87 a0 a1 a2 v3 (r70 + r75) (fun r100 M100 => (r100 = 0 → (B_X4_search_156 Z Q K58 M100 a0 a1 a2 v3 v4 v5 v6)) ∧ (¬ r100 = 0 → ((P_X2_put Z M100 y82_3 (r70 + r75) v6 (fun M114 => (zK Z a1 = 1 ∧ (P_X1_rowOf Z M114 a1 v3 (fun r119 M119 => (P_X4_downAt Z M119 (r70 + r75) (fun r124 M124 => ((r119 + r124) < (mI M124 1 a1) → ((P_X2_put Z M124 y65_1 v4 (r70 + r75) (fun M150 => B_X4_search_156 Z Q K58 M150 a0 a1 a2 v3 (v4 + 1) v5 v6)))) ∧ (¬ (r119 + r124) < (mI M124 1 a1) → ((P_X4_traceBack Z M124 a0 (r70 + r75) (fun r138 M138 => Q r138 M138))))))))))))))))))))))))))))))
def L_X4_search_58 (Z : ZZ) (Q : Int32 → MM → Prop) (K40 : MM → Nat → Nat → Nat → Int32 → Int32 → Int32 → Prop) : Nat → MM → Nat → Nat → Nat → Int32 → Int32 → Int32 → Int32 → Prop
  | 0 => fun _ _ _ _ _ _ _ _ => False
  | n + 1 => B_X4_search_58 Z Q  K40 (L_X4_search_58 Z Q  K40 n)
def B_X4_search_40 (Z : ZZ) (Q : Int32 → MM → Prop) (K40 : MM → Nat → Nat → Nat → Int32 → Int32 → Int32 → Prop) (M : MM) (a0 : Nat) (a1 : Nat) (a2 : Nat) (v3 : Int32) (v4 : Int32) (v5 : Int32) : Prop := (v4 ≤ v5 → (Q (-1) M)) ∧ (¬ v4 ≤ v5 → ((240 ≤ v5 → (Q (-1) M)) ∧ (¬ 240 ≤ v5 → (∃ n, L_X4_search_58 Z Q K40 n M a0 a1 a2 v3 v4 v5 0))))
def L_X4_search_40 (Z : ZZ) (Q : Int32 → MM → Prop)  : Nat → MM → Nat → Nat → Nat → Int32 → Int32 → Int32 → Prop
  | 0 => fun _ _ _ _ _ _ _ => False
  | n + 1 => B_X4_search_40 Z Q  (L_X4_search_40 Z Q   n)
def B_X4_search_0 (Z : ZZ) (Q : Int32 → MM → Prop)  (M : MM) (a0 : Nat) (a1 : Nat) (a2 : Nat) (v3 : Int32) : Prop := (zK Z a0 = 4 ∧ (P_X4_gatherCells Z M a0 a2 v3 (fun M3 => (∃ y7_1, zR Z 11 a0 = some y7_1 ∧ (zK Z y7_1 = 2 ∧ (P_X2_fill Z M3 y7_1 (-1) (fun M11 => (P_X2_put Z M11 y7_1 112 4 (fun M21 => (∃ y25_3, zR Z 12 a0 = some y25_3 ∧ (zK Z y25_3 = 2 ∧ (P_X2_put Z M21 y25_3 0 112 (fun M31 => ∃ n, L_X4_search_40 Z Q  n M31 a0 a1 a2 v3 1 0)))))))))))))
def P_X4_search (Z : ZZ) (M : MM) (a0 : Nat) (a1 : Nat) (a2 : Nat) (v3 : Int32) (Q : Int32 → MM → Prop) : Prop := B_X4_search_0 Z Q M a0 a1 a2 v3
def rm_X4_search : Room := { frames := 3, cells := 0, slots := 0, locals := 72 }
/-! IceField$Ice.volumeOf(LIceField$Blocks;I)I -/
def B_X1_volumeOf_36 (Z : ZZ) (Q : Int32 → MM → Prop) (K5 : MM → Nat → Nat → Int32 → Int32 → Int32 → Prop) (M : MM) (a0 : Nat) (a1 : Nat) (v2 : Int32) (v3 : Int32) (v4 : Int32) : Prop := K5 M a0 a1 v2 v3 (v4 + 1)
def B_X1_volumeOf_5 (Z : ZZ) (Q : Int32 → MM → Prop) (K5 : MM → Nat → Nat → Int32 → Int32 → Int32 → Prop) (M : MM) (a0 : Nat) (a1 : Nat) (v2 : Int32) (v3 : Int32) (v4 : Int32) : Prop := (zK Z a0 = 1 ∧ (P_X1_cellCount Z M a0  (fun r8 M8 => (r8 ≤ v4 → (Q v3 M8)) ∧ (¬ r8 ≤ v4 → ((zK Z a1 = 0 ∧ (P_X0_numberAt Z M8 a1 v4 (fun r17 M17 => (¬ r17 = v2 → (B_X1_volumeOf_36 Z Q K5 M17 a0 a1 v2 v3 v4)) ∧ (r17 = v2 → ((∃ y26_2, zR Z 3 a0 = some y26_2 ∧ (zK Z y26_2 = 2 ∧ (P_X2_at Z M17 y26_2 v4 (fun r31 M31 => B_X1_volumeOf_36 Z Q K5 M31 a0 a1 v2 (v3 + r31) v4))))))))))))))
def L_X1_volumeOf_5 (Z : ZZ) (Q : Int32 → MM → Prop)  : Nat → MM → Nat → Nat → Int32 → Int32 → Int32 → Prop
  | 0 => fun _ _ _ _ _ _ => False
  | n + 1 => B_X1_volumeOf_5 Z Q  (L_X1_volumeOf_5 Z Q   n)
def B_X1_volumeOf_0 (Z : ZZ) (Q : Int32 → MM → Prop)  (M : MM) (a0 : Nat) (a1 : Nat) (v2 : Int32) : Prop := ∃ n, L_X1_volumeOf_5 Z Q  n M a0 a1 v2 0 0
def P_X1_volumeOf (Z : ZZ) (M : MM) (a0 : Nat) (a1 : Nat) (v2 : Int32) (Q : Int32 → MM → Prop) : Prop := B_X1_volumeOf_0 Z Q M a0 a1 v2
def rm_X1_volumeOf : Room := { frames := 2, cells := 0, slots := 0, locals := 42 }
/-! IceField$Ice.removeBlock(LIceField$Blocks;I)I -/
def B_X1_removeBlock_39 (Z : ZZ) (Q : Int32 → MM → Prop) (K10 : MM → Nat → Nat → Int32 → Int32 → Int32 → Prop) (M : MM) (a0 : Nat) (a1 : Nat) (v2 : Int32) (v3 : Int32) (v4 : Int32) : Prop := K10 M a0 a1 v2 v3 (v4 + 1)
def B_X1_removeBlock_103 (Z : ZZ) (Q : Int32 → MM → Prop)  (M : MM) (a0 : Nat) (v3 : Int32) : Prop := (zK Z a0 = 1 ∧ Q v3 (setI (setI M 7 a0 ((mI M 7 a0) + 1)) 6 a0 ((mI (setI M 7 a0 ((mI M 7 a0) + 1)) 6 a0) + v3)))
def B_X1_removeBlock_10 (Z : ZZ) (Q : Int32 → MM → Prop) (K10 : MM → Nat → Nat → Int32 → Int32 → Int32 → Prop) (M : MM) (a0 : Nat) (a1 : Nat) (v2 : Int32) (v3 : Int32) (v4 : Int32) : Prop := (zK Z a0 = 1 ∧ (P_X1_cellCount Z M a0  (fun r13 M13 => (r13 ≤ v4 → ((40 ≤ (mI M13 7 a0) → (B_X1_removeBlock_103 Z Q  M13 a0 v3)) ∧ (¬ 40 ≤ (mI M13 7 a0) → ((∃ y55_1, zR Z 5 a0 = some y55_1 ∧ (zK Z y55_1 = 2 ∧ (P_X2_put Z M13 y55_1 (3 * (mI M13 7 a0)) v2 (fun M65 => (P_X2_put Z M65 y55_1 ((3 * (mI M65 7 a0)) + 1) v3 (fun M81 => (P_X2_put Z M81 y55_1 ((3 * (mI M81 7 a0)) + 2) (mI M81 3 a0) (fun M100 => B_X1_removeBlock_103 Z Q  M100 a0 v3)))))))))))) ∧ (¬ r13 ≤ v4 → ((zK Z a1 = 0 ∧ (P_X0_numberAt Z M13 a1 v4 (fun r22 M22 => (¬ r22 = v2 → (B_X1_removeBlock_39 Z Q K10 M22 a0 a1 v2 v3 v4)) ∧ (r22 = v2 → ((∃ y30_4, zR Z 3 a0 = some y30_4 ∧ (zK Z y30_4 = 2 ∧ (P_X2_put Z M22 y30_4 v4 0 (fun M36 => B_X1_removeBlock_39 Z Q K10 M36 a0 a1 v2 v3 v4))))))))))))))
def L_X1_removeBlock_10 (Z : ZZ) (Q : Int32 → MM → Prop)  : Nat → MM → Nat → Nat → Int32 → Int32 → Int32 → Prop
  | 0 => fun _ _ _ _ _ _ => False
  | n + 1 => B_X1_removeBlock_10 Z Q  (L_X1_removeBlock_10 Z Q   n)
def B_X1_removeBlock_0 (Z : ZZ) (Q : Int32 → MM → Prop)  (M : MM) (a0 : Nat) (a1 : Nat) (v2 : Int32) : Prop := (zK Z a0 = 1 ∧ (P_X1_volumeOf Z M a0 a1 v2 (fun r3 M3 => ∃ n, L_X1_removeBlock_10 Z Q  n M3 a0 a1 v2 r3 0)))
def P_X1_removeBlock (Z : ZZ) (M : MM) (a0 : Nat) (a1 : Nat) (v2 : Int32) (Q : Int32 → MM → Prop) : Prop := B_X1_removeBlock_0 Z Q M a0 a1 v2
def rm_X1_removeBlock : Room := { frames := 3, cells := 0, slots := 0, locals := 66 }
/-! IceField.takeOut(I)I -/
def B_X5_takeOut_0 (Z : ZZ) (Q : Int32 → MM → Prop) (X : String → MM → Prop)  (M : MM) (a0 : Nat) (v1 : Int32) : Prop := (zK Z a0 = 5 ∧ (P_X5_checkCell Z M a0 v1 (fun M2 => ((∃ y6_1, zR Z 17 a0 = some y6_1 ∧ (∃ y10_2, zR Z 13 a0 = some y10_2 ∧ (zK Z y6_1 = 0 ∧ (P_X0_find Z M2 y6_1 y10_2 (fun M13 => (P_X0_numberAt Z M13 y6_1 v1 (fun r21 M21 => (P_X0_isLoose Z M21 y6_1 r21 (fun r30 M30 => (r30 = 0 → (X "java/lang/IllegalStateException" M30)) ∧ (¬ r30 = 0 → ((∃ y37_4, zR Z 18 a0 = some y37_4 ∧ (zK Z y37_4 = 4 ∧ (P_X4_search Z M30 y37_4 y10_2 y6_1 r21 (fun r49 M49 => (¬ r49 = (-1) → ((P_X5_saveState Z M49 a0  (fun M67 => (zK Z y10_2 = 1 ∧ (P_X1_removeBlock Z M67 y10_2 y6_1 r21 (fun r79 M79 => Q r79 M79))))))) ∧ (r49 = (-1) → (X "java/lang/IllegalStateException" M49))))))))))))))))))) X))
def P_X5_takeOut (Z : ZZ) (M : MM) (a0 : Nat) (v1 : Int32) (Q : Int32 → MM → Prop) (X : String → MM → Prop) : Prop := B_X5_takeOut_0 Z Q X M a0 v1
def rm_X5_takeOut : Room := { frames := 7, cells := 2, slots := 12, locals := 114 }
/-! IceField.lowestFloating(LIceField$Ice;)I -/
def B_X5_lowestFloating_40 (Z : ZZ) (Q : Int32 → MM → Prop) (K2 : MM → Nat → Nat → Int32 → Prop) (M : MM) (a0 : Nat) (a1 : Nat) (v2 : Int32) : Prop := K2 M a0 a1 (v2 + 1)
def B_X5_lowestFloating_2 (Z : ZZ) (Q : Int32 → MM → Prop) (K2 : MM → Nat → Nat → Int32 → Prop) (M : MM) (a0 : Nat) (a1 : Nat) (v2 : Int32) : Prop := (zK Z a1 = 1 ∧ (P_X1_cellCount Z M a1  (fun r4 M4 => (r4 ≤ v2 → (Q (-1) M4)) ∧ (¬ r4 ≤ v2 → ((zK Z a0 = 5 ∧ (∃ y11_2, zR Z 17 a0 = some y11_2 ∧ (zK Z y11_2 = 0 ∧ (P_X0_isLoose Z M4 y11_2 v2 (fun r15 M15 => (r15 = 0 → (B_X5_lowestFloating_40 Z Q K2 M15 a0 a1 v2)) ∧ (¬ r15 = 0 → ((∃ y22_4, zR Z 18 a0 = some y22_4 ∧ (zK Z y22_4 = 4 ∧ (P_X4_search Z M15 y22_4 a1 y11_2 v2 (fun r31 M31 => (r31 = (-1) → (B_X5_lowestFloating_40 Z Q K2 M31 a0 a1 v2)) ∧ (¬ r31 = (-1) → (Q v2 M31))))))))))))))))))
def L_X5_lowestFloating_2 (Z : ZZ) (Q : Int32 → MM → Prop)  : Nat → MM → Nat → Nat → Int32 → Prop
  | 0 => fun _ _ _ _ => False
  | n + 1 => B_X5_lowestFloating_2 Z Q  (L_X5_lowestFloating_2 Z Q   n)
def B_X5_lowestFloating_0 (Z : ZZ) (Q : Int32 → MM → Prop)  (M : MM) (a0 : Nat) (a1 : Nat) : Prop := ∃ n, L_X5_lowestFloating_2 Z Q  n M a0 a1 0
def P_X5_lowestFloating (Z : ZZ) (M : MM) (a0 : Nat) (a1 : Nat) (Q : Int32 → MM → Prop) : Prop := B_X5_lowestFloating_0 Z Q M a0 a1
def rm_X5_lowestFloating : Room := { frames := 4, cells := 0, slots := 0, locals := 99 }
/-! IceField$Blocks.forget(I)V -/
def B_X0_forget_29 (Z : ZZ) (Q : MM → Prop) (K2 : MM → Nat → Int32 → Int32 → Prop) (M : MM) (a0 : Nat) (v1 : Int32) (v2 : Int32) : Prop := K2 M a0 v1 (v2 + 1)
def B_X0_forget_2 (Z : ZZ) (Q : MM → Prop) (K2 : MM → Nat → Int32 → Int32 → Prop) (M : MM) (a0 : Nat) (v1 : Int32) (v2 : Int32) : Prop := (49 ≤ v2 → (Q M)) ∧ (¬ 49 ≤ v2 → ((zK Z a0 = 0 ∧ (∃ y9_1, zR Z 0 a0 = some y9_1 ∧ (zK Z y9_1 = 2 ∧ (P_X2_at Z M y9_1 v2 (fun r13 M13 => (¬ r13 = v1 → (B_X0_forget_29 Z Q K2 M13 a0 v1 v2)) ∧ (r13 = v1 → ((P_X2_put Z M13 y9_1 v2 (-1) (fun M26 => B_X0_forget_29 Z Q K2 M26 a0 v1 v2)))))))))))
def L_X0_forget_2 (Z : ZZ) (Q : MM → Prop)  : Nat → MM → Nat → Int32 → Int32 → Prop
  | 0 => fun _ _ _ _ => False
  | n + 1 => B_X0_forget_2 Z Q  (L_X0_forget_2 Z Q   n)
def B_X0_forget_0 (Z : ZZ) (Q : MM → Prop)  (M : MM) (a0 : Nat) (v1 : Int32) : Prop := ∃ n, L_X0_forget_2 Z Q  n M a0 v1 0
def P_X0_forget (Z : ZZ) (M : MM) (a0 : Nat) (v1 : Int32) (Q : MM → Prop) : Prop := B_X0_forget_0 Z Q M a0 v1
def rm_X0_forget : Room := { frames := 1, cells := 0, slots := 0, locals := 22 }
/-! IceField.removeFloating(LIceField$Ice;)I -/
def B_X5_removeFloating_10 (Z : ZZ) (Q : Int32 → MM → Prop) (K10 : MM → Nat → Nat → Int32 → Prop) (M : MM) (a0 : Nat) (a1 : Nat) (v2 : Int32) : Prop := (49 ≤ v2 → (Q 49 M)) ∧ (¬ 49 ≤ v2 → ((zK Z a0 = 5 ∧ (P_X5_lowestFloating Z M a0 a1 (fun r18 M18 => (¬ r18 = (-1) → ((∃ y31_1, zR Z 17 a0 = some y31_1 ∧ (zK Z a1 = 1 ∧ (P_X1_removeBlock Z M18 a1 y31_1 r18 (fun r35 M35 => (zK Z y31_1 = 0 ∧ (P_X0_forget Z M35 y31_1 r18 (fun M44 => K10 M44 a0 a1 (v2 + 1)))))))))) ∧ (r18 = (-1) → (Q v2 M18)))))))
def L_X5_removeFloating_10 (Z : ZZ) (Q : Int32 → MM → Prop)  : Nat → MM → Nat → Nat → Int32 → Prop
  | 0 => fun _ _ _ _ => False
  | n + 1 => B_X5_removeFloating_10 Z Q  (L_X5_removeFloating_10 Z Q   n)
def B_X5_removeFloating_0 (Z : ZZ) (Q : Int32 → MM → Prop)  (M : MM) (a0 : Nat) (a1 : Nat) : Prop := (zK Z a0 = 5 ∧ (∃ y1_1, zR Z 17 a0 = some y1_1 ∧ (zK Z y1_1 = 0 ∧ (P_X0_find Z M y1_1 a1 (fun M5 => ∃ n, L_X5_removeFloating_10 Z Q  n M5 a0 a1 0)))))
def P_X5_removeFloating (Z : ZZ) (M : MM) (a0 : Nat) (a1 : Nat) (Q : Int32 → MM → Prop) : Prop := B_X5_removeFloating_0 Z Q M a0 a1
def rm_X5_removeFloating : Room := { frames := 5, cells := 0, slots := 0, locals := 121 }
/-! IceField.takeAll()I -/
def B_X5_takeAll_0 (Z : ZZ) (Q : Int32 → MM → Prop)  (M : MM) (a0 : Nat) : Prop := (zK Z a0 = 5 ∧ (P_X5_saveState Z M a0  (fun M1 => (∃ y6_1, zR Z 13 a0 = some y6_1 ∧ (P_X5_removeFloating Z M1 a0 y6_1 (fun r9 M9 => Q r9 M9))))))
def P_X5_takeAll (Z : ZZ) (M : MM) (a0 : Nat) (Q : Int32 → MM → Prop) : Prop := B_X5_takeAll_0 Z Q M a0
def rm_X5_takeAll : Room := { frames := 6, cells := 0, slots := 0, locals := 144 }
/-! IceField.setMelt(I)I -/
def B_X5_setMelt_0 (Z : ZZ) (Q : Int32 → MM → Prop) (X : String → MM → Prop)  (M : MM) (a0 : Nat) (v1 : Int32) : Prop := (P_X5_isOutside Z M v1 0 9 (fun r4 M4 => (r4 = 0 → ((zK Z a0 = 5 ∧ (P_X5_saveState Z M4 a0  (fun M21 => (∃ y25_1, zR Z 13 a0 = some y25_1 ∧ (zK Z y25_1 = 1 ∧ Q (mI M21 2 y25_1) (setI M21 2 y25_1 v1)))))))) ∧ (¬ r4 = 0 → (X "java/lang/IllegalArgumentException" M4))))
def P_X5_setMelt (Z : ZZ) (M : MM) (a0 : Nat) (v1 : Int32) (Q : Int32 → MM → Prop) (X : String → MM → Prop) : Prop := B_X5_setMelt_0 Z Q X M a0 v1
def rm_X5_setMelt : Room := { frames := 6, cells := 1, slots := 6, locals := 90 }
/-! IceField$Ice.waterBeside(I)I -/
def B_X1_waterBeside_40 (Z : ZZ) (Q : Int32 → MM → Prop) (K43 : MM → Nat → Int32 → Int32 → Int32 → Prop) (M : MM) (a0 : Nat) (v1 : Int32) (v2 : Int32) (v3 : Int32) : Prop := K43 M a0 v1 (v2 + 1) v3
def B_X1_waterBeside_43 (Z : ZZ) (Q : Int32 → MM → Prop) (K4 : MM → Nat → Int32 → Int32 → Int32 → Prop) (M : MM) (a0 : Nat) (v1 : Int32) (v2 : Int32) (v3 : Int32) : Prop := K4 M a0 v1 v2 (v3 + 1)
def B_X1_waterBeside_4 (Z : ZZ) (Q : Int32 → MM → Prop) (K4 : MM → Nat → Int32 → Int32 → Int32 → Prop) (M : MM) (a0 : Nat) (v1 : Int32) (v2 : Int32) (v3 : Int32) : Prop := (4 ≤ v3 → (Q v2 M)) ∧ (¬ 4 ≤ v3 → ((zK Z a0 = 1 ∧ (P_X1_beside Z M a0 v1 v3 (fun r12 M12 => (¬ r12 = (-1) → ((P_X1_isIce Z M12 a0 r12 (fun r34 M34 => (¬ r34 = 0 → (B_X1_waterBeside_43 Z Q K4 M34 a0 v1 v2 v3)) ∧ (r34 = 0 → (B_X1_waterBeside_40 Z Q (fun M1 a0 v1 v2 v3 => B_X1_waterBeside_43 Z Q K4 M1 a0 v1 v2 v3) M34 a0 v1 v2 v3)))))) ∧ (r12 = (-1) → ((¬ v3 = 1 → (B_X1_waterBeside_43 Z Q K4 M12 a0 v1 v2 v3)) ∧ (v3 = 1 → (B_X1_waterBeside_40 Z Q (fun M1 a0 v1 v2 v3 => B_X1_waterBeside_43 Z Q K4 M1 a0 v1 v2 v3) M12 a0 v1 v2 v3)))))))))
def L_X1_waterBeside_4 (Z : ZZ) (Q : Int32 → MM → Prop)  : Nat → MM → Nat → Int32 → Int32 → Int32 → Prop
  | 0 => fun _ _ _ _ _ => False
  | n + 1 => B_X1_waterBeside_4 Z Q  (L_X1_waterBeside_4 Z Q   n)
def B_X1_waterBeside_0 (Z : ZZ) (Q : Int32 → MM → Prop)  (M : MM) (a0 : Nat) (v1 : Int32) : Prop := ∃ n, L_X1_waterBeside_4 Z Q  n M a0 v1 0 0
def P_X1_waterBeside (Z : ZZ) (M : MM) (a0 : Nat) (v1 : Int32) (Q : Int32 → MM → Prop) : Prop := B_X1_waterBeside_0 Z Q M a0 v1
def rm_X1_waterBeside : Room := { frames := 2, cells := 0, slots := 0, locals := 43 }
/-! IceField$Ice.lossOf(I)I -/
def B_X1_lossOf_22 (Z : ZZ) (Q : Int32 → MM → Prop)  (M : MM) (a0 : Nat) (v1 : Int32) (t0 : Int32) : Prop := (zK Z a0 = 1 ∧ (∃ y24_1, zR Z 3 a0 = some y24_1 ∧ (zK Z y24_1 = 2 ∧ (P_X2_at Z M y24_1 v1 (fun r28 M28 => (r28 ≤ t0 → (Q r28 M28)) ∧ (¬ r28 ≤ t0 → (Q t0 M28)))))))
def B_X1_lossOf_0 (Z : ZZ) (Q : Int32 → MM → Prop)  (M : MM) (a0 : Nat) (v1 : Int32) : Prop := (zK Z a0 = 1 ∧ (P_X1_waterBeside Z M a0 v1 (fun r2 M2 => (r2 < 2 → (B_X1_lossOf_22 Z Q  M2 a0 v1 (mI M2 2 a0))) ∧ (¬ r2 < 2 → (B_X1_lossOf_22 Z Q  M2 a0 v1 ((mI M2 2 a0) + 1))))))
def P_X1_lossOf (Z : ZZ) (M : MM) (a0 : Nat) (v1 : Int32) (Q : Int32 → MM → Prop) : Prop := B_X1_lossOf_0 Z Q M a0 v1
def rm_X1_lossOf : Room := { frames := 3, cells := 0, slots := 0, locals := 67 }
/-! IceField$Ice.meltOneDay()V -/
def B_X1_meltOneDay_31 (Z : ZZ) (Q : MM → Prop) (K31 : MM → Nat → Int32 → Prop) (M : MM) (a0 : Nat) (v1 : Int32) : Prop := (zK Z a0 = 1 ∧ (P_X1_cellCount Z M a0  (fun r33 M33 => (r33 ≤ v1 → (Q (setI M33 3 a0 ((mI M33 3 a0) + 1)))) ∧ (¬ r33 ≤ v1 → ((∃ y40_1, zR Z 3 a0 = some y40_1 ∧ (zK Z y40_1 = 2 ∧ (P_X2_at Z M33 y40_1 v1 (fun r49 M49 => (∃ y53_3, zR Z 6 a0 = some y53_3 ∧ (zK Z y53_3 = 2 ∧ (P_X2_at Z M49 y53_3 v1 (fun r57 M57 => (P_X2_put Z M57 y40_1 v1 (r49 - r57) (fun M61 => (P_X2_at Z M61 y53_3 v1 (fun r74 M74 => K31 (setI M74 5 a0 ((mI M61 5 a0) + r74)) a0 (v1 + 1))))))))))))))))))
def L_X1_meltOneDay_31 (Z : ZZ) (Q : MM → Prop)  : Nat → MM → Nat → Int32 → Prop
  | 0 => fun _ _ _ => False
  | n + 1 => B_X1_meltOneDay_31 Z Q  (L_X1_meltOneDay_31 Z Q   n)
def B_X1_meltOneDay_2 (Z : ZZ) (Q : MM → Prop) (K2 : MM → Nat → Int32 → Prop) (M : MM) (a0 : Nat) (v1 : Int32) : Prop := (zK Z a0 = 1 ∧ (P_X1_cellCount Z M a0  (fun r4 M4 => (r4 ≤ v1 → (∃ n, L_X1_meltOneDay_31 Z Q  n M4 a0 0)) ∧ (¬ r4 ≤ v1 → ((∃ y11_1, zR Z 6 a0 = some y11_1 ∧ (P_X1_lossOf Z M4 a0 v1 (fun r17 M17 => (zK Z y11_1 = 2 ∧ (P_X2_put Z M17 y11_1 v1 r17 (fun M20 => K2 M20 a0 (v1 + 1))))))))))))
def L_X1_meltOneDay_2 (Z : ZZ) (Q : MM → Prop)  : Nat → MM → Nat → Int32 → Prop
  | 0 => fun _ _ _ => False
  | n + 1 => B_X1_meltOneDay_2 Z Q  (L_X1_meltOneDay_2 Z Q   n)
def B_X1_meltOneDay_0 (Z : ZZ) (Q : MM → Prop)  (M : MM) (a0 : Nat) : Prop := ∃ n, L_X1_meltOneDay_2 Z Q  n M a0 0
def P_X1_meltOneDay (Z : ZZ) (M : MM) (a0 : Nat) (Q : MM → Prop) : Prop := B_X1_meltOneDay_0 Z Q M a0
def rm_X1_meltOneDay : Room := { frames := 4, cells := 0, slots := 0, locals := 90 }
/-! IceField.pass(I)I -/
def B_X5_pass_34 (Z : ZZ) (Q : Int32 → MM → Prop) (X : String → MM → Prop) (K34 : MM → Nat → Int32 → Int32 → Int32 → Prop) (M : MM) (a0 : Nat) (v1 : Int32) (v2 : Int32) (v3 : Int32) : Prop := (v1 ≤ v3 → ((zK Z a0 = 5 ∧ (∃ y53_1, zR Z 13 a0 = some y53_1 ∧ (zK Z y53_1 = 1 ∧ Q ((mI M 5 y53_1) - v2) M))))) ∧ (¬ v1 ≤ v3 → ((zK Z a0 = 5 ∧ (∃ y40_4, zR Z 13 a0 = some y40_4 ∧ (zK Z y40_4 = 1 ∧ (P_X1_meltOneDay Z M y40_4  (fun M43 => K34 M43 a0 v1 v2 (v3 + 1))))))))
def L_X5_pass_34 (Z : ZZ) (Q : Int32 → MM → Prop) (X : String → MM → Prop)  : Nat → MM → Nat → Int32 → Int32 → Int32 → Prop
  | 0 => fun _ _ _ _ _ => False
  | n + 1 => B_X5_pass_34 Z Q X (L_X5_pass_34 Z Q X  n)
def B_X5_pass_0 (Z : ZZ) (Q : Int32 → MM → Prop) (X : String → MM → Prop)  (M : MM) (a0 : Nat) (v1 : Int32) : Prop := (P_X5_isOutside Z M v1 1 50 (fun r4 M4 => (r4 = 0 → ((zK Z a0 = 5 ∧ (P_X5_saveState Z M4 a0  (fun M21 => (∃ y25_1, zR Z 13 a0 = some y25_1 ∧ (zK Z y25_1 = 1 ∧ ∃ n, L_X5_pass_34 Z Q X  n M21 a0 v1 (mI M21 5 y25_1) 0))))))) ∧ (¬ r4 = 0 → (X "java/lang/IllegalArgumentException" M4))))
def P_X5_pass (Z : ZZ) (M : MM) (a0 : Nat) (v1 : Int32) (Q : Int32 → MM → Prop) (X : String → MM → Prop) : Prop := B_X5_pass_0 Z Q X M a0 v1
def rm_X5_pass : Room := { frames := 6, cells := 1, slots := 6, locals := 111 }
/-! IceField.cellFact(II)I -/
def B_X5_cellFact_0 (Z : ZZ) (Q : Int32 → MM → Prop)  (M : MM) (a0 : Nat) (v1 : Int32) (v2 : Int32) : Prop := (v2 = 0 → ((zK Z a0 = 5 ∧ (∃ y37_1, zR Z 13 a0 = some y37_1 ∧ (zK Z y37_1 = 1 ∧ (∃ y40_3, zR Z 3 y37_1 = some y40_3 ∧ (zK Z y40_3 = 2 ∧ (P_X2_at Z M y40_3 v1 (fun r44 M44 => Q r44 M44))))))))) ∧ (¬ v2 = 0 → (v2 = 5 → ((zK Z a0 = 5 ∧ (∃ y49_6, zR Z 17 a0 = some y49_6 ∧ (zK Z y49_6 = 0 ∧ (P_X0_numberAt Z M y49_6 v1 (fun r53 M53 => Q r53 M53))))))) ∧ (¬ v2 = 5 → (v2 = 6 → ((zK Z a0 = 5 ∧ (∃ y58_9, zR Z 13 a0 = some y58_9 ∧ (zK Z y58_9 = 1 ∧ (P_X1_waterBeside Z M y58_9 v1 (fun r62 M62 => Q r62 M62))))))) ∧ (¬ v2 = 6 → ((zK Z a0 = 5 ∧ (∃ y67_12, zR Z 13 a0 = some y67_12 ∧ (zK Z y67_12 = 1 ∧ (P_X1_cutAt Z M y67_12 v1 (v2 - 1) (fun r74 M74 => Q r74 M74)))))))))
def P_X5_cellFact (Z : ZZ) (M : MM) (a0 : Nat) (v1 : Int32) (v2 : Int32) (Q : Int32 → MM → Prop) : Prop := B_X5_cellFact_0 Z Q M a0 v1 v2
def rm_X5_cellFact : Room := { frames := 3, cells := 0, slots := 0, locals := 67 }
/-! IceField.cell(II)I -/
def B_X5_cell_41 (Z : ZZ) (Q : Int32 → MM → Prop) (X : String → MM → Prop)  (M : MM) (a0 : Nat) (v1 : Int32) (v2 : Int32) : Prop := (zK Z a0 = 5 ∧ (P_X5_cellFact Z M a0 v1 v2 (fun r44 M44 => Q r44 M44)))
def B_X5_cell_0 (Z : ZZ) (Q : Int32 → MM → Prop) (X : String → MM → Prop)  (M : MM) (a0 : Nat) (v1 : Int32) (v2 : Int32) : Prop := (zK Z a0 = 5 ∧ (P_X5_checkCell Z M a0 v1 (fun M2 => ((P_X5_isOutside Z M2 v2 0 6 (fun r9 M9 => (r9 = 0 → ((¬ v2 = 5 → (B_X5_cell_41 Z Q X  M9 a0 v1 v2)) ∧ (v2 = 5 → ((∃ y31_1, zR Z 17 a0 = some y31_1 ∧ (∃ y35_2, zR Z 13 a0 = some y35_2 ∧ (zK Z y31_1 = 0 ∧ (P_X0_find Z M9 y31_1 y35_2 (fun M38 => B_X5_cell_41 Z Q X  M38 a0 v1 v2))))))))) ∧ (¬ r9 = 0 → (X "java/lang/IllegalArgumentException" M9)))))) X))
def P_X5_cell (Z : ZZ) (M : MM) (a0 : Nat) (v1 : Int32) (v2 : Int32) (Q : Int32 → MM → Prop) (X : String → MM → Prop) : Prop := B_X5_cell_0 Z Q X M a0 v1 v2
def rm_X5_cell : Room := { frames := 7, cells := 2, slots := 12, locals := 114 }
/-! IceField.findWayOf(I)V -/
def B_X5_findWayOf_36 (Z : ZZ) (Q : MM → Prop)  (M : MM) (t0 : Int32) (t1 : Int32) (t2 : Nat) : Prop := (zK Z t2 = 2 ∧ (P_X2_put Z M t2 t1 t0 (fun M36 => Q M36)))
def B_X5_findWayOf_0 (Z : ZZ) (Q : MM → Prop)  (M : MM) (a0 : Nat) (v1 : Int32) : Prop := (zK Z a0 = 5 ∧ (∃ y1_1, zR Z 19 a0 = some y1_1 ∧ (∃ y6_2, zR Z 17 a0 = some y6_2 ∧ (zK Z y6_2 = 0 ∧ (P_X0_isLoose Z M y6_2 v1 (fun r10 M10 => (r10 = 0 → (B_X5_findWayOf_36 Z Q  M10 (-1) v1 y1_1)) ∧ (¬ r10 = 0 → ((∃ y17_4, zR Z 18 a0 = some y17_4 ∧ (∃ y21_5, zR Z 13 a0 = some y21_5 ∧ (zK Z y17_4 = 4 ∧ (P_X4_search Z M10 y17_4 y21_5 y6_2 v1 (fun r29 M29 => B_X5_findWayOf_36 Z Q  M29 r29 v1 y1_1)))))))))))))
def P_X5_findWayOf (Z : ZZ) (M : MM) (a0 : Nat) (v1 : Int32) (Q : MM → Prop) : Prop := B_X5_findWayOf_0 Z Q M a0 v1
def rm_X5_findWayOf : Room := { frames := 4, cells := 0, slots := 0, locals := 99 }
/-! IceField$Blocks.sizeOf(I)I -/
def B_X0_sizeOf_25 (Z : ZZ) (Q : Int32 → MM → Prop) (K4 : MM → Nat → Int32 → Int32 → Int32 → Prop) (M : MM) (a0 : Nat) (v1 : Int32) (v2 : Int32) (v3 : Int32) : Prop := K4 M a0 v1 v2 (v3 + 1)
def B_X0_sizeOf_4 (Z : ZZ) (Q : Int32 → MM → Prop) (K4 : MM → Nat → Int32 → Int32 → Int32 → Prop) (M : MM) (a0 : Nat) (v1 : Int32) (v2 : Int32) (v3 : Int32) : Prop := (49 ≤ v3 → (Q v2 M)) ∧ (¬ 49 ≤ v3 → ((zK Z a0 = 0 ∧ (∃ y11_1, zR Z 0 a0 = some y11_1 ∧ (zK Z y11_1 = 2 ∧ (P_X2_at Z M y11_1 v3 (fun r15 M15 => (¬ r15 = v1 → (B_X0_sizeOf_25 Z Q K4 M15 a0 v1 v2 v3)) ∧ (r15 = v1 → (B_X0_sizeOf_25 Z Q K4 M15 a0 v1 (v2 + 1) v3)))))))))
def L_X0_sizeOf_4 (Z : ZZ) (Q : Int32 → MM → Prop)  : Nat → MM → Nat → Int32 → Int32 → Int32 → Prop
  | 0 => fun _ _ _ _ _ => False
  | n + 1 => B_X0_sizeOf_4 Z Q  (L_X0_sizeOf_4 Z Q   n)
def B_X0_sizeOf_0 (Z : ZZ) (Q : Int32 → MM → Prop)  (M : MM) (a0 : Nat) (v1 : Int32) : Prop := ∃ n, L_X0_sizeOf_4 Z Q  n M a0 v1 0 0
def P_X0_sizeOf (Z : ZZ) (M : MM) (a0 : Nat) (v1 : Int32) (Q : Int32 → MM → Prop) : Prop := B_X0_sizeOf_0 Z Q M a0 v1
def rm_X0_sizeOf : Room := { frames := 1, cells := 0, slots := 0, locals := 21 }
/-! IceField.blockFact(II)I -/
def B_X5_blockFact_0 (Z : ZZ) (Q : Int32 → MM → Prop)  (M : MM) (a0 : Nat) (v1 : Int32) (v2 : Int32) : Prop := (zK Z a0 = 5 ∧ (∃ y1_1, zR Z 17 a0 = some y1_1 ∧ (zK Z y1_1 = 0 ∧ (P_X0_numberAt Z M y1_1 v1 (fun r5 M5 => (¬ r5 = (-1) → ((v2 = 0 → (Q r5 M5)) ∧ (¬ v2 = 0 → (v2 = 1 → ((P_X0_sizeOf Z M5 y1_1 r5 (fun r55 M55 => Q r55 M55)))) ∧ (¬ v2 = 1 → (v2 = 2 → ((∃ y60_3, zR Z 13 a0 = some y60_3 ∧ (zK Z y60_3 = 1 ∧ (P_X1_volumeOf Z M5 y60_3 y1_1 r5 (fun r68 M68 => Q r68 M68)))))) ∧ (¬ v2 = 2 → (v2 = 3 → ((P_X0_isLoose Z M5 y1_1 r5 (fun r77 M77 => (r77 = 0 → (Q 1 M77)) ∧ (¬ r77 = 0 → (Q 0 M77)))))) ∧ (¬ v2 = 3 → ((∃ y90_5, zR Z 19 a0 = some y90_5 ∧ (zK Z y90_5 = 2 ∧ (P_X2_at Z M5 y90_5 r5 (fun r94 M94 => Q r94 M94))))))))))) ∧ (r5 = (-1) → (Q (-1) M5)))))))
def P_X5_blockFact (Z : ZZ) (M : MM) (a0 : Nat) (v1 : Int32) (v2 : Int32) (Q : Int32 → MM → Prop) : Prop := B_X5_blockFact_0 Z Q M a0 v1 v2
def rm_X5_blockFact : Room := { frames := 3, cells := 0, slots := 0, locals := 66 }
/-! IceField.block(II)I -/
def B_X5_block_52 (Z : ZZ) (Q : Int32 → MM → Prop) (X : String → MM → Prop)  (M : MM) (a0 : Nat) (v1 : Int32) (v2 : Int32) : Prop := (zK Z a0 = 5 ∧ (P_X5_blockFact Z M a0 v1 v2 (fun r55 M55 => Q r55 M55)))
def B_X5_block_0 (Z : ZZ) (Q : Int32 → MM → Prop) (X : String → MM → Prop)  (M : MM) (a0 : Nat) (v1 : Int32) (v2 : Int32) : Prop := (zK Z a0 = 5 ∧ (P_X5_checkCell Z M a0 v1 (fun M2 => ((P_X5_isOutside Z M2 v2 0 4 (fun r8 M8 => (r8 = 0 → ((∃ y25_1, zR Z 17 a0 = some y25_1 ∧ (∃ y29_2, zR Z 13 a0 = some y29_2 ∧ (zK Z y25_1 = 0 ∧ (P_X0_find Z M8 y25_1 y29_2 (fun M32 => (¬ v2 = 4 → (B_X5_block_52 Z Q X  M32 a0 v1 v2)) ∧ (v2 = 4 → ((P_X0_numberAt Z M32 y25_1 v1 (fun r46 M46 => (P_X5_findWayOf Z M46 a0 r46 (fun M49 => B_X5_block_52 Z Q X  M49 a0 v1 v2))))))))))))) ∧ (¬ r8 = 0 → (X "java/lang/IllegalArgumentException" M8)))))) X))
def P_X5_block (Z : ZZ) (M : MM) (a0 : Nat) (v1 : Int32) (v2 : Int32) (Q : Int32 → MM → Prop) (X : String → MM → Prop) : Prop := B_X5_block_0 Z Q X M a0 v1 v2
def rm_X5_block : Room := { frames := 7, cells := 2, slots := 12, locals := 120 }
/-! IceField.move(II)I -/
def B_X5_move_0 (Z : ZZ) (Q : Int32 → MM → Prop) (X : String → MM → Prop)  (M : MM) (a0 : Nat) (v1 : Int32) (v2 : Int32) : Prop := (zK Z a0 = 5 ∧ (P_X5_checkCell Z M a0 v1 (fun M2 => ((0 ≤ v2 → ((∃ y20_1, zR Z 17 a0 = some y20_1 ∧ (∃ y24_2, zR Z 13 a0 = some y24_2 ∧ (zK Z y20_1 = 0 ∧ (P_X0_find Z M2 y20_1 y24_2 (fun M27 => (P_X0_numberAt Z M27 y20_1 v1 (fun r35 M35 => (P_X0_isLoose Z M35 y20_1 r35 (fun r44 M44 => (¬ r44 = 0 → ((∃ y54_4, zR Z 18 a0 = some y54_4 ∧ (zK Z y54_4 = 4 ∧ (P_X4_search Z M44 y54_4 y24_2 y20_1 r35 (fun r66 M66 => (r66 ≤ v2 → (Q (-1) M66)) ∧ (¬ r66 ≤ v2 → ((∃ y76_6, zR Z 9 y54_4 = some y76_6 ∧ (zK Z y76_6 = 2 ∧ (P_X2_at Z M66 y76_6 v2 (fun r80 M80 => Q r80 M80)))))))))))) ∧ (r44 = 0 → (Q (-1) M44))))))))))))) ∧ (¬ 0 ≤ v2 → (X "java/lang/IndexOutOfBoundsException" M2)))) X))
def P_X5_move (Z : ZZ) (M : MM) (a0 : Nat) (v1 : Int32) (v2 : Int32) (Q : Int32 → MM → Prop) (X : String → MM → Prop) : Prop := B_X5_move_0 Z Q X M a0 v1 v2
def rm_X5_move : Room := { frames := 7, cells := 2, slots := 12, locals := 114 }
/-! IceField.findBlocksAndWays()V -/
def B_X5_findBlocksAndWays_13 (Z : ZZ) (Q : MM → Prop) (K13 : MM → Nat → Int32 → Prop) (M : MM) (a0 : Nat) (v1 : Int32) : Prop := (zK Z a0 = 5 ∧ (∃ y15_1, zR Z 13 a0 = some y15_1 ∧ (zK Z y15_1 = 1 ∧ (P_X1_cellCount Z M y15_1  (fun r18 M18 => (r18 ≤ v1 → (Q M18)) ∧ (¬ r18 ≤ v1 → ((P_X5_findWayOf Z M18 a0 v1 (fun M26 => K13 M26 a0 (v1 + 1))))))))))
def L_X5_findBlocksAndWays_13 (Z : ZZ) (Q : MM → Prop)  : Nat → MM → Nat → Int32 → Prop
  | 0 => fun _ _ _ => False
  | n + 1 => B_X5_findBlocksAndWays_13 Z Q  (L_X5_findBlocksAndWays_13 Z Q   n)
def B_X5_findBlocksAndWays_0 (Z : ZZ) (Q : MM → Prop)  (M : MM) (a0 : Nat) : Prop := (zK Z a0 = 5 ∧ (∃ y1_1, zR Z 17 a0 = some y1_1 ∧ (∃ y5_2, zR Z 13 a0 = some y5_2 ∧ (zK Z y1_1 = 0 ∧ (P_X0_find Z M y1_1 y5_2 (fun M8 => ∃ n, L_X5_findBlocksAndWays_13 Z Q  n M8 a0 0))))))
def P_X5_findBlocksAndWays (Z : ZZ) (M : MM) (a0 : Nat) (Q : MM → Prop) : Prop := B_X5_findBlocksAndWays_0 Z Q M a0
def rm_X5_findBlocksAndWays : Room := { frames := 5, cells := 0, slots := 0, locals := 120 }
/-! IceField$Ice.iceCells()I -/
def B_X1_iceCells_23 (Z : ZZ) (Q : Int32 → MM → Prop) (K4 : MM → Nat → Int32 → Int32 → Prop) (M : MM) (a0 : Nat) (v1 : Int32) (v2 : Int32) : Prop := K4 M a0 v1 (v2 + 1)
def B_X1_iceCells_4 (Z : ZZ) (Q : Int32 → MM → Prop) (K4 : MM → Nat → Int32 → Int32 → Prop) (M : MM) (a0 : Nat) (v1 : Int32) (v2 : Int32) : Prop := (zK Z a0 = 1 ∧ (P_X1_cellCount Z M a0  (fun r6 M6 => (r6 ≤ v2 → (Q v1 M6)) ∧ (¬ r6 ≤ v2 → ((P_X1_isIce Z M6 a0 v2 (fun r14 M14 => (r14 = 0 → (B_X1_iceCells_23 Z Q K4 M14 a0 v1 v2)) ∧ (¬ r14 = 0 → (B_X1_iceCells_23 Z Q K4 M14 a0 (v1 + 1) v2)))))))))
def L_X1_iceCells_4 (Z : ZZ) (Q : Int32 → MM → Prop)  : Nat → MM → Nat → Int32 → Int32 → Prop
  | 0 => fun _ _ _ _ => False
  | n + 1 => B_X1_iceCells_4 Z Q  (L_X1_iceCells_4 Z Q   n)
def B_X1_iceCells_0 (Z : ZZ) (Q : Int32 → MM → Prop)  (M : MM) (a0 : Nat) : Prop := ∃ n, L_X1_iceCells_4 Z Q  n M a0 0 0
def P_X1_iceCells (Z : ZZ) (M : MM) (a0 : Nat) (Q : Int32 → MM → Prop) : Prop := B_X1_iceCells_0 Z Q M a0
def rm_X1_iceCells : Room := { frames := 2, cells := 0, slots := 0, locals := 42 }
/-! IceField$Blocks.countAll()I -/
def B_X0_countAll_21 (Z : ZZ) (Q : Int32 → MM → Prop) (K4 : MM → Nat → Int32 → Int32 → Prop) (M : MM) (a0 : Nat) (v1 : Int32) (v2 : Int32) : Prop := K4 M a0 v1 (v2 + 1)
def B_X0_countAll_4 (Z : ZZ) (Q : Int32 → MM → Prop) (K4 : MM → Nat → Int32 → Int32 → Prop) (M : MM) (a0 : Nat) (v1 : Int32) (v2 : Int32) : Prop := (49 ≤ v2 → (Q v1 M)) ∧ (¬ 49 ≤ v2 → ((zK Z a0 = 0 ∧ (P_X0_isBlock Z M a0 v2 (fun r12 M12 => (r12 = 0 → (B_X0_countAll_21 Z Q K4 M12 a0 v1 v2)) ∧ (¬ r12 = 0 → (B_X0_countAll_21 Z Q K4 M12 a0 (v1 + 1) v2)))))))
def L_X0_countAll_4 (Z : ZZ) (Q : Int32 → MM → Prop)  : Nat → MM → Nat → Int32 → Int32 → Prop
  | 0 => fun _ _ _ _ => False
  | n + 1 => B_X0_countAll_4 Z Q  (L_X0_countAll_4 Z Q   n)
def B_X0_countAll_0 (Z : ZZ) (Q : Int32 → MM → Prop)  (M : MM) (a0 : Nat) : Prop := ∃ n, L_X0_countAll_4 Z Q  n M a0 0 0
def P_X0_countAll (Z : ZZ) (M : MM) (a0 : Nat) (Q : Int32 → MM → Prop) : Prop := B_X0_countAll_0 Z Q M a0
def rm_X0_countAll : Room := { frames := 2, cells := 0, slots := 0, locals := 42 }
/-! IceField$Blocks.countLoose()I -/
def B_X0_countLoose_21 (Z : ZZ) (Q : Int32 → MM → Prop) (K4 : MM → Nat → Int32 → Int32 → Prop) (M : MM) (a0 : Nat) (v1 : Int32) (v2 : Int32) : Prop := K4 M a0 v1 (v2 + 1)
def B_X0_countLoose_4 (Z : ZZ) (Q : Int32 → MM → Prop) (K4 : MM → Nat → Int32 → Int32 → Prop) (M : MM) (a0 : Nat) (v1 : Int32) (v2 : Int32) : Prop := (49 ≤ v2 → (Q v1 M)) ∧ (¬ 49 ≤ v2 → ((zK Z a0 = 0 ∧ (P_X0_isLoose Z M a0 v2 (fun r12 M12 => (r12 = 0 → (B_X0_countLoose_21 Z Q K4 M12 a0 v1 v2)) ∧ (¬ r12 = 0 → (B_X0_countLoose_21 Z Q K4 M12 a0 (v1 + 1) v2)))))))
def L_X0_countLoose_4 (Z : ZZ) (Q : Int32 → MM → Prop)  : Nat → MM → Nat → Int32 → Int32 → Prop
  | 0 => fun _ _ _ _ => False
  | n + 1 => B_X0_countLoose_4 Z Q  (L_X0_countLoose_4 Z Q   n)
def B_X0_countLoose_0 (Z : ZZ) (Q : Int32 → MM → Prop)  (M : MM) (a0 : Nat) : Prop := ∃ n, L_X0_countLoose_4 Z Q  n M a0 0 0
def P_X0_countLoose (Z : ZZ) (M : MM) (a0 : Nat) (Q : Int32 → MM → Prop) : Prop := B_X0_countLoose_0 Z Q M a0
def rm_X0_countLoose : Room := { frames := 3, cells := 0, slots := 0, locals := 63 }
/-! IceField.isStranded(I)Z -/
def B_X5_isStranded_0 (Z : ZZ) (Q : Int32 → MM → Prop)  (M : MM) (a0 : Nat) (v1 : Int32) : Prop := (zK Z a0 = 5 ∧ (∃ y1_1, zR Z 17 a0 = some y1_1 ∧ (zK Z y1_1 = 0 ∧ (P_X0_isLoose Z M y1_1 v1 (fun r5 M5 => (r5 = 0 → (Q 0 M5)) ∧ (¬ r5 = 0 → ((∃ y12_3, zR Z 19 a0 = some y12_3 ∧ (zK Z y12_3 = 2 ∧ (P_X2_at Z M5 y12_3 v1 (fun r16 M16 => (¬ r16 = (-1) → (Q 0 M16)) ∧ (r16 = (-1) → (Q 1 M16)))))))))))))
def P_X5_isStranded (Z : ZZ) (M : MM) (a0 : Nat) (v1 : Int32) (Q : Int32 → MM → Prop) : Prop := B_X5_isStranded_0 Z Q M a0 v1
def rm_X5_isStranded : Room := { frames := 3, cells := 0, slots := 0, locals := 63 }
/-! IceField.countStranded()I -/
def B_X5_countStranded_26 (Z : ZZ) (Q : Int32 → MM → Prop) (K4 : MM → Nat → Int32 → Int32 → Prop) (M : MM) (a0 : Nat) (v1 : Int32) (v2 : Int32) : Prop := K4 M a0 v1 (v2 + 1)
def B_X5_countStranded_4 (Z : ZZ) (Q : Int32 → MM → Prop) (K4 : MM → Nat → Int32 → Int32 → Prop) (M : MM) (a0 : Nat) (v1 : Int32) (v2 : Int32) : Prop := (zK Z a0 = 5 ∧ (∃ y6_1, zR Z 13 a0 = some y6_1 ∧ (zK Z y6_1 = 1 ∧ (P_X1_cellCount Z M y6_1  (fun r9 M9 => (r9 ≤ v2 → (Q v1 M9)) ∧ (¬ r9 ≤ v2 → ((P_X5_isStranded Z M9 a0 v2 (fun r17 M17 => (r17 = 0 → (B_X5_countStranded_26 Z Q K4 M17 a0 v1 v2)) ∧ (¬ r17 = 0 → (B_X5_countStranded_26 Z Q K4 M17 a0 (v1 + 1) v2)))))))))))
def L_X5_countStranded_4 (Z : ZZ) (Q : Int32 → MM → Prop)  : Nat → MM → Nat → Int32 → Int32 → Prop
  | 0 => fun _ _ _ _ => False
  | n + 1 => B_X5_countStranded_4 Z Q  (L_X5_countStranded_4 Z Q   n)
def B_X5_countStranded_0 (Z : ZZ) (Q : Int32 → MM → Prop)  (M : MM) (a0 : Nat) : Prop := ∃ n, L_X5_countStranded_4 Z Q  n M a0 0 0
def P_X5_countStranded (Z : ZZ) (M : MM) (a0 : Nat) (Q : Int32 → MM → Prop) : Prop := B_X5_countStranded_0 Z Q M a0
def rm_X5_countStranded : Room := { frames := 4, cells := 0, slots := 0, locals := 84 }
/-! IceField$Numbers.sum()I -/
def B_X2_sum_4 (Z : ZZ) (Q : Int32 → MM → Prop) (K4 : MM → Nat → Int32 → Int32 → Prop) (M : MM) (a0 : Nat) (v1 : Int32) (v2 : Int32) : Prop := (zK Z a0 = 2 ∧ (∃ y6_1, zR Z 7 a0 = some y6_1 ∧ (zK Z y6_1 = 7 ∧ ((nI (zN Z y6_1)) ≤ v2 → (Q v1 M)) ∧ (¬ (nI (zN Z y6_1)) ≤ v2 → ((vp_in v2 (zN Z y6_1) ∧ K4 M a0 (v1 + (mA M y6_1 v2.toNatClampNeg)) (v2 + 1)))))))
def L_X2_sum_4 (Z : ZZ) (Q : Int32 → MM → Prop)  : Nat → MM → Nat → Int32 → Int32 → Prop
  | 0 => fun _ _ _ _ => False
  | n + 1 => B_X2_sum_4 Z Q  (L_X2_sum_4 Z Q   n)
def B_X2_sum_0 (Z : ZZ) (Q : Int32 → MM → Prop)  (M : MM) (a0 : Nat) : Prop := ∃ n, L_X2_sum_4 Z Q  n M a0 0 0
def P_X2_sum (Z : ZZ) (M : MM) (a0 : Nat) (Q : Int32 → MM → Prop) : Prop := B_X2_sum_0 Z Q M a0
def rm_X2_sum : Room := { frames := 0, cells := 0, slots := 0, locals := 0 }
/-! IceField.fieldFact(I)I -/
def B_X5_fieldFact_0 (Z : ZZ) (Q : Int32 → MM → Prop)  (M : MM) (a0 : Nat) (v1 : Int32) : Prop := (v1 = 0 → ((zK Z a0 = 5 ∧ (∃ y69_1, zR Z 13 a0 = some y69_1 ∧ (zK Z y69_1 = 1 ∧ Q (mI M 0 y69_1) M))))) ∧ (¬ v1 = 0 → (v1 = 1 → ((zK Z a0 = 5 ∧ (∃ y77_4, zR Z 13 a0 = some y77_4 ∧ (zK Z y77_4 = 1 ∧ Q (mI M 1 y77_4) M))))) ∧ (¬ v1 = 1 → (v1 = 2 → ((zK Z a0 = 5 ∧ (∃ y85_7, zR Z 13 a0 = some y85_7 ∧ (zK Z y85_7 = 1 ∧ (P_X1_iceCells Z M y85_7  (fun r88 M88 => Q r88 M88))))))) ∧ (¬ v1 = 2 → (v1 = 3 → ((zK Z a0 = 5 ∧ (∃ y93_10, zR Z 17 a0 = some y93_10 ∧ (zK Z y93_10 = 0 ∧ (P_X0_countAll Z M y93_10  (fun r96 M96 => Q r96 M96))))))) ∧ (¬ v1 = 3 → (v1 = 4 → ((zK Z a0 = 5 ∧ (∃ y101_13, zR Z 17 a0 = some y101_13 ∧ (zK Z y101_13 = 0 ∧ (P_X0_countLoose Z M y101_13  (fun r104 M104 => Q r104 M104))))))) ∧ (¬ v1 = 4 → (v1 = 5 → ((zK Z a0 = 5 ∧ (P_X5_countStranded Z M a0  (fun r109 M109 => Q r109 M109))))) ∧ (¬ v1 = 5 → (v1 = 6 → ((zK Z a0 = 5 ∧ (∃ y114_17, zR Z 13 a0 = some y114_17 ∧ (zK Z y114_17 = 1 ∧ (∃ y117_19, zR Z 4 y114_17 = some y117_19 ∧ (zK Z y117_19 = 2 ∧ (P_X2_sum Z M y117_19  (fun r120 M120 => Q r120 M120))))))))) ∧ (¬ v1 = 6 → (v1 = 7 → ((zK Z a0 = 5 ∧ (∃ y125_22, zR Z 13 a0 = some y125_22 ∧ (zK Z y125_22 = 1 ∧ Q (mI M 2 y125_22) M))))) ∧ (¬ v1 = 7 → (v1 = 8 → ((zK Z a0 = 5 ∧ (∃ y133_25, zR Z 13 a0 = some y133_25 ∧ (zK Z y133_25 = 1 ∧ Q (mI M 3 y133_25) M))))) ∧ (¬ v1 = 8 → (v1 = 9 → ((zK Z a0 = 5 ∧ (∃ y141_28, zR Z 13 a0 = some y141_28 ∧ (zK Z y141_28 = 1 ∧ Q (mI M 4 y141_28) M))))) ∧ (¬ v1 = 9 → (v1 = 10 → ((zK Z a0 = 5 ∧ (∃ y149_31, zR Z 13 a0 = some y149_31 ∧ (zK Z y149_31 = 1 ∧ (∃ y152_33, zR Z 3 y149_31 = some y152_33 ∧ (zK Z y152_33 = 2 ∧ (P_X2_sum Z M y152_33  (fun r155 M155 => Q r155 M155))))))))) ∧ (¬ v1 = 10 → (v1 = 11 → ((zK Z a0 = 5 ∧ (∃ y160_36, zR Z 13 a0 = some y160_36 ∧ (zK Z y160_36 = 1 ∧ Q (mI M 6 y160_36) M))))) ∧ (¬ v1 = 11 → (v1 = 12 → ((zK Z a0 = 5 ∧ (∃ y168_39, zR Z 13 a0 = some y168_39 ∧ (zK Z y168_39 = 1 ∧ Q (mI M 5 y168_39) M))))) ∧ (¬ v1 = 12 → ((zK Z a0 = 5 ∧ (∃ y176_42, zR Z 13 a0 = some y176_42 ∧ (zK Z y176_42 = 1 ∧ Q (mI M 7 y176_42) M)))))))))))))))))
def P_X5_fieldFact (Z : ZZ) (M : MM) (a0 : Nat) (v1 : Int32) (Q : Int32 → MM → Prop) : Prop := B_X5_fieldFact_0 Z Q M a0 v1
def rm_X5_fieldFact : Room := { frames := 5, cells := 0, slots := 0, locals := 106 }
/-! IceField.value(I)I -/
def B_X5_value_33 (Z : ZZ) (Q : Int32 → MM → Prop) (X : String → MM → Prop)  (M : MM) (a0 : Nat) (v1 : Int32) : Prop := (zK Z a0 = 5 ∧ (P_X5_fieldFact Z M a0 v1 (fun r35 M35 => Q r35 M35)))
def B_X5_value_0 (Z : ZZ) (Q : Int32 → MM → Prop) (X : String → MM → Prop)  (M : MM) (a0 : Nat) (v1 : Int32) : Prop := (P_X5_isOutside Z M v1 0 13 (fun r4 M4 => (r4 = 0 → ((P_X5_isOutside Z M4 v1 3 5 (fun r23 M23 => (¬ r23 = 0 → (B_X5_value_33 Z Q X  M23 a0 v1)) ∧ (r23 = 0 → ((zK Z a0 = 5 ∧ (P_X5_findBlocksAndWays Z M23 a0  (fun M30 => B_X5_value_33 Z Q X  M30 a0 v1))))))))) ∧ (¬ r4 = 0 → (X "java/lang/IllegalArgumentException" M4))))
def P_X5_value (Z : ZZ) (M : MM) (a0 : Nat) (v1 : Int32) (Q : Int32 → MM → Prop) (X : String → MM → Prop) : Prop := B_X5_value_0 Z Q X M a0 v1
def rm_X5_value : Room := { frames := 6, cells := 1, slots := 6, locals := 141 }
/-! IceField$Ice.keptCount()I -/
def B_X1_keptCount_0 (Z : ZZ) (Q : Int32 → MM → Prop)  (M : MM) (a0 : Nat) : Prop := (zK Z a0 = 1 ∧ (40 ≤ (mI M 7 a0) → (Q 40 M)) ∧ (¬ 40 ≤ (mI M 7 a0) → (Q (mI M 7 a0) M)))
def P_X1_keptCount (Z : ZZ) (M : MM) (a0 : Nat) (Q : Int32 → MM → Prop) : Prop := B_X1_keptCount_0 Z Q M a0
def rm_X1_keptCount : Room := { frames := 0, cells := 0, slots := 0, locals := 0 }
/-! IceField$Ice.keptFact(II)I -/
def B_X1_keptFact_0 (Z : ZZ) (Q : Int32 → MM → Prop)  (M : MM) (a0 : Nat) (v1 : Int32) (v2 : Int32) : Prop := (zK Z a0 = 1 ∧ (∃ y1_1, zR Z 5 a0 = some y1_1 ∧ (zK Z y1_1 = 2 ∧ (P_X2_at Z M y1_1 ((3 * v1) + v2) (fun r9 M9 => Q r9 M9)))))
def P_X1_keptFact (Z : ZZ) (M : MM) (a0 : Nat) (v1 : Int32) (v2 : Int32) (Q : Int32 → MM → Prop) : Prop := B_X1_keptFact_0 Z Q M a0 v1 v2
def rm_X1_keptFact : Room := { frames := 1, cells := 0, slots := 0, locals := 21 }
/-! IceField.taken(II)I -/
def B_X5_taken_0 (Z : ZZ) (Q : Int32 → MM → Prop) (X : String → MM → Prop)  (M : MM) (a0 : Nat) (v1 : Int32) (v2 : Int32) : Prop := (zK Z a0 = 5 ∧ (∃ y3_1, zR Z 13 a0 = some y3_1 ∧ (zK Z y3_1 = 1 ∧ (P_X1_keptCount Z M y3_1  (fun r6 M6 => (P_X5_isOutside Z M6 v1 0 (r6 - 1) (fun r11 M11 => (r11 = 0 → ((P_X5_isOutside Z M11 v2 0 2 (fun r30 M30 => (r30 = 0 → ((P_X1_keptFact Z M30 y3_1 v1 v2 (fun r52 M52 => Q r52 M52)))) ∧ (¬ r30 = 0 → (X "java/lang/IllegalArgumentException" M30)))))) ∧ (¬ r11 = 0 → (X "java/lang/IndexOutOfBoundsException" M11)))))))))
def P_X5_taken (Z : ZZ) (M : MM) (a0 : Nat) (v1 : Int32) (v2 : Int32) (Q : Int32 → MM → Prop) (X : String → MM → Prop) : Prop := B_X5_taken_0 Z Q X M a0 v1 v2
def rm_X5_taken : Room := { frames := 6, cells := 1, slots := 6, locals := 90 }
/-! IceField.cutsAround(III)I -/
def B_X5_cutsAround_0 (Z : ZZ) (Q : Int32 → MM → Prop) (X : String → MM → Prop)  (M : MM) (a0 : Nat) (v1 : Int32) (v2 : Int32) (v3 : Int32) : Prop := (zK Z a0 = 5 ∧ (P_X5_checkRectangle Z M a0 v1 v2 v3 (fun M4 => ((∃ y8_1, zR Z 14 a0 = some y8_1 ∧ (∃ y12_2, zR Z 13 a0 = some y12_2 ∧ (zK Z y8_1 = 1 ∧ (P_X1_copyFrom Z M4 y8_1 y12_2 (fun M15 => (P_X1_cutRectangle Z M15 y8_1 v1 v2 v3 (fun r25 M25 => Q r25 M25))))))))) X))
def P_X5_cutsAround (Z : ZZ) (M : MM) (a0 : Nat) (v1 : Int32) (v2 : Int32) (v3 : Int32) (Q : Int32 → MM → Prop) (X : String → MM → Prop) : Prop := B_X5_cutsAround_0 Z Q X M a0 v1 v2 v3
def rm_X5_cutsAround : Room := { frames := 8, cells := 2, slots := 12, locals := 134 }
/-! IceField.takable()I -/
def B_X5_takable_0 (Z : ZZ) (Q : Int32 → MM → Prop)  (M : MM) (a0 : Nat) : Prop := (zK Z a0 = 5 ∧ (∃ y1_1, zR Z 14 a0 = some y1_1 ∧ (∃ y5_2, zR Z 13 a0 = some y5_2 ∧ (zK Z y1_1 = 1 ∧ (P_X1_copyFrom Z M y1_1 y5_2 (fun M8 => (P_X5_removeFloating Z M8 a0 y1_1 (fun r16 M16 => Q r16 M16))))))))
def P_X5_takable (Z : ZZ) (M : MM) (a0 : Nat) (Q : Int32 → MM → Prop) : Prop := B_X5_takable_0 Z Q M a0
def rm_X5_takable : Room := { frames := 6, cells := 0, slots := 0, locals := 144 }
/-! IceField.leftStranded()I -/
def B_X5_leftStranded_0 (Z : ZZ) (Q : Int32 → MM → Prop)  (M : MM) (a0 : Nat) : Prop := (zK Z a0 = 5 ∧ (∃ y1_1, zR Z 14 a0 = some y1_1 ∧ (∃ y5_2, zR Z 13 a0 = some y5_2 ∧ (zK Z y1_1 = 1 ∧ (P_X1_copyFrom Z M y1_1 y5_2 (fun M8 => (P_X5_removeFloating Z M8 a0 y1_1 (fun r16 M16 => (∃ y21_4, zR Z 17 a0 = some y21_4 ∧ (zK Z y21_4 = 0 ∧ (P_X0_countLoose Z M16 y21_4  (fun r24 M24 => Q r24 M24))))))))))))
def P_X5_leftStranded (Z : ZZ) (M : MM) (a0 : Nat) (Q : Int32 → MM → Prop) : Prop := B_X5_leftStranded_0 Z Q M a0
def rm_X5_leftStranded : Room := { frames := 6, cells := 0, slots := 0, locals := 144 }
/-! IceField.hasWaterIn(LIceField$Ice;I)Z -/
def B_X5_hasWaterIn_32 (Z : ZZ) (Q : Int32 → MM → Prop) (K2 : MM → Nat → Nat → Int32 → Int32 → Prop) (M : MM) (a0 : Nat) (a1 : Nat) (v2 : Int32) (v3 : Int32) : Prop := K2 M a0 a1 v2 (v3 + 1)
def B_X5_hasWaterIn_2 (Z : ZZ) (Q : Int32 → MM → Prop) (K2 : MM → Nat → Nat → Int32 → Int32 → Prop) (M : MM) (a0 : Nat) (a1 : Nat) (v2 : Int32) (v3 : Int32) : Prop := (zK Z a1 = 1 ∧ (P_X1_cellCount Z M a1  (fun r4 M4 => (r4 ≤ v3 → (Q 0 M4)) ∧ (¬ r4 ≤ v3 → ((zK Z a0 = 5 ∧ (∃ y11_2, zR Z 17 a0 = some y11_2 ∧ (zK Z y11_2 = 0 ∧ (P_X0_numberAt Z M4 y11_2 v3 (fun r15 M15 => (¬ r15 = v2 → (B_X5_hasWaterIn_32 Z Q K2 M15 a0 a1 v2 v3)) ∧ (r15 = v2 → ((P_X1_isIce Z M15 a1 v3 (fun r24 M24 => (¬ r24 = 0 → (B_X5_hasWaterIn_32 Z Q K2 M24 a0 a1 v2 v3)) ∧ (r24 = 0 → (Q 1 M24))))))))))))))))
def L_X5_hasWaterIn_2 (Z : ZZ) (Q : Int32 → MM → Prop)  : Nat → MM → Nat → Nat → Int32 → Int32 → Prop
  | 0 => fun _ _ _ _ _ => False
  | n + 1 => B_X5_hasWaterIn_2 Z Q  (L_X5_hasWaterIn_2 Z Q   n)
def B_X5_hasWaterIn_0 (Z : ZZ) (Q : Int32 → MM → Prop)  (M : MM) (a0 : Nat) (a1 : Nat) (v2 : Int32) : Prop := ∃ n, L_X5_hasWaterIn_2 Z Q  n M a0 a1 v2 0
def P_X5_hasWaterIn (Z : ZZ) (M : MM) (a0 : Nat) (a1 : Nat) (v2 : Int32) (Q : Int32 → MM → Prop) : Prop := B_X5_hasWaterIn_0 Z Q M a0 a1 v2
def rm_X5_hasWaterIn : Room := { frames := 2, cells := 0, slots := 0, locals := 42 }
/-! IceField.daysWhole(I)I -/
def B_X5_daysWhole_51 (Z : ZZ) (Q : Int32 → MM → Prop) (X : String → MM → Prop) (K51 : MM → Nat → Int32 → Int32 → Prop) (M : MM) (a0 : Nat) (v2 : Int32) (v3 : Int32) : Prop := (60 < v3 → (Q (-1) M)) ∧ (¬ 60 < v3 → ((zK Z a0 = 5 ∧ (∃ y58_1, zR Z 14 a0 = some y58_1 ∧ (zK Z y58_1 = 1 ∧ (P_X1_meltOneDay Z M y58_1  (fun M61 => (P_X5_hasWaterIn Z M61 a0 y58_1 v2 (fun r70 M70 => (r70 = 0 → (K51 M70 a0 v2 (v3 + 1))) ∧ (¬ r70 = 0 → (Q v3 M70)))))))))))
def L_X5_daysWhole_51 (Z : ZZ) (Q : Int32 → MM → Prop) (X : String → MM → Prop)  : Nat → MM → Nat → Int32 → Int32 → Prop
  | 0 => fun _ _ _ _ => False
  | n + 1 => B_X5_daysWhole_51 Z Q X (L_X5_daysWhole_51 Z Q X  n)
def B_X5_daysWhole_0 (Z : ZZ) (Q : Int32 → MM → Prop) (X : String → MM → Prop)  (M : MM) (a0 : Nat) (v1 : Int32) : Prop := (zK Z a0 = 5 ∧ (P_X5_checkCell Z M a0 v1 (fun M2 => ((∃ y6_1, zR Z 17 a0 = some y6_1 ∧ (∃ y10_2, zR Z 13 a0 = some y10_2 ∧ (zK Z y6_1 = 0 ∧ (P_X0_find Z M2 y6_1 y10_2 (fun M13 => (P_X0_numberAt Z M13 y6_1 v1 (fun r21 M21 => (P_X0_isLoose Z M21 y6_1 r21 (fun r30 M30 => (¬ r30 = 0 → ((∃ y39_4, zR Z 14 a0 = some y39_4 ∧ (zK Z y39_4 = 1 ∧ (P_X1_copyFrom Z M30 y39_4 y10_2 (fun M46 => ∃ n, L_X5_daysWhole_51 Z Q X  n M46 a0 r21 1)))))) ∧ (r30 = 0 → (Q (-1) M30))))))))))))) X))
def P_X5_daysWhole (Z : ZZ) (M : MM) (a0 : Nat) (v1 : Int32) (Q : Int32 → MM → Prop) (X : String → MM → Prop) : Prop := B_X5_daysWhole_0 Z Q X M a0 v1
def rm_X5_daysWhole : Room := { frames := 7, cells := 1, slots := 6, locals := 114 }
/-! IceField.daysToWater()I -/
def B_X5_daysToWater_13 (Z : ZZ) (Q : Int32 → MM → Prop) (K13 : MM → Nat → Int32 → Prop) (M : MM) (a0 : Nat) (v1 : Int32) : Prop := (60 < v1 → (Q (-1) M)) ∧ (¬ 60 < v1 → ((zK Z a0 = 5 ∧ (∃ y20_1, zR Z 14 a0 = some y20_1 ∧ (zK Z y20_1 = 1 ∧ (P_X1_iceCells Z M y20_1  (fun r23 M23 => (¬ r23 = 0 → ((P_X1_meltOneDay Z M23 y20_1  (fun M35 => K13 M35 a0 (v1 + 1))))) ∧ (r23 = 0 → (Q v1 M23)))))))))
def L_X5_daysToWater_13 (Z : ZZ) (Q : Int32 → MM → Prop)  : Nat → MM → Nat → Int32 → Prop
  | 0 => fun _ _ _ => False
  | n + 1 => B_X5_daysToWater_13 Z Q  (L_X5_daysToWater_13 Z Q   n)
def B_X5_daysToWater_0 (Z : ZZ) (Q : Int32 → MM → Prop)  (M : MM) (a0 : Nat) : Prop := (zK Z a0 = 5 ∧ (∃ y1_1, zR Z 14 a0 = some y1_1 ∧ (∃ y5_2, zR Z 13 a0 = some y5_2 ∧ (zK Z y1_1 = 1 ∧ (P_X1_copyFrom Z M y1_1 y5_2 (fun M8 => ∃ n, L_X5_daysToWater_13 Z Q  n M8 a0 0))))))
def P_X5_daysToWater (Z : ZZ) (M : MM) (a0 : Nat) (Q : Int32 → MM → Prop) : Prop := B_X5_daysToWater_0 Z Q M a0
def rm_X5_daysToWater : Room := { frames := 5, cells := 0, slots := 0, locals := 111 }
/-! IceField.lowestStranded()I -/
def B_X5_lowestStranded_2 (Z : ZZ) (Q : Int32 → MM → Prop) (K2 : MM → Nat → Int32 → Prop) (M : MM) (a0 : Nat) (v1 : Int32) : Prop := (zK Z a0 = 5 ∧ (∃ y4_1, zR Z 13 a0 = some y4_1 ∧ (zK Z y4_1 = 1 ∧ (P_X1_cellCount Z M y4_1  (fun r7 M7 => (r7 ≤ v1 → (Q (-1) M7)) ∧ (¬ r7 ≤ v1 → ((P_X5_isStranded Z M7 a0 v1 (fun r15 M15 => (r15 = 0 → (K2 M15 a0 (v1 + 1))) ∧ (¬ r15 = 0 → (Q v1 M15)))))))))))
def L_X5_lowestStranded_2 (Z : ZZ) (Q : Int32 → MM → Prop)  : Nat → MM → Nat → Int32 → Prop
  | 0 => fun _ _ _ => False
  | n + 1 => B_X5_lowestStranded_2 Z Q  (L_X5_lowestStranded_2 Z Q   n)
def B_X5_lowestStranded_0 (Z : ZZ) (Q : Int32 → MM → Prop)  (M : MM) (a0 : Nat) : Prop := ∃ n, L_X5_lowestStranded_2 Z Q  n M a0 0
def P_X5_lowestStranded (Z : ZZ) (M : MM) (a0 : Nat) (Q : Int32 → MM → Prop) : Prop := B_X5_lowestStranded_0 Z Q M a0
def rm_X5_lowestStranded : Room := { frames := 4, cells := 0, slots := 0, locals := 84 }
/-! IceField.freesWay(II)Z -/
def B_X5_freesWay_49 (Z : ZZ) (Q : Int32 → MM → Prop)  (M : MM) (a0 : Nat) (v1 : Int32) (v3 : Int32) (t0 : Int32) : Prop := (zK Z a0 = 5 ∧ (∃ y52_1, zR Z 14 a0 = some y52_1 ∧ (zK Z y52_1 = 1 ∧ (∃ y55_3, zR Z 3 y52_1 = some y55_3 ∧ (zK Z y55_3 = 2 ∧ (P_X2_put Z M y55_3 v1 v3 (fun M60 => (zb t0 ∧ Q t0 M60))))))))
def B_X5_freesWay_0 (Z : ZZ) (Q : Int32 → MM → Prop)  (M : MM) (a0 : Nat) (v1 : Int32) (v2 : Int32) : Prop := (zK Z a0 = 5 ∧ (∃ y1_1, zR Z 14 a0 = some y1_1 ∧ (zK Z y1_1 = 1 ∧ (∃ y4_3, zR Z 3 y1_1 = some y4_3 ∧ (zK Z y4_3 = 2 ∧ (P_X2_at Z M y4_3 v1 (fun r8 M8 => (P_X2_put Z M8 y4_3 v1 0 (fun M21 => (∃ y25_5, zR Z 18 a0 = some y25_5 ∧ (∃ y33_6, zR Z 17 a0 = some y33_6 ∧ (zK Z y25_5 = 4 ∧ (P_X4_search Z M21 y25_5 y1_1 y33_6 v2 (fun r37 M37 => (r37 = (-1) → (B_X5_freesWay_49 Z Q  M37 a0 v1 r8 0)) ∧ (¬ r37 = (-1) → (B_X5_freesWay_49 Z Q  M37 a0 v1 r8 1))))))))))))))))
def P_X5_freesWay (Z : ZZ) (M : MM) (a0 : Nat) (v1 : Int32) (v2 : Int32) (Q : Int32 → MM → Prop) : Prop := B_X5_freesWay_0 Z Q M a0 v1 v2
def rm_X5_freesWay : Room := { frames := 4, cells := 0, slots := 0, locals := 99 }
/-! IceField.barredBy()I -/
def B_X5_barredBy_74 (Z : ZZ) (Q : Int32 → MM → Prop) (K29 : MM → Nat → Int32 → Int32 → Prop) (M : MM) (a0 : Nat) (v1 : Int32) (v2 : Int32) : Prop := K29 M a0 v1 (v2 + 1)
def B_X5_barredBy_29 (Z : ZZ) (Q : Int32 → MM → Prop) (K29 : MM → Nat → Int32 → Int32 → Prop) (M : MM) (a0 : Nat) (v1 : Int32) (v2 : Int32) : Prop := (zK Z a0 = 5 ∧ (∃ y31_1, zR Z 13 a0 = some y31_1 ∧ (zK Z y31_1 = 1 ∧ (P_X1_cellCount Z M y31_1  (fun r34 M34 => (r34 ≤ v2 → (Q (-1) M34)) ∧ (¬ r34 ≤ v2 → ((P_X1_isIce Z M34 y31_1 v2 (fun r45 M45 => (r45 = 0 → (B_X5_barredBy_74 Z Q K29 M45 a0 v1 v2)) ∧ (¬ r45 = 0 → ((∃ y52_3, zR Z 17 a0 = some y52_3 ∧ (zK Z y52_3 = 0 ∧ (P_X0_numberAt Z M45 y52_3 v2 (fun r56 M56 => (r56 = v1 → (B_X5_barredBy_74 Z Q K29 M56 a0 v1 v2)) ∧ (¬ r56 = v1 → ((P_X5_freesWay Z M56 a0 v2 v1 (fun r66 M66 => (r66 = 0 → (B_X5_barredBy_74 Z Q K29 M66 a0 v1 v2)) ∧ (¬ r66 = 0 → (Q v2 M66)))))))))))))))))))))
def L_X5_barredBy_29 (Z : ZZ) (Q : Int32 → MM → Prop)  : Nat → MM → Nat → Int32 → Int32 → Prop
  | 0 => fun _ _ _ _ => False
  | n + 1 => B_X5_barredBy_29 Z Q  (L_X5_barredBy_29 Z Q   n)
def B_X5_barredBy_0 (Z : ZZ) (Q : Int32 → MM → Prop)  (M : MM) (a0 : Nat) : Prop := (zK Z a0 = 5 ∧ (P_X5_findBlocksAndWays Z M a0  (fun M1 => (P_X5_lowestStranded Z M1 a0  (fun r5 M5 => (¬ r5 = (-1) → ((∃ y17_1, zR Z 14 a0 = some y17_1 ∧ (∃ y21_2, zR Z 13 a0 = some y21_2 ∧ (zK Z y17_1 = 1 ∧ (P_X1_copyFrom Z M5 y17_1 y21_2 (fun M24 => ∃ n, L_X5_barredBy_29 Z Q  n M24 a0 r5 0))))))) ∧ (r5 = (-1) → (Q (-1) M5)))))))
def P_X5_barredBy (Z : ZZ) (M : MM) (a0 : Nat) (Q : Int32 → MM → Prop) : Prop := B_X5_barredBy_0 Z Q M a0
def rm_X5_barredBy : Room := { frames := 6, cells := 0, slots := 0, locals := 141 }
/-! IceField.harvest()D -/
def B_X5_harvest_0 (Z : ZZ) (Q : UInt64 → MM → Prop)  (M : MM) (a0 : Nat) : Prop := (zK Z a0 = 5 ∧ (∃ y1_1, zR Z 13 a0 = some y1_1 ∧ (zK Z y1_1 = 1 ∧ (¬ (mI M 4 y1_1) = 0 → ((vf_n64 (FP.ddiv (FP.i2d (mI M 6 y1_1)) (FP.i2d (mI M 4 y1_1))) ∧ Q (FP.ddiv (FP.i2d (mI M 6 y1_1)) (FP.i2d (mI M 4 y1_1))) M))) ∧ ((mI M 4 y1_1) = 0 → (Q FP.dconst0 M)))))
def P_X5_harvest (Z : ZZ) (M : MM) (a0 : Nat) (Q : UInt64 → MM → Prop) : Prop := B_X5_harvest_0 Z Q M a0
def rm_X5_harvest : Room := { frames := 0, cells := 0, slots := 0, locals := 0 }
/-! IceField$Text.add(I)V -/
def B_X3_add_0 (Z : ZZ) (Q : MM → Prop)  (M : MM) (a0 : Nat) (v1 : Int32) : Prop := (zK Z a0 = 3 ∧ (∃ y1_1, zR Z 8 a0 = some y1_1 ∧ (zK Z y1_1 = 2 ∧ (P_X2_put Z M y1_1 (mI M 8 a0) v1 (fun M9 => Q (setI M9 8 a0 ((mI M9 8 a0) + 1)))))))
def P_X3_add (Z : ZZ) (M : MM) (a0 : Nat) (v1 : Int32) (Q : MM → Prop) : Prop := B_X3_add_0 Z Q M a0 v1
def rm_X3_add : Room := { frames := 1, cells := 0, slots := 0, locals := 22 }
/-! IceField.append(I)I -/
def B_X5_append_0 (Z : ZZ) (Q : Int32 → MM → Prop) (X : String → MM → Prop)  (M : MM) (a0 : Nat) (v1 : Int32) : Prop := (P_X5_isOutside Z M v1 0 127 (fun r4 M4 => (r4 = 0 → ((zK Z a0 = 5 ∧ (∃ y21_1, zR Z 16 a0 = some y21_1 ∧ (zK Z y21_1 = 3 ∧ ((mI M4 8 y21_1) < 60 → ((P_X3_add Z M4 y21_1 v1 (fun M47 => Q (mI M47 8 y21_1) M47)))) ∧ (¬ (mI M4 8 y21_1) < 60 → (X "java/lang/IllegalStateException" M4))))))) ∧ (¬ r4 = 0 → (X "java/lang/IllegalArgumentException" M4))))
def P_X5_append (Z : ZZ) (M : MM) (a0 : Nat) (v1 : Int32) (Q : Int32 → MM → Prop) (X : String → MM → Prop) : Prop := B_X5_append_0 Z Q X M a0 v1
def rm_X5_append : Room := { frames := 6, cells := 1, slots := 6, locals := 90 }
/-! IceField.clearText()I -/
def B_X5_clearText_0 (Z : ZZ) (Q : Int32 → MM → Prop)  (M : MM) (a0 : Nat) : Prop := (zK Z a0 = 5 ∧ (∃ y1_1, zR Z 16 a0 = some y1_1 ∧ (zK Z y1_1 = 3 ∧ Q (mI M 8 y1_1) (setI M 8 y1_1 0))))
def P_X5_clearText (Z : ZZ) (M : MM) (a0 : Nat) (Q : Int32 → MM → Prop) : Prop := B_X5_clearText_0 Z Q M a0
def rm_X5_clearText : Room := { frames := 0, cells := 0, slots := 0, locals := 0 }
/-! IceField$Text.isDigit(I)Z -/
def B_X3_isDigit_0 (Z : ZZ) (Q : Int32 → MM → Prop)  (M : MM) (v0 : Int32) : Prop := (v0 < 48 → (Q 0 M)) ∧ (¬ v0 < 48 → ((57 < v0 → (Q 0 M)) ∧ (¬ 57 < v0 → (Q 1 M))))
def P_X3_isDigit (Z : ZZ) (M : MM) (v0 : Int32) (Q : Int32 → MM → Prop) : Prop := B_X3_isDigit_0 Z Q M v0
def rm_X3_isDigit : Room := { frames := 0, cells := 0, slots := 0, locals := 0 }
/-! IceField$Text.mostDigits()I -/
def B_X3_mostDigits_0 (Z : ZZ) (Q : Int32 → MM → Prop)  (M : MM) (a0 : Nat) : Prop := (zK Z a0 = 3 ∧ (¬ (mI M 10 a0) = 1 → (Q (mI M 9 a0) M)) ∧ ((mI M 10 a0) = 1 → (Q 7 M)))
def P_X3_mostDigits (Z : ZZ) (M : MM) (a0 : Nat) (Q : Int32 → MM → Prop) : Prop := B_X3_mostDigits_0 Z Q M a0
def rm_X3_mostDigits : Room := { frames := 0, cells := 0, slots := 0, locals := 0 }
/-! IceField$Text.leastDigits()I -/
def B_X3_leastDigits_0 (Z : ZZ) (Q : Int32 → MM → Prop)  (M : MM) (a0 : Nat) : Prop := (zK Z a0 = 3 ∧ (¬ (mI M 10 a0) = 1 → (Q (mI M 9 a0) M)) ∧ ((mI M 10 a0) = 1 → (Q 2 M)))
def P_X3_leastDigits (Z : ZZ) (M : MM) (a0 : Nat) (Q : Int32 → MM → Prop) : Prop := B_X3_leastDigits_0 Z Q M a0
def rm_X3_leastDigits : Room := { frames := 0, cells := 0, slots := 0, locals := 0 }
/-! IceField$Text.read()I -/
def B_X3_read_56 (Z : ZZ) (Q : Int32 → MM → Prop) (K108 : MM → Nat → Int32 → Int32 → Prop) (M : MM) (a0 : Nat) (v1 : Int32) (v2 : Int32) : Prop := (zK Z a0 = 3 ∧ (∃ y57_1, zR Z 8 a0 = some y57_1 ∧ (zK Z y57_1 = 2 ∧ (P_X2_at Z M y57_1 v2 (fun r61 M61 => (¬ r61 = 47 → (Q v2 M61)) ∧ (r61 = 47 → ((P_X3_leastDigits Z M61 a0  (fun r71 M71 => (v1 < r71 → (Q v2 M71)) ∧ (¬ v1 < r71 → ((7 ≤ (mI M71 10 a0) → (Q v2 M71)) ∧ (¬ 7 ≤ (mI M71 10 a0) → (K108 (setI (setI M71 9 a0 v1) 10 a0 ((mI (setI M71 9 a0 v1) 10 a0) + 1)) a0 0 v2)))))))))))))
def B_X3_read_108 (Z : ZZ) (Q : Int32 → MM → Prop) (K14 : MM → Nat → Int32 → Int32 → Prop) (M : MM) (a0 : Nat) (v1 : Int32) (v2 : Int32) : Prop := K14 M a0 v1 (v2 + 1)
def B_X3_read_114 (Z : ZZ) (Q : Int32 → MM → Prop)  (M : MM) (a0 : Nat) (v1 : Int32) : Prop := (zK Z a0 = 3 ∧ ((mI M 10 a0) < 2 → (Q (mI M 8 a0) M)) ∧ (¬ (mI M 10 a0) < 2 → ((¬ v1 = (mI M 9 a0) → (Q (mI M 8 a0) M)) ∧ (v1 = (mI M 9 a0) → (Q (-1) M)))))
def B_X3_read_14 (Z : ZZ) (Q : Int32 → MM → Prop) (K14 : MM → Nat → Int32 → Int32 → Prop) (M : MM) (a0 : Nat) (v1 : Int32) (v2 : Int32) : Prop := (zK Z a0 = 3 ∧ ((mI M 8 a0) ≤ v2 → (B_X3_read_114 Z Q  M a0 v1)) ∧ (¬ (mI M 8 a0) ≤ v2 → ((60 ≤ v2 → (B_X3_read_114 Z Q  M a0 v1)) ∧ (¬ 60 ≤ v2 → ((∃ y29_1, zR Z 8 a0 = some y29_1 ∧ (zK Z y29_1 = 2 ∧ (P_X2_at Z M y29_1 v2 (fun r33 M33 => (P_X3_isDigit Z M33 r33 (fun r36 M36 => (r36 = 0 → (B_X3_read_56 Z Q (fun M1 a0 v1 v2 => B_X3_read_108 Z Q K14 M1 a0 v1 v2) M36 a0 v1 v2)) ∧ (¬ r36 = 0 → ((P_X3_mostDigits Z M36 a0  (fun r44 M44 => (r44 ≤ v1 → (B_X3_read_56 Z Q (fun M1 a0 v1 v2 => B_X3_read_108 Z Q K14 M1 a0 v1 v2) M44 a0 v1 v2)) ∧ (¬ r44 ≤ v1 → (B_X3_read_108 Z Q K14 M44 a0 (v1 + 1) v2)))))))))))))))))
def L_X3_read_14 (Z : ZZ) (Q : Int32 → MM → Prop)  : Nat → MM → Nat → Int32 → Int32 → Prop
  | 0 => fun _ _ _ _ => False
  | n + 1 => B_X3_read_14 Z Q  (L_X3_read_14 Z Q   n)
def B_X3_read_0 (Z : ZZ) (Q : Int32 → MM → Prop)  (M : MM) (a0 : Nat) : Prop := (zK Z a0 = 3 ∧ ∃ n, L_X3_read_14 Z Q  n (setI (setI M 9 a0 0) 10 a0 1) a0 0 0)
def P_X3_read (Z : ZZ) (M : MM) (a0 : Nat) (Q : Int32 → MM → Prop) : Prop := B_X3_read_0 Z Q M a0
def rm_X3_read : Room := { frames := 1, cells := 0, slots := 0, locals := 21 }
/-! IceField$Text.digitAt(II)I -/
def B_X3_digitAt_0 (Z : ZZ) (Q : Int32 → MM → Prop)  (M : MM) (a0 : Nat) (v1 : Int32) (v2 : Int32) : Prop := (zK Z a0 = 3 ∧ (∃ y1_1, zR Z 8 a0 = some y1_1 ∧ (zK Z y1_1 = 2 ∧ (P_X2_at Z M y1_1 ((v1 * ((mI M 9 a0) + 1)) + v2) (fun r14 M14 => Q (r14 - 48) M14)))))
def P_X3_digitAt (Z : ZZ) (M : MM) (a0 : Nat) (v1 : Int32) (v2 : Int32) (Q : Int32 → MM → Prop) : Prop := B_X3_digitAt_0 Z Q M a0 v1 v2
def rm_X3_digitAt : Room := { frames := 1, cells := 0, slots := 0, locals := 21 }
/-! IceField.parse()I -/
def B_X5_parse_45 (Z : ZZ) (Q : Int32 → MM → Prop) (K45 : MM → Nat → Int32 → Prop) (M : MM) (a0 : Nat) (v2 : Int32) : Prop := (zK Z a0 = 5 ∧ (∃ y47_1, zR Z 13 a0 = some y47_1 ∧ (zK Z y47_1 = 1 ∧ (P_X1_cellCount Z M y47_1  (fun r50 M50 => (r50 ≤ v2 → (Q (mI M50 4 y47_1) M50)) ∧ (¬ r50 ≤ v2 → ((∃ y62_3, zR Z 16 a0 = some y62_3 ∧ (P_X1_rowOf Z M50 y47_1 v2 (fun r70 M70 => (P_X1_columnOf Z M70 y47_1 v2 (fun r78 M78 => (zK Z y62_3 = 3 ∧ (P_X3_digitAt Z M78 y62_3 r70 r78 (fun r81 M81 => (P_X1_add Z M81 y47_1 v2 r81 (fun M84 => K45 M84 a0 (v2 + 1))))))))))))))))))
def L_X5_parse_45 (Z : ZZ) (Q : Int32 → MM → Prop)  : Nat → MM → Nat → Int32 → Prop
  | 0 => fun _ _ _ => False
  | n + 1 => B_X5_parse_45 Z Q  (L_X5_parse_45 Z Q   n)
def B_X5_parse_0 (Z : ZZ) (Q : Int32 → MM → Prop)  (M : MM) (a0 : Nat) : Prop := (zK Z a0 = 5 ∧ (∃ y1_1, zR Z 16 a0 = some y1_1 ∧ (zK Z y1_1 = 3 ∧ (P_X3_read Z M y1_1  (fun r4 M4 => (r4 = (-1) → ((P_X5_saveState Z M4 a0  (fun M19 => (∃ y23_3, zR Z 13 a0 = some y23_3 ∧ (zK Z y23_3 = 1 ∧ (P_X1_beginAnew Z M19 y23_3 (mI M19 9 y1_1) (mI M19 10 y1_1) (fun M40 => ∃ n, L_X5_parse_45 Z Q  n M40 a0 0)))))))) ∧ (¬ r4 = (-1) → (Q ((-10) - r4) M4)))))))
def P_X5_parse (Z : ZZ) (M : MM) (a0 : Nat) (Q : Int32 → MM → Prop) : Prop := B_X5_parse_0 Z Q M a0
def rm_X5_parse : Room := { frames := 4, cells := 0, slots := 0, locals := 85 }
/-! IceField.undo()I -/
def B_X5_undo_0 (Z : ZZ) (Q : Int32 → MM → Prop) (X : String → MM → Prop)  (M : MM) (a0 : Nat) : Prop := (zK Z a0 = 5 ∧ (0 < (mI M 13 a0) → ((P_X5_savedAt Z (setI (setI M 12 a0 ((((mI M 12 a0) + 4) - 1) - (((mI M 12 a0) + 4) - 1) / 4 * 4)) 13 a0 ((mI (setI M 12 a0 ((((mI M 12 a0) + 4) - 1) - (((mI M 12 a0) + 4) - 1) / 4 * 4)) 13 a0) - 1)) a0 (mI (setI (setI M 12 a0 ((((mI M 12 a0) + 4) - 1) - (((mI M 12 a0) + 4) - 1) / 4 * 4)) 13 a0 ((mI (setI M 12 a0 ((((mI M 12 a0) + 4) - 1) - (((mI M 12 a0) + 4) - 1) / 4 * 4)) 13 a0) - 1)) 12 a0) (fun r46 M46 => (r46 = none → (Q (mI M46 13 a0) M46)) ∧ (∀ y46_1, r46 = some y46_1 → ((∃ y55_2, zR Z 13 a0 = some y55_2 ∧ (zK Z y55_2 = 1 ∧ (P_X1_copyFrom Z M46 y55_2 y46_1 (fun M59 => Q (mI M59 13 a0) M59)))))))))) ∧ (¬ 0 < (mI M 13 a0) → (X "java/lang/IllegalStateException" M)))
def P_X5_undo (Z : ZZ) (M : MM) (a0 : Nat) (Q : Int32 → MM → Prop) (X : String → MM → Prop) : Prop := B_X5_undo_0 Z Q X M a0
def rm_X5_undo : Room := { frames := 6, cells := 1, slots := 6, locals := 90 }
/-! IceField.digest()J -/
def B_X5_digest_60 (Z : ZZ) (Q : Int64 → MM → Prop) (K46 : MM → Nat → Int64 → Int32 → Prop) (K60 : MM → Nat → Int64 → Int32 → Int32 → Prop) (M : MM) (a0 : Nat) (v1 : Int64) (v3 : Int32) (v4 : Int32) : Prop := (7 ≤ v4 → ((zK Z a0 = 5 ∧ (P_X5_blockFact Z M a0 v3 3 (fun r96 M96 => (P_X5_blockFact Z M96 a0 v3 4 (fun r110 M110 => K46 M110 a0 ((31 * ((31 * v1) + r96.toInt64)) + r110.toInt64) (v3 + 1)))))))) ∧ (¬ 7 ≤ v4 → ((zK Z a0 = 5 ∧ (P_X5_cellFact Z M a0 v3 v4 (fun r76 M76 => K60 M76 a0 ((31 * v1) + r76.toInt64) v3 (v4 + 1))))))
def L_X5_digest_60 (Z : ZZ) (Q : Int64 → MM → Prop) (K46 : MM → Nat → Int64 → Int32 → Prop) : Nat → MM → Nat → Int64 → Int32 → Int32 → Prop
  | 0 => fun _ _ _ _ _ => False
  | n + 1 => B_X5_digest_60 Z Q  K46 (L_X5_digest_60 Z Q  K46 n)
def B_X5_digest_138 (Z : ZZ) (Q : Int64 → MM → Prop) (K124 : MM → Nat → Int64 → Int32 → Prop) (K138 : MM → Nat → Int64 → Int32 → Int32 → Prop) (M : MM) (a0 : Nat) (v1 : Int64) (v3 : Int32) (v4 : Int32) : Prop := (3 ≤ v4 → (K124 M a0 v1 (v3 + 1))) ∧ (¬ 3 ≤ v4 → ((zK Z a0 = 5 ∧ (∃ y150_1, zR Z 13 a0 = some y150_1 ∧ (zK Z y150_1 = 1 ∧ (P_X1_keptFact Z M y150_1 v3 v4 (fun r156 M156 => K138 M156 a0 ((31 * v1) + r156.toInt64) v3 (v4 + 1))))))))
def L_X5_digest_138 (Z : ZZ) (Q : Int64 → MM → Prop) (K124 : MM → Nat → Int64 → Int32 → Prop) : Nat → MM → Nat → Int64 → Int32 → Int32 → Prop
  | 0 => fun _ _ _ _ _ => False
  | n + 1 => B_X5_digest_138 Z Q  K124 (L_X5_digest_138 Z Q  K124 n)
def B_X5_digest_124 (Z : ZZ) (Q : Int64 → MM → Prop) (K124 : MM → Nat → Int64 → Int32 → Prop) (M : MM) (a0 : Nat) (v1 : Int64) (v3 : Int32) : Prop := (zK Z a0 = 5 ∧ (∃ y126_1, zR Z 13 a0 = some y126_1 ∧ (zK Z y126_1 = 1 ∧ (P_X1_keptCount Z M y126_1  (fun r129 M129 => (r129 ≤ v3 → ((∃ y175_3, zR Z 14 a0 = some y175_3 ∧ (zK Z y175_3 = 1 ∧ (P_X1_copyFrom Z M129 y175_3 y126_1 (fun M182 => (P_X5_removeFloating Z M182 a0 y175_3 (fun r195 M195 => Q ((31 * ((31 * v1) + r195.toInt64)) + ((mI M195 13 a0).toInt64)) M195)))))))) ∧ (¬ r129 ≤ v3 → (∃ n, L_X5_digest_138 Z Q K124 n M129 a0 v1 v3 0)))))))
def L_X5_digest_124 (Z : ZZ) (Q : Int64 → MM → Prop)  : Nat → MM → Nat → Int64 → Int32 → Prop
  | 0 => fun _ _ _ _ => False
  | n + 1 => B_X5_digest_124 Z Q  (L_X5_digest_124 Z Q   n)
def B_X5_digest_46 (Z : ZZ) (Q : Int64 → MM → Prop) (K46 : MM → Nat → Int64 → Int32 → Prop) (M : MM) (a0 : Nat) (v1 : Int64) (v3 : Int32) : Prop := (zK Z a0 = 5 ∧ (∃ y48_1, zR Z 13 a0 = some y48_1 ∧ (zK Z y48_1 = 1 ∧ (P_X1_cellCount Z M y48_1  (fun r51 M51 => (r51 ≤ v3 → (∃ n, L_X5_digest_124 Z Q  n M51 a0 v1 0)) ∧ (¬ r51 ≤ v3 → (∃ n, L_X5_digest_60 Z Q K46 n M51 a0 v1 v3 0)))))))
def L_X5_digest_46 (Z : ZZ) (Q : Int64 → MM → Prop)  : Nat → MM → Nat → Int64 → Int32 → Prop
  | 0 => fun _ _ _ _ => False
  | n + 1 => B_X5_digest_46 Z Q  (L_X5_digest_46 Z Q   n)
def B_X5_digest_19 (Z : ZZ) (Q : Int64 → MM → Prop) (K19 : MM → Nat → Int64 → Int32 → Prop) (M : MM) (a0 : Nat) (v1 : Int64) (v3 : Int32) : Prop := (14 ≤ v3 → (∃ n, L_X5_digest_46 Z Q  n M a0 v1 0)) ∧ (¬ 14 ≤ v3 → ((zK Z a0 = 5 ∧ (P_X5_fieldFact Z M a0 v3 (fun r32 M32 => K19 M32 a0 ((31 * v1) + r32.toInt64) (v3 + 1))))))
def L_X5_digest_19 (Z : ZZ) (Q : Int64 → MM → Prop)  : Nat → MM → Nat → Int64 → Int32 → Prop
  | 0 => fun _ _ _ _ => False
  | n + 1 => B_X5_digest_19 Z Q  (L_X5_digest_19 Z Q   n)
def B_X5_digest_0 (Z : ZZ) (Q : Int64 → MM → Prop)  (M : MM) (a0 : Nat) : Prop := (zK Z a0 = 5 ∧ (∃ y4_1, zR Z 16 a0 = some y4_1 ∧ (zK Z y4_1 = 3 ∧ (P_X5_findBlocksAndWays Z M a0  (fun M14 => ∃ n, L_X5_digest_19 Z Q  n M14 a0 (110267 + ((mI M 8 y4_1).toInt64)) 0)))))
def P_X5_digest (Z : ZZ) (M : MM) (a0 : Nat) (Q : Int64 → MM → Prop) : Prop := B_X5_digest_0 Z Q M a0
def rm_X5_digest : Room := { frames := 6, cells := 0, slots := 0, locals := 144 }
/-! IceFieldModel.thrown()I -/
def B_X6_thrown_0 (Z : ZZ) (Q : Int32 → MM → Prop)  (M : MM) (a0 : Nat) : Prop := (zK Z a0 = 6 ∧ Q (mI M 15 a0) M)
def P_X6_thrown (Z : ZZ) (M : MM) (a0 : Nat) (Q : Int32 → MM → Prop) : Prop := B_X6_thrown_0 Z Q M a0
def rm_X6_thrown : Room := { frames := 0, cells := 0, slots := 0, locals := 0 }
/-! IceFieldModel.in(JJJ)Z -/
def B_X6_in_0 (Z : ZZ) (Q : Int32 → MM → Prop)  (M : MM) (v0 : Int64) (v2 : Int64) (v4 : Int64) : Prop := ((lg_cmp v0 v2) < 0 → (Q 0 M)) ∧ (¬ (lg_cmp v0 v2) < 0 → ((0 < (lg_cmp v0 v4) → (Q 0 M)) ∧ (¬ 0 < (lg_cmp v0 v4) → (Q 1 M))))
def P_X6_in (Z : ZZ) (M : MM) (v0 : Int64) (v2 : Int64) (v4 : Int64) (Q : Int32 → MM → Prop) : Prop := B_X6_in_0 Z Q M v0 v2 v4
def rm_X6_in : Room := { frames := 0, cells := 0, slots := 0, locals := 0 }
/-! IceFieldModel.fine(I)I -/
def B_X6_fine_0 (Z : ZZ) (Q : Int32 → MM → Prop)  (M : MM) (a0 : Nat) (v1 : Int32) : Prop := (zK Z a0 = 6 ∧ Q v1 (setI M 15 a0 0))
def P_X6_fine (Z : ZZ) (M : MM) (a0 : Nat) (v1 : Int32) (Q : Int32 → MM → Prop) : Prop := B_X6_fine_0 Z Q M a0 v1
def rm_X6_fine : Room := { frames := 0, cells := 0, slots := 0, locals := 0 }
/-! IceFieldModel.throwing(I)I -/
def B_X6_throwing_0 (Z : ZZ) (Q : Int32 → MM → Prop)  (M : MM) (a0 : Nat) (v1 : Int32) : Prop := (zK Z a0 = 6 ∧ Q 0 (setI M 15 a0 v1))
def P_X6_throwing (Z : ZZ) (M : MM) (a0 : Nat) (v1 : Int32) (Q : Int32 → MM → Prop) : Prop := B_X6_throwing_0 Z Q M a0 v1
def rm_X6_throwing : Room := { frames := 0, cells := 0, slots := 0, locals := 0 }
/-! IceFieldModel.save()V -/
def B_X6_save_10 (Z : ZZ) (Q : MM → Prop) (K10 : MM → Nat → Int32 → Prop) (K49 : MM → Nat → Prop) (M : MM) (a0 : Nat) (v1 : Int32) : Prop := (678 ≤ v1 → ((zK Z a0 = 6 ∧ K49 (setI M 14 a0 ((mI M 14 a0) - 1)) a0))) ∧ (¬ 678 ≤ v1 → ((zK Z a0 = 6 ∧ (∃ y18_2, zR Z 21 a0 = some y18_2 ∧ (zK Z y18_2 = 7 ∧ (vp_in (v1 + 226) (zN Z y18_2) ∧ (vp_in v1 (zN Z y18_2) ∧ K10 (setA M y18_2 (upd (mA M y18_2) v1.toNatClampNeg (mA M y18_2 (v1 + 226).toNatClampNeg))) a0 (v1 + 1))))))))
def L_X6_save_10 (Z : ZZ) (Q : MM → Prop) (K49 : MM → Nat → Prop) : Nat → MM → Nat → Int32 → Prop
  | 0 => fun _ _ _ => False
  | n + 1 => B_X6_save_10 Z Q  (L_X6_save_10 Z Q  K49 n) K49
def B_X6_save_51 (Z : ZZ) (Q : MM → Prop) (K51 : MM → Nat → Int32 → Prop) (M : MM) (a0 : Nat) (v1 : Int32) : Prop := (226 ≤ v1 → ((zK Z a0 = 6 ∧ Q (setI M 14 a0 ((mI M 14 a0) + 1))))) ∧ (¬ 226 ≤ v1 → ((zK Z a0 = 6 ∧ (∃ y59_2, zR Z 21 a0 = some y59_2 ∧ (∃ y73_3, zR Z 20 a0 = some y73_3 ∧ (zK Z y73_3 = 7 ∧ (vp_in v1 (zN Z y73_3) ∧ (zK Z y59_2 = 7 ∧ (vp_in ((226 * (mI M 14 a0)) + v1) (zN Z y59_2) ∧ K51 (setA M y59_2 (upd (mA M y59_2) ((226 * (mI M 14 a0)) + v1).toNatClampNeg (mA M y73_3 v1.toNatClampNeg))) a0 (v1 + 1))))))))))
def L_X6_save_51 (Z : ZZ) (Q : MM → Prop)  : Nat → MM → Nat → Int32 → Prop
  | 0 => fun _ _ _ => False
  | n + 1 => B_X6_save_51 Z Q  (L_X6_save_51 Z Q   n)
def B_X6_save_49 (Z : ZZ) (Q : MM → Prop)  (M : MM) (a0 : Nat) : Prop := ∃ n, L_X6_save_51 Z Q  n M a0 0
def B_X6_save_0 (Z : ZZ) (Q : MM → Prop)  (M : MM) (a0 : Nat) : Prop := (zK Z a0 = 6 ∧ (¬ (mI M 14 a0) = 4 → (B_X6_save_49 Z Q  M a0)) ∧ ((mI M 14 a0) = 4 → (∃ n, L_X6_save_10 Z Q (fun M1 a0 => B_X6_save_49 Z Q  M1 a0) n M a0 0)))
def P_X6_save (Z : ZZ) (M : MM) (a0 : Nat) (Q : MM → Prop) : Prop := B_X6_save_0 Z Q M a0
def rm_X6_save : Room := { frames := 0, cells := 0, slots := 0, locals := 0 }
/-! IceFieldModel.laysAside()V -/
def B_X6_laysAside_2 (Z : ZZ) (Q : MM → Prop) (K2 : MM → Nat → Int32 → Prop) (M : MM) (a0 : Nat) (v1 : Int32) : Prop := (226 ≤ v1 → (Q M)) ∧ (¬ 226 ≤ v1 → ((zK Z a0 = 6 ∧ (∃ y10_1, zR Z 22 a0 = some y10_1 ∧ (∃ y15_2, zR Z 20 a0 = some y15_2 ∧ (zK Z y15_2 = 7 ∧ (vp_in v1 (zN Z y15_2) ∧ (zK Z y10_1 = 7 ∧ (vp_in v1 (zN Z y10_1) ∧ K2 (setA M y10_1 (upd (mA M y10_1) v1.toNatClampNeg (mA M y15_2 v1.toNatClampNeg))) a0 (v1 + 1))))))))))
def L_X6_laysAside_2 (Z : ZZ) (Q : MM → Prop)  : Nat → MM → Nat → Int32 → Prop
  | 0 => fun _ _ _ => False
  | n + 1 => B_X6_laysAside_2 Z Q  (L_X6_laysAside_2 Z Q   n)
def B_X6_laysAside_0 (Z : ZZ) (Q : MM → Prop)  (M : MM) (a0 : Nat) : Prop := ∃ n, L_X6_laysAside_2 Z Q  n M a0 0
def P_X6_laysAside (Z : ZZ) (M : MM) (a0 : Nat) (Q : MM → Prop) : Prop := B_X6_laysAside_0 Z Q M a0
def rm_X6_laysAside : Room := { frames := 0, cells := 0, slots := 0, locals := 0 }
/-! IceFieldModel.takesBack()V -/
def B_X6_takesBack_2 (Z : ZZ) (Q : MM → Prop) (K2 : MM → Nat → Int32 → Prop) (M : MM) (a0 : Nat) (v1 : Int32) : Prop := (226 ≤ v1 → (Q M)) ∧ (¬ 226 ≤ v1 → ((zK Z a0 = 6 ∧ (∃ y10_1, zR Z 20 a0 = some y10_1 ∧ (∃ y15_2, zR Z 22 a0 = some y15_2 ∧ (zK Z y15_2 = 7 ∧ (vp_in v1 (zN Z y15_2) ∧ (zK Z y10_1 = 7 ∧ (vp_in v1 (zN Z y10_1) ∧ K2 (setA M y10_1 (upd (mA M y10_1) v1.toNatClampNeg (mA M y15_2 v1.toNatClampNeg))) a0 (v1 + 1))))))))))
def L_X6_takesBack_2 (Z : ZZ) (Q : MM → Prop)  : Nat → MM → Nat → Int32 → Prop
  | 0 => fun _ _ _ => False
  | n + 1 => B_X6_takesBack_2 Z Q  (L_X6_takesBack_2 Z Q   n)
def B_X6_takesBack_0 (Z : ZZ) (Q : MM → Prop)  (M : MM) (a0 : Nat) : Prop := ∃ n, L_X6_takesBack_2 Z Q  n M a0 0
def P_X6_takesBack (Z : ZZ) (M : MM) (a0 : Nat) (Q : MM → Prop) : Prop := B_X6_takesBack_0 Z Q M a0
def rm_X6_takesBack : Room := { frames := 0, cells := 0, slots := 0, locals := 0 }
/-! IceFieldModel.makes(II)V -/
def B_X6_makes_10 (Z : ZZ) (Q : MM → Prop) (K10 : MM → Nat → Int32 → Int32 → Int32 → Int32 → Prop) (M : MM) (a0 : Nat) (v1 : Int32) (v2 : Int32) (v3 : Int32) (v4 : Int32) : Prop := (226 ≤ v4 → ((zK Z a0 = 6 ∧ (∃ y33_1, zR Z 20 a0 = some y33_1 ∧ (zK Z y33_1 = 7 ∧ (vp_in 2 (zN Z y33_1) ∧ (vp_in 0 (zN Z y33_1) ∧ (vp_in 1 (zN Z y33_1) ∧ Q (setA (setA (setA M y33_1 (upd (mA M y33_1) (2 : Int32).toNatClampNeg v3)) y33_1 (upd (mA (setA M y33_1 (upd (mA M y33_1) (2 : Int32).toNatClampNeg v3)) y33_1) (0 : Int32).toNatClampNeg v1)) y33_1 (upd (mA (setA (setA M y33_1 (upd (mA M y33_1) (2 : Int32).toNatClampNeg v3)) y33_1 (upd (mA (setA M y33_1 (upd (mA M y33_1) (2 : Int32).toNatClampNeg v3)) y33_1) (0 : Int32).toNatClampNeg v1)) y33_1) (1 : Int32).toNatClampNeg v2)))))))))) ∧ (¬ 226 ≤ v4 → ((zK Z a0 = 6 ∧ (∃ y19_4, zR Z 20 a0 = some y19_4 ∧ (zK Z y19_4 = 7 ∧ (vp_in v4 (zN Z y19_4) ∧ K10 (setA M y19_4 (upd (mA M y19_4) v4.toNatClampNeg 0)) a0 v1 v2 v3 (v4 + 1)))))))
def L_X6_makes_10 (Z : ZZ) (Q : MM → Prop)  : Nat → MM → Nat → Int32 → Int32 → Int32 → Int32 → Prop
  | 0 => fun _ _ _ _ _ _ => False
  | n + 1 => B_X6_makes_10 Z Q  (L_X6_makes_10 Z Q   n)
def B_X6_makes_0 (Z : ZZ) (Q : MM → Prop)  (M : MM) (a0 : Nat) (v1 : Int32) (v2 : Int32) : Prop := (zK Z a0 = 6 ∧ (∃ y1_1, zR Z 20 a0 = some y1_1 ∧ (zK Z y1_1 = 7 ∧ (vp_in 2 (zN Z y1_1) ∧ ∃ n, L_X6_makes_10 Z Q  n M a0 v1 v2 (mA M y1_1 (2 : Int32).toNatClampNeg) 0))))
def P_X6_makes (Z : ZZ) (M : MM) (a0 : Nat) (v1 : Int32) (v2 : Int32) (Q : MM → Prop) : Prop := B_X6_makes_0 Z Q M a0 v1 v2
def rm_X6_makes : Room := { frames := 0, cells := 0, slots := 0, locals := 0 }
/-! IceFieldModel.puts(II)V -/
def B_X6_puts_0 (Z : ZZ) (Q : MM → Prop)  (M : MM) (a0 : Nat) (v1 : Int32) (v2 : Int32) : Prop := (zK Z a0 = 6 ∧ (∃ y1_1, zR Z 20 a0 = some y1_1 ∧ (zK Z y1_1 = 7 ∧ (vp_in (8 + v1) (zN Z y1_1) ∧ (vp_in (8 + v1) (zN Z y1_1) ∧ (vp_in 4 (zN Z y1_1) ∧ (vp_in 4 (zN Z y1_1) ∧ Q (setA (setA M y1_1 (upd (mA M y1_1) (8 + v1).toNatClampNeg ((mA M y1_1 (8 + v1).toNatClampNeg) + v2))) y1_1 (upd (mA (setA M y1_1 (upd (mA M y1_1) (8 + v1).toNatClampNeg ((mA M y1_1 (8 + v1).toNatClampNeg) + v2))) y1_1) (4 : Int32).toNatClampNeg ((mA (setA M y1_1 (upd (mA M y1_1) (8 + v1).toNatClampNeg ((mA M y1_1 (8 + v1).toNatClampNeg) + v2))) y1_1 (4 : Int32).toNatClampNeg) + v2))))))))))
def P_X6_puts (Z : ZZ) (M : MM) (a0 : Nat) (v1 : Int32) (v2 : Int32) (Q : MM → Prop) : Prop := B_X6_puts_0 Z Q M a0 v1 v2
def rm_X6_puts : Room := { frames := 0, cells := 0, slots := 0, locals := 0 }
/-! IceFieldModel.cells()I -/
def B_X6_cells_0 (Z : ZZ) (Q : Int32 → MM → Prop)  (M : MM) (a0 : Nat) : Prop := (zK Z a0 = 6 ∧ (∃ y1_1, zR Z 20 a0 = some y1_1 ∧ (zK Z y1_1 = 7 ∧ (vp_in 0 (zN Z y1_1) ∧ (vp_in 1 (zN Z y1_1) ∧ Q ((mA M y1_1 (0 : Int32).toNatClampNeg) * (mA M y1_1 (1 : Int32).toNatClampNeg)) M)))))
def P_X6_cells (Z : ZZ) (M : MM) (a0 : Nat) (Q : Int32 → MM → Prop) : Prop := B_X6_cells_0 Z Q M a0
def rm_X6_cells : Room := { frames := 0, cells := 0, slots := 0, locals := 0 }
/-! IceFieldModel.isCell(I)Z -/
def B_X6_isCell_0 (Z : ZZ) (Q : Int32 → MM → Prop)  (M : MM) (a0 : Nat) (v1 : Int32) : Prop := (zK Z a0 = 6 ∧ (P_X6_cells Z M a0  (fun r4 M4 => (P_X6_in Z M4 v1.toInt64 0 (r4.toInt64 - 1) (fun r10 M10 => (zb r10 ∧ Q r10 M10))))))
def P_X6_isCell (Z : ZZ) (M : MM) (a0 : Nat) (v1 : Int32) (Q : Int32 → MM → Prop) : Prop := B_X6_isCell_0 Z Q M a0 v1
def rm_X6_isCell : Room := { frames := 1, cells := 0, slots := 0, locals := 25 }
/-! IceFieldModel.row(I)I -/
def B_X6_row_0 (Z : ZZ) (Q : Int32 → MM → Prop)  (M : MM) (a0 : Nat) (v1 : Int32) : Prop := (zK Z a0 = 6 ∧ (∃ y2_1, zR Z 20 a0 = some y2_1 ∧ (zK Z y2_1 = 7 ∧ (vp_in 0 (zN Z y2_1) ∧ (¬ (mA M y2_1 (0 : Int32).toNatClampNeg) = 0 ∧ Q (v1 / (mA M y2_1 (0 : Int32).toNatClampNeg)) M)))))
def P_X6_row (Z : ZZ) (M : MM) (a0 : Nat) (v1 : Int32) (Q : Int32 → MM → Prop) : Prop := B_X6_row_0 Z Q M a0 v1
def rm_X6_row : Room := { frames := 0, cells := 0, slots := 0, locals := 0 }
/-! IceFieldModel.column(I)I -/
def B_X6_column_0 (Z : ZZ) (Q : Int32 → MM → Prop)  (M : MM) (a0 : Nat) (v1 : Int32) : Prop := (zK Z a0 = 6 ∧ (∃ y2_1, zR Z 20 a0 = some y2_1 ∧ (zK Z y2_1 = 7 ∧ (vp_in 0 (zN Z y2_1) ∧ (¬ (mA M y2_1 (0 : Int32).toNatClampNeg) = 0 ∧ Q (v1 - v1 / (mA M y2_1 (0 : Int32).toNatClampNeg) * (mA M y2_1 (0 : Int32).toNatClampNeg)) M)))))
def P_X6_column (Z : ZZ) (M : MM) (a0 : Nat) (v1 : Int32) (Q : Int32 → MM → Prop) : Prop := B_X6_column_0 Z Q M a0 v1
def rm_X6_column : Room := { frames := 0, cells := 0, slots := 0, locals := 0 }
/-! IceFieldModel.isIce(I)Z -/
def B_X6_isIce_0 (Z : ZZ) (Q : Int32 → MM → Prop)  (M : MM) (a0 : Nat) (v1 : Int32) : Prop := (zK Z a0 = 6 ∧ (∃ y1_1, zR Z 20 a0 = some y1_1 ∧ (zK Z y1_1 = 7 ∧ (vp_in (8 + v1) (zN Z y1_1) ∧ ((mA M y1_1 (8 + v1).toNatClampNeg) ≤ 0 → (Q 0 M)) ∧ (¬ (mA M y1_1 (8 + v1).toNatClampNeg) ≤ 0 → (Q 1 M))))))
def P_X6_isIce (Z : ZZ) (M : MM) (a0 : Nat) (v1 : Int32) (Q : Int32 → MM → Prop) : Prop := B_X6_isIce_0 Z Q M a0 v1
def rm_X6_isIce : Room := { frames := 0, cells := 0, slots := 0, locals := 0 }
/-! IceFieldModel.make(III)I -/
def B_X6_make_40 (Z : ZZ) (Q : Int32 → MM → Prop)  (M : MM) (a0 : Nat) : Prop := (zK Z a0 = 6 ∧ (P_X6_throwing Z M a0 1 (fun r42 M42 => Q r42 M42)))
def B_X6_make_59 (Z : ZZ) (Q : Int32 → MM → Prop) (K59 : MM → Nat → Int32 → Int32 → Int32 → Int32 → Prop) (M : MM) (a0 : Nat) (v1 : Int32) (v2 : Int32) (v3 : Int32) (v4 : Int32) : Prop := ((v1 * v2) ≤ v4 → ((zK Z a0 = 6 ∧ (∃ y82_1, zR Z 20 a0 = some y82_1 ∧ (zK Z y82_1 = 7 ∧ (vp_in 4 (zN Z y82_1) ∧ (P_X6_fine Z M a0 (mA M y82_1 (4 : Int32).toNatClampNeg) (fun r87 M87 => Q r87 M87)))))))) ∧ (¬ (v1 * v2) ≤ v4 → ((zK Z a0 = 6 ∧ (P_X6_puts Z M a0 v4 v3 (fun M71 => K59 M71 a0 v1 v2 v3 (v4 + 1))))))
def L_X6_make_59 (Z : ZZ) (Q : Int32 → MM → Prop)  : Nat → MM → Nat → Int32 → Int32 → Int32 → Int32 → Prop
  | 0 => fun _ _ _ _ _ _ => False
  | n + 1 => B_X6_make_59 Z Q  (L_X6_make_59 Z Q   n)
def B_X6_make_0 (Z : ZZ) (Q : Int32 → MM → Prop)  (M : MM) (a0 : Nat) (v1 : Int32) (v2 : Int32) (v3 : Int32) : Prop := (P_X6_in Z M v1.toInt64 2 7 (fun r8 M8 => (r8 = 0 → (B_X6_make_40 Z Q  M8 a0)) ∧ (¬ r8 = 0 → ((P_X6_in Z M8 v2.toInt64 2 7 (fun r22 M22 => (r22 = 0 → (B_X6_make_40 Z Q  M22 a0)) ∧ (¬ r22 = 0 → ((P_X6_in Z M22 v3.toInt64 0 50 (fun r34 M34 => (¬ r34 = 0 → ((zK Z a0 = 6 ∧ (P_X6_save Z M34 a0  (fun M47 => (P_X6_makes Z M47 a0 v1 v2 (fun M53 => ∃ n, L_X6_make_59 Z Q  n M53 a0 v1 v2 v3 0))))))) ∧ (r34 = 0 → (B_X6_make_40 Z Q  M34 a0))))))))))))
def P_X6_make (Z : ZZ) (M : MM) (a0 : Nat) (v1 : Int32) (v2 : Int32) (v3 : Int32) (Q : Int32 → MM → Prop) : Prop := B_X6_make_0 Z Q M a0 v1 v2 v3
def rm_X6_make : Room := { frames := 1, cells := 0, slots := 0, locals := 25 }
/-! IceFieldModel.lay(II)I -/
def B_X6_lay_0 (Z : ZZ) (Q : Int32 → MM → Prop)  (M : MM) (a0 : Nat) (v1 : Int32) (v2 : Int32) : Prop := (zK Z a0 = 6 ∧ (P_X6_isCell Z M a0 v1 (fun r2 M2 => (¬ r2 = 0 → ((P_X6_in Z M2 v2.toInt64 1 50 (fun r20 M20 => (¬ r20 = 0 → ((∃ y33_1, zR Z 20 a0 = some y33_1 ∧ (zK Z y33_1 = 7 ∧ (vp_in (8 + v1) (zN Z y33_1) ∧ (((mA M20 y33_1 (8 + v1).toNatClampNeg) + v2) ≤ 50 → ((P_X6_save Z M20 a0  (fun M55 => (P_X6_puts Z M55 a0 v1 v2 (fun M61 => (vp_in (8 + v1) (zN Z y33_1) ∧ (P_X6_fine Z M61 a0 (mA M61 y33_1 (8 + v1).toNatClampNeg) (fun r74 M74 => Q r74 M74))))))))) ∧ (¬ ((mA M20 y33_1 (8 + v1).toNatClampNeg) + v2) ≤ 50 → ((P_X6_throwing Z M20 a0 3 (fun r50 M50 => Q r50 M50))))))))) ∧ (r20 = 0 → ((P_X6_throwing Z M20 a0 2 (fun r28 M28 => Q r28 M28)))))))) ∧ (r2 = 0 → ((P_X6_throwing Z M2 a0 1 (fun r10 M10 => Q r10 M10)))))))
def P_X6_lay (Z : ZZ) (M : MM) (a0 : Nat) (v1 : Int32) (v2 : Int32) (Q : Int32 → MM → Prop) : Prop := B_X6_lay_0 Z Q M a0 v1 v2
def rm_X6_lay : Room := { frames := 2, cells := 0, slots := 0, locals := 46 }
/-! IceFieldModel.canSaw(II)Z -/
def B_X6_canSaw_0 (Z : ZZ) (Q : Int32 → MM → Prop)  (M : MM) (a0 : Nat) (v1 : Int32) (v2 : Int32) : Prop := (v2 = 0 → ((zK Z a0 = 6 ∧ (P_X6_column Z M a0 v1 (fun r34 M34 => (∃ y38_1, zR Z 20 a0 = some y38_1 ∧ (zK Z y38_1 = 7 ∧ (vp_in 0 (zN Z y38_1) ∧ (((mA M34 y38_1 (0 : Int32).toNatClampNeg) - 1) ≤ r34 → (Q 0 M34)) ∧ (¬ ((mA M34 y38_1 (0 : Int32).toNatClampNeg) - 1) ≤ r34 → (Q 1 M34)))))))))) ∧ (¬ v2 = 0 → (v2 = 1 → ((zK Z a0 = 6 ∧ (P_X6_row Z M a0 v1 (fun r56 M56 => (∃ y60_4, zR Z 20 a0 = some y60_4 ∧ (zK Z y60_4 = 7 ∧ (vp_in 1 (zN Z y60_4) ∧ (((mA M56 y60_4 (1 : Int32).toNatClampNeg) - 1) ≤ r56 → (Q 0 M56)) ∧ (¬ ((mA M56 y60_4 (1 : Int32).toNatClampNeg) - 1) ≤ r56 → (Q 1 M56)))))))))) ∧ (¬ v2 = 1 → (v2 = 2 → (Q 1 M)) ∧ (¬ v2 = 2 → (v2 = 3 → ((zK Z a0 = 6 ∧ (P_X6_column Z M a0 v1 (fun r78 M78 => (r78 ≤ 0 → (Q 0 M78)) ∧ (¬ r78 ≤ 0 → (Q 1 M78))))))) ∧ (¬ v2 = 3 → (Q 1 M)))))
def P_X6_canSaw (Z : ZZ) (M : MM) (a0 : Nat) (v1 : Int32) (v2 : Int32) (Q : Int32 → MM → Prop) : Prop := B_X6_canSaw_0 Z Q M a0 v1 v2
def rm_X6_canSaw : Room := { frames := 1, cells := 0, slots := 0, locals := 21 }
/-! IceFieldModel.keeper(II)I -/
def B_X6_keeper_0 (Z : ZZ) (Q : Int32 → MM → Prop)  (M : MM) (a0 : Nat) (v1 : Int32) (v2 : Int32) : Prop := (¬ v2 = 3 → ((¬ v2 = 2 → (Q v1 M)) ∧ (v2 = 2 → ((zK Z a0 = 6 ∧ (P_X6_row Z M a0 v1 (fun r18 M18 => (r18 ≤ 0 → (Q v1 M18)) ∧ (¬ r18 ≤ 0 → ((∃ y26_1, zR Z 20 a0 = some y26_1 ∧ (zK Z y26_1 = 7 ∧ (vp_in 0 (zN Z y26_1) ∧ Q (v1 - (mA M18 y26_1 (0 : Int32).toNatClampNeg)) M18)))))))))))) ∧ (v2 = 3 → (Q (v1 - 1) M))
def P_X6_keeper (Z : ZZ) (M : MM) (a0 : Nat) (v1 : Int32) (v2 : Int32) (Q : Int32 → MM → Prop) : Prop := B_X6_keeper_0 Z Q M a0 v1 v2
def rm_X6_keeper : Room := { frames := 1, cells := 0, slots := 0, locals := 21 }
/-! IceFieldModel.bit(II)I -/
def B_X6_bit_0 (Z : ZZ) (Q : Int32 → MM → Prop)  (M : MM) (a0 : Nat) (v1 : Int32) (v2 : Int32) : Prop := (v2 = 0 → (Q 1 M)) ∧ (¬ v2 = 0 → ((¬ v2 = 3 → ((v2 = 1 → (Q 2 M)) ∧ (¬ v2 = 1 → ((zK Z a0 = 6 ∧ (P_X6_row Z M a0 v1 (fun r20 M20 => (r20 ≤ 0 → (Q 4 M20)) ∧ (¬ r20 ≤ 0 → (Q 2 M20))))))))) ∧ (v2 = 3 → (Q 1 M))))
def P_X6_bit (Z : ZZ) (M : MM) (a0 : Nat) (v1 : Int32) (v2 : Int32) (Q : Int32 → MM → Prop) : Prop := B_X6_bit_0 Z Q M a0 v1 v2
def rm_X6_bit : Room := { frames := 1, cells := 0, slots := 0, locals := 21 }
/-! IceFieldModel.isCut(II)Z -/
def B_X6_isCut_0 (Z : ZZ) (Q : Int32 → MM → Prop)  (M : MM) (a0 : Nat) (v1 : Int32) (v2 : Int32) : Prop := (zK Z a0 = 6 ∧ (P_X6_canSaw Z M a0 v1 v2 (fun r3 M3 => (r3 = 0 → (Q 0 M3)) ∧ (¬ r3 = 0 → ((∃ y10_1, zR Z 20 a0 = some y10_1 ∧ (P_X6_keeper Z M3 a0 v1 v2 (fun r18 M18 => (zK Z y10_1 = 7 ∧ (vp_in (57 + r18) (zN Z y10_1) ∧ (P_X6_bit Z M18 a0 v1 v2 (fun r26 M26 => (((mA M18 y10_1 (57 + r18).toNatClampNeg) &&& r26) = 0 → (Q 0 M26)) ∧ (¬ ((mA M18 y10_1 (57 + r18).toNatClampNeg) &&& r26) = 0 → (Q 1 M26))))))))))))))
def P_X6_isCut (Z : ZZ) (M : MM) (a0 : Nat) (v1 : Int32) (v2 : Int32) (Q : Int32 → MM → Prop) : Prop := B_X6_isCut_0 Z Q M a0 v1 v2
def rm_X6_isCut : Room := { frames := 2, cells := 0, slots := 0, locals := 43 }
/-! IceFieldModel.saws(II)I -/
def B_X6_saws_0 (Z : ZZ) (Q : Int32 → MM → Prop)  (M : MM) (a0 : Nat) (v1 : Int32) (v2 : Int32) : Prop := (zK Z a0 = 6 ∧ (P_X6_canSaw Z M a0 v1 v2 (fun r3 M3 => (r3 = 0 → (Q 0 M3)) ∧ (¬ r3 = 0 → ((P_X6_isCut Z M3 a0 v1 v2 (fun r12 M12 => (r12 = 0 → ((∃ y21_1, zR Z 20 a0 = some y21_1 ∧ (P_X6_keeper Z M12 a0 v1 v2 (fun r29 M29 => (zK Z y21_1 = 7 ∧ (vp_in (57 + r29) (zN Z y21_1) ∧ (P_X6_bit Z M29 a0 v1 v2 (fun r38 M38 => (vp_in (57 + r29) (zN Z y21_1) ∧ Q 1 (setA M38 y21_1 (upd (mA M38 y21_1) (57 + r29).toNatClampNeg ((mA M29 y21_1 (57 + r29).toNatClampNeg) ||| r38))))))))))))) ∧ (¬ r12 = 0 → (Q 0 M12)))))))))
def P_X6_saws (Z : ZZ) (M : MM) (a0 : Nat) (v1 : Int32) (v2 : Int32) (Q : Int32 → MM → Prop) : Prop := B_X6_saws_0 Z Q M a0 v1 v2
def rm_X6_saws : Room := { frames := 3, cells := 0, slots := 0, locals := 65 }
/-! IceFieldModel.saw(II)I -/
def B_X6_saw_0 (Z : ZZ) (Q : Int32 → MM → Prop)  (M : MM) (a0 : Nat) (v1 : Int32) (v2 : Int32) : Prop := (zK Z a0 = 6 ∧ (P_X6_isCell Z M a0 v1 (fun r2 M2 => (¬ r2 = 0 → ((P_X6_in Z M2 v2.toInt64 0 3 (fun r20 M20 => (¬ r20 = 0 → ((P_X6_canSaw Z M20 a0 v1 v2 (fun r35 M35 => (¬ r35 = 0 → ((P_X6_save Z M35 a0  (fun M48 => (P_X6_saws Z M48 a0 v1 v2 (fun r55 M55 => (P_X6_fine Z M55 a0 r55 (fun r58 M58 => Q r58 M58)))))))) ∧ (r35 = 0 → ((P_X6_throwing Z M35 a0 3 (fun r43 M43 => Q r43 M43)))))))) ∧ (r20 = 0 → ((P_X6_throwing Z M20 a0 2 (fun r28 M28 => Q r28 M28)))))))) ∧ (r2 = 0 → ((P_X6_throwing Z M2 a0 1 (fun r10 M10 => Q r10 M10)))))))
def P_X6_saw (Z : ZZ) (M : MM) (a0 : Nat) (v1 : Int32) (v2 : Int32) (Q : Int32 → MM → Prop) : Prop := B_X6_saw_0 Z Q M a0 v1 v2
def rm_X6_saw : Room := { frames := 4, cells := 0, slots := 0, locals := 87 }
/-! IceFieldModel.isRectangle(III)Z -/
def B_X6_isRectangle_0 (Z : ZZ) (Q : Int32 → MM → Prop)  (M : MM) (a0 : Nat) (v1 : Int32) (v2 : Int32) (v3 : Int32) : Prop := (P_X6_in Z M v2.toInt64 1 7 (fun r6 M6 => (r6 = 0 → (Q 0 M6)) ∧ (¬ r6 = 0 → ((P_X6_in Z M6 v3.toInt64 1 7 (fun r18 M18 => (r18 = 0 → (Q 0 M18)) ∧ (¬ r18 = 0 → ((zK Z a0 = 6 ∧ (P_X6_column Z M18 a0 v1 (fun r26 M26 => (∃ y32_1, zR Z 20 a0 = some y32_1 ∧ (zK Z y32_1 = 7 ∧ (vp_in 0 (zN Z y32_1) ∧ ((mA M26 y32_1 (0 : Int32).toNatClampNeg) < (r26 + v2) → (Q 0 M26)) ∧ (¬ (mA M26 y32_1 (0 : Int32).toNatClampNeg) < (r26 + v2) → ((P_X6_row Z M26 a0 v1 (fun r42 M42 => (vp_in 1 (zN Z y32_1) ∧ ((mA M42 y32_1 (1 : Int32).toNatClampNeg) < (r42 + v3) → (Q 0 M42)) ∧ (¬ (mA M42 y32_1 (1 : Int32).toNatClampNeg) < (r42 + v3) → (Q 1 M42)))))))))))))))))))))
def P_X6_isRectangle (Z : ZZ) (M : MM) (a0 : Nat) (v1 : Int32) (v2 : Int32) (v3 : Int32) (Q : Int32 → MM → Prop) : Prop := B_X6_isRectangle_0 Z Q M a0 v1 v2 v3
def rm_X6_isRectangle : Room := { frames := 1, cells := 0, slots := 0, locals := 25 }
/-! IceFieldModel.sawsAround(III)I -/
def B_X6_sawsAround_60 (Z : ZZ) (Q : Int32 → MM → Prop) (K60 : MM → Nat → Int32 → Int32 → Int32 → Int32 → Int32 → Prop) (M : MM) (a0 : Nat) (v1 : Int32) (v2 : Int32) (v3 : Int32) (v4 : Int32) (v5 : Int32) : Prop := (v3 ≤ v5 → (Q v4 M)) ∧ (¬ v3 ≤ v5 → ((zK Z a0 = 6 ∧ (∃ y73_1, zR Z 20 a0 = some y73_1 ∧ (zK Z y73_1 = 7 ∧ (vp_in 0 (zN Z y73_1) ∧ (P_X6_saws Z M a0 (v1 + (v5 * (mA M y73_1 (0 : Int32).toNatClampNeg))) 3 (fun r81 M81 => (vp_in 0 (zN Z y73_1) ∧ (P_X6_saws Z M81 a0 (((v1 + (v5 * (mA M81 y73_1 (0 : Int32).toNatClampNeg))) + v2) - 1) 0 (fun r106 M106 => K60 M106 a0 v1 v2 v3 ((v4 + r81) + r106) (v5 + 1))))))))))))
def L_X6_sawsAround_60 (Z : ZZ) (Q : Int32 → MM → Prop)  : Nat → MM → Nat → Int32 → Int32 → Int32 → Int32 → Int32 → Prop
  | 0 => fun _ _ _ _ _ _ _ => False
  | n + 1 => B_X6_sawsAround_60 Z Q  (L_X6_sawsAround_60 Z Q   n)
def B_X6_sawsAround_6 (Z : ZZ) (Q : Int32 → MM → Prop) (K6 : MM → Nat → Int32 → Int32 → Int32 → Int32 → Int32 → Prop) (M : MM) (a0 : Nat) (v1 : Int32) (v2 : Int32) (v3 : Int32) (v4 : Int32) (v5 : Int32) : Prop := (v2 ≤ v5 → (∃ n, L_X6_sawsAround_60 Z Q  n M a0 v1 v2 v3 v4 0)) ∧ (¬ v2 ≤ v5 → ((zK Z a0 = 6 ∧ (P_X6_saws Z M a0 (v1 + v5) 2 (fun r20 M20 => (∃ y37_1, zR Z 20 a0 = some y37_1 ∧ (zK Z y37_1 = 7 ∧ (vp_in 0 (zN Z y37_1) ∧ (P_X6_saws Z M20 a0 ((v1 + v5) + ((v3 - 1) * (mA M20 y37_1 (0 : Int32).toNatClampNeg))) 1 (fun r45 M45 => K6 M45 a0 v1 v2 v3 ((v4 + r20) + r45) (v5 + 1)))))))))))
def L_X6_sawsAround_6 (Z : ZZ) (Q : Int32 → MM → Prop)  : Nat → MM → Nat → Int32 → Int32 → Int32 → Int32 → Int32 → Prop
  | 0 => fun _ _ _ _ _ _ _ => False
  | n + 1 => B_X6_sawsAround_6 Z Q  (L_X6_sawsAround_6 Z Q   n)
def B_X6_sawsAround_0 (Z : ZZ) (Q : Int32 → MM → Prop)  (M : MM) (a0 : Nat) (v1 : Int32) (v2 : Int32) (v3 : Int32) : Prop := ∃ n, L_X6_sawsAround_6 Z Q  n M a0 v1 v2 v3 0 0
def P_X6_sawsAround (Z : ZZ) (M : MM) (a0 : Nat) (v1 : Int32) (v2 : Int32) (v3 : Int32) (Q : Int32 → MM → Prop) : Prop := B_X6_sawsAround_0 Z Q M a0 v1 v2 v3
def rm_X6_sawsAround : Room := { frames := 4, cells := 0, slots := 0, locals := 87 }
/-! IceFieldModel.sawAround(III)I -/
def B_X6_sawAround_0 (Z : ZZ) (Q : Int32 → MM → Prop)  (M : MM) (a0 : Nat) (v1 : Int32) (v2 : Int32) (v3 : Int32) : Prop := (zK Z a0 = 6 ∧ (P_X6_isCell Z M a0 v1 (fun r2 M2 => (¬ r2 = 0 → ((P_X6_isRectangle Z M2 a0 v1 v2 v3 (fun r18 M18 => (¬ r18 = 0 → ((P_X6_save Z M18 a0  (fun M31 => (P_X6_sawsAround Z M31 a0 v1 v2 v3 (fun r39 M39 => (P_X6_fine Z M39 a0 r39 (fun r42 M42 => Q r42 M42)))))))) ∧ (r18 = 0 → ((P_X6_throwing Z M18 a0 2 (fun r26 M26 => Q r26 M26)))))))) ∧ (r2 = 0 → ((P_X6_throwing Z M2 a0 1 (fun r10 M10 => Q r10 M10)))))))
def P_X6_sawAround (Z : ZZ) (M : MM) (a0 : Nat) (v1 : Int32) (v2 : Int32) (v3 : Int32) (Q : Int32 → MM → Prop) : Prop := B_X6_sawAround_0 Z Q M a0 v1 v2 v3
def rm_X6_sawAround : Room := { frames := 5, cells := 0, slots := 0, locals := 112 }
/-! IceFieldModel.cutsAround(III)I -/
def B_X6_cutsAround_0 (Z : ZZ) (Q : Int32 → MM → Prop)  (M : MM) (a0 : Nat) (v1 : Int32) (v2 : Int32) (v3 : Int32) : Prop := (zK Z a0 = 6 ∧ (P_X6_isCell Z M a0 v1 (fun r2 M2 => (¬ r2 = 0 → ((P_X6_isRectangle Z M2 a0 v1 v2 v3 (fun r18 M18 => (¬ r18 = 0 → ((P_X6_laysAside Z M18 a0  (fun M31 => (P_X6_sawsAround Z M31 a0 v1 v2 v3 (fun r38 M38 => (P_X6_takesBack Z M38 a0  (fun M44 => (P_X6_fine Z M44 a0 r38 (fun r50 M50 => Q r50 M50)))))))))) ∧ (r18 = 0 → ((P_X6_throwing Z M18 a0 2 (fun r26 M26 => Q r26 M26)))))))) ∧ (r2 = 0 → ((P_X6_throwing Z M2 a0 1 (fun r10 M10 => Q r10 M10)))))))
def P_X6_cutsAround (Z : ZZ) (M : MM) (a0 : Nat) (v1 : Int32) (v2 : Int32) (v3 : Int32) (Q : Int32 → MM → Prop) : Prop := B_X6_cutsAround_0 Z Q M a0 v1 v2 v3
def rm_X6_cutsAround : Room := { frames := 5, cells := 0, slots := 0, locals := 112 }
/-! IceFieldModel.hang(III)Z -/
def B_X6_hang_0 (Z : ZZ) (Q : Int32 → MM → Prop)  (M : MM) (a0 : Nat) (v1 : Int32) (v2 : Int32) (v3 : Int32) : Prop := (zK Z a0 = 6 ∧ (P_X6_isIce Z M a0 v1 (fun r2 M2 => (r2 = 0 → (Q 0 M2)) ∧ (¬ r2 = 0 → ((P_X6_isIce Z M2 a0 v2 (fun r10 M10 => (r10 = 0 → (Q 0 M10)) ∧ (¬ r10 = 0 → ((P_X6_isCut Z M10 a0 v1 v3 (fun r19 M19 => (¬ r19 = 0 → (Q 0 M19)) ∧ (r19 = 0 → (Q 1 M19)))))))))))))
def P_X6_hang (Z : ZZ) (M : MM) (a0 : Nat) (v1 : Int32) (v2 : Int32) (v3 : Int32) (Q : Int32 → MM → Prop) : Prop := B_X6_hang_0 Z Q M a0 v1 v2 v3
def rm_X6_hang : Room := { frames := 3, cells := 0, slots := 0, locals := 65 }
/-! IceFieldModel.joins(II)Z -/
def B_X6_joins_51 (Z : ZZ) (Q : Int32 → MM → Prop)  (M : MM) (a0 : Nat) (v1 : Int32) (v2 : Int32) (v3 : Int32) (t0 : Int32) : Prop := (zK Z a0 = 6 ∧ (∃ y54_1, zR Z 23 a0 = some y54_1 ∧ (zK Z y54_1 = 7 ∧ (vp_in v1 (zN Z y54_1) ∧ (vp_in v2 (zN Z y54_1) ∧ (zb t0 ∧ Q t0 (setA (setA M y54_1 (upd (mA M y54_1) v1.toNatClampNeg v3)) y54_1 (upd (mA (setA M y54_1 (upd (mA M y54_1) v1.toNatClampNeg v3)) y54_1) v2.toNatClampNeg v3))))))))
def B_X6_joins_30 (Z : ZZ) (Q : Int32 → MM → Prop)  (M : MM) (a0 : Nat) (v1 : Int32) (v2 : Int32) (t0 : Int32) : Prop := (zK Z a0 = 6 ∧ (∃ y32_1, zR Z 23 a0 = some y32_1 ∧ (zK Z y32_1 = 7 ∧ (vp_in v1 (zN Z y32_1) ∧ (vp_in v2 (zN Z y32_1) ∧ ((mA M y32_1 v1.toNatClampNeg) = (mA M y32_1 v2.toNatClampNeg) → (B_X6_joins_51 Z Q  M a0 v1 v2 t0 0)) ∧ (¬ (mA M y32_1 v1.toNatClampNeg) = (mA M y32_1 v2.toNatClampNeg) → (B_X6_joins_51 Z Q  M a0 v1 v2 t0 1)))))))
def B_X6_joins_0 (Z : ZZ) (Q : Int32 → MM → Prop)  (M : MM) (a0 : Nat) (v1 : Int32) (v2 : Int32) : Prop := (zK Z a0 = 6 ∧ (∃ y1_1, zR Z 23 a0 = some y1_1 ∧ (zK Z y1_1 = 7 ∧ (vp_in v1 (zN Z y1_1) ∧ (vp_in v2 (zN Z y1_1) ∧ ((mA M y1_1 v2.toNatClampNeg) ≤ (mA M y1_1 v1.toNatClampNeg) → ((vp_in v2 (zN Z y1_1) ∧ B_X6_joins_30 Z Q  M a0 v1 v2 (mA M y1_1 v2.toNatClampNeg)))) ∧ (¬ (mA M y1_1 v2.toNatClampNeg) ≤ (mA M y1_1 v1.toNatClampNeg) → ((vp_in v1 (zN Z y1_1) ∧ B_X6_joins_30 Z Q  M a0 v1 v2 (mA M y1_1 v1.toNatClampNeg)))))))))
def P_X6_joins (Z : ZZ) (M : MM) (a0 : Nat) (v1 : Int32) (v2 : Int32) (Q : Int32 → MM → Prop) : Prop := B_X6_joins_0 Z Q M a0 v1 v2
def rm_X6_joins : Room := { frames := 0, cells := 0, slots := 0, locals := 0 }
/-! IceFieldModel.findsBlocks()V -/
def B_X6_findsBlocks_28 (Z : ZZ) (Q : MM → Prop) (K2 : MM → Nat → Int32 → Prop) (M : MM) (a0 : Nat) (v1 : Int32) (t0 : Int32) (t1 : Int32) (t2 : Nat) : Prop := (zK Z t2 = 7 ∧ (vp_in t1 (zN Z t2) ∧ K2 (setA M t2 (upd (mA M t2) t1.toNatClampNeg t0)) a0 (v1 + 1)))
def B_X6_findsBlocks_89 (Z : ZZ) (Q : MM → Prop) (K94 : MM → Nat → Int32 → Int32 → Prop) (M : MM) (a0 : Nat) (v2 : Int32) : Prop := K94 M a0 v2 1
def B_X6_findsBlocks_94 (Z : ZZ) (Q : MM → Prop) (K95 : MM → Nat → Int32 → Int32 → Prop) (M : MM) (a0 : Nat) (v2 : Int32) (t0 : Int32) : Prop := K95 M a0 t0 v2
def B_X6_findsBlocks_141 (Z : ZZ) (Q : MM → Prop) (K146 : MM → Nat → Int32 → Int32 → Prop) (M : MM) (a0 : Nat) (v2 : Int32) : Prop := K146 M a0 v2 1
def B_X6_findsBlocks_146 (Z : ZZ) (Q : MM → Prop) (K147 : MM → Nat → Int32 → Int32 → Prop) (M : MM) (a0 : Nat) (v2 : Int32) (t0 : Int32) : Prop := K147 M a0 t0 v2
def B_X6_findsBlocks_147 (Z : ZZ) (Q : MM → Prop) (K45 : MM → Nat → Int32 → Int32 → Prop) (M : MM) (a0 : Nat) (v1 : Int32) (v2 : Int32) : Prop := K45 M a0 v1 (v2 + 1)
def B_X6_findsBlocks_95 (Z : ZZ) (Q : MM → Prop) (K45 : MM → Nat → Int32 → Int32 → Prop) (M : MM) (a0 : Nat) (v1 : Int32) (v2 : Int32) : Prop := (zK Z a0 = 6 ∧ (P_X6_canSaw Z M a0 v2 1 (fun r98 M98 => (r98 = 0 → (B_X6_findsBlocks_147 Z Q K45 M98 a0 v1 v2)) ∧ (¬ r98 = 0 → ((∃ y108_1, zR Z 20 a0 = some y108_1 ∧ (zK Z y108_1 = 7 ∧ (vp_in 0 (zN Z y108_1) ∧ (P_X6_hang Z M98 a0 v2 (v2 + (mA M98 y108_1 (0 : Int32).toNatClampNeg)) 1 (fun r115 M115 => (r115 = 0 → (B_X6_findsBlocks_147 Z Q K45 M115 a0 v1 v2)) ∧ (¬ r115 = 0 → ((vp_in 0 (zN Z y108_1) ∧ (P_X6_joins Z M115 a0 v2 (v2 + (mA M115 y108_1 (0 : Int32).toNatClampNeg)) (fun r131 M131 => (¬ r131 = 0 → (B_X6_findsBlocks_141 Z Q (fun M1 a0 v2 t0 => B_X6_findsBlocks_146 Z Q (fun M1 a0 v1 v2 => B_X6_findsBlocks_147 Z Q K45 M1 a0 v1 v2) M1 a0 v2 t0) M131 a0 v2)) ∧ (r131 = 0 → ((v1 = 0 → (B_X6_findsBlocks_146 Z Q (fun M1 a0 v1 v2 => B_X6_findsBlocks_147 Z Q K45 M1 a0 v1 v2) M131 a0 v2 0)) ∧ (¬ v1 = 0 → (B_X6_findsBlocks_141 Z Q (fun M1 a0 v2 t0 => B_X6_findsBlocks_146 Z Q (fun M1 a0 v1 v2 => B_X6_findsBlocks_147 Z Q K45 M1 a0 v1 v2) M1 a0 v2 t0) M131 a0 v2)))))))))))))))))))
def B_X6_findsBlocks_45 (Z : ZZ) (Q : MM → Prop) (K37 : MM → Nat → Int32 → Prop) (K45 : MM → Nat → Int32 → Int32 → Prop) (M : MM) (a0 : Nat) (v1 : Int32) (v2 : Int32) : Prop := (zK Z a0 = 6 ∧ (P_X6_cells Z M a0  (fun r47 M47 => (r47 ≤ v2 → (K37 M47 a0 v1)) ∧ (¬ r47 ≤ v2 → ((P_X6_canSaw Z M47 a0 v2 0 (fun r56 M56 => (r56 = 0 → (B_X6_findsBlocks_95 Z Q K45 M56 a0 v1 v2)) ∧ (¬ r56 = 0 → ((P_X6_hang Z M56 a0 v2 (v2 + 1) 0 (fun r68 M68 => (r68 = 0 → (B_X6_findsBlocks_95 Z Q K45 M68 a0 v1 v2)) ∧ (¬ r68 = 0 → ((P_X6_joins Z M68 a0 v2 (v2 + 1) (fun r79 M79 => (¬ r79 = 0 → (B_X6_findsBlocks_89 Z Q (fun M1 a0 v2 t0 => B_X6_findsBlocks_94 Z Q (fun M1 a0 v1 v2 => B_X6_findsBlocks_95 Z Q K45 M1 a0 v1 v2) M1 a0 v2 t0) M79 a0 v2)) ∧ (r79 = 0 → ((v1 = 0 → (B_X6_findsBlocks_94 Z Q (fun M1 a0 v1 v2 => B_X6_findsBlocks_95 Z Q K45 M1 a0 v1 v2) M79 a0 v2 0)) ∧ (¬ v1 = 0 → (B_X6_findsBlocks_89 Z Q (fun M1 a0 v2 t0 => B_X6_findsBlocks_94 Z Q (fun M1 a0 v1 v2 => B_X6_findsBlocks_95 Z Q K45 M1 a0 v1 v2) M1 a0 v2 t0) M79 a0 v2)))))))))))))))))))
def L_X6_findsBlocks_45 (Z : ZZ) (Q : MM → Prop) (K37 : MM → Nat → Int32 → Prop) : Nat → MM → Nat → Int32 → Int32 → Prop
  | 0 => fun _ _ _ _ => False
  | n + 1 => B_X6_findsBlocks_45 Z Q  K37 (L_X6_findsBlocks_45 Z Q  K37 n)
def B_X6_findsBlocks_37 (Z : ZZ) (Q : MM → Prop) (K37 : MM → Nat → Int32 → Prop) (M : MM) (a0 : Nat) (v1 : Int32) : Prop := (v1 = 0 → (Q M)) ∧ (¬ v1 = 0 → (∃ n, L_X6_findsBlocks_45 Z Q K37 n M a0 0 0))
def L_X6_findsBlocks_37 (Z : ZZ) (Q : MM → Prop)  : Nat → MM → Nat → Int32 → Prop
  | 0 => fun _ _ _ => False
  | n + 1 => B_X6_findsBlocks_37 Z Q  (L_X6_findsBlocks_37 Z Q   n)
def B_X6_findsBlocks_2 (Z : ZZ) (Q : MM → Prop) (K2 : MM → Nat → Int32 → Prop) (M : MM) (a0 : Nat) (v1 : Int32) : Prop := (zK Z a0 = 6 ∧ (P_X6_cells Z M a0  (fun r4 M4 => (r4 ≤ v1 → (∃ n, L_X6_findsBlocks_37 Z Q  n M4 a0 1)) ∧ (¬ r4 ≤ v1 → ((∃ y11_1, zR Z 23 a0 = some y11_1 ∧ (P_X6_isIce Z M4 a0 v1 (fun r17 M17 => (r17 = 0 → (B_X6_findsBlocks_28 Z Q K2 M17 a0 v1 (-1) v1 y11_1)) ∧ (¬ r17 = 0 → (B_X6_findsBlocks_28 Z Q K2 M17 a0 v1 v1 v1 y11_1))))))))))
def L_X6_findsBlocks_2 (Z : ZZ) (Q : MM → Prop)  : Nat → MM → Nat → Int32 → Prop
  | 0 => fun _ _ _ => False
  | n + 1 => B_X6_findsBlocks_2 Z Q  (L_X6_findsBlocks_2 Z Q   n)
def B_X6_findsBlocks_0 (Z : ZZ) (Q : MM → Prop)  (M : MM) (a0 : Nat) : Prop := ∃ n, L_X6_findsBlocks_2 Z Q  n M a0 0
def P_X6_findsBlocks (Z : ZZ) (M : MM) (a0 : Nat) (Q : MM → Prop) : Prop := B_X6_findsBlocks_0 Z Q M a0
def rm_X6_findsBlocks : Room := { frames := 4, cells := 0, slots := 0, locals := 88 }
/-! IceFieldModel.isHeld(I)Z -/
def B_X6_isHeld_37 (Z : ZZ) (Q : Int32 → MM → Prop) (K42 : MM → Nat → Int32 → Int32 → Int32 → Prop) (M : MM) (a0 : Nat) (v1 : Int32) (v3 : Int32) : Prop := K42 M a0 v1 v3 1
def B_X6_isHeld_41 (Z : ZZ) (Q : Int32 → MM → Prop) (K42 : MM → Nat → Int32 → Int32 → Int32 → Prop) (M : MM) (a0 : Nat) (v1 : Int32) (v3 : Int32) : Prop := K42 M a0 v1 v3 0
def B_X6_isHeld_42 (Z : ZZ) (Q : Int32 → MM → Prop) (K4 : MM → Nat → Int32 → Int32 → Int32 → Prop) (M : MM) (a0 : Nat) (v1 : Int32) (v3 : Int32) (t0 : Int32) : Prop := K4 M a0 v1 t0 (v3 + 1)
def B_X6_isHeld_4 (Z : ZZ) (Q : Int32 → MM → Prop) (K4 : MM → Nat → Int32 → Int32 → Int32 → Prop) (M : MM) (a0 : Nat) (v1 : Int32) (v2 : Int32) (v3 : Int32) : Prop := (zK Z a0 = 6 ∧ (∃ y6_1, zR Z 20 a0 = some y6_1 ∧ (zK Z y6_1 = 7 ∧ (vp_in 0 (zN Z y6_1) ∧ ((mA M y6_1 (0 : Int32).toNatClampNeg) ≤ v3 → ((zb v2 ∧ Q v2 M))) ∧ (¬ (mA M y6_1 (0 : Int32).toNatClampNeg) ≤ v3 → ((¬ v2 = 0 → (B_X6_isHeld_37 Z Q (fun M1 a0 v1 v3 t0 => B_X6_isHeld_42 Z Q K4 M1 a0 v1 v3 t0) M a0 v1 v3)) ∧ (v2 = 0 → ((∃ y19_3, zR Z 23 a0 = some y19_3 ∧ (zK Z y19_3 = 7 ∧ (vp_in v3 (zN Z y19_3) ∧ (¬ (mA M y19_3 v3.toNatClampNeg) = v1 → (B_X6_isHeld_41 Z Q (fun M1 a0 v1 v3 t0 => B_X6_isHeld_42 Z Q K4 M1 a0 v1 v3 t0) M a0 v1 v3)) ∧ ((mA M y19_3 v3.toNatClampNeg) = v1 → ((P_X6_isCut Z M a0 v3 2 (fun r31 M31 => (¬ r31 = 0 → (B_X6_isHeld_41 Z Q (fun M1 a0 v1 v3 t0 => B_X6_isHeld_42 Z Q K4 M1 a0 v1 v3 t0) M31 a0 v1 v3)) ∧ (r31 = 0 → (B_X6_isHeld_37 Z Q (fun M1 a0 v1 v3 t0 => B_X6_isHeld_42 Z Q K4 M1 a0 v1 v3 t0) M31 a0 v1 v3)))))))))))))))))
def L_X6_isHeld_4 (Z : ZZ) (Q : Int32 → MM → Prop)  : Nat → MM → Nat → Int32 → Int32 → Int32 → Prop
  | 0 => fun _ _ _ _ _ => False
  | n + 1 => B_X6_isHeld_4 Z Q  (L_X6_isHeld_4 Z Q   n)
def B_X6_isHeld_0 (Z : ZZ) (Q : Int32 → MM → Prop)  (M : MM) (a0 : Nat) (v1 : Int32) : Prop := ∃ n, L_X6_isHeld_4 Z Q  n M a0 v1 0 0
def P_X6_isHeld (Z : ZZ) (M : MM) (a0 : Nat) (v1 : Int32) (Q : Int32 → MM → Prop) : Prop := B_X6_isHeld_0 Z Q M a0 v1
def rm_X6_isHeld : Room := { frames := 3, cells := 0, slots := 0, locals := 65 }
/-! IceFieldModel.sizeOf(IZ)I -/
def B_X6_sizeOf_48 (Z : ZZ) (Q : Int32 → MM → Prop) (K5 : MM → Nat → Int32 → Int32 → Int32 → Int32 → Prop) (M : MM) (a0 : Nat) (v1 : Int32) (v2 : Int32) (v4 : Int32) (t0 : Int32) (t1 : Int32) : Prop := K5 M a0 v1 v2 (t1 + t0) (v4 + 1)
def B_X6_sizeOf_5 (Z : ZZ) (Q : Int32 → MM → Prop) (K5 : MM → Nat → Int32 → Int32 → Int32 → Int32 → Prop) (M : MM) (a0 : Nat) (v1 : Int32) (v2 : Int32) (v3 : Int32) (v4 : Int32) : Prop := (zK Z a0 = 6 ∧ (P_X6_cells Z M a0  (fun r8 M8 => (r8 ≤ v4 → (Q v3 M8)) ∧ (¬ r8 ≤ v4 → ((∃ y16_1, zR Z 23 a0 = some y16_1 ∧ (zK Z y16_1 = 7 ∧ (vp_in v4 (zN Z y16_1) ∧ (¬ (mA M8 y16_1 v4.toNatClampNeg) = v1 → (B_X6_sizeOf_48 Z Q K5 M8 a0 v1 v2 v4 0 v3)) ∧ ((mA M8 y16_1 v4.toNatClampNeg) = v1 → ((v2 = 0 → (B_X6_sizeOf_48 Z Q K5 M8 a0 v1 v2 v4 1 v3)) ∧ (¬ v2 = 0 → ((∃ y31_3, zR Z 20 a0 = some y31_3 ∧ (zK Z y31_3 = 7 ∧ (vp_in (8 + v4) (zN Z y31_3) ∧ B_X6_sizeOf_48 Z Q K5 M8 a0 v1 v2 v4 (mA M8 y31_3 (8 + v4).toNatClampNeg) v3)))))))))))))))
def L_X6_sizeOf_5 (Z : ZZ) (Q : Int32 → MM → Prop)  : Nat → MM → Nat → Int32 → Int32 → Int32 → Int32 → Prop
  | 0 => fun _ _ _ _ _ _ => False
  | n + 1 => B_X6_sizeOf_5 Z Q  (L_X6_sizeOf_5 Z Q   n)
def B_X6_sizeOf_0 (Z : ZZ) (Q : Int32 → MM → Prop)  (M : MM) (a0 : Nat) (v1 : Int32) (v2 : Int32) : Prop := ∃ n, L_X6_sizeOf_5 Z Q  n M a0 v1 v2 0 0
def P_X6_sizeOf (Z : ZZ) (M : MM) (a0 : Nat) (v1 : Int32) (v2 : Int32) (Q : Int32 → MM → Prop) : Prop := B_X6_sizeOf_0 Z Q M a0 v1 v2
def rm_X6_sizeOf : Room := { frames := 1, cells := 0, slots := 0, locals := 20 }
/-! IceFieldModel.mayLie(III)Z -/
def B_X6_mayLie_126 (Z : ZZ) (Q : Int32 → MM → Prop) (K131 : MM → Nat → Int32 → Int32 → Int32 → Int32 → Int32 → Prop) (M : MM) (a0 : Nat) (v1 : Int32) (v2 : Int32) (v3 : Int32) (v5 : Int32) : Prop := K131 M a0 v1 v2 v3 v5 1
def B_X6_mayLie_130 (Z : ZZ) (Q : Int32 → MM → Prop) (K131 : MM → Nat → Int32 → Int32 → Int32 → Int32 → Int32 → Prop) (M : MM) (a0 : Nat) (v1 : Int32) (v2 : Int32) (v3 : Int32) (v5 : Int32) : Prop := K131 M a0 v1 v2 v3 v5 0
def B_X6_mayLie_131 (Z : ZZ) (Q : Int32 → MM → Prop) (K133 : MM → Nat → Int32 → Int32 → Int32 → Int32 → Int32 → Prop) (M : MM) (a0 : Nat) (v1 : Int32) (v2 : Int32) (v3 : Int32) (v5 : Int32) (t0 : Int32) : Prop := K133 M a0 v1 v2 v3 t0 v5
def B_X6_mayLie_133 (Z : ZZ) (Q : Int32 → MM → Prop) (K6 : MM → Nat → Int32 → Int32 → Int32 → Int32 → Int32 → Prop) (M : MM) (a0 : Nat) (v1 : Int32) (v2 : Int32) (v3 : Int32) (v4 : Int32) (v5 : Int32) : Prop := K6 M a0 v1 v2 v3 v4 (v5 + 1)
def B_X6_mayLie_6 (Z : ZZ) (Q : Int32 → MM → Prop) (K6 : MM → Nat → Int32 → Int32 → Int32 → Int32 → Int32 → Prop) (M : MM) (a0 : Nat) (v1 : Int32) (v2 : Int32) (v3 : Int32) (v4 : Int32) (v5 : Int32) : Prop := (zK Z a0 = 6 ∧ (P_X6_cells Z M a0  (fun r9 M9 => (r9 ≤ v5 → ((zb v4 ∧ Q v4 M9))) ∧ (¬ r9 ≤ v5 → ((v4 = 0 → ((zb v4 ∧ Q v4 M9))) ∧ (¬ v4 = 0 → ((∃ y21_1, zR Z 23 a0 = some y21_1 ∧ (zK Z y21_1 = 7 ∧ (vp_in v5 (zN Z y21_1) ∧ (¬ (mA M9 y21_1 v5.toNatClampNeg) = v1 → (B_X6_mayLie_133 Z Q K6 M9 a0 v1 v2 v3 v4 v5)) ∧ ((mA M9 y21_1 v5.toNatClampNeg) = v1 → ((P_X6_row Z M9 a0 v5 (fun r34 M34 => (P_X6_column Z M34 a0 v5 (fun r44 M44 => ((r34 + v3) < 0 → (B_X6_mayLie_130 Z Q (fun M1 a0 v1 v2 v3 v5 t0 => B_X6_mayLie_131 Z Q (fun M1 a0 v1 v2 v3 v4 v5 => B_X6_mayLie_133 Z Q K6 M1 a0 v1 v2 v3 v4 v5) M1 a0 v1 v2 v3 v5 t0) M44 a0 v1 v2 v3 v5)) ∧ (¬ (r34 + v3) < 0 → ((∃ y61_3, zR Z 20 a0 = some y61_3 ∧ (zK Z y61_3 = 7 ∧ (vp_in 0 (zN Z y61_3) ∧ (P_X6_in Z M44 ((r44 + v2).toInt64) 0 (((mA M44 y61_3 (0 : Int32).toNatClampNeg).toInt64) - 1) (fun r69 M69 => (r69 = 0 → (B_X6_mayLie_130 Z Q (fun M1 a0 v1 v2 v3 v5 t0 => B_X6_mayLie_131 Z Q (fun M1 a0 v1 v2 v3 v4 v5 => B_X6_mayLie_133 Z Q K6 M1 a0 v1 v2 v3 v4 v5) M1 a0 v1 v2 v3 v5 t0) M69 a0 v1 v2 v3 v5)) ∧ (¬ r69 = 0 → ((vp_in 1 (zN Z y61_3) ∧ ((mA M69 y61_3 (1 : Int32).toNatClampNeg) ≤ (r34 + v3) → (B_X6_mayLie_126 Z Q (fun M1 a0 v1 v2 v3 v5 t0 => B_X6_mayLie_131 Z Q (fun M1 a0 v1 v2 v3 v4 v5 => B_X6_mayLie_133 Z Q K6 M1 a0 v1 v2 v3 v4 v5) M1 a0 v1 v2 v3 v5 t0) M69 a0 v1 v2 v3 v5)) ∧ (¬ (mA M69 y61_3 (1 : Int32).toNatClampNeg) ≤ (r34 + v3) → ((vp_in 0 (zN Z y61_3) ∧ (P_X6_isIce Z M69 a0 (((r34 + v3) * (mA M69 y61_3 (0 : Int32).toNatClampNeg)) + (r44 + v2)) (fun r99 M99 => (r99 = 0 → (B_X6_mayLie_126 Z Q (fun M1 a0 v1 v2 v3 v5 t0 => B_X6_mayLie_131 Z Q (fun M1 a0 v1 v2 v3 v4 v5 => B_X6_mayLie_133 Z Q K6 M1 a0 v1 v2 v3 v4 v5) M1 a0 v1 v2 v3 v5 t0) M99 a0 v1 v2 v3 v5)) ∧ (¬ r99 = 0 → ((vp_in 0 (zN Z y61_3) ∧ (vp_in (((r34 + v3) * (mA M99 y61_3 (0 : Int32).toNatClampNeg)) + (r44 + v2)) (zN Z y21_1) ∧ (¬ (mA M99 y21_1 (((r34 + v3) * (mA M99 y61_3 (0 : Int32).toNatClampNeg)) + (r44 + v2)).toNatClampNeg) = v1 → (B_X6_mayLie_130 Z Q (fun M1 a0 v1 v2 v3 v5 t0 => B_X6_mayLie_131 Z Q (fun M1 a0 v1 v2 v3 v4 v5 => B_X6_mayLie_133 Z Q K6 M1 a0 v1 v2 v3 v4 v5) M1 a0 v1 v2 v3 v5 t0) M99 a0 v1 v2 v3 v5)) ∧ ((mA M99 y21_1 (((r34 + v3) * (mA M99 y61_3 (0 : Int32).toNatClampNeg)) + (r44 + v2)).toNatClampNeg) = v1 → (B_X6_mayLie_126 Z Q (fun M1 a0 v1 v2 v3 v5 t0 => B_X6_mayLie_131 Z Q (fun M1 a0 v1 v2 v3 v4 v5 => B_X6_mayLie_133 Z Q K6 M1 a0 v1 v2 v3 v4 v5) M1 a0 v1 v2 v3 v5 t0) M99 a0 v1 v2 v3 v5)))))))))))))))))))))))))))))))))))))
def L_X6_mayLie_6 (Z : ZZ) (Q : Int32 → MM → Prop)  : Nat → MM → Nat → Int32 → Int32 → Int32 → Int32 → Int32 → Prop
  | 0 => fun _ _ _ _ _ _ _ => False
  | n + 1 => B_X6_mayLie_6 Z Q  (L_X6_mayLie_6 Z Q   n)
def B_X6_mayLie_0 (Z : ZZ) (Q : Int32 → MM → Prop)  (M : MM) (a0 : Nat) (v1 : Int32) (v2 : Int32) (v3 : Int32) : Prop := ∃ n, L_X6_mayLie_6 Z Q  n M a0 v1 v2 v3 1 0
def P_X6_mayLie (Z : ZZ) (M : MM) (a0 : Nat) (v1 : Int32) (v2 : Int32) (v3 : Int32) (Q : Int32 → MM → Prop) : Prop := B_X6_mayLie_0 Z Q M a0 v1 v2 v3
def rm_X6_mayLie : Room := { frames := 1, cells := 0, slots := 0, locals := 25 }
/-! IceFieldModel.moved(II)I -/
def B_X6_moved_0 (Z : ZZ) (Q : Int32 → MM → Prop)  (M : MM) (v0 : Int32) (v1 : Int32) : Prop := (¬ v1 = 0 → ((¬ v1 = 1 → ((¬ v1 = 2 → (Q (v0 + 15) M)) ∧ (v1 = 2 → (Q (v0 - 15) M)))) ∧ (v1 = 1 → (Q (v0 + 1) M)))) ∧ (v1 = 0 → (Q (v0 - 1) M))
def P_X6_moved (Z : ZZ) (M : MM) (v0 : Int32) (v1 : Int32) (Q : Int32 → MM → Prop) : Prop := B_X6_moved_0 Z Q M v0 v1
def rm_X6_moved : Room := { frames := 0, cells := 0, slots := 0, locals := 0 }
/-! IceFieldModel.isBeside(II)Z -/
def B_X6_isBeside_47 (Z : ZZ) (Q : Int32 → MM → Prop) (K52 : MM → Nat → Int32 → Int32 → Int32 → Int32 → Prop) (M : MM) (a0 : Nat) (v1 : Int32) (v2 : Int32) (v4 : Int32) : Prop := K52 M a0 v1 v2 v4 1
def B_X6_isBeside_51 (Z : ZZ) (Q : Int32 → MM → Prop) (K52 : MM → Nat → Int32 → Int32 → Int32 → Int32 → Prop) (M : MM) (a0 : Nat) (v1 : Int32) (v2 : Int32) (v4 : Int32) : Prop := K52 M a0 v1 v2 v4 0
def B_X6_isBeside_52 (Z : ZZ) (Q : Int32 → MM → Prop) (K5 : MM → Nat → Int32 → Int32 → Int32 → Int32 → Prop) (M : MM) (a0 : Nat) (v1 : Int32) (v2 : Int32) (v4 : Int32) (t0 : Int32) : Prop := K5 M a0 v1 v2 t0 (v4 + 1)
def B_X6_isBeside_5 (Z : ZZ) (Q : Int32 → MM → Prop) (K5 : MM → Nat → Int32 → Int32 → Int32 → Int32 → Prop) (M : MM) (a0 : Nat) (v1 : Int32) (v2 : Int32) (v3 : Int32) (v4 : Int32) : Prop := (4 ≤ v4 → ((zb v3 ∧ Q v3 M))) ∧ (¬ 4 ≤ v4 → ((P_X6_moved Z M v1 v4 (fun r14 M14 => (¬ v3 = 0 → (B_X6_isBeside_47 Z Q (fun M1 a0 v1 v2 v4 t0 => B_X6_isBeside_52 Z Q K5 M1 a0 v1 v2 v4 t0) M14 a0 v1 v2 v4)) ∧ (v3 = 0 → ((P_X6_in Z M14 r14.toInt64 0 224 (fun r30 M30 => (r30 = 0 → (B_X6_isBeside_51 Z Q (fun M1 a0 v1 v2 v4 t0 => B_X6_isBeside_52 Z Q K5 M1 a0 v1 v2 v4 t0) M30 a0 v1 v2 v4)) ∧ (¬ r30 = 0 → ((zK Z a0 = 6 ∧ (∃ y37_1, zR Z 24 a0 = some y37_1 ∧ (zK Z y37_1 = 7 ∧ (vp_in r14 (zN Z y37_1) ∧ (¬ (mA M30 y37_1 r14.toNatClampNeg) = v2 → (B_X6_isBeside_51 Z Q (fun M1 a0 v1 v2 v4 t0 => B_X6_isBeside_52 Z Q K5 M1 a0 v1 v2 v4 t0) M30 a0 v1 v2 v4)) ∧ ((mA M30 y37_1 r14.toNatClampNeg) = v2 → (B_X6_isBeside_47 Z Q (fun M1 a0 v1 v2 v4 t0 => B_X6_isBeside_52 Z Q K5 M1 a0 v1 v2 v4 t0) M30 a0 v1 v2 v4))))))))))))))))
def L_X6_isBeside_5 (Z : ZZ) (Q : Int32 → MM → Prop)  : Nat → MM → Nat → Int32 → Int32 → Int32 → Int32 → Prop
  | 0 => fun _ _ _ _ _ _ => False
  | n + 1 => B_X6_isBeside_5 Z Q  (L_X6_isBeside_5 Z Q   n)
def B_X6_isBeside_0 (Z : ZZ) (Q : Int32 → MM → Prop)  (M : MM) (a0 : Nat) (v1 : Int32) (v2 : Int32) : Prop := ∃ n, L_X6_isBeside_5 Z Q  n M a0 v1 v2 0 0
def P_X6_isBeside (Z : ZZ) (M : MM) (a0 : Nat) (v1 : Int32) (v2 : Int32) (Q : Int32 → MM → Prop) : Prop := B_X6_isBeside_0 Z Q M a0 v1 v2
def rm_X6_isBeside : Room := { frames := 1, cells := 0, slots := 0, locals := 25 }
/-! IceFieldModel.findsWays(I)V -/
def B_X6_findsWays_66 (Z : ZZ) (Q : MM → Prop) (K82 : MM → Nat → Int32 → Int32 → Int32 → Int32 → Int32 → Nat → Prop) (M : MM) (a0 : Nat) (v1 : Int32) (v2 : Int32) (v3 : Int32) (t0 : Int32) (t1 : Nat) : Prop := K82 M a0 v1 v2 v3 (-2) t0 t1
def B_X6_findsWays_82 (Z : ZZ) (Q : MM → Prop) (K18 : MM → Nat → Int32 → Int32 → Int32 → Prop) (M : MM) (a0 : Nat) (v1 : Int32) (v2 : Int32) (v3 : Int32) (t0 : Int32) (t1 : Int32) (t2 : Nat) : Prop := (zK Z t2 = 7 ∧ (vp_in t1 (zN Z t2) ∧ K18 (setA M t2 (upd (mA M t2) t1.toNatClampNeg t0)) a0 v1 v2 (v3 + 1)))
def B_X6_findsWays_146 (Z : ZZ) (Q : MM → Prop) (K103 : MM → Nat → Int32 → Int32 → Int32 → Prop) (M : MM) (a0 : Nat) (v3 : Int32) (v4 : Int32) (v5 : Int32) : Prop := K103 M a0 v3 v4 (v5 + 1)
def B_X6_findsWays_103 (Z : ZZ) (Q : MM → Prop) (K94 : MM → Nat → Int32 → Int32 → Prop) (K103 : MM → Nat → Int32 → Int32 → Int32 → Prop) (M : MM) (a0 : Nat) (v3 : Int32) (v4 : Int32) (v5 : Int32) : Prop := (225 ≤ v5 → (K94 M a0 v3 (v4 + 1))) ∧ (¬ 225 ≤ v5 → ((zK Z a0 = 6 ∧ (∃ y112_1, zR Z 24 a0 = some y112_1 ∧ (zK Z y112_1 = 7 ∧ (vp_in v5 (zN Z y112_1) ∧ (¬ (mA M y112_1 v5.toNatClampNeg) = (-1) → (B_X6_findsWays_146 Z Q K103 M a0 v3 v4 v5)) ∧ ((mA M y112_1 v5.toNatClampNeg) = (-1) → ((P_X6_isBeside Z M a0 v5 v4 (fun r127 M127 => (r127 = 0 → (B_X6_findsWays_146 Z Q K103 M127 a0 v3 v4 v5)) ∧ (¬ r127 = 0 → ((vp_in v5 (zN Z y112_1) ∧ B_X6_findsWays_146 Z Q K103 (setA M127 y112_1 (upd (mA M127 y112_1) v5.toNatClampNeg (v4 + 1))) a0 1 v4 v5)))))))))))))
def L_X6_findsWays_103 (Z : ZZ) (Q : MM → Prop) (K94 : MM → Nat → Int32 → Int32 → Prop) : Nat → MM → Nat → Int32 → Int32 → Int32 → Prop
  | 0 => fun _ _ _ _ _ => False
  | n + 1 => B_X6_findsWays_103 Z Q  K94 (L_X6_findsWays_103 Z Q  K94 n)
def B_X6_findsWays_94 (Z : ZZ) (Q : MM → Prop) (K94 : MM → Nat → Int32 → Int32 → Prop) (M : MM) (a0 : Nat) (v3 : Int32) (v4 : Int32) : Prop := (v3 = 0 → (Q M)) ∧ (¬ v3 = 0 → (∃ n, L_X6_findsWays_103 Z Q K94 n M a0 0 v4 0))
def L_X6_findsWays_94 (Z : ZZ) (Q : MM → Prop)  : Nat → MM → Nat → Int32 → Int32 → Prop
  | 0 => fun _ _ _ _ => False
  | n + 1 => B_X6_findsWays_94 Z Q  (L_X6_findsWays_94 Z Q   n)
def B_X6_findsWays_18 (Z : ZZ) (Q : MM → Prop) (K18 : MM → Nat → Int32 → Int32 → Int32 → Prop) (M : MM) (a0 : Nat) (v1 : Int32) (v2 : Int32) (v3 : Int32) : Prop := (225 ≤ v3 → (∃ n, L_X6_findsWays_94 Z Q  n M a0 1 0)) ∧ (¬ 225 ≤ v3 → ((zK Z a0 = 6 ∧ (∃ y44_1, zR Z 24 a0 = some y44_1 ∧ (v2 < ((v3 / 15) - 7) → (B_X6_findsWays_66 Z Q (fun M1 a0 v1 v2 v3 t0 t1 t2 => B_X6_findsWays_82 Z Q K18 M1 a0 v1 v2 v3 t0 t1 t2) M a0 v1 v2 v3 v3 y44_1)) ∧ (¬ v2 < ((v3 / 15) - 7) → ((P_X6_mayLie Z M a0 v1 ((v3 - v3 / 15 * 15) - 7) ((v3 / 15) - 7) (fun r60 M60 => (¬ r60 = 0 → ((¬ ((v3 / 15) - 7) = v2 → (B_X6_findsWays_82 Z Q K18 M60 a0 v1 v2 v3 (-1) v3 y44_1)) ∧ (((v3 / 15) - 7) = v2 → (B_X6_findsWays_82 Z Q K18 M60 a0 v1 v2 v3 0 v3 y44_1)))) ∧ (r60 = 0 → (B_X6_findsWays_66 Z Q (fun M1 a0 v1 v2 v3 t0 t1 t2 => B_X6_findsWays_82 Z Q K18 M1 a0 v1 v2 v3 t0 t1 t2) M60 a0 v1 v2 v3 v3 y44_1))))))))))
def L_X6_findsWays_18 (Z : ZZ) (Q : MM → Prop)  : Nat → MM → Nat → Int32 → Int32 → Int32 → Prop
  | 0 => fun _ _ _ _ _ => False
  | n + 1 => B_X6_findsWays_18 Z Q  (L_X6_findsWays_18 Z Q   n)
def B_X6_findsWays_0 (Z : ZZ) (Q : MM → Prop)  (M : MM) (a0 : Nat) (v1 : Int32) : Prop := (zK Z a0 = 6 ∧ (∃ y1_1, zR Z 20 a0 = some y1_1 ∧ (zK Z y1_1 = 7 ∧ (vp_in 1 (zN Z y1_1) ∧ (vp_in 0 (zN Z y1_1) ∧ (¬ (mA M y1_1 (0 : Int32).toNatClampNeg) = 0 ∧ ∃ n, L_X6_findsWays_18 Z Q  n M a0 v1 ((mA M y1_1 (1 : Int32).toNatClampNeg) - (v1 / (mA M y1_1 (0 : Int32).toNatClampNeg))) 0))))))
def P_X6_findsWays (Z : ZZ) (M : MM) (a0 : Nat) (v1 : Int32) (Q : MM → Prop) : Prop := B_X6_findsWays_0 Z Q M a0 v1
def rm_X6_findsWays : Room := { frames := 2, cells := 0, slots := 0, locals := 52 }
/-! IceFieldModel.way(I)I -/
def B_X6_way_0 (Z : ZZ) (Q : Int32 → MM → Prop)  (M : MM) (a0 : Nat) (v1 : Int32) : Prop := (zK Z a0 = 6 ∧ (P_X6_isHeld Z M a0 v1 (fun r2 M2 => (r2 = 0 → ((P_X6_findsWays Z M2 a0 v1 (fun M12 => (∃ y16_1, zR Z 24 a0 = some y16_1 ∧ (zK Z y16_1 = 7 ∧ (vp_in 112 (zN Z y16_1) ∧ (0 ≤ (mA M12 y16_1 (112 : Int32).toNatClampNeg) → ((vp_in 112 (zN Z y16_1) ∧ Q (mA M12 y16_1 (112 : Int32).toNatClampNeg) M12))) ∧ (¬ 0 ≤ (mA M12 y16_1 (112 : Int32).toNatClampNeg) → (Q (-1) M12))))))))) ∧ (¬ r2 = 0 → (Q (-1) M2)))))
def P_X6_way (Z : ZZ) (M : MM) (a0 : Nat) (v1 : Int32) (Q : Int32 → MM → Prop) : Prop := B_X6_way_0 Z Q M a0 v1
def rm_X6_way : Room := { frames := 4, cells := 0, slots := 0, locals := 88 }
/-! IceFieldModel.nextLoose(IZ)I -/
def B_X6_nextLoose_32 (Z : ZZ) (Q : Int32 → MM → Prop) (K33 : MM → Nat → Int32 → Int32 → Int32 → Prop) (M : MM) (a0 : Nat) (v2 : Int32) (v3 : Int32) : Prop := K33 M a0 v2 v3 0
def B_X6_nextLoose_54 (Z : ZZ) (Q : Int32 → MM → Prop) (K60 : MM → Nat → Int32 → Int32 → Prop) (M : MM) (a0 : Nat) (v2 : Int32) (v3 : Int32) (t0 : Int32) : Prop := (¬ t0 = v2 → (K60 M a0 v2 v3)) ∧ (t0 = v2 → (Q v3 M))
def B_X6_nextLoose_60 (Z : ZZ) (Q : Int32 → MM → Prop) (K2 : MM → Nat → Int32 → Int32 → Prop) (M : MM) (a0 : Nat) (v2 : Int32) (v3 : Int32) : Prop := K2 M a0 v2 (v3 + 1)
def B_X6_nextLoose_33 (Z : ZZ) (Q : Int32 → MM → Prop) (K2 : MM → Nat → Int32 → Int32 → Prop) (M : MM) (a0 : Nat) (v2 : Int32) (v3 : Int32) (t0 : Int32) : Prop := (t0 = 0 → (B_X6_nextLoose_60 Z Q K2 M a0 v2 v3)) ∧ (¬ t0 = 0 → ((zK Z a0 = 6 ∧ (P_X6_way Z M a0 v3 (fun r42 M42 => (r42 = (-1) → (B_X6_nextLoose_54 Z Q (fun M1 a0 v2 v3 => B_X6_nextLoose_60 Z Q K2 M1 a0 v2 v3) M42 a0 v2 v3 0)) ∧ (¬ r42 = (-1) → (B_X6_nextLoose_54 Z Q (fun M1 a0 v2 v3 => B_X6_nextLoose_60 Z Q K2 M1 a0 v2 v3) M42 a0 v2 v3 1)))))))
def B_X6_nextLoose_2 (Z : ZZ) (Q : Int32 → MM → Prop) (K2 : MM → Nat → Int32 → Int32 → Prop) (M : MM) (a0 : Nat) (v2 : Int32) (v3 : Int32) : Prop := (zK Z a0 = 6 ∧ (P_X6_cells Z M a0  (fun r4 M4 => (r4 ≤ v3 → (Q (-1) M4)) ∧ (¬ r4 ≤ v3 → ((∃ y11_1, zR Z 23 a0 = some y11_1 ∧ (zK Z y11_1 = 7 ∧ (vp_in v3 (zN Z y11_1) ∧ (¬ (mA M4 y11_1 v3.toNatClampNeg) = v3 → (B_X6_nextLoose_32 Z Q (fun M1 a0 v2 v3 t0 => B_X6_nextLoose_33 Z Q K2 M1 a0 v2 v3 t0) M4 a0 v2 v3)) ∧ ((mA M4 y11_1 v3.toNatClampNeg) = v3 → ((P_X6_isHeld Z M4 a0 v3 (fun r22 M22 => (¬ r22 = 0 → (B_X6_nextLoose_32 Z Q (fun M1 a0 v2 v3 t0 => B_X6_nextLoose_33 Z Q K2 M1 a0 v2 v3 t0) M22 a0 v2 v3)) ∧ (r22 = 0 → (B_X6_nextLoose_33 Z Q K2 M22 a0 v2 v3 1))))))))))))))
def L_X6_nextLoose_2 (Z : ZZ) (Q : Int32 → MM → Prop)  : Nat → MM → Nat → Int32 → Int32 → Prop
  | 0 => fun _ _ _ _ => False
  | n + 1 => B_X6_nextLoose_2 Z Q  (L_X6_nextLoose_2 Z Q   n)
def B_X6_nextLoose_0 (Z : ZZ) (Q : Int32 → MM → Prop)  (M : MM) (a0 : Nat) (v1 : Int32) (v2 : Int32) : Prop := ∃ n, L_X6_nextLoose_2 Z Q  n M a0 v2 v1
def P_X6_nextLoose (Z : ZZ) (M : MM) (a0 : Nat) (v1 : Int32) (v2 : Int32) (Q : Int32 → MM → Prop) : Prop := B_X6_nextLoose_0 Z Q M a0 v1 v2
def rm_X6_nextLoose : Room := { frames := 5, cells := 0, slots := 0, locals := 109 }
/-! IceFieldModel.takes(I)V -/
def B_X6_takes_144 (Z : ZZ) (Q : MM → Prop) (K105 : MM → Nat → Int32 → Int32 → Prop) (M : MM) (a0 : Nat) (v1 : Int32) (v3 : Int32) (t0 : Int32) (t1 : Int32) (t2 : Nat) : Prop := (zK Z t2 = 7 ∧ (vp_in t1 (zN Z t2) ∧ K105 (setA M t2 (upd (mA M t2) t1.toNatClampNeg t0)) a0 v1 (v3 + 1)))
def B_X6_takes_105 (Z : ZZ) (Q : MM → Prop) (K105 : MM → Nat → Int32 → Int32 → Prop) (M : MM) (a0 : Nat) (v1 : Int32) (v3 : Int32) : Prop := (zK Z a0 = 6 ∧ (P_X6_cells Z M a0  (fun r107 M107 => (r107 ≤ v3 → (Q M107)) ∧ (¬ r107 ≤ v3 → ((∃ y114_1, zR Z 20 a0 = some y114_1 ∧ (∃ y122_2, zR Z 23 a0 = some y122_2 ∧ (zK Z y122_2 = 7 ∧ (vp_in v3 (zN Z y122_2) ∧ (¬ (mA M107 y122_2 v3.toNatClampNeg) = v1 → ((zK Z y114_1 = 7 ∧ (vp_in (8 + v3) (zN Z y114_1) ∧ B_X6_takes_144 Z Q K105 M107 a0 v1 v3 (mA M107 y114_1 (8 + v3).toNatClampNeg) (8 + v3) y114_1)))) ∧ ((mA M107 y122_2 v3.toNatClampNeg) = v1 → (B_X6_takes_144 Z Q K105 M107 a0 v1 v3 0 (8 + v3) y114_1)))))))))))
def L_X6_takes_105 (Z : ZZ) (Q : MM → Prop)  : Nat → MM → Nat → Int32 → Int32 → Prop
  | 0 => fun _ _ _ _ => False
  | n + 1 => B_X6_takes_105 Z Q  (L_X6_takes_105 Z Q   n)
def B_X6_takes_82 (Z : ZZ) (Q : MM → Prop)  (M : MM) (a0 : Nat) (v1 : Int32) (v2 : Int32) : Prop := (zK Z a0 = 6 ∧ (∃ y83_1, zR Z 20 a0 = some y83_1 ∧ (zK Z y83_1 = 7 ∧ (vp_in 7 (zN Z y83_1) ∧ (vp_in 7 (zN Z y83_1) ∧ (vp_in 5 (zN Z y83_1) ∧ (vp_in 5 (zN Z y83_1) ∧ ∃ n, L_X6_takes_105 Z Q  n (setA (setA M y83_1 (upd (mA M y83_1) (7 : Int32).toNatClampNeg ((mA M y83_1 (7 : Int32).toNatClampNeg) + 1))) y83_1 (upd (mA (setA M y83_1 (upd (mA M y83_1) (7 : Int32).toNatClampNeg ((mA M y83_1 (7 : Int32).toNatClampNeg) + 1))) y83_1) (5 : Int32).toNatClampNeg ((mA (setA M y83_1 (upd (mA M y83_1) (7 : Int32).toNatClampNeg ((mA M y83_1 (7 : Int32).toNatClampNeg) + 1))) y83_1 (5 : Int32).toNatClampNeg) + v2))) a0 v1 0)))))))
def B_X6_takes_0 (Z : ZZ) (Q : MM → Prop)  (M : MM) (a0 : Nat) (v1 : Int32) : Prop := (zK Z a0 = 6 ∧ (P_X6_sizeOf Z M a0 v1 1 (fun r3 M3 => (∃ y8_1, zR Z 20 a0 = some y8_1 ∧ (zK Z y8_1 = 7 ∧ (vp_in 7 (zN Z y8_1) ∧ (40 ≤ (mA M3 y8_1 (7 : Int32).toNatClampNeg) → (B_X6_takes_82 Z Q  M3 a0 v1 r3)) ∧ (¬ 40 ≤ (mA M3 y8_1 (7 : Int32).toNatClampNeg) → ((vp_in 7 (zN Z y8_1) ∧ (vp_in (106 + (3 * (mA M3 y8_1 (7 : Int32).toNatClampNeg))) (zN Z y8_1) ∧ (vp_in 7 (zN Z y8_1) ∧ (vp_in ((106 + (3 * (mA (setA M3 y8_1 (upd (mA M3 y8_1) (106 + (3 * (mA M3 y8_1 (7 : Int32).toNatClampNeg))).toNatClampNeg v1)) y8_1 (7 : Int32).toNatClampNeg))) + 1) (zN Z y8_1) ∧ (vp_in 7 (zN Z y8_1) ∧ (vp_in 3 (zN Z y8_1) ∧ (vp_in ((106 + (3 * (mA (setA (setA M3 y8_1 (upd (mA M3 y8_1) (106 + (3 * (mA M3 y8_1 (7 : Int32).toNatClampNeg))).toNatClampNeg v1)) y8_1 (upd (mA (setA M3 y8_1 (upd (mA M3 y8_1) (106 + (3 * (mA M3 y8_1 (7 : Int32).toNatClampNeg))).toNatClampNeg v1)) y8_1) ((106 + (3 * (mA (setA M3 y8_1 (upd (mA M3 y8_1) (106 + (3 * (mA M3 y8_1 (7 : Int32).toNatClampNeg))).toNatClampNeg v1)) y8_1 (7 : Int32).toNatClampNeg))) + 1).toNatClampNeg r3)) y8_1 (7 : Int32).toNatClampNeg))) + 2) (zN Z y8_1) ∧ B_X6_takes_82 Z Q  (setA (setA (setA M3 y8_1 (upd (mA M3 y8_1) (106 + (3 * (mA M3 y8_1 (7 : Int32).toNatClampNeg))).toNatClampNeg v1)) y8_1 (upd (mA (setA M3 y8_1 (upd (mA M3 y8_1) (106 + (3 * (mA M3 y8_1 (7 : Int32).toNatClampNeg))).toNatClampNeg v1)) y8_1) ((106 + (3 * (mA (setA M3 y8_1 (upd (mA M3 y8_1) (106 + (3 * (mA M3 y8_1 (7 : Int32).toNatClampNeg))).toNatClampNeg v1)) y8_1 (7 : Int32).toNatClampNeg))) + 1).toNatClampNeg r3)) y8_1 (upd (mA (setA (setA M3 y8_1 (upd (mA M3 y8_1) (106 + (3 * (mA M3 y8_1 (7 : Int32).toNatClampNeg))).toNatClampNeg v1)) y8_1 (upd (mA (setA M3 y8_1 (upd (mA M3 y8_1) (106 + (3 * (mA M3 y8_1 (7 : Int32).toNatClampNeg))).toNatClampNeg v1)) y8_1) ((106 + (3 * (mA (setA M3 y8_1 (upd (mA M3 y8_1) (106 + (3 * (mA M3 y8_1 (7 : Int32).toNatClampNeg))).toNatClampNeg v1)) y8_1 (7 : Int32).toNatClampNeg))) + 1).toNatClampNeg r3)) y8_1) ((106 + (3 * (mA (setA (setA M3 y8_1 (upd (mA M3 y8_1) (106 + (3 * (mA M3 y8_1 (7 : Int32).toNatClampNeg))).toNatClampNeg v1)) y8_1 (upd (mA (setA M3 y8_1 (upd (mA M3 y8_1) (106 + (3 * (mA M3 y8_1 (7 : Int32).toNatClampNeg))).toNatClampNeg v1)) y8_1) ((106 + (3 * (mA (setA M3 y8_1 (upd (mA M3 y8_1) (106 + (3 * (mA M3 y8_1 (7 : Int32).toNatClampNeg))).toNatClampNeg v1)) y8_1 (7 : Int32).toNatClampNeg))) + 1).toNatClampNeg r3)) y8_1 (7 : Int32).toNatClampNeg))) + 2).toNatClampNeg (mA (setA (setA M3 y8_1 (upd (mA M3 y8_1) (106 + (3 * (mA M3 y8_1 (7 : Int32).toNatClampNeg))).toNatClampNeg v1)) y8_1 (upd (mA (setA M3 y8_1 (upd (mA M3 y8_1) (106 + (3 * (mA M3 y8_1 (7 : Int32).toNatClampNeg))).toNatClampNeg v1)) y8_1) ((106 + (3 * (mA (setA M3 y8_1 (upd (mA M3 y8_1) (106 + (3 * (mA M3 y8_1 (7 : Int32).toNatClampNeg))).toNatClampNeg v1)) y8_1 (7 : Int32).toNatClampNeg))) + 1).toNatClampNeg r3)) y8_1 (3 : Int32).toNatClampNeg))) a0 v1 r3)))))))))))))))
def P_X6_takes (Z : ZZ) (M : MM) (a0 : Nat) (v1 : Int32) (Q : MM → Prop) : Prop := B_X6_takes_0 Z Q M a0 v1
def rm_X6_takes : Room := { frames := 2, cells := 0, slots := 0, locals := 44 }
/-! IceFieldModel.takeOut(I)I -/
def B_X6_takeOut_39 (Z : ZZ) (Q : Int32 → MM → Prop)  (M : MM) (a0 : Nat) : Prop := (zK Z a0 = 6 ∧ (P_X6_throwing Z M a0 2 (fun r41 M41 => Q r41 M41)))
def B_X6_takeOut_0 (Z : ZZ) (Q : Int32 → MM → Prop)  (M : MM) (a0 : Nat) (v1 : Int32) : Prop := (zK Z a0 = 6 ∧ (P_X6_isCell Z M a0 v1 (fun r2 M2 => (¬ r2 = 0 → ((P_X6_findsBlocks Z M2 a0  (fun M15 => (∃ y19_1, zR Z 23 a0 = some y19_1 ∧ (zK Z y19_1 = 7 ∧ (vp_in v1 (zN Z y19_1) ∧ ((mA M15 y19_1 v1.toNatClampNeg) = (-1) → (B_X6_takeOut_39 Z Q  M15 a0)) ∧ (¬ (mA M15 y19_1 v1.toNatClampNeg) = (-1) → ((P_X6_way Z M15 a0 (mA M15 y19_1 v1.toNatClampNeg) (fun r32 M32 => (¬ r32 = (-1) → ((P_X6_save Z M32 a0  (fun M46 => (P_X6_sizeOf Z M46 a0 (mA M15 y19_1 v1.toNatClampNeg) 1 (fun r52 M52 => (P_X6_takes Z M52 a0 (mA M15 y19_1 v1.toNatClampNeg) (fun M58 => (P_X6_fine Z M58 a0 r52 (fun r63 M63 => Q r63 M63)))))))))) ∧ (r32 = (-1) → (B_X6_takeOut_39 Z Q  M32 a0))))))))))))) ∧ (r2 = 0 → ((P_X6_throwing Z M2 a0 1 (fun r10 M10 => Q r10 M10)))))))
def P_X6_takeOut (Z : ZZ) (M : MM) (a0 : Nat) (v1 : Int32) (Q : Int32 → MM → Prop) : Prop := B_X6_takeOut_0 Z Q M a0 v1
def rm_X6_takeOut : Room := { frames := 5, cells := 0, slots := 0, locals := 110 }
/-! IceFieldModel.takesAll()I -/
def B_X6_takesAll_4 (Z : ZZ) (Q : Int32 → MM → Prop) (K4 : MM → Nat → Int32 → Int32 → Prop) (M : MM) (a0 : Nat) (v1 : Int32) (v2 : Int32) : Prop := (v2 = (-1) → (Q v1 M)) ∧ (¬ v2 = (-1) → ((zK Z a0 = 6 ∧ (P_X6_findsBlocks Z M a0  (fun M10 => (P_X6_nextLoose Z M10 a0 0 1 (fun r16 M16 => (r16 = (-1) → (K4 M16 a0 v1 r16)) ∧ (¬ r16 = (-1) → ((P_X6_takes Z M16 a0 r16 (fun M27 => K4 M27 a0 (v1 + 1) r16)))))))))))
def L_X6_takesAll_4 (Z : ZZ) (Q : Int32 → MM → Prop)  : Nat → MM → Nat → Int32 → Int32 → Prop
  | 0 => fun _ _ _ _ => False
  | n + 1 => B_X6_takesAll_4 Z Q  (L_X6_takesAll_4 Z Q   n)
def B_X6_takesAll_0 (Z : ZZ) (Q : Int32 → MM → Prop)  (M : MM) (a0 : Nat) : Prop := ∃ n, L_X6_takesAll_4 Z Q  n M a0 0 0
def P_X6_takesAll (Z : ZZ) (M : MM) (a0 : Nat) (Q : Int32 → MM → Prop) : Prop := B_X6_takesAll_0 Z Q M a0
def rm_X6_takesAll : Room := { frames := 6, cells := 0, slots := 0, locals := 133 }
/-! IceFieldModel.takeAll()I -/
def B_X6_takeAll_0 (Z : ZZ) (Q : Int32 → MM → Prop)  (M : MM) (a0 : Nat) : Prop := (zK Z a0 = 6 ∧ (P_X6_save Z M a0  (fun M1 => (P_X6_takesAll Z M1 a0  (fun r6 M6 => (P_X6_fine Z M6 a0 r6 (fun r9 M9 => Q r9 M9)))))))
def P_X6_takeAll (Z : ZZ) (M : MM) (a0 : Nat) (Q : Int32 → MM → Prop) : Prop := B_X6_takeAll_0 Z Q M a0
def rm_X6_takeAll : Room := { frames := 7, cells := 0, slots := 0, locals := 155 }
/-! IceFieldModel.setMelt(I)I -/
def B_X6_setMelt_0 (Z : ZZ) (Q : Int32 → MM → Prop)  (M : MM) (a0 : Nat) (v1 : Int32) : Prop := (P_X6_in Z M v1.toInt64 0 9 (fun r6 M6 => (¬ r6 = 0 → ((zK Z a0 = 6 ∧ (P_X6_save Z M6 a0  (fun M19 => (∃ y23_1, zR Z 20 a0 = some y23_1 ∧ (zK Z y23_1 = 7 ∧ (vp_in 2 (zN Z y23_1) ∧ (vp_in 2 (zN Z y23_1) ∧ (P_X6_fine Z (setA M19 y23_1 (upd (mA M19 y23_1) (2 : Int32).toNatClampNeg v1)) a0 (mA M19 y23_1 (2 : Int32).toNatClampNeg) (fun r38 M38 => Q r38 M38))))))))))) ∧ (r6 = 0 → ((zK Z a0 = 6 ∧ (P_X6_throwing Z M6 a0 1 (fun r14 M14 => Q r14 M14)))))))
def P_X6_setMelt (Z : ZZ) (M : MM) (a0 : Nat) (v1 : Int32) (Q : Int32 → MM → Prop) : Prop := B_X6_setMelt_0 Z Q M a0 v1
def rm_X6_setMelt : Room := { frames := 1, cells := 0, slots := 0, locals := 25 }
/-! IceFieldModel.waterBeside(I)I -/
def B_X6_waterBeside_33 (Z : ZZ) (Q : Int32 → MM → Prop) (K38 : MM → Nat → Int32 → Int32 → Int32 → Prop) (M : MM) (a0 : Nat) (v1 : Int32) (v2 : Int32) : Prop := K38 M a0 v1 v2 1
def B_X6_waterBeside_62 (Z : ZZ) (Q : Int32 → MM → Prop) (K63 : MM → Nat → Int32 → Int32 → Int32 → Int32 → Prop) (M : MM) (a0 : Nat) (v1 : Int32) (v2 : Int32) (t0 : Int32) : Prop := K63 M a0 v1 v2 0 t0
def B_X6_waterBeside_88 (Z : ZZ) (Q : Int32 → MM → Prop) (K89 : MM → Nat → Int32 → Int32 → Int32 → Int32 → Prop) (M : MM) (a0 : Nat) (v1 : Int32) (v2 : Int32) (t0 : Int32) : Prop := K89 M a0 v1 v2 0 t0
def B_X6_waterBeside_89 (Z : ZZ) (Q : Int32 → MM → Prop)  (M : MM) (a0 : Nat) (v1 : Int32) (v2 : Int32) (t0 : Int32) (t1 : Int32) : Prop := (zK Z a0 = 6 ∧ (P_X6_column Z M a0 v1 (fun r94 M94 => ((v2 - 1) ≤ r94 → (Q ((t1 + t0) + 0) M94)) ∧ (¬ (v2 - 1) ≤ r94 → ((P_X6_isIce Z M94 a0 (v1 + 1) (fun r107 M107 => (¬ r107 = 0 → (Q ((t1 + t0) + 0) M107)) ∧ (r107 = 0 → (Q ((t1 + t0) + 1) M107)))))))))
def B_X6_waterBeside_63 (Z : ZZ) (Q : Int32 → MM → Prop)  (M : MM) (a0 : Nat) (v1 : Int32) (v2 : Int32) (t0 : Int32) (t1 : Int32) : Prop := (zK Z a0 = 6 ∧ (P_X6_column Z M a0 v1 (fun r68 M68 => (r68 ≤ 0 → (B_X6_waterBeside_88 Z Q (fun M1 a0 v1 v2 t0 t1 => B_X6_waterBeside_89 Z Q  M1 a0 v1 v2 t0 t1) M68 a0 v1 v2 (t1 + t0))) ∧ (¬ r68 ≤ 0 → ((P_X6_isIce Z M68 a0 (v1 - 1) (fun r78 M78 => (¬ r78 = 0 → (B_X6_waterBeside_88 Z Q (fun M1 a0 v1 v2 t0 t1 => B_X6_waterBeside_89 Z Q  M1 a0 v1 v2 t0 t1) M78 a0 v1 v2 (t1 + t0))) ∧ (r78 = 0 → (B_X6_waterBeside_89 Z Q  M78 a0 v1 v2 1 (t1 + t0))))))))))
def B_X6_waterBeside_38 (Z : ZZ) (Q : Int32 → MM → Prop)  (M : MM) (a0 : Nat) (v1 : Int32) (v2 : Int32) (t0 : Int32) : Prop := (zK Z a0 = 6 ∧ (P_X6_row Z M a0 v1 (fun r42 M42 => (r42 ≤ 0 → (B_X6_waterBeside_62 Z Q (fun M1 a0 v1 v2 t0 t1 => B_X6_waterBeside_63 Z Q  M1 a0 v1 v2 t0 t1) M42 a0 v1 v2 t0)) ∧ (¬ r42 ≤ 0 → ((P_X6_isIce Z M42 a0 (v1 - v2) (fun r52 M52 => (¬ r52 = 0 → (B_X6_waterBeside_62 Z Q (fun M1 a0 v1 v2 t0 t1 => B_X6_waterBeside_63 Z Q  M1 a0 v1 v2 t0 t1) M52 a0 v1 v2 t0)) ∧ (r52 = 0 → (B_X6_waterBeside_63 Z Q  M52 a0 v1 v2 1 t0)))))))))
def B_X6_waterBeside_0 (Z : ZZ) (Q : Int32 → MM → Prop)  (M : MM) (a0 : Nat) (v1 : Int32) : Prop := (zK Z a0 = 6 ∧ (∃ y1_1, zR Z 20 a0 = some y1_1 ∧ (zK Z y1_1 = 7 ∧ (vp_in 0 (zN Z y1_1) ∧ (P_X6_row Z M a0 v1 (fun r9 M9 => (vp_in 1 (zN Z y1_1) ∧ (r9 = ((mA M9 y1_1 (1 : Int32).toNatClampNeg) - 1) → (B_X6_waterBeside_33 Z Q (fun M1 a0 v1 v2 t0 => B_X6_waterBeside_38 Z Q  M1 a0 v1 v2 t0) M9 a0 v1 (mA M y1_1 (0 : Int32).toNatClampNeg))) ∧ (¬ r9 = ((mA M9 y1_1 (1 : Int32).toNatClampNeg) - 1) → ((P_X6_isIce Z M9 a0 (v1 + (mA M y1_1 (0 : Int32).toNatClampNeg)) (fun r27 M27 => (¬ r27 = 0 → (B_X6_waterBeside_38 Z Q  M27 a0 v1 (mA M y1_1 (0 : Int32).toNatClampNeg) 0)) ∧ (r27 = 0 → (B_X6_waterBeside_33 Z Q (fun M1 a0 v1 v2 t0 => B_X6_waterBeside_38 Z Q  M1 a0 v1 v2 t0) M27 a0 v1 (mA M y1_1 (0 : Int32).toNatClampNeg))))))))))))))
def P_X6_waterBeside (Z : ZZ) (M : MM) (a0 : Nat) (v1 : Int32) (Q : Int32 → MM → Prop) : Prop := B_X6_waterBeside_0 Z Q M a0 v1
def rm_X6_waterBeside : Room := { frames := 1, cells := 0, slots := 0, locals := 21 }
/-! IceFieldModel.day()I -/
def B_X6_day_65 (Z : ZZ) (Q : Int32 → MM → Prop) (K4 : MM → Nat → Int32 → Int32 → Prop) (M : MM) (a0 : Nat) (v1 : Int32) (v2 : Int32) (t0 : Int32) (t1 : Int32) (t2 : Nat) : Prop := (zK Z t2 = 7 ∧ (vp_in t1 (zN Z t2) ∧ (zK Z a0 = 6 ∧ (∃ y68_2, zR Z 25 a0 = some y68_2 ∧ (zK Z y68_2 = 7 ∧ (vp_in v2 (zN Z y68_2) ∧ K4 (setA M t2 (upd (mA M t2) t1.toNatClampNeg t0)) a0 (v1 + (mA (setA M t2 (upd (mA M t2) t1.toNatClampNeg t0)) y68_2 v2.toNatClampNeg)) (v2 + 1)))))))
def B_X6_day_32 (Z : ZZ) (Q : Int32 → MM → Prop) (K4 : MM → Nat → Int32 → Int32 → Prop) (M : MM) (a0 : Nat) (v1 : Int32) (v2 : Int32) (t0 : Int32) (t1 : Int32) : Prop := (zK Z a0 = 6 ∧ (∃ y35_1, zR Z 25 a0 = some y35_1 ∧ (∃ y41_2, zR Z 20 a0 = some y41_2 ∧ (zK Z y41_2 = 7 ∧ (vp_in (8 + v2) (zN Z y41_2) ∧ ((mA M y41_2 (8 + v2).toNatClampNeg) ≤ (t1 + t0) → ((vp_in (8 + v2) (zN Z y41_2) ∧ B_X6_day_65 Z Q K4 M a0 v1 v2 (mA M y41_2 (8 + v2).toNatClampNeg) v2 y35_1))) ∧ (¬ (mA M y41_2 (8 + v2).toNatClampNeg) ≤ (t1 + t0) → (B_X6_day_65 Z Q K4 M a0 v1 v2 (t1 + t0) v2 y35_1)))))))
def B_X6_day_83 (Z : ZZ) (Q : Int32 → MM → Prop) (K83 : MM → Nat → Int32 → Int32 → Prop) (M : MM) (a0 : Nat) (v1 : Int32) (v2 : Int32) : Prop := (zK Z a0 = 6 ∧ (P_X6_cells Z M a0  (fun r85 M85 => (r85 ≤ v2 → ((∃ y116_1, zR Z 20 a0 = some y116_1 ∧ (zK Z y116_1 = 7 ∧ (vp_in 6 (zN Z y116_1) ∧ (vp_in 6 (zN Z y116_1) ∧ (vp_in 3 (zN Z y116_1) ∧ (vp_in 3 (zN Z y116_1) ∧ Q v1 (setA (setA M85 y116_1 (upd (mA M85 y116_1) (6 : Int32).toNatClampNeg ((mA M85 y116_1 (6 : Int32).toNatClampNeg) + v1))) y116_1 (upd (mA (setA M85 y116_1 (upd (mA M85 y116_1) (6 : Int32).toNatClampNeg ((mA M85 y116_1 (6 : Int32).toNatClampNeg) + v1))) y116_1) (3 : Int32).toNatClampNeg ((mA (setA M85 y116_1 (upd (mA M85 y116_1) (6 : Int32).toNatClampNeg ((mA M85 y116_1 (6 : Int32).toNatClampNeg) + v1))) y116_1 (3 : Int32).toNatClampNeg) + 1))))))))))) ∧ (¬ r85 ≤ v2 → ((∃ y92_3, zR Z 20 a0 = some y92_3 ∧ (zK Z y92_3 = 7 ∧ (vp_in (8 + v2) (zN Z y92_3) ∧ (∃ y102_5, zR Z 25 a0 = some y102_5 ∧ (zK Z y102_5 = 7 ∧ (vp_in v2 (zN Z y102_5) ∧ (vp_in (8 + v2) (zN Z y92_3) ∧ K83 (setA M85 y92_3 (upd (mA M85 y92_3) (8 + v2).toNatClampNeg ((mA M85 y92_3 (8 + v2).toNatClampNeg) - (mA M85 y102_5 v2.toNatClampNeg)))) a0 v1 (v2 + 1)))))))))))))
def L_X6_day_83 (Z : ZZ) (Q : Int32 → MM → Prop)  : Nat → MM → Nat → Int32 → Int32 → Prop
  | 0 => fun _ _ _ _ => False
  | n + 1 => B_X6_day_83 Z Q  (L_X6_day_83 Z Q   n)
def B_X6_day_4 (Z : ZZ) (Q : Int32 → MM → Prop) (K4 : MM → Nat → Int32 → Int32 → Prop) (M : MM) (a0 : Nat) (v1 : Int32) (v2 : Int32) : Prop := (zK Z a0 = 6 ∧ (P_X6_cells Z M a0  (fun r6 M6 => (r6 ≤ v2 → (∃ n, L_X6_day_83 Z Q  n M6 a0 v1 0)) ∧ (¬ r6 ≤ v2 → ((∃ y13_1, zR Z 20 a0 = some y13_1 ∧ (zK Z y13_1 = 7 ∧ (vp_in 2 (zN Z y13_1) ∧ (P_X6_waterBeside Z M6 a0 v2 (fun r20 M20 => (r20 ≤ 1 → (B_X6_day_32 Z Q K4 M20 a0 v1 v2 0 (mA M6 y13_1 (2 : Int32).toNatClampNeg))) ∧ (¬ r20 ≤ 1 → (B_X6_day_32 Z Q K4 M20 a0 v1 v2 1 (mA M6 y13_1 (2 : Int32).toNatClampNeg)))))))))))))
def L_X6_day_4 (Z : ZZ) (Q : Int32 → MM → Prop)  : Nat → MM → Nat → Int32 → Int32 → Prop
  | 0 => fun _ _ _ _ => False
  | n + 1 => B_X6_day_4 Z Q  (L_X6_day_4 Z Q   n)
def B_X6_day_0 (Z : ZZ) (Q : Int32 → MM → Prop)  (M : MM) (a0 : Nat) : Prop := ∃ n, L_X6_day_4 Z Q  n M a0 0 0
def P_X6_day (Z : ZZ) (M : MM) (a0 : Nat) (Q : Int32 → MM → Prop) : Prop := B_X6_day_0 Z Q M a0
def rm_X6_day : Room := { frames := 2, cells := 0, slots := 0, locals := 44 }
/-! IceFieldModel.pass(I)I -/
def B_X6_pass_26 (Z : ZZ) (Q : Int32 → MM → Prop) (K26 : MM → Nat → Int32 → Int32 → Int32 → Prop) (M : MM) (a0 : Nat) (v1 : Int32) (v2 : Int32) (v3 : Int32) : Prop := (v1 ≤ v3 → ((zK Z a0 = 6 ∧ (P_X6_fine Z M a0 v2 (fun r46 M46 => Q r46 M46))))) ∧ (¬ v1 ≤ v3 → ((zK Z a0 = 6 ∧ (P_X6_day Z M a0  (fun r33 M33 => K26 M33 a0 v1 (v2 + r33) (v3 + 1))))))
def L_X6_pass_26 (Z : ZZ) (Q : Int32 → MM → Prop)  : Nat → MM → Nat → Int32 → Int32 → Int32 → Prop
  | 0 => fun _ _ _ _ _ => False
  | n + 1 => B_X6_pass_26 Z Q  (L_X6_pass_26 Z Q   n)
def B_X6_pass_0 (Z : ZZ) (Q : Int32 → MM → Prop)  (M : MM) (a0 : Nat) (v1 : Int32) : Prop := (P_X6_in Z M v1.toInt64 1 50 (fun r6 M6 => (¬ r6 = 0 → ((zK Z a0 = 6 ∧ (P_X6_save Z M6 a0  (fun M19 => ∃ n, L_X6_pass_26 Z Q  n M19 a0 v1 0 0))))) ∧ (r6 = 0 → ((zK Z a0 = 6 ∧ (P_X6_throwing Z M6 a0 1 (fun r14 M14 => Q r14 M14)))))))
def P_X6_pass (Z : ZZ) (M : MM) (a0 : Nat) (v1 : Int32) (Q : Int32 → MM → Prop) : Prop := B_X6_pass_0 Z Q M a0 v1
def rm_X6_pass : Room := { frames := 3, cells := 0, slots := 0, locals := 67 }
/-! IceFieldModel.cellOf(II)I -/
def B_X6_cellOf_0 (Z : ZZ) (Q : Int32 → MM → Prop)  (M : MM) (a0 : Nat) (v1 : Int32) (v2 : Int32) : Prop := (v2 = 0 → ((zK Z a0 = 6 ∧ (∃ y37_1, zR Z 20 a0 = some y37_1 ∧ (zK Z y37_1 = 7 ∧ (vp_in (8 + v1) (zN Z y37_1) ∧ Q (mA M y37_1 (8 + v1).toNatClampNeg) M)))))) ∧ (¬ v2 = 0 → (v2 = 5 → ((zK Z a0 = 6 ∧ (∃ y47_4, zR Z 23 a0 = some y47_4 ∧ (zK Z y47_4 = 7 ∧ (vp_in v1 (zN Z y47_4) ∧ Q (mA M y47_4 v1.toNatClampNeg) M)))))) ∧ (¬ v2 = 5 → (v2 = 6 → ((zK Z a0 = 6 ∧ (P_X6_waterBeside Z M a0 v1 (fun r55 M55 => Q r55 M55))))) ∧ (¬ v2 = 6 → ((zK Z a0 = 6 ∧ (P_X6_isCut Z M a0 v1 (v2 - 1) (fun r64 M64 => (r64 = 0 → (Q 0 M64)) ∧ (¬ r64 = 0 → (Q 1 M64)))))))))
def P_X6_cellOf (Z : ZZ) (M : MM) (a0 : Nat) (v1 : Int32) (v2 : Int32) (Q : Int32 → MM → Prop) : Prop := B_X6_cellOf_0 Z Q M a0 v1 v2
def rm_X6_cellOf : Room := { frames := 3, cells := 0, slots := 0, locals := 65 }
/-! IceFieldModel.cell(II)I -/
def B_X6_cell_0 (Z : ZZ) (Q : Int32 → MM → Prop)  (M : MM) (a0 : Nat) (v1 : Int32) (v2 : Int32) : Prop := (zK Z a0 = 6 ∧ (P_X6_isCell Z M a0 v1 (fun r2 M2 => (¬ r2 = 0 → ((P_X6_in Z M2 v2.toInt64 0 6 (fun r20 M20 => (¬ r20 = 0 → ((P_X6_findsBlocks Z M20 a0  (fun M33 => (P_X6_cellOf Z M33 a0 v1 v2 (fun r40 M40 => (P_X6_fine Z M40 a0 r40 (fun r43 M43 => Q r43 M43)))))))) ∧ (r20 = 0 → ((P_X6_throwing Z M20 a0 2 (fun r28 M28 => Q r28 M28)))))))) ∧ (r2 = 0 → ((P_X6_throwing Z M2 a0 1 (fun r10 M10 => Q r10 M10)))))))
def P_X6_cell (Z : ZZ) (M : MM) (a0 : Nat) (v1 : Int32) (v2 : Int32) (Q : Int32 → MM → Prop) : Prop := B_X6_cell_0 Z Q M a0 v1 v2
def rm_X6_cell : Room := { frames := 5, cells := 0, slots := 0, locals := 110 }
/-! IceFieldModel.blockOf(II)I -/
def B_X6_blockOf_58 (Z : ZZ) (Q : Int32 → MM → Prop)  (M : MM) (t0 : Int32) (t1 : Int32) (t2 : Nat) : Prop := (zK Z t2 = 6 ∧ (P_X6_sizeOf Z M t2 t1 t0 (fun r58 M58 => Q r58 M58)))
def B_X6_blockOf_0 (Z : ZZ) (Q : Int32 → MM → Prop)  (M : MM) (a0 : Nat) (v1 : Int32) (v2 : Int32) : Prop := (zK Z a0 = 6 ∧ (∃ y1_1, zR Z 23 a0 = some y1_1 ∧ (zK Z y1_1 = 7 ∧ (vp_in v1 (zN Z y1_1) ∧ (¬ (mA M y1_1 v1.toNatClampNeg) = (-1) → ((v2 = 0 → (Q (mA M y1_1 v1.toNatClampNeg) M)) ∧ (¬ v2 = 0 → (v2 = 1 → ((¬ v2 = 2 → (B_X6_blockOf_58 Z Q  M 0 (mA M y1_1 v1.toNatClampNeg) a0)) ∧ (v2 = 2 → (B_X6_blockOf_58 Z Q  M 1 (mA M y1_1 v1.toNatClampNeg) a0)))) ∧ (¬ v2 = 1 → (v2 = 2 → ((¬ v2 = 2 → (B_X6_blockOf_58 Z Q  M 0 (mA M y1_1 v1.toNatClampNeg) a0)) ∧ (v2 = 2 → (B_X6_blockOf_58 Z Q  M 1 (mA M y1_1 v1.toNatClampNeg) a0)))) ∧ (¬ v2 = 2 → (v2 = 3 → ((P_X6_isHeld Z M a0 (mA M y1_1 v1.toNatClampNeg) (fun r64 M64 => (r64 = 0 → (Q 0 M64)) ∧ (¬ r64 = 0 → (Q 1 M64)))))) ∧ (¬ v2 = 3 → ((P_X6_way Z M a0 (mA M y1_1 v1.toNatClampNeg) (fun r78 M78 => Q r78 M78))))))))) ∧ ((mA M y1_1 v1.toNatClampNeg) = (-1) → (Q (-1) M))))))
def P_X6_blockOf (Z : ZZ) (M : MM) (a0 : Nat) (v1 : Int32) (v2 : Int32) (Q : Int32 → MM → Prop) : Prop := B_X6_blockOf_0 Z Q M a0 v1 v2
def rm_X6_blockOf : Room := { frames := 5, cells := 0, slots := 0, locals := 109 }
/-! IceFieldModel.block(II)I -/
def B_X6_block_0 (Z : ZZ) (Q : Int32 → MM → Prop)  (M : MM) (a0 : Nat) (v1 : Int32) (v2 : Int32) : Prop := (zK Z a0 = 6 ∧ (P_X6_isCell Z M a0 v1 (fun r2 M2 => (¬ r2 = 0 → ((P_X6_in Z M2 v2.toInt64 0 4 (fun r20 M20 => (¬ r20 = 0 → ((P_X6_findsBlocks Z M20 a0  (fun M33 => (P_X6_blockOf Z M33 a0 v1 v2 (fun r40 M40 => (P_X6_fine Z M40 a0 r40 (fun r43 M43 => Q r43 M43)))))))) ∧ (r20 = 0 → ((P_X6_throwing Z M20 a0 2 (fun r28 M28 => Q r28 M28)))))))) ∧ (r2 = 0 → ((P_X6_throwing Z M2 a0 1 (fun r10 M10 => Q r10 M10)))))))
def P_X6_block (Z : ZZ) (M : MM) (a0 : Nat) (v1 : Int32) (v2 : Int32) (Q : Int32 → MM → Prop) : Prop := B_X6_block_0 Z Q M a0 v1 v2
def rm_X6_block : Room := { frames := 6, cells := 0, slots := 0, locals := 132 }
/-! IceFieldModel.move(II)I -/
def B_X6_move_12 (Z : ZZ) (Q : Int32 → MM → Prop)  (M : MM) (a0 : Nat) : Prop := (zK Z a0 = 6 ∧ (P_X6_throwing Z M a0 1 (fun r14 M14 => Q r14 M14)))
def B_X6_move_111 (Z : ZZ) (Q : Int32 → MM → Prop) (K72 : MM → Nat → Int32 → Int32 → Int32 → Int32 → Int32 → Prop) (M : MM) (a0 : Nat) (v2 : Int32) (v3 : Int32) (v4 : Int32) (v5 : Int32) (v6 : Int32) : Prop := K72 M a0 v2 v3 v4 (v5 + 1) v6
def B_X6_move_72 (Z : ZZ) (Q : Int32 → MM → Prop) (K57 : MM → Nat → Int32 → Int32 → Int32 → Int32 → Int32 → Prop) (K72 : MM → Nat → Int32 → Int32 → Int32 → Int32 → Int32 → Prop) (M : MM) (a0 : Nat) (v2 : Int32) (v3 : Int32) (v4 : Int32) (v5 : Int32) (v6 : Int32) : Prop := (P_X6_moved Z M v4 v5 (fun r76 M76 => (P_X6_in Z M76 r76.toInt64 0 224 (fun r84 M84 => (r84 = 0 → (B_X6_move_111 Z Q K72 M84 a0 v2 v3 v4 v5 v6)) ∧ (¬ r84 = 0 → ((zK Z a0 = 6 ∧ (∃ y91_1, zR Z 24 a0 = some y91_1 ∧ (P_X6_moved Z M84 v4 v5 (fun r98 M98 => (zK Z y91_1 = 7 ∧ (vp_in r98 (zN Z y91_1) ∧ ((mA M98 y91_1 r98.toNatClampNeg) = ((v3 - v6) - 1) → ((P_X6_moved Z M98 v4 v5 (fun r121 M121 => K57 M121 a0 v2 v3 r121 v5 (v6 + 1))))) ∧ (¬ (mA M98 y91_1 r98.toNatClampNeg) = ((v3 - v6) - 1) → (B_X6_move_111 Z Q K72 M98 a0 v2 v3 v4 v5 v6))))))))))))))
def L_X6_move_72 (Z : ZZ) (Q : Int32 → MM → Prop) (K57 : MM → Nat → Int32 → Int32 → Int32 → Int32 → Int32 → Prop) : Nat → MM → Nat → Int32 → Int32 → Int32 → Int32 → Int32 → Prop
  | 0 => fun _ _ _ _ _ _ _ => False
  | n + 1 => B_X6_move_72 Z Q  K57 (L_X6_move_72 Z Q  K57 n)
def B_X6_move_144 (Z : ZZ) (Q : Int32 → MM → Prop)  (M : MM) (t0 : Int32) (t1 : Nat) : Prop := (zK Z t1 = 6 ∧ (P_X6_fine Z M t1 t0 (fun r144 M144 => Q r144 M144)))
def B_X6_move_132 (Z : ZZ) (Q : Int32 → MM → Prop)  (M : MM) (a0 : Nat) (v2 : Int32) (v3 : Int32) (v5 : Int32) : Prop := (v3 ≤ v2 → (B_X6_move_144 Z Q  M (-1) a0)) ∧ (¬ v3 ≤ v2 → (B_X6_move_144 Z Q  M v5 a0))
def B_X6_move_57 (Z : ZZ) (Q : Int32 → MM → Prop) (K57 : MM → Nat → Int32 → Int32 → Int32 → Int32 → Int32 → Prop) (M : MM) (a0 : Nat) (v2 : Int32) (v3 : Int32) (v4 : Int32) (v5 : Int32) (v6 : Int32) : Prop := (v2 < v6 → (B_X6_move_132 Z Q  M a0 v2 v3 v5)) ∧ (¬ v2 < v6 → ((v3 ≤ v6 → (B_X6_move_132 Z Q  M a0 v2 v3 v5)) ∧ (¬ v3 ≤ v6 → (∃ n, L_X6_move_72 Z Q K57 n M a0 v2 v3 v4 0 v6))))
def L_X6_move_57 (Z : ZZ) (Q : Int32 → MM → Prop)  : Nat → MM → Nat → Int32 → Int32 → Int32 → Int32 → Int32 → Prop
  | 0 => fun _ _ _ _ _ _ _ => False
  | n + 1 => B_X6_move_57 Z Q  (L_X6_move_57 Z Q   n)
def B_X6_move_46 (Z : ZZ) (Q : Int32 → MM → Prop)  (M : MM) (a0 : Nat) (v2 : Int32) (t0 : Int32) : Prop := ∃ n, L_X6_move_57 Z Q  n M a0 v2 t0 112 (-1) 0
def B_X6_move_0 (Z : ZZ) (Q : Int32 → MM → Prop)  (M : MM) (a0 : Nat) (v1 : Int32) (v2 : Int32) : Prop := (zK Z a0 = 6 ∧ (P_X6_isCell Z M a0 v1 (fun r2 M2 => (r2 = 0 → (B_X6_move_12 Z Q  M2 a0)) ∧ (¬ r2 = 0 → ((0 ≤ v2 → ((P_X6_findsBlocks Z M2 a0  (fun M19 => (∃ y23_1, zR Z 23 a0 = some y23_1 ∧ (zK Z y23_1 = 7 ∧ (vp_in v1 (zN Z y23_1) ∧ (¬ (mA M19 y23_1 v1.toNatClampNeg) = (-1) → ((vp_in v1 (zN Z y23_1) ∧ (P_X6_way Z M19 a0 (mA M19 y23_1 v1.toNatClampNeg) (fun r43 M43 => B_X6_move_46 Z Q  M43 a0 v2 r43))))) ∧ ((mA M19 y23_1 v1.toNatClampNeg) = (-1) → (B_X6_move_46 Z Q  M19 a0 v2 (-1)))))))))) ∧ (¬ 0 ≤ v2 → (B_X6_move_12 Z Q  M2 a0)))))))
def P_X6_move (Z : ZZ) (M : MM) (a0 : Nat) (v1 : Int32) (v2 : Int32) (Q : Int32 → MM → Prop) : Prop := B_X6_move_0 Z Q M a0 v1 v2
def rm_X6_move : Room := { frames := 5, cells := 0, slots := 0, locals := 110 }
/-! IceFieldModel.blocks(I)I -/
def B_X6_blocks_38 (Z : ZZ) (Q : Int32 → MM → Prop) (K43 : MM → Nat → Int32 → Int32 → Int32 → Int32 → Prop) (M : MM) (a0 : Nat) (v1 : Int32) (v2 : Int32) (v3 : Int32) : Prop := K43 M a0 v1 v2 v3 1
def B_X6_blocks_42 (Z : ZZ) (Q : Int32 → MM → Prop) (K43 : MM → Nat → Int32 → Int32 → Int32 → Int32 → Prop) (M : MM) (a0 : Nat) (v1 : Int32) (v2 : Int32) (v3 : Int32) : Prop := K43 M a0 v1 v2 v3 0
def B_X6_blocks_65 (Z : ZZ) (Q : Int32 → MM → Prop) (K70 : MM → Nat → Int32 → Int32 → Int32 → Int32 → Prop) (M : MM) (a0 : Nat) (v1 : Int32) (v3 : Int32) (t0 : Int32) : Prop := K70 M a0 v1 v3 1 t0
def B_X6_blocks_69 (Z : ZZ) (Q : Int32 → MM → Prop) (K70 : MM → Nat → Int32 → Int32 → Int32 → Int32 → Prop) (M : MM) (a0 : Nat) (v1 : Int32) (v3 : Int32) (t0 : Int32) : Prop := K70 M a0 v1 v3 0 t0
def B_X6_blocks_70 (Z : ZZ) (Q : Int32 → MM → Prop) (K8 : MM → Nat → Int32 → Int32 → Int32 → Prop) (M : MM) (a0 : Nat) (v1 : Int32) (v3 : Int32) (t0 : Int32) (t1 : Int32) : Prop := K8 M a0 v1 (t1 + t0) (v3 + 1)
def B_X6_blocks_43 (Z : ZZ) (Q : Int32 → MM → Prop) (K8 : MM → Nat → Int32 → Int32 → Int32 → Prop) (M : MM) (a0 : Nat) (v1 : Int32) (v2 : Int32) (v3 : Int32) (t0 : Int32) : Prop := (t0 = 0 → (B_X6_blocks_69 Z Q (fun M1 a0 v1 v3 t0 t1 => B_X6_blocks_70 Z Q K8 M1 a0 v1 v3 t0 t1) M a0 v1 v3 v2)) ∧ (¬ t0 = 0 → ((v1 < 2 → (B_X6_blocks_65 Z Q (fun M1 a0 v1 v3 t0 t1 => B_X6_blocks_70 Z Q K8 M1 a0 v1 v3 t0 t1) M a0 v1 v3 v2)) ∧ (¬ v1 < 2 → ((zK Z a0 = 6 ∧ (P_X6_way Z M a0 v3 (fun r58 M58 => (¬ r58 = (-1) → (B_X6_blocks_69 Z Q (fun M1 a0 v1 v3 t0 t1 => B_X6_blocks_70 Z Q K8 M1 a0 v1 v3 t0 t1) M58 a0 v1 v3 v2)) ∧ (r58 = (-1) → (B_X6_blocks_65 Z Q (fun M1 a0 v1 v3 t0 t1 => B_X6_blocks_70 Z Q K8 M1 a0 v1 v3 t0 t1) M58 a0 v1 v3 v2)))))))))
def B_X6_blocks_8 (Z : ZZ) (Q : Int32 → MM → Prop) (K8 : MM → Nat → Int32 → Int32 → Int32 → Prop) (M : MM) (a0 : Nat) (v1 : Int32) (v2 : Int32) (v3 : Int32) : Prop := (zK Z a0 = 6 ∧ (P_X6_cells Z M a0  (fun r10 M10 => (r10 ≤ v3 → (Q v2 M10)) ∧ (¬ r10 ≤ v3 → ((∃ y17_1, zR Z 23 a0 = some y17_1 ∧ (zK Z y17_1 = 7 ∧ (vp_in v3 (zN Z y17_1) ∧ (¬ (mA M10 y17_1 v3.toNatClampNeg) = v3 → (B_X6_blocks_42 Z Q (fun M1 a0 v1 v2 v3 t0 => B_X6_blocks_43 Z Q K8 M1 a0 v1 v2 v3 t0) M10 a0 v1 v2 v3)) ∧ ((mA M10 y17_1 v3.toNatClampNeg) = v3 → ((v1 = 0 → (B_X6_blocks_38 Z Q (fun M1 a0 v1 v2 v3 t0 => B_X6_blocks_43 Z Q K8 M1 a0 v1 v2 v3 t0) M10 a0 v1 v2 v3)) ∧ (¬ v1 = 0 → ((P_X6_isHeld Z M10 a0 v3 (fun r32 M32 => (¬ r32 = 0 → (B_X6_blocks_42 Z Q (fun M1 a0 v1 v2 v3 t0 => B_X6_blocks_43 Z Q K8 M1 a0 v1 v2 v3 t0) M32 a0 v1 v2 v3)) ∧ (r32 = 0 → (B_X6_blocks_38 Z Q (fun M1 a0 v1 v2 v3 t0 => B_X6_blocks_43 Z Q K8 M1 a0 v1 v2 v3 t0) M32 a0 v1 v2 v3))))))))))))))))
def L_X6_blocks_8 (Z : ZZ) (Q : Int32 → MM → Prop)  : Nat → MM → Nat → Int32 → Int32 → Int32 → Prop
  | 0 => fun _ _ _ _ _ => False
  | n + 1 => B_X6_blocks_8 Z Q  (L_X6_blocks_8 Z Q   n)
def B_X6_blocks_0 (Z : ZZ) (Q : Int32 → MM → Prop)  (M : MM) (a0 : Nat) (v1 : Int32) : Prop := (zK Z a0 = 6 ∧ (P_X6_findsBlocks Z M a0  (fun M3 => ∃ n, L_X6_blocks_8 Z Q  n M3 a0 v1 0 0)))
def P_X6_blocks (Z : ZZ) (M : MM) (a0 : Nat) (v1 : Int32) (Q : Int32 → MM → Prop) : Prop := B_X6_blocks_0 Z Q M a0 v1
def rm_X6_blocks : Room := { frames := 5, cells := 0, slots := 0, locals := 110 }
/-! IceFieldModel.sum(I)I -/
def B_X6_sum_81 (Z : ZZ) (Q : Int32 → MM → Prop) (K4 : MM → Nat → Int32 → Int32 → Int32 → Prop) (M : MM) (a0 : Nat) (v1 : Int32) (v3 : Int32) (t0 : Int32) (t1 : Int32) : Prop := K4 M a0 v1 (t1 + t0) (v3 + 1)
def B_X6_sum_4 (Z : ZZ) (Q : Int32 → MM → Prop) (K4 : MM → Nat → Int32 → Int32 → Int32 → Prop) (M : MM) (a0 : Nat) (v1 : Int32) (v2 : Int32) (v3 : Int32) : Prop := (zK Z a0 = 6 ∧ (P_X6_cells Z M a0  (fun r6 M6 => (r6 ≤ v3 → (Q v2 M6)) ∧ (¬ r6 ≤ v3 → ((∃ y13_1, zR Z 20 a0 = some y13_1 ∧ (zK Z y13_1 = 7 ∧ (vp_in (57 + v3) (zN Z y13_1) ∧ (¬ v1 = 10 → ((¬ v1 = 2 → (B_X6_sum_81 Z Q K4 M6 a0 v1 v3 ((((mA M6 y13_1 (57 + v3).toNatClampNeg) &&& 1) + (((mA M6 y13_1 (57 + v3).toNatClampNeg) >>> ((1 : Int32) &&& 31)) &&& 1)) + (((mA M6 y13_1 (57 + v3).toNatClampNeg) >>> ((2 : Int32) &&& 31)) &&& 1)) v2)) ∧ (v1 = 2 → ((P_X6_isIce Z M6 a0 v3 (fun r49 M49 => (r49 = 0 → (B_X6_sum_81 Z Q K4 M49 a0 v1 v3 0 v2)) ∧ (¬ r49 = 0 → (B_X6_sum_81 Z Q K4 M49 a0 v1 v3 1 v2)))))))) ∧ (v1 = 10 → ((vp_in (8 + v3) (zN Z y13_1) ∧ B_X6_sum_81 Z Q K4 M6 a0 v1 v3 (mA M6 y13_1 (8 + v3).toNatClampNeg) v2)))))))))))
def L_X6_sum_4 (Z : ZZ) (Q : Int32 → MM → Prop)  : Nat → MM → Nat → Int32 → Int32 → Int32 → Prop
  | 0 => fun _ _ _ _ _ => False
  | n + 1 => B_X6_sum_4 Z Q  (L_X6_sum_4 Z Q   n)
def B_X6_sum_0 (Z : ZZ) (Q : Int32 → MM → Prop)  (M : MM) (a0 : Nat) (v1 : Int32) : Prop := ∃ n, L_X6_sum_4 Z Q  n M a0 v1 0 0
def P_X6_sum (Z : ZZ) (M : MM) (a0 : Nat) (v1 : Int32) (Q : Int32 → MM → Prop) : Prop := B_X6_sum_0 Z Q M a0 v1
def rm_X6_sum : Room := { frames := 1, cells := 0, slots := 0, locals := 21 }
/-! IceFieldModel.valueOf(I)I -/
def B_X6_valueOf_0 (Z : ZZ) (Q : Int32 → MM → Prop)  (M : MM) (a0 : Nat) (v1 : Int32) : Prop := (v1 = 0 → ((zK Z a0 = 6 ∧ (∃ y73_1, zR Z 20 a0 = some y73_1 ∧ (zK Z y73_1 = 7 ∧ (vp_in v1 (zN Z y73_1) ∧ Q (mA M y73_1 v1.toNatClampNeg) M)))))) ∧ (¬ v1 = 0 → (v1 = 1 → ((zK Z a0 = 6 ∧ (∃ y73_4, zR Z 20 a0 = some y73_4 ∧ (zK Z y73_4 = 7 ∧ (vp_in v1 (zN Z y73_4) ∧ Q (mA M y73_4 v1.toNatClampNeg) M)))))) ∧ (¬ v1 = 1 → (v1 = 2 → ((zK Z a0 = 6 ∧ (P_X6_sum Z M a0 v1 (fun r133 M133 => Q r133 M133))))) ∧ (¬ v1 = 2 → (v1 = 3 → ((zK Z a0 = 6 ∧ (P_X6_blocks Z M a0 (v1 - 3) (fun r83 M83 => Q r83 M83))))) ∧ (¬ v1 = 3 → (v1 = 4 → ((zK Z a0 = 6 ∧ (P_X6_blocks Z M a0 (v1 - 3) (fun r83 M83 => Q r83 M83))))) ∧ (¬ v1 = 4 → (v1 = 5 → ((zK Z a0 = 6 ∧ (P_X6_blocks Z M a0 (v1 - 3) (fun r83 M83 => Q r83 M83))))) ∧ (¬ v1 = 5 → (v1 = 6 → ((zK Z a0 = 6 ∧ (P_X6_sum Z M a0 v1 (fun r133 M133 => Q r133 M133))))) ∧ (¬ v1 = 6 → (v1 = 7 → ((zK Z a0 = 6 ∧ (∃ y88_12, zR Z 20 a0 = some y88_12 ∧ (zK Z y88_12 = 7 ∧ (vp_in 2 (zN Z y88_12) ∧ Q (mA M y88_12 (2 : Int32).toNatClampNeg) M)))))) ∧ (¬ v1 = 7 → (v1 = 8 → ((zK Z a0 = 6 ∧ (∃ y95_15, zR Z 20 a0 = some y95_15 ∧ (zK Z y95_15 = 7 ∧ (vp_in 3 (zN Z y95_15) ∧ Q (mA M y95_15 (3 : Int32).toNatClampNeg) M)))))) ∧ (¬ v1 = 8 → (v1 = 9 → ((zK Z a0 = 6 ∧ (∃ y102_18, zR Z 20 a0 = some y102_18 ∧ (zK Z y102_18 = 7 ∧ (vp_in 4 (zN Z y102_18) ∧ Q (mA M y102_18 (4 : Int32).toNatClampNeg) M)))))) ∧ (¬ v1 = 9 → (v1 = 10 → ((zK Z a0 = 6 ∧ (P_X6_sum Z M a0 v1 (fun r133 M133 => Q r133 M133))))) ∧ (¬ v1 = 10 → (v1 = 11 → ((zK Z a0 = 6 ∧ (∃ y109_22, zR Z 20 a0 = some y109_22 ∧ (zK Z y109_22 = 7 ∧ (vp_in 5 (zN Z y109_22) ∧ Q (mA M y109_22 (5 : Int32).toNatClampNeg) M)))))) ∧ (¬ v1 = 11 → (v1 = 12 → ((zK Z a0 = 6 ∧ (∃ y116_25, zR Z 20 a0 = some y116_25 ∧ (zK Z y116_25 = 7 ∧ (vp_in 6 (zN Z y116_25) ∧ Q (mA M y116_25 (6 : Int32).toNatClampNeg) M)))))) ∧ (¬ v1 = 12 → (v1 = 13 → ((zK Z a0 = 6 ∧ (∃ y124_28, zR Z 20 a0 = some y124_28 ∧ (zK Z y124_28 = 7 ∧ (vp_in 7 (zN Z y124_28) ∧ Q (mA M y124_28 (7 : Int32).toNatClampNeg) M)))))) ∧ (¬ v1 = 13 → ((zK Z a0 = 6 ∧ (P_X6_sum Z M a0 v1 (fun r133 M133 => Q r133 M133))))))))))))))))))
def P_X6_valueOf (Z : ZZ) (M : MM) (a0 : Nat) (v1 : Int32) (Q : Int32 → MM → Prop) : Prop := B_X6_valueOf_0 Z Q M a0 v1
def rm_X6_valueOf : Room := { frames := 6, cells := 0, slots := 0, locals := 134 }
/-! IceFieldModel.value(I)I -/
def B_X6_value_0 (Z : ZZ) (Q : Int32 → MM → Prop)  (M : MM) (a0 : Nat) (v1 : Int32) : Prop := (P_X6_in Z M v1.toInt64 0 13 (fun r6 M6 => (r6 = 0 → ((zK Z a0 = 6 ∧ (P_X6_throwing Z M6 a0 1 (fun r26 M26 => Q r26 M26))))) ∧ (¬ r6 = 0 → ((zK Z a0 = 6 ∧ (P_X6_valueOf Z M6 a0 v1 (fun r15 M15 => (P_X6_fine Z M15 a0 r15 (fun r18 M18 => Q r18 M18)))))))))
def P_X6_value (Z : ZZ) (M : MM) (a0 : Nat) (v1 : Int32) (Q : Int32 → MM → Prop) : Prop := B_X6_value_0 Z Q M a0 v1
def rm_X6_value : Room := { frames := 7, cells := 0, slots := 0, locals := 155 }
/-! IceFieldModel.kept()I -/
def B_X6_kept_0 (Z : ZZ) (Q : Int32 → MM → Prop)  (M : MM) (a0 : Nat) : Prop := (zK Z a0 = 6 ∧ (∃ y1_1, zR Z 20 a0 = some y1_1 ∧ (zK Z y1_1 = 7 ∧ (vp_in 7 (zN Z y1_1) ∧ (40 ≤ (mA M y1_1 (7 : Int32).toNatClampNeg) → (Q 40 M)) ∧ (¬ 40 ≤ (mA M y1_1 (7 : Int32).toNatClampNeg) → ((vp_in 7 (zN Z y1_1) ∧ Q (mA M y1_1 (7 : Int32).toNatClampNeg) M)))))))
def P_X6_kept (Z : ZZ) (M : MM) (a0 : Nat) (Q : Int32 → MM → Prop) : Prop := B_X6_kept_0 Z Q M a0
def rm_X6_kept : Room := { frames := 0, cells := 0, slots := 0, locals := 0 }
/-! IceFieldModel.taken(II)I -/
def B_X6_taken_0 (Z : ZZ) (Q : Int32 → MM → Prop)  (M : MM) (a0 : Nat) (v1 : Int32) (v2 : Int32) : Prop := (zK Z a0 = 6 ∧ (P_X6_kept Z M a0  (fun r4 M4 => (P_X6_in Z M4 v1.toInt64 0 (r4.toInt64 - 1) (fun r10 M10 => (¬ r10 = 0 → ((P_X6_in Z M10 v2.toInt64 0 2 (fun r28 M28 => (r28 = 0 → ((P_X6_throwing Z M28 a0 2 (fun r56 M56 => Q r56 M56)))) ∧ (¬ r28 = 0 → ((∃ y36_1, zR Z 20 a0 = some y36_1 ∧ (zK Z y36_1 = 7 ∧ (vp_in ((106 + (3 * v1)) + v2) (zN Z y36_1) ∧ (P_X6_fine Z M28 a0 (mA M28 y36_1 ((106 + (3 * v1)) + v2).toNatClampNeg) (fun r48 M48 => Q r48 M48))))))))))) ∧ (r10 = 0 → ((P_X6_throwing Z M10 a0 1 (fun r18 M18 => Q r18 M18)))))))))
def P_X6_taken (Z : ZZ) (M : MM) (a0 : Nat) (v1 : Int32) (v2 : Int32) (Q : Int32 → MM → Prop) : Prop := B_X6_taken_0 Z Q M a0 v1 v2
def rm_X6_taken : Room := { frames := 1, cells := 0, slots := 0, locals := 25 }
/-! IceFieldModel.takableNow()I -/
def B_X6_takableNow_0 (Z : ZZ) (Q : Int32 → MM → Prop)  (M : MM) (a0 : Nat) : Prop := (zK Z a0 = 6 ∧ (P_X6_laysAside Z M a0  (fun M1 => (P_X6_takesAll Z M1 a0  (fun r5 M5 => (P_X6_takesBack Z M5 a0  (fun M10 => Q r5 M10)))))))
def P_X6_takableNow (Z : ZZ) (M : MM) (a0 : Nat) (Q : Int32 → MM → Prop) : Prop := B_X6_takableNow_0 Z Q M a0
def rm_X6_takableNow : Room := { frames := 7, cells := 0, slots := 0, locals := 155 }
/-! IceFieldModel.takable()I -/
def B_X6_takable_0 (Z : ZZ) (Q : Int32 → MM → Prop)  (M : MM) (a0 : Nat) : Prop := (zK Z a0 = 6 ∧ (P_X6_takableNow Z M a0  (fun r2 M2 => (P_X6_fine Z M2 a0 r2 (fun r5 M5 => Q r5 M5)))))
def P_X6_takable (Z : ZZ) (M : MM) (a0 : Nat) (Q : Int32 → MM → Prop) : Prop := B_X6_takable_0 Z Q M a0
def rm_X6_takable : Room := { frames := 8, cells := 0, slots := 0, locals := 176 }
/-! IceFieldModel.leftStranded()I -/
def B_X6_leftStranded_0 (Z : ZZ) (Q : Int32 → MM → Prop)  (M : MM) (a0 : Nat) : Prop := (zK Z a0 = 6 ∧ (P_X6_laysAside Z M a0  (fun M1 => (P_X6_takesAll Z M1 a0  (fun r5 M5 => (P_X6_blocks Z M5 a0 1 (fun r11 M11 => (P_X6_takesBack Z M11 a0  (fun M16 => (P_X6_fine Z M16 a0 r11 (fun r21 M21 => Q r21 M21)))))))))))
def P_X6_leftStranded (Z : ZZ) (M : MM) (a0 : Nat) (Q : Int32 → MM → Prop) : Prop := B_X6_leftStranded_0 Z Q M a0
def rm_X6_leftStranded : Room := { frames := 7, cells := 0, slots := 0, locals := 155 }
/-! IceFieldModel.isWhole(I)Z -/
def B_X6_isWhole_34 (Z : ZZ) (Q : Int32 → MM → Prop) (K39 : MM → Nat → Int32 → Int32 → Int32 → Prop) (M : MM) (a0 : Nat) (v1 : Int32) (v3 : Int32) : Prop := K39 M a0 v1 v3 1
def B_X6_isWhole_38 (Z : ZZ) (Q : Int32 → MM → Prop) (K39 : MM → Nat → Int32 → Int32 → Int32 → Prop) (M : MM) (a0 : Nat) (v1 : Int32) (v3 : Int32) : Prop := K39 M a0 v1 v3 0
def B_X6_isWhole_39 (Z : ZZ) (Q : Int32 → MM → Prop) (K4 : MM → Nat → Int32 → Int32 → Int32 → Prop) (M : MM) (a0 : Nat) (v1 : Int32) (v3 : Int32) (t0 : Int32) : Prop := K4 M a0 v1 t0 (v3 + 1)
def B_X6_isWhole_4 (Z : ZZ) (Q : Int32 → MM → Prop) (K4 : MM → Nat → Int32 → Int32 → Int32 → Prop) (M : MM) (a0 : Nat) (v1 : Int32) (v2 : Int32) (v3 : Int32) : Prop := (zK Z a0 = 6 ∧ (P_X6_cells Z M a0  (fun r6 M6 => (r6 ≤ v3 → ((zb v2 ∧ Q v2 M6))) ∧ (¬ r6 ≤ v3 → ((v2 = 0 → (B_X6_isWhole_38 Z Q (fun M1 a0 v1 v3 t0 => B_X6_isWhole_39 Z Q K4 M1 a0 v1 v3 t0) M6 a0 v1 v3)) ∧ (¬ v2 = 0 → ((∃ y17_1, zR Z 23 a0 = some y17_1 ∧ (zK Z y17_1 = 7 ∧ (vp_in v3 (zN Z y17_1) ∧ (¬ (mA M6 y17_1 v3.toNatClampNeg) = v1 → (B_X6_isWhole_34 Z Q (fun M1 a0 v1 v3 t0 => B_X6_isWhole_39 Z Q K4 M1 a0 v1 v3 t0) M6 a0 v1 v3)) ∧ ((mA M6 y17_1 v3.toNatClampNeg) = v1 → ((P_X6_isIce Z M6 a0 v3 (fun r28 M28 => (r28 = 0 → (B_X6_isWhole_38 Z Q (fun M1 a0 v1 v3 t0 => B_X6_isWhole_39 Z Q K4 M1 a0 v1 v3 t0) M28 a0 v1 v3)) ∧ (¬ r28 = 0 → (B_X6_isWhole_34 Z Q (fun M1 a0 v1 v3 t0 => B_X6_isWhole_39 Z Q K4 M1 a0 v1 v3 t0) M28 a0 v1 v3))))))))))))))))
def L_X6_isWhole_4 (Z : ZZ) (Q : Int32 → MM → Prop)  : Nat → MM → Nat → Int32 → Int32 → Int32 → Prop
  | 0 => fun _ _ _ _ _ => False
  | n + 1 => B_X6_isWhole_4 Z Q  (L_X6_isWhole_4 Z Q   n)
def B_X6_isWhole_0 (Z : ZZ) (Q : Int32 → MM → Prop)  (M : MM) (a0 : Nat) (v1 : Int32) : Prop := ∃ n, L_X6_isWhole_4 Z Q  n M a0 v1 1 0
def P_X6_isWhole (Z : ZZ) (M : MM) (a0 : Nat) (v1 : Int32) (Q : Int32 → MM → Prop) : Prop := B_X6_isWhole_0 Z Q M a0 v1
def rm_X6_isWhole : Room := { frames := 1, cells := 0, slots := 0, locals := 21 }
/-! IceFieldModel.daysWhole(I)I -/
def B_X6_daysWhole_38 (Z : ZZ) (Q : Int32 → MM → Prop)  (M : MM) (a0 : Nat) : Prop := (zK Z a0 = 6 ∧ (P_X6_fine Z M a0 (-1) (fun r40 M40 => Q r40 M40)))
def B_X6_daysWhole_112 (Z : ZZ) (Q : Int32 → MM → Prop)  (M : MM) (t0 : Int32) (t1 : Nat) : Prop := (zK Z t1 = 6 ∧ (P_X6_fine Z M t1 t0 (fun r112 M112 => Q r112 M112)))
def B_X6_daysWhole_95 (Z : ZZ) (Q : Int32 → MM → Prop)  (M : MM) (a0 : Nat) (v3 : Int32) (t0 : Int32) : Prop := (zK Z a0 = 6 ∧ (P_X6_takesBack Z M a0  (fun M98 => (t0 = 0 → (B_X6_daysWhole_112 Z Q  M98 (-1) a0)) ∧ (¬ t0 = 0 → (B_X6_daysWhole_112 Z Q  M98 v3 a0)))))
def B_X6_daysWhole_82 (Z : ZZ) (Q : Int32 → MM → Prop)  (M : MM) (a0 : Nat) (v2 : Int32) (v3 : Int32) : Prop := (zK Z a0 = 6 ∧ (P_X6_isWhole Z M a0 v2 (fun r84 M84 => (¬ r84 = 0 → (B_X6_daysWhole_95 Z Q  M84 a0 v3 0)) ∧ (r84 = 0 → (B_X6_daysWhole_95 Z Q  M84 a0 v3 1)))))
def B_X6_daysWhole_53 (Z : ZZ) (Q : Int32 → MM → Prop) (K53 : MM → Nat → Int32 → Int32 → Int32 → Prop) (M : MM) (a0 : Nat) (v2 : Int32) (v3 : Int32) (v4 : Int32) : Prop := (60 ≤ v3 → (B_X6_daysWhole_82 Z Q  M a0 v2 v3)) ∧ (¬ 60 ≤ v3 → ((zK Z a0 = 6 ∧ (P_X6_isWhole Z M a0 v2 (fun r61 M61 => (r61 = 0 → (B_X6_daysWhole_82 Z Q  M61 a0 v2 v3)) ∧ (¬ r61 = 0 → ((P_X6_day Z M61 a0  (fun r70 M70 => K53 M70 a0 v2 (v3 + 1) (v4 + r70))))))))))
def L_X6_daysWhole_53 (Z : ZZ) (Q : Int32 → MM → Prop)  : Nat → MM → Nat → Int32 → Int32 → Int32 → Prop
  | 0 => fun _ _ _ _ _ => False
  | n + 1 => B_X6_daysWhole_53 Z Q  (L_X6_daysWhole_53 Z Q   n)
def B_X6_daysWhole_0 (Z : ZZ) (Q : Int32 → MM → Prop)  (M : MM) (a0 : Nat) (v1 : Int32) : Prop := (zK Z a0 = 6 ∧ (P_X6_isCell Z M a0 v1 (fun r2 M2 => (¬ r2 = 0 → ((P_X6_findsBlocks Z M2 a0  (fun M15 => (∃ y19_1, zR Z 23 a0 = some y19_1 ∧ (zK Z y19_1 = 7 ∧ (vp_in v1 (zN Z y19_1) ∧ ((mA M15 y19_1 v1.toNatClampNeg) = (-1) → (B_X6_daysWhole_38 Z Q  M15 a0)) ∧ (¬ (mA M15 y19_1 v1.toNatClampNeg) = (-1) → ((P_X6_isHeld Z M15 a0 (mA M15 y19_1 v1.toNatClampNeg) (fun r32 M32 => (r32 = 0 → ((P_X6_laysAside Z M32 a0  (fun M45 => ∃ n, L_X6_daysWhole_53 Z Q  n M45 a0 (mA M15 y19_1 v1.toNatClampNeg) 0 0)))) ∧ (¬ r32 = 0 → (B_X6_daysWhole_38 Z Q  M32 a0))))))))))))) ∧ (r2 = 0 → ((P_X6_throwing Z M2 a0 1 (fun r10 M10 => Q r10 M10)))))))
def P_X6_daysWhole (Z : ZZ) (M : MM) (a0 : Nat) (v1 : Int32) (Q : Int32 → MM → Prop) : Prop := B_X6_daysWhole_0 Z Q M a0 v1
def rm_X6_daysWhole : Room := { frames := 5, cells := 0, slots := 0, locals := 110 }
/-! IceFieldModel.daysToWater()I -/
def B_X6_daysToWater_63 (Z : ZZ) (Q : Int32 → MM → Prop)  (M : MM) (t0 : Int32) (t1 : Nat) : Prop := (zK Z t1 = 6 ∧ (P_X6_fine Z M t1 t0 (fun r63 M63 => Q r63 M63)))
def B_X6_daysToWater_48 (Z : ZZ) (Q : Int32 → MM → Prop)  (M : MM) (a0 : Nat) (v1 : Int32) (t0 : Int32) : Prop := (zK Z a0 = 6 ∧ (P_X6_takesBack Z M a0  (fun M50 => (t0 = 0 → (B_X6_daysToWater_63 Z Q  M50 (-1) a0)) ∧ (¬ t0 = 0 → (B_X6_daysToWater_63 Z Q  M50 v1 a0)))))
def B_X6_daysToWater_35 (Z : ZZ) (Q : Int32 → MM → Prop)  (M : MM) (a0 : Nat) (v1 : Int32) : Prop := (zK Z a0 = 6 ∧ (P_X6_sum Z M a0 2 (fun r37 M37 => (¬ r37 = 0 → (B_X6_daysToWater_48 Z Q  M37 a0 v1 0)) ∧ (r37 = 0 → (B_X6_daysToWater_48 Z Q  M37 a0 v1 1)))))
def B_X6_daysToWater_8 (Z : ZZ) (Q : Int32 → MM → Prop) (K8 : MM → Nat → Int32 → Int32 → Prop) (M : MM) (a0 : Nat) (v1 : Int32) (v2 : Int32) : Prop := (60 ≤ v1 → (B_X6_daysToWater_35 Z Q  M a0 v1)) ∧ (¬ 60 ≤ v1 → ((zK Z a0 = 6 ∧ (P_X6_sum Z M a0 2 (fun r16 M16 => (r16 ≤ 0 → (B_X6_daysToWater_35 Z Q  M16 a0 v1)) ∧ (¬ r16 ≤ 0 → ((P_X6_day Z M16 a0  (fun r24 M24 => K8 M24 a0 (v1 + 1) (v2 + r24))))))))))
def L_X6_daysToWater_8 (Z : ZZ) (Q : Int32 → MM → Prop)  : Nat → MM → Nat → Int32 → Int32 → Prop
  | 0 => fun _ _ _ _ => False
  | n + 1 => B_X6_daysToWater_8 Z Q  (L_X6_daysToWater_8 Z Q   n)
def B_X6_daysToWater_0 (Z : ZZ) (Q : Int32 → MM → Prop)  (M : MM) (a0 : Nat) : Prop := (zK Z a0 = 6 ∧ (P_X6_laysAside Z M a0  (fun M1 => ∃ n, L_X6_daysToWater_8 Z Q  n M1 a0 0 0)))
def P_X6_daysToWater (Z : ZZ) (M : MM) (a0 : Nat) (Q : Int32 → MM → Prop) : Prop := B_X6_daysToWater_0 Z Q M a0
def rm_X6_daysToWater : Room := { frames := 3, cells := 0, slots := 0, locals := 67 }
/-! IceFieldModel.barredBy()I -/
def B_X6_barredBy_83 (Z : ZZ) (Q : Int32 → MM → Prop) (K95 : MM → Nat → Int32 → Int32 → Int32 → Prop) (M : MM) (a0 : Nat) (v1 : Int32) (v3 : Int32) (v4 : Int32) (t0 : Int32) : Prop := (zK Z a0 = 6 ∧ (∃ y85_1, zR Z 20 a0 = some y85_1 ∧ (zK Z y85_1 = 7 ∧ (vp_in (8 + v3) (zN Z y85_1) ∧ K95 (setA M y85_1 (upd (mA M y85_1) (8 + v3).toNatClampNeg v4)) a0 v1 t0 v3))))
def B_X6_barredBy_95 (Z : ZZ) (Q : Int32 → MM → Prop) (K15 : MM → Nat → Int32 → Int32 → Int32 → Prop) (M : MM) (a0 : Nat) (v1 : Int32) (v2 : Int32) (v3 : Int32) : Prop := K15 M a0 v1 v2 (v3 + 1)
def B_X6_barredBy_101 (Z : ZZ) (Q : Int32 → MM → Prop)  (M : MM) (a0 : Nat) (v2 : Int32) : Prop := (zK Z a0 = 6 ∧ (P_X6_fine Z M a0 v2 (fun r103 M103 => Q r103 M103)))
def B_X6_barredBy_15 (Z : ZZ) (Q : Int32 → MM → Prop) (K15 : MM → Nat → Int32 → Int32 → Int32 → Prop) (M : MM) (a0 : Nat) (v1 : Int32) (v2 : Int32) (v3 : Int32) : Prop := (zK Z a0 = 6 ∧ (P_X6_cells Z M a0  (fun r17 M17 => (r17 ≤ v3 → (B_X6_barredBy_101 Z Q  M17 a0 v2)) ∧ (¬ r17 ≤ v3 → ((v1 = (-1) → (B_X6_barredBy_101 Z Q  M17 a0 v2)) ∧ (¬ v1 = (-1) → ((¬ v2 = (-1) → (B_X6_barredBy_101 Z Q  M17 a0 v2)) ∧ (v2 = (-1) → ((∃ y34_1, zR Z 20 a0 = some y34_1 ∧ (zK Z y34_1 = 7 ∧ (vp_in (8 + v3) (zN Z y34_1) ∧ ((mA M17 y34_1 (8 + v3).toNatClampNeg) ≤ 0 → (B_X6_barredBy_95 Z Q K15 M17 a0 v1 v2 v3)) ∧ (¬ (mA M17 y34_1 (8 + v3).toNatClampNeg) ≤ 0 → ((∃ y50_3, zR Z 23 a0 = some y50_3 ∧ (zK Z y50_3 = 7 ∧ (vp_in v3 (zN Z y50_3) ∧ ((mA M17 y50_3 v3.toNatClampNeg) = v1 → (B_X6_barredBy_95 Z Q K15 M17 a0 v1 v2 v3)) ∧ (¬ (mA M17 y50_3 v3.toNatClampNeg) = v1 → ((vp_in (8 + v3) (zN Z y34_1) ∧ (P_X6_way Z (setA M17 y34_1 (upd (mA M17 y34_1) (8 + v3).toNatClampNeg 0)) a0 v1 (fun r71 M71 => (¬ r71 = (-1) → (B_X6_barredBy_83 Z Q (fun M1 a0 v1 v2 v3 => B_X6_barredBy_95 Z Q K15 M1 a0 v1 v2 v3) M71 a0 v1 v3 (mA M17 y34_1 (8 + v3).toNatClampNeg) v3)) ∧ (r71 = (-1) → (B_X6_barredBy_83 Z Q (fun M1 a0 v1 v2 v3 => B_X6_barredBy_95 Z Q K15 M1 a0 v1 v2 v3) M71 a0 v1 v3 (mA M17 y34_1 (8 + v3).toNatClampNeg) (-1)))))))))))))))))))))))))
def L_X6_barredBy_15 (Z : ZZ) (Q : Int32 → MM → Prop)  : Nat → MM → Nat → Int32 → Int32 → Int32 → Prop
  | 0 => fun _ _ _ _ _ => False
  | n + 1 => B_X6_barredBy_15 Z Q  (L_X6_barredBy_15 Z Q   n)
def B_X6_barredBy_0 (Z : ZZ) (Q : Int32 → MM → Prop)  (M : MM) (a0 : Nat) : Prop := (zK Z a0 = 6 ∧ (P_X6_findsBlocks Z M a0  (fun M1 => (P_X6_nextLoose Z M1 a0 0 0 (fun r7 M7 => ∃ n, L_X6_barredBy_15 Z Q  n M7 a0 r7 (-1) 0)))))
def P_X6_barredBy (Z : ZZ) (M : MM) (a0 : Nat) (Q : Int32 → MM → Prop) : Prop := B_X6_barredBy_0 Z Q M a0
def rm_X6_barredBy : Room := { frames := 6, cells := 0, slots := 0, locals := 133 }
/-! IceFieldModel.harvest()D -/
def B_X6_harvest_0 (Z : ZZ) (Q : UInt64 → MM → Prop)  (M : MM) (a0 : Nat) : Prop := (zK Z a0 = 6 ∧ (∃ y6_1, zR Z 20 a0 = some y6_1 ∧ (zK Z y6_1 = 7 ∧ (vp_in 5 (zN Z y6_1) ∧ (vp_in 4 (zN Z y6_1) ∧ (vp_in 4 (zN Z y6_1) ∧ (¬ (mA (setI M 15 a0 0) y6_1 (4 : Int32).toNatClampNeg) = 0 → ((vf_n64 (FP.ddiv (FP.i2d (mA (setI M 15 a0 0) y6_1 (5 : Int32).toNatClampNeg)) (FP.i2d (mA (setI M 15 a0 0) y6_1 (4 : Int32).toNatClampNeg))) ∧ Q (FP.ddiv (FP.i2d (mA (setI M 15 a0 0) y6_1 (5 : Int32).toNatClampNeg)) (FP.i2d (mA (setI M 15 a0 0) y6_1 (4 : Int32).toNatClampNeg))) (setI M 15 a0 0)))) ∧ ((mA (setI M 15 a0 0) y6_1 (4 : Int32).toNatClampNeg) = 0 → (Q FP.dconst0 (setI M 15 a0 0)))))))))
def P_X6_harvest (Z : ZZ) (M : MM) (a0 : Nat) (Q : UInt64 → MM → Prop) : Prop := B_X6_harvest_0 Z Q M a0
def rm_X6_harvest : Room := { frames := 0, cells := 0, slots := 0, locals := 0 }
/-! IceFieldModel.append(I)I -/
def B_X6_append_0 (Z : ZZ) (Q : Int32 → MM → Prop)  (M : MM) (a0 : Nat) (v1 : Int32) : Prop := (P_X6_in Z M v1.toInt64 0 127 (fun r6 M6 => (¬ r6 = 0 → ((zK Z a0 = 6 ∧ (¬ (mI M6 16 a0) = 60 → ((∃ y34_1, zR Z 26 a0 = some y34_1 ∧ (zK Z y34_1 = 7 ∧ (vp_in (mI M6 16 a0) (zN Z y34_1) ∧ (P_X6_fine Z (setI (setA M6 y34_1 (upd (mA M6 y34_1) (mI M6 16 a0).toNatClampNeg v1)) 16 a0 ((mI (setA M6 y34_1 (upd (mA M6 y34_1) (mI M6 16 a0).toNatClampNeg v1)) 16 a0) + 1)) a0 (mI (setI (setA M6 y34_1 (upd (mA M6 y34_1) (mI M6 16 a0).toNatClampNeg v1)) 16 a0 ((mI (setA M6 y34_1 (upd (mA M6 y34_1) (mI M6 16 a0).toNatClampNeg v1)) 16 a0) + 1)) 16 a0) (fun r58 M58 => Q r58 M58))))))) ∧ ((mI M6 16 a0) = 60 → ((P_X6_throwing Z M6 a0 2 (fun r29 M29 => Q r29 M29))))))) ∧ (r6 = 0 → ((zK Z a0 = 6 ∧ (P_X6_throwing Z M6 a0 1 (fun r14 M14 => Q r14 M14)))))))
def P_X6_append (Z : ZZ) (M : MM) (a0 : Nat) (v1 : Int32) (Q : Int32 → MM → Prop) : Prop := B_X6_append_0 Z Q M a0 v1
def rm_X6_append : Room := { frames := 1, cells := 0, slots := 0, locals := 25 }
/-! IceFieldModel.clearText()I -/
def B_X6_clearText_0 (Z : ZZ) (Q : Int32 → MM → Prop)  (M : MM) (a0 : Nat) : Prop := (zK Z a0 = 6 ∧ (P_X6_fine Z (setI M 16 a0 0) a0 (mI M 16 a0) (fun r12 M12 => Q r12 M12)))
def P_X6_clearText (Z : ZZ) (M : MM) (a0 : Nat) (Q : Int32 → MM → Prop) : Prop := B_X6_clearText_0 Z Q M a0
def rm_X6_clearText : Room := { frames := 1, cells := 0, slots := 0, locals := 21 }
/-! IceFieldModel.here(I)I -/
def B_X6_here_0 (Z : ZZ) (Q : Int32 → MM → Prop)  (M : MM) (a0 : Nat) (v1 : Int32) : Prop := (zK Z a0 = 6 ∧ ((mI M 16 a0) ≤ v1 → (Q (-1) M)) ∧ (¬ (mI M 16 a0) ≤ v1 → ((∃ y9_1, zR Z 26 a0 = some y9_1 ∧ (zK Z y9_1 = 7 ∧ (vp_in v1 (zN Z y9_1) ∧ Q (mA M y9_1 v1.toNatClampNeg) M))))))
def P_X6_here (Z : ZZ) (M : MM) (a0 : Nat) (v1 : Int32) (Q : Int32 → MM → Prop) : Prop := B_X6_here_0 Z Q M a0 v1
def rm_X6_here : Room := { frames := 0, cells := 0, slots := 0, locals := 0 }
/-! IceFieldModel.behindDigits(II)I -/
def B_X6_behindDigits_2 (Z : ZZ) (Q : Int32 → MM → Prop) (K2 : MM → Nat → Int32 → Int32 → Int32 → Prop) (M : MM) (a0 : Nat) (v1 : Int32) (v2 : Int32) (v3 : Int32) : Prop := (zK Z a0 = 6 ∧ (P_X6_here Z M a0 v3 (fun r4 M4 => (P_X6_in Z M4 r4.toInt64 48 57 (fun r14 M14 => (r14 = 0 → (Q v3 M14)) ∧ (¬ r14 = 0 → ((v2 ≤ (v3 - v1) → (Q v3 M14)) ∧ (¬ v2 ≤ (v3 - v1) → (K2 M14 a0 v1 v2 (v3 + 1))))))))))
def L_X6_behindDigits_2 (Z : ZZ) (Q : Int32 → MM → Prop)  : Nat → MM → Nat → Int32 → Int32 → Int32 → Prop
  | 0 => fun _ _ _ _ _ => False
  | n + 1 => B_X6_behindDigits_2 Z Q  (L_X6_behindDigits_2 Z Q   n)
def B_X6_behindDigits_0 (Z : ZZ) (Q : Int32 → MM → Prop)  (M : MM) (a0 : Nat) (v1 : Int32) (v2 : Int32) : Prop := ∃ n, L_X6_behindDigits_2 Z Q  n M a0 v1 v2 v1
def P_X6_behindDigits (Z : ZZ) (M : MM) (a0 : Nat) (v1 : Int32) (v2 : Int32) (Q : Int32 → MM → Prop) : Prop := B_X6_behindDigits_0 Z Q M a0 v1 v2
def rm_X6_behindDigits : Room := { frames := 1, cells := 0, slots := 0, locals := 25 }
/-! IceFieldModel.fault()I -/
def B_X6_fault_28 (Z : ZZ) (Q : Int32 → MM → Prop) (K28 : MM → Nat → Int32 → Prop) (M : MM) (a0 : Nat) (v1 : Int32) : Prop := (zK Z a0 = 6 ∧ ((mI M 16 a0) ≤ v1 → ((2 ≤ (mI M 18 a0) → (Q (-1) M)) ∧ (¬ 2 ≤ (mI M 18 a0) → (Q v1 M)))) ∧ (¬ (mI M 16 a0) ≤ v1 → ((P_X6_here Z M a0 v1 (fun r38 M38 => (¬ r38 = 47 → (Q v1 M38)) ∧ (r38 = 47 → ((¬ (mI M38 18 a0) = 7 → ((P_X6_behindDigits Z M38 a0 (v1 + 1) (mI M38 17 a0) (fun r65 M65 => ((mI M65 17 a0) ≤ ((r65 - v1) - 1) → (K28 (setI M65 18 a0 ((mI M65 18 a0) + 1)) a0 r65)) ∧ (¬ (mI M65 17 a0) ≤ ((r65 - v1) - 1) → (Q r65 M65)))))) ∧ ((mI M38 18 a0) = 7 → (Q v1 M38)))))))))
def L_X6_fault_28 (Z : ZZ) (Q : Int32 → MM → Prop)  : Nat → MM → Nat → Int32 → Prop
  | 0 => fun _ _ _ => False
  | n + 1 => B_X6_fault_28 Z Q  (L_X6_fault_28 Z Q   n)
def B_X6_fault_0 (Z : ZZ) (Q : Int32 → MM → Prop)  (M : MM) (a0 : Nat) : Prop := (zK Z a0 = 6 ∧ (P_X6_behindDigits Z M a0 0 7 (fun r4 M4 => (2 ≤ (mI (setI (setI M4 17 a0 r4) 18 a0 1) 17 a0) → (∃ n, L_X6_fault_28 Z Q  n (setI (setI M4 17 a0 r4) 18 a0 1) a0 r4)) ∧ (¬ 2 ≤ (mI (setI (setI M4 17 a0 r4) 18 a0 1) 17 a0) → (Q r4 (setI (setI M4 17 a0 r4) 18 a0 1))))))
def P_X6_fault (Z : ZZ) (M : MM) (a0 : Nat) (Q : Int32 → MM → Prop) : Prop := B_X6_fault_0 Z Q M a0
def rm_X6_fault : Room := { frames := 2, cells := 0, slots := 0, locals := 48 }
/-! IceFieldModel.parse()I -/
def B_X6_parse_37 (Z : ZZ) (Q : Int32 → MM → Prop) (K37 : MM → Nat → Int32 → Prop) (M : MM) (a0 : Nat) (v2 : Int32) : Prop := (zK Z a0 = 6 ∧ (P_X6_cells Z M a0  (fun r39 M39 => (r39 ≤ v2 → ((∃ y74_1, zR Z 20 a0 = some y74_1 ∧ (zK Z y74_1 = 7 ∧ (vp_in 4 (zN Z y74_1) ∧ (P_X6_fine Z M39 a0 (mA M39 y74_1 (4 : Int32).toNatClampNeg) (fun r79 M79 => Q r79 M79))))))) ∧ (¬ r39 ≤ v2 → ((∃ y48_3, zR Z 26 a0 = some y48_3 ∧ (¬ (mI M39 17 a0) = 0 ∧ (zK Z y48_3 = 7 ∧ (vp_in (v2 + (v2 / (mI M39 17 a0))) (zN Z y48_3) ∧ (P_X6_puts Z M39 a0 v2 ((mA M39 y48_3 (v2 + (v2 / (mI M39 17 a0))).toNatClampNeg) - 48) (fun M63 => K37 M63 a0 (v2 + 1))))))))))))
def L_X6_parse_37 (Z : ZZ) (Q : Int32 → MM → Prop)  : Nat → MM → Nat → Int32 → Prop
  | 0 => fun _ _ _ => False
  | n + 1 => B_X6_parse_37 Z Q  (L_X6_parse_37 Z Q   n)
def B_X6_parse_0 (Z : ZZ) (Q : Int32 → MM → Prop)  (M : MM) (a0 : Nat) : Prop := (zK Z a0 = 6 ∧ (P_X6_fault Z M a0  (fun r1 M1 => (r1 = (-1) → ((P_X6_save Z M1 a0  (fun M20 => (P_X6_makes Z M20 a0 (mI M20 17 a0) (mI M20 18 a0) (fun M32 => ∃ n, L_X6_parse_37 Z Q  n M32 a0 0)))))) ∧ (¬ r1 = (-1) → ((P_X6_fine Z M1 a0 ((-10) - r1) (fun r15 M15 => Q r15 M15)))))))
def P_X6_parse (Z : ZZ) (M : MM) (a0 : Nat) (Q : Int32 → MM → Prop) : Prop := B_X6_parse_0 Z Q M a0
def rm_X6_parse : Room := { frames := 3, cells := 0, slots := 0, locals := 70 }
/-! IceFieldModel.undo()I -/
def B_X6_undo_25 (Z : ZZ) (Q : Int32 → MM → Prop) (K25 : MM → Nat → Int32 → Prop) (M : MM) (a0 : Nat) (v1 : Int32) : Prop := (226 ≤ v1 → ((zK Z a0 = 6 ∧ (P_X6_fine Z M a0 (mI M 14 a0) (fun r64 M64 => Q r64 M64))))) ∧ (¬ 226 ≤ v1 → ((zK Z a0 = 6 ∧ (∃ y33_2, zR Z 20 a0 = some y33_2 ∧ (∃ y38_3, zR Z 21 a0 = some y38_3 ∧ (zK Z y38_3 = 7 ∧ (vp_in ((226 * (mI M 14 a0)) + v1) (zN Z y38_3) ∧ (zK Z y33_2 = 7 ∧ (vp_in v1 (zN Z y33_2) ∧ K25 (setA M y33_2 (upd (mA M y33_2) v1.toNatClampNeg (mA M y38_3 ((226 * (mI M 14 a0)) + v1).toNatClampNeg))) a0 (v1 + 1))))))))))
def L_X6_undo_25 (Z : ZZ) (Q : Int32 → MM → Prop)  : Nat → MM → Nat → Int32 → Prop
  | 0 => fun _ _ _ => False
  | n + 1 => B_X6_undo_25 Z Q  (L_X6_undo_25 Z Q   n)
def B_X6_undo_0 (Z : ZZ) (Q : Int32 → MM → Prop)  (M : MM) (a0 : Nat) : Prop := (zK Z a0 = 6 ∧ (¬ (mI M 14 a0) = 0 → (∃ n, L_X6_undo_25 Z Q  n (setI M 14 a0 ((mI M 14 a0) - 1)) a0 0)) ∧ ((mI M 14 a0) = 0 → ((P_X6_throwing Z M a0 1 (fun r9 M9 => Q r9 M9)))))
def P_X6_undo (Z : ZZ) (M : MM) (a0 : Nat) (Q : Int32 → MM → Prop) : Prop := B_X6_undo_0 Z Q M a0
def rm_X6_undo : Room := { frames := 1, cells := 0, slots := 0, locals := 21 }
/-! IceFieldModel.digest()J -/
def B_X6_digest_59 (Z : ZZ) (Q : Int64 → MM → Prop) (K48 : MM → Nat → Int64 → Int32 → Prop) (K59 : MM → Nat → Int64 → Int32 → Int32 → Prop) (M : MM) (a0 : Nat) (v1 : Int64) (v3 : Int32) (v4 : Int32) : Prop := (7 ≤ v4 → ((zK Z a0 = 6 ∧ (P_X6_blockOf Z M a0 v3 3 (fun r98 M98 => (P_X6_blockOf Z M98 a0 v3 4 (fun r107 M107 => K48 M107 a0 ((31 * ((31 * v1) + r98.toInt64)) + r107.toInt64) (v3 + 1)))))))) ∧ (¬ 7 ≤ v4 → ((zK Z a0 = 6 ∧ (P_X6_cellOf Z M a0 v3 v4 (fun r75 M75 => K59 M75 a0 ((31 * v1) + r75.toInt64) v3 (v4 + 1))))))
def L_X6_digest_59 (Z : ZZ) (Q : Int64 → MM → Prop) (K48 : MM → Nat → Int64 → Int32 → Prop) : Nat → MM → Nat → Int64 → Int32 → Int32 → Prop
  | 0 => fun _ _ _ _ _ => False
  | n + 1 => B_X6_digest_59 Z Q  K48 (L_X6_digest_59 Z Q  K48 n)
def B_X6_digest_121 (Z : ZZ) (Q : Int64 → MM → Prop) (K121 : MM → Nat → Int64 → Int32 → Prop) (M : MM) (a0 : Nat) (v1 : Int64) (v3 : Int32) : Prop := (zK Z a0 = 6 ∧ (P_X6_kept Z M a0  (fun r124 M124 => ((3 * r124) ≤ v3 → ((P_X6_takableNow Z M124 a0  (fun r163 M163 => Q ((31 * ((31 * v1) + r163.toInt64)) + ((mI M163 14 a0).toInt64)) M163)))) ∧ (¬ (3 * r124) ≤ v3 → ((∃ y137_1, zR Z 20 a0 = some y137_1 ∧ (zK Z y137_1 = 7 ∧ (vp_in (106 + v3) (zN Z y137_1) ∧ K121 M124 a0 ((31 * v1) + ((mA M124 y137_1 (106 + v3).toNatClampNeg).toInt64)) (v3 + 1)))))))))
def L_X6_digest_121 (Z : ZZ) (Q : Int64 → MM → Prop)  : Nat → MM → Nat → Int64 → Int32 → Prop
  | 0 => fun _ _ _ _ => False
  | n + 1 => B_X6_digest_121 Z Q  (L_X6_digest_121 Z Q   n)
def B_X6_digest_48 (Z : ZZ) (Q : Int64 → MM → Prop) (K48 : MM → Nat → Int64 → Int32 → Prop) (M : MM) (a0 : Nat) (v1 : Int64) (v3 : Int32) : Prop := (zK Z a0 = 6 ∧ (P_X6_cells Z M a0  (fun r50 M50 => (r50 ≤ v3 → (∃ n, L_X6_digest_121 Z Q  n M50 a0 v1 0)) ∧ (¬ r50 ≤ v3 → (∃ n, L_X6_digest_59 Z Q K48 n M50 a0 v1 v3 0)))))
def L_X6_digest_48 (Z : ZZ) (Q : Int64 → MM → Prop)  : Nat → MM → Nat → Int64 → Int32 → Prop
  | 0 => fun _ _ _ _ => False
  | n + 1 => B_X6_digest_48 Z Q  (L_X6_digest_48 Z Q   n)
def B_X6_digest_17 (Z : ZZ) (Q : Int64 → MM → Prop) (K17 : MM → Nat → Int64 → Int32 → Prop) (M : MM) (a0 : Nat) (v1 : Int64) (v3 : Int32) : Prop := (14 ≤ v3 → ((zK Z a0 = 6 ∧ (P_X6_findsBlocks Z M a0  (fun M43 => ∃ n, L_X6_digest_48 Z Q  n M43 a0 v1 0))))) ∧ (¬ 14 ≤ v3 → ((zK Z a0 = 6 ∧ (P_X6_valueOf Z M a0 v3 (fun r30 M30 => K17 M30 a0 ((31 * v1) + r30.toInt64) (v3 + 1))))))
def L_X6_digest_17 (Z : ZZ) (Q : Int64 → MM → Prop)  : Nat → MM → Nat → Int64 → Int32 → Prop
  | 0 => fun _ _ _ _ => False
  | n + 1 => B_X6_digest_17 Z Q  (L_X6_digest_17 Z Q   n)
def B_X6_digest_0 (Z : ZZ) (Q : Int64 → MM → Prop)  (M : MM) (a0 : Nat) : Prop := (zK Z a0 = 6 ∧ ∃ n, L_X6_digest_17 Z Q  n (setI M 15 a0 0) a0 (110267 + ((mI (setI M 15 a0 0) 16 a0).toInt64)) 0)
def P_X6_digest (Z : ZZ) (M : MM) (a0 : Nat) (Q : Int64 → MM → Prop) : Prop := B_X6_digest_0 Z Q M a0
def rm_X6_digest : Room := { frames := 8, cells := 0, slots := 0, locals := 176 }
/-! IceFieldLaw.make(LIceField;III[J)I -/
def B_L_make_0 (Z : ZZ) (Q : Int32 → MM → Prop)  (M : MM) (a0 : Nat) (v1 : Int32) (v2 : Int32) (v3 : Int32) (a4 : Nat) : Prop := (zK Z a0 = 5 ∧ (P_X5_make Z M a0 v1 v2 v3 (fun r7 M7 => ((zK Z a4 = 9 ∧ (vp_in 0 (zN Z a4) ∧ Q 0 (setJ M7 a4 (vp_updL (mJ M7 a4) (0 : Int32).toNatClampNeg r7.toInt64)))))) (fun E1 M7 => (E1 = "java/lang/IllegalArgumentException" ∧ (Q 1 M7)))))
def P_L_make (Z : ZZ) (M : MM) (a0 : Nat) (v1 : Int32) (v2 : Int32) (v3 : Int32) (a4 : Nat) (Q : Int32 → MM → Prop) : Prop := B_L_make_0 Z Q M a0 v1 v2 v3 a4
def rm_L_make : Room := { frames := 7, cells := 1, slots := 6, locals := 113 }
/-! IceFieldLaw.lay(LIceField;II[J)I -/
def B_L_lay_0 (Z : ZZ) (Q : Int32 → MM → Prop)  (M : MM) (a0 : Nat) (v1 : Int32) (v2 : Int32) (a3 : Nat) : Prop := (zK Z a0 = 5 ∧ (P_X5_lay Z M a0 v1 v2 (fun r5 M5 => ((zK Z a3 = 9 ∧ (vp_in 0 (zN Z a3) ∧ Q 0 (setJ M5 a3 (vp_updL (mJ M5 a3) (0 : Int32).toNatClampNeg r5.toInt64)))))) (fun E1 M5 => (E1 = "java/lang/IndexOutOfBoundsException" ∧ (Q 1 M5)) ∨ (E1 = "java/lang/IllegalArgumentException" ∧ (Q 2 M5)) ∨ (E1 = "java/lang/IllegalStateException" ∧ (Q 3 M5)))))
def P_L_lay (Z : ZZ) (M : MM) (a0 : Nat) (v1 : Int32) (v2 : Int32) (a3 : Nat) (Q : Int32 → MM → Prop) : Prop := B_L_lay_0 Z Q M a0 v1 v2 a3
def rm_L_lay : Room := { frames := 8, cells := 2, slots := 12, locals := 133 }
/-! IceFieldLaw.saw(LIceField;II[J)I -/
def B_L_saw_0 (Z : ZZ) (Q : Int32 → MM → Prop)  (M : MM) (a0 : Nat) (v1 : Int32) (v2 : Int32) (a3 : Nat) : Prop := (zK Z a0 = 5 ∧ (P_X5_saw Z M a0 v1 v2 (fun r5 M5 => ((zK Z a3 = 9 ∧ (vp_in 0 (zN Z a3) ∧ Q 0 (setJ M5 a3 (vp_updL (mJ M5 a3) (0 : Int32).toNatClampNeg r5.toInt64)))))) (fun E1 M5 => (E1 = "java/lang/IndexOutOfBoundsException" ∧ (Q 1 M5)) ∨ (E1 = "java/lang/IllegalArgumentException" ∧ (Q 2 M5)) ∨ (E1 = "java/lang/IllegalStateException" ∧ (Q 3 M5)))))
def P_L_saw (Z : ZZ) (M : MM) (a0 : Nat) (v1 : Int32) (v2 : Int32) (a3 : Nat) (Q : Int32 → MM → Prop) : Prop := B_L_saw_0 Z Q M a0 v1 v2 a3
def rm_L_saw : Room := { frames := 8, cells := 2, slots := 12, locals := 133 }
/-! IceFieldLaw.sawAround(LIceField;III[J)I -/
def B_L_sawAround_0 (Z : ZZ) (Q : Int32 → MM → Prop)  (M : MM) (a0 : Nat) (v1 : Int32) (v2 : Int32) (v3 : Int32) (a4 : Nat) : Prop := (zK Z a0 = 5 ∧ (P_X5_sawAround Z M a0 v1 v2 v3 (fun r7 M7 => ((zK Z a4 = 9 ∧ (vp_in 0 (zN Z a4) ∧ Q 0 (setJ M7 a4 (vp_updL (mJ M7 a4) (0 : Int32).toNatClampNeg r7.toInt64)))))) (fun E1 M7 => (E1 = "java/lang/IndexOutOfBoundsException" ∧ (Q 1 M7)) ∨ (E1 = "java/lang/IllegalArgumentException" ∧ (Q 2 M7)))))
def P_L_sawAround (Z : ZZ) (M : MM) (a0 : Nat) (v1 : Int32) (v2 : Int32) (v3 : Int32) (a4 : Nat) (Q : Int32 → MM → Prop) : Prop := B_L_sawAround_0 Z Q M a0 v1 v2 v3 a4
def rm_L_sawAround : Room := { frames := 9, cells := 2, slots := 12, locals := 157 }
/-! IceFieldLaw.takeOut(LIceField;I[J)I -/
def B_L_takeOut_0 (Z : ZZ) (Q : Int32 → MM → Prop)  (M : MM) (a0 : Nat) (v1 : Int32) (a2 : Nat) : Prop := (zK Z a0 = 5 ∧ (P_X5_takeOut Z M a0 v1 (fun r4 M4 => ((zK Z a2 = 9 ∧ (vp_in 0 (zN Z a2) ∧ Q 0 (setJ M4 a2 (vp_updL (mJ M4 a2) (0 : Int32).toNatClampNeg r4.toInt64)))))) (fun E1 M4 => (E1 = "java/lang/IndexOutOfBoundsException" ∧ (Q 1 M4)) ∨ (E1 = "java/lang/IllegalStateException" ∧ (Q 2 M4)))))
def P_L_takeOut (Z : ZZ) (M : MM) (a0 : Nat) (v1 : Int32) (a2 : Nat) (Q : Int32 → MM → Prop) : Prop := B_L_takeOut_0 Z Q M a0 v1 a2
def rm_L_takeOut : Room := { frames := 8, cells := 2, slots := 12, locals := 136 }
/-! IceFieldLaw.setMelt(LIceField;I[J)I -/
def B_L_setMelt_0 (Z : ZZ) (Q : Int32 → MM → Prop)  (M : MM) (a0 : Nat) (v1 : Int32) (a2 : Nat) : Prop := (zK Z a0 = 5 ∧ (P_X5_setMelt Z M a0 v1 (fun r4 M4 => ((zK Z a2 = 9 ∧ (vp_in 0 (zN Z a2) ∧ Q 0 (setJ M4 a2 (vp_updL (mJ M4 a2) (0 : Int32).toNatClampNeg r4.toInt64)))))) (fun E1 M4 => (E1 = "java/lang/IllegalArgumentException" ∧ (Q 1 M4)))))
def P_L_setMelt (Z : ZZ) (M : MM) (a0 : Nat) (v1 : Int32) (a2 : Nat) (Q : Int32 → MM → Prop) : Prop := B_L_setMelt_0 Z Q M a0 v1 a2
def rm_L_setMelt : Room := { frames := 7, cells := 1, slots := 6, locals := 112 }
/-! IceFieldLaw.pass(LIceField;I[J)I -/
def B_L_pass_0 (Z : ZZ) (Q : Int32 → MM → Prop)  (M : MM) (a0 : Nat) (v1 : Int32) (a2 : Nat) : Prop := (zK Z a0 = 5 ∧ (P_X5_pass Z M a0 v1 (fun r4 M4 => ((zK Z a2 = 9 ∧ (vp_in 0 (zN Z a2) ∧ Q 0 (setJ M4 a2 (vp_updL (mJ M4 a2) (0 : Int32).toNatClampNeg r4.toInt64)))))) (fun E1 M4 => (E1 = "java/lang/IllegalArgumentException" ∧ (Q 1 M4)))))
def P_L_pass (Z : ZZ) (M : MM) (a0 : Nat) (v1 : Int32) (a2 : Nat) (Q : Int32 → MM → Prop) : Prop := B_L_pass_0 Z Q M a0 v1 a2
def rm_L_pass : Room := { frames := 7, cells := 1, slots := 6, locals := 134 }
/-! IceFieldLaw.cell(LIceField;II[J)I -/
def B_L_cell_0 (Z : ZZ) (Q : Int32 → MM → Prop)  (M : MM) (a0 : Nat) (v1 : Int32) (v2 : Int32) (a3 : Nat) : Prop := (zK Z a0 = 5 ∧ (P_X5_cell Z M a0 v1 v2 (fun r5 M5 => ((zK Z a3 = 9 ∧ (vp_in 0 (zN Z a3) ∧ Q 0 (setJ M5 a3 (vp_updL (mJ M5 a3) (0 : Int32).toNatClampNeg r5.toInt64)))))) (fun E1 M5 => (E1 = "java/lang/IndexOutOfBoundsException" ∧ (Q 1 M5)) ∨ (E1 = "java/lang/IllegalArgumentException" ∧ (Q 2 M5)))))
def P_L_cell (Z : ZZ) (M : MM) (a0 : Nat) (v1 : Int32) (v2 : Int32) (a3 : Nat) (Q : Int32 → MM → Prop) : Prop := B_L_cell_0 Z Q M a0 v1 v2 a3
def rm_L_cell : Room := { frames := 8, cells := 2, slots := 12, locals := 136 }
/-! IceFieldLaw.block(LIceField;II[J)I -/
def B_L_block_0 (Z : ZZ) (Q : Int32 → MM → Prop)  (M : MM) (a0 : Nat) (v1 : Int32) (v2 : Int32) (a3 : Nat) : Prop := (zK Z a0 = 5 ∧ (P_X5_block Z M a0 v1 v2 (fun r5 M5 => ((zK Z a3 = 9 ∧ (vp_in 0 (zN Z a3) ∧ Q 0 (setJ M5 a3 (vp_updL (mJ M5 a3) (0 : Int32).toNatClampNeg r5.toInt64)))))) (fun E1 M5 => (E1 = "java/lang/IndexOutOfBoundsException" ∧ (Q 1 M5)) ∨ (E1 = "java/lang/IllegalArgumentException" ∧ (Q 2 M5)))))
def P_L_block (Z : ZZ) (M : MM) (a0 : Nat) (v1 : Int32) (v2 : Int32) (a3 : Nat) (Q : Int32 → MM → Prop) : Prop := B_L_block_0 Z Q M a0 v1 v2 a3
def rm_L_block : Room := { frames := 8, cells := 2, slots := 12, locals := 142 }
/-! IceFieldLaw.move(LIceField;II[J)I -/
def B_L_move_0 (Z : ZZ) (Q : Int32 → MM → Prop)  (M : MM) (a0 : Nat) (v1 : Int32) (v2 : Int32) (a3 : Nat) : Prop := (zK Z a0 = 5 ∧ (P_X5_move Z M a0 v1 v2 (fun r5 M5 => ((zK Z a3 = 9 ∧ (vp_in 0 (zN Z a3) ∧ Q 0 (setJ M5 a3 (vp_updL (mJ M5 a3) (0 : Int32).toNatClampNeg r5.toInt64)))))) (fun E1 M5 => (E1 = "java/lang/IndexOutOfBoundsException" ∧ (Q 1 M5)))))
def P_L_move (Z : ZZ) (M : MM) (a0 : Nat) (v1 : Int32) (v2 : Int32) (a3 : Nat) (Q : Int32 → MM → Prop) : Prop := B_L_move_0 Z Q M a0 v1 v2 a3
def rm_L_move : Room := { frames := 8, cells := 2, slots := 12, locals := 137 }
/-! IceFieldLaw.value(LIceField;I[J)I -/
def B_L_value_0 (Z : ZZ) (Q : Int32 → MM → Prop)  (M : MM) (a0 : Nat) (v1 : Int32) (a2 : Nat) : Prop := (zK Z a0 = 5 ∧ (P_X5_value Z M a0 v1 (fun r4 M4 => ((zK Z a2 = 9 ∧ (vp_in 0 (zN Z a2) ∧ Q 0 (setJ M4 a2 (vp_updL (mJ M4 a2) (0 : Int32).toNatClampNeg r4.toInt64)))))) (fun E1 M4 => (E1 = "java/lang/IllegalArgumentException" ∧ (Q 1 M4)))))
def P_L_value (Z : ZZ) (M : MM) (a0 : Nat) (v1 : Int32) (a2 : Nat) (Q : Int32 → MM → Prop) : Prop := B_L_value_0 Z Q M a0 v1 a2
def rm_L_value : Room := { frames := 7, cells := 1, slots := 6, locals := 162 }
/-! IceFieldLaw.taken(LIceField;II[J)I -/
def B_L_taken_0 (Z : ZZ) (Q : Int32 → MM → Prop)  (M : MM) (a0 : Nat) (v1 : Int32) (v2 : Int32) (a3 : Nat) : Prop := (zK Z a0 = 5 ∧ (P_X5_taken Z M a0 v1 v2 (fun r5 M5 => ((zK Z a3 = 9 ∧ (vp_in 0 (zN Z a3) ∧ Q 0 (setJ M5 a3 (vp_updL (mJ M5 a3) (0 : Int32).toNatClampNeg r5.toInt64)))))) (fun E1 M5 => (E1 = "java/lang/IndexOutOfBoundsException" ∧ (Q 1 M5)) ∨ (E1 = "java/lang/IllegalArgumentException" ∧ (Q 2 M5)))))
def P_L_taken (Z : ZZ) (M : MM) (a0 : Nat) (v1 : Int32) (v2 : Int32) (a3 : Nat) (Q : Int32 → MM → Prop) : Prop := B_L_taken_0 Z Q M a0 v1 v2 a3
def rm_L_taken : Room := { frames := 7, cells := 1, slots := 6, locals := 112 }
/-! IceFieldLaw.cutsAround(LIceField;III[J)I -/
def B_L_cutsAround_0 (Z : ZZ) (Q : Int32 → MM → Prop)  (M : MM) (a0 : Nat) (v1 : Int32) (v2 : Int32) (v3 : Int32) (a4 : Nat) : Prop := (zK Z a0 = 5 ∧ (P_X5_cutsAround Z M a0 v1 v2 v3 (fun r7 M7 => ((zK Z a4 = 9 ∧ (vp_in 0 (zN Z a4) ∧ Q 0 (setJ M7 a4 (vp_updL (mJ M7 a4) (0 : Int32).toNatClampNeg r7.toInt64)))))) (fun E1 M7 => (E1 = "java/lang/IndexOutOfBoundsException" ∧ (Q 1 M7)) ∨ (E1 = "java/lang/IllegalArgumentException" ∧ (Q 2 M7)))))
def P_L_cutsAround (Z : ZZ) (M : MM) (a0 : Nat) (v1 : Int32) (v2 : Int32) (v3 : Int32) (a4 : Nat) (Q : Int32 → MM → Prop) : Prop := B_L_cutsAround_0 Z Q M a0 v1 v2 v3 a4
def rm_L_cutsAround : Room := { frames := 9, cells := 2, slots := 12, locals := 157 }
/-! IceFieldLaw.daysWhole(LIceField;I[J)I -/
def B_L_daysWhole_0 (Z : ZZ) (Q : Int32 → MM → Prop)  (M : MM) (a0 : Nat) (v1 : Int32) (a2 : Nat) : Prop := (zK Z a0 = 5 ∧ (P_X5_daysWhole Z M a0 v1 (fun r4 M4 => ((zK Z a2 = 9 ∧ (vp_in 0 (zN Z a2) ∧ Q 0 (setJ M4 a2 (vp_updL (mJ M4 a2) (0 : Int32).toNatClampNeg r4.toInt64)))))) (fun E1 M4 => (E1 = "java/lang/IndexOutOfBoundsException" ∧ (Q 1 M4)))))
def P_L_daysWhole (Z : ZZ) (M : MM) (a0 : Nat) (v1 : Int32) (a2 : Nat) (Q : Int32 → MM → Prop) : Prop := B_L_daysWhole_0 Z Q M a0 v1 a2
def rm_L_daysWhole : Room := { frames := 8, cells := 1, slots := 6, locals := 137 }
/-! IceFieldLaw.append(LIceField;I[J)I -/
def B_L_append_0 (Z : ZZ) (Q : Int32 → MM → Prop)  (M : MM) (a0 : Nat) (v1 : Int32) (a2 : Nat) : Prop := (zK Z a0 = 5 ∧ (P_X5_append Z M a0 v1 (fun r4 M4 => ((zK Z a2 = 9 ∧ (vp_in 0 (zN Z a2) ∧ Q 0 (setJ M4 a2 (vp_updL (mJ M4 a2) (0 : Int32).toNatClampNeg r4.toInt64)))))) (fun E1 M4 => (E1 = "java/lang/IllegalArgumentException" ∧ (Q 1 M4)) ∨ (E1 = "java/lang/IllegalStateException" ∧ (Q 2 M4)))))
def P_L_append (Z : ZZ) (M : MM) (a0 : Nat) (v1 : Int32) (a2 : Nat) (Q : Int32 → MM → Prop) : Prop := B_L_append_0 Z Q M a0 v1 a2
def rm_L_append : Room := { frames := 7, cells := 1, slots := 6, locals := 111 }
/-! IceFieldLaw.undo(LIceField;[J)I -/
def B_L_undo_0 (Z : ZZ) (Q : Int32 → MM → Prop)  (M : MM) (a0 : Nat) (a1 : Nat) : Prop := (zK Z a0 = 5 ∧ (P_X5_undo Z M a0  (fun r3 M3 => ((zK Z a1 = 9 ∧ (vp_in 0 (zN Z a1) ∧ Q 0 (setJ M3 a1 (vp_updL (mJ M3 a1) (0 : Int32).toNatClampNeg r3.toInt64)))))) (fun E1 M3 => (E1 = "java/lang/IllegalStateException" ∧ (Q 1 M3)))))
def P_L_undo (Z : ZZ) (M : MM) (a0 : Nat) (a1 : Nat) (Q : Int32 → MM → Prop) : Prop := B_L_undo_0 Z Q M a0 a1
def rm_L_undo : Room := { frames := 7, cells := 1, slots := 6, locals := 111 }
/-! IceFieldLaw.law([I)Z -/
def B_L_law_1326 (Z : ZZ) (L : Nat) (xs : Nat → Int32) (K23 : MM → Nat → Nat → Nat → Int32 → Prop) (M : MM) (a1 : Nat) (a2 : Nat) (a3 : Nat) (v4 : Int32) : Prop := K23 M a1 a2 a3 (v4 + 4)
def B_L_law_23 (Z : ZZ) (L : Nat) (xs : Nat → Int32) (K23 : MM → Nat → Nat → Nat → Int32 → Prop) (M : MM) (a1 : Nat) (a2 : Nat) (a3 : Nat) (v4 : Int32) : Prop := (((nI L) - 4) < v4 → (True)) ∧ (¬ ((nI L) - 4) < v4 → ((vp_in v4 L ∧ (((xs v4.toNatClampNeg) &&& 31) = 0 → ((vp_in (v4 + 1) L ∧ (vp_in (v4 + 2) L ∧ (vp_in (v4 + 3) L ∧ (P_L_make Z M a1 (xs (v4 + 1).toNatClampNeg) (xs (v4 + 2).toNatClampNeg) (xs (v4 + 3).toNatClampNeg) a3 (fun r172 M172 => (vp_in (v4 + 1) L ∧ (vp_in (v4 + 2) L ∧ (vp_in (v4 + 3) L ∧ (zK Z a2 = 6 ∧ (P_X6_make Z M172 a2 (xs (v4 + 1).toNatClampNeg) (xs (v4 + 2).toNatClampNeg) (xs (v4 + 3).toNatClampNeg) (fun r196 M196 => (P_X6_thrown Z M196 a2  (fun r202 M202 => (r202 = r172 → ((¬ r172 = 0 → (B_L_law_1326 Z L xs K23 M202 a1 a2 a3 v4)) ∧ (r172 = 0 → ((zK Z a3 = 9 ∧ (vp_in 0 (zN Z a3) ∧ ((lg_cmp (mJ M202 a3 (0 : Int32).toNatClampNeg) r196.toInt64) = 0 → (B_L_law_1326 Z L xs K23 M202 a1 a2 a3 v4)) ∧ (¬ (lg_cmp (mJ M202 a3 (0 : Int32).toNatClampNeg) r196.toInt64) = 0 → (False)))))))) ∧ (¬ r202 = r172 → (False))))))))))))))))) ∧ (¬ ((xs v4.toNatClampNeg) &&& 31) = 0 → (((xs v4.toNatClampNeg) &&& 31) = 1 → ((vp_in (v4 + 1) L ∧ (vp_in (v4 + 2) L ∧ (P_L_lay Z M a1 (xs (v4 + 1).toNatClampNeg) (xs (v4 + 2).toNatClampNeg) a3 (fun r246 M246 => (vp_in (v4 + 1) L ∧ (vp_in (v4 + 2) L ∧ (zK Z a2 = 6 ∧ (P_X6_lay Z M246 a2 (xs (v4 + 1).toNatClampNeg) (xs (v4 + 2).toNatClampNeg) (fun r264 M264 => (P_X6_thrown Z M264 a2  (fun r270 M270 => (r270 = r246 → ((¬ r246 = 0 → (B_L_law_1326 Z L xs K23 M270 a1 a2 a3 v4)) ∧ (r246 = 0 → ((zK Z a3 = 9 ∧ (vp_in 0 (zN Z a3) ∧ ((lg_cmp (mJ M270 a3 (0 : Int32).toNatClampNeg) r264.toInt64) = 0 → (B_L_law_1326 Z L xs K23 M270 a1 a2 a3 v4)) ∧ (¬ (lg_cmp (mJ M270 a3 (0 : Int32).toNatClampNeg) r264.toInt64) = 0 → (False)))))))) ∧ (¬ r270 = r246 → (False))))))))))))))) ∧ (¬ ((xs v4.toNatClampNeg) &&& 31) = 1 → (((xs v4.toNatClampNeg) &&& 31) = 2 → ((vp_in (v4 + 1) L ∧ (vp_in (v4 + 2) L ∧ (P_L_saw Z M a1 (xs (v4 + 1).toNatClampNeg) (xs (v4 + 2).toNatClampNeg) a3 (fun r314 M314 => (vp_in (v4 + 1) L ∧ (vp_in (v4 + 2) L ∧ (zK Z a2 = 6 ∧ (P_X6_saw Z M314 a2 (xs (v4 + 1).toNatClampNeg) (xs (v4 + 2).toNatClampNeg) (fun r332 M332 => (P_X6_thrown Z M332 a2  (fun r338 M338 => (r338 = r314 → ((¬ r314 = 0 → (B_L_law_1326 Z L xs K23 M338 a1 a2 a3 v4)) ∧ (r314 = 0 → ((zK Z a3 = 9 ∧ (vp_in 0 (zN Z a3) ∧ ((lg_cmp (mJ M338 a3 (0 : Int32).toNatClampNeg) r332.toInt64) = 0 → (B_L_law_1326 Z L xs K23 M338 a1 a2 a3 v4)) ∧ (¬ (lg_cmp (mJ M338 a3 (0 : Int32).toNatClampNeg) r332.toInt64) = 0 → (False)))))))) ∧ (¬ r338 = r314 → (False))))))))))))))) ∧ (¬ ((xs v4.toNatClampNeg) &&& 31) = 2 → (((xs v4.toNatClampNeg) &&& 31) = 3 → ((vp_in (v4 + 1) L ∧ (vp_in (v4 + 2) L ∧ (vp_in (v4 + 3) L ∧ (P_L_sawAround Z M a1 (xs (v4 + 1).toNatClampNeg) (xs (v4 + 2).toNatClampNeg) (xs (v4 + 3).toNatClampNeg) a3 (fun r388 M388 => (vp_in (v4 + 1) L ∧ (vp_in (v4 + 2) L ∧ (vp_in (v4 + 3) L ∧ (zK Z a2 = 6 ∧ (P_X6_sawAround Z M388 a2 (xs (v4 + 1).toNatClampNeg) (xs (v4 + 2).toNatClampNeg) (xs (v4 + 3).toNatClampNeg) (fun r412 M412 => (P_X6_thrown Z M412 a2  (fun r418 M418 => (r418 = r388 → ((¬ r388 = 0 → (B_L_law_1326 Z L xs K23 M418 a1 a2 a3 v4)) ∧ (r388 = 0 → ((zK Z a3 = 9 ∧ (vp_in 0 (zN Z a3) ∧ ((lg_cmp (mJ M418 a3 (0 : Int32).toNatClampNeg) r412.toInt64) = 0 → (B_L_law_1326 Z L xs K23 M418 a1 a2 a3 v4)) ∧ (¬ (lg_cmp (mJ M418 a3 (0 : Int32).toNatClampNeg) r412.toInt64) = 0 → (False)))))))) ∧ (¬ r418 = r388 → (False))))))))))))))))) ∧ (¬ ((xs v4.toNatClampNeg) &&& 31) = 3 → (((xs v4.toNatClampNeg) &&& 31) = 4 → ((vp_in (v4 + 1) L ∧ (P_L_takeOut Z M a1 (xs (v4 + 1).toNatClampNeg) a3 (fun r456 M456 => (vp_in (v4 + 1) L ∧ (zK Z a2 = 6 ∧ (P_X6_takeOut Z M456 a2 (xs (v4 + 1).toNatClampNeg) (fun r468 M468 => (P_X6_thrown Z M468 a2  (fun r474 M474 => (r474 = r456 → ((¬ r456 = 0 → (B_L_law_1326 Z L xs K23 M474 a1 a2 a3 v4)) ∧ (r456 = 0 → ((zK Z a3 = 9 ∧ (vp_in 0 (zN Z a3) ∧ ((lg_cmp (mJ M474 a3 (0 : Int32).toNatClampNeg) r468.toInt64) = 0 → (B_L_law_1326 Z L xs K23 M474 a1 a2 a3 v4)) ∧ (¬ (lg_cmp (mJ M474 a3 (0 : Int32).toNatClampNeg) r468.toInt64) = 0 → (False)))))))) ∧ (¬ r474 = r456 → (False))))))))))))) ∧ (¬ ((xs v4.toNatClampNeg) &&& 31) = 4 → (((xs v4.toNatClampNeg) &&& 31) = 5 → ((zK Z a1 = 5 ∧ (P_X5_takeAll Z M a1  (fun r505 M505 => (zK Z a2 = 6 ∧ (P_X6_takeAll Z M505 a2  (fun r509 M509 => (r505 = r509 → (B_L_law_1326 Z L xs K23 M509 a1 a2 a3 v4)) ∧ (¬ r505 = r509 → (False)))))))))) ∧ (¬ ((xs v4.toNatClampNeg) &&& 31) = 5 → (((xs v4.toNatClampNeg) &&& 31) = 6 → ((vp_in (v4 + 1) L ∧ (P_L_setMelt Z M a1 (xs (v4 + 1).toNatClampNeg) a3 (fun r525 M525 => (vp_in (v4 + 1) L ∧ (zK Z a2 = 6 ∧ (P_X6_setMelt Z M525 a2 (xs (v4 + 1).toNatClampNeg) (fun r537 M537 => (P_X6_thrown Z M537 a2  (fun r543 M543 => (r543 = r525 → ((¬ r525 = 0 → (B_L_law_1326 Z L xs K23 M543 a1 a2 a3 v4)) ∧ (r525 = 0 → ((zK Z a3 = 9 ∧ (vp_in 0 (zN Z a3) ∧ ((lg_cmp (mJ M543 a3 (0 : Int32).toNatClampNeg) r537.toInt64) = 0 → (B_L_law_1326 Z L xs K23 M543 a1 a2 a3 v4)) ∧ (¬ (lg_cmp (mJ M543 a3 (0 : Int32).toNatClampNeg) r537.toInt64) = 0 → (False)))))))) ∧ (¬ r543 = r525 → (False))))))))))))) ∧ (¬ ((xs v4.toNatClampNeg) &&& 31) = 6 → (((xs v4.toNatClampNeg) &&& 31) = 7 → ((vp_in (v4 + 1) L ∧ (P_L_pass Z M a1 (xs (v4 + 1).toNatClampNeg) a3 (fun r581 M581 => (vp_in (v4 + 1) L ∧ (zK Z a2 = 6 ∧ (P_X6_pass Z M581 a2 (xs (v4 + 1).toNatClampNeg) (fun r593 M593 => (P_X6_thrown Z M593 a2  (fun r599 M599 => (r599 = r581 → ((¬ r581 = 0 → (B_L_law_1326 Z L xs K23 M599 a1 a2 a3 v4)) ∧ (r581 = 0 → ((zK Z a3 = 9 ∧ (vp_in 0 (zN Z a3) ∧ ((lg_cmp (mJ M599 a3 (0 : Int32).toNatClampNeg) r593.toInt64) = 0 → (B_L_law_1326 Z L xs K23 M599 a1 a2 a3 v4)) ∧ (¬ (lg_cmp (mJ M599 a3 (0 : Int32).toNatClampNeg) r593.toInt64) = 0 → (False)))))))) ∧ (¬ r599 = r581 → (False))))))))))))) ∧ (¬ ((xs v4.toNatClampNeg) &&& 31) = 7 → (((xs v4.toNatClampNeg) &&& 31) = 8 → ((vp_in (v4 + 1) L ∧ (vp_in (v4 + 2) L ∧ (P_L_cell Z M a1 (xs (v4 + 1).toNatClampNeg) (xs (v4 + 2).toNatClampNeg) a3 (fun r643 M643 => (vp_in (v4 + 1) L ∧ (vp_in (v4 + 2) L ∧ (zK Z a2 = 6 ∧ (P_X6_cell Z M643 a2 (xs (v4 + 1).toNatClampNeg) (xs (v4 + 2).toNatClampNeg) (fun r661 M661 => (P_X6_thrown Z M661 a2  (fun r667 M667 => (r667 = r643 → ((¬ r643 = 0 → (B_L_law_1326 Z L xs K23 M667 a1 a2 a3 v4)) ∧ (r643 = 0 → ((zK Z a3 = 9 ∧ (vp_in 0 (zN Z a3) ∧ ((lg_cmp (mJ M667 a3 (0 : Int32).toNatClampNeg) r661.toInt64) = 0 → (B_L_law_1326 Z L xs K23 M667 a1 a2 a3 v4)) ∧ (¬ (lg_cmp (mJ M667 a3 (0 : Int32).toNatClampNeg) r661.toInt64) = 0 → (False)))))))) ∧ (¬ r667 = r643 → (False))))))))))))))) ∧ (¬ ((xs v4.toNatClampNeg) &&& 31) = 8 → (((xs v4.toNatClampNeg) &&& 31) = 9 → ((vp_in (v4 + 1) L ∧ (vp_in (v4 + 2) L ∧ (P_L_block Z M a1 (xs (v4 + 1).toNatClampNeg) (xs (v4 + 2).toNatClampNeg) a3 (fun r711 M711 => (vp_in (v4 + 1) L ∧ (vp_in (v4 + 2) L ∧ (zK Z a2 = 6 ∧ (P_X6_block Z M711 a2 (xs (v4 + 1).toNatClampNeg) (xs (v4 + 2).toNatClampNeg) (fun r729 M729 => (P_X6_thrown Z M729 a2  (fun r735 M735 => (r735 = r711 → ((¬ r711 = 0 → (B_L_law_1326 Z L xs K23 M735 a1 a2 a3 v4)) ∧ (r711 = 0 → ((zK Z a3 = 9 ∧ (vp_in 0 (zN Z a3) ∧ ((lg_cmp (mJ M735 a3 (0 : Int32).toNatClampNeg) r729.toInt64) = 0 → (B_L_law_1326 Z L xs K23 M735 a1 a2 a3 v4)) ∧ (¬ (lg_cmp (mJ M735 a3 (0 : Int32).toNatClampNeg) r729.toInt64) = 0 → (False)))))))) ∧ (¬ r735 = r711 → (False))))))))))))))) ∧ (¬ ((xs v4.toNatClampNeg) &&& 31) = 9 → (((xs v4.toNatClampNeg) &&& 31) = 10 → ((vp_in (v4 + 1) L ∧ (vp_in (v4 + 2) L ∧ (P_L_move Z M a1 (xs (v4 + 1).toNatClampNeg) (xs (v4 + 2).toNatClampNeg) a3 (fun r779 M779 => (vp_in (v4 + 1) L ∧ (vp_in (v4 + 2) L ∧ (zK Z a2 = 6 ∧ (P_X6_move Z M779 a2 (xs (v4 + 1).toNatClampNeg) (xs (v4 + 2).toNatClampNeg) (fun r797 M797 => (P_X6_thrown Z M797 a2  (fun r803 M803 => (r803 = r779 → ((¬ r779 = 0 → (B_L_law_1326 Z L xs K23 M803 a1 a2 a3 v4)) ∧ (r779 = 0 → ((zK Z a3 = 9 ∧ (vp_in 0 (zN Z a3) ∧ ((lg_cmp (mJ M803 a3 (0 : Int32).toNatClampNeg) r797.toInt64) = 0 → (B_L_law_1326 Z L xs K23 M803 a1 a2 a3 v4)) ∧ (¬ (lg_cmp (mJ M803 a3 (0 : Int32).toNatClampNeg) r797.toInt64) = 0 → (False)))))))) ∧ (¬ r803 = r779 → (False))))))))))))))) ∧ (¬ ((xs v4.toNatClampNeg) &&& 31) = 10 → (((xs v4.toNatClampNeg) &&& 31) = 11 → ((vp_in (v4 + 1) L ∧ (P_L_value Z M a1 (xs (v4 + 1).toNatClampNeg) a3 (fun r841 M841 => (vp_in (v4 + 1) L ∧ (zK Z a2 = 6 ∧ (P_X6_value Z M841 a2 (xs (v4 + 1).toNatClampNeg) (fun r853 M853 => (P_X6_thrown Z M853 a2  (fun r859 M859 => (r859 = r841 → ((¬ r841 = 0 → (B_L_law_1326 Z L xs K23 M859 a1 a2 a3 v4)) ∧ (r841 = 0 → ((zK Z a3 = 9 ∧ (vp_in 0 (zN Z a3) ∧ ((lg_cmp (mJ M859 a3 (0 : Int32).toNatClampNeg) r853.toInt64) = 0 → (B_L_law_1326 Z L xs K23 M859 a1 a2 a3 v4)) ∧ (¬ (lg_cmp (mJ M859 a3 (0 : Int32).toNatClampNeg) r853.toInt64) = 0 → (False)))))))) ∧ (¬ r859 = r841 → (False))))))))))))) ∧ (¬ ((xs v4.toNatClampNeg) &&& 31) = 11 → (((xs v4.toNatClampNeg) &&& 31) = 12 → ((vp_in (v4 + 1) L ∧ (vp_in (v4 + 2) L ∧ (P_L_taken Z M a1 (xs (v4 + 1).toNatClampNeg) (xs (v4 + 2).toNatClampNeg) a3 (fun r903 M903 => (vp_in (v4 + 1) L ∧ (vp_in (v4 + 2) L ∧ (zK Z a2 = 6 ∧ (P_X6_taken Z M903 a2 (xs (v4 + 1).toNatClampNeg) (xs (v4 + 2).toNatClampNeg) (fun r921 M921 => (P_X6_thrown Z M921 a2  (fun r927 M927 => (r927 = r903 → ((¬ r903 = 0 → (B_L_law_1326 Z L xs K23 M927 a1 a2 a3 v4)) ∧ (r903 = 0 → ((zK Z a3 = 9 ∧ (vp_in 0 (zN Z a3) ∧ ((lg_cmp (mJ M927 a3 (0 : Int32).toNatClampNeg) r921.toInt64) = 0 → (B_L_law_1326 Z L xs K23 M927 a1 a2 a3 v4)) ∧ (¬ (lg_cmp (mJ M927 a3 (0 : Int32).toNatClampNeg) r921.toInt64) = 0 → (False)))))))) ∧ (¬ r927 = r903 → (False))))))))))))))) ∧ (¬ ((xs v4.toNatClampNeg) &&& 31) = 12 → (((xs v4.toNatClampNeg) &&& 31) = 13 → ((vp_in (v4 + 1) L ∧ (vp_in (v4 + 2) L ∧ (vp_in (v4 + 3) L ∧ (P_L_cutsAround Z M a1 (xs (v4 + 1).toNatClampNeg) (xs (v4 + 2).toNatClampNeg) (xs (v4 + 3).toNatClampNeg) a3 (fun r977 M977 => (vp_in (v4 + 1) L ∧ (vp_in (v4 + 2) L ∧ (vp_in (v4 + 3) L ∧ (zK Z a2 = 6 ∧ (P_X6_cutsAround Z M977 a2 (xs (v4 + 1).toNatClampNeg) (xs (v4 + 2).toNatClampNeg) (xs (v4 + 3).toNatClampNeg) (fun r1001 M1001 => (P_X6_thrown Z M1001 a2  (fun r1007 M1007 => (r1007 = r977 → ((¬ r977 = 0 → (B_L_law_1326 Z L xs K23 M1007 a1 a2 a3 v4)) ∧ (r977 = 0 → ((zK Z a3 = 9 ∧ (vp_in 0 (zN Z a3) ∧ ((lg_cmp (mJ M1007 a3 (0 : Int32).toNatClampNeg) r1001.toInt64) = 0 → (B_L_law_1326 Z L xs K23 M1007 a1 a2 a3 v4)) ∧ (¬ (lg_cmp (mJ M1007 a3 (0 : Int32).toNatClampNeg) r1001.toInt64) = 0 → (False)))))))) ∧ (¬ r1007 = r977 → (False))))))))))))))))) ∧ (¬ ((xs v4.toNatClampNeg) &&& 31) = 13 → (((xs v4.toNatClampNeg) &&& 31) = 14 → ((zK Z a1 = 5 ∧ (P_X5_takable Z M a1  (fun r1038 M1038 => (zK Z a2 = 6 ∧ (P_X6_takable Z M1038 a2  (fun r1042 M1042 => (r1038 = r1042 → (B_L_law_1326 Z L xs K23 M1042 a1 a2 a3 v4)) ∧ (¬ r1038 = r1042 → (False)))))))))) ∧ (¬ ((xs v4.toNatClampNeg) &&& 31) = 14 → (((xs v4.toNatClampNeg) &&& 31) = 15 → ((zK Z a1 = 5 ∧ (P_X5_leftStranded Z M a1  (fun r1051 M1051 => (zK Z a2 = 6 ∧ (P_X6_leftStranded Z M1051 a2  (fun r1055 M1055 => (r1051 = r1055 → (B_L_law_1326 Z L xs K23 M1055 a1 a2 a3 v4)) ∧ (¬ r1051 = r1055 → (False)))))))))) ∧ (¬ ((xs v4.toNatClampNeg) &&& 31) = 15 → (((xs v4.toNatClampNeg) &&& 31) = 16 → ((vp_in (v4 + 1) L ∧ (P_L_daysWhole Z M a1 (xs (v4 + 1).toNatClampNeg) a3 (fun r1071 M1071 => (vp_in (v4 + 1) L ∧ (zK Z a2 = 6 ∧ (P_X6_daysWhole Z M1071 a2 (xs (v4 + 1).toNatClampNeg) (fun r1083 M1083 => (P_X6_thrown Z M1083 a2  (fun r1089 M1089 => (r1089 = r1071 → ((¬ r1071 = 0 → (B_L_law_1326 Z L xs K23 M1089 a1 a2 a3 v4)) ∧ (r1071 = 0 → ((zK Z a3 = 9 ∧ (vp_in 0 (zN Z a3) ∧ ((lg_cmp (mJ M1089 a3 (0 : Int32).toNatClampNeg) r1083.toInt64) = 0 → (B_L_law_1326 Z L xs K23 M1089 a1 a2 a3 v4)) ∧ (¬ (lg_cmp (mJ M1089 a3 (0 : Int32).toNatClampNeg) r1083.toInt64) = 0 → (False)))))))) ∧ (¬ r1089 = r1071 → (False))))))))))))) ∧ (¬ ((xs v4.toNatClampNeg) &&& 31) = 16 → (((xs v4.toNatClampNeg) &&& 31) = 17 → ((zK Z a1 = 5 ∧ (P_X5_daysToWater Z M a1  (fun r1120 M1120 => (zK Z a2 = 6 ∧ (P_X6_daysToWater Z M1120 a2  (fun r1124 M1124 => (r1120 = r1124 → (B_L_law_1326 Z L xs K23 M1124 a1 a2 a3 v4)) ∧ (¬ r1120 = r1124 → (False)))))))))) ∧ (¬ ((xs v4.toNatClampNeg) &&& 31) = 17 → (((xs v4.toNatClampNeg) &&& 31) = 18 → ((zK Z a1 = 5 ∧ (P_X5_barredBy Z M a1  (fun r1133 M1133 => (zK Z a2 = 6 ∧ (P_X6_barredBy Z M1133 a2  (fun r1137 M1137 => (r1133 = r1137 → (B_L_law_1326 Z L xs K23 M1137 a1 a2 a3 v4)) ∧ (¬ r1133 = r1137 → (False)))))))))) ∧ (¬ ((xs v4.toNatClampNeg) &&& 31) = 18 → (((xs v4.toNatClampNeg) &&& 31) = 19 → ((zK Z a1 = 5 ∧ (P_X5_harvest Z M a1  (fun r1146 M1146 => (zK Z a2 = 6 ∧ (P_X6_harvest Z M1146 a2  (fun r1152 M1152 => ((Op.cmpValue (FP.dcmp r1146 r1152) .l) = 0 → (B_L_law_1326 Z L xs K23 M1152 a1 a2 a3 v4)) ∧ (¬ (Op.cmpValue (FP.dcmp r1146 r1152) .l) = 0 → (((Op.cmpValue (FP.dcmp r1146 r1146) .l) = 0 → (False)) ∧ (¬ (Op.cmpValue (FP.dcmp r1146 r1146) .l) = 0 → ((¬ (Op.cmpValue (FP.dcmp r1152 r1152) .l) = 0 → (B_L_law_1326 Z L xs K23 M1152 a1 a2 a3 v4)) ∧ ((Op.cmpValue (FP.dcmp r1152 r1152) .l) = 0 → (False)))))))))))))) ∧ (¬ ((xs v4.toNatClampNeg) &&& 31) = 19 → (((xs v4.toNatClampNeg) &&& 31) = 20 → ((vp_in (v4 + 1) L ∧ (P_L_append Z M a1 (xs (v4 + 1).toNatClampNeg) a3 (fun r1194 M1194 => (vp_in (v4 + 1) L ∧ (zK Z a2 = 6 ∧ (P_X6_append Z M1194 a2 (xs (v4 + 1).toNatClampNeg) (fun r1206 M1206 => (P_X6_thrown Z M1206 a2  (fun r1212 M1212 => (r1212 = r1194 → ((¬ r1194 = 0 → (B_L_law_1326 Z L xs K23 M1212 a1 a2 a3 v4)) ∧ (r1194 = 0 → ((zK Z a3 = 9 ∧ (vp_in 0 (zN Z a3) ∧ ((lg_cmp (mJ M1212 a3 (0 : Int32).toNatClampNeg) r1206.toInt64) = 0 → (B_L_law_1326 Z L xs K23 M1212 a1 a2 a3 v4)) ∧ (¬ (lg_cmp (mJ M1212 a3 (0 : Int32).toNatClampNeg) r1206.toInt64) = 0 → (False)))))))) ∧ (¬ r1212 = r1194 → (False))))))))))))) ∧ (¬ ((xs v4.toNatClampNeg) &&& 31) = 20 → (((xs v4.toNatClampNeg) &&& 31) = 21 → ((zK Z a1 = 5 ∧ (P_X5_clearText Z M a1  (fun r1243 M1243 => (zK Z a2 = 6 ∧ (P_X6_clearText Z M1243 a2  (fun r1247 M1247 => (r1243 = r1247 → (B_L_law_1326 Z L xs K23 M1247 a1 a2 a3 v4)) ∧ (¬ r1243 = r1247 → (False)))))))))) ∧ (¬ ((xs v4.toNatClampNeg) &&& 31) = 21 → (((xs v4.toNatClampNeg) &&& 31) = 22 → ((zK Z a1 = 5 ∧ (P_X5_parse Z M a1  (fun r1256 M1256 => (zK Z a2 = 6 ∧ (P_X6_parse Z M1256 a2  (fun r1260 M1260 => (r1256 = r1260 → (B_L_law_1326 Z L xs K23 M1260 a1 a2 a3 v4)) ∧ (¬ r1256 = r1260 → (False)))))))))) ∧ (¬ ((xs v4.toNatClampNeg) &&& 31) = 22 → (((xs v4.toNatClampNeg) &&& 31) = 23 → ((P_L_undo Z M a1 a3 (fun r1270 M1270 => (zK Z a2 = 6 ∧ (P_X6_undo Z M1270 a2  (fun r1276 M1276 => (P_X6_thrown Z M1276 a2  (fun r1282 M1282 => (r1282 = r1270 → ((¬ r1270 = 0 → (B_L_law_1326 Z L xs K23 M1282 a1 a2 a3 v4)) ∧ (r1270 = 0 → ((zK Z a3 = 9 ∧ (vp_in 0 (zN Z a3) ∧ ((lg_cmp (mJ M1282 a3 (0 : Int32).toNatClampNeg) r1276.toInt64) = 0 → (B_L_law_1326 Z L xs K23 M1282 a1 a2 a3 v4)) ∧ (¬ (lg_cmp (mJ M1282 a3 (0 : Int32).toNatClampNeg) r1276.toInt64) = 0 → (False)))))))) ∧ (¬ r1282 = r1270 → (False))))))))))) ∧ (¬ ((xs v4.toNatClampNeg) &&& 31) = 23 → (((xs v4.toNatClampNeg) &&& 31) = 24 → ((zK Z a1 = 5 ∧ (P_X5_digest Z M a1  (fun r1313 M1313 => (zK Z a2 = 6 ∧ (P_X6_digest Z M1313 a2  (fun r1317 M1317 => ((lg_cmp r1313 r1317) = 0 → (B_L_law_1326 Z L xs K23 M1317 a1 a2 a3 v4)) ∧ (¬ (lg_cmp r1313 r1317) = 0 → (False)))))))))) ∧ (¬ ((xs v4.toNatClampNeg) &&& 31) = 24 → (B_L_law_1326 Z L xs K23 M a1 a2 a3 v4)))))))))))))))))))))))))))))
def L_L_law_23 (Z : ZZ) (L : Nat) (xs : Nat → Int32) : Nat → MM → Nat → Nat → Nat → Int32 → Prop
  | 0 => fun _ _ _ _ _ => False
  | n + 1 => B_L_law_23 Z L xs (L_L_law_23 Z L xs n)
