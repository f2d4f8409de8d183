/-! PURE: the class's whole state -/
def inn (a r : Nat) : Prop := (a < r ∧ r < a + 20) ∨ (a + 22 < r ∧ r < a + 41)
def FrC (a : Nat) (M M1 : MM) : Prop := (∀ b, (b < a ∨ a + 77 ≤ b) → mA M1 b = mA M b) ∧ (∀ f b, (b < a ∨ a + 77 ≤ b) → mI M1 f b = mI M f b) ∧ mJ M1 = mJ M
theorem FrC.trans {a : Nat} {M M1 M2 : MM} (h : FrC a M M1) (h2 : FrC a M1 M2) : FrC a M M2 := ⟨fun b hb => (h2.1 b hb).trans (h.1 b hb), fun f b hb => (h2.2.1 f b hb).trans (h.2.1 f b hb), h2.2.2.trans h.2.2⟩
theorem FrC.refl (a : Nat) (M : MM) : FrC a M M := ⟨fun _ _ => rfl, fun _ _ _ => rfl, rfl⟩
theorem Fr.toC {a : Nat} {rs os : List Nat} {M M1 : MM} (f : Fr rs os M M1) (h1 : ∀ r ∈ rs, a ≤ r ∧ r < a + 77) (h2 : ∀ r ∈ os, a ≤ r ∧ r < a + 77) : FrC a M M1 := ⟨fun b hb => f.1 b (fun q => by have := h1 b q; omega), fun k b hb => f.2.1 k b (fun q => by have := h2 b q; omega), f.2.2⟩
theorem inn.r {a r : Nat} (h : inn a r) : a ≤ r ∧ r < a + 77 := by unfold inn at h; omega
theorem Fr.toCi {a : Nat} {rs os : List Nat} {M M1 : MM} (f : Fr rs os M M1) (h1 : ∀ r ∈ rs, inn a r) (h2 : ∀ r ∈ os, inn a r) : FrC a M M1 := f.toC (fun r hr => (h1 r hr).r) (fun r hr => (h2 r hr).r)
def ClsI (M : MM) (a : Nat) (g : GG) (sk : Nat → GG) (n ns : Nat) (tx : Nat → Int32) (len : Nat) : Prop :=
  IceS M (a + 1) g ∧ (mI M 12 a = nI ns ∧ ns < 4 ∧ mI M 13 a = nI n ∧ n ≤ 4 ∧ ∀ i, i < n → IceS M (a + 41 + 9 * ((ns + 4 - n + i) % 4)) (sk i)) ∧ (∀ i, i < 60 → mA M (a + 22) i = tx i) ∧ mI M 8 (a + 20) = nI len ∧ len ≤ 60
section
variable {Z : ZZ} {M : MM} {a : Nat} {g : GG} {W H : Nat} {sk : Nat → GG} {n ns len : Nat} {tx : Nat → Int32}
theorem ClsI.fr {M1 : MM} {g1 : GG} {rs os : List Nat} (c : ClsI M a g sk n ns tx len) (f : Fr rs os M M1) (h1 : ∀ r ∈ rs, inn a r) (h2 : ∀ r ∈ os, inn a r) (t : IceS M1 (a + 1) g1) : ClsI M1 a g1 sk n ns tx len := by
  obtain ⟨_, ⟨c1, c2, c3, c4, c5⟩, c6, c7, c8⟩ := c
  have nr : ∀ b, ¬ inn a b → b ∉ rs := fun b hb q => hb (h1 b q)
  have no : ∀ b, ¬ inn a b → b ∉ os := fun b hb q => hb (h2 b q)
  refine ⟨t, ⟨?_, c2, ?_, c4, fun i hi => (c5 i hi).frame f (no _ ?_) (nr _ ?_) (nr _ ?_) (nr _ ?_)⟩, fun i hi => ?_, ?_, c8⟩
  · rw [f.2.1 _ _ (no a (by unfold inn; omega))]; exact c1
  · rw [f.2.1 _ _ (no a (by unfold inn; omega))]; exact c3
  · unfold inn; omega
  · unfold inn; omega
  · unfold inn; omega
  · unfold inn; omega
  · rw [f.1 _ (nr _ (by unfold inn; omega))]; exact c6 i hi
  · rw [f.2.1 _ _ (no _ (by unfold inn; omega))]; exact c7
/-- only scratch has changed -/
theorem ClsI.sc {M1 : MM} {rs os : List Nat} (c : ClsI M a g sk n ns tx len) (f : Fr rs os M M1) (h1 : ∀ r ∈ rs, a + 8 < r ∧ inn a r) (h2 : ∀ r ∈ os, a + 8 < r ∧ inn a r) : ClsI M1 a g sk n ns tx len :=
  c.fr f (fun r hr => (h1 r hr).2) (fun r hr => (h2 r hr).2) (c.1.frame f (fun q => by have := (h2 _ q).1; omega) (fun q => by have := (h1 _ q).1; omega) (fun q => by have := (h1 _ q).1; omega) (fun q => by have := (h1 _ q).1; omega))
theorem sp_out {v lo hi : Int32} {Q : Int32 → MM → Prop} : P_X5_isOutside Z M v lo hi Q ↔ Q (bI (¬ (lo.toInt ≤ v.toInt ∧ v.toInt ≤ hi.toInt))) M := by
  unfold P_X5_isOutside B_X5_isOutside_0
  rw [i_lt, i_le]
  by_cases e1 : v.toInt < lo.toInt
  · have : ¬ (lo.toInt ≤ v.toInt ∧ v.toInt ≤ hi.toInt) := by omega
    simp [e1, bI, this]
  · by_cases e2 : v.toInt ≤ hi.toInt
    · have : lo.toInt ≤ v.toInt ∧ v.toInt ≤ hi.toInt := by omega
      simp [e1, e2, bI, this]
    · have : ¬ (lo.toInt ≤ v.toInt ∧ v.toInt ≤ hi.toInt) := by omega
      simp [e1, e2, bI, this]
theorem l32_0 : (0 : Int32).toInt = 0 ∧ (1 : Int32).toInt = 1 ∧ (2 : Int32).toInt = 2 ∧ (7 : Int32).toInt = 7 ∧ (50 : Int32).toInt = 50 ∧ (3 : Int32).toInt = 3 ∧ (9 : Int32).toInt = 9 ∧ (6 : Int32).toInt = 6 ∧ (4 : Int32).toInt = 4 ∧ (13 : Int32).toInt = 13 ∧ (127 : Int32).toInt = 127 ∧ (5 : Int32).toInt = 5 := by decide
theorem sp_checkCell {v : Int32} {Q : MM → Prop} {X : String → MM → Prop} (F : FieldAt Z a) (t : IceS M (a + 1) g) (w : WH g W H) (h1 : isC W H v → Q M) (h0 : ¬ isC W H v → X "java/lang/IndexOutOfBoundsException" M) : P_X5_checkCell Z M a v Q X := by
  have h49 : W * H ≤ 49 := wh_lt w.2.2.2.1 w.2.2.2.2.2
  have hpos : 0 < W * H := Nat.mul_pos (by have := w.2.2.1; omega) (by have := w.2.2.2.2.1; omega)
  have hI := F.2.1.1
  unfold P_X5_checkCell B_X5_checkCell_0
  have p1 : nI (W * H) - 1 = nI (W * H - 1) := by rw [← n_sub (by omega : 1 ≤ W * H)]; rfl
  refine ⟨F.1.1, a + 1, F.1.2.1, hI.1, (sp_cells hI t w).mpr (sp_out.mpr ?_)⟩
  rw [p1, l32_0.1, i_toInt (W * H - 1) (by omega)]
  refine ⟨fun z => h1 ?_, fun z => h0 (fun q => z ?_)⟩
  · rw [bI_0, Classical.not_not] at z
    exact ⟨z.1, by have := z.2; omega⟩
  · rw [bI_0, Classical.not_not]
    exact ⟨q.1, by have := q.2; omega⟩
theorem sp_checkRect {c : Nat} {v h : Int32} {Q : MM → Prop} {X : String → MM → Prop} (F : FieldAt Z a) (t : IceS M (a + 1) g) (w : WH g W H) (hc : c < W * H) (h1 : isR W H c v h → Q M) (h0 : ¬ isR W H c v h → X "java/lang/IllegalArgumentException" M) : P_X5_checkRectangle Z M a (nI c) v h Q X := by
  have h49 : W * H ≤ 49 := wh_lt w.2.2.2.1 w.2.2.2.2.2
  have hW7 := w.2.2.2.1
  have hH7 := w.2.2.2.2.2
  have hW2 := w.2.2.1
  have hcm : c % W < W := Nat.mod_lt _ (by omega)
  have hcr := row_lt hc
  have hrz := Nat.zero_le (c / W)
  have hI := F.2.1.1
  unfold P_X5_checkRectangle B_X5_checkRectangle_0
  refine ⟨F.1.1, sp_checkCell F t w (fun _ => sp_out.mpr ⟨fun z => ?_, fun z => sp_out.mpr ⟨fun z2 => ?_, fun z2 => ⟨a + 1, F.1.2.1, hI.1, (sp_col hI t w (by omega)).mpr ?_⟩⟩⟩) (fun q => absurd ?_ q)⟩
  · rw [bI_0, Classical.not_not, l32_0.2.1, l32_0.2.2.2.1] at z
    exact h0 (fun q => z ⟨q.1, q.2.1⟩)
  · rw [bI_0, Classical.not_not, l32_0.2.1, l32_0.2.2.2.1] at z2
    exact h0 (fun q => z2 ⟨q.2.2.1, q.2.2.2.1⟩)
  · rw [bI_0, Classical.not_not, l32_0.2.1, l32_0.2.2.2.1] at z z2
    obtain ⟨x, a1, rfl⟩ := small_ex (n := 7) (by omega) z.2 (by omega)
    obtain ⟨b, b1, rfl⟩ := small_ex (n := 7) (by omega) z2.2 (by omega)
    rw [i_toInt x (by omega)] at z
    rw [i_toInt b (by omega)] at z2
    have hR : isR W H c (nI x) (nI b) ↔ c % W + x ≤ W ∧ c / W + b ≤ H := by
      unfold isR
      rw [i_toInt x (by omega), i_toInt b (by omega)]
      omega
    rw [hR] at h1 h0
    rw [t.1 0 (by omega), w.1, nI_add]
    refine ⟨fun z3 => ?_, fun z3 => (sp_row hI t w (by omega)).mpr ?_⟩
    · rw [n_lt (by omega) (by omega)] at z3
      exact h0 (fun q => by omega)
    · rw [n_lt (by omega) (by omega)] at z3
      rw [t.1 1 (by omega), w.2.1, nI_add]
      refine ⟨fun z4 => ?_, fun z4 => ?_⟩
      · rw [n_le (by omega) (by omega)] at z4
        exact h1 ⟨by omega, by omega⟩
      · rw [n_le (by omega) (by omega)] at z4
        exact h0 (fun q => by omega)
  · exact ⟨by rw [i_toInt c (by omega)]; omega, by rw [i_toInt c (by omega)]; omega⟩
theorem sp_savedAt {i : Nat} {Q : Option Nat → MM → Prop} (F : FieldAt Z a) (hi : i < 4) : P_X5_savedAt Z M a (nI i) Q ↔ Q (some (a + 41 + 9 * i)) M := by
  unfold P_X5_savedAt B_X5_savedAt_0
  have e1 : ¬ nI 4 ≤ nI i := by rw [n_le (by omega) (by omega)]; omega
  simp only [F.1.1, F.1.2.2.2.1, F.2.1.2.2.1, F.2.1.2.2.2.1, Option.some.injEq, exists_eq_left', true_and, i_nn i (by omega), false_imp_iff, not_false_eq_true, true_imp_iff, e1, vpn hi (by omega : 4 ≤ 1000), i_cl i (by omega), (F.2.1.2.2.2.2 i hi).1]
theorem mod4 : ∀ k, k < 4 → nI k + 1 - (nI k + 1) / 4 * 4 = nI ((k + 1) % 4) := by decide +kernel
theorem mod4u : ∀ k, k < 4 → nI k + 4 - 1 - (nI k + 4 - 1) / 4 * 4 = nI ((k + 3) % 4) := by decide +kernel
def svA (a k : Nat) : List Nat := [a + 41 + 9 * k + 2, a + 41 + 9 * k + 4, a + 41 + 9 * k + 6]
theorem sp_save {Q : MM → Prop} (F : FieldAt Z a) (c : ClsI M a g sk n ns tx len) (hQ : ∀ M1, Fr (svA a ns) [a + 41 + 9 * ns, a] M M1 → ClsI M1 a g (pushS sk n g) (pc n) ((ns + 1) % 4) tx len → Q M1) : P_X5_saveState Z M a Q := by
  have hI := F.2.1.1
  obtain ⟨c0, ⟨c1, c2, c3, c4, c5⟩, c6, c7, c8⟩ := c
  have hS := (F.2.1.2.2.2.2 ns c2).2
  unfold P_X5_saveState B_X5_saveState_0 B_X5_saveState_21
  rw [c1]
  refine ⟨F.1.1, (sp_savedAt F c2).mpr ⟨fun z => (Option.some_ne_none _ z).elim, fun y hy => ?_⟩⟩
  injection hy with hy
  subst hy
  refine ⟨a + 1, F.1.2.1, hS.1, sp_copyIce (g := g) hS hI (by omega) c0 (fun M1 f1 t1 => ⟨F.1.1, ?_⟩)⟩
  have h12 : mI M1 12 a = nI ns := by rw [f1.2.1 _ _ (by simp; omega)]; exact c1
  have h13 : ∀ x, mI (setI M1 12 a x) 13 a = nI n := fun x => by
    rw [mI_setI, if_neg (by simp), f1.2.1 _ _ (by simp; omega)]; exact c3
  rw [h12, mod4 ns c2, h13]
  have fin : ∀ M2 : MM, FrM a [] [12, 13] M1 M2 → mI M2 12 a = nI ((ns + 1) % 4) → mI M2 13 a = nI (pc n) → Q M2 := by
    intro M2 f2 e1 e2
    have ff : Fr (svA a ns) [a + 41 + 9 * ns, a] M M2 := by
      refine ⟨fun b hb => ?_, fun f b hb => ?_, f2.2.2.trans f1.2.2⟩
      · rw [f2.1 _ (by simp)]
        exact f1.1 b hb
      · simp at hb
        rw [f2.2.1 _ _ (Or.inl hb.2)]
        exact f1.2.1 f b (by simp; exact hb.1)
    refine hQ M2 ff ⟨?_, ⟨e1, Nat.mod_lt _ (by omega), e2, ?_, fun i hi => ?_⟩, fun i hi => ?_, ?_, c8⟩
    · exact c0.frame ff (by simp; omega) (by simp [svA]; omega) (by simp [svA]; omega) (by simp [svA]; omega)
    · unfold pc; by_cases z : n = 4
      · rw [if_pos z]; exact Nat.le_refl _
      · rw [if_neg z]; omega
    · -- the states that are kept
      have t2 : IceS M2 (a + 41 + 9 * ns) g := by
        refine ⟨fun f hf => ?_, ?_, ?_, ?_⟩
        · rw [f2.2.1 _ _ (Or.inl (by omega))]; exact t1.1 f hf
        · rw [f2.1 _ (by simp)]; exact t1.2.1
        · rw [f2.1 _ (by simp)]; exact t1.2.2.1
        · rw [f2.1 _ (by simp)]; exact t1.2.2.2
      by_cases z : n = 4
      · subst z
        have e3 : pc 4 = 4 := rfl
        rw [e3] at hi ⊢
        by_cases z2 : i = 3
        · subst z2
          have e4 : ((ns + 1) % 4 + 4 - 4 + 3) % 4 = ns := by omega
          have e5 : pushS sk 4 g 3 = g := rfl
          rw [e4, e5]; exact t2
        · have e4 : ((ns + 1) % 4 + 4 - 4 + i) % 4 = (ns + 4 - 4 + (i + 1)) % 4 := by omega
          have e5 : pushS sk 4 g i = sk (i + 1) := by unfold pushS; rw [if_pos rfl, if_neg z2]
          rw [e4, e5]
          have hne : (ns + 4 - 4 + (i + 1)) % 4 ≠ ns := by omega
          exact (c5 (i + 1) (by omega)).frame ff (by simp; omega) (by simp [svA]; omega) (by simp [svA]; omega) (by simp [svA]; omega)
      · have e3 : pc n = n + 1 := by unfold pc; rw [if_neg z]
        rw [e3] at hi ⊢
        by_cases z2 : i = n
        · subst z2
          have e4 : ((ns + 1) % 4 + 4 - (i + 1) + i) % 4 = ns := by omega
          have e5 : pushS sk i g i = g := by unfold pushS; rw [if_neg z, if_pos rfl]
          rw [e4, e5]; exact t2
        · have e4 : ((ns + 1) % 4 + 4 - (n + 1) + i) % 4 = (ns + 4 - n + i) % 4 := by omega
          have e5 : pushS sk n g i = sk i := by unfold pushS; rw [if_neg z, if_neg z2]
          rw [e4, e5]
          have hne : (ns + 4 - n + i) % 4 ≠ ns := by omega
          exact (c5 i (by omega)).frame ff (by simp; omega) (by simp [svA]; omega) (by simp [svA]; omega) (by simp [svA]; omega)
    · rw [ff.1 _ (by simp [svA]; omega)]; exact c6 i hi
    · rw [ff.2.1 _ _ (by simp; omega)]; exact c7
  refine ⟨fun z => fin _ ((FrM.setI _ _ _ _).mono (by simp) (by simp)) (by rw [mI_setI]; simp) ?_, fun z => fin _ (((FrM.setI _ _ _ _).mono (by simp) (by simp)).trans ((FrM.setI _ _ _ _).mono (by simp) (by simp))) ?_ ?_⟩
  · rw [h13]
    rw [show (4 : Int32) = nI 4 from rfl, n_le (by omega) (by omega)] at z
    have : n = 4 := by omega
    subst this; rfl
  · rw [mI_setI, if_neg (by simp), mI_setI]; simp
  · rw [mI_setI, if_pos ⟨rfl, rfl⟩, nI_1]
    rw [show (4 : Int32) = nI 4 from rfl, n_le (by omega) (by omega)] at z
    unfold pc; rw [if_neg (by omega)]
end
