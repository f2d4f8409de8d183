/-! PURE: the model keeps states; its small checks -/
def StM (M : MM) (m : Nat) (sk : Nat → GG) (n : Nat) : Prop := mI M 14 m = nI n ∧ n ≤ 4 ∧ ∀ i, i < n → ∀ k, k < 226 → mA M (m + 2) (226 * i + k) = enc (sk i) k
def pushS (sk : Nat → GG) (n : Nat) (g : GG) : Nat → GG := if n = 4 then (fun i => if i = 3 then g else sk (i + 1)) else (fun i => if i = n then g else sk i)
def pc (n : Nat) : Nat := if n = 4 then 4 else n + 1
section
variable {Z : ZZ} {M : MM} {m : Nat} {g : GG} {W H : Nat}
theorem ModAt.sv (F : ModAt Z m) : zR Z 21 m = some (m + 2) ∧ zK Z (m + 2) = 7 ∧ zN Z (m + 2) = 904 := ⟨F.2.1.2.1, F.2.2.2.1.1, F.2.2.2.1.2⟩
theorem ModAt.asd (F : ModAt Z m) : zR Z 22 m = some (m + 3) ∧ zK Z (m + 3) = 7 ∧ zN Z (m + 3) = 226 := ⟨F.2.1.2.2.1, F.2.2.2.2.1.1, F.2.2.2.2.1.2⟩
theorem ModAt.tx (F : ModAt Z m) : zR Z 26 m = some (m + 7) ∧ zK Z (m + 7) = 7 ∧ zN Z (m + 7) = 60 := ⟨F.2.1.2.2.2.2.2.2, F.2.2.2.2.2.2.2.2.1, F.2.2.2.2.2.2.2.2.2⟩
theorem mo_aside {Q : MM → Prop} (F : ModAt Z m) (hQ : ∀ M1, Fr [m + 3] [] M M1 → (∀ k, k < 226 → mA M1 (m + 3) k = mA M (m + 1) k) → Q M1) : P_X6_laysAside Z M m Q := by
  refine ⟨227, ?_⟩
  refine for_up 226 (fun n i M' => L_X6_laysAside_2 Z Q n M' m (nI i)) (fun i M' => Fr [m + 3] [] M M' ∧ ∀ k, k < i → mA M' (m + 3) k = mA M (m + 1) k) ?_ ?_ 226 0 M rfl ⟨Fr.refl _ _ _, fun k hk => absurd hk (by omega)⟩
  · intro n i M' hi ⟨f, I⟩ kk
    have v1 : vp_in (nI i) (zN Z (m + 1)) := by rw [F.all.2.2]; exact vpn hi (by omega)
    have v2 : vp_in (nI i) (zN Z (m + 3)) := by rw [F.asd.2.2]; exact vpn hi (by omega)
    show B_X6_laysAside_2 Z Q (L_X6_laysAside_2 Z Q n) M' m (nI i)
    unfold B_X6_laysAside_2
    refine ⟨fun z => absurd z ?_, fun _ => ⟨F.1, m + 3, F.asd.1, m + 1, F.all.1, F.all.2.1, v1, F.asd.2.1, v2, ?_⟩⟩
    · rw [show (226 : Int32) = nI 226 from rfl, n_le (by omega) (by omega)]; omega
    rw [i_cl i (by omega), nI_1]
    refine kk _ ⟨f.trans (Fr.setA _ _ _), fun k hk => ?_⟩
    rw [mA_same, upd_at]
    by_cases e : k = i
    · subst e; rw [if_pos rfl, f.1 _ (by simp)]
    · rw [if_neg e]; exact I k (by omega)
  · intro n M' ⟨f, I⟩
    show B_X6_laysAside_2 Z Q (L_X6_laysAside_2 Z Q n) M' m (nI 226)
    unfold B_X6_laysAside_2
    exact ⟨fun _ => hQ M' f I, fun z => absurd (by decide) z⟩
theorem mo_back {Q : MM → Prop} (F : ModAt Z m) (hg : ∀ k, k < 226 → mA M (m + 3) k = enc g k) (hQ : ∀ M1, Fr [m + 1] [] M M1 → MoS M1 m g → Q M1) : P_X6_takesBack Z M m Q := by
  refine ⟨227, ?_⟩
  refine for_up 226 (fun n i M' => L_X6_takesBack_2 Z Q n M' m (nI i)) (fun i M' => Fr [m + 1] [] M M' ∧ ∀ k, k < i → mA M' (m + 1) k = enc g k) ?_ ?_ 226 0 M rfl ⟨Fr.refl _ _ _, fun k hk => absurd hk (by omega)⟩
  · intro n i M' hi ⟨f, I⟩ kk
    have v1 : vp_in (nI i) (zN Z (m + 1)) := by rw [F.all.2.2]; exact vpn hi (by omega)
    have v2 : vp_in (nI i) (zN Z (m + 3)) := by rw [F.asd.2.2]; exact vpn hi (by omega)
    show B_X6_takesBack_2 Z Q (L_X6_takesBack_2 Z Q n) M' m (nI i)
    unfold B_X6_takesBack_2
    refine ⟨fun z => absurd z ?_, fun _ => ⟨F.1, m + 1, F.all.1, m + 3, F.asd.1, F.asd.2.1, v2, F.all.2.1, v1, ?_⟩⟩
    · rw [show (226 : Int32) = nI 226 from rfl, n_le (by omega) (by omega)]; omega
    rw [i_cl i (by omega), nI_1]
    refine kk _ ⟨f.trans (Fr.setA _ _ _), fun k hk => ?_⟩
    rw [mA_same, upd_at]
    by_cases e : k = i
    · subst e; rw [if_pos rfl, f.1 _ (by simp)]; exact hg _ hi
    · rw [if_neg e]; exact I k (by omega)
  · intro n M' ⟨f, I⟩
    show B_X6_takesBack_2 Z Q (L_X6_takesBack_2 Z Q n) M' m (nI 226)
    unfold B_X6_takesBack_2
    exact ⟨fun _ => hQ M' f I, fun z => absurd (by decide) z⟩
/-- all arrays but these, all ints of objects but these fields of the model -/
def FrM (m : Nat) (rs fs : List Nat) (M M1 : MM) : Prop := (∀ a, a ∉ rs → mA M1 a = mA M a) ∧ (∀ f a, (a ≠ m ∨ f ∉ fs) → mI M1 f a = mI M f a) ∧ mJ M1 = mJ M
theorem Fr.toM {rs : List Nat} {M M1 : MM} (f : Fr rs [] M M1) (m : Nat) (fs : List Nat) : FrM m rs fs M M1 := ⟨f.1, fun k a _ => f.2.1 k a (by simp), f.2.2⟩
theorem FrM.trans {m : Nat} {rs fs : List Nat} {M M1 M2 : MM} (h : FrM m rs fs M M1) (h2 : FrM m rs fs M1 M2) : FrM m rs fs M M2 := ⟨fun a ha => (h2.1 a ha).trans (h.1 a ha), fun f a ha => (h2.2.1 f a ha).trans (h.2.1 f a ha), h2.2.2.trans h.2.2⟩
theorem FrM.mono {m : Nat} {rs fs rs2 fs2 : List Nat} {M M1 : MM} (h : FrM m rs fs M M1) (h1 : ∀ a ∈ rs, a ∈ rs2) (h2 : ∀ a ∈ fs, a ∈ fs2) : FrM m rs2 fs2 M M1 := ⟨fun a ha => h.1 a (fun q => ha (h1 a q)), fun f a ha => h.2.1 f a (ha.imp id (fun q r => q (h2 f r))), h.2.2⟩
theorem FrM.setI (M : MM) (f m : Nat) (x : Int32) : FrM m [] [f] M (setI M f m x) := ⟨fun _ _ => rfl, fun k a ha => by
  rw [mI_setI]
  rcases ha with ha | ha
  · rw [if_neg (fun q => ha q.2)]
  · rw [if_neg (fun q => ha (by simp [q.1]))], rfl⟩
theorem FrM.refl (m : Nat) (rs fs : List Nat) (M : MM) : FrM m rs fs M M := ⟨fun _ _ => rfl, fun _ _ _ => rfl, rfl⟩
theorem MoS.frM {M1 : MM} {rs fs : List Nat} (t : MoS M m g) (f : FrM m rs fs M M1) (h : m + 1 ∉ rs) : MoS M1 m g := fun k hk => by rw [f.1 _ h]; exact t k hk
theorem BlM.frM {M1 : MM} {rs fs : List Nat} (t : BlM M m W H g) (f : FrM m rs fs M M1) (h : m + 4 ∉ rs) : BlM M1 m W H g := fun k hk => by rw [f.1 _ h]; exact t k hk
theorem StM.frM {M1 : MM} {rs fs : List Nat} {sk : Nat → GG} {n : Nat} (t : StM M m sk n) (f : FrM m rs fs M M1) (h : m + 2 ∉ rs) (h2 : 14 ∉ fs) : StM M1 m sk n := ⟨(f.2.1 14 m (Or.inr h2)).trans t.1, t.2.1, fun i hi k hk => by rw [f.1 _ h]; exact t.2.2 i hi k hk⟩
theorem mo_save {sk : Nat → GG} {n : Nat} {Q : MM → Prop} (F : ModAt Z m) (t : MoS M m g) (S : StM M m sk n) (hQ : ∀ M1, FrM m [m + 2] [14] M M1 → StM M1 m (pushS sk n g) (pc n) → Q M1) : P_X6_save Z M m Q := by
  obtain ⟨s1, s2, s3⟩ := S
  -- the second loop
  have put : ∀ M1 k, k < 4 → FrM m [m + 2] [14] M M1 → mI M1 14 m = nI k → k + 1 = pc n → (∀ i, i < k → ∀ j, j < 226 → mA M1 (m + 2) (226 * i + j) = enc (pushS sk n g i) j) → pushS sk n g k = g → B_X6_save_49 Z Q M1 m := by
    intro M1 k hk f1 h14 hpc hold hnew
    unfold B_X6_save_49
    refine ⟨227, ?_⟩
    refine for_up 226 (fun r i M' => L_X6_save_51 Z Q r M' m (nI i)) (fun i M' => Fr [m + 2] [] M1 M' ∧ (∀ j, j < 226 * k → mA M' (m + 2) j = mA M1 (m + 2) j) ∧ ∀ j, j < i → mA M' (m + 2) (226 * k + j) = enc g j) ?_ ?_ 226 0 M1 rfl ⟨Fr.refl _ _ _, fun _ _ => rfl, fun k hk => absurd hk (by omega)⟩
    · intro r i M' hi ⟨f, I1, I2⟩ kk
      have h14' : mI M' 14 m = nI k := (f.2.1 14 m (by simp)).trans h14
      have v1 : vp_in (nI i) (zN Z (m + 1)) := by rw [F.all.2.2]; exact vpn hi (by omega)
      have v2 : vp_in (nI (226 * k + i)) (zN Z (m + 2)) := by rw [F.sv.2.2]; exact vpn (by omega) (by omega)
      have e226 : (226 : Int32) * nI k = nI (226 * k) := n_mul 226 k
      show B_X6_save_51 Z Q (L_X6_save_51 Z Q r) M' m (nI i)
      unfold B_X6_save_51
      rw [h14', e226, nI_add, i_cl (226 * k + i) (by omega), i_cl i (by omega)]
      simp only [nI_1]
      refine ⟨fun z => absurd z ?_, fun _ => ⟨F.1, m + 2, F.sv.1, m + 1, F.all.1, F.all.2.1, v1, F.sv.2.1, v2, ?_⟩⟩
      · rw [show (226 : Int32) = nI 226 from rfl, n_le (by omega) (by omega)]; omega
      refine kk _ ⟨f.trans (Fr.setA _ _ _), fun j hj => ?_, fun j hj => ?_⟩
      · rw [mA_same, upd_ne _ _ (by omega)]; exact I1 j hj
      · rw [mA_same, upd_at]
        by_cases e : j = i
        · subst e; rw [if_pos rfl, f.1 _ (by simp), f1.1 _ (by simp)]; exact t j hi
        · rw [if_neg (by omega)]; exact I2 j (by omega)
    · intro r M' ⟨f, I1, I2⟩
      have h14' : mI M' 14 m = nI k := (f.2.1 14 m (by simp)).trans h14
      show B_X6_save_51 Z Q (L_X6_save_51 Z Q r) M' m (nI 226)
      unfold B_X6_save_51
      refine ⟨fun _ => ⟨F.1, ?_⟩, fun z => absurd (by decide) z⟩
      rw [h14', nI_1]
      refine hQ _ (f1.trans (((f.toM m [14]).mono (by simp) (by simp)).trans ((FrM.setI _ _ _ _).mono (by simp) (by simp)))) ⟨?_, ?_, fun i hi j hj => ?_⟩
      · rw [mI_setI]; simp [hpc]
      · unfold pc
        by_cases z : n = 4
        · rw [if_pos z]; exact Nat.le_refl _
        · rw [if_neg z]; omega
      · rw [mA_setI]
        rcases Nat.lt_or_ge i k with z | z
        · rw [I1 _ (by omega)]; exact hold i z j hj
        · have : i = k := by omega
          subst this
          rw [hnew]; exact I2 j hj
  unfold P_X6_save B_X6_save_0
  rw [s1]
  refine ⟨F.1, fun z => ?_, fun z => ⟨679, ?_⟩⟩
  · have hn : n ≠ 4 := fun q => z (by rw [q]; rfl)
    refine put M n (by omega) (FrM.refl _ _ _ _) s1 (by unfold pc; rw [if_neg hn]) (fun i hi j hj => ?_) ?_
    · unfold pushS; rw [if_neg hn, if_neg (by omega)]; exact s3 i hi j hj
    · unfold pushS; rw [if_neg hn, if_pos rfl]
  · have hn : n = 4 := by rwa [show (4 : Int32) = nI 4 from rfl, n_eq (by omega) (by omega)] at z
    subst hn
    refine for_up 678 (fun r i M' => L_X6_save_10 Z Q (fun M1 a0 => B_X6_save_49 Z Q M1 a0) r M' m (nI i)) (fun i M' => Fr [m + 2] [] M M' ∧ ∀ j, j < 904 → mA M' (m + 2) j = if j < i then mA M (m + 2) (j + 226) else mA M (m + 2) j) ?_ ?_ 678 0 M rfl ⟨Fr.refl _ _ _, fun j hj => by rw [if_neg (by omega)]⟩
    · intro r i M' hi ⟨f, I⟩ kk
      have v1 : vp_in (nI (i + 226)) (zN Z (m + 2)) := by rw [F.sv.2.2]; exact vpn (by omega) (by omega)
      have v2 : vp_in (nI i) (zN Z (m + 2)) := by rw [F.sv.2.2]; exact vpn (by omega) (by omega)
      have e226 : nI i + (226 : Int32) = nI (i + 226) := nI_add i 226
      show B_X6_save_10 Z Q (L_X6_save_10 Z Q (fun M1 a0 => B_X6_save_49 Z Q M1 a0) r) (fun M1 a0 => B_X6_save_49 Z Q M1 a0) M' m (nI i)
      unfold B_X6_save_10
      rw [e226, i_cl i (by omega), i_cl (i + 226) (by omega), nI_1]
      refine ⟨fun z => absurd z ?_, fun _ => ⟨F.1, m + 2, F.sv.1, F.sv.2.1, v1, v2, ?_⟩⟩
      · rw [show (678 : Int32) = nI 678 from rfl, n_le (by omega) (by omega)]; omega
      refine kk _ ⟨f.trans (Fr.setA _ _ _), fun j hj => ?_⟩
      rw [mA_same, upd_at]
      by_cases e : j = i
      · subst e; rw [if_pos rfl, if_pos (by omega), I _ (by omega), if_neg (by omega)]
      · rw [if_neg e, I j hj]
        by_cases e2 : j < i
        · rw [if_pos e2, if_pos (by omega)]
        · rw [if_neg e2, if_neg (by omega)]
    · intro r M' ⟨f, I⟩
      show B_X6_save_10 Z Q (L_X6_save_10 Z Q (fun M1 a0 => B_X6_save_49 Z Q M1 a0) r) (fun M1 a0 => B_X6_save_49 Z Q M1 a0) M' m (nI 678)
      unfold B_X6_save_10
      have h14 : mI M' 14 m = nI 4 := (f.2.1 14 m (by simp)).trans s1
      have e3 : nI 4 - 1 = nI 3 := by decide
      rw [h14, e3]
      refine ⟨fun _ => ⟨F.1, ?_⟩, fun z => absurd (by decide) z⟩
      refine put _ 3 (by omega) (((f.toM m [14]).mono (by simp) (by simp)).trans ((FrM.setI _ _ _ _).mono (by simp) (by simp))) (by rw [mI_setI]; simp) rfl (fun i hi j hj => ?_) rfl
      rw [mA_setI, I _ (by omega), if_pos (by omega)]
      have := s3 (i + 1) (by omega) j hj
      rw [show 226 * i + j + 226 = 226 * (i + 1) + j by omega, this]
      unfold pushS
      rw [if_pos rfl, if_neg (by omega)]
theorem mo_fine {v : Int32} {Q : Int32 → MM → Prop} (F : ModAt Z m) : P_X6_fine Z M m v Q ↔ Q v (setI M 15 m 0) := by
  unfold P_X6_fine B_X6_fine_0
  simp only [F.1, true_and]
theorem mo_throwing {v : Int32} {Q : Int32 → MM → Prop} (F : ModAt Z m) : P_X6_throwing Z M m v Q ↔ Q 0 (setI M 15 m v) := by
  unfold P_X6_throwing B_X6_throwing_0
  simp only [F.1, true_and]
theorem mo_thrown {Q : Int32 → MM → Prop} (F : ModAt Z m) : P_X6_thrown Z M m Q ↔ Q (mI M 15 m) M := by
  unfold P_X6_thrown B_X6_thrown_0
  simp only [F.1, true_and]
/-- a cell, or none -/
def isC (W H : Nat) (v : Int32) : Prop := 0 ≤ v.toInt ∧ v.toInt < (W * H : Nat)
theorem isC_ex {v : Int32} (h : isC W H v) : ∃ c, c < W * H ∧ v = nI c := by
  refine ⟨v.toInt.toNat, ?_, ?_⟩
  · have := h.1; have := h.2; omega
  · rw [i_eq, i_toInt _ (by have := h.2; have h2 := v.toInt_lt; omega)]
    have := h.1; omega
theorem mo_isCell {v : Int32} {Q : Int32 → MM → Prop} (F : ModAt Z m) (t : MoS M m g) (w : WH g W H) (h1 : isC W H v → Q 1 M) (h0 : ¬ isC W H v → Q 0 M) : P_X6_isCell Z M m v Q := by
  have h49 : W * H ≤ 49 := wh_lt w.2.2.2.1 w.2.2.2.2.2
  have z0 : zb (0 : Int32) := Or.inl rfl
  have z1 : zb (1 : Int32) := Or.inr rfl
  unfold P_X6_isCell B_X6_isCell_0
  refine ⟨F.1, (mo_cells F t w).mpr (mo_in.mpr ?_)⟩
  rw [l64_0.1, l64_m1 (W * H) (by omega)]
  by_cases e : isC W H v
  · have e2 : 0 ≤ v.toInt ∧ v.toInt ≤ ((W * H : Nat) : Int) - 1 := ⟨e.1, by have := e.2; omega⟩
    rw [show bI (0 ≤ v.toInt ∧ v.toInt ≤ ((W * H : Nat) : Int) - 1) = 1 from if_pos e2]
    exact ⟨z1, h1 e⟩
  · have e2 : ¬ (0 ≤ v.toInt ∧ v.toInt ≤ ((W * H : Nat) : Int) - 1) := fun q => e ⟨q.1, by have := q.2; omega⟩
    rw [show bI (0 ≤ v.toInt ∧ v.toInt ≤ ((W * H : Nat) : Int) - 1) = 0 from if_neg e2]
    exact ⟨z0, h0 e⟩
/-- a rectangle within the field -/
def isR (W H c : Nat) (v h : Int32) : Prop := 1 ≤ v.toInt ∧ v.toInt ≤ 7 ∧ 1 ≤ h.toInt ∧ h.toInt ≤ 7 ∧ ((c % W : Nat) : Int) + v.toInt ≤ (W : Int) ∧ ((c / W : Nat) : Int) + h.toInt ≤ (H : Int)
theorem small_ex {v : Int32} {n : Nat} (h0 : 0 ≤ v.toInt) (h : v.toInt ≤ (n : Int)) (hn : n < 2147483648) : ∃ k, k ≤ n ∧ v = nI k := by
  refine ⟨v.toInt.toNat, by omega, ?_⟩
  rw [i_eq, i_toInt _ (by omega)]; omega
theorem mo_isRect {c : Nat} {v h : Int32} {Q : Int32 → MM → Prop} (F : ModAt Z m) (t : MoS M m g) (w : WH g W H) (hc : c < W * H) (h1 : isR W H c v h → Q 1 M) (h0 : ¬ isR W H c v h → Q 0 M) : P_X6_isRectangle Z M m (nI c) v h Q := by
  have h49 : W * H ≤ 49 := wh_lt w.2.2.2.1 w.2.2.2.2.2
  have hW7 := w.2.2.2.1
  have hH7 := w.2.2.2.2.2
  have hW2 := w.2.2.1
  have hcm : c % W < W := Nat.mod_lt _ (by omega)
  have hcr := row_lt hc
  have hrz := Nat.zero_le (c / W)
  have v0 : vp_in 0 (zN Z (m + 1)) := by rw [F.all.2.2]; exact vp0.1
  have v1 : vp_in 1 (zN Z (m + 1)) := by rw [F.all.2.2]; exact vp0.2.1
  unfold P_X6_isRectangle B_X6_isRectangle_0
  refine mo_in.mpr ⟨fun z => ?_, fun z => mo_in.mpr ⟨fun z2 => ?_, fun z2 => ⟨F.1, (mo_col F t w (by omega)).mpr ⟨m + 1, F.all.1, F.all.2.1, v0, ?_⟩⟩⟩⟩
  · rw [bI_0, l64_0.2.1, l64_0.2.2.2.1] at z
    exact h0 (fun q => z ⟨q.1, q.2.1⟩)
  · rw [bI_0, l64_0.2.1, l64_0.2.2.2.1] at z2
    exact h0 (fun q => z2 ⟨q.2.2.1, q.2.2.2.1⟩)
  · rw [bI_0, Classical.not_not, l64_0.2.1, l64_0.2.2.2.1] at z z2
    obtain ⟨a, a1, rfl⟩ := small_ex (n := 7) (by omega) z.2 (by omega)
    obtain ⟨b, b1, rfl⟩ := small_ex (n := 7) (by omega) z2.2 (by omega)
    rw [i_toInt a (by omega)] at z
    rw [i_toInt b (by omega)] at z2
    have hR : isR W H c (nI a) (nI b) ↔ c % W + a ≤ W ∧ c / W + b ≤ H := by
      unfold isR
      rw [i_toInt a (by omega), i_toInt b (by omega)]
      omega
    rw [hR] at h1 h0
    rw [t.w0 w, nI_add]
    refine ⟨fun z3 => ?_, fun z3 => (mo_row F t w (by omega)).mpr ⟨v1, ?_⟩⟩
    · rw [n_lt (by omega) (by omega)] at z3
      exact h0 (fun q => by omega)
    · rw [n_lt (by omega) (by omega)] at z3
      rw [t.w1 w, nI_add]
      refine ⟨fun z4 => ?_, fun z4 => ?_⟩
      · rw [n_lt (by omega) (by omega)] at z4
        exact h0 (fun q => by omega)
      · rw [n_lt (by omega) (by omega)] at z4
        exact h1 ⟨by omega, by omega⟩
/-- an empty field -/
theorem mo_makes {v h : Nat} {Q : MM → Prop} (F : ModAt Z m) (t : MoS M m g) (hv : v ≤ 7) (hh : h ≤ 7) (hQ : ∀ M1, Fr [m + 1] [] M M1 → MoS M1 m (begS g v h) → Q M1) : P_X6_makes Z M m (nI v) (nI h) Q := by
  have hvk : ∀ k, k < 226 → vp_in (nI k) (zN Z (m + 1)) := fun k hk => by rw [F.all.2.2]; exact vpn hk (by omega)
  unfold P_X6_makes B_X6_makes_0
  have e2 : mA M (m + 1) (2 : Int32).toNatClampNeg = gs g 2 := t.s (k := 2) (by omega)
  refine ⟨F.1, m + 1, F.all.1, F.all.2.1, hvk 2 (by omega), 227, ?_⟩
  rw [e2]
  refine for_up 226 (fun n i M' => L_X6_makes_10 Z Q n M' m (nI v) (nI h) (gs g 2) (nI i)) (fun i M' => Fr [m + 1] [] M M' ∧ ∀ k, k < i → mA M' (m + 1) k = 0) ?_ ?_ 226 0 M rfl ⟨Fr.refl _ _ _, fun k hk => absurd hk (by omega)⟩
  · intro n i M' hi ⟨f, I⟩ kk
    show B_X6_makes_10 Z Q (L_X6_makes_10 Z Q n) M' m (nI v) (nI h) (gs g 2) (nI i)
    unfold B_X6_makes_10
    refine ⟨fun z => absurd z ?_, fun _ => ⟨F.1, m + 1, F.all.1, F.all.2.1, hvk i hi, ?_⟩⟩
    · rw [show (226 : Int32) = nI 226 from rfl, n_le (by omega) (by omega)]; omega
    rw [i_cl i (by omega), nI_1]
    refine kk _ ⟨f.trans (Fr.setA _ _ _), fun k hk => ?_⟩
    rw [mA_same, upd_at]
    by_cases e : k = i
    · rw [if_pos e]
    · rw [if_neg e]; exact I k (by omega)
  · intro n M' ⟨f, I⟩
    show B_X6_makes_10 Z Q (L_X6_makes_10 Z Q n) M' m (nI v) (nI h) (gs g 2) (nI 226)
    unfold B_X6_makes_10
    refine ⟨fun _ => ⟨F.1, m + 1, F.all.1, F.all.2.1, hvk 2 (by omega), hvk 0 (by omega), hvk 1 (by omega), ?_⟩, fun z => absurd (by decide) z⟩
    rw [setA_twice, setA_twice, mA_same, mA_same]
    refine hQ _ (f.trans (Fr.setA _ _ _)) (fun k hk => ?_)
    rw [mA_same]
    have c0 : (0 : Int32).toNatClampNeg = 0 := rfl
    have c1 : (1 : Int32).toNatClampNeg = 1 := rfl
    have c2 : (2 : Int32).toNatClampNeg = 2 := rfl
    rw [c0, c1, c2, upd_at, upd_at, upd_at]
    have hz : bts (wd (begS g v h)) (wd (begS g v h) * ht (begS g v h)) (gc (begS g v h)) (k - 57) = 0 := by
      unfold bts
      have : ∀ p, gc (begS g v h) p = 0 := fun _ => rfl
      simp [this]
    unfold enc
    by_cases e8 : k < 8
    · rw [if_pos e8]
      obtain rfl | rfl | rfl | rfl | rfl | rfl | rfl | rfl : k = 0 ∨ k = 1 ∨ k = 2 ∨ k = 3 ∨ k = 4 ∨ k = 5 ∨ k = 6 ∨ k = 7 := by omega
      · rfl
      · rfl
      · rfl
      · exact I 3 (by omega)
      · exact I 4 (by omega)
      · exact I 5 (by omega)
      · exact I 6 (by omega)
      · exact I 7 (by omega)
    · rw [if_neg (by omega), if_neg (by omega), if_neg (by omega), I k hk, if_neg e8]
      by_cases e57 : k < 57
      · rw [if_pos e57]; rfl
      · rw [if_neg e57]
        by_cases e106 : k < 106
        · rw [if_pos e106, hz]
        · rw [if_neg e106]; rfl
theorem mo_puts {c : Nat} {x : Int32} {Q : MM → Prop} (F : ModAt Z m) (t : MoS M m g) (hc : c < 49) (hQ : ∀ M1, Fr [m + 1] [] M M1 → MoS M1 m (addS g c x) → Q M1) : P_X6_puts Z M m (nI c) x Q := by
  have hvk : ∀ k, k < 226 → vp_in (nI k) (zN Z (m + 1)) := fun k hk => by rw [F.all.2.2]; exact vpn hk (by omega)
  unfold P_X6_puts B_X6_puts_0
  rw [e8, i_cl (8 + c) (by omega)]
  have t2 := t.setT c (gt g c + x) hc
  have e4 : mA (setA M (m + 1) (upd (mA M (m + 1)) (8 + c) (gt g c + x))) (m + 1) (4 : Int32).toNatClampNeg = gs g 4 := t2.s (k := 4) (by omega)
  refine ⟨F.1, m + 1, F.all.1, F.all.2.1, hvk _ (by omega), hvk _ (by omega), hvk 4 (by omega), hvk 4 (by omega), ?_⟩
  rw [t.th hc, e4]
  exact hQ _ ((Fr.setA _ _ _).trans (Fr.setA _ _ _)) ((t2.setS (k := 4) (gs g 4 + x) (by omega) (by omega)).cong (fun _ _ => rfl) (fun _ _ => rfl) rfl (fun _ _ => rfl))
end
