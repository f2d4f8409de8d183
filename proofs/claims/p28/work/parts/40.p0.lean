/-! PURE: memory, numbers, the leaves -/
theorem mA_same (M : MM) (a : Nat) (f : Nat → Int32) : mA (setA M a f) a = f := by simp [setA, mA, va_up]
theorem mA_ne (M : MM) (a : Nat) (f : Nat → Int32) {b : Nat} (h : b ≠ a) : mA (setA M a f) b = mA M b := by simp [setA, mA, va_up, h]
theorem mI_setA (M : MM) (a : Nat) (f : Nat → Int32) : mI (setA M a f) = mI M := rfl
theorem mJ_setA (M : MM) (a : Nat) (f : Nat → Int32) : mJ (setA M a f) = mJ M := rfl
theorem mA_setI (M : MM) (f a : Nat) (x : Int32) : mA (setI M f a x) = mA M := rfl
theorem mJ_setI (M : MM) (f a : Nat) (x : Int32) : mJ (setI M f a x) = mJ M := rfl
theorem mI_setI (M : MM) (f a : Nat) (x : Int32) (g b : Nat) : mI (setI M f a x) g b = if g = f ∧ b = a then x else mI M g b := by
  by_cases h : b = a
  · subst h
    simp only [mI, setI_at]
    by_cases h2 : g = f <;> simp [h2]
  · simp only [mI, setI_ne M f a g x h]
    simp [h]
theorem setA_self (M : MM) (a : Nat) : setA M a (mA M a) = M := by
  obtain ⟨p, q, r⟩ := M
  simp only [setA, mA, Prod.mk.injEq, true_and, and_true]
  funext b
  by_cases h : b = a
  · subst h; simp [va_up]
  · simp [va_up, h]
theorem setA_twice (M : MM) (a : Nat) (f g : Nat → Int32) : setA (setA M a f) a g = setA M a g := by
  obtain ⟨p, q, r⟩ := M
  simp only [setA, Prod.mk.injEq, true_and, and_true]
  funext b
  by_cases h : b = a <;> simp [va_up, h]
/-- only these arrays and these objects' ints have changed -/
def Fr (rs os : List Nat) (M M1 : MM) : Prop := (∀ a, a ∉ rs → mA M1 a = mA M a) ∧ (∀ f a, a ∉ os → mI M1 f a = mI M f a) ∧ mJ M1 = mJ M
theorem Fr.refl (rs os : List Nat) (M : MM) : Fr rs os M M := ⟨fun _ _ => rfl, fun _ _ _ => rfl, rfl⟩
theorem Fr.trans {rs os : List Nat} {M M1 M2 : MM} (h : Fr rs os M M1) (h2 : Fr rs os M1 M2) : Fr rs os M M2 := ⟨fun a ha => (h2.1 a ha).trans (h.1 a ha), fun f a ha => (h2.2.1 f a ha).trans (h.2.1 f a ha), h2.2.2.trans h.2.2⟩
theorem Fr.mono {rs os rs2 os2 : List Nat} {M M1 : MM} (h : Fr rs os M M1) (h1 : ∀ a ∈ rs, a ∈ rs2) (h2 : ∀ a ∈ os, a ∈ os2) : Fr rs2 os2 M M1 := ⟨fun a ha => h.1 a (fun q => ha (h1 a q)), fun f a ha => h.2.1 f a (fun q => ha (h2 a q)), h.2.2⟩
theorem Fr.setA (M : MM) (a : Nat) (f : Nat → Int32) : Fr [a] [] M (setA M a f) := ⟨fun b hb => mA_ne M a f (by simpa using hb), fun _ _ _ => rfl, rfl⟩
theorem Fr.setI (M : MM) (f a : Nat) (x : Int32) : Fr [] [a] M (setI M f a x) := ⟨fun _ _ => rfl, fun g b hb => by rw [mI_setI]; simp at hb; simp [hb], rfl⟩
/-! numbers -/
theorem i_lt (x y : Int32) : x < y ↔ x.toInt < y.toInt := Int32.lt_iff_toInt_lt
theorem i_le (x y : Int32) : x ≤ y ↔ x.toInt ≤ y.toInt := Int32.le_iff_toInt_le
theorem i_eq (x y : Int32) : x = y ↔ x.toInt = y.toInt := Int32.toInt_inj.symm
theorem i_cl (k : Nat) (h : k < 2147483648) : (nI k).toNatClampNeg = k := nI_clamp (by omega)
theorem i_nn (k : Nat) (h : k < 2147483648) : ¬ nI k < 0 := nI_pos (by omega)
theorem i_n1 (k : Nat) (h : k < 2147483648) : ¬ nI k = -1 := fun e => by
  have h1 := (i_eq _ _).mp e
  rw [nI_toInt (by omega)] at h1
  have h2 : (-1 : Int32).toInt = -1 := by decide
  omega
theorem i_toInt (k : Nat) (h : k < 2147483648) : (nI k).toInt = (k : Int) := nI_toInt (by omega)
theorem n_lt {a b : Nat} (ha : a < 2147483648) (hb : b < 2147483648) : nI a < nI b ↔ a < b := nI_ltI (by omega) (by omega)
theorem n_le {a b : Nat} (ha : a < 2147483648) (hb : b < 2147483648) : nI a ≤ nI b ↔ a ≤ b := nI_leI (by omega) (by omega)
theorem n_eq {a b : Nat} (ha : a < 2147483648) (hb : b < 2147483648) : nI a = nI b ↔ a = b := nI_eq (by omega) (by omega)
def gat (f : Nat → Int32) (n : Nat) (i : Int32) : Int32 := if i < 0 then 0 else if nI n ≤ i then 0 else f i.toNatClampNeg
theorem gat_n {f : Nat → Int32} {n k : Nat} (h : k < n) (hn : n ≤ 1000) : gat f n (nI k) = f k := by
  unfold gat
  rw [if_neg (i_nn k (by omega)), if_neg (by rw [n_le (by omega) (by omega)]; omega), i_cl k (by omega)]
theorem gat_out {f : Nat → Int32} {n k : Nat} (h : n ≤ k) (hk : k < 2147483648) : gat f n (nI k) = 0 := by
  unfold gat
  rw [if_neg (i_nn k (by omega)), if_pos (by rw [n_le (by omega) (by omega)]; exact h)]
theorem gat_neg {f : Nat → Int32} {n : Nat} {i : Int32} (h : i < 0) : gat f n i = 0 := by
  unfold gat
  rw [if_pos h]
theorem vp_of {i : Int32} {n : Nat} (hn : n ≤ 1000) (h0 : ¬ i < 0) (h1 : ¬ nI n ≤ i) : vp_in i n := by
  rw [vp_in_iff]
  rw [i_lt] at h0
  rw [i_le, i_toInt n (by omega)] at h1
  have h2 : (0 : Int32).toInt = 0 := by decide
  omega
/-! a row of numbers: its object and its array -/
def NumAt (Z : ZZ) (n a len : Nat) : Prop := zK Z n = 2 ∧ zR Z 7 n = some a ∧ zK Z a = 7 ∧ zN Z a = len ∧ len ≤ 1000
theorem sp_at {Z : ZZ} {M : MM} {n a len : Nat} {i : Int32} {Q : Int32 → MM → Prop} (h : NumAt Z n a len) : P_X2_at Z M n i Q ↔ Q (gat (mA M a) len i) M := by
  obtain ⟨h1, h2, h3, h4, h5⟩ := h
  unfold P_X2_at B_X2_at_0 gat
  simp only [h1, h2, h3, h4, Option.some.injEq, exists_eq_left', true_and]
  by_cases c0 : i < 0
  · simp [c0]
  · by_cases c1 : nI len ≤ i
    · simp [c0, c1, h3, h4]
    · simp [c0, c1, h3, h4, vp_of h5 c0 c1]
def pput (M : MM) (a len : Nat) (i v : Int32) : MM := if i < 0 then M else if nI len ≤ i then M else setA M a (upd (mA M a) i.toNatClampNeg v)
theorem sp_put {Z : ZZ} {M : MM} {n a len : Nat} {i v : Int32} {Q : MM → Prop} (h : NumAt Z n a len) : P_X2_put Z M n i v Q ↔ Q (pput M a len i v) := by
  obtain ⟨h1, h2, h3, h4, h5⟩ := h
  unfold P_X2_put B_X2_put_0 pput
  simp only [h1, h2, h3, h4, Option.some.injEq, exists_eq_left', true_and]
  by_cases c0 : i < 0
  · simp [c0]
  · by_cases c1 : nI len ≤ i
    · simp [c0, c1, h3, h4]
    · simp [c0, c1, h3, h4, vp_of h5 c0 c1]
theorem pput_n {M : MM} {a len k : Nat} {v : Int32} (h : k < len) (hn : len ≤ 1000) : pput M a len (nI k) v = setA M a (upd (mA M a) k v) := by
  unfold pput
  rw [if_neg (i_nn k (by omega)), if_neg (by rw [n_le (by omega) (by omega)]; omega), i_cl k (by omega)]
