/-! PURE: loops over numbers; arithmetic of small numbers -/
theorem n_mul (a b : Nat) : nI a * nI b = nI (a * b) := (Int32.ofNat_mul a b).symm
theorem n_sub {a b : Nat} (h : b ≤ a) : nI a - nI b = nI (a - b) := by
  have h1 : nI a = nI (a - b) + nI b := by rw [nI_add]; congr 1; omega
  rw [h1]; exact Int32.add_sub_cancel _ _
theorem n_divmod : ∀ c, c < 64 → ∀ w, w < 8 → 0 < w → nI c / nI w = nI (c / w) ∧ nI c - nI c / nI w * nI w = nI (c % w) := by decide +kernel
theorem n_div {c w : Nat} (hc : c < 64) (hw : w < 8) (h0 : 0 < w) : nI c / nI w = nI (c / w) := (n_divmod c hc w hw h0).1
theorem n_mod {c w : Nat} (hc : c < 64) (hw : w < 8) (h0 : 0 < w) : nI c - nI c / nI w * nI w = nI (c % w) := (n_divmod c hc w hw h0).2
theorem wh_lt {W H : Nat} (hW : W ≤ 7) (hH : H ≤ 7) : W * H ≤ 49 := Nat.mul_le_mul hW hH
theorem lp_fill {Z : ZZ} {n a len : Nat} (h : NumAt Z n a len) (v : Int32) (Q : MM → Prop) : ∀ k i M, i + k = len → Q (setA M a (fun j => if i ≤ j ∧ j < len then v else mA M a j)) → L_X2_fill_2 Z Q (k + 1) M n v (nI i) := by
  obtain ⟨h1, h2, h3, h4, h5⟩ := h
  intro k
  induction k with
  | zero =>
    intro i M hi hQ
    have e : i = len := by omega
    subst e
    show B_X2_fill_2 Z Q (L_X2_fill_2 Z Q 0) M n v (nI i)
    unfold B_X2_fill_2
    simp only [h1, h2, h3, h4, Option.some.injEq, exists_eq_left', true_and]
    refine ⟨fun _ => ?_, fun c => absurd (nI_le (Nat.le_refl _) (by omega)) c⟩
    have e2 : (fun j => if i ≤ j ∧ j < i then v else mA M a j) = mA M a := by
      funext j; rw [if_neg (by omega)]
    rw [e2, setA_self] at hQ
    exact hQ
  | succ k ih =>
    intro i M hi hQ
    show B_X2_fill_2 Z Q (L_X2_fill_2 Z Q (k + 1)) M n v (nI i)
    unfold B_X2_fill_2
    simp only [h1, h2, h3, h4, Option.some.injEq, exists_eq_left', true_and]
    have c : ¬ nI len ≤ nI i := by rw [n_le (by omega) (by omega)]; omega
    refine ⟨fun d => absurd d c, fun _ => ⟨vp_of h5 (i_nn _ (by omega)) c, ?_⟩⟩
    rw [nI_1, i_cl i (by omega)]
    refine ih (i + 1) _ (by omega) ?_
    rw [setA_twice, mA_same]
    have e2 : (fun j => if i + 1 ≤ j ∧ j < len then v else upd (mA M a) i v j) = (fun j => if i ≤ j ∧ j < len then v else mA M a j) := by
      funext j
      simp only [upd]
      by_cases e : j = i
      · subst e; simp; omega
      · by_cases e3 : i ≤ j ∧ j < len
        · rw [if_pos e3, if_pos (by omega)]
        · rw [if_neg e3, if_neg (by omega), if_neg e]
    rw [e2]
    exact hQ
theorem sp_fill {Z : ZZ} {M : MM} {n a len : Nat} {v : Int32} {Q : MM → Prop} (h : NumAt Z n a len) (hQ : Q (setA M a (fun j => if j < len then v else mA M a j))) : P_X2_fill Z M n v Q := by
  refine ⟨len + 1, ?_⟩
  have := lp_fill h v Q len 0 M (by omega) (by simpa using hQ)
  exact this
theorem lp_copy {Z : ZZ} {n a len n2 a2 len2 : Nat} (h : NumAt Z n a len) (hb : NumAt Z n2 a2 len2) (hl : len ≤ len2) (hne : a2 ≠ a) (Q : MM → Prop) : ∀ k i M, i + k = len → Q (setA M a (fun j => if i ≤ j ∧ j < len then mA M a2 j else mA M a j)) → L_X2_copyFrom_2 Z Q (k + 1) M n n2 (nI i) := by
  have hb0 := hb
  obtain ⟨h1, h2, h3, h4, h5⟩ := h
  obtain ⟨b1, b2, b3, b4, b5⟩ := hb
  intro k
  induction k with
  | zero =>
    intro i M hi hQ
    have e : i = len := by omega
    subst e
    show B_X2_copyFrom_2 Z Q (L_X2_copyFrom_2 Z Q 0) M n n2 (nI i)
    unfold B_X2_copyFrom_2
    simp only [h1, h2, h3, h4, b1, Option.some.injEq, exists_eq_left', true_and]
    refine ⟨fun _ => ?_, fun c => absurd (nI_le (Nat.le_refl _) (by omega)) c⟩
    have e2 : (fun j => if i ≤ j ∧ j < i then mA M a2 j else mA M a j) = mA M a := by
      funext j; rw [if_neg (by omega)]
    rw [e2, setA_self] at hQ
    exact hQ
  | succ k ih =>
    intro i M hi hQ
    show B_X2_copyFrom_2 Z Q (L_X2_copyFrom_2 Z Q (k + 1)) M n n2 (nI i)
    unfold B_X2_copyFrom_2
    simp only [h1, h2, h3, h4, b1, Option.some.injEq, exists_eq_left', true_and]
    have c : ¬ nI len ≤ nI i := by rw [n_le (by omega) (by omega)]; omega
    refine ⟨fun d => absurd d c, fun _ => ?_⟩
    rw [sp_at hb0, gat_n (by omega) b5]
    refine ⟨vp_of h5 (i_nn _ (by omega)) c, ?_⟩
    rw [nI_1, i_cl i (by omega)]
    refine ih (i + 1) _ (by omega) ?_
    rw [setA_twice, mA_same, mA_ne _ _ _ hne]
    have e2 : (fun j => if i + 1 ≤ j ∧ j < len then mA M a2 j else upd (mA M a) i (mA M a2 i) j) = (fun j => if i ≤ j ∧ j < len then mA M a2 j else mA M a j) := by
      funext j
      simp only [upd]
      by_cases e : j = i
      · subst e
        by_cases e3 : j < len
        · simp [e3]
        · omega
      · by_cases e3 : i ≤ j ∧ j < len
        · rw [if_pos e3, if_pos (by omega)]
        · rw [if_neg e3, if_neg (by omega), if_neg e]
    rw [e2]
    exact hQ
theorem sp_copy {Z : ZZ} {M : MM} {n a len n2 a2 len2 : Nat} {Q : MM → Prop} (h : NumAt Z n a len) (hb : NumAt Z n2 a2 len2) (hl : len ≤ len2) (hne : a2 ≠ a) (hQ : Q (setA M a (fun j => if j < len then mA M a2 j else mA M a j))) : P_X2_copyFrom Z M n n2 Q := by
  refine ⟨len + 1, ?_⟩
  exact lp_copy h hb hl hne Q len 0 M (by omega) (by simpa using hQ)
/-- sums of the first n -/
def sm (f : Nat → Int32) : Nat → Int32
  | 0 => 0
  | n + 1 => sm f n + f n
theorem sm_ext {f g : Nat → Int32} {n : Nat} (h : ∀ i, i < n → f i = g i) : sm f n = sm g n := by
  induction n with
  | zero => rfl
  | succ n ih => simp only [sm]; rw [ih (fun i hi => h i (by omega)), h n (by omega)]
theorem sm_add (f g : Nat → Int32) (n : Nat) : sm (fun i => f i + g i) n = sm f n + sm g n := by
  induction n with
  | zero => simp [sm]
  | succ n ih =>
    simp only [sm, ih]
    rw [Int32.add_assoc, Int32.add_assoc]
    congr 1
    rw [← Int32.add_assoc, ← Int32.add_assoc, Int32.add_comm (sm g n) (f n)]
theorem sm_zero {f : Nat → Int32} {n m : Nat} (hm : n ≤ m) (h : ∀ i, n ≤ i → i < m → f i = 0) : sm f m = sm f n := by
  induction m with
  | zero => have : n = 0 := by omega
            subst this; rfl
  | succ m ih =>
    by_cases e : n = m + 1
    · subst e; rfl
    · simp only [sm]
      rw [ih (by omega) (fun i a b => h i a (by omega)), h m (by omega) (by omega), Int32.add_zero]
theorem lp_sum {Z : ZZ} {n a len : Nat} (h : NumAt Z n a len) (M : MM) (Q : Int32 → MM → Prop) : ∀ k i, i + k = len → Q (sm (mA M a) len) M → L_X2_sum_4 Z Q (k + 1) M n (sm (mA M a) i) (nI i) := by
  obtain ⟨h1, h2, h3, h4, h5⟩ := h
  intro k
  induction k with
  | zero =>
    intro i hi hQ
    have e : i = len := by omega
    subst e
    show B_X2_sum_4 Z Q (L_X2_sum_4 Z Q 0) M n _ (nI i)
    unfold B_X2_sum_4
    simp only [h1, h2, h3, h4, Option.some.injEq, exists_eq_left', true_and]
    exact ⟨fun _ => hQ, fun c => absurd (nI_le (Nat.le_refl _) (by omega)) c⟩
  | succ k ih =>
    intro i hi hQ
    show B_X2_sum_4 Z Q (L_X2_sum_4 Z Q (k + 1)) M n _ (nI i)
    unfold B_X2_sum_4
    simp only [h1, h2, h3, h4, Option.some.injEq, exists_eq_left', true_and]
    have c : ¬ nI len ≤ nI i := by rw [n_le (by omega) (by omega)]; omega
    refine ⟨fun d => absurd d c, fun _ => ⟨vp_of h5 (i_nn _ (by omega)) c, ?_⟩⟩
    rw [nI_1, i_cl i (by omega)]
    exact ih (i + 1) (by omega) hQ
theorem sp_sum {Z : ZZ} {M : MM} {n a len : Nat} {Q : Int32 → MM → Prop} (h : NumAt Z n a len) (hQ : Q (sm (mA M a) len) M) : P_X2_sum Z M n Q := ⟨len + 1, lp_sum h M Q len 0 (by omega) hQ⟩
