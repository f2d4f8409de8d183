/-! PURE: the text -/
def rdS (tx : Nat → Int32) (len : Nat) : Nat → Nat → Nat → Nat → Nat → Int32 × Nat × Nat
  | 0, _, w, h, d => (if 2 ≤ h ∧ d = w then -1 else nI len, w, h)
  | k + 1, i, w, h, d => if (48 ≤ (tx i).toInt ∧ (tx i).toInt ≤ 57) ∧ d < (if h = 1 then 7 else w) then rdS tx len k (i + 1) w h (d + 1) else if tx i = 47 ∧ (if h = 1 then 2 else w) ≤ d ∧ h < 7 then rdS tx len k (i + 1) d (h + 1) 0 else (nI i, w, h)
theorem rd_run {tx : Nat → Int32} {len w h : Nat} (k : Nat) : ∀ j p d, (∀ t, t < j → 48 ≤ (tx (p + t)).toInt ∧ (tx (p + t)).toInt ≤ 57) → d + j ≤ (if h = 1 then 7 else w) → rdS tx len (k + j) p w h d = rdS tx len k (p + j) w h (d + j) := by
  intro j
  induction j with
  | zero => intro p d _ _; rfl
  | succ j ih =>
    intro p d hd hm
    rw [show k + (j + 1) = (k + j) + 1 from rfl, rdS, if_pos ⟨hd 0 (by omega), by omega⟩, ih (p + 1) (d + 1) (fun t ht => by
      have := hd (t + 1) (by omega)
      rwa [show p + 1 + t = p + (t + 1) by omega]) (by omega)]
    rw [show p + 1 + j = p + (j + 1) by omega, show d + 1 + j = d + (j + 1) by omega]
theorem rd_ok {tx : Nat → Int32} {len : Nat} : ∀ k i w h d, i + k < 1000 → len < 1000 → 1 ≤ h → h ≤ 7 → (h = 1 → d ≤ 7) → (2 ≤ h → 2 ≤ w ∧ w ≤ 7 ∧ d ≤ w) → (rdS tx len k i w h d).1 = -1 → 2 ≤ (rdS tx len k i w h d).2.1 ∧ (rdS tx len k i w h d).2.1 ≤ 7 ∧ 2 ≤ (rdS tx len k i w h d).2.2 ∧ (rdS tx len k i w h d).2.2 ≤ 7 := by
  intro k
  induction k with
  | zero =>
    intro i w h d _ hl h1 h7 hd hw hr
    simp only [rdS] at hr ⊢
    by_cases c : 2 ≤ h ∧ d = w
    · have := hw c.1
      exact ⟨this.1, this.2.1, c.1, h7⟩
    · rw [if_neg c] at hr
      exact absurd hr (i_n1 len (by omega))
  | succ k ih =>
    intro i w h d hi hl h1 h7 hd hw hr
    rw [rdS] at hr ⊢
    by_cases c : (48 ≤ (tx i).toInt ∧ (tx i).toInt ≤ 57) ∧ d < (if h = 1 then 7 else w)
    · rw [if_pos c] at hr ⊢
      refine ih (i + 1) w h (d + 1) (by omega) hl h1 h7 (fun q => ?_) (fun q => ?_) hr
      · have := c.2; rw [if_pos q] at this; omega
      · have := c.2; rw [if_neg (by omega)] at this; have := hw q; omega
    · rw [if_neg c] at hr ⊢
      by_cases c2 : tx i = 47 ∧ (if h = 1 then 2 else w) ≤ d ∧ h < 7
      · rw [if_pos c2] at hr ⊢
        refine ih (i + 1) d (h + 1) 0 (by omega) hl (by omega) (by omega) (fun q => by omega) (fun q => ?_) hr
        by_cases q2 : h = 1
        · have := c2.2.1; rw [if_pos q2] at this; have := hd q2; omega
        · have := c2.2.1; rw [if_neg q2] at this; have := hw (by omega); omega
      · rw [if_neg c2] at hr
        exact absurd hr (i_n1 i (by omega))
section
variable {Z : ZZ} {M : MM} {x m len : Nat} {tx : Nat → Int32}
theorem sp_isDigit {v : Int32} {Q : Int32 → MM → Prop} : P_X3_isDigit Z M v Q ↔ Q (bI (48 ≤ v.toInt ∧ v.toInt ≤ 57)) M := by
  unfold P_X3_isDigit B_X3_isDigit_0
  have e48 : (48 : Int32).toInt = 48 := by decide
  have e57 : (57 : Int32).toInt = 57 := by decide
  rw [i_lt, i_lt, e48, e57]
  by_cases a : v.toInt < 48
  · have : ¬ (48 ≤ v.toInt ∧ v.toInt ≤ 57) := by omega
    simp [a, bI, this]
  · by_cases b : 57 < v.toInt
    · have : ¬ (48 ≤ v.toInt ∧ v.toInt ≤ 57) := by omega
      simp [a, b, bI, this]
    · have : 48 ≤ v.toInt ∧ v.toInt ≤ 57 := by omega
      simp [a, b, bI, this]
theorem sp_most {w h : Nat} {Q : Int32 → MM → Prop} (hx : zK Z x = 3) (hh : h < 1000) (h9 : mI M 9 x = nI w) (h10 : mI M 10 x = nI h) : P_X3_mostDigits Z M x Q ↔ Q (nI (if h = 1 then 7 else w)) M := by
  unfold P_X3_mostDigits B_X3_mostDigits_0
  have e : nI h = 1 ↔ h = 1 := by rw [show (1 : Int32) = nI 1 from rfl, n_eq (by omega) (by omega)]
  rw [h9, h10, e]
  by_cases c : h = 1
  · simp [hx, c]; rfl
  · simp [hx, c]
theorem sp_least {w h : Nat} {Q : Int32 → MM → Prop} (hx : zK Z x = 3) (hh : h < 1000) (h9 : mI M 9 x = nI w) (h10 : mI M 10 x = nI h) : P_X3_leastDigits Z M x Q ↔ Q (nI (if h = 1 then 2 else w)) M := by
  unfold P_X3_leastDigits B_X3_leastDigits_0
  have e : nI h = 1 ↔ h = 1 := by rw [show (1 : Int32) = nI 1 from rfl, n_eq (by omega) (by omega)]
  rw [h9, h10, e]
  by_cases c : h = 1
  · simp [hx, c]; rfl
  · simp [hx, c]
theorem lp_read {Q : Int32 → MM → Prop} (T : TextAt Z x) (hl : len ≤ 60) (M0 : MM) (hM0 : mI M0 8 x = nI len) (ht : ∀ i, i < 60 → mA M0 (x + 2) i = tx i) : ∀ k i w h d M, i + k = len → w < 200 → h < 200 → d < 100 + i → FrM x [] [9, 10] M0 M → mI M 9 x = nI w → mI M 10 x = nI h →
    (∀ M1, FrM x [] [9, 10] M0 M1 → mI M1 9 x = nI (rdS tx len k i w h d).2.1 → mI M1 10 x = nI (rdS tx len k i w h d).2.2 → Q (rdS tx len k i w h d).1 M1) → L_X3_read_14 Z Q (k + 1) M x (nI d) (nI i) := by
  obtain ⟨T1, T2, T3⟩ := T
  intro k
  induction k with
  | zero =>
    intro i w h d M hi hw hh hd f h9 h10 hQ
    have h8 : mI M 8 x = nI len := (f.2.1 8 x (Or.inr (by simp))).trans hM0
    show B_X3_read_14 Z Q (L_X3_read_14 Z Q 0) M x (nI d) (nI i)
    unfold B_X3_read_14
    rw [h8]
    refine ⟨T1, fun _ => ?_, fun z => absurd ?_ z⟩
    · unfold B_X3_read_114
      rw [h8, h9, h10, show (2 : Int32) = nI 2 from rfl, n_lt (by omega) (by omega), n_eq (by omega) (by omega)]
      simp only [rdS] at hQ
      refine ⟨T1, fun z => ?_, fun z => ⟨fun z2 => ?_, fun z2 => ?_⟩⟩
      · rw [if_neg (fun q => by omega)] at hQ; exact hQ M f h9 h10
      · rw [if_neg (fun q => z2 q.2)] at hQ; exact hQ M f h9 h10
      · rw [if_pos ⟨by omega, z2⟩] at hQ; exact hQ M f h9 h10
    · rw [n_le (by omega) (by omega)]; omega
  | succ k ih =>
    intro i w h d M hi hw hh hd f h9 h10 hQ
    have h8 : mI M 8 x = nI len := (f.2.1 8 x (Or.inr (by simp))).trans hM0
    have hti : mA M (x + 2) i = tx i := by rw [f.1 _ (by simp)]; exact ht i (by omega)
    rw [rdS] at hQ
    -- not a digit that goes on
    have half : ¬ ((48 ≤ (tx i).toInt ∧ (tx i).toInt ≤ 57) ∧ d < (if h = 1 then 7 else w)) → B_X3_read_56 Z Q (fun M1 a0 v1 v2 => B_X3_read_108 Z Q (L_X3_read_14 Z Q (k + 1)) M1 a0 v1 v2) M x (nI d) (nI i) := by
      intro c
      rw [if_neg c] at hQ
      unfold B_X3_read_56 B_X3_read_108
      refine ⟨T1, x + 1, T2, T3.1, (sp_at T3).mpr ?_⟩
      rw [gat_n (by omega) (by omega), hti]
      refine ⟨fun z => ?_, fun z => (sp_least T1 (by omega) h9 h10).mpr ⟨fun z2 => ?_, fun z2 => ⟨fun z3 => ?_, fun z3 => ?_⟩⟩⟩
      · rw [if_neg (fun q => z q.1)] at hQ; exact hQ M f h9 h10
      · rw [n_lt (by omega) (by split <;> omega)] at z2
        rw [if_neg (fun q => by have := q.2.1; omega)] at hQ; exact hQ M f h9 h10
      · rw [h10, show (7 : Int32) = nI 7 from rfl, n_le (by omega) (by omega)] at z3
        rw [if_neg (fun q => by have := q.2.2; omega)] at hQ; exact hQ M f h9 h10
      · rw [h10, show (7 : Int32) = nI 7 from rfl, n_le (by omega) (by omega)] at z3
        rw [n_lt (by omega) (by split <;> omega)] at z2
        rw [if_pos ⟨z, by omega, by omega⟩] at hQ
        have e10 : mI (setI M 9 x (nI d)) 10 x = nI h := by rw [mI_setI, if_neg (by simp)]; exact h10
        rw [e10, nI_1, nI_1]
        refine ih (i + 1) d (h + 1) 0 _ (by omega) (by omega) (by omega) (by omega) (f.trans (((FrM.setI _ _ _ _).mono (by simp) (by simp)).trans ((FrM.setI _ _ _ _).mono (by simp) (by simp)))) ?_ ?_ hQ
        · rw [mI_setI, if_neg (by simp), mI_setI, if_pos ⟨rfl, rfl⟩]
        · rw [mI_setI, if_pos ⟨rfl, rfl⟩]
    show B_X3_read_14 Z Q (L_X3_read_14 Z Q (k + 1)) M x (nI d) (nI i)
    unfold B_X3_read_14
    rw [h8]
    refine ⟨T1, fun z => absurd z ?_, fun _ => ⟨fun z => absurd z ?_, fun _ => ⟨x + 1, T2, T3.1, (sp_at T3).mpr (sp_isDigit.mpr ?_)⟩⟩⟩
    · rw [n_le (by omega) (by omega)]; omega
    · rw [show (60 : Int32) = nI 60 from rfl, n_le (by omega) (by omega)]; omega
    rw [gat_n (by omega) (by omega), hti]
    refine ⟨fun z => half (fun q => ?_), fun z => (sp_most T1 (by omega) h9 h10).mpr ⟨fun z2 => half (fun q => ?_), fun z2 => ?_⟩⟩
    · rw [bI_0] at z; exact z q.1
    · rw [n_le (by split <;> omega) (by omega)] at z2; omega
    · rw [bI_0, Classical.not_not] at z
      rw [n_le (by split <;> omega) (by omega)] at z2
      rw [if_pos ⟨z, by omega⟩] at hQ
      unfold B_X3_read_108
      rw [nI_1, nI_1]
      exact ih (i + 1) w h (d + 1) M (by omega) hw hh (by omega) f h9 h10 hQ
/-! the model reads -/
/-- where the automaton stands as a row of the model is whole -/
def rowP (tx : Nat → Int32) (len q rw rh : Nat) : Prop := ∃ w, rdS tx len len 0 0 1 0 = rdS tx len (len - q) q w rh rw ∧ (rh = 1 ∨ w = rw) ∧ 2 ≤ rw ∧ rw ≤ 7 ∧ 1 ≤ rh ∧ rh ≤ 7 ∧ (q < len → ¬ ((48 ≤ (tx q).toInt ∧ (tx q).toInt ≤ 57) ∧ rw < (if rh = 1 then 7 else w)))
end
