/-! PURE: a field of ice; reads -/
def GG : Type := (Nat → Int32) × (Nat → Int32) × (Nat → Int32) × (Nat → Int32)
def gs (g : GG) : Nat → Int32 := g.1
def gt (g : GG) : Nat → Int32 := g.2.1
def gc (g : GG) : Nat → Int32 := g.2.2.1
def gk (g : GG) : Nat → Int32 := g.2.2.2
def IceAt (Z : ZZ) (x : Nat) : Prop := zK Z x = 1 ∧ zR Z 3 x = some (x + 1) ∧ zR Z 4 x = some (x + 3) ∧ zR Z 5 x = some (x + 5) ∧ zR Z 6 x = some (x + 7) ∧ NumAt Z (x + 1) (x + 2) 49 ∧ NumAt Z (x + 3) (x + 4) 106 ∧ NumAt Z (x + 5) (x + 6) 120 ∧ NumAt Z (x + 7) (x + 8) 49
def IceS (M : MM) (x : Nat) (g : GG) : Prop := (∀ f, f < 8 → mI M f x = gs g f) ∧ (∀ i, i < 49 → mA M (x + 2) i = gt g i) ∧ (∀ i, i < 106 → mA M (x + 4) i = gc g i) ∧ (∀ i, i < 120 → mA M (x + 6) i = gk g i)
/-- width and height -/
def WH (g : GG) (W H : Nat) : Prop := gs g 0 = nI W ∧ gs g 1 = nI H ∧ 2 ≤ W ∧ W ≤ 7 ∧ 2 ≤ H ∧ H ≤ 7
def bI (p : Prop) [Decidable p] : Int32 := if p then 1 else 0
theorem bI_0 (p : Prop) [Decidable p] : bI p = 0 ↔ ¬ p := by unfold bI; by_cases h : p <;> simp [h]
theorem bI_1 (p : Prop) [Decidable p] : bI p = 1 ↔ p := by unfold bI; by_cases h : p <;> simp [h]
theorem IceS.frame {M M1 : MM} {x : Nat} {g : GG} {rs os : List Nat} (h : IceS M x g) (f : Fr rs os M M1) (h0 : x ∉ os) (h2 : x + 2 ∉ rs) (h4 : x + 4 ∉ rs) (h6 : x + 6 ∉ rs) : IceS M1 x g := by
  obtain ⟨a, b, c, d⟩ := h
  refine ⟨fun k hk => ?_, ?_, ?_, ?_⟩
  · rw [f.2.1 _ _ h0]; exact a k hk
  · rw [f.1 _ h2]; exact b
  · rw [f.1 _ h4]; exact c
  · rw [f.1 _ h6]; exact d
theorem sp_cells {Z : ZZ} {M : MM} {x : Nat} {g : GG} {W H : Nat} {Q : Int32 → MM → Prop} (h : IceAt Z x) (s : IceS M x g) (w : WH g W H) : P_X1_cellCount Z M x Q ↔ Q (nI (W * H)) M := by
  unfold P_X1_cellCount B_X1_cellCount_0
  rw [s.1 0 (by omega), s.1 1 (by omega), w.1, w.2.1, n_mul]
  simp only [h.1, true_and]
theorem w_pos {g : GG} {W H : Nat} (w : WH g W H) : ¬ nI W ≤ 0 := nI_nle (by have := w.2.2.1; omega) (by have := w.2.2.2.1; omega)
theorem w_ne {g : GG} {W H : Nat} (w : WH g W H) : ¬ nI W = 0 := nI_ne0 (by have := w.2.2.1; omega) (by have := w.2.2.2.1; omega)
theorem sp_row {Z : ZZ} {M : MM} {x : Nat} {g : GG} {W H c : Nat} {Q : Int32 → MM → Prop} (h : IceAt Z x) (s : IceS M x g) (w : WH g W H) (hc : c < 64) : P_X1_rowOf Z M x (nI c) Q ↔ Q (nI (c / W)) M := by
  unfold P_X1_rowOf B_X1_rowOf_0
  have hw := w.2.2.1
  have hw2 := w.2.2.2.1
  rw [s.1 0 (by omega), w.1]
  simp only [h.1, true_and, w_pos w, w_ne w, false_imp_iff, not_false_eq_true, true_imp_iff, n_div hc (by omega : W < 8) (by omega)]
theorem sp_col {Z : ZZ} {M : MM} {x : Nat} {g : GG} {W H c : Nat} {Q : Int32 → MM → Prop} (h : IceAt Z x) (s : IceS M x g) (w : WH g W H) (hc : c < 64) : P_X1_columnOf Z M x (nI c) Q ↔ Q (nI (c % W)) M := by
  unfold P_X1_columnOf B_X1_columnOf_0
  have hw := w.2.2.1
  have hw2 := w.2.2.2.1
  rw [s.1 0 (by omega), w.1]
  simp only [h.1, true_and, w_pos w, w_ne w, false_imp_iff, not_false_eq_true, true_imp_iff, n_mod hc (by omega : W < 8) (by omega)]
theorem sp_th {Z : ZZ} {M : MM} {x : Nat} {g : GG} {c : Nat} {Q : Int32 → MM → Prop} (h : IceAt Z x) (s : IceS M x g) (hc : c < 49) : P_X2_at Z M (x + 1) (nI c) Q ↔ Q (gt g c) M := by
  rw [sp_at h.2.2.2.2.2.1, gat_n hc (by omega), s.2.1 c hc]
theorem sp_isIce {Z : ZZ} {M : MM} {x : Nat} {g : GG} {c : Nat} {Q : Int32 → MM → Prop} (h : IceAt Z x) (s : IceS M x g) (hc : c < 49) : P_X1_isIce Z M x (nI c) Q ↔ Q (bI (¬ gt g c ≤ 0)) M := by
  unfold P_X1_isIce B_X1_isIce_0
  simp only [h.1, h.2.1, h.2.2.2.2.2.1.1, Option.some.injEq, exists_eq_left', true_and, sp_th h s hc]
  by_cases e : gt g c ≤ 0 <;> simp [e, bI]
/-- the cell on a side -/
def bs (W H c s : Nat) : Option Nat := if s = 0 then (if c % W + 1 < W then some (c + 1) else none) else if s = 1 then (if c + W < W * H then some (c + W) else none) else if s = 2 then (if W ≤ c then some (c - W) else none) else (if 0 < c % W then some (c - 1) else none)
def oI (o : Option Nat) : Int32 := match o with | none => -1 | some k => nI k
theorem oI_none : oI none = -1 := rfl
theorem oI_some (k : Nat) : oI (some k) = nI k := rfl
theorem nI_01 : nI 0 = 0 ∧ nI 1 = 1 ∧ nI 2 = 2 ∧ nI 3 = 3 := by decide
theorem sp_beside {Z : ZZ} {M : MM} {x : Nat} {g : GG} {W H c s : Nat} {Q : Int32 → MM → Prop} (h : IceAt Z x) (t : IceS M x g) (w : WH g W H) (hc : c < W * H) (hs : s < 4) : P_X1_beside Z M x (nI c) (nI s) Q ↔ Q (oI (bs W H c s)) M := by
  unfold P_X1_beside B_X1_beside_0
  have hw := w.2.2.1
  have hw2 := w.2.2.2.1
  have h49 : W * H ≤ 49 := wh_lt hw2 w.2.2.2.2.2
  have e0 : ∀ k : Nat, k < 4 → (nI k = (0 : Int32) ↔ k = 0) ∧ (nI k = (1 : Int32) ↔ k = 1) ∧ (nI k = (2 : Int32) ↔ k = 2) ∧ (nI k = (3 : Int32) ↔ k = 3) := by decide
  obtain ⟨a0, a1, a2, a3⟩ := e0 s hs
  simp only [h.1, true_and, a0, a1, a2, a3, sp_col h t w (by omega : c < 64), sp_cells h t w, t.1 0 (by omega), w.1, nI_add]
  have hm : c % W < W := Nat.mod_lt _ (by omega)
  have p1 : nI W - 1 = nI (W - 1) := by rw [← n_sub (by omega : 1 ≤ W)]; rfl
  have p0 : (0 : Int32) = nI 0 := rfl
  have d1 : nI c + 1 = nI (c + 1) := nI_1 c
  rw [p1, d1]
  have c1 : nI (W - 1) ≤ nI (c % W) ↔ W - 1 ≤ c % W := n_le (by omega) (by omega)
  have c2 : nI (W * H) ≤ nI (c + W) ↔ W * H ≤ c + W := n_le (by omega) (by omega)
  have c3 : nI c < nI W ↔ c < W := n_lt (by omega) (by omega)
  have c4 : nI (c % W) ≤ 0 ↔ c % W = 0 := by rw [p0, n_le (by omega) (by omega)]; omega
  simp only [c1, c2, c3, c4]
  unfold bs
  obtain rfl | rfl | rfl | rfl : s = 0 ∨ s = 1 ∨ s = 2 ∨ s = 3 := by omega
  · by_cases e : c % W + 1 < W
    · have e2 : ¬ W - 1 ≤ c % W := by omega
      simp [e, e2, oI]
    · have e2 : W - 1 ≤ c % W := by omega
      simp [e, e2, oI]
  · by_cases e : c + W < W * H
    · have e2 : ¬ W * H ≤ c + W := by omega
      simp [e, e2, oI]
    · have e2 : W * H ≤ c + W := by omega
      simp [e, e2, oI]
  · by_cases e : W ≤ c
    · have e2 : ¬ c < W := by omega
      simp [e, e2, oI, n_sub e]
    · have e2 : c < W := by omega
      simp [e, e2, oI]
  · by_cases e : 0 < c % W
    · have e2 : ¬ c % W = 0 := by omega
      have e3 : 1 ≤ c := Nat.le_trans e (Nat.mod_le _ _)
      have e4 : nI c - 1 = nI (c - 1) := by rw [← n_sub e3]; rfl
      simp [e, e2, oI, e4]
    · have e2 : c % W = 0 := by omega
      simp [e2, oI]
/-- the neighbour on a side is a cell -/
theorem bs_lt {W H c s d : Nat} (hc : c < W * H) (h : bs W H c s = some d) (hW : 0 < W) : d < W * H := by
  unfold bs at h
  by_cases e0 : s = 0
  · rw [if_pos e0] at h
    by_cases e : c % W + 1 < W
    · rw [if_pos e] at h
      injection h with h; subst h
      have h1 : c / W < H := Nat.div_lt_of_lt_mul hc
      have h2 : W * (c / W) + c % W = c := Nat.div_add_mod c W
      have h3 : W * (c / W + 1) ≤ W * H := Nat.mul_le_mul_left _ h1
      rw [Nat.mul_add] at h3
      omega
    · rw [if_neg e] at h; cases h
  · rw [if_neg e0] at h
    by_cases e1 : s = 1
    · rw [if_pos e1] at h
      by_cases e : c + W < W * H
      · rw [if_pos e] at h; injection h with h; omega
      · rw [if_neg e] at h; cases h
    · rw [if_neg e1] at h
      by_cases e2 : s = 2
      · rw [if_pos e2] at h
        by_cases e : W ≤ c
        · rw [if_pos e] at h; injection h with h; omega
        · rw [if_neg e] at h; cases h
      · rw [if_neg e2] at h
        by_cases e : 0 < c % W
        · rw [if_pos e] at h; injection h with h; omega
        · rw [if_neg e] at h; cases h
def pl (W c s : Nat) : Nat := if s = 0 then 57 + c else if s = 1 then c + W else if s = 2 then c else 56 + c
theorem sp_place {Z : ZZ} {M : MM} {x : Nat} {g : GG} {W H c s : Nat} {Q : Int32 → MM → Prop} (h : IceAt Z x) (t : IceS M x g) (w : WH g W H) (hs : s < 4) : P_X1_cutPlace Z M x (nI c) (nI s) Q ↔ Q (nI (pl W c s)) M := by
  unfold P_X1_cutPlace B_X1_cutPlace_0
  have e0 : ∀ k : Nat, k < 4 → (nI k = (0 : Int32) ↔ k = 0) ∧ (nI k = (1 : Int32) ↔ k = 1) ∧ (nI k = (2 : Int32) ↔ k = 2) ∧ (nI k = (3 : Int32) ↔ k = 3) := by decide
  obtain ⟨a0, a1, a2, a3⟩ := e0 s hs
  have p : (56 : Int32) = nI 56 := by decide
  simp only [h.1, true_and, a0, a1, a2, a3, t.1 0 (by omega), w.1, p, nI_add, nI_1]
  unfold pl
  obtain rfl | rfl | rfl | rfl : s = 0 ∨ s = 1 ∨ s = 2 ∨ s = 3 := by omega
  · have : 57 + c = 56 + c + 1 := by omega
    simp [this]
  · simp
  · simp
  · simp
theorem pl_lt {W c s : Nat} (hW : W ≤ 7) (hc : c < 49) : pl W c s < 106 := by
  unfold pl
  by_cases e0 : s = 0
  · rw [if_pos e0]; omega
  · rw [if_neg e0]
    by_cases e1 : s = 1
    · rw [if_pos e1]; omega
    · rw [if_neg e1]
      by_cases e2 : s = 2
      · rw [if_pos e2]; omega
      · rw [if_neg e2]; omega
theorem sp_cutAt {Z : ZZ} {M : MM} {x : Nat} {g : GG} {W H c s : Nat} {Q : Int32 → MM → Prop} (h : IceAt Z x) (t : IceS M x g) (w : WH g W H) (hc : c < 49) (hs : s < 4) : P_X1_cutAt Z M x (nI c) (nI s) Q ↔ Q (gc g (pl W c s)) M := by
  unfold P_X1_cutAt B_X1_cutAt_0
  have hp := pl_lt (s := s) w.2.2.2.1 hc
  simp only [h.1, h.2.2.1, Option.some.injEq, exists_eq_left', true_and, sp_place h t w hs, h.2.2.2.2.2.2.1.1, sp_at h.2.2.2.2.2.2.1, gat_n hp (by omega : 106 ≤ 1000), t.2.2.1 _ hp]
theorem sp_canCut {Z : ZZ} {M : MM} {x : Nat} {g : GG} {W H c s : Nat} {Q : Int32 → MM → Prop} (h : IceAt Z x) (t : IceS M x g) (w : WH g W H) (hc : c < W * H) (hs : s < 4) : P_X1_canCut Z M x (nI c) (nI s) Q ↔ Q (bI (s = 2 ∨ (bs W H c s).isSome = true)) M := by
  unfold P_X1_canCut B_X1_canCut_0
  have h49 : W * H ≤ 49 := wh_lt w.2.2.2.1 w.2.2.2.2.2
  have e0 : ∀ k : Nat, k < 4 → (nI k = (2 : Int32) ↔ k = 2) := by decide
  simp only [h.1, true_and, e0 s hs, sp_beside h t w hc hs]
  by_cases e : s = 2
  · simp [e, bI]
  · cases hb : bs W H c s with
    | none => simp [e, bI, oI]
    | some d =>
      have hd := bs_lt hc hb (by have := w.2.2.1; omega)
      have : ¬ nI d = -1 := i_n1 d (by omega)
      simp [e, bI, oI, this]
theorem sp_tied {Z : ZZ} {M : MM} {x : Nat} {g : GG} {W H c : Nat} {Q : Int32 → MM → Prop} (h : IceAt Z x) (t : IceS M x g) (w : WH g W H) (hc : c < 49) : P_X1_isTiedToShore Z M x (nI c) Q ↔ Q (bI (c < W ∧ gc g c = 0)) M := by
  unfold P_X1_isTiedToShore B_X1_isTiedToShore_0
  have hw2 := w.2.2.2.1
  have p2 : (2 : Int32) = nI 2 := by decide
  simp only [h.1, true_and, t.1 0 (by omega), w.1, p2, sp_cutAt h t w hc (by omega : 2 < 4), n_le (by omega : W < 2147483648) (by omega : c < 2147483648)]
  have e : pl W c 2 = c := rfl
  rw [e]
  by_cases e1 : W ≤ c
  · have : ¬ c < W := by omega
    simp [e1, this, bI]
  · have : c < W := by omega
    by_cases e2 : gc g c = 0 <;> simp [e1, this, bI, e2]
