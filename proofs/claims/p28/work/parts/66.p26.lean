/-! PURE: the class's questions -/
def dayN (W H : Nat) (g : GG) : Nat → GG
  | 0 => g
  | n + 1 => dayS W H (dayN W H g n)
theorem WH.dayN {g : GG} {W H : Nat} (w : WH g W H) (n : Nat) : WH (dayN W H g n) W H := by
  induction n with
  | zero => exact w
  | succ n ih => exact ih.day
def wtP (W H : Nat) (lb : Nat → Int32) (v : Int32) (th : Nat → Int32) : Prop := ∃ c, c < W * H ∧ lb c = v ∧ th c ≤ 0
def baP (W H : Nat) (g : GG) (n c : Nat) : Prop := ¬ gt g c ≤ 0 ∧ lbG W H g c ≠ nI n ∧ wayI (farX W H (upd (gt g) c 0) (lbG W H g) n) ≠ -1
section
variable {Z : ZZ} {M : MM} {a : Nat} {g : GG} {W H : Nat} {sk : Nat → GG} {n ns len : Nat} {tx : Nat → Int32}
theorem ClsI.scq {M1 : MM} {rs os : List Nat} (c : ClsI M a g sk n ns tx len) (f : Fr rs os M M1) (h1 : ∀ r ∈ rs, r ∈ scA a) (h2 : ∀ r ∈ os, r ∈ scO a) : FrC a M M1 ∧ ClsI M1 a g sk n ns tx len := by
  have k1 : ∀ r ∈ rs, a + 8 < r ∧ inn a r := fun r hr => by
    have := h1 r hr
    simp [scA] at this
    unfold inn; omega
  have k2 : ∀ r ∈ os, a + 8 < r ∧ inn a r := fun r hr => by
    have := h2 r hr
    simp [scO] at this
    unfold inn; omega
  exact ⟨f.toCi (fun r hr => (k1 r hr).2) (fun r hr => (k2 r hr).2), c.sc f k1 k2⟩
theorem isC_n {c : Nat} (h : c < W * H) (h49 : W * H ≤ 49) : isC W H (nI c) := ⟨by rw [i_toInt c (by omega)]; omega, by rw [i_toInt c (by omega)]; omega⟩
theorem c_cell_x {v u : Int32} {Q : Int32 → MM → Prop} {X : String → MM → Prop} (F : FieldAt Z a) (c : ClsI M a g sk n ns tx len) (w : WH g W H) (h : ¬ isC W H v) (hX : X "java/lang/IndexOutOfBoundsException" M) : P_X5_cell Z M a v u Q X := by
  unfold P_X5_cell B_X5_cell_0
  exact ⟨F.1.1, sp_checkCell F c.1 w (fun q => absurd q h) (fun _ => hX)⟩
theorem c_cell_x2 {v u : Int32} {Q : Int32 → MM → Prop} {X : String → MM → Prop} (F : FieldAt Z a) (c : ClsI M a g sk n ns tx len) (w : WH g W H) (h : isC W H v) (h2 : ¬ (0 ≤ u.toInt ∧ u.toInt ≤ 6)) (hX : X "java/lang/IllegalArgumentException" M) : P_X5_cell Z M a v u Q X := by
  unfold P_X5_cell B_X5_cell_0
  refine ⟨F.1.1, sp_checkCell F c.1 w (fun _ => sp_out.mpr ⟨fun z => absurd ?_ h2, fun _ => hX⟩) (fun q => absurd h q)⟩
  rw [bI_0, Classical.not_not, l32_0.1, l32_0.2.2.2.2.2.2.2.1] at z; exact z
theorem c_cell {d k : Nat} {Q : Int32 → MM → Prop} {X : String → MM → Prop} (F : FieldAt Z a) (c : ClsI M a g sk n ns tx len) (w : WH g W H) (hd : d < W * H) (hk : k < 7) (hQ : ∀ M1, FrC a M M1 → ClsI M1 a g sk n ns tx len → Q (cfS W H g d k) M1) : P_X5_cell Z M a (nI d) (nI k) Q X := by
  have h49 : W * H ≤ 49 := wh_lt w.2.2.2.1 w.2.2.2.2.2
  have hb := F.2.2.2.1
  obtain ⟨a0, a1, a2, a3, a4, a5, a6, _⟩ := nI_lits k (by omega)
  unfold P_X5_cell B_X5_cell_0 B_X5_cell_41
  refine ⟨F.1.1, sp_checkCell F c.1 w (fun _ => sp_out.mpr ⟨fun _ => ⟨fun z => ⟨F.1.1, sp_cellFact F c.1 w hd hk (fun q => absurd (a5.mpr q) z) (hQ M (FrC.refl _ _) c)⟩, fun z => ⟨a + 23, F.1.2.2.2.2.2.1, a + 1, F.1.2.1, hb.1, sp_find F.2.1.1 hb (by omega) c.1 w (fun M1 f1 B1 => ?_)⟩⟩, fun z => ?_⟩) (fun q => absurd (isC_n hd h49) q)⟩
  · obtain ⟨fc, c1⟩ := c.scq f1 (by simp [scA]) (by simp)
    exact ⟨F.1.1, sp_cellFact F c1.1 w hd hk (fun _ => B1) (hQ M1 fc c1)⟩
  · rw [bI_0, Classical.not_not, l32_0.1, l32_0.2.2.2.2.2.2.2.1, i_toInt k (by omega)] at z
    omega
theorem c_block_x {v u : Int32} {Q : Int32 → MM → Prop} {X : String → MM → Prop} (F : FieldAt Z a) (c : ClsI M a g sk n ns tx len) (w : WH g W H) (h : ¬ isC W H v) (hX : X "java/lang/IndexOutOfBoundsException" M) : P_X5_block Z M a v u Q X := by
  unfold P_X5_block B_X5_block_0
  exact ⟨F.1.1, sp_checkCell F c.1 w (fun q => absurd q h) (fun _ => hX)⟩
theorem c_block_x2 {v u : Int32} {Q : Int32 → MM → Prop} {X : String → MM → Prop} (F : FieldAt Z a) (c : ClsI M a g sk n ns tx len) (w : WH g W H) (h : isC W H v) (h2 : ¬ (0 ≤ u.toInt ∧ u.toInt ≤ 4)) (hX : X "java/lang/IllegalArgumentException" M) : P_X5_block Z M a v u Q X := by
  unfold P_X5_block B_X5_block_0
  refine ⟨F.1.1, sp_checkCell F c.1 w (fun _ => sp_out.mpr ⟨fun z => absurd ?_ h2, fun _ => hX⟩) (fun q => absurd h q)⟩
  rw [bI_0, Classical.not_not, l32_0.1, l32_0.2.2.2.2.2.2.2.2.1] at z; exact z
theorem c_block {d k : Nat} {Q : Int32 → MM → Prop} {X : String → MM → Prop} (F : FieldAt Z a) (c : ClsI M a g sk n ns tx len) (w : WH g W H) (hd : d < W * H) (hk : k < 5) (hQ : ∀ M1, FrC a M M1 → ClsI M1 a g sk n ns tx len → Q (bfS W H g (lbG W H g d) k) M1) : P_X5_block Z M a (nI d) (nI k) Q X := by
  have hW : 0 < W := by have := w.2.2.1; omega
  have h49 : W * H ≤ 49 := wh_lt w.2.2.2.1 w.2.2.2.2.2
  have hb := F.2.2.2.1
  obtain ⟨a0, a1, a2, a3, a4, a5, a6, _⟩ := nI_lits k (by omega)
  unfold P_X5_block B_X5_block_0 B_X5_block_52
  refine ⟨F.1.1, sp_checkCell F c.1 w (fun _ => sp_out.mpr ⟨fun _ => ⟨a + 23, F.1.2.2.2.2.2.1, a + 1, F.1.2.1, hb.1, sp_find F.2.1.1 hb (by omega) c.1 w (fun M1 f1 B1 => ?_)⟩, fun z => ?_⟩) (fun q => absurd (isC_n hd h49) q)⟩
  · obtain ⟨fc, c1⟩ := c.scq f1 (by simp [scA]) (by simp)
    refine ⟨fun z => ⟨F.1.1, sp_blockFact F c1.1 w hd hk B1 (fun q => absurd (a4.mpr q) z) (hQ M1 fc c1)⟩, fun z => (sp_number hb (by omega)).mpr ?_⟩
    rw [B1.1 d (by omega)]
    have hlb : labS W H (gt g) (gc g) d = lbG W H g d := rfl
    rw [hlb]
    rcases lb_cases (g := g) hW h49 d with q | ⟨r, r1, r2, r3⟩
    · rw [q]
      refine sp_wayOf_neg F ⟨F.1.1, sp_blockFact F c1.1 w hd hk B1 (fun _ j hj _ => ?_) (hQ M1 fc c1)⟩
      rw [q] at hj
      have := hj.symm
      exact absurd this (by
        intro e
        by_cases j49 : j < 2147483648
        · exact i_n1 j j49 e
        · omega)
    · rw [r2]
      refine sp_wayOf F c1.1 w B1 (by omega) (fun M2 f2 hw2 => ?_)
      obtain ⟨fc2, c2⟩ := c1.scq f2 (by simp [scA, wyA]) (by simp [scO])
      refine ⟨F.1.1, sp_blockFact F c2.1 w hd hk (B1.frame f2 (by simp [wyA]) (by simp [wyA])) (fun _ j hj hjl => ?_) (hQ M2 (fc.trans fc2) c2)⟩
      have : r = j := by
        rw [r2, n_eq (by omega) (by omega)] at hj; exact hj
      subst this
      rw [hw2 r (by omega), if_pos rfl]
  · rw [bI_0, Classical.not_not, l32_0.1, l32_0.2.2.2.2.2.2.2.2.1, i_toInt k (by omega)] at z
    omega
theorem c_value_x {u : Int32} {Q : Int32 → MM → Prop} {X : String → MM → Prop} (h2 : ¬ (0 ≤ u.toInt ∧ u.toInt ≤ 13)) (hX : X "java/lang/IllegalArgumentException" M) : P_X5_value Z M a u Q X := by
  unfold P_X5_value B_X5_value_0
  refine sp_out.mpr ⟨fun z => absurd ?_ h2, fun _ => hX⟩
  rw [bI_0, Classical.not_not, l32_0.1, l32_0.2.2.2.2.2.2.2.2.2.1] at z; exact z
theorem c_value {k : Nat} {Q : Int32 → MM → Prop} {X : String → MM → Prop} (F : FieldAt Z a) (c : ClsI M a g sk n ns tx len) (w : WH g W H) (hk : k < 14) (hQ : ∀ M1, FrC a M M1 → ClsI M1 a g sk n ns tx len → Q (ffS W H g k) M1) : P_X5_value Z M a (nI k) Q X := by
  unfold P_X5_value B_X5_value_0 B_X5_value_33
  refine sp_out.mpr ⟨fun _ => sp_out.mpr ⟨fun z => ⟨F.1.1, sp_fieldFact F c.1 w hk (fun q1 q2 => absurd ?_ z) (hQ M (FrC.refl _ _) c)⟩, fun z => ⟨F.1.1, sp_fbw F c.1 w (fun M1 f1 B1 L1 => ?_)⟩⟩, fun z => ?_⟩
  · rw [bI_0, Classical.not_not, l32_0.2.2.2.2.2.1, l32_0.2.2.2.2.2.2.2.2.2.2.2, i_toInt k (by omega)]; omega
  · obtain ⟨fc, c1⟩ := c.scq f1 (by simp [scA, fbA]) (by simp [scO])
    exact ⟨F.1.1, sp_fieldFact F c1.1 w hk (fun _ _ => ⟨B1, L1⟩) (hQ M1 fc c1)⟩
  · rw [bI_0, Classical.not_not, l32_0.1, l32_0.2.2.2.2.2.2.2.2.2.1, i_toInt k (by omega)] at z
    omega
end
