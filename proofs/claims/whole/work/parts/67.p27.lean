/-! PURE: the class's what-if questions -/
section
variable {Z : ZZ} {M : MM} {a : Nat} {g : GG} {W H : Nat} {sk : Nat → GG} {n ns len : Nat} {tx : Nat → Int32}
theorem sp_tri {Q : MM → Prop} (F : FieldAt Z a) (t : IceS M (a + 1) g) (hQ : ∀ M1, Fr [a + 12, a + 14, a + 16] [a + 10] M M1 → IceS M1 (a + 10) g → Q M1) : P_X1_copyFrom Z M (a + 10) (a + 1) Q :=
  sp_copyIce F.2.1.2.1 F.2.1.1 (by omega) t hQ
theorem sp_kept {Q : Int32 → MM → Prop} (F : FieldAt Z a) (t : IceS M (a + 1) g) {tb : Nat} (htb : gs g 7 = nI tb) (hb : tb < 1000000) : P_X1_keptCount Z M (a + 1) Q ↔ Q (nI (if tb < 40 then tb else 40)) M := by
  unfold P_X1_keptCount B_X1_keptCount_0
  rw [t.1 7 (by omega), htb, show (40 : Int32) = nI 40 from rfl, n_le (by omega) (by omega)]
  by_cases c : tb < 40
  · have : ¬ 40 ≤ tb := by omega
    simp [F.2.1.1.1, c, this]
  · have : 40 ≤ tb := by omega
    simp [F.2.1.1.1, c, this]
theorem sp_keptFact {i k : Nat} {Q : Int32 → MM → Prop} (F : FieldAt Z a) (t : IceS M (a + 1) g) (hi : 3 * i + k < 120) : P_X1_keptFact Z M (a + 1) (nI i) (nI k) Q ↔ Q (gk g (3 * i + k)) M := by
  have hI := F.2.1.1
  have hk : NumAt Z (a + 1 + 5) (a + 1 + 6) 120 := hI.2.2.2.2.2.2.2.1
  unfold P_X1_keptFact B_X1_keptFact_0
  have e3 : (3 : Int32) * nI i = nI (3 * i) := n_mul 3 i
  simp only [hI.1, hI.2.2.2.1, Option.some.injEq, exists_eq_left', true_and, hk.1, e3, nI_add, sp_at hk, gat_n hi (by omega : 120 ≤ 1000), t.2.2.2 _ hi]
theorem c_taken_x {v u : Int32} {tb : Nat} {Q : Int32 → MM → Prop} {X : String → MM → Prop} (F : FieldAt Z a) (c : ClsI M a g sk n ns tx len) (htb : gs g 7 = nI tb) (hb : tb < 1000000) (h : ¬ (0 ≤ v.toInt ∧ v.toInt < ((if tb < 40 then tb else 40 : Nat) : Int))) (hX : X "java/lang/IndexOutOfBoundsException" M) : P_X5_taken Z M a v u Q X := by
  unfold P_X5_taken B_X5_taken_0
  refine ⟨F.1.1, a + 1, F.1.2.1, F.2.1.1.1, (sp_kept F c.1 htb hb).mpr (sp_out.mpr ⟨fun z => absurd ?_ h, fun _ => hX⟩)⟩
  rw [bI_0, Classical.not_not, l32_0.1] at z
  refine ⟨z.1, ?_⟩
  have z2 := z.2
  generalize hk : (if tb < 40 then tb else 40) = kk at z2 ⊢
  have hk2 : kk ≤ 40 := by rw [← hk]; split <;> omega
  rcases Nat.eq_zero_or_pos kk with e | e
  · subst e
    have : (nI 0 - 1 : Int32).toInt = -1 := by decide
    omega
  · have p1 : nI kk - 1 = nI (kk - 1) := by rw [← n_sub e]; rfl
    rw [p1, i_toInt _ (by omega)] at z2
    omega
theorem c_taken_x2 {i tb : Nat} {u : Int32} {Q : Int32 → MM → Prop} {X : String → MM → Prop} (F : FieldAt Z a) (c : ClsI M a g sk n ns tx len) (htb : gs g 7 = nI tb) (hb : tb < 1000000) (hi : i < (if tb < 40 then tb else 40)) (h2 : ¬ (0 ≤ u.toInt ∧ u.toInt ≤ 2)) (hX : X "java/lang/IllegalArgumentException" M) : P_X5_taken Z M a (nI i) u Q X := by
  unfold P_X5_taken B_X5_taken_0
  have hk2 : (if tb < 40 then tb else 40) ≤ 40 := by split <;> omega
  have p1 : nI (if tb < 40 then tb else 40) - 1 = nI ((if tb < 40 then tb else 40) - 1) := by rw [← n_sub (by omega : 1 ≤ (if tb < 40 then tb else 40))]; rfl
  refine ⟨F.1.1, a + 1, F.1.2.1, F.2.1.1.1, (sp_kept F c.1 htb hb).mpr (sp_out.mpr ⟨fun _ => sp_out.mpr ⟨fun z => absurd ?_ h2, fun _ => hX⟩, fun z => ?_⟩)⟩
  · rw [bI_0, Classical.not_not, l32_0.1, l32_0.2.2.1] at z; exact z
  · rw [bI_0, Classical.not_not, l32_0.1, p1, i_toInt i (by omega), i_toInt _ (by omega)] at z
    omega
theorem c_taken {i k tb : Nat} {Q : Int32 → MM → Prop} {X : String → MM → Prop} (F : FieldAt Z a) (c : ClsI M a g sk n ns tx len) (htb : gs g 7 = nI tb) (hb : tb < 1000000) (hi : i < (if tb < 40 then tb else 40)) (hk : k < 3) (hQ : Q (gk g (3 * i + k)) M) : P_X5_taken Z M a (nI i) (nI k) Q X := by
  unfold P_X5_taken B_X5_taken_0
  have hk2 : (if tb < 40 then tb else 40) ≤ 40 := by split <;> omega
  have p1 : nI (if tb < 40 then tb else 40) - 1 = nI ((if tb < 40 then tb else 40) - 1) := by rw [← n_sub (by omega : 1 ≤ (if tb < 40 then tb else 40))]; rfl
  refine ⟨F.1.1, a + 1, F.1.2.1, F.2.1.1.1, (sp_kept F c.1 htb hb).mpr (sp_out.mpr ⟨fun _ => sp_out.mpr ⟨fun _ => (sp_keptFact F c.1 (by omega)).mpr hQ, fun z => ?_⟩, fun z => ?_⟩)⟩
  · rw [bI_0, Classical.not_not, l32_0.1, l32_0.2.2.1, i_toInt k (by omega)] at z; omega
  · rw [bI_0, Classical.not_not, l32_0.1, p1, i_toInt i (by omega), i_toInt _ (by omega)] at z
    omega
theorem c_cuts_x {v u x : Int32} {Q : Int32 → MM → Prop} {X : String → MM → Prop} (F : FieldAt Z a) (c : ClsI M a g sk n ns tx len) (w : WH g W H) (h : ¬ isC W H v) (hX : X "java/lang/IndexOutOfBoundsException" M) : P_X5_cutsAround Z M a v u x Q X := by
  unfold P_X5_cutsAround B_X5_cutsAround_0
  refine ⟨F.1.1, ?_⟩
  unfold P_X5_checkRectangle B_X5_checkRectangle_0
  exact ⟨F.1.1, sp_checkCell F c.1 w (fun q => absurd q h) (fun _ => hX)⟩
theorem c_cuts_x2 {d : Nat} {u x : Int32} {Q : Int32 → MM → Prop} {X : String → MM → Prop} (F : FieldAt Z a) (c : ClsI M a g sk n ns tx len) (w : WH g W H) (hd : d < W * H) (h : ¬ isR W H d u x) (hX : X "java/lang/IllegalArgumentException" M) : P_X5_cutsAround Z M a (nI d) u x Q X := by
  unfold P_X5_cutsAround B_X5_cutsAround_0
  exact ⟨F.1.1, sp_checkRect F c.1 w hd (fun q => absurd q h) (fun _ => hX)⟩
theorem c_cuts {d u x : Nat} {Q : Int32 → MM → Prop} {X : String → MM → Prop} (F : FieldAt Z a) (c : ClsI M a g sk n ns tx len) (w : WH g W H) (hd : d < W * H) (hu : 1 ≤ u) (hx : 1 ≤ x) (h1 : d % W + u ≤ W) (h2 : d / W + x ≤ H) (hR : isR W H d (nI u) (nI x)) (hQ : ∀ M1, FrC a M M1 → ClsI M1 a g sk n ns tx len → Q (recS W H g d u x).1 M1) : P_X5_cutsAround Z M a (nI d) (nI u) (nI x) Q X := by
  unfold P_X5_cutsAround B_X5_cutsAround_0
  refine ⟨F.1.1, sp_checkRect F c.1 w hd (fun _ => ⟨a + 10, F.1.2.2.1, a + 1, F.1.2.1, F.2.1.2.1.1, sp_tri F c.1 (fun M1 f1 t1 => ?_)⟩) (fun q => absurd hR q)⟩
  obtain ⟨fc, c1⟩ := c.scq f1 (by simp [scA]) (by simp [scO])
  refine sp_rect F.2.1.2.1 t1 w hu hx h1 h2 (fun M2 f2 _ _ => ?_)
  obtain ⟨fc2, c2⟩ := c1.scq f2 (by simp [scA]) (by simp)
  exact hQ M2 (fc.trans fc2) c2
theorem c_takable {k tb : Nat} {g1 : GG} {Q : Int32 → MM → Prop} (F : FieldAt Z a) (c : ClsI M a g sk n ns tx len) (w : WH g W H) (hT : TkR W H k g g1) (hk : k ≤ 49) (htb : gs g 7 = nI tb) (hb : tb + k < 1000000) (hQ : ∀ M1, FrC a M M1 → ClsI M1 a g sk n ns tx len → Q (nI k) M1) : P_X5_takable Z M a Q := by
  unfold P_X5_takable B_X5_takable_0
  refine ⟨F.1.1, a + 10, F.1.2.2.1, a + 1, F.1.2.1, F.2.1.2.1.1, sp_tri F c.1 (fun M1 f1 t1 => ?_)⟩
  obtain ⟨fc, c1⟩ := c.scq f1 (by simp [scA]) (by simp [scO])
  refine sp_remFl F F.2.1.2.1 (by omega) t1 w hT hk htb hb (fun M2 f2 _ _ _ _ => ?_)
  obtain ⟨fc2, c2⟩ := c1.scq f2 (by simp [scA]) (by simp [scO])
  exact hQ M2 (fc.trans fc2) c2
theorem c_leftStr {k tb : Nat} {g1 : GG} {Q : Int32 → MM → Prop} (F : FieldAt Z a) (c : ClsI M a g sk n ns tx len) (w : WH g W H) (hT : TkR W H k g g1) (hk : k ≤ 49) (htb : gs g 7 = nI tb) (hb : tb + k < 1000000) (hQ : ∀ M1, FrC a M M1 → ClsI M1 a g sk n ns tx len → Q (nI (cnP (looG W H g1) 49)) M1) : P_X5_leftStranded Z M a Q := by
  unfold P_X5_leftStranded B_X5_leftStranded_0
  refine ⟨F.1.1, a + 10, F.1.2.2.1, a + 1, F.1.2.1, F.2.1.2.1.1, sp_tri F c.1 (fun M1 f1 t1 => ?_)⟩
  obtain ⟨fc, c1⟩ := c.scq f1 (by simp [scA]) (by simp [scO])
  refine sp_remFl F F.2.1.2.1 (by omega) t1 w hT hk htb hb (fun M2 f2 _ _ B2 _ => ⟨a + 23, F.1.2.2.2.2.2.1, F.2.2.2.1.1, sp_countLoose F.2.2.2.1 B2 ?_⟩)
  obtain ⟨fc2, c2⟩ := c1.scq f2 (by simp [scA]) (by simp [scO])
  exact hQ M2 (fc.trans fc2) c2
theorem sp_hasWater {x : Nat} {v : Int32} {g1 : GG} {lb : Nat → Int32} {Q : Int32 → MM → Prop} (F : FieldAt Z a) (h : IceAt Z x) (t : IceS M x g1) (w : WH g1 W H) (hlb : ∀ c, c < 49 → mA M (a + 25) c = lb c) (h1 : wtP W H lb v (gt g1) → Q 1 M) (h0 : ¬ wtP W H lb v (gt g1) → Q 0 M) : P_X5_hasWaterIn Z M a x v Q := by
  have h49 : W * H ≤ 49 := wh_lt w.2.2.2.1 w.2.2.2.2.2
  have hb := F.2.2.2.1
  refine ⟨W * H + 1, ?_⟩
  refine for_up (W * H) (fun k i (_ : Unit) => L_X5_hasWaterIn_2 Z Q k M a x v (nI i)) (fun i _ => ∀ c, c < i → ¬ (lb c = v ∧ gt g1 c ≤ 0)) ?_ ?_ (W * H) 0 () (by omega) (fun c hc => absurd hc (by omega))
  · intro k i _ hi I kk
    show B_X5_hasWaterIn_2 Z Q (L_X5_hasWaterIn_2 Z Q k) M a x v (nI i)
    unfold B_X5_hasWaterIn_2 B_X5_hasWaterIn_32
    have skip : ¬ (lb i = v ∧ gt g1 i ≤ 0) → L_X5_hasWaterIn_2 Z Q k M a x v (nI i + 1) := fun z => by
      rw [nI_1]
      refine kk () (fun c hc => ?_)
      by_cases e : c = i
      · subst e; exact z
      · exact I c (by omega)
    refine ⟨h.1, (sp_cells h t w).mpr ⟨fun e => absurd e ?_, fun _ => ⟨F.1.1, a + 23, F.1.2.2.2.2.2.1, hb.1, (sp_number hb (by omega)).mpr ?_⟩⟩⟩
    · rw [n_le (by omega) (by omega)]; omega
    rw [show a + 23 + 2 = a + 25 from rfl, hlb i (by omega)]
    refine ⟨fun z => skip (fun q => z q.1), fun z => (sp_isIce h t (by omega)).mpr ⟨fun z2 => skip (fun q => ?_), fun z2 => h1 ⟨i, hi, z, ?_⟩⟩⟩
    · rw [bI_0, Classical.not_not] at z2; exact z2 q.2
    · rw [bI_0, Classical.not_not] at z2; exact z2
  · intro k _ I
    show B_X5_hasWaterIn_2 Z Q (L_X5_hasWaterIn_2 Z Q k) M a x v (nI (W * H))
    unfold B_X5_hasWaterIn_2
    exact ⟨h.1, (sp_cells h t w).mpr ⟨fun _ => h0 (fun ⟨c, c1, c2⟩ => I c c1 c2), fun e => absurd (nI_le (Nat.le_refl _) (by omega)) e⟩⟩
theorem c_dw_x {v : Int32} {Q : Int32 → MM → Prop} {X : String → MM → Prop} (F : FieldAt Z a) (c : ClsI M a g sk n ns tx len) (w : WH g W H) (h : ¬ isC W H v) (hX : X "java/lang/IndexOutOfBoundsException" M) : P_X5_daysWhole Z M a v Q X := by
  unfold P_X5_daysWhole B_X5_daysWhole_0
  exact ⟨F.1.1, sp_checkCell F c.1 w (fun q => absurd q h) (fun _ => hX)⟩
theorem c_dw {d : Nat} {Q : Int32 → MM → Prop} {X : String → MM → Prop} (F : FieldAt Z a) (c : ClsI M a g sk n ns tx len) (w : WH g W H) (hd : d < W * H) (hno : (∀ r, r < W * H → lbG W H g d = nI r → ¬ looG W H g r) → ∀ M1, FrC a M M1 → ClsI M1 a g sk n ns tx len → Q (-1) M1)
    (hy : ∀ r, r < W * H → lbG W H g d = nI r → looG W H g r → (∀ M1 k, FrC a M M1 → ClsI M1 a g sk n ns tx len → 1 ≤ k → k ≤ 60 → wtP W H (lbG W H g) (nI r) (gt (dayN W H g k)) → (∀ j, 1 ≤ j → j < k → ¬ wtP W H (lbG W H g) (nI r) (gt (dayN W H g j))) → Q (nI k) M1) ∧ (∀ M1, FrC a M M1 → ClsI M1 a g sk n ns tx len → (∀ j, 1 ≤ j → j ≤ 60 → ¬ wtP W H (lbG W H g) (nI r) (gt (dayN W H g j))) → Q (-1) M1)) : P_X5_daysWhole Z M a (nI d) Q X := by
  have hW : 0 < W := by have := w.2.2.1; omega
  have h49 : W * H ≤ 49 := wh_lt w.2.2.2.1 w.2.2.2.2.2
  have hb := F.2.2.2.1
  have hT := F.2.1.2.1
  unfold P_X5_daysWhole B_X5_daysWhole_0
  refine ⟨F.1.1, sp_checkCell F c.1 w (fun _ => ⟨a + 23, F.1.2.2.2.2.2.1, a + 1, F.1.2.1, hb.1, sp_find F.2.1.1 hb (by omega) c.1 w (fun M1 f1 B1 => (sp_number hb (by omega)).mpr ?_)⟩) (fun q => absurd (isC_n hd h49) q)⟩
  obtain ⟨fc, c1⟩ := c.scq f1 (by simp [scA]) (by simp)
  rw [B1.1 d (by omega)]
  have hlb : labS W H (gt g) (gc g) d = lbG W H g d := rfl
  rw [hlb]
  rcases lb_cases (g := g) hW h49 d with q | ⟨r, r1, r2, r3⟩
  · rw [q]
    refine sp_isLoose_neg hb ⟨fun z => absurd rfl z, fun _ => hno (fun r hr e => ?_) M1 fc c1⟩
    rw [q] at e
    exact absurd e.symm (i_n1 r (by omega))
  · rw [r2]
    refine sp_isLoose hb (by omega) B1 (fun z => ⟨fun _ => ⟨a + 10, F.1.2.2.1, hT.1, sp_tri F c1.1 (fun M2 f2 t2 => ⟨61, ?_⟩)⟩, fun q => absurd q (by decide)⟩) (fun z => ⟨fun q => absurd rfl q, fun _ => hno (fun r' hr' e => ?_) M1 fc c1⟩)
    · obtain ⟨fc2, c2⟩ := c1.scq f2 (by simp [scA]) (by simp [scO])
      obtain ⟨y1, y2⟩ := hy r r1 r2 z
      have B2 := B1.frame f2 (by simp) (by simp)
      refine for_up 60 (fun k i M' => L_X5_daysWhole_51 Z Q X k M' a (nI r) (nI (i + 1))) (fun i M' => FrC a M M' ∧ ClsI M' a g sk n ns tx len ∧ IceS M' (a + 10) (dayN W H g i) ∧ BlkS M' (a + 23) W H (gt g) (gc g) ∧ ∀ j, 1 ≤ j → j ≤ i → ¬ wtP W H (lbG W H g) (nI r) (gt (dayN W H g j))) ?_ ?_ 60 0 M2 rfl ⟨fc.trans fc2, c2, t2, B2, fun j h1 h2 => by omega⟩
      · intro k i M' hi ⟨fC, cc, tt, BB, I⟩ kk
        show B_X5_daysWhole_51 Z Q X (L_X5_daysWhole_51 Z Q X k) M' a (nI r) (nI (i + 1))
        unfold B_X5_daysWhole_51
        refine ⟨fun q => absurd q ?_, fun _ => ⟨F.1.1, a + 10, F.1.2.2.1, hT.1, sp_day hT tt (w.dayN i) (fun M3 f3 t3 => ?_)⟩⟩
        · rw [show (60 : Int32) = nI 60 from rfl, n_lt (by omega) (by omega)]; omega
        obtain ⟨fc3, c3⟩ := cc.scq f3 (by simp [scA]) (by simp [scO])
        have B3 := BB.frame f3 (by simp) (by simp)
        refine sp_hasWater (lb := lbG W H g) F hT t3 (w.dayN (i + 1)) B3.1 (fun z2 => ⟨fun q => absurd q (by decide), fun _ => y1 M3 (i + 1) (fC.trans fc3) c3 (by omega) (by omega) z2 (fun j h1 h2 => I j h1 (by omega))⟩) (fun z2 => ⟨fun _ => ?_, fun q => absurd rfl q⟩)
        rw [nI_1]
        refine kk M3 ⟨fC.trans fc3, c3, t3, B3, fun j h1 h2 => ?_⟩
        by_cases e : j = i + 1
        · subst e; exact z2
        · exact I j h1 (by omega)
      · intro k M' ⟨fC, cc, tt, BB, I⟩
        show B_X5_daysWhole_51 Z Q X (L_X5_daysWhole_51 Z Q X k) M' a (nI r) (nI (60 + 1))
        unfold B_X5_daysWhole_51
        exact ⟨fun _ => y2 M' fC cc I, fun q => absurd (by decide) q⟩
    · have : r' = r := by
        rw [r2, n_eq (by omega) (by omega)] at e; exact e.symm
      subst this; exact z
theorem c_dtw {Q : Int32 → MM → Prop} (F : FieldAt Z a) (c : ClsI M a g sk n ns tx len) (w : WH g W H) (hy : ∀ M1 k, FrC a M M1 → ClsI M1 a g sk n ns tx len → k ≤ 60 → cnI (gt (dayN W H g k)) (W * H) = 0 → (∀ j, j < k → cnI (gt (dayN W H g j)) (W * H) ≠ 0) → Q (nI k) M1) (hno : ∀ M1, FrC a M M1 → ClsI M1 a g sk n ns tx len → (∀ j, j ≤ 60 → cnI (gt (dayN W H g j)) (W * H) ≠ 0) → Q (-1) M1) : P_X5_daysToWater Z M a Q := by
  have h49 : W * H ≤ 49 := wh_lt w.2.2.2.1 w.2.2.2.2.2
  have hT := F.2.1.2.1
  unfold P_X5_daysToWater B_X5_daysToWater_0
  refine ⟨F.1.1, a + 10, F.1.2.2.1, a + 1, F.1.2.1, hT.1, sp_tri F c.1 (fun M2 f2 t2 => ⟨62, ?_⟩)⟩
  obtain ⟨fc2, c2⟩ := c.scq f2 (by simp [scA]) (by simp [scO])
  refine for_up 61 (fun k i M' => L_X5_daysToWater_13 Z Q k M' a (nI i)) (fun i M' => FrC a M M' ∧ ClsI M' a g sk n ns tx len ∧ IceS M' (a + 10) (dayN W H g i) ∧ ∀ j, j < i → cnI (gt (dayN W H g j)) (W * H) ≠ 0) ?_ ?_ 61 0 M2 rfl ⟨fc2, c2, t2, fun j h2 => by omega⟩
  · intro k i M' hi ⟨fC, cc, tt, I⟩ kk
    show B_X5_daysToWater_13 Z Q (L_X5_daysToWater_13 Z Q k) M' a (nI i)
    unfold B_X5_daysToWater_13
    have hle := cnI_le (gt (dayN W H g i)) (W * H)
    refine ⟨fun q => absurd q ?_, fun _ => ⟨F.1.1, a + 10, F.1.2.2.1, hT.1, sp_iceCells hT tt (w.dayN i) ⟨fun z => sp_day hT tt (w.dayN i) (fun M3 f3 t3 => ?_), fun z => ?_⟩⟩⟩
    · rw [show (60 : Int32) = nI 60 from rfl, n_lt (by omega) (by omega)]; omega
    · obtain ⟨fc3, c3⟩ := cc.scq f3 (by simp [scA]) (by simp [scO])
      rw [nI_1]
      refine kk M3 ⟨fC.trans fc3, c3, t3, fun j h2 => ?_⟩
      by_cases e : j = i
      · subst e
        exact fun q => z (by rw [q]; rfl)
      · exact I j (by omega)
    · rw [show (0 : Int32) = nI 0 from rfl, n_eq (by omega) (by omega)] at z
      exact hy M' i fC cc (by omega) z I
  · intro k M' ⟨fC, cc, tt, I⟩
    show B_X5_daysToWater_13 Z Q (L_X5_daysToWater_13 Z Q k) M' a (nI 61)
    unfold B_X5_daysToWater_13
    exact ⟨fun _ => hno M' fC cc (fun j hj => I j (by omega)), fun q => absurd (by decide) q⟩
theorem c_bar {Q : Int32 → MM → Prop} (F : FieldAt Z a) (c : ClsI M a g sk n ns tx len) (w : WH g W H) (h0 : (∀ r, r < W * H → ¬ stG W H g r) → ∀ M1, FrC a M M1 → ClsI M1 a g sk n ns tx len → Q (-1) M1)
    (h1 : ∀ r, lowP (stG W H g) (W * H) r → (∀ d M1, lowP (baP W H g r) (W * H) d → FrC a M M1 → ClsI M1 a g sk n ns tx len → Q (nI d) M1) ∧ ((∀ d, d < W * H → ¬ baP W H g r d) → ∀ M1, FrC a M M1 → ClsI M1 a g sk n ns tx len → Q (-1) M1)) : P_X5_barredBy Z M a Q := by
  have h49 : W * H ≤ 49 := wh_lt w.2.2.2.1 w.2.2.2.2.2
  have hI := F.2.1.1
  have hT := F.2.1.2.1
  have hb := F.2.2.2.1
  have hy := F.2.2.2.2.1
  unfold P_X5_barredBy B_X5_barredBy_0
  refine ⟨F.1.1, sp_fbw F c.1 w (fun M1 f1 B1 L1 => ?_)⟩
  obtain ⟨fc, c1⟩ := c.scq f1 (by simp [scA, fbA]) (by simp [scO])
  refine sp_lowStr F c1.1 w B1 L1 (fun r hr => ⟨fun _ => ⟨a + 10, F.1.2.2.1, a + 1, F.1.2.1, hT.1, sp_tri F c1.1 (fun M2 f2 t2 => ⟨W * H + 1, ?_⟩)⟩, fun q => absurd q (i_n1 r (by have := hr.1; omega))⟩) (fun hno => ⟨fun q => absurd rfl q, fun _ => h0 hno M1 fc c1⟩)
  obtain ⟨fc2, c2⟩ := c1.scq f2 (by simp [scA]) (by simp [scO])
  obtain ⟨y1, y2⟩ := h1 r hr
  have hr1 := hr.1
  have hrr : lbG W H g r = nI r := hr.2.1.1.1
  refine for_up (W * H) (fun k i M' => L_X5_barredBy_29 Z Q k M' a (nI r) (nI i)) (fun i M' => FrC a M M' ∧ ClsI M' a g sk n ns tx len ∧ IceS M' (a + 10) g ∧ BlkS M' (a + 23) W H (gt g) (gc g) ∧ ∀ j, j < i → ¬ baP W H g r j) ?_ ?_ (W * H) 0 M2 (by omega) ⟨fc.trans fc2, c2, t2, B1.frame f2 (by simp) (by simp), fun j h2 => by omega⟩
  · intro k i M' hi ⟨fC, cc, tt, BB, I⟩ kk
    have skip : ∀ M3, FrC a M M3 → ClsI M3 a g sk n ns tx len → IceS M3 (a + 10) g → BlkS M3 (a + 23) W H (gt g) (gc g) → ¬ baP W H g r i → L_X5_barredBy_29 Z Q k M3 a (nI r) (nI i + 1) := fun M3 q1 q2 q3 q4 z => by
      rw [nI_1]
      refine kk M3 ⟨q1, q2, q3, q4, fun j hj => ?_⟩
      by_cases e : j = i
      · subst e; exact z
      · exact I j (by omega)
    show B_X5_barredBy_29 Z Q (L_X5_barredBy_29 Z Q k) M' a (nI r) (nI i)
    unfold B_X5_barredBy_29 B_X5_barredBy_74
    refine ⟨F.1.1, a + 1, F.1.2.1, hI.1, (sp_cells hI cc.1 w).mpr ⟨fun e => absurd e ?_, fun _ => (sp_isIce hI cc.1 (by omega)).mpr ⟨fun z => skip M' fC cc tt BB (fun q => ?_), fun z => ⟨a + 23, F.1.2.2.2.2.2.1, hb.1, (sp_number hb (by omega)).mpr ?_⟩⟩⟩⟩
    · rw [n_le (by omega) (by omega)]; omega
    · rw [bI_0] at z; exact z q.1
    · rw [bI_0, Classical.not_not] at z
      rw [BB.1 i (by omega)]
      refine ⟨fun z2 => skip M' fC cc tt BB (fun q => q.2.1 z2), fun z2 => ?_⟩
      unfold P_X5_freesWay B_X5_freesWay_0
      refine ⟨F.1.1, a + 10, F.1.2.2.1, hT.1, a + 11, hT.2.1, hT.2.2.2.2.2.1.1, (sp_th hT tt (by omega)).mpr ((sp_put hT.2.2.2.2.2.1).mpr ⟨a + 30, F.1.2.2.2.2.2.2.1, a + 23, F.1.2.2.2.2.2.1, hy.1, ?_⟩)⟩
      rw [pput_n (by omega) (by omega)]
      have t3 := tt.setT i 0
      have f3 : Fr [a + 10 + 2] [] M' (setA M' (a + 10 + 2) (upd (mA M' (a + 10 + 2)) i 0)) := Fr.setA _ _ _
      obtain ⟨fc3, c3⟩ := cc.scq f3 (by simp [scA]) (by simp)
      have w3 : WH (mk (gs g) (upd (gt g) i 0) (gc g) (gk g)) W H := w.mk rfl rfl
      refine sp_srch (g0 := g) F hT (by omega) t3 w3 (BB.frame f3 (by simp) (by simp)) (by omega) hrr (fun M4 f4 _ => ?_)
      obtain ⟨fc4, c4⟩ := c3.scq f4 (by simp [scA]) (by simp [scO])
      have t4 := t3.frame f4 (by simp) (by simp) (by simp) (by simp)
      have B4 := (BB.frame f3 (by simp) (by simp)).frame f4 (by simp) (by simp)
      have fin : ∀ (x : Int32), zb x → (∀ M5, FrC a M M5 → ClsI M5 a g sk n ns tx len → IceS M5 (a + 10) g → BlkS M5 (a + 23) W H (gt g) (gc g) → (x = 0 → L_X5_barredBy_29 Z Q k M5 a (nI r) (nI i + 1)) ∧ (¬ x = 0 → Q (nI i) M5)) → B_X5_freesWay_49 Z (fun r66 M66 => (r66 = 0 → L_X5_barredBy_29 Z Q k M66 a (nI r) (nI i + 1)) ∧ (¬ r66 = 0 → Q (nI i) M66)) M4 a (nI i) (gt g i) x := by
        intro x hx hk
        unfold B_X5_freesWay_49
        refine ⟨F.1.1, a + 10, F.1.2.2.1, hT.1, a + 11, hT.2.1, hT.2.2.2.2.2.1.1, (sp_put hT.2.2.2.2.2.1).mpr ⟨hx, ?_⟩⟩
        rw [pput_n (by omega) (by omega)]
        have f5 : Fr [a + 10 + 2] [] M4 (setA M4 (a + 10 + 2) (upd (mA M4 (a + 10 + 2)) i (gt g i))) := Fr.setA _ _ _
        obtain ⟨fc5, c5⟩ := c4.scq f5 (by simp [scA]) (by simp)
        refine hk _ (((fC.trans fc3).trans fc4).trans fc5) c5 ((t4.setT i (gt g i)).cong (fun _ _ => rfl) (fun j _ => ?_) (fun _ _ => rfl) (fun _ _ => rfl)) (B4.frame f5 (by simp) (by simp))
        rw [gt_mk, gt_mk, upd_at, upd_at]
        by_cases e : j = i
        · rw [if_pos e, e]
        · rw [if_neg e, if_neg e]
      refine ⟨fun z3 => fin 0 (Or.inl rfl) (fun M5 q1 q2 q3 q4 => ⟨fun _ => skip M5 q1 q2 q3 q4 (fun q => q.2.2 z3), fun q => absurd rfl q⟩), fun z3 => fin 1 (Or.inr rfl) (fun M5 q1 q2 q3 q4 => ⟨fun q => absurd q (by decide), fun _ => y1 i M5 ⟨hi, ⟨z, z2, z3⟩, I⟩ q1 q2⟩)⟩
  · intro k M' ⟨fC, cc, tt, BB, I⟩
    show B_X5_barredBy_29 Z Q (L_X5_barredBy_29 Z Q k) M' a (nI r) (nI (W * H))
    unfold B_X5_barredBy_29
    exact ⟨F.1.1, a + 1, F.1.2.1, hI.1, (sp_cells hI cc.1 w).mpr ⟨fun _ => y2 I M' fC cc, fun e => absurd (nI_le (Nat.le_refl _) (by omega)) e⟩⟩
end
