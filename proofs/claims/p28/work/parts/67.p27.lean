/-! PURE: the class's what-if questions -/
section
variable {Z : ZZ} {M : MM} {a : Nat} {g : GG} {W H : Nat} {sk : Nat → GG} {n ns len : Nat} {tx : Nat → Int32}
theorem sp_tri {Q : MM → Prop} (F : FieldAt Z a) (t : IceS M (a + 1) g) (hQ : ∀ M1, Fr [a + 12, a + 14, a + 16] [a + 10] M M1 → IceS M1 (a + 10) g → Q M1) : P_X1_copyFrom Z M (a + 10) (a + 1) Q :=
  sp_copyIce F.2.1.2.1 F.2.1.1 (by omega) t hQ
theorem c_cuts_x {v u x : Int32} {Q : Int32 → MM → Prop} {X : String → MM → Prop} (F : FieldAt Z a) (c : ClsI M a g sk n ns tx len) (w : WH g W H) (h : ¬ isC W H v) (hX : X "java/lang/IndexOutOfBoundsException" M) : P_X5_cutsAround Z M a v u x Q X := by
  unfold P_X5_cutsAround B_X5_cutsAround_0
  refine ⟨F.1.1, ?_⟩
  unfold P_X5_checkRectangle B_X5_checkRectangle_0
  exact ⟨F.1.1, sp_checkCell F c.1 w (fun q => absurd q h) (fun _ => hX)⟩
theorem c_cuts_x2 {d : Nat} {u x : Int32} {Q : Int32 → MM → Prop} {X : String → MM → Prop} (F : FieldAt Z a) (c : ClsI M a g sk n ns tx len) (w : WH g W H) (hd : d < W * H) (h : ¬ isR W H d u x) (hX : X "java/lang/IllegalArgumentException" M) : P_X5_cutsAround Z M a (nI d) u x Q X := by
  unfold P_X5_cutsAround B_X5_cutsAround_0
  exact ⟨F.1.1, sp_checkRect F c.1 w hd (fun q => absurd q h) (fun _ => hX)⟩
theorem c_cuts {d u x : Nat} {Q : Int32 → MM → Prop} {X : String → MM → Prop} (F : FieldAt Z a) (c : ClsI M a g sk n ns tx len) (w : WH g W H) (hd : d < W * H) (hu : 1 ≤ u) (hx : 1 ≤ x) (h1 : d % W + u ≤ W) (h2 : d / W + x ≤ H) (hR : isR W H d (nI u) (nI x)) (hQ : ∀ M1, FrC a M M1 → ClsI M1 a g sk n ns tx len → Q (recS W H g d u x).1 M1) : P_X5_cutsAround Z M a (nI d) (nI u) (nI x) Q X := by
  unfold P_X5_cutsAround B_X5_cutsAround_0
  refine ⟨F.1.1, sp_checkRect F c.1 w hd (fun _ => ⟨a + 10, F.1.2.2.1, a + 1, F.1.2.1, F.2.1.2.1.1, sp_tri F c.1 (fun M1 f1 t1 => ?_)⟩) (fun q => absurd hR q)⟩
  obtain ⟨fc, c1⟩ := c.scq f1 (by simp [scA]) (by simp [scO])
  refine sp_rect F.2.1.2.1 t1 w hu hx h1 h2 (fun M2 f2 _ _ => ?_)
  obtain ⟨fc2, c2⟩ := c1.scq f2 (by simp [scA]) (by simp)
  exact hQ M2 (fc.trans fc2) c2
theorem c_takable {k tb : Nat} {g1 : GG} {Q : Int32 → MM → Prop} (F : FieldAt Z a) (c : ClsI M a g sk n ns tx len) (w : WH g W H) (hT : TkR W H k g g1) (hk : k ≤ 49) (htb : gs g 7 = nI tb) (hb : tb + k < 1000000) (hQ : ∀ M1, FrC a M M1 → ClsI M1 a g sk n ns tx len → Q (nI k) M1) : P_X5_takable Z M a Q := by
  unfold P_X5_takable B_X5_takable_0
  refine ⟨F.1.1, a + 10, F.1.2.2.1, a + 1, F.1.2.1, F.2.1.2.1.1, sp_tri F c.1 (fun M1 f1 t1 => ?_)⟩
  obtain ⟨fc, c1⟩ := c.scq f1 (by simp [scA]) (by simp [scO])
  refine sp_remFl F F.2.1.2.1 (by omega) t1 w hT hk htb hb (fun M2 f2 _ _ _ _ => ?_)
  obtain ⟨fc2, c2⟩ := c1.scq f2 (by simp [scA]) (by simp [scO])
  exact hQ M2 (fc.trans fc2) c2
theorem c_leftStr {k tb : Nat} {g1 : GG} {Q : Int32 → MM → Prop} (F : FieldAt Z a) (c : ClsI M a g sk n ns tx len) (w : WH g W H) (hT : TkR W H k g g1) (hk : k ≤ 49) (htb : gs g 7 = nI tb) (hb : tb + k < 1000000) (hQ : ∀ M1, FrC a M M1 → ClsI M1 a g sk n ns tx len → Q (nI (cnP (looG W H g1) 49)) M1) : P_X5_leftStranded Z M a Q := by
  unfold P_X5_leftStranded B_X5_leftStranded_0
  refine ⟨F.1.1, a + 10, F.1.2.2.1, a + 1, F.1.2.1, F.2.1.2.1.1, sp_tri F c.1 (fun M1 f1 t1 => ?_)⟩
  obtain ⟨fc, c1⟩ := c.scq f1 (by simp [scA]) (by simp [scO])
  refine sp_remFl F F.2.1.2.1 (by omega) t1 w hT hk htb hb (fun M2 f2 _ _ B2 _ => ⟨a + 23, F.1.2.2.2.2.2.1, F.2.2.2.1.1, sp_countLoose F.2.2.2.1 B2 ?_⟩)
  obtain ⟨fc2, c2⟩ := c1.scq f2 (by simp [scA]) (by simp [scO])
  exact hQ M2 (fc.trans fc2) c2
theorem sp_hasWater {x : Nat} {v : Int32} {g1 : GG} {lb : Nat → Int32} {Q : Int32 → MM → Prop} (F : FieldAt Z a) (h : IceAt Z x) (t : IceS M x g1) (w : WH g1 W H) (hlb : ∀ c, c < 49 → mA M (a + 25) c = lb c) (h1 : wtP W H lb v (gt g1) → Q 1 M) (h0 : ¬ wtP W H lb v (gt g1) → Q 0 M) : P_X5_hasWaterIn Z M a x v Q := by
  have h49 : W * H ≤ 49 := wh_lt w.2.2.2.1 w.2.2.2.2.2
  have hb := F.2.2.2.1
  refine ⟨W * H + 1, ?_⟩
  refine for_up (W * H) (fun k i (_ : Unit) => L_X5_hasWaterIn_2 Z Q k M a x v (nI i)) (fun i _ => ∀ c, c < i → ¬ (lb c = v ∧ gt g1 c ≤ 0)) ?_ ?_ (W * H) 0 () (by omega) (fun c hc => absurd hc (by omega))
  · intro k i _ hi I kk
    show B_X5_hasWaterIn_2 Z Q (L_X5_hasWaterIn_2 Z Q k) M a x v (nI i)
    unfold B_X5_hasWaterIn_2 B_X5_hasWaterIn_32
    have skip : ¬ (lb i = v ∧ gt g1 i ≤ 0) → L_X5_hasWaterIn_2 Z Q k M a x v (nI i + 1) := fun z => by
      rw [nI_1]
      refine kk () (fun c hc => ?_)
      by_cases e : c = i
      · subst e; exact z
      · exact I c (by omega)
    refine ⟨h.1, (sp_cells h t w).mpr ⟨fun e => absurd e ?_, fun _ => ⟨F.1.1, a + 23, F.1.2.2.2.2.2.1, hb.1, (sp_number hb (by omega)).mpr ?_⟩⟩⟩
    · rw [n_le (by omega) (by omega)]; omega
    rw [show a + 23 + 2 = a + 25 from rfl, hlb i (by omega)]
    refine ⟨fun z => skip (fun q => z q.1), fun z => (sp_isIce h t (by omega)).mpr ⟨fun z2 => skip (fun q => ?_), fun z2 => h1 ⟨i, hi, z, ?_⟩⟩⟩
    · rw [bI_0, Classical.not_not] at z2; exact z2 q.2
    · rw [bI_0, Classical.not_not] at z2; exact z2
  · intro k _ I
    show B_X5_hasWaterIn_2 Z Q (L_X5_hasWaterIn_2 Z Q k) M a x v (nI (W * H))
    unfold B_X5_hasWaterIn_2
    exact ⟨h.1, (sp_cells h t w).mpr ⟨fun _ => h0 (fun ⟨c, c1, c2⟩ => I c c1 c2), fun e => absurd (nI_le (Nat.le_refl _) (by omega)) e⟩⟩
theorem c_dw_x {v : Int32} {Q : Int32 → MM → Prop} {X : String → MM → Prop} (F : FieldAt Z a) (c : ClsI M a g sk n ns tx len) (w : WH g W H) (h : ¬ isC W H v) (hX : X "java/lang/IndexOutOfBoundsException" M) : P_X5_daysWhole Z M a v Q X := by
  unfold P_X5_daysWhole B_X5_daysWhole_0
  exact ⟨F.1.1, sp_checkCell F c.1 w (fun q => absurd q h) (fun _ => hX)⟩
theorem c_dw {d : Nat} {Q : Int32 → MM → Prop} {X : String → MM → Prop} (F : FieldAt Z a) (c : ClsI M a g sk n ns tx len) (w : WH g W H) (hd : d < W * H) (hno : (∀ r, r < W * H → lbG W H g d = nI r → ¬ looG W H g r) → ∀ M1, FrC a M M1 → ClsI M1 a g sk n ns tx len → Q (-1) M1)
    (hy : ∀ r, r < W * H → lbG W H g d = nI r → looG W H g r → (∀ M1 k, FrC a M M1 → ClsI M1 a g sk n ns tx len → 1 ≤ k → k ≤ 60 → wtP W H (lbG W H g) (nI r) (gt (dayN W H g k)) → (∀ j, 1 ≤ j → j < k → ¬ wtP W H (lbG W H g) (nI r) (gt (dayN W H g j))) → Q (nI k) M1) ∧ (∀ M1, FrC a M M1 → ClsI M1 a g sk n ns tx len → (∀ j, 1 ≤ j → j ≤ 60 → ¬ wtP W H (lbG W H g) (nI r) (gt (dayN W H g j))) → Q (-1) M1)) : P_X5_daysWhole Z M a (nI d) Q X := by
  have hW : 0 < W := by have := w.2.2.1; omega
  have h49 : W * H ≤ 49 := wh_lt w.2.2.2.1 w.2.2.2.2.2
  have hb := F.2.2.2.1
  have hT := F.2.1.2.1
  unfold P_X5_daysWhole B_X5_daysWhole_0
  refine ⟨F.1.1, sp_checkCell F c.1 w (fun _ => ⟨a + 23, F.1.2.2.2.2.2.1, a + 1, F.1.2.1, hb.1, sp_find F.2.1.1 hb (by omega) c.1 w (fun M1 f1 B1 => (sp_number hb (by omega)).mpr ?_)⟩) (fun q => absurd (isC_n hd h49) q)⟩
  obtain ⟨fc, c1⟩ := c.scq f1 (by simp [scA]) (by simp)
  rw [B1.1 d (by omega)]
  have hlb : labS W H (gt g) (gc g) d = lbG W H g d := rfl
  rw [hlb]
  rcases lb_cases (g := g) hW h49 d with q | ⟨r, r1, r2, r3⟩
  · rw [q]
    refine sp_isLoose_neg hb ⟨fun z => absurd rfl z, fun _ => hno (fun r hr e => ?_) M1 fc c1⟩
    rw [q] at e
    exact absurd e.symm (i_n1 r (by omega))
  · rw [r2]
    refine sp_isLoose hb (by omega) B1 (fun z => ⟨fun _ => ⟨a + 10, F.1.2.2.1, hT.1, sp_tri F c1.1 (fun M2 f2 t2 => ⟨61, ?_⟩)⟩, fun q => absurd q (by decide)⟩) (fun z => ⟨fun q => absurd rfl q, fun _ => hno (fun r' hr' e => ?_) M1 fc c1⟩)
    · obtain ⟨fc2, c2⟩ := c1.scq f2 (by simp [scA]) (by simp [scO])
      obtain ⟨y1, y2⟩ := hy r r1 r2 z
      have B2 := B1.frame f2 (by simp) (by simp)
      refine for_up 60 (fun k i M' => L_X5_daysWhole_51 Z Q X k M' a (nI r) (nI (i + 1))) (fun i M' => FrC a M M' ∧ ClsI M' a g sk n ns tx len ∧ IceS M' (a + 10) (dayN W H g i) ∧ BlkS M' (a + 23) W H (gt g) (gc g) ∧ ∀ j, 1 ≤ j → j ≤ i → ¬ wtP W H (lbG W H g) (nI r) (gt (dayN W H g j))) ?_ ?_ 60 0 M2 rfl ⟨fc.trans fc2, c2, t2, B2, fun j h1 h2 => by omega⟩
      · intro k i M' hi ⟨fC, cc, tt, BB, I⟩ kk
        show B_X5_daysWhole_51 Z Q X (L_X5_daysWhole_51 Z Q X k) M' a (nI r) (nI (i + 1))
        unfold B_X5_daysWhole_51
        refine ⟨fun q => absurd q ?_, fun _ => ⟨F.1.1, a + 10, F.1.2.2.1, hT.1, sp_day hT tt (w.dayN i) (fun M3 f3 t3 => ?_)⟩⟩
        · rw [show (60 : Int32) = nI 60 from rfl, n_lt (by omega) (by omega)]; omega
        obtain ⟨fc3, c3⟩ := cc.scq f3 (by simp [scA]) (by simp [scO])
        have B3 := BB.frame f3 (by simp) (by simp)
        refine sp_hasWater (lb := lbG W H g) F hT t3 (w.dayN (i + 1)) B3.1 (fun z2 => ⟨fun q => absurd q (by decide), fun _ => y1 M3 (i + 1) (fC.trans fc3) c3 (by omega) (by omega) z2 (fun j h1 h2 => I j h1 (by omega))⟩) (fun z2 => ⟨fun _ => ?_, fun q => absurd rfl q⟩)
        rw [nI_1]
        refine kk M3 ⟨fC.trans fc3, c3, t3, B3, fun j h1 h2 => ?_⟩
        by_cases e : j = i + 1
        · subst e; exact z2
        · exact I j h1 (by omega)
      · intro k M' ⟨fC, cc, tt, BB, I⟩
        show B_X5_daysWhole_51 Z Q X (L_X5_daysWhole_51 Z Q X k) M' a (nI r) (nI (60 + 1))
        unfold B_X5_daysWhole_51
        exact ⟨fun _ => y2 M' fC cc I, fun q => absurd (by decide) q⟩
    · have : r' = r := by
        rw [r2, n_eq (by omega) (by omega)] at e; exact e.symm
      subst this; exact z
theorem c_dtw {Q : Int32 → MM → Prop} (F : FieldAt Z a) (c : ClsI M a g sk n ns tx len) (w : WH g W H) (hy : ∀ M1 k, FrC a M M1 → ClsI M1 a g sk n ns tx len → k ≤ 60 → cnI (gt (dayN W H g k)) (W * H) = 0 → (∀ j, j < k → cnI (gt (dayN W H g j)) (W * H) ≠ 0) → Q (nI k) M1) (hno : ∀ M1, FrC a M M1 → ClsI M1 a g sk n ns tx len → (∀ j, j ≤ 60 → cnI (gt (dayN W H g j)) (W * H) ≠ 0) → Q (-1) M1) : P_X5_daysToWater Z M a Q := by
  have h49 : W * H ≤ 49 := wh_lt w.2.2.2.1 w.2.2.2.2.2
  have hT := F.2.1.2.1
  unfold P_X5_daysToWater B_X5_daysToWater_0
  refine ⟨F.1.1, a + 10, F.1.2.2.1, a + 1, F.1.2.1, hT.1, sp_tri F c.1 (fun M2 f2 t2 => ⟨62, ?_⟩)⟩
  obtain ⟨fc2, c2⟩ := c.scq f2 (by simp [scA]) (by simp [scO])
  refine for_up 61 (fun k i M' => L_X5_daysToWater_13 Z Q k M' a (nI i)) (fun i M' => FrC a M M' ∧ ClsI M' a g sk n ns tx len ∧ IceS M' (a + 10) (dayN W H g i) ∧ ∀ j, j < i → cnI (gt (dayN W H g j)) (W * H) ≠ 0) ?_ ?_ 61 0 M2 rfl ⟨fc2, c2, t2, fun j h2 => by omega⟩
  · intro k i M' hi ⟨fC, cc, tt, I⟩ kk
    show B_X5_daysToWater_13 Z Q (L_X5_daysToWater_13 Z Q k) M' a (nI i)
    unfold B_X5_daysToWater_13
    have hle := cnI_le (gt (dayN W H g i)) (W * H)
    refine ⟨fun q => absurd q ?_, fun _ => ⟨F.1.1, a + 10, F.1.2.2.1, hT.1, sp_iceCells hT tt (w.dayN i) ⟨fun z => sp_day hT tt (w.dayN i) (fun M3 f3 t3 => ?_), fun z => ?_⟩⟩⟩
    · rw [show (60 : Int32) = nI 60 from rfl, n_lt (by omega) (by omega)]; omega
    · obtain ⟨fc3, c3⟩ := cc.scq f3 (by simp [scA]) (by simp [scO])
      rw [nI_1]
      refine kk M3 ⟨fC.trans fc3, c3, t3, fun j h2 => ?_⟩
      by_cases e : j = i
      · subst e
        exact fun q => z (by rw [q]; rfl)
      · exact I j (by omega)
    · rw [show (0 : Int32) = nI 0 from rfl, n_eq (by omega) (by omega)] at z
      exact hy M' i fC cc (by omega) z I
  · intro k M' ⟨fC, cc, tt, I⟩
    show B_X5_daysToWater_13 Z Q (L_X5_daysToWater_13 Z Q k) M' a (nI 61)
    unfold B_X5_daysToWater_13
    exact ⟨fun _ => hno M' fC cc (fun j hj => I j (by omega)), fun q => absurd (by decide) q⟩
end
