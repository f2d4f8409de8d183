/-! PURE: the class's facts -/
noncomputable def wayG (W H : Nat) (g : GG) (n : Nat) : Int32 := @ite Int32 (looG W H g n) (Classical.propDecidable _) (wayI (farG W H g n)) (-1)
def stG (W H : Nat) (g : GG) (n : Nat) : Prop := looG W H g n ∧ wayI (farG W H g n) = -1
theorem stG_iff {W H n : Nat} {g : GG} : stG W H g n ↔ looG W H g n ∧ wayG W H g n = -1 := by
  unfold stG wayG
  by_cases e : looG W H g n
  · rw [if_pos e]
  · exact ⟨fun q => absurd q.1 e, fun q => absurd q.1 e⟩
noncomputable def bfS (W H : Nat) (g : GG) (v : Int32) (w : Nat) : Int32 := if v = -1 then -1 else if w = 0 then v else if w = 1 then nI (cnE (lbG W H g) v 49) else if w = 2 then volS W H (gt g) (lbG W H g) v else if w = 3 then @ite Int32 (looG W H g v.toNatClampNeg) (Classical.propDecidable _) 0 1 else wayG W H g v.toNatClampNeg
noncomputable def cfS (W H : Nat) (g : GG) (c w : Nat) : Int32 := if w = 0 then gt g c else if w = 5 then lbG W H g c else if w = 6 then nI (wbn W H (gt g) c 4) else gc g (pl W c (w - 1))
noncomputable def ffS (W H : Nat) (g : GG) (w : Nat) : Int32 := if w = 0 then gs g 0 else if w = 1 then gs g 1 else if w = 2 then nI (cnI (gt g) (W * H)) else if w = 3 then nI (cnP (fun n => lbG W H g n = nI n) 49) else if w = 4 then nI (cnP (looG W H g) 49) else if w = 5 then nI (cnP (stG W H g) (W * H)) else if w = 6 then sm (gc g) 106 else if w = 7 then gs g 2 else if w = 8 then gs g 3 else if w = 9 then gs g 4 else if w = 10 then sm (gt g) 49 else if w = 11 then gs g 6 else if w = 12 then gs g 5 else gs g 7
def WlS (M : MM) (a W H : Nat) (g : GG) : Prop := ∀ n, n < W * H → mA M (a + 40) n = wayG W H g n
/-- the labels' cases -/
theorem lb_cases {W H : Nat} {g : GG} (hW : 0 < W) (h49 : W * H ≤ 49) (c : Nat) : lbG W H g c = -1 ∨ ∃ k, k < W * H ∧ lbG W H g c = nI k ∧ lbG W H g k = nI k := by
  by_cases e : c < W * H ∧ ¬ gt g c ≤ 0
  · obtain ⟨k, k1, k2, k3, k4, k5, k6⟩ := labS_ice (ct := gc g) e.1 e.2
    exact Or.inr ⟨k, k4, k1, (labS_root hW h49 (by omega) k1).2.2.2.2.2⟩
  · exact Or.inl (labS_none e)
section
variable {Z : ZZ} {M : MM} {a : Nat} {g : GG} {W H : Nat}
def wyA (a : Nat) : List Nat := [a + 32, a + 34, a + 36, a + 38, a + 40]
theorem sp_wayOf {n : Nat} {Q : MM → Prop} (F : FieldAt Z a) (t : IceS M (a + 1) g) (w : WH g W H) (B : BlkS M (a + 23) W H (gt g) (gc g)) (hn : n < 49) (hQ : ∀ M1, Fr (wyA a) [a + 30] M M1 → (∀ j, j < 49 → mA M1 (a + 40) j = if j = n then wayG W H g n else mA M (a + 40) j) → Q M1) : P_X5_findWayOf Z M a (nI n) Q := by
  have hb := F.2.2.2.1
  have hw := F.2.2.2.2.2
  have fin : ∀ M1 v, Fr [a + 32, a + 34, a + 36, a + 38] [a + 30] M M1 → wayG W H g n = v → B_X5_findWayOf_36 Z Q M1 v (nI n) (a + 39) := by
    intro M1 v f1 hv
    unfold B_X5_findWayOf_36
    refine ⟨hw.1, (sp_put hw).mpr ?_⟩
    rw [pput_n hn (by omega)]
    refine hQ _ ((f1.mono (by simp [wyA]) (by simp)).trans ((Fr.setA _ _ _).mono (by simp [wyA]) (by simp))) (fun j hj => ?_)
    rw [mA_same, upd_at, f1.1 _ (by simp), hv]
  unfold P_X5_findWayOf B_X5_findWayOf_0
  refine ⟨F.1.1, a + 39, F.1.2.2.2.2.2.2.2, a + 23, F.1.2.2.2.2.2.1, hb.1, sp_isLoose hb hn B (fun z => ⟨fun q => absurd q (by decide), fun _ => ⟨a + 30, F.1.2.2.2.2.2.2.1, a + 1, F.1.2.1, F.2.2.2.2.1.1, ?_⟩⟩) (fun z => ⟨fun _ => fin M (-1) (Fr.refl _ _ _) ?_, fun q => absurd rfl q⟩)⟩
  · refine sp_srch (g0 := g) F F.2.1.1 (by omega) t w B hn z.1 (fun M2 f2 _ => fin M2 _ f2 ?_)
    unfold wayG
    rw [if_pos (show looG W H g n from z)]
    rfl
  · unfold wayG; rw [if_neg (show ¬ looG W H g n from z)]
theorem sp_wayOf_neg {Q : MM → Prop} (F : FieldAt Z a) (hQ : Q M) : P_X5_findWayOf Z M a (-1) Q := by
  have hb := F.2.2.2.1
  have hw := F.2.2.2.2.2
  unfold P_X5_findWayOf B_X5_findWayOf_0 B_X5_findWayOf_36
  refine ⟨F.1.1, a + 39, F.1.2.2.2.2.2.2.2, a + 23, F.1.2.2.2.2.2.1, hb.1, sp_isLoose_neg hb ⟨fun _ => ⟨hw.1, (sp_put hw).mpr ?_⟩, fun q => absurd rfl q⟩⟩
  have : pput M (a + 40) 49 (-1) (-1) = M := by unfold pput; rw [if_pos (by decide)]
  rw [this]; exact hQ
def fbA (a : Nat) : List Nat := [a + 25, a + 27, a + 29, a + 32, a + 34, a + 36, a + 38, a + 40]
theorem sp_fbw {Q : MM → Prop} (F : FieldAt Z a) (t : IceS M (a + 1) g) (w : WH g W H) (hQ : ∀ M1, Fr (fbA a) [a + 30] M M1 → BlkS M1 (a + 23) W H (gt g) (gc g) → WlS M1 a W H g → Q M1) : P_X5_findBlocksAndWays Z M a Q := by
  have h49 : W * H ≤ 49 := wh_lt w.2.2.2.1 w.2.2.2.2.2
  have hb := F.2.2.2.1
  have hI := F.2.1.1
  unfold P_X5_findBlocksAndWays B_X5_findBlocksAndWays_0
  refine ⟨F.1.1, a + 23, F.1.2.2.2.2.2.1, a + 1, F.1.2.1, hb.1, sp_find hI hb (by omega) t w (fun M1 f1 B1 => ⟨W * H + 1, ?_⟩)⟩
  refine for_up (W * H) (fun k i M' => L_X5_findBlocksAndWays_13 Z Q k M' a (nI i)) (fun i M' => Fr (fbA a) [a + 30] M M' ∧ BlkS M' (a + 23) W H (gt g) (gc g) ∧ ∀ n, n < i → mA M' (a + 40) n = wayG W H g n) ?_ ?_ (W * H) 0 M1 (by omega) ⟨f1.mono (by simp [fbA]) (by simp), B1, fun n hn => absurd hn (by omega)⟩
  · intro k i M' hi ⟨f, B, I⟩ kk
    have t1 : IceS M' (a + 1) g := t.frame f (by simp) (by simp [fbA]) (by simp [fbA]) (by simp [fbA])
    show B_X5_findBlocksAndWays_13 Z Q (L_X5_findBlocksAndWays_13 Z Q k) M' a (nI i)
    unfold B_X5_findBlocksAndWays_13
    refine ⟨F.1.1, a + 1, F.1.2.1, hI.1, (sp_cells hI t1 w).mpr ⟨fun e => absurd e ?_, fun _ => sp_wayOf F t1 w B (by omega) (fun M2 f2 hw2 => ?_)⟩⟩
    · rw [n_le (by omega) (by omega)]; omega
    rw [nI_1]
    refine kk M2 ⟨f.trans (f2.mono (by simp [fbA, wyA]) (by simp)), B.frame f2 (by simp [wyA]) (by simp [wyA]), fun n hn => ?_⟩
    rw [hw2 n (by omega)]
    by_cases e : n = i
    · subst e; rw [if_pos rfl]
    · rw [if_neg e]; exact I n (by omega)
  · intro k M' ⟨f, B, I⟩
    have t1 : IceS M' (a + 1) g := t.frame f (by simp) (by simp [fbA]) (by simp [fbA]) (by simp [fbA])
    show B_X5_findBlocksAndWays_13 Z Q (L_X5_findBlocksAndWays_13 Z Q k) M' a (nI (W * H))
    unfold B_X5_findBlocksAndWays_13
    exact ⟨F.1.1, a + 1, F.1.2.1, hI.1, (sp_cells hI t1 w).mpr ⟨fun _ => hQ M' f B I, fun e => absurd (nI_le (Nat.le_refl _) (by omega)) e⟩⟩
theorem sp_stranded {n : Nat} {Q : Int32 → MM → Prop} (F : FieldAt Z a) (w : WH g W H) (B : BlkS M (a + 23) W H (gt g) (gc g)) (L : WlS M a W H g) (hn : n < W * H) (h1 : stG W H g n → Q 1 M) (h0 : ¬ stG W H g n → Q 0 M) : P_X5_isStranded Z M a (nI n) Q := by
  have h49 : W * H ≤ 49 := wh_lt w.2.2.2.1 w.2.2.2.2.2
  have hb := F.2.2.2.1
  have hw := F.2.2.2.2.2
  rw [stG_iff] at h1 h0
  unfold P_X5_isStranded B_X5_isStranded_0
  refine ⟨F.1.1, a + 23, F.1.2.2.2.2.2.1, hb.1, sp_isLoose hb (by omega) B (fun z => ⟨fun q => absurd q (by decide), fun _ => ⟨a + 39, F.1.2.2.2.2.2.2.2, hw.1, (sp_at hw).mpr ?_⟩⟩) (fun z => ⟨fun _ => h0 (fun q => z q.1), fun q => absurd rfl q⟩)⟩
  rw [gat_n (by omega) (by omega), L n hn]
  exact ⟨fun q => h0 (fun r => q r.2), fun q => h1 ⟨z, q⟩⟩
theorem sp_countStr {Q : Int32 → MM → Prop} (F : FieldAt Z a) (t : IceS M (a + 1) g) (w : WH g W H) (B : BlkS M (a + 23) W H (gt g) (gc g)) (L : WlS M a W H g) (hQ : Q (nI (cnP (stG W H g) (W * H))) M) : P_X5_countStranded Z M a Q := by
  have h49 : W * H ≤ 49 := wh_lt w.2.2.2.1 w.2.2.2.2.2
  have hI := F.2.1.1
  refine ⟨W * H + 1, ?_⟩
  refine for_up (W * H) (fun k i (_ : Unit) => L_X5_countStranded_4 Z Q k M a (nI (cnP (stG W H g) i)) (nI i)) (fun _ _ => True) ?_ ?_ (W * H) 0 () (by omega) trivial
  · intro k i _ hi _ kk
    have kk := kk () trivial
    simp only [cnP] at kk
    show B_X5_countStranded_4 Z Q (L_X5_countStranded_4 Z Q k) M a (nI (cnP (stG W H g) i)) (nI i)
    unfold B_X5_countStranded_4 B_X5_countStranded_26
    simp only [nI_1]
    refine ⟨F.1.1, a + 1, F.1.2.1, hI.1, (sp_cells hI t w).mpr ⟨fun e => absurd e ?_, fun _ => sp_stranded F w B L hi (fun z => ⟨fun q => absurd q (by decide), fun _ => ?_⟩) (fun z => ⟨fun _ => ?_, fun q => absurd rfl q⟩)⟩⟩
    · rw [n_le (by omega) (by omega)]; omega
    · rw [if_pos z] at kk; exact kk
    · rw [if_neg z] at kk; exact kk
  · intro k _ _
    show B_X5_countStranded_4 Z Q (L_X5_countStranded_4 Z Q k) M a (nI (cnP (stG W H g) (W * H))) (nI (W * H))
    unfold B_X5_countStranded_4
    exact ⟨F.1.1, a + 1, F.1.2.1, hI.1, (sp_cells hI t w).mpr ⟨fun _ => hQ, fun e => absurd (nI_le (Nat.le_refl _) (by omega)) e⟩⟩
theorem nI_lits : ∀ k : Nat, k < 14 → (nI k = (0 : Int32) ↔ k = 0) ∧ (nI k = (1 : Int32) ↔ k = 1) ∧ (nI k = (2 : Int32) ↔ k = 2) ∧ (nI k = (3 : Int32) ↔ k = 3) ∧ (nI k = (4 : Int32) ↔ k = 4) ∧ (nI k = (5 : Int32) ↔ k = 5) ∧ (nI k = (6 : Int32) ↔ k = 6) ∧ (nI k = (7 : Int32) ↔ k = 7) ∧ (nI k = (8 : Int32) ↔ k = 8) ∧ (nI k = (9 : Int32) ↔ k = 9) ∧ (nI k = (10 : Int32) ↔ k = 10) ∧ (nI k = (11 : Int32) ↔ k = 11) ∧ (nI k = (12 : Int32) ↔ k = 12) ∧ (nI k = (13 : Int32) ↔ k = 13) := by decide
theorem sp_cellFact {c k : Nat} {Q : Int32 → MM → Prop} (F : FieldAt Z a) (t : IceS M (a + 1) g) (w : WH g W H) (hc : c < W * H) (hk : k < 7) (B : k = 5 → BlkS M (a + 23) W H (gt g) (gc g)) (hQ : Q (cfS W H g c k) M) : P_X5_cellFact Z M a (nI c) (nI k) Q := by
  have h49 : W * H ≤ 49 := wh_lt w.2.2.2.1 w.2.2.2.2.2
  have hI := F.2.1.1
  have hb := F.2.2.2.1
  obtain ⟨a0, a1, a2, a3, a4, a5, a6, _⟩ := nI_lits k (by omega)
  unfold P_X5_cellFact B_X5_cellFact_0
  rw [a0, a5, a6]
  unfold cfS at hQ
  refine ⟨fun z => ?_, fun z => ⟨fun z2 => ?_, fun z2 => ⟨fun z3 => ?_, fun z3 => ?_⟩⟩⟩
  · rw [if_pos z] at hQ
    exact ⟨F.1.1, a + 1, F.1.2.1, hI.1, a + 2, hI.2.1, hI.2.2.2.2.2.1.1, (sp_th hI t (by omega)).mpr hQ⟩
  · rw [if_neg z, if_pos z2] at hQ
    refine ⟨F.1.1, a + 23, F.1.2.2.2.2.2.1, hb.1, (sp_number hb (by omega)).mpr ?_⟩
    rw [(B z2).1 c (by omega)]; exact hQ
  · rw [if_neg z, if_neg z2, if_pos z3] at hQ
    exact ⟨F.1.1, a + 1, F.1.2.1, hI.1, sp_water hI t w hc hQ⟩
  · rw [if_neg z, if_neg z2, if_neg z3] at hQ
    have e1 : nI k - 1 = nI (k - 1) := by rw [← n_sub (by omega : 1 ≤ k)]; rfl
    rw [e1]
    exact ⟨F.1.1, a + 1, F.1.2.1, hI.1, (sp_cutAt hI t w (by omega) (by omega)).mpr hQ⟩
theorem sp_blockFact {c k : Nat} {Q : Int32 → MM → Prop} (F : FieldAt Z a) (t : IceS M (a + 1) g) (w : WH g W H) (hc : c < W * H) (hk : k < 5) (B : BlkS M (a + 23) W H (gt g) (gc g)) (L : k = 4 → ∀ n, lbG W H g c = nI n → n < W * H → mA M (a + 40) n = wayG W H g n) (hQ : Q (bfS W H g (lbG W H g c) k) M) : P_X5_blockFact Z M a (nI c) (nI k) Q := by
  have hW : 0 < W := by have := w.2.2.1; omega
  have h49 : W * H ≤ 49 := wh_lt w.2.2.2.1 w.2.2.2.2.2
  have hI := F.2.1.1
  have hb := F.2.2.2.1
  have hw := F.2.2.2.2.2
  obtain ⟨a0, a1, a2, a3, a4, a5, a6, _⟩ := nI_lits k (by omega)
  unfold P_X5_blockFact B_X5_blockFact_0
  rw [a0, a1, a2, a3]
  unfold bfS at hQ
  refine ⟨F.1.1, a + 23, F.1.2.2.2.2.2.1, hb.1, (sp_number hb (by omega)).mpr ?_⟩
  rw [B.1 c (by omega)]
  have hlb : labS W H (gt g) (gc g) c = lbG W H g c := rfl
  rw [hlb]
  refine ⟨fun z => ?_, fun z => ?_⟩
  · rw [if_neg z] at hQ
    rcases lb_cases (g := g) hW h49 c with q | ⟨n, n1, n2, n3⟩
    · exact absurd q z
    · rw [n2, i_cl n (by omega)] at hQ
      rw [n2]
      refine ⟨fun z2 => ?_, fun z2 => ⟨fun z3 => ?_, fun z3 => ⟨fun z4 => ?_, fun z4 => ⟨fun z5 => ?_, fun z5 => ?_⟩⟩⟩⟩
      · rw [if_pos z2] at hQ; exact hQ
      · rw [if_neg z2, if_pos z3] at hQ
        exact sp_sizeOf hb B.1 hQ
      · rw [if_neg z2, if_neg z3, if_pos z4] at hQ
        exact ⟨a + 1, F.1.2.1, hI.1, sp_volume hI hb t w B.1 hQ⟩
      · rw [if_neg z2, if_neg z3, if_neg z4, if_pos z5] at hQ
        refine sp_isLoose hb (by omega) B (fun z6 => ⟨fun q => absurd q (by decide), fun _ => ?_⟩) (fun z6 => ⟨fun _ => ?_, fun q => absurd rfl q⟩)
        · rw [if_pos (show looG W H g n from z6)] at hQ; exact hQ
        · rw [if_neg (show ¬ looG W H g n from z6)] at hQ; exact hQ
      · rw [if_neg z2, if_neg z3, if_neg z4, if_neg z5] at hQ
        refine ⟨a + 39, F.1.2.2.2.2.2.2.2, hw.1, (sp_at hw).mpr ?_⟩
        rw [gat_n (by omega) (by omega), L (by omega) n n2 n1]
        exact hQ
  · rw [if_pos z] at hQ; exact hQ
theorem sp_fieldFact {k : Nat} {Q : Int32 → MM → Prop} (F : FieldAt Z a) (t : IceS M (a + 1) g) (w : WH g W H) (hk : k < 14) (B : 3 ≤ k → k ≤ 5 → BlkS M (a + 23) W H (gt g) (gc g) ∧ WlS M a W H g) (hQ : Q (ffS W H g k) M) : P_X5_fieldFact Z M a (nI k) Q := by
  have hI := F.2.1.1
  have hb := F.2.2.2.1
  obtain ⟨a0, a1, a2, a3, a4, a5, a6, a7, a8, a9, a10, a11, a12, a13⟩ := nI_lits k hk
  unfold P_X5_fieldFact B_X5_fieldFact_0
  rw [a0, a1, a2, a3, a4, a5, a6, a7, a8, a9, a10, a11, a12]
  have s : ∀ f, f < 8 → mI M f (a + 1) = gs g f := t.1
  have sumT : sm (mA M (a + 3)) 49 = sm (gt g) 49 := sm_ext (fun i hi => t.2.1 i hi)
  have sumC : sm (mA M (a + 5)) 106 = sm (gc g) 106 := sm_ext (fun i hi => t.2.2.1 i hi)
  obtain rfl | rfl | rfl | rfl | rfl | rfl | rfl | rfl | rfl | rfl | rfl | rfl | rfl | rfl : k = 0 ∨ k = 1 ∨ k = 2 ∨ k = 3 ∨ k = 4 ∨ k = 5 ∨ k = 6 ∨ k = 7 ∨ k = 8 ∨ k = 9 ∨ k = 10 ∨ k = 11 ∨ k = 12 ∨ k = 13 := by omega
  all_goals simp only [ffS, true_imp_iff, not_true_eq_false, false_imp_iff, and_true, true_and, Nat.reduceEqDiff, not_false_eq_true, if_true, if_false, reduceIte, Nat.reduceEqDiff] at hQ ⊢
  · exact ⟨F.1.1, a + 1, F.1.2.1, hI.1, by rw [s 0 (by omega)]; exact hQ⟩
  · exact ⟨F.1.1, a + 1, F.1.2.1, hI.1, by rw [s 1 (by omega)]; exact hQ⟩
  · exact ⟨F.1.1, a + 1, F.1.2.1, hI.1, sp_iceCells hI t w hQ⟩
  · exact ⟨F.1.1, a + 23, F.1.2.2.2.2.2.1, hb.1, sp_countAll hb (B (by omega) (by omega)).1.1 hQ⟩
  · exact ⟨F.1.1, a + 23, F.1.2.2.2.2.2.1, hb.1, sp_countLoose hb (B (by omega) (by omega)).1 hQ⟩
  · exact ⟨F.1.1, sp_countStr F t w (B (by omega) (by omega)).1 (B (by omega) (by omega)).2 hQ⟩
  · exact ⟨F.1.1, a + 1, F.1.2.1, hI.1, a + 4, hI.2.2.1, hI.2.2.2.2.2.2.1.1, sp_sum hI.2.2.2.2.2.2.1 (by rw [show a + 1 + 4 = a + 5 from rfl, sumC]; exact hQ)⟩
  · exact ⟨F.1.1, a + 1, F.1.2.1, hI.1, by rw [s 2 (by omega)]; exact hQ⟩
  · exact ⟨F.1.1, a + 1, F.1.2.1, hI.1, by rw [s 3 (by omega)]; exact hQ⟩
  · exact ⟨F.1.1, a + 1, F.1.2.1, hI.1, by rw [s 4 (by omega)]; exact hQ⟩
  · exact ⟨F.1.1, a + 1, F.1.2.1, hI.1, a + 2, hI.2.1, hI.2.2.2.2.2.1.1, sp_sum hI.2.2.2.2.2.1 (by rw [show a + 1 + 2 = a + 3 from rfl, sumT]; exact hQ)⟩
  · exact ⟨F.1.1, a + 1, F.1.2.1, hI.1, by rw [s 6 (by omega)]; exact hQ⟩
  · exact ⟨F.1.1, a + 1, F.1.2.1, hI.1, by rw [s 5 (by omega)]; exact hQ⟩
  · exact ⟨F.1.1, a + 1, F.1.2.1, hI.1, by rw [s 7 (by omega)]; exact hQ⟩
end
