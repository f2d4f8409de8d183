/-! PURE: the model's facts -/
section
variable {Z : ZZ} {M : MM} {m : Nat} {g : GG} {W H : Nat}
theorem lbG_out {c : Nat} (hc : ¬ c < W * H) : lbG W H g c = -1 := labS_none (fun q => hc q.1)
theorem cnE_lb (h49 : W * H ≤ 49) {n : Nat} (hn : n < 49) : cnE (lbG W H g) (nI n) 49 = cnE (lbG W H g) (nI n) (W * H) :=
  cnE_zero h49 (fun i h1 _ q => by rw [lbG_out (by omega)] at q; exact i_n1 n (by omega) q.symm)
theorem mo_cellOf {c k : Nat} {Q : Int32 → MM → Prop} (F : ModAt Z m) (t : MoS M m g) (w : WH g W H) (ok : CtOk W H (gc g)) (B : BlM M m W H g) (hc : c < W * H) (hk : k < 7) (hQ : Q (cfS W H g c k) M) : P_X6_cellOf Z M m (nI c) (nI k) Q := by
  have h49 : W * H ≤ 49 := wh_lt w.2.2.2.1 w.2.2.2.2.2
  have hW7 := w.2.2.2.1
  obtain ⟨a0, a1, a2, a3, a4, a5, a6, _⟩ := nI_lits k (by omega)
  have hvk : ∀ k, k < 226 → vp_in (nI k) (zN Z (m + 1)) := fun k hk => by rw [F.all.2.2]; exact vpn hk (by omega)
  have hv : vp_in (nI c) (zN Z (m + 4)) := by rw [F.blk.2.2]; exact vpn (by omega) (by omega)
  unfold P_X6_cellOf B_X6_cellOf_0
  rw [a0, a5, a6]
  unfold cfS at hQ
  refine ⟨fun z => ?_, fun z => ⟨fun z2 => ?_, fun z2 => ⟨fun z3 => ?_, fun z3 => ?_⟩⟩⟩
  · rw [if_pos z] at hQ
    rw [e8, i_cl (8 + c) (by omega)]
    refine ⟨F.1, m + 1, F.all.1, F.all.2.1, hvk _ (by omega), ?_⟩
    rw [t.th (by omega)]; exact hQ
  · rw [if_neg z, if_pos z2] at hQ
    refine ⟨F.1, m + 4, F.blk.1, F.blk.2.1, hv, ?_⟩
    rw [i_cl c (by omega), B c hc]; exact hQ
  · rw [if_neg z, if_neg z2, if_pos z3] at hQ
    exact ⟨F.1, mo_water F t w hc hQ⟩
  · rw [if_neg z, if_neg z2, if_neg z3] at hQ
    have e1 : nI k - 1 = nI (k - 1) := by rw [← n_sub (by omega : 1 ≤ k)]; rfl
    have hp := pl_lt (s := k - 1) hW7 (by omega : c < 49)
    rw [e1]
    refine ⟨F.1, (mo_isCut F t w ok hc (by omega)).mpr ⟨fun z4 => ?_, fun z4 => ?_⟩⟩
    · rw [bI_0] at z4
      rw [(ok _ hp).1.resolve_right z4] at hQ; exact hQ
    · rw [bI_0, Classical.not_not] at z4
      rw [z4] at hQ; exact hQ
theorem mo_blockOf {c k : Nat} {Q : Int32 → MM → Prop} (F : ModAt Z m) (t : MoS M m g) (w : WH g W H) (ok : CtOk W H (gc g)) (B : BlM M m W H g) (hc : c < W * H) (hk : k < 5) (hQ : ∀ M1, Fr [m + 5] [] M M1 → Q (bfS W H g (lbG W H g c) k) M1) : P_X6_blockOf Z M m (nI c) (nI k) Q := by
  have hW : 0 < W := by have := w.2.2.1; omega
  have h49 : W * H ≤ 49 := wh_lt w.2.2.2.1 w.2.2.2.2.2
  obtain ⟨a0, a1, a2, a3, a4, a5, a6, _⟩ := nI_lits k (by omega)
  have hv : vp_in (nI c) (zN Z (m + 4)) := by rw [F.blk.2.2]; exact vpn (by omega) (by omega)
  unfold P_X6_blockOf B_X6_blockOf_0 B_X6_blockOf_58
  rw [a0, a1, a2, a3, i_cl c (by omega)]
  refine ⟨F.1, m + 4, F.blk.1, F.blk.2.1, hv, ?_⟩
  rw [B c hc]
  unfold bfS at hQ
  refine ⟨fun z => ?_, fun z => ?_⟩
  · rw [if_neg z] at hQ
    rcases lb_cases (g := g) hW h49 c with q | ⟨n, n1, n2, n3⟩
    · exact absurd q z
    · rw [n2, i_cl n (by omega)] at hQ
      rw [n2]
      refine ⟨fun z2 => ?_, fun z2 => ⟨fun z3 => ⟨fun _ => ⟨F.1, ?_⟩, fun q => by omega⟩, fun z3 => ⟨fun z4 => ⟨fun q => absurd z4 q, fun _ => ⟨F.1, ?_⟩⟩, fun z4 => ⟨fun z5 => ?_, fun z5 => ?_⟩⟩⟩⟩
      · rw [if_pos z2] at hQ; exact hQ M (Fr.refl _ _ _)
      · rw [if_neg z2, if_pos z3] at hQ
        refine mo_size F t w B ?_
        rw [← cnE_lb h49 (by omega)]
        exact hQ M (Fr.refl _ _ _)
      · rw [if_neg z2, if_neg z3, if_pos z4] at hQ
        exact mo_vol F t w B (hQ M (Fr.refl _ _ _))
      · rw [if_neg z2, if_neg z3, if_neg z4, if_pos z5] at hQ
        refine mo_held F t w ok B (fun z6 => ⟨fun q => absurd q (by decide), fun _ => ?_⟩) (fun z6 => ⟨fun _ => ?_, fun q => absurd rfl q⟩)
        · rw [if_neg (fun q : looG W H g n => q.2 z6)] at hQ; exact hQ M (Fr.refl _ _ _)
        · rw [if_pos (show looG W H g n from ⟨n3, z6⟩)] at hQ; exact hQ M (Fr.refl _ _ _)
      · rw [if_neg z2, if_neg z3, if_neg z4, if_neg z5] at hQ
        refine mo_way F t w ok B n1 n3 (fun z6 => ?_) (fun z6 M1 f1 _ => ?_)
        · have e : wayG W H g n = -1 := if_neg (fun q : looG W H g n => q.2 z6)
          rw [e] at hQ
          exact hQ M (Fr.refl _ _ _)
        · have e : wayG W H g n = wayI (farG W H g n) := if_pos (⟨n3, z6⟩ : looG W H g n)
          rw [e] at hQ
          exact hQ M1 f1
  · rw [if_pos z] at hQ; exact hQ M (Fr.refl _ _ _)
/-- what is counted: 0 all blocks, 1 loose ones, 2 stranded ones -/
def bkP (W H : Nat) (g : GG) (k n : Nat) : Prop := lbG W H g n = nI n ∧ (k = 0 ∨ ¬ heldP W (gc g) (lbG W H g) (nI n)) ∧ (k < 2 ∨ wayI (farG W H g n) = -1)
theorem mo_blocks {k : Nat} {Q : Int32 → MM → Prop} (F : ModAt Z m) (t : MoS M m g) (w : WH g W H) (ok : CtOk W H (gc g)) (hk : k < 3) (hQ : ∀ M1, Fr [m + 4, m + 5] [] M M1 → Q (nI (cnP (bkP W H g k) (W * H))) M1) : P_X6_blocks Z M m (nI k) Q := by
  have h49 : W * H ≤ 49 := wh_lt w.2.2.2.1 w.2.2.2.2.2
  unfold P_X6_blocks B_X6_blocks_0
  refine ⟨F.1, mo_find F t w ok (fun M1 f1 B1 => ⟨W * H + 1, ?_⟩)⟩
  refine for_up (W * H) (fun r i M' => L_X6_blocks_8 Z Q r M' m (nI k) (nI (cnP (bkP W H g k) i)) (nI i)) (fun i M' => Fr [m + 4, m + 5] [] M M' ∧ BlM M' m W H g) ?_ ?_ (W * H) 0 M1 (by omega) ⟨f1.mono (by simp) (by simp), B1⟩
  · intro r i M' hi ⟨f, B⟩ kk
    have t1 := t.frame f (by simp)
    have hv : vp_in (nI i) (zN Z (m + 4)) := by rw [F.blk.2.2]; exact vpn (by omega) (by omega)
    have yes : ∀ M2, Fr [m + 5] [] M' M2 → bkP W H g k i → L_X6_blocks_8 Z Q r M2 m (nI k) (nI (cnP (bkP W H g k) i) + 1) (nI i + 1) := fun M2 f2 z => by
      have := kk M2 ⟨f.trans (f2.mono (by simp) (by simp)), B.frame f2 (by simp)⟩
      simp only [cnP] at this
      rw [if_pos z] at this
      rw [nI_1, nI_1]; exact this
    have no : ∀ M2, Fr [m + 5] [] M' M2 → ¬ bkP W H g k i → L_X6_blocks_8 Z Q r M2 m (nI k) (nI (cnP (bkP W H g k) i) + 0) (nI i + 1) := fun M2 f2 z => by
      have := kk M2 ⟨f.trans (f2.mono (by simp) (by simp)), B.frame f2 (by simp)⟩
      simp only [cnP] at this
      rw [if_neg z] at this
      rw [n_p0, nI_1]; exact this
    have e2 : nI k < 2 ↔ k < 2 := by rw [show (2 : Int32) = nI 2 from rfl, n_lt (by omega) (by omega)]
    have e0 : nI k = 0 ↔ k = 0 := by rw [show (0 : Int32) = nI 0 from rfl, n_eq (by omega) (by omega)]
    -- the second question
    have half : (lbG W H g i = nI i) → (k = 0 ∨ ¬ heldP W (gc g) (lbG W H g) (nI i)) → ((1 : Int32) = 0 → L_X6_blocks_8 Z Q r M' m (nI k) (nI (cnP (bkP W H g k) i) + 0) (nI i + 1)) ∧ (¬ (1 : Int32) = 0 → ((nI k < 2 → L_X6_blocks_8 Z Q r M' m (nI k) (nI (cnP (bkP W H g k) i) + 1) (nI i + 1)) ∧ (¬ nI k < 2 → (zK Z m = 6 ∧ P_X6_way Z M' m (nI i) (fun r58 M58 => (¬ r58 = (-1) → L_X6_blocks_8 Z Q r M58 m (nI k) (nI (cnP (bkP W H g k) i) + 0) (nI i + 1)) ∧ (r58 = (-1) → L_X6_blocks_8 Z Q r M58 m (nI k) (nI (cnP (bkP W H g k) i) + 1) (nI i + 1))))))) := by
      intro z z2
      refine ⟨fun q => absurd q (by decide), fun _ => ⟨fun z3 => yes M' (Fr.refl _ _ _) ⟨z, z2, Or.inl (e2.mp z3)⟩, fun z3 => ⟨F.1, ?_⟩⟩⟩
      rw [e2] at z3
      have hnh : ¬ heldP W (gc g) (lbG W H g) (nI i) := z2.resolve_left (by omega)
      refine mo_way F t1 w ok B hi z (fun q => absurd q hnh) (fun _ M2 f2 _ => ⟨fun q => no M2 f2 (fun q2 => ?_), fun q => yes M2 f2 ⟨z, z2, Or.inr q⟩⟩)
      exact q (q2.2.2.resolve_left z3)
    show B_X6_blocks_8 Z Q (L_X6_blocks_8 Z Q r) M' m (nI k) (nI (cnP (bkP W H g k) i)) (nI i)
    unfold B_X6_blocks_8 B_X6_blocks_38 B_X6_blocks_42 B_X6_blocks_43 B_X6_blocks_65 B_X6_blocks_69 B_X6_blocks_70
    refine ⟨F.1, (mo_cells F t1 w).mpr ⟨fun e => absurd e ?_, fun _ => ⟨m + 4, F.blk.1, F.blk.2.1, hv, ?_⟩⟩⟩
    · rw [n_le (by omega) (by omega)]; omega
    rw [i_cl i (by omega), B i hi]
    refine ⟨fun z => ⟨fun _ => no M' (Fr.refl _ _ _) (fun q => z q.1), fun q => absurd rfl q⟩, fun z => ⟨fun z2 => half z (Or.inl (e0.mp z2)), fun z2 => ?_⟩⟩
    exact mo_held F t1 w ok B (fun hh => ⟨fun _ => ⟨fun _ => no M' (Fr.refl _ _ _) (fun q => (q.2.1.resolve_left (fun q3 => z2 (e0.mpr q3))) hh), fun q => absurd rfl q⟩, fun q => absurd q (by decide)⟩) (fun hh => ⟨fun q => absurd rfl q, fun _ => half z (Or.inr hh)⟩)
  · intro r M' ⟨f, B⟩
    have t1 := t.frame f (by simp)
    show B_X6_blocks_8 Z Q (L_X6_blocks_8 Z Q r) M' m (nI k) (nI (cnP (bkP W H g k) (W * H))) (nI (W * H))
    unfold B_X6_blocks_8
    exact ⟨F.1, (mo_cells F t1 w).mpr ⟨fun _ => hQ M' f, fun e => absurd (nI_le (Nat.le_refl _) (by omega)) e⟩⟩
theorem mo_valueOf {k : Nat} {Q : Int32 → MM → Prop} (F : ModAt Z m) (t : MoS M m g) (w : WH g W H) (ok : CtOk W H (gc g)) (oz : ∀ c, W * H ≤ c → c < 49 → gt g c = 0) (hk : k < 14) (hQ : ∀ M1, Fr [m + 4, m + 5] [] M M1 → Q (ffS W H g k) M1) : P_X6_valueOf Z M m (nI k) Q := by
  have hW : 0 < W := by have := w.2.2.1; omega
  have hH : 0 < H := by have := w.2.2.2.2.1; omega
  have h49 : W * H ≤ 49 := wh_lt w.2.2.2.1 w.2.2.2.2.2
  have hvk : ∀ k, k < 226 → vp_in (nI k) (zN Z (m + 1)) := fun k hk => by rw [F.all.2.2]; exact vpn hk (by omega)
  obtain ⟨a0, a1, a2, a3, a4, a5, a6, a7, a8, a9, a10, a11, a12, a13⟩ := nI_lits k hk
  have s : ∀ j, j < 8 → mA M (m + 1) j = gs g (sxm j) := fun j hj => t.s hj
  unfold P_X6_valueOf B_X6_valueOf_0
  rw [a0, a1, a2, a3, a4, a5, a6, a7, a8, a9, a10, a11, a12, a13]
  have q0 := hQ M (Fr.refl _ _ _)
  have r3 : ∀ P : Nat → Prop, (∀ n, W * H ≤ n → n < 49 → ¬ P n) → cnP P 49 = cnP P (W * H) := fun P h => cnP_zero h49 (fun i h1 h2 => h i h1 h2)
  have noroot : ∀ n, W * H ≤ n → n < 49 → ¬ lbG W H g n = nI n := fun n h1 h2 q => by
    rw [lbG_out (by omega)] at q; exact i_n1 n (by omega) q.symm
  obtain rfl | rfl | rfl | rfl | rfl | rfl | rfl | rfl | rfl | rfl | rfl | rfl | rfl | rfl : k = 0 ∨ k = 1 ∨ k = 2 ∨ k = 3 ∨ k = 4 ∨ k = 5 ∨ k = 6 ∨ k = 7 ∨ k = 8 ∨ k = 9 ∨ k = 10 ∨ k = 11 ∨ k = 12 ∨ k = 13 := by omega
  all_goals simp only [ffS, true_imp_iff, not_true_eq_false, false_imp_iff, and_true, true_and, Nat.reduceEqDiff, not_false_eq_true, if_true, if_false, reduceIte] at hQ q0 ⊢
  · exact ⟨F.1, m + 1, F.all.1, F.all.2.1, hvk 0 (by omega), by rw [i_cl 0 (by omega), s 0 (by omega)]; exact q0⟩
  · exact ⟨F.1, m + 1, F.all.1, F.all.2.1, hvk 1 (by omega), by rw [i_cl 1 (by omega), s 1 (by omega)]; exact q0⟩
  · refine ⟨F.1, mo_sumG (f := fun c => if gt g c ≤ 0 then 0 else 1) F t w (Or.inr (Or.inl ⟨rfl, fun _ _ => rfl⟩)) ?_⟩
    rw [cnI_sm]; exact q0
  · refine ⟨F.1, mo_blocks (k := 0) F t w ok (by omega) (fun M1 f1 => ?_)⟩
    have := hQ M1 f1
    rw [r3 _ noroot] at this
    rw [cnP_ext (R := fun n => lbG W H g n = nI n) (fun i _ => ⟨fun q => q.1, fun q => ⟨q, Or.inl rfl, Or.inl (by omega)⟩⟩)]
    exact this
  · refine ⟨F.1, mo_blocks (k := 1) F t w ok (by omega) (fun M1 f1 => ?_)⟩
    have := hQ M1 f1
    rw [r3 _ (fun n h1 h2 q => noroot n h1 h2 q.1)] at this
    rw [cnP_ext (R := looG W H g) (fun i _ => ⟨fun q => ⟨q.1, q.2.1.resolve_left (by omega)⟩, fun q => ⟨q.1, Or.inr q.2, Or.inl (by omega)⟩⟩)]
    exact this
  · refine ⟨F.1, mo_blocks (k := 2) F t w ok (by omega) (fun M1 f1 => ?_)⟩
    have := hQ M1 f1
    rw [cnP_ext (R := stG W H g) (fun i _ => ⟨fun q => ⟨⟨q.1, q.2.1.resolve_left (by omega)⟩, q.2.2.resolve_left (by omega)⟩, fun q => ⟨q.1.1, Or.inr q.1.2, Or.inr q.2⟩⟩)]
    exact this
  · refine ⟨F.1, mo_sumG (f := fun c => bitS (bts W (W * H) (gc g) c)) F t w (Or.inr (Or.inr ⟨by decide, by decide, fun _ _ => rfl⟩)) ?_⟩
    rw [sm_cuts ok hW hH h49]; exact q0
  · exact ⟨F.1, m + 1, F.all.1, F.all.2.1, hvk 2 (by omega), by rw [show (2 : Int32).toNatClampNeg = 2 from rfl, s 2 (by omega)]; exact q0⟩
  · exact ⟨F.1, m + 1, F.all.1, F.all.2.1, hvk 3 (by omega), by rw [show (3 : Int32).toNatClampNeg = 3 from rfl, s 3 (by omega)]; exact q0⟩
  · exact ⟨F.1, m + 1, F.all.1, F.all.2.1, hvk 4 (by omega), by rw [show (4 : Int32).toNatClampNeg = 4 from rfl, s 4 (by omega)]; exact q0⟩
  · refine ⟨F.1, mo_sumG (f := gt g) F t w (Or.inl ⟨rfl, fun _ _ => rfl⟩) ?_⟩
    rw [sm_zero h49 oz] at q0; exact q0
  · exact ⟨F.1, m + 1, F.all.1, F.all.2.1, hvk 5 (by omega), by rw [show (5 : Int32).toNatClampNeg = 5 from rfl, s 5 (by omega)]; exact q0⟩
  · exact ⟨F.1, m + 1, F.all.1, F.all.2.1, hvk 6 (by omega), by rw [show (6 : Int32).toNatClampNeg = 6 from rfl, s 6 (by omega)]; exact q0⟩
  · exact ⟨F.1, m + 1, F.all.1, F.all.2.1, hvk 7 (by omega), by rw [show (7 : Int32).toNatClampNeg = 7 from rfl, s 7 (by omega)]; exact q0⟩
end
