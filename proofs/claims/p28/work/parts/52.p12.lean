/-! PURE: blocks: questions, taking out -/
noncomputable def cnP (P : Nat → Prop) : Nat → Nat
  | 0 => 0
  | n + 1 => cnP P n + @ite Nat (P n) (Classical.propDecidable _) 1 0
theorem cnP_le (P : Nat → Prop) (n : Nat) : cnP P n ≤ n := by
  induction n with
  | zero => exact Nat.le_refl _
  | succ n ih =>
    simp only [cnP]
    by_cases e : P n
    · rw [if_pos e]; omega
    · rw [if_neg e]; omega
theorem cnP_ext {P R : Nat → Prop} {n : Nat} (h : ∀ i, i < n → (P i ↔ R i)) : cnP P n = cnP R n := by
  induction n with
  | zero => rfl
  | succ n ih =>
    simp only [cnP]
    rw [ih (fun i hi => h i (by omega))]
    by_cases e : P n
    · rw [if_pos e, if_pos ((h n (by omega)).mp e)]
    · rw [if_neg e, if_neg (fun q => e ((h n (by omega)).mpr q))]
theorem cnP_zero {P : Nat → Prop} {n m : Nat} (hm : n ≤ m) (h : ∀ i, n ≤ i → i < m → ¬ P i) : cnP P m = cnP P n := by
  induction m with
  | zero =>
    have : n = 0 := by omega
    subst this; rfl
  | succ m ih =>
    by_cases e : n = m + 1
    · subst e; rfl
    · simp only [cnP]
      rw [ih (by omega) (fun i a b => h i a (by omega)), if_neg (h m (by omega) (by omega)), Nat.add_zero]
theorem cnE_zero {f : Nat → Int32} {v : Int32} {n m : Nat} (hm : n ≤ m) (h : ∀ i, n ≤ i → i < m → f i ≠ v) : cnE f v m = cnE f v n := by
  induction m with
  | zero =>
    have : n = 0 := by omega
    subst this; rfl
  | succ m ih =>
    by_cases e : n = m + 1
    · subst e; rfl
    · simp only [cnE]
      rw [ih (by omega) (fun i a b => h i a (by omega)), if_neg (h m (by omega) (by omega)), Nat.add_zero]
def loP (W : Nat) (ct lb : Nat → Int32) (n : Nat) : Prop := lb n = nI n ∧ ¬ heldP W ct lb (nI n)
theorem sp_isBlock {Z : ZZ} {M : MM} {b n : Nat} {Q : Int32 → MM → Prop} (hb : BlkAt Z b) (hn : n < 49) : P_X0_isBlock Z M b (nI n) Q ↔ Q (bI (mA M (b + 2) n = nI n)) M := by
  unfold P_X0_isBlock B_X0_isBlock_0
  have e1 : ¬ (49 : Int32) ≤ nI n := by rw [show (49 : Int32) = nI 49 from rfl, n_le (by omega) (by omega)]; omega
  simp only [i_nn n (by omega), e1, hb.1, hb.2.1, hb.2.2.2.2.1.1, Option.some.injEq, exists_eq_left', true_and, sp_at hb.2.2.2.2.1, gat_n hn (by omega : 49 ≤ 1000), false_imp_iff, not_false_eq_true, true_imp_iff]
  by_cases e : mA M (b + 2) n = nI n <;> simp [e, bI]
theorem sp_isBlock_neg {Z : ZZ} {M : MM} {b : Nat} {Q : Int32 → MM → Prop} : P_X0_isBlock Z M b (-1) Q ↔ Q 0 M := by
  unfold P_X0_isBlock B_X0_isBlock_0
  have : (-1 : Int32) < 0 := by decide
  simp [this]
theorem sp_isLoose {Z : ZZ} {M : MM} {b n W H : Nat} {th ct : Nat → Int32} {Q : Int32 → MM → Prop} (hb : BlkAt Z b) (hn : n < 49) (B : BlkS M b W H th ct) (h1 : loP W ct (labS W H th ct) n → Q 1 M) (h0 : ¬ loP W ct (labS W H th ct) n → Q 0 M) : P_X0_isLoose Z M b (nI n) Q := by
  unfold P_X0_isLoose B_X0_isLoose_0
  refine ⟨hb.1, (sp_isBlock hb hn).mpr ⟨fun z => ?_, fun z => ⟨b + 3, hb.2.2.1, hb.2.2.2.2.2.1.1, (sp_at hb.2.2.2.2.2.1).mpr ?_⟩⟩⟩
  · rw [bI_0, B.1 n hn] at z
    exact h0 (fun q => z q.1)
  · rw [bI_0, Classical.not_not, B.1 n hn] at z
    rw [gat_n hn (by omega)]
    exact ⟨fun z2 => h0 (fun q => z2 ((B.2 n hn z).mpr q.2)), fun z2 => h1 ⟨z, (B.2 n hn z).mp z2⟩⟩
theorem sp_isLoose_neg {Z : ZZ} {M : MM} {b : Nat} {Q : Int32 → MM → Prop} (hb : BlkAt Z b) (h0 : Q 0 M) : P_X0_isLoose Z M b (-1) Q := by
  unfold P_X0_isLoose B_X0_isLoose_0
  exact ⟨hb.1, sp_isBlock_neg.mpr ⟨fun _ => h0, fun z => absurd rfl z⟩⟩
theorem sp_sizeOf {Z : ZZ} {M : MM} {b : Nat} {v : Int32} {lb : Nat → Int32} {Q : Int32 → MM → Prop} (hb : BlkAt Z b) (hlb : ∀ c, c < 49 → mA M (b + 2) c = lb c) (hQ : Q (nI (cnE lb v 49)) M) : P_X0_sizeOf Z M b v Q := by
  refine ⟨50, ?_⟩
  refine for_up 49 (fun k i (_ : Unit) => L_X0_sizeOf_4 Z Q k M b v (nI (cnE lb v i)) (nI i)) (fun _ _ => True) ?_ ?_ 49 0 () rfl trivial
  · intro k i _ hi _ kk
    have kk := kk () trivial
    show B_X0_sizeOf_4 Z Q (L_X0_sizeOf_4 Z Q k) M b v (nI (cnE lb v i)) (nI i)
    unfold B_X0_sizeOf_4 B_X0_sizeOf_25
    refine ⟨fun z => absurd z ?_, fun _ => ⟨hb.1, b + 1, hb.2.1, hb.2.2.2.2.1.1, (sp_at hb.2.2.2.2.1).mpr ?_⟩⟩
    · rw [show (49 : Int32) = nI 49 from rfl, n_le (by omega) (by omega)]; omega
    rw [gat_n hi (by omega), hlb i hi]
    simp only [cnE] at kk
    simp only [nI_1]
    refine ⟨fun z => ?_, fun z => ?_⟩
    · rw [if_neg z] at kk; exact kk
    · rw [if_pos z] at kk; exact kk
  · intro k _ _
    show B_X0_sizeOf_4 Z Q (L_X0_sizeOf_4 Z Q k) M b v (nI (cnE lb v 49)) (nI 49)
    unfold B_X0_sizeOf_4
    exact ⟨fun _ => hQ, fun z => absurd (by decide) z⟩
theorem sp_countAll {Z : ZZ} {M : MM} {b : Nat} {lb : Nat → Int32} {Q : Int32 → MM → Prop} (hb : BlkAt Z b) (hlb : ∀ c, c < 49 → mA M (b + 2) c = lb c) (hQ : Q (nI (cnP (fun n => lb n = nI n) 49)) M) : P_X0_countAll Z M b Q := by
  refine ⟨50, ?_⟩
  refine for_up 49 (fun k i (_ : Unit) => L_X0_countAll_4 Z Q k M b (nI (cnP (fun n => lb n = nI n) i)) (nI i)) (fun _ _ => True) ?_ ?_ 49 0 () rfl trivial
  · intro k i _ hi _ kk
    have kk := kk () trivial
    show B_X0_countAll_4 Z Q (L_X0_countAll_4 Z Q k) M b (nI (cnP (fun n => lb n = nI n) i)) (nI i)
    unfold B_X0_countAll_4 B_X0_countAll_21
    refine ⟨fun z => absurd z ?_, fun _ => ⟨hb.1, (sp_isBlock hb hi).mpr ?_⟩⟩
    · rw [show (49 : Int32) = nI 49 from rfl, n_le (by omega) (by omega)]; omega
    rw [hlb i hi]
    simp only [cnP] at kk
    simp only [nI_1, bI_0]
    refine ⟨fun z => ?_, fun z => ?_⟩
    · rw [if_neg z] at kk; exact kk
    · rw [if_pos (Classical.not_not.mp z)] at kk; exact kk
  · intro k _ _
    show B_X0_countAll_4 Z Q (L_X0_countAll_4 Z Q k) M b (nI (cnP (fun n => lb n = nI n) 49)) (nI 49)
    unfold B_X0_countAll_4
    exact ⟨fun _ => hQ, fun z => absurd (by decide) z⟩
theorem sp_countLoose {Z : ZZ} {M : MM} {b W H : Nat} {th ct : Nat → Int32} {Q : Int32 → MM → Prop} (hb : BlkAt Z b) (B : BlkS M b W H th ct) (hQ : Q (nI (cnP (loP W ct (labS W H th ct)) 49)) M) : P_X0_countLoose Z M b Q := by
  refine ⟨50, ?_⟩
  refine for_up 49 (fun k i (_ : Unit) => L_X0_countLoose_4 Z Q k M b (nI (cnP (loP W ct (labS W H th ct)) i)) (nI i)) (fun _ _ => True) ?_ ?_ 49 0 () rfl trivial
  · intro k i _ hi _ kk
    have kk := kk () trivial
    show B_X0_countLoose_4 Z Q (L_X0_countLoose_4 Z Q k) M b (nI (cnP (loP W ct (labS W H th ct)) i)) (nI i)
    unfold B_X0_countLoose_4 B_X0_countLoose_21
    simp only [cnP] at kk
    simp only [nI_1]
    refine ⟨fun z => absurd z ?_, fun _ => ⟨hb.1, sp_isLoose hb hi B (fun z => ⟨fun q => absurd q (by decide), fun _ => ?_⟩) (fun z => ⟨fun _ => ?_, fun q => absurd rfl q⟩)⟩⟩
    · rw [show (49 : Int32) = nI 49 from rfl, n_le (by omega) (by omega)]; omega
    · rw [if_pos z] at kk; exact kk
    · rw [if_neg z] at kk; exact kk
  · intro k _ _
    show B_X0_countLoose_4 Z Q (L_X0_countLoose_4 Z Q k) M b (nI (cnP (loP W ct (labS W H th ct)) 49)) (nI 49)
    unfold B_X0_countLoose_4
    exact ⟨fun _ => hQ, fun z => absurd (by decide) z⟩
theorem sp_forget {Z : ZZ} {M : MM} {b : Nat} {v : Int32} {lb : Nat → Int32} {Q : MM → Prop} (hb : BlkAt Z b) (hlb : ∀ c, c < 49 → mA M (b + 2) c = lb c) (hQ : ∀ M1, Fr [b + 2] [] M M1 → (∀ c, c < 49 → mA M1 (b + 2) c = if lb c = v then -1 else lb c) → Q M1) : P_X0_forget Z M b v Q := by
  refine ⟨50, ?_⟩
  refine for_up 49 (fun k i M' => L_X0_forget_2 Z Q k M' b v (nI i)) (fun i M' => Fr [b + 2] [] M M' ∧ (∀ c, c < 49 → mA M' (b + 2) c = if c < i ∧ lb c = v then -1 else lb c)) ?_ ?_ 49 0 M rfl ⟨Fr.refl _ _ _, fun c hc => by rw [if_neg (fun q => by omega)]; exact hlb c hc⟩
  · intro k i M' hi ⟨f, I⟩ kk
    show B_X0_forget_2 Z Q (L_X0_forget_2 Z Q k) M' b v (nI i)
    unfold B_X0_forget_2 B_X0_forget_29
    refine ⟨fun z => absurd z ?_, fun _ => ⟨hb.1, b + 1, hb.2.1, hb.2.2.2.2.1.1, (sp_at hb.2.2.2.2.1).mpr ?_⟩⟩
    · rw [show (49 : Int32) = nI 49 from rfl, n_le (by omega) (by omega)]; omega
    rw [gat_n hi (by omega), I i hi, if_neg (fun q => by omega), nI_1]
    refine ⟨fun z => kk M' ⟨f, fun c hc => ?_⟩, fun z => (sp_put hb.2.2.2.2.1).mpr ?_⟩
    · rw [I c hc]
      by_cases e : c = i
      · subst e; rw [if_neg (fun q => by omega), if_neg (fun q => z q.2)]
      · by_cases e2 : c < i ∧ lb c = v
        · rw [if_pos e2, if_pos ⟨by omega, e2.2⟩]
        · rw [if_neg e2, if_neg (fun q => e2 ⟨by omega, q.2⟩)]
    · rw [pput_n hi (by omega)]
      refine kk _ ⟨f.trans (Fr.setA _ _ _), fun c hc => ?_⟩
      rw [mA_same, upd_at]
      by_cases e : c = i
      · subst e; rw [if_pos rfl, if_pos ⟨by omega, z⟩]
      · rw [if_neg e, I c hc]
        by_cases e2 : c < i ∧ lb c = v
        · rw [if_pos e2, if_pos ⟨by omega, e2.2⟩]
        · rw [if_neg e2, if_neg (fun q => e2 ⟨by omega, q.2⟩)]
  · intro k M' ⟨f, I⟩
    show B_X0_forget_2 Z Q (L_X0_forget_2 Z Q k) M' b v (nI 49)
    unfold B_X0_forget_2
    refine ⟨fun _ => hQ M' f (fun c hc => ?_), fun z => absurd (by decide) z⟩
    rw [I c hc]
    by_cases e2 : lb c = v
    · rw [if_pos ⟨hc, e2⟩, if_pos e2]
    · rw [if_neg (fun q => e2 q.2), if_neg e2]
def volS (W H : Nat) (th lb : Nat → Int32) (v : Int32) : Int32 := sm (fun c => if lb c = v then th c else 0) (W * H)
theorem sp_volume {Z : ZZ} {M : MM} {x b : Nat} {g : GG} {W H : Nat} {v : Int32} {lb : Nat → Int32} {Q : Int32 → MM → Prop} (h : IceAt Z x) (hb : BlkAt Z b) (t : IceS M x g) (w : WH g W H) (hlb : ∀ c, c < 49 → mA M (b + 2) c = lb c) (hQ : Q (volS W H (gt g) lb v) M) : P_X1_volumeOf Z M x b v Q := by
  have h49 : W * H ≤ 49 := wh_lt w.2.2.2.1 w.2.2.2.2.2
  refine ⟨W * H + 1, ?_⟩
  refine for_up (W * H) (fun k i (_ : Unit) => L_X1_volumeOf_5 Z Q k M x b v (sm (fun c => if lb c = v then gt g c else 0) i) (nI i)) (fun _ _ => True) ?_ ?_ (W * H) 0 () (by omega) trivial
  · intro k i _ hi _ kk
    have kk := kk () trivial
    show B_X1_volumeOf_5 Z Q (L_X1_volumeOf_5 Z Q k) M x b v (sm (fun c => if lb c = v then gt g c else 0) i) (nI i)
    unfold B_X1_volumeOf_5 B_X1_volumeOf_36
    refine ⟨h.1, (sp_cells h t w).mpr ⟨fun e => absurd e ?_, fun _ => ⟨hb.1, (sp_number hb (by omega)).mpr ?_⟩⟩⟩
    · rw [n_le (by omega) (by omega)]; omega
    rw [hlb i (by omega), nI_1]
    simp only [sm] at kk
    refine ⟨fun z => ?_, fun z => ⟨x + 1, h.2.1, h.2.2.2.2.2.1.1, (sp_th h t (by omega)).mpr ?_⟩⟩
    · rw [if_neg z, Int32.add_zero] at kk; exact kk
    · rw [if_pos z] at kk; exact kk
  · intro k _ _
    show B_X1_volumeOf_5 Z Q (L_X1_volumeOf_5 Z Q k) M x b v (sm (fun c => if lb c = v then gt g c else 0) (W * H)) (nI (W * H))
    unfold B_X1_volumeOf_5
    exact ⟨h.1, (sp_cells h t w).mpr ⟨fun _ => hQ, fun e => absurd (nI_le (Nat.le_refl _) (by omega)) e⟩⟩
/-- a block is taken out -/
def takS (W H : Nat) (lb : Nat → Int32) (v : Int32) (g : GG) : GG := mk (upd (upd (gs g) 7 (gs g 7 + 1)) 6 (gs g 6 + volS W H (gt g) lb v)) (fun c => if c < W * H ∧ lb c = v then 0 else gt g c) (gc g) (if 40 ≤ gs g 7 then gk g else upd (upd (upd (gk g) (3 * (gs g 7).toNatClampNeg) v) (3 * (gs g 7).toNatClampNeg + 1) (volS W H (gt g) lb v)) (3 * (gs g 7).toNatClampNeg + 2) (gs g 3))
theorem WH.tak {g : GG} {W H : Nat} (w : WH g W H) (lb : Nat → Int32) (v : Int32) : WH (takS W H lb v g) W H := w.mk rfl rfl
theorem sp_remove {Z : ZZ} {M : MM} {x b : Nat} {g : GG} {W H tb : Nat} {v : Int32} {lb : Nat → Int32} {Q : Int32 → MM → Prop} (h : IceAt Z x) (hb : BlkAt Z b) (hd : x + 9 ≤ b ∨ b + 7 ≤ x) (t : IceS M x g) (w : WH g W H) (htb : gs g 7 = nI tb) (htb2 : tb < 1000000) (hlb : ∀ c, c < 49 → mA M (b + 2) c = lb c) (hQ : ∀ M1, Fr [x + 2, x + 6] [x] M M1 → IceS M1 x (takS W H lb v g) → Q (volS W H (gt g) lb v) M1) : P_X1_removeBlock Z M x b v Q := by
  have h49 : W * H ≤ 49 := wh_lt w.2.2.2.1 w.2.2.2.2.2
  have hk : NumAt Z (x + 5) (x + 6) 120 := h.2.2.2.2.2.2.2.1
  unfold P_X1_removeBlock B_X1_removeBlock_0
  refine ⟨h.1, sp_volume h hb t w hlb ⟨W * H + 1, ?_⟩⟩
  refine for_up (W * H) (fun k i M' => L_X1_removeBlock_10 Z Q k M' x b v (volS W H (gt g) lb v) (nI i)) (fun i M' => Fr [x + 2] [] M M' ∧ IceS M' x (mk (gs g) (fun c => if c < i ∧ lb c = v then 0 else gt g c) (gc g) (gk g))) ?_ ?_ (W * H) 0 M (by omega) ⟨Fr.refl _ _ _, t.cong (fun _ _ => rfl) (fun c hc => by rw [gt_mk]; simp) (fun _ _ => rfl) (fun _ _ => rfl)⟩
  · intro k i M' hi ⟨f, t1⟩ kk
    have w1 : WH (mk (gs g) (fun c => if c < i ∧ lb c = v then 0 else gt g c) (gc g) (gk g)) W H := w.mk rfl rfl
    show B_X1_removeBlock_10 Z Q (L_X1_removeBlock_10 Z Q k) M' x b v (volS W H (gt g) lb v) (nI i)
    unfold B_X1_removeBlock_10 B_X1_removeBlock_39
    refine ⟨h.1, (sp_cells h t1 w1).mpr ⟨fun e => absurd e ?_, fun _ => ⟨hb.1, (sp_number hb (by omega)).mpr ?_⟩⟩⟩
    · rw [n_le (by omega) (by omega)]; omega
    rw [f.1 _ (by simp; omega), hlb i (by omega), nI_1]
    refine ⟨fun z => kk M' ⟨f, t1.cong (fun _ _ => rfl) (fun c hc => ?_) (fun _ _ => rfl) (fun _ _ => rfl)⟩, fun z => ⟨x + 1, h.2.1, h.2.2.2.2.2.1.1, (sp_put h.2.2.2.2.2.1).mpr ?_⟩⟩
    · rw [gt_mk, gt_mk]
      by_cases e : c = i
      · subst e; rw [if_neg (fun q => by omega), if_neg (fun q => z q.2)]
      · by_cases e2 : c < i ∧ lb c = v
        · rw [if_pos e2, if_pos ⟨by omega, e2.2⟩]
        · rw [if_neg e2, if_neg (fun q => e2 ⟨by omega, q.2⟩)]
    · rw [pput_n (by omega) (by omega)]
      refine kk _ ⟨f.trans (Fr.setA _ _ _), (t1.setT i 0).cong (fun _ _ => rfl) (fun c hc => ?_) (fun _ _ => rfl) (fun _ _ => rfl)⟩
      rw [gt_mk, gt_mk, gt_mk, upd_at]
      by_cases e : c = i
      · subst e; rw [if_pos rfl, if_pos ⟨by omega, z⟩]
      · rw [if_neg e]
        by_cases e2 : c < i ∧ lb c = v
        · rw [if_pos e2, if_pos ⟨by omega, e2.2⟩]
        · rw [if_neg e2, if_neg (fun q => e2 ⟨by omega, q.2⟩)]
  · intro k M' ⟨f, t1⟩
    have w1 : WH (mk (gs g) (fun c => if c < W * H ∧ lb c = v then 0 else gt g c) (gc g) (gk g)) W H := w.mk rfl rfl
    show B_X1_removeBlock_10 Z Q (L_X1_removeBlock_10 Z Q k) M' x b v (volS W H (gt g) lb v) (nI (W * H))
    unfold B_X1_removeBlock_10 B_X1_removeBlock_103
    have e7 : mI M' 7 x = nI tb := (t1.1 7 (by omega)).trans htb
    refine ⟨h.1, (sp_cells h t1 w1).mpr ⟨fun _ => ⟨fun z => ⟨h.1, ?_⟩, fun z => ⟨x + 5, h.2.2.2.1, hk.1, ?_⟩⟩, fun e => absurd (nI_le (Nat.le_refl _) (by omega)) e⟩⟩
    · have t2 := (t1.setI 7 (mI M' 7 x + 1)).setI 6 (mI (setI M' 7 x (mI M' 7 x + 1)) 6 x + volS W H (gt g) lb v)
      refine hQ _ ((f.mono (by simp) (by simp)).trans ((Fr.mono (Fr.setI _ _ _ _) (by simp) (by simp)).trans (Fr.mono (Fr.setI _ _ _ _) (by simp) (by simp)))) (t2.cong (fun j hj => ?_) (fun _ _ => rfl) (fun _ _ => rfl) (fun j hj => ?_))
      · rw [mI_setI]
        simp only [gs_mk, takS, upd_at, t1.1 7 (by omega), t1.1 6 (by omega)]
        simp
      · simp only [gk_mk, takS]
        rw [e7, ← htb] at z
        rw [if_pos z]
    · rw [e7, ← htb] at z
      have z9 : tb < 40 := by
        rw [htb, show (40 : Int32) = nI 40 from rfl, n_le (by omega) (by omega)] at z; omega
      rw [e7, show (3 : Int32) = nI 3 from rfl, n_mul]
      refine (sp_put hk).mpr ?_
      rw [pput_n (by omega) (by omega)]
      have t2 := t1.setK (3 * tb) v
      have e72 := (t2.1 7 (by omega)).trans htb
      rw [e72, n_mul, nI_1]
      refine (sp_put hk).mpr ?_
      rw [pput_n (by omega) (by omega)]
      have t3 := t2.setK (3 * tb + 1) (volS W H (gt g) lb v)
      have e73 := (t3.1 7 (by omega)).trans htb
      rw [e73, n_mul, show (2 : Int32) = nI 2 from rfl, nI_add]
      refine (sp_put hk).mpr ?_
      have e33 : mI (setA (setA M' (x + 6) (upd (mA M' (x + 6)) (3 * tb) v)) (x + 6) (upd (mA (setA M' (x + 6) (upd (mA M' (x + 6)) (3 * tb) v)) (x + 6)) (3 * tb + 1) (volS W H (gt g) lb v))) 3 x = gs g 3 := t3.1 3 (by omega)
      rw [pput_n (by omega) (by omega), e33]
      have t4 := t3.setK (3 * tb + 2) (gs g 3)
      refine ⟨h.1, ?_⟩
      have e74 := (t4.1 7 (by omega)).trans htb
      have t5 := (t4.setI 7 (nI tb + 1)).setI 6 (gs g 6 + volS W H (gt g) lb v)
      rw [e74]
      have e65 : ∀ M5 : MM, IceS M5 x (mk (upd (gs g) 7 (nI tb + 1)) (fun c => if c < W * H ∧ lb c = v then 0 else gt g c) (gc g) (upd (upd (upd (gk g) (3 * tb) v) (3 * tb + 1) (volS W H (gt g) lb v)) (3 * tb + 2) (gs g 3))) → mI M5 6 x = gs g 6 := fun M5 t => t.1 6 (by omega)
      rw [e65 _ (t4.setI 7 (nI tb + 1))]
      refine hQ _ ?_ (t5.cong (fun j hj => ?_) (fun _ _ => rfl) (fun _ _ => rfl) (fun j hj => ?_))
      · refine (f.mono (by simp) (by simp)).trans (Fr.trans ?_ (Fr.trans ((Fr.setI _ _ _ _).mono (by simp) (by simp)) ((Fr.setI _ _ _ _).mono (by simp) (by simp))))
        exact (((Fr.setA _ _ _).mono (by simp) (by simp)).trans ((Fr.setA _ _ _).mono (by simp) (by simp))).trans ((Fr.setA _ _ _).mono (by simp) (by simp))
      · simp only [gs_mk, takS, upd_at, htb]
      · simp only [gk_mk, takS]
        rw [if_neg z, htb, i_cl tb (by omega)]
