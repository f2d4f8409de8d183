/-! PURE: loops; changes of a field of ice -/
theorem for_up {σ : Type} (N : Nat) (L : Nat → Nat → σ → Prop) (I : Nat → σ → Prop) (step : ∀ n i s, i < N → I i s → (∀ s1, I (i + 1) s1 → L n (i + 1) s1) → L (n + 1) i s) (fin : ∀ n s, I N s → L (n + 1) N s) : ∀ k i s, i + k = N → I i s → L (k + 1) i s := by
  intro k
  induction k with
  | zero =>
    intro i s hi h
    have : i = N := by omega
    subst this
    exact fin 0 s h
  | succ k ih =>
    intro i s hi h
    exact step (k + 1) i s (by omega) h (fun s1 h1 => ih (i + 1) s1 (by omega) h1)
def mk (s t c k : Nat → Int32) : GG := (s, t, c, k)
theorem gs_mk (s t c k : Nat → Int32) : gs (mk s t c k) = s := rfl
theorem gt_mk (s t c k : Nat → Int32) : gt (mk s t c k) = t := rfl
theorem gc_mk (s t c k : Nat → Int32) : gc (mk s t c k) = c := rfl
theorem gk_mk (s t c k : Nat → Int32) : gk (mk s t c k) = k := rfl
theorem mk_self (g : GG) : mk (gs g) (gt g) (gc g) (gk g) = g := rfl
theorem upd_same (f : Nat → Int32) (k : Nat) (v : Int32) : upd f k v k = v := by simp [upd]
theorem upd_ne (f : Nat → Int32) {k j : Nat} (v : Int32) (h : j ≠ k) : upd f k v j = f j := by simp [upd, h]
theorem upd_at (f : Nat → Int32) (k : Nat) (v : Int32) (j : Nat) : upd f k v j = if j = k then v else f j := rfl
theorem WH.mk {g : GG} {W H : Nat} (w : WH g W H) {s t c k : Nat → Int32} (h0 : s 0 = gs g 0) (h1 : s 1 = gs g 1) : WH (mk s t c k) W H := ⟨h0.trans w.1, h1.trans w.2.1, w.2.2⟩
theorem IceS.setI {M : MM} {x : Nat} {g : GG} (t : IceS M x g) (f : Nat) (v : Int32) : IceS (setI M f x v) x (mk (upd (gs g) f v) (gt g) (gc g) (gk g)) := by
  refine ⟨fun k hk => ?_, ?_, ?_, ?_⟩
  · rw [mI_setI, gs_mk, upd_at]
    by_cases e : k = f
    · simp [e]
    · simp [e, t.1 k hk]
  · rw [mA_setI]; exact t.2.1
  · rw [mA_setI]; exact t.2.2.1
  · rw [mA_setI]; exact t.2.2.2
theorem IceS.setT {M : MM} {x : Nat} {g : GG} (t : IceS M x g) (c : Nat) (v : Int32) : IceS (setA M (x + 2) (upd (mA M (x + 2)) c v)) x (mk (gs g) (upd (gt g) c v) (gc g) (gk g)) := by
  refine ⟨fun k hk => ?_, fun i hi => ?_, fun i hi => ?_, fun i hi => ?_⟩
  · rw [mI_setA]; exact t.1 k hk
  · rw [mA_same, gt_mk, upd_at, upd_at, t.2.1 i hi]
  · rw [mA_ne _ _ _ (by omega)]; exact t.2.2.1 i hi
  · rw [mA_ne _ _ _ (by omega)]; exact t.2.2.2 i hi
theorem IceS.setC {M : MM} {x : Nat} {g : GG} (t : IceS M x g) (c : Nat) (v : Int32) : IceS (setA M (x + 4) (upd (mA M (x + 4)) c v)) x (mk (gs g) (gt g) (upd (gc g) c v) (gk g)) := by
  refine ⟨fun k hk => ?_, fun i hi => ?_, fun i hi => ?_, fun i hi => ?_⟩
  · rw [mI_setA]; exact t.1 k hk
  · rw [mA_ne _ _ _ (by omega)]; exact t.2.1 i hi
  · rw [mA_same, gc_mk, upd_at, upd_at, t.2.2.1 i hi]
  · rw [mA_ne _ _ _ (by omega)]; exact t.2.2.2 i hi
theorem IceS.setK {M : MM} {x : Nat} {g : GG} (t : IceS M x g) (c : Nat) (v : Int32) : IceS (setA M (x + 6) (upd (mA M (x + 6)) c v)) x (mk (gs g) (gt g) (gc g) (upd (gk g) c v)) := by
  refine ⟨fun k hk => ?_, fun i hi => ?_, fun i hi => ?_, fun i hi => ?_⟩
  · rw [mI_setA]; exact t.1 k hk
  · rw [mA_ne _ _ _ (by omega)]; exact t.2.1 i hi
  · rw [mA_ne _ _ _ (by omega)]; exact t.2.2.1 i hi
  · rw [mA_same, gk_mk, upd_at, upd_at, t.2.2.2 i hi]
theorem IceS.cong {M : MM} {x : Nat} {g g1 : GG} (t : IceS M x g) (h0 : ∀ f, f < 8 → gs g f = gs g1 f) (h1 : ∀ f, f < 49 → gt g f = gt g1 f) (h2 : ∀ f, f < 106 → gc g f = gc g1 f) (h3 : ∀ f, f < 120 → gk g f = gk g1 f) : IceS M x g1 :=
  ⟨fun f hf => (t.1 f hf).trans (h0 f hf), fun f hf => (t.2.1 f hf).trans (h1 f hf), fun f hf => (t.2.2.1 f hf).trans (h2 f hf), fun f hf => (t.2.2.2 f hf).trans (h3 f hf)⟩
/-! water beside -/
def wb1 (W H : Nat) (th : Nat → Int32) (c s : Nat) : Nat := match bs W H c s with | none => if s = 1 then 1 else 0 | some d => if th d ≤ 0 then 1 else 0
def wbn (W H : Nat) (th : Nat → Int32) (c : Nat) : Nat → Nat
  | 0 => 0
  | k + 1 => wbn W H th c k + wb1 W H th c k
theorem wb1_le (W H : Nat) (th : Nat → Int32) (c s : Nat) : wb1 W H th c s ≤ 1 := by
  unfold wb1
  cases bs W H c s with
  | none => by_cases e : s = 1 <;> simp [e]
  | some d => by_cases e : th d ≤ 0 <;> simp [e]
theorem wbn_le (W H : Nat) (th : Nat → Int32) (c k : Nat) : wbn W H th c k ≤ k := by
  induction k with
  | zero => exact Nat.le_refl _
  | succ k ih => have := wb1_le W H th c k; simp only [wbn]; omega
theorem sp_water {Z : ZZ} {M : MM} {x : Nat} {g : GG} {W H c : Nat} {Q : Int32 → MM → Prop} (h : IceAt Z x) (t : IceS M x g) (w : WH g W H) (hc : c < W * H) (hQ : Q (nI (wbn W H (gt g) c 4)) M) : P_X1_waterBeside Z M x (nI c) Q := by
  have hW : 0 < W := by have := w.2.2.1; omega
  have h49 : W * H ≤ 49 := wh_lt w.2.2.2.1 w.2.2.2.2.2
  refine ⟨5, ?_⟩
  refine for_up 4 (fun n i (s : Unit) => L_X1_waterBeside_4 Z Q n M x (nI c) (nI (wbn W H (gt g) c i)) (nI i)) (fun _ _ => True) ?_ ?_ 4 0 () rfl trivial
  · intro n i s hi _ k
    have k := k () trivial
    show B_X1_waterBeside_4 Z Q (L_X1_waterBeside_4 Z Q n) M x (nI c) (nI (wbn W H (gt g) c i)) (nI i)
    unfold B_X1_waterBeside_4
    have e4 : ¬ (4 : Int32) ≤ nI i := by rw [show (4 : Int32) = nI 4 from rfl, n_le (by omega) (by omega)]; omega
    have e1 : nI i = (1 : Int32) ↔ i = 1 := by rw [show (1 : Int32) = nI 1 from rfl, n_eq (by omega) (by omega)]
    simp only [e4, false_imp_iff, true_and, not_false_eq_true, true_imp_iff, h.1, sp_beside h t w hc hi]
    have ek : wbn W H (gt g) c (i + 1) = wbn W H (gt g) c i + wb1 W H (gt g) c i := rfl
    rw [ek] at k
    cases hb : bs W H c i with
    | none =>
      simp only [oI, not_true_eq_false, false_imp_iff, true_imp_iff, true_and, e1]
      have ew : wb1 W H (gt g) c i = if i = 1 then 1 else 0 := by unfold wb1; rw [hb]
      rw [ew] at k
      unfold B_X1_waterBeside_40 B_X1_waterBeside_43
      by_cases e : i = 1
      · rw [if_pos e] at k
        simp only [e, not_true_eq_false, false_imp_iff, true_imp_iff, true_and]
        rw [e] at k
        rw [nI_1, nI_1]
        exact k
      · rw [if_neg e] at k
        simp only [e, not_false_eq_true, false_imp_iff, true_imp_iff, and_true, nI_1]
        exact k
    | some d =>
      have hd := bs_lt hc hb hW
      have e9 : ¬ nI d = -1 := i_n1 d (by omega)
      have ew : wb1 W H (gt g) c i = if gt g d ≤ 0 then 1 else 0 := by unfold wb1; rw [hb]
      rw [ew] at k
      simp only [oI, e9, not_false_eq_true, false_imp_iff, true_imp_iff, and_true, sp_isIce h t (by omega : d < 49), bI_0]
      unfold B_X1_waterBeside_40 B_X1_waterBeside_43
      by_cases e : gt g d ≤ 0
      · rw [if_pos e] at k
        simp only [e, not_true_eq_false, not_false_eq_true, false_imp_iff, true_imp_iff, true_and, nI_1]
        exact k
      · rw [if_neg e] at k
        simp only [e, not_true_eq_false, not_false_eq_true, false_imp_iff, true_imp_iff, and_true, nI_1]
        exact k
  · intro n s _
    show B_X1_waterBeside_4 Z Q (L_X1_waterBeside_4 Z Q n) M x (nI c) (nI (wbn W H (gt g) c 4)) (nI 4)
    unfold B_X1_waterBeside_4
    exact ⟨fun _ => hQ, fun e => absurd (by decide) e⟩
/-- what a cell loses in a day -/
def los (W H : Nat) (melt : Int32) (th : Nat → Int32) (c : Nat) : Int32 := if th c ≤ (if wbn W H th c 4 < 2 then melt else melt + 1) then th c else (if wbn W H th c 4 < 2 then melt else melt + 1)
theorem sp_loss {Z : ZZ} {M : MM} {x : Nat} {g : GG} {W H c : Nat} {Q : Int32 → MM → Prop} (h : IceAt Z x) (t : IceS M x g) (w : WH g W H) (hc : c < W * H) (hQ : Q (los W H (gs g 2) (gt g) c) M) : P_X1_lossOf Z M x (nI c) Q := by
  have h49 : W * H ≤ 49 := wh_lt w.2.2.2.1 w.2.2.2.2.2
  unfold P_X1_lossOf B_X1_lossOf_0
  refine ⟨h.1, sp_water h t w hc ?_⟩
  have hl := wbn_le W H (gt g) c 4
  have e2 : nI (wbn W H (gt g) c 4) < 2 ↔ wbn W H (gt g) c 4 < 2 := by rw [show (2 : Int32) = nI 2 from rfl, n_lt (by omega) (by omega)]
  unfold B_X1_lossOf_22
  simp only [e2, h.1, h.2.1, h.2.2.2.2.2.1.1, Option.some.injEq, exists_eq_left', true_and, sp_th h t (by omega : c < 49), t.1 2 (by omega)]
  unfold los at hQ
  by_cases a : wbn W H (gt g) c 4 < 2
  · simp only [a, if_true, true_imp_iff, not_true_eq_false, false_imp_iff, and_true] at hQ ⊢
    by_cases b : gt g c ≤ gs g 2
    · simp only [b, if_true] at hQ
      exact ⟨fun _ => hQ, fun e => absurd b e⟩
    · simp only [b, if_false] at hQ
      exact ⟨fun e => absurd e b, fun _ => hQ⟩
  · simp only [a, if_false, not_false_eq_true, true_imp_iff, false_imp_iff, true_and] at hQ ⊢
    by_cases b : gt g c ≤ gs g 2 + 1
    · simp only [b, if_true] at hQ
      exact ⟨fun _ => hQ, fun e => absurd b e⟩
    · simp only [b, if_false] at hQ
      exact ⟨fun e => absurd e b, fun _ => hQ⟩
def day1 (W H : Nat) (g : GG) (n : Nat) : GG := mk (upd (gs g) 5 (gs g 5 + sm (los W H (gs g 2) (gt g)) n)) (fun c => if c < n then gt g c - los W H (gs g 2) (gt g) c else gt g c) (gc g) (gk g)
def dayS (W H : Nat) (g : GG) : GG := mk (upd (upd (gs g) 5 (gs g 5 + sm (los W H (gs g 2) (gt g)) (W * H))) 3 (gs g 3 + 1)) (fun c => if c < W * H then gt g c - los W H (gs g 2) (gt g) c else gt g c) (gc g) (gk g)
theorem WH.day {g : GG} {W H : Nat} (w : WH g W H) : WH (dayS W H g) W H := w.mk rfl rfl
theorem sp_day {Z : ZZ} {M : MM} {x : Nat} {g : GG} {W H : Nat} {Q : MM → Prop} (h : IceAt Z x) (t : IceS M x g) (w : WH g W H) (hQ : ∀ M1, Fr [x + 2, x + 8] [x] M M1 → IceS M1 x (dayS W H g) → Q M1) : P_X1_meltOneDay Z M x Q := by
  have h49 : W * H ≤ 49 := wh_lt w.2.2.2.1 w.2.2.2.2.2
  have hl : NumAt Z (x + 7) (x + 8) 49 := h.2.2.2.2.2.2.2.2
  refine ⟨W * H + 1, ?_⟩
  refine for_up (W * H) (fun n i M' => L_X1_meltOneDay_2 Z Q n M' x (nI i)) (fun i M' => Fr [x + 8] [] M M' ∧ ∀ j, j < i → mA M' (x + 8) j = los W H (gs g 2) (gt g) j) ?_ ?_ (W * H) 0 M (by omega) ⟨Fr.refl _ _ _, fun j hj => absurd hj (by omega)⟩
  · intro n i M' hi ⟨f, hI⟩ k
    have t' : IceS M' x g := t.frame f (by simp) (by simp) (by simp) (by simp)
    show B_X1_meltOneDay_2 Z Q (L_X1_meltOneDay_2 Z Q n) M' x (nI i)
    unfold B_X1_meltOneDay_2
    refine ⟨h.1, (sp_cells h t' w).mpr ⟨fun e => absurd e ?_, fun _ => ?_⟩⟩
    · rw [n_le (by omega) (by omega)]; omega
    refine ⟨x + 7, h.2.2.2.2.1, sp_loss h t' w hi ⟨hl.1, (sp_put hl).mpr ?_⟩⟩
    rw [pput_n (by omega) (by omega), nI_1]
    refine k _ ⟨f.trans (Fr.mono (Fr.setA _ _ _) (by simp) (by simp)), fun j hj => ?_⟩
    rw [mA_same, upd_at]
    by_cases e : j = i
    · simp [e]
    · rw [if_neg e]; exact hI j (by omega)
  · intro n M' ⟨f, hI⟩
    have t' : IceS M' x g := t.frame f (by simp) (by simp) (by simp) (by simp)
    show B_X1_meltOneDay_2 Z Q (L_X1_meltOneDay_2 Z Q n) M' x (nI (W * H))
    unfold B_X1_meltOneDay_2
    refine ⟨h.1, (sp_cells h t' w).mpr ⟨fun _ => ⟨W * H + 1, ?_⟩, fun e => absurd (nI_le (Nat.le_refl _) (by omega)) e⟩⟩
    refine for_up (W * H) (fun n i M2 => L_X1_meltOneDay_31 Z Q n M2 x (nI i)) (fun i M2 => Fr [x + 2, x + 8] [x] M M2 ∧ (∀ j, j < W * H → mA M2 (x + 8) j = los W H (gs g 2) (gt g) j) ∧ IceS M2 x (day1 W H g i)) ?_ ?_ (W * H) 0 M' (by omega) ⟨f.mono (by simp) (by simp), hI, t'.cong ?_ ?_ (fun _ _ => rfl) (fun _ _ => rfl)⟩
    · intro n i M2 hi ⟨f2, hl2, t2⟩ k
      have w2 : WH (day1 W H g i) W H := w.mk rfl rfl
      show B_X1_meltOneDay_31 Z Q (L_X1_meltOneDay_31 Z Q n) M2 x (nI i)
      unfold B_X1_meltOneDay_31
      refine ⟨h.1, (sp_cells h t2 w2).mpr ⟨fun e => absurd e ?_, fun _ => ?_⟩⟩
      · rw [n_le (by omega) (by omega)]; omega
      refine ⟨x + 1, h.2.1, h.2.2.2.2.2.1.1, (sp_th h t2 (by omega)).mpr ⟨x + 7, h.2.2.2.2.1, hl.1, (sp_at hl).mpr ((sp_put h.2.2.2.2.2.1).mpr ((sp_at hl).mpr ?_))⟩⟩
      rw [pput_n (by omega) (by omega), gat_n (by omega) (by omega), gat_n (by omega) (by omega), mA_ne _ _ _ (by omega), hl2 i hi, nI_1, mI_setA, t2.1 5 (by omega)]
      have t3 := (t2.setT i (gt (day1 W H g i) i - los W H (gs g 2) (gt g) i)).setI 5 (gs (day1 W H g i) 5 + los W H (gs g 2) (gt g) i)
      refine k _ ⟨?_, fun j hj => ?_, ?_⟩
      · exact (f2.trans (Fr.mono (Fr.setA _ _ _) (by simp) (by simp))).trans (Fr.mono (Fr.setI _ _ _ _) (by simp) (by simp))
      · rw [mA_setI, mA_ne _ _ _ (by omega)]; exact hl2 j hj
      · refine t3.cong (fun j _ => ?_) (fun j hj => ?_) (fun _ _ => rfl) (fun _ _ => rfl)
        · simp only [gs_mk, day1, upd_at, sm]
          by_cases e : j = 5
          · simp [e, Int32.add_assoc]
          · simp [e]
        · simp only [gt_mk, day1, upd_at]
          by_cases e : j = i
          · subst e; simp
          · by_cases e2 : j < i
            · have : j < i + 1 := by omega
              simp [e, e2, this]
            · have : ¬ j < i + 1 := by omega
              simp [e, e2, this]
    · intro n M2 ⟨f2, hl2, t2⟩
      have w2 : WH (day1 W H g (W * H)) W H := w.mk rfl rfl
      show B_X1_meltOneDay_31 Z Q (L_X1_meltOneDay_31 Z Q n) M2 x (nI (W * H))
      unfold B_X1_meltOneDay_31
      refine ⟨h.1, (sp_cells h t2 w2).mpr ⟨fun _ => ?_, fun e => absurd (nI_le (Nat.le_refl _) (by omega)) e⟩⟩
      refine hQ _ (f2.trans (Fr.mono (Fr.setI _ _ _ _) (by simp) (by simp))) ?_
      have t3 := t2.setI 3 (mI M2 3 x + 1)
      refine t3.cong (fun j _ => ?_) (fun _ _ => rfl) (fun _ _ => rfl) (fun _ _ => rfl)
      rw [t2.1 3 (by omega)]
      rfl
    · intro j _
      simp only [gs_mk, day1, upd_at, sm]
      by_cases e : j = 5
      · simp [e]
      · simp [e]
    · intro j _
      simp [gt_mk, day1]
/-- cells of ice -/
def cnI (th : Nat → Int32) : Nat → Nat
  | 0 => 0
  | n + 1 => cnI th n + if th n ≤ 0 then 0 else 1
theorem cnI_le (th : Nat → Int32) (n : Nat) : cnI th n ≤ n := by
  induction n with
  | zero => exact Nat.le_refl _
  | succ n ih =>
    simp only [cnI]
    by_cases e : th n ≤ 0
    · rw [if_pos e]; omega
    · rw [if_neg e]; omega
theorem sp_iceCells {Z : ZZ} {M : MM} {x : Nat} {g : GG} {W H : Nat} {Q : Int32 → MM → Prop} (h : IceAt Z x) (t : IceS M x g) (w : WH g W H) (hQ : Q (nI (cnI (gt g) (W * H))) M) : P_X1_iceCells Z M x Q := by
  have h49 : W * H ≤ 49 := wh_lt w.2.2.2.1 w.2.2.2.2.2
  refine ⟨W * H + 1, ?_⟩
  refine for_up (W * H) (fun n i (s : Unit) => L_X1_iceCells_4 Z Q n M x (nI (cnI (gt g) i)) (nI i)) (fun _ _ => True) ?_ ?_ (W * H) 0 () (by omega) trivial
  · intro n i s hi _ k
    have k := k () trivial
    show B_X1_iceCells_4 Z Q (L_X1_iceCells_4 Z Q n) M x (nI (cnI (gt g) i)) (nI i)
    unfold B_X1_iceCells_4 B_X1_iceCells_23
    refine ⟨h.1, (sp_cells h t w).mpr ⟨fun e => absurd e ?_, fun _ => (sp_isIce h t (by omega)).mpr ?_⟩⟩
    · rw [n_le (by omega) (by omega)]; omega
    simp only [bI_0, nI_1]
    simp only [cnI] at k
    by_cases e : gt g i ≤ 0
    · rw [if_pos e] at k
      exact ⟨fun _ => k, fun e2 => absurd (fun e3 => e3 e) e2⟩
    · rw [if_neg e] at k
      exact ⟨fun e2 => absurd e e2, fun _ => k⟩
  · intro n s _
    show B_X1_iceCells_4 Z Q (L_X1_iceCells_4 Z Q n) M x (nI (cnI (gt g) (W * H))) (nI (W * H))
    unfold B_X1_iceCells_4
    exact ⟨h.1, (sp_cells h t w).mpr ⟨fun _ => hQ, fun e => absurd (nI_le (Nat.le_refl _) (by omega)) e⟩⟩
