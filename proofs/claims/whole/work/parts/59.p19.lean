/-! PURE: the model takes blocks out, and melts -/
theorem sxm_all : ∀ k, k < 8 → sxm k < 8 ∧ sxm (sxm k) = k := by decide
theorem sxm_inj {j k : Nat} (hj : j < 8) (hk : k < 8) : sxm j = sxm k ↔ j = k := ⟨fun h => by
  have := congrArg sxm h
  rwa [(sxm_all j hj).2, (sxm_all k hk).2] at this, fun h => by rw [h]⟩
section
variable {Z : ZZ} {M : MM} {m : Nat} {g : GG} {W H : Nat} {lb : Nat → Int32}
theorem MoS.setS (t : MoS M m g) {k : Nat} (v : Int32) (hk : k < 8) (h2 : 2 ≤ k) : MoS (setA M (m + 1) (upd (mA M (m + 1)) k v)) m (mk (upd (gs g) (sxm k) v) (gt g) (gc g) (gk g)) := by
  intro j hj
  have e0 : sxm k ≠ 0 ∧ sxm k ≠ 1 := by
    have : ∀ k, k < 8 → 2 ≤ k → sxm k ≠ 0 ∧ sxm k ≠ 1 := by decide
    exact this k hk h2
  have ew : wd (mk (upd (gs g) (sxm k) v) (gt g) (gc g) (gk g)) = wd g := by
    show (upd (gs g) (sxm k) v 0).toNatClampNeg = (gs g 0).toNatClampNeg
    rw [upd_ne _ _ (fun q => e0.1 q.symm)]
  have eh : ht (mk (upd (gs g) (sxm k) v) (gt g) (gc g) (gk g)) = ht g := by
    show (upd (gs g) (sxm k) v 1).toNatClampNeg = (gs g 1).toNatClampNeg
    rw [upd_ne _ _ (fun q => e0.2 q.symm)]
  rw [mA_same, upd_at]
  unfold enc
  rw [ew, eh]
  by_cases e8 : j < 8
  · rw [if_pos e8]
    show _ = upd (gs g) (sxm k) v (sxm j)
    rw [upd_at]
    by_cases z : j = k
    · rw [if_pos z, if_pos (by rw [z])]
    · rw [if_neg z, if_neg (fun q => z ((sxm_inj e8 hk).mp q)), t j hj]
      unfold enc; rw [if_pos e8]
  · rw [if_neg (by omega), if_neg e8, t j hj]
    unfold enc; rw [if_neg e8]; rfl
theorem MoS.setT (t : MoS M m g) (c : Nat) (v : Int32) (hc : c < 49) : MoS (setA M (m + 1) (upd (mA M (m + 1)) (8 + c) v)) m (mk (gs g) (upd (gt g) c v) (gc g) (gk g)) := by
  intro j hj
  rw [mA_same, upd_at]
  unfold enc
  by_cases e8 : j < 8
  · rw [if_neg (by omega), if_pos e8, t j hj]; unfold enc; rw [if_pos e8]; rfl
  · rw [if_neg e8]
    by_cases e57 : j < 57
    · rw [if_pos e57]
      show _ = upd (gt g) c v (j - 8)
      rw [upd_at]
      by_cases z : j = 8 + c
      · rw [if_pos z, if_pos (by omega)]
      · rw [if_neg z, if_neg (by omega), t j hj]; unfold enc; rw [if_neg e8, if_pos e57]
    · rw [if_neg (by omega), if_neg e57, t j hj]; unfold enc; rw [if_neg e8, if_neg e57]; rfl
theorem MoS.setK (t : MoS M m g) (i : Nat) (v : Int32) : MoS (setA M (m + 1) (upd (mA M (m + 1)) (106 + i) v)) m (mk (gs g) (gt g) (gc g) (upd (gk g) i v)) := by
  intro j hj
  rw [mA_same, upd_at]
  unfold enc
  by_cases e106 : j < 106
  · rw [if_neg (by omega), t j hj]; unfold enc
    by_cases e8 : j < 8
    · rw [if_pos e8, if_pos e8]; rfl
    · rw [if_neg e8, if_neg e8]
      by_cases e57 : j < 57
      · rw [if_pos e57, if_pos e57]; rfl
      · rw [if_neg e57, if_neg e57, if_pos e106, if_pos e106]; rfl
  · rw [if_neg (by omega : ¬ j < 8), if_neg (by omega : ¬ j < 57), if_neg e106]
    show _ = upd (gk g) i v (j - 106)
    rw [upd_at]
    by_cases z : j = 106 + i
    · rw [if_pos z, if_pos (by omega)]
    · rw [if_neg z, if_neg (by omega), t j hj]; unfold enc
      rw [if_neg (by omega : ¬ j < 8), if_neg (by omega : ¬ j < 57), if_neg e106]
theorem MoS.cong {g1 : GG} (t : MoS M m g) (h0 : ∀ f, f < 8 → gs g f = gs g1 f) (h1 : ∀ f, f < 49 → gt g f = gt g1 f) (h2 : gc g = gc g1) (h3 : ∀ f, f < 120 → gk g f = gk g1 f) : MoS M m g1 := by
  intro j hj
  rw [t j hj]
  unfold enc wd ht
  rw [← h0 0 (by omega), ← h0 1 (by omega), h2]
  by_cases e8 : j < 8
  · rw [if_pos e8, if_pos e8]; exact h0 _ (sxm_all j e8).1
  · rw [if_neg e8, if_neg e8]
    by_cases e57 : j < 57
    · rw [if_pos e57, if_pos e57]; exact h1 _ (by omega)
    · rw [if_neg e57, if_neg e57]
      by_cases e106 : j < 106
      · rw [if_pos e106, if_pos e106]
      · rw [if_neg e106, if_neg e106]; exact h3 _ (by omega)
theorem MoS.s (t : MoS M m g) {k : Nat} (hk : k < 8) : mA M (m + 1) k = gs g (sxm k) := by
  rw [t k (by omega)]; unfold enc; rw [if_pos hk]
def nxP (W H : Nat) (g : GG) (b : Bool) (n : Nat) : Prop := looG W H g n ∧ (wayI (farG W H g n) ≠ -1 ↔ b = true)
theorem mo_next {b : Bool} {Q : Int32 → MM → Prop} (F : ModAt Z m) (t : MoS M m g) (w : WH g W H) (ok : CtOk W H (gc g)) (B : BlM M m W H g) (hy : ∀ n M1, Fr [m + 5] [] M M1 → lowP (nxP W H g b) (W * H) n → Q (nI n) M1) (hno : ∀ M1, Fr [m + 5] [] M M1 → (∀ k, k < W * H → ¬ nxP W H g b k) → Q (-1) M1) : P_X6_nextLoose Z M m 0 (bI (b = true)) Q := by
  have h49 : W * H ≤ 49 := wh_lt w.2.2.2.1 w.2.2.2.2.2
  refine ⟨W * H + 1, ?_⟩
  refine for_up (W * H) (fun k i M' => L_X6_nextLoose_2 Z Q k M' m (bI (b = true)) (nI i)) (fun i M' => Fr [m + 5] [] M M' ∧ ∀ k, k < i → ¬ nxP W H g b k) ?_ ?_ (W * H) 0 M (by omega) ⟨Fr.refl _ _ _, fun k hk => absurd hk (by omega)⟩
  · intro k i M' hi ⟨f, I⟩ kk
    have t1 := t.frame f (by simp)
    have B1 : BlM M' m W H g := B.frame f (by simp)
    have hv : vp_in (nI i) (zN Z (m + 4)) := by rw [F.blk.2.2]; exact vpn (by omega) (by omega)
    have skip : ∀ M2, Fr [m + 5] [] M M2 → ¬ nxP W H g b i → L_X6_nextLoose_2 Z Q k M2 m (bI (b = true)) (nI i + 1) := fun M2 f2 z => by
      rw [nI_1]
      refine kk M2 ⟨f2, fun j hj => ?_⟩
      by_cases e : j = i
      · subst e; exact z
      · exact I j (by omega)
    show B_X6_nextLoose_2 Z Q (L_X6_nextLoose_2 Z Q k) M' m (bI (b = true)) (nI i)
    unfold B_X6_nextLoose_2 B_X6_nextLoose_32 B_X6_nextLoose_33 B_X6_nextLoose_54 B_X6_nextLoose_60
    refine ⟨F.1, (mo_cells F t1 w).mpr ⟨fun e => absurd e ?_, fun _ => ⟨m + 4, F.blk.1, F.blk.2.1, hv, ?_⟩⟩⟩
    · rw [n_le (by omega) (by omega)]; omega
    rw [i_cl i (by omega), B1 i hi]
    refine ⟨fun z => ⟨fun _ => skip M' f (fun q => z q.1.1), fun q => absurd rfl q⟩, fun z => ?_⟩
    refine mo_held F t1 w ok B1 (fun hh => ⟨fun _ => ⟨fun _ => skip M' f (fun q => q.1.2 hh), fun q => absurd rfl q⟩, fun q => absurd q (by decide)⟩) (fun hh => ⟨fun q => absurd rfl q, fun _ => ⟨fun q => absurd q (by decide), fun _ => ⟨F.1, ?_⟩⟩⟩)
    refine mo_way F t1 w ok B1 hi z (fun q => absurd q hh) (fun _ M2 f2 hf => ?_)
    have hl : looG W H g i := ⟨z, hh⟩
    have hw : wayI (farX W H (gt g) (fun c => lbG W H g c) i) = wayI (farG W H g i) := rfl
    rw [hw]
    refine ⟨fun z2 => ⟨fun z3 => skip M2 (f.trans f2) (fun q => z3 ?_), fun z3 => hy i M2 (f.trans f2) ⟨hi, ⟨hl, ?_⟩, I⟩⟩, fun z2 => ⟨fun z3 => skip M2 (f.trans f2) (fun q => z3 ?_), fun z3 => hy i M2 (f.trans f2) ⟨hi, ⟨hl, ?_⟩, I⟩⟩⟩
    · have : ¬ b = true := fun q2 => (q.2.mpr q2) z2
      unfold bI; rw [if_neg this]
    · have : ¬ b = true := fun q2 => by unfold bI at z3; rw [if_pos q2] at z3; exact absurd z3 (by decide)
      exact ⟨fun q => absurd z2 q, fun q => absurd q this⟩
    · have : b = true := q.2.mp z2
      unfold bI; rw [if_pos this]
    · have : b = true := Classical.byContradiction (fun q2 => by unfold bI at z3; rw [if_neg q2] at z3; exact absurd z3 (by decide))
      exact ⟨fun _ => this, fun _ => z2⟩
  · intro k M' ⟨f, I⟩
    have t1 := t.frame f (by simp)
    show B_X6_nextLoose_2 Z Q (L_X6_nextLoose_2 Z Q k) M' m (bI (b = true)) (nI (W * H))
    unfold B_X6_nextLoose_2
    exact ⟨F.1, (mo_cells F t1 w).mpr ⟨fun _ => hno M' f I, fun e => absurd (nI_le (Nat.le_refl _) (by omega)) e⟩⟩
theorem mo_takes {n tb : Nat} {Q : MM → Prop} (F : ModAt Z m) (t : MoS M m g) (w : WH g W H) (B : BlM M m W H g) (htb : gs g 7 = nI tb) (htb2 : tb < 1000000) (hQ : ∀ M1, Fr [m + 1] [] M M1 → MoS M1 m (takG W H g n) → Q M1) : P_X6_takes Z M m (nI n) Q := by
  have h49 : W * H ≤ 49 := wh_lt w.2.2.2.1 w.2.2.2.2.2
  have hvk : ∀ k, k < 226 → vp_in (nI k) (zN Z (m + 1)) := fun k hk => by rw [F.all.2.2]; exact vpn hk (by omega)
  have v7 : vp_in 7 (zN Z (m + 1)) := hvk 7 (by omega)
  have v5 : vp_in 5 (zN Z (m + 1)) := hvk 5 (by omega)
  have v3 : vp_in 3 (zN Z (m + 1)) := hvk 3 (by omega)
  -- the thicknesses
  have fin : ∀ M1 k1, Fr [m + 1] [] M M1 → MoS M1 m (mk (gs g) (gt g) (gc g) k1) → (∀ i, i < 120 → k1 i = gk (takG W H g n) i) → B_X6_takes_82 Z Q M1 m (nI n) (volS W H (gt g) (lbG W H g) (nI n)) := by
    intro M1 k1 f1 t1 hk1
    unfold B_X6_takes_82
    have t2 := (t1.setS (k := 7) (mA M1 (m + 1) 7 + 1) (by omega) (by omega))
    have t3 := t2.setS (k := 5) (mA (setA M1 (m + 1) (upd (mA M1 (m + 1)) 7 (mA M1 (m + 1) 7 + 1))) (m + 1) 5 + volS W H (gt g) (lbG W H g) (nI n)) (by omega) (by omega)
    refine ⟨F.1, m + 1, F.all.1, F.all.2.1, v7, v7, v5, v5, W * H + 1, ?_⟩
    have f3 : Fr [m + 1] [] M (setA (setA M1 (m + 1) (upd (mA M1 (m + 1)) 7 (mA M1 (m + 1) 7 + 1))) (m + 1) (upd (mA (setA M1 (m + 1) (upd (mA M1 (m + 1)) 7 (mA M1 (m + 1) 7 + 1))) (m + 1)) 5 (mA (setA M1 (m + 1) (upd (mA M1 (m + 1)) 7 (mA M1 (m + 1) 7 + 1))) (m + 1) 5 + volS W H (gt g) (lbG W H g) (nI n)))) := f1.trans ((Fr.setA _ _ _).trans (Fr.setA _ _ _))
    have e7 : mA M1 (m + 1) 7 = gs g 7 := t1.s (by omega)
    have e5 : mA (setA M1 (m + 1) (upd (mA M1 (m + 1)) 7 (mA M1 (m + 1) 7 + 1))) (m + 1) 5 = gs g 6 := (t2.s (k := 5) (by omega)).trans (by rw [gs_mk, gs_mk]; exact upd_ne _ _ (by decide))
    have t4 : MoS (setA (setA M1 (m + 1) (upd (mA M1 (m + 1)) 7 (mA M1 (m + 1) 7 + 1))) (m + 1) (upd (mA (setA M1 (m + 1) (upd (mA M1 (m + 1)) 7 (mA M1 (m + 1) 7 + 1))) (m + 1)) 5 (mA (setA M1 (m + 1) (upd (mA M1 (m + 1)) 7 (mA M1 (m + 1) 7 + 1))) (m + 1) 5 + volS W H (gt g) (lbG W H g) (nI n)))) m (mk (gs (takG W H g n)) (fun c => if c < 0 ∧ lbG W H g c = nI n then 0 else gt g c) (gc g) (gk (takG W H g n))) := by
      refine t3.cong (fun j _ => ?_) (fun c _ => ?_) rfl hk1
      · rw [e5, e7]; rfl
      · rw [gt_mk]; simp; rfl
    refine for_up (W * H) (fun k i M' => L_X6_takes_105 Z Q k M' m (nI n) (nI i)) (fun i M' => Fr [m + 1] [] M M' ∧ MoS M' m (mk (gs (takG W H g n)) (fun c => if c < i ∧ lbG W H g c = nI n then 0 else gt g c) (gc g) (gk (takG W H g n)))) ?_ ?_ (W * H) 0 _ (by omega) ⟨f3, t4⟩
    · intro k i M' hi ⟨f, t1⟩ kk
      have w1 : WH (mk (gs (takG W H g n)) (fun c => if c < i ∧ lbG W H g c = nI n then 0 else gt g c) (gc g) (gk (takG W H g n))) W H := w.mk rfl rfl
      have B1 : BlM M' m W H g := B.frame f (by simp)
      have hv : vp_in (nI i) (zN Z (m + 4)) := by rw [F.blk.2.2]; exact vpn (by omega) (by omega)
      have hv8 : vp_in (8 + nI i) (zN Z (m + 1)) := by rw [e8]; exact hvk _ (by omega)
      show B_X6_takes_105 Z Q (L_X6_takes_105 Z Q k) M' m (nI n) (nI i)
      unfold B_X6_takes_105 B_X6_takes_144
      refine ⟨F.1, (mo_cells F t1 w1).mpr ⟨fun e => absurd e ?_, fun _ => ⟨m + 1, F.all.1, m + 4, F.blk.1, F.blk.2.1, hv, ?_⟩⟩⟩
      · rw [n_le (by omega) (by omega)]; omega
      rw [i_cl i (by omega), B1 i hi, nI_1]
      refine ⟨fun z => ⟨F.all.2.1, hv8, F.all.2.1, hv8, ?_⟩, fun z => ⟨F.all.2.1, hv8, ?_⟩⟩
      · rw [e8, i_cl (8 + i) (by omega), t1.th (by omega)]
        refine kk _ ⟨f.trans (Fr.setA _ _ _), (t1.setT i _ (by omega)).cong (fun _ _ => rfl) (fun c hc => ?_) rfl (fun _ _ => rfl)⟩
        rw [gt_mk, gt_mk, gt_mk, upd_at]
        by_cases e : c = i
        · subst e; rw [if_pos rfl, if_neg (fun q => by omega), if_neg (fun q => z q.2)]
        · rw [if_neg e]
          by_cases e2 : c < i ∧ lbG W H g c = nI n
          · rw [if_pos e2, if_pos ⟨by omega, e2.2⟩]
          · rw [if_neg e2, if_neg (fun q => e2 ⟨by omega, q.2⟩)]
      · rw [e8, i_cl (8 + i) (by omega)]
        refine kk _ ⟨f.trans (Fr.setA _ _ _), (t1.setT i 0 (by omega)).cong (fun _ _ => rfl) (fun c hc => ?_) rfl (fun _ _ => rfl)⟩
        rw [gt_mk, gt_mk, gt_mk, upd_at]
        by_cases e : c = i
        · subst e; rw [if_pos rfl, if_pos ⟨by omega, z⟩]
        · rw [if_neg e]
          by_cases e2 : c < i ∧ lbG W H g c = nI n
          · rw [if_pos e2, if_pos ⟨by omega, e2.2⟩]
          · rw [if_neg e2, if_neg (fun q => e2 ⟨by omega, q.2⟩)]
    · intro k M' ⟨f, t1⟩
      have w1 : WH (mk (gs (takG W H g n)) (fun c => if c < W * H ∧ lbG W H g c = nI n then 0 else gt g c) (gc g) (gk (takG W H g n))) W H := w.mk rfl rfl
      show B_X6_takes_105 Z Q (L_X6_takes_105 Z Q k) M' m (nI n) (nI (W * H))
      unfold B_X6_takes_105
      exact ⟨F.1, (mo_cells F t1 w1).mpr ⟨fun _ => hQ M' f t1, fun e => absurd (nI_le (Nat.le_refl _) (by omega)) e⟩⟩
  unfold P_X6_takes B_X6_takes_0
  have e7 : mA M (m + 1) (7 : Int32).toNatClampNeg = nI tb := (t.s (k := 7) (by omega)).trans htb
  refine ⟨F.1, mo_vol F t w B ⟨m + 1, F.all.1, F.all.2.1, v7, fun z => ?_, fun z => ?_⟩⟩
  · refine fin M (gk g) (Fr.refl _ _ _) t (fun i _ => ?_)
    rw [e7, ← htb] at z
    show gk g i = (if 40 ≤ gs g 7 then gk g else _) i
    rw [if_pos z]
  · rw [e7] at z ⊢
    have z9 : tb < 40 := by
      rw [show (40 : Int32) = nI 40 from rfl, n_le (by omega) (by omega)] at z; omega
    have e106 : ∀ k, (106 : Int32) + nI k = nI (106 + k) := fun k => nI_add 106 k
    have e3 : (3 : Int32) * nI tb = nI (3 * tb) := n_mul 3 tb
    rw [e3, e106, i_cl (106 + 3 * tb) (by omega)]
    have t2 := t.setK (3 * tb) (nI n)
    have e72 : mA (setA M (m + 1) (upd (mA M (m + 1)) (106 + 3 * tb) (nI n))) (m + 1) (7 : Int32).toNatClampNeg = nI tb := (t2.s (k := 7) (by omega)).trans htb
    rw [e72, e3, e106, nI_1, i_cl (106 + 3 * tb + 1) (by omega), show 106 + 3 * tb + 1 = 106 + (3 * tb + 1) by omega]
    have t3 := t2.setK (3 * tb + 1) (volS W H (gt g) (lbG W H g) (nI n))
    have e73 : mA (setA (setA M (m + 1) (upd (mA M (m + 1)) (106 + 3 * tb) (nI n))) (m + 1) (upd (mA (setA M (m + 1) (upd (mA M (m + 1)) (106 + 3 * tb) (nI n))) (m + 1)) (106 + (3 * tb + 1)) (volS W H (gt g) (lbG W H g) (nI n)))) (m + 1) (7 : Int32).toNatClampNeg = nI tb := (t3.s (k := 7) (by omega)).trans htb
    have e33 : mA (setA (setA M (m + 1) (upd (mA M (m + 1)) (106 + 3 * tb) (nI n))) (m + 1) (upd (mA (setA M (m + 1) (upd (mA M (m + 1)) (106 + 3 * tb) (nI n))) (m + 1)) (106 + (3 * tb + 1)) (volS W H (gt g) (lbG W H g) (nI n)))) (m + 1) (3 : Int32).toNatClampNeg = gs g 3 := t3.s (k := 3) (by omega)
    rw [e73, e3, e106, show (2 : Int32) = nI 2 from rfl, nI_add, i_cl (106 + 3 * tb + 2) (by omega), show 106 + 3 * tb + 2 = 106 + (3 * tb + 2) by omega, e33]
    have t4 := t3.setK (3 * tb + 2) (gs g 3)
    refine ⟨v7, hvk _ (by omega), v7, hvk _ (by omega), v7, v3, hvk _ (by omega), fin _ _ ?_ t4 (fun i _ => ?_)⟩
    · exact ((Fr.setA _ _ _).trans (Fr.setA _ _ _)).trans (Fr.setA _ _ _)
    · show _ = (if 40 ≤ gs g 7 then gk g else upd (upd (upd (gk g) (3 * (gs g 7).toNatClampNeg) (nI n)) (3 * (gs g 7).toNatClampNeg + 1) (volS W H (gt g) (lbG W H g) (nI n))) (3 * (gs g 7).toNatClampNeg + 2) (gs g 3)) i
      rw [htb, if_neg z, i_cl tb (by omega)]
      rfl
theorem mo_takesAll {k tb : Nat} {g1 : GG} {Q : Int32 → MM → Prop} (F : ModAt Z m) (t : MoS M m g) (w : WH g W H) (ok : CtOk W H (gc g)) (hT : TkR W H k g g1) (hk : k ≤ 49) (htb : gs g 7 = nI tb) (htb2 : tb + k < 1000000) (hQ : ∀ M1, Fr [m + 1, m + 4, m + 5] [] M M1 → MoS M1 m g1 → Q (nI k) M1) : P_X6_takesAll Z M m Q := by
  have main : ∀ k j g M v tb, v ≠ -1 → MoS M m g → WH g W H → CtOk W H (gc g) → TkR W H k g g1 → gs g 7 = nI tb → tb + k < 1000000 → (∀ M1, Fr [m + 1, m + 4, m + 5] [] M M1 → MoS M1 m g1 → Q (nI (j + k)) M1) → L_X6_takesAll_4 Z Q (k + 2) M m (nI j) v := by
    intro k
    induction k with
    | zero =>
      intro j g M v tb hv t w ok hT htb htb2 hQ
      obtain ⟨rfl, hT⟩ := hT
      show B_X6_takesAll_4 Z Q (L_X6_takesAll_4 Z Q 1) M m (nI j) v
      unfold B_X6_takesAll_4
      refine ⟨fun z => absurd z hv, fun _ => ⟨F.1, mo_find F t w ok (fun M1 f1 B1 => ?_)⟩⟩
      refine mo_next (b := true) F (t.frame f1 (by simp)) w ok B1 (fun n M2 f2 hn => absurd ⟨hn.2.1.1, hn.2.1.2.mpr rfl⟩ (hT n hn.1)) (fun M2 f2 _ => ⟨fun _ => ?_, fun q => absurd rfl q⟩)
      show B_X6_takesAll_4 Z Q (L_X6_takesAll_4 Z Q 0) M2 m (nI j) (-1)
      unfold B_X6_takesAll_4
      exact ⟨fun _ => hQ M2 ((f1.mono (by simp) (by simp)).trans (f2.mono (by simp) (by simp))) ((t.frame f1 (by simp)).frame f2 (by simp)), fun q => absurd rfl q⟩
    | succ k ih =>
      intro j g M v tb hv t w ok hT htb htb2 hQ
      have h49 : W * H ≤ 49 := wh_lt w.2.2.2.1 w.2.2.2.2.2
      obtain ⟨n, n1, n2⟩ := hT
      show B_X6_takesAll_4 Z Q (L_X6_takesAll_4 Z Q (k + 2)) M m (nI j) v
      unfold B_X6_takesAll_4
      refine ⟨fun z => absurd z hv, fun _ => ⟨F.1, mo_find F t w ok (fun M1 f1 B1 => ?_)⟩⟩
      refine mo_next (b := true) F (t.frame f1 (by simp)) w ok B1 (fun n' M2 f2 hn => ?_) (fun M2 f2 hn => absurd ⟨n1.2.1.1, ⟨fun _ => rfl, fun _ => n1.2.1.2⟩⟩ (hn n n1.1))
      have hlow : lowP (flG W H g) (W * H) n' := ⟨hn.1, ⟨hn.2.1.1, hn.2.1.2.mpr rfl⟩, fun i hi q => hn.2.2 i hi ⟨q.1, ⟨fun _ => rfl, fun _ => q.2⟩⟩⟩
      have := low_uniq hlow n1
      subst this
      have hn49 : n' < 49 := by have := hn.1; omega
      refine ⟨fun q => absurd q (i_n1 n' (by omega)), fun _ => ?_⟩
      refine mo_takes F ((t.frame f1 (by simp)).frame f2 (by simp)) w (B1.frame f2 (by simp)) htb (by omega) (fun M3 f3 t3 => ?_)
      rw [nI_1]
      refine ih (j + 1) (takG W H g n') M3 (nI n') (tb + 1) (i_n1 n' (by omega)) t3 (w.tak _ _) ok n2 ?_ (by omega) (fun M4 f4 t4 => ?_)
      · show upd (upd (gs g) 7 (gs g 7 + 1)) 6 (gs g 6 + volS W H (gt g) (lbG W H g) (nI n')) 7 = nI (tb + 1)
        rw [upd_ne _ _ (by omega), upd_same, htb, nI_1]
      · rw [show j + 1 + k = j + (k + 1) by omega] at *
        exact hQ M4 (((f1.mono (by simp) (by simp)).trans (f2.mono (by simp) (by simp))).trans ((f3.mono (by simp) (by simp)).trans f4)) t4
  refine ⟨k + 2, ?_⟩
  have := main k 0 g M 0 tb (by decide) t w ok hT htb htb2 (fun M1 f1 t1 => by rw [Nat.zero_add]; exact hQ M1 f1 t1)
  exact this
end
