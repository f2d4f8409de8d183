/-! PURE: the model's days and bars -/
section
variable {Z : ZZ} {M : MM} {m : Nat} {g : GG} {W H : Nat} {sk : Nat → GG} {n len : Nat} {tx : Nat → Int32}
theorem mo_whole {v : Int32} {lb : Nat → Int32} {Q : Int32 → MM → Prop} (F : ModAt Z m) (t : MoS M m g) (w : WH g W H) (B : ∀ c, c < W * H → mA M (m + 4) c = lb c) (h0 : wtP W H lb v (gt g) → Q 0 M) (h1 : ¬ wtP W H lb v (gt g) → Q 1 M) : P_X6_isWhole Z M m v Q := by
  have z0 : zb (0 : Int32) := Or.inl rfl
  have z1 : zb (1 : Int32) := Or.inr rfl
  have h49 : W * H ≤ 49 := wh_lt w.2.2.2.1 w.2.2.2.2.2
  refine ⟨W * H + 1, ?_⟩
  refine for_up (W * H) (fun k i (r : Int32) => L_X6_isWhole_4 Z Q k M m v r (nI i)) (fun i r => (r = 1 ∧ ∀ j, j < i → lb j = v → ¬ gt g j ≤ 0) ∨ (r = 0 ∧ wtP W H lb v (gt g))) ?_ ?_ (W * H) 0 1 (by omega) (Or.inl ⟨rfl, fun j hj => by omega⟩)
  · intro k i r hi I kk
    have kk : ∀ r1, ((r1 = 1 ∧ ∀ j, j < i + 1 → lb j = v → ¬ gt g j ≤ 0) ∨ (r1 = 0 ∧ wtP W H lb v (gt g))) → L_X6_isWhole_4 Z Q k M m v r1 (nI i + 1) := fun r1 hr => by
      rw [nI_1]; exact kk r1 hr
    show B_X6_isWhole_4 Z Q (L_X6_isWhole_4 Z Q k) M m v r (nI i)
    unfold B_X6_isWhole_4 B_X6_isWhole_34 B_X6_isWhole_38 B_X6_isWhole_39
    refine ⟨F.1, (mo_cells F t w).mpr ⟨fun e => absurd e ?_, fun _ => ⟨fun z => ?_, fun z => ⟨m + 4, F.blk.1, F.blk.2.1, by rw [F.blk.2.2]; exact vpn (by omega) (by omega), ?_⟩⟩⟩⟩
    · rw [n_le (by omega) (by omega)]; omega
    · rcases I with ⟨e, _⟩ | ⟨_, I⟩
      · rw [e] at z; exact absurd z (by decide)
      · exact kk 0 (Or.inr ⟨rfl, I⟩)
    · have I : ∀ j, j < i → lb j = v → ¬ gt g j ≤ 0 := by
        rcases I with ⟨_, I⟩ | ⟨e, _⟩
        · exact I
        · exact absurd e z
      rw [i_cl i (by omega), B i hi]
      refine ⟨fun z2 => kk 1 (Or.inl ⟨rfl, fun j hj e => ?_⟩), fun z2 => (mo_isIce F t (by omega)).mpr ⟨fun z3 => kk 0 (Or.inr ⟨rfl, i, hi, z2, ?_⟩), fun z3 => kk 1 (Or.inl ⟨rfl, fun j hj e => ?_⟩)⟩⟩
      · by_cases q : j = i
        · subst q; exact absurd e z2
        · exact I j (by omega) e
      · rw [bI_0, Classical.not_not] at z3; exact z3
      · rw [bI_0, Classical.not_not] at z3
        by_cases q : j = i
        · subst q; exact z3
        · exact I j (by omega) e
  · intro k r I
    show B_X6_isWhole_4 Z Q (L_X6_isWhole_4 Z Q k) M m v r (nI (W * H))
    unfold B_X6_isWhole_4
    refine ⟨F.1, (mo_cells F t w).mpr ⟨fun _ => ?_, fun e => absurd (nI_le (Nat.le_refl _) (by omega)) e⟩⟩
    rcases I with ⟨rfl, I⟩ | ⟨rfl, I⟩
    · exact ⟨z1, h1 (fun ⟨c, c1, c2, c3⟩ => I c c1 c2 c3)⟩
    · exact ⟨z0, h0 I⟩
theorem o_dw {v : Int32} {Q : Int32 → MM → Prop} (F : ModAt Z m) (d : MdI M m g sk n tx len) (w : WH g W H) (ok : CtOk W H (gc g)) (h1 : ¬ isC W H v → ∀ r M1, FrO m M M1 → MdI M1 m g sk n tx len → mI M1 15 m = 1 → Q r M1)
    (hno : ∀ c, c < W * H → v = nI c → (∀ r, r < W * H → lbG W H g c = nI r → ¬ looG W H g r) → ∀ M1, FrO m M M1 → MdI M1 m g sk n tx len → mI M1 15 m = 0 → Q (-1) M1)
    (hy : ∀ c r, c < W * H → v = nI c → r < W * H → lbG W H g c = nI r → looG W H g r → (∀ M1 k, FrO m M M1 → MdI M1 m g sk n tx len → mI M1 15 m = 0 → 1 ≤ k → k ≤ 60 → wtP W H (lbG W H g) (nI r) (gt (dayN W H g k)) → (∀ j, 1 ≤ j → j < k → ¬ wtP W H (lbG W H g) (nI r) (gt (dayN W H g j))) → Q (nI k) M1) ∧ (∀ M1, FrO m M M1 → MdI M1 m g sk n tx len → mI M1 15 m = 0 → (∀ j, 1 ≤ j → j ≤ 60 → ¬ wtP W H (lbG W H g) (nI r) (gt (dayN W H g j))) → Q (-1) M1)) : P_X6_daysWhole Z M m v Q := by
  have hW : 0 < W := by have := w.2.2.1; omega
  have h49 : W * H ≤ 49 := wh_lt w.2.2.2.1 w.2.2.2.2.2
  unfold P_X6_daysWhole B_X6_daysWhole_0 B_X6_daysWhole_38
  refine ⟨F.1, mo_isCell F d.1 w (fun hc => ⟨fun _ => mo_find F d.1 w ok (fun M1 f1 B1 => ?_), fun q => absurd q (by decide)⟩) (fun hc => ⟨fun q => absurd rfl q, fun _ => o_thr F d (h1 hc)⟩)⟩
  obtain ⟨g1, d1⟩ := d.scF f1 (by simp)
  obtain ⟨c, c1, rfl⟩ := isC_ex hc
  have hv : vp_in (nI c) (zN Z (m + 4)) := by rw [F.blk.2.2]; exact vpn (by omega) (by omega)
  refine ⟨m + 4, F.blk.1, F.blk.2.1, hv, ?_⟩
  rw [i_cl c (by omega), B1 c c1]
  rcases lb_cases (g := g) hW h49 c with q | ⟨r, r1, r2, r3⟩
  · rw [q]
    refine ⟨fun _ => ⟨F.1, o_fine F d1 (fun M2 f2 d2 e2 => hno c c1 rfl (fun r hr e => ?_) M2 (g1.trans f2) d2 e2)⟩, fun z => absurd rfl z⟩
    rw [q] at e
    exact absurd e.symm (i_n1 r (by omega))
  · rw [r2]
    refine ⟨fun z2 => absurd z2 (i_n1 r (by omega)), fun _ => mo_held F d1.1 w ok B1 (fun hh => ⟨fun z => absurd z (by decide), fun _ => ⟨F.1, o_fine F d1 (fun M2 f2 d2 e2 => hno c c1 rfl (fun r' hr' e => ?_) M2 (g1.trans f2) d2 e2)⟩⟩) (fun hh => ⟨fun _ => mo_aside F (fun M2 f2 ha => ⟨61, ?_⟩), fun z => absurd rfl z⟩)⟩
    · rw [r2, n_eq (by omega) (by omega)] at e
      subst e
      exact fun q => q.2 hh
    · obtain ⟨g2, d2⟩ := d1.scF f2 (by simp)
      obtain ⟨y1, y2⟩ := hy c r c1 rfl r1 r2 ⟨r3, hh⟩
      have B2 : BlM M2 m W H g := BlM.frame (g := g) B1 f2 (by simp)
      have ha2 : ∀ k, k < 226 → mA M2 (m + 3) k = enc g k := fun k hk => by rw [ha k hk]; exact d1.1 k hk
      have nw0 : ¬ wtP W H (lbG W H g) (nI r) (gt g) := fun ⟨j, j1, j2, j3⟩ => by
        have := labS_none (W := W) (H := H) (th := gt g) (ct := gc g) (c := j) (fun q => q.2 j3)
        rw [show labS W H (gt g) (gc g) j = nI r from j2] at this
        exact i_n1 r (by omega) this
      refine for_up2 60 (fun k i M' s => L_X6_daysWhole_53 Z Q k M' m (nI r) (nI i) s) (fun i M' _ => FrO m M M' ∧ MdI M' m (dayN W H g i) sk n tx len ∧ BlM M' m W H g ∧ (∀ k, k < 226 → mA M' (m + 3) k = enc g k) ∧ ∀ j, j < i → ¬ wtP W H (lbG W H g) (nI r) (gt (dayN W H g j))) ?_ ?_ 60 0 M2 0 rfl ⟨g1.trans g2, d2, B2, ha2, fun j hj => by omega⟩
      · intro k i M' s hi ⟨fO, dd, BB, aa, I⟩ kk
        have kk : ∀ s1 t1, FrO m M s1 ∧ MdI s1 m (dayN W H g (i + 1)) sk n tx len ∧ BlM s1 m W H g ∧ (∀ k, k < 226 → mA s1 (m + 3) k = enc g k) ∧ (∀ j, j < i + 1 → ¬ wtP W H (lbG W H g) (nI r) (gt (dayN W H g j))) → L_X6_daysWhole_53 Z Q k s1 m (nI r) (nI i + 1) t1 := fun s1 t1 q => by rw [nI_1]; exact kk s1 t1 q
        show B_X6_daysWhole_53 Z Q (L_X6_daysWhole_53 Z Q k) M' m (nI r) (nI i) s
        unfold B_X6_daysWhole_53
        refine ⟨fun q => absurd q ?_, fun _ => ⟨F.1, mo_whole F dd.1 (w.dayN i) BB (fun z => ⟨fun _ => ?_, fun q => absurd rfl q⟩) (fun z => ⟨fun q => absurd q (by decide), fun _ => mo_day F dd.1 (w.dayN i) (fun M3 f3 t3 => ?_)⟩)⟩⟩
        · rw [show (60 : Int32) = nI 60 from rfl, n_le (by omega) (by omega)]; omega
        · unfold B_X6_daysWhole_82 B_X6_daysWhole_95 B_X6_daysWhole_112
          have hi0 : i ≠ 0 := fun e => by subst e; exact nw0 z
          refine ⟨F.1, mo_whole F dd.1 (w.dayN i) BB (fun _ => ⟨fun q => absurd rfl q, fun _ => ⟨F.1, mo_back (g := g) F aa (fun M4 f4 t4 => ⟨fun q => absurd q (by decide), fun _ => ⟨F.1, ?_⟩⟩)⟩⟩) (fun z2 => absurd z z2)⟩
          obtain ⟨g4, d4⟩ := dd.alF f4 t4 (by simp)
          exact o_fine F d4 (fun M5 f5 d5 e5 => y1 M5 i ((fO.trans g4).trans f5) d5 e5 (by omega) (by omega) z (fun j _ hj => I j hj))
        · obtain ⟨g3, d3⟩ := dd.alF f3 t3 (by simp)
          refine kk M3 _ ⟨fO.trans g3, d3, BlM.frame (g := g) BB f3 (by simp), fun k hk => by rw [f3.1 _ (by simp)]; exact aa k hk, fun j hj => ?_⟩
          by_cases e : j = i
          · subst e; exact z
          · exact I j (by omega)
      · intro k M' s ⟨fO, dd, BB, aa, I⟩
        show B_X6_daysWhole_53 Z Q (L_X6_daysWhole_53 Z Q k) M' m (nI r) (nI 60) s
        unfold B_X6_daysWhole_53 B_X6_daysWhole_82 B_X6_daysWhole_95 B_X6_daysWhole_112
        refine ⟨fun _ => ⟨F.1, mo_whole F dd.1 (w.dayN 60) BB (fun z => ⟨fun q => absurd rfl q, fun _ => ⟨F.1, mo_back (g := g) F aa (fun M4 f4 t4 => ⟨fun q => absurd q (by decide), fun _ => ⟨F.1, ?_⟩⟩)⟩⟩) (fun z => ⟨fun _ => ⟨F.1, mo_back (g := g) F aa (fun M4 f4 t4 => ⟨fun _ => ⟨F.1, ?_⟩, fun q => absurd rfl q⟩)⟩, fun q => absurd q (by decide)⟩)⟩, fun q => absurd (by decide) q⟩
        · obtain ⟨g4, d4⟩ := dd.alF f4 t4 (by simp)
          exact o_fine F d4 (fun M5 f5 d5 e5 => y1 M5 60 ((fO.trans g4).trans f5) d5 e5 (by omega) (by omega) z (fun j _ hj => I j hj))
        · obtain ⟨g4, d4⟩ := dd.alF f4 t4 (by simp)
          refine o_fine F d4 (fun M5 f5 d5 e5 => y2 M5 ((fO.trans g4).trans f5) d5 e5 (fun j _ hj => ?_))
          by_cases e : j = 60
          · subst e; exact z
          · exact I j (by omega)
theorem o_dtw {Q : Int32 → MM → Prop} (F : ModAt Z m) (d : MdI M m g sk n tx len) (w : WH g W H) (hy : ∀ M1 k, FrO m M M1 → MdI M1 m g sk n tx len → mI M1 15 m = 0 → k ≤ 60 → cnI (gt (dayN W H g k)) (W * H) = 0 → (∀ j, j < k → cnI (gt (dayN W H g j)) (W * H) ≠ 0) → Q (nI k) M1) (hno : ∀ M1, FrO m M M1 → MdI M1 m g sk n tx len → mI M1 15 m = 0 → (∀ j, j ≤ 60 → cnI (gt (dayN W H g j)) (W * H) ≠ 0) → Q (-1) M1) : P_X6_daysToWater Z M m Q := by
  have h49 : W * H ≤ 49 := wh_lt w.2.2.2.1 w.2.2.2.2.2
  unfold P_X6_daysToWater B_X6_daysToWater_0
  refine ⟨F.1, mo_aside F (fun M2 f2 ha => ⟨61, ?_⟩)⟩
  obtain ⟨g2, d2⟩ := d.scF f2 (by simp)
  have ha2 : ∀ k, k < 226 → mA M2 (m + 3) k = enc g k := fun k hk => by rw [ha k hk]; exact d.1 k hk
  refine for_up2 60 (fun k i M' s => L_X6_daysToWater_8 Z Q k M' m (nI i) s) (fun i M' _ => FrO m M M' ∧ MdI M' m (dayN W H g i) sk n tx len ∧ (∀ k, k < 226 → mA M' (m + 3) k = enc g k) ∧ ∀ j, j < i → cnI (gt (dayN W H g j)) (W * H) ≠ 0) ?_ ?_ 60 0 M2 0 rfl ⟨g2, d2, ha2, fun j hj => by omega⟩
  · intro k i M' s hi ⟨fO, dd, aa, I⟩ kk
    have kk : ∀ s1 t1, FrO m M s1 ∧ MdI s1 m (dayN W H g (i + 1)) sk n tx len ∧ (∀ k, k < 226 → mA s1 (m + 3) k = enc g k) ∧ (∀ j, j < i + 1 → cnI (gt (dayN W H g j)) (W * H) ≠ 0) → L_X6_daysToWater_8 Z Q k s1 m (nI i + 1) t1 := fun s1 t1 q => by rw [nI_1]; exact kk s1 t1 q
    have hle := cnI_le (gt (dayN W H g i)) (W * H)
    show B_X6_daysToWater_8 Z Q (L_X6_daysToWater_8 Z Q k) M' m (nI i) s
    unfold B_X6_daysToWater_8
    refine ⟨fun q => absurd q ?_, fun _ => ⟨F.1, mo_sumG F dd.1 (w.dayN i) (Or.inr (Or.inl ⟨rfl, fun c _ => rfl⟩)) ?_⟩⟩
    · rw [show (60 : Int32) = nI 60 from rfl, n_le (by omega) (by omega)]; omega
    rw [cnI_sm, show (0 : Int32) = nI 0 from rfl, n_le (by omega) (by omega)]
    refine ⟨fun z => ?_, fun z => mo_day F dd.1 (w.dayN i) (fun M3 f3 t3 => ?_)⟩
    · unfold B_X6_daysToWater_35 B_X6_daysToWater_48 B_X6_daysToWater_63
      refine ⟨F.1, mo_sumG F dd.1 (w.dayN i) (Or.inr (Or.inl ⟨rfl, fun c _ => rfl⟩)) ?_⟩
      rw [cnI_sm, show (0 : Int32) = nI 0 from rfl, n_eq (by omega) (by omega)]
      refine ⟨fun q => absurd (by omega) q, fun _ => ⟨F.1, mo_back (g := g) F aa (fun M4 f4 t4 => ⟨fun q => absurd q (by decide), fun _ => ⟨F.1, ?_⟩⟩)⟩⟩
      obtain ⟨g4, d4⟩ := dd.alF f4 t4 (by simp)
      exact o_fine F d4 (fun M5 f5 d5 e5 => hy M5 i ((fO.trans g4).trans f5) d5 e5 (by omega) (by omega) I)
    · obtain ⟨g3, d3⟩ := dd.alF f3 t3 (by simp)
      refine kk M3 _ ⟨fO.trans g3, d3, fun k hk => by rw [f3.1 _ (by simp)]; exact aa k hk, fun j hj => ?_⟩
      by_cases e : j = i
      · subst e; omega
      · exact I j (by omega)
  · intro k M' s ⟨fO, dd, aa, I⟩
    have hle := cnI_le (gt (dayN W H g 60)) (W * H)
    show B_X6_daysToWater_8 Z Q (L_X6_daysToWater_8 Z Q k) M' m (nI 60) s
    unfold B_X6_daysToWater_8 B_X6_daysToWater_35 B_X6_daysToWater_48 B_X6_daysToWater_63
    refine ⟨fun _ => ⟨F.1, mo_sumG F dd.1 (w.dayN 60) (Or.inr (Or.inl ⟨rfl, fun c _ => rfl⟩)) ?_⟩, fun q => absurd (by decide) q⟩
    rw [cnI_sm, show (0 : Int32) = nI 0 from rfl, n_eq (by omega) (by omega)]
    refine ⟨fun z => ⟨F.1, mo_back (g := g) F aa (fun M4 f4 t4 => ⟨fun _ => ⟨F.1, ?_⟩, fun q => absurd rfl q⟩)⟩, fun z => ⟨F.1, mo_back (g := g) F aa (fun M4 f4 t4 => ⟨fun q => absurd q (by decide), fun _ => ⟨F.1, ?_⟩⟩)⟩⟩
    · obtain ⟨g4, d4⟩ := dd.alF f4 t4 (by simp)
      refine o_fine F d4 (fun M5 f5 d5 e5 => hno M5 ((fO.trans g4).trans f5) d5 e5 (fun j hj => ?_))
      by_cases e : j = 60
      · subst e; omega
      · exact I j (by omega)
    · obtain ⟨g4, d4⟩ := dd.alF f4 t4 (by simp)
      exact o_fine F d4 (fun M5 f5 d5 e5 => hy M5 60 ((fO.trans g4).trans f5) d5 e5 (by omega) z I)
theorem nx_st {k : Nat} : nxP W H g false k ↔ stG W H g k := by
  unfold nxP stG
  refine ⟨fun q => ⟨q.1, Classical.byContradiction (fun z => absurd (q.2.1 z) (by decide))⟩, fun q => ⟨q.1, fun z => absurd q.2 z, fun z => absurd z (by decide)⟩⟩
theorem o_bar {Q : Int32 → MM → Prop} (F : ModAt Z m) (d : MdI M m g sk n tx len) (w : WH g W H) (ok : CtOk W H (gc g)) (h0 : (∀ r, r < W * H → ¬ stG W H g r) → ∀ M1, FrO m M M1 → MdI M1 m g sk n tx len → mI M1 15 m = 0 → Q (-1) M1)
    (h1 : ∀ r, lowP (stG W H g) (W * H) r → (∀ d M1, lowP (baP W H g r) (W * H) d → FrO m M M1 → MdI M1 m g sk n tx len → mI M1 15 m = 0 → Q (nI d) M1) ∧ ((∀ d, d < W * H → ¬ baP W H g r d) → ∀ M1, FrO m M M1 → MdI M1 m g sk n tx len → mI M1 15 m = 0 → Q (-1) M1)) : P_X6_barredBy Z M m Q := by
  have h49 : W * H ≤ 49 := wh_lt w.2.2.2.1 w.2.2.2.2.2
  have h4 : 4 ≤ W * H := Nat.mul_le_mul w.2.2.1 w.2.2.2.2.1
  unfold P_X6_barredBy B_X6_barredBy_0
  refine ⟨F.1, mo_find F d.1 w ok (fun M1 f1 B1 => ?_)⟩
  obtain ⟨g1, d1⟩ := d.scF f1 (by simp)
  refine mo_next (b := false) F d1.1 w ok B1 (fun r M2 f2 hr => ⟨W * H + 1, ?_⟩) (fun M2 f2 hno => ⟨1, ?_⟩)
  · obtain ⟨g2, d2⟩ := d1.scF f2 (by simp)
    have hr : lowP (stG W H g) (W * H) r := ⟨hr.1, nx_st.1 hr.2.1, fun j hj q => hr.2.2 j hj (nx_st.2 q)⟩
    obtain ⟨y1, y2⟩ := h1 r hr
    have hr1 := hr.1
    have hrr : lbG W H g r = nI r := hr.2.1.1.1
    refine for_up2 (W * H) (fun k i M' s => L_X6_barredBy_15 Z Q k M' m (nI r) s (nI i)) (fun i M' s => FrO m M M' ∧ MdI M' m g sk n tx len ∧ BlM M' m W H g ∧ ((s = -1 ∧ ∀ j, j < i → ¬ baP W H g r j) ∨ ∃ d, s = nI d ∧ lowP (baP W H g r) (W * H) d)) ?_ ?_ (W * H) 0 M2 (-1) (by omega) ⟨g1.trans g2, d2, B1.frame f2 (by simp), Or.inl ⟨rfl, fun j hj => by omega⟩⟩
    · intro k i M' s hi ⟨fO, dd, BB, I⟩ kk
      have kk : ∀ s1 t1, FrO m M s1 → MdI s1 m g sk n tx len → BlM s1 m W H g → ((t1 = -1 ∧ ∀ j, j < i + 1 → ¬ baP W H g r j) ∨ ∃ d, t1 = nI d ∧ lowP (baP W H g r) (W * H) d) → L_X6_barredBy_15 Z Q k s1 m (nI r) t1 (nI i + 1) := fun s1 t1 q1 q2 q3 q4 => by rw [nI_1]; exact kk s1 t1 ⟨q1, q2, q3, q4⟩
      show B_X6_barredBy_15 Z Q (L_X6_barredBy_15 Z Q k) M' m (nI r) s (nI i)
      unfold B_X6_barredBy_15 B_X6_barredBy_101
      refine ⟨F.1, (mo_cells F dd.1 w).mpr ⟨fun e => absurd e ?_, fun _ => ⟨fun e => absurd e (i_n1 r (by omega)), fun _ => ⟨fun z => ⟨F.1, ?_⟩, fun z => ?_⟩⟩⟩⟩
      · rw [n_le (by omega) (by omega)]; omega
      · rcases I with ⟨e, _⟩ | ⟨c, rfl, hc⟩
        · exact absurd e z
        · exact o_fine F dd (fun M3 f3 d3 e3 => y1 c M3 hc (fO.trans f3) d3 e3)
      · have I2 : ∀ j, j < i → ¬ baP W H g r j := by
          rcases I with ⟨_, I⟩ | ⟨c, e, hc⟩
          · exact I
          · rw [e] at z; exact absurd z (i_n1 c (by have := hc.1; omega))
        have hv : vp_in (8 + nI i) (zN Z (m + 1)) := by rw [e8, F.all.2.2]; exact vpn (by omega) (by omega)
        have skip : ¬ baP W H g r i → ∀ j, j < i + 1 → ¬ baP W H g r j := fun q j hj => by
          by_cases e : j = i
          · subst e; exact q
          · exact I2 j (by omega)
        unfold B_X6_barredBy_95
        refine ⟨m + 1, F.all.1, F.all.2.1, hv, ?_⟩
        rw [e8, i_cl (8 + i) (by omega), dd.1.th (by omega)]
        subst z
        refine ⟨fun z2 => kk M' (-1) fO dd BB (Or.inl ⟨rfl, skip (fun q => q.1 z2)⟩), fun z2 => ⟨m + 4, F.blk.1, F.blk.2.1, by rw [F.blk.2.2]; exact vpn (by omega) (by omega), ?_⟩⟩
        rw [i_cl i (by omega), BB i hi]
        refine ⟨fun z3 => kk M' (-1) fO dd BB (Or.inl ⟨rfl, skip (fun q => q.2.1 z3)⟩), fun z3 => ⟨by rw [← e8]; exact hv, ?_⟩⟩
        have t3 := dd.1.setT i 0 (by omega)
        have w3 : WH (mk (gs g) (upd (gt g) i 0) (gc g) (gk g)) W H := w.mk rfl rfl
        refine mo_way (lb := lbG W H g) F t3 w3 ok (BB.frame (Fr.setA M' (m + 1) _) (by simp)) hr1 hrr (fun hh => absurd hh hr.2.1.1.2) (fun _ M4 f4 _ => ?_)
        have f34 : Fr [m + 1, m + 5] [] M' M4 := ((Fr.setA M' (m + 1) (upd (mA M' (m + 1)) (8 + i) 0)).mono (by simp) (by simp)).trans (f4.mono (by simp) (by simp))
        have t4 := t3.frame f4 (by simp)
        have fin : ∀ x, ((x = -1 ∧ ∀ j, j < i + 1 → ¬ baP W H g r j) ∨ ∃ d, x = nI d ∧ lowP (baP W H g r) (W * H) d) → B_X6_barredBy_83 Z Q (fun M1 a0 v1 v2 v3 => L_X6_barredBy_15 Z Q k M1 a0 v1 v2 (v3 + 1)) M4 m (nI r) (nI i) (gt g i) x := fun x hx => by
          unfold B_X6_barredBy_83
          refine ⟨F.1, m + 1, F.all.1, F.all.2.1, hv, ?_⟩
          rw [e8, i_cl (8 + i) (by omega)]
          have f5 : Fr [m + 1, m + 5] [] M' (setA M4 (m + 1) (upd (mA M4 (m + 1)) (8 + i) (gt g i))) := f34.trans ((Fr.setA M4 (m + 1) (upd (mA M4 (m + 1)) (8 + i) (gt g i))).mono (by simp) (by simp))
          have t5 : MoS (setA M4 (m + 1) (upd (mA M4 (m + 1)) (8 + i) (gt g i))) m g := (t4.setT i (gt g i) (by omega)).cong (fun _ _ => rfl) (fun j _ => by
            rw [gt_mk, gt_mk, upd_at, upd_at]
            by_cases e : j = i
            · rw [if_pos e, e]
            · rw [if_neg e, if_neg e]) rfl (fun _ _ => rfl)
          obtain ⟨g5, d5⟩ := dd.alF f5 t5 (by simp)
          exact kk _ x (fO.trans g5) d5 (BB.frame f5 (by simp)) hx
        refine ⟨fun z4 => fin (nI i) (Or.inr ⟨i, rfl, hi, ⟨z2, z3, z4⟩, I2⟩), fun z4 => fin (-1) (Or.inl ⟨rfl, skip (fun q => q.2.2 z4)⟩)⟩
    · intro k M' s ⟨fO, dd, BB, I⟩
      show B_X6_barredBy_15 Z Q (L_X6_barredBy_15 Z Q k) M' m (nI r) s (nI (W * H))
      unfold B_X6_barredBy_15 B_X6_barredBy_101
      refine ⟨F.1, (mo_cells F dd.1 w).mpr ⟨fun _ => ⟨F.1, ?_⟩, fun e => absurd (nI_le (Nat.le_refl _) (by omega)) e⟩⟩
      rcases I with ⟨rfl, I⟩ | ⟨c, rfl, hc⟩
      · exact o_fine F dd (fun M3 f3 d3 e3 => y2 I M3 (fO.trans f3) d3 e3)
      · exact o_fine F dd (fun M3 f3 d3 e3 => y1 c M3 hc (fO.trans f3) d3 e3)
  · obtain ⟨g2, d2⟩ := d1.scF f2 (by simp)
    show B_X6_barredBy_15 Z Q (L_X6_barredBy_15 Z Q 0) M2 m (-1) (-1) 0
    unfold B_X6_barredBy_15 B_X6_barredBy_101
    have hq := o_fine (v := -1) (Q := Q) F d2 (fun M3 f3 d3 e3 => h0 (fun r hr q => hno r hr (nx_st.2 q)) M3 ((g1.trans g2).trans f3) d3 e3)
    refine ⟨F.1, (mo_cells F d2.1 w).mpr ⟨fun _ => ⟨F.1, hq⟩, fun _ => ⟨fun _ => ⟨F.1, hq⟩, fun e => absurd rfl e⟩⟩⟩
end
