/-! PURE: the model's calls, more -/
section
variable {Z : ZZ} {M : MM} {m : Nat} {g : GG} {W H : Nat} {sk : Nat → GG} {n len : Nat} {tx : Nat → Int32}
theorem o_to {v : Int32} {tb : Nat} {Q : Int32 → MM → Prop} (F : ModAt Z m) (d : MdI M m g sk n tx len) (w : WH g W H) (ok : CtOk W H (gc g)) (htb : gs g 7 = nI tb) (htb2 : tb < 1000000) (h1 : ¬ isC W H v → ∀ r M1, FrO m M M1 → MdI M1 m g sk n tx len → mI M1 15 m = 1 → Q r M1)
    (h2 : ∀ c, c < W * H → v = nI c → (∀ r, r < W * H → lbG W H g c = nI r → ¬ flG W H g r) → ∀ r M1, FrO m M M1 → MdI M1 m g sk n tx len → mI M1 15 m = 2 → Q r M1)
    (hQ : ∀ c r, c < W * H → v = nI c → r < W * H → lbG W H g c = nI r → flG W H g r → ∀ M1, FrO m M M1 → MdI M1 m (takG W H g r) (pushS sk n g) (pc n) tx len → mI M1 15 m = 0 → Q (volS W H (gt g) (lbG W H g) (nI r)) M1) : P_X6_takeOut Z M m v Q := by
  have hW : 0 < W := by have := w.2.2.1; omega
  have h49 : W * H ≤ 49 := wh_lt w.2.2.2.1 w.2.2.2.2.2
  unfold P_X6_takeOut B_X6_takeOut_0 B_X6_takeOut_39
  refine ⟨F.1, mo_isCell F d.1 w (fun hc => ⟨fun _ => mo_find F d.1 w ok (fun M1 f1 B1 => ?_), fun q => absurd q (by decide)⟩) (fun hc => ⟨fun q => absurd rfl q, fun _ => o_thr F d (h1 hc)⟩)⟩
  obtain ⟨g1, d1⟩ := d.scF f1 (by simp)
  obtain ⟨c, c1, rfl⟩ := isC_ex hc
  have hv : vp_in (nI c) (zN Z (m + 4)) := by rw [F.blk.2.2]; exact vpn (by omega) (by omega)
  refine ⟨m + 4, F.blk.1, F.blk.2.1, hv, ?_⟩
  rw [i_cl c (by omega), B1 c c1]
  rcases lb_cases (g := g) hW h49 c with q | ⟨r, r1, r2, r3⟩
  · rw [q]
    refine ⟨fun _ => ⟨F.1, o_thr F d1 (fun r M2 f2 d2 e2 => h2 c c1 rfl (fun r hr e => ?_) r M2 (g1.trans f2) d2 e2)⟩, fun z => absurd rfl z⟩
    rw [q] at e
    exact absurd e.symm (i_n1 r (by omega))
  · rw [r2]
    have huniq : ∀ r', lbG W H g c = nI r' → r' < W * H → r' = r := fun r' e hr' => by
      rw [r2, n_eq (by omega) (by omega)] at e; exact e.symm
    refine ⟨fun z => absurd z (i_n1 r (by omega)), fun _ => mo_way F d1.1 w ok B1 r1 r3 (fun hh => ⟨fun z => absurd rfl z, fun _ => ⟨F.1, o_thr F d1 (fun x M2 f2 d2 e2 => h2 c c1 rfl (fun r' hr' e => ?_) x M2 (g1.trans f2) d2 e2)⟩⟩) (fun hh M2 f2 _ => ?_)⟩
    · have := huniq r' e hr'
      subst this
      exact fun q => q.1.2 hh
    · obtain ⟨g2, d2⟩ := d1.scF f2 (by simp)
      have B2 := B1.frame f2 (by simp)
      refine ⟨fun z => ?_, fun z => ⟨F.1, o_thr F d2 (fun x M3 f3 d3 e3 => h2 c c1 rfl (fun r' hr' e => ?_) x M3 ((g1.trans g2).trans f3) d3 e3)⟩⟩
      · unfold P_X6_save B_X6_save_0
        refine mo_save F d2.1 d2.2.1 (fun M3 f3 s3 => ?_)
        have d3 : MdI M3 m g (pushS sk n g) (pc n) tx len := ⟨d2.1.frM f3 (by simp), s3, by rw [f3.1 _ (by simp)]; exact d2.2.2.1, by rw [f3.2.1 _ _ (Or.inr (by simp))]; exact d2.2.2.2⟩
        have g3 : FrO m M2 M3 := f3.toO (by simp)
        have B3 : BlM M3 m W H g := B2.frM f3 (by simp)
        refine mo_vol F d3.1 w B3 (mo_takes F d3.1 w B3 htb htb2 (fun M4 f4 t4 => ?_))
        obtain ⟨g4, d4⟩ := d3.alF f4 t4 (by simp)
        exact o_fine F d4 (fun M5 f5 d5 e5 => hQ c r c1 rfl r1 r2 ⟨⟨r3, hh⟩, z⟩ M5 ((((g1.trans g2).trans g3).trans g4).trans f5) d5 e5)
      · have := huniq r' e hr'
        subst this
        exact fun q => q.2 z
theorem o_ta {k tb : Nat} {g1 : GG} {Q : Int32 → MM → Prop} (F : ModAt Z m) (d : MdI M m g sk n tx len) (w : WH g W H) (ok : CtOk W H (gc g)) (hT : TkR W H k g g1) (hk : k ≤ 49) (htb : gs g 7 = nI tb) (hb : tb + k < 1000000) (hQ : ∀ M1, FrO m M M1 → MdI M1 m g1 (pushS sk n g) (pc n) tx len → Q (nI k) M1) : P_X6_takeAll Z M m Q := by
  unfold P_X6_takeAll B_X6_takeAll_0
  refine ⟨F.1, mo_save2 F d (fun M1 f1 d1 => mo_takesAll F d1.1 w ok hT hk htb hb (fun M2 f2 t2 => ?_))⟩
  obtain ⟨g2, d2⟩ := d1.alF f2 t2 (by simp)
  exact o_fine F d2 (fun M3 f3 d3 _ => hQ M3 ((f1.trans g2).trans f3) d3)
theorem o_tk {k tb : Nat} {g1 : GG} {Q : Int32 → MM → Prop} (F : ModAt Z m) (d : MdI M m g sk n tx len) (w : WH g W H) (ok : CtOk W H (gc g)) (hT : TkR W H k g g1) (hk : k ≤ 49) (htb : gs g 7 = nI tb) (hb : tb + k < 1000000) (hQ : ∀ M1, FrO m M M1 → MdI M1 m g sk n tx len → Q (nI k) M1) : P_X6_takableNow Z M m Q := by
  unfold P_X6_takableNow B_X6_takableNow_0
  refine ⟨F.1, mo_aside F (fun M1 f1 ha => ?_)⟩
  obtain ⟨g1', d1⟩ := d.scF f1 (by simp)
  refine mo_takesAll F d1.1 w ok hT hk htb hb (fun M2 f2 t2 => mo_back (g := g) F (fun j hj => ?_) (fun M3 f3 t3 => ?_))
  · rw [f2.1 _ (by simp), ha j hj]; exact d.1 j hj
  · obtain ⟨g3, d3⟩ := d1.alF (rs := [m + 1, m + 4, m + 5]) (f2.trans (f3.mono (by simp) (by simp))) t3 (by simp)
    exact hQ M3 (g1'.trans g3) d3
theorem o_takable {k tb : Nat} {g1 : GG} {Q : Int32 → MM → Prop} (F : ModAt Z m) (d : MdI M m g sk n tx len) (w : WH g W H) (ok : CtOk W H (gc g)) (hT : TkR W H k g g1) (hk : k ≤ 49) (htb : gs g 7 = nI tb) (hb : tb + k < 1000000) (hQ : ∀ M1, FrO m M M1 → MdI M1 m g sk n tx len → Q (nI k) M1) : P_X6_takable Z M m Q := by
  unfold P_X6_takable B_X6_takable_0
  exact ⟨F.1, o_tk F d w ok hT hk htb hb (fun M1 f1 d1 => o_fine F d1 (fun M2 f2 d2 _ => hQ M2 (f1.trans f2) d2))⟩
theorem Tk_ok {W H : Nat} : ∀ k g g1, TkR W H k g g1 → gc g1 = gc g := by
  intro k
  induction k with
  | zero => intro g g1 h; rw [h.1]
  | succ k ih =>
    intro g g1 ⟨n, n1, n2⟩
    exact (ih _ _ n2).trans rfl
theorem Tk_wh {W H : Nat} : ∀ k g g1, TkR W H k g g1 → WH g W H → WH g1 W H := by
  intro k
  induction k with
  | zero => intro g g1 h w; rw [h.1]; exact w
  | succ k ih =>
    intro g g1 ⟨n, n1, n2⟩ w
    exact ih _ _ n2 (w.tak _ _)
theorem o_left {k tb : Nat} {g1 : GG} {Q : Int32 → MM → Prop} (F : ModAt Z m) (d : MdI M m g sk n tx len) (w : WH g W H) (ok : CtOk W H (gc g)) (hT : TkR W H k g g1) (hk : k ≤ 49) (htb : gs g 7 = nI tb) (hb : tb + k < 1000000) (hQ : ∀ M1, FrO m M M1 → MdI M1 m g sk n tx len → Q (nI (cnP (looG W H g1) 49)) M1) : P_X6_leftStranded Z M m Q := by
  have h49 : W * H ≤ 49 := wh_lt w.2.2.2.1 w.2.2.2.2.2
  unfold P_X6_leftStranded B_X6_leftStranded_0
  refine ⟨F.1, mo_aside F (fun M1 f1 ha => ?_)⟩
  obtain ⟨g1', d1⟩ := d.scF f1 (by simp)
  refine mo_takesAll F d1.1 w ok hT hk htb hb (fun M2 f2 t2 => ?_)
  have w2 := Tk_wh k g g1 hT w
  have ok2 : CtOk W H (gc g1) := by rw [Tk_ok k g g1 hT]; exact ok
  refine mo_blocks (k := 1) F t2 w2 ok2 (by omega) (fun M3 f3 => mo_back (g := g) F (fun j hj => ?_) (fun M4 f4 t4 => ?_))
  · rw [f3.1 _ (by simp), f2.1 _ (by simp), ha j hj]; exact d.1 j hj
  · obtain ⟨g3, d3⟩ := d1.alF (rs := [m + 1, m + 4, m + 5]) (f2.trans ((f3.mono (by simp) (by simp)).trans (f4.mono (by simp) (by simp)))) t4 (by simp)
    have e : cnP (bkP W H g1 1) (W * H) = cnP (looG W H g1) 49 := by
      rw [cnP_zero (P := looG W H g1) h49 (fun i h1 h2 q => by
        have := q.1
        rw [lbG_out (by omega)] at this; exact i_n1 i (by omega) this.symm)]
      exact cnP_ext (fun i _ => ⟨fun q => ⟨q.1, q.2.1.resolve_left (by omega)⟩, fun q => ⟨q.1, Or.inr q.2, Or.inl (by omega)⟩⟩)
    rw [e]
    exact o_fine F d3 (fun M5 f5 d5 _ => hQ M5 ((g1'.trans g3).trans f5) d5)
theorem o_sm {u : Int32} {Q : Int32 → MM → Prop} (F : ModAt Z m) (d : MdI M m g sk n tx len) (h1 : ¬ (0 ≤ u.toInt ∧ u.toInt ≤ 9) → ∀ r M1, FrO m M M1 → MdI M1 m g sk n tx len → mI M1 15 m = 1 → Q r M1)
    (hQ : (0 ≤ u.toInt ∧ u.toInt ≤ 9) → ∀ M1, FrO m M M1 → MdI M1 m (mk (upd (gs g) 2 u) (gt g) (gc g) (gk g)) (pushS sk n g) (pc n) tx len → mI M1 15 m = 0 → Q (gs g 2) M1) : P_X6_setMelt Z M m u Q := by
  have e0 : (0 : Int64).toInt = 0 := by decide
  have e9 : (9 : Int64).toInt = 9 := by decide
  have v2 : vp_in 2 (zN Z (m + 1)) := by rw [F.all.2.2]; exact vp0.2.2.1
  unfold P_X6_setMelt B_X6_setMelt_0
  refine mo_in.mpr ⟨fun z => ⟨F.1, mo_save2 F d (fun M1 f1 d1 => ⟨m + 1, F.all.1, F.all.2.1, v2, v2, ?_⟩)⟩, fun z => ⟨F.1, ?_⟩⟩
  · rw [bI_0, Classical.not_not, e0, e9] at z
    have e2 : mA M1 (m + 1) (2 : Int32).toNatClampNeg = gs g 2 := d1.1.s (k := 2) (by omega)
    rw [e2]
    obtain ⟨g2, d2⟩ := d1.alF (Fr.setA M1 (m + 1) (upd (mA M1 (m + 1)) (2 : Int32).toNatClampNeg u)) (d1.1.setS (k := 2) u (by omega) (by omega)) (by simp)
    exact o_fine F d2 (fun M3 f3 d3 h3 => hQ z M3 ((f1.trans g2).trans f3) d3 h3)
  · rw [bI_0, e0, e9] at z
    exact o_thr F d (h1 z)
theorem o_pass {u : Int32} {Q : Int32 → MM → Prop} (F : ModAt Z m) (d : MdI M m g sk n tx len) (w : WH g W H) (h1 : ¬ (1 ≤ u.toInt ∧ u.toInt ≤ 50) → ∀ r M1, FrO m M M1 → MdI M1 m g sk n tx len → mI M1 15 m = 1 → Q r M1)
    (hQ : ∀ k, 1 ≤ k → k ≤ 50 → u = nI k → ∀ M1, FrO m M M1 → MdI M1 m (dayN W H g k) (pushS sk n g) (pc n) tx len → mI M1 15 m = 0 → Q (dsum W H g k) M1) : P_X6_pass Z M m u Q := by
  have e1 : (1 : Int64).toInt = 1 := by decide
  have e50 : (50 : Int64).toInt = 50 := by decide
  unfold P_X6_pass B_X6_pass_0
  refine mo_in.mpr ⟨fun z => ?_, fun z => ⟨F.1, ?_⟩⟩
  · rw [bI_0, Classical.not_not, e1, e50] at z
    obtain ⟨k, k1, rfl⟩ := small_ex (n := 50) (by omega) z.2 (by omega)
    rw [i_toInt k (by omega)] at z
    refine ⟨F.1, mo_save2 F d (fun M1 f1 d1 => ⟨k + 1, ?_⟩)⟩
    refine for_up k (fun r i M' => L_X6_pass_26 Z Q r M' m (nI k) (dsum W H g i) (nI i)) (fun i M' => FrO m M M' ∧ MdI M' m (dayN W H g i) (pushS sk n g) (pc n) tx len) ?_ ?_ k 0 M1 (by omega) ⟨f1, d1⟩
    · intro r i M' hi ⟨fO, dd⟩ kk
      show B_X6_pass_26 Z Q (L_X6_pass_26 Z Q r) M' m (nI k) (dsum W H g i) (nI i)
      unfold B_X6_pass_26
      refine ⟨fun q => absurd q ?_, fun _ => ⟨F.1, mo_day F dd.1 (w.dayN i) (fun M2 f2 t2 => ?_)⟩⟩
      · rw [n_le (by omega) (by omega)]; omega
      obtain ⟨g2, d2⟩ := dd.alF f2 t2 (by simp)
      rw [nI_1]
      exact kk M2 ⟨fO.trans g2, d2⟩
    · intro r M' ⟨fO, dd⟩
      show B_X6_pass_26 Z Q (L_X6_pass_26 Z Q r) M' m (nI k) (dsum W H g k) (nI k)
      unfold B_X6_pass_26
      exact ⟨fun _ => ⟨F.1, o_fine F dd (fun M3 f3 d3 h3 => hQ k (by omega) k1 rfl M3 (fO.trans f3) d3 h3)⟩, fun q => absurd (nI_le (Nat.le_refl _) (by omega)) q⟩
  · rw [bI_0, e1, e50] at z
    exact o_thr F d (h1 z)
theorem o_cell {v u : Int32} {Q : Int32 → MM → Prop} (F : ModAt Z m) (d : MdI M m g sk n tx len) (w : WH g W H) (ok : CtOk W H (gc g)) (h1 : ¬ isC W H v → ∀ r M1, FrO m M M1 → MdI M1 m g sk n tx len → mI M1 15 m = 1 → Q r M1) (h2 : isC W H v → ¬ (0 ≤ u.toInt ∧ u.toInt ≤ 6) → ∀ r M1, FrO m M M1 → MdI M1 m g sk n tx len → mI M1 15 m = 2 → Q r M1)
    (hQ : ∀ c k, c < W * H → v = nI c → k < 7 → u = nI k → ∀ M1, FrO m M M1 → MdI M1 m g sk n tx len → mI M1 15 m = 0 → Q (cfS W H g c k) M1) : P_X6_cell Z M m v u Q := by
  have e0 : (0 : Int64).toInt = 0 := by decide
  have e6 : (6 : Int64).toInt = 6 := by decide
  unfold P_X6_cell B_X6_cell_0
  refine ⟨F.1, mo_isCell F d.1 w (fun hc => ⟨fun _ => mo_in.mpr ⟨fun z => ?_, fun z => ?_⟩, fun q => absurd q (by decide)⟩) (fun hc => ⟨fun q => absurd rfl q, fun _ => o_thr F d (h1 hc)⟩)⟩
  · rw [bI_0, Classical.not_not, e0, e6] at z
    obtain ⟨c, c1, rfl⟩ := isC_ex hc
    obtain ⟨k, k1, rfl⟩ := small_ex (n := 6) z.1 z.2 (by omega)
    refine mo_find F d.1 w ok (fun M1 f1 B1 => ?_)
    obtain ⟨g1, d1⟩ := d.scF f1 (by simp)
    exact mo_cellOf F d1.1 w ok B1 c1 (by omega) (o_fine F d1 (fun M2 f2 d2 e2 => hQ c k c1 rfl (by omega) rfl M2 (g1.trans f2) d2 e2))
  · rw [bI_0, e0, e6] at z
    exact o_thr F d (h2 hc z)
theorem o_block {v u : Int32} {Q : Int32 → MM → Prop} (F : ModAt Z m) (d : MdI M m g sk n tx len) (w : WH g W H) (ok : CtOk W H (gc g)) (h1 : ¬ isC W H v → ∀ r M1, FrO m M M1 → MdI M1 m g sk n tx len → mI M1 15 m = 1 → Q r M1) (h2 : isC W H v → ¬ (0 ≤ u.toInt ∧ u.toInt ≤ 4) → ∀ r M1, FrO m M M1 → MdI M1 m g sk n tx len → mI M1 15 m = 2 → Q r M1)
    (hQ : ∀ c k, c < W * H → v = nI c → k < 5 → u = nI k → ∀ M1, FrO m M M1 → MdI M1 m g sk n tx len → mI M1 15 m = 0 → Q (bfS W H g (lbG W H g c) k) M1) : P_X6_block Z M m v u Q := by
  have e0 : (0 : Int64).toInt = 0 := by decide
  have e4 : (4 : Int64).toInt = 4 := by decide
  unfold P_X6_block B_X6_block_0
  refine ⟨F.1, mo_isCell F d.1 w (fun hc => ⟨fun _ => mo_in.mpr ⟨fun z => ?_, fun z => ?_⟩, fun q => absurd q (by decide)⟩) (fun hc => ⟨fun q => absurd rfl q, fun _ => o_thr F d (h1 hc)⟩)⟩
  · rw [bI_0, Classical.not_not, e0, e4] at z
    obtain ⟨c, c1, rfl⟩ := isC_ex hc
    obtain ⟨k, k1, rfl⟩ := small_ex (n := 4) z.1 z.2 (by omega)
    refine mo_find F d.1 w ok (fun M1 f1 B1 => ?_)
    obtain ⟨g1, d1⟩ := d.scF f1 (by simp)
    refine mo_blockOf F d1.1 w ok B1 c1 (by omega) (fun M3 f3 => ?_)
    obtain ⟨g3, d3⟩ := d1.scF f3 (by simp)
    exact o_fine F d3 (fun M2 f2 d2 e2 => hQ c k c1 rfl (by omega) rfl M2 ((g1.trans g3).trans f2) d2 e2)
  · rw [bI_0, e0, e4] at z
    exact o_thr F d (h2 hc z)
theorem o_value {u : Int32} {Q : Int32 → MM → Prop} (F : ModAt Z m) (d : MdI M m g sk n tx len) (w : WH g W H) (ok : CtOk W H (gc g)) (oz : ∀ c, W * H ≤ c → c < 49 → gt g c = 0) (h1 : ¬ (0 ≤ u.toInt ∧ u.toInt ≤ 13) → ∀ r M1, FrO m M M1 → MdI M1 m g sk n tx len → mI M1 15 m = 1 → Q r M1)
    (hQ : ∀ k, k < 14 → u = nI k → ∀ M1, FrO m M M1 → MdI M1 m g sk n tx len → mI M1 15 m = 0 → Q (ffS W H g k) M1) : P_X6_value Z M m u Q := by
  have e0 : (0 : Int64).toInt = 0 := by decide
  have e13 : (13 : Int64).toInt = 13 := by decide
  unfold P_X6_value B_X6_value_0
  refine mo_in.mpr ⟨fun z => ⟨F.1, ?_⟩, fun z => ⟨F.1, ?_⟩⟩
  · rw [bI_0, e0, e13] at z
    exact o_thr F d (h1 z)
  · rw [bI_0, Classical.not_not, e0, e13] at z
    obtain ⟨k, k1, rfl⟩ := small_ex (n := 13) z.1 z.2 (by omega)
    refine mo_valueOf F d.1 w ok oz (by omega) (fun M1 f1 => ?_)
    obtain ⟨g1, d1⟩ := d.scF f1 (by simp)
    exact o_fine F d1 (fun M2 f2 d2 e2 => hQ k (by omega) rfl M2 (g1.trans f2) d2 e2)
theorem mo_kept {tb : Nat} {Q : Int32 → MM → Prop} (F : ModAt Z m) (t : MoS M m g) (htb : gs g 7 = nI tb) (hb : tb < 1000000) (hQ : Q (nI (if tb < 40 then tb else 40)) M) : P_X6_kept Z M m Q := by
  have v7 : vp_in 7 (zN Z (m + 1)) := by rw [F.all.2.2]; exact vpn (k := 7) (by omega) (by omega)
  have e7 : mA M (m + 1) (7 : Int32).toNatClampNeg = nI tb := (t.s (k := 7) (by omega)).trans htb
  unfold P_X6_kept B_X6_kept_0
  refine ⟨F.1, m + 1, F.all.1, F.all.2.1, v7, ?_⟩
  rw [e7, show (40 : Int32) = nI 40 from rfl, n_le (by omega) (by omega)]
  refine ⟨fun z => ?_, fun z => ⟨v7, ?_⟩⟩
  · rw [if_neg (by omega)] at hQ; exact hQ
  · rw [if_pos (by omega)] at hQ; exact hQ
theorem o_taken {v u : Int32} {tb : Nat} {Q : Int32 → MM → Prop} (F : ModAt Z m) (d : MdI M m g sk n tx len) (htb : gs g 7 = nI tb) (hb : tb < 1000000) (h1 : ¬ (0 ≤ v.toInt ∧ v.toInt < ((if tb < 40 then tb else 40 : Nat) : Int)) → ∀ r M1, FrO m M M1 → MdI M1 m g sk n tx len → mI M1 15 m = 1 → Q r M1)
    (h2 : ∀ i, i < (if tb < 40 then tb else 40) → v = nI i → ¬ (0 ≤ u.toInt ∧ u.toInt ≤ 2) → ∀ r M1, FrO m M M1 → MdI M1 m g sk n tx len → mI M1 15 m = 2 → Q r M1)
    (hQ : ∀ i k, i < (if tb < 40 then tb else 40) → v = nI i → k < 3 → u = nI k → ∀ M1, FrO m M M1 → MdI M1 m g sk n tx len → mI M1 15 m = 0 → Q (gk g (3 * i + k)) M1) : P_X6_taken Z M m v u Q := by
  have e0 : (0 : Int64).toInt = 0 := by decide
  have e2 : (2 : Int64).toInt = 2 := by decide
  have hk2 : (if tb < 40 then tb else 40) ≤ 40 := by split <;> omega
  unfold P_X6_taken B_X6_taken_0
  refine ⟨F.1, mo_kept F d.1 htb hb (mo_in.mpr ⟨fun z => mo_in.mpr ⟨fun z2 => ?_, fun z2 => ?_⟩, fun z => ?_⟩)⟩
  · rw [bI_0, Classical.not_not, e0, l64_m1 _ (by omega)] at z
    rw [bI_0, e0, e2] at z2
    obtain ⟨i, i1, rfl⟩ := small_ex (n := 40) z.1 (by omega) (by omega)
    rw [i_toInt i (by omega)] at z
    exact o_thr F d (h2 i (by omega) rfl z2)
  · rw [bI_0, Classical.not_not, e0, l64_m1 _ (by omega)] at z
    rw [bI_0, Classical.not_not, e0, e2] at z2
    obtain ⟨i, i1, rfl⟩ := small_ex (n := 40) z.1 (by omega) (by omega)
    obtain ⟨k, k1, rfl⟩ := small_ex (n := 2) z2.1 (by omega) (by omega)
    rw [i_toInt i (by omega)] at z
    have e3 : (106 : Int32) + (3 : Int32) * nI i + nI k = nI (106 + (3 * i + k)) := by
      rw [show (3 : Int32) = nI 3 from rfl, n_mul, show (106 : Int32) = nI 106 from rfl, nI_add, nI_add]; congr 1; omega
    rw [e3]
    refine ⟨m + 1, F.all.1, F.all.2.1, by rw [F.all.2.2]; exact vpn (by omega) (by omega), ?_⟩
    rw [i_cl (106 + (3 * i + k)) (by omega)]
    have e4 : mA M (m + 1) (106 + (3 * i + k)) = gk g (3 * i + k) := by
      rw [d.1 _ (by omega)]; unfold enc
      rw [if_neg (by omega), if_neg (by omega), if_neg (by omega)]; congr 1; omega
    rw [e4]
    exact o_fine F d (fun M2 f2 d2 h2 => hQ i k (by omega) rfl (by omega) rfl M2 f2 d2 h2)
  · rw [bI_0, e0, l64_m1 _ (by omega)] at z
    exact o_thr F d (h1 (fun q => z ⟨q.1, by have := q.2; omega⟩))
end
