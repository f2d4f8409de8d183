/-! PURE: the steps of the law, the questions -/
section
variable {Z : ZZ} {M : MM} {a m o T : Nat} {K : MM → Prop}
theorem st_cell {v u : Int32} {G1 G2 : Prop} (F : FieldAt Z a) (D : ModAt Z m) (ho : zK Z o = 9 ∧ zN Z o = 1) (ha : a + 77 ≤ m) (hT : T < 900000) (hK : ∀ M1, Inv a m (T + 49) M1 → K M1) (q1 : G1) (q2 : G2) (I : Inv a m T M) :
    G1 ∧ (G2 ∧ (P_L_cell Z M a v u o (fun rc Mc => G1 ∧ (G2 ∧ (zK Z m = 6 ∧ (P_X6_cell Z Mc m v u (fun r M2 => Tail Z m o rc r K M2))))))) := by
  obtain ⟨g, sk, n, ns, tx, len, W, H, c, d, ok, oks⟩ := I
  have w := ok.1
  have h49 : W * H ≤ 49 := wh_lt w.2.2.2.1 w.2.2.2.2.2
  refine ⟨q1, q2, ?_⟩
  unfold P_L_cell B_L_cell_0
  refine ⟨F.1.1, ?_⟩
  by_cases hc : isC W H v
  · by_cases hu : 0 ≤ u.toInt ∧ u.toInt ≤ 6
    · obtain ⟨x, x1, rfl⟩ := isC_ex hc
      obtain ⟨k, k1, rfl⟩ := small_ex (n := 6) hu.1 hu.2 (by omega)
      refine c_cell F c w x1 (by omega) (fun M1 f1 c1 => ⟨ho.1, v9 ho, q1, q2, D.1, ?_⟩)
      refine o_cell D ((d.cls f1 ha).j o _) w ok.2.1 (fun z => absurd hc z) (fun _ z => absurd hu z) (fun y t y1 e t1 e1 M2 f2 d2 e2 => ?_)
      rw [n_eq (by omega) (by omega)] at e e1
      subst e; subst e1
      exact k_ok D ho ha hK c1 (ok.mono (by omega)) (OksG.mono oks (by omega)) f2 d2 e2
    · exact c_cell_x2 F c w hc hu (Or.inr ⟨rfl, q1, q2, D.1, o_cell D d w ok.2.1 (fun z => absurd hc z) (fun _ _ r M2 f2 d2 e2 => k_thr D ha hK c ok oks (by decide) f2 d2 e2) (fun y t y1 e t1 e1 => absurd ⟨by rw [e1, i_toInt t (by omega)]; omega, by rw [e1, i_toInt t (by omega)]; omega⟩ hu)⟩)
  · exact c_cell_x F c w hc (Or.inl ⟨rfl, q1, q2, D.1, o_cell D d w ok.2.1 (fun _ r M2 f2 d2 e2 => k_thr D ha hK c ok oks (by decide) f2 d2 e2) (fun z => absurd z hc) (fun y t y1 e => absurd (by rw [e]; exact isC_n y1 h49) hc)⟩)
theorem st_block {v u : Int32} {G1 G2 : Prop} (F : FieldAt Z a) (D : ModAt Z m) (ho : zK Z o = 9 ∧ zN Z o = 1) (ha : a + 77 ≤ m) (hT : T < 900000) (hK : ∀ M1, Inv a m (T + 49) M1 → K M1) (q1 : G1) (q2 : G2) (I : Inv a m T M) :
    G1 ∧ (G2 ∧ (P_L_block Z M a v u o (fun rc Mc => G1 ∧ (G2 ∧ (zK Z m = 6 ∧ (P_X6_block Z Mc m v u (fun r M2 => Tail Z m o rc r K M2))))))) := by
  obtain ⟨g, sk, n, ns, tx, len, W, H, c, d, ok, oks⟩ := I
  have w := ok.1
  have h49 : W * H ≤ 49 := wh_lt w.2.2.2.1 w.2.2.2.2.2
  refine ⟨q1, q2, ?_⟩
  unfold P_L_block B_L_block_0
  refine ⟨F.1.1, ?_⟩
  by_cases hc : isC W H v
  · by_cases hu : 0 ≤ u.toInt ∧ u.toInt ≤ 4
    · obtain ⟨x, x1, rfl⟩ := isC_ex hc
      obtain ⟨k, k1, rfl⟩ := small_ex (n := 4) hu.1 hu.2 (by omega)
      refine c_block F c w x1 (by omega) (fun M1 f1 c1 => ⟨ho.1, v9 ho, q1, q2, D.1, ?_⟩)
      refine o_block D ((d.cls f1 ha).j o _) w ok.2.1 (fun z => absurd hc z) (fun _ z => absurd hu z) (fun y t y1 e t1 e1 M2 f2 d2 e2 => ?_)
      rw [n_eq (by omega) (by omega)] at e e1
      subst e; subst e1
      exact k_ok D ho ha hK c1 (ok.mono (by omega)) (OksG.mono oks (by omega)) f2 d2 e2
    · exact c_block_x2 F c w hc hu (Or.inr ⟨rfl, q1, q2, D.1, o_block D d w ok.2.1 (fun z => absurd hc z) (fun _ _ r M2 f2 d2 e2 => k_thr D ha hK c ok oks (by decide) f2 d2 e2) (fun y t y1 e t1 e1 => absurd ⟨by rw [e1, i_toInt t (by omega)]; omega, by rw [e1, i_toInt t (by omega)]; omega⟩ hu)⟩)
  · exact c_block_x F c w hc (Or.inl ⟨rfl, q1, q2, D.1, o_block D d w ok.2.1 (fun _ r M2 f2 d2 e2 => k_thr D ha hK c ok oks (by decide) f2 d2 e2) (fun z => absurd z hc) (fun y t y1 e => absurd (by rw [e]; exact isC_n y1 h49) hc)⟩)
theorem st_value {u : Int32} {G1 : Prop} (F : FieldAt Z a) (D : ModAt Z m) (ho : zK Z o = 9 ∧ zN Z o = 1) (ha : a + 77 ≤ m) (hT : T < 900000) (hK : ∀ M1, Inv a m (T + 49) M1 → K M1) (q1 : G1) (I : Inv a m T M) :
    G1 ∧ (P_L_value Z M a u o (fun rc Mc => G1 ∧ (zK Z m = 6 ∧ (P_X6_value Z Mc m u (fun r M2 => Tail Z m o rc r K M2))))) := by
  obtain ⟨g, sk, n, ns, tx, len, W, H, c, d, ok, oks⟩ := I
  have w := ok.1
  refine ⟨q1, ?_⟩
  unfold P_L_value B_L_value_0
  refine ⟨F.1.1, ?_⟩
  by_cases hu : 0 ≤ u.toInt ∧ u.toInt ≤ 13
  · obtain ⟨k, k1, rfl⟩ := small_ex (n := 13) hu.1 hu.2 (by omega)
    refine c_value F c w (by omega) (fun M1 f1 c1 => ⟨ho.1, v9 ho, q1, D.1, ?_⟩)
    refine o_value D ((d.cls f1 ha).j o _) w ok.2.1 ok.2.2.1 (fun z => absurd hu z) (fun t t1 e1 M2 f2 d2 e2 => ?_)
    rw [n_eq (by omega) (by omega)] at e1
    subst e1
    exact k_ok D ho ha hK c1 (ok.mono (by omega)) (OksG.mono oks (by omega)) f2 d2 e2
  · exact c_value_x hu ⟨rfl, q1, D.1, o_value D d w ok.2.1 ok.2.2.1 (fun _ r M2 f2 d2 e2 => k_thr D ha hK c ok oks (by decide) f2 d2 e2) (fun t t1 e1 => absurd ⟨by rw [e1, i_toInt t (by omega)]; omega, by rw [e1, i_toInt t (by omega)]; omega⟩ hu)⟩
theorem st_taken {v u : Int32} {G1 G2 : Prop} (F : FieldAt Z a) (D : ModAt Z m) (ho : zK Z o = 9 ∧ zN Z o = 1) (ha : a + 77 ≤ m) (hT : T < 900000) (hK : ∀ M1, Inv a m (T + 49) M1 → K M1) (q1 : G1) (q2 : G2) (I : Inv a m T M) :
    G1 ∧ (G2 ∧ (P_L_taken Z M a v u o (fun rc Mc => G1 ∧ (G2 ∧ (zK Z m = 6 ∧ (P_X6_taken Z Mc m v u (fun r M2 => Tail Z m o rc r K M2))))))) := by
  obtain ⟨g, sk, n, ns, tx, len, W, H, c, d, ok, oks⟩ := I
  obtain ⟨tb, htb, htb2⟩ := ok.2.2.2
  have hk2 : (if tb < 40 then tb else 40) ≤ 40 := by split <;> omega
  refine ⟨q1, q2, ?_⟩
  unfold P_L_taken B_L_taken_0
  refine ⟨F.1.1, ?_⟩
  by_cases hc : 0 ≤ v.toInt ∧ v.toInt < ((if tb < 40 then tb else 40 : Nat) : Int)
  · obtain ⟨i, i1, rfl⟩ := small_ex (n := 40) hc.1 (by omega) (by omega)
    have hi := hc.2
    rw [i_toInt i (by omega)] at hi
    by_cases hu : 0 ≤ u.toInt ∧ u.toInt ≤ 2
    · obtain ⟨k, k1, rfl⟩ := small_ex (n := 2) hu.1 hu.2 (by omega)
      refine c_taken F c htb (by omega) (by omega) (by omega) ⟨ho.1, v9 ho, q1, q2, D.1, ?_⟩
      refine o_taken D (d.j o _) htb (by omega) (fun z => absurd hc z) (fun y y1 e z => absurd hu z) (fun y t y1 e t1 e1 M2 f2 d2 e2 => ?_)
      rw [n_eq (by omega) (by omega)] at e e1
      subst e; subst e1
      exact k_ok D ho ha hK c (ok.mono (by omega)) (OksG.mono oks (by omega)) f2 d2 e2
    · exact c_taken_x2 F c htb (by omega) (by omega) hu (Or.inr ⟨rfl, q1, q2, D.1, o_taken D d htb (by omega) (fun z => absurd hc z) (fun _ _ _ _ r M2 f2 d2 e2 => k_thr D ha hK c ok oks (by decide) f2 d2 e2) (fun y t y1 e t1 e1 => absurd ⟨by rw [e1, i_toInt t (by omega)]; omega, by rw [e1, i_toInt t (by omega)]; omega⟩ hu)⟩)
  · exact c_taken_x F c htb (by omega) hc (Or.inl ⟨rfl, q1, q2, D.1, o_taken D d htb (by omega) (fun _ r M2 f2 d2 e2 => k_thr D ha hK c ok oks (by decide) f2 d2 e2) (fun y y1 e => absurd ⟨by rw [e, i_toInt y (by omega)]; omega, by rw [e, i_toInt y (by omega)]; omega⟩ hc) (fun y t y1 e => absurd ⟨by rw [e, i_toInt y (by omega)]; omega, by rw [e, i_toInt y (by omega)]; omega⟩ hc)⟩)
theorem st_move {v u : Int32} {G1 G2 : Prop} (F : FieldAt Z a) (D : ModAt Z m) (ho : zK Z o = 9 ∧ zN Z o = 1) (ha : a + 77 ≤ m) (hT : T < 900000) (hK : ∀ M1, Inv a m (T + 49) M1 → K M1) (q1 : G1) (q2 : G2) (I : Inv a m T M) :
    G1 ∧ (G2 ∧ (P_L_move Z M a v u o (fun rc Mc => G1 ∧ (G2 ∧ (zK Z m = 6 ∧ (P_X6_move Z Mc m v u (fun r M2 => Tail Z m o rc r K M2))))))) := by
  obtain ⟨g, sk, n, ns, tx, len, W, H, c, d, ok, oks⟩ := I
  have w := ok.1
  have h49 : W * H ≤ 49 := wh_lt w.2.2.2.1 w.2.2.2.2.2
  refine ⟨q1, q2, ?_⟩
  unfold P_L_move B_L_move_0
  refine ⟨F.1.1, ?_⟩
  by_cases hc : isC W H v ∧ 0 ≤ u.toInt
  · obtain ⟨hc1, hu⟩ := hc
    obtain ⟨x, x1, rfl⟩ := isC_ex hc1
    have fin : ∀ M1 M2 (r : Int32), ClsI M1 a g sk n ns tx len → FrO m (setJ M1 o (vp_updL (mJ M1 o) (0 : Int32).toNatClampNeg r.toInt64)) M2 → MdI M2 m g sk n tx len → mI M2 15 m = 0 → Tail Z m o 0 r K M2 := fun M1 M2 r c1 f2 d2 e2 => k_ok D ho ha hK c1 (ok.mono (by omega)) (OksG.mono oks (by omega)) f2 d2 e2
    refine c_move F c w x1 hu (fun hno M1 f1 c1 => ⟨ho.1, v9 ho, q1, q2, D.1, ?_⟩) (fun r r1 hr hl M1 f1 c1 => ⟨fun hle => ⟨ho.1, v9 ho, q1, q2, D.1, ?_⟩, fun L k L1 L2 k1 k2 => ⟨ho.1, v9 ho, q1, q2, D.1, ?_⟩⟩)
    · refine o_move D ((d.cls f1 ha).j o _) w ok.2.1 (fun z => absurd ⟨hc1, hu⟩ z) (fun y y1 e _ _ M2 f2 d2 e2 => fin M1 M2 _ c1 f2 d2 e2) (fun y r y1 e _ r1 hr hl => ?_)
      rw [n_eq (by omega) (by omega)] at e
      subst e; exact absurd hl (hno r r1 hr)
    · refine o_move D ((d.cls f1 ha).j o _) w ok.2.1 (fun z => absurd ⟨hc1, hu⟩ z) (fun y y1 e _ z => ?_) (fun y r' y1 e _ r1' hr' hl' M2 f2 d2 e2 => ⟨fun _ => fin M1 M2 _ c1 f2 d2 e2, fun L k L1 L2 k1 k2 => ?_⟩)
      · rw [n_eq (by omega) (by omega)] at e
        subst e; exact absurd hl (z r r1 hr)
      · rw [n_eq (by omega) (by omega)] at e
        subst e
        rw [hr, n_eq (by omega) (by omega)] at hr'
        subst hr'
        exfalso
        unfold wayI at hle
        rw [L2, if_neg (by rw [i_lt, i_toInt L (by omega), show (0 : Int32).toInt = 0 by decide]; omega), k1, n_le (by omega) (by omega)] at hle
        omega
    · refine o_move D ((d.cls f1 ha).j o _) w ok.2.1 (fun z => absurd ⟨hc1, hu⟩ z) (fun y y1 e _ z => ?_) (fun y r' y1 e _ r1' hr' hl' M2 f2 d2 e2 => ⟨fun hle => ?_, fun L' k' L1' L2' k1' k2' => ?_⟩)
      · rw [n_eq (by omega) (by omega)] at e
        subst e; exact absurd hl (z r r1 hr)
      · rw [n_eq (by omega) (by omega)] at e
        subst e
        rw [hr, n_eq (by omega) (by omega)] at hr'
        subst hr'
        exfalso
        unfold wayI at hle
        rw [L2, if_neg (by rw [i_lt, i_toInt L (by omega), show (0 : Int32).toInt = 0 by decide]; omega), k1, n_le (by omega) (by omega)] at hle
        omega
      · rw [n_eq (by omega) (by omega)] at e
        subst e
        rw [hr, n_eq (by omega) (by omega)] at hr'
        subst hr'
        rw [L2, n_eq (by omega) (by omega)] at L2'
        subst L2'
        rw [k1, n_eq (by omega) (by omega)] at k1'
        subst k1'
        exact fin M1 M2 _ c1 f2 d2 e2
  · exact c_move_x F c w hc ⟨rfl, q1, q2, D.1, o_move D d w ok.2.1 (fun _ r M2 f2 d2 e2 => k_thr D ha hK c ok oks (by decide) f2 d2 e2) (fun y y1 e hu => absurd ⟨by rw [e]; exact isC_n y1 h49, hu⟩ hc) (fun y r y1 e hu => absurd ⟨by rw [e]; exact isC_n y1 h49, hu⟩ hc)⟩
theorem st_dw {v : Int32} {G1 : Prop} (F : FieldAt Z a) (D : ModAt Z m) (ho : zK Z o = 9 ∧ zN Z o = 1) (ha : a + 77 ≤ m) (hT : T < 900000) (hK : ∀ M1, Inv a m (T + 49) M1 → K M1) (q1 : G1) (I : Inv a m T M) :
    G1 ∧ (P_L_daysWhole Z M a v o (fun rc Mc => G1 ∧ (zK Z m = 6 ∧ (P_X6_daysWhole Z Mc m v (fun r M2 => Tail Z m o rc r K M2))))) := by
  obtain ⟨g, sk, n, ns, tx, len, W, H, c, d, ok, oks⟩ := I
  have w := ok.1
  have h49 : W * H ≤ 49 := wh_lt w.2.2.2.1 w.2.2.2.2.2
  refine ⟨q1, ?_⟩
  unfold P_L_daysWhole B_L_daysWhole_0
  refine ⟨F.1.1, ?_⟩
  by_cases hc : isC W H v
  · obtain ⟨x, x1, rfl⟩ := isC_ex hc
    have fin : ∀ M1 M2 (r : Int32), ClsI M1 a g sk n ns tx len → FrO m (setJ M1 o (vp_updL (mJ M1 o) (0 : Int32).toNatClampNeg r.toInt64)) M2 → MdI M2 m g sk n tx len → mI M2 15 m = 0 → Tail Z m o 0 r K M2 := fun M1 M2 r c1 f2 d2 e2 => k_ok D ho ha hK c1 (ok.mono (by omega)) (OksG.mono oks (by omega)) f2 d2 e2
    refine c_dw F c w x1 (fun hno M1 f1 c1 => ⟨ho.1, v9 ho, q1, D.1, ?_⟩) (fun r r1 hr hl => ⟨fun M1 k f1 c1 k1 k60 hk hj => ⟨ho.1, v9 ho, q1, D.1, ?_⟩, fun M1 f1 c1 hj => ⟨ho.1, v9 ho, q1, D.1, ?_⟩⟩)
    · refine o_dw D ((d.cls f1 ha).j o _) w ok.2.1 (fun z => absurd hc z) (fun y y1 e _ M2 f2 d2 e2 => fin M1 M2 _ c1 f2 d2 e2) (fun y r y1 e r1 hr hl => ?_)
      rw [n_eq (by omega) (by omega)] at e
      subst e; exact absurd hl (hno r r1 hr)
    · refine o_dw D ((d.cls f1 ha).j o _) w ok.2.1 (fun z => absurd hc z) (fun y y1 e z => ?_) (fun y r' y1 e r1' hr' hl' => ?_)
      · rw [n_eq (by omega) (by omega)] at e
        subst e; exact absurd hl (z r r1 hr)
      · rw [n_eq (by omega) (by omega)] at e
        subst e
        rw [hr, n_eq (by omega) (by omega)] at hr'
        subst hr'
        refine ⟨fun M2 k' f2 d2 e2 k1' k60' hk' hj' => ?_, fun M2 f2 d2 e2 hj' => absurd hk (hj' k k1 k60)⟩
        have : k' = k := by
          rcases Nat.lt_trichotomy k' k with q | q | q
          · exact absurd hk' (hj k' k1' q)
          · exact q
          · exact absurd hk (hj' k k1 q)
        subst this
        exact fin M1 M2 _ c1 f2 d2 e2
    · refine o_dw D ((d.cls f1 ha).j o _) w ok.2.1 (fun z => absurd hc z) (fun y y1 e z => ?_) (fun y r' y1 e r1' hr' hl' => ?_)
      · rw [n_eq (by omega) (by omega)] at e
        subst e; exact absurd hl (z r r1 hr)
      · rw [n_eq (by omega) (by omega)] at e
        subst e
        rw [hr, n_eq (by omega) (by omega)] at hr'
        subst hr'
        exact ⟨fun M2 k' f2 d2 e2 k1' k60' hk' hj' => absurd hk' (hj k' k1' k60'), fun M2 f2 d2 e2 hj' => fin M1 M2 _ c1 f2 d2 e2⟩
  · exact c_dw_x F c w hc ⟨rfl, q1, D.1, o_dw D d w ok.2.1 (fun _ r M2 f2 d2 e2 => k_thr D ha hK c ok oks (by decide) f2 d2 e2) (fun y y1 e => absurd (by rw [e]; exact isC_n y1 h49) hc) (fun y r y1 e => absurd (by rw [e]; exact isC_n y1 h49) hc)⟩
end
