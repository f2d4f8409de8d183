/-! PURE: the steps without a throw, the law's loop -/
def Same (r r2 : Int32) (K : MM → Prop) (M : MM) : Prop := (r = r2 → K M) ∧ (¬ r = r2 → (False))
theorem same_ok {r r2 : Int32} {K : MM → Prop} {M : MM} (h : r = r2) (hK : K M) : Same r r2 K M := ⟨fun _ => hK, fun q => absurd h q⟩
section
variable {Z : ZZ} {M : MM} {a m o T : Nat} {K : MM → Prop}
theorem k_same {M1 M2 : MM} {g : GG} {sk : Nat → GG} {n ns len W H : Nat} {tx : Nat → Int32} (ha : a + 77 ≤ m) (hK : ∀ M1, Inv a m (T + 49) M1 → K M1) (c : ClsI M1 a g sk n ns tx len) (ok : OkG g W H (T + 49)) (oks : OksG sk n (T + 49)) (f : FrO m M1 M2) (d : MdI M2 m g sk n tx len) : K M2 :=
  hK _ ⟨g, sk, n, ns, tx, len, W, H, c.mdl f ha, d, ok, oks⟩
theorem tk_of {g : GG} {W H : Nat} (w : WH g W H) : ∃ j g1, j ≤ 49 ∧ TkR W H j g g1 := by
  have h49 : W * H ≤ 49 := wh_lt w.2.2.2.1 w.2.2.2.2.2
  have hW : 0 < W := by have := w.2.2.1; omega
  have hle := cnI_le (gt g) (W * H)
  exact Tk_ex hW h49 49 g (by omega)
theorem st_ta (F : FieldAt Z a) (D : ModAt Z m) (ha : a + 77 ≤ m) (hT : T < 900000) (hK : ∀ M1, Inv a m (T + 49) M1 → K M1) (I : Inv a m T M) :
    zK Z a = 5 ∧ (P_X5_takeAll Z M a (fun r Mc => zK Z m = 6 ∧ (P_X6_takeAll Z Mc m (fun r2 M2 => Same r r2 K M2)))) := by
  obtain ⟨g, sk, n, ns, tx, len, W, H, c, d, ok, oks⟩ := I
  have w := ok.1
  obtain ⟨tb, htb, htb2⟩ := ok.2.2.2
  obtain ⟨k, g1, hk, hk2⟩ := tk_of w
  refine ⟨F.1.1, c_ta F c w hk2 hk htb (by omega) (fun M1 f1 c1 _ _ => ⟨D.1, ?_⟩)⟩
  exact o_ta D (d.cls f1 ha) w ok.2.1 hk2 hk htb (by omega) (fun M2 f2 d2 => same_ok rfl (k_same ha hK c1 ((ok.tk k _ _ _ hk2).mono (by omega)) (OksG.push oks c.2.1.2.2.2.1 ok (by omega)) f2 d2))
theorem st_takable (F : FieldAt Z a) (D : ModAt Z m) (ha : a + 77 ≤ m) (hT : T < 900000) (hK : ∀ M1, Inv a m (T + 49) M1 → K M1) (I : Inv a m T M) :
    zK Z a = 5 ∧ (P_X5_takable Z M a (fun r Mc => zK Z m = 6 ∧ (P_X6_takable Z Mc m (fun r2 M2 => Same r r2 K M2)))) := by
  obtain ⟨g, sk, n, ns, tx, len, W, H, c, d, ok, oks⟩ := I
  have w := ok.1
  obtain ⟨tb, htb, htb2⟩ := ok.2.2.2
  obtain ⟨k, g1, hk, hk2⟩ := tk_of w
  refine ⟨F.1.1, c_takable F c w hk2 hk htb (by omega) (fun M1 f1 c1 => ⟨D.1, ?_⟩)⟩
  exact o_takable D (d.cls f1 ha) w ok.2.1 hk2 hk htb (by omega) (fun M2 f2 d2 => same_ok rfl (k_same ha hK c1 (ok.mono (by omega)) (OksG.mono oks (by omega)) f2 d2))
theorem st_left (F : FieldAt Z a) (D : ModAt Z m) (ha : a + 77 ≤ m) (hT : T < 900000) (hK : ∀ M1, Inv a m (T + 49) M1 → K M1) (I : Inv a m T M) :
    zK Z a = 5 ∧ (P_X5_leftStranded Z M a (fun r Mc => zK Z m = 6 ∧ (P_X6_leftStranded Z Mc m (fun r2 M2 => Same r r2 K M2)))) := by
  obtain ⟨g, sk, n, ns, tx, len, W, H, c, d, ok, oks⟩ := I
  have w := ok.1
  obtain ⟨tb, htb, htb2⟩ := ok.2.2.2
  obtain ⟨k, g1, hk, hk2⟩ := tk_of w
  refine ⟨F.1.1, c_leftStr F c w hk2 hk htb (by omega) (fun M1 f1 c1 => ⟨D.1, ?_⟩)⟩
  exact o_left D (d.cls f1 ha) w ok.2.1 hk2 hk htb (by omega) (fun M2 f2 d2 => same_ok rfl (k_same ha hK c1 (ok.mono (by omega)) (OksG.mono oks (by omega)) f2 d2))
theorem st_dtw (F : FieldAt Z a) (D : ModAt Z m) (ha : a + 77 ≤ m) (hT : T < 900000) (hK : ∀ M1, Inv a m (T + 49) M1 → K M1) (I : Inv a m T M) :
    zK Z a = 5 ∧ (P_X5_daysToWater Z M a (fun r Mc => zK Z m = 6 ∧ (P_X6_daysToWater Z Mc m (fun r2 M2 => Same r r2 K M2)))) := by
  obtain ⟨g, sk, n, ns, tx, len, W, H, c, d, ok, oks⟩ := I
  have w := ok.1
  refine ⟨F.1.1, c_dtw F c w (fun M1 k f1 c1 k60 hk hj => ⟨D.1, ?_⟩) (fun M1 f1 c1 hj => ⟨D.1, ?_⟩)⟩
  · refine o_dtw D (d.cls f1 ha) w (fun M2 k' f2 d2 _ k60' hk' hj' => same_ok ?_ (k_same ha hK c1 (ok.mono (by omega)) (OksG.mono oks (by omega)) f2 d2)) (fun M2 f2 d2 _ hj' => absurd hk (hj' k k60))
    rcases Nat.lt_trichotomy k' k with q | q | q
    · exact absurd hk' (hj k' q)
    · rw [q]
    · exact absurd hk (hj' k q)
  · exact o_dtw D (d.cls f1 ha) w (fun M2 k' f2 d2 _ k60' hk' hj' => absurd hk' (hj k' k60')) (fun M2 f2 d2 _ hj' => same_ok rfl (k_same ha hK c1 (ok.mono (by omega)) (OksG.mono oks (by omega)) f2 d2))
theorem st_bar (F : FieldAt Z a) (D : ModAt Z m) (ha : a + 77 ≤ m) (hT : T < 900000) (hK : ∀ M1, Inv a m (T + 49) M1 → K M1) (I : Inv a m T M) :
    zK Z a = 5 ∧ (P_X5_barredBy Z M a (fun r Mc => zK Z m = 6 ∧ (P_X6_barredBy Z Mc m (fun r2 M2 => Same r r2 K M2)))) := by
  obtain ⟨g, sk, n, ns, tx, len, W, H, c, d, ok, oks⟩ := I
  have w := ok.1
  have fin : ∀ M1 M2 (r r2 : Int32), r = r2 → ClsI M1 a g sk n ns tx len → FrO m M1 M2 → MdI M2 m g sk n tx len → Same r r2 K M2 := fun M1 M2 r r2 e c1 f2 d2 => same_ok e (k_same ha hK c1 (ok.mono (by omega)) (OksG.mono oks (by omega)) f2 d2)
  refine ⟨F.1.1, c_bar F c w (fun hno M1 f1 c1 => ⟨D.1, ?_⟩) (fun r hr => ⟨fun x M1 hx f1 c1 => ⟨D.1, ?_⟩, fun hx M1 f1 c1 => ⟨D.1, ?_⟩⟩)⟩
  · exact o_bar D (d.cls f1 ha) w ok.2.1 (fun _ M2 f2 d2 _ => fin M1 M2 _ _ rfl c1 f2 d2) (fun r hr => absurd hr.2.1 (hno r hr.1))
  · refine o_bar D (d.cls f1 ha) w ok.2.1 (fun z => absurd hr.2.1 (z r hr.1)) (fun r' hr' => ?_)
    have e := low_uniq hr hr'
    subst e
    refine ⟨fun x' M2 hx' f2 d2 _ => ?_, fun z => absurd hx.2.1 (z x hx.1)⟩
    exact fin M1 M2 _ _ (by rw [low_uniq hx hx']) c1 f2 d2
  · refine o_bar D (d.cls f1 ha) w ok.2.1 (fun z => absurd hr.2.1 (z r hr.1)) (fun r' hr' => ?_)
    have e := low_uniq hr hr'
    subst e
    exact ⟨fun x' M2 hx' => absurd hx'.2.1 (hx x' hx'.1), fun _ M2 f2 d2 _ => fin M1 M2 _ _ rfl c1 f2 d2⟩
theorem st_clr (F : FieldAt Z a) (D : ModAt Z m) (ha : a + 77 ≤ m) (hT : T < 900000) (hK : ∀ M1, Inv a m (T + 49) M1 → K M1) (I : Inv a m T M) :
    zK Z a = 5 ∧ (P_X5_clearText Z M a (fun r Mc => zK Z m = 6 ∧ (P_X6_clearText Z Mc m (fun r2 M2 => Same r r2 K M2)))) := by
  obtain ⟨g, sk, n, ns, tx, len, W, H, c, d, ok, oks⟩ := I
  refine ⟨F.1.1, c_clr F c (fun M1 f1 c1 => ⟨D.1, ?_⟩)⟩
  exact o_clr D (d.cls f1 ha) (fun M2 f2 d2 _ => same_ok rfl (k_same ha hK c1 (ok.mono (by omega)) (OksG.mono oks (by omega)) f2 d2))
theorem st_parse (F : FieldAt Z a) (D : ModAt Z m) (ha : a + 77 ≤ m) (hT : T < 900000) (hK : ∀ M1, Inv a m (T + 49) M1 → K M1) (I : Inv a m T M) :
    zK Z a = 5 ∧ (P_X5_parse Z M a (fun r Mc => zK Z m = 6 ∧ (P_X6_parse Z Mc m (fun r2 M2 => Same r r2 K M2)))) := by
  obtain ⟨g, sk, n, ns, tx, len, W, H, c, d, ok, oks⟩ := I
  have hl := c.2.2.2.2
  refine ⟨F.1.1, c_parse F c (fun hb M1 f1 c1 => ⟨D.1, ?_⟩) (fun hb M1 f1 c1 => ⟨D.1, ?_⟩)⟩
  · exact o_parse D (d.cls f1 ha) hl (fun _ M2 f2 d2 _ => same_ok rfl (k_same ha hK c1 (ok.mono (by omega)) (OksG.mono oks (by omega)) f2 d2)) (fun z => absurd z hb)
  · refine o_parse D (d.cls f1 ha) hl (fun z => absurd hb z) (fun _ M2 f2 d2 _ => same_ok rfl ?_)
    have hw := rd_ok (tx := tx) (len := len) len 0 0 1 0 (by omega) (by omega) (by omega) (by omega) (fun _ => by omega) (fun q => by omega) hb
    obtain ⟨u2, u7, v2, v7⟩ := hw
    exact k_same ha hK c1 ((ok_beg u2 u7 v2 v7).adds _ _ (Nat.le_refl _)) (OksG.push oks c.2.1.2.2.2.1 ok (by omega)) f2 d2
theorem st_harvest (F : FieldAt Z a) (D : ModAt Z m) (ha : a + 77 ≤ m) (hT : T < 900000) (hK : ∀ M1, Inv a m (T + 49) M1 → K M1) (I : Inv a m T M) :
    zK Z a = 5 ∧ (P_X5_harvest Z M a (fun r Mc => zK Z m = 6 ∧ (P_X6_harvest Z Mc m (fun r2 M2 => ((Op.cmpValue (FP.dcmp r r2) .l) = 0 → K M2) ∧ (¬ (Op.cmpValue (FP.dcmp r r2) .l) = 0 → (((Op.cmpValue (FP.dcmp r r) .l) = 0 → (False)) ∧ (¬ (Op.cmpValue (FP.dcmp r r) .l) = 0 → ((¬ (Op.cmpValue (FP.dcmp r2 r2) .l) = 0 → K M2) ∧ ((Op.cmpValue (FP.dcmp r2 r2) .l) = 0 → (False))))))))) ) := by
  obtain ⟨g, sk, n, ns, tx, len, W, H, c, d, ok, oks⟩ := I
  refine ⟨F.1.1, c_harvest F c ⟨D.1, ?_⟩⟩
  exact o_harvest D d (fun M2 f2 d2 _ => ⟨fun _ => k_same ha hK c (ok.mono (by omega)) (OksG.mono oks (by omega)) f2 d2, fun q => absurd (hv_self g) q⟩)
theorem st_digest (F : FieldAt Z a) (D : ModAt Z m) (ha : a + 77 ≤ m) (hT : T < 900000) (hK : ∀ M1, Inv a m (T + 49) M1 → K M1) (I : Inv a m T M) :
    zK Z a = 5 ∧ (P_X5_digest Z M a (fun r Mc => zK Z m = 6 ∧ (P_X6_digest Z Mc m (fun r2 M2 => ((lg_cmp r r2) = 0 → K M2) ∧ (¬ (lg_cmp r r2) = 0 → (False)))))) := by
  obtain ⟨g, sk, n, ns, tx, len, W, H, c, d, ok, oks⟩ := I
  have w := ok.1
  obtain ⟨tb, htb, htb2⟩ := ok.2.2.2
  obtain ⟨k, g1, hk, hk2⟩ := tk_of w
  refine ⟨F.1.1, c_digest F c w hk2 hk htb (by omega) (fun M1 f1 c1 => ⟨D.1, ?_⟩)⟩
  exact o_digest D (d.cls f1 ha) w ok.2.1 ok.2.2.1 hk2 hk htb (by omega) (fun M2 f2 d2 => ⟨fun _ => k_same ha hK c1 (ok.mono (by omega)) (OksG.mono oks (by omega)) f2 d2, fun q => absurd ((lg_cmp_eq _ _).mpr rfl) q⟩)
/-- one step of the law -/
theorem law_step {L : Nat} {xs : Nat → Int32} {K23 : MM → Nat → Nat → Nat → Int32 → Prop} {v4 : Int32} (F : FieldAt Z a) (D : ModAt Z m) (ho : zK Z o = 9 ∧ zN Z o = 1) (ha : a + 77 ≤ m) (hT : T < 900000) (I : Inv a m T M) (h0 : ¬ (nI L) - 4 < v4 → vp_in v4 L ∧ vp_in (v4 + 1) L ∧ vp_in (v4 + 2) L ∧ vp_in (v4 + 3) L) (hK : ∀ M1, Inv a m (T + 49) M1 → K23 M1 a m o (v4 + 4)) : B_L_law_23 Z L xs K23 M a m o v4 := by
  unfold B_L_law_23 B_L_law_1326
  refine ⟨fun _ => trivial, fun hv => ?_⟩
  obtain ⟨q0, q1, q2, q3⟩ := h0 hv
  have hK0 : K23 M a m o (v4 + 4) := by
    obtain ⟨g, sk, n, ns, tx, len, W, H, c, d, ok, oks⟩ := I
    exact hK _ ⟨g, sk, n, ns, tx, len, W, H, c, d, ok.mono (by omega), OksG.mono oks (by omega)⟩
  refine ⟨q0, fun _ => st_make F D ho ha hT hK q1 q2 q3 I, fun _ => ⟨fun _ => st_lay F D ho ha hT hK q1 q2 I, fun _ => ⟨fun _ => st_saw F D ho ha hT hK q1 q2 I, fun _ => ⟨fun _ => st_sa F D ho ha hT hK q1 q2 q3 I, fun _ => ⟨fun _ => st_to F D ho ha hT hK q1 I, fun _ => ⟨fun _ => st_ta F D ha hT hK I, fun _ => ⟨fun _ => st_sm F D ho ha hT hK q1 I, fun _ => ⟨fun _ => st_pass F D ho ha hT hK q1 I, fun _ => ⟨fun _ => st_cell F D ho ha hT hK q1 q2 I, fun _ => ⟨fun _ => st_block F D ho ha hT hK q1 q2 I, fun _ => ⟨fun _ => st_move F D ho ha hT hK q1 q2 I, fun _ => ⟨fun _ => st_value F D ho ha hT hK q1 I, fun _ => ⟨fun _ => st_taken F D ho ha hT hK q1 q2 I, fun _ => ⟨fun _ => st_cuts F D ho ha hT hK q1 q2 q3 I, fun _ => ⟨fun _ => st_takable F D ha hT hK I, fun _ => ⟨fun _ => st_left F D ha hT hK I, fun _ => ⟨fun _ => st_dw F D ho ha hT hK q1 I, fun _ => ⟨fun _ => st_dtw F D ha hT hK I, fun _ => ⟨fun _ => st_bar F D ha hT hK I, fun _ => ⟨fun _ => st_harvest F D ha hT hK I, fun _ => ⟨fun _ => st_app F D ho ha hT hK q1 I, fun _ => ⟨fun _ => st_clr F D ha hT hK I, fun _ => ⟨fun _ => st_parse F D ha hT hK I, fun _ => ⟨fun _ => st_undo F D ho ha hT hK I, fun _ => ⟨fun _ => st_digest F D ha hT hK I, fun _ => hK0⟩⟩⟩⟩⟩⟩⟩⟩⟩⟩⟩⟩⟩⟩⟩⟩⟩⟩⟩⟩⟩⟩⟩⟩⟩
end
