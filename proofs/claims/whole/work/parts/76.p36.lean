/-! PURE: the steps of the law, the changes -/
theorem jat (M : MM) (o : Nat) (r : Int64) : mJ (setJ M o (vp_updL (mJ M o) (0 : Int32).toNatClampNeg r)) o 0 = r := by
  simp [mJ, setJ, va_up, vp_updL]
section
variable {Z : ZZ} {M : MM} {a m o T : Nat} {K : MM → Prop}
def OksG (sk : Nat → GG) (n T : Nat) : Prop := ∀ i, i < n → ∃ W H, OkG (sk i) W H T
theorem OksG.mono {sk : Nat → GG} {n T T1 : Nat} (h : OksG sk n T) (hT : T ≤ T1) : OksG sk n T1 := fun i hi => by
  obtain ⟨W, H, q⟩ := h i hi
  exact ⟨W, H, q.mono hT⟩
theorem OksG.push {sk : Nat → GG} {n T T1 W H : Nat} {g : GG} (h : OksG sk n T) (hn : n ≤ 4) (hg : OkG g W H T) (hT : T ≤ T1) : OksG (pushS sk n g) (pc n) T1 :=
  push_ok (P := fun g => ∃ W H, OkG g W H T1) hn (h.mono hT) ⟨W, H, hg.mono hT⟩
theorem k_thr {M1 M2 : MM} {g : GG} {sk : Nat → GG} {n ns len W H : Nat} {tx : Nat → Int32} {rc r : Int32} (D : ModAt Z m) (ha : a + 77 ≤ m) (hK : ∀ M1, Inv a m (T + 49) M1 → K M1) (c : ClsI M1 a g sk n ns tx len) (ok : OkG g W H T) (oks : OksG sk n T) (h0 : rc ≠ 0) (f : FrO m M1 M2) (d : MdI M2 m g sk n tx len) (e : mI M2 15 m = rc) : Tail Z m o rc r K M2 :=
  tail_thr D e h0 (hK _ ⟨g, sk, n, ns, tx, len, W, H, c.mdl f ha, d, ok.mono (by omega), oks.mono (by omega)⟩)
theorem k_ok {M1 M2 : MM} {g : GG} {sk : Nat → GG} {n ns len W H : Nat} {tx : Nat → Int32} {r : Int32} (D : ModAt Z m) (ho : zK Z o = 9 ∧ zN Z o = 1) (ha : a + 77 ≤ m) (hK : ∀ M1, Inv a m (T + 49) M1 → K M1) (c : ClsI M1 a g sk n ns tx len) (ok : OkG g W H (T + 49)) (oks : OksG sk n (T + 49)) (f : FrO m (setJ M1 o (vp_updL (mJ M1 o) (0 : Int32).toNatClampNeg r.toInt64)) M2) (d : MdI M2 m g sk n tx len) (e : mI M2 15 m = 0) : Tail Z m o 0 r K M2 :=
  tail_ok D ho e (by rw [f.2.2]; exact jat _ _ _) (hK _ ⟨g, sk, n, ns, tx, len, W, H, (c.j o _).mdl f ha, d, ok, oks⟩)
theorem v9 (ho : zK Z o = 9 ∧ zN Z o = 1) : vp_in 0 (zN Z o) := by rw [ho.2]; exact vpn (k := 0) (by omega) (by omega)
theorem st_make {v u x : Int32} {G1 G2 G3 : Prop} (F : FieldAt Z a) (D : ModAt Z m) (ho : zK Z o = 9 ∧ zN Z o = 1) (ha : a + 77 ≤ m) (hT : T < 900000) (hK : ∀ M1, Inv a m (T + 49) M1 → K M1) (q1 : G1) (q2 : G2) (q3 : G3) (I : Inv a m T M) :
    G1 ∧ (G2 ∧ (G3 ∧ (P_L_make Z M a v u x o (fun rc Mc => G1 ∧ (G2 ∧ (G3 ∧ (zK Z m = 6 ∧ (P_X6_make Z Mc m v u x (fun r M2 => Tail Z m o rc r K M2))))))))) := by
  obtain ⟨g, sk, n, ns, tx, len, W, H, c, d, ok, oks⟩ := I
  refine ⟨q1, q2, q3, ?_⟩
  unfold P_L_make B_L_make_0
  refine ⟨F.1.1, ?_⟩
  by_cases h : mkC v u x
  · obtain ⟨p, p1, rfl⟩ := small_ex (n := 7) (by have := h.1; omega) h.1.2 (by omega)
    obtain ⟨q, p2, rfl⟩ := small_ex (n := 7) (by have := h.2.1; omega) h.2.1.2 (by omega)
    have hp := h.1
    rw [i_toInt p (by omega)] at hp
    have hq := h.2.1
    rw [i_toInt q (by omega)] at hq
    refine c_make F c h ⟨by omega, by omega⟩ ⟨by omega, by omega⟩ (fun M1 f1 c1 => ⟨ho.1, v9 ho, q1, q2, q3, D.1, ?_⟩)
    refine o_make D ((d.cls f1 ha).j o _) (fun z => absurd h z) (fun b b' h1 h2 h3 h4 e1 e2 _ M2 f2 d2 e => ?_)
    rw [n_eq (by omega) (by omega)] at e1 e2
    subst e1; subst e2
    exact k_ok D ho ha hK c1 ((ok_beg h1 h2 h3 h4).adds _ _ (Nat.le_refl _)) (OksG.push oks c.2.1.2.2.2.1 ok (by omega)) f2 d2 e
  · exact c_make_x h ⟨rfl, q1, q2, q3, D.1, o_make D d (fun _ r M2 f2 d2 e => k_thr D ha hK c ok oks (by decide) f2 d2 e) (fun _ _ _ _ _ _ _ _ hh => absurd hh h)⟩
theorem st_lay {v u : Int32} {G1 G2 : Prop} (F : FieldAt Z a) (D : ModAt Z m) (ho : zK Z o = 9 ∧ zN Z o = 1) (ha : a + 77 ≤ m) (hT : T < 900000) (hK : ∀ M1, Inv a m (T + 49) M1 → K M1) (q1 : G1) (q2 : G2) (I : Inv a m T M) :
    G1 ∧ (G2 ∧ (P_L_lay Z M a v u o (fun rc Mc => G1 ∧ (G2 ∧ (zK Z m = 6 ∧ (P_X6_lay Z Mc m v u (fun r M2 => Tail Z m o rc r K M2))))))) := by
  obtain ⟨g, sk, n, ns, tx, len, W, H, c, d, ok, oks⟩ := I
  have w := ok.1
  have h49 : W * H ≤ 49 := wh_lt w.2.2.2.1 w.2.2.2.2.2
  refine ⟨q1, q2, ?_⟩
  unfold P_L_lay B_L_lay_0
  refine ⟨F.1.1, ?_⟩
  by_cases hc : isC W H v
  · by_cases hu : 1 ≤ u.toInt ∧ u.toInt ≤ 50
    · obtain ⟨x, x1, rfl⟩ := isC_ex hc
      by_cases h3 : gt g x + u ≤ 50
      · refine c_lay F c w x1 hu h3 (fun M1 f1 c1 => ⟨ho.1, v9 ho, q1, q2, D.1, ?_⟩)
        refine o_lay D ((d.cls f1 ha).j o _) w (fun z => absurd hc z) (fun _ z => absurd hu z) (fun y y1 e _ z => ?_) (fun y y1 e _ _ M2 f2 d2 e2 => ?_)
        · rw [n_eq (by omega) (by omega)] at e
          subst e; exact absurd h3 z
        · rw [n_eq (by omega) (by omega)] at e
          subst e
          exact k_ok D ho ha hK c1 ((ok.mono (by omega)).add y1) (OksG.push oks c.2.1.2.2.2.1 ok (by omega)) f2 d2 e2
      · refine c_lay_x3 F c w x1 hu h3 (Or.inr (Or.inr ⟨rfl, q1, q2, D.1, ?_⟩))
        refine o_lay D d w (fun z => absurd hc z) (fun _ z => absurd hu z) (fun y y1 e _ z r M2 f2 d2 e2 => k_thr D ha hK c ok oks (by decide) f2 d2 e2) (fun y y1 e _ z => ?_)
        rw [n_eq (by omega) (by omega)] at e
        subst e; exact absurd z h3
    · exact c_lay_x2 F c w hc hu (Or.inr (Or.inl ⟨rfl, q1, q2, D.1, o_lay D d w (fun z => absurd hc z) (fun _ _ r M2 f2 d2 e2 => k_thr D ha hK c ok oks (by decide) f2 d2 e2) (fun y y1 e z => absurd z hu) (fun y y1 e z => absurd z hu)⟩))
  · exact c_lay_x F c w hc (Or.inl ⟨rfl, q1, q2, D.1, o_lay D d w (fun _ r M2 f2 d2 e2 => k_thr D ha hK c ok oks (by decide) f2 d2 e2) (fun z => absurd z hc) (fun y y1 e => absurd (by rw [e]; exact isC_n y1 h49) hc) (fun y y1 e => absurd (by rw [e]; exact isC_n y1 h49) hc)⟩)
theorem st_saw {v u : Int32} {G1 G2 : Prop} (F : FieldAt Z a) (D : ModAt Z m) (ho : zK Z o = 9 ∧ zN Z o = 1) (ha : a + 77 ≤ m) (hT : T < 900000) (hK : ∀ M1, Inv a m (T + 49) M1 → K M1) (q1 : G1) (q2 : G2) (I : Inv a m T M) :
    G1 ∧ (G2 ∧ (P_L_saw Z M a v u o (fun rc Mc => G1 ∧ (G2 ∧ (zK Z m = 6 ∧ (P_X6_saw Z Mc m v u (fun r M2 => Tail Z m o rc r K M2))))))) := by
  obtain ⟨g, sk, n, ns, tx, len, W, H, c, d, ok, oks⟩ := I
  have w := ok.1
  have hW : 0 < W := by have := w.2.2.1; omega
  have h49 : W * H ≤ 49 := wh_lt w.2.2.2.1 w.2.2.2.2.2
  refine ⟨q1, q2, ?_⟩
  unfold P_L_saw B_L_saw_0
  refine ⟨F.1.1, ?_⟩
  by_cases hc : isC W H v
  · by_cases hu : 0 ≤ u.toInt ∧ u.toInt ≤ 3
    · obtain ⟨x, x1, rfl⟩ := isC_ex hc
      obtain ⟨s, s1, rfl⟩ := small_ex (n := 3) hu.1 hu.2 (by omega)
      by_cases h3 : s = 2 ∨ (bs W H x s).isSome = true
      · refine c_saw F c w x1 (by omega) h3 (fun M1 f1 c1 => ⟨ho.1, v9 ho, q1, q2, D.1, ?_⟩)
        refine o_saw D ((d.cls f1 ha).j o _) w ok.2.1 (fun z => absurd hc z) (fun _ z => absurd hu z) (fun y t y1 e t1 e1 z => ?_) (fun y t y1 e t1 e1 z M2 f2 d2 e2 => ?_)
        · rw [n_eq (by omega) (by omega)] at e e1
          subst e; subst e1; exact absurd h3 z
        · rw [n_eq (by omega) (by omega)] at e e1
          subst e; subst e1
          exact k_ok D ho ha hK c1 ((ok.mono (by omega)).ct (cs_same W H g x s).1 (cs_same W H g x s).2 (ok.2.1.cs hW y1 t1)) (OksG.push oks c.2.1.2.2.2.1 ok (by omega)) f2 d2 e2
      · refine c_saw_x3 F c w x1 (by omega) h3 (Or.inr (Or.inr ⟨rfl, q1, q2, D.1, ?_⟩))
        refine o_saw D d w ok.2.1 (fun z => absurd hc z) (fun _ z => absurd hu z) (fun y t y1 e t1 e1 z r M2 f2 d2 e2 => k_thr D ha hK c ok oks (by decide) f2 d2 e2) (fun y t y1 e t1 e1 z => ?_)
        rw [n_eq (by omega) (by omega)] at e e1
        subst e; subst e1; exact absurd z h3
    · exact c_saw_x2 F c w hc hu (Or.inr (Or.inl ⟨rfl, q1, q2, D.1, o_saw D d w ok.2.1 (fun z => absurd hc z) (fun _ _ r M2 f2 d2 e2 => k_thr D ha hK c ok oks (by decide) f2 d2 e2) (fun y t y1 e t1 e1 => absurd ⟨by rw [e1, i_toInt t (by omega)]; omega, by rw [e1, i_toInt t (by omega)]; omega⟩ hu) (fun y t y1 e t1 e1 => absurd ⟨by rw [e1, i_toInt t (by omega)]; omega, by rw [e1, i_toInt t (by omega)]; omega⟩ hu)⟩))
  · exact c_saw_x F c w hc (Or.inl ⟨rfl, q1, q2, D.1, o_saw D d w ok.2.1 (fun _ r M2 f2 d2 e2 => k_thr D ha hK c ok oks (by decide) f2 d2 e2) (fun z => absurd z hc) (fun y t y1 e => absurd (by rw [e]; exact isC_n y1 h49) hc) (fun y t y1 e => absurd (by rw [e]; exact isC_n y1 h49) hc)⟩)
theorem st_sa {v u x : Int32} {G1 G2 G3 : Prop} (F : FieldAt Z a) (D : ModAt Z m) (ho : zK Z o = 9 ∧ zN Z o = 1) (ha : a + 77 ≤ m) (hT : T < 900000) (hK : ∀ M1, Inv a m (T + 49) M1 → K M1) (q1 : G1) (q2 : G2) (q3 : G3) (I : Inv a m T M) :
    G1 ∧ (G2 ∧ (G3 ∧ (P_L_sawAround Z M a v u x o (fun rc Mc => G1 ∧ (G2 ∧ (G3 ∧ (zK Z m = 6 ∧ (P_X6_sawAround Z Mc m v u x (fun r M2 => Tail Z m o rc r K M2))))))))) := by
  obtain ⟨g, sk, n, ns, tx, len, W, H, c, d, ok, oks⟩ := I
  have w := ok.1
  have h49 : W * H ≤ 49 := wh_lt w.2.2.2.1 w.2.2.2.2.2
  have hW7 := w.2.2.2.1
  have hH7 := w.2.2.2.2.2
  refine ⟨q1, q2, q3, ?_⟩
  unfold P_L_sawAround B_L_sawAround_0
  refine ⟨F.1.1, ?_⟩
  by_cases hc : isC W H v
  · obtain ⟨y, y1, rfl⟩ := isC_ex hc
    have hz := Nat.zero_le (y / W)
    by_cases hR : isR W H y u x
    · have hR2 := hR
      unfold isR at hR2
      obtain ⟨p, p1, rfl⟩ := small_ex (n := 7) (by omega) hR2.2.1 (by omega)
      obtain ⟨q, p2, rfl⟩ := small_ex (n := 7) (by omega) hR2.2.2.2.1 (by omega)
      rw [i_toInt p (by omega), i_toInt q (by omega)] at hR2
      refine c_sa F c w y1 (by omega) (by omega) (by omega) (by omega) hR (fun M1 f1 c1 => ⟨ho.1, v9 ho, q1, q2, q3, D.1, ?_⟩)
      refine o_sa D ((d.cls f1 ha).j o _) w ok.2.1 (fun z => absurd hc z) (fun y' h1 e z => ?_) (fun y' b b' h1 e _ h2 h3 e1 e2 h4 h5 M2 f2 d2 ct _ e3 => ?_)
      · rw [n_eq (by omega) (by omega)] at e
        subst e; exact absurd hR z
      · rw [n_eq (by omega) (by omega)] at e
        subst e
        rw [n_eq (by omega) (by omega)] at e1
        subst e1
        rw [n_eq (by omega) (by omega)] at e2
        subst e2
        exact k_ok D ho ha hK c1 ((ok.mono (by omega)).ct (rec_same W H g _ _ _).1 (rec_same W H g _ _ _).2 ct) (OksG.push oks c.2.1.2.2.2.1 ok (by omega)) f2 d2 e3
    · refine c_sa_x2 F c w y1 hR (Or.inr ⟨rfl, q1, q2, q3, D.1, ?_⟩)
      refine o_sa D d w ok.2.1 (fun z => absurd hc z) (fun y' h1 e z r M2 f2 d2 e2 => k_thr D ha hK c ok oks (by decide) f2 d2 e2) (fun y' b b' h1 e z => ?_)
      rw [n_eq (by omega) (by omega)] at e
      subst e; exact absurd z hR
  · exact c_sa_x F c w hc (Or.inl ⟨rfl, q1, q2, q3, D.1, o_sa D d w ok.2.1 (fun _ r M2 f2 d2 e2 => k_thr D ha hK c ok oks (by decide) f2 d2 e2) (fun y y1 e => absurd (by rw [e]; exact isC_n y1 h49) hc) (fun y b b' y1 e => absurd (by rw [e]; exact isC_n y1 h49) hc)⟩)
theorem st_cuts {v u x : Int32} {G1 G2 G3 : Prop} (F : FieldAt Z a) (D : ModAt Z m) (ho : zK Z o = 9 ∧ zN Z o = 1) (ha : a + 77 ≤ m) (hT : T < 900000) (hK : ∀ M1, Inv a m (T + 49) M1 → K M1) (q1 : G1) (q2 : G2) (q3 : G3) (I : Inv a m T M) :
    G1 ∧ (G2 ∧ (G3 ∧ (P_L_cutsAround Z M a v u x o (fun rc Mc => G1 ∧ (G2 ∧ (G3 ∧ (zK Z m = 6 ∧ (P_X6_cutsAround Z Mc m v u x (fun r M2 => Tail Z m o rc r K M2))))))))) := by
  obtain ⟨g, sk, n, ns, tx, len, W, H, c, d, ok, oks⟩ := I
  have w := ok.1
  have h49 : W * H ≤ 49 := wh_lt w.2.2.2.1 w.2.2.2.2.2
  have hW7 := w.2.2.2.1
  have hH7 := w.2.2.2.2.2
  refine ⟨q1, q2, q3, ?_⟩
  unfold P_L_cutsAround B_L_cutsAround_0
  refine ⟨F.1.1, ?_⟩
  by_cases hc : isC W H v
  · obtain ⟨y, y1, rfl⟩ := isC_ex hc
    have hz := Nat.zero_le (y / W)
    by_cases hR : isR W H y u x
    · have hR2 := hR
      unfold isR at hR2
      obtain ⟨p, p1, rfl⟩ := small_ex (n := 7) (by omega) hR2.2.1 (by omega)
      obtain ⟨q, p2, rfl⟩ := small_ex (n := 7) (by omega) hR2.2.2.2.1 (by omega)
      rw [i_toInt p (by omega), i_toInt q (by omega)] at hR2
      refine c_cuts F c w y1 (by omega) (by omega) (by omega) (by omega) hR (fun M1 f1 c1 => ⟨ho.1, v9 ho, q1, q2, q3, D.1, ?_⟩)
      refine o_cuts D ((d.cls f1 ha).j o _) w ok.2.1 (fun z => absurd hc z) (fun y' h1 e z => ?_) (fun y' b b' h1 e _ h2 h3 e1 e2 h4 h5 M2 f2 d2 e3 => ?_)
      · rw [n_eq (by omega) (by omega)] at e
        subst e; exact absurd hR z
      · rw [n_eq (by omega) (by omega)] at e
        subst e
        rw [n_eq (by omega) (by omega)] at e1
        subst e1
        rw [n_eq (by omega) (by omega)] at e2
        subst e2
        exact k_ok D ho ha hK c1 (ok.mono (by omega)) (OksG.mono oks (by omega)) f2 d2 e3
    · refine c_cuts_x2 F c w y1 hR (Or.inr ⟨rfl, q1, q2, q3, D.1, ?_⟩)
      refine o_cuts D d w ok.2.1 (fun z => absurd hc z) (fun y' h1 e z r M2 f2 d2 e2 => k_thr D ha hK c ok oks (by decide) f2 d2 e2) (fun y' b b' h1 e z => ?_)
      rw [n_eq (by omega) (by omega)] at e
      subst e; exact absurd z hR
  · exact c_cuts_x F c w hc (Or.inl ⟨rfl, q1, q2, q3, D.1, o_cuts D d w ok.2.1 (fun _ r M2 f2 d2 e2 => k_thr D ha hK c ok oks (by decide) f2 d2 e2) (fun y y1 e => absurd (by rw [e]; exact isC_n y1 h49) hc) (fun y b b' y1 e => absurd (by rw [e]; exact isC_n y1 h49) hc)⟩)
theorem st_to {v : Int32} {G1 : Prop} (F : FieldAt Z a) (D : ModAt Z m) (ho : zK Z o = 9 ∧ zN Z o = 1) (ha : a + 77 ≤ m) (hT : T < 900000) (hK : ∀ M1, Inv a m (T + 49) M1 → K M1) (q1 : G1) (I : Inv a m T M) :
    G1 ∧ (P_L_takeOut Z M a v o (fun rc Mc => G1 ∧ (zK Z m = 6 ∧ (P_X6_takeOut Z Mc m v (fun r M2 => Tail Z m o rc r K M2))))) := by
  obtain ⟨g, sk, n, ns, tx, len, W, H, c, d, ok, oks⟩ := I
  have w := ok.1
  have h49 : W * H ≤ 49 := wh_lt w.2.2.2.1 w.2.2.2.2.2
  obtain ⟨tb, htb, htb2⟩ := ok.2.2.2
  refine ⟨q1, ?_⟩
  unfold P_L_takeOut B_L_takeOut_0
  refine ⟨F.1.1, ?_⟩
  by_cases hc : isC W H v
  · obtain ⟨x, x1, rfl⟩ := isC_ex hc
    refine c_to F c w x1 htb (by omega) (fun hno M1 f1 c1 => Or.inr ⟨rfl, q1, D.1, ?_⟩) (fun r r1 hr hf M1 f1 c1 => ⟨ho.1, v9 ho, q1, D.1, ?_⟩)
    · refine o_to D (d.cls f1 ha) w ok.2.1 htb (by omega) (fun z => absurd hc z) (fun y y1 e _ r M2 f2 d2 e2 => k_thr D ha hK c1 ok oks (by decide) f2 d2 e2) (fun y r y1 e r1 hr hf => ?_)
      rw [n_eq (by omega) (by omega)] at e
      subst e
      exact absurd hf (hno r r1 hr)
    · refine o_to D ((d.cls f1 ha).j o _) w ok.2.1 htb (by omega) (fun z => absurd hc z) (fun y y1 e z => ?_) (fun y r' y1 e r1' hr' hf' M2 f2 d2 e2 => ?_)
      · rw [n_eq (by omega) (by omega)] at e
        subst e
        exact absurd hf (z r r1 hr)
      · rw [n_eq (by omega) (by omega)] at e
        subst e
        rw [hr, n_eq (by omega) (by omega)] at hr'
        subst hr'
        exact k_ok D ho ha hK c1 ((ok.tak r).mono (by omega)) (OksG.push oks c.2.1.2.2.2.1 ok (by omega)) f2 d2 e2
  · exact c_to_x F c w hc (Or.inl ⟨rfl, q1, D.1, o_to D d w ok.2.1 htb (by omega) (fun _ r M2 f2 d2 e2 => k_thr D ha hK c ok oks (by decide) f2 d2 e2) (fun y y1 e => absurd (by rw [e]; exact isC_n y1 h49) hc) (fun y r y1 e => absurd (by rw [e]; exact isC_n y1 h49) hc)⟩)
theorem st_sm {u : Int32} {G1 : Prop} (F : FieldAt Z a) (D : ModAt Z m) (ho : zK Z o = 9 ∧ zN Z o = 1) (ha : a + 77 ≤ m) (hT : T < 900000) (hK : ∀ M1, Inv a m (T + 49) M1 → K M1) (q1 : G1) (I : Inv a m T M) :
    G1 ∧ (P_L_setMelt Z M a u o (fun rc Mc => G1 ∧ (zK Z m = 6 ∧ (P_X6_setMelt Z Mc m u (fun r M2 => Tail Z m o rc r K M2))))) := by
  obtain ⟨g, sk, n, ns, tx, len, W, H, c, d, ok, oks⟩ := I
  refine ⟨q1, ?_⟩
  unfold P_L_setMelt B_L_setMelt_0
  refine ⟨F.1.1, ?_⟩
  by_cases hu : 0 ≤ u.toInt ∧ u.toInt ≤ 9
  · refine c_sm F c hu (fun M1 f1 c1 => ⟨ho.1, v9 ho, q1, D.1, ?_⟩)
    exact o_sm D ((d.cls f1 ha).j o _) (fun z => absurd hu z) (fun _ M2 f2 d2 e2 => k_ok D ho ha hK c1 (ok.mlt.mono (by omega)) (OksG.push oks c.2.1.2.2.2.1 ok (by omega)) f2 d2 e2)
  · exact c_sm_x hu ⟨rfl, q1, D.1, o_sm D d (fun _ r M2 f2 d2 e2 => k_thr D ha hK c ok oks (by decide) f2 d2 e2) (fun z => absurd z hu)⟩
theorem st_pass {u : Int32} {G1 : Prop} (F : FieldAt Z a) (D : ModAt Z m) (ho : zK Z o = 9 ∧ zN Z o = 1) (ha : a + 77 ≤ m) (hT : T < 900000) (hK : ∀ M1, Inv a m (T + 49) M1 → K M1) (q1 : G1) (I : Inv a m T M) :
    G1 ∧ (P_L_pass Z M a u o (fun rc Mc => G1 ∧ (zK Z m = 6 ∧ (P_X6_pass Z Mc m u (fun r M2 => Tail Z m o rc r K M2))))) := by
  obtain ⟨g, sk, n, ns, tx, len, W, H, c, d, ok, oks⟩ := I
  have w := ok.1
  refine ⟨q1, ?_⟩
  unfold P_L_pass B_L_pass_0
  refine ⟨F.1.1, ?_⟩
  by_cases hu : 1 ≤ u.toInt ∧ u.toInt ≤ 50
  · obtain ⟨k, k1, rfl⟩ := small_ex (n := 50) (by omega) hu.2 (by omega)
    have hu2 := hu
    rw [i_toInt k (by omega)] at hu2
    refine c_pass F c w ⟨by omega, by omega⟩ (fun M1 f1 c1 => ⟨ho.1, v9 ho, q1, D.1, ?_⟩)
    refine o_pass D ((d.cls f1 ha).j o _) w (fun z => absurd hu z) (fun j j1 j2 e M2 f2 d2 e2 => ?_)
    rw [n_eq (by omega) (by omega)] at e
    subst e
    exact k_ok D ho ha hK c1 ((ok.days k).mono (by omega)) (OksG.push oks c.2.1.2.2.2.1 ok (by omega)) f2 d2 e2
  · exact c_pass_x hu ⟨rfl, q1, D.1, o_pass D d w (fun _ r M2 f2 d2 e2 => k_thr D ha hK c ok oks (by decide) f2 d2 e2) (fun j j1 j2 e => absurd ⟨by rw [e, i_toInt j (by omega)]; omega, by rw [e, i_toInt j (by omega)]; omega⟩ hu)⟩
theorem st_app {u : Int32} {G1 : Prop} (F : FieldAt Z a) (D : ModAt Z m) (ho : zK Z o = 9 ∧ zN Z o = 1) (ha : a + 77 ≤ m) (hT : T < 900000) (hK : ∀ M1, Inv a m (T + 49) M1 → K M1) (q1 : G1) (I : Inv a m T M) :
    G1 ∧ (P_L_append Z M a u o (fun rc Mc => G1 ∧ (zK Z m = 6 ∧ (P_X6_append Z Mc m u (fun r M2 => Tail Z m o rc r K M2))))) := by
  obtain ⟨g, sk, n, ns, tx, len, W, H, c, d, ok, oks⟩ := I
  have hl := c.2.2.2.2
  refine ⟨q1, ?_⟩
  unfold P_L_append B_L_append_0
  refine ⟨F.1.1, ?_⟩
  by_cases hu : 0 ≤ u.toInt ∧ u.toInt ≤ 127
  · by_cases h60 : len = 60
    · exact c_app_x2 F c hu h60 (Or.inr ⟨rfl, q1, D.1, o_app D d hl (fun z => absurd hu z) (fun _ _ r M2 f2 d2 e2 => k_thr D ha hK c ok oks (by decide) f2 d2 e2) (fun _ z => absurd h60 (by omega))⟩)
    · refine c_app F c hu (by omega) (fun M1 f1 c1 => ⟨ho.1, v9 ho, q1, D.1, ?_⟩)
      exact o_app D ((d.cls f1 ha).j o _) hl (fun z => absurd hu z) (fun _ z => absurd z h60) (fun _ _ M2 f2 d2 e2 => k_ok D ho ha hK c1 (ok.mono (by omega)) (OksG.mono oks (by omega)) f2 d2 e2)
  · exact c_app_x hu (Or.inl ⟨rfl, q1, D.1, o_app D d hl (fun _ r M2 f2 d2 e2 => k_thr D ha hK c ok oks (by decide) f2 d2 e2) (fun z => absurd z hu) (fun z => absurd z hu)⟩)
theorem st_undo (F : FieldAt Z a) (D : ModAt Z m) (ho : zK Z o = 9 ∧ zN Z o = 1) (ha : a + 77 ≤ m) (hT : T < 900000) (hK : ∀ M1, Inv a m (T + 49) M1 → K M1) (I : Inv a m T M) :
    P_L_undo Z M a o (fun rc Mc => zK Z m = 6 ∧ (P_X6_undo Z Mc m (fun r M2 => Tail Z m o rc r K M2))) := by
  obtain ⟨g, sk, n, ns, tx, len, W, H, c, d, ok, oks⟩ := I
  have hn4 := c.2.1.2.2.2.1
  unfold P_L_undo B_L_undo_0
  refine ⟨F.1.1, ?_⟩
  by_cases hn : n = 0
  · exact c_undo_x F c hn ⟨rfl, D.1, o_undo D d (fun _ r M2 f2 d2 e2 => k_thr D ha hK c ok oks (by decide) f2 d2 e2) (fun z => absurd hn (by omega))⟩
  · refine c_undo F c (by omega) (fun M1 f1 c1 => ⟨ho.1, v9 ho, D.1, ?_⟩)
    obtain ⟨W1, H1, ok1⟩ := oks (n - 1) (by omega)
    exact o_undo D ((d.cls f1 ha).j o _) (fun z => absurd z hn) (fun _ M2 f2 d2 e2 => k_ok D ho ha hK c1 (ok1.mono (by omega)) (OksG.mono (fun i hi => oks i (by omega)) (by omega)) f2 d2 e2)
end
