/-! PURE: the law's loop and its end -/
section
variable {Z : ZZ} {M : MM} {a b : Nat} {g g1 h h1 : GG} {W H T : Nat}
theorem push_last {sk : Nat → GG} {n : Nat} (hn : n ≤ 4) : pushS sk n g (pc n - 1) = g ∧ 0 < pc n := by
  unfold pushS pc
  by_cases e : n = 4
  · rw [if_pos e, if_pos e]
    exact ⟨rfl, by omega⟩
  · rw [if_neg e, if_neg e]
    refine ⟨?_, by omega⟩
    show (if n + 1 - 1 = n then g else sk (n + 1 - 1)) = g
    rw [if_pos (by omega)]
theorem tk_end : ∀ k g g1, TkR W H k g g1 → ∀ m, m < W * H → ¬ flG W H g1 m := by
  intro k
  induction k with
  | zero => intro g g1 t; rw [t.1]; exact t.2
  | succ k ih => intro g g1 ⟨n, n1, n2⟩; exact ih _ _ n2
theorem end_45 (o : OkG g1 W H T) {k : Nat} (t : TkR W H k g g1) : ffS W H g1 4 = ffS W H g1 5 := by
  obtain ⟨hW, hH, h0, hH0, h49⟩ := o.le
  show nI (cnP (looG W H g1) 49) = nI (cnP (stG W H g1) (W * H))
  rw [cnP_zero (P := looG W H g1) h49 (fun i p q z => by have := (lbG_root h0 h49 q z.1).1; omega)]
  congr 1
  refine cnP_ext (fun i hi => ⟨fun z => ⟨z, Classical.byContradiction (fun q => tk_end k g g1 t i hi ⟨z, q⟩)⟩, fun z => z.1⟩)
theorem law_end {L : Nat} {xs : Nat → Int32} (F : FieldAt Z a) (o : OkG g W H T) (hT : T < 900000) (A : Own M a g) : B_L_law_73 Z L xs M a 1 := by
  obtain ⟨sk, n, ns, tx, len, c⟩ := A
  obtain ⟨k, g1, k49, t⟩ := tk_of o.1
  obtain ⟨tb, t1, t2⟩ := o.tb
  have o1 := OkG.tk k g g1 T t o
  have hn4 := c.2.1.2.2.2.1
  unfold B_L_law_73
  refine ⟨F.1.1, c_value (k := 10) F c o.1 (by omega) (fun M1 _ c => c_value (k := 11) F c o.1 (by omega) (fun M1 _ c => c_takable F c o.1 t k49 t1 (by omega) (fun M1 _ c => ⟨fun z => absurd z (by decide), fun _ => c_ta F c o.1 t k49 t1 (by omega) (fun M1 _ c w1 _ => ⟨fun z => absurd rfl z, fun _ => c_value (k := 4) F c w1 (by omega) (fun M1 _ c => c_value (k := 5) F c w1 (by omega) (fun M1 _ c => ⟨fun z => absurd (end_45 o1 t) z, fun _ => ?_⟩))⟩)⟩)))⟩
  obtain ⟨p1, p2⟩ := push_last (g := g) (sk := sk) hn4
  refine c_undo F c p2 (fun M1 _ c => ⟨fun z => ?_, fun _ => ?_⟩)
  · have := c.2.1.2.2.2.1
    exact absurd z (i_nn _ (by omega))
  rw [p1] at c
  exact c_value (k := 10) F c o.1 (by omega) (fun M1 _ c => ⟨fun z => absurd rfl z, fun _ => c_value (k := 11) F c o.1 (by omega) (fun M1 _ c => ⟨fun z => absurd rfl z, fun _ => c_takable F c o.1 t k49 t1 (by omega) (fun M1 _ c => ⟨fun z => absurd rfl z, fun _ => trivial⟩)⟩)⟩)
theorem law_loop {L : Nat} {xs : Nat → Int32} (hL : L ≤ 260) (F : FieldAt Z a) (G : FieldAt Z b) (d : Dj a b) : ∀ k i M W H g h, i + k = 34 → Two W H (49 * i) g h → Own M a g → Own M b h → L_L_law_21 Z L xs (k + 1) M a b 1 (nI i) := by
  intro k
  induction k with
  | zero =>
    intro i M W H g h hi t A B
    obtain rfl : i = 34 := by omega
    show B_L_law_21 Z L xs (L_L_law_21 Z L xs 0) M a b 1 (nI 34)
    unfold B_L_law_21
    exact ⟨fun _ => law_end F t.1 (by omega) A, fun q => absurd (by decide) q⟩
  | succ k ih =>
    intro i M W H g h hi t A B
    show B_L_law_21 Z L xs (L_L_law_21 Z L xs (k + 1)) M a b 1 (nI i)
    unfold B_L_law_21
    refine ⟨fun q => ?_, fun _ => ⟨fun z => absurd z (by decide), fun _ => ?_⟩⟩
    · have q : nI 34 ≤ nI i := q
      rw [n_le (by omega) (by omega)] at q; omega
    unfold P_L_cell B_L_cell_0
    refine ⟨fun _ => ?_, fun q => ⟨?_, ?_⟩⟩
    · exact step_ok F G d t (by omega) (fun M W H g h t A B => ⟨fun z => absurd z (by decide), fun _ => alike_ok F G d t (by omega) A B (fun M A B => ⟨fun z => absurd z (by decide), fun _ => sound_ok F d t.1 t.2.2.1 (by omega) A B (fun M A B => ⟨fun z => absurd z (by decide), fun _ => by
        unfold B_L_law_66
        rw [nI_1]
        exact ih (i + 1) M W H g h (by omega) (t.mono (by omega)) A B⟩)⟩)⟩) A B
    · rw [n_le (by omega) (by omega)] at q
      exact vpn (by omega) (by omega)
    · exact step_ok F G d t (by omega) (fun M W H g h t A B => ⟨fun z => absurd z (by decide), fun _ => alike_ok F G d t (by omega) A B (fun M A B => ⟨fun z => absurd z (by decide), fun _ => sound_ok F d t.1 t.2.2.1 (by omega) A B (fun M A B => ⟨fun z => absurd z (by decide), fun _ => by
        unfold B_L_law_66
        rw [nI_1]
        exact ih (i + 1) M W H g h (by omega) (t.mono (by omega)) A B⟩)⟩)⟩) A B
theorem pure_main2 {L : Nat} {xs : Nat → Int32} {sz : Nat} (hL : L ≤ 260) : pure_goal L xs sz := by
  have ok : Two 4 4 (49 * 0) G0 G0 := by
    have o : OkG G0 4 4 (49 * 0) := (ok_beg (by omega) (by omega) (by omega) (by omega)).adds _ 16 (by omega)
    obtain ⟨x, y, z⟩ := adds_f (g := begS g00 4 4) (fun _ => 10) 16
    have w : OkW G0 := by
      refine ⟨fun c hc => ?_, ⟨1, by omega, ?_⟩, ?_⟩
      · show ∃ t, t ≤ 50 ∧ gt (addsS (begS g00 4 4) (fun _ => 10) 16) c = nI t
        rw [y c]
        by_cases q : c < 16
        · rw [if_pos q]; exact ⟨10, by omega, Int32.zero_add _⟩
        · rw [if_neg q]; exact ⟨0, by omega, rfl⟩
      · show gs (addsS (begS g00 4 4) (fun _ => 10) 16) 2 = nI 1
        rw [x 2]; rfl
      · refine Cons.adds (g := begS g00 4 4) ?_ _ 16 (by omega)
        show (0 : Int32) = sm (fun _ => 0) 49 + 0 + 0
        rw [sm_0]; rfl
    refine ⟨o, o, w, w, fun _ _ => rfl, fun c hc => ?_, fun q _ _ => ?_⟩
    · show gt (addsS (begS g00 4 4) (fun _ => 10) 16) (tau 4 c) = gt (addsS (begS g00 4 4) (fun _ => 10) 16) c
      have := tau_lt (W := 4) (H := 4) (by omega) (by omega) hc
      rw [y, y, if_pos this, if_pos hc]
      rfl
    · show gc (addsS (begS g00 4 4) (fun _ => 10) 16) (mu 4 q) = gc (addsS (begS g00 4 4) (fun _ => 10) 16) q
      rw [z]; rfl
  unfold pure_goal
  refine field_init (fun s1 Z1 M1 h1 F1 c1 => field_init2 (fun s2 Z2 M2 h2 F2 c2 U => ?_))
  have F3 : FieldAt Z2 sz := F1.ex U.1 U.2.1 (Nat.zero_le _) h1
  exact law_loop hL F3 F2 (Or.inl h1) 34 0 M2 4 4 G0 G0 rfl ok ⟨_, _, _, _, _, c1.up U.2.2 h1⟩ ⟨_, _, _, _, _, c2⟩
end
