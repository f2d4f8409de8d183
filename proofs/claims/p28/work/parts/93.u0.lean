/-! PURE: the law's comparing of both objects -/
section
variable {Z : ZZ} {M : MM} {a b : Nat} {g g1 h : GG} {W H T : Nat} {Q : Int32 → MM → Prop}
theorem Dj.symm (d : Dj a b) : Dj b a := Or.symm d
theorem lp_260 (F : FieldAt Z a) (G : FieldAt Z b) (d : Dj a b) (t : Two W H T g h) {c : Nat} (hc : c < W * H) {K112 : MM → Nat → Nat → Int32 → Int32 → Int32 → Int32 → Prop} (hK : ∀ M1, Own M1 a g → Own M1 b h → K112 M1 a b (nI W) (nI (W * H)) 1 (nI c + 1)) : ∀ k i M, i + k = 5 → 1 ≤ i → Own M a g → Own M b h → L_L_areAlike_260 Z Q K112 (k + 1) M a b (nI W) (nI (W * H)) 1 (nI c) (nI (tau W c)) (nI i) := by
  obtain ⟨hW, hH, h0, hH0, h49⟩ := t.1.le
  have ht := tau_lt hW hH hc
  intro k
  induction k with
  | zero =>
    intro i M hi h1 A B
    obtain rfl : i = 5 := by omega
    show B_L_areAlike_260 Z Q K112 (L_L_areAlike_260 Z Q K112 0) M a b _ _ _ _ _ _
    unfold B_L_areAlike_260
    exact ⟨fun _ => hK M A B, fun q => absurd (by decide) q⟩
  | succ k ih =>
    intro i M hi h1 A B
    show B_L_areAlike_260 Z Q K112 (L_L_areAlike_260 Z Q K112 (k + 1)) M a b _ _ _ _ _ _
    unfold B_L_areAlike_260
    refine ⟨fun q => ?_, fun _ => ⟨fun z => absurd z (by decide), fun _ => ⟨F.1.1, q_block F d t.1.1 A B hc (by omega) (fun M1 A B => ⟨G.1.1, q_block G d.symm t.2.1.1 B A ht (by omega) (fun M2 B A => ⟨fun z => absurd (bf_mir t hc h1 (by omega)) z, fun _ => ?_⟩)⟩)⟩⟩⟩
    · have q : nI 5 ≤ nI i := q
      rw [n_le (by omega) (by omega)] at q; omega
    · unfold B_L_areAlike_295
      rw [nI_1]
      exact ih (i + 1) M2 (by omega) (by omega) A B
theorem lp_112 (F : FieldAt Z a) (G : FieldAt Z b) (d : Dj a b) (t : Two W H T g h) (hQ : ∀ M1, Own M1 a g → Own M1 b h → Q 1 M1) : ∀ k i M, i + k = W * H → Own M a g → Own M b h → L_L_areAlike_112 Z Q (k + 1) M a b (nI W) (nI (W * H)) 1 (nI i) := by
  obtain ⟨hW, hH, h0, hH0, h49⟩ := t.1.le
  intro k
  induction k with
  | zero =>
    intro i M hi A B
    obtain rfl : i = W * H := by omega
    show B_L_areAlike_112 Z Q (L_L_areAlike_112 Z Q 0) M a b _ _ _ _
    unfold B_L_areAlike_112
    exact ⟨fun _ => ⟨Or.inr rfl, hQ M A B⟩, fun q => absurd ((n_le (by omega) (by omega)).mpr (Nat.le_refl _)) q⟩
  | succ k ih =>
    intro i M hi A B
    have hc : i < W * H := by omega
    have ht := tau_lt hW hH hc
    obtain ⟨c0, c1, c2, c3, c4, c6⟩ := cf_mir t hc
    show B_L_areAlike_112 Z Q (L_L_areAlike_112 Z Q (k + 1)) M a b _ _ _ _
    unfold B_L_areAlike_112
    refine ⟨fun q => ?_, fun _ => ⟨fun z => absurd z (by decide), fun _ => q_turned hW h0 (by omega) ⟨F.1.1, ?_⟩⟩⟩
    · rw [n_le (by omega) (by omega)] at q; omega
    refine q_cell (k := 0) F d t.1.1 A B hc (by omega) (fun M1 A B => ⟨G.1.1, q_cell (k := 0) G d.symm t.2.1.1 B A ht (by omega) (fun M1 B A => ⟨fun z => absurd c0 z, fun _ => ?_⟩)⟩)
    refine q_cell (k := 1) F d t.1.1 A B hc (by omega) (fun M1 A B => q_cell (k := 4) G d.symm t.2.1.1 B A ht (by omega) (fun M1 B A => ⟨fun z => absurd c1 z, fun _ => ?_⟩))
    refine q_cell (k := 2) F d t.1.1 A B hc (by omega) (fun M1 A B => q_cell (k := 2) G d.symm t.2.1.1 B A ht (by omega) (fun M1 B A => ⟨fun z => absurd c2 z, fun _ => ?_⟩))
    refine q_cell (k := 3) F d t.1.1 A B hc (by omega) (fun M1 A B => q_cell (k := 3) G d.symm t.2.1.1 B A ht (by omega) (fun M1 B A => ⟨fun z => absurd c3 z, fun _ => ?_⟩))
    refine q_cell (k := 4) F d t.1.1 A B hc (by omega) (fun M1 A B => q_cell (k := 1) G d.symm t.2.1.1 B A ht (by omega) (fun M1 B A => ⟨fun z => absurd c4 z, fun _ => ?_⟩))
    refine q_cell (k := 6) F d t.1.1 A B hc (by omega) (fun M1 A B => q_cell (k := 6) G d.symm t.2.1.1 B A ht (by omega) (fun M1 B A => ⟨fun z => absurd c6 z, fun _ => ?_⟩))
    refine q_dw F d t.1.1 A B hc (fun M1 r hr A B => q_dw G d.symm t.2.1.1 B A ht (fun M2 s hs B A => ⟨fun z => absurd (dw_mir t hc hr hs) z, fun _ => ?_⟩))
    unfold B_L_areAlike_255
    refine ⟨5, lp_260 F G d t hc (fun M1 A B => ?_) 4 1 M2 rfl (by omega) A B⟩
    rw [nI_1]
    exact ih (i + 1) M1 (by omega) A B
theorem lp_69 (F : FieldAt Z a) (G : FieldAt Z b) (d : Dj a b) (t : Two W H T g h) (hQ : ∀ M1, Own M1 a g → Own M1 b h → Q 1 M1) : ∀ k i M, i + k = 14 → Own M a g → Own M b h → L_L_areAlike_69 Z Q (k + 1) M a b (nI W) (nI (W * H)) 1 (nI i) := by
  obtain ⟨hW, hH, h0, hH0, h49⟩ := t.1.le
  intro k
  induction k with
  | zero =>
    intro i M hi A B
    obtain rfl : i = 14 := by omega
    show B_L_areAlike_69 Z Q (L_L_areAlike_69 Z Q 0) M a b _ _ _ _
    unfold B_L_areAlike_69
    exact ⟨fun _ => ⟨W * H + 1, lp_112 F G d t hQ (W * H) 0 M (by omega) A B⟩, fun q => absurd (by decide) q⟩
  | succ k ih =>
    intro i M hi A B
    show B_L_areAlike_69 Z Q (L_L_areAlike_69 Z Q (k + 1)) M a b _ _ _ _
    unfold B_L_areAlike_69
    refine ⟨fun q => ?_, fun _ => ⟨fun z => absurd z (by decide), fun _ => ⟨F.1.1, q_value F d t.1.1 A B (by omega) (fun M1 A B => ⟨G.1.1, q_value G d.symm t.2.1.1 B A (by omega) (fun M2 B A => ⟨fun z => absurd (ff_mir t (by omega)).symm z, fun _ => ?_⟩)⟩)⟩⟩⟩
    · have q : nI 14 ≤ nI i := q
      rw [n_le (by omega) (by omega)] at q; omega
    · unfold B_L_areAlike_101
      rw [nI_1]
      exact ih (i + 1) M2 (by omega) A B
theorem alike_ok (F : FieldAt Z a) (G : FieldAt Z b) (d : Dj a b) (t : Two W H T g h) (hT : T < 900000) (A : Own M a g) (B : Own M b h) (hQ : ∀ M1, Own M1 a g → Own M1 b h → Q 1 M1) : P_L_areAlike Z M a b Q := by
  obtain ⟨hW, hH, h0, hH0, h49⟩ := t.1.le
  obtain ⟨k, g1, k49, t1⟩ := tk_of t.1.1
  obtain ⟨j, h1, j49, t2⟩ := tk_of t.2.1.1
  obtain ⟨kj, ls⟩ := ls_mir t t1 t2
  have e0 : ffS W H g 0 = nI W := t.1.1.1
  have e1 : ffS W H g 1 = nI H := t.1.1.2.1
  have eh : hvG h = hvG g := hv_mir t.2.2.2.2
  unfold P_L_areAlike B_L_areAlike_0
  refine ⟨F.1.1, q_value (k := 0) F d t.1.1 A B (by omega) (fun M1 A B => q_value (k := 1) F d t.1.1 A B (by omega) (fun M1 A B => q_takable F d t.1 hT A B t1 k49 (fun M1 A B => ⟨G.1.1, q_takable G d.symm t.2.1 hT B A t2 j49 (fun M1 B A => ⟨fun z => absurd (congrArg nI kj) z, fun _ => ?_⟩)⟩)))⟩
  refine q_left F d t.1 hT A B t1 k49 (fun M1 A B => q_left G d.symm t.2.1 hT B A t2 j49 (fun M1 B A => ⟨fun z => absurd ls z, fun _ => ?_⟩))
  refine q_dtw F d t.1.1 A B (fun M1 r hr A B => q_dtw G d.symm t.2.1.1 B A (fun M1 s hs B A => ⟨fun z => absurd (dtw_mir t hr hs) z, fun _ => ?_⟩))
  refine q_harvest F A (q_harvest G B ⟨fun z => absurd ?_ z, fun _ => ?_⟩)
  · rw [eh]; exact hv_self g
  · unfold B_L_areAlike_64
    rw [e0, e1, n_mul]
    exact ⟨15, lp_69 F G d t hQ 14 0 M1 rfl A B⟩
end
