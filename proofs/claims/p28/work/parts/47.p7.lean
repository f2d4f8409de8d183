/-! PURE: spreading, finding -/
def SpP (W H : Nat) (th ct lb0 hl0 : Nat → Int32) (n0 : Nat) (lb hl : Nat → Int32) : Prop :=
  (∀ c, c < 49 → lb c ≠ nI n0 → lb c = lb0 c) ∧ (∀ c, c < 49 → lb c = nI n0 → c < W * H ∧ ¬ th c ≤ 0 ∧ Conn W H th ct n0 c ∧ lb0 c = -1) ∧ lb n0 = nI n0 ∧
  (∀ u v, Hang W H th ct u v → lb u ≠ -1 → lb v = lb u) ∧ (∀ n, n < 49 → n ≠ n0 → hl n = hl0 n) ∧ (hl n0 = 0 ↔ ¬ heldP W ct lb (nI n0))
theorem SpI.post {W H : Nat} {th ct lb0 hl0 lb hl q : Nat → Int32} {n0 e nx : Nat} (hW : 0 < W) (hWH : W ≤ W * H) (h49 : W * H ≤ 49) (hn : n0 < W * H) (hcl : ∀ u v, Hang W H th ct u v → lb0 u ≠ -1 → lb0 v = lb0 u) (h : SpI W H th ct lb0 hl0 n0 lb hl q e nx 0 nx) (he : e ≤ nx) : SpP W H th ct lb0 hl0 n0 lb hl := by
  obtain ⟨I1, I2, I3, I4, I5, I6, I7, I8⟩ := h
  have A2 : ∀ c, c < 49 → lb c = nI n0 → c < W * H ∧ ¬ th c ≤ 0 ∧ Conn W H th ct n0 c ∧ lb0 c = -1 := by
    intro c hc z
    obtain ⟨j, j1, j2⟩ := (I1 c hc).mp z
    obtain ⟨d, d1, d2, d3, d4, d5⟩ := I3 j j1
    have : d = c := by
      have := d1.symm.trans j2
      rwa [n_eq (by omega) (by omega)] at this
    subst this
    exact ⟨d2, d3, d4, d5⟩
  have A4 : ∀ u v, Hang W H th ct u v → lb u ≠ -1 → lb v = lb u := by
    intro u v huv z
    have hv := huv.lt hW
    have hu := huv.1
    by_cases z2 : lb u = nI n0
    · obtain ⟨j, j1, j2⟩ := (I1 u (by omega)).mp z2
      obtain ⟨_, _, h3, s, h4, h5, h6⟩ := huv
      rw [z2]
      exact I4 j j1 u j2 (by omega) s h4 (by omega) v h5 h6 h3
    · have z3 := I2 u (by omega) z2
      rw [z3] at z
      have z4 := hcl u v huv z
      by_cases z5 : lb v = nI n0
      · have z6 := (A2 v (by omega) z5).2.2.2
        rw [z4] at z6
        exact absurd z6 z
      · rw [I2 v (by omega) z5, z4, z3]
  have A3 : lb n0 = nI n0 := by
    obtain ⟨d, d1, d2, d3, d4, d5⟩ := I3 0 (by omega)
    have e1 : lb d = nI n0 := (I1 d (by omega)).mpr ⟨0, by omega, d1⟩
    have e2 := (d4.symm hW) (fun c => lb c = nI n0) e1 (fun a b h1 h2 => by
      rw [A4 a b h2 (by rw [h1]; exact i_n1 n0 (by omega))]; exact h1)
    exact e2
  refine ⟨I2, A2, A3, A4, I5, ?_⟩
  rw [I6]
  refine not_congr ⟨fun ⟨j, j1, j2, c, c1, c2, c3⟩ => ⟨c, c1, (I1 c (by omega)).mpr ⟨j, j2, c2⟩, c3⟩, fun ⟨c, c1, c2, c3⟩ => ?_⟩
  obtain ⟨j, j1, j2⟩ := (I1 c (by omega)).mp c2
  exact ⟨j, by omega, j1, c, c1, j2, c3⟩
theorem w_le {W H : Nat} (hH : 0 < H) : W ≤ W * H := Nat.le_mul_of_pos_right W hH
theorem sp_spread {Z : ZZ} {M : MM} {x b : Nat} {g : GG} {W H : Nat} {Q : MM → Prop} (h : IceAt Z x) (hb : BlkAt Z b) (hd : x + 9 ≤ b ∨ b + 7 ≤ x) (t : IceS M x g) (w : WH g W H) {n0 : Nat} (hn : n0 < W * H) (hi : ¬ gt g n0 ≤ 0) (hl1 : mA M (b + 2) n0 = -1)
    (hcl : ∀ u v, Hang W H (gt g) (gc g) u v → mA M (b + 2) u ≠ -1 → mA M (b + 2) v = mA M (b + 2) u) (hno : ∀ c, c < 49 → mA M (b + 2) c ≠ nI n0) (hh0 : mA M (b + 4) n0 = 0)
    (hQ : ∀ M1, Fr [b + 2, b + 4, b + 6] [] M M1 → SpP W H (gt g) (gc g) (mA M (b + 2)) (mA M (b + 4)) n0 (mA M1 (b + 2)) (mA M1 (b + 4)) → Q M1) : P_X0_spread Z M b x (nI n0) Q := by
  have hW : 0 < W := by have := w.2.2.1; omega
  have hWH : W ≤ W * H := w_le (by have := w.2.2.2.2.1; omega)
  have h49 : W * H ≤ 49 := wh_lt w.2.2.2.1 w.2.2.2.2.2
  have hb0 := hb
  obtain ⟨b1, b2, b3, b4, b5, b6, b7⟩ := hb
  unfold P_X0_spread B_X0_spread_0
  refine ⟨b1, b + 1, b2, b5.1, (sp_put b5).mpr ⟨b + 5, b4, b7.1, ?_⟩⟩
  rw [show (0 : Int32) = nI 0 from rfl]
  refine (sp_put b7).mpr ⟨50, ?_⟩
  rw [pput_n (by omega) (by omega), pput_n (by omega) (by omega), mA_ne _ _ _ (by omega : b + 6 ≠ b + 2)]
  refine for_up2 49 (fun n i e M' => L_X0_spread_23 Z Q n M' b x (nI n0) (nI e) (nI i)) (fun i e M' => Fr [b + 2, b + 4, b + 6] [] M M' ∧ SpI W H (gt g) (gc g) (mA M (b + 2)) (mA M (b + 4)) n0 (mA M' (b + 2)) (mA M' (b + 4)) (mA M' (b + 6)) e i 0 i) ?_ ?_ 49 0 1 _ rfl ⟨?_, ?_⟩
  · intro n i e M' hi' ⟨f, I⟩ k
    have t1 : IceS M' x g := t.frame f (by simp) (by simp; omega) (by simp; omega) (by simp; omega)
    have I7 := I.2.2.2.2.2.2.1
    show B_X0_spread_23 Z Q (L_X0_spread_23 Z Q n) M' b x (nI n0) (nI e) (nI i)
    unfold B_X0_spread_23 B_X0_spread_65
    refine ⟨fun z => ?_, fun z => ⟨fun z2 => ?_, fun z2 => ?_⟩⟩
    · rw [n_le (by omega) (by omega)] at z
      exact hQ M' f (I.post hW hWH h49 hn hcl z)
    · rw [show (49 : Int32) = nI 49 from rfl, n_le (by omega) (by omega)] at z2
      omega
    · rw [n_le (by omega) (by omega)] at z
      obtain ⟨I1, I2, I3, I4, I5, I6, I7', I8⟩ := I
      obtain ⟨c, c1, c2, c3, c4, c5⟩ := I3 i (by omega)
      refine ⟨b1, b + 5, b4, b7.1, (sp_at b7).mpr ?_⟩
      rw [gat_n (by omega) (by omega), c1]
      refine ⟨h.1, (sp_tied h t1 w (by omega)).mpr ⟨fun z3 => ?_, fun z3 => ?_⟩⟩
      · rw [bI_0] at z3
        refine lp_spread_in h hb0 hd t1 w (by omega) c2 c3 c4 c5 hcl (by omega : i < e) ⟨I1, I2, I3, I4, I5, ?_, I7, I8⟩ c1 (fun M1 e1 f1 I' => k e1 M1 ⟨f.trans (f1.mono (by simp) (by simp)), I'⟩)
        rw [I6]
        refine not_congr ⟨fun ⟨j, j1, j2⟩ => ⟨j, by omega, j2⟩, fun ⟨j, j1, j2, d, d1, d2, d3⟩ => ?_⟩
        by_cases z4 : j = i
        · subst z4
          have : d = c := by
            have := d2.symm.trans c1
            rwa [n_eq (by omega) (by omega)] at this
          subst this
          exact absurd ⟨d1, d3⟩ z3
        · exact ⟨j, by omega, j2, d, d1, d2, d3⟩
      · rw [bI_0, Classical.not_not] at z3
        refine ⟨b + 3, b3, b6.1, (sp_put b6).mpr ?_⟩
        rw [pput_n (by omega) (by omega)]
        have f2 : Fr [b + 4] [] M' (setA M' (b + 4) (upd (mA M' (b + 4)) n0 1)) := Fr.setA _ _ _
        have t2 := t1.frame f2 (by simp) (by simp; omega) (by simp; omega) (by simp; omega)
        refine lp_spread_in h hb0 hd t2 w (by omega) c2 c3 c4 c5 hcl (by omega : i < e) ?_ ?_ (fun M1 e1 f1 I' => k e1 M1 ⟨(f.trans (f2.mono (by simp) (by simp))).trans (f1.mono (by simp) (by simp)), I'⟩)
        · rw [mA_ne _ _ _ (by omega : b + 2 ≠ b + 4), mA_ne _ _ _ (by omega : b + 6 ≠ b + 4), mA_same]
          refine ⟨I1, I2, I3, I4, fun m hm hm2 => ?_, ?_, I7, I8⟩
          · rw [upd_ne _ _ hm2]; exact I5 m hm hm2
          · rw [upd_same]
            exact ⟨fun z5 => absurd z5 (by decide), fun z5 => absurd ⟨i, by omega, by omega, c, z3.1, c1, z3.2⟩ z5⟩
        · rw [mA_ne _ _ _ (by omega)]; exact c1
  · intro n e M' ⟨f, I⟩
    have I7 := I.2.2.2.2.2.2.1
    show B_X0_spread_23 Z Q (L_X0_spread_23 Z Q n) M' b x (nI n0) (nI e) (nI 49)
    unfold B_X0_spread_23
    refine ⟨fun z => hQ M' f (I.post hW hWH h49 hn hcl (by omega)), fun z => absurd ?_ z⟩
    rw [n_le (by omega) (by omega)]; omega
  · exact (Fr.mono (Fr.setA _ _ _) (by simp) (by simp)).trans (Fr.mono (Fr.setA _ _ _) (by simp) (by simp))
  · rw [mA_same, mA_ne _ _ _ (by omega : b + 2 ≠ b + 6), mA_same, mA_ne _ _ _ (by omega : b + 4 ≠ b + 6), mA_ne _ _ _ (by omega : b + 4 ≠ b + 2)]
    refine ⟨fun c hc => ?_, fun c hc z => ?_, fun j hj => ?_, fun j hj c _ _ s _ hor => ?_, fun _ _ _ => rfl, ?_, ?_, by omega⟩
    · rw [upd_at]
      by_cases e : c = n0
      · subst e; rw [if_pos rfl]; exact ⟨fun _ => ⟨0, by omega, upd_same _ _ _⟩, fun _ => rfl⟩
      · rw [if_neg e]
        refine ⟨fun z => absurd z (hno c hc), fun ⟨j, j1, j2⟩ => ?_⟩
        have : j = 0 := by omega
        subst this
        rw [upd_same, n_eq (by omega) (by omega)] at j2
        exact absurd j2.symm e
    · rw [upd_at] at z ⊢
      by_cases e : c = n0
      · rw [if_pos e] at z; exact absurd rfl z
      · rw [if_neg e]
    · have : j = 0 := by omega
      subst this
      exact ⟨n0, upd_same _ _ _, hn, hi, Conn.refl _, hl1⟩
    · omega
    · exact ⟨fun _ => fun ⟨j, j1, _⟩ => by omega, fun _ => hh0⟩
    · have := cnE_upd (v2 := nI n0) (by omega : n0 < 49) hl1 (i_n1 n0 (by omega))
      have h2 := cnE_le (mA M (b + 2)) (-1) 49
      omega
/-- the class has found the blocks -/
def BlkS (M : MM) (b W H : Nat) (th ct : Nat → Int32) : Prop := (∀ c, c < 49 → mA M (b + 2) c = labS W H th ct c) ∧ (∀ n, n < 49 → labS W H th ct n = nI n → (mA M (b + 4) n = 0 ↔ ¬ heldP W ct (labS W H th ct) (nI n)))
def FiI (W H : Nat) (th ct lb hl : Nat → Int32) (i : Nat) : Prop :=
  (∀ c, c < 49 → lb c = -1 ∨ ∃ k, k < i ∧ k ≤ c ∧ lb c = nI k ∧ Conn W H th ct k c ∧ c < W * H ∧ ¬ th c ≤ 0) ∧ (∀ u v, Hang W H th ct u v → lb u ≠ -1 → lb v = lb u) ∧ (∀ c, c < i → ¬ th c ≤ 0 → lb c ≠ -1) ∧ (∀ n, n < 49 → (hl n = 0 ↔ ¬ heldP W ct lb (nI n)))
theorem sp_find {Z : ZZ} {M : MM} {x b : Nat} {g : GG} {W H : Nat} {Q : MM → Prop} (h : IceAt Z x) (hb : BlkAt Z b) (hd : x + 9 ≤ b ∨ b + 7 ≤ x) (t : IceS M x g) (w : WH g W H) (hQ : ∀ M1, Fr [b + 2, b + 4, b + 6] [] M M1 → BlkS M1 b W H (gt g) (gc g) → Q M1) : P_X0_find Z M b x Q := by
  have hW : 0 < W := by have := w.2.2.1; omega
  have hWH : W ≤ W * H := w_le (by have := w.2.2.2.2.1; omega)
  have h49 : W * H ≤ 49 := wh_lt w.2.2.2.1 w.2.2.2.2.2
  have hb0 := hb
  obtain ⟨b1, b2, b3, b4, b5, b6, b7⟩ := hb
  unfold P_X0_find B_X0_find_0
  refine ⟨b1, b + 1, b2, b5.1, sp_fill b5 ⟨b + 3, b3, b6.1, sp_fill b6 ⟨W * H + 1, ?_⟩⟩⟩
  refine for_up (W * H) (fun n i M' => L_X0_find_18 Z Q n M' b x (nI i)) (fun i M' => Fr [b + 2, b + 4, b + 6] [] M M' ∧ FiI W H (gt g) (gc g) (mA M' (b + 2)) (mA M' (b + 4)) i) ?_ ?_ (W * H) 0 _ (by omega) ⟨?_, ?_⟩
  · intro n i M' hi ⟨f, I⟩ k
    have t1 : IceS M' x g := t.frame f (by simp) (by simp; omega) (by simp; omega) (by simp; omega)
    obtain ⟨A, B, C, D⟩ := I
    show B_X0_find_18 Z Q (L_X0_find_18 Z Q n) M' b x (nI i)
    unfold B_X0_find_18 B_X0_find_52
    simp only [nI_1]
    have skip : (¬ gt g i ≤ 0 → mA M' (b + 2) i ≠ -1) → L_X0_find_18 Z Q n M' b x (nI (i + 1)) := by
      intro z
      refine k M' ⟨f, fun c hc => ?_, B, fun c hc hc2 => ?_, D⟩
      · rcases A c hc with q | ⟨k, k1, k2⟩
        · exact Or.inl q
        · exact Or.inr ⟨k, by omega, k2⟩
      · by_cases e : c = i
        · subst e; exact z hc2
        · exact C c (by omega) hc2
    refine ⟨h.1, (sp_cells h t1 w).mpr ⟨fun e => absurd e ?_, fun _ => (sp_isIce h t1 (by omega)).mpr ⟨fun e => ?_, fun e => ?_⟩⟩⟩
    · rw [n_le (by omega) (by omega)]; omega
    · rw [bI_0] at e
      exact skip (fun z => absurd z e)
    · rw [bI_0, Classical.not_not] at e
      refine ⟨b1, b + 1, b2, b5.1, (sp_at b5).mpr ?_⟩
      rw [gat_n (by omega) (by omega)]
      refine ⟨fun z => skip (fun _ => z), fun z => ?_⟩
      have hno : ∀ c, c < 49 → mA M' (b + 2) c ≠ nI i := by
        intro c hc z2
        rcases A c hc with q | ⟨k, k1, k2, k3, _⟩
        · rw [q] at z2; exact i_n1 i (by omega) z2.symm
        · rw [k3, n_eq (by omega) (by omega)] at z2; omega
      refine sp_spread h hb0 hd t1 w hi e z B hno ?_ (fun M1 f1 P => ?_)
      · rw [D i (by omega)]
        exact fun ⟨c, c1, c2, c3⟩ => hno c (by omega) c2
      · obtain ⟨P1, P2, P3, P4, P5, P6⟩ := P
        refine k M1 ⟨f.trans f1, fun c hc => ?_, P4, fun c hc hc2 => ?_, fun m hm => ?_⟩
        · by_cases e2 : mA M1 (b + 2) c = nI i
          · obtain ⟨q1, q2, q3, q4⟩ := P2 c hc e2
            refine Or.inr ⟨i, by omega, ?_, e2, q3, q1, q2⟩
            exact Nat.le_of_not_lt (fun z3 => C c z3 q2 q4)
          · rw [P1 c hc e2]
            rcases A c hc with q | ⟨k, k1, k2⟩
            · exact Or.inl q
            · exact Or.inr ⟨k, by omega, k2⟩
        · by_cases e2 : mA M1 (b + 2) c = nI i
          · rw [e2]; exact i_n1 i (by omega)
          · rw [P1 c (by omega) e2]
            by_cases e3 : c = i
            · subst e3; exact absurd P3 e2
            · exact C c (by omega) hc2
        · by_cases e2 : m = i
          · subst e2; exact P6
          · rw [P5 m hm e2, D m hm]
            have e4 : ¬ nI m = nI i := by rw [n_eq (by omega) (by omega)]; exact e2
            refine not_congr ⟨fun ⟨c, c1, c2, c3⟩ => ⟨c, c1, ?_, c3⟩, fun ⟨c, c1, c2, c3⟩ => ⟨c, c1, ?_, c3⟩⟩
            · by_cases e3 : mA M1 (b + 2) c = nI i
              · rw [(P2 c (by omega) e3).2.2.2] at c2
                exact absurd c2.symm (i_n1 m (by omega))
              · rw [P1 c (by omega) e3]; exact c2
            · rw [← P1 c (by omega) (by rw [c2]; exact e4)]; exact c2
  · intro n M' ⟨f, A, B, C, D⟩
    have t1 : IceS M' x g := t.frame f (by simp) (by simp; omega) (by simp; omega) (by simp; omega)
    show B_X0_find_18 Z Q (L_X0_find_18 Z Q n) M' b x (nI (W * H))
    unfold B_X0_find_18
    refine ⟨h.1, (sp_cells h t1 w).mpr ⟨fun _ => hQ M' f ?_, fun e => absurd (nI_le (Nat.le_refl _) (by omega)) e⟩⟩
    have hL : IsLab W H (gt g) (gc g) (mA M' (b + 2)) := by
      intro c hc
      refine ⟨fun e => ?_, fun e => ?_, fun d hcd => ?_⟩
      · rcases A c (by omega) with q | ⟨k, k1, k2, k3, k4, k5, k6⟩
        · exact q
        · exact absurd e k6
      · rcases A c (by omega) with q | ⟨k, k1, k2, k3, k4, k5, k6⟩
        · exact absurd q (C c hc e)
        · exact ⟨k, k2, k3, k4⟩
      · exact (B c d hcd (C c hc hcd.2.1)).symm
    have hE : ∀ c, c < 49 → mA M' (b + 2) c = labS W H (gt g) (gc g) c := by
      intro c hc
      by_cases e : c < W * H
      · exact hL.eq hW h49 e
      · rw [labS_none (fun q => e q.1)]
        rcases A c hc with q | ⟨k, k1, k2, k3, k4, k5, k6⟩
        · exact q
        · exact absurd k5 e
    refine ⟨hE, fun m hm _ => ?_⟩
    rw [D m hm]
    refine not_congr ⟨fun ⟨c, c1, c2, c3⟩ => ⟨c, c1, ?_, c3⟩, fun ⟨c, c1, c2, c3⟩ => ⟨c, c1, ?_, c3⟩⟩
    · rw [← hE c (by omega)]; exact c2
    · rw [hE c (by omega)]; exact c2
  · exact (Fr.mono (Fr.setA _ _ _) (by simp) (by simp)).trans (Fr.mono (Fr.setA _ _ _) (by simp) (by simp))
  · rw [mA_same, mA_ne _ _ _ (by omega : b + 2 ≠ b + 4), mA_same, mA_ne _ _ _ (by omega : b + 4 ≠ b + 2)]
    refine ⟨fun c hc => Or.inl (if_pos hc), fun u v huv z => ?_, fun c hc => absurd hc (by omega), fun m hm => ?_⟩
    · have hu := huv.1
      exact absurd (if_pos (by omega)) z
    · refine ⟨fun _ ⟨c, c1, c2, c3⟩ => ?_, fun _ => if_pos hm⟩
      have e : (if c < 49 then (-1 : Int32) else mA M (b + 2) c) = nI m := c2
      rw [if_pos (by omega)] at e
      exact i_n1 m (by omega) e.symm
