/-! PURE: the model's blocks, found and asked -/
section
variable {Z : ZZ} {M : MM} {m : Nat} {g : GG} {W H : Nat}
theorem FbI.lab {th ct bl : Nat → Int32} (f : FbI W H th ct bl) (hW : 0 < W) (h : ∀ c d s, s < 2 → Hang W H th ct c d → bs W H c s = some d → bl c = bl d) : IsLab W H th ct bl := by
  intro c hc
  refine ⟨(f c hc).1, (f c hc).2, fun d hd => ?_⟩
  obtain ⟨q1, q2, q3, s, q4, q5, q6⟩ := hd
  by_cases e : s < 2
  · exact h c d s e ⟨q1, q2, q3, s, q4, q5, q6⟩ q5
  · have hb := (bs_back hW q1 q4 q5).1
    have hh : Hang W H th ct c d := ⟨q1, q2, q3, s, q4, q5, q6⟩
    exact (h d c (3 - s) (by omega) (hh.symm hW) hb).symm
/-- one pass over the cells -/
theorem lp_pass {Q : MM → Prop} {K : MM → Nat → Int32 → Prop} (F : ModAt Z m) (t : MoS M m g) (w : WH g W H) (ok : CtOk W H (gc g)) (f0 : FbI W H (gt g) (gc g) (mA M (m + 4)))
    (hK : ∀ M1 ch, Fr [m + 4] [] M M1 → JI W H (gt g) (gc g) (mA M (m + 4)) (W * H) 0 ch (mA M1 (m + 4)) → K M1 m ch) : ∃ n, L_X6_findsBlocks_45 Z Q K n M m 0 0 := by
  have hW : 0 < W := by have := w.2.2.1; omega
  have h49 : W * H ≤ 49 := wh_lt w.2.2.2.1 w.2.2.2.2.2
  refine ⟨W * H + 1, ?_⟩
  refine for_up2 (W * H) (fun n i ch M' => L_X6_findsBlocks_45 Z Q K n M' m ch (nI i)) (fun i ch M' => Fr [m + 4] [] M M' ∧ JI W H (gt g) (gc g) (mA M (m + 4)) i 0 ch (mA M' (m + 4))) ?_ ?_ (W * H) 0 (0 : Int32) M (by omega) ⟨Fr.refl _ _ _, f0, Nat.le_refl _, fun _ => ⟨fun _ _ => rfl, fun c d ⟨_, s', q2, q3, q4⟩ => by omega⟩, fun z => absurd rfl z, Or.inl rfl⟩
  · intro n i ch M' hi ⟨f, J⟩ k
    have t1 := t.frame f (by simp)
    show B_X6_findsBlocks_45 Z Q K (L_X6_findsBlocks_45 Z Q K n) M' m ch (nI i)
    unfold B_X6_findsBlocks_45 B_X6_findsBlocks_89 B_X6_findsBlocks_94
    -- the second half: the cell below
    have half2 : ∀ M2 ch2, Fr [m + 4] [] M M2 → JI W H (gt g) (gc g) (mA M (m + 4)) i 1 ch2 (mA M2 (m + 4)) → B_X6_findsBlocks_95 Z Q (L_X6_findsBlocks_45 Z Q K n) M2 m ch2 (nI i) := by
      intro M2 ch2 f2 J2
      have t2 := t.frame f2 (by simp)
      have last : ∀ M3 ch3, Fr [m + 4] [] M M3 → JI W H (gt g) (gc g) (mA M (m + 4)) i 2 ch3 (mA M3 (m + 4)) → L_X6_findsBlocks_45 Z Q K n M3 m ch3 (nI i + 1) := by
        intro M3 ch3 f3 J3
        rw [nI_1]
        exact k ch3 M3 ⟨f3, J3.next⟩
      unfold B_X6_findsBlocks_95 B_X6_findsBlocks_141 B_X6_findsBlocks_146 B_X6_findsBlocks_147
      refine ⟨F.1, (mo_canSaw (s := 1) F t2 w hi (by omega)).mpr ⟨fun z => ?_, fun z => ?_⟩⟩
      · rw [bI_0] at z
        refine last M2 ch2 f2 (J2.skip (fun d hd => absurd (Or.inr (by rw [hd]; rfl)) z))
      · rw [bI_0, Classical.not_not] at z
        have hl := isSome_bs1 (z.resolve_left (by omega))
        have hb : bs W H i 1 = some (i + W) := by simp [bs, hl]
        have v0 : vp_in 0 (zN Z (m + 1)) := by rw [F.all.2.2]; exact vp0.1
        refine ⟨m + 1, F.all.1, F.all.2.1, v0, ?_⟩
        rw [t2.w0 w, nI_add]
        refine mo_pair (s := 1) (R := fun ch3 M3 => L_X6_findsBlocks_45 Z Q K n M3 m ch3 (nI i + 1)) F t2 w ok hi (by omega) hb J2 (fun M3 f3 J3 => last M3 ch2 (f2.trans f3) J3) (fun M3 f3 J3 => last M3 1 (f2.trans f3) J3) (Qj := fun r131 M131 => (¬ r131 = 0 → L_X6_findsBlocks_45 Z Q K n M131 m 1 (nI i + 1)) ∧ (r131 = 0 → ((ch2 = 0 → L_X6_findsBlocks_45 Z Q K n M131 m 0 (nI i + 1)) ∧ (¬ ch2 = 0 → L_X6_findsBlocks_45 Z Q K n M131 m 1 (nI i + 1))))) (fun r M3 hr => ⟨hr.2, fun z2 => ⟨fun z3 => ?_, fun z3 => ?_⟩⟩) (fun M3 hr => ⟨fun _ => hr, fun z2 => absurd rfl z2⟩) (fun hj => ⟨fun z2 => absurd z2 (by decide), fun _ => ⟨v0, ?_⟩⟩)
        · rw [← z3]; exact hr.1 z2
        · have q := hr.1 z2
          rw [J2.2.2.2.2.resolve_left z3] at q
          exact q
        · rw [t2.w0 w, nI_add]; exact hj
    refine ⟨F.1, (mo_cells F t1 w).mpr ⟨fun e => absurd e ?_, fun _ => (mo_canSaw (s := 0) F t1 w hi (by omega)).mpr ⟨fun z => ?_, fun z => ?_⟩⟩⟩
    · rw [n_le (by omega) (by omega)]; omega
    · rw [bI_0] at z
      exact half2 M' ch f (J.skip (fun d hd => absurd (Or.inr (by rw [hd]; rfl)) z))
    · rw [bI_0, Classical.not_not] at z
      have hl := isSome_bs0 (z.resolve_left (by omega))
      have hb : bs W H i 0 = some (i + 1) := by simp [bs, hl]
      rw [nI_1]
      refine mo_pair (s := 0) (R := fun ch3 M3 => B_X6_findsBlocks_95 Z Q (L_X6_findsBlocks_45 Z Q K n) M3 m ch3 (nI i)) F t1 w ok hi (by omega) hb J (fun M3 f3 J3 => half2 M3 ch (f.trans f3) J3) (fun M3 f3 J3 => half2 M3 1 (f.trans f3) J3) (Qj := fun r79 M79 => (¬ r79 = 0 → B_X6_findsBlocks_95 Z Q (L_X6_findsBlocks_45 Z Q K n) M79 m 1 (nI i)) ∧ (r79 = 0 → ((ch = 0 → B_X6_findsBlocks_95 Z Q (L_X6_findsBlocks_45 Z Q K n) M79 m 0 (nI i)) ∧ (¬ ch = 0 → B_X6_findsBlocks_95 Z Q (L_X6_findsBlocks_45 Z Q K n) M79 m 1 (nI i))))) (fun r M3 hr => ⟨hr.2, fun z2 => ⟨fun z3 => ?_, fun z3 => ?_⟩⟩) (fun M3 hr => ⟨fun _ => hr, fun z2 => absurd rfl z2⟩) (fun hj => ⟨fun z2 => absurd z2 (by decide), fun _ => hj⟩)
      · rw [← z3]; exact hr.1 z2
      · have q := hr.1 z2
        rw [J.2.2.2.2.resolve_left z3] at q
        exact q
  · intro n ch M' ⟨f, J⟩
    have t1 := t.frame f (by simp)
    show B_X6_findsBlocks_45 Z Q K (L_X6_findsBlocks_45 Z Q K n) M' m ch (nI (W * H))
    unfold B_X6_findsBlocks_45
    exact ⟨F.1, (mo_cells F t1 w).mpr ⟨fun _ => hK M' ch f J, fun e => absurd (nI_le (Nat.le_refl _) (by omega)) e⟩⟩
theorem mo_find {Q : MM → Prop} (F : ModAt Z m) (t : MoS M m g) (w : WH g W H) (ok : CtOk W H (gc g)) (hQ : ∀ M1, Fr [m + 4] [] M M1 → BlM M1 m W H g → Q M1) : P_X6_findsBlocks Z M m Q := by
  have hW : 0 < W := by have := w.2.2.1; omega
  have h49 : W * H ≤ 49 := wh_lt w.2.2.2.1 w.2.2.2.2.2
  -- the passes
  have pass : ∀ s M1, Fr [m + 4] [] M M1 → FbI W H (gt g) (gc g) (mA M1 (m + 4)) → su (mA M1 (m + 4)) (W * H) ≤ s → L_X6_findsBlocks_37 Z Q (s + 2) M1 m 1 := by
    intro s
    induction s with
    | zero =>
      intro M1 f1 f0 hs
      show B_X6_findsBlocks_37 Z Q (L_X6_findsBlocks_37 Z Q 1) M1 m 1
      unfold B_X6_findsBlocks_37
      refine ⟨fun z => absurd z (by decide), fun _ => lp_pass F (t.frame f1 (by simp)) w ok f0 (fun M2 ch f2 J => ?_)⟩
      show B_X6_findsBlocks_37 Z Q (L_X6_findsBlocks_37 Z Q 0) M2 m ch
      unfold B_X6_findsBlocks_37
      refine ⟨fun z => hQ M2 (f1.trans f2) (fun c hc => ?_), fun z => absurd (J.2.2.2.1 z) (by omega)⟩
      exact (J.1.lab hW (fun c d s hs h1 h2 => (J.2.2.1 z).2 c d ⟨h1, s, hs, h2, Or.inl h1.1⟩)).eq hW h49 hc
    | succ s ih =>
      intro M1 f1 f0 hs
      show B_X6_findsBlocks_37 Z Q (L_X6_findsBlocks_37 Z Q (s + 2)) M1 m 1
      unfold B_X6_findsBlocks_37
      refine ⟨fun z => absurd z (by decide), fun _ => lp_pass F (t.frame f1 (by simp)) w ok f0 (fun M2 ch f2 J => ?_)⟩
      rcases J.2.2.2.2 with z | z
      · show B_X6_findsBlocks_37 Z Q (L_X6_findsBlocks_37 Z Q (s + 1)) M2 m ch
        unfold B_X6_findsBlocks_37
        refine ⟨fun _ => hQ M2 (f1.trans f2) (fun c hc => ?_), fun z2 => absurd z z2⟩
        exact (J.1.lab hW (fun c d s hs h1 h2 => (J.2.2.1 z).2 c d ⟨h1, s, hs, h2, Or.inl h1.1⟩)).eq hW h49 hc
      · rw [z]
        have := J.2.2.2.1 (by rw [z]; decide)
        exact ih M2 (f1.trans f2) J.1 (by omega)
  refine ⟨W * H + 1, ?_⟩
  refine for_up (W * H) (fun n i M' => L_X6_findsBlocks_2 Z Q n M' m (nI i)) (fun i M' => Fr [m + 4] [] M M' ∧ ∀ c, c < i → (gt g c ≤ 0 → mA M' (m + 4) c = -1) ∧ (¬ gt g c ≤ 0 → mA M' (m + 4) c = nI c)) ?_ ?_ (W * H) 0 M (by omega) ⟨Fr.refl _ _ _, fun c hc => absurd hc (by omega)⟩
  · intro n i M' hi ⟨f, I⟩ k
    have t1 := t.frame f (by simp)
    have hv : vp_in (nI i) (zN Z (m + 4)) := by rw [F.blk.2.2]; exact vpn (by omega) (by omega)
    show B_X6_findsBlocks_2 Z Q (L_X6_findsBlocks_2 Z Q n) M' m (nI i)
    unfold B_X6_findsBlocks_2 B_X6_findsBlocks_28
    refine ⟨F.1, (mo_cells F t1 w).mpr ⟨fun e => absurd e ?_, fun _ => ⟨m + 4, F.blk.1, (mo_isIce F t1 (by omega)).mpr ⟨fun z => ⟨F.blk.2.1, hv, ?_⟩, fun z => ⟨F.blk.2.1, hv, ?_⟩⟩⟩⟩⟩
    · rw [n_le (by omega) (by omega)]; omega
    · rw [bI_0, Classical.not_not] at z
      rw [nI_1, i_cl i (by omega)]
      refine k _ ⟨f.trans (Fr.setA _ _ _), fun c hc => ?_⟩
      rw [mA_same, upd_at]
      by_cases e : c = i
      · subst e; rw [if_pos rfl]; exact ⟨fun _ => rfl, fun q => absurd z q⟩
      · rw [if_neg e]; exact I c (by omega)
    · rw [bI_0, Classical.not_not] at z
      rw [nI_1, i_cl i (by omega)]
      refine k _ ⟨f.trans (Fr.setA _ _ _), fun c hc => ?_⟩
      rw [mA_same, upd_at]
      by_cases e : c = i
      · subst e; rw [if_pos rfl]; exact ⟨fun q => absurd q z, fun _ => rfl⟩
      · rw [if_neg e]; exact I c (by omega)
  · intro n M' ⟨f, I⟩
    have t1 := t.frame f (by simp)
    show B_X6_findsBlocks_2 Z Q (L_X6_findsBlocks_2 Z Q n) M' m (nI (W * H))
    unfold B_X6_findsBlocks_2
    refine ⟨F.1, (mo_cells F t1 w).mpr ⟨fun _ => ⟨su (mA M' (m + 4)) (W * H) + 2, ?_⟩, fun e => absurd (nI_le (Nat.le_refl _) (by omega)) e⟩⟩
    exact pass _ M' f (fun c hc => ⟨(I c hc).1, fun z => ⟨c, Nat.le_refl _, (I c hc).2 z, Conn.refl c⟩⟩) (Nat.le_refl _)
/-- held: asked of any number -/
theorem mo_held {v : Int32} {Q : Int32 → MM → Prop} (F : ModAt Z m) (t : MoS M m g) (w : WH g W H) (ok : CtOk W H (gc g)) {lb : Nat → Int32} (B : ∀ c, c < W * H → mA M (m + 4) c = lb c) (h1 : heldP W (gc g) (lb) v → Q 1 M) (h0 : ¬ heldP W (gc g) (lb) v → Q 0 M) : P_X6_isHeld Z M m v Q := by
  have hW : 0 < W := by have := w.2.2.1; omega
  have hW7 := w.2.2.2.1
  have h49 : W * H ≤ 49 := wh_lt w.2.2.2.1 w.2.2.2.2.2
  have hWH : W ≤ W * H := w_le (by have := w.2.2.2.2.1; omega)
  refine ⟨W + 1, ?_⟩
  refine for_up W (fun n i (r : Int32) => L_X6_isHeld_4 Z Q n M m v r (nI i)) (fun i r => (r = 1 ∧ ∃ c, c < i ∧ lb c = v ∧ gc g c = 0) ∨ (r = 0 ∧ ¬ ∃ c, c < i ∧ lb c = v ∧ gc g c = 0)) ?_ ?_ W 0 0 (by omega) (Or.inr ⟨rfl, fun ⟨c, c1, _⟩ => by omega⟩)
  · intro n i r hi I k
    have v0 : vp_in 0 (zN Z (m + 1)) := by rw [F.all.2.2]; exact vp0.1
    have hv : vp_in (nI i) (zN Z (m + 4)) := by rw [F.blk.2.2]; exact vpn (by omega) (by omega)
    have hp := pl_lt (s := 2) hW7 (by omega : i < 49)
    have e2 : pl W i 2 = i := rfl
    rw [e2] at hp
    show B_X6_isHeld_4 Z Q (L_X6_isHeld_4 Z Q n) M m v r (nI i)
    unfold B_X6_isHeld_4 B_X6_isHeld_37 B_X6_isHeld_41 B_X6_isHeld_42
    have k : ∀ r1, ((r1 = 1 ∧ ∃ c, c < i + 1 ∧ lb c = v ∧ gc g c = 0) ∨ (r1 = 0 ∧ ¬ ∃ c, c < i + 1 ∧ lb c = v ∧ gc g c = 0)) → L_X6_isHeld_4 Z Q n M m v r1 (nI i + 1) := fun r1 hr => by
      rw [nI_1]; exact k r1 hr
    refine ⟨F.1, m + 1, F.all.1, F.all.2.1, v0, ?_⟩
    rw [t.w0 w]
    refine ⟨fun z => absurd z ?_, fun _ => ⟨fun z => ?_, fun z => ?_⟩⟩
    · rw [n_le (by omega) (by omega)]; omega
    · rcases I with ⟨_, c, c1, c2⟩ | ⟨q, _⟩
      · exact k 1 (Or.inl ⟨rfl, c, by omega, c2⟩)
      · exact absurd q z
    · have I2 : ¬ ∃ c, c < i ∧ lb c = v ∧ gc g c = 0 := by
        rcases I with ⟨q, _⟩ | ⟨_, q⟩
        · rw [q] at z; exact absurd z (by decide)
        · exact q
      have no : ¬ (lb i = v ∧ gc g i = 0) → L_X6_isHeld_4 Z Q n M m v 0 (nI i + 1) := fun z2 => k 0 (Or.inr ⟨rfl, fun ⟨c, c1, c2⟩ => by
        by_cases e : c = i
        · subst e; exact z2 c2
        · exact I2 ⟨c, by omega, c2⟩⟩)
      refine ⟨m + 4, F.blk.1, F.blk.2.1, hv, ?_⟩
      rw [i_cl i (by omega), B i (by omega)]
      refine ⟨fun z2 => no (fun q => z2 q.1), fun z2 => ?_⟩
      rw [show (2 : Int32) = nI 2 from rfl]
      refine (mo_isCut F t w ok (by omega) (by omega)).mpr ⟨fun z3 => ?_, fun z3 => ?_⟩
      · rw [bI_0, Classical.not_not] at z3
        rw [e2] at z3
        exact no (fun q => by rw [q.2] at z3; exact absurd z3 (by decide))
      · rw [bI_0] at z3
        rw [e2] at z3
        exact k 1 (Or.inl ⟨rfl, i, by omega, z2, (ct_ne1 ok hp).mp z3⟩)
  · intro n r I
    have v0 : vp_in 0 (zN Z (m + 1)) := by rw [F.all.2.2]; exact vp0.1
    show B_X6_isHeld_4 Z Q (L_X6_isHeld_4 Z Q n) M m v r (nI W)
    unfold B_X6_isHeld_4
    refine ⟨F.1, m + 1, F.all.1, F.all.2.1, v0, ?_⟩
    rw [t.w0 w]
    refine ⟨fun _ => ?_, fun z => absurd (nI_le (Nat.le_refl _) (by omega)) z⟩
    rcases I with ⟨rfl, I⟩ | ⟨rfl, I⟩
    · exact ⟨Or.inr rfl, h1 I⟩
    · exact ⟨Or.inl rfl, h0 I⟩
/-- size: v2 = 0; volume: 1 -/
theorem mo_size {v : Int32} {Q : Int32 → MM → Prop} (F : ModAt Z m) (t : MoS M m g) (w : WH g W H) (B : BlM M m W H g) (hQ : Q (nI (cnE (lbG W H g) v (W * H))) M) : P_X6_sizeOf Z M m v 0 Q := by
  have h49 : W * H ≤ 49 := wh_lt w.2.2.2.1 w.2.2.2.2.2
  refine ⟨W * H + 1, ?_⟩
  refine for_up (W * H) (fun n i (_ : Unit) => L_X6_sizeOf_5 Z Q n M m v 0 (nI (cnE (lbG W H g) v i)) (nI i)) (fun _ _ => True) ?_ ?_ (W * H) 0 () (by omega) trivial
  · intro n i _ hi _ k
    have k := k () trivial
    have hv : vp_in (nI i) (zN Z (m + 4)) := by rw [F.blk.2.2]; exact vpn (by omega) (by omega)
    show B_X6_sizeOf_5 Z Q (L_X6_sizeOf_5 Z Q n) M m v 0 (nI (cnE (lbG W H g) v i)) (nI i)
    unfold B_X6_sizeOf_5 B_X6_sizeOf_48
    refine ⟨F.1, (mo_cells F t w).mpr ⟨fun e => absurd e ?_, fun _ => ⟨m + 4, F.blk.1, F.blk.2.1, hv, ?_⟩⟩⟩
    · rw [n_le (by omega) (by omega)]; omega
    rw [i_cl i (by omega), B i hi, nI_1]
    simp only [cnE] at k
    refine ⟨fun z => ?_, fun z => ⟨fun _ => ?_, fun z2 => absurd rfl z2⟩⟩
    · rw [if_neg z] at k; rw [Int32.add_zero]; exact k
    · rw [if_pos z] at k
      rw [nI_1]; exact k
  · intro n _ _
    show B_X6_sizeOf_5 Z Q (L_X6_sizeOf_5 Z Q n) M m v 0 (nI (cnE (lbG W H g) v (W * H))) (nI (W * H))
    unfold B_X6_sizeOf_5
    exact ⟨F.1, (mo_cells F t w).mpr ⟨fun _ => hQ, fun e => absurd (nI_le (Nat.le_refl _) (by omega)) e⟩⟩
theorem mo_vol {v : Int32} {Q : Int32 → MM → Prop} (F : ModAt Z m) (t : MoS M m g) (w : WH g W H) (B : BlM M m W H g) (hQ : Q (volS W H (gt g) (lbG W H g) v) M) : P_X6_sizeOf Z M m v 1 Q := by
  have h49 : W * H ≤ 49 := wh_lt w.2.2.2.1 w.2.2.2.2.2
  refine ⟨W * H + 1, ?_⟩
  refine for_up (W * H) (fun n i (_ : Unit) => L_X6_sizeOf_5 Z Q n M m v 1 (sm (fun c => if lbG W H g c = v then gt g c else 0) i) (nI i)) (fun _ _ => True) ?_ ?_ (W * H) 0 () (by omega) trivial
  · intro n i _ hi _ k
    have k := k () trivial
    have hv : vp_in (nI i) (zN Z (m + 4)) := by rw [F.blk.2.2]; exact vpn (by omega) (by omega)
    show B_X6_sizeOf_5 Z Q (L_X6_sizeOf_5 Z Q n) M m v 1 (sm (fun c => if lbG W H g c = v then gt g c else 0) i) (nI i)
    unfold B_X6_sizeOf_5 B_X6_sizeOf_48
    refine ⟨F.1, (mo_cells F t w).mpr ⟨fun e => absurd e ?_, fun _ => ⟨m + 4, F.blk.1, F.blk.2.1, hv, ?_⟩⟩⟩
    · rw [n_le (by omega) (by omega)]; omega
    rw [i_cl i (by omega), B i hi, nI_1]
    simp only [sm] at k
    refine ⟨fun z => ?_, fun z => ⟨fun z2 => absurd z2 (by decide), fun _ => ⟨m + 1, F.all.1, F.all.2.1, ?_⟩⟩⟩
    · rw [if_neg z] at k; exact k
    · rw [if_pos z] at k
      rw [e8, i_cl (8 + i) (by omega), t.th (by omega)]
      refine ⟨?_, k⟩
      rw [F.all.2.2]; exact vpn (by omega) (by omega)
  · intro n _ _
    show B_X6_sizeOf_5 Z Q (L_X6_sizeOf_5 Z Q n) M m v 1 (sm (fun c => if lbG W H g c = v then gt g c else 0) (W * H)) (nI (W * H))
    unfold B_X6_sizeOf_5
    exact ⟨F.1, (mo_cells F t w).mpr ⟨fun _ => hQ, fun e => absurd (nI_le (Nat.le_refl _) (by omega)) e⟩⟩
end
