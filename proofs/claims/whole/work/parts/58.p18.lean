/-! PURE: the model's ways -/
theorem l64_le (x y : Int64) : x ≤ y ↔ x.toInt ≤ y.toInt := Int64.le_iff_toInt_le
theorem l64_lt (x y : Int64) : x < y ↔ x.toInt < y.toInt := Int64.lt_iff_toInt_lt
theorem mo_in {Z : ZZ} {M : MM} {v : Int32} {lo hi : Int64} {Q : Int32 → MM → Prop} : P_X6_in Z M v.toInt64 lo hi Q ↔ Q (bI (lo.toInt ≤ v.toInt ∧ v.toInt ≤ hi.toInt)) M := by
  unfold P_X6_in B_X6_in_0
  rw [lg_cmp_lt, lg_cmp_gt, l64_lt, l64_lt, Int32.toInt_toInt64]
  by_cases a : v.toInt < lo.toInt
  · have : ¬ (lo.toInt ≤ v.toInt ∧ v.toInt ≤ hi.toInt) := by omega
    simp [a, bI, this]
  · by_cases b : hi.toInt < v.toInt
    · have : ¬ (lo.toInt ≤ v.toInt ∧ v.toInt ≤ hi.toInt) := by omega
      simp [a, b, bI, this]
    · have : (lo.toInt ≤ v.toInt ∧ v.toInt ≤ hi.toInt) := by omega
      simp [a, b, bI, this]
theorem l64_m1 : ∀ n, n < 64 → ((nI n).toInt64 - 1).toInt = (n : Int) - 1 := by decide +kernel
theorem l64_0 : (0 : Int64).toInt = 0 ∧ (1 : Int64).toInt = 1 ∧ (2 : Int64).toInt = 2 ∧ (7 : Int64).toInt = 7 ∧ (50 : Int64).toInt = 50 ∧ (3 : Int64).toInt = 3 ∧ (9 : Int64).toInt = 9 ∧ (6 : Int64).toInt = 6 ∧ (4 : Int64).toInt = 4 ∧ (13 : Int64).toInt = 13 ∧ (127 : Int64).toInt = 127 ∧ (224 : Int64).toInt = 224 ∧ (48 : Int64).toInt = 48 ∧ (57 : Int64).toInt = 57 := by decide
theorem sh_toInt : ∀ a, a < 8 → ∀ b, b < 16 → (nI a + (nI b - 7)).toInt = (a : Int) + b - 7 := by decide +kernel
section
variable {Z : ZZ} {M : MM} {m : Nat} {g : GG} {W H : Nat} {lb : Nat → Int32}
theorem mo_mayLie {p : Nat} {n : Int32} {Q : Int32 → MM → Prop} (F : ModAt Z m) (t : MoS M m g) (w : WH g W H) (B : ∀ c, c < W * H → mA M (m + 4) c = lb c) (hp : p < 225) (hQ1 : (∀ c, c < W * H → lb c = n → okC W H (gt g) lb n p c) → Q 1 M) (hQ0 : (∃ c, c < W * H ∧ lb c = n ∧ ¬ okC W H (gt g) lb n p c) → Q 0 M) : P_X6_mayLie Z M m n (nI (p % 15) - 7) (nI (p / 15) - 7) Q := by
  have hW : 0 < W := by have := w.2.2.1; omega
  have hW7 := w.2.2.2.1
  have hH7 := w.2.2.2.2.2
  have h49 : W * H ≤ 49 := wh_lt hW7 hH7
  have z0 : zb (0 : Int32) := Or.inl rfl
  have z1 : zb (1 : Int32) := Or.inr rfl
  refine ⟨W * H + 1, ?_⟩
  refine for_up (W * H) (fun k i (r : Int32) => L_X6_mayLie_6 Z Q k M m n (nI (p % 15) - 7) (nI (p / 15) - 7) r (nI i)) (fun i r => (r = 1 ∧ ∀ c, c < i → lb c = n → okC W H (gt g) lb n p c) ∨ (r = 0 ∧ ∃ c, c < W * H ∧ lb c = n ∧ ¬ okC W H (gt g) lb n p c)) ?_ ?_ (W * H) 0 1 (by omega) (Or.inl ⟨rfl, fun c hc => absurd hc (by omega)⟩)
  · intro k i r hi I kk
    have kk : ∀ r1, ((r1 = 1 ∧ ∀ c, c < i + 1 → lb c = n → okC W H (gt g) lb n p c) ∨ (r1 = 0 ∧ ∃ c, c < W * H ∧ lb c = n ∧ ¬ okC W H (gt g) lb n p c)) → L_X6_mayLie_6 Z Q k M m n (nI (p % 15) - 7) (nI (p / 15) - 7) r1 (nI i + 1) := fun r1 hr => by
      rw [nI_1]; exact kk r1 hr
    have hv : vp_in (nI i) (zN Z (m + 4)) := by rw [F.blk.2.2]; exact vpn (by omega) (by omega)
    have v0 : vp_in 0 (zN Z (m + 1)) := by rw [F.all.2.2]; exact vp0.1
    have v1 : vp_in 1 (zN Z (m + 1)) := by rw [F.all.2.2]; exact vp0.2.1
    have hcw := row_lt hi
    have hcm : i % W < W := Nat.mod_lt _ hW
    show B_X6_mayLie_6 Z Q (L_X6_mayLie_6 Z Q k) M m n (nI (p % 15) - 7) (nI (p / 15) - 7) r (nI i)
    unfold B_X6_mayLie_6 B_X6_mayLie_126 B_X6_mayLie_130 B_X6_mayLie_131 B_X6_mayLie_133
    refine ⟨F.1, (mo_cells F t w).mpr ⟨fun e => absurd e ?_, fun _ => ⟨fun z => ?_, fun z => ⟨m + 4, F.blk.1, F.blk.2.1, hv, ?_⟩⟩⟩⟩
    · rw [n_le (by omega) (by omega)]; omega
    · rcases I with ⟨q, _⟩ | ⟨q, I⟩
      · rw [q] at z; exact absurd z (by decide)
      · subst q; exact ⟨z0, hQ0 I⟩
    · rcases I with ⟨rfl, I⟩ | ⟨q, _⟩
      · rw [i_cl i (by omega), B i hi]
        have yes : (lb i = n → okC W H (gt g) lb n p i) → ((1 : Int32) = 1 ∧ ∀ c, c < i + 1 → lb c = n → okC W H (gt g) lb n p c) := fun ok => ⟨rfl, fun c hc z2 => by
          by_cases e : c = i
          · subst e; exact ok z2
          · exact I c (by omega) z2⟩
        refine ⟨fun z2 => kk 1 (Or.inl (yes (fun q => absurd q z2))), fun z2 => ?_⟩
        have kY : okC W H (gt g) lb n p i → L_X6_mayLie_6 Z Q k M m n (nI (p % 15) - 7) (nI (p / 15) - 7) 1 (nI i + 1) := fun ok => kk 1 (Or.inl (yes (fun _ => ok)))
        have kN : ¬ okC W H (gt g) lb n p i → L_X6_mayLie_6 Z Q k M m n (nI (p % 15) - 7) (nI (p / 15) - 7) 0 (nI i + 1) := fun no => kk 0 (Or.inr ⟨rfl, i, hi, z2, no⟩)
        refine (mo_row F t w (by omega)).mpr ((mo_col F t w (by omega)).mpr ?_)
        have hp15 : p / 15 < 16 := by omega
        obtain ⟨a1, a2⟩ := sh_all (i / W) (by omega) (p / 15) hp15
        obtain ⟨b1, b2⟩ := sh_all (i % W) (by omega) (p % 15) (by omega)
        refine ⟨fun z3 => kN (fun ok => ?_), fun z3 => ⟨m + 1, F.all.1, F.all.2.1, v0, ?_⟩⟩
        · rw [a1] at z3; exact absurd ok.1 (by omega)
        rw [a1] at z3
        rw [a2 (by omega), t.w0 w, mo_in, l64_0.1, l64_m1 W (by omega), sh_toInt (i % W) (by omega) (p % 15) (by omega)]
        refine ⟨fun z4 => kN (fun ok => ?_), fun z4 => ?_⟩
        · rw [bI_0] at z4
          have o1 := ok.2.1
          have o2 := ok.2.2.1
          omega
        · rw [bI_0, Classical.not_not] at z4
          rw [b2 (by omega), t.w1 w]
          refine ⟨v1, fun z5 => ?_, fun z5 => ⟨v0, ?_⟩⟩
          · rw [n_le (by omega) (by omega)] at z5
            exact kY ⟨by omega, by omega, by omega, fun q => by omega⟩
          · rw [n_le (by omega) (by omega)] at z5
            rw [t.w0 w, n_mul, nI_add]
            have hj : (i / W + p / 15 - 7) * W + (i % W + p % 15 - 7) < W * H := by
              have h3 : W * (i / W + p / 15 - 7 + 1) ≤ W * H := Nat.mul_le_mul_left _ (by omega)
              rw [Nat.mul_add, Nat.mul_comm W (i / W + p / 15 - 7)] at h3
              omega
            refine (mo_isIce F t (by omega)).mpr ⟨fun z6 => ?_, fun z6 => ⟨v0, ?_⟩⟩
            · rw [bI_0] at z6
              exact kY ⟨by omega, by omega, by omega, fun _ q => absurd q z6⟩
            · rw [bI_0, Classical.not_not] at z6
              have hv2 : vp_in (nI ((i / W + p / 15 - 7) * W + (i % W + p % 15 - 7))) (zN Z (m + 4)) := by rw [F.blk.2.2]; exact vpn (by omega) (by omega)
              rw [t.w0 w, n_mul, nI_add, i_cl ((i / W + p / 15 - 7) * W + (i % W + p % 15 - 7)) (by omega), B _ hj]
              refine ⟨hv2, fun z7 => kN (fun ok => z7 (ok.2.2.2 (by omega) z6)), fun z7 => kY ⟨by omega, by omega, by omega, fun _ _ => z7⟩⟩
      · rw [q] at z; exact absurd rfl z
  · intro k r I
    show B_X6_mayLie_6 Z Q (L_X6_mayLie_6 Z Q k) M m n (nI (p % 15) - 7) (nI (p / 15) - 7) r (nI (W * H))
    unfold B_X6_mayLie_6
    refine ⟨F.1, (mo_cells F t w).mpr ⟨fun _ => ?_, fun e => absurd (nI_le (Nat.le_refl _) (by omega)) e⟩⟩
    rcases I with ⟨rfl, I⟩ | ⟨rfl, I⟩
    · exact ⟨z1, hQ1 I⟩
    · exact ⟨z0, hQ0 I⟩
theorem mo_moved {p k : Nat} {Q : Int32 → MM → Prop} (hk : k < 4) (hp : 15 ≤ p) : P_X6_moved Z M (nI p) (nI k) Q ↔ Q (nI (Em p k)) M := by
  unfold P_X6_moved B_X6_moved_0
  have e0 : ∀ k : Nat, k < 4 → (nI k = (0 : Int32) ↔ k = 0) ∧ (nI k = (1 : Int32) ↔ k = 1) ∧ (nI k = (2 : Int32) ↔ k = 2) := by decide
  obtain ⟨a0, a1, a2⟩ := e0 k hk
  have s1 : nI p - 1 = nI (p - 1) := by rw [← n_sub (by omega : 1 ≤ p)]; rfl
  have s15 : nI p - 15 = nI (p - 15) := by rw [← n_sub (by omega : 15 ≤ p)]; rfl
  have p15' : nI p + 15 = nI (p + 15) := nI_add p 15
  simp only [a0, a1, a2, s1, s15, p15', nI_1]
  obtain rfl | rfl | rfl | rfl : k = 0 ∨ k = 1 ∨ k = 2 ∨ k = 3 := by omega
  · simp [Em]
  · simp [Em]
  · simp [Em]
  · simp [Em]
theorem ModAt.far (F : ModAt Z m) : zR Z 24 m = some (m + 5) ∧ zK Z (m + 5) = 7 ∧ zN Z (m + 5) = 225 := ⟨F.2.1.2.2.2.2.1, F.2.2.2.2.2.2.1.1, F.2.2.2.2.2.2.1.2⟩
theorem mo_isBeside {p : Nat} {n : Int32} {Q : Int32 → MM → Prop} (F : ModAt Z m) (hp : 15 ≤ p) (hp2 : p < 210) (h1 : (∃ k, k < 4 ∧ mA M (m + 5) (Em p k) = n) → Q 1 M) (h0 : ¬ (∃ k, k < 4 ∧ mA M (m + 5) (Em p k) = n) → Q 0 M) : P_X6_isBeside Z M m (nI p) n Q := by
  have z0 : zb (0 : Int32) := Or.inl rfl
  have z1 : zb (1 : Int32) := Or.inr rfl
  refine ⟨5, ?_⟩
  refine for_up 4 (fun k i (r : Int32) => L_X6_isBeside_5 Z Q k M m (nI p) n r (nI i)) (fun i r => (r = 1 ∧ ∃ k, k < 4 ∧ mA M (m + 5) (Em p k) = n) ∨ (r = 0 ∧ ¬ ∃ k, k < i ∧ mA M (m + 5) (Em p k) = n)) ?_ ?_ 4 0 0 rfl (Or.inr ⟨rfl, fun ⟨k, k1, _⟩ => by omega⟩)
  · intro k i r hi I kk
    have kk : ∀ r1, ((r1 = 1 ∧ ∃ k, k < 4 ∧ mA M (m + 5) (Em p k) = n) ∨ (r1 = 0 ∧ ¬ ∃ k, k < i + 1 ∧ mA M (m + 5) (Em p k) = n)) → L_X6_isBeside_5 Z Q k M m (nI p) n r1 (nI i + 1) := fun r1 hr => by
      rw [nI_1]; exact kk r1 hr
    have hE := (Em_lt hp hp2 hi).1
    show B_X6_isBeside_5 Z Q (L_X6_isBeside_5 Z Q k) M m (nI p) n r (nI i)
    unfold B_X6_isBeside_5 B_X6_isBeside_47 B_X6_isBeside_51 B_X6_isBeside_52
    refine ⟨fun z => absurd z ?_, fun _ => (mo_moved hi hp).mpr ⟨fun z => ?_, fun z => mo_in.mpr ⟨fun z2 => ?_, fun _ => ⟨F.1, m + 5, F.far.1, F.far.2.1, ?_, ?_⟩⟩⟩⟩
    · rw [show (4 : Int32) = nI 4 from rfl, n_le (by omega) (by omega)]; omega
    · rcases I with ⟨_, I⟩ | ⟨q, _⟩
      · exact kk 1 (Or.inl ⟨rfl, I⟩)
      · exact absurd q z
    · rw [bI_0, i_toInt (Em p i) (by omega), l64_0.1, l64_0.2.2.2.2.2.2.2.2.2.2.2.1] at z2
      omega
    · rw [F.far.2.2]; exact vpn hE (by omega)
    · rw [i_cl (Em p i) (by omega)]
      have I2 : ¬ ∃ k, k < i ∧ mA M (m + 5) (Em p k) = n := by
        rcases I with ⟨q, _⟩ | ⟨_, q⟩
        · rw [q] at z; exact absurd z (by decide)
        · exact q
      refine ⟨fun z2 => kk 0 (Or.inr ⟨rfl, fun ⟨j, j1, j2⟩ => ?_⟩), fun z2 => kk 1 (Or.inl ⟨rfl, i, hi, z2⟩)⟩
      by_cases e : j = i
      · subst e; exact z2 j2
      · exact I2 ⟨j, by omega, j2⟩
  · intro k r I
    show B_X6_isBeside_5 Z Q (L_X6_isBeside_5 Z Q k) M m (nI p) n r (nI 4)
    unfold B_X6_isBeside_5
    refine ⟨fun _ => ?_, fun z => absurd (by decide) z⟩
    rcases I with ⟨rfl, I⟩ | ⟨rfl, I⟩
    · exact ⟨z1, h1 I⟩
    · exact ⟨z0, h0 I⟩
theorem cmp7 : ∀ a, a < 8 → ∀ b, b < 16 → (nI a < nI b - 7 ↔ a + 7 < b) ∧ (nI b - 7 = nI a ↔ b = a + 7) := by decide +kernel
/-- one round -/
theorem lp_round {f0 : Nat → Int32} {lg ou : Nat → Prop} {n : Nat} {Q : MM → Prop} {K : MM → Nat → Int32 → Int32 → Prop} (F : ModAt Z m) (h0 : Fz0 lg ou f0) (hlg : ∀ p, lg p → p < 225 ∧ 15 ≤ p ∧ (¬ ou p → p < 210)) (hn : n < 300) (hf : ∀ p, p < 225 → mA M (m + 5) p = fz f0 n p)
    (hK : ∀ M1 ch, Fr [m + 5] [] M M1 → (∀ p, p < 225 → mA M1 (m + 5) p = fz f0 (n + 1) p) → (ch = 0 → Stab f0 n) → (ch ≠ 0 → ¬ Stab f0 n ∧ ch = 1) → K M1 m ch (nI (n + 1))) : ∃ k, L_X6_findsWays_103 Z Q K k M m 0 (nI n) 0 := by
  refine ⟨226, ?_⟩
  refine for_up2 225 (fun k i ch M' => L_X6_findsWays_103 Z Q K k M' m ch (nI n) (nI i)) (fun i ch M' => Fr [m + 5] [] M M' ∧ (∀ p, p < 225 → mA M' (m + 5) p = if p < i then fz f0 (n + 1) p else fz f0 n p) ∧ (ch = 0 → ∀ p, p < i → fz f0 (n + 1) p = fz f0 n p) ∧ (ch ≠ 0 → ¬ Stab f0 n ∧ ch = 1)) ?_ ?_ 225 0 (0 : Int32) M rfl ⟨Fr.refl _ _ _, fun p hp => by rw [if_neg (by omega)]; exact hf p hp, fun _ p hp => absurd hp (by omega), fun z => absurd rfl z⟩
  · intro k i ch M' hi ⟨f, I1, I2, I3⟩ kk
    have hv : vp_in (nI i) (zN Z (m + 5)) := by rw [F.far.2.2]; exact vpn (by omega) (by omega)
    show B_X6_findsWays_103 Z Q K (L_X6_findsWays_103 Z Q K k) M' m ch (nI n) (nI i)
    unfold B_X6_findsWays_103 B_X6_findsWays_146
    rw [nI_1, nI_1]
    have hcur : mA M' (m + 5) i = fz f0 n i := by rw [I1 i hi, if_neg (by omega)]
    -- nothing changes here
    have skip : fz f0 (n + 1) i = fz f0 n i → L_X6_findsWays_103 Z Q K k M' m ch (nI n) (nI (i + 1)) := by
      intro z
      refine kk ch M' ⟨f, fun p hp => ?_, fun z2 p hp => ?_, I3⟩
      · rw [I1 p hp]
        by_cases e : p = i
        · subst e; rw [if_neg (by omega), if_pos (by omega), z]
        · by_cases e2 : p < i
          · rw [if_pos e2, if_pos (by omega)]
          · rw [if_neg e2, if_neg (by omega)]
      · by_cases e : p = i
        · subst e; exact z
        · exact I2 z2 p (by omega)
    refine ⟨fun z => absurd z ?_, fun _ => ⟨F.1, m + 5, F.far.1, F.far.2.1, hv, ?_⟩⟩
    · rw [show (225 : Int32) = nI 225 from rfl, n_le (by omega) (by omega)]; omega
    rw [i_cl i (by omega), hcur]
    refine ⟨fun z => skip (fz_keep z), fun z => ?_⟩
    have hl : lg i ∧ ¬ ou i := by
      obtain ⟨v1, v2, v3⟩ := fz_val h0 n (by omega) i
      have hl : lg i := Classical.byContradiction (fun q => by rw [v1 q] at z; exact absurd z (by decide))
      exact ⟨hl, fun q => by rw [v2 hl q] at z; exact absurd z (by decide)⟩
    have hnb : (∃ k, k < 4 ∧ mA M' (m + 5) (Em i k) = nI n) ↔ ∃ k, k < 4 ∧ fz f0 n (Em i k) = nI n := by
      have : ∀ k, k < 4 → (mA M' (m + 5) (Em i k) = nI n ↔ fz f0 n (Em i k) = nI n) := by
        intro k hk
        have hE := (Em_lt (hlg i hl.1).2.1 ((hlg i hl.1).2.2 hl.2) hk).1
        rw [I1 _ hE]
        by_cases e : Em i k < i
        · rw [if_pos e]
          by_cases e2 : fz f0 n (Em i k) = -1
          · rw [e2, fz_succ]
            by_cases c : fz f0 n (Em i k) = -1 ∧ (∃ j, j < 4 ∧ fz f0 n (Em (Em i k) j) = nI n)
            · rw [if_pos c]
              exact ⟨fun q => by rw [n_eq (by omega) (by omega)] at q; omega, fun q => absurd q.symm (i_n1 n (by omega))⟩
            · rw [if_neg c, e2]
          · rw [fz_keep e2]
        · rw [if_neg e]
      exact ⟨fun ⟨k, k1, k2⟩ => ⟨k, k1, (this k k1).mp k2⟩, fun ⟨k, k1, k2⟩ => ⟨k, k1, (this k k1).mpr k2⟩⟩
    refine mo_isBeside F (hlg i hl.1).2.1 ((hlg i hl.1).2.2 hl.2) (fun z2 => ⟨fun q => absurd q (by decide), fun _ => ⟨hv, ?_⟩⟩) (fun z2 => ⟨fun _ => skip ?_, fun q => absurd rfl q⟩)
    · rw [hnb] at z2
      have hnew : fz f0 (n + 1) i = nI (n + 1) := by rw [fz_succ, if_pos ⟨z, z2⟩]
      refine kk 1 _ ⟨f.trans (Fr.setA _ _ _), fun p hp => ?_, fun q => absurd q (by decide), fun _ => ⟨fun st => ?_, rfl⟩⟩
      · rw [mA_same, upd_at]
        by_cases e : p = i
        · subst e; rw [if_pos rfl, if_pos (by omega), hnew]
        · rw [if_neg e, I1 p hp]
          by_cases e2 : p < i
          · rw [if_pos e2, if_pos (by omega)]
          · rw [if_neg e2, if_neg (by omega)]
      · have := st i
        rw [hnew, z] at this
        exact i_n1 (n + 1) (by omega) this
    · rw [hnb] at z2
      rw [fz_succ, if_neg (fun q => z2 q.2)]
  · intro k ch M' ⟨f, I1, I2, I3⟩
    show B_X6_findsWays_103 Z Q K (L_X6_findsWays_103 Z Q K k) M' m ch (nI n) (nI 225)
    unfold B_X6_findsWays_103
    refine ⟨fun _ => ?_, fun z => absurd (by decide) z⟩
    rw [nI_1]
    refine hK M' ch f (fun p hp => by rw [I1 p hp, if_pos hp]) (fun z p => ?_) I3
    by_cases e : p < 225
    · exact I2 z p e
    · have hno : ¬ lg p := fun q => e (hlg p q).1
      rw [(fz_val h0 (n + 1) (by omega) p).1 hno, (fz_val h0 n (by omega) p).1 hno]
theorem mo_findsWays {n : Nat} {Q : MM → Prop} (F : ModAt Z m) (t : MoS M m g) (w : WH g W H) (B : ∀ c, c < W * H → mA M (m + 4) c = lb c) (hn : n < W * H) (hln : lb n = nI n) (hQ : ∀ M1, Fr [m + 5] [] M M1 → (∀ p, p < 225 → mA M1 (m + 5) p = farX W H (gt g) lb n p) → Q M1) : P_X6_findsWays Z M m (nI n) Q := by
  have hW : 0 < W := by have := w.2.2.1; omega
  have hW7 := w.2.2.2.1
  have hH7 := w.2.2.2.2.2
  have h49 : W * H ≤ 49 := wh_lt hW7 hH7
  have h0 := f0X_is W H (gt g) lb n
  have hlg : ∀ p, lgX W H (gt g) lb n p → p < 225 ∧ 15 ≤ p ∧ (¬ ouX W H n p → p < 210) := fun p hp => ⟨hp.1, lg_in hn hH7 hln hp⟩
  have hrn := row_lt hn
  have v0 : vp_in 0 (zN Z (m + 1)) := by rw [F.all.2.2]; exact vp0.1
  have v1 : vp_in 1 (zN Z (m + 1)) := by rw [F.all.2.2]; exact vp0.2.1
  -- the rounds
  have rounds : ∀ r k M1, k + r = 226 → Fr [m + 5] [] M M1 → (∀ i, i < k → ¬ Stab (f0X W H (gt g) lb n) i) → (∀ p, p < 225 → mA M1 (m + 5) p = fz (f0X W H (gt g) lb n) k p) → L_X6_findsWays_94 Z Q (r + 2) M1 m 1 (nI k) := by
    intro r
    induction r with
    | zero =>
      intro k M1 hk _ hst _
      exfalso
      rcases fz_stop h0 (fun p hp => hp.1) k (by omega) with ⟨i, i1, i2⟩ | z
      · exact hst i i1 i2
      · omega
    | succ r ih =>
      intro k M1 hk f1 hst hf
      show B_X6_findsWays_94 Z Q (L_X6_findsWays_94 Z Q (r + 2)) M1 m 1 (nI k)
      unfold B_X6_findsWays_94
      refine ⟨fun z => absurd z (by decide), fun _ => lp_round F h0 hlg (by omega) hf (fun M2 ch f2 hf2 hc0 hc1 => ?_)⟩
      by_cases z : ch = 0
      · show B_X6_findsWays_94 Z Q (L_X6_findsWays_94 Z Q (r + 1)) M2 m ch (nI (k + 1))
        unfold B_X6_findsWays_94
        refine ⟨fun _ => hQ M2 (f1.trans f2) (fun p hp => ?_), fun z2 => absurd z z2⟩
        have s := hc0 z
        rw [hf2 p hp, s p]
        have := fz_stab h0 s (300 - k) (by omega)
        rw [show k + (300 - k) = 300 by omega] at this
        show _ = fz (f0X W H (gt g) lb n) 300 p
        rw [this]
      · obtain ⟨q1, q2⟩ := hc1 z
        rw [q2]
        refine ih (k + 1) M2 (by omega) (f1.trans f2) (fun i hi => ?_) hf2
        by_cases e : i = k
        · subst e; exact q1
        · exact hst i (by omega)
  unfold P_X6_findsWays B_X6_findsWays_0
  refine ⟨F.1, m + 1, F.all.1, F.all.2.1, v1, v0, ?_⟩
  rw [t.w0 w, t.w1 w, n_div (by omega : n < 64) (by omega : W < 8) hW, n_sub (by omega : n / W ≤ H)]
  refine ⟨w_ne w, 226, ?_⟩
  refine for_up 225 (fun k i M' => L_X6_findsWays_18 Z Q k M' m (nI n) (nI (H - n / W)) (nI i)) (fun i M' => Fr [m + 5] [] M M' ∧ ∀ p, p < i → mA M' (m + 5) p = f0X W H (gt g) lb n p) ?_ ?_ 225 0 M rfl ⟨Fr.refl _ _ _, fun p hp => absurd hp (by omega)⟩
  · intro k i M' hi ⟨f, I⟩ kk
    have t1 := t.frame f (by simp)
    have B1 : ∀ c, c < W * H → mA M' (m + 4) c = lb c := by rw [f.1 _ (by simp)]; exact B
    have hv : vp_in (nI i) (zN Z (m + 5)) := by rw [F.far.2.2]; exact vpn (by omega) (by omega)
    obtain ⟨q1, q2⟩ := p15 i (by omega)
    have hi16 : i / 15 < 16 := by omega
    have hrz := Nat.zero_le (n / W)
    obtain ⟨c1, c2⟩ := cmp7 (H - n / W) (by omega) (i / 15) hi16
    have put : ∀ M2 (v : Int32), Fr [m + 5] [] M' M2 → mA M2 (m + 5) = mA M' (m + 5) → f0X W H (gt g) lb n i = v → L_X6_findsWays_18 Z Q k (setA M2 (m + 5) (upd (mA M2 (m + 5)) (nI i).toNatClampNeg v)) m (nI n) (nI (H - n / W)) (nI i + 1) := by
      intro M2 v f2 e2 e3
      rw [nI_1, i_cl i (by omega)]
      refine kk _ ⟨(f.trans f2).trans (Fr.setA _ _ _), fun p hp => ?_⟩
      rw [mA_same, upd_at, e2]
      by_cases e : p = i
      · subst e; rw [if_pos rfl, e3]
      · rw [if_neg e]; exact I p (by omega)
    show B_X6_findsWays_18 Z Q (L_X6_findsWays_18 Z Q k) M' m (nI n) (nI (H - n / W)) (nI i)
    unfold B_X6_findsWays_18 B_X6_findsWays_66 B_X6_findsWays_82
    rw [q2, q1]
    refine ⟨fun z => absurd z ?_, fun _ => ⟨F.1, m + 5, F.far.1, fun z => ⟨F.far.2.1, hv, ?_⟩, fun z => ?_⟩⟩
    · rw [show (225 : Int32) = nI 225 from rfl, n_le (by omega) (by omega)]; omega
    · rw [c1] at z
      exact put M' (-2) (Fr.refl _ _ _) rfl ((h0 i).1 (fun q => by have := q.2.1; omega))
    · rw [c1] at z
      refine mo_mayLie F t1 w B1 hi (fun ok => ⟨fun _ => ⟨fun z2 => ⟨F.far.2.1, hv, ?_⟩, fun z2 => ⟨F.far.2.1, hv, ?_⟩⟩, fun z2 => absurd z2 (by decide)⟩) (fun ⟨c, d1, d2, d3⟩ => ⟨fun z2 => absurd rfl z2, fun _ => ⟨F.far.2.1, hv, ?_⟩⟩)
      · rw [c2] at z2
        refine put M' (-1) (Fr.refl _ _ _) rfl ((h0 i).2.2 ⟨hi, by omega, ok⟩ (fun q => ?_))
        have q : n / W + i / 15 = H + 7 := q
        omega
      · rw [c2] at z2
        refine put M' 0 (Fr.refl _ _ _) rfl ((h0 i).2.1 ⟨hi, by omega, ok⟩ ?_)
        show n / W + i / 15 = H + 7
        omega
      · exact put M' (-2) (Fr.refl _ _ _) rfl ((h0 i).1 (fun q => d3 (q.2.2 c d1 d2)))
  · intro k M' ⟨f, I⟩
    show B_X6_findsWays_18 Z Q (L_X6_findsWays_18 Z Q k) M' m (nI n) (nI (H - n / W)) (nI 225)
    unfold B_X6_findsWays_18
    exact ⟨fun _ => ⟨228, rounds 226 0 M' rfl f (fun i hi => absurd hi (by omega)) I⟩, fun z => absurd (by decide) z⟩
/-- a block's way -/
theorem mo_way {n : Nat} {Q : Int32 → MM → Prop} (F : ModAt Z m) (t : MoS M m g) (w : WH g W H) (ok : CtOk W H (gc g)) (B : ∀ c, c < W * H → mA M (m + 4) c = lb c) (hn : n < W * H) (hln : lb n = nI n) (h1 : heldP W (gc g) lb (nI n) → Q (-1) M) (h0 : ¬ heldP W (gc g) lb (nI n) → ∀ M1, Fr [m + 5] [] M M1 → (∀ p, p < 225 → mA M1 (m + 5) p = farX W H (gt g) lb n p) → Q (wayI (farX W H (gt g) lb n)) M1) : P_X6_way Z M m (nI n) Q := by
  have v112 : vp_in 112 (zN Z (m + 5)) := by rw [F.far.2.2]; exact vpn (k := 112) (by omega) (by omega)
  unfold P_X6_way B_X6_way_0
  refine ⟨F.1, mo_held F t w ok B (fun hh => ⟨fun z => absurd z (by decide), fun _ => h1 hh⟩) (fun hh => ⟨fun _ => mo_findsWays F t w B hn hln (fun M1 f1 hf => ⟨m + 5, F.far.1, F.far.2.1, v112, ?_⟩), fun z => absurd rfl z⟩)⟩
  have := h0 hh M1 f1 hf
  have e : mA M1 (m + 5) (112 : Int32).toNatClampNeg = farX W H (gt g) lb n 112 := hf 112 (by omega)
  rw [e]
  unfold wayI at this
  refine ⟨fun z => ⟨v112, ?_⟩, fun z => ?_⟩
  · rw [if_neg (by rw [i_lt]; rw [i_le] at z; omega)] at this; exact this
  · rw [if_pos (by rw [i_lt]; rw [i_le] at z; omega)] at this; exact this
end
