/-! PURE: the way, its machine's leaves -/
def WayAt (Z : ZZ) (y : Nat) : Prop := zK Z y = 4 ∧ zR Z 9 y = some (y + 1) ∧ zR Z 10 y = some (y + 3) ∧ zR Z 11 y = some (y + 5) ∧ zR Z 12 y = some (y + 7) ∧ NumAt Z (y + 1) (y + 2) 240 ∧ NumAt Z (y + 3) (y + 4) 49 ∧ NumAt Z (y + 5) (y + 6) 240 ∧ NumAt Z (y + 7) (y + 8) 240
theorem sp_number {Z : ZZ} {M : MM} {b c : Nat} {Q : Int32 → MM → Prop} (hb : BlkAt Z b) (hc : c < 49) : P_X0_numberAt Z M b (nI c) Q ↔ Q (mA M (b + 2) c) M := by
  unfold P_X0_numberAt B_X0_numberAt_0
  simp only [hb.1, hb.2.1, hb.2.2.2.2.1.1, Option.some.injEq, exists_eq_left', true_and, sp_at hb.2.2.2.2.1, gat_n hc (by omega : 49 ≤ 1000)]
def GatS (M : MM) (y : Nat) (lb : Nat → Int32) (n : Int32) (k : Nat) : Prop := ∃ sz, sz ≤ k ∧ mI M 11 y = nI sz ∧ (∀ i, i < sz → ∃ c, mA M (y + 4) i = nI c ∧ c < k ∧ lb c = n) ∧ (∀ c, c < k → lb c = n → ∃ i, i < sz ∧ mA M (y + 4) i = nI c)
theorem sp_gather {Z : ZZ} {M : MM} {y b : Nat} {n : Int32} {lb : Nat → Int32} {Q : MM → Prop} (hy : WayAt Z y) (hb : BlkAt Z b) (hd : y + 9 ≤ b ∨ b + 7 ≤ y) (hlb : ∀ c, c < 49 → mA M (b + 2) c = lb c) (hQ : ∀ M1, Fr [y + 4] [y] M M1 → GatS M1 y lb n 49 → Q M1) : P_X4_gatherCells Z M y b n Q := by
  have h10 : NumAt Z (y + 3) (y + 4) 49 := hy.2.2.2.2.2.2.1
  unfold P_X4_gatherCells B_X4_gatherCells_0
  refine ⟨hy.1, 50, ?_⟩
  refine for_up 49 (fun k i M' => L_X4_gatherCells_7 Z Q k M' y b n (nI i)) (fun i M' => Fr [y + 4] [y] M M' ∧ GatS M' y lb n i) ?_ ?_ 49 0 _ rfl ⟨(Fr.setI _ _ _ _).mono (by simp) (by simp), 0, Nat.le_refl _, by rw [mI_setI]; simp; rfl, fun i hi => absurd hi (by omega), fun i hi => absurd hi (by omega)⟩
  · intro k i M' hi ⟨f, sz, s1, s2, s3, s4⟩ kk
    show B_X4_gatherCells_7 Z Q (L_X4_gatherCells_7 Z Q k) M' y b n (nI i)
    unfold B_X4_gatherCells_7 B_X4_gatherCells_44
    have e4 : ¬ (49 : Int32) ≤ nI i := by rw [show (49 : Int32) = nI 49 from rfl, n_le (by omega) (by omega)]; omega
    refine ⟨fun z => absurd z e4, fun _ => ⟨hb.1, (sp_number hb hi).mpr ?_⟩⟩
    rw [f.1 _ (by simp; omega), hlb i hi, nI_1]
    refine ⟨fun z => ?_, fun z => ?_⟩
    · refine kk M' ⟨f, sz, by omega, s2, fun j hj => ?_, fun c hc z2 => ?_⟩
      · obtain ⟨c, c1, c2, c3⟩ := s3 j hj
        exact ⟨c, c1, by omega, c3⟩
      · by_cases e : c = i
        · subst e; exact absurd z2 z
        · exact s4 c (by omega) z2
    · refine ⟨hy.1, y + 3, hy.2.2.1, h10.1, ?_⟩
      rw [s2]
      refine (sp_put h10).mpr ?_
      rw [pput_n (by omega) (by omega), mI_setA, s2]
      refine kk _ ⟨(f.trans ((Fr.setA _ _ _).mono (by simp) (by simp))).trans ((Fr.setI _ _ _ _).mono (by simp) (by simp)), sz + 1, by omega, ?_, fun j hj => ?_, fun c hc z2 => ?_⟩
      · rw [mI_setI]; simp [nI_1]
      · rw [mA_setI, mA_same, upd_at]
        by_cases e : j = sz
        · rw [if_pos e]; exact ⟨i, rfl, by omega, z⟩
        · rw [if_neg e]
          obtain ⟨c, c1, c2, c3⟩ := s3 j (by omega)
          exact ⟨c, c1, by omega, c3⟩
      · by_cases e : c = i
        · subst e; exact ⟨sz, by omega, by rw [mA_setI, mA_same, upd_same]⟩
        · obtain ⟨j, j1, j2⟩ := s4 c (by omega) z2
          exact ⟨j, by omega, by rw [mA_setI, mA_same, upd_ne _ _ (by omega)]; exact j2⟩
  · intro k M' ⟨f, G⟩
    show B_X4_gatherCells_7 Z Q (L_X4_gatherCells_7 Z Q k) M' y b n (nI 49)
    unfold B_X4_gatherCells_7
    exact ⟨fun _ => hQ M' f G, fun z => absurd (by decide) z⟩
theorem p15 : ∀ p, p < 240 → nI p / 15 = nI (p / 15) ∧ nI p - nI p / 15 * 15 = nI (p % 15) := by decide +kernel
theorem sh_all : ∀ a, a < 8 → ∀ b, b < 16 → (nI a + (nI b - 7) < 0 ↔ a + b < 7) ∧ (7 ≤ a + b → nI a + (nI b - 7) = nI (a + b - 7)) := by decide +kernel
/-- a block may lie where it is shifted to: one cell -/
def okC (W H : Nat) (th lb : Nat → Int32) (n : Int32) (p c : Nat) : Prop := 7 ≤ c / W + p / 15 ∧ 7 ≤ c % W + p % 15 ∧ c % W + p % 15 < W + 7 ∧ (c / W + p / 15 < H + 7 → ¬ th ((c / W + p / 15 - 7) * W + (c % W + p % 15 - 7)) ≤ 0 → lb ((c / W + p / 15 - 7) * W + (c % W + p % 15 - 7)) = n)
theorem sp_canLie {Z : ZZ} {M : MM} {x y b : Nat} {g : GG} {W H p : Nat} {n : Int32} {lb : Nat → Int32} {Q : Int32 → MM → Prop} (h : IceAt Z x) (hy : WayAt Z y) (hb : BlkAt Z b) (t : IceS M x g) (w : WH g W H) (hlb : ∀ c, c < 49 → mA M (b + 2) c = lb c) (hcl : ∀ c, c < 49 → lb c = n → c < W * H) (G : GatS M y lb n 49) (hp : p < 240) (hQ1 : (∀ c, c < W * H → lb c = n → okC W H (gt g) lb n p c) → Q 1 M) (hQ0 : (∃ c, c < W * H ∧ lb c = n ∧ ¬ okC W H (gt g) lb n p c) → Q 0 M) : P_X4_canLie Z M y x b n (nI p) Q := by
  have hW : 0 < W := by have := w.2.2.1; omega
  have hW7 : W ≤ 7 := w.2.2.2.1
  have hH7 : H ≤ 7 := w.2.2.2.2.2
  have h49 : W * H ≤ 49 := wh_lt hW7 hH7
  have h10 : NumAt Z (y + 3) (y + 4) 49 := hy.2.2.2.2.2.2.1
  obtain ⟨sz, s1, s2, s3, s4⟩ := G
  obtain ⟨p1, p2⟩ := p15 p hp
  unfold P_X4_canLie B_X4_canLie_0 P_X4_downAt B_X4_downAt_0 P_X4_rightAt B_X4_rightAt_0
  rw [p2, p1]
  refine ⟨sz + 1, ?_⟩
  refine for_up sz (fun k i (_ : Unit) => L_X4_canLie_17 Z Q k M y x b n (nI (p / 15) - 7) (nI (p % 15) - 7) (nI i)) (fun i _ => ∀ j, j < i → ∀ c, mA M (y + 4) j = nI c → c < 49 → okC W H (gt g) lb n p c) ?_ ?_ sz 0 () (by omega) (fun j hj => absurd hj (by omega))
  · intro k i _ hi I kk
    obtain ⟨c, c1, c2, c3⟩ := s3 i hi
    have hc := hcl c c2 c3
    have hcw : c / W < H := Nat.div_lt_of_lt_mul hc
    have hcm : c % W < W := Nat.mod_lt _ hW
    have kk : okC W H (gt g) lb n p c → L_X4_canLie_17 Z Q k M y x b n (nI (p / 15) - 7) (nI (p % 15) - 7) (nI (i + 1)) := by
      intro ok
      refine kk () (fun j hj d d1 d2 => ?_)
      by_cases e : j = i
      · subst e
        have : d = c := by
          have := d1.symm.trans c1
          rwa [n_eq (by omega) (by omega)] at this
        subst this; exact ok
      · exact I j (by omega) d d1 d2
    have hno : ¬ okC W H (gt g) lb n p c → Q 0 M := fun z => hQ0 ⟨c, hc, c3, z⟩
    show B_X4_canLie_17 Z Q (L_X4_canLie_17 Z Q k) M y x b n (nI (p / 15) - 7) (nI (p % 15) - 7) (nI i)
    unfold B_X4_canLie_17 B_X4_canLie_125
    rw [s2]
    refine ⟨hy.1, fun z => absurd z ?_, fun _ => ⟨y + 3, hy.2.2.1, h10.1, (sp_at h10).mpr ?_⟩⟩
    · rw [n_le (by omega) (by omega)]; omega
    rw [gat_n (by omega) (by omega), c1]
    refine ⟨h.1, (sp_row h t w (by omega)).mpr ((sp_at h10).mpr ?_)⟩
    rw [gat_n (by omega) (by omega), c1]
    refine (sp_col h t w (by omega)).mpr ?_
    have hp15 : p / 15 < 16 := by omega
    obtain ⟨a1, a2⟩ := sh_all (c / W) (by omega) (p / 15) hp15
    obtain ⟨b1, b2⟩ := sh_all (c % W) (by omega) (p % 15) (by omega)
    refine ⟨fun z => hno (fun ok => ?_), fun z => ?_⟩
    · rw [a1] at z; exact absurd ok.1 (by omega)
    · rw [a1] at z
      rw [a2 (by omega)]
      refine ⟨fun z2 => hno (fun ok => ?_), fun z2 => ?_⟩
      · rw [b1] at z2; exact absurd ok.2.1 (by omega)
      · rw [b1] at z2
        rw [b2 (by omega), t.1 0 (by omega), t.1 1 (by omega), w.1, w.2.1, n_mul, nI_add, nI_1]
        refine ⟨fun z3 => ⟨fun z4 => ?_, fun z4 => ?_⟩, fun z3 => hno (fun ok => ?_)⟩
        · rw [n_lt (by omega) (by omega)] at z3
          rw [n_le (by omega) (by omega)] at z4
          exact kk ⟨by omega, by omega, by omega, fun z5 => by omega⟩
        · rw [n_lt (by omega) (by omega)] at z3
          rw [n_le (by omega) (by omega)] at z4
          have hj : (c / W + p / 15 - 7) * W + (c % W + p % 15 - 7) < W * H := by
            have h3 : W * (c / W + p / 15 - 7 + 1) ≤ W * H := Nat.mul_le_mul_left _ (by omega)
            rw [Nat.mul_add, Nat.mul_comm W (c / W + p / 15 - 7)] at h3
            omega
          refine (sp_isIce h t (by omega)).mpr ⟨fun z5 => ?_, fun z5 => ?_⟩
          · rw [bI_0] at z5
            exact kk ⟨by omega, by omega, by omega, fun _ z6 => absurd z6 z5⟩
          · rw [bI_0, Classical.not_not] at z5
            refine ⟨hb.1, (sp_number hb (by omega)).mpr ?_⟩
            rw [hlb _ (by omega)]
            refine ⟨fun z6 => kk ⟨by omega, by omega, by omega, fun _ _ => z6⟩, fun z6 => hno (fun ok => ?_)⟩
            exact z6 (ok.2.2.2 (by omega) z5)
        · rw [n_lt (by omega) (by omega)] at z3
          exact absurd ok.2.2.1 (by omega)
  · intro k _ I
    show B_X4_canLie_17 Z Q (L_X4_canLie_17 Z Q k) M y x b n (nI (p / 15) - 7) (nI (p % 15) - 7) (nI sz)
    unfold B_X4_canLie_17
    rw [s2]
    refine ⟨hy.1, fun _ => hQ1 (fun c hc z => ?_), fun z => absurd (nI_le (Nat.le_refl _) (by omega)) z⟩
    obtain ⟨i, i1, i2⟩ := s4 c (by omega) z
    exact I i i1 c i2 (by omega)
def st (m : Nat) : Int32 := if m = 0 then -1 else if m = 1 then 1 else if m = 2 then -15 else 15
theorem sp_step {Z : ZZ} {M : MM} {m : Nat} {Q : Int32 → MM → Prop} (hm : m < 4) : P_X4_stepOf Z M (nI m) Q ↔ Q (st m) M := by
  unfold P_X4_stepOf B_X4_stepOf_0
  have e0 : ∀ k : Nat, k < 4 → (nI k = (0 : Int32) ↔ k = 0) ∧ (nI k = (1 : Int32) ↔ k = 1) ∧ (nI k = (2 : Int32) ↔ k = 2) ∧ (nI k = (3 : Int32) ↔ k = 3) := by decide
  obtain ⟨a0, a1, a2, a3⟩ := e0 m hm
  simp only [a0, a1, a2, a3]
  obtain rfl | rfl | rfl | rfl : m = 0 ∨ m = 1 ∨ m = 2 ∨ m = 3 := by omega
  · simp [st]
  · simp [st]
  · simp [st]
  · simp [st]
theorem st_add {p m : Nat} (hp : 15 ≤ p) (hm : m < 4) : nI p + st m = nI (Em p m) := by
  obtain rfl | rfl | rfl | rfl : m = 0 ∨ m = 1 ∨ m = 2 ∨ m = 3 := by omega
  · show nI p + (-1) = nI (p - 1)
    rw [← n_sub (by omega : 1 ≤ p)]; rw [Int32.sub_eq_add_neg]; rfl
  · exact nI_add p 1
  · show nI p + (-15) = nI (p - 15)
    rw [← n_sub (by omega : 15 ≤ p)]; rw [Int32.sub_eq_add_neg]; rfl
  · exact nI_add p 15
theorem st_sub {p m : Nat} (hp : 15 ≤ p) (hm : m < 4) : nI (Em p m) - st m = nI p := by
  rw [← st_add hp hm]; exact Int32.add_sub_cancel _ _
theorem sp_trace {Z : ZZ} {M : MM} {y D : Nat} {pos mvs : Nat → Nat} {Q : Int32 → MM → Prop} (hy : WayAt Z y) (hD : D < 240) (hpD : pos D = 112) (hk : ∀ k, k < D → pos k < 240 ∧ pos k ≠ 112 ∧ mA M (y + 6) (pos k) = nI (mvs k) ∧ mvs k < 4 ∧ pos k = Em (pos (k + 1)) (mvs k) ∧ 15 ≤ pos (k + 1)) (hQ : ∀ M1, Fr [y + 2] [] M M1 → (∀ k, k < D → mA M1 (y + 2) (D - 1 - k) = nI (mvs k)) → Q (nI D) M1) : P_X4_traceBack Z M y (nI (pos 0)) Q := by
  have hm : NumAt Z (y + 1) (y + 2) 240 := hy.2.2.2.2.2.1
  have hr : NumAt Z (y + 5) (y + 6) 240 := hy.2.2.2.2.2.2.2.1
  refine ⟨D + 1, ?_⟩
  refine for_up D (fun k i (_ : Unit) => L_X4_traceBack_7 Z Q k M y (nI (pos 0)) (nI i) (nI (pos i)) (nI i)) (fun _ _ => True) ?_ ?_ D 0 () (by omega) trivial
  · intro k i _ hi _ kk
    have kk := kk () trivial
    obtain ⟨h1, h2, h3, h4, h5, h6⟩ := hk i hi
    show B_X4_traceBack_7 Z Q (L_X4_traceBack_7 Z Q k) M y (nI (pos 0)) (nI i) (nI (pos i)) (nI i)
    unfold B_X4_traceBack_7
    refine ⟨fun z => absurd z ?_, fun _ => ⟨fun z => absurd z ?_, fun _ => ⟨hy.1, y + 5, hy.2.2.2.1, hr.1, (sp_at hr).mpr ?_⟩⟩⟩
    · rw [show (240 : Int32) = nI 240 from rfl, n_le (by omega) (by omega)]; omega
    · rw [show (112 : Int32) = nI 112 from rfl, n_eq (by omega) (by omega)]; exact h2
    rw [gat_n h1 (by omega), h3]
    refine (sp_step h4).mpr ?_
    have e : nI (pos i) - st (mvs i) = nI (pos (i + 1)) := by
      have := st_sub h6 h4
      rw [← h5] at this
      exact this
    rw [e, nI_1]
    exact kk
  · intro k _ _
    show B_X4_traceBack_7 Z Q (L_X4_traceBack_7 Z Q k) M y (nI (pos 0)) (nI D) (nI (pos D)) (nI D)
    unfold B_X4_traceBack_7
    have go : B_X4_traceBack_44 Z Q M y (nI (pos 0)) (nI D) := by
      unfold B_X4_traceBack_44
      refine ⟨D + 1, ?_⟩
      refine for_up D (fun k i M' => L_X4_traceBack_51 Z Q k M' y (nI D) (nI (pos i)) (nI (D - i) - 1)) (fun i M' => Fr [y + 2] [] M M' ∧ ∀ k, k < i → mA M' (y + 2) (D - 1 - k) = nI (mvs k)) ?_ ?_ D 0 M (by omega) ⟨Fr.refl _ _ _, fun k hk => absurd hk (by omega)⟩
      · intro k i M' hi ⟨f, I⟩ kk
        obtain ⟨h1, h2, h3, h4, h5, h6⟩ := hk i hi
        show B_X4_traceBack_51 Z Q (L_X4_traceBack_51 Z Q k) M' y (nI D) (nI (pos i)) (nI (D - i) - 1)
        unfold B_X4_traceBack_51
        have e1 : nI (D - i) - 1 = nI (D - 1 - i) := by
          rw [show (1 : Int32) = nI 1 from rfl, n_sub (by omega)]; congr 1; omega
        rw [e1]
        have hrb : mA M' (y + 6) (pos i) = nI (mvs i) := by rw [f.1 _ (by simp)]; exact h3
        refine ⟨fun z => absurd z (i_nn _ (by omega)), fun _ => ⟨hy.1, y + 1, hy.2.1, y + 5, hy.2.2.2.1, hr.1, (sp_at hr).mpr ?_⟩⟩
        rw [gat_n h1 (by omega), hrb]
        refine ⟨hm.1, (sp_put hm).mpr ((sp_at hr).mpr ?_)⟩
        rw [pput_n (by omega) (by omega), gat_n h1 (by omega), mA_ne _ _ _ (by omega : y + 6 ≠ y + 2), hrb]
        refine (sp_step h4).mpr ?_
        have e : nI (pos i) - st (mvs i) = nI (pos (i + 1)) := by
          have := st_sub h6 h4
          rw [← h5] at this
          exact this
        have e2 : nI (D - 1 - i) + (-1) = nI (D - (i + 1)) - 1 := by
          rw [Int32.sub_eq_add_neg]; congr 2; omega
        rw [e, e2]
        refine kk _ ⟨f.trans (Fr.setA _ _ _), fun k hk2 => ?_⟩
        rw [mA_same, upd_at]
        by_cases z : k = i
        · subst z; rw [if_pos rfl]
        · rw [if_neg (by omega)]; exact I k (by omega)
      · intro k M' ⟨f, I⟩
        show B_X4_traceBack_51 Z Q (L_X4_traceBack_51 Z Q k) M' y (nI D) (nI (pos D)) (nI (D - D) - 1)
        unfold B_X4_traceBack_51
        rw [Nat.sub_self]
        exact ⟨fun _ => hQ M' f I, fun z => absurd (by decide) z⟩
    refine ⟨fun _ => go, fun _ => ⟨fun _ => go, fun z => absurd ?_ z⟩⟩
    rw [hpD]; rfl
