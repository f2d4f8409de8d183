/-! PURE: the model melts, sums, counts -/
section
variable {Z : ZZ} {M : MM} {m : Nat} {g : GG} {W H : Nat}
theorem wb1_0 {th : Nat → Int32} {c : Nat} : wb1 W H th c 0 = if c % W + 1 < W then (if th (c + 1) ≤ 0 then 1 else 0) else 0 := by
  unfold wb1 bs
  by_cases e : c % W + 1 < W <;> simp [e]
theorem wb1_1 {th : Nat → Int32} {c : Nat} : wb1 W H th c 1 = if c + W < W * H then (if th (c + W) ≤ 0 then 1 else 0) else 1 := by
  unfold wb1 bs
  by_cases e : c + W < W * H <;> simp [e]
theorem wb1_2 {th : Nat → Int32} {c : Nat} : wb1 W H th c 2 = if W ≤ c then (if th (c - W) ≤ 0 then 1 else 0) else 0 := by
  unfold wb1 bs
  by_cases e : W ≤ c <;> simp [e]
theorem wb1_3 {th : Nat → Int32} {c : Nat} : wb1 W H th c 3 = if 0 < c % W then (if th (c - 1) ≤ 0 then 1 else 0) else 0 := by
  unfold wb1 bs
  by_cases e : 0 < c % W <;> simp [e]
theorem n_p0 (k : Nat) : nI k + 0 = nI (k + 0) := nI_add k 0
theorem mo_w89 {c a b : Nat} {Q : Int32 → MM → Prop} (F : ModAt Z m) (t : MoS M m g) (w : WH g W H) (hc : c < W * H) (hQ : Q (nI (b + a + wb1 W H (gt g) c 0)) M) : B_X6_waterBeside_89 Z Q M m (nI c) (nI W) (nI a) (nI b) := by
  have h2 := w.2.2.1
  have h49 : W * H ≤ 49 := wh_lt w.2.2.2.1 w.2.2.2.2.2
  have hm : c % W < W := Nat.mod_lt _ (by omega)
  have hW7 := w.2.2.2.1
  unfold B_X6_waterBeside_89
  have p1 : nI W - 1 = nI (W - 1) := by rw [← n_sub (by omega : 1 ≤ W)]; rfl
  rw [p1, nI_add, n_p0, nI_1, nI_1]
  refine ⟨F.1, (mo_col F t w (by omega)).mpr ⟨fun z => ?_, fun z => ?_⟩⟩
  · rw [n_le (by omega) (by omega)] at z
    rw [wb1_0, if_neg (by omega)] at hQ; exact hQ
  · rw [n_le (by omega) (by omega)] at z
    rw [wb1_0, if_pos (by omega)] at hQ
    have hd : c + 1 < W * H := by
      have : bs W H c 0 = some (c + 1) := by simp [bs]; omega
      exact bs_lt hc this (by omega)
    refine (mo_isIce F t (by omega)).mpr ⟨fun z2 => ?_, fun z2 => ?_⟩
    · rw [bI_0, Classical.not_not] at z2; rw [if_neg z2] at hQ; exact hQ
    · rw [bI_0, Classical.not_not] at z2; rw [if_pos z2] at hQ; exact hQ
theorem mo_w63 {c a b : Nat} {Q : Int32 → MM → Prop} (F : ModAt Z m) (t : MoS M m g) (w : WH g W H) (hc : c < W * H) (hQ : Q (nI (b + a + wb1 W H (gt g) c 3 + wb1 W H (gt g) c 0)) M) : B_X6_waterBeside_63 Z Q M m (nI c) (nI W) (nI a) (nI b) := by
  have h2 := w.2.2.1
  have h49 : W * H ≤ 49 := wh_lt w.2.2.2.1 w.2.2.2.2.2
  have hm : c % W < W := Nat.mod_lt _ (by omega)
  have hW7 := w.2.2.2.1
  unfold B_X6_waterBeside_63 B_X6_waterBeside_88
  have c3 : nI (c % W) ≤ 0 ↔ ¬ 0 < c % W := by rw [show (0 : Int32) = nI 0 from rfl, n_le (by omega) (by omega)]; omega
  rw [nI_add]
  refine ⟨F.1, (mo_col F t w (by omega)).mpr ⟨fun z => ?_, fun z => ?_⟩⟩
  · rw [c3] at z
    rw [wb1_3, if_neg z] at hQ; exact mo_w89 (a := 0) F t w hc hQ
  · rw [c3, Classical.not_not] at z
    rw [wb1_3, if_pos z] at hQ
    have h1 : 1 ≤ c := Nat.le_trans z (Nat.mod_le _ _)
    have e4 : nI c - 1 = nI (c - 1) := by rw [← n_sub h1]; rfl
    rw [e4]
    refine (mo_isIce F t (by omega)).mpr ⟨fun z2 => ?_, fun z2 => ?_⟩
    · rw [bI_0, Classical.not_not] at z2; rw [if_neg z2] at hQ; exact mo_w89 (a := 0) F t w hc hQ
    · rw [bI_0, Classical.not_not] at z2; rw [if_pos z2] at hQ; exact mo_w89 (a := 1) F t w hc hQ
theorem mo_w38 {c a : Nat} {Q : Int32 → MM → Prop} (F : ModAt Z m) (t : MoS M m g) (w : WH g W H) (hc : c < W * H) (hQ : Q (nI (a + wb1 W H (gt g) c 2 + wb1 W H (gt g) c 3 + wb1 W H (gt g) c 0)) M) : B_X6_waterBeside_38 Z Q M m (nI c) (nI W) (nI a) := by
  have h2 := w.2.2.1
  have h49 : W * H ≤ 49 := wh_lt w.2.2.2.1 w.2.2.2.2.2
  have hH7 := w.2.2.2.2.2
  have hr := row_lt hc
  have hrz := Nat.zero_le (c / W)
  unfold B_X6_waterBeside_38 B_X6_waterBeside_62
  have c3 : nI (c / W) ≤ 0 ↔ ¬ W ≤ c := by rw [show (0 : Int32) = nI 0 from rfl, n_le (by omega) (by omega), ← row_pos (by omega : 0 < W)]; omega
  refine ⟨F.1, (mo_row F t w (by omega)).mpr ⟨fun z => ?_, fun z => ?_⟩⟩
  · rw [c3] at z
    rw [wb1_2, if_neg z] at hQ; exact mo_w63 (a := 0) F t w hc hQ
  · rw [c3, Classical.not_not] at z
    rw [wb1_2, if_pos z] at hQ
    rw [n_sub z]
    refine (mo_isIce F t (by omega)).mpr ⟨fun z2 => ?_, fun z2 => ?_⟩
    · rw [bI_0, Classical.not_not] at z2; rw [if_neg z2] at hQ; exact mo_w63 (a := 0) F t w hc hQ
    · rw [bI_0, Classical.not_not] at z2; rw [if_pos z2] at hQ; exact mo_w63 (a := 1) F t w hc hQ
theorem mo_water {c : Nat} {Q : Int32 → MM → Prop} (F : ModAt Z m) (t : MoS M m g) (w : WH g W H) (hc : c < W * H) (hQ : Q (nI (wbn W H (gt g) c 4)) M) : P_X6_waterBeside Z M m (nI c) Q := by
  have h2 := w.2.2.1
  have h49 : W * H ≤ 49 := wh_lt w.2.2.2.1 w.2.2.2.2.2
  have hH7 := w.2.2.2.2.2
  have h3 := w.2.2.2.2.1
  have hr := row_lt hc
  have hrz := Nat.zero_le (c / W)
  have v0 : vp_in 0 (zN Z (m + 1)) := by rw [F.all.2.2]; exact vp0.1
  have v1 : vp_in 1 (zN Z (m + 1)) := by rw [F.all.2.2]; exact vp0.2.1
  have e4 : wbn W H (gt g) c 4 = wb1 W H (gt g) c 1 + wb1 W H (gt g) c 2 + wb1 W H (gt g) c 3 + wb1 W H (gt g) c 0 := by
    simp only [wbn]; omega
  rw [e4] at hQ
  unfold P_X6_waterBeside B_X6_waterBeside_0 B_X6_waterBeside_33
  refine ⟨F.1, m + 1, F.all.1, F.all.2.1, v0, (mo_row F t w (by omega)).mpr ?_⟩
  rw [t.w0 w, t.w1 w]
  have p2 : nI H - 1 = nI (H - 1) := by rw [← n_sub (by omega : 1 ≤ H)]; rfl
  have c2 : nI (c / W) = nI (H - 1) ↔ ¬ c + W < W * H := by
    rw [n_eq (by omega) (by omega), ← below_iff (by omega : 0 < W)]; omega
  rw [p2, c2]
  refine ⟨v1, fun z => ?_, fun z => ?_⟩
  · rw [wb1_1, if_neg z] at hQ
    exact mo_w38 (a := 1) F t w hc hQ
  · have z := Classical.not_not.mp z
    rw [wb1_1, if_pos z] at hQ
    rw [nI_add]
    refine (mo_isIce F t (by omega)).mpr ⟨fun z2 => ?_, fun z2 => ?_⟩
    · rw [bI_0, Classical.not_not] at z2; rw [if_neg z2] at hQ; exact mo_w38 (a := 0) F t w hc hQ
    · rw [bI_0, Classical.not_not] at z2; rw [if_pos z2] at hQ; exact mo_w38 (a := 1) F t w hc hQ
theorem ModAt.lo (F : ModAt Z m) : zR Z 25 m = some (m + 6) ∧ zK Z (m + 6) = 7 ∧ zN Z (m + 6) = 49 := ⟨F.2.1.2.2.2.2.2.1, F.2.2.2.2.2.2.2.1.1, F.2.2.2.2.2.2.2.1.2⟩
theorem mo_day {Q : Int32 → MM → Prop} (F : ModAt Z m) (t : MoS M m g) (w : WH g W H) (hQ : ∀ M1, Fr [m + 1, m + 6] [] M M1 → MoS M1 m (dayS W H g) → Q (sm (los W H (gs g 2) (gt g)) (W * H)) M1) : P_X6_day Z M m Q := by
  have h49 : W * H ≤ 49 := wh_lt w.2.2.2.1 w.2.2.2.2.2
  have hvk : ∀ k, k < 226 → vp_in (nI k) (zN Z (m + 1)) := fun k hk => by rw [F.all.2.2]; exact vpn hk (by omega)
  refine ⟨W * H + 1, ?_⟩
  refine for_up (W * H) (fun k i M' => L_X6_day_4 Z Q k M' m (sm (los W H (gs g 2) (gt g)) i) (nI i)) (fun i M' => Fr [m + 6] [] M M' ∧ ∀ j, j < i → mA M' (m + 6) j = los W H (gs g 2) (gt g) j) ?_ ?_ (W * H) 0 M (by omega) ⟨Fr.refl _ _ _, fun j hj => absurd hj (by omega)⟩
  · intro k i M' hi ⟨f, I⟩ kk
    have t1 := t.frame f (by simp)
    have hv : vp_in (nI i) (zN Z (m + 6)) := by rw [F.lo.2.2]; exact vpn (by omega) (by omega)
    have hv8 : vp_in (8 + nI i) (zN Z (m + 1)) := by rw [e8]; exact hvk _ (by omega)
    show B_X6_day_4 Z Q (L_X6_day_4 Z Q k) M' m (sm (los W H (gs g 2) (gt g)) i) (nI i)
    unfold B_X6_day_4
    refine ⟨F.1, (mo_cells F t1 w).mpr ⟨fun e => absurd e ?_, fun _ => ⟨m + 1, F.all.1, F.all.2.1, hvk 2 (by omega), mo_water F t1 w hi ?_⟩⟩⟩
    · rw [n_le (by omega) (by omega)]; omega
    have e2 : mA M' (m + 1) (2 : Int32).toNatClampNeg = gs g 2 := t1.s (k := 2) (by omega)
    rw [e2]
    have hl := wbn_le W H (gt g) i 4
    have c1 : nI (wbn W H (gt g) i 4) ≤ 1 ↔ wbn W H (gt g) i 4 < 2 := by rw [show (1 : Int32) = nI 1 from rfl, n_le (by omega) (by omega)]; omega
    rw [c1]
    -- the loss is put down
    have done : ∀ (x : Int32), los W H (gs g 2) (gt g) i = x → B_X6_day_65 Z Q (L_X6_day_4 Z Q k) M' m (sm (los W H (gs g 2) (gt g)) i) (nI i) x (nI i) (m + 6) := by
      intro x hx
      unfold B_X6_day_65
      refine ⟨F.lo.2.1, hv, F.1, m + 6, F.lo.1, F.lo.2.1, hv, ?_⟩
      rw [i_cl i (by omega), mA_same, upd_same, nI_1]
      have e3 : sm (los W H (gs g 2) (gt g)) i + x = sm (los W H (gs g 2) (gt g)) (i + 1) := by simp only [sm]; rw [hx]
      rw [e3]
      refine kk _ ⟨f.trans (Fr.setA _ _ _), fun j hj => ?_⟩
      rw [mA_same, upd_at]
      by_cases e : j = i
      · subst e; rw [if_pos rfl, hx]
      · rw [if_neg e]; exact I j (by omega)
    have fin : ∀ x : Int32, (if wbn W H (gt g) i 4 < 2 then gs g 2 else gs g 2 + 1) = x → (gt g i ≤ x → B_X6_day_65 Z Q (L_X6_day_4 Z Q k) M' m (sm (los W H (gs g 2) (gt g)) i) (nI i) (gt g i) (nI i) (m + 6)) ∧ (¬ gt g i ≤ x → B_X6_day_65 Z Q (L_X6_day_4 Z Q k) M' m (sm (los W H (gs g 2) (gt g)) i) (nI i) x (nI i) (m + 6)) := by
      intro x hx
      refine ⟨fun z => done _ ?_, fun z => done _ ?_⟩
      · unfold los; rw [hx, if_pos z]
      · unfold los; rw [hx, if_neg z]
    unfold B_X6_day_32
    refine ⟨fun z => ⟨F.1, m + 6, F.lo.1, m + 1, F.all.1, F.all.2.1, hv8, ?_⟩, fun z => ⟨F.1, m + 6, F.lo.1, m + 1, F.all.1, F.all.2.1, hv8, ?_⟩⟩
    · rw [Int32.add_zero, e8, i_cl (8 + i) (by omega), t1.th (by omega)]
      exact ⟨fun z2 => ⟨hvk _ (by omega), (fin (gs g 2) (if_pos z)).1 z2⟩, fun z2 => (fin (gs g 2) (if_pos z)).2 z2⟩
    · rw [e8, i_cl (8 + i) (by omega), t1.th (by omega)]
      exact ⟨fun z2 => ⟨hvk _ (by omega), (fin (gs g 2 + 1) (if_neg z)).1 z2⟩, fun z2 => (fin (gs g 2 + 1) (if_neg z)).2 z2⟩
  · intro k M' ⟨f, I⟩
    have t1 := t.frame f (by simp)
    show B_X6_day_4 Z Q (L_X6_day_4 Z Q k) M' m (sm (los W H (gs g 2) (gt g)) (W * H)) (nI (W * H))
    unfold B_X6_day_4
    refine ⟨F.1, (mo_cells F t1 w).mpr ⟨fun _ => ⟨W * H + 1, ?_⟩, fun e => absurd (nI_le (Nat.le_refl _) (by omega)) e⟩⟩
    refine for_up (W * H) (fun k i M2 => L_X6_day_83 Z Q k M2 m (sm (los W H (gs g 2) (gt g)) (W * H)) (nI i)) (fun i M2 => Fr [m + 1, m + 6] [] M M2 ∧ (∀ j, j < W * H → mA M2 (m + 6) j = los W H (gs g 2) (gt g) j) ∧ MoS M2 m (mk (gs g) (fun c => if c < i then gt g c - los W H (gs g 2) (gt g) c else gt g c) (gc g) (gk g))) ?_ ?_ (W * H) 0 M' (by omega) ⟨f.mono (by simp) (by simp), I, t1.cong (fun _ _ => rfl) (fun c hc => by rw [gt_mk]; simp) rfl (fun _ _ => rfl)⟩
    · intro k i M2 hi ⟨f2, I2, t2⟩ kk
      have w2 : WH (mk (gs g) (fun c => if c < i then gt g c - los W H (gs g 2) (gt g) c else gt g c) (gc g) (gk g)) W H := w.mk rfl rfl
      have hv : vp_in (nI i) (zN Z (m + 6)) := by rw [F.lo.2.2]; exact vpn (by omega) (by omega)
      have hv8 : vp_in (8 + nI i) (zN Z (m + 1)) := by rw [e8]; exact hvk _ (by omega)
      show B_X6_day_83 Z Q (L_X6_day_83 Z Q k) M2 m (sm (los W H (gs g 2) (gt g)) (W * H)) (nI i)
      unfold B_X6_day_83
      refine ⟨F.1, (mo_cells F t2 w2).mpr ⟨fun e => absurd e ?_, fun _ => ⟨m + 1, F.all.1, F.all.2.1, hv8, m + 6, F.lo.1, F.lo.2.1, hv, hv8, ?_⟩⟩⟩
      · rw [n_le (by omega) (by omega)]; omega
      rw [e8, i_cl (8 + i) (by omega), i_cl i (by omega), t2.th (by omega), I2 i hi, nI_1]
      refine kk _ ⟨f2.trans ((Fr.setA _ _ _).mono (by simp) (by simp)), fun j hj => ?_, (t2.setT i _ (by omega)).cong (fun _ _ => rfl) (fun c hc => ?_) rfl (fun _ _ => rfl)⟩
      · rw [mA_ne _ _ _ (by omega)]; exact I2 j hj
      · rw [gt_mk, gt_mk, gt_mk, upd_at]
        by_cases e : c = i
        · subst e; simp
        · by_cases e2 : c < i
          · have : c < i + 1 := by omega
            simp [e, e2, this]
          · have : ¬ c < i + 1 := by omega
            simp [e, e2, this]
    · intro k M2 ⟨f2, I2, t2⟩
      have w2 : WH (mk (gs g) (fun c => if c < W * H then gt g c - los W H (gs g 2) (gt g) c else gt g c) (gc g) (gk g)) W H := w.mk rfl rfl
      show B_X6_day_83 Z Q (L_X6_day_83 Z Q k) M2 m (sm (los W H (gs g 2) (gt g)) (W * H)) (nI (W * H))
      unfold B_X6_day_83
      refine ⟨F.1, (mo_cells F t2 w2).mpr ⟨fun _ => ⟨m + 1, F.all.1, F.all.2.1, hvk 6 (by omega), hvk 6 (by omega), hvk 3 (by omega), hvk 3 (by omega), ?_⟩, fun e => absurd (nI_le (Nat.le_refl _) (by omega)) e⟩⟩
      have a1 : mA M2 (m + 1) (6 : Int32).toNatClampNeg = gs g 5 := t2.s (k := 6) (by omega)
      rw [a1]
      have t3 := t2.setS (k := 6) (gs g 5 + sm (los W H (gs g 2) (gt g)) (W * H)) (by omega) (by omega)
      have a2 : mA (setA M2 (m + 1) (upd (mA M2 (m + 1)) (6 : Int32).toNatClampNeg (gs g 5 + sm (los W H (gs g 2) (gt g)) (W * H)))) (m + 1) (3 : Int32).toNatClampNeg = gs g 3 := t3.s (k := 3) (by omega)
      rw [a2]
      have t4 := t3.setS (k := 3) (gs g 3 + 1) (by omega) (by omega)
      exact hQ _ (f2.trans (((Fr.setA _ _ _).trans (Fr.setA _ _ _)).mono (by simp) (by simp))) (t4.cong (fun j _ => rfl) (fun _ _ => rfl) rfl (fun _ _ => rfl))
/-! sums -/
theorem sm_shift (f : Nat → Int32) (a n : Nat) : sm f (a + n) = sm f a + sm (fun c => f (a + c)) n := by
  induction n with
  | zero => simp [sm]
  | succ n ih =>
    rw [show a + (n + 1) = (a + n) + 1 from rfl]
    simp only [sm]
    rw [ih, Int32.add_assoc]
def bitS (v : Int32) : Int32 := ((v &&& 1) + ((v >>> ((1 : Int32) &&& 31)) &&& 1)) + ((v >>> ((2 : Int32) &&& 31)) &&& 1)
theorem bitS_bts (p q r : Prop) [Decidable p] [Decidable q] [Decidable r] : bitS ((if p then (1 : Int32) else 0) + (if q then 2 else 0) + (if r then 4 else 0)) = ((if p then (1 : Int32) else 0) + (if q then 1 else 0)) + (if r then 1 else 0) := by
  by_cases hp : p <;> by_cases hq : q <;> by_cases hr : r <;> simp only [hp, hq, hr, if_true, if_false] <;> decide
theorem sm_cuts {ct : Nat → Int32} (ok : CtOk W H ct) (hW : 0 < W) (hH : 0 < H) (h49 : W * H ≤ 49) : sm (fun c => bitS (bts W (W * H) ct c)) (W * H) = sm ct 106 := by
  have hWH : W ≤ W * H := w_le hH
  have e01 : ∀ p, p < 106 → ct p = if ct p = 1 then 1 else 0 := fun p hp => by
    rcases (ok p hp).1 with z | z
    · rw [z]; rfl
    · rw [z]; rfl
  have eA : sm (fun c => if c < W * H ∧ c % W + 1 < W ∧ ct (57 + c) = 1 then (1 : Int32) else 0) (W * H) = sm (fun c => ct (57 + c)) 49 := by
    rw [sm_zero h49 (fun i h1 h2 => ?_)]
    · refine sm_ext (fun i hi => ?_)
      by_cases z : ct (57 + i) = 1
      · rcases (ok (57 + i) (by omega)).2 z with q | ⟨d, d1, d2, d3⟩
        · omega
        · have : d = i := by omega
          subst this
          rw [if_pos ⟨hi, d3, z⟩, z]
      · rw [if_neg (fun q => z q.2.2), ((ok (57 + i) (by omega)).1).resolve_right z]
    · rw [e01 (57 + i) (by omega)]
      refine if_neg (fun z => ?_)
      rcases (ok (57 + i) (by omega)).2 z with q | ⟨d, d1, d2, d3⟩
      · omega
      · omega
  have eB : sm (fun c => if c + W < W * H ∧ ct (c + W) = 1 then (1 : Int32) else 0) (W * H) = sm (fun c => ct (W + c)) (W * H - W) := by
    rw [sm_zero (by omega : W * H - W ≤ W * H) (fun i h1 h2 => if_neg (fun q => by omega))]
    refine sm_ext (fun i hi => ?_)
    rw [Nat.add_comm i W]
    by_cases z : ct (W + i) = 1
    · rw [if_pos ⟨by omega, z⟩, z]
    · rw [if_neg (fun q => z q.2), ((ok (W + i) (by omega)).1).resolve_right z]
  have eD : sm (fun c => if c < W * H ∧ c < W ∧ ct c = 1 then (1 : Int32) else 0) (W * H) = sm ct W := by
    rw [sm_zero hWH (fun i h1 h2 => if_neg (fun q => by omega))]
    refine sm_ext (fun i hi => ?_)
    by_cases z : ct i = 1
    · rw [if_pos ⟨by omega, hi, z⟩, z]
    · rw [if_neg (fun q => z q.2.2), ((ok i (by omega)).1).resolve_right z]
  have e1 : sm (fun c => bitS (bts W (W * H) ct c)) (W * H) = sm (fun c => ((if c < W * H ∧ c % W + 1 < W ∧ ct (57 + c) = 1 then (1 : Int32) else 0) + (if c + W < W * H ∧ ct (c + W) = 1 then (1 : Int32) else 0)) + (if c < W * H ∧ c < W ∧ ct c = 1 then (1 : Int32) else 0)) (W * H) := sm_ext (fun i _ => by unfold bts; exact bitS_bts _ _ _)
  rw [e1, sm_add, sm_add, eA, eB, eD]
  have s1 : sm ct 106 = sm ct 57 + sm (fun c => ct (57 + c)) 49 := sm_shift ct 57 49
  have s2 : sm ct 57 = sm ct (W * H) := sm_zero (by omega) (fun i h1 h2 => by
    rw [e01 i (by omega)]
    refine if_neg (fun z => ?_)
    rcases (ok i (by omega)).2 z with q | ⟨d, d1, d2, d3⟩
    · omega
    · omega)
  have s3 : sm ct (W * H) = sm ct W + sm (fun c => ct (W + c)) (W * H - W) := by
    have := sm_shift ct W (W * H - W)
    rwa [show W + (W * H - W) = W * H by omega] at this
  rw [s1, s2, s3]
  rw [Int32.add_assoc, Int32.add_comm (sm (fun c => ct (57 + c)) 49), Int32.add_comm (sm ct W)]
theorem mo_sumG {v : Int32} {f : Nat → Int32} {Q : Int32 → MM → Prop} (F : ModAt Z m) (t : MoS M m g) (w : WH g W H) (hf : (v = 10 ∧ ∀ c, c < W * H → f c = gt g c) ∨ (v = 2 ∧ ∀ c, c < W * H → f c = if gt g c ≤ 0 then 0 else 1) ∨ (v ≠ 10 ∧ v ≠ 2 ∧ ∀ c, c < W * H → f c = bitS (bts W (W * H) (gc g) c))) (hQ : Q (sm f (W * H)) M) : P_X6_sum Z M m v Q := by
  have h49 : W * H ≤ 49 := wh_lt w.2.2.2.1 w.2.2.2.2.2
  have hvk : ∀ k, k < 226 → vp_in (nI k) (zN Z (m + 1)) := fun k hk => by rw [F.all.2.2]; exact vpn hk (by omega)
  refine ⟨W * H + 1, ?_⟩
  refine for_up (W * H) (fun n i (_ : Unit) => L_X6_sum_4 Z Q n M m v (sm f i) (nI i)) (fun _ _ => True) ?_ ?_ (W * H) 0 () (by omega) trivial
  · intro n i _ hi _ k
    have k := k () trivial
    simp only [sm] at k
    show B_X6_sum_4 Z Q (L_X6_sum_4 Z Q n) M m v (sm f i) (nI i)
    unfold B_X6_sum_4 B_X6_sum_81
    refine ⟨F.1, (mo_cells F t w).mpr ⟨fun e => absurd e ?_, fun _ => ⟨m + 1, F.all.1, F.all.2.1, by rw [e57]; exact hvk _ (by omega), fun z => ⟨fun z2 => ?_, fun z2 => ?_⟩, fun z => ⟨by rw [e8]; exact hvk _ (by omega), ?_⟩⟩⟩⟩
    · rw [n_le (by omega) (by omega)]; omega
    · rw [e57, i_cl (57 + i) (by omega), t.ct w (by omega), nI_1]
      rcases hf with ⟨q, _⟩ | ⟨q, _⟩ | ⟨_, _, q⟩
      · exact absurd q z
      · exact absurd q z2
      · rw [q i hi] at k
        exact k
    · rw [nI_1]
      rcases hf with ⟨q, _⟩ | ⟨_, q⟩ | ⟨_, q, _⟩
      · exact absurd q z
      · rw [q i hi] at k
        refine (mo_isIce F t (by omega)).mpr ⟨fun z3 => ?_, fun z3 => ?_⟩
        · rw [bI_0, Classical.not_not] at z3
          rw [if_pos z3] at k; exact k
        · rw [bI_0, Classical.not_not] at z3
          rw [if_neg z3] at k; exact k
      · exact absurd z2 q
    · rw [e8, i_cl (8 + i) (by omega), t.th (by omega), nI_1]
      rcases hf with ⟨_, q⟩ | ⟨q, _⟩ | ⟨q, _, _⟩
      · rw [q i hi] at k; exact k
      · rw [q] at z; exact absurd z (by decide)
      · exact absurd z q
  · intro n _ _
    show B_X6_sum_4 Z Q (L_X6_sum_4 Z Q n) M m v (sm f (W * H)) (nI (W * H))
    unfold B_X6_sum_4
    exact ⟨F.1, (mo_cells F t w).mpr ⟨fun _ => hQ, fun e => absurd (nI_le (Nat.le_refl _) (by omega)) e⟩⟩
theorem cnI_sm (th : Nat → Int32) (n : Nat) : sm (fun c => if th c ≤ 0 then (0 : Int32) else 1) n = nI (cnI th n) := by
  induction n with
  | zero => rfl
  | succ n ih =>
    simp only [sm, cnI]
    rw [ih]
    by_cases e : th n ≤ 0
    · rw [if_pos e, if_pos e, Int32.add_zero]; rfl
    · rw [if_neg e, if_neg e, nI_1]
end
