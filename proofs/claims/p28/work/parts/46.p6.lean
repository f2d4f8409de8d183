/-! PURE: the class finds its blocks -/
theorem for_up2 {σ τ : Type} (N : Nat) (L : Nat → Nat → σ → τ → Prop) (I : Nat → σ → τ → Prop) (step : ∀ n i s t, i < N → I i s t → (∀ s1 t1, I (i + 1) s1 t1 → L n (i + 1) s1 t1) → L (n + 1) i s t) (fin : ∀ n s t, I N s t → L (n + 1) N s t) : ∀ k i s t, i + k = N → I i s t → L (k + 1) i s t := by
  intro k
  induction k with
  | zero =>
    intro i s t hi h
    have : i = N := by omega
    subst this
    exact fin 0 s t h
  | succ k ih =>
    intro i s t hi h
    exact step (k + 1) i s t (by omega) h (fun s1 t1 h1 => ih (i + 1) s1 t1 (by omega) h1)
def cnE (f : Nat → Int32) (v : Int32) : Nat → Nat
  | 0 => 0
  | n + 1 => cnE f v n + if f n = v then 1 else 0
theorem cnE_le (f : Nat → Int32) (v : Int32) (n : Nat) : cnE f v n ≤ n := by
  induction n with
  | zero => exact Nat.le_refl _
  | succ n ih =>
    simp only [cnE]
    by_cases e : f n = v
    · rw [if_pos e]; omega
    · rw [if_neg e]; omega
theorem cnE_ext {f g : Nat → Int32} {v : Int32} {n : Nat} (h : ∀ i, i < n → (f i = v ↔ g i = v)) : cnE f v n = cnE g v n := by
  induction n with
  | zero => rfl
  | succ n ih =>
    simp only [cnE]
    rw [ih (fun i hi => h i (by omega))]
    by_cases e : f n = v
    · rw [if_pos e, if_pos ((h n (by omega)).mp e)]
    · rw [if_neg e, if_neg (fun q => e ((h n (by omega)).mpr q))]
theorem cnE_upd {f : Nat → Int32} {v v2 : Int32} {d n : Nat} (hd : d < n) (h : f d = v) (h2 : v2 ≠ v) : cnE (upd f d v2) v n + 1 = cnE f v n := by
  induction n with
  | zero => omega
  | succ n ih =>
    simp only [cnE]
    by_cases e : d = n
    · subst e
      rw [upd_same, if_neg h2, if_pos h, cnE_ext (g := f) (fun i hi => by rw [upd_ne _ _ (by omega)])]
    · rw [upd_ne _ _ (by omega : n ≠ d), ← ih (by omega)]
      omega
theorem cnE_pos {f : Nat → Int32} {v : Int32} {d n : Nat} (hd : d < n) (h : f d = v) : 1 ≤ cnE f v n := by
  induction n with
  | zero => omega
  | succ n ih =>
    simp only [cnE]
    by_cases e : d = n
    · subst e; rw [if_pos h]; omega
    · have := ih (by omega); omega
def BlkAt (Z : ZZ) (b : Nat) : Prop := zK Z b = 0 ∧ zR Z 0 b = some (b + 1) ∧ zR Z 1 b = some (b + 3) ∧ zR Z 2 b = some (b + 5) ∧ NumAt Z (b + 1) (b + 2) 49 ∧ NumAt Z (b + 3) (b + 4) 49 ∧ NumAt Z (b + 5) (b + 6) 49
/-- where a block spreads: labels, held, queue; end, place in the queue, side, how many were looked at for the shore -/
def SpI (W H : Nat) (th ct lb0 hl0 : Nat → Int32) (n0 : Nat) (lb hl q : Nat → Int32) (e nx sd hh : Nat) : Prop :=
  (∀ c, c < 49 → (lb c = nI n0 ↔ ∃ j, j < e ∧ q j = nI c)) ∧
  (∀ c, c < 49 → lb c ≠ nI n0 → lb c = lb0 c) ∧
  (∀ j, j < e → ∃ c, q j = nI c ∧ c < W * H ∧ ¬ th c ≤ 0 ∧ Conn W H th ct n0 c ∧ lb0 c = -1) ∧
  (∀ j, j < e → ∀ c, q j = nI c → c < 49 → ∀ s, s < 4 → (j < nx ∨ (j = nx ∧ s < sd)) → ∀ d, bs W H c s = some d → ct (pl W c s) = 0 → ¬ th d ≤ 0 → lb d = nI n0) ∧
  (∀ n, n < 49 → n ≠ n0 → hl n = hl0 n) ∧ (hl n0 = 0 ↔ ¬ ∃ j, j < hh ∧ j < e ∧ ∃ c, c < W ∧ q j = nI c ∧ ct c = 0) ∧
  e + cnE lb (-1) 49 ≤ 49 ∧ 1 ≤ e
theorem lp_spread_in {Z : ZZ} {M0 : MM} {x b : Nat} {g : GG} {W H : Nat} {Q : MM → Prop} {K : MM → Nat → Nat → Int32 → Int32 → Int32 → Prop} (h : IceAt Z x) (hb : BlkAt Z b) (hd : x + 9 ≤ b ∨ b + 7 ≤ x) (t : IceS M0 x g) (w : WH g W H) {lb0 hl0 : Nat → Int32} {n0 c nx : Nat} (hn0 : n0 < 49) (hc : c < W * H) (hic : ¬ gt g c ≤ 0) (hcn : Conn W H (gt g) (gc g) n0 c) (hl0c : lb0 c = -1)
    (hcl : ∀ u v, Hang W H (gt g) (gc g) u v → lb0 u ≠ -1 → lb0 v = lb0 u) {e0 : Nat} (hnx : nx < e0) (I0 : SpI W H (gt g) (gc g) lb0 hl0 n0 (mA M0 (b + 2)) (mA M0 (b + 4)) (mA M0 (b + 6)) e0 nx 0 (nx + 1)) (hq : mA M0 (b + 6) nx = nI c)
    (hK : ∀ M1 e1, Fr [b + 2, b + 6] [] M0 M1 → SpI W H (gt g) (gc g) lb0 hl0 n0 (mA M1 (b + 2)) (mA M1 (b + 4)) (mA M1 (b + 6)) e1 (nx + 1) 0 (nx + 1) → K M1 b x (nI n0) (nI e1) (nI (nx + 1))) : ∃ n, L_X0_spread_68 Z Q K n M0 b x (nI n0) (nI e0) (nI nx) (nI c) 0 := by
  have hW : 0 < W := by have := w.2.2.1; omega
  have h49 : W * H ≤ 49 := wh_lt w.2.2.2.1 w.2.2.2.2.2
  obtain ⟨b1, b2, b3, b4, b5, b6, b7⟩ := hb
  refine ⟨5, ?_⟩
  refine for_up2 4 (fun n i e M => L_X0_spread_68 Z Q K n M b x (nI n0) (nI e) (nI nx) (nI c) (nI i)) (fun i e M => Fr [b + 2, b + 6] [] M0 M ∧ nx < e ∧ mA M (b + 6) nx = nI c ∧ SpI W H (gt g) (gc g) lb0 hl0 n0 (mA M (b + 2)) (mA M (b + 4)) (mA M (b + 6)) e nx i (nx + 1)) ?_ ?_ 4 0 e0 M0 rfl ⟨Fr.refl _ _ _, hnx, hq, I0⟩
  · intro n i e M hi ⟨f, hnx, hq, I⟩ k
    have t1 : IceS M x g := t.frame f (by simp) (by simp; omega) (by simp; omega) (by simp; omega)
    obtain ⟨I1, I2, I3, I4, I5, I6, I7, I8⟩ := I
    have I7' : e + cnE (mA M (b + 2)) (-1) 49 ≤ 49 := I7
    show B_X0_spread_68 Z Q K (L_X0_spread_68 Z Q K n) M b x (nI n0) (nI e) (nI nx) (nI c) (nI i)
    unfold B_X0_spread_68 B_X0_spread_146
    have e4 : ¬ (4 : Int32) ≤ nI i := by rw [show (4 : Int32) = nI 4 from rfl, n_le (by omega) (by omega)]; omega
    simp only [nI_1]
    refine ⟨fun q => absurd q e4, fun _ => ⟨h.1, (sp_beside h t1 w hc hi).mpr ?_⟩⟩
    -- nothing is done at this side
    have skip : (∀ d, bs W H c i = some d → gc g (pl W c i) = 0 → ¬ gt g d ≤ 0 → mA M (b + 2) d = nI n0) → L_X0_spread_68 Z Q K n M b x (nI n0) (nI e) (nI nx) (nI c) (nI (i + 1)) := by
      intro hs
      refine k e M ⟨f, hnx, hq, I1, I2, I3, ?_, I5, I6, I7, I8⟩
      intro j hj c' hc' hc49 s hs4 hor d hbs hcut hice
      by_cases e1 : j < nx ∨ (j = nx ∧ s < i)
      · exact I4 j hj c' hc' hc49 s hs4 e1 d hbs hcut hice
      · have e2 : j = nx ∧ s = i := by omega
        obtain ⟨rfl, rfl⟩ := e2
        have : c' = c := by
          have q1 := hc'.symm.trans hq
          rwa [n_eq (by omega) (by omega)] at q1
        subst this
        exact hs d hbs hcut hice
    cases hbs : bs W H c i with
    | none =>
      refine ⟨fun _ => skip (fun d q => by rw [hbs] at q; cases q), fun q => absurd rfl q⟩
    | some d =>
      have hdl := bs_lt hc hbs hW
      refine ⟨fun q => absurd q (i_n1 d (by omega)), fun _ => (sp_isIce h t1 (by omega : d < 49)).mpr ⟨fun q => ?_, fun q => ?_⟩⟩
      · rw [bI_0] at q
        exact skip (fun d' q' _ q3 => by rw [hbs] at q'; injection q' with q'; subst q'; exact absurd q3 q)
      rw [bI_0, Classical.not_not] at q
      refine ⟨b1, b + 1, b2, b5.1, (sp_at b5).mpr ?_⟩
      have ed : (oI (some d)) = nI d := rfl
      rw [ed, gat_n (by omega) (by omega)]
      refine ⟨fun q2 => ?_, fun q2 => (sp_cutAt h t1 w (by omega) hi).mpr ⟨fun q3 => ?_, fun q3 => ?_⟩⟩
      · refine skip (fun d' q' q3 q4 => ?_)
        rw [hbs] at q'; injection q' with q'; subst q'
        refine Classical.byContradiction (fun q5 => ?_)
        have q6 := I2 d (by omega) q5
        rw [q6] at q2
        have hh : Hang W H (gt g) (gc g) c d := ⟨hc, hic, q, i, hi, hbs, q3⟩
        have := hcl d c (hh.symm hW) q2
        rw [hl0c] at this
        exact q2 this.symm
      · exact skip (fun d' q' q4 _ => by rw [hbs] at q'; injection q' with q'; subst q'; exact absurd q4 q3)
      · refine (sp_put b5).mpr ⟨b + 5, b4, b7.1, (sp_put b7).mpr ?_⟩
        have hcn1 : 1 ≤ cnE (mA M (b + 2)) (-1) 49 := cnE_pos (by omega) q2
        rw [pput_n (by omega) (by omega), pput_n (by omega) (by omega), mA_ne _ _ _ (by omega : b + 6 ≠ b + 2)]
        have hnd : lb0 d = -1 := by
          have q5 : mA M (b + 2) d ≠ nI n0 := by rw [q2]; exact fun z => i_n1 n0 (by omega) z.symm
          rw [← I2 d (by omega) q5]; exact q2
        have hh : Hang W H (gt g) (gc g) c d := ⟨hc, hic, q, i, hi, hbs, q3⟩
        have hx : ∀ j, j < e → ¬ mA M (b + 6) j = nI d := by
          intro j hj z
          have := (I1 d (by omega)).mpr ⟨j, hj, z⟩
          rw [q2] at this
          exact i_n1 n0 (by omega) this.symm
        refine k (e + 1) _ ⟨?_, by omega, ?_, ?_, ?_, ?_, ?_, ?_, ?_, ?_, by omega⟩
        · exact (f.trans (Fr.mono (Fr.setA _ _ _) (by simp) (by simp))).trans (Fr.mono (Fr.setA _ _ _) (by simp) (by simp))
        · rw [mA_same, upd_ne _ _ (by omega)]; exact hq
        · intro c' hc'
          rw [mA_ne _ _ _ (by omega), mA_same, mA_same, upd_at]
          by_cases z : c' = d
          · subst z
            rw [if_pos rfl]
            exact ⟨fun _ => ⟨e, by omega, upd_same _ _ _⟩, fun _ => rfl⟩
          · rw [if_neg z, I1 c' hc']
            refine ⟨fun ⟨j, j1, j2⟩ => ⟨j, by omega, by rw [upd_ne _ _ (by omega)]; exact j2⟩, fun ⟨j, j1, j2⟩ => ?_⟩
            by_cases z2 : j = e
            · subst z2
              rw [upd_same, n_eq (by omega) (by omega)] at j2
              exact absurd j2.symm z
            · rw [upd_ne _ _ z2] at j2
              exact ⟨j, by omega, j2⟩
        · intro c' hc' z
          rw [mA_ne _ _ _ (by omega), mA_same, upd_at] at z ⊢
          by_cases z2 : c' = d
          · rw [if_pos z2] at z; exact absurd rfl z
          · rw [if_neg z2] at z ⊢; exact I2 c' hc' z
        · intro j hj
          rw [mA_same, upd_at]
          by_cases z : j = e
          · rw [if_pos z]; exact ⟨d, rfl, hdl, q, hcn.step hh, hnd⟩
          · rw [if_neg z]; exact I3 j (by omega)
        · intro j hj c' hc' hc49 s hs4 hor d' hbs' hcut hice
          rw [mA_ne _ _ _ (by omega), mA_same, upd_at]
          by_cases z : d' = d
          · rw [if_pos z]
          · rw [if_neg z]
            have z3 : j ≠ e := by omega
            rw [mA_same, upd_ne _ _ z3] at hc'
            by_cases e1 : j < nx ∨ (j = nx ∧ s < i)
            · exact I4 j (by omega) c' hc' hc49 s hs4 e1 d' hbs' hcut hice
            · have e2 : j = nx ∧ s = i := by omega
              obtain ⟨rfl, rfl⟩ := e2
              have : c' = c := by
                have q1 := hc'.symm.trans hq
                rwa [n_eq (by omega) (by omega)] at q1
              subst this
              rw [hbs] at hbs'; injection hbs' with hbs'
              exact absurd hbs'.symm z
        · intro m hm hm2
          rw [mA_ne _ _ _ (by omega), mA_ne _ _ _ (by omega)]; exact I5 m hm hm2
        · rw [mA_ne _ _ _ (by omega), mA_ne _ _ _ (by omega), I6]
          refine not_congr ⟨fun ⟨j, j1, j2, c', c1, c2, c3⟩ => ⟨j, j1, by omega, c', c1, by rw [mA_same, upd_ne _ _ (by omega)]; exact c2, c3⟩, fun ⟨j, j1, j2, c', c1, c2, c3⟩ => ⟨j, j1, by omega, c', c1, by rw [mA_same, upd_ne _ _ (by omega)] at c2; exact c2, c3⟩⟩
        · rw [mA_ne _ _ _ (by omega), mA_same]
          have := cnE_upd (v2 := nI n0) (by omega : d < 49) q2 (i_n1 n0 (by omega))
          omega
  · intro n e M ⟨f, hnx, hq, I⟩
    show B_X0_spread_68 Z Q K (L_X0_spread_68 Z Q K n) M b x (nI n0) (nI e) (nI nx) (nI c) (nI 4)
    unfold B_X0_spread_68
    refine ⟨fun _ => ?_, fun z => absurd (by decide) z⟩
    rw [nI_1]
    refine hK M e f ?_
    obtain ⟨I1, I2, I3, I4, I5, I6, I7, I8⟩ := I
    refine ⟨I1, I2, I3, ?_, I5, I6, I7, I8⟩
    intro j hj c' hc' hc49 s hs4 hor d' hbs' hcut hice
    exact I4 j hj c' hc' hc49 s hs4 (by omega) d' hbs' hcut hice
