/-! PURE: the model's moves and what-if questions -/
theorem gmv_ok {lg ou : Nat → Prop} {f : Nat → Int32} {p r : Nat} (F : IsFar lg ou f) (hr : r < 900) (h : f p = nI (r + 1)) : gmv f p r < 4 ∧ f (Em p (gmv f p r)) = nI r ∧ ∀ s, s < gmv f p r → f (Em p s) ≠ nI r := by
  obtain ⟨m, m1, m2⟩ := F.2.2.2.1 p r hr h
  unfold gmv
  by_cases h0 : f (Em p 0) = nI r
  · rw [if_pos h0]; exact ⟨by omega, h0, fun s hs => by omega⟩
  rw [if_neg h0]
  by_cases h1 : f (Em p 1) = nI r
  · rw [if_pos h1]
    refine ⟨by omega, h1, fun s hs => ?_⟩
    obtain rfl : s = 0 := by omega
    exact h0
  rw [if_neg h1]
  by_cases h2 : f (Em p 2) = nI r
  · rw [if_pos h2]
    refine ⟨by omega, h2, fun s hs => ?_⟩
    obtain rfl | rfl : s = 0 ∨ s = 1 := by omega
    · exact h0
    · exact h1
  rw [if_neg h2]
  have : m = 3 := by
    have q0 : m ≠ 0 := fun e => h0 (by rw [← e]; exact m2)
    have q1 : m ≠ 1 := fun e => h1 (by rw [← e]; exact m2)
    have q2 : m ≠ 2 := fun e => h2 (by rw [← e]; exact m2)
    omega
  subst this
  refine ⟨by omega, m2, fun s hs => ?_⟩
  obtain rfl | rfl | rfl : s = 0 ∨ s = 1 ∨ s = 2 := by omega
  · exact h0
  · exact h1
  · exact h2
theorem gp_far {lg ou : Nat → Prop} {f : Nat → Int32} {D : Nat} (F : IsFar lg ou f) (hD : D < 400) (h : f 112 = nI D) : ∀ k, k ≤ D → f (gp f D k) = nI (D - k) := by
  intro k
  induction k with
  | zero => intro _; exact h
  | succ k ih =>
    intro hk
    have e := ih (by omega)
    have := (gmv_ok (r := D - k - 1) F (by omega) (by rw [e]; congr 1; omega)).2.1
    show f (Em (gp f D k) (gmv f (gp f D k) (D - k - 1))) = _
    rw [this]; rfl
theorem far_small {W H : Nat} {th lb : Nat → Int32} {r p j : Nat} (hj : j < 2147483648) (h : farX W H th lb r p = nI j) : j ≤ 300 := by
  unfold farX at h
  exact (fz_lg (f0X_is W H th lb r) (by omega) hj h).2.1
def mvI (f : Nat → Int32) (D i : Nat) : Int32 := if i = 0 then -1 else nI (gmv f (gp f D (i - 1)) (D - (i - 1) - 1))
section
variable {Z : ZZ} {M : MM} {m : Nat} {g : GG} {W H : Nat} {sk : Nat → GG} {n len : Nat} {tx : Nat → Int32}
theorem o_walk {lg ou : Nat → Prop} {f : Nat → Int32} {u : Int32} {D : Nat} {Q : Int32 → MM → Prop} (F : ModAt Z m) (hF : IsFar lg ou f) (hD : D < 400) (hf : ∀ p, p < 225 → mA M (m + 5) p = f p) (hin : ∀ p, lg p → 15 ≤ p ∧ (¬ ou p → p < 210)) (h112 : f 112 = nI D) (hu : 0 ≤ u.toInt)
    (h1 : nI D ≤ u → P_X6_fine Z M m (-1) Q) (h2 : ∀ k, u = nI k → k < D → P_X6_fine Z M m (nI (gmv f (gp f D k) (D - k - 1))) Q) : B_X6_move_46 Z Q M m u (nI D) := by
  have step : ∀ (N r i : Nat) (s : MM), i < D → ¬ u < nI i → s = M → (∀ s1, s1 = M → L_X6_move_57 Z Q r s1 m u (nI D) (nI (gp f D (i + 1))) (mvI f D (i + 1)) (nI (i + 1))) → L_X6_move_57 Z Q (r + 1) s m u (nI D) (nI (gp f D i)) (mvI f D i) (nI i) := by
    intro N r i s hi hu2 hs kk
    subst hs
    show B_X6_move_57 Z Q (L_X6_move_57 Z Q r) s m u (nI D) (nI (gp f D i)) (mvI f D i) (nI i)
    unfold B_X6_move_57
    refine ⟨fun q => absurd q hu2, fun _ => ⟨fun q => absurd q ?_, fun _ => ?_⟩⟩
    · rw [n_le (by omega) (by omega)]; omega
    have hg := gp_far hF hD h112 i (by omega)
    have hl := hF.lg (by omega) hg
    obtain ⟨p15, p210⟩ := hin _ hl
    have p210 := p210 (fun ho => by
      have := hF.2.1 _ hl ho
      rw [hg, n_eq (by omega) (by omega)] at this; omega)
    obtain ⟨g1, g2, g3⟩ := gmv_ok (r := D - i - 1) hF (by omega) (by rw [hg]; congr 1; omega)
    have eD : nI D - nI i - 1 = nI (D - i - 1) := by
      rw [n_sub (by omega : i ≤ D), show (1 : Int32) = nI 1 from rfl, n_sub (by omega : 1 ≤ D - i)]
    have hmv : mvI f D (i + 1) = nI (gmv f (gp f D i) (D - i - 1)) := by
      unfold mvI
      rw [if_neg (by omega)]; rfl
    have hgp : gp f D (i + 1) = Em (gp f D i) (gmv f (gp f D i) (D - i - 1)) := rfl
    rw [hmv, hgp] at kk
    generalize gmv f (gp f D i) (D - i - 1) = K at *
    generalize gp f D i = p at *
    refine ⟨K + 1, ?_⟩
    have common : ∀ t j (R : MM → Nat → Int32 → Int32 → Int32 → Int32 → Int32 → Prop), j < 4 → t = s → (f (Em p j) = nI (D - i - 1) → L_X6_move_57 Z Q r s m u (nI D) (nI (Em p j)) (nI j) (nI (i + 1))) → (f (Em p j) ≠ nI (D - i - 1) → R s m u (nI D) (nI p) (nI (j + 1)) (nI i)) → B_X6_move_72 Z Q (L_X6_move_57 Z Q r) R t m u (nI D) (nI p) (nI j) (nI i) := by
      intro t j R hj ht a1 a2
      subst ht
      have hE := (Em_lt p15 p210 hj).1
      unfold B_X6_move_72 B_X6_move_111
      refine (mo_moved hj p15).mpr (mo_in.mpr ⟨fun z2 => ?_, fun _ => ⟨F.1, m + 5, F.far.1, (mo_moved hj p15).mpr ⟨F.far.2.1, ?_, ?_⟩⟩⟩)
      · rw [bI_0, i_toInt (Em p j) (by omega), l64_0.1, l64_0.2.2.2.2.2.2.2.2.2.2.2.1] at z2
        omega
      · rw [F.far.2.2]; exact vpn hE (by omega)
      · rw [i_cl (Em p j) (by omega), hf _ hE, eD, nI_1, nI_1]
        exact ⟨fun z => (mo_moved hj p15).mpr (a1 z), fun z => a2 z⟩
    refine for_up K (fun r2 j t => L_X6_move_72 Z Q (L_X6_move_57 Z Q r) r2 t m u (nI D) (nI p) (nI j) (nI i)) (fun j t => t = s) ?_ ?_ K 0 s (by omega) rfl
    · intro r2 j t hj ht k2
      exact common t j _ (by omega) ht (fun z => absurd z (g3 j hj)) (fun _ => k2 s rfl)
    · intro r2 t ht
      exact common t K _ g1 ht (fun _ => kk s rfl) (fun z => absurd g2 z)
  have start : nI (gp f D 0) = 112 ∧ mvI f D 0 = -1 := ⟨rfl, rfl⟩
  unfold B_X6_move_46
  by_cases z : nI D ≤ u
  · have z' := z
    rw [i_le, i_toInt D (by omega)] at z'
    refine ⟨D + 1, for_up D (fun r i s => L_X6_move_57 Z Q r s m u (nI D) (nI (gp f D i)) (mvI f D i) (nI i)) (fun i s => s = M) (fun r i s hi hs kk => step D r i s hi (fun q => ?_) hs kk) (fun r s hs => ?_) D 0 M (by omega) rfl⟩
    · rw [i_lt, i_toInt i (by omega)] at q; omega
    · subst hs
      show B_X6_move_57 Z Q (L_X6_move_57 Z Q r) s m u (nI D) (nI (gp f D D)) (mvI f D D) (nI D)
      unfold B_X6_move_57 B_X6_move_132 B_X6_move_144
      exact ⟨fun _ => ⟨fun _ => ⟨F.1, h1 z⟩, fun q => absurd z q⟩, fun _ => ⟨fun _ => ⟨fun _ => ⟨F.1, h1 z⟩, fun q => absurd z q⟩, fun q => absurd (nI_le (Nat.le_refl _) (by omega)) q⟩⟩
  · have z' := z
    rw [i_le, i_toInt D (by omega)] at z'
    obtain ⟨k, k1, rfl⟩ := small_ex (n := D) hu (by omega) (by omega)
    rw [i_toInt k (by omega)] at z'
    refine ⟨k + 1 + 1, for_up (k + 1) (fun r i s => L_X6_move_57 Z Q r s m (nI k) (nI D) (nI (gp f D i)) (mvI f D i) (nI i)) (fun i s => s = M) (fun r i s hi hs kk => step D r i s (by omega) (fun q => ?_) hs kk) (fun r s hs => ?_) (k + 1) 0 M (by omega) rfl⟩
    · rw [n_lt (by omega) (by omega)] at q; omega
    · subst hs
      have hmv : mvI f D (k + 1) = nI (gmv f (gp f D k) (D - k - 1)) := by
        unfold mvI
        rw [if_neg (by omega)]; rfl
      show B_X6_move_57 Z Q (L_X6_move_57 Z Q r) s m (nI k) (nI D) (nI (gp f D (k + 1))) (mvI f D (k + 1)) (nI (k + 1))
      unfold B_X6_move_57 B_X6_move_132 B_X6_move_144
      rw [hmv]
      refine ⟨fun _ => ⟨fun q => absurd q z, fun _ => ⟨F.1, h2 k rfl (by omega)⟩⟩, fun q => absurd ?_ q⟩
      rw [n_lt (by omega) (by omega)]; omega
theorem o_move {v u : Int32} {Q : Int32 → MM → Prop} (F : ModAt Z m) (d : MdI M m g sk n tx len) (w : WH g W H) (ok : CtOk W H (gc g)) (h1 : ¬ (isC W H v ∧ 0 ≤ u.toInt) → ∀ r M1, FrO m M M1 → MdI M1 m g sk n tx len → mI M1 15 m = 1 → Q r M1)
    (hno : ∀ c, c < W * H → v = nI c → 0 ≤ u.toInt → (∀ r, r < W * H → lbG W H g c = nI r → ¬ looG W H g r) → ∀ M1, FrO m M M1 → MdI M1 m g sk n tx len → mI M1 15 m = 0 → Q (-1) M1)
    (hy : ∀ c r, c < W * H → v = nI c → 0 ≤ u.toInt → r < W * H → lbG W H g c = nI r → looG W H g r → ∀ M1, FrO m M M1 → MdI M1 m g sk n tx len → mI M1 15 m = 0 → (wayI (farG W H g r) ≤ u → Q (-1) M1) ∧ (∀ D k, D < 400 → farG W H g r 112 = nI D → u = nI k → k < D → Q (nI (gmv (farG W H g r) (gp (farG W H g r) D k) (D - k - 1))) M1)) : P_X6_move Z M m v u Q := by
  have hW : 0 < W := by have := w.2.2.1; omega
  have hH7 := w.2.2.2.2.2
  have h49 : W * H ≤ 49 := wh_lt w.2.2.2.1 w.2.2.2.2.2
  unfold P_X6_move B_X6_move_0 B_X6_move_12
  refine ⟨F.1, mo_isCell F d.1 w (fun hc => ⟨fun q => absurd q (by decide), fun _ => ⟨fun z => mo_find F d.1 w ok (fun M1 f1 B1 => ?_), fun z => ?_⟩⟩) (fun hc => ⟨fun _ => ⟨F.1, o_thr F d (h1 (fun q => hc q.1))⟩, fun q => absurd rfl q⟩)⟩
  · rw [i_le, show (0 : Int32).toInt = 0 by decide] at z
    obtain ⟨g1, d1⟩ := d.scF f1 (by simp)
    obtain ⟨c, c1, rfl⟩ := isC_ex hc
    have hv : vp_in (nI c) (zN Z (m + 4)) := by rw [F.blk.2.2]; exact vpn (by omega) (by omega)
    have lost : ∀ M2, (P_X6_fine Z M2 m (-1) Q) → B_X6_move_46 Z Q M2 m u (-1) := fun M2 hq => by
      unfold B_X6_move_46
      refine ⟨1, ?_⟩
      show B_X6_move_57 Z Q (L_X6_move_57 Z Q 0) M2 m u (-1) 112 (-1) 0
      unfold B_X6_move_57 B_X6_move_132 B_X6_move_144
      have e : (-1 : Int32) ≤ u := by rw [i_le, show (-1 : Int32).toInt = -1 by decide]; omega
      exact ⟨fun _ => ⟨fun _ => ⟨F.1, hq⟩, fun q => absurd e q⟩, fun _ => ⟨fun _ => ⟨fun _ => ⟨F.1, hq⟩, fun q => absurd e q⟩, fun q => absurd (by decide) q⟩⟩
    refine ⟨m + 4, F.blk.1, F.blk.2.1, hv, ?_⟩
    rw [i_cl c (by omega), B1 c c1]
    rcases lb_cases (g := g) hW h49 c with q | ⟨r, r1, r2, r3⟩
    · rw [q]
      refine ⟨fun z => absurd rfl z, fun _ => lost M1 (o_fine F d1 (fun M2 f2 d2 e2 => hno c c1 rfl z (fun r hr e => ?_) M2 (g1.trans f2) d2 e2))⟩
      rw [q] at e
      exact absurd e.symm (i_n1 r (by omega))
    · rw [r2]
      refine ⟨fun _ => ⟨hv, mo_way F d1.1 w ok B1 r1 r3 (fun hh => lost M1 (o_fine F d1 (fun M2 f2 d2 e2 => hno c c1 rfl z (fun r' hr' e => ?_) M2 (g1.trans f2) d2 e2))) (fun hh M2 f2 hf => ?_)⟩, fun z2 => absurd z2 (i_n1 r (by omega))⟩
      · rw [r2, n_eq (by omega) (by omega)] at e
        subst e
        exact fun q => q.2 hh
      · obtain ⟨g2, d2⟩ := d1.scF f2 (by simp)
        have hF : IsFar (lgX W H (gt g) (lbG W H g) r) (ouX W H r) (farG W H g r) := farX_is W H (gt g) (lbG W H g) r
        have hy := hy c r c1 rfl z r1 r2 ⟨r3, hh⟩
        have hs := start_lg (W := W) (H := H) (th := gt g) (lb := lbG W H g) r1 hW
        have hf : ∀ p, p < 225 → mA M2 (m + 5) p = farG W H g r p := hf
        show B_X6_move_46 Z Q M2 m u (wayI (farG W H g r))
        rcases hF.2.2.1 112 hs.1 hs.2 with z4 | ⟨j, j1, j2⟩
        · have e : wayI (farG W H g r) = -1 := by
            unfold wayI
            rw [z4]; rfl
          rw [e] at hy
          rw [e]
          refine lost M2 (o_fine F d2 (fun M3 f3 d3 e3 => (hy M3 ((g1.trans g2).trans f3) d3 e3).1 ?_))
          rw [i_le, show (-1 : Int32).toInt = -1 by decide]; omega
        · have hj := far_small (by omega) j2
          have e : wayI (farG W H g r) = nI (j + 1) := by
            unfold wayI
            rw [j2, if_neg]
            rw [i_lt, i_toInt (j + 1) (by omega), show (0 : Int32).toInt = 0 by decide]; omega
          rw [e] at hy
          rw [e]
          refine o_walk (f := farG W H g r) F hF (by omega) hf (fun p hp => lg_in r1 hH7 r3 hp) j2 z (fun z5 => o_fine F d2 (fun M3 f3 d3 e3 => (hy M3 ((g1.trans g2).trans f3) d3 e3).1 z5)) (fun k hk kD => o_fine F d2 (fun M3 f3 d3 e3 => (hy M3 ((g1.trans g2).trans f3) d3 e3).2 (j + 1) k (by omega) j2 hk kD))
  · rw [i_le, show (0 : Int32).toInt = 0 by decide] at z
    exact ⟨F.1, o_thr F d (h1 (fun q => z q.2))⟩
end
