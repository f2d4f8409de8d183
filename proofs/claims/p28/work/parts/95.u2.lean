/-! PURE: one step of the law on both objects -/
section
variable {Z : ZZ} {M : MM} {a b : Nat} {g g1 h h1 : GG} {W H T : Nat} {Q : Int32 → MM → Prop}
set_option maxHeartbeats 4000000 in
theorem step_ok (F : FieldAt Z a) (G : FieldAt Z b) (d : Dj a b) (t : Two W H T g h) (hT : T < 900000) (hQ : StQ a b T Q) (A : Own M a g) (B : Own M b h) {x : Int32} : P_L_isStep Z M a b x Q := by
  obtain ⟨hW, hH, h0, hH0, h49⟩ := t.1.le
  have e0 : ffS W H g 0 = nI W := t.1.1.1
  have e1 : ffS W H g 1 = nI H := t.1.1.2.1
  have nW : ¬ nI W = 0 := nI_ne0 h0 (by omega)
  unfold P_L_isStep B_L_isStep_0
  generalize (x >>> ((4 : Int32) &&& 31)) = y
  refine ⟨F.1.1, q_value (k := 0) F d t.1.1 A B (by omega) (fun M1 A B => q_value (k := 1) F d t.1.1 A B (by omega) (fun M2 A B => ?_))⟩
  rw [e0, e1, n_mul]
  obtain ⟨c, hc, kc⟩ := up_ex Z y (m := W * H) (Nat.mul_pos h0 hH0) (by omega)
  obtain ⟨j, hj, kj⟩ := up_ex Z x (m := 12) (by omega) (by omega)
  refine kc _ _ (q_turned hW h0 (by omega) (kj _ _ ?_))
  have ht := tau_lt hW hH hc
  have hr : c / W < H := Nat.div_lt_of_lt_mul hc
  have hm := Nat.mod_lt c h0
  have hz := Nat.zero_le (c / W)
  rw [n_mod (by omega) (by omega) h0, n_div (by omega) (by omega) h0]
  refine ⟨fun _ => ?_, fun _ => ⟨fun _ => ?_, fun _ => ⟨fun _ => ?_, fun _ => ⟨fun _ => ?_, fun _ => ⟨fun _ => ?_, fun _ => ⟨fun _ => ?_, fun _ => ⟨fun _ => ?_, fun _ => ⟨fun _ => ?_, fun _ => ⟨fun _ => ?_, fun _ => ⟨fun _ => ?_, fun _ => ⟨fun _ => ?_, fun _ => ?_⟩⟩⟩⟩⟩⟩⟩⟩⟩⟩⟩
  · obtain ⟨s, hs, es⟩ := and3 (y >>> ((7 : Int32) &&& 31))
    rw [es]
    refine ⟨fun z0 => ⟨fun z1 => ⟨fun z2 => ?_, fun z2 => ⟨nW, fun _ => ?_, fun q => ?_⟩⟩, fun z1 => ⟨nW, fun _ => ?_, fun q => ?_⟩⟩, fun z0 => ⟨nW, fun _ => ?_, fun q => ?_⟩⟩
    · have e2 : s = 2 := by
        have z2 : nI s = nI 2 := z2
        rwa [n_eq (by omega) (by omega)] at z2
      exact s182 F G d t hQ A B hc hs (f := 1) (fun _ => Or.inl e2)
    · exact s182 F G d t hQ A B hc hs (f := 0) (fun q => absurd rfl q)
    · have e3 : s = 3 := by
        have n0 : s ≠ 0 := fun k => z0 (by rw [k]; rfl)
        have n1 : s ≠ 1 := fun k => z1 (by rw [k]; rfl)
        have n2 : s ≠ 2 := fun k => z2 (by rw [k]; rfl)
        omega
      have q : ¬ nI (c % W) ≤ nI 0 := q
      rw [n_le (by omega) (by omega)] at q
      exact s182 F G d t hQ A B hc hs (f := 1) (fun _ => Or.inr (by rw [e3]; simp [bs]; omega))
    · exact s182 F G d t hQ A B hc hs (f := 0) (fun q => absurd rfl q)
    · have e1 : s = 1 := by
        have z1 : nI s = nI 1 := z1
        rwa [n_eq (by omega) (by omega)] at z1
      have q : ¬ nI H - nI 1 ≤ nI (c / W) := q
      rw [n_sub (by omega), n_le (by omega) (by omega)] at q
      have l : c + W < W * H := lt_row h0 (by rw [Nat.add_div_right c h0]; omega)
      exact s182 F G d t hQ A B hc hs (f := 1) (fun _ => Or.inr (by rw [e1]; simp [bs, l]))
    · exact s182 F G d t hQ A B hc hs (f := 0) (fun q => absurd rfl q)
    · have e0 : s = 0 := by
        have z0 : nI s = nI 0 := z0
        rwa [n_eq (by omega) (by omega)] at z0
      have q : ¬ nI W - nI 1 ≤ nI (c % W) := q
      rw [n_sub (by omega), n_le (by omega) (by omega)] at q
      exact s182 F G d t hQ A B hc hs (f := 1) (fun _ => Or.inr (by rw [e0]; simp [bs]; omega))
  · obtain ⟨s, hs, es⟩ := and3 (y >>> ((7 : Int32) &&& 31))
    rw [es]
    refine ⟨fun z0 => ⟨fun z1 => ⟨fun z2 => ?_, fun z2 => ⟨nW, fun _ => ?_, fun q => ?_⟩⟩, fun z1 => ⟨nW, fun _ => ?_, fun q => ?_⟩⟩, fun z0 => ⟨nW, fun _ => ?_, fun q => ?_⟩⟩
    · have e2 : s = 2 := by
        have z2 : nI s = nI 2 := z2
        rwa [n_eq (by omega) (by omega)] at z2
      exact s182 F G d t hQ A B hc hs (f := 1) (fun _ => Or.inl e2)
    · exact s182 F G d t hQ A B hc hs (f := 0) (fun q => absurd rfl q)
    · have e3 : s = 3 := by
        have n0 : s ≠ 0 := fun k => z0 (by rw [k]; rfl)
        have n1 : s ≠ 1 := fun k => z1 (by rw [k]; rfl)
        have n2 : s ≠ 2 := fun k => z2 (by rw [k]; rfl)
        omega
      have q : ¬ nI (c % W) ≤ nI 0 := q
      rw [n_le (by omega) (by omega)] at q
      exact s182 F G d t hQ A B hc hs (f := 1) (fun _ => Or.inr (by rw [e3]; simp [bs]; omega))
    · exact s182 F G d t hQ A B hc hs (f := 0) (fun q => absurd rfl q)
    · have e1 : s = 1 := by
        have z1 : nI s = nI 1 := z1
        rwa [n_eq (by omega) (by omega)] at z1
      have q : ¬ nI H - nI 1 ≤ nI (c / W) := q
      rw [n_sub (by omega), n_le (by omega) (by omega)] at q
      have l : c + W < W * H := lt_row h0 (by rw [Nat.add_div_right c h0]; omega)
      exact s182 F G d t hQ A B hc hs (f := 1) (fun _ => Or.inr (by rw [e1]; simp [bs, l]))
    · exact s182 F G d t hQ A B hc hs (f := 0) (fun q => absurd rfl q)
    · have e0 : s = 0 := by
        have z0 : nI s = nI 0 := z0
        rwa [n_eq (by omega) (by omega)] at z0
      have q : ¬ nI W - nI 1 ≤ nI (c % W) := q
      rw [n_sub (by omega), n_le (by omega) (by omega)] at q
      exact s182 F G d t hQ A B hc hs (f := 1) (fun _ => Or.inr (by rw [e0]; simp [bs]; omega))
  · obtain ⟨s, hs, es⟩ := and3 (y >>> ((7 : Int32) &&& 31))
    rw [es]
    refine ⟨fun z0 => ⟨fun z1 => ⟨fun z2 => ?_, fun z2 => ⟨nW, fun _ => ?_, fun q => ?_⟩⟩, fun z1 => ⟨nW, fun _ => ?_, fun q => ?_⟩⟩, fun z0 => ⟨nW, fun _ => ?_, fun q => ?_⟩⟩
    · have e2 : s = 2 := by
        have z2 : nI s = nI 2 := z2
        rwa [n_eq (by omega) (by omega)] at z2
      exact s182 F G d t hQ A B hc hs (f := 1) (fun _ => Or.inl e2)
    · exact s182 F G d t hQ A B hc hs (f := 0) (fun q => absurd rfl q)
    · have e3 : s = 3 := by
        have n0 : s ≠ 0 := fun k => z0 (by rw [k]; rfl)
        have n1 : s ≠ 1 := fun k => z1 (by rw [k]; rfl)
        have n2 : s ≠ 2 := fun k => z2 (by rw [k]; rfl)
        omega
      have q : ¬ nI (c % W) ≤ nI 0 := q
      rw [n_le (by omega) (by omega)] at q
      exact s182 F G d t hQ A B hc hs (f := 1) (fun _ => Or.inr (by rw [e3]; simp [bs]; omega))
    · exact s182 F G d t hQ A B hc hs (f := 0) (fun q => absurd rfl q)
    · have e1 : s = 1 := by
        have z1 : nI s = nI 1 := z1
        rwa [n_eq (by omega) (by omega)] at z1
      have q : ¬ nI H - nI 1 ≤ nI (c / W) := q
      rw [n_sub (by omega), n_le (by omega) (by omega)] at q
      have l : c + W < W * H := lt_row h0 (by rw [Nat.add_div_right c h0]; omega)
      exact s182 F G d t hQ A B hc hs (f := 1) (fun _ => Or.inr (by rw [e1]; simp [bs, l]))
    · exact s182 F G d t hQ A B hc hs (f := 0) (fun q => absurd rfl q)
    · have e0 : s = 0 := by
        have z0 : nI s = nI 0 := z0
        rwa [n_eq (by omega) (by omega)] at z0
      have q : ¬ nI W - nI 1 ≤ nI (c % W) := q
      rw [n_sub (by omega), n_le (by omega) (by omega)] at q
      exact s182 F G d t hQ A B hc hs (f := 1) (fun _ => Or.inr (by rw [e0]; simp [bs]; omega))
  · obtain ⟨k, hk, kk⟩ := up_ex Z (y >>> ((7 : Int32) &&& 31)) (m := W - c % W) (by omega) (by omega)
    obtain ⟨l, hl, kl⟩ := up_ex Z (y >>> ((10 : Int32) &&& 31)) (m := H - c / W) (by omega) (by omega)
    rw [n_sub (show c % W ≤ W by omega), n_sub (show c / W ≤ H by omega)]
    refine ⟨nW, kk _ _ ⟨nW, kl _ _ ?_⟩⟩
    have ek : (1 : Int32) + nI k = nI (1 + k) := nI_add 1 k
    have el : (1 : Int32) + nI l = nI (1 + l) := nI_add 1 l
    have ec : nI c + nI (1 + k) - 1 = nI (c + (1 + k) - 1) := by
      rw [nI_add]
      exact n_sub (a := c + (1 + k)) (b := 1) (by omega)
    rw [ek, el, ec]
    obtain ⟨e, t2, hd, q1, q2⟩ := t.rec (c := c) (v := 1 + k) (x := 1 + l) (by omega) (by omega) (by omega) (by omega)
    have ht2 := tau_lt hW hH hd
    refine q_turned hW h0 (by omega) (q_cuts F d t.1.1 A B hc (by omega) (by omega) (by omega) (by omega) (fun M1 A B => ⟨G.1.1, q_cuts G d.symm t.2.1.1 B A ht2 (by omega) (by omega) q1 q2 (fun M1 B A => ⟨fun z => absurd e.symm z, fun _ => ?_⟩)⟩))
    exact q_sa F d t.1.1 A B hc (by omega) (by omega) (by omega) (by omega) (fun M1 A B => q_sa G d.symm t.2.1.1 B A ht2 (by omega) (by omega) q1 q2 (fun M1 B A => ⟨fun z => absurd e.symm z, fun _ => hQ M1 W H _ _ (t2.mono (by omega)) A B⟩))
  · obtain ⟨k, hk, kk⟩ := up_ex Z (y >>> ((7 : Int32) &&& 31)) (m := W - c % W) (by omega) (by omega)
    obtain ⟨l, hl, kl⟩ := up_ex Z (y >>> ((10 : Int32) &&& 31)) (m := H - c / W) (by omega) (by omega)
    rw [n_sub (show c % W ≤ W by omega), n_sub (show c / W ≤ H by omega)]
    refine ⟨nW, kk _ _ ⟨nW, kl _ _ ?_⟩⟩
    have ek : (1 : Int32) + nI k = nI (1 + k) := nI_add 1 k
    have el : (1 : Int32) + nI l = nI (1 + l) := nI_add 1 l
    have ec : nI c + nI (1 + k) - 1 = nI (c + (1 + k) - 1) := by
      rw [nI_add]
      exact n_sub (a := c + (1 + k)) (b := 1) (by omega)
    rw [ek, el, ec]
    obtain ⟨e, t2, hd, q1, q2⟩ := t.rec (c := c) (v := 1 + k) (x := 1 + l) (by omega) (by omega) (by omega) (by omega)
    have ht2 := tau_lt hW hH hd
    refine q_turned hW h0 (by omega) (q_cuts F d t.1.1 A B hc (by omega) (by omega) (by omega) (by omega) (fun M1 A B => ⟨G.1.1, q_cuts G d.symm t.2.1.1 B A ht2 (by omega) (by omega) q1 q2 (fun M1 B A => ⟨fun z => absurd e.symm z, fun _ => ?_⟩)⟩))
    exact q_sa F d t.1.1 A B hc (by omega) (by omega) (by omega) (by omega) (fun M1 A B => q_sa G d.symm t.2.1.1 B A ht2 (by omega) (by omega) q1 q2 (fun M1 B A => ⟨fun z => absurd e.symm z, fun _ => hQ M1 W H _ _ (t2.mono (by omega)) A B⟩))
  · obtain ⟨k, hk, kk⟩ := up_ex Z (y >>> ((7 : Int32) &&& 31)) (m := W - c % W) (by omega) (by omega)
    obtain ⟨l, hl, kl⟩ := up_ex Z (y >>> ((10 : Int32) &&& 31)) (m := H - c / W) (by omega) (by omega)
    rw [n_sub (show c % W ≤ W by omega), n_sub (show c / W ≤ H by omega)]
    refine ⟨nW, kk _ _ ⟨nW, kl _ _ ?_⟩⟩
    have ek : (1 : Int32) + nI k = nI (1 + k) := nI_add 1 k
    have el : (1 : Int32) + nI l = nI (1 + l) := nI_add 1 l
    have ec : nI c + nI (1 + k) - 1 = nI (c + (1 + k) - 1) := by
      rw [nI_add]
      exact n_sub (a := c + (1 + k)) (b := 1) (by omega)
    rw [ek, el, ec]
    obtain ⟨e, t2, hd, q1, q2⟩ := t.rec (c := c) (v := 1 + k) (x := 1 + l) (by omega) (by omega) (by omega) (by omega)
    have ht2 := tau_lt hW hH hd
    refine q_turned hW h0 (by omega) (q_cuts F d t.1.1 A B hc (by omega) (by omega) (by omega) (by omega) (fun M1 A B => ⟨G.1.1, q_cuts G d.symm t.2.1.1 B A ht2 (by omega) (by omega) q1 q2 (fun M1 B A => ⟨fun z => absurd e.symm z, fun _ => ?_⟩)⟩))
    exact q_sa F d t.1.1 A B hc (by omega) (by omega) (by omega) (by omega) (fun M1 A B => q_sa G d.symm t.2.1.1 B A ht2 (by omega) (by omega) q1 q2 (fun M1 B A => ⟨fun z => absurd e.symm z, fun _ => hQ M1 W H _ _ (t2.mono (by omega)) A B⟩))
  · obtain ⟨k, hk, kk⟩ := up_ex Z (y >>> ((7 : Int32) &&& 31)) (m := 9) (by omega) (by omega)
    have ek : (1 : Int32) + nI k = nI (1 + k) := nI_add 1 k
    refine kk _ _ ?_
    rw [ek]
    refine q_cell (k := 0) F d t.1.1 A B hc (by omega) (fun M1 A B => ⟨fun _ => hQ M1 W H g h (t.mono (by omega)) A B, fun z => ?_⟩)
    have z' : gt g c + nI (1 + k) ≤ 50 := by
      have z : ¬ (50 : Int32) < gt g c + nI (1 + k) := z
      rw [i_lt] at z
      rw [i_le]
      omega
    obtain ⟨e, t2⟩ := t.lay hc (u := 1 + k) (by omega) z'
    have z2 : gt h (tau W c) + nI (1 + k) ≤ 50 := by rw [t.2.2.2.2.2.1 c hc]; exact z'
    exact q_lay F d t.1.1 A B hc (by omega) (by omega) z' (fun M1 A B => ⟨G.1.1, q_lay G d.symm t.2.1.1 B A ht (by omega) (by omega) z2 (fun M1 B A => ⟨fun z => absurd e.symm z, fun _ => hQ M1 W H _ _ (t2.mono (by omega)) A B⟩)⟩)
  · obtain ⟨k, hk, kk⟩ := up_ex Z y (m := 5) (by omega) (by omega)
    refine kk _ _ (q_sm F d A B (by omega) (fun M1 A B => kk _ _ ⟨G.1.1, q_sm G d.symm B A (by omega) (fun M1 B A => ⟨fun z => absurd (t.2.2.2.2.1 2 (by omega)).symm z, fun _ => hQ M1 W H _ _ ((t.mlt (x := k) (by omega)).mono (by omega)) A B⟩)⟩))
  · obtain ⟨k, hk, kk⟩ := up_ex Z y (m := 5) (by omega) (by omega)
    have ek : (1 : Int32) + nI k = nI (1 + k) := nI_add 1 k
    refine kk _ _ ?_
    rw [ek]
    refine q_pass F d t.1.1 A B (by omega) (by omega) (fun M1 A B => kk _ _ ⟨G.1.1, ?_⟩)
    rw [ek]
    exact q_pass G d.symm t.2.1.1 B A (by omega) (by omega) (fun M1 B A => ⟨fun z => absurd (mir_dsum hW hH h0 t.2.2.2.2 _).symm z, fun _ => hQ M1 W H _ _ ((t.days _).mono (by omega)) A B⟩)
  · obtain ⟨k, hk, kk⟩ := up_ex Z y (m := 3) (by omega) (by omega)
    obtain ⟨n, g1, n49, t1⟩ := tk_of t.1.1
    obtain ⟨r, h1, r49, t2⟩ := tk_of t.2.1.1
    obtain ⟨nr, t3⟩ := t.tk t1 t2
    exact kk _ _ ⟨fun _ => hQ _ W H g h (t.mono (by omega)) A B, fun _ => q_ta F d t.1 hT A B t1 n49 (fun M1 A B => ⟨G.1.1, q_ta G d.symm t.2.1 hT B A t2 r49 (fun M1 B A => ⟨fun z => absurd (congrArg nI nr) z, fun _ => hQ M1 W H _ _ (t3.mono (by omega)) A B⟩)⟩)⟩
  · obtain ⟨u, hu, ku⟩ := up_ex Z y (m := 6) (by omega) (by omega)
    obtain ⟨v, hv, kv⟩ := up_ex Z (y >>> ((3 : Int32) &&& 31)) (m := 6) (by omega) (by omega)
    obtain ⟨r, hr2, kr⟩ := up_ex Z (y >>> ((6 : Int32) &&& 31)) (m := 5) (by omega) (by omega)
    obtain ⟨s, hs, ks⟩ := up_ex Z (y >>> ((9 : Int32) &&& 31)) (m := 12) (by omega) (by omega)
    have eu : (2 : Int32) + nI u = nI (2 + u) := nI_add 2 u
    have ev : (2 : Int32) + nI v = nI (2 + v) := nI_add 2 v
    have t2 := t.make (u := 2 + u) (v := 2 + v) (x := s) (by omega) (by omega) (by omega) (by omega) (by omega)
    refine ku _ _ (kv _ _ (kr _ _ ⟨fun _ => hQ _ W H g h (t.mono (by omega)) A B, fun _ => ks _ _ ?_⟩))
    rw [eu, ev]
    exact q_make F d A B (by omega) (by omega) (by omega) (by omega) (by omega) (fun M1 A B => ks _ _ ⟨G.1.1, q_make G d.symm B A (by omega) (by omega) (by omega) (by omega) (by omega) (fun M1 B A => ⟨fun z => absurd (t2.2.2.2.2.1 4 (by omega)).symm z, fun _ => hQ M1 _ _ _ _ (t2.mono (by omega)) A B⟩)⟩)
  · refine q_block (k := 4) F d t.1.1 A B hc (by omega) (fun M1 A B => ⟨fun z => ?_, fun z => ⟨G.1.1, q_block (k := 4) G d.symm t.2.1.1 B A ht (by omega) (fun M1 B A => ⟨fun q => absurd ?_ z, fun _ => hQ M1 W H g h (t.mono (by omega)) A B⟩)⟩⟩)
    · obtain ⟨n, n1, n2, n3⟩ := fl_of t.1 hc z
      obtain ⟨R, e2⟩ := RR_ex hW hH h0 t.2.2.2.2 hc (by omega) n2
      generalize rt W H h (tau W c) = r at R e2
      have f2 := (R.fl hW hH h0 hH0 t.2.2.2.2).mp n3
      exact q_to F d t.1 hT A B hc n1 n2 n3 (fun M1 A B => ⟨G.1.1, q_to G d.symm t.2.1 hT B A ht R.2.2.1 e2 f2 (fun M1 B A => ⟨fun z => absurd (R.vol hW hH t.2.2.2.2).symm z, fun _ => hQ M1 W H _ _ ((t.tak R).mono (by omega)) A B⟩)⟩)
    · rw [bf_mir t hc (by omega) (by omega)]
      exact q
end
