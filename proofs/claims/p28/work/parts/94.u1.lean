/-! PURE: the law's steps -/
section
variable {Z : ZZ} {M : MM} {a b : Nat} {g g1 h h1 : GG} {W H T : Nat} {Q : Int32 → MM → Prop}
theorem up_ex (Z : ZZ) (v : Int32) {m : Nat} (h0 : 0 < m) (hm : m < 1000) : ∃ k, k < m ∧ ∀ (M : MM) (Q : Int32 → MM → Prop), Q (nI k) M → P_L_up Z M v (nI m) Q := by
  have hn : ¬ (v &&& 2147483647) < 0 := by
    rw [i_lt, ← Int32.toInt_toBitVec, ← Int32.toInt_toBitVec]
    have e : (v &&& 2147483647).toBitVec = v.toBitVec &&& 2147483647#32 := rfl
    rw [e]
    have : (v.toBitVec &&& 2147483647#32).msb = false := by
      rw [BitVec.msb_and]
      have : (2147483647#32).msb = false := by decide
      rw [this, Bool.and_false]
    have k := BitVec.toInt_nonneg_of_msb_false this
    have z : (0 : Int32).toBitVec.toInt = 0 := by decide
    omega
  obtain ⟨j, hj, e⟩ := nI_of hn
  refine ⟨j % m, Nat.mod_lt _ h0, fun M Q hQ => ?_⟩
  unfold P_L_up B_L_up_0
  rw [e, pk_rem hj h0 (by omega)]
  exact ⟨nI_ne0 h0 (by omega), hQ⟩
theorem Two.cs (t : Two W H T g h) {c s : Nat} (hc : c < W * H) (hs : s < 4) : (csS W H h (tau W c) (sg s)).1 = (csS W H g c s).1 ∧ Two W H T (csS W H g c s).2 (csS W H h (tau W c) (sg s)).2 := by
  obtain ⟨o1, o2, w1, w2, m⟩ := t
  obtain ⟨hW, hH, h0, hH0, h49⟩ := o1.le
  obtain ⟨e, m2⟩ := m.cs hW hH hc hs
  have k1 := cs_same W H g c s
  have k2 := cs_same W H h (tau W c) (sg s)
  exact ⟨e, o1.ct k1.1 k1.2 (o1.2.1.cs h0 hc hs), o2.ct k2.1 k2.2 (o2.2.1.cs h0 (tau_lt hW hH hc) (sg_sg hs).2), w1.same k1.1 k1.2, w2.same k2.1 k2.2, m2⟩
theorem Two.rec (t : Two W H T g h) {c v x : Nat} (hv : 1 ≤ v) (hx : 1 ≤ x) (hcv : c % W + v ≤ W) (hcx : c / W + x ≤ H) : (recS W H h (tau W (c + v - 1)) v x).1 = (recS W H g c v x).1 ∧ Two W H T (recS W H g c v x).2 (recS W H h (tau W (c + v - 1)) v x).2 ∧ c + v - 1 < W * H ∧ tau W (c + v - 1) % W + v ≤ W ∧ tau W (c + v - 1) / W + x ≤ H := by
  obtain ⟨o1, o2, w1, w2, m⟩ := t
  obtain ⟨hW, hH, h0, hH0, h49⟩ := o1.le
  obtain ⟨e, m2⟩ := m.rec hW hH h0 o1.2.1 o2.2.1 hv hx hcv hcx
  have k1 := rec_same W H g c v x
  have k2 := rec_same W H h (tau W (c + v - 1)) v x
  obtain ⟨a1, a2⟩ := dm_at (c := c) (k := 0) (i := v - 1) h0 (by omega)
  rw [Nat.zero_mul, Nat.add_zero, Nat.add_zero, ← Nat.add_sub_assoc hv] at a1
  rw [Nat.zero_mul, Nat.add_zero, ← Nat.add_sub_assoc hv] at a2
  have hd : c + v - 1 < W * H := lt_row h0 (by rw [a1]; omega)
  have r1 := tau_row hW hH hd
  have r2 := tau_col hW hH hd
  have q1 : tau W (c + v - 1) % W + v ≤ W := by omega
  have q2 : tau W (c + v - 1) / W + x ≤ H := by omega
  exact ⟨e, ⟨o1.ct k1.1 k1.2 (rec_spec hW hH h0 o1.2.1 hv hx hcv hcx).1, o2.ct k2.1 k2.2 (rec_spec hW hH h0 o2.2.1 hv hx q1 q2).1, w1.same k1.1 k1.2, w2.same k2.1 k2.2, m2⟩, hd, q1, q2⟩
theorem Two.lay (t : Two W H T g h) {c u : Nat} (hc : c < W * H) (hu : u ≤ 50) (hs : gt g c + nI u ≤ 50) : gt (addS h (tau W c) (nI u)) (tau W c) = gt (addS g c (nI u)) c ∧ Two W H T (addS g c (nI u)) (addS h (tau W c) (nI u)) := by
  obtain ⟨o1, o2, w1, w2, m⟩ := t
  obtain ⟨hW, hH, h0, hH0, h49⟩ := o1.le
  have ht := tau_lt hW hH hc
  have m2 := m.lay hW hH hc (nI u)
  exact ⟨m2.2.1 c hc, o1.add hc, o2.add ht, w1.lay (by omega) hs hu, w2.lay (by omega) (by rw [m.2.1 c hc]; exact hs) hu, m2⟩
theorem Two.mlt (t : Two W H T g h) {x : Nat} (hx : x ≤ 9) : Two W H T (mk (upd (gs g) 2 (nI x)) (gt g) (gc g) (gk g)) (mk (upd (gs h) 2 (nI x)) (gt h) (gc h) (gk h)) :=
  ⟨t.1.mlt, t.2.1.mlt, t.2.2.1.mlt hx, t.2.2.2.1.mlt hx, t.2.2.2.2.mlt _⟩
theorem Two.days (t : Two W H T g h) (n : Nat) : Two W H T (dayN W H g n) (dayN W H h n) := by
  obtain ⟨hW, hH, h0, hH0, h49⟩ := t.1.le
  exact ⟨t.1.days n, t.2.1.days n, OkW.days t.1 t.2.2.1 n, OkW.days t.2.1 t.2.2.2.1 n, t.2.2.2.2.days hW hH h0 n⟩
theorem Two.make (t : Two W H T g h) {u v x : Nat} (u2 : 2 ≤ u) (u7 : u ≤ 7) (v2 : 2 ≤ v) (v7 : v ≤ 7) (hx : x ≤ 50) : Two u v T (addsS (begS g u v) (fun _ => nI x) (u * v)) (addsS (begS h u v) (fun _ => nI x) (u * v)) :=
  ⟨(ok_beg u2 u7 v2 v7).adds _ _ (Nat.le_refl _), (ok_beg u2 u7 v2 v7).adds _ _ (Nat.le_refl _), t.2.2.1.make (wh_lt u7 v7) hx, t.2.2.2.1.make (wh_lt u7 v7) hx, t.2.2.2.2.make _ u7 v7⟩
theorem Two.tak (t : Two W H T g h) {n r : Nat} (R : RR W H g h n r) : Two W H (T + 1) (takG W H g n) (takG W H h r) := by
  obtain ⟨hW, hH, h0, hH0, h49⟩ := t.1.le
  exact ⟨t.1.tak n, t.2.1.tak r, t.2.2.1.tak h49 t.1.2.2.1 n, t.2.2.2.1.tak h49 t.2.1.2.2.1 r, R.tak hW hH t.2.2.2.2⟩
def StQ (a b T : Nat) (Q : Int32 → MM → Prop) : Prop := ∀ M W H g h, Two W H (T + 49) g h → Own M a g → Own M b h → Q 1 M
theorem s182 (F : FieldAt Z a) (G : FieldAt Z b) (d : Dj a b) (t : Two W H T g h) (hQ : StQ a b T Q) (A : Own M a g) (B : Own M b h) {c s : Nat} (hc : c < W * H) (hs : s < 4) {f : Int32} (hf : f ≠ 0 → s = 2 ∨ (bs W H c s).isSome = true) : B_L_isStep_182 Z Q M a b (nI c) (nI (tau W c)) (nI s) f := by
  obtain ⟨hW, hH, h0, hH0, h49⟩ := t.1.le
  have ht := tau_lt hW hH hc
  obtain ⟨e, t2⟩ := t.cs hc hs
  have k : ∀ M1, (s = 2 ∨ (bs W H c s).isSome = true) → Own M1 a (csS W H g c s).2 → Own M1 b h → B_L_isStep_221 Z Q M1 (nI (sg s)) (nI (tau W c)) b (csS W H g c s).1 := fun M1 al A B => by
    unfold B_L_isStep_221
    exact ⟨G.1.1, q_saw G d.symm t.2.1.1 B A ht (sg_sg hs).2 ((al_tau hW hH hc hs).mpr al) (fun M2 B A => ⟨fun z => absurd e.symm z, fun _ => hQ M2 W H _ _ (t2.mono (by omega)) A B⟩)⟩
  unfold B_L_isStep_182
  refine ⟨fun _ => hQ M W H g h (t.mono (by omega)) A B, fun z => ⟨F.1.1, q_saw F d t.1.1 A B hc hs (hf z) (fun M1 A B => ⟨fun z0 => ⟨fun z3 => ?_, fun z3 => ?_⟩, fun z0 => ?_⟩)⟩⟩
  · have e0 : s ≠ 0 := fun q => z0 (by rw [q]; rfl)
    have e3 : s ≠ 3 := fun q => z3 (by rw [q]; rfl)
    have := k M1 (hf z) A B
    rwa [show sg s = s by unfold sg; rw [if_neg e0, if_neg e3]] at this
  · have e3 : s = 3 := by
      have z3 : nI s = nI 3 := z3
      rwa [n_eq (by omega) (by omega)] at z3
    subst e3
    exact k M1 (hf z) A B
  · have e0 : s = 0 := by
      have z0 : nI s = nI 0 := z0
      rwa [n_eq (by omega) (by omega)] at z0
    subst e0
    exact k M1 (hf z) A B
theorem fl_of (o : OkG g W H T) {c : Nat} (hc : c < W * H) (z : 0 ≤ bfS W H g (lbG W H g c) 4) : ∃ n, n < W * H ∧ lbG W H g c = nI n ∧ flG W H g n := by
  obtain ⟨hW, hH, h0, hH0, h49⟩ := o.le
  rcases lb_cases (g := g) h0 h49 c with y | ⟨n, n1, n2, n3⟩
  · rw [y] at z
    unfold bfS at z
    rw [if_pos rfl] at z
    exact absurd z (by decide)
  · rw [n2, (bf_at (g := g) (W := W) (H := H) (n := n) (by omega)).2.2.2] at z
    refine ⟨n, n1, n2, ?_⟩
    unfold wayG at z
    by_cases l : looG W H g n
    · rw [if_pos l] at z
      exact ⟨l, fun q => by rw [q] at z; exact absurd z (by decide)⟩
    · rw [if_neg l] at z
      exact absurd z (by decide)
end
