/-! PURE: sawing around a rectangle with left and right exchanged -/
section
variable {W H : Nat} {g h : GG}
theorem dm_at {W c k i : Nat} (h0 : 0 < W) (hi : c % W + i < W) : (c + k * W + i) / W = c / W + k ∧ (c + k * W + i) % W = c % W + i := by
  have e : c + k * W + i = W * (c / W + k) + (c % W + i) := by
    have := Nat.div_add_mod c W
    rw [Nat.mul_add, Nat.mul_comm k W]
    omega
  rw [e]
  exact ⟨by rw [Nat.mul_add_div h0, Nat.div_eq_of_lt hi, Nat.add_zero], by rw [Nat.mul_add_mod, Nat.mod_eq_of_lt hi]⟩
theorem dm_eq {W b c k i : Nat} (h1 : b / W = c / W + k) (h2 : b % W = c % W + i) : b = c + k * W + i := by
  have e1 := Nat.div_add_mod b W
  have e2 := Nat.div_add_mod c W
  rw [h1, h2, Nat.mul_add, Nat.mul_comm W k] at e1
  omega
theorem lt_row {W H b : Nat} (h0 : 0 < W) (h : b / W < H) : b < W * H := by
  rw [Nat.mul_comm]
  exact (Nat.div_lt_iff_lt_mul h0).mp h
/-- the sides of a rectangle of v columns and x rows at c -/
def InR (W c v x b s : Nat) : Prop := (s = 2 ∧ b / W = c / W ∧ c % W ≤ b % W ∧ b % W < c % W + v) ∨ (s = 1 ∧ b / W + 1 = c / W + x ∧ c % W ≤ b % W ∧ b % W < c % W + v) ∨ (s = 3 ∧ b % W = c % W ∧ c / W ≤ b / W ∧ b / W < c / W + x) ∨ (s = 0 ∧ b % W + 1 = c % W + v ∧ c / W ≤ b / W ∧ b / W < c / W + x)
def opR (W H c v x q : Nat) : Prop := ∃ b s, b < W * H ∧ s < 4 ∧ (s = 2 ∨ (bs W H b s).isSome = true) ∧ q = pl W b s ∧ InR W c v x b s
/-- what a run of sawings has done so far: P: the places named so far -/
def CsI (W H : Nat) (g : GG) (P : Nat → Prop) (p : Int32 × GG) : Prop := CtOk W H (gc p.2) ∧ p.1 + sm (gc g) 106 = sm (gc p.2) 106 ∧ ∀ q, q < 106 → (gc p.2 q = 1 ↔ gc g q = 1 ∨ P q)
theorem CsI.cs {P : Nat → Prop} {p : Int32 × GG} (hW : W ≤ 7) (hH : H ≤ 7) (h0 : 0 < W) (I : CsI W H g P p) {c s : Nat} (hc : c < W * H) (hs : s < 4) : CsI W H g (fun q => P q ∨ ((s = 2 ∨ (bs W H c s).isSome = true) ∧ q = pl W c s)) (p.1 + (csS W H p.2 c s).1, (csS W H p.2 c s).2) := by
  have p106 : pl W c s < 106 := pl_lt hW (by have := wh_lt hW hH; omega)
  refine ⟨I.1.cs h0 hc hs, ?_, fun q hq => ?_⟩
  · unfold csS
    by_cases z : (s = 2 ∨ (bs W H c s).isSome = true) ∧ gc p.2 (pl W c s) ≠ 1
    · rw [if_pos z]
      have e := sm_upd (f := gc p.2) (1 : Int32) p106
      rw [((I.1 _ p106).1.resolve_right z.2), Int32.add_zero] at e
      show p.1 + 1 + sm (gc g) 106 = sm (upd (gc p.2) (pl W c s) 1) 106
      rw [e, ← I.2.1, Int32.add_assoc, Int32.add_assoc, Int32.add_comm 1]
    · rw [if_neg z]
      show p.1 + 0 + sm (gc g) 106 = sm (gc p.2) 106
      rw [Int32.add_zero, I.2.1]
  · unfold csS
    by_cases z : (s = 2 ∨ (bs W H c s).isSome = true) ∧ gc p.2 (pl W c s) ≠ 1
    · rw [if_pos z]
      simp only [gc_mk, upd_at]
      by_cases e : q = pl W c s
      · rw [if_pos e]
        exact ⟨fun _ => Or.inr (Or.inr ⟨z.1, e⟩), fun _ => rfl⟩
      · rw [if_neg e, I.2.2 q hq]
        exact ⟨fun k => k.imp id Or.inl, fun k => k.imp id (fun y => y.resolve_right (fun y => e y.2))⟩
    · rw [if_neg z]
      show gc p.2 q = 1 ↔ _
      rw [I.2.2 q hq]
      refine ⟨fun k => k.imp id Or.inl, fun k => ?_⟩
      rcases k with k | k | k
      · exact Or.inl k
      · exact Or.inr k
      · rw [← I.2.2 q hq, k.2]
        exact Classical.byContradiction (fun y => z ⟨k.1, y⟩)
theorem CsI_two {P : Nat → Prop} {p : Int32 × GG} (hW : W ≤ 7) (hH : H ≤ 7) (h0 : 0 < W) (I : CsI W H g P p) {c s d t : Nat} (hc : c < W * H) (hs : s < 4) (hd : d < W * H) (ht : t < 4) : CsI W H g (fun q => (P q ∨ ((s = 2 ∨ (bs W H c s).isSome = true) ∧ q = pl W c s)) ∨ ((t = 2 ∨ (bs W H d t).isSome = true) ∧ q = pl W d t)) (two W H p c s d t) := (I.cs hW hH h0 hc hs).cs hW hH h0 hd ht
theorem CsI.ext {P R : Nat → Prop} {p : Int32 × GG} (I : CsI W H g P p) (e : ∀ q, P q ↔ R q) : CsI W H g R p := ⟨I.1, I.2.1, fun q hq => by rw [I.2.2 q hq, e q]⟩
theorem rec_spec (hW : W ≤ 7) (hH : H ≤ 7) (h0 : 0 < W) (ok : CtOk W H (gc g)) {c v x : Nat} (hv : 1 ≤ v) (hx : 1 ≤ x) (hcv : c % W + v ≤ W) (hcx : c / W + x ≤ H) : CsI W H g (opR W H c v x) (recS W H g c v x) := by
  have hlt : ∀ k i, k < x → i < v → c + k * W + i < W * H := fun k i hk hi => by
    obtain ⟨a, b⟩ := dm_at (k := k) h0 (show c % W + i < W by omega)
    exact lt_row h0 (by rw [a]; omega)
  have s1 : ∀ j, j ≤ v → CsI W H g (fun q => ∃ i, i < j ∧ (q = pl W (c + i) 2 ∨ (((bs W H (c + (x - 1) * W + i) 1).isSome = true) ∧ q = pl W (c + (x - 1) * W + i) 1))) (it (rec1 W H c x) j (0, g)) := by
    intro j
    induction j with
    | zero => exact fun _ => ⟨ok, Int32.zero_add _, fun q _ => ⟨fun k => Or.inl k, fun k => k.resolve_right (fun ⟨i, hi, _⟩ => by omega)⟩⟩
    | succ j ih =>
      intro hj
      have a1 := hlt 0 j (by omega) (by omega)
      rw [Nat.zero_mul, Nat.add_zero] at a1
      refine (CsI_two hW hH h0 (ih (by omega)) (c := c + j) (s := 2) (d := c + (x - 1) * W + j) (t := 1) a1 (by omega) (hlt (x - 1) j (by omega) (by omega)) (by omega)).ext (fun q => ⟨fun k => ?_, fun k => ?_⟩)
      · rcases k with (⟨i, hi, k⟩ | k) | k
        · exact ⟨i, by omega, k⟩
        · exact ⟨j, by omega, Or.inl k.2⟩
        · exact ⟨j, by omega, Or.inr ⟨k.1.resolve_left (by omega), k.2⟩⟩
      · obtain ⟨i, hi, k⟩ := k
        by_cases e : i = j
        · subst e
          rcases k with k | k
          · exact Or.inl (Or.inr ⟨Or.inl rfl, k⟩)
          · exact Or.inr ⟨Or.inr k.1, k.2⟩
        · exact Or.inl (Or.inl ⟨i, by omega, k⟩)
  have s2 : ∀ j, j ≤ x → CsI W H g (fun q => (∃ i, i < v ∧ (q = pl W (c + i) 2 ∨ (((bs W H (c + (x - 1) * W + i) 1).isSome = true) ∧ q = pl W (c + (x - 1) * W + i) 1))) ∨ ∃ i, i < j ∧ ((((bs W H (c + i * W) 3).isSome = true) ∧ q = pl W (c + i * W) 3) ∨ (((bs W H (c + i * W + v - 1) 0).isSome = true) ∧ q = pl W (c + i * W + v - 1) 0))) (it (rec2 W H c v) j (it (rec1 W H c x) v (0, g))) := by
    intro j
    induction j with
    | zero => exact fun _ => (s1 v (Nat.le_refl _)).ext (fun q => ⟨fun k => Or.inl k, fun k => k.resolve_right (fun ⟨i, hi, _⟩ => by omega)⟩)
    | succ j ih =>
      intro hj
      have a1 := hlt j 0 (by omega) (by omega)
      have a2 := hlt j (v - 1) (by omega) (by omega)
      rw [Nat.add_zero] at a1
      rw [← Nat.add_sub_assoc hv] at a2
      refine (CsI_two hW hH h0 (ih (by omega)) (c := c + j * W) (s := 3) (d := c + j * W + v - 1) (t := 0) a1 (by omega) a2 (by omega)).ext (fun q => ⟨fun k => ?_, fun k => ?_⟩)
      · rcases k with ((k | ⟨i, hi, k⟩) | k) | k
        · exact Or.inl k
        · exact Or.inr ⟨i, by omega, k⟩
        · exact Or.inr ⟨j, by omega, Or.inl ⟨k.1.resolve_left (by omega), k.2⟩⟩
        · exact Or.inr ⟨j, by omega, Or.inr ⟨k.1.resolve_left (by omega), k.2⟩⟩
      · rcases k with k | ⟨i, hi, k⟩
        · exact Or.inl (Or.inl (Or.inl k))
        · by_cases e : i = j
          · subst e
            rcases k with k | k
            · exact Or.inl (Or.inr ⟨Or.inr k.1, k.2⟩)
            · exact Or.inr ⟨Or.inr k.1, k.2⟩
          · exact Or.inl (Or.inl (Or.inr ⟨i, by omega, k⟩))
  refine (s2 x (Nat.le_refl _)).ext (fun q => ⟨fun k => ?_, fun k => ?_⟩)
  · rcases k with ⟨i, hi, k⟩ | ⟨i, hi, k⟩
    · rcases k with k | k
      · obtain ⟨a, b⟩ := dm_at (k := 0) h0 (show c % W + i < W by omega)
        have l := hlt 0 i (by omega) hi
        rw [Nat.zero_mul, Nat.add_zero] at a b l
        exact ⟨c + i, 2, l, by omega, Or.inl rfl, k, Or.inl ⟨rfl, by rw [a]; rfl, by omega, by omega⟩⟩
      · obtain ⟨a, b⟩ := dm_at (k := x - 1) h0 (show c % W + i < W by omega)
        exact ⟨_, 1, hlt (x - 1) i (by omega) hi, by omega, Or.inr k.1, k.2, Or.inr (Or.inl ⟨rfl, by omega, by omega, by omega⟩)⟩
    · rcases k with k | k
      · obtain ⟨a, b⟩ := dm_at (k := i) (i := 0) h0 (show c % W + 0 < W by omega)
        have l := hlt i 0 hi (by omega)
        rw [Nat.add_zero] at a b l
        exact ⟨_, 3, l, by omega, Or.inr k.1, k.2, Or.inr (Or.inr (Or.inl ⟨rfl, by omega, by omega, by omega⟩))⟩
      · obtain ⟨a, b⟩ := dm_at (k := i) h0 (show c % W + (v - 1) < W by omega)
        have l := hlt i (v - 1) hi (by omega)
        rw [← Nat.add_sub_assoc hv] at a b l
        exact ⟨_, 0, l, by omega, Or.inr k.1, k.2, Or.inr (Or.inr (Or.inr ⟨rfl, by omega, by omega, by omega⟩))⟩
  · obtain ⟨b, s, hb, hs, ha, e, k⟩ := k
    rcases k with ⟨rfl, k1, k2, k3⟩ | ⟨rfl, k1, k2, k3⟩ | ⟨rfl, k1, k2, k3⟩ | ⟨rfl, k1, k2, k3⟩
    · have := dm_eq (W := W) (b := b) (c := c) (k := 0) (i := b % W - c % W) (by omega) (by omega)
      rw [Nat.zero_mul, Nat.add_zero] at this
      exact Or.inl ⟨b % W - c % W, by omega, Or.inl (by rw [← this]; exact e)⟩
    · have := dm_eq (W := W) (b := b) (c := c) (k := x - 1) (i := b % W - c % W) (by omega) (by omega)
      exact Or.inl ⟨b % W - c % W, by omega, Or.inr (by rw [← this]; exact ⟨ha.resolve_left (by omega), e⟩)⟩
    · have := dm_eq (W := W) (b := b) (c := c) (k := b / W - c / W) (i := 0) (by omega) (by omega)
      rw [Nat.add_zero] at this
      exact Or.inr ⟨b / W - c / W, by omega, Or.inl (by rw [← this]; exact ⟨ha.resolve_left (by omega), e⟩)⟩
    · have := dm_eq (W := W) (b := b) (c := c) (k := b / W - c / W) (i := v - 1) (by omega) (by omega)
      rw [← Nat.add_sub_assoc hv] at this
      exact Or.inr ⟨b / W - c / W, by omega, Or.inr (by rw [← this]; exact ⟨ha.resolve_left (by omega), e⟩)⟩
theorem InR_tau (hW : W ≤ 7) (hH : H ≤ 7) (h0 : 0 < W) {c v x b s : Nat} (hv : 1 ≤ v) (hb : b < W * H) (hs : s < 4) (hcv : c % W + v ≤ W) (hd : c + v - 1 < W * H) (k : InR W c v x b s) : InR W (tau W (c + v - 1)) v x (tau W b) (sg s) := by
  have hbm := Nat.mod_lt b h0
  obtain ⟨a1, a2⟩ := dm_at (c := c) (k := 0) (i := v - 1) h0 (by omega)
  rw [Nat.zero_mul, Nat.add_zero, Nat.add_zero, ← Nat.add_sub_assoc hv] at a1
  rw [Nat.zero_mul, Nat.add_zero, ← Nat.add_sub_assoc hv] at a2
  unfold InR
  rw [tau_row hW hH hb, tau_col hW hH hb, tau_row hW hH hd, tau_col hW hH hd, a1, a2]
  rcases k with ⟨rfl, k1, k2, k3⟩ | ⟨rfl, k1, k2, k3⟩ | ⟨rfl, k1, k2, k3⟩ | ⟨rfl, k1, k2, k3⟩
  · exact Or.inl ⟨rfl, k1, by omega, by omega⟩
  · exact Or.inr (Or.inl ⟨rfl, k1, by omega, by omega⟩)
  · exact Or.inr (Or.inr (Or.inr ⟨rfl, by omega, k2, k3⟩))
  · exact Or.inr (Or.inr (Or.inl ⟨rfl, by omega, k2, k3⟩))
theorem opR_tau (hW : W ≤ 7) (hH : H ≤ 7) (h0 : 0 < W) {c v x q : Nat} (hv : 1 ≤ v) (hcv : c % W + v ≤ W) (hd : c + v - 1 < W * H) (k : opR W H c v x q) : opR W H (tau W (c + v - 1)) v x (mu W q) := by
  obtain ⟨b, s, hb, hs, ha, rfl, k⟩ := k
  exact ⟨tau W b, sg s, tau_lt hW hH hb, (sg_sg hs).2, (al_tau hW hH hb hs).mpr ha, (pl_tau hW hH hb hs ha).1, InR_tau hW hH h0 hv hb hs hcv hd k⟩
theorem Mir.rec (hW : W ≤ 7) (hH : H ≤ 7) (h0 : 0 < W) (m : Mir W H g h) (o1 : CtOk W H (gc g)) (o2 : CtOk W H (gc h)) {c v x : Nat} (hv : 1 ≤ v) (hx : 1 ≤ x) (hcv : c % W + v ≤ W) (hcx : c / W + x ≤ H) : (recS W H h (tau W (c + v - 1)) v x).1 = (recS W H g c v x).1 ∧ Mir W H (recS W H g c v x).2 (recS W H h (tau W (c + v - 1)) v x).2 := by
  obtain ⟨a1, a2⟩ := dm_at (c := c) (k := 0) (i := v - 1) h0 (by omega)
  rw [Nat.zero_mul, Nat.add_zero, Nat.add_zero, ← Nat.add_sub_assoc hv] at a1
  rw [Nat.zero_mul, Nat.add_zero, ← Nat.add_sub_assoc hv] at a2
  have hd : c + v - 1 < W * H := lt_row h0 (by rw [a1]; omega)
  have r1 := tau_row hW hH hd
  have r2 := tau_col hW hH hd
  have hdm := Nat.mod_lt (c + v - 1) h0
  have I1 := rec_spec (g := g) hW hH h0 o1 hv hx hcv hcx
  have I2 := rec_spec (g := h) hW hH h0 o2 (c := tau W (c + v - 1)) hv hx (by omega) (by omega)
  have e1 := rec_same W H g c v x
  have e2 := rec_same W H h (tau W (c + v - 1)) v x
  have hdt := tau_lt hW hH hd
  obtain ⟨b1, b2⟩ := dm_at (c := tau W (c + v - 1)) (k := 0) (i := v - 1) h0 (by omega)
  rw [Nat.zero_mul, Nat.add_zero, Nat.add_zero, ← Nat.add_sub_assoc hv] at b1
  rw [Nat.zero_mul, Nat.add_zero, ← Nat.add_sub_assoc hv] at b2
  have hd2 : tau W (c + v - 1) + v - 1 < W * H := lt_row h0 (by rw [b1]; omega)
  have back : tau W (tau W (c + v - 1) + v - 1) = c := by
    have := dm_eq (W := W) (b := tau W (tau W (c + v - 1) + v - 1)) (c := c) (k := 0) (i := 0) (by rw [tau_row hW hH hd2, b1, r1, a1]; rfl) (by rw [tau_col hW hH hd2, b2, r2, a2]; omega)
    simpa using this
  have M2 : Mir W H (recS W H g c v x).2 (recS W H h (tau W (c + v - 1)) v x).2 := by
    refine ⟨fun f hf => by rw [e1.1, e2.1]; exact m.1 f hf, fun k hk => by rw [e1.2, e2.2]; exact m.2.1 k hk, fun q hq ha => ?_⟩
    obtain ⟨n1, n2, n3⟩ := mu_al hW hH hq ha
    have z : gc (recS W H h (tau W (c + v - 1)) v x).2 (mu W q) = 1 ↔ gc (recS W H g c v x).2 q = 1 := by
      rw [I1.2.2 q hq, I2.2.2 _ n1, m.2.2 q hq ha]
      refine ⟨fun y => y.imp id (fun y => ?_), fun y => y.imp id (fun y => opR_tau hW hH h0 hv hcv hd y)⟩
      have := opR_tau hW hH h0 hv (by omega) hd2 y
      rw [back, n3] at this
      exact this
    rcases (I1.1 q hq).1 with y | y
    · rcases (I2.1 _ n1).1 with y2 | y2
      · rw [y, y2]
      · have := z.mp y2; rw [y] at this; exact absurd this (by decide)
    · rw [y, z.mpr y]
  refine ⟨i_cancel (c := sm (gc g) 106) ?_, M2⟩
  rw [I1.2.1, ← m.sumC hW hH o1 o2, I2.2.1, M2.sumC hW hH I1.1 I2.1]
end
