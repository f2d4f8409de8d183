/-! PURE: blocks and ways with left and right exchanged -/
section
variable {W H : Nat} {g h : GG}
theorem hang_tau (hW : W ≤ 7) (hH : H ≤ 7) (h0 : 0 < W) (m : Mir W H g h) {a b : Nat} (k : Hang W H (gt g) (gc g) a b) : Hang W H (gt h) (gc h) (tau W a) (tau W b) := by
  have hb := k.lt h0
  obtain ⟨k1, k2, k3, s, s1, s2, s3⟩ := k
  refine ⟨tau_lt hW hH k1, by rw [m.2.1 a k1]; exact k2, by rw [m.2.1 b hb]; exact k3, sg s, (sg_sg s1).2, by rw [bs_tau hW hH k1 s1, s2]; rfl, ?_⟩
  rw [m.cut hW hH k1 s1 (Or.inr (by rw [s2]; rfl))]
  exact s3
theorem conn_tau (hW : W ≤ 7) (hH : H ≤ 7) (h0 : 0 < W) (m : Mir W H g h) {a b : Nat} (k : Conn W H (gt g) (gc g) a b) : Conn W H (gt h) (gc h) (tau W a) (tau W b) :=
  fun S h1 h2 => k (fun x => S (tau W x)) h1 (fun a b sa hb => h2 _ _ sa (hang_tau hW hH h0 m hb))
theorem lb_conn (h0 : 0 < W) (h49 : W * H ≤ 49) {c d : Nat} (hc : c < W * H) (hd : d < W * H) (hi : ¬ gt g c ≤ 0) (e : lbG W H g c = lbG W H g d) : Conn W H (gt g) (gc g) c d := by
  obtain ⟨k, k1, k2, k3, k4, k5, k6⟩ := labS_ice (ct := gc g) hc hi
  by_cases z : gt g d ≤ 0
  · rw [show lbG W H g d = -1 from labS_none (fun q => q.2 z), show lbG W H g c = nI k from k1] at e
    exact absurd e (i_n1 k (by omega))
  · obtain ⟨j, j1, j2, j3, j4, j5, j6⟩ := labS_ice (ct := gc g) hd z
    rw [show lbG W H g d = nI j from j1, show lbG W H g c = nI k from k1, n_eq (by omega) (by omega)] at e
    subst e
    exact (k3.symm h0).trans j3
theorem same_tau1 (hW : W ≤ 7) (hH : H ≤ 7) (h0 : 0 < W) (m : Mir W H g h) {c d : Nat} (hc : c < W * H) (hd : d < W * H) (e : lbG W H g c = lbG W H g d) : lbG W H h (tau W c) = lbG W H h (tau W d) := by
  have h49 := wh_lt hW hH
  by_cases z : gt g c ≤ 0
  · have zd : gt g d ≤ 0 := Classical.byContradiction (fun q => by
      obtain ⟨j, j1, j2, _⟩ := labS_ice (ct := gc g) hd q
      rw [show lbG W H g d = nI j from j1, show lbG W H g c = -1 from labS_none (fun q => q.2 z)] at e
      exact absurd e.symm (i_n1 j (by omega)))
    rw [show lbG W H h (tau W c) = -1 from labS_none (fun q => q.2 ((m.ice c hc).mpr z)), show lbG W H h (tau W d) = -1 from labS_none (fun q => q.2 ((m.ice d hd).mpr zd))]
  · exact ((labS_is h0).conn h0 (tau_lt hW hH hc) (conn_tau hW hH h0 m (lb_conn h0 h49 hc hd z e))).2
theorem same_tau (hW : W ≤ 7) (hH : H ≤ 7) (h0 : 0 < W) (m : Mir W H g h) {c d : Nat} (hc : c < W * H) (hd : d < W * H) : lbG W H g c = lbG W H g d ↔ lbG W H h (tau W c) = lbG W H h (tau W d) := by
  refine ⟨same_tau1 hW hH h0 m hc hd, fun e => ?_⟩
  have := same_tau1 hW hH h0 (m.symm hW hH) (tau_lt hW hH hc) (tau_lt hW hH hd) e
  rwa [tau_tau hW hH hc, tau_tau hW hH hd] at this
/-- a block and the one that it becomes -/
def RR (W H : Nat) (g h : GG) (n r : Nat) : Prop := n < W * H ∧ lbG W H g n = nI n ∧ r < W * H ∧ lbG W H h r = nI r ∧ ∀ c, c < W * H → (lbG W H g c = nI n ↔ lbG W H h (tau W c) = nI r)
theorem RR.symm (hW : W ≤ 7) (hH : H ≤ 7) {n r : Nat} (R : RR W H g h n r) : RR W H h g r n := ⟨R.2.2.1, R.2.2.2.1, R.1, R.2.1, fun c hc => by
  have := R.2.2.2.2 (tau W c) (tau_lt hW hH hc)
  rw [tau_tau hW hH hc] at this
  exact this.symm⟩
theorem RR_of (hW : W ≤ 7) (hH : H ≤ 7) (h0 : 0 < W) (m : Mir W H g h) {c n r : Nat} (hc : c < W * H) (hn : n < 49) (hr : r < 49) (e1 : lbG W H g c = nI n) (e2 : lbG W H h (tau W c) = nI r) : RR W H g h n r := by
  have h49 := wh_lt hW hH
  obtain ⟨a1, _, _, a4, _, a6⟩ := labS_root (ct := gc g) h0 h49 hn e1
  obtain ⟨b1, b2, _, b4, _, b6⟩ := labS_root (ct := gc h) h0 h49 hr e2
  exact ⟨by omega, a6, by omega, b6, fun d hd => by rw [← e1, ← e2]; exact same_tau hW hH h0 m hd hc⟩
noncomputable def rt (W H : Nat) (g : GG) (c : Nat) : Nat := (lbG W H g c).toNatClampNeg
theorem rt_of {c k : Nat} (hk : k < 49) (e : lbG W H g c = nI k) : rt W H g c = k := by
  unfold rt
  rw [e, i_cl k (by omega)]
theorem lb_neg {c : Nat} (h49 : W * H ≤ 49) : lbG W H g c = -1 ↔ ¬ (c < W * H ∧ ¬ gt g c ≤ 0) := by
  refine ⟨fun e z => ?_, fun z => labS_none z⟩
  obtain ⟨j, j1, j2, j3, j4, _⟩ := labS_ice (ct := gc g) z.1 z.2
  rw [show lbG W H g c = nI j from j1] at e
  exact absurd e (i_n1 j (by omega))
theorem RR_ex (hW : W ≤ 7) (hH : H ≤ 7) (h0 : 0 < W) (m : Mir W H g h) {c n : Nat} (hc : c < W * H) (hn : n < 49) (e : lbG W H g c = nI n) : RR W H g h n (rt W H h (tau W c)) ∧ lbG W H h (tau W c) = nI (rt W H h (tau W c)) := by
  have h49 := wh_lt hW hH
  rcases lb_cases (g := h) h0 h49 (tau W c) with z | ⟨k, k1, k2, k3⟩
  · rw [lb_neg h49] at z
    have z2 : ¬ (c < W * H ∧ ¬ gt g c ≤ 0) := fun q => z ⟨tau_lt hW hH hc, by rw [m.2.1 c hc]; exact q.2⟩
    rw [(lb_neg (g := g) h49).mpr z2] at e
    exact absurd e.symm (i_n1 n (by omega))
  · rw [rt_of (by omega) k2]
    exact ⟨RR_of hW hH h0 m hc hn (by omega) e k2, k2⟩
theorem RR.fn {n r : Nat} (hr : r < 49) (R : RR W H g h n r) : rt W H h (tau W n) = r := rt_of hr ((R.2.2.2.2 n R.1).mp R.2.1)
theorem RR.row (hW : W ≤ 7) (hH : H ≤ 7) (h0 : 0 < W) {n r : Nat} (R : RR W H g h n r) : r / W = n / W := by
  have h49 := wh_lt hW hH
  obtain ⟨n1, n2, r1, r2, e⟩ := id R
  have a1 := (labS_root (ct := gc h) h0 h49 (show r < 49 by omega) ((e n n1).mp n2)).1
  have a2 := (labS_root (ct := gc g) h0 h49 (show n < 49 by omega) ((R.symm hW hH).2.2.2.2 r r1 |>.mp r2)).1
  have b1 := Nat.div_le_div_right (c := W) a1
  have b2 := Nat.div_le_div_right (c := W) a2
  rw [tau_row hW hH n1] at b1
  rw [tau_row hW hH r1] at b2
  omega
theorem RR.loo1 (hW : W ≤ 7) (hH : H ≤ 7) (hH0 : 0 < H) (m : Mir W H g h) {n r : Nat} (R : RR W H g h n r) (k : looG W H g n) : looG W H h r := by
  refine ⟨R.2.2.2.1, fun ⟨c, c1, c2, c3⟩ => k.2 ?_⟩
  have hc : c < W * H := Nat.lt_of_lt_of_le c1 (w_le hH0)
  have ht := tau_lt hW hH hc
  refine ⟨tau W c, ((tau_fin1 (show W < 8 by omega) (show H < 8 by omega) hc).2.2.2.2).resolve_left (by omega), (R.2.2.2.2 (tau W c) ht).mpr (by rw [tau_tau hW hH hc]; exact c2), ?_⟩
  have := m.cut hW hH ht (s := 2) (by omega) (Or.inl rfl)
  rw [tau_tau hW hH hc] at this
  exact this.symm.trans c3
theorem RR.loo (hW : W ≤ 7) (hH : H ≤ 7) (hH0 : 0 < H) (m : Mir W H g h) {n r : Nat} (R : RR W H g h n r) : looG W H g n ↔ looG W H h r := ⟨R.loo1 hW hH hH0 m, (R.symm hW hH).loo1 hW hH hH0 (m.symm hW hH)⟩
def mp (p : Nat) : Nat := p / 15 * 15 + (14 - p % 15)
theorem mp_f (p : Nat) : mp p / 15 = p / 15 ∧ mp p % 15 = 14 - p % 15 ∧ mp (mp p) = p := by
  unfold mp
  omega
theorem rm_at {r j : Nat} (hj : j < W) : (r * W + j) / W = r ∧ (r * W + j) % W = j := by
  have h0 : 0 < W := by omega
  rw [Nat.mul_comm]
  exact ⟨by rw [Nat.mul_add_div h0, Nat.div_eq_of_lt hj, Nat.add_zero], by rw [Nat.mul_add_mod, Nat.mod_eq_of_lt hj]⟩
theorem dm_ext {x y : Nat} (h1 : x / W = y / W) (h2 : x % W = y % W) : x = y := by
  rw [← Nat.div_add_mod x W, ← Nat.div_add_mod y W, h1, h2]
theorem lg_tau1 (hW : W ≤ 7) (hH : H ≤ 7) (h0 : 0 < W) {th k lb lc : Nat → Int32} {n r p : Nat} (ht : ∀ t, t < W * H → (k (tau W t) ≤ 0 ↔ th t ≤ 0)) (hl : ∀ c, c < W * H → (lb c = nI n ↔ lc (tau W c) = nI r)) (hr : r / W = n / W) (q : lgX W H th lb n p) : lgX W H k lc r (mp p) := by
  obtain ⟨m1, m2, m3⟩ := mp_f p
  refine ⟨by have := q.1; omega, by rw [hr, m1]; exact q.2.1, fun c hc e => ?_⟩
  have hu := tau_lt hW hH hc
  have ok := q.2.2 (tau W c) hu ((hl _ hu).mpr (by rw [tau_tau hW hH hc]; exact e))
  have hm := Nat.mod_lt c h0
  obtain ⟨o1, o2, o3, o4⟩ := ok
  rw [tau_row hW hH hc] at o1 o4
  rw [tau_col hW hH hc] at o2 o3 o4
  refine ⟨by rw [m1]; exact o1, by rw [m2]; omega, by rw [m2]; omega, fun a b => ?_⟩
  rw [m1] at a b ⊢
  rw [m2] at b ⊢
  have j1 : W - 1 - c % W + p % 15 - 7 < W := by omega
  have j2 : c % W + (14 - p % 15) - 7 < W := by omega
  obtain ⟨t1, t2⟩ := rm_at (r := c / W + p / 15 - 7) j1
  obtain ⟨u1, u2⟩ := rm_at (r := c / W + p / 15 - 7) j2
  have tl : (c / W + p / 15 - 7) * W + (W - 1 - c % W + p % 15 - 7) < W * H := lt_row h0 (by rw [t1]; omega)
  have te : (c / W + p / 15 - 7) * W + (c % W + (14 - p % 15) - 7) = tau W ((c / W + p / 15 - 7) * W + (W - 1 - c % W + p % 15 - 7)) := dm_ext (W := W) (by rw [tau_row hW hH tl, t1, u1]) (by rw [tau_col hW hH tl, t2, u2]; omega)
  rw [te] at b ⊢
  rw [ht _ tl] at b
  exact (hl _ tl).mp (o4 a b)
theorem lg_tau (hW : W ≤ 7) (hH : H ≤ 7) (h0 : 0 < W) {th k lb lc : Nat → Int32} {n r p : Nat} (ht : ∀ t, t < W * H → (k (tau W t) ≤ 0 ↔ th t ≤ 0)) (hl : ∀ c, c < W * H → (lb c = nI n ↔ lc (tau W c) = nI r)) (hr : r / W = n / W) : lgX W H k lc r (mp p) ↔ lgX W H th lb n p := by
  refine ⟨fun q => ?_, lg_tau1 hW hH h0 ht hl hr⟩
  have := lg_tau1 (th := k) (k := th) (lb := lc) (lc := lb) (n := r) (r := n) hW hH h0 (fun t hh => by
    have := ht (tau W t) (tau_lt hW hH hh)
    rw [tau_tau hW hH hh] at this
    exact this.symm) (fun c hc => by
    have := hl (tau W c) (tau_lt hW hH hc)
    rw [tau_tau hW hH hc] at this
    exact this.symm) hr.symm q
  rwa [(mp_f p).2.2] at this
theorem lg_mid (hW : W ≤ 7) (hH : H ≤ 7) (h0 : 0 < W) {th lb : Nat → Int32} {n p : Nat} (hn : n < W * H) (hl : lb n = nI n) (q : lgX W H th lb n p) : 15 ≤ p ∧ 1 ≤ p % 15 ∧ p % 15 ≤ 13 := by
  obtain ⟨o1, o2, o3, _⟩ := q.2.2 n hn hl
  have h1 : n / W < H := Nat.div_lt_of_lt_mul hn
  have h2 := Nat.mod_lt n h0
  omega
theorem Em_mp {p : Nat} (h1 : 15 ≤ p) (h2 : 1 ≤ p % 15) (h3 : p % 15 ≤ 13) : Em (mp p) 0 = mp (Em p 1) ∧ Em (mp p) 1 = mp (Em p 0) ∧ Em (mp p) 2 = mp (Em p 2) ∧ Em (mp p) 3 = mp (Em p 3) := by
  unfold Em mp
  refine ⟨?_, ?_, ?_, ?_⟩ <;> simp <;> omega
theorem fz_tau {f k : Nat → Int32} (e : ∀ p, k (mp p) = f p) (hb : ∀ p, f p ≠ -2 → 15 ≤ p ∧ 1 ≤ p % 15 ∧ p % 15 ≤ 13) : ∀ j p, fz k j (mp p) = fz f j p := by
  intro j
  induction j with
  | zero => exact e
  | succ j ih =>
    intro p
    rw [fz_succ, fz_succ, ih p]
    by_cases z : fz f j p = -1
    · have nz : f p ≠ -2 := fun y => by
        have := fz_keep2 (f0 := f) (n := 0) (p := p) j (by show f p ≠ -1; rw [y]; decide)
        rw [Nat.zero_add, z] at this
        have y2 : fz f 0 p = -2 := y
        rw [y2] at this
        exact absurd this (by decide)
      obtain ⟨b1, b2, b3⟩ := hb p nz
      obtain ⟨x0, x1, x2, x3⟩ := Em_mp b1 b2 b3
      have q : (∃ m, m < 4 ∧ fz k j (Em (mp p) m) = nI j) ↔ ∃ m, m < 4 ∧ fz f j (Em p m) = nI j := by
        rw [← four (P := fun m => fz k j (Em (mp p) m) = nI j), ← four (P := fun m => fz f j (Em p m) = nI j)]
        show (fz k j (Em (mp p) 0) = nI j ∨ fz k j (Em (mp p) 1) = nI j ∨ fz k j (Em (mp p) 2) = nI j ∨ fz k j (Em (mp p) 3) = nI j) ↔ (fz f j (Em p 0) = nI j ∨ fz f j (Em p 1) = nI j ∨ fz f j (Em p 2) = nI j ∨ fz f j (Em p 3) = nI j)
        rw [x0, x1, x2, x3, ih, ih, ih, ih]
        constructor
        · rintro (a | a | a | a)
          · exact Or.inr (Or.inl a)
          · exact Or.inl a
          · exact Or.inr (Or.inr (Or.inl a))
          · exact Or.inr (Or.inr (Or.inr a))
        · rintro (a | a | a | a)
          · exact Or.inr (Or.inl a)
          · exact Or.inl a
          · exact Or.inr (Or.inr (Or.inl a))
          · exact Or.inr (Or.inr (Or.inr a))
      by_cases y : ∃ m, m < 4 ∧ fz f j (Em p m) = nI j
      · rw [if_pos ⟨z, q.mpr y⟩, if_pos ⟨z, y⟩]
      · rw [if_neg (fun t => y (q.mp t.2)), if_neg (fun t => y t.2)]
    · rw [if_neg (fun t => z t.1), if_neg (fun t => z t.1)]
theorem far_tau (hW : W ≤ 7) (hH : H ≤ 7) (h0 : 0 < W) {th k lb lc : Nat → Int32} {n r : Nat} (ht : ∀ t, t < W * H → (k (tau W t) ≤ 0 ↔ th t ≤ 0)) (hl : ∀ c, c < W * H → (lb c = nI n ↔ lc (tau W c) = nI r)) (hr : r / W = n / W) (hn : n < W * H) (hln : lb n = nI n) : farX W H k lc r 112 = farX W H th lb n 112 := by
  have e : ∀ p, f0X W H k lc r (mp p) = f0X W H th lb n p := fun p => by
    unfold f0X
    by_cases z : lgX W H th lb n p
    · rw [if_pos z, if_pos ((lg_tau hW hH h0 ht hl hr).mpr z), hr, (mp_f p).1]
    · rw [if_neg z, if_neg (fun q => z ((lg_tau hW hH h0 ht hl hr).mp q))]
  exact fz_tau e (fun p hp => lg_mid hW hH h0 hn hln (Classical.byContradiction (fun z => hp ((f0X_is W H th lb n p).1 z)))) 300 112
theorem RR.far (hW : W ≤ 7) (hH : H ≤ 7) (h0 : 0 < W) (m : Mir W H g h) {n r : Nat} (R : RR W H g h n r) : wayI (farG W H h r) = wayI (farG W H g n) := by
  have e := far_tau (th := gt g) (k := gt h) (lb := lbG W H g) (lc := lbG W H h) hW hH h0 m.ice R.2.2.2.2 (R.row hW hH h0) R.1 R.2.1
  unfold wayI farG
  rw [e]
theorem RR.way (hW : W ≤ 7) (hH : H ≤ 7) (h0 : 0 < W) (hH0 : 0 < H) (m : Mir W H g h) {n r : Nat} (R : RR W H g h n r) : wayG W H h r = wayG W H g n := by
  unfold wayG
  by_cases z : looG W H g n
  · rw [if_pos z, if_pos ((R.loo hW hH hH0 m).mp z), R.far hW hH h0 m]
  · rw [if_neg z, if_neg (fun q => z ((R.loo hW hH hH0 m).mpr q))]
theorem RR.st (hW : W ≤ 7) (hH : H ≤ 7) (h0 : 0 < W) (hH0 : 0 < H) (m : Mir W H g h) {n r : Nat} (R : RR W H g h n r) : stG W H g n ↔ stG W H h r := by
  unfold stG
  rw [R.loo hW hH hH0 m, R.far hW hH h0 m]
theorem RR.fl (hW : W ≤ 7) (hH : H ≤ 7) (h0 : 0 < W) (hH0 : 0 < H) (m : Mir W H g h) {n r : Nat} (R : RR W H g h n r) : flG W H g n ↔ flG W H h r := by
  unfold flG
  rw [R.loo hW hH hH0 m, R.far hW hH h0 m]
/-- a way, as what can be reached -/
def Rch (lg ou : Nat → Prop) (p : Nat) : Prop := ∀ S : Nat → Prop, (∀ q, lg q → ou q → S q) → (∀ q m, m < 4 → lg q → S (Em q m) → S q) → S p
theorem far_rch {th lb : Nat → Int32} {n p : Nat} : (∃ j, j ≤ 300 ∧ farX W H th lb n p = nI j) ↔ Rch (lgX W H th lb n) (ouX W H n) p := by
  have F := farX_is W H th lb n
  constructor
  · rintro ⟨j, hj, e⟩ S h1 h2
    induction j generalizing p with
    | zero =>
      obtain ⟨a, b⟩ := F.zero e
      exact h1 p a b
    | succ j ih =>
      obtain ⟨m, m1, m2⟩ := F.2.2.2.1 p j (by omega) e
      exact h2 p m m1 (F.lg (by omega) e) (ih (by omega) m2)
  · intro R
    refine R (fun p => ∃ j, j ≤ 300 ∧ farX W H th lb n p = nI j) (fun q a b => ⟨0, by omega, F.2.1 q a b⟩) (fun q m hm a k => ?_)
    obtain ⟨j, hj, e⟩ := k
    by_cases o : ouX W H n q
    · exact ⟨0, by omega, F.2.1 q a o⟩
    · obtain ⟨i, i1, i2⟩ := F.2.2.2.2 q m j (by omega) a o hm e
      exact ⟨i, (fz_lg (f0X_is W H th lb n) (n := 300) (by omega) (show i < 2147483648 by omega) i2).2.1, i2⟩
theorem way_iff {th lb : Nat → Int32} {n : Nat} : (wayI (farX W H th lb n) ≠ -1 ↔ Rch (lgX W H th lb n) (ouX W H n) 112) ∧ (wayI (farX W H th lb n) ≠ -1 → ∃ j, j ≤ 300 ∧ wayI (farX W H th lb n) = nI j ∧ farX W H th lb n 112 = nI j) := by
  have F := farX_is W H th lb n
  have a : (∃ j, j ≤ 300 ∧ farX W H th lb n 112 = nI j) → wayI (farX W H th lb n) ≠ -1 := fun ⟨j, hj, e⟩ => by
    unfold wayI
    rw [e, if_neg (i_nn j (by omega))]
    exact i_n1 j (by omega)
  have b : wayI (farX W H th lb n) ≠ -1 → ∃ j, j ≤ 300 ∧ wayI (farX W H th lb n) = nI j ∧ farX W H th lb n 112 = nI j := fun z => by
    have k : ∃ j, j < 1000 ∧ farX W H th lb n 112 = nI j := by
      by_cases l : lgX W H th lb n 112
      · by_cases o : ouX W H n 112
        · exact ⟨0, by omega, F.2.1 _ l o⟩
        · rcases F.2.2.1 _ l o with q | ⟨j, j1, j2⟩
          · exfalso; apply z; unfold wayI; rw [q]; rfl
          · exact ⟨j + 1, by omega, j2⟩
      · exfalso; apply z; unfold wayI; rw [F.1 _ l]; rfl
    obtain ⟨j, j1, j2⟩ := k
    refine ⟨j, (fz_lg (f0X_is W H th lb n) (n := 300) (by omega) (show j < 2147483648 by omega) j2).2.1, ?_, j2⟩
    unfold wayI
    rw [j2, if_neg (i_nn j (by omega))]
  refine ⟨⟨fun z => ?_, fun z => a (far_rch.mpr z)⟩, b⟩
  obtain ⟨j, j1, j2, j3⟩ := b z
  exact far_rch.mp ⟨j, j1, j3⟩
theorem far_low {th lb : Nat → Int32} {n : Nat} : ∀ j p, j ≤ 300 → farX W H th lb n p = nI j → H + 7 ≤ n / W + p / 15 + j := by
  have F := farX_is W H th lb n
  intro j
  induction j with
  | zero =>
    intro p _ e
    have := (F.zero e).2
    unfold ouX at this
    omega
  | succ j ih =>
    intro p hj e
    obtain ⟨m, m1, m2⟩ := F.2.2.2.1 p j (by omega) e
    have := ih _ (by omega) m2
    have k : Em p m / 15 ≤ p / 15 + 1 := by
      unfold Em
      by_cases z0 : m = 0
      · rw [if_pos z0]; omega
      · by_cases z1 : m = 1
        · rw [if_neg z0, if_pos z1]; omega
        · by_cases z2 : m = 2
          · rw [if_neg z0, if_neg z1, if_pos z2]; omega
          · rw [if_neg z0, if_neg z1, if_neg z2]; omega
    omega
theorem way_low {n : Nat} (z : wayI (farG W H g n) ≠ -1) : ∃ j, j ≤ 300 ∧ wayI (farG W H g n) = nI j ∧ H ≤ n / W + j := by
  obtain ⟨j, j1, j2, j3⟩ := (way_iff (W := W) (H := H) (th := gt g) (lb := lbG W H g) (n := n)).2 z
  exact ⟨j, j1, j2, by have := far_low j 112 j1 j3; omega⟩
theorem Rch.mono {lg lf ou : Nat → Prop} {p : Nat} (R : Rch lg ou p) (e : ∀ q, lg q → lf q) : Rch lf ou p := fun S h1 h2 => R S (fun q a b => h1 q (e q a) b) (fun q m hm a k => h2 q m hm (e q a) k)
end
