/-! PURE: what hangs together; labels -/
def Hang (W H : Nat) (th ct : Nat → Int32) (a b : Nat) : Prop := a < W * H ∧ ¬ th a ≤ 0 ∧ ¬ th b ≤ 0 ∧ ∃ s, s < 4 ∧ bs W H a s = some b ∧ ct (pl W a s) = 0
/-- from k one comes to c over cells that hang together -/
def Conn (W H : Nat) (th ct : Nat → Int32) (k c : Nat) : Prop := ∀ S : Nat → Prop, S k → (∀ a b, S a → Hang W H th ct a b → S b) → S c
theorem Conn.refl {W H : Nat} {th ct : Nat → Int32} (k : Nat) : Conn W H th ct k k := fun _ h _ => h
theorem Conn.step {W H : Nat} {th ct : Nat → Int32} {k a b : Nat} (h : Conn W H th ct k a) (g : Hang W H th ct a b) : Conn W H th ct k b := fun S h1 h2 => h2 a b (h S h1 h2) g
theorem Conn.trans {W H : Nat} {th ct : Nat → Int32} {k a b : Nat} (h : Conn W H th ct k a) (g : Conn W H th ct a b) : Conn W H th ct k b := fun S h1 h2 => g S (h S h1 h2) h2
/-- the opposite side -/
theorem bs_back {W H a b s : Nat} (hW : 0 < W) (ha : a < W * H) (hs : s < 4) (h : bs W H a s = some b) : bs W H b (3 - s) = some a ∧ pl W b (3 - s) = pl W a s := by
  have hb := bs_lt ha h hW
  have hm : a % W < W := Nat.mod_lt _ hW
  have hdm : W * (a / W) + a % W = a := Nat.div_add_mod a W
  obtain rfl | rfl | rfl | rfl : s = 0 ∨ s = 1 ∨ s = 2 ∨ s = 3 := by omega
  · simp only [bs, if_true] at h
    by_cases e : a % W + 1 < W
    · rw [if_pos e] at h; injection h with h; subst h
      have e1 : (a + 1) % W = a % W + 1 := by
        rw [← hdm, Nat.add_assoc, Nat.mul_add_mod, Nat.mul_add_mod, Nat.mod_eq_of_lt e, Nat.mod_eq_of_lt hm]
      refine ⟨?_, ?_⟩
      · simp [bs, e1]
      · simp [pl]; omega
    · rw [if_neg e] at h; cases h
  · simp [bs] at h
    refine ⟨?_, ?_⟩
    · have : W ≤ b := by omega
      have e3 : b - W = a := by omega
      simp [bs, this, e3]
    · simp [pl]; omega
  · simp [bs] at h
    refine ⟨?_, ?_⟩
    · have : b + W < W * H := by omega
      have e3 : b + W = a := by omega
      simp [bs, e3, ha]
    · simp [pl]; omega
  · simp [bs] at h
    obtain ⟨h0, h1⟩ := h
    have e3 : b + 1 = a := by
      have := Nat.mod_le a W
      omega
    subst e3
    have hm2 : b % W < W := Nat.mod_lt _ hW
    have hdm2 : W * (b / W) + b % W = b := Nat.div_add_mod b W
    have e1 : b % W + 1 < W := by
      by_cases e : b % W + 1 < W
      · exact e
      · have e4 : (b + 1) % W = 0 := by
          have : b + 1 = W * (b / W) + W := by omega
          rw [this, Nat.mul_add_mod, Nat.mod_self]
        omega
    refine ⟨?_, ?_⟩
    · simp [bs, e1]
    · simp [pl]; omega
theorem Hang.symm {W H : Nat} {th ct : Nat → Int32} {a b : Nat} (hW : 0 < W) (h : Hang W H th ct a b) : Hang W H th ct b a := by
  obtain ⟨h1, h2, h3, s, h4, h5, h6⟩ := h
  obtain ⟨h7, h8⟩ := bs_back hW h1 h4 h5
  exact ⟨bs_lt h1 h5 hW, h3, h2, 3 - s, by omega, h7, by rw [h8]; exact h6⟩
theorem Hang.lt {W H : Nat} {th ct : Nat → Int32} {a b : Nat} (hW : 0 < W) (h : Hang W H th ct a b) : b < W * H := by
  obtain ⟨h1, _, _, s, _, h5, _⟩ := h
  exact bs_lt h1 h5 hW
theorem Conn.symm {W H : Nat} {th ct : Nat → Int32} {a b : Nat} (hW : 0 < W) (h : Conn W H th ct a b) : Conn W H th ct b a :=
  h (fun c => Conn W H th ct c a) (Conn.refl a) (fun c d h1 h2 => (Conn.refl d).step (h2.symm hW) |>.trans h1)
/-- what a labelling must be -/
def IsLab (W H : Nat) (th ct : Nat → Int32) (lb : Nat → Int32) : Prop := ∀ c, c < W * H → ((th c ≤ 0 → lb c = -1) ∧ (¬ th c ≤ 0 → ∃ k, k ≤ c ∧ lb c = nI k ∧ Conn W H th ct k c) ∧ ∀ d, Hang W H th ct c d → lb c = lb d)
theorem IsLab.conn {W H : Nat} {th ct lb : Nat → Int32} (h : IsLab W H th ct lb) (hW : 0 < W) {k c : Nat} (hk : k < W * H) (q : Conn W H th ct k c) : c < W * H ∧ lb k = lb c :=
  q (fun c => c < W * H ∧ lb k = lb c) ⟨hk, rfl⟩ (fun a b h1 h2 => ⟨h2.lt hW, h1.2.trans ((h a h1.1).2.2 b h2)⟩)
theorem IsLab.uniq {W H : Nat} {th ct lb lb2 : Nat → Int32} (h : IsLab W H th ct lb) (h2 : IsLab W H th ct lb2) (hW : 0 < W) (h49 : W * H ≤ 49) {c : Nat} (hc : c < W * H) : lb c = lb2 c := by
  by_cases e : th c ≤ 0
  · rw [(h c hc).1 e, (h2 c hc).1 e]
  · obtain ⟨k, k1, k2, k3⟩ := (h c hc).2.1 e
    obtain ⟨j, j1, j2, j3⟩ := (h2 c hc).2.1 e
    have a1 := h2.conn hW (by omega : k < W * H) k3
    have a2 := h.conn hW (by omega : j < W * H) j3
    have t1 : th k ≤ 0 ∨ ¬ th k ≤ 0 := by by_cases q : th k ≤ 0; exact Or.inl q; exact Or.inr q
    have ek : ¬ th k ≤ 0 := by
      intro q
      have := (h2 k (by omega)).1 q
      rw [this, j2] at a1
      exact i_n1 j (by omega) a1.2.symm
    have ej : ¬ th j ≤ 0 := by
      intro q
      have := (h j (by omega)).1 q
      rw [this, k2] at a2
      exact i_n1 k (by omega) a2.2.symm
    obtain ⟨k', k1', k2', _⟩ := (h2 k (by omega)).2.1 ek
    obtain ⟨j', j1', j2', _⟩ := (h j (by omega)).2.1 ej
    have b1 : nI k' = nI j := by rw [← k2', a1.2, j2]
    have b2 : nI j' = nI k := by rw [← j2', a2.2, k2]
    rw [n_eq (by omega) (by omega)] at b1 b2
    have : k = j := by omega
    rw [k2, j2, this]
/-- the lowest cell of a cell's block: the labels of a field -/
def labP (W H : Nat) (th ct : Nat → Int32) (c : Nat) : Prop := c < W * H ∧ ¬ th c ≤ 0 ∧ ∃ k, Conn W H th ct k c ∧ k < W * H ∧ ¬ th k ≤ 0 ∧ ∀ j, Conn W H th ct j c → j < W * H → ¬ th j ≤ 0 → k ≤ j
noncomputable def labS (W H : Nat) (th ct : Nat → Int32) (c : Nat) : Int32 := @dite Int32 (labP W H th ct c) (Classical.propDecidable _) (fun h => nI (Classical.choose h.2.2)) (fun _ => -1)
theorem ex_least (P : Nat → Prop) {n : Nat} (h : P n) : ∃ k, P k ∧ k ≤ n ∧ ∀ j, P j → k ≤ j := by
  induction n using Nat.strongRecOn with
  | ind n ih =>
    by_cases e : ∃ j, j < n ∧ P j
    · obtain ⟨j, j1, j2⟩ := e
      obtain ⟨k, k1, k2, k3⟩ := ih j j1 j2
      exact ⟨k, k1, by omega, k3⟩
    · refine ⟨n, h, Nat.le_refl _, fun j hj => ?_⟩
      exact Nat.le_of_not_lt (fun q => e ⟨j, q, hj⟩)
theorem labS_ice {W H : Nat} {th ct : Nat → Int32} {c : Nat} (hc : c < W * H) (hi : ¬ th c ≤ 0) : ∃ k, labS W H th ct c = nI k ∧ k ≤ c ∧ Conn W H th ct k c ∧ k < W * H ∧ ¬ th k ≤ 0 ∧ ∀ j, Conn W H th ct j c → j < W * H → ¬ th j ≤ 0 → k ≤ j := by
  obtain ⟨k, k1, k2, k3⟩ := ex_least (fun k => Conn W H th ct k c ∧ k < W * H ∧ ¬ th k ≤ 0) (n := c) ⟨Conn.refl c, hc, hi⟩
  have h : labP W H th ct c := ⟨hc, hi, k, k1.1, k1.2.1, k1.2.2, fun j a b d => k3 j ⟨a, b, d⟩⟩
  have hs := Classical.choose_spec h.2.2
  refine ⟨Classical.choose h.2.2, ?_, hs.2.2.2 c (Conn.refl c) hc hi, hs⟩
  unfold labS
  rw [dif_pos h]
theorem labS_none {W H : Nat} {th ct : Nat → Int32} {c : Nat} (h : ¬ (c < W * H ∧ ¬ th c ≤ 0)) : labS W H th ct c = -1 := by
  unfold labS
  rw [dif_neg (fun q => h ⟨q.1, q.2.1⟩)]
theorem labS_is {W H : Nat} {th ct : Nat → Int32} (hW : 0 < W) : IsLab W H th ct (labS W H th ct) := by
  intro c hc
  refine ⟨fun e => labS_none (fun q => q.2 e), fun e => ?_, fun d hd => ?_⟩
  · obtain ⟨k, k1, k2, k3, _⟩ := labS_ice (ct := ct) hc e
    exact ⟨k, k2, k1, k3⟩
  · obtain ⟨k, k1, k2, k3, k4, k5, k6⟩ := labS_ice (ct := ct) hc hd.2.1
    obtain ⟨j, j1, j2, j3, j4, j5, j6⟩ := labS_ice (ct := ct) (hd.lt hW) hd.2.2.1
    have a := j6 k (k3.step hd) k4 k5
    have b := k6 j (j3.step (hd.symm hW)) j4 j5
    rw [k1, j1, Nat.le_antisymm a b]
theorem IsLab.eq {W H : Nat} {th ct lb : Nat → Int32} (h : IsLab W H th ct lb) (hW : 0 < W) (h49 : W * H ≤ 49) {c : Nat} (hc : c < W * H) : lb c = labS W H th ct c := h.uniq (labS_is hW) hW h49 hc
/-- a label is the lowest cell's own -/
theorem labS_root {W H : Nat} {th ct : Nat → Int32} (hW : 0 < W) {c k : Nat} (h49 : W * H ≤ 49) (hk : k < 49) (h : labS W H th ct c = nI k) : k ≤ c ∧ c < W * H ∧ ¬ th c ≤ 0 ∧ ¬ th k ≤ 0 ∧ Conn W H th ct k c ∧ labS W H th ct k = nI k := by
  by_cases e : c < W * H ∧ ¬ th c ≤ 0
  · obtain ⟨j, j1, j2, j3, j4, j5, j6⟩ := labS_ice (ct := ct) e.1 e.2
    have : j = k := by
      have := j1.symm.trans h
      rwa [n_eq (by omega) (by omega)] at this
    subst this
    refine ⟨j2, e.1, e.2, j5, j3, ?_⟩
    exact ((labS_is hW).conn hW j4 j3).2.trans h
  · rw [labS_none e] at h
    exact absurd h.symm (i_n1 k (by omega))
/-- held at the shore -/
def heldP (W : Nat) (ct lb : Nat → Int32) (n : Int32) : Prop := ∃ c, c < W ∧ lb c = n ∧ ct c = 0
