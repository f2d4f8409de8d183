/-! PURE: how far from being out; breadth first search -/
def Em (p m : Nat) : Nat := if m = 0 then p - 1 else if m = 1 then p + 1 else if m = 2 then p - 15 else p + 15
def fz (f0 : Nat → Int32) : Nat → Nat → Int32
  | 0 => f0
  | n + 1 => fun p => if fz f0 n p = -1 ∧ (fz f0 n (Em p 0) = nI n ∨ fz f0 n (Em p 1) = nI n ∨ fz f0 n (Em p 2) = nI n ∨ fz f0 n (Em p 3) = nI n) then nI (n + 1) else fz f0 n p
theorem four {P : Nat → Prop} : (P 0 ∨ P 1 ∨ P 2 ∨ P 3) ↔ ∃ m, m < 4 ∧ P m := by
  constructor
  · rintro (h | h | h | h)
    · exact ⟨0, by omega, h⟩
    · exact ⟨1, by omega, h⟩
    · exact ⟨2, by omega, h⟩
    · exact ⟨3, by omega, h⟩
  · rintro ⟨m, h, h2⟩
    obtain rfl | rfl | rfl | rfl : m = 0 ∨ m = 1 ∨ m = 2 ∨ m = 3 := by omega
    · exact Or.inl h2
    · exact Or.inr (Or.inl h2)
    · exact Or.inr (Or.inr (Or.inl h2))
    · exact Or.inr (Or.inr (Or.inr h2))
theorem fz_succ (f0 : Nat → Int32) (n p : Nat) : fz f0 (n + 1) p = if fz f0 n p = -1 ∧ (∃ m, m < 4 ∧ fz f0 n (Em p m) = nI n) then nI (n + 1) else fz f0 n p := by
  have h : (fz f0 n (Em p 0) = nI n ∨ fz f0 n (Em p 1) = nI n ∨ fz f0 n (Em p 2) = nI n ∨ fz f0 n (Em p 3) = nI n) ↔ ∃ m, m < 4 ∧ fz f0 n (Em p m) = nI n := four (P := fun m => fz f0 n (Em p m) = nI n)
  show (if _ ∧ _ then _ else _) = _
  by_cases c : fz f0 n p = -1 ∧ (∃ m, m < 4 ∧ fz f0 n (Em p m) = nI n)
  · rw [if_pos c, if_pos ⟨c.1, h.mpr c.2⟩]
  · rw [if_neg c, if_neg (fun q => c ⟨q.1, h.mp q.2⟩)]
/-- what stands at the beginning -/
def Fz0 (lg ou : Nat → Prop) (f : Nat → Int32) : Prop := ∀ p, (¬ lg p → f p = -2) ∧ (lg p → ou p → f p = 0) ∧ (lg p → ¬ ou p → f p = -1)
theorem fz_keep {f0 : Nat → Int32} {n p : Nat} (h : fz f0 n p ≠ -1) : fz f0 (n + 1) p = fz f0 n p := by
  rw [fz_succ, if_neg (fun q => h q.1)]
theorem fz_keep2 {f0 : Nat → Int32} {n p : Nat} (k : Nat) (h : fz f0 n p ≠ -1) : fz f0 (n + k) p = fz f0 n p := by
  induction k with
  | zero => rfl
  | succ k ih =>
    rw [show n + (k + 1) = (n + k) + 1 from rfl, fz_keep (by rw [ih]; exact h), ih]
theorem m2_ne (k : Nat) (h : k < 2147483648) : (-2 : Int32) ≠ nI k := fun e => by
  have h1 := (i_eq _ _).mp e
  rw [nI_toInt (by omega)] at h1
  have h2 : (-2 : Int32).toInt = -2 := by decide
  omega
theorem fz_val {lg ou : Nat → Prop} {f0 : Nat → Int32} (h0 : Fz0 lg ou f0) (n : Nat) (hn : n < 1000) (p : Nat) : (¬ lg p → fz f0 n p = -2) ∧ (lg p → ou p → fz f0 n p = nI 0) ∧ (lg p → ¬ ou p → (fz f0 n p = -1 ∨ ∃ j, j < n ∧ fz f0 n p = nI (j + 1))) := by
  induction n with
  | zero =>
    exact ⟨(h0 p).1, (h0 p).2.1, fun a b => Or.inl ((h0 p).2.2 a b)⟩
  | succ n ih =>
    obtain ⟨i1, i2, i3⟩ := ih (by omega)
    refine ⟨fun a => ?_, fun a b => ?_, fun a b => ?_⟩
    · rw [fz_keep (by rw [i1 a]; decide)]; exact i1 a
    · rw [fz_keep (by rw [i2 a b]; decide)]; exact i2 a b
    · rw [fz_succ]
      by_cases c : fz f0 n p = -1 ∧ (∃ m, m < 4 ∧ fz f0 n (Em p m) = nI n)
      · rw [if_pos c]; exact Or.inr ⟨n, by omega, rfl⟩
      · rw [if_neg c]
        rcases i3 a b with q | ⟨j, j1, j2⟩
        · exact Or.inl q
        · exact Or.inr ⟨j, by omega, j2⟩
theorem fz_lg {lg ou : Nat → Prop} {f0 : Nat → Int32} (h0 : Fz0 lg ou f0) {n p j : Nat} (hn : n < 1000) (hj : j < 2147483648) (h : fz f0 n p = nI j) : lg p ∧ j ≤ n ∧ (ou p → j = 0) ∧ (¬ ou p → 1 ≤ j) := by
  obtain ⟨i1, i2, i3⟩ := fz_val h0 n hn p
  have hl : lg p := Classical.byContradiction (fun q => by rw [i1 q] at h; exact m2_ne j hj h)
  by_cases o : ou p
  · rw [i2 hl o, n_eq (by omega) hj] at h
    exact ⟨hl, by omega, fun _ => h.symm, fun q => absurd o q⟩
  · rcases i3 hl o with q | ⟨i, a, b⟩
    · rw [q] at h; exact absurd h.symm (i_n1 j hj)
    · rw [b, n_eq (by omega) hj] at h
      exact ⟨hl, by omega, fun q => absurd q o, fun _ => by omega⟩
/-- a value stands from its own round on -/
theorem fz_back {lg ou : Nat → Prop} {f0 : Nat → Int32} (h0 : Fz0 lg ou f0) {n p j : Nat} (hn : n < 1000) (hj : j ≤ n) (h : fz f0 n p = nI j) : fz f0 j p = nI j := by
  by_cases q : fz f0 j p = -1
  · exfalso
    -- then the value would be set later, and be more
    have : ∀ k, j + k ≤ n → (fz f0 (j + k) p = -1 ∨ ∃ i, j < i ∧ i ≤ n ∧ fz f0 (j + k) p = nI i) := by
      intro k
      induction k with
      | zero => intro _; exact Or.inl q
      | succ k ih =>
        intro hk
        rw [show j + (k + 1) = (j + k) + 1 from rfl, fz_succ]
        by_cases c : fz f0 (j + k) p = -1 ∧ (∃ m, m < 4 ∧ fz f0 (j + k) (Em p m) = nI (j + k))
        · rw [if_pos c]; exact Or.inr ⟨j + k + 1, by omega, by omega, rfl⟩
        · rw [if_neg c]; exact ih (by omega)
    have t := this (n - j) (by omega)
    rw [show j + (n - j) = n by omega, h] at t
    rcases t with t | ⟨i, i1, i2, i3⟩
    · exact i_n1 j (by omega) t
    · rw [n_eq (by omega) (by omega)] at i3; omega
  · have := fz_keep2 (n - j) q
    rw [show j + (n - j) = n by omega, h] at this
    exact this.symm
theorem fz_next {lg ou : Nat → Prop} {f0 : Nat → Int32} (h0 : Fz0 lg ou f0) {n p j : Nat} (hn : n < 1000) (hj : j + 1 < 2147483648) (h : fz f0 n p = nI (j + 1)) : ∃ m, m < 4 ∧ fz f0 n (Em p m) = nI j := by
  have hl := fz_lg h0 hn hj h
  have h1 := fz_back h0 hn hl.2.1 h
  rw [fz_succ] at h1
  by_cases c : fz f0 j p = -1 ∧ (∃ m, m < 4 ∧ fz f0 j (Em p m) = nI j)
  · obtain ⟨m, m1, m2⟩ := c.2
    refine ⟨m, m1, ?_⟩
    have := fz_keep2 (n - j) (by rw [m2]; exact i_n1 j (by omega) : fz f0 j (Em p m) ≠ -1)
    rw [show j + (n - j) = n by omega, m2] at this
    exact this
  · rw [if_neg c] at h1
    have := (fz_lg h0 (by omega) hj h1).2.1
    omega
theorem fz_one {lg ou : Nat → Prop} {f0 : Nat → Int32} (h0 : Fz0 lg ou f0) {n p m j : Nat} (hn : n < 1000) (hj : j < n) (hl : lg p) (ho : ¬ ou p) (hm : m < 4) (h : fz f0 n (Em p m) = nI j) : ∃ i, i ≤ j + 1 ∧ fz f0 n p = nI i := by
  have h1 := fz_back h0 hn (by omega) h
  have h2 : ∃ i, i ≤ j + 1 ∧ fz f0 (j + 1) p = nI i := by
    rcases (fz_val h0 j (by omega) p).2.2 hl ho with q | ⟨i, i1, i2⟩
    · rw [fz_succ, if_pos ⟨q, m, hm, h1⟩]; exact ⟨j + 1, by omega, rfl⟩
    · rw [fz_keep (by rw [i2]; exact i_n1 _ (by omega)), i2]; exact ⟨i + 1, by omega, rfl⟩
  obtain ⟨i, i1, i2⟩ := h2
  refine ⟨i, i1, ?_⟩
  have := fz_keep2 (n - (j + 1)) (by rw [i2]; exact i_n1 i (by omega) : fz f0 (j + 1) p ≠ -1)
  rw [show j + 1 + (n - (j + 1)) = n by omega] at this
  rw [this, i2]
theorem cnE_mono {f g : Nat → Int32} {v : Int32} {n : Nat} (h : ∀ i, g i = v → f i = v) : cnE g v n ≤ cnE f v n := by
  induction n with
  | zero => exact Nat.le_refl _
  | succ n ih =>
    simp only [cnE]
    by_cases e : g n = v
    · rw [if_pos e, if_pos (h n e)]; omega
    · rw [if_neg e]; omega
theorem cnE_strict {f g : Nat → Int32} {v : Int32} {n p : Nat} (h : ∀ i, g i = v → f i = v) (hp : p < n) (h1 : f p = v) (h2 : g p ≠ v) : cnE g v n + 1 ≤ cnE f v n := by
  induction n with
  | zero => omega
  | succ n ih =>
    simp only [cnE]
    by_cases e : p = n
    · subst e
      rw [if_pos h1, if_neg h2]
      have := cnE_mono (n := p) h
      omega
    · have := ih (by omega)
      by_cases e2 : g n = v
      · rw [if_pos e2, if_pos (h n e2)]; omega
      · rw [if_neg e2]; omega
def Stab (f0 : Nat → Int32) (i : Nat) : Prop := ∀ p, fz f0 (i + 1) p = fz f0 i p
theorem fz_ne {f0 : Nat → Int32} {n p : Nat} (h : fz f0 (n + 1) p = -1) : fz f0 n p = -1 := by
  by_cases e : fz f0 n p = -1
  · exact e
  · rw [fz_keep e] at h; exact absurd h e
theorem fz_stop {lg ou : Nat → Prop} {f0 : Nat → Int32} (h0 : Fz0 lg ou f0) (hl : ∀ p, lg p → p < 225) (n : Nat) (hn : n < 900) : (∃ i, i < n ∧ Stab f0 i) ∨ cnE (fz f0 n) (-1) 225 + n ≤ 225 := by
  induction n with
  | zero =>
    refine Or.inr ?_
    have := cnE_le (fz f0 0) (-1) 225
    omega
  | succ n ih =>
    rcases ih (by omega) with ⟨i, i1, i2⟩ | ih
    · exact Or.inl ⟨i, by omega, i2⟩
    · by_cases s : Stab f0 n
      · exact Or.inl ⟨n, by omega, s⟩
      · refine Or.inr ?_
        have : ∃ p, fz f0 (n + 1) p ≠ fz f0 n p := Classical.byContradiction (fun q => s (fun p => Classical.byContradiction (fun z => q ⟨p, z⟩)))
        obtain ⟨p, hp⟩ := this
        have e1 : fz f0 n p = -1 := Classical.byContradiction (fun q => hp (fz_keep q))
        have e2 : fz f0 (n + 1) p ≠ -1 := fun q => hp (by rw [q, e1])
        have e3 : lg p := Classical.byContradiction (fun q => by
          rw [(fz_val h0 n (by omega) p).1 q] at e1; exact absurd e1 (by decide))
        have := cnE_strict (f := fz f0 n) (g := fz f0 (n + 1)) (n := 225) (fun i => fz_ne) (hl p e3) e1 e2
        omega
theorem fz_stab {lg ou : Nat → Prop} {f0 : Nat → Int32} (h0 : Fz0 lg ou f0) {i : Nat} (s : Stab f0 i) (k : Nat) (hk : i + k < 1000) : fz f0 (i + k) = fz f0 i := by
  induction k with
  | zero => rfl
  | succ k ih =>
    have ih := ih (by omega)
    funext p
    rw [show i + (k + 1) = (i + k) + 1 from rfl, fz_succ]
    by_cases e : k = 0
    · subst e
      have := s p
      rw [fz_succ] at this
      exact this
    · rw [if_neg, ih]
      rintro ⟨_, m, m1, m2⟩
      rw [ih] at m2
      have := (fz_lg h0 (by omega) (by omega) m2).2.1
      omega
/-- the distances -/
def IsFar (lg ou : Nat → Prop) (f : Nat → Int32) : Prop :=
  (∀ p, ¬ lg p → f p = -2) ∧ (∀ p, lg p → ou p → f p = nI 0) ∧ (∀ p, lg p → ¬ ou p → (f p = -1 ∨ ∃ j, j < 900 ∧ f p = nI (j + 1))) ∧
  (∀ p j, j < 900 → f p = nI (j + 1) → ∃ m, m < 4 ∧ f (Em p m) = nI j) ∧ (∀ p m j, j < 900 → lg p → ¬ ou p → m < 4 → f (Em p m) = nI j → ∃ i, i ≤ j + 1 ∧ f p = nI i)
theorem fz_far {lg ou : Nat → Prop} {f0 : Nat → Int32} (h0 : Fz0 lg ou f0) (hl : ∀ p, lg p → p < 225) : IsFar lg ou (fz f0 300) := by
  have hs : ∃ i, i < 226 ∧ Stab f0 i := by
    rcases fz_stop h0 hl 226 (by omega) with h | h
    · exact h
    · omega
  obtain ⟨i, hi, s⟩ := hs
  have e : fz f0 300 = fz f0 i := by
    have := fz_stab h0 s (300 - i) (by omega)
    rwa [show i + (300 - i) = 300 by omega] at this
  refine ⟨fun p => (fz_val h0 300 (by omega) p).1, fun p => (fz_val h0 300 (by omega) p).2.1, fun p a b => ?_, fun p j hj h => fz_next h0 (by omega) (by omega) h, fun p m j hj a b c h => ?_⟩
  · rcases (fz_val h0 300 (by omega) p).2.2 a b with q | ⟨j, j1, j2⟩
    · exact Or.inl q
    · exact Or.inr ⟨j, by omega, j2⟩
  · have h' := h
    rw [e] at h'
    have := (fz_lg h0 (by omega) (by omega) h').2.1
    exact fz_one h0 (by omega) (by omega) a b c h
theorem IsFar.lg {lg ou : Nat → Prop} {f : Nat → Int32} (F : IsFar lg ou f) {p j : Nat} (hj : j < 2147483648) (h : f p = nI j) : lg p := Classical.byContradiction (fun q => by rw [F.1 p q] at h; exact m2_ne j hj h)
theorem IsFar.zero {lg ou : Nat → Prop} {f : Nat → Int32} (F : IsFar lg ou f) {p : Nat} (h : f p = nI 0) : lg p ∧ ou p := by
  have hl := F.lg (by omega) h
  refine ⟨hl, Classical.byContradiction (fun q => ?_)⟩
  rcases F.2.2.1 p hl q with z | ⟨j, j1, j2⟩
  · rw [z] at h; exact absurd h (by decide)
  · rw [j2, n_eq (by omega) (by omega)] at h; omega
