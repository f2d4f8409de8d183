/-! PURE: breadth first search against distances -/
def un (f : Nat → Nat) (k v : Nat) : Nat → Nat := fun j => if j = k then v else f j
theorem un_same (f : Nat → Nat) (k v : Nat) : un f k v k = v := by simp [un]
theorem un_ne (f : Nat → Nat) {k j : Nat} (v : Nat) (h : j ≠ k) : un f k v j = f j := by simp [un, h]
/-- queue of positions qp with parents pr, moves mv, depths dp; reached rb; end e, next nx, moves tried sd -/
def BfI (lg ou : Nat → Prop) (rb q : Nat → Int32) (qp pr mv dp : Nat → Nat) (e nx sd : Nat) : Prop :=
  (∀ j, j < e → q j = nI (qp j)) ∧ (qp 0 = 112 ∧ dp 0 = 0 ∧ 1 ≤ e ∧ rb 112 = nI 4) ∧
  (∀ j, j < e → lg (qp j) ∧ ¬ ou (qp j)) ∧
  (∀ p, p < 225 → (rb p ≠ -1 ↔ ∃ j, j < e ∧ qp j = p)) ∧
  (∀ j, 1 ≤ j → j < e → rb (qp j) = nI (mv j) ∧ mv j < 4 ∧ pr j < j ∧ pr j ≤ nx ∧ (pr j = nx → mv j < sd) ∧ qp j = Em (qp (pr j)) (mv j) ∧ dp j = dp (pr j) + 1) ∧
  (∀ i j, 1 ≤ i → i < j → j < e → pr i < pr j ∨ (pr i = pr j ∧ mv i < mv j)) ∧
  (∀ i j, i ≤ j → j < e → dp i ≤ dp j) ∧
  (∀ a m, a < e → m < 4 → (a < nx ∨ (a = nx ∧ m < sd)) → lg (Em (qp a) m) → ∃ i, i < e ∧ qp i = Em (qp a) m ∧ (i = 0 ∨ pr i < a ∨ (pr i = a ∧ mv i ≤ m))) ∧
  e + cnE rb (-1) 225 = 225
/-- ancestors -/
def ance (pr : Nat → Nat) (nx : Nat) : Nat → Nat
  | 0 => nx
  | k + 1 => pr (ance pr nx k)
theorem BfI.dep {lg ou : Nat → Prop} {rb q : Nat → Int32} {qp pr mv dp : Nat → Nat} {e nx sd : Nat} (B : BfI lg ou rb q qp pr mv dp e nx sd) {j : Nat} (hj : j < e) (h : 1 ≤ j) : 1 ≤ dp j := by
  have := (B.2.2.2.2.1 j h hj).2.2.2.2.2.2
  omega
theorem BfI.anc {lg ou : Nat → Prop} {rb q : Nat → Int32} {qp pr mv dp : Nat → Nat} {e nx sd : Nat} (B : BfI lg ou rb q qp pr mv dp e nx sd) (hn : nx < e) (k : Nat) (hk : k ≤ dp nx) : ance pr nx k ≤ nx ∧ dp (ance pr nx k) + k = dp nx ∧ (k < dp nx → 1 ≤ ance pr nx k) := by
  induction k with
  | zero =>
    refine ⟨Nat.le_refl _, rfl, fun h => ?_⟩
    have h0 := B.2.1.2.1
    rcases Nat.eq_zero_or_pos nx with z | z
    · rw [z, h0] at h; omega
    · exact z
  | succ k ih =>
    obtain ⟨i1, i2, i3⟩ := ih (by omega)
    have h1 := i3 (by omega)
    obtain ⟨_, _, p3, _, _, _, p7⟩ := B.2.2.2.2.1 _ h1 (by omega : ance pr nx k < e)
    refine ⟨?_, ?_, fun h => ?_⟩
    · show pr (ance pr nx k) ≤ nx; omega
    · show dp (pr (ance pr nx k)) + (k + 1) = dp nx; omega
    · show 1 ≤ pr (ance pr nx k)
      rcases Nat.eq_zero_or_pos (pr (ance pr nx k)) with z | z
      · rw [z, B.2.1.2.1] at p7; omega
      · exact z
theorem BfI.mono {lg ou : Nat → Prop} {rb q : Nat → Int32} {qp pr mv dp : Nat → Nat} {e nx sd : Nat} (B : BfI lg ou rb q qp pr mv dp e nx sd) {i j : Nat} (hi : i < e) (hj : j < e) (hj1 : 1 ≤ j) (h : i = 0 ∨ pr i < pr j ∨ (pr i = pr j ∧ mv i < mv j)) : i < j := by
  rcases Nat.lt_or_ge i j with z | z
  · exact z
  · rcases Nat.eq_or_lt_of_le z with z | z
    · subst z; omega
    · have := B.2.2.2.2.2.1 j i hj1 z hi
      omega
section
variable {lg ou : Nat → Prop} {rb q f : Nat → Int32} {qp pr mv dp : Nat → Nat} {e nx sd : Nat}
theorem BfI.noout (B : BfI lg ou rb q qp pr mv dp e nx sd) {a m : Nat} (ha : a < e) (hm : m < 4) (h : a < nx ∨ (a = nx ∧ m < sd)) (F : IsFar lg ou f) : f (Em (qp a) m) ≠ nI 0 := by
  intro z
  obtain ⟨z1, z2⟩ := F.zero z
  obtain ⟨i, i1, i2, _⟩ := B.2.2.2.2.2.2.2.1 a m ha hm h z1
  rw [← i2] at z2
  exact (B.2.2.1 i i1).2 z2
theorem BfI.not0 (B : BfI lg ou rb q qp pr mv dp e nx sd) (F : IsFar lg ou f) {a : Nat} (ha : a < e) : f (qp a) ≠ nI 0 := fun z => (B.2.2.1 a ha).2 (F.zero z).2
theorem BfI.K (B : BfI lg ou rb q qp pr mv dp e nx sd) (F : IsFar lg ou f) (hn : nx < e) (hd : dp nx < 300) (k : Nat) (hk : k ≤ dp nx) : ∀ a, a < ance pr nx k → ∀ n, n ≤ k + 1 → f (qp a) ≠ nI n := by
  induction k with
  | zero =>
    intro a ha n hnk z
    have ha : a < nx := ha
    obtain rfl | rfl : n = 0 ∨ n = 1 := by omega
    · exact B.not0 F (by omega : a < e) z
    · obtain ⟨m, m1, m2⟩ := F.2.2.2.1 _ 0 (by omega) z
      exact B.noout (by omega : a < e) m1 (Or.inl ha) F m2
  | succ k ih =>
    intro a ha n hnk z
    obtain ⟨a1, a2, a3⟩ := B.anc hn k (by omega)
    obtain ⟨_, _, p3, p4, _, _, _⟩ := B.2.2.2.2.1 _ (a3 (by omega)) (by omega : ance pr nx k < e)
    have ha : a < pr (ance pr nx k) := ha
    rcases Nat.eq_zero_or_pos n with hz | hz
    · subst hz; exact B.not0 F (by omega : a < e) z
    · obtain ⟨n', rfl⟩ : ∃ n', n = n' + 1 := ⟨n - 1, by omega⟩
      obtain ⟨m, m1, m2⟩ := F.2.2.2.1 _ n' (by omega) z
      obtain ⟨i, i1, i2, i3⟩ := B.2.2.2.2.2.2.2.1 a m (by omega) m1 (Or.inl (by omega)) (F.lg (by omega) m2)
      have hlt : i < ance pr nx k := B.mono i1 (by omega) (a3 (by omega)) (by omega)
      refine ih (by omega) i hlt n' (by omega) ?_
      rw [i2]; exact m2
theorem BfI.K2 (B : BfI lg ou rb q qp pr mv dp e nx sd) (F : IsFar lg ou f) (hn : nx < e) (hd : dp nx < 300) (k : Nat) (hk : k ≤ dp nx) : ∀ a, a < e → dp a + k ≤ dp nx → ∀ n, n ≤ k → f (qp a) ≠ nI n := by
  induction k with
  | zero =>
    intro a ha _ n hnk z
    have : n = 0 := by omega
    subst this
    exact B.not0 F ha z
  | succ k ih =>
    intro a ha hda n hnk z
    rcases Nat.eq_zero_or_pos n with hz | hz
    · subst hz; exact B.not0 F ha z
    · obtain ⟨n', rfl⟩ : ∃ n', n = n' + 1 := ⟨n - 1, by omega⟩
      obtain ⟨m, m1, m2⟩ := F.2.2.2.1 _ n' (by omega) z
      have hanx : a < nx := Nat.lt_of_not_le (fun z2 => by
        have := B.2.2.2.2.2.2.1 nx a z2 ha
        omega)
      obtain ⟨i, i1, i2, i3⟩ := B.2.2.2.2.2.2.2.1 a m ha m1 (Or.inl hanx) (F.lg (by omega) m2)
      have hdi : dp i ≤ dp a + 1 := by
        rcases Nat.eq_zero_or_pos i with z3 | z3
        · rw [z3, B.2.1.2.1]; omega
        · have h7 := (B.2.2.2.2.1 i z3 i1).2.2.2.2.2.2
          have h8 := B.2.2.2.2.2.2.1 (pr i) a (by omega) ha
          omega
      refine ih (by omega) i i1 (by omega) n' (by omega) ?_
      rw [i2]; exact m2
/-- the move that the search made behind an ancestor -/
def nxm (pr mv : Nat → Nat) (nx sd : Nat) (k : Nat) : Nat := if k = 0 then sd else mv (ance pr nx (k - 1))
/-- the least move to a position of that distance -/
def gmv (f : Nat → Int32) (p r : Nat) : Nat := if f (Em p 0) = nI r then 0 else if f (Em p 1) = nI r then 1 else if f (Em p 2) = nI r then 2 else 3
theorem gmv_of {p r m : Nat} (hm : m < 4) (h : f (Em p m) = nI r) (h2 : ∀ m2, m2 < m → f (Em p m2) ≠ nI r) : gmv f p r = m := by
  unfold gmv
  obtain rfl | rfl | rfl | rfl : m = 0 ∨ m = 1 ∨ m = 2 ∨ m = 3 := by omega
  · rw [if_pos h]
  · rw [if_neg (h2 0 (by omega)), if_pos h]
  · rw [if_neg (h2 0 (by omega)), if_neg (h2 1 (by omega)), if_pos h]
  · rw [if_neg (h2 0 (by omega)), if_neg (h2 1 (by omega)), if_neg (h2 2 (by omega))]
theorem BfI.found (B : BfI lg ou rb q qp pr mv dp e nx sd) (F : IsFar lg ou f) (hn : nx < e) (hd : dp nx < 300) (hs : sd < 4) (hl : lg (Em (qp nx) sd)) (ho : ou (Em (qp nx) sd)) (k : Nat) (hk : k ≤ dp nx) : f (qp (ance pr nx k)) = nI (k + 1) ∧ gmv f (qp (ance pr nx k)) k = nxm pr mv nx sd k ∧ (k = 0 → Em (qp (ance pr nx k)) (nxm pr mv nx sd k) = Em (qp nx) sd) ∧ (0 < k → Em (qp (ance pr nx k)) (nxm pr mv nx sd k) = qp (ance pr nx (k - 1))) := by
  have hv : f (Em (qp nx) sd) = nI 0 := F.2.1 _ hl ho
  have up : ∀ k, k ≤ dp nx → ∃ n, n ≤ k + 1 ∧ f (qp (ance pr nx k)) = nI n := by
    intro k
    induction k with
    | zero =>
      intro _
      have hq := B.2.2.1 nx hn
      exact F.2.2.2.2 (qp nx) sd 0 (by omega) hq.1 hq.2 hs hv
    | succ k ih =>
      intro hk
      obtain ⟨n, n1, n2⟩ := ih (by omega)
      obtain ⟨a1, a2, a3⟩ := B.anc hn k (by omega)
      obtain ⟨_, p2, p3, p4, _, p6, _⟩ := B.2.2.2.2.1 _ (a3 (by omega)) (by omega : ance pr nx k < e)
      have hq := B.2.2.1 (pr (ance pr nx k)) (by omega)
      rw [p6] at n2
      obtain ⟨i, i1, i2⟩ := F.2.2.2.2 (qp (pr (ance pr nx k))) (mv (ance pr nx k)) n (by omega) hq.1 hq.2 p2 n2
      exact ⟨i, by omega, i2⟩
  have ex : ∀ k, k ≤ dp nx → f (qp (ance pr nx k)) = nI (k + 1) := by
    intro k hk
    obtain ⟨n, n1, n2⟩ := up k hk
    obtain ⟨a1, a2, a3⟩ := B.anc hn k hk
    rcases Nat.lt_or_ge n (k + 1) with z | z
    · exact absurd n2 (B.K2 F hn hd k hk _ (by omega) (by omega) n (by omega))
    · have : n = k + 1 := by omega
      rw [n2, this]
  refine ⟨ex k hk, ?_⟩
  rcases Nat.eq_zero_or_pos k with z | z
  · subst z
    refine ⟨?_, fun _ => rfl, fun h => absurd h (by omega)⟩
    show gmv f (qp nx) 0 = sd
    exact gmv_of hs hv (fun m2 hm2 => B.noout hn (by omega) (Or.inr ⟨rfl, hm2⟩) F)
  · obtain ⟨k', rfl⟩ : ∃ k', k = k' + 1 := ⟨k - 1, by omega⟩
    obtain ⟨a1, a2, a3⟩ := B.anc hn k' (by omega)
    have a3 := a3 (by omega)
    obtain ⟨_, p2, p3, p4, _, p6, _⟩ := B.2.2.2.2.1 _ a3 (by omega : ance pr nx k' < e)
    have en : nxm pr mv nx sd (k' + 1) = mv (ance pr nx k') := by unfold nxm; rw [if_neg (by omega)]; rfl
    refine ⟨?_, fun h => absurd h (by omega), fun _ => ?_⟩
    · rw [en]
      refine gmv_of p2 ?_ (fun m2 hm2 z2 => ?_)
      · have := ex k' (by omega)
        rw [p6] at this
        exact this
      · have z2 : f (Em (qp (pr (ance pr nx k'))) m2) = nI (k' + 1) := z2
        obtain ⟨i, i1, i2, i3⟩ := B.2.2.2.2.2.2.2.1 (pr (ance pr nx k')) m2 (by omega) (by omega) (Or.inl (by omega)) (F.lg (by omega) z2)
        have hlt : i < ance pr nx k' := B.mono i1 (by omega) a3 (by omega)
        refine B.K F hn hd k' (by omega) i hlt (k' + 1) (by omega) ?_
        rw [i2]; exact z2
    · rw [en]
      exact p6.symm
theorem BfI.lost (B : BfI lg ou rb q qp pr mv dp e nx 0) (F : IsFar lg ou f) (he : e ≤ nx) : f 112 = -1 := by
  have hq := B.2.2.1 0 B.2.1.2.2.1
  have h0 := B.2.1.1
  rw [h0] at hq
  have : ∀ n, n < 1000 → ∀ a, a < e → f (qp a) ≠ nI n := by
    intro n
    induction n with
    | zero => exact fun _ a ha => B.not0 F ha
    | succ n ih =>
      intro hn a ha z
      rcases Nat.lt_or_ge n 900 with z9 | z9
      · obtain ⟨m, m1, m2⟩ := F.2.2.2.1 _ n z9 z
        obtain ⟨i, i1, i2, i3⟩ := B.2.2.2.2.2.2.2.1 a m ha m1 (Or.inl (by omega)) (F.lg (by omega) m2)
        exact ih (by omega) i i1 (by rw [i2]; exact m2)
      · have hqa := B.2.2.1 a ha
        rcases F.2.2.1 _ hqa.1 hqa.2 with z2 | ⟨j, j1, j2⟩
        · rw [z2] at z; exact i_n1 (n + 1) (by omega) z.symm
        · rw [j2, n_eq (by omega) (by omega)] at z; omega
  rcases F.2.2.1 _ hq.1 hq.2 with z | ⟨j, j1, j2⟩
  · exact z
  · exact absurd (by rw [h0]; exact j2) (this (j + 1) (by omega) 0 B.2.1.2.2.1)
/-- nothing is to be done at this move -/
theorem BfI.skip (B : BfI lg ou rb q qp pr mv dp e nx sd) (hn : nx < e) (hp : lg (Em (qp nx) sd) → Em (qp nx) sd < 225 ∧ rb (Em (qp nx) sd) ≠ -1) : BfI lg ou rb q qp pr mv dp e nx (sd + 1) := by
  obtain ⟨B1, B2, B3, B4, B5, B6, B7, B8, B9⟩ := B
  refine ⟨B1, B2, B3, B4, fun j h1 h2 => ?_, B6, B7, fun a m ha hm hor hla => ?_, B9⟩
  · obtain ⟨p1, p2, p3, p4, p5, p6⟩ := B5 j h1 h2
    exact ⟨p1, p2, p3, p4, fun z => by have := p5 z; omega, p6⟩
  · by_cases c : a < nx ∨ (a = nx ∧ m < sd)
    · exact B8 a m ha hm c hla
    · have : a = nx ∧ m = sd := by omega
      obtain ⟨rfl, rfl⟩ := this
      obtain ⟨i, i1, i2⟩ := (B4 _ (hp hla).1).mp (hp hla).2
      refine ⟨i, i1, i2, ?_⟩
      rcases Nat.eq_zero_or_pos i with z | z
      · exact Or.inl z
      · obtain ⟨p1, p2, p3, p4, p5, p6⟩ := B5 i z i1
        rcases Nat.lt_or_ge (pr i) a with z2 | z2
        · exact Or.inr (Or.inl z2)
        · have : pr i = a := by omega
          exact Or.inr (Or.inr ⟨this, by have := p5 this; omega⟩)
/-- a position is put into the queue -/
theorem BfI.push (B : BfI lg ou rb q qp pr mv dp e nx sd) (hn : nx < e) (hs : sd < 4) (hp : Em (qp nx) sd < 225) (hl : lg (Em (qp nx) sd)) (ho : ¬ ou (Em (qp nx) sd)) (hr : rb (Em (qp nx) sd) = -1) : BfI lg ou (upd rb (Em (qp nx) sd) (nI sd)) (upd q e (nI (Em (qp nx) sd))) (un qp e (Em (qp nx) sd)) (un pr e nx) (un mv e sd) (un dp e (dp nx + 1)) (e + 1) nx (sd + 1) := by
  obtain ⟨B1, B2, B3, B4, B5, B6, B7, B8, B9⟩ := B
  have hx : ∀ j, j < e → qp j ≠ Em (qp nx) sd := fun j hj z => ((B4 _ hp).mpr ⟨j, hj, z⟩) hr
  refine ⟨fun j hj => ?_, ⟨?_, ?_, by omega, ?_⟩, fun j hj => ?_, fun p hp2 => ?_, fun j h1 h2 => ?_, fun i j h1 h2 h3 => ?_, fun i j h1 h2 => ?_, fun a m ha hm hor hla => ?_, ?_⟩
  · by_cases c : j = e
    · subst c; rw [upd_same, un_same]
    · rw [upd_ne _ _ c, un_ne _ _ c]; exact B1 j (by omega)
  · rw [un_ne _ _ (by omega)]; exact B2.1
  · rw [un_ne _ _ (by omega)]; exact B2.2.1
  · rw [upd_ne _ _ (fun z => hx 0 B2.2.2.1 (by rw [B2.1]; exact z))]; exact B2.2.2.2
  · by_cases c : j = e
    · subst c; rw [un_same]; exact ⟨hl, ho⟩
    · rw [un_ne _ _ c]; exact B3 j (by omega)
  · rw [upd_at]
    by_cases c : p = Em (qp nx) sd
    · rw [if_pos c]
      exact ⟨fun _ => ⟨e, by omega, by rw [un_same]; exact c.symm⟩, fun _ => i_n1 sd (by omega)⟩
    · rw [if_neg c, B4 p hp2]
      refine ⟨fun ⟨j, j1, j2⟩ => ⟨j, by omega, by rw [un_ne _ _ (by omega)]; exact j2⟩, fun ⟨j, j1, j2⟩ => ?_⟩
      by_cases c2 : j = e
      · subst c2; rw [un_same] at j2; exact absurd j2.symm c
      · rw [un_ne _ _ c2] at j2; exact ⟨j, by omega, j2⟩
  · by_cases c : j = e
    · subst c
      rw [un_same, un_same, un_same, un_same, un_ne _ _ (by omega : nx ≠ j), un_ne _ _ (by omega : nx ≠ j), upd_same]
      exact ⟨rfl, hs, hn, Nat.le_refl _, fun _ => by omega, rfl, rfl⟩
    · obtain ⟨p1, p2, p3, p4, p5, p6, p7⟩ := B5 j h1 (by omega)
      rw [un_ne _ _ c, un_ne _ _ c, un_ne _ _ c, un_ne _ _ c, un_ne _ _ (by omega : pr j ≠ e), un_ne _ _ (by omega : pr j ≠ e), upd_ne _ _ (hx j (by omega))]
      exact ⟨p1, p2, p3, p4, fun z => by have := p5 z; omega, p6, p7⟩
  · rw [un_ne _ _ (by omega : i ≠ e), un_ne _ _ (by omega : i ≠ e)]
    by_cases c : j = e
    · subst c
      rw [un_same, un_same]
      obtain ⟨p1, p2, p3, p4, p5, p6, p7⟩ := B5 i h1 (by omega)
      by_cases c2 : pr i = nx
      · exact Or.inr ⟨c2, p5 c2⟩
      · exact Or.inl (by omega)
    · rw [un_ne _ _ c, un_ne _ _ c]
      exact B6 i j h1 h2 (by omega)
  · by_cases c : j = e
    · subst c
      rw [un_same]
      by_cases c2 : i = j
      · subst c2; rw [un_same]; omega
      · rw [un_ne _ _ c2]
        rcases Nat.eq_zero_or_pos i with z | z
        · rw [z, B2.2.1]; omega
        · obtain ⟨p1, p2, p3, p4, p5, p6, p7⟩ := B5 i z (by omega)
          have := B7 (pr i) nx p4 hn
          omega
    · rw [un_ne _ _ c, un_ne _ _ (by omega : i ≠ e)]
      exact B7 i j h1 (by omega)
  · have ha2 : a < e := by omega
    rw [un_ne _ _ (by omega : a ≠ e)] at hla ⊢
    by_cases c : a < nx ∨ (a = nx ∧ m < sd)
    · obtain ⟨i, i1, i2, i3⟩ := B8 a m ha2 hm c hla
      exact ⟨i, by omega, by rw [un_ne _ _ (by omega)]; exact i2, by rw [un_ne _ _ (by omega : i ≠ e), un_ne _ _ (by omega : i ≠ e)]; exact i3⟩
    · have : a = nx ∧ m = sd := by omega
      obtain ⟨rfl, rfl⟩ := this
      exact ⟨e, by omega, un_same _ _ _, Or.inr (Or.inr ⟨un_same _ _ _, by rw [un_same]; exact Nat.le_refl _⟩)⟩
  · have := cnE_upd (v2 := nI sd) hp hr (i_n1 sd (by omega))
    omega
/-- the next place in the queue -/
theorem BfI.next (B : BfI lg ou rb q qp pr mv dp e nx 4) : BfI lg ou rb q qp pr mv dp e (nx + 1) 0 := by
  obtain ⟨B1, B2, B3, B4, B5, B6, B7, B8, B9⟩ := B
  refine ⟨B1, B2, B3, B4, fun j h1 h2 => ?_, B6, B7, fun a m ha hm hor hla => B8 a m ha hm (by omega) hla, B9⟩
  obtain ⟨p1, p2, p3, p4, p5, p6⟩ := B5 j h1 h2
  exact ⟨p1, p2, p3, by omega, fun z => by omega, p6⟩
end
