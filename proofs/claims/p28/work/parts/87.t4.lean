/-! PURE: taking out all that floats: what is taken is one set, whatever the order -/
section
variable {W H : Nat} {g0 g g1 h h1 : GG} {T : Int32 → Prop}
def AtT (W H : Nat) (g0 : GG) (T : Int32 → Prop) (g : GG) : Prop := ¬ T (-1) ∧ gc g = gc g0 ∧ ∀ c, (T (lbG W H g0 c) → lbG W H g c = -1 ∧ gt g c = 0) ∧ (¬ T (lbG W H g0 c) → lbG W H g c = lbG W H g0 c ∧ gt g c = gt g0 c)
noncomputable def thT (W H : Nat) (g0 : GG) (T : Int32 → Prop) (c : Nat) : Int32 := @ite Int32 (T (lbG W H g0 c)) (Classical.propDecidable _) 0 (gt g0 c)
def WyT (W H : Nat) (g0 : GG) (T : Int32 → Prop) (n : Nat) : Prop := Rch (lgX W H (thT W H g0 T) (lbG W H g0) n) (ouX W H n) 112
def ClT (W H : Nat) (g0 : GG) (T : Int32 → Prop) : Prop := ∀ n, n < W * H → looG W H g0 n → WyT W H g0 T n → T (nI n)
def InF (W H : Nat) (g0 : GG) (v : Int32) : Prop := ∀ T, ClT W H g0 T → T v
theorem AtT.tak (h0 : 0 < W) (h49 : W * H ≤ 49) (A : AtT W H g0 T g) {n : Nat} (hn : n < W * H) (hr : lbG W H g n = nI n) : AtT W H g0 (fun v => T v ∨ v = nI n) (takG W H g n) := by
  have lt : ∀ c, lbG W H (takG W H g n) c = if lbG W H g c = nI n then -1 else lbG W H g c := fun c => labS_tak (th := gt g) (ct := gc g) h0 h49 hn hr
  have tt : ∀ c, gt (takG W H g n) c = if c < W * H ∧ lbG W H g c = nI n then 0 else gt g c := fun _ => rfl
  have n1 : ¬ (-1 : Int32) = nI n := fun e => i_n1 n (by omega) e.symm
  refine ⟨fun q => q.elim A.1 n1, A.2.1, fun c => ⟨fun q => ?_, fun q => ?_⟩⟩
  · rw [lt, tt]
    by_cases z : T (lbG W H g0 c)
    · obtain ⟨a, b⟩ := (A.2.2 c).1 z
      rw [a, b, if_neg n1, if_neg (fun k => n1 k.2)]
      exact ⟨rfl, rfl⟩
    · obtain ⟨a, b⟩ := (A.2.2 c).2 z
      have e := q.resolve_left z
      have hc : c < W * H := Classical.byContradiction (fun k => by
        have := (lb_neg (g := g0) (c := c) h49).mpr (fun y => k y.1)
        rw [this] at e
        exact n1 e)
      rw [a, e, if_pos rfl, if_pos ⟨hc, rfl⟩]
      exact ⟨rfl, rfl⟩
  · obtain ⟨a, b⟩ := (A.2.2 c).2 (fun z => q (Or.inl z))
    have e : ¬ lbG W H g0 c = nI n := fun z => q (Or.inr z)
    rw [lt, tt, a, if_neg e, if_neg (fun k => e k.2), b]
    exact ⟨rfl, rfl⟩
theorem AtT.lb (A : AtT W H g0 T g) {n : Nat} (hn : n < 49) (z : ¬ T (nI n)) (c : Nat) : lbG W H g c = nI n ↔ lbG W H g0 c = nI n := by
  by_cases y : T (lbG W H g0 c)
  · rw [((A.2.2 c).1 y).1]
    exact ⟨fun e => absurd e.symm (i_n1 n (by omega)), fun e => absurd (by rw [← e]; exact y) z⟩
  · rw [((A.2.2 c).2 y).1]
theorem AtT.th (A : AtT W H g0 T g) (c : Nat) : gt g c = thT W H g0 T c := by
  unfold thT
  by_cases y : T (lbG W H g0 c)
  · rw [if_pos y]; exact ((A.2.2 c).1 y).2
  · rw [if_neg y]; exact ((A.2.2 c).2 y).2
theorem lgX_cong {th k lb lc : Nat → Int32} {n p : Nat} (ht : ∀ c, ¬ k c ≤ 0 → ¬ th c ≤ 0) (hl : ∀ c, lb c = nI n ↔ lc c = nI n) (q : lgX W H th lb n p) : lgX W H k lc n p :=
  ⟨q.1, q.2.1, fun c hc e => by
    obtain ⟨a, b, d, f⟩ := q.2.2 c hc ((hl c).mpr e)
    exact ⟨a, b, d, fun y z => (hl _).mp (f y (ht _ z))⟩⟩
theorem AtT.fl (h49 : W * H ≤ 49) (A : AtT W H g0 T g) {n : Nat} (hn : n < W * H) : flG W H g n ↔ ¬ T (nI n) ∧ looG W H g0 n ∧ WyT W H g0 T n := by
  have key : ¬ T (nI n) → ((looG W H g n ↔ looG W H g0 n) ∧ (wayI (farG W H g n) ≠ -1 ↔ WyT W H g0 T n)) := fun z => by
    have E := A.lb (show n < 49 by omega) z
    refine ⟨?_, ?_⟩
    · unfold looG loP heldP
      rw [E n, A.2.1]
      simp only [E]
    · rw [show wayI (farG W H g n) ≠ -1 ↔ _ from (way_iff (W := W) (H := H) (th := gt g) (lb := lbG W H g) (n := n)).1]
      refine ⟨fun R => R.mono (fun q => lgX_cong (fun c y => by rw [A.th c]; exact y) E), fun R => R.mono (fun q => lgX_cong (fun c y => by rw [← A.th c]; exact y) (fun c => (E c).symm))⟩
  constructor
  · intro q
    have z : ¬ T (nI n) := fun y => by
      have e := q.1.1
      by_cases y2 : T (lbG W H g0 n)
      · rw [((A.2.2 n).1 y2).1] at e
        exact i_n1 n (by omega) e.symm
      · rw [((A.2.2 n).2 y2).1] at e
        rw [e] at y2
        exact y2 y
    exact ⟨z, (key z).1.mp q.1, (key z).2.mp q.2⟩
  · intro q
    exact ⟨(key q.1).1.mpr q.2.1, (key q.1).2.mpr q.2.2⟩
theorem WyT.mono {R : Int32 → Prop} {n : Nat} (e : ∀ v, T v → R v) (q : WyT W H g0 T n) : WyT W H g0 R n :=
  Rch.mono q (fun _ => lgX_cong (fun c y => by
    unfold thT at y ⊢
    by_cases r : R (lbG W H g0 c)
    · rw [if_pos r] at y; exact absurd (by decide) y
    · rw [if_neg r] at y
      rw [if_neg (fun t => r (e _ t))]
      exact y) (fun _ => Iff.rfl))
theorem InF.cl : ClT W H g0 (InF W H g0) := fun n hn hl w T hT => hT n hn hl (w.mono (fun v q => q T hT))
theorem InF.loo {v : Int32} (q : InF W H g0 v) : ∃ n, n < W * H ∧ v = nI n ∧ looG W H g0 n := by
  refine (q (fun v => InF W H g0 v ∧ ∃ n, n < W * H ∧ v = nI n ∧ looG W H g0 n) (fun n hn hl w => ⟨InF.cl n hn hl (w.mono (fun v y => y.1)), n, hn, rfl, hl⟩)).2
theorem cnP_ins {P : Nat → Prop} {N n : Nat} (hn : n < N) (z : ¬ P n) : cnP (fun i => P i ∨ i = n) N = cnP P N + 1 := by
  induction N with
  | zero => omega
  | succ N ih =>
    simp only [cnP]
    by_cases e : n = N
    · subst e
      rw [if_pos (Or.inr rfl), if_neg z, cnP_ext (R := P) (fun i hi => ⟨fun q => q.resolve_right (by omega), Or.inl⟩)]
    · rw [ih (by omega)]
      by_cases y : P N
      · rw [if_pos (Or.inl y), if_pos y]
      · rw [if_neg (fun q => q.elim y (fun k => e k.symm)), if_neg y]
theorem tk_inF (h0 : 0 < W) (h49 : W * H ≤ 49) : ∀ k g g1 T, TkR W H k g g1 → AtT W H g0 T g → (∀ v, T v → InF W H g0 v) → AtT W H g0 (InF W H g0) g1 ∧ cnP (fun n => InF W H g0 (nI n)) (W * H) = cnP (fun n => T (nI n)) (W * H) + k := by
  intro k
  induction k with
  | zero =>
    intro g g1 T t A s
    have cl : ClT W H g0 T := fun n hn hl w => Classical.byContradiction (fun z => t.2 n hn ((A.fl h49 hn).mpr ⟨z, hl, w⟩))
    have e : T = InF W H g0 := funext (fun v => propext ⟨s v, fun q => q T cl⟩)
    rw [t.1, ← e]
    exact ⟨A, rfl⟩
  | succ k ih =>
    intro g g1 T t A s
    obtain ⟨n, n1, n2⟩ := t
    obtain ⟨z, hl, w⟩ := (A.fl h49 n1.1).mp n1.2.1
    obtain ⟨a, b⟩ := ih _ _ _ n2 (A.tak h0 h49 n1.1 n1.2.1.1.1) (fun v q => q.elim (s v) (fun e => by rw [e]; exact InF.cl n n1.1 hl (w.mono s)))
    refine ⟨a, b.trans ?_⟩
    have e := cnP_ext (P := fun i => T (nI i) ∨ nI i = nI n) (R := fun i => T (nI i) ∨ i = n) (n := W * H) (fun i hi => by
      have := n1.1
      rw [n_eq (by omega) (by omega)])
    rw [e, cnP_ins (P := fun i => T (nI i)) n1.1 z]
    omega
theorem tk_fin (h0 : 0 < W) (h49 : W * H ≤ 49) {k : Nat} (t : TkR W H k g g1) : AtT W H g (InF W H g) g1 ∧ cnP (fun n => InF W H g (nI n)) (W * H) = k := by
  obtain ⟨a, b⟩ := tk_inF (g0 := g) h0 h49 k g g1 (fun _ => False) t ⟨id, rfl, fun c => ⟨fun q => q.elim, fun _ => ⟨rfl, rfl⟩⟩⟩ (fun _ q => q.elim)
  refine ⟨a, b.trans ?_⟩
  have := cnP_zero (P := fun _ => False) (n := 0) (m := W * H) (by omega) (fun _ _ _ => id)
  show cnP (fun _ => False) (W * H) + k = k
  rw [this]
  exact Nat.zero_add k
theorem RR.fun {n r s : Nat} (hr : r < 49) (hs : s < 49) (R : RR W H g h n r) (S : RR W H g h n s) : r = s := by
  have a := (R.2.2.2.2 n R.1).mp R.2.1
  rw [(S.2.2.2.2 n S.1).mp S.2.1, n_eq (by omega) (by omega)] at a
  exact a.symm
theorem inF_tau (hW : W ≤ 7) (hH : H ≤ 7) (h0 : 0 < W) (hH0 : 0 < H) (m : Mir W H g h) {n r : Nat} (R : RR W H g h n r) (q : InF W H g (nI n)) : InF W H h (nI r) := by
  have h49 := wh_lt hW hH
  intro S hS
  have key : ClT W H g (fun v => ∃ n r, v = nI n ∧ RR W H g h n r ∧ S (nI r)) := by
    intro n1 hn1 hl1 w1
    obtain ⟨R1, _⟩ := RR_ex hW hH h0 m hn1 (by omega) hl1.1
    generalize rt W H h (tau W n1) = r1 at R1
    refine ⟨n1, r1, rfl, R1, hS r1 R1.2.2.1 ((R1.loo hW hH hH0 m).mp hl1) ?_⟩
    unfold WyT at w1 ⊢
    rw [← way_iff.1] at w1 ⊢
    have e := far_tau (th := thT W H g (fun v => ∃ n r, v = nI n ∧ RR W H g h n r ∧ S (nI r))) (k := thT W H h S) (lb := lbG W H g) (lc := lbG W H h) (n := n1) (r := r1) hW hH h0 (fun t ht => ?_) R1.2.2.2.2 (R1.row hW hH h0) hn1 hl1.1
    · unfold wayI at w1 ⊢
      rw [e]
      exact w1
    · unfold thT
      by_cases z : gt g t ≤ 0
      · have z2 : gt h (tau W t) ≤ 0 := (m.ice t ht).mpr z
        refine ⟨fun _ => ?_, fun _ => ?_⟩
        · by_cases y : ∃ n r, lbG W H g t = nI n ∧ RR W H g h n r ∧ S (nI r)
          · rw [if_pos y]; decide
          · rw [if_neg y]; exact z
        · by_cases y : S (lbG W H h (tau W t))
          · rw [if_pos y]; decide
          · rw [if_neg y]; exact z2
      · rcases lb_cases (g := g) h0 h49 t with y | ⟨k, k1, k2, k3⟩
        · exact absurd ⟨ht, z⟩ ((lb_neg h49).mp y)
        · obtain ⟨R2, e2⟩ := RR_ex hW hH h0 m ht (by omega) k2
          generalize rt W H h (tau W t) = r2 at R2 e2
          rw [e2, k2, m.2.1 t ht]
          have y : S (nI r2) ↔ ∃ n r, nI k = nI n ∧ RR W H g h n r ∧ S (nI r) := by
            refine ⟨fun y => ⟨k, r2, rfl, R2, y⟩, fun ⟨n3, r3, a3, b3, c3⟩ => ?_⟩
            have l1 := b3.1
            rw [n_eq (by omega) (by omega)] at a3
            subst a3
            have l2 := b3.2.2.1
            have l3 := R2.2.2.1
            rw [RR.fun (by omega) (by omega) R2 b3]
            exact c3
          by_cases y2 : S (nI r2)
          · rw [if_pos y2, if_pos (y.mp y2)]
          · rw [if_neg y2, if_neg (fun k => y2 (y.mpr k))]
  obtain ⟨n3, r3, a3, b3, c3⟩ := q _ key
  have l1 := b3.1
  have l2 := R.1
  rw [n_eq (by omega) (by omega)] at a3
  subst a3
  have l3 := b3.2.2.1
  have l4 := R.2.2.1
  rw [RR.fun (by omega) (by omega) R b3]
  exact c3
theorem RR.inF (hW : W ≤ 7) (hH : H ≤ 7) (h0 : 0 < W) (hH0 : 0 < H) (m : Mir W H g h) {n r : Nat} (R : RR W H g h n r) : InF W H g (nI n) ↔ InF W H h (nI r) := ⟨inF_tau hW hH h0 hH0 m R, inF_tau hW hH h0 hH0 (m.symm hW hH) (R.symm hW hH)⟩
/-- as many blocks, of a kind that both sides know -/
theorem cnP_rr (hW : W ≤ 7) (hH : H ≤ 7) (h0 : 0 < W) (m : Mir W H g h) {P S : Nat → Prop} {N : Nat} (hN : W * H ≤ N) (h1 : ∀ n, n < N → P n → n < W * H ∧ lbG W H g n = nI n) (h2 : ∀ n, n < N → S n → n < W * H ∧ lbG W H h n = nI n) (e : ∀ n r, RR W H g h n r → (P n ↔ S r)) : nI (cnP P N) = nI (cnP S N) := by
  have h49 := wh_lt hW hH
  have one : ∀ {g h : GG} (_ : Mir W H g h) {P S : Nat → Prop} (_ : ∀ n, n < N → P n → n < W * H ∧ lbG W H g n = nI n) (_ : ∀ n r, RR W H g h n r → (P n ↔ S r)), ∀ q, q < N → P q → rt W H h (tau W q) < N ∧ S (rt W H h (tau W q)) ∧ rt W H g (tau W (rt W H h (tau W q))) = q := by
    intro g h m P S h1 e q hq p
    obtain ⟨a, b⟩ := h1 q hq p
    obtain ⟨R, _⟩ := RR_ex hW hH h0 m a (by omega) b
    generalize rt W H h (tau W q) = r at R
    have l := R.2.2.1
    exact ⟨by omega, (e q r R).mp p, (R.symm hW hH).fn (by omega)⟩
  exact cnP_bij (u := fun n => rt W H h (tau W n)) (v := fun n => rt W H g (tau W n)) (one m h1 e) (one (m.symm hW hH) h2 (fun n r R => (e r n (R.symm hW hH)).symm))
end
