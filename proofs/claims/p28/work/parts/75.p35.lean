/-! PURE: what every field keeps -/
def OkG (g : GG) (W H T : Nat) : Prop := WH g W H ∧ CtOk W H (gc g) ∧ (∀ c, W * H ≤ c → c < 49 → gt g c = 0) ∧ ∃ tb, gs g 7 = nI tb ∧ tb ≤ T
theorem OkG.mono {g : GG} {W H T T1 : Nat} (h : OkG g W H T) (hT : T ≤ T1) : OkG g W H T1 := by
  obtain ⟨a, b, c, tb, d, e⟩ := h
  exact ⟨a, b, c, tb, d, by omega⟩
theorem ok_beg {g : GG} {u v T : Nat} (u2 : 2 ≤ u) (u7 : u ≤ 7) (v2 : 2 ≤ v) (v7 : v ≤ 7) : OkG (begS g u v) u v T :=
  ⟨⟨rfl, rfl, u2, u7, v2, v7⟩, fun p _ => ⟨Or.inl rfl, fun q => absurd (show (0 : Int32) = 1 from q) (by decide)⟩, fun _ _ _ => rfl, 0, rfl, by omega⟩
theorem OkG.add {g : GG} {W H T c : Nat} {x : Int32} (h : OkG g W H T) (hc : c < W * H) : OkG (addS g c x) W H T := by
  obtain ⟨h1, h2, h3, tb, h4, h5⟩ := h
  refine ⟨h1.add c x, h2, fun j j1 j2 => ?_, tb, ?_, h5⟩
  · show upd (gt g) c (gt g c + x) j = 0
    rw [upd_at, if_neg (by omega)]; exact h3 j j1 j2
  · show upd (gs g) 4 (gs g 4 + x) 7 = nI tb
    rw [upd_at, if_neg (by omega)]; exact h4
theorem OkG.adds {g : GG} {W H T : Nat} (h : OkG g W H T) (f : Nat → Int32) : ∀ n, n ≤ W * H → OkG (addsS g f n) W H T := by
  intro n
  induction n with
  | zero => intro _; exact h
  | succ n ih => intro hn; exact (ih (by omega)).add (by omega)
theorem OkG.ct {g g1 : GG} {W H T : Nat} (h : OkG g W H T) (hs : gs g1 = gs g) (ht : gt g1 = gt g) (hc : CtOk W H (gc g1)) : OkG g1 W H T := by
  obtain ⟨h1, h2, h3, tb, h4, h5⟩ := h
  refine ⟨?_, hc, fun j j1 j2 => by rw [ht]; exact h3 j j1 j2, tb, by rw [hs]; exact h4, h5⟩
  obtain ⟨w1, w2, w3⟩ := h1
  exact ⟨by rw [hs]; exact w1, by rw [hs]; exact w2, w3⟩
theorem cs_same (W H : Nat) (g : GG) (c s : Nat) : gs (csS W H g c s).2 = gs g ∧ gt (csS W H g c s).2 = gt g := by
  unfold csS
  by_cases e : (s = 2 ∨ (bs W H c s).isSome = true) ∧ gc g (pl W c s) ≠ 1
  · rw [if_pos e]; exact ⟨rfl, rfl⟩
  · rw [if_neg e]; exact ⟨rfl, rfl⟩
theorem it_same {f : Nat → Int32 × GG → Int32 × GG} (hf : ∀ i p, gs (f i p).2 = gs p.2 ∧ gt (f i p).2 = gt p.2) (n : Nat) (p : Int32 × GG) : gs (it f n p).2 = gs p.2 ∧ gt (it f n p).2 = gt p.2 := by
  induction n with
  | zero => exact ⟨rfl, rfl⟩
  | succ n ih => exact ⟨(hf n _).1.trans ih.1, (hf n _).2.trans ih.2⟩
theorem two_same (W H : Nat) (p : Int32 × GG) (a b c d : Nat) : gs (two W H p a b c d).2 = gs p.2 ∧ gt (two W H p a b c d).2 = gt p.2 :=
  ⟨(cs_same W H _ c d).1.trans (cs_same W H _ a b).1, (cs_same W H _ c d).2.trans (cs_same W H _ a b).2⟩
theorem rec_same (W H : Nat) (g : GG) (c v h : Nat) : gs (recS W H g c v h).2 = gs g ∧ gt (recS W H g c v h).2 = gt g := by
  have a := it_same (f := rec1 W H c h) (fun i p => two_same W H p _ _ _ _) v (0, g)
  have b := it_same (f := rec2 W H c v) (fun i p => two_same W H p _ _ _ _) h (it (rec1 W H c h) v (0, g))
  exact ⟨b.1.trans a.1, b.2.trans a.2⟩
theorem OkG.tak {g : GG} {W H T : Nat} (h : OkG g W H T) (n : Nat) : OkG (takG W H g n) W H (T + 1) := by
  obtain ⟨h1, h2, h3, tb, h4, h5⟩ := h
  refine ⟨h1.tak _ _, h2, fun j j1 j2 => ?_, tb + 1, ?_, by omega⟩
  · show (if j < W * H ∧ lbG W H g j = nI n then 0 else gt g j) = 0
    rw [if_neg (by omega)]; exact h3 j j1 j2
  · show upd (upd (gs g) 7 (gs g 7 + 1)) 6 (gs g 6 + volS W H (gt g) (lbG W H g) (nI n)) 7 = nI (tb + 1)
    rw [upd_at, if_neg (by omega), upd_at, if_pos rfl, h4, nI_1]
theorem OkG.tk {W H : Nat} : ∀ k g g1 T, TkR W H k g g1 → OkG g W H T → OkG g1 W H (T + k) := by
  intro k
  induction k with
  | zero => intro g g1 T h w; rw [h.1]; exact w
  | succ k ih =>
    intro g g1 T ⟨n, n1, n2⟩ w
    have := ih _ _ _ n2 (w.tak n)
    rwa [show T + 1 + k = T + (k + 1) by omega] at this
theorem OkG.mlt {g : GG} {W H T : Nat} {u : Int32} (h : OkG g W H T) : OkG (mk (upd (gs g) 2 u) (gt g) (gc g) (gk g)) W H T := by
  obtain ⟨h1, h2, h3, tb, h4, h5⟩ := h
  exact ⟨h1.mk rfl rfl, h2, h3, tb, h4, h5⟩
theorem OkG.day {g : GG} {W H T : Nat} (h : OkG g W H T) : OkG (dayS W H g) W H T := by
  obtain ⟨h1, h2, h3, tb, h4, h5⟩ := h
  refine ⟨h1.day, h2, fun j j1 j2 => ?_, tb, h4, h5⟩
  show (if j < W * H then gt g j - los W H (gs g 2) (gt g) j else gt g j) = 0
  rw [if_neg (by omega)]; exact h3 j j1 j2
theorem OkG.days {g : GG} {W H T : Nat} (h : OkG g W H T) : ∀ n, OkG (dayN W H g n) W H T := by
  intro n
  induction n with
  | zero => exact h
  | succ n ih => exact ih.day
theorem push_ok {P : GG → Prop} {sk : Nat → GG} {n : Nat} {g : GG} (hn : n ≤ 4) (h : ∀ i, i < n → P (sk i)) (hg : P g) : ∀ i, i < pc n → P (pushS sk n g i) := by
  intro i hi
  unfold pc at hi
  unfold pushS
  by_cases e : n = 4
  · rw [if_pos e] at hi
    rw [if_pos e]
    by_cases e2 : i = 3
    · show P (if i = 3 then g else sk (i + 1))
      rw [if_pos e2]; exact hg
    · show P (if i = 3 then g else sk (i + 1))
      rw [if_neg e2]; exact h _ (by omega)
  · rw [if_neg e] at hi
    rw [if_neg e]
    by_cases e2 : i = n
    · show P (if i = n then g else sk i)
      rw [if_pos e2]; exact hg
    · show P (if i = n then g else sk i)
      rw [if_neg e2]; exact h _ (by omega)
section
variable {Z : ZZ} {M M1 : MM} {a m o T : Nat} {g g1 : GG} {W H W1 H1 : Nat} {sk : Nat → GG} {n ns len : Nat} {tx : Nat → Int32}
theorem ClsI.j (c : ClsI M a g sk n ns tx len) (x : Nat) (f : Nat → Int64) : ClsI (setJ M x f) a g sk n ns tx len := c
end
