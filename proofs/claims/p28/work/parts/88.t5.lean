/-! PURE: what every field keeps: thicknesses, the melt, volumes that add up; taking, laying, making with left and right exchanged -/
def Cons (g : GG) : Prop := gs g 4 = sm (gt g) 49 + gs g 6 + gs g 5
def OkW (g : GG) : Prop := (∀ c, c < 49 → ∃ t, t ≤ 50 ∧ gt g c = nI t) ∧ (∃ x, x ≤ 9 ∧ gs g 2 = nI x) ∧ Cons g
section
variable {W H : Nat} {g h g1 h1 : GG}
theorem Cons.add (k : Cons g) {c : Nat} (hc : c < 49) (u : Int32) : Cons (addS g c u) := by
  have e := sm_upd (f := gt g) (gt g c + u) hc
  have e2 : sm (upd (gt g) c (gt g c + u)) 49 = sm (gt g) 49 + u := i_cancel (c := gt g c) (by rw [e, Int32.add_assoc, Int32.add_comm u])
  show gs g 4 + u = sm (upd (gt g) c (gt g c + u)) 49 + gs g 6 + gs g 5
  rw [e2, k]
  generalize sm (gt g) 49 = a
  generalize gs g 6 = b
  generalize gs g 5 = d
  rw [Int32.add_assoc, Int32.add_assoc, Int32.add_assoc, Int32.add_assoc]
  congr 1
  rw [Int32.add_comm d u, ← Int32.add_assoc, ← Int32.add_assoc, Int32.add_comm b u]
theorem adds_f (m : Nat → Int32) : ∀ n, (∀ f, gs (addsS g m n) f = if f = 4 then gs g 4 + sm m n else gs g f) ∧ (∀ c, gt (addsS g m n) c = if c < n then gt g c + m c else gt g c) ∧ gc (addsS g m n) = gc g := by
  intro n
  induction n with
  | zero =>
    refine ⟨fun f => ?_, fun c => (if_neg (by omega)).symm, rfl⟩
    show gs g f = _
    by_cases e : f = 4
    · rw [if_pos e, e]; exact (Int32.add_zero _).symm
    · rw [if_neg e]
  | succ n ih =>
    obtain ⟨a, b, c⟩ := ih
    refine ⟨fun f => ?_, fun d => ?_, c⟩
    · show upd (gs (addsS g m n)) 4 (gs (addsS g m n) 4 + m n) f = _
      rw [upd_at]
      by_cases e : f = 4
      · rw [if_pos e, if_pos e, a 4, if_pos rfl, Int32.add_assoc]; rfl
      · rw [if_neg e, if_neg e, a f, if_neg e]
    · show upd (gt (addsS g m n)) n (gt (addsS g m n) n + m n) d = _
      rw [upd_at]
      by_cases e : d = n
      · rw [if_pos e, b n, if_neg (by omega), if_pos (by omega), e]
      · rw [if_neg e, b d]
        by_cases z : d < n
        · rw [if_pos z, if_pos (by omega)]
        · rw [if_neg z, if_neg (by omega)]
theorem Cons.adds (k : Cons g) (m : Nat → Int32) : ∀ n, n ≤ 49 → Cons (addsS g m n) := by
  intro n
  induction n with
  | zero => exact fun _ => k
  | succ n ih => exact fun hn => (ih (by omega)).add (by omega) (m n)
theorem OkW.make (k : OkW g) {u v x : Nat} (hu : u * v ≤ 49) (hx : x ≤ 50) : OkW (addsS (begS g u v) (fun _ => nI x) (u * v)) := by
  obtain ⟨a, b, c⟩ := adds_f (g := begS g u v) (fun _ => nI x) (u * v)
  refine ⟨fun d hd => ?_, ?_, ?_⟩
  · rw [b d]
    by_cases z : d < u * v
    · exact ⟨x, hx, by rw [if_pos z]; exact Int32.zero_add _⟩
    · exact ⟨0, by omega, by rw [if_neg z]; rfl⟩
  · obtain ⟨y, y1, y2⟩ := k.2.1
    exact ⟨y, y1, by rw [a 2, if_neg (by omega)]; exact y2⟩
  · refine Cons.adds ?_ _ _ hu
    show (0 : Int32) = sm (fun _ => 0) 49 + 0 + 0
    rw [sm_0]; rfl
theorem OkW.lay (k : OkW g) {c u : Nat} (hc : c < 49) (hs : gt g c + nI u ≤ 50) (hu : u ≤ 50) : OkW (addS g c (nI u)) := by
  refine ⟨fun d hd => ?_, k.2.1, k.2.2.add hc _⟩
  show ∃ t, t ≤ 50 ∧ upd (gt g) c (gt g c + nI u) d = nI t
  rw [upd_at]
  by_cases e : d = c
  · obtain ⟨t, t1, t2⟩ := k.1 c hc
    rw [if_pos e, t2, nI_add]
    refine ⟨t + u, ?_, rfl⟩
    rw [t2, nI_add] at hs
    have := (n_le (a := t + u) (b := 50) (by omega) (by omega)).mp hs
    exact this
  · rw [if_neg e]; exact k.1 d hd
theorem OkW.same (k : OkW g) (e1 : gs g1 = gs g) (e2 : gt g1 = gt g) : OkW g1 := by
  unfold OkW Cons at k ⊢
  rw [e1, e2]; exact k
theorem OkW.mlt (k : OkW g) {x : Nat} (hx : x ≤ 9) : OkW (mk (upd (gs g) 2 (nI x)) (gt g) (gc g) (gk g)) :=
  ⟨k.1, ⟨x, hx, by rw [gs_mk, upd_same]⟩, by
    show upd (gs g) 2 (nI x) 4 = sm (gt g) 49 + upd (gs g) 2 (nI x) 6 + upd (gs g) 2 (nI x) 5
    rw [upd_ne _ _ (by omega), upd_ne _ _ (by omega), upd_ne _ _ (by omega)]
    exact k.2.2⟩
theorem los_n {W H c t x : Nat} {th : Nat → Int32} (hx : x ≤ 9) (ht : t ≤ 50) (e : th c = nI t) : ∃ y, y ≤ t ∧ los W H (nI x) th c = nI y := by
  unfold los
  rw [e]
  have q : ∀ z, z ≤ 10 → ∃ y, y ≤ t ∧ (if nI t ≤ nI z then nI t else nI z) = nI y := fun z hz => by
    by_cases p : t ≤ z
    · exact ⟨t, by omega, if_pos ((n_le (by omega) (by omega)).mpr p)⟩
    · exact ⟨z, by omega, if_neg (fun k => p ((n_le (by omega) (by omega)).mp k))⟩
  by_cases z : wbn W H th c 4 < 2
  · rw [if_pos z]; exact q x (by omega)
  · rw [if_neg z, nI_1]; exact q (x + 1) (by omega)
theorem OkW.day (k : OkW g) (h49 : W * H ≤ 49) (hz : ∀ c, W * H ≤ c → c < 49 → gt g c = 0) : OkW (dayS W H g) := by
  obtain ⟨x, x1, x2⟩ := k.2.1
  refine ⟨fun c hc => ?_, ⟨x, x1, x2⟩, ?_⟩
  · show ∃ t, t ≤ 50 ∧ (if c < W * H then gt g c - los W H (gs g 2) (gt g) c else gt g c) = nI t
    obtain ⟨t, t1, t2⟩ := k.1 c hc
    by_cases z : c < W * H
    · rw [if_pos z, x2, t2]
      obtain ⟨y, y1, y2⟩ := los_n (W := W) (H := H) (th := gt g) x1 t1 t2
      rw [y2, n_sub y1]
      exact ⟨t - y, by omega, rfl⟩
    · rw [if_neg z]; exact ⟨t, t1, t2⟩
  · have e1 : sm (gt g) 49 = sm (gt (dayS W H g)) 49 + sm (los W H (gs g 2) (gt g)) (W * H) := by
      rw [← sm_zero (f := fun c => if c < W * H then los W H (gs g 2) (gt g) c else 0) h49 (fun i a b => if_neg (by omega)) |>.trans (sm_ext (fun i hi => if_pos hi)), ← sm_add]
      refine sm_ext (fun i hi => ?_)
      show gt g i = (if i < W * H then gt g i - los W H (gs g 2) (gt g) i else gt g i) + (if i < W * H then los W H (gs g 2) (gt g) i else 0)
      by_cases z : i < W * H
      · rw [if_pos z, if_pos z, Int32.sub_add_cancel]
      · rw [if_neg z, if_neg z, Int32.add_zero]
    show gs g 4 = sm (gt (dayS W H g)) 49 + gs g 6 + (gs g 5 + sm (los W H (gs g 2) (gt g)) (W * H))
    rw [k.2.2, e1]
    generalize sm (gt (dayS W H g)) 49 = a
    generalize sm (los W H (gs g 2) (gt g)) (W * H) = b
    generalize gs g 6 = d
    generalize gs g 5 = e
    rw [Int32.add_assoc, Int32.add_assoc, Int32.add_assoc, ]
    congr 1
    rw [Int32.add_comm, Int32.add_assoc]
theorem OkW.tak (k : OkW g) (h49 : W * H ≤ 49) (hz : ∀ c, W * H ≤ c → c < 49 → gt g c = 0) (n : Nat) : OkW (takG W H g n) := by
  refine ⟨fun c hc => ?_, ?_, ?_⟩
  · show ∃ t, t ≤ 50 ∧ (if c < W * H ∧ lbG W H g c = nI n then 0 else gt g c) = nI t
    by_cases z : c < W * H ∧ lbG W H g c = nI n
    · rw [if_pos z]; exact ⟨0, by omega, rfl⟩
    · rw [if_neg z]; exact k.1 c hc
  · exact k.2.1
  · have e1 : sm (gt g) 49 = sm (gt (takG W H g n)) 49 + volS W H (gt g) (lbG W H g) (nI n) := by
      unfold volS
      rw [← sm_zero (f := fun c => if c < W * H then (if lbG W H g c = nI n then gt g c else 0) else 0) h49 (fun i a b => if_neg (by omega)) |>.trans (sm_ext (fun i hi => if_pos hi)), ← sm_add]
      refine sm_ext (fun i hi => ?_)
      show gt g i = (if i < W * H ∧ lbG W H g i = nI n then 0 else gt g i) + (if i < W * H then (if lbG W H g i = nI n then gt g i else 0) else 0)
      by_cases z : i < W * H
      · by_cases y : lbG W H g i = nI n
        · rw [if_pos ⟨z, y⟩, if_pos z, if_pos y, Int32.zero_add]
        · rw [if_neg (fun q => y q.2), if_pos z, if_neg y, Int32.add_zero]
      · rw [if_neg (fun q => z q.1), if_neg z, Int32.add_zero]
    show gs g 4 = sm (gt (takG W H g n)) 49 + (gs g 6 + volS W H (gt g) (lbG W H g) (nI n)) + gs g 5
    rw [k.2.2, e1]
    generalize sm (gt (takG W H g n)) 49 = a
    generalize volS W H (gt g) (lbG W H g) (nI n) = b
    generalize gs g 6 = d
    rw [Int32.add_assoc a b d, Int32.add_comm b d]
theorem Tk_gs : ∀ k g g1, TkR W H k g g1 → (∀ f, f ≠ 6 → f ≠ 7 → gs g1 f = gs g f) ∧ gs g1 7 = gs g 7 + nI k := by
  intro k
  induction k with
  | zero => intro g g1 t; rw [t.1]; exact ⟨fun _ _ _ => rfl, (Int32.add_zero _).symm⟩
  | succ k ih =>
    intro g g1 ⟨n, n1, n2⟩
    obtain ⟨a, b⟩ := ih _ _ n2
    refine ⟨fun f h6 h7 => (a f h6 h7).trans ?_, b.trans ?_⟩
    · show upd (upd (gs g) 7 (gs g 7 + 1)) 6 (gs g 6 + volS W H (gt g) (lbG W H g) (nI n)) f = gs g f
      rw [upd_ne _ _ h6, upd_ne _ _ h7]
    · show upd (upd (gs g) 7 (gs g 7 + 1)) 6 (gs g 6 + volS W H (gt g) (lbG W H g) (nI n)) 7 + nI k = gs g 7 + nI (k + 1)
      rw [upd_ne _ _ (by omega), upd_same, Int32.add_assoc]
      congr 1
      rw [Int32.add_comm, nI_1]
theorem OkW.tk : ∀ k g g1 T, TkR W H k g g1 → OkG g W H T → OkW g → OkW g1 := by
  intro k
  induction k with
  | zero => intro g g1 T t _ w; rw [t.1]; exact w
  | succ k ih =>
    intro g g1 T ⟨n, n1, n2⟩ ok w
    exact ih _ _ _ n2 (ok.tak n) (w.tak (wh_lt ok.1.2.2.2.1 ok.1.2.2.2.2.2) ok.2.2.1 n)
theorem OkW.days {T : Nat} (ok : OkG g W H T) (w : OkW g) : ∀ n, OkW (dayN W H g n) := by
  intro n
  induction n with
  | zero => exact w
  | succ n ih => exact ih.day (wh_lt ok.1.2.2.2.1 ok.1.2.2.2.2.2) (ok.days n).2.2.1
/-! with left and right exchanged -/
theorem Mir.make (m : Mir W H g h) {u v : Nat} (x : Int32) (hu : u ≤ 7) (hv : v ≤ 7) : Mir u v (addsS (begS g u v) (fun _ => x) (u * v)) (addsS (begS h u v) (fun _ => x) (u * v)) := by
  obtain ⟨a, b, c⟩ := adds_f (g := begS g u v) (fun _ => x) (u * v)
  obtain ⟨a2, b2, c2⟩ := adds_f (g := begS h u v) (fun _ => x) (u * v)
  have e : ∀ f, gs (begS h u v) f = gs (begS g u v) f := fun f => by
    show (if f = 0 then nI u else if f = 1 then nI v else if f = 2 then gs h 2 else 0) = (if f = 0 then nI u else if f = 1 then nI v else if f = 2 then gs g 2 else 0)
    rw [m.1 2 (by omega)]
  refine ⟨fun f _ => by rw [a, a2, e, e], fun d hd => ?_, fun q _ _ => by rw [c, c2]; rfl⟩
  rw [b, b2, if_pos hd, if_pos (tau_lt hu hv hd)]
  rfl
theorem Mir.lay (hW : W ≤ 7) (hH : H ≤ 7) (m : Mir W H g h) {c : Nat} (hc : c < W * H) (u : Int32) : Mir W H (addS g c u) (addS h (tau W c) u) := by
  refine ⟨fun f hf => ?_, fun d hd => ?_, m.2.2⟩
  · show upd (gs h) 4 (gs h 4 + u) f = upd (gs g) 4 (gs g 4 + u) f
    rw [upd_at, upd_at, m.1 4 (by omega), m.1 f hf]
  · show upd (gt h) (tau W c) (gt h (tau W c) + u) (tau W d) = upd (gt g) c (gt g c + u) d
    rw [upd_at, upd_at]
    by_cases e : d = c
    · rw [if_pos e, if_pos (by rw [e]), m.2.1 c hc]
    · rw [if_neg e, if_neg (fun k => e ?_), m.2.1 d hd]
      have := congrArg (tau W) k
      rwa [tau_tau hW hH hd, tau_tau hW hH hc] at this
theorem Mir.mlt (m : Mir W H g h) (u : Int32) : Mir W H (mk (upd (gs g) 2 u) (gt g) (gc g) (gk g)) (mk (upd (gs h) 2 u) (gt h) (gc h) (gk h)) :=
  ⟨fun f hf => by
    show upd (gs h) 2 u f = upd (gs g) 2 u f
    rw [upd_at, upd_at, m.1 f hf], m.2.1, m.2.2⟩
theorem RR.vol (hW : W ≤ 7) (hH : H ≤ 7) (m : Mir W H g h) {n r : Nat} (R : RR W H g h n r) : volS W H (gt h) (lbG W H h) (nI r) = volS W H (gt g) (lbG W H g) (nI n) := by
  unfold volS
  refine tau_sum hW hH (fun c hc => ?_)
  show (if lbG W H h (tau W c) = nI r then gt h (tau W c) else 0) = (if lbG W H g c = nI n then gt g c else 0)
  by_cases z : lbG W H g c = nI n
  · rw [if_pos z, if_pos ((R.2.2.2.2 c hc).mp z), m.2.1 c hc]
  · rw [if_neg z, if_neg (fun q => z ((R.2.2.2.2 c hc).mpr q))]
theorem RR.tak (hW : W ≤ 7) (hH : H ≤ 7) (m : Mir W H g h) {n r : Nat} (R : RR W H g h n r) : Mir W H (takG W H g n) (takG W H h r) := by
  refine ⟨fun f hf => ?_, fun c hc => ?_, m.2.2⟩
  · show upd (upd (gs h) 7 (gs h 7 + 1)) 6 (gs h 6 + volS W H (gt h) (lbG W H h) (nI r)) f = upd (upd (gs g) 7 (gs g 7 + 1)) 6 (gs g 6 + volS W H (gt g) (lbG W H g) (nI n)) f
    rw [R.vol hW hH m, upd_at, upd_at, upd_at, upd_at, m.1 6 (by omega), m.1 7 (by omega), m.1 f hf]
  · show (if tau W c < W * H ∧ lbG W H h (tau W c) = nI r then 0 else gt h (tau W c)) = (if c < W * H ∧ lbG W H g c = nI n then 0 else gt g c)
    by_cases z : lbG W H g c = nI n
    · rw [if_pos (show tau W c < W * H ∧ _ from ⟨tau_lt hW hH hc, (R.2.2.2.2 c hc).mp z⟩), if_pos (show c < W * H ∧ _ from ⟨hc, z⟩)]
    · rw [if_neg (fun q => z ((R.2.2.2.2 c hc).mpr q.2)), if_neg (fun q => z q.2), m.2.1 c hc]
theorem Mir.tk (h0 : 0 < W) (hH0 : 0 < H) (m : Mir W H g h) {k j T S : Nat} (o1 : OkG g W H T) (o2 : OkG h W H S) (w1 : OkW g) (w2 : OkW h) (t1 : TkR W H k g g1) (t2 : TkR W H j h h1) : k = j ∧ Mir W H g1 h1 := by
  have hW : W ≤ 7 := o1.1.2.2.2.1
  have hH : H ≤ 7 := o1.1.2.2.2.2.2
  have h49 := wh_lt hW hH
  obtain ⟨A1, c1⟩ := tk_fin h0 h49 t1
  obtain ⟨A2, c2⟩ := tk_fin h0 h49 t2
  have loo : ∀ {g : GG} (n : Nat), n < W * H → InF W H g (nI n) → n < W * H ∧ lbG W H g n = nI n := fun n hn q => by
    obtain ⟨r, r1, r2, r3⟩ := q.loo
    rw [n_eq (by omega) (by omega)] at r2
    subst r2
    exact ⟨hn, r3.1⟩
  have e := cnP_rr (P := fun n => InF W H g (nI n)) (S := fun n => InF W H h (nI n)) (N := W * H) hW hH h0 m (Nat.le_refl _) loo loo (fun n r R => R.inF hW hH h0 hH0 m)
  rw [c1, c2] at e
  have k1 := cnP_le (fun n => InF W H g (nI n)) (W * H)
  have k2 := cnP_le (fun n => InF W H h (nI n)) (W * H)
  have kj : k = j := (n_eq (by omega) (by omega)).mp e
  have ms : ∀ c, c < W * H → gt h1 (tau W c) = gt g1 c := fun c hc => by
    rw [A1.th c, A2.th (tau W c)]
    unfold thT
    rcases lb_cases (g := g) h0 h49 c with y | ⟨n, n1, n2, n3⟩
    · have y1 := (lb_neg h49).mp y
      have y2 : lbG W H h (tau W c) = -1 := (lb_neg h49).mpr (fun q => y1 ⟨hc, by rw [← m.ice c hc]; exact q.2⟩)
      rw [y, y2, if_neg A1.1, if_neg A2.1, m.2.1 c hc]
    · obtain ⟨R, e2⟩ := RR_ex hW hH h0 m hc (by omega) n2
      rw [n2, e2, m.2.1 c hc]
      have := R.inF hW hH h0 hH0 m
      by_cases z : InF W H g (nI n)
      · rw [if_pos z, if_pos (this.mp z)]
      · rw [if_neg z, if_neg (fun q => z (this.mpr q))]
  obtain ⟨s1, s2⟩ := Tk_gs k g g1 t1
  obtain ⟨s3, s4⟩ := Tk_gs j h h1 t2
  have z1 := (OkG.tk k g g1 T t1 o1).2.2.1
  have z2 := (OkG.tk j h h1 S t2 o2).2.2.1
  have es : sm (gt h1) 49 = sm (gt g1) 49 := by
    rw [sm_zero h49 z1, sm_zero h49 z2]
    exact tau_sum hW hH ms
  have ne : ∀ f, f < 8 → f ≠ 6 → f ≠ 7 → gs h1 f = gs g1 f := fun f hf h6 h7 => by rw [s1 f h6 h7, s3 f h6 h7, m.1 f hf]
  refine ⟨kj, fun f hf => ?_, ms, fun q hq ha => by rw [Tk_ok k g g1 t1, Tk_ok j h h1 t2]; exact m.2.2 q hq ha⟩
  by_cases h6 : f = 6
  · have u1 := (OkW.tk k g g1 T t1 o1 w1).2.2
    have u2 := (OkW.tk j h h1 S t2 o2 w2).2.2
    unfold Cons at u1 u2
    rw [es, ne 4 (by omega) (by omega) (by omega), ne 5 (by omega) (by omega) (by omega), u1] at u2
    have := i_cancel u2
    rw [Int32.add_comm, Int32.add_comm (sm (gt g1) 49)] at this
    rw [h6]
    exact (i_cancel this).symm
  · by_cases h7 : f = 7
    · rw [h7, s2, s4, kj, m.1 7 (by omega)]
    · exact ne f hf h6 h7
end
