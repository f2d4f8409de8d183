/-! PURE: what the calls answer, with left and right exchanged -/
def Two (W H T : Nat) (g h : GG) : Prop := OkG g W H T ∧ OkG h W H T ∧ OkW g ∧ OkW h ∧ Mir W H g h
section
variable {W H T : Nat} {g h g1 h1 : GG}
theorem OkG.le (o : OkG g W H T) : W ≤ 7 ∧ H ≤ 7 ∧ 0 < W ∧ 0 < H ∧ W * H ≤ 49 := by
  obtain ⟨_, _, a, b, c, d⟩ := o.1
  exact ⟨b, d, by omega, by omega, wh_lt b d⟩
theorem ff_mir (t : Two W H T g h) {k : Nat} (hk : k < 14) : ffS W H h k = ffS W H g k := by
  obtain ⟨o1, o2, w1, w2, m⟩ := t
  obtain ⟨hW, hH, h0, hH0, h49⟩ := o1.le
  rcases (show k = 0 ∨ k = 1 ∨ k = 2 ∨ k = 3 ∨ k = 4 ∨ k = 5 ∨ k = 6 ∨ k = 7 ∨ k = 8 ∨ k = 9 ∨ k = 10 ∨ k = 11 ∨ k = 12 ∨ k = 13 by omega) with rfl | rfl | rfl | rfl | rfl | rfl | rfl | rfl | rfl | rfl | rfl | rfl | rfl | rfl
  · exact m.1 0 (by omega)
  · exact m.1 1 (by omega)
  · exact congrArg nI (mir_cnI hW hH m)
  · exact (cnP_rr (P := fun n => lbG W H g n = nI n) (S := fun n => lbG W H h n = nI n) (N := 49) hW hH h0 m h49 (fun n hn p => ⟨(lbG_root h0 h49 hn p).1, p⟩) (fun n hn p => ⟨(lbG_root h0 h49 hn p).1, p⟩) (fun n r R => ⟨fun _ => R.2.2.2.1, fun _ => R.2.1⟩)).symm
  · exact (cnP_rr (P := looG W H g) (S := looG W H h) (N := 49) hW hH h0 m h49 (fun n hn p => ⟨(lbG_root h0 h49 hn p.1).1, p.1⟩) (fun n hn p => ⟨(lbG_root h0 h49 hn p.1).1, p.1⟩) (fun n r R => R.loo hW hH hH0 m)).symm
  · exact (cnP_rr (P := stG W H g) (S := stG W H h) (N := W * H) hW hH h0 m (Nat.le_refl _) (fun n hn p => ⟨hn, p.1.1⟩) (fun n hn p => ⟨hn, p.1.1⟩) (fun n r R => R.st hW hH h0 hH0 m)).symm
  · exact m.sumC hW hH o1.2.1 o2.2.1
  · exact m.1 2 (by omega)
  · exact m.1 3 (by omega)
  · exact m.1 4 (by omega)
  · exact m.sumT hW hH o1.2.2.1 o2.2.2.1
  · exact m.1 6 (by omega)
  · exact m.1 5 (by omega)
  · exact m.1 7 (by omega)
theorem cut_all (t : Two W H T g h) {c s : Nat} (hc : c < W * H) (hs : s < 4) : gc h (pl W (tau W c) (sg s)) = gc g (pl W c s) := by
  obtain ⟨o1, o2, w1, w2, m⟩ := t
  obtain ⟨hW, hH, h0, hH0, h49⟩ := o1.le
  by_cases z : s = 2 ∨ (bs W H c s).isSome = true
  · exact m.cut hW hH hc hs z
  · have z2 : ¬ (sg s = 2 ∨ (bs W H (tau W c) (sg s)).isSome = true) := fun q => z ((al_tau hW hH hc hs).mp q)
    have ht := tau_lt hW hH hc
    have a := ct_no o1.2.1 h0 hW h49 hc hs z
    have b := ct_no o2.2.1 h0 hW h49 ht (sg_sg hs).2 z2
    rw [((o1.2.1 _ (pl_lt hW (by omega))).1).resolve_right a, ((o2.2.1 _ (pl_lt hW (by omega))).1).resolve_right b]
theorem cf_mir (t : Two W H T g h) {c : Nat} (hc : c < W * H) : cfS W H g c 0 = cfS W H h (tau W c) 0 ∧ cfS W H g c 1 = cfS W H h (tau W c) 4 ∧ cfS W H g c 2 = cfS W H h (tau W c) 2 ∧ cfS W H g c 3 = cfS W H h (tau W c) 3 ∧ cfS W H g c 4 = cfS W H h (tau W c) 1 ∧ cfS W H g c 6 = cfS W H h (tau W c) 6 := by
  have t' := t
  obtain ⟨o1, o2, w1, w2, m⟩ := t'
  obtain ⟨hW, hH, h0, hH0, h49⟩ := o1.le
  refine ⟨(m.2.1 c hc).symm, (cut_all t hc (s := 0) (by omega)).symm, (cut_all t hc (s := 1) (by omega)).symm, (cut_all t hc (s := 2) (by omega)).symm, (cut_all t hc (s := 3) (by omega)).symm, ?_⟩
  exact congrArg nI (wbn_tau hW hH h0 m.ice hc).symm
theorem bf_at {n : Nat} (hn : n < 49) : bfS W H g (nI n) 1 = nI (cnE (lbG W H g) (nI n) 49) ∧ bfS W H g (nI n) 2 = volS W H (gt g) (lbG W H g) (nI n) ∧ bfS W H g (nI n) 3 = @ite Int32 (looG W H g n) (Classical.propDecidable _) 0 1 ∧ bfS W H g (nI n) 4 = wayG W H g n := by
  have e : ∀ k, bfS W H g (nI n) k = if k = 0 then nI n else if k = 1 then nI (cnE (lbG W H g) (nI n) 49) else if k = 2 then volS W H (gt g) (lbG W H g) (nI n) else if k = 3 then @ite Int32 (looG W H g n) (Classical.propDecidable _) 0 1 else wayG W H g n := fun k => by
    unfold bfS
    rw [if_neg (i_n1 n (by omega)), i_cl n (by omega)]
  exact ⟨e 1, e 2, e 3, e 4⟩
theorem bf_mir (t : Two W H T g h) {c k : Nat} (hc : c < W * H) (h1 : 1 ≤ k) (hk : k < 5) : bfS W H g (lbG W H g c) k = bfS W H h (lbG W H h (tau W c)) k := by
  obtain ⟨o1, o2, w1, w2, m⟩ := t
  obtain ⟨hW, hH, h0, hH0, h49⟩ := o1.le
  have ht := tau_lt hW hH hc
  rcases lb_cases (g := g) h0 h49 c with y | ⟨n, n1, n2, n3⟩
  · have y1 := (lb_neg h49).mp y
    have y2 : lbG W H h (tau W c) = -1 := (lb_neg h49).mpr (fun q => y1 ⟨hc, by rw [← m.ice c hc]; exact q.2⟩)
    rw [y, y2]
    unfold bfS
    rw [if_pos rfl, if_pos rfl]
  · obtain ⟨R, e2⟩ := RR_ex hW hH h0 m hc (by omega) n2
    generalize rt W H h (tau W c) = r at R e2
    have l := R.2.2.1
    rw [n2, e2]
    obtain ⟨p1, p2, p3, p4⟩ := bf_at (g := g) (W := W) (H := H) (n := n) (by omega)
    obtain ⟨q1, q2, q3, q4⟩ := bf_at (g := h) (W := W) (H := H) (n := r) (by omega)
    rcases (show k = 1 ∨ k = 2 ∨ k = 3 ∨ k = 4 by omega) with rfl | rfl | rfl | rfl
    · rw [p1, q1, cnE_lb h49 (by omega), cnE_lb h49 (by omega), ← cnE_sm, ← cnE_sm]
      refine (tau_sum hW hH (fun d hd => ?_)).symm
      show (if lbG W H h (tau W d) = nI r then (1 : Int32) else 0) = (if lbG W H g d = nI n then (1 : Int32) else 0)
      by_cases z : lbG W H g d = nI n
      · rw [if_pos z, if_pos ((R.2.2.2.2 d hd).mp z)]
      · rw [if_neg z, if_neg (fun q => z ((R.2.2.2.2 d hd).mpr q))]
    · rw [p2, q2]
      exact (R.vol hW hH m).symm
    · rw [p3, q3]
      have := R.loo hW hH hH0 m
      by_cases z : looG W H g n
      · rw [if_pos z, if_pos (this.mp z)]
      · rw [if_neg z, if_neg (fun q => z (this.mpr q))]
    · rw [p4, q4]
      exact (R.way hW hH h0 hH0 m).symm
theorem hv_mir (m : Mir W H g h) : hvG h = hvG g := by
  unfold hvG
  rw [m.1 4 (by omega), m.1 6 (by omega)]
/-- the first of some days -/
def FirV (P : Nat → Prop) (lo : Nat) (r : Int32) : Prop := (∃ k, lo ≤ k ∧ k ≤ 60 ∧ r = nI k ∧ P k ∧ ∀ j, lo ≤ j → j < k → ¬ P j) ∨ (r = -1 ∧ ∀ j, lo ≤ j → j ≤ 60 → ¬ P j)
theorem FirV.eq {P S : Nat → Prop} {lo : Nat} {r s : Int32} (e : ∀ j, P j ↔ S j) (a : FirV P lo r) (b : FirV S lo s) : r = s := by
  rcases a with ⟨k, k1, k2, k3, k4, k5⟩ | ⟨k1, k2⟩
  · rcases b with ⟨j, j1, j2, j3, j4, j5⟩ | ⟨j1, j2⟩
    · have : k = j := by
        rcases Nat.lt_trichotomy k j with q | q | q
        · exact absurd ((e k).mp k4) (j5 k k1 q)
        · exact q
        · exact absurd ((e j).mpr j4) (k5 j j1 q)
      rw [k3, j3, this]
    · exact absurd ((e k).mp k4) (j2 k k1 k2)
  · rcases b with ⟨j, j1, j2, j3, j4, j5⟩ | ⟨j1, j2⟩
    · exact absurd ((e j).mpr j4) (k2 j j1 j2)
    · rw [k1, j1]
def DtwV (W H : Nat) (g : GG) (r : Int32) : Prop := FirV (fun k => cnI (gt (dayN W H g k)) (W * H) = 0) 0 r
theorem dtw_mir (t : Two W H T g h) {r s : Int32} (a : DtwV W H g r) (b : DtwV W H h s) : r = s := by
  obtain ⟨o1, o2, w1, w2, m⟩ := t
  obtain ⟨hW, hH, h0, hH0, h49⟩ := o1.le
  exact FirV.eq (fun j => by rw [mir_cnI hW hH (m.days hW hH h0 j)]) a b
def DwV (W H : Nat) (g : GG) (c : Nat) (r : Int32) : Prop := ((∀ n, n < W * H → lbG W H g c = nI n → ¬ looG W H g n) ∧ r = -1) ∨ ∃ n, n < W * H ∧ lbG W H g c = nI n ∧ looG W H g n ∧ FirV (fun k => wtP W H (lbG W H g) (nI n) (gt (dayN W H g k))) 1 r
theorem wt_mir (hW : W ≤ 7) (hH : H ≤ 7) (h0 : 0 < W) (m : Mir W H g h) {n r : Nat} (R : RR W H g h n r) (k : Nat) (q : wtP W H (lbG W H g) (nI n) (gt (dayN W H g k))) : wtP W H (lbG W H h) (nI r) (gt (dayN W H h k)) := by
  obtain ⟨c, c1, c2, c3⟩ := q
  exact ⟨tau W c, tau_lt hW hH c1, (R.2.2.2.2 c c1).mp c2, ((m.days hW hH h0 k).ice c c1).mpr c3⟩
theorem dw_mir (t : Two W H T g h) {c : Nat} (hc : c < W * H) {r s : Int32} (a : DwV W H g c r) (b : DwV W H h (tau W c) s) : r = s := by
  obtain ⟨o1, o2, w1, w2, m⟩ := t
  obtain ⟨hW, hH, h0, hH0, h49⟩ := o1.le
  rcases a with ⟨a1, a2⟩ | ⟨n, n1, n2, n3, n4⟩
  · rcases b with ⟨b1, b2⟩ | ⟨j, j1, j2, j3, j4⟩
    · rw [a2, b2]
    · exfalso
      have ht := tau_lt hW hH hc
      obtain ⟨R, e⟩ := RR_ex hW hH h0 (m.symm hW hH) ht (by omega) j2
      rw [tau_tau hW hH hc] at R e
      exact a1 _ R.2.2.1 e ((R.loo hW hH hH0 (m.symm hW hH)).mp j3)
  · obtain ⟨R, e⟩ := RR_ex hW hH h0 m hc (by omega) n2
    generalize rt W H h (tau W c) = q at R e
    have l := R.2.2.1
    rcases b with ⟨b1, b2⟩ | ⟨j, j1, j2, j3, j4⟩
    · exact absurd ((R.loo hW hH hH0 m).mp n3) (b1 _ l e)
    · rw [e, n_eq (by omega) (by omega)] at j2
      subst j2
      exact FirV.eq (fun k => ⟨wt_mir hW hH h0 m R k, wt_mir hW hH h0 (m.symm hW hH) (R.symm hW hH) k⟩) n4 j4
theorem ls_mir (t : Two W H T g h) {k j : Nat} (t1 : TkR W H k g g1) (t2 : TkR W H j h h1) : k = j ∧ nI (cnP (looG W H g1) 49) = nI (cnP (looG W H h1) 49) := by
  obtain ⟨o1, o2, w1, w2, m⟩ := t
  obtain ⟨hW, hH, h0, hH0, h49⟩ := o1.le
  obtain ⟨a, b⟩ := m.tk h0 hH0 o1 o2 w1 w2 t1 t2
  exact ⟨a, cnP_rr (P := looG W H g1) (S := looG W H h1) (N := 49) hW hH h0 b h49 (fun n hn p => ⟨(lbG_root h0 h49 hn p.1).1, p.1⟩) (fun n hn p => ⟨(lbG_root h0 h49 hn p.1).1, p.1⟩) (fun n r R => R.loo hW hH hH0 b)⟩
theorem Two.mono {T1 : Nat} (t : Two W H T g h) (e : T ≤ T1) : Two W H T1 g h := ⟨t.1.mono e, t.2.1.mono e, t.2.2⟩
theorem Two.tk (t : Two W H T g h) {k j : Nat} (t1 : TkR W H k g g1) (t2 : TkR W H j h h1) : k = j ∧ Two W H (T + k) g1 h1 := by
  obtain ⟨o1, o2, w1, w2, m⟩ := t
  obtain ⟨hW, hH, h0, hH0, h49⟩ := o1.le
  obtain ⟨a, b⟩ := m.tk h0 hH0 o1 o2 w1 w2 t1 t2
  subst a
  exact ⟨rfl, OkG.tk k g g1 T t1 o1, OkG.tk k h h1 T t2 o2, OkW.tk k g g1 T t1 o1 w1, OkW.tk k h h1 T t2 o2 w2, b⟩
/-! volumes and blocks add up -/
theorem cnP_mono {P R : Nat → Prop} {n : Nat} (e : ∀ i, i < n → P i → R i) : cnP P n ≤ cnP R n := by
  induction n with
  | zero => exact Nat.le_refl _
  | succ n ih =>
    simp only [cnP]
    have := ih (fun i hi => e i (by omega))
    by_cases p : P n
    · rw [if_pos p, if_pos (e n (by omega) p)]; omega
    · rw [if_neg p]; omega
theorem cnP_len {P : Nat → Prop} {n m : Nat} (h : n ≤ m) : cnP P n ≤ cnP P m := by
  induction m with
  | zero => have : n = 0 := by omega
            subst this; exact Nat.le_refl _
  | succ m ih =>
    by_cases e : n = m + 1
    · subst e; exact Nat.le_refl _
    · have := ih (by omega)
      simp only [cnP]
      omega
theorem so_tk (o : OkG g W H T) {k : Nat} (t : TkR W H k g g1) : nI k ≤ ffS W H g 4 := by
  obtain ⟨hW, hH, h0, hH0, h49⟩ := o.le
  have c := (tk_fin h0 h49 t).2
  have l := cnP_le (looG W H g) 49
  show nI k ≤ nI (cnP (looG W H g) 49)
  have a := cnP_mono (P := fun n => InF W H g (nI n)) (R := looG W H g) (n := W * H) (fun n hn q => by
    obtain ⟨r, r1, r2, r3⟩ := InF.loo q
    rw [n_eq (by omega) (by omega)] at r2
    rw [r2]; exact r3)
  have b := cnP_len (P := looG W H g) h49
  rw [n_le (by omega) (by omega)]
  omega
theorem so_54 (o : OkG g W H T) : ffS W H g 5 ≤ ffS W H g 4 ∧ ffS W H g 4 ≤ ffS W H g 3 := by
  obtain ⟨hW, hH, h0, hH0, h49⟩ := o.le
  have l := cnP_le (looG W H g) 49
  have l2 := cnP_le (fun n => lbG W H g n = nI n) 49
  have a := cnP_mono (P := stG W H g) (R := looG W H g) (n := W * H) (fun n hn q => q.1)
  have b := cnP_len (P := looG W H g) h49
  have c := cnP_mono (P := looG W H g) (R := fun n => lbG W H g n = nI n) (n := 49) (fun n hn q => q.1)
  exact ⟨(n_le (by omega) (by omega)).mpr (Nat.le_trans a b), (n_le (by omega) (by omega)).mpr c⟩
theorem so_ice : sm (fun c => if gt g c ≤ 0 then (0 : Int32) else 1) (W * H) = ffS W H g 2 := cnI_sm _ _
theorem so_blk (o : OkG g W H T) : sm (fun c => if lbG W H g c = nI c then (1 : Int32) else 0) (W * H) = ffS W H g 3 := by
  obtain ⟨hW, hH, h0, hH0, h49⟩ := o.le
  have e := cnP_sm (fun n => lbG W H g n = nI n) (W * H)
  have z := cnP_zero (P := fun n => lbG W H g n = nI n) h49 (fun i a b q => by have := (lbG_root h0 h49 b q).1; omega)
  show _ = nI (cnP (fun n => lbG W H g n = nI n) 49)
  rw [z, ← e]
  refine sm_ext (fun i hi => ?_)
  by_cases y : lbG W H g i = nI i
  · rw [if_pos y, if_pos y]
  · rw [if_neg y, if_neg y]
theorem so_vol (o : OkG g W H T) (w : OkW g) : sm (fun c => if lbG W H g c = nI c then bfS W H g (lbG W H g c) 2 else 0) (W * H) = ffS W H g 10 := by
  obtain ⟨hW, hH, h0, hH0, h49⟩ := o.le
  show _ = sm (gt g) 49
  rw [sm_zero h49 o.2.2.1]
  have a : sm (fun c => if lbG W H g c = nI c then bfS W H g (lbG W H g c) 2 else 0) (W * H) = sm (fun c => sm (fun d => if lbG W H g c = nI c ∧ lbG W H g d = nI c then gt g d else 0) (W * H)) (W * H) := sm_ext (fun c hc => by
    by_cases y : lbG W H g c = nI c
    · rw [if_pos y, y]
      rw [(bf_at (g := g) (W := W) (H := H) (n := c) (by omega)).2.1]
      unfold volS
      refine sm_ext (fun d hd => ?_)
      by_cases z : lbG W H g d = nI c
      · rw [if_pos z, if_pos ⟨rfl, z⟩]
      · rw [if_neg z, if_neg (fun q => z q.2)]
    · rw [if_neg y, sm_ext (g := fun _ => 0) (fun d _ => if_neg (fun q => y q.1)), sm_0])
  rw [a, sm_swap]
  refine sm_ext (fun d hd => ?_)
  rcases lb_cases (g := g) h0 h49 d with y | ⟨n, n1, n2, n3⟩
  · have y1 := (lb_neg h49).mp y
    have z : gt g d ≤ 0 := Classical.byContradiction (fun q => y1 ⟨hd, q⟩)
    obtain ⟨t, t1, t2⟩ := w.1 d (by omega)
    have z0 : gt g d = 0 := by
      rw [t2] at z ⊢
      have := (n_le (a := t) (b := 0) (by omega) (by omega)).mp z
      have : t = 0 := by omega
      rw [this]; rfl
    rw [sm_ext (g := fun _ => 0) (fun c _ => ?_), sm_0, z0]
    by_cases q : lbG W H g c = nI c ∧ lbG W H g d = nI c
    · rw [if_pos q, z0]
    · rw [if_neg q]
  · rw [sm_ext (g := fun c => if c = n then gt g d else 0) (fun c hc => ?_), sm_one _ n1]
    by_cases q : c = n
    · rw [if_pos q, q, if_pos ⟨n3, n2⟩]
    · rw [if_neg q, if_neg (fun k => q ?_)]
      have := k.2
      rw [n2, n_eq (by omega) (by omega)] at this
      exact this.symm
end
