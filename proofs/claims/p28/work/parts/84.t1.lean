/-! PURE: water, days and cuts with left and right exchanged -/
theorem i_cancel {a b c : Int32} (h : a + c = b + c) : a = b := by
  have := congrArg (fun x => x - c) h
  simpa using this
section
variable {W H : Nat} {g h : GG}
theorem wb1_tau (hW : W ≤ 7) (hH : H ≤ 7) (h0 : 0 < W) {th k : Nat → Int32} (ht : ∀ c, c < W * H → (k (tau W c) ≤ 0 ↔ th c ≤ 0)) {c s : Nat} (hc : c < W * H) (hs : s < 4) : wb1 W H k (tau W c) (sg s) = wb1 W H th c s := by
  unfold wb1
  rw [bs_tau hW hH hc hs]
  cases e : bs W H c s with
  | none =>
    obtain rfl | rfl | rfl | rfl : s = 0 ∨ s = 1 ∨ s = 2 ∨ s = 3 := by omega
    all_goals rfl
  | some d =>
    have hd := bs_lt hc e h0
    show (if k (tau W d) ≤ 0 then 1 else 0) = (if th d ≤ 0 then 1 else 0)
    by_cases z : th d ≤ 0
    · rw [if_pos z, if_pos ((ht d hd).mpr z)]
    · rw [if_neg z, if_neg (fun q => z ((ht d hd).mp q))]
theorem wbn_tau (hW : W ≤ 7) (hH : H ≤ 7) (h0 : 0 < W) {th k : Nat → Int32} (ht : ∀ c, c < W * H → (k (tau W c) ≤ 0 ↔ th c ≤ 0)) {c : Nat} (hc : c < W * H) : wbn W H k (tau W c) 4 = wbn W H th c 4 := by
  have a0 : wb1 W H k (tau W c) 3 = wb1 W H th c 0 := wb1_tau hW hH h0 ht hc (s := 0) (by omega)
  have a1 : wb1 W H k (tau W c) 1 = wb1 W H th c 1 := wb1_tau hW hH h0 ht hc (s := 1) (by omega)
  have a2 : wb1 W H k (tau W c) 2 = wb1 W H th c 2 := wb1_tau hW hH h0 ht hc (s := 2) (by omega)
  have a3 : wb1 W H k (tau W c) 0 = wb1 W H th c 3 := wb1_tau hW hH h0 ht hc (s := 3) (by omega)
  simp only [wbn]
  omega
theorem Mir.ice (m : Mir W H g h) : ∀ c, c < W * H → (gt h (tau W c) ≤ 0 ↔ gt g c ≤ 0) := fun c hc => by rw [m.2.1 c hc]
theorem mir_los (hW : W ≤ 7) (hH : H ≤ 7) (h0 : 0 < W) (m : Mir W H g h) (x : Int32) {c : Nat} (hc : c < W * H) : los W H x (gt h) (tau W c) = los W H x (gt g) c := by
  unfold los
  rw [wbn_tau hW hH h0 m.ice hc, m.2.1 c hc]
theorem Mir.day (hW : W ≤ 7) (hH : H ≤ 7) (h0 : 0 < W) (m : Mir W H g h) : Mir W H (dayS W H g) (dayS W H h) := by
  have e2 : gs h 2 = gs g 2 := m.1 2 (by omega)
  refine ⟨fun f hf => ?_, fun c hc => ?_, fun q hq ha => m.2.2 q hq ha⟩
  · have es : sm (los W H (gs h 2) (gt h)) (W * H) = sm (los W H (gs g 2) (gt g)) (W * H) := tau_sum hW hH (fun c hc => by rw [e2]; exact mir_los hW hH h0 m _ hc)
    simp only [dayS, gs_mk, upd_at]
    rw [es, m.1 5 (by omega), m.1 3 (by omega), m.1 f hf]
  · simp only [dayS, gt_mk]
    rw [if_pos hc, if_pos (tau_lt hW hH hc), e2, mir_los hW hH h0 m _ hc, m.2.1 c hc]
theorem Mir.days (hW : W ≤ 7) (hH : H ≤ 7) (h0 : 0 < W) (m : Mir W H g h) (n : Nat) : Mir W H (dayN W H g n) (dayN W H h n) := by
  induction n with
  | zero => exact m
  | succ n ih => exact ih.day hW hH h0
theorem mir_dsum (hW : W ≤ 7) (hH : H ≤ 7) (h0 : 0 < W) (m : Mir W H g h) (n : Nat) : dsum W H h n = dsum W H g n := by
  rw [← dsum_sub, ← dsum_sub, (m.days hW hH h0 n).1 5 (by omega), m.1 5 (by omega)]
theorem mir_cnI (hW : W ≤ 7) (hH : H ≤ 7) (m : Mir W H g h) : cnI (gt h) (W * H) = cnI (gt g) (W * H) := by
  have h49 := wh_lt hW hH
  have e := tau_sum hW hH (f := fun c => if gt g c ≤ 0 then (0 : Int32) else 1) (k := fun c => if gt h c ≤ 0 then (0 : Int32) else 1) (fun c hc => by
    show (if gt h (tau W c) ≤ 0 then (0 : Int32) else 1) = _
    rw [m.2.1 c hc])
  rw [cnI_sm, cnI_sm] at e
  rwa [n_eq (by have := cnI_le (gt h) (W * H); omega) (by have := cnI_le (gt g) (W * H); omega)] at e
theorem Mir.sumT (hW : W ≤ 7) (hH : H ≤ 7) (m : Mir W H g h) (z1 : ∀ c, W * H ≤ c → c < 49 → gt g c = 0) (z2 : ∀ c, W * H ≤ c → c < 49 → gt h c = 0) : sm (gt h) 49 = sm (gt g) 49 := by
  have h49 := wh_lt hW hH
  rw [sm_zero h49 z1, sm_zero h49 z2]
  exact tau_sum hW hH m.2.1
theorem ct_al {ct : Nat → Int32} (ok : CtOk W H ct) {q : Nat} (hq : q < 106) : (ct q = 0 ∨ ct q = 1) ∧ (¬ alP W H q → ct q = 0) := by
  obtain ⟨a, b⟩ := ok q hq
  refine ⟨a, fun n => a.resolve_right (fun z => n ?_)⟩
  rcases b z with e | ⟨c, e1, e2, e3⟩
  · exact Or.inl e
  · subst e1
    exact Or.inr ⟨by omega, by rw [Nat.add_sub_cancel_left]; exact e2, by rw [Nat.add_sub_cancel_left]; exact e3⟩
theorem Mir.sumC (hW : W ≤ 7) (hH : H ≤ 7) (m : Mir W H g h) (o1 : CtOk W H (gc g)) (o2 : CtOk W H (gc h)) : sm (gc h) 106 = sm (gc g) 106 :=
  (sm_bij (P := alP W H) (R := alP W H) (u := mu W) (v := mu W) (fun q hq p => by
    obtain ⟨a, b, c⟩ := mu_al hW hH hq p
    exact ⟨a, b, c, m.2.2 q hq p⟩) (fun q hq p => mu_al hW hH hq p) (fun q hq p => (ct_al o1 hq).2 p) (fun q hq p => (ct_al o2 hq).2 p)).symm
theorem Mir.cs (hW : W ≤ 7) (hH : H ≤ 7) (m : Mir W H g h) {c s : Nat} (hc : c < W * H) (hs : s < 4) : (csS W H h (tau W c) (sg s)).1 = (csS W H g c s).1 ∧ Mir W H (csS W H g c s).2 (csS W H h (tau W c) (sg s)).2 := by
  unfold csS
  by_cases z : (s = 2 ∨ (bs W H c s).isSome = true) ∧ gc g (pl W c s) ≠ 1
  · have z2 : (sg s = 2 ∨ (bs W H (tau W c) (sg s)).isSome = true) ∧ gc h (pl W (tau W c) (sg s)) ≠ 1 := ⟨(al_tau hW hH hc hs).mpr z.1, by rw [m.cut hW hH hc hs z.1]; exact z.2⟩
    rw [if_pos z, if_pos z2]
    refine ⟨rfl, m.1, m.2.1, fun q hq ha => ?_⟩
    obtain ⟨a, b⟩ := pl_tau hW hH hc hs z.1
    have p106 : pl W c s < 106 := pl_lt hW (by have := wh_lt hW hH; omega)
    simp only [gc_mk, upd_at]
    rw [← a]
    by_cases e : q = pl W c s
    · rw [if_pos e, if_pos (by rw [e])]
    · rw [if_neg e, if_neg (fun k => e ?_), m.2.2 q hq ha]
      have := congrArg (mu W) k
      rwa [(mu_al hW hH hq ha).2.2, (mu_al hW hH p106 b).2.2] at this
  · have z2 : ¬ ((sg s = 2 ∨ (bs W H (tau W c) (sg s)).isSome = true) ∧ gc h (pl W (tau W c) (sg s)) ≠ 1) := fun q => z ⟨(al_tau hW hH hc hs).mp q.1, by rw [← m.cut hW hH hc hs ((al_tau hW hH hc hs).mp q.1)]; exact q.2⟩
    rw [if_neg z, if_neg z2]
    exact ⟨rfl, m⟩
theorem sm_upd {f : Nat → Int32} {n k : Nat} (v : Int32) (hk : k < n) : sm (upd f k v) n + f k = sm f n + v := by
  have e : sm (fun i => upd f k v i + (if i = k then f k else 0)) n = sm (fun i => f i + (if i = k then v else 0)) n := sm_ext (fun i _ => by
    rw [upd_at]
    by_cases z : i = k
    · rw [if_pos z, if_pos z, if_pos z, z, Int32.add_comm]
    · rw [if_neg z, if_neg z, if_neg z])
  rw [sm_add, sm_add, sm_one _ hk, sm_one _ hk] at e
  exact e
end
