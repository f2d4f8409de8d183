/-! PURE: the model's calls -/
def FrO (m : Nat) (M M1 : MM) : Prop := (∀ b, (b ≤ m ∨ m + 8 ≤ b) → mA M1 b = mA M b) ∧ (∀ f b, b ≠ m → mI M1 f b = mI M f b) ∧ mJ M1 = mJ M
theorem FrO.trans {m : Nat} {M M1 M2 : MM} (h : FrO m M M1) (h2 : FrO m M1 M2) : FrO m M M2 := ⟨fun b hb => (h2.1 b hb).trans (h.1 b hb), fun f b hb => (h2.2.1 f b hb).trans (h.2.1 f b hb), h2.2.2.trans h.2.2⟩
theorem FrO.refl (m : Nat) (M : MM) : FrO m M M := ⟨fun _ _ => rfl, fun _ _ _ => rfl, rfl⟩
def MdI (M : MM) (m : Nat) (g : GG) (sk : Nat → GG) (n : Nat) (tx : Nat → Int32) (len : Nat) : Prop := MoS M m g ∧ StM M m sk n ∧ (∀ i, i < 60 → mA M (m + 7) i = tx i) ∧ mI M 16 m = nI len
theorem FrM.toO {m : Nat} {rs fs : List Nat} {M M1 : MM} (f : FrM m rs fs M M1) (h : ∀ r ∈ rs, m < r ∧ r < m + 8) : FrO m M M1 := ⟨fun b hb => f.1 b (fun q => by have := h b q; omega), fun k b hb => f.2.1 k b (Or.inl hb), f.2.2⟩
section
variable {Z : ZZ} {M : MM} {m : Nat} {g : GG} {W H : Nat} {sk : Nat → GG} {n len : Nat} {tx : Nat → Int32}
/-- the model's other arrays and fields -/
theorem MdI.fr {M1 : MM} {g1 : GG} {rs fs : List Nat} (d : MdI M m g sk n tx len) (f : FrM m rs fs M M1) (t : MoS M1 m g1) (h1 : ∀ r ∈ rs, m < r ∧ r < m + 7 ∧ r ≠ m + 2) (h2 : 14 ∉ fs ∧ 16 ∉ fs) : FrO m M M1 ∧ MdI M1 m g1 sk n tx len := by
  refine ⟨f.toO (fun r hr => by have := h1 r hr; omega), t, d.2.1.frM f (fun q => (h1 _ q).2.2 rfl) h2.1, ?_, ?_⟩
  · rw [f.1 _ (fun q => by have := h1 _ q; omega)]; exact d.2.2.1
  · rw [f.2.1 _ _ (Or.inr h2.2)]; exact d.2.2.2
theorem MdI.sc {M1 : MM} {rs fs : List Nat} (d : MdI M m g sk n tx len) (f : FrM m rs fs M M1) (h1 : ∀ r ∈ rs, m + 2 < r ∧ r < m + 7) (h2 : 14 ∉ fs ∧ 16 ∉ fs) : FrO m M M1 ∧ MdI M1 m g sk n tx len :=
  d.fr f (d.1.frM f (fun q => by have := h1 _ q; omega)) (fun r hr => by have := h1 r hr; omega) h2
theorem MdI.scF {M1 : MM} {rs : List Nat} (d : MdI M m g sk n tx len) (f : Fr rs [] M M1) (h1 : ∀ r ∈ rs, m + 2 < r ∧ r < m + 7) : FrO m M M1 ∧ MdI M1 m g sk n tx len := d.sc (f.toM m []) h1 (by simp)
theorem MdI.alF {M1 : MM} {g1 : GG} {rs : List Nat} (d : MdI M m g sk n tx len) (f : Fr rs [] M M1) (t : MoS M1 m g1) (h1 : ∀ r ∈ rs, m < r ∧ r < m + 7 ∧ r ≠ m + 2) : FrO m M M1 ∧ MdI M1 m g1 sk n tx len := d.fr (f.toM m []) t h1 (by simp)
theorem MdI.th (d : MdI M m g sk n tx len) (v : Int32) : FrO m M (setI M 15 m v) ∧ MdI (setI M 15 m v) m g sk n tx len ∧ mI (setI M 15 m v) 15 m = v := by
  obtain ⟨a, b⟩ := d.sc (FrM.setI M 15 m v) (by simp) (by simp)
  exact ⟨a, b, by rw [mI_setI, if_pos ⟨rfl, rfl⟩]⟩
theorem mo_save2 {Q : MM → Prop} (F : ModAt Z m) (d : MdI M m g sk n tx len) (hQ : ∀ M1, FrO m M M1 → MdI M1 m g (pushS sk n g) (pc n) tx len → Q M1) : P_X6_save Z M m Q :=
  mo_save F d.1 d.2.1 (fun M1 f1 s1 => hQ M1 (f1.toO (by simp)) ⟨d.1.frM f1 (by simp), s1, by rw [f1.1 _ (by simp)]; exact d.2.2.1, by rw [f1.2.1 _ _ (Or.inr (by simp))]; exact d.2.2.2⟩)
/-- the end of a call that answers -/
theorem o_fine {v : Int32} {Q : Int32 → MM → Prop} (F : ModAt Z m) (d : MdI M m g sk n tx len) (hQ : ∀ M1, FrO m M M1 → MdI M1 m g sk n tx len → mI M1 15 m = 0 → Q v M1) : P_X6_fine Z M m v Q := by
  obtain ⟨a, b, e⟩ := d.th 0
  exact (mo_fine F).mpr (hQ _ a b e)
theorem o_thr {v : Int32} {Q : Int32 → MM → Prop} (F : ModAt Z m) (d : MdI M m g sk n tx len) (hQ : ∀ r M1, FrO m M M1 → MdI M1 m g sk n tx len → mI M1 15 m = v → Q r M1) : P_X6_throwing Z M m v Q := by
  obtain ⟨a, b, e⟩ := d.th v
  exact (mo_throwing F).mpr (hQ _ _ a b e)
theorem o_make {u v x : Int32} {Q : Int32 → MM → Prop} (F : ModAt Z m) (d : MdI M m g sk n tx len) (hx : ¬ mkC u v x → ∀ r M1, FrO m M M1 → MdI M1 m g sk n tx len → mI M1 15 m = 1 → Q r M1) (hQ : ∀ a b, 2 ≤ a → a ≤ 7 → 2 ≤ b → b ≤ 7 → u = nI a → v = nI b → mkC u v x → ∀ M1, FrO m M M1 → MdI M1 m (addsS (begS g a b) (fun _ => x) (a * b)) (pushS sk n g) (pc n) tx len → mI M1 15 m = 0 → Q (gs (addsS (begS g a b) (fun _ => x) (a * b)) 4) M1) : P_X6_make Z M m u v x Q := by
  unfold P_X6_make B_X6_make_0 B_X6_make_40
  have bad : ¬ mkC u v x → zK Z m = 6 ∧ P_X6_throwing Z M m 1 (fun r42 M42 => Q r42 M42) := fun h => ⟨F.1, o_thr F d (hx h)⟩
  have e2 : (2 : Int64).toInt = 2 := by decide
  have e7 : (7 : Int64).toInt = 7 := by decide
  have e0 : (0 : Int64).toInt = 0 := by decide
  have e50 : (50 : Int64).toInt = 50 := by decide
  refine mo_in.mpr ⟨fun z => ?_, fun z => mo_in.mpr ⟨fun z2 => ?_, fun z2 => mo_in.mpr ⟨fun z3 => ?_, fun z3 => ?_⟩⟩⟩
  · rw [bI_0, e2, e7] at z; exact bad (fun q => z q.1)
  · rw [bI_0, e2, e7] at z2; exact bad (fun q => z2 q.2.1)
  · rw [bI_0, Classical.not_not, e2, e7] at z z2
    rw [bI_0, Classical.not_not, e0, e50] at z3
    obtain ⟨p, p1, rfl⟩ := small_ex (n := 7) (by omega) z.2 (by omega)
    obtain ⟨q, q1, rfl⟩ := small_ex (n := 7) (by omega) z2.2 (by omega)
    have zz := z
    have zz2 := z2
    rw [i_toInt p (by omega)] at zz
    rw [i_toInt q (by omega)] at zz2
    have hpq : p * q ≤ 49 := wh_lt p1 q1
    refine ⟨F.1, mo_save2 F d (fun M1 f1 d1 => mo_makes F d1.1 p1 q1 (fun M2 f2 t2 => ⟨p * q + 1, ?_⟩))⟩
    obtain ⟨g2, d2⟩ := d1.alF f2 t2 (by simp)
    refine for_up (p * q) (fun k i M' => L_X6_make_59 Z Q k M' m (nI p) (nI q) x (nI i)) (fun i M' => FrO m M M' ∧ MdI M' m (addsS (begS g p q) (fun _ => x) i) (pushS sk n g) (pc n) tx len) ?_ ?_ (p * q) 0 M2 (by omega) ⟨f1.trans g2, d2⟩
    · intro k i M' hi ⟨fO, dd⟩ kk
      show B_X6_make_59 Z Q (L_X6_make_59 Z Q k) M' m (nI p) (nI q) x (nI i)
      unfold B_X6_make_59
      rw [n_mul]
      refine ⟨fun e => absurd e ?_, fun _ => ⟨F.1, mo_puts F dd.1 (by omega) (fun M3 f3 t3 => ?_)⟩⟩
      · rw [n_le (by omega) (by omega)]; omega
      obtain ⟨g3, d3⟩ := dd.alF f3 t3 (by simp)
      rw [nI_1]
      exact kk M3 ⟨fO.trans g3, d3⟩
    · intro k M' ⟨fO, dd⟩
      show B_X6_make_59 Z Q (L_X6_make_59 Z Q k) M' m (nI p) (nI q) x (nI (p * q))
      unfold B_X6_make_59
      rw [n_mul]
      have v4 : vp_in 4 (zN Z (m + 1)) := by rw [F.all.2.2]; exact vp0.2.2.2
      have e4 : mA M' (m + 1) (4 : Int32).toNatClampNeg = gs (addsS (begS g p q) (fun _ => x) (p * q)) 4 := dd.1.s (k := 4) (by omega)
      refine ⟨fun _ => ⟨F.1, m + 1, F.all.1, F.all.2.1, v4, ?_⟩, fun e => absurd (nI_le (Nat.le_refl _) (by omega)) e⟩
      rw [e4]
      refine o_fine F dd (fun M3 f3 d3 h3 => hQ p q (by omega) p1 (by omega) q1 rfl rfl ⟨z, z2, z3⟩ M3 (fO.trans f3) d3 h3)
  · rw [bI_0, e0, e50] at z3; exact bad (fun q => z3 q.2.2)
theorem o_lay {v u : Int32} {Q : Int32 → MM → Prop} (F : ModAt Z m) (d : MdI M m g sk n tx len) (w : WH g W H) (h1 : ¬ isC W H v → ∀ r M1, FrO m M M1 → MdI M1 m g sk n tx len → mI M1 15 m = 1 → Q r M1) (h2 : isC W H v → ¬ (1 ≤ u.toInt ∧ u.toInt ≤ 50) → ∀ r M1, FrO m M M1 → MdI M1 m g sk n tx len → mI M1 15 m = 2 → Q r M1)
    (h3 : ∀ c, c < W * H → v = nI c → (1 ≤ u.toInt ∧ u.toInt ≤ 50) → ¬ gt g c + u ≤ 50 → ∀ r M1, FrO m M M1 → MdI M1 m g sk n tx len → mI M1 15 m = 3 → Q r M1)
    (hQ : ∀ c, c < W * H → v = nI c → (1 ≤ u.toInt ∧ u.toInt ≤ 50) → gt g c + u ≤ 50 → ∀ M1, FrO m M M1 → MdI M1 m (addS g c u) (pushS sk n g) (pc n) tx len → mI M1 15 m = 0 → Q (gt (addS g c u) c) M1) : P_X6_lay Z M m v u Q := by
  have h49 : W * H ≤ 49 := wh_lt w.2.2.2.1 w.2.2.2.2.2
  have e1 : (1 : Int64).toInt = 1 := by decide
  have e50 : (50 : Int64).toInt = 50 := by decide
  unfold P_X6_lay B_X6_lay_0
  refine ⟨F.1, mo_isCell F d.1 w (fun hc => ⟨fun _ => mo_in.mpr ⟨fun z => ?_, fun z => ?_⟩, fun q => absurd q (by decide)⟩) (fun hc => ⟨fun q => absurd rfl q, fun _ => o_thr F d (h1 hc)⟩)⟩
  · rw [bI_0, Classical.not_not, e1, e50] at z
    obtain ⟨c, c1, rfl⟩ := isC_ex hc
    have hv : vp_in (8 + nI c) (zN Z (m + 1)) := by rw [e8, F.all.2.2]; exact vpn (by omega) (by omega)
    refine ⟨m + 1, F.all.1, F.all.2.1, hv, ?_⟩
    rw [e8, i_cl (8 + c) (by omega), d.1.th (by omega)]
    refine ⟨fun z2 => mo_save2 F d (fun M1 f1 d1 => mo_puts F d1.1 (by omega) (fun M2 f2 t2 => ⟨by rw [← e8]; exact hv, ?_⟩)), fun z2 => o_thr F d (h3 c c1 rfl z z2)⟩
    obtain ⟨g2, d2⟩ := d1.alF f2 t2 (by simp)
    rw [t2.th (by omega)]
    exact o_fine F d2 (fun M3 f3 d3 h3 => hQ c c1 rfl z z2 M3 ((f1.trans g2).trans f3) d3 h3)
  · rw [bI_0, e1, e50] at z
    exact o_thr F d (h2 hc z)
theorem o_saw {v u : Int32} {Q : Int32 → MM → Prop} (F : ModAt Z m) (d : MdI M m g sk n tx len) (w : WH g W H) (ok : CtOk W H (gc g)) (h1 : ¬ isC W H v → ∀ r M1, FrO m M M1 → MdI M1 m g sk n tx len → mI M1 15 m = 1 → Q r M1) (h2 : isC W H v → ¬ (0 ≤ u.toInt ∧ u.toInt ≤ 3) → ∀ r M1, FrO m M M1 → MdI M1 m g sk n tx len → mI M1 15 m = 2 → Q r M1)
    (h3 : ∀ c s, c < W * H → v = nI c → s < 4 → u = nI s → ¬ (s = 2 ∨ (bs W H c s).isSome = true) → ∀ r M1, FrO m M M1 → MdI M1 m g sk n tx len → mI M1 15 m = 3 → Q r M1)
    (hQ : ∀ c s, c < W * H → v = nI c → s < 4 → u = nI s → (s = 2 ∨ (bs W H c s).isSome = true) → ∀ M1, FrO m M M1 → MdI M1 m (csS W H g c s).2 (pushS sk n g) (pc n) tx len → mI M1 15 m = 0 → Q (csS W H g c s).1 M1) : P_X6_saw Z M m v u Q := by
  have h49 : W * H ≤ 49 := wh_lt w.2.2.2.1 w.2.2.2.2.2
  have e0 : (0 : Int64).toInt = 0 := by decide
  have e3 : (3 : Int64).toInt = 3 := by decide
  unfold P_X6_saw B_X6_saw_0
  refine ⟨F.1, mo_isCell F d.1 w (fun hc => ⟨fun _ => mo_in.mpr ⟨fun z => ?_, fun z => ?_⟩, fun q => absurd q (by decide)⟩) (fun hc => ⟨fun q => absurd rfl q, fun _ => o_thr F d (h1 hc)⟩)⟩
  · rw [bI_0, Classical.not_not, e0, e3] at z
    obtain ⟨c, c1, rfl⟩ := isC_ex hc
    obtain ⟨s, s1, rfl⟩ := small_ex (n := 3) z.1 z.2 (by omega)
    refine (mo_canSaw F d.1 w c1 (by omega)).mpr ⟨fun z2 => mo_save2 F d (fun M1 f1 d1 => mo_saws F d1.1 w ok c1 (by omega) (fun M2 f2 t2 => ?_)), fun z2 => ?_⟩
    · rw [bI_0, Classical.not_not] at z2
      obtain ⟨g2, d2⟩ := d1.alF f2 t2 (by simp)
      exact o_fine F d2 (fun M3 f3 d3 h3 => hQ c s c1 rfl (by omega) rfl z2 M3 ((f1.trans g2).trans f3) d3 h3)
    · rw [bI_0] at z2
      exact o_thr F d (h3 c s c1 rfl (by omega) rfl z2)
  · rw [bI_0, e0, e3] at z
    exact o_thr F d (h2 hc z)
/-- a rectangle in small numbers -/
theorem isR_ex {c : Nat} {v h : Int32} (hc : c < W * H) (r : isR W H c v h) : ∃ a b, 1 ≤ a ∧ 1 ≤ b ∧ v = nI a ∧ h = nI b ∧ c % W + a ≤ W ∧ c / W + b ≤ H := by
  obtain ⟨r1, r2, r3, r4, r5, r6⟩ := r
  obtain ⟨a, a1, rfl⟩ := small_ex (n := 7) (by omega) r2 (by omega)
  obtain ⟨b, b1, rfl⟩ := small_ex (n := 7) (by omega) r4 (by omega)
  rw [i_toInt a (by omega)] at r1 r5
  rw [i_toInt b (by omega)] at r3 r6
  exact ⟨a, b, by omega, by omega, rfl, rfl, by omega, by omega⟩
theorem o_sa {v u x : Int32} {Q : Int32 → MM → Prop} (F : ModAt Z m) (d : MdI M m g sk n tx len) (w : WH g W H) (ok : CtOk W H (gc g)) (h1 : ¬ isC W H v → ∀ r M1, FrO m M M1 → MdI M1 m g sk n tx len → mI M1 15 m = 1 → Q r M1) (h2 : ∀ c, c < W * H → v = nI c → ¬ isR W H c u x → ∀ r M1, FrO m M M1 → MdI M1 m g sk n tx len → mI M1 15 m = 2 → Q r M1)
    (hQ : ∀ c a b, c < W * H → v = nI c → isR W H c u x → 1 ≤ a → 1 ≤ b → u = nI a → x = nI b → c % W + a ≤ W → c / W + b ≤ H → ∀ M1, FrO m M M1 → MdI M1 m (recS W H g c a b).2 (pushS sk n g) (pc n) tx len → CtOk W H (gc (recS W H g c a b).2) → WH (recS W H g c a b).2 W H → mI M1 15 m = 0 → Q (recS W H g c a b).1 M1) : P_X6_sawAround Z M m v u x Q := by
  unfold P_X6_sawAround B_X6_sawAround_0
  refine ⟨F.1, mo_isCell F d.1 w (fun hc => ⟨fun _ => ?_, fun q => absurd q (by decide)⟩) (fun hc => ⟨fun q => absurd rfl q, fun _ => o_thr F d (h1 hc)⟩)⟩
  obtain ⟨c, c1, rfl⟩ := isC_ex hc
  refine mo_isRect F d.1 w c1 (fun hr => ⟨fun _ => ?_, fun q => absurd q (by decide)⟩) (fun hr => ⟨fun q => absurd rfl q, fun _ => o_thr F d (h2 c c1 rfl hr)⟩)
  obtain ⟨p, q, p1, q1, rfl, rfl, p2, q2⟩ := isR_ex c1 hr
  refine mo_save2 F d (fun M1 f1 d1 => mo_rect F d1.1 w ok p1 q1 p2 q2 (fun M2 f2 t2 w2 k2 => ?_))
  obtain ⟨g2, d2⟩ := d1.alF f2 t2 (by simp)
  exact o_fine F d2 (fun M3 f3 d3 h3 => hQ c p q c1 rfl hr p1 q1 rfl rfl p2 q2 M3 ((f1.trans g2).trans f3) d3 k2 w2 h3)
theorem o_cuts {v u x : Int32} {Q : Int32 → MM → Prop} (F : ModAt Z m) (d : MdI M m g sk n tx len) (w : WH g W H) (ok : CtOk W H (gc g)) (h1 : ¬ isC W H v → ∀ r M1, FrO m M M1 → MdI M1 m g sk n tx len → mI M1 15 m = 1 → Q r M1) (h2 : ∀ c, c < W * H → v = nI c → ¬ isR W H c u x → ∀ r M1, FrO m M M1 → MdI M1 m g sk n tx len → mI M1 15 m = 2 → Q r M1)
    (hQ : ∀ c a b, c < W * H → v = nI c → isR W H c u x → 1 ≤ a → 1 ≤ b → u = nI a → x = nI b → c % W + a ≤ W → c / W + b ≤ H → ∀ M1, FrO m M M1 → MdI M1 m g sk n tx len → mI M1 15 m = 0 → Q (recS W H g c a b).1 M1) : P_X6_cutsAround Z M m v u x Q := by
  unfold P_X6_cutsAround B_X6_cutsAround_0
  refine ⟨F.1, mo_isCell F d.1 w (fun hc => ⟨fun _ => ?_, fun q => absurd q (by decide)⟩) (fun hc => ⟨fun q => absurd rfl q, fun _ => o_thr F d (h1 hc)⟩)⟩
  obtain ⟨c, c1, rfl⟩ := isC_ex hc
  refine mo_isRect F d.1 w c1 (fun hr => ⟨fun _ => ?_, fun q => absurd q (by decide)⟩) (fun hr => ⟨fun q => absurd rfl q, fun _ => o_thr F d (h2 c c1 rfl hr)⟩)
  obtain ⟨p, q, p1, q1, rfl, rfl, p2, q2⟩ := isR_ex c1 hr
  refine mo_aside F (fun M1 f1 ha => ?_)
  obtain ⟨g1, d1⟩ := d.scF f1 (by simp)
  refine mo_rect F d1.1 w ok p1 q1 p2 q2 (fun M2 f2 t2 w2 k2 => mo_back (g := g) F (fun k hk => ?_) (fun M3 f3 t3 => ?_))
  · rw [f2.1 _ (by simp), ha k hk]; exact d.1 k hk
  · obtain ⟨g3, d3⟩ := d1.alF (f2.trans f3) t3 (by simp)
    exact o_fine F d3 (fun M4 f4 d4 h4 => hQ c p q c1 rfl hr p1 q1 rfl rfl p2 q2 M4 ((g1.trans g3).trans f4) d4 h4)
end
