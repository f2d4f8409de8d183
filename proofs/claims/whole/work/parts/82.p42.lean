/-! PURE: the constructor of the model, the whole -/
theorem kR (Z : ZZ) (r a : Nat) (y : Option Nat) (b : Nat) : zK (setR Z r a y) b = zK Z b := rfl
theorem nR (Z : ZZ) (r a : Nat) (y : Option Nat) (b : Nat) : zN (setR Z r a y) b = zN Z b := rfl
theorem rA (Z : ZZ) (a k n r b : Nat) : zR (addA Z a k n) r b = zR Z r b := rfl
theorem nO (Z : ZZ) (a k b : Nat) : zN (addO Z a k) b = zN Z b := rfl
def zM (Z : ZZ) (m : Nat) : ZZ := setR (addA (setR (addA (setR (addA (setR (addA (setR (addA (setR (addA (setR (addA (addO Z m 6) (m + 1) 7 226) 20 m (some (m + 1))) (m + 2) 7 904) 21 m (some (m + 2))) (m + 3) 7 226) 22 m (some (m + 3))) (m + 4) 7 49) 23 m (some (m + 4))) (m + 5) 7 225) 24 m (some (m + 5))) (m + 6) 7 49) 25 m (some (m + 6))) (m + 7) 7 60) 26 m (some (m + 7))
theorem zM_at (Z : ZZ) (m : Nat) : ModAt (zM Z m) m := by
  unfold ModAt RowAt zM
  simp only [kR, nR, zR_setR, rA, zK_addA, zN_addA, zK_addO, nO]
  simp
theorem zM_ex (Z : ZZ) (m : Nat) : Ex 0 m Z (zM Z m) ∧ GX m Z (zM Z m) := by
  have sR : ∀ (Z1 : ZZ) r y, Ex 0 m Z Z1 ∧ GX m Z Z1 → Ex 0 m Z (setR Z1 r m y) ∧ GX m Z (setR Z1 r m y) := fun Z1 r y h => ⟨h.1.trans (Ex.setR Z1 r y (Or.inr (Nat.le_refl m))), h.2⟩
  have sA : ∀ (Z1 : ZZ) b k n, m ≤ b → Ex 0 m Z Z1 ∧ GX m Z Z1 → Ex 0 m Z (addA Z1 b k n) ∧ GX m Z (addA Z1 b k n) := fun Z1 b k n hb h => ⟨h.1.trans (Ex.addA Z1 k n hb), h.2.trans (GX.addA Z1 k n hb)⟩
  have s0 : Ex 0 m Z (addO Z m 6) ∧ GX m Z (addO Z m 6) := ⟨Ex.addO Z 6 (Nat.le_refl m), fun _ _ => rfl⟩
  unfold zM
  exact sR _ _ _ (sA _ _ _ _ (by omega) (sR _ _ _ (sA _ _ _ _ (by omega) (sR _ _ _ (sA _ _ _ _ (by omega) (sR _ _ _ (sA _ _ _ _ (by omega) (sR _ _ _ (sA _ _ _ _ (by omega) (sR _ _ _ (sA _ _ _ _ (by omega) (sR _ _ _ (sA _ _ _ _ (by omega) s0)))))))))))))
theorem enc00 : ∀ k, k < 226 → enc g00 k = if k = 2 then 1 else 0 := by
  intro k hk
  unfold enc
  by_cases h8 : k < 8
  · rw [if_pos h8]
    obtain rfl | rfl | rfl | rfl | rfl | rfl | rfl | rfl : k = 0 ∨ k = 1 ∨ k = 2 ∨ k = 3 ∨ k = 4 ∨ k = 5 ∨ k = 6 ∨ k = 7 := by omega
    all_goals rfl
  · rw [if_neg h8, if_neg (by omega : ¬ k = 2)]
    by_cases h57 : k < 57
    · rw [if_pos h57]; rfl
    · rw [if_neg h57]
      by_cases h106 : k < 106
      · rw [if_pos h106]
        have z : ∀ p, gc g00 p = 0 := fun _ => rfl
        unfold bts
        simp only [z]
        have e : ¬ ((0 : Int32) = 1) := by decide
        rw [if_neg (fun q => e q.2.2), if_neg (fun q => e q.2), if_neg (fun q => e q.2.2)]
        rfl
      · rw [if_neg h106]; rfl
theorem kA6 {Z : ZZ} {m b k n : Nat} (hb : m ≠ b) (h : zK Z m = 6) : zK (addA Z b k n) m = 6 := by rw [zK_addA, if_neg hb]; exact h
theorem kR6 {Z : ZZ} {m r a : Nat} {y : Option Nat} (h : zK Z m = 6) : zK (setR Z r a y) m = 6 := h
section
variable {a m : Nat} {Q : Nat → ZZ → MM → Prop}
theorem model_init {Z : ZZ} {M : MM} (FF : FieldAt Z a) (ha : a + 77 ≤ m) (c : ClsI M a G0 (fun _ => G0) 0 0 (fun _ => 0) 0) (hQ : ∀ s Z1 M1, m + 8 ≤ s → FieldAt Z1 a → ModAt Z1 m → ClsI M1 a G0 (fun _ => G0) 0 0 (fun _ => 0) 0 → MdI M1 m G0 (fun _ => G0) 0 (fun _ => 0) 0 → Q s Z1 M1) : P_X6_init (m + 1) (addO Z m 6) (zeroI M m) m Q := by
  have D := zM_at Z m
  have F1 : FieldAt (zM Z m) a := FF.ex (zM_ex Z m).1 (zM_ex Z m).2 (Nat.zero_le _) ha
  unfold P_X6_init
  refine ⟨?_, ?_, ?_, ?_, ?_, ?_, ?_, D.1, m + 1, D.all.1, D.all.2.1, ?_, D.1, ?_⟩
  · exact kA6 (by omega) (by rw [zK_addO, if_pos rfl])
  · exact kA6 (by omega) (kR6 (kA6 (by omega) (by rw [zK_addO, if_pos rfl])))
  · exact kA6 (by omega) (kR6 (kA6 (by omega) (kR6 (kA6 (by omega) (by rw [zK_addO, if_pos rfl])))))
  · exact kA6 (by omega) (kR6 (kA6 (by omega) (kR6 (kA6 (by omega) (kR6 (kA6 (by omega) (by rw [zK_addO, if_pos rfl])))))))
  · exact kA6 (by omega) (kR6 (kA6 (by omega) (kR6 (kA6 (by omega) (kR6 (kA6 (by omega) (kR6 (kA6 (by omega) (by rw [zK_addO, if_pos rfl])))))))))
  · exact kA6 (by omega) (kR6 (kA6 (by omega) (kR6 (kA6 (by omega) (kR6 (kA6 (by omega) (kR6 (kA6 (by omega) (kR6 (kA6 (by omega) (by rw [zK_addO, if_pos rfl])))))))))))
  · exact kA6 (by omega) (kR6 (kA6 (by omega) (kR6 (kA6 (by omega) (kR6 (kA6 (by omega) (kR6 (kA6 (by omega) (kR6 (kA6 (by omega) (kR6 (kA6 (by omega) (by rw [zK_addO, if_pos rfl])))))))))))))
  · show vp_in 2 (zN (zM Z m) (m + 1))
    rw [D.all.2.2]; exact vpn (k := 2) (by omega) (by omega)
  -- the memory at the begin
  generalize hMM : (setA (setA (setA (setA (setA (setA (setA (zeroI M m) (m + 1) (fun _ => 0)) (m + 1 + 1) (fun _ => 0)) (m + 1 + 1 + 1) (fun _ => 0)) (m + 1 + 1 + 1 + 1) (fun _ => 0)) (m + 1 + 1 + 1 + 1 + 1) (fun _ => 0)) (m + 1 + 1 + 1 + 1 + 1 + 1) (fun _ => 0)) (m + 1 + 1 + 1 + 1 + 1 + 1 + 1) (fun _ => 0)) = M0
  have hA : ∀ b, m < b → b < m + 8 → ∀ i, mA M0 b i = 0 := by
    intro b h1 h2 i
    rw [← hMM]
    obtain rfl | rfl | rfl | rfl | rfl | rfl | rfl : b = m + 1 ∨ b = m + 2 ∨ b = m + 3 ∨ b = m + 4 ∨ b = m + 5 ∨ b = m + 6 ∨ b = m + 7 := by omega
    · rw [mA_ne _ _ _ (by omega), mA_ne _ _ _ (by omega), mA_ne _ _ _ (by omega), mA_ne _ _ _ (by omega), mA_ne _ _ _ (by omega), mA_ne _ _ _ (by omega), mA_same]
    · rw [mA_ne _ _ _ (by omega), mA_ne _ _ _ (by omega), mA_ne _ _ _ (by omega), mA_ne _ _ _ (by omega), mA_ne _ _ _ (by omega), mA_same]
    · rw [mA_ne _ _ _ (by omega), mA_ne _ _ _ (by omega), mA_ne _ _ _ (by omega), mA_ne _ _ _ (by omega), mA_same]
    · rw [mA_ne _ _ _ (by omega), mA_ne _ _ _ (by omega), mA_ne _ _ _ (by omega), mA_same]
    · rw [mA_ne _ _ _ (by omega), mA_ne _ _ _ (by omega), mA_same]
    · rw [mA_ne _ _ _ (by omega), mA_same]
    · rw [mA_same]
  have hB : ∀ b, (b ≤ m ∨ m + 8 ≤ b) → mA M0 b = mA M b := by
    intro b hb
    rw [← hMM]
    rw [mA_ne _ _ _ (by omega), mA_ne _ _ _ (by omega), mA_ne _ _ _ (by omega), mA_ne _ _ _ (by omega), mA_ne _ _ _ (by omega), mA_ne _ _ _ (by omega), mA_ne _ _ _ (by omega)]
    rfl
  have hI : ∀ f b, mI M0 f b = if b = m then 0 else mI M f b := by
    intro f b
    rw [← hMM]; rfl
  have hJ : mJ M0 = mJ M := by rw [← hMM]; rfl
  have e2 : (2 : Int32).toNatClampNeg = 2 := by decide
  rw [e2]
  have f0 : FrO m M (setA M0 (m + 1) (upd (mA M0 (m + 1)) 2 1)) := by
    refine ⟨fun b hb => ?_, fun f b hb => ?_, hJ⟩
    · rw [mA_ne _ _ _ (by omega)]; exact hB b hb
    · rw [mI_setA, hI, if_neg hb]
  have t0 : MoS (setA M0 (m + 1) (upd (mA M0 (m + 1)) 2 1)) m g00 := fun k hk => by
    rw [mA_same, upd_at, enc00 k hk, hA (m + 1) (by omega) (by omega)]
  have d0 : MdI (setA M0 (m + 1) (upd (mA M0 (m + 1)) 2 1)) m g00 (fun _ => G0) 0 (fun _ => 0) 0 := by
    refine ⟨t0, ⟨?_, by omega, fun i hi => absurd hi (by omega)⟩, fun i _ => ?_, ?_⟩
    · rw [mI_setA, hI, if_pos rfl]; rfl
    · rw [mA_ne _ _ _ (by omega)]; exact hA (m + 7) (by omega) (by omega) i
    · rw [mI_setA, hI, if_pos rfl]; rfl
  show P_X6_makes (zM Z m) (setA M0 (m + 1) (upd (mA M0 (m + 1)) 2 1)) m (nI 4) (nI 4) (fun M74 => ∀ s74, m + 8 ≤ s74 → L_X6_init Q 17 s74 (zM Z m) M74 m 0)
  refine mo_makes D t0 (by omega) (by omega) (fun M1 f1 t1 s hs => ?_)
  obtain ⟨g1, d1⟩ := d0.alF f1 t1 (by simp)
  have loop : ∀ k i s M', i + k = 16 → m + 8 ≤ s → FrO m M M' → MdI M' m (addsS (begS g00 4 4) (fun _ => 10) i) (fun _ => G0) 0 (fun _ => 0) 0 → L_X6_init Q (k + 1) s (zM Z m) M' m (nI i) := by
    intro k
    induction k with
    | zero =>
      intro i s M' hi hs fO dd
      obtain rfl : i = 16 := by omega
      show B_X6_init Q (L_X6_init Q 0) s (zM Z m) M' m (nI 16)
      unfold B_X6_init
      exact ⟨fun _ => hQ s _ M' hs F1 D (c.mdl fO ha) dd, fun q => absurd (by decide) q⟩
    | succ k ih =>
      intro i s M' hi hs fO dd
      show B_X6_init Q (L_X6_init Q (k + 1)) s (zM Z m) M' m (nI i)
      unfold B_X6_init
      refine ⟨fun q => absurd q ?_, fun _ => ⟨D.1, mo_puts D dd.1 (by omega) (fun M2 f2 t2 s2 hs2 => ?_)⟩⟩
      · rw [show (16 : Int32) = nI 16 from rfl, n_le (by omega) (by omega)]; omega
      obtain ⟨g2, d2⟩ := dd.alF f2 t2 (by simp)
      rw [nI_1]
      exact ih (i + 1) s2 M2 (by omega) (by omega) (fO.trans g2) d2
  exact loop 16 0 s M1 rfl hs (f0.trans g1) d1
end
theorem lm4 {L : Nat} (hL : L ≤ 2048) : (nI L - 4).toInt = (L : Int) - 4 := by
  by_cases h : 4 ≤ L
  · rw [show (4 : Int32) = nI 4 from rfl, n_sub h, i_toInt (L - 4) (by omega)]; omega
  · obtain rfl | rfl | rfl | rfl : L = 0 ∨ L = 1 ∨ L = 2 ∨ L = 3 := by omega
    all_goals decide
theorem law_loop {Z : ZZ} {a m o L : Nat} {xs : Nat → Int32} (hL : L ≤ 2048) (F : FieldAt Z a) (D : ModAt Z m) (ho : zK Z o = 9 ∧ zN Z o = 1) (ha : a + 77 ≤ m) : ∀ k i M, i + k = 512 → Inv a m (49 * i) M → L_L_law_23 Z L xs (k + 1) M a m o (nI (4 * i)) := by
  intro k
  induction k with
  | zero =>
    intro i M hi I
    obtain rfl : i = 512 := by omega
    show B_L_law_23 Z L xs (L_L_law_23 Z L xs 0) M a m o (nI (4 * 512))
    unfold B_L_law_23
    refine ⟨fun _ => trivial, fun hv => absurd ?_ hv⟩
    rw [i_lt, lm4 hL, i_toInt (4 * 512) (by omega)]; omega
  | succ k ih =>
    intro i M hi I
    show B_L_law_23 Z L xs (L_L_law_23 Z L xs (k + 1)) M a m o (nI (4 * i))
    refine law_step F D ho ha (by omega) I (fun hv => ?_) (fun M1 I1 => ?_)
    · rw [i_lt, lm4 hL, i_toInt (4 * i) (by omega)] at hv
      have vv : ∀ j, j < L → vp_in (nI j) L := fun j hj => by
        rw [vp_in_iff, i_toInt j (by omega)]; omega
      rw [show (1 : Int32) = nI 1 from rfl, show (2 : Int32) = nI 2 from rfl, show (3 : Int32) = nI 3 from rfl, nI_add, nI_add, nI_add]
      exact ⟨vv _ (by omega), vv _ (by omega), vv _ (by omega), vv _ (by omega)⟩
    · rw [show (4 : Int32) = nI 4 from rfl, nI_add]
      have := ih (i + 1) M1 (by omega) (by rw [show 49 * (i + 1) = 49 * i + 49 by omega]; exact I1)
      rwa [show 4 * (i + 1) = 4 * i + 4 by omega] at this
theorem pure_main2 {L : Nat} {xs : Nat → Int32} {sz : Nat} (hL : L ≤ 2048) : pure_goal L xs sz := by
  unfold pure_goal
  refine field_init (fun m Z1 M1 hm F1 c1 => model_init F1 hm c1 (fun o Z2 M2 ho F2 D2 c2 d2 => ?_))
  have F3 : FieldAt (addA Z2 o 9 1) sz := F2.ex (Ex.addA (lo := 0) (hi := o) Z2 9 1 (Nat.le_refl o)) (GX.addA Z2 9 1 (Nat.le_refl o)) (Nat.zero_le _) (by omega)
  have D3 : ModAt (addA Z2 o 9 1) m := D2.ex (Ex.addA (lo := 0) (hi := o) Z2 9 1 (Nat.le_refl o)) (Nat.zero_le _) ho
  have ho3 : zK (addA Z2 o 9 1) o = 9 ∧ zN (addA Z2 o 9 1) o = 1 := ⟨by rw [zK_addA, if_pos rfl], by rw [zN_addA, if_pos rfl]⟩
  refine law_loop hL F3 D3 ho3 hm 512 0 _ rfl ⟨G0, fun _ => G0, 0, 0, fun _ => 0, 0, 4, 4, c2.j _ _, d2.j _ _, ?_, fun i hi => absurd hi (by omega)⟩
  exact (ok_beg (by omega) (by omega) (by omega) (by omega)).adds _ 16 (by omega)
