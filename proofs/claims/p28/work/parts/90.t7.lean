/-! PURE: a second object beside the first -/
/-- what stood below stays -/
def UX (a : Nat) (Z : ZZ) (M : MM) (Z1 : ZZ) (M1 : MM) : Prop := Ex 0 a Z Z1 ∧ GX a Z Z1 ∧ FrX a M M1
section
variable {a : Nat} {Q : Nat → ZZ → MM → Prop}
theorem init_loop2 {Zr : ZZ} {Mr : MM} (hQ : ∀ s Z1 M1, a + 77 ≤ s → FieldAt Z1 a → ClsI M1 a G0 (fun _ => G0) 0 0 (fun _ => 0) 0 → UX a Zr Mr Z1 M1 → Q s Z1 M1) : ∀ k j Z M, j + k = 4 → FldJ j Z a → MemJ M a → UX a Zr Mr Z M → L_X5_init Q (k + 1) (a + 41 + 9 * j) Z M a (nI j) := by
  intro k
  induction k with
  | zero =>
    intro j Z M hj F hM U
    obtain rfl : j = 4 := by omega
    obtain ⟨⟨a0, a1, a2, a3, a4, a5, a6, a7⟩, ⟨b0, b1, b2, b3, b4⟩, c0⟩ := F
    show B_X5_init Q (L_X5_init Q 0) (a + 41 + 9 * 4) Z M a (nI 4)
    unfold B_X5_init
    refine ⟨a0, a + 19, a3, b2, fun _ => ⟨a0, a + 1, a1, b0.1, a0, a + 1, a1, b0.1, ?_⟩, fun q => absurd (by rw [b3]; exact nI_le (Nat.le_refl _) (by omega)) q⟩
    have hm : mI (setI M 2 (a + 1) 1) 2 (a + 1) = gs g00 2 := by rw [mI_setI, if_pos ⟨rfl, rfl⟩]; rfl
    refine sp_begin (W := 4) (H := 4) b0 g00 hm (fun M1 f1 t1 => fun s1 hs1 => ⟨a0, a + 1, a1, b0.1, ?_⟩)
    have w1 : WH (begS g00 4 4) 4 4 := ⟨rfl, rfl, by omega, by omega, by omega, by omega⟩
    refine sp_addEv b0 t1 w1 (fun M2 f2 t2 => fun s2 hs2 => hQ s2 Z M2 (by omega) ⟨⟨a0, a1, a2, a3, a4, a5, a6, a7⟩, ⟨b0, b1, b2, b3, b4⟩, c0⟩ ⟨t2, ⟨?_, by omega, ?_, by omega, fun i hi => absurd hi (by omega)⟩, fun i _ => ?_, ?_, by omega⟩ ⟨U.1, U.2.1, U.2.2.trans ⟨fun b hb => by rw [f2.1 _ (by simp; omega), f1.1 _ (by simp; omega)]; rfl, fun f b hb => by rw [f2.2.1 _ _ (by simp; omega), f1.2.1 _ _ (by simp; omega), mI_setI, if_neg (by omega)]⟩⟩)
    · rw [f2.2.1 _ _ (by simp), f1.2.1 _ _ (by simp), mI_setI, if_neg (by omega)]; exact hM.1
    · rw [f2.2.1 _ _ (by simp), f1.2.1 _ _ (by simp), mI_setI, if_neg (by omega)]; exact hM.2.1
    · rw [f2.1 _ (by simp), f1.1 _ (by simp)]; exact hM.2.2.2 i
    · rw [f2.2.1 _ _ (by simp), f1.2.1 _ _ (by simp), mI_setI, if_neg (by omega)]; exact hM.2.2.1
  | succ k ih =>
    intro j Z M hj F hM U
    obtain ⟨⟨a0, a1, a2, a3, a4, a5, a6, a7⟩, ⟨b0, b1, b2, b3, b4⟩, c0⟩ := id F
    show B_X5_init Q (L_X5_init Q (k + 1)) (a + 41 + 9 * j) Z M a (nI j)
    unfold B_X5_init
    refine ⟨a0, a + 19, a3, b2, fun q => absurd q ?_, fun _ => ⟨a0, a + 19, a3, ice_init (fun Z1 M1 i1 e1 g1 f1 => ?_)⟩⟩
    · rw [b3, n_le (by omega) (by omega)]; omega
    have k1 : zK Z1 (a + 19) = 8 := (e1.1 _ (by omega) (by omega)).trans b2
    have n1 : zN Z1 (a + 19) = 4 := (e1.2.1 _ (by omega) (by omega)).trans b3
    refine ⟨k1, i1.1, by rw [n1]; exact vpn (by omega) (by omega), ?_⟩
    rw [i_cl j (by omega), nI_1]
    have e2 : Ex 0 (a + 41 + 9 * j + 9) Z1 (setG Z1 (a + 19) (va_up (zG Z1 (a + 19)) j (some (a + 41 + 9 * j)))) := Ex.setG _ _
    have gat : ∀ i, zG (setG Z1 (a + 19) (va_up (zG Z1 (a + 19)) j (some (a + 41 + 9 * j)))) (a + 19) i = if i = j then some (a + 41 + 9 * j) else zG Z (a + 19) i := fun i => by
      rw [zG_setG, if_pos rfl]
      show (if i = j then some (a + 41 + 9 * j) else zG Z1 (a + 19) i) = _
      rw [g1 (a + 19) (by omega)]
    have F1 : FldJ j (setG Z1 (a + 19) (va_up (zG Z1 (a + 19)) j (some (a + 41 + 9 * j)))) a := F.ex (e1.trans (e2.sub (Nat.le_refl 0) (by omega))) (fun i hi => by rw [gat, if_neg (by omega)]) (Nat.zero_le _) (Nat.le_refl _)
    obtain ⟨A, ⟨B0, B1, B2, B3, B4⟩, C⟩ := F1
    refine ih (j + 1) _ M1 (by omega) ⟨A, ⟨B0, B1, B2, B3, fun i hi => ?_⟩, C⟩ (hM.fx f1 (by omega)) ⟨U.1.trans ((e1.sub (Nat.le_refl 0) (by omega)).trans (e2.sub (Nat.le_refl 0) (by omega))), fun b hb => by rw [zG_setG, if_neg (by omega), g1 b (by omega)]; exact U.2.1 b hb, U.2.2.trans (f1.sub (by omega))⟩
    by_cases e : i = j
    · subst e
      exact ⟨by rw [gat, if_pos rfl], i1.ex e2 (Nat.zero_le _) (by omega)⟩
    · exact B4 i (by omega)
theorem field_init2 {Z : ZZ} {M : MM} (hQ : ∀ s Z1 M1, a + 77 ≤ s → FieldAt Z1 a → ClsI M1 a G0 (fun _ => G0) 0 0 (fun _ => 0) 0 → UX a Z M Z1 M1 → Q s Z1 M1) : P_X5_init (a + 1) (addO Z a 5) (zeroI M a) a Q := by
  unfold P_X5_init
  refine ice_init (fun Z1 M1 i1 e1 g1 f1 => ?_)
  have k1 : zK Z1 a = 5 := by rw [e1.1 a (by omega) (by omega), zK_addO, if_pos rfl]
  refine ⟨k1, ice_init (fun Z2 M2 i2 e2 g2 f2 => ?_)⟩
  have k2 : zK Z2 a = 5 := (e2.1 a (by omega) (by omega)).trans k1
  have k2' : zK (addA (setR Z2 14 a (some (a + 1 + 9))) (a + 1 + 9 + 9) 8 4) a = 5 := by rw [zK_addA, if_neg (by omega)]; exact k2
  refine ⟨k2, k2', k2', k2', text_init (fun Z3 M3 i3 e3 g3 f3 t8 ta => ?_)⟩
  have k3 : zK Z3 a = 5 := (e3.1 a (by omega) (by omega)).trans k2'
  refine ⟨k3, blk_init (fun Z4 M4 i4 e4 g4 f4 => ?_)⟩
  have k4 : zK Z4 a = 5 := (e4.1 a (by omega) (by omega)).trans k3
  refine ⟨k4, way_init (fun Z5 M5 i5 e5 g5 f5 => ?_)⟩
  have k5 : zK Z5 a = 5 := (e5.1 a (by omega) (by omega)).trans k4
  refine ⟨k5, num_init (k := 49) (by omega) (fun Z6 M6 i6 e6 g6 f6 _ => ?_)⟩
  have k6 : zK Z6 a = 5 := (e6.1 a (by omega) (by omega)).trans k5
  refine ⟨k6, ?_⟩
  have r1 : RK a [(13, a + 1)] (setR Z1 13 a (some (a + 1))) := (RK.nil a Z1).set (by simp)
  have r2 : RK a [(14, a + 10), (13, a + 1)] (setR Z2 14 a (some (a + 10))) := (r1.ex e2 (Nat.zero_le _) (by omega)).set (by simp)
  have r2' : RK a [(15, a + 19), (14, a + 10), (13, a + 1)] (setR (addA (setR Z2 14 a (some (a + 10))) (a + 19) 8 4) 15 a (some (a + 19))) := (r2.ex (Ex.addA (lo := 0) (hi := a + 19) _ 8 4 (Nat.le_refl _)) (Nat.zero_le _) (by omega)).set (by simp)
  have r3 : RK a [(16, a + 20), (15, a + 19), (14, a + 10), (13, a + 1)] (setR Z3 16 a (some (a + 20))) := (r2'.ex e3 (Nat.zero_le _) (by omega)).set (by simp)
  have r4 : RK a [(17, a + 23), (16, a + 20), (15, a + 19), (14, a + 10), (13, a + 1)] (setR Z4 17 a (some (a + 23))) := (r3.ex e4 (Nat.zero_le _) (by omega)).set (by simp)
  have r5 : RK a [(18, a + 30), (17, a + 23), (16, a + 20), (15, a + 19), (14, a + 10), (13, a + 1)] (setR Z5 18 a (some (a + 30))) := (r4.ex e5 (Nat.zero_le _) (by omega)).set (by simp)
  have r6 : RK a [(19, a + 39), (18, a + 30), (17, a + 23), (16, a + 20), (15, a + 19), (14, a + 10), (13, a + 1)] (setR Z6 19 a (some (a + 39))) := (r5.ex e6 (Nat.zero_le _) (by omega)).set (by simp)
  have t6 : ∀ lo hi, a < lo → Ex lo hi Z6 (setR Z6 19 a (some (a + 39))) := fun lo hi h => Ex.setR Z6 19 _ (Or.inl h)
  have t5 : ∀ lo hi, a < lo → hi ≤ a + 39 → Ex lo hi Z5 (setR Z6 19 a (some (a + 39))) := fun lo hi h h2 => ((Ex.setR Z5 18 _ (Or.inl h)).trans (e6.sub (Nat.zero_le _) h2)).trans (t6 lo hi h)
  have t4 : ∀ lo hi, a < lo → hi ≤ a + 30 → Ex lo hi Z4 (setR Z6 19 a (some (a + 39))) := fun lo hi h h2 => ((Ex.setR Z4 17 _ (Or.inl h)).trans (e5.sub (Nat.zero_le _) h2)).trans (t5 lo hi h (by omega))
  have t3 : ∀ lo hi, a < lo → hi ≤ a + 23 → Ex lo hi Z3 (setR Z6 19 a (some (a + 39))) := fun lo hi h h2 => ((Ex.setR Z3 16 _ (Or.inl h)).trans (e4.sub (Nat.zero_le _) h2)).trans (t4 lo hi h (by omega))
  have t2' : ∀ lo hi, a < lo → hi ≤ a + 20 → Ex lo hi (addA (setR Z2 14 a (some (a + 10))) (a + 19) 8 4) (setR Z6 19 a (some (a + 39))) := fun lo hi h h2 => ((Ex.setR _ 15 _ (Or.inl h)).trans (e3.sub (Nat.zero_le _) h2)).trans (t3 lo hi h (by omega))
  have t2 : ∀ lo hi, a < lo → hi ≤ a + 19 → Ex lo hi Z2 (setR Z6 19 a (some (a + 39))) := fun lo hi h h2 => ((Ex.setR _ 14 _ (Or.inl h)).trans (Ex.addA _ 8 4 h2)).trans (t2' lo hi h (by omega))
  have t1 : ∀ lo hi, a < lo → hi ≤ a + 10 → Ex lo hi Z1 (setR Z6 19 a (some (a + 39))) := fun lo hi h h2 => ((Ex.setR Z1 13 _ (Or.inl h)).trans (e2.sub (Nat.zero_le _) h2)).trans (t2 lo hi h (by omega))
  have F0 : FldJ 0 (setR Z6 19 a (some (a + 39))) a := by
    refine ⟨⟨k6, r6 (13, a + 1) (by simp), r6 (14, a + 10) (by simp), r6 (15, a + 19) (by simp), r6 (16, a + 20) (by simp), r6 (17, a + 23) (by simp), r6 (18, a + 30) (by simp), r6 (19, a + 39) (by simp)⟩, ⟨i1.ex (t1 (a + 1) (a + 10) (by omega) (by omega)) (by omega) (by omega), i2.ex (t2 (a + 10) (a + 19) (by omega) (by omega)) (by omega) (by omega), ?_, ?_, fun i hi => absurd hi (by omega)⟩, i3.ex (t3 (a + 20) (a + 23) (by omega) (by omega)) (by omega) (by omega), i4.ex (t4 (a + 23) (a + 30) (by omega) (by omega)) (by omega) (by omega), i5.ex (t5 (a + 30) (a + 39) (by omega) (by omega)) (by omega) (by omega), i6.ex (t6 (a + 39) (a + 41) (by omega)) (by omega) (by omega)⟩
    · rw [(t2' (a + 19) (a + 20) (by omega) (by omega)).1 (a + 19) (by omega) (by omega), zK_addA, if_pos rfl]
    · rw [(t2' (a + 19) (a + 20) (by omega) (by omega)).2.1 (a + 19) (by omega) (by omega), zN_addA, if_pos rfl]
  have hM : MemJ M6 a := by
    refine ⟨?_, ?_, ?_, fun i => ?_⟩
    · rw [f6.2 _ _ (by omega), f5.2 _ _ (by omega), f4.2 _ _ (by omega), f3.2 _ _ (by omega), mI_setI, if_neg (by omega), mI_setI, if_pos ⟨rfl, rfl⟩]
    · rw [f6.2 _ _ (by omega), f5.2 _ _ (by omega), f4.2 _ _ (by omega), f3.2 _ _ (by omega), mI_setI, if_pos ⟨rfl, rfl⟩]
    · rw [f6.2 _ _ (by omega), f5.2 _ _ (by omega), f4.2 _ _ (by omega)]; exact t8
    · rw [f6.1 _ (by omega), f5.1 _ (by omega), f4.1 _ (by omega)]; exact ta i
  have U : UX a Z M (setR Z6 19 a (some (a + 39))) M6 := by
    have sR : ∀ (Y : ZZ) (r : Nat) (y : Option Nat), Ex 0 a Y (setR Y r a y) := fun Y r y => Ex.setR Y r y (Or.inr (Nat.le_refl a))
    refine ⟨?_, ?_, ?_⟩
    · exact (((((((((((((Ex.addO Z 5 (Nat.le_refl a)).trans (e1.sub (Nat.le_refl 0) (by omega))).trans (sR Z1 13 _)).trans (e2.sub (Nat.le_refl 0) (by omega))).trans (sR Z2 14 _)).trans (Ex.addA _ 8 4 (by omega))).trans (sR _ 15 _)).trans (e3.sub (Nat.le_refl 0) (by omega))).trans (sR Z3 16 _)).trans (e4.sub (Nat.le_refl 0) (by omega))).trans (sR Z4 17 _)).trans (e5.sub (Nat.le_refl 0) (by omega))).trans ((sR Z5 18 _).trans ((e6.sub (Nat.le_refl 0) (by omega)).trans (sR Z6 19 _))))
    · intro b hb
      rw [gR, g6 b (by omega), gR, g5 b (by omega), gR, g4 b (by omega), gR, g3 b (by omega), gR, zG_addA, if_neg (by omega), gR, g2 b (by omega), gR, g1 b (by omega)]
      rfl
    · exact ((((((FrX.zeroI M (Nat.le_refl a)).trans (f1.sub (by omega))).trans (f2.sub (by omega))).trans ((FrX.setI M2 12 0 (Nat.le_refl a)).trans (FrX.setI _ 13 0 (Nat.le_refl a)))).trans (f3.sub (by omega))).trans ((f4.sub (by omega)).trans ((f5.sub (by omega)).trans (f6.sub (by omega)))))
  exact init_loop2 hQ 4 0 _ M6 rfl F0 hM U
end
section
variable {a b : Nat} {M M1 : MM} {g : GG} {sk : Nat → GG} {n ns len W H T : Nat} {tx : Nat → Int32}
theorem ClsI.oth (c : ClsI M b g sk n ns tx len) (f : FrC a M M1) (hd : a + 77 ≤ b ∨ b + 77 ≤ a) : ClsI M1 b g sk n ns tx len := by
  obtain ⟨c1, ⟨c2, c3, c4, c5, c6⟩, c7, c8, c9⟩ := c
  have ic : ∀ x g1, b ≤ x → x + 6 < b + 77 → IceS M x g1 → IceS M1 x g1 := fun x g1 hx hx2 t => by
    refine ⟨fun k hk => ?_, fun i hi => ?_, fun i hi => ?_, fun i hi => ?_⟩
    · rw [f.2.1 _ _ (by omega)]; exact t.1 k hk
    · rw [f.1 _ (by omega)]; exact t.2.1 i hi
    · rw [f.1 _ (by omega)]; exact t.2.2.1 i hi
    · rw [f.1 _ (by omega)]; exact t.2.2.2 i hi
  refine ⟨ic _ _ (by omega) (by omega) c1, ⟨?_, c3, ?_, c5, fun i hi => ic _ _ (by omega) (by omega) (c6 i hi)⟩, fun i hi => ?_, ?_, c9⟩
  · rw [f.2.1 _ _ (by omega)]; exact c2
  · rw [f.2.1 _ _ (by omega)]; exact c4
  · rw [f.1 _ (by omega)]; exact c7 i hi
  · rw [f.2.1 _ _ (by omega)]; exact c8
theorem ClsI.up {lo : Nat} (c : ClsI M b g sk n ns tx len) (f : FrX lo M M1) (hd : b + 77 ≤ lo) : ClsI M1 b g sk n ns tx len := by
  obtain ⟨c1, ⟨c2, c3, c4, c5, c6⟩, c7, c8, c9⟩ := c
  have ic : ∀ x g1, x + 6 < b + 77 → IceS M x g1 → IceS M1 x g1 := fun x g1 hx2 t => by
    refine ⟨fun k hk => ?_, fun i hi => ?_, fun i hi => ?_, fun i hi => ?_⟩
    · rw [f.2 _ _ (by omega)]; exact t.1 k hk
    · rw [f.1 _ (by omega)]; exact t.2.1 i hi
    · rw [f.1 _ (by omega)]; exact t.2.2.1 i hi
    · rw [f.1 _ (by omega)]; exact t.2.2.2 i hi
  refine ⟨ic _ _ (by omega) c1, ⟨?_, c3, ?_, c5, fun i hi => ic _ _ (by omega) (c6 i hi)⟩, fun i hi => ?_, ?_, c9⟩
  · rw [f.2 _ _ (by omega)]; exact c2
  · rw [f.2 _ _ (by omega)]; exact c4
  · rw [f.1 _ (by omega)]; exact c7 i hi
  · rw [f.2 _ _ (by omega)]; exact c8
/-- one cell's facts -/
theorem so_cell (o : OkG g W H T) {c : Nat} (hc : c < W * H) : (¬ gt g c ≤ 0 ↔ ¬ lbG W H g c < 0) ∧ ¬ nI c < lbG W H g c ∧ (bfS W H g (lbG W H g c) 4 < 0 ∨ (¬ bfS W H g (lbG W H g c) 4 < 0 ∧ bfS W H g (lbG W H g c) 3 = 0 ∧ ¬ bfS W H g (lbG W H g c) 4 < nI H - lbG W H g c / nI W)) := by
  obtain ⟨hW, hH, h0, hH0, h49⟩ := o.le
  rcases lb_cases (g := g) h0 h49 c with y | ⟨k, k1, k2, k3⟩
  · have z : gt g c ≤ 0 := Classical.byContradiction (fun q => (lb_neg h49).mp y ⟨hc, q⟩)
    rw [y]
    refine ⟨⟨fun q => absurd z q, fun q => absurd (by decide) q⟩, fun q => ?_, Or.inl (by unfold bfS; rw [if_pos rfl]; decide)⟩
    rw [i_lt, i_toInt c (by omega), show ((-1 : Int32)).toInt = -1 from rfl] at q
    omega
  · obtain ⟨r1, _, r3, _⟩ := labS_root (ct := gc g) h0 h49 (show k < 49 by omega) k2
    rw [k2]
    obtain ⟨p1, p2, p3, p4⟩ := bf_at (g := g) (W := W) (H := H) (n := k) (by omega)
    refine ⟨⟨fun _ => i_nn k (by omega), fun _ => r3⟩, fun q => ?_, ?_⟩
    · rw [n_lt (by omega) (by omega)] at q; omega
    · rw [p3, p4]
      unfold wayG
      by_cases l : looG W H g k
      · rw [if_pos l, if_pos l]
        by_cases z : wayI (farG W H g k) = -1
        · rw [z]; exact Or.inl (by decide)
        · obtain ⟨j, j1, j2, j3⟩ := way_low (H := H) z
          rw [j2]
          refine Or.inr ⟨i_nn j (by omega), rfl, fun q => ?_⟩
          have hr : k / W < H := Nat.div_lt_of_lt_mul k1
          rw [n_div (by omega) (by omega) h0, n_sub (by omega), n_lt (by omega) (by omega)] at q
          omega
      · rw [if_neg l]; exact Or.inl (by decide)
end
