/-! PURE: the constructors of the class -/
section
variable {Z : ZZ} {M : MM} {x a : Nat} {Q : Nat → ZZ → MM → Prop}
theorem gR (Z : ZZ) (r a : Nat) (y : Option Nat) (b : Nat) : zG (setR Z r a y) b = zG Z b := rfl
theorem text_init (hQ : ∀ Z1 M1, TextAt Z1 x → Ex 0 x Z Z1 → GX x Z Z1 → FrX x M M1 → mI M1 8 x = 0 → (∀ i, mA M1 (x + 2) i = 0) → Q (x + 3) Z1 M1) : P_X3_init (x + 1) (addO Z x 3) (zeroI M x) x Q := by
  unfold P_X3_init
  refine num_init (k := 60) (by omega) (fun Z1 M1 n1 e1 g1 f1 z1 => ?_)
  have k : zK Z1 x = 3 := by rw [e1.1 x (by omega) (by omega), zK_addO, if_pos rfl]
  refine ⟨k, k, k, k, hQ _ _ ⟨k, by rw [zR_setR, if_pos ⟨rfl, rfl⟩], n1.ex (Ex.setR (lo := x + 1) (hi := x + 3) Z1 8 _ (Or.inl (by omega))) (by omega) (by omega)⟩ (((Ex.addO Z 3 (Nat.le_refl x)).trans (e1.sub (Nat.le_refl 0) (by omega))).trans (Ex.setR _ _ _ (Or.inr (Nat.le_refl _)))) (fun b hb => (g1 b (by omega))) ((((FrX.zeroI M (Nat.le_refl x)).trans (f1.sub (by omega))).trans (FrX.setI _ 8 0 (Nat.le_refl x))).trans ((FrX.setI _ 9 0 (Nat.le_refl x)).trans (FrX.setI _ 10 0 (Nat.le_refl x)))) ?_ z1⟩
  rw [mI_setI, if_neg (by omega), mI_setI, if_neg (by omega), mI_setI, if_pos ⟨rfl, rfl⟩]
theorem blk_init (hQ : ∀ Z1 M1, BlkAt Z1 x → Ex 0 x Z Z1 → GX x Z Z1 → FrX x M M1 → Q (x + 7) Z1 M1) : P_X0_init (x + 1) (addO Z x 0) (zeroI M x) x Q := by
  unfold P_X0_init
  refine num_init (k := 49) (by omega) (fun Z1 M1 n1 e1 g1 f1 _ => ?_)
  have k1 : zK Z1 x = 0 := by rw [e1.1 x (by omega) (by omega), zK_addO, if_pos rfl]
  refine ⟨k1, num_init (k := 49) (by omega) (fun Z2 M2 n2 e2 g2 f2 _ => ?_)⟩
  have k2 : zK Z2 x = 0 := (e2.1 x (by omega) (by omega)).trans k1
  refine ⟨k2, num_init (k := 49) (by omega) (fun Z3 M3 n3 e3 g3 f3 _ => ?_)⟩
  have k3 : zK Z3 x = 0 := (e3.1 x (by omega) (by omega)).trans k2
  have r1 : RK x [(0, x + 1)] (setR Z1 0 x (some (x + 1))) := (RK.nil x Z1).set (by simp)
  have r2 : RK x [(1, x + 3), (0, x + 1)] (setR Z2 1 x (some (x + 3))) := (r1.ex e2 (Nat.zero_le _) (by omega)).set (by simp)
  have r3 : RK x [(2, x + 5), (1, x + 3), (0, x + 1)] (setR Z3 2 x (some (x + 5))) := (r2.ex e3 (Nat.zero_le _) (by omega)).set (by simp)
  have t3 : ∀ lo hi, x < lo → Ex lo hi Z3 (setR Z3 2 x (some (x + 5))) := fun lo hi h => Ex.setR Z3 2 _ (Or.inl h)
  have t2 : ∀ lo hi, x < lo → hi ≤ x + 5 → Ex lo hi Z2 (setR Z3 2 x (some (x + 5))) := fun lo hi h h2 => ((Ex.setR Z2 1 _ (Or.inl h)).trans (e3.sub (Nat.zero_le _) h2)).trans (t3 lo hi h)
  have t1 : ∀ lo hi, x < lo → hi ≤ x + 3 → Ex lo hi Z1 (setR Z3 2 x (some (x + 5))) := fun lo hi h h2 => ((Ex.setR Z1 0 _ (Or.inl h)).trans (e2.sub (Nat.zero_le _) h2)).trans (t2 lo hi h (by omega))
  have low : Ex 0 x Z (setR Z3 2 x (some (x + 5))) := ((((((Ex.addO Z 0 (Nat.le_refl x)).trans (e1.sub (Nat.le_refl 0) (by omega))).trans (Ex.setR _ 0 _ (Or.inr (Nat.le_refl x)))).trans (e2.sub (Nat.le_refl 0) (by omega))).trans (Ex.setR _ 1 _ (Or.inr (Nat.le_refl x)))).trans (e3.sub (Nat.le_refl 0) (by omega))).trans (Ex.setR _ 2 _ (Or.inr (Nat.le_refl x)))
  have gl : GX x Z (setR Z3 2 x (some (x + 5))) := fun b hb => (g3 b (by omega)).trans ((g2 b (by omega)).trans (g1 b (by omega)))
  have fl : FrX x M M3 := (((FrX.zeroI M (Nat.le_refl x)).trans (f1.sub (by omega))).trans (f2.sub (by omega))).trans (f3.sub (by omega))
  exact ⟨k3, hQ _ _ ⟨k3, r3 (0, x + 1) (by simp), r3 (1, x + 3) (by simp), r3 (2, x + 5) (by simp), n1.ex (t1 (x + 1) (x + 3) (by omega) (by omega)) (by omega) (by omega), n2.ex (t2 (x + 3) (x + 5) (by omega) (by omega)) (by omega) (by omega), n3.ex (t3 (x + 5) (x + 7) (by omega)) (by omega) (by omega)⟩ low gl fl⟩
theorem ice_init (hQ : ∀ Z1 M1, IceAt Z1 x → Ex 0 x Z Z1 → GX x Z Z1 → FrX x M M1 → Q (x + 9) Z1 M1) : P_X1_init (x + 1) (addO Z x 1) (zeroI M x) x Q := by
  unfold P_X1_init
  have k0 : zK (addO Z x 1) x = 1 := by rw [zK_addO, if_pos rfl]
  refine ⟨k0, k0, k0, k0, k0, k0, k0, k0, ?_⟩
  refine num_init (k := 49) (by omega) (fun Z1 M1 n1 e1 g1 f1 _ => ?_)
  have k1 : zK Z1 x = 1 := by rw [e1.1 x (by omega) (by omega), zK_addO, if_pos rfl]
  refine ⟨k1, num_init (k := 106) (by omega) (fun Z2 M2 n2 e2 g2 f2 _ => ?_)⟩
  have k2 : zK Z2 x = 1 := (e2.1 x (by omega) (by omega)).trans k1
  refine ⟨k2, num_init (k := 120) (by omega) (fun Z3 M3 n3 e3 g3 f3 _ => ?_)⟩
  have k3 : zK Z3 x = 1 := (e3.1 x (by omega) (by omega)).trans k2
  refine ⟨k3, num_init (k := 49) (by omega) (fun Z4 M4 n4 e4 g4 f4 _ => ?_)⟩
  have k4 : zK Z4 x = 1 := (e4.1 x (by omega) (by omega)).trans k3
  have r1 : RK x [(3, x + 1)] (setR Z1 3 x (some (x + 1))) := (RK.nil x Z1).set (by simp)
  have r2 : RK x [(4, x + 3), (3, x + 1)] (setR Z2 4 x (some (x + 3))) := (r1.ex e2 (Nat.zero_le _) (by omega)).set (by simp)
  have r3 : RK x [(5, x + 5), (4, x + 3), (3, x + 1)] (setR Z3 5 x (some (x + 5))) := (r2.ex e3 (Nat.zero_le _) (by omega)).set (by simp)
  have r4 : RK x [(6, x + 7), (5, x + 5), (4, x + 3), (3, x + 1)] (setR Z4 6 x (some (x + 7))) := (r3.ex e4 (Nat.zero_le _) (by omega)).set (by simp)
  have t4 : ∀ lo hi, x < lo → Ex lo hi Z4 (setR Z4 6 x (some (x + 7))) := fun lo hi h => Ex.setR Z4 6 _ (Or.inl h)
  have t3 : ∀ lo hi, x < lo → hi ≤ x + 7 → Ex lo hi Z3 (setR Z4 6 x (some (x + 7))) := fun lo hi h h2 => ((Ex.setR Z3 5 _ (Or.inl h)).trans (e4.sub (Nat.zero_le _) h2)).trans (t4 lo hi h)
  have t2 : ∀ lo hi, x < lo → hi ≤ x + 5 → Ex lo hi Z2 (setR Z4 6 x (some (x + 7))) := fun lo hi h h2 => ((Ex.setR Z2 4 _ (Or.inl h)).trans (e3.sub (Nat.zero_le _) h2)).trans (t3 lo hi h (by omega))
  have t1 : ∀ lo hi, x < lo → hi ≤ x + 3 → Ex lo hi Z1 (setR Z4 6 x (some (x + 7))) := fun lo hi h h2 => ((Ex.setR Z1 3 _ (Or.inl h)).trans (e2.sub (Nat.zero_le _) h2)).trans (t2 lo hi h (by omega))
  have low1 : Ex 0 x Z (setR Z2 4 x (some (x + 3))) := ((((Ex.addO Z 1 (Nat.le_refl x)).trans (e1.sub (Nat.le_refl 0) (by omega))).trans (Ex.setR _ 3 _ (Or.inr (Nat.le_refl x)))).trans (e2.sub (Nat.le_refl 0) (by omega))).trans (Ex.setR _ 4 _ (Or.inr (Nat.le_refl x)))
  have low : Ex 0 x Z (setR Z4 6 x (some (x + 7))) := (((low1.trans (e3.sub (Nat.le_refl 0) (by omega))).trans (Ex.setR _ 5 _ (Or.inr (Nat.le_refl x)))).trans (e4.sub (Nat.le_refl 0) (by omega))).trans (Ex.setR _ 6 _ (Or.inr (Nat.le_refl x)))
  have gl : GX x Z (setR Z4 6 x (some (x + 7))) := fun b hb => (g4 b (by omega)).trans ((g3 b (by omega)).trans ((g2 b (by omega)).trans (g1 b (by omega))))
  have sI : ∀ (M0 : MM) f v, FrX x M M0 → FrX x M (setI M0 f x v) := fun M0 f v h => h.trans (FrX.setI M0 f v (Nat.le_refl x))
  have fl : FrX x M M4 := ((((sI _ 7 0 (sI _ 6 0 (sI _ 5 0 (sI _ 4 0 (sI _ 3 0 (sI _ 2 0 (sI _ 1 2 (sI _ 0 2 (FrX.zeroI M (Nat.le_refl x)))))))))).trans (f1.sub (by omega))).trans (f2.sub (by omega))).trans (f3.sub (by omega))).trans (f4.sub (by omega))
  exact ⟨k4, hQ _ _ ⟨k4, r4 (3, x + 1) (by simp), r4 (4, x + 3) (by simp), r4 (5, x + 5) (by simp), r4 (6, x + 7) (by simp), n1.ex (t1 (x + 1) (x + 3) (by omega) (by omega)) (by omega) (by omega), n2.ex (t2 (x + 3) (x + 5) (by omega) (by omega)) (by omega) (by omega), n3.ex (t3 (x + 5) (x + 7) (by omega) (by omega)) (by omega) (by omega), n4.ex (t4 (x + 7) (x + 9) (by omega)) (by omega) (by omega)⟩ low gl fl⟩
theorem way_init (hQ : ∀ Z1 M1, WayAt Z1 x → Ex 0 x Z Z1 → GX x Z Z1 → FrX x M M1 → Q (x + 9) Z1 M1) : P_X4_init (x + 1) (addO Z x 4) (zeroI M x) x Q := by
  unfold P_X4_init
  refine num_init (k := 240) (by omega) (fun Z1 M1 n1 e1 g1 f1 _ => ?_)
  have k1 : zK Z1 x = 4 := by rw [e1.1 x (by omega) (by omega), zK_addO, if_pos rfl]
  refine ⟨k1, num_init (k := 49) (by omega) (fun Z2 M2 n2 e2 g2 f2 _ => ?_)⟩
  have k2 : zK Z2 x = 4 := (e2.1 x (by omega) (by omega)).trans k1
  refine ⟨k2, k2, num_init (k := 240) (by omega) (fun Z3 M3 n3 e3 g3 f3 _ => ?_)⟩
  have k3 : zK Z3 x = 4 := (e3.1 x (by omega) (by omega)).trans k2
  refine ⟨k3, num_init (k := 240) (by omega) (fun Z4 M4 n4 e4 g4 f4 _ => ?_)⟩
  have k4 : zK Z4 x = 4 := (e4.1 x (by omega) (by omega)).trans k3
  have r1 : RK x [(9, x + 1)] (setR Z1 9 x (some (x + 1))) := (RK.nil x Z1).set (by simp)
  have r2 : RK x [(10, x + 3), (9, x + 1)] (setR Z2 10 x (some (x + 3))) := (r1.ex e2 (Nat.zero_le _) (by omega)).set (by simp)
  have r3 : RK x [(11, x + 5), (10, x + 3), (9, x + 1)] (setR Z3 11 x (some (x + 5))) := (r2.ex e3 (Nat.zero_le _) (by omega)).set (by simp)
  have r4 : RK x [(12, x + 7), (11, x + 5), (10, x + 3), (9, x + 1)] (setR Z4 12 x (some (x + 7))) := (r3.ex e4 (Nat.zero_le _) (by omega)).set (by simp)
  have t4 : ∀ lo hi, x < lo → Ex lo hi Z4 (setR Z4 12 x (some (x + 7))) := fun lo hi h => Ex.setR Z4 12 _ (Or.inl h)
  have t3 : ∀ lo hi, x < lo → hi ≤ x + 7 → Ex lo hi Z3 (setR Z4 12 x (some (x + 7))) := fun lo hi h h2 => ((Ex.setR Z3 11 _ (Or.inl h)).trans (e4.sub (Nat.zero_le _) h2)).trans (t4 lo hi h)
  have t2 : ∀ lo hi, x < lo → hi ≤ x + 5 → Ex lo hi Z2 (setR Z4 12 x (some (x + 7))) := fun lo hi h h2 => ((Ex.setR Z2 10 _ (Or.inl h)).trans (e3.sub (Nat.zero_le _) h2)).trans (t3 lo hi h (by omega))
  have t1 : ∀ lo hi, x < lo → hi ≤ x + 3 → Ex lo hi Z1 (setR Z4 12 x (some (x + 7))) := fun lo hi h h2 => ((Ex.setR Z1 9 _ (Or.inl h)).trans (e2.sub (Nat.zero_le _) h2)).trans (t2 lo hi h (by omega))
  have low1 : Ex 0 x Z (setR Z2 10 x (some (x + 3))) := ((((Ex.addO Z 4 (Nat.le_refl x)).trans (e1.sub (Nat.le_refl 0) (by omega))).trans (Ex.setR _ 9 _ (Or.inr (Nat.le_refl x)))).trans (e2.sub (Nat.le_refl 0) (by omega))).trans (Ex.setR _ 10 _ (Or.inr (Nat.le_refl x)))
  have low : Ex 0 x Z (setR Z4 12 x (some (x + 7))) := (((low1.trans (e3.sub (Nat.le_refl 0) (by omega))).trans (Ex.setR _ 11 _ (Or.inr (Nat.le_refl x)))).trans (e4.sub (Nat.le_refl 0) (by omega))).trans (Ex.setR _ 12 _ (Or.inr (Nat.le_refl x)))
  have gl : GX x Z (setR Z4 12 x (some (x + 7))) := fun b hb => (g4 b (by omega)).trans ((g3 b (by omega)).trans ((g2 b (by omega)).trans (g1 b (by omega))))
  have fl : FrX x M M4 := (((((FrX.zeroI M (Nat.le_refl x)).trans (f1.sub (by omega))).trans (f2.sub (by omega))).trans (FrX.setI _ 11 0 (Nat.le_refl x))).trans (f3.sub (by omega))).trans (f4.sub (by omega))
  exact ⟨k4, hQ _ _ ⟨k4, r4 (9, x + 1) (by simp), r4 (10, x + 3) (by simp), r4 (11, x + 5) (by simp), r4 (12, x + 7) (by simp), n1.ex (t1 (x + 1) (x + 3) (by omega) (by omega)) (by omega) (by omega), n2.ex (t2 (x + 3) (x + 5) (by omega) (by omega)) (by omega) (by omega), n3.ex (t3 (x + 5) (x + 7) (by omega) (by omega)) (by omega) (by omega), n4.ex (t4 (x + 7) (x + 9) (by omega)) (by omega) (by omega)⟩ low gl fl⟩
end
