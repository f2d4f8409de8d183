/-! PURE: the constructor of the field -/
def g00 : GG := mk (fun f => if f = 2 then 1 else 0) (fun _ => 0) (fun _ => 0) (fun _ => 0)
def G0 : GG := addsS (begS g00 4 4) (fun _ => 10) 16
def FldJ (j : Nat) (Z : ZZ) (a : Nat) : Prop := (zK Z a = 5 ∧ zR Z 13 a = some (a + 1) ∧ zR Z 14 a = some (a + 10) ∧ zR Z 15 a = some (a + 19) ∧ zR Z 16 a = some (a + 20) ∧ zR Z 17 a = some (a + 23) ∧ zR Z 18 a = some (a + 30) ∧ zR Z 19 a = some (a + 39)) ∧ (IceAt Z (a + 1) ∧ IceAt Z (a + 10) ∧ zK Z (a + 19) = 8 ∧ zN Z (a + 19) = 4 ∧ (∀ i, i < j → zG Z (a + 19) i = some (a + 41 + 9 * i) ∧ IceAt Z (a + 41 + 9 * i))) ∧ TextAt Z (a + 20) ∧ BlkAt Z (a + 23) ∧ WayAt Z (a + 30) ∧ NumAt Z (a + 39) (a + 40) 49
theorem FldJ.ex {Z Z1 : ZZ} {a j lo hi : Nat} (h : FldJ j Z a) (e : Ex lo hi Z Z1) (g : ∀ i, i < j → zG Z1 (a + 19) i = zG Z (a + 19) i) (h1 : lo ≤ a) (h2 : a + 41 + 9 * j ≤ hi) : FldJ j Z1 a := by
  obtain ⟨⟨a0, a1, a2, a3, a4, a5, a6, a7⟩, ⟨b0, b1, b2, b3, b4⟩, c0, c1, c2, c3⟩ := h
  have k : ∀ b, a ≤ b → b < a + 41 → zK Z1 b = zK Z b := fun b q1 q2 => e.1 b (by omega) (by omega)
  have r : ∀ q, zR Z1 q a = zR Z q a := fun q => e.2.2 q a (by omega) (by omega)
  refine ⟨⟨(k a (by omega) (by omega)).trans a0, (r _).trans a1, (r _).trans a2, (r _).trans a3, (r _).trans a4, (r _).trans a5, (r _).trans a6, (r _).trans a7⟩, ⟨b0.ex e (by omega) (by omega), b1.ex e (by omega) (by omega), (k _ (by omega) (by omega)).trans b2, (e.2.1 _ (by omega) (by omega)).trans b3, fun i hi => ⟨?_, (b4 i hi).2.ex e (by omega) (by omega)⟩⟩, c0.ex e (by omega) (by omega), c1.ex e (by omega) (by omega), c2.ex e (by omega) (by omega), c3.ex e (by omega) (by omega)⟩
  rw [g i hi]; exact (b4 i hi).1
/-- the fields that the loop of the constructor leaves -/
def MemJ (M : MM) (a : Nat) : Prop := mI M 12 a = 0 ∧ mI M 13 a = 0 ∧ mI M 8 (a + 20) = 0 ∧ ∀ i, mA M (a + 22) i = 0
theorem MemJ.fx {M M1 : MM} {a lo : Nat} (h : MemJ M a) (f : FrX lo M M1) (hl : a + 41 ≤ lo) : MemJ M1 a :=
  ⟨(f.2 _ _ (by omega)).trans h.1, (f.2 _ _ (by omega)).trans h.2.1, (f.2 _ _ (by omega)).trans h.2.2.1, fun i => by rw [f.1 _ (by omega)]; exact h.2.2.2 i⟩
section
variable {a : Nat} {Q : Nat → ZZ → MM → Prop}
theorem init_loop (hQ : ∀ s Z1 M1, a + 77 ≤ s → FieldAt Z1 a → ClsI M1 a G0 (fun _ => G0) 0 0 (fun _ => 0) 0 → Q s Z1 M1) : ∀ k j Z M, j + k = 4 → FldJ j Z a → MemJ M a → L_X5_init Q (k + 1) (a + 41 + 9 * j) Z M a (nI j) := by
  intro k
  induction k with
  | zero =>
    intro j Z M hj F hM
    obtain rfl : j = 4 := by omega
    obtain ⟨⟨a0, a1, a2, a3, a4, a5, a6, a7⟩, ⟨b0, b1, b2, b3, b4⟩, c0⟩ := F
    show B_X5_init Q (L_X5_init Q 0) (a + 41 + 9 * 4) Z M a (nI 4)
    unfold B_X5_init
    refine ⟨a0, a + 19, a3, b2, fun _ => ⟨a0, a + 1, a1, b0.1, a0, a + 1, a1, b0.1, ?_⟩, fun q => absurd (by rw [b3]; exact nI_le (Nat.le_refl _) (by omega)) q⟩
    have hm : mI (setI M 2 (a + 1) 1) 2 (a + 1) = gs g00 2 := by rw [mI_setI, if_pos ⟨rfl, rfl⟩]; rfl
    refine sp_begin (W := 4) (H := 4) b0 g00 hm (fun M1 f1 t1 => fun s1 hs1 => ⟨a0, a + 1, a1, b0.1, ?_⟩)
    have w1 : WH (begS g00 4 4) 4 4 := ⟨rfl, rfl, by omega, by omega, by omega, by omega⟩
    refine sp_addEv b0 t1 w1 (fun M2 f2 t2 => fun s2 hs2 => hQ s2 Z M2 (by omega) ⟨⟨a0, a1, a2, a3, a4, a5, a6, a7⟩, ⟨b0, b1, b2, b3, b4⟩, c0⟩ ⟨t2, ⟨?_, by omega, ?_, by omega, fun i hi => absurd hi (by omega)⟩, fun i _ => ?_, ?_, by omega⟩)
    · rw [f2.2.1 _ _ (by simp), f1.2.1 _ _ (by simp), mI_setI, if_neg (by omega)]; exact hM.1
    · rw [f2.2.1 _ _ (by simp), f1.2.1 _ _ (by simp), mI_setI, if_neg (by omega)]; exact hM.2.1
    · rw [f2.1 _ (by simp), f1.1 _ (by simp)]; exact hM.2.2.2 i
    · rw [f2.2.1 _ _ (by simp), f1.2.1 _ _ (by simp), mI_setI, if_neg (by omega)]; exact hM.2.2.1
  | succ k ih =>
    intro j Z M hj F hM
    obtain ⟨⟨a0, a1, a2, a3, a4, a5, a6, a7⟩, ⟨b0, b1, b2, b3, b4⟩, c0⟩ := id F
    show B_X5_init Q (L_X5_init Q (k + 1)) (a + 41 + 9 * j) Z M a (nI j)
    unfold B_X5_init
    refine ⟨a0, a + 19, a3, b2, fun q => absurd q ?_, fun _ => ⟨a0, a + 19, a3, ice_init (fun Z1 M1 i1 e1 g1 f1 => ?_)⟩⟩
    · rw [b3, n_le (by omega) (by omega)]; omega
    have k1 : zK Z1 (a + 19) = 8 := (e1.1 _ (by omega) (by omega)).trans b2
    have n1 : zN Z1 (a + 19) = 4 := (e1.2.1 _ (by omega) (by omega)).trans b3
    refine ⟨k1, i1.1, by rw [n1]; exact vpn (by omega) (by omega), ?_⟩
    rw [i_cl j (by omega), nI_1]
    have e2 : Ex 0 (a + 41 + 9 * j + 9) Z1 (setG Z1 (a + 19) (va_up (zG Z1 (a + 19)) j (some (a + 41 + 9 * j)))) := Ex.setG _ _
    have gat : ∀ i, zG (setG Z1 (a + 19) (va_up (zG Z1 (a + 19)) j (some (a + 41 + 9 * j)))) (a + 19) i = if i = j then some (a + 41 + 9 * j) else zG Z (a + 19) i := fun i => by
      rw [zG_setG, if_pos rfl]
      show (if i = j then some (a + 41 + 9 * j) else zG Z1 (a + 19) i) = _
      rw [g1 (a + 19) (by omega)]
    have F1 : FldJ j (setG Z1 (a + 19) (va_up (zG Z1 (a + 19)) j (some (a + 41 + 9 * j)))) a := F.ex (e1.trans (e2.sub (Nat.le_refl 0) (by omega))) (fun i hi => by rw [gat, if_neg (by omega)]) (Nat.zero_le _) (Nat.le_refl _)
    obtain ⟨A, ⟨B0, B1, B2, B3, B4⟩, C⟩ := F1
    refine ih (j + 1) _ M1 (by omega) ⟨A, ⟨B0, B1, B2, B3, fun i hi => ?_⟩, C⟩ (hM.fx f1 (by omega))
    by_cases e : i = j
    · subst e
      exact ⟨by rw [gat, if_pos rfl], i1.ex e2 (Nat.zero_le _) (by omega)⟩
    · exact B4 i (by omega)
theorem field_init {Z : ZZ} {M : MM} (hQ : ∀ s Z1 M1, a + 77 ≤ s → FieldAt Z1 a → ClsI M1 a G0 (fun _ => G0) 0 0 (fun _ => 0) 0 → Q s Z1 M1) : P_X5_init (a + 1) (addO Z a 5) (zeroI M a) a Q := by
  unfold P_X5_init
  refine ice_init (fun Z1 M1 i1 e1 g1 f1 => ?_)
  have k1 : zK Z1 a = 5 := by rw [e1.1 a (by omega) (by omega), zK_addO, if_pos rfl]
  refine ⟨k1, ice_init (fun Z2 M2 i2 e2 g2 f2 => ?_)⟩
  have k2 : zK Z2 a = 5 := (e2.1 a (by omega) (by omega)).trans k1
  have k2' : zK (addA (setR Z2 14 a (some (a + 1 + 9))) (a + 1 + 9 + 9) 8 4) a = 5 := by rw [zK_addA, if_neg (by omega)]; exact k2
  refine ⟨k2, k2', k2', k2', text_init (fun Z3 M3 i3 e3 g3 f3 t8 ta => ?_)⟩
  have k3 : zK Z3 a = 5 := (e3.1 a (by omega) (by omega)).trans k2'
  refine ⟨k3, blk_init (fun Z4 M4 i4 e4 g4 f4 => ?_)⟩
  have k4 : zK Z4 a = 5 := (e4.1 a (by omega) (by omega)).trans k3
  refine ⟨k4, way_init (fun Z5 M5 i5 e5 g5 f5 => ?_)⟩
  have k5 : zK Z5 a = 5 := (e5.1 a (by omega) (by omega)).trans k4
  refine ⟨k5, num_init (k := 49) (by omega) (fun Z6 M6 i6 e6 g6 f6 _ => ?_)⟩
  have k6 : zK Z6 a = 5 := (e6.1 a (by omega) (by omega)).trans k5
  refine ⟨k6, ?_⟩
  have r1 : RK a [(13, a + 1)] (setR Z1 13 a (some (a + 1))) := (RK.nil a Z1).set (by simp)
  have r2 : RK a [(14, a + 10), (13, a + 1)] (setR Z2 14 a (some (a + 10))) := (r1.ex e2 (Nat.zero_le _) (by omega)).set (by simp)
  have r2' : RK a [(15, a + 19), (14, a + 10), (13, a + 1)] (setR (addA (setR Z2 14 a (some (a + 10))) (a + 19) 8 4) 15 a (some (a + 19))) := (r2.ex (Ex.addA (lo := 0) (hi := a + 19) _ 8 4 (Nat.le_refl _)) (Nat.zero_le _) (by omega)).set (by simp)
  have r3 : RK a [(16, a + 20), (15, a + 19), (14, a + 10), (13, a + 1)] (setR Z3 16 a (some (a + 20))) := (r2'.ex e3 (Nat.zero_le _) (by omega)).set (by simp)
  have r4 : RK a [(17, a + 23), (16, a + 20), (15, a + 19), (14, a + 10), (13, a + 1)] (setR Z4 17 a (some (a + 23))) := (r3.ex e4 (Nat.zero_le _) (by omega)).set (by simp)
  have r5 : RK a [(18, a + 30), (17, a + 23), (16, a + 20), (15, a + 19), (14, a + 10), (13, a + 1)] (setR Z5 18 a (some (a + 30))) := (r4.ex e5 (Nat.zero_le _) (by omega)).set (by simp)
  have r6 : RK a [(19, a + 39), (18, a + 30), (17, a + 23), (16, a + 20), (15, a + 19), (14, a + 10), (13, a + 1)] (setR Z6 19 a (some (a + 39))) := (r5.ex e6 (Nat.zero_le _) (by omega)).set (by simp)
  have t6 : ∀ lo hi, a < lo → Ex lo hi Z6 (setR Z6 19 a (some (a + 39))) := fun lo hi h => Ex.setR Z6 19 _ (Or.inl h)
  have t5 : ∀ lo hi, a < lo → hi ≤ a + 39 → Ex lo hi Z5 (setR Z6 19 a (some (a + 39))) := fun lo hi h h2 => ((Ex.setR Z5 18 _ (Or.inl h)).trans (e6.sub (Nat.zero_le _) h2)).trans (t6 lo hi h)
  have t4 : ∀ lo hi, a < lo → hi ≤ a + 30 → Ex lo hi Z4 (setR Z6 19 a (some (a + 39))) := fun lo hi h h2 => ((Ex.setR Z4 17 _ (Or.inl h)).trans (e5.sub (Nat.zero_le _) h2)).trans (t5 lo hi h (by omega))
  have t3 : ∀ lo hi, a < lo → hi ≤ a + 23 → Ex lo hi Z3 (setR Z6 19 a (some (a + 39))) := fun lo hi h h2 => ((Ex.setR Z3 16 _ (Or.inl h)).trans (e4.sub (Nat.zero_le _) h2)).trans (t4 lo hi h (by omega))
  have t2' : ∀ lo hi, a < lo → hi ≤ a + 20 → Ex lo hi (addA (setR Z2 14 a (some (a + 10))) (a + 19) 8 4) (setR Z6 19 a (some (a + 39))) := fun lo hi h h2 => ((Ex.setR _ 15 _ (Or.inl h)).trans (e3.sub (Nat.zero_le _) h2)).trans (t3 lo hi h (by omega))
  have t2 : ∀ lo hi, a < lo → hi ≤ a + 19 → Ex lo hi Z2 (setR Z6 19 a (some (a + 39))) := fun lo hi h h2 => ((Ex.setR _ 14 _ (Or.inl h)).trans (Ex.addA _ 8 4 h2)).trans (t2' lo hi h (by omega))
  have t1 : ∀ lo hi, a < lo → hi ≤ a + 10 → Ex lo hi Z1 (setR Z6 19 a (some (a + 39))) := fun lo hi h h2 => ((Ex.setR Z1 13 _ (Or.inl h)).trans (e2.sub (Nat.zero_le _) h2)).trans (t2 lo hi h (by omega))
  have F0 : FldJ 0 (setR Z6 19 a (some (a + 39))) a := by
    refine ⟨⟨k6, r6 (13, a + 1) (by simp), r6 (14, a + 10) (by simp), r6 (15, a + 19) (by simp), r6 (16, a + 20) (by simp), r6 (17, a + 23) (by simp), r6 (18, a + 30) (by simp), r6 (19, a + 39) (by simp)⟩, ⟨i1.ex (t1 (a + 1) (a + 10) (by omega) (by omega)) (by omega) (by omega), i2.ex (t2 (a + 10) (a + 19) (by omega) (by omega)) (by omega) (by omega), ?_, ?_, fun i hi => absurd hi (by omega)⟩, i3.ex (t3 (a + 20) (a + 23) (by omega) (by omega)) (by omega) (by omega), i4.ex (t4 (a + 23) (a + 30) (by omega) (by omega)) (by omega) (by omega), i5.ex (t5 (a + 30) (a + 39) (by omega) (by omega)) (by omega) (by omega), i6.ex (t6 (a + 39) (a + 41) (by omega)) (by omega) (by omega)⟩
    · rw [(t2' (a + 19) (a + 20) (by omega) (by omega)).1 (a + 19) (by omega) (by omega), zK_addA, if_pos rfl]
    · rw [(t2' (a + 19) (a + 20) (by omega) (by omega)).2.1 (a + 19) (by omega) (by omega), zN_addA, if_pos rfl]
  have hM : MemJ M6 a := by
    refine ⟨?_, ?_, ?_, fun i => ?_⟩
    · rw [f6.2 _ _ (by omega), f5.2 _ _ (by omega), f4.2 _ _ (by omega), f3.2 _ _ (by omega), mI_setI, if_neg (by omega), mI_setI, if_pos ⟨rfl, rfl⟩]
    · rw [f6.2 _ _ (by omega), f5.2 _ _ (by omega), f4.2 _ _ (by omega), f3.2 _ _ (by omega), mI_setI, if_pos ⟨rfl, rfl⟩]
    · rw [f6.2 _ _ (by omega), f5.2 _ _ (by omega), f4.2 _ _ (by omega)]; exact t8
    · rw [f6.1 _ (by omega), f5.1 _ (by omega), f4.1 _ (by omega)]; exact ta i
  exact init_loop hQ 4 0 _ M6 rfl F0 hM
end
