/-! PURE: skeletons that grow -/
theorem zR_setR (Z : ZZ) (r a : Nat) (y : Option Nat) (q b : Nat) : zR (setR Z r a y) q b = if q = r ∧ b = a then y else zR Z q b := by
  show va_up (zR Z) r (va_up (zR Z r) a y) q b = _
  unfold va_up
  by_cases h : q = r
  · subst h
    by_cases h2 : b = a
    · rw [if_pos rfl, if_pos h2, if_pos ⟨rfl, h2⟩]
    · rw [if_pos rfl, if_neg h2, if_neg (fun z => h2 z.2)]
  · rw [if_neg h, if_neg (fun z => h z.1)]
theorem zK_addA (Z : ZZ) (a k n b : Nat) : zK (addA Z a k n) b = if b = a then k else zK Z b := rfl
theorem zN_addA (Z : ZZ) (a k n b : Nat) : zN (addA Z a k n) b = if b = a then n else zN Z b := rfl
theorem zG_addA (Z : ZZ) (a k n b : Nat) : zG (addA Z a k n) b = if b = a then (fun _ => none) else zG Z b := rfl
theorem zK_addO (Z : ZZ) (a k b : Nat) : zK (addO Z a k) b = if b = a then k else zK Z b := rfl
theorem zR_addO (Z : ZZ) (a k r b : Nat) : zR (addO Z a k) r b = if b = a then none else zR Z r b := rfl
theorem zG_setG (Z : ZZ) (a : Nat) (g : Nat → Option Nat) (b : Nat) : zG (setG Z a g) b = if b = a then g else zG Z b := rfl
def Ex (lo hi : Nat) (Z Z1 : ZZ) : Prop := (∀ b, lo ≤ b → b < hi → zK Z1 b = zK Z b) ∧ (∀ b, lo ≤ b → b < hi → zN Z1 b = zN Z b) ∧ (∀ r b, lo ≤ b → b < hi → zR Z1 r b = zR Z r b)
def GX (hi : Nat) (Z Z1 : ZZ) : Prop := ∀ b, b < hi → zG Z1 b = zG Z b
def FrX (lo : Nat) (M M1 : MM) : Prop := (∀ b, b < lo → mA M1 b = mA M b) ∧ (∀ f b, b < lo → mI M1 f b = mI M f b)
theorem Ex.trans {lo hi : Nat} {Z Z1 Z2 : ZZ} (h : Ex lo hi Z Z1) (h2 : Ex lo hi Z1 Z2) : Ex lo hi Z Z2 :=
  ⟨fun b q1 q2 => (h2.1 b q1 q2).trans (h.1 b q1 q2), fun b q1 q2 => (h2.2.1 b q1 q2).trans (h.2.1 b q1 q2), fun r b q1 q2 => (h2.2.2 r b q1 q2).trans (h.2.2 r b q1 q2)⟩
theorem Ex.sub {lo hi lo1 hi1 : Nat} {Z Z1 : ZZ} (h : Ex lo hi Z Z1) (h1 : lo ≤ lo1) (h2 : hi1 ≤ hi) : Ex lo1 hi1 Z Z1 :=
  ⟨fun b q1 q2 => h.1 b (by omega) (by omega), fun b q1 q2 => h.2.1 b (by omega) (by omega), fun r b q1 q2 => h.2.2 r b (by omega) (by omega)⟩
theorem Ex.setR {lo hi a : Nat} (Z : ZZ) (r : Nat) (y : Option Nat) (h : a < lo ∨ hi ≤ a) : Ex lo hi Z (setR Z r a y) :=
  ⟨fun _ _ _ => rfl, fun _ _ _ => rfl, fun q b q1 q2 => by rw [zR_setR, if_neg (by omega)]⟩
theorem Ex.addA {lo hi a : Nat} (Z : ZZ) (k n : Nat) (h : hi ≤ a) : Ex lo hi Z (addA Z a k n) :=
  ⟨fun b _ _ => by rw [zK_addA, if_neg (by omega)], fun b _ _ => by rw [zN_addA, if_neg (by omega)], fun _ _ _ _ => rfl⟩
theorem Ex.addO {lo hi a : Nat} (Z : ZZ) (k : Nat) (h : hi ≤ a) : Ex lo hi Z (addO Z a k) :=
  ⟨fun b _ _ => by rw [zK_addO, if_neg (by omega)], fun _ _ _ => rfl, fun r b _ _ => by rw [zR_addO, if_neg (by omega)]⟩
theorem Ex.setG {lo hi a : Nat} (Z : ZZ) (g : Nat → Option Nat) : Ex lo hi Z (setG Z a g) := ⟨fun _ _ _ => rfl, fun _ _ _ => rfl, fun _ _ _ _ => rfl⟩
theorem GX.trans {hi : Nat} {Z Z1 Z2 : ZZ} (h : GX hi Z Z1) (h2 : GX hi Z1 Z2) : GX hi Z Z2 := fun b q => (h2 b q).trans (h b q)
theorem GX.sub {hi hi1 : Nat} {Z Z1 : ZZ} (h : GX hi Z Z1) (h2 : hi1 ≤ hi) : GX hi1 Z Z1 := fun b q => h b (by omega)
theorem GX.addA {hi a : Nat} (Z : ZZ) (k n : Nat) (h : hi ≤ a) : GX hi Z (addA Z a k n) := fun b q => by rw [zG_addA, if_neg (by omega)]
theorem FrX.trans {lo : Nat} {M M1 M2 : MM} (h : FrX lo M M1) (h2 : FrX lo M1 M2) : FrX lo M M2 := ⟨fun b q => (h2.1 b q).trans (h.1 b q), fun f b q => (h2.2 f b q).trans (h.2 f b q)⟩
theorem FrX.sub {lo lo1 : Nat} {M M1 : MM} (h : FrX lo M M1) (h2 : lo1 ≤ lo) : FrX lo1 M M1 := ⟨fun b q => h.1 b (by omega), fun f b q => h.2 f b (by omega)⟩
theorem FrX.setI {lo a : Nat} (M : MM) (f : Nat) (v : Int32) (h : lo ≤ a) : FrX lo M (setI M f a v) := ⟨fun _ _ => rfl, fun q b hb => by rw [mI_setI, if_neg (by omega)]⟩
theorem mI_zeroI (M : MM) (a f b : Nat) : mI (zeroI M a) f b = if b = a then 0 else mI M f b := rfl
theorem FrX.zeroI {lo a : Nat} (M : MM) (h : lo ≤ a) : FrX lo M (zeroI M a) := ⟨fun _ _ => rfl, fun f b hb => by rw [mI_zeroI, if_neg (by omega)]⟩
theorem NumAt.ex {Z Z1 : ZZ} {n a len lo hi : Nat} (h : NumAt Z n a len) (e : Ex lo hi Z Z1) (h1 : lo ≤ n ∧ n < hi) (h2 : lo ≤ a ∧ a < hi) : NumAt Z1 n a len :=
  ⟨(e.1 n h1.1 h1.2).trans h.1, (e.2.2 7 n h1.1 h1.2).trans h.2.1, (e.1 a h2.1 h2.2).trans h.2.2.1, (e.2.1 a h2.1 h2.2).trans h.2.2.2.1, h.2.2.2.2⟩
theorem IceAt.ex {Z Z1 : ZZ} {x lo hi : Nat} (h : IceAt Z x) (e : Ex lo hi Z Z1) (h1 : lo ≤ x) (h2 : x + 9 ≤ hi) : IceAt Z1 x :=
  ⟨(e.1 x h1 (by omega)).trans h.1, (e.2.2 3 x h1 (by omega)).trans h.2.1, (e.2.2 4 x h1 (by omega)).trans h.2.2.1, (e.2.2 5 x h1 (by omega)).trans h.2.2.2.1, (e.2.2 6 x h1 (by omega)).trans h.2.2.2.2.1, h.2.2.2.2.2.1.ex e (by omega) (by omega), h.2.2.2.2.2.2.1.ex e (by omega) (by omega), h.2.2.2.2.2.2.2.1.ex e (by omega) (by omega), h.2.2.2.2.2.2.2.2.ex e (by omega) (by omega)⟩
theorem TextAt.ex {Z Z1 : ZZ} {x lo hi : Nat} (h : TextAt Z x) (e : Ex lo hi Z Z1) (h1 : lo ≤ x) (h2 : x + 3 ≤ hi) : TextAt Z1 x :=
  ⟨(e.1 x h1 (by omega)).trans h.1, (e.2.2 8 x h1 (by omega)).trans h.2.1, h.2.2.ex e (by omega) (by omega)⟩
theorem BlkAt.ex {Z Z1 : ZZ} {x lo hi : Nat} (h : BlkAt Z x) (e : Ex lo hi Z Z1) (h1 : lo ≤ x) (h2 : x + 7 ≤ hi) : BlkAt Z1 x :=
  ⟨(e.1 x h1 (by omega)).trans h.1, (e.2.2 0 x h1 (by omega)).trans h.2.1, (e.2.2 1 x h1 (by omega)).trans h.2.2.1, (e.2.2 2 x h1 (by omega)).trans h.2.2.2.1, h.2.2.2.2.1.ex e (by omega) (by omega), h.2.2.2.2.2.1.ex e (by omega) (by omega), h.2.2.2.2.2.2.ex e (by omega) (by omega)⟩
theorem WayAt.ex {Z Z1 : ZZ} {x lo hi : Nat} (h : WayAt Z x) (e : Ex lo hi Z Z1) (h1 : lo ≤ x) (h2 : x + 9 ≤ hi) : WayAt Z1 x :=
  ⟨(e.1 x h1 (by omega)).trans h.1, (e.2.2 9 x h1 (by omega)).trans h.2.1, (e.2.2 10 x h1 (by omega)).trans h.2.2.1, (e.2.2 11 x h1 (by omega)).trans h.2.2.2.1, (e.2.2 12 x h1 (by omega)).trans h.2.2.2.2.1, h.2.2.2.2.2.1.ex e (by omega) (by omega), h.2.2.2.2.2.2.1.ex e (by omega) (by omega), h.2.2.2.2.2.2.2.1.ex e (by omega) (by omega), h.2.2.2.2.2.2.2.2.ex e (by omega) (by omega)⟩
theorem FieldAt.ex {Z Z1 : ZZ} {a lo hi : Nat} (h : FieldAt Z a) (e : Ex lo hi Z Z1) (g : GX hi Z Z1) (h1 : lo ≤ a) (h2 : a + 77 ≤ hi) : FieldAt Z1 a := by
  obtain ⟨⟨a0, a1, a2, a3, a4, a5, a6, a7⟩, ⟨b0, b1, b2, b3, b4⟩, c0, c1, c2, c3⟩ := h
  have k : ∀ b, a ≤ b → b < a + 77 → zK Z1 b = zK Z b := fun b q1 q2 => e.1 b (by omega) (by omega)
  have r : ∀ q, zR Z1 q a = zR Z q a := fun q => e.2.2 q a (by omega) (by omega)
  refine ⟨⟨(k a (by omega) (by omega)).trans a0, (r _).trans a1, (r _).trans a2, (r _).trans a3, (r _).trans a4, (r _).trans a5, (r _).trans a6, (r _).trans a7⟩, ⟨b0.ex e (by omega) (by omega), b1.ex e (by omega) (by omega), (k _ (by omega) (by omega)).trans b2, (e.2.1 _ (by omega) (by omega)).trans b3, fun i hi => ⟨?_, (b4 i hi).2.ex e (by omega) (by omega)⟩⟩, c0.ex e (by omega) (by omega), c1.ex e (by omega) (by omega), c2.ex e (by omega) (by omega), c3.ex e (by omega) (by omega)⟩
  rw [g _ (by omega)]; exact (b4 i hi).1
/-- references of an object under construction -/
def RK (x : Nat) (rs : List (Nat × Nat)) (Z : ZZ) : Prop := ∀ p ∈ rs, zR Z p.1 x = some p.2
theorem RK.nil (x : Nat) (Z : ZZ) : RK x [] Z := fun p hp => absurd hp (by simp)
theorem RK.ex {x lo hi : Nat} {rs : List (Nat × Nat)} {Z Z1 : ZZ} (h : RK x rs Z) (e : Ex lo hi Z Z1) (h1 : lo ≤ x) (h2 : x < hi) : RK x rs Z1 := fun p hp => (e.2.2 p.1 x h1 h2).trans (h p hp)
theorem RK.set {x r y : Nat} {rs : List (Nat × Nat)} {Z : ZZ} (h : RK x rs Z) (hr : ∀ p ∈ rs, p.1 ≠ r) : RK x ((r, y) :: rs) (setR Z r x (some y)) := fun p hp => by
  rw [zR_setR]
  rcases List.mem_cons.1 hp with q | q
  · rw [q]
    show (if r = r ∧ x = x then some y else _) = some y
    rw [if_pos ⟨rfl, rfl⟩]
  · rw [if_neg (fun z => hr p q z.1)]; exact h p q
theorem num_init {Z : ZZ} {M : MM} {x k : Nat} {Q : Nat → ZZ → MM → Prop} (hk : k ≤ 1000) (hQ : ∀ Z1 M1, NumAt Z1 x (x + 1) k → Ex 0 x Z Z1 → GX x Z Z1 → FrX x M M1 → (∀ i, mA M1 (x + 1) i = 0) → Q (x + 2) Z1 M1) : P_X2_init (x + 1) (addO Z x 2) (zeroI M x) x (nI k) Q := by
  have e : (nI k).toNatClampNeg = k := i_cl k (by omega)
  unfold P_X2_init
  rw [e]
  refine ⟨by rw [show (0 : Int32) = nI 0 from rfl, n_le (by omega) (by omega)]; omega, hk, ?_, hQ _ _ ⟨?_, ?_, ?_, ?_, hk⟩ ?_ ?_ ?_ ?_⟩
  · rw [zK_addA, if_neg (by omega), zK_addO, if_pos rfl]
  · show zK (addA (addO Z x 2) (x + 1) 7 k) x = 2
    rw [zK_addA, if_neg (by omega), zK_addO, if_pos rfl]
  · rw [zR_setR, if_pos ⟨rfl, rfl⟩]
  · show zK (addA (addO Z x 2) (x + 1) 7 k) (x + 1) = 7
    rw [zK_addA, if_pos rfl]
  · show zN (addA (addO Z x 2) (x + 1) 7 k) (x + 1) = k
    rw [zN_addA, if_pos rfl]
  · exact ((Ex.addO Z 2 (Nat.le_refl x)).trans (Ex.addA _ 7 k (by omega))).trans (Ex.setR _ 7 _ (Or.inr (Nat.le_refl x)))
  · intro b hb
    show zG (addA (addO Z x 2) (x + 1) 7 k) b = zG Z b
    rw [zG_addA, if_neg (by omega)]; rfl
  · refine ⟨fun b hb => ?_, fun f b hb => ?_⟩
    · rw [mA_ne _ _ _ (by omega)]; rfl
    · rw [mI_setA, mI_zeroI, if_neg (by omega)]
  · intro i; rw [mA_same]
