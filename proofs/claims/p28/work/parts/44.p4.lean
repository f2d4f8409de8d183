/-! PURE: cuts, laying, beginning anew, copying -/
def it {α : Type} (f : Nat → α → α) : Nat → α → α
  | 0, a => a
  | n + 1, a => f n (it f n a)
/-- sawing at a side: new cuts, field -/
def csS (W H : Nat) (g : GG) (c s : Nat) : Int32 × GG := if (s = 2 ∨ (bs W H c s).isSome = true) ∧ gc g (pl W c s) ≠ 1 then (1, mk (gs g) (gt g) (upd (gc g) (pl W c s) 1) (gk g)) else (0, g)
theorem WH.cs {g : GG} {W H : Nat} (w : WH g W H) (c s : Nat) : WH (csS W H g c s).2 W H := by
  unfold csS
  by_cases e : (s = 2 ∨ (bs W H c s).isSome = true) ∧ gc g (pl W c s) ≠ 1
  · rw [if_pos e]; exact w.mk rfl rfl
  · rw [if_neg e]; exact w
theorem sp_cutSide {Z : ZZ} {M : MM} {x : Nat} {g : GG} {W H c s : Nat} {Q : Int32 → MM → Prop} (h : IceAt Z x) (t : IceS M x g) (w : WH g W H) (hc : c < W * H) (hs : s < 4) (hQ : ∀ M1, Fr [x + 4] [] M M1 → IceS M1 x (csS W H g c s).2 → Q (csS W H g c s).1 M1) : P_X1_cutSide Z M x (nI c) (nI s) Q := by
  have h49 : W * H ≤ 49 := wh_lt w.2.2.2.1 w.2.2.2.2.2
  have hp := pl_lt (c := c) (s := s) w.2.2.2.1 (by omega)
  unfold P_X1_cutSide B_X1_cutSide_0
  refine ⟨h.1, (sp_canCut h t w hc hs).mpr ⟨fun e => ?_, fun e => (sp_cutAt h t w (by omega) hs).mpr ⟨fun e2 => ?_, fun e2 => ?_⟩⟩⟩
  · rw [bI_0] at e
    have e3 : csS W H g c s = (0, g) := by unfold csS; rw [if_neg (fun q => e q.1)]
    rw [e3] at hQ
    exact hQ M (Fr.refl _ _ _) t
  · rw [bI_0, Classical.not_not] at e
    have e3 : csS W H g c s = (1, mk (gs g) (gt g) (upd (gc g) (pl W c s) 1) (gk g)) := by unfold csS; rw [if_pos ⟨e, e2⟩]
    rw [e3] at hQ
    refine ⟨x + 3, h.2.2.1, (sp_place h t w hs).mpr ⟨h.2.2.2.2.2.2.1.1, (sp_put h.2.2.2.2.2.2.1).mpr ?_⟩⟩
    rw [pput_n hp (by omega)]
    exact hQ _ (Fr.setA _ _ _) (t.setC _ _)
  · have e3 : csS W H g c s = (0, g) := by unfold csS; rw [if_neg (fun q => q.2 e2)]
    rw [e3] at hQ
    exact hQ M (Fr.refl _ _ _) t
/-- two sides, counted -/
def two (W H : Nat) (p : Int32 × GG) (c1 s1 c2 s2 : Nat) : Int32 × GG := (p.1 + (csS W H p.2 c1 s1).1 + (csS W H (csS W H p.2 c1 s1).2 c2 s2).1, (csS W H (csS W H p.2 c1 s1).2 c2 s2).2)
def rec1 (W H c h : Nat) (i : Nat) (p : Int32 × GG) : Int32 × GG := two W H p (c + i) 2 (c + (h - 1) * W + i) 1
def rec2 (W H c v : Nat) (i : Nat) (p : Int32 × GG) : Int32 × GG := two W H p (c + i * W) 3 (c + i * W + v - 1) 0
def recS (W H : Nat) (g : GG) (c v h : Nat) : Int32 × GG := it (rec2 W H c v) h (it (rec1 W H c h) v (0, g))
theorem WH.two {W H : Nat} {p : Int32 × GG} (w : WH p.2 W H) (a b c d : Nat) : WH (two W H p a b c d).2 W H := (w.cs a b).cs c d
/-- a rectangle within the field: its cells are cells -/
theorem rect_lt {W H c v h i j : Nat} (hW : 0 < W) (hv : c % W + v ≤ W) (hh : c / W + h ≤ H) (hi : i < v) (hj : j < h) : c + j * W + i < W * H := by
  have h2 : W * (c / W) + c % W = c := Nat.div_add_mod c W
  have h3 : W * (c / W + j + 1) ≤ W * H := Nat.mul_le_mul_left _ (by omega)
  rw [Nat.mul_add, Nat.mul_add] at h3
  have h4 : j * W = W * j := Nat.mul_comm _ _
  omega
theorem sp_rect {Z : ZZ} {M : MM} {x : Nat} {g : GG} {W H c v hh : Nat} {Q : Int32 → MM → Prop} (h : IceAt Z x) (t : IceS M x g) (w : WH g W H) (hv0 : 1 ≤ v) (hh0 : 1 ≤ hh) (hv : c % W + v ≤ W) (hhh : c / W + hh ≤ H) (hQ : ∀ M1, Fr [x + 4] [] M M1 → IceS M1 x (recS W H g c v hh).2 → WH (recS W H g c v hh).2 W H → Q (recS W H g c v hh).1 M1) : P_X1_cutRectangle Z M x (nI c) (nI v) (nI hh) Q := by
  have h49 : W * H ≤ 49 := wh_lt w.2.2.2.1 w.2.2.2.2.2
  have hW : 0 < W := by have := w.2.2.1; omega
  have hW7 : W ≤ 7 := w.2.2.2.1
  have hH7 : H ≤ 7 := w.2.2.2.2.2
  have hhH : hh ≤ H := Nat.le_trans (Nat.le_add_left _ _) hhh
  have hvW : v ≤ W := Nat.le_trans (Nat.le_add_left _ _) hv
  refine ⟨v + 1, ?_⟩
  refine for_up v (fun n i (p : Int32 × MM) => L_X1_cutRectangle_6 Z Q n p.2 x (nI c) (nI v) (nI hh) p.1 (nI i)) (fun i p => Fr [x + 4] [] M p.2 ∧ p.1 = (it (rec1 W H c hh) i (0, g)).1 ∧ IceS p.2 x (it (rec1 W H c hh) i (0, g)).2 ∧ WH (it (rec1 W H c hh) i (0, g)).2 W H) ?_ ?_ v 0 (0, M) (by omega) ⟨Fr.refl _ _ _, rfl, t, w⟩
  · intro n i p hi ⟨f, hp, t1, w1⟩ k
    show B_X1_cutRectangle_6 Z Q (L_X1_cutRectangle_6 Z Q n) p.2 x (nI c) (nI v) (nI hh) p.1 (nI i)
    unfold B_X1_cutRectangle_6
    refine ⟨fun e => absurd e ?_, fun _ => ⟨h.1, ?_⟩⟩
    · rw [n_le (by omega) (by omega)]; omega
    rw [nI_add]
    have l1 := rect_lt (i := i) (j := 0) hW hv hhh hi hh0
    have l2 := rect_lt (i := i) (j := hh - 1) hW hv hhh hi (by omega)
    refine sp_cutSide (s := 2) h t1 w1 (by omega) (by omega) (fun M2 f2 t2 => ?_)
    have w2 := w1.cs (c + i) 2
    rw [t2.1 0 (by omega), w2.1, show (1 : Int32) = nI 1 from rfl, n_sub hh0, n_mul, nI_add, nI_add]
    refine sp_cutSide (s := 1) h t2 w2 l2 (by omega) (fun M3 f3 t3 => ?_)
    rw [nI_add]
    exact k (_, M3) ⟨(f.trans f2).trans f3, by rw [hp]; rfl, t3, w1.two _ _ _ _⟩
  · intro n p ⟨f, hp, t1, w1⟩
    show B_X1_cutRectangle_6 Z Q (L_X1_cutRectangle_6 Z Q n) p.2 x (nI c) (nI v) (nI hh) p.1 (nI v)
    unfold B_X1_cutRectangle_6
    refine ⟨fun _ => ⟨hh + 1, ?_⟩, fun e => absurd (nI_le (Nat.le_refl _) (by omega)) e⟩
    refine for_up hh (fun n i (p : Int32 × MM) => L_X1_cutRectangle_58 Z Q n p.2 x (nI c) (nI v) (nI hh) p.1 (nI i)) (fun i p => Fr [x + 4] [] M p.2 ∧ p.1 = (it (rec2 W H c v) i (it (rec1 W H c hh) v (0, g))).1 ∧ IceS p.2 x (it (rec2 W H c v) i (it (rec1 W H c hh) v (0, g))).2 ∧ WH (it (rec2 W H c v) i (it (rec1 W H c hh) v (0, g))).2 W H) ?_ ?_ hh 0 p (by omega) ⟨f, hp, t1, w1⟩
    · intro n i p hi ⟨f, hp, t1, w1⟩ k
      show B_X1_cutRectangle_58 Z Q (L_X1_cutRectangle_58 Z Q n) p.2 x (nI c) (nI v) (nI hh) p.1 (nI i)
      unfold B_X1_cutRectangle_58
      refine ⟨fun e => absurd e ?_, fun _ => ⟨h.1, ?_⟩⟩
      · rw [n_le (by omega) (by omega)]; omega
      have l1 := rect_lt (i := 0) (j := i) hW hv hhh (by omega) hi
      have l2 := rect_lt (i := v - 1) (j := i) hW hv hhh (by omega) hi
      rw [t1.1 0 (by omega), w1.1, n_mul, nI_add]
      refine sp_cutSide (s := 3) h t1 w1 (by omega) (by omega) (fun M2 f2 t2 => ?_)
      have w2 := w1.cs (c + i * W) 3
      rw [t2.1 0 (by omega), w2.1, n_mul, nI_add, nI_add, show (1 : Int32) = nI 1 from rfl, n_sub (by omega)]
      have e0 : c + i * W + v - 1 = c + i * W + (v - 1) := by omega
      refine sp_cutSide (s := 0) h t2 w2 (by omega) (by omega) (fun M3 f3 t3 => ?_)
      rw [nI_add]
      exact k (_, M3) ⟨(f.trans f2).trans f3, by rw [hp]; rfl, t3, w1.two _ _ _ _⟩
    · intro n p ⟨f, hp, t1, w1⟩
      show B_X1_cutRectangle_58 Z Q (L_X1_cutRectangle_58 Z Q n) p.2 x (nI c) (nI v) (nI hh) p.1 (nI hh)
      unfold B_X1_cutRectangle_58
      refine ⟨fun _ => ?_, fun e => absurd (nI_le (Nat.le_refl _) (by omega)) e⟩
      rw [hp]
      exact hQ _ f t1 w1
/-! laying -/
def addS (g : GG) (c : Nat) (m : Int32) : GG := mk (upd (gs g) 4 (gs g 4 + m)) (upd (gt g) c (gt g c + m)) (gc g) (gk g)
theorem WH.add {g : GG} {W H : Nat} (w : WH g W H) (c : Nat) (m : Int32) : WH (addS g c m) W H := w.mk rfl rfl
theorem sp_add {Z : ZZ} {M : MM} {x : Nat} {g : GG} {c : Nat} {m : Int32} {Q : MM → Prop} (h : IceAt Z x) (t : IceS M x g) (hc : c < 49) (hQ : ∀ M1, Fr [x + 2] [x] M M1 → IceS M1 x (addS g c m) → Q M1) : P_X1_add Z M x (nI c) m Q := by
  unfold P_X1_add B_X1_add_0
  refine ⟨h.1, x + 1, h.2.1, h.2.2.2.2.2.1.1, (sp_th h t hc).mpr ((sp_put h.2.2.2.2.2.1).mpr ?_)⟩
  rw [pput_n hc (by omega), mI_setA, t.1 4 (by omega)]
  exact hQ _ ((Fr.setA _ _ _).mono (by simp) (by simp) |>.trans ((Fr.setI _ _ _ _).mono (by simp) (by simp))) ((t.setT c _).setI 4 _)
def addsS (g : GG) (m : Nat → Int32) (n : Nat) : GG := it (fun i g => addS g i (m i)) n g
theorem WH.adds {g : GG} {W H : Nat} (w : WH g W H) (m : Nat → Int32) (n : Nat) : WH (addsS g m n) W H := by
  induction n with
  | zero => exact w
  | succ n ih => exact WH.add ih n (m n)
theorem sp_addEv {Z : ZZ} {M : MM} {x : Nat} {g : GG} {W H : Nat} {m : Int32} {Q : MM → Prop} (h : IceAt Z x) (t : IceS M x g) (w : WH g W H) (hQ : ∀ M1, Fr [x + 2] [x] M M1 → IceS M1 x (addsS g (fun _ => m) (W * H)) → Q M1) : P_X1_addEverywhere Z M x m Q := by
  have h49 : W * H ≤ 49 := wh_lt w.2.2.2.1 w.2.2.2.2.2
  refine ⟨W * H + 1, ?_⟩
  refine for_up (W * H) (fun n i M' => L_X1_addEverywhere_2 Z Q n M' x m (nI i)) (fun i M' => Fr [x + 2] [x] M M' ∧ IceS M' x (addsS g (fun _ => m) i)) ?_ ?_ (W * H) 0 M (by omega) ⟨Fr.refl _ _ _, t⟩
  · intro n i M' hi ⟨f, t1⟩ k
    have w1 := w.adds (fun _ => m) i
    show B_X1_addEverywhere_2 Z Q (L_X1_addEverywhere_2 Z Q n) M' x m (nI i)
    unfold B_X1_addEverywhere_2
    refine ⟨h.1, (sp_cells h t1 w1).mpr ⟨fun e => absurd e ?_, fun _ => sp_add h t1 (by omega) (fun M2 f2 t2 => ?_)⟩⟩
    · rw [n_le (by omega) (by omega)]; omega
    rw [nI_1]
    exact k M2 ⟨f.trans f2, t2⟩
  · intro n M' ⟨f, t1⟩
    have w1 := w.adds (fun _ => m) (W * H)
    show B_X1_addEverywhere_2 Z Q (L_X1_addEverywhere_2 Z Q n) M' x m (nI (W * H))
    unfold B_X1_addEverywhere_2
    exact ⟨h.1, (sp_cells h t1 w1).mpr ⟨fun _ => hQ _ f t1, fun e => absurd (nI_le (Nat.le_refl _) (by omega)) e⟩⟩
/-! beginning anew -/
def begS (g : GG) (W H : Nat) : GG := mk (fun f => if f = 0 then nI W else if f = 1 then nI H else if f = 2 then gs g 2 else 0) (fun _ => 0) (fun _ => 0) (fun _ => 0)
theorem sp_begin {Z : ZZ} {M : MM} {x : Nat} {W H : Nat} {Q : MM → Prop} (h : IceAt Z x) (g : GG) (hm : mI M 2 x = gs g 2) (hQ : ∀ M1, Fr [x + 2, x + 4, x + 6] [x] M M1 → IceS M1 x (begS g W H) → Q M1) : P_X1_beginAnew Z M x (nI W) (nI H) Q := by
  unfold P_X1_beginAnew B_X1_beginAnew_0
  refine ⟨h.1, x + 1, h.2.1, h.2.2.2.2.2.1.1, sp_fill h.2.2.2.2.2.1 ⟨x + 3, h.2.2.1, h.2.2.2.2.2.2.1.1, sp_fill h.2.2.2.2.2.2.1 ⟨x + 5, h.2.2.2.1, h.2.2.2.2.2.2.2.1.1, sp_fill h.2.2.2.2.2.2.2.1 ?_⟩⟩⟩
  refine hQ _ ⟨fun a ha => ?_, fun f a ha => ?_, rfl⟩ ⟨fun f hf => ?_, fun i hi => ?_, fun i hi => ?_, fun i hi => ?_⟩
  · simp at ha
    rw [mA_ne _ _ _ ha.2.2, mA_ne _ _ _ ha.2.1, mA_ne _ _ _ ha.1]
    rfl
  · simp at ha
    simp only [mI_setA, mI_setI, ha, and_false, if_false]
  · simp only [mI_setA, mI_setI, and_true]
    unfold begS
    rw [gs_mk]
    obtain rfl | rfl | rfl | rfl | rfl | rfl | rfl | rfl : f = 0 ∨ f = 1 ∨ f = 2 ∨ f = 3 ∨ f = 4 ∨ f = 5 ∨ f = 6 ∨ f = 7 := by omega
    all_goals simp [hm]
  · rw [mA_ne _ _ _ (by omega), mA_ne _ _ _ (by omega), mA_same, if_pos hi]; rfl
  · rw [mA_ne _ _ _ (by omega), mA_same, if_pos hi]; rfl
  · rw [mA_same, if_pos hi]; rfl
theorem sp_copyIce {Z : ZZ} {M : MM} {x y : Nat} {g : GG} {Q : MM → Prop} (h : IceAt Z x) (hy : IceAt Z y) (hd : x + 9 ≤ y ∨ y + 9 ≤ x) (t : IceS M y g) (hQ : ∀ M1, Fr [x + 2, x + 4, x + 6] [x] M M1 → IceS M1 x g → Q M1) : P_X1_copyFrom Z M x y Q := by
  unfold P_X1_copyFrom B_X1_copyFrom_0
  have hne : ¬ y = x := by omega
  simp only [mI_setI, hne, and_false, if_false]
  refine ⟨hy.1, h.1, x + 1, h.2.1, y + 1, hy.2.1, h.2.2.2.2.2.1.1, sp_copy h.2.2.2.2.2.1 hy.2.2.2.2.2.1 (by omega) (by omega) ⟨x + 3, h.2.2.1, y + 3, hy.2.2.1, h.2.2.2.2.2.2.1.1, sp_copy h.2.2.2.2.2.2.1 hy.2.2.2.2.2.2.1 (by omega) (by omega) ⟨x + 5, h.2.2.2.1, y + 5, hy.2.2.2.1, h.2.2.2.2.2.2.2.1.1, sp_copy h.2.2.2.2.2.2.2.1 hy.2.2.2.2.2.2.2.1 (by omega) (by omega) ?_⟩⟩⟩
  refine hQ _ ⟨fun a ha => ?_, fun f a ha => ?_, rfl⟩ ⟨fun f hf => ?_, fun i hi => ?_, fun i hi => ?_, fun i hi => ?_⟩
  · simp at ha
    rw [mA_ne _ _ _ ha.2.2, mA_ne _ _ _ ha.2.1, mA_ne _ _ _ ha.1]
    rfl
  · simp at ha
    simp only [mI_setA, mI_setI, ha, and_false, if_false]
  · simp only [mI_setA, mI_setI, and_true]
    obtain rfl | rfl | rfl | rfl | rfl | rfl | rfl | rfl : f = 0 ∨ f = 1 ∨ f = 2 ∨ f = 3 ∨ f = 4 ∨ f = 5 ∨ f = 6 ∨ f = 7 := by omega
    all_goals simp [t.1]
  · rw [mA_ne _ _ _ (by omega), mA_ne _ _ _ (by omega), mA_same, if_pos hi]; exact t.2.1 i hi
  · rw [mA_ne _ _ _ (by omega), mA_same, if_pos hi, mA_ne _ _ _ (by omega)]; exact t.2.2.1 i hi
  · rw [mA_same, if_pos hi, mA_ne _ _ _ (by omega), mA_ne _ _ _ (by omega)]; exact t.2.2.2 i hi
