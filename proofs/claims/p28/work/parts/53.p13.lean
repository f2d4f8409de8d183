/-! PURE: blocks that float out, one after another -/
theorem labS_tak {W H : Nat} {th ct : Nat → Int32} {n : Nat} (hW : 0 < W) (h49 : W * H ≤ 49) (hn : n < W * H) (hr : labS W H th ct n = nI n) {c : Nat} : labS W H (fun c => if c < W * H ∧ labS W H th ct c = nI n then 0 else th c) ct c = if labS W H th ct c = nI n then -1 else labS W H th ct c := by
  by_cases hc : c < W * H
  · refine (IsLab.eq (lb := fun c => if labS W H th ct c = nI n then -1 else labS W H th ct c) ?_ hW h49 hc).symm
    have L := labS_is (th := th) (ct := ct) (H := H) hW
    have hT : ∀ a, a < W * H → ¬ (if a < W * H ∧ labS W H th ct a = nI n then 0 else th a) ≤ 0 → labS W H th ct a ≠ nI n ∧ ¬ th a ≤ 0 := by
      intro a ha z
      by_cases q : labS W H th ct a = nI n
      · rw [if_pos ⟨ha, q⟩] at z; exact absurd (by decide) z
      · rw [if_neg (fun r => q r.2)] at z; exact ⟨q, z⟩
    have hT2 : ∀ a, labS W H th ct a ≠ nI n → (if a < W * H ∧ labS W H th ct a = nI n then 0 else th a) = th a := fun a z => if_neg (fun r => z r.2)
    intro a ha
    refine ⟨fun z => ?_, fun z => ?_, fun d hd => ?_⟩
    · by_cases q : labS W H th ct a = nI n
      · exact if_pos q
      · show (if labS W H th ct a = nI n then -1 else labS W H th ct a) = -1
        rw [if_neg q]
        refine (L a ha).1 ?_
        have e := hT2 a q
        rw [← e]; exact z
    · obtain ⟨z1, z2⟩ := hT a ha z
      obtain ⟨k, k1, k2, k3, k4, k5, _⟩ := labS_ice (ct := ct) ha z2
      refine ⟨k, k2, ?_, ?_⟩
      · show (if labS W H th ct a = nI n then -1 else labS W H th ct a) = nI k
        rw [if_neg z1, k1]
      · have kr := (labS_root hW h49 (by omega : k < 49) k1).2.2.2.2.2
        have := k3 (fun b => labS W H th ct b = nI k ∧ Conn W H (fun c => if c < W * H ∧ labS W H th ct c = nI n then 0 else th c) ct k b) ⟨kr, Conn.refl k⟩ (fun u v hu huv => by
          have e1 := (L u huv.1).2.2 v huv
          have e2 : labS W H th ct v = nI k := e1.symm.trans hu.1
          have e3 : nI k ≠ nI n := by rw [← k1]; exact z1
          refine ⟨e2, hu.2.step ?_⟩
          obtain ⟨q1, q2, q3, q4⟩ := huv
          refine ⟨q1, ?_, ?_, q4⟩
          · have := hT2 u (by rw [hu.1]; exact e3)
            show ¬ (if u < W * H ∧ labS W H th ct u = nI n then 0 else th u) ≤ 0
            rw [this]; exact q2
          · have := hT2 v (by rw [e2]; exact e3)
            show ¬ (if v < W * H ∧ labS W H th ct v = nI n then 0 else th v) ≤ 0
            rw [this]; exact q3)
        exact this.2
    · have hdl := hd.lt hW
      obtain ⟨z1, z2⟩ := hT a ha hd.2.1
      obtain ⟨z3, z4⟩ := hT d hdl hd.2.2.1
      show (if labS W H th ct a = nI n then -1 else labS W H th ct a) = (if labS W H th ct d = nI n then -1 else labS W H th ct d)
      rw [if_neg z1, if_neg z3]
      exact (L a ha).2.2 d ⟨ha, z2, z4, hd.2.2.2⟩
  · have e : labS W H th ct c = -1 := labS_none (fun q => hc q.1)
    rw [labS_none (fun q => hc q.1), e, if_neg (fun q => i_n1 n (by omega) q.symm)]
theorem BlkS.tak {M M1 : MM} {b W H : Nat} {th ct : Nat → Int32} {n : Nat} (B : BlkS M b W H th ct) (hW : 0 < W) (hH : 0 < H) (h49 : W * H ≤ 49) (hn : n < W * H) (hr : labS W H th ct n = nI n) (h1 : ∀ c, c < 49 → mA M1 (b + 2) c = if labS W H th ct c = nI n then -1 else labS W H th ct c) (h2 : mA M1 (b + 4) = mA M (b + 4)) : BlkS M1 b W H (fun c => if c < W * H ∧ labS W H th ct c = nI n then 0 else th c) ct := by
  refine ⟨fun c hc => by rw [labS_tak hW h49 hn hr]; exact h1 c hc, fun m hm hm2 => ?_⟩
  rw [labS_tak hW h49 hn hr] at hm2
  have hmn : labS W H th ct m ≠ nI n := fun z => by rw [if_pos z] at hm2; exact i_n1 m (by omega) hm2.symm
  rw [if_neg hmn] at hm2
  rw [h2, B.2 m hm hm2]
  have hWH : W ≤ W * H := w_le hH
  have e3 : nI m ≠ nI n := by rw [← hm2]; exact hmn
  refine not_congr ⟨fun ⟨c, c1, c2, c3⟩ => ⟨c, c1, ?_, c3⟩, fun ⟨c, c1, c2, c3⟩ => ⟨c, c1, ?_, c3⟩⟩
  · rw [labS_tak hW h49 hn hr, if_neg (by rw [c2]; exact e3)]; exact c2
  · rw [labS_tak hW h49 hn hr] at c2
    by_cases z : labS W H th ct c = nI n
    · rw [if_pos z] at c2; exact absurd c2.symm (i_n1 m (by omega))
    · rw [if_neg z] at c2; exact c2
/-- labels of a field -/
noncomputable def lbG (W H : Nat) (g : GG) : Nat → Int32 := labS W H (gt g) (gc g)
noncomputable def farG (W H : Nat) (g : GG) (n : Nat) : Nat → Int32 := farX W H (gt g) (lbG W H g) n
def looG (W H : Nat) (g : GG) (n : Nat) : Prop := loP W (gc g) (lbG W H g) n
/-- floats out -/
def flG (W H : Nat) (g : GG) (n : Nat) : Prop := looG W H g n ∧ wayI (farG W H g n) ≠ -1
noncomputable def takG (W H : Nat) (g : GG) (n : Nat) : GG := takS W H (lbG W H g) (nI n) g
def lowP (P : Nat → Prop) (N n : Nat) : Prop := n < N ∧ P n ∧ ∀ m, m < n → ¬ P m
def TkR (W H : Nat) : Nat → GG → GG → Prop
  | 0, g, g1 => g1 = g ∧ ∀ m, m < W * H → ¬ flG W H g m
  | k + 1, g, g1 => ∃ n, lowP (flG W H g) (W * H) n ∧ TkR W H k (takG W H g n) g1
theorem low_ex (P : Nat → Prop) (N : Nat) : (∃ n, lowP P N n) ∨ ∀ m, m < N → ¬ P m := by
  by_cases h : ∃ n, n < N ∧ P n
  · obtain ⟨n, n1, n2⟩ := h
    obtain ⟨k, k1, k2, k3⟩ := ex_least P n2
    exact Or.inl ⟨k, by omega, k1, fun m hm z => by have := k3 m z; omega⟩
  · exact Or.inr (fun m hm z => h ⟨m, hm, z⟩)
theorem low_uniq {P : Nat → Prop} {N n m : Nat} (h1 : lowP P N n) (h2 : lowP P N m) : n = m := by
  have a := Nat.le_of_not_lt (fun z => h1.2.2 m z h2.2.1)
  have b := Nat.le_of_not_lt (fun z => h2.2.2 n z h1.2.1)
  exact Nat.le_antisymm a b
theorem cnI_mono {f g : Nat → Int32} {n : Nat} (h : ∀ i, f i ≤ 0 → g i ≤ 0) : cnI g n ≤ cnI f n := by
  induction n with
  | zero => exact Nat.le_refl _
  | succ n ih =>
    simp only [cnI]
    by_cases e : f n ≤ 0
    · rw [if_pos e, if_pos (h n e)]; omega
    · rw [if_neg e]
      by_cases e2 : g n ≤ 0
      · rw [if_pos e2]; omega
      · rw [if_neg e2]; omega
theorem cnI_strict {f g : Nat → Int32} {n p : Nat} (h : ∀ i, f i ≤ 0 → g i ≤ 0) (hp : p < n) (h1 : ¬ f p ≤ 0) (h2 : g p ≤ 0) : cnI g n + 1 ≤ cnI f n := by
  induction n with
  | zero => omega
  | succ n ih =>
    simp only [cnI]
    by_cases e : p = n
    · subst e
      rw [if_neg h1, if_pos h2]
      have := cnI_mono (n := p) h
      omega
    · have := ih (by omega)
      by_cases e1 : f n ≤ 0
      · rw [if_pos e1, if_pos (h n e1)]; omega
      · rw [if_neg e1]
        by_cases e2 : g n ≤ 0
        · rw [if_pos e2]; omega
        · rw [if_neg e2]; omega
theorem lbG_root {W H n : Nat} {g : GG} (hW : 0 < W) (h49 : W * H ≤ 49) (hn : n < 49) (h : lbG W H g n = nI n) : n < W * H ∧ ¬ gt g n ≤ 0 := by
  have := labS_root hW h49 hn h
  exact ⟨this.2.1, this.2.2.1⟩
theorem Tk_ex {W H : Nat} (hW : 0 < W) (h49 : W * H ≤ 49) : ∀ k g, cnI (gt g) (W * H) ≤ k → ∃ j g1, j ≤ k ∧ TkR W H j g g1 := by
  intro k
  induction k with
  | zero =>
    intro g hk
    refine ⟨0, g, Nat.le_refl _, rfl, fun m hm z => ?_⟩
    have hr := (lbG_root hW h49 (by omega : m < 49) z.1.1).2
    have := cnI_strict (f := gt g) (g := fun _ => 0) (n := W * H) (fun _ _ => by decide) hm hr (by decide)
    omega
  | succ k ih =>
    intro g hk
    rcases low_ex (flG W H g) (W * H) with ⟨n, hn⟩ | h
    · have hr := (lbG_root hW h49 (by have := hn.1; omega : n < 49) hn.2.1.1.1).2
      have hs := cnI_strict (f := gt g) (g := gt (takG W H g n)) (n := W * H) (p := n) (fun i hi => ?_) hn.1 hr ?_
      · obtain ⟨j, g1, j1, j2⟩ := ih (takG W H g n) (by omega)
        exact ⟨j + 1, g1, by omega, n, hn, j2⟩
      · show (if i < W * H ∧ lbG W H g i = nI n then 0 else gt g i) ≤ 0
        by_cases e : i < W * H ∧ lbG W H g i = nI n
        · rw [if_pos e]; decide
        · rw [if_neg e]; exact hi
      · show (if n < W * H ∧ lbG W H g n = nI n then 0 else gt g n) ≤ 0
        rw [if_pos ⟨hn.1, hn.2.1.1.1⟩]; decide
    · exact ⟨0, g, by omega, rfl, h⟩
theorem Tk_uniq {W H : Nat} : ∀ k j g g1 g2, TkR W H k g g1 → TkR W H j g g2 → k = j ∧ g1 = g2 := by
  intro k
  induction k with
  | zero =>
    intro j g g1 g2 h1 h2
    cases j with
    | zero => exact ⟨rfl, h1.1.trans h2.1.symm⟩
    | succ j =>
      obtain ⟨n, n1, _⟩ := h2
      exact absurd n1.2.1 (h1.2 n n1.1)
  | succ k ih =>
    intro j g g1 g2 h1 h2
    obtain ⟨n, n1, n2⟩ := h1
    cases j with
    | zero => exact absurd n1.2.1 (h2.2 n n1.1)
    | succ j =>
      obtain ⟨m, m1, m2⟩ := h2
      have := low_uniq n1 m1
      subst this
      obtain ⟨a, b⟩ := ih j _ _ _ n2 m2
      exact ⟨by omega, b⟩
/-! the class's field -/
def TextAt (Z : ZZ) (x : Nat) : Prop := zK Z x = 3 ∧ zR Z 8 x = some (x + 1) ∧ NumAt Z (x + 1) (x + 2) 60
def FieldAt (Z : ZZ) (a : Nat) : Prop := (zK Z a = 5 ∧ zR Z 13 a = some (a + 1) ∧ zR Z 14 a = some (a + 10) ∧ zR Z 15 a = some (a + 19) ∧ zR Z 16 a = some (a + 20) ∧ zR Z 17 a = some (a + 23) ∧ zR Z 18 a = some (a + 30) ∧ zR Z 19 a = some (a + 39)) ∧ (IceAt Z (a + 1) ∧ IceAt Z (a + 10) ∧ zK Z (a + 19) = 8 ∧ zN Z (a + 19) = 4 ∧ (∀ i, i < 4 → zG Z (a + 19) i = some (a + 41 + 9 * i) ∧ IceAt Z (a + 41 + 9 * i))) ∧ TextAt Z (a + 20) ∧ BlkAt Z (a + 23) ∧ WayAt Z (a + 30) ∧ NumAt Z (a + 39) (a + 40) 49
/-- the class's scratch -/
def scA (a : Nat) : List Nat := [a + 9, a + 12, a + 14, a + 16, a + 18, a + 25, a + 27, a + 29, a + 32, a + 34, a + 36, a + 38, a + 40]
def scO (a : Nat) : List Nat := [a + 10, a + 30]
theorem BlkS.frame {M M1 : MM} {b W H : Nat} {th ct : Nat → Int32} {rs os : List Nat} (B : BlkS M b W H th ct) (f : Fr rs os M M1) (h2 : b + 2 ∉ rs) (h4 : b + 4 ∉ rs) : BlkS M1 b W H th ct := by
  refine ⟨fun c hc => ?_, fun n hn z => ?_⟩
  · rw [f.1 _ h2]; exact B.1 c hc
  · rw [f.1 _ h4]; exact B.2 n hn z
/-- a loose block's way on a field with the found blocks -/
theorem sp_srch {Z : ZZ} {M : MM} {x a : Nat} {g g0 : GG} {W H n : Nat} {Q : Int32 → MM → Prop} (F : FieldAt Z a) (h : IceAt Z x) (hx : x + 9 ≤ a + 23 ∨ a + 39 ≤ x) (t : IceS M x g) (w : WH g W H) (B : BlkS M (a + 23) W H (gt g0) (gc g0)) (hn : n < 49) (hr : lbG W H g0 n = nI n) (hQ : ∀ M1, Fr [a + 32, a + 34, a + 36, a + 38] [a + 30] M M1 → (∀ D, D < 1000 → farX W H (gt g) (lbG W H g0) n 112 = nI D → D < 240 ∧ ∀ j, j < D → mA M1 (a + 32) j = nI (gmv (farX W H (gt g) (lbG W H g0) n) (gp (farX W H (gt g) (lbG W H g0) n) D j) (D - j - 1))) → Q (wayI (farX W H (gt g) (lbG W H g0) n)) M1) : P_X4_search Z M (a + 30) x (a + 23) (nI n) Q := by
  have hW : 0 < W := by have := w.2.2.1; omega
  have h49 : W * H ≤ 49 := wh_lt w.2.2.2.1 w.2.2.2.2.2
  have hrr := lbG_root hW h49 hn hr
  refine sp_search (lb := lbG W H g0) h F.2.2.2.2.1 F.2.2.2.1 (by omega) (by omega) t w B.1 (fun c hc z => ?_) hrr.1 hr hQ
  exact (labS_root hW h49 hn z).2.1
/-- the lowest block that floats -/
theorem sp_lowFl {Z : ZZ} {M : MM} {x a : Nat} {g : GG} {W H : Nat} {Q : Int32 → MM → Prop} (F : FieldAt Z a) (h : IceAt Z x) (hx : x + 9 ≤ a + 23 ∨ a + 39 ≤ x) (t : IceS M x g) (w : WH g W H) (B : BlkS M (a + 23) W H (gt g) (gc g))
    (hy : ∀ n M1, Fr [a + 32, a + 34, a + 36, a + 38] [a + 30] M M1 → lowP (flG W H g) (W * H) n → Q (nI n) M1) (hno : ∀ M1, Fr [a + 32, a + 34, a + 36, a + 38] [a + 30] M M1 → (∀ m, m < W * H → ¬ flG W H g m) → Q (-1) M1) : P_X5_lowestFloating Z M a x Q := by
  have h49 : W * H ≤ 49 := wh_lt w.2.2.2.1 w.2.2.2.2.2
  have hb := F.2.2.2.1
  refine ⟨W * H + 1, ?_⟩
  refine for_up (W * H) (fun k i M' => L_X5_lowestFloating_2 Z Q k M' a x (nI i)) (fun i M' => Fr [a + 32, a + 34, a + 36, a + 38] [a + 30] M M' ∧ ∀ m, m < i → ¬ flG W H g m) ?_ ?_ (W * H) 0 M (by omega) ⟨Fr.refl _ _ _, fun m hm => absurd hm (by omega)⟩
  · intro k i M' hi ⟨f, I⟩ kk
    have t1 : IceS M' x g := t.frame f (by simp; omega) (by simp; omega) (by simp; omega) (by simp; omega)
    have B1 := B.frame f (by simp) (by simp)
    show B_X5_lowestFloating_2 Z Q (L_X5_lowestFloating_2 Z Q k) M' a x (nI i)
    unfold B_X5_lowestFloating_2 B_X5_lowestFloating_40
    have skip : ∀ M2, Fr [a + 32, a + 34, a + 36, a + 38] [a + 30] M M2 → ¬ flG W H g i → L_X5_lowestFloating_2 Z Q k M2 a x (nI (i + 1)) := by
      intro M2 f2 z
      refine kk M2 ⟨f2, fun m hm => ?_⟩
      by_cases e : m = i
      · subst e; exact z
      · exact I m (by omega)
    rw [nI_1]
    refine ⟨h.1, (sp_cells h t1 w).mpr ⟨fun e => absurd e ?_, fun _ => ⟨F.1.1, a + 23, F.1.2.2.2.2.2.1, hb.1, sp_isLoose hb (by omega) B1 (fun z => ⟨fun q => absurd q (by decide), fun _ => ?_⟩) (fun z => ⟨fun _ => skip M' f (fun q => z q.1), fun q => absurd rfl q⟩)⟩⟩⟩
    · rw [n_le (by omega) (by omega)]; omega
    · refine ⟨a + 30, F.1.2.2.2.2.2.2.1, F.2.2.2.2.1.1, sp_srch (g0 := g) F h hx t1 w B1 (by omega) z.1 (fun M2 f2 _ => ?_)⟩
      refine ⟨fun z2 => skip M2 (f.trans f2) (fun q => q.2 z2), fun z2 => hy i M2 (f.trans f2) ⟨hi, ⟨z, z2⟩, I⟩⟩
  · intro k M' ⟨f, I⟩
    have t1 : IceS M' x g := t.frame f (by simp; omega) (by simp; omega) (by simp; omega) (by simp; omega)
    show B_X5_lowestFloating_2 Z Q (L_X5_lowestFloating_2 Z Q k) M' a x (nI (W * H))
    unfold B_X5_lowestFloating_2
    exact ⟨h.1, (sp_cells h t1 w).mpr ⟨fun _ => hno M' f I, fun e => absurd (nI_le (Nat.le_refl _) (by omega)) e⟩⟩
theorem lp_rem {Z : ZZ} {x a W H : Nat} {Q : Int32 → MM → Prop} (F : FieldAt Z a) (h : IceAt Z x) (hx : x + 9 ≤ a + 23 ∨ a + 39 ≤ x) : ∀ k j g g1 M tb, TkR W H k g g1 → k + j ≤ 49 → IceS M x g → WH g W H → gs g 7 = nI tb → tb + k < 1000000 → BlkS M (a + 23) W H (gt g) (gc g) →
    (∀ M1, Fr [x + 2, x + 6, a + 25, a + 32, a + 34, a + 36, a + 38] [x, a + 30] M M1 → IceS M1 x g1 → WH g1 W H → BlkS M1 (a + 23) W H (gt g1) (gc g1) → gs g1 7 = nI (tb + k) → Q (nI (j + k)) M1) → L_X5_removeFloating_10 Z Q (k + 1) M a x (nI j) := by
  intro k
  have hb := F.2.2.2.1
  induction k with
  | zero =>
    intro j g g1 M tb hT hj t w htb htb2 B hQ
    have h49 : W * H ≤ 49 := wh_lt w.2.2.2.1 w.2.2.2.2.2
    obtain ⟨rfl, hT⟩ := hT
    show B_X5_removeFloating_10 Z Q (L_X5_removeFloating_10 Z Q 0) M a x (nI j)
    unfold B_X5_removeFloating_10
    refine ⟨fun z => ?_, fun _ => ⟨F.1.1, sp_lowFl F h hx t w B (fun n M1 f1 q => absurd q.2.1 (hT n q.1)) (fun M1 f1 _ => ⟨fun q => absurd rfl q, fun _ => hQ M1 (f1.mono (by simp) (by simp)) (t.frame f1 (by simp; omega) (by simp; omega) (by simp; omega) (by simp; omega)) w (B.frame f1 (by simp) (by simp)) htb⟩)⟩⟩
    rw [show (49 : Int32) = nI 49 from rfl, n_le (by omega) (by omega)] at z
    have : j = 49 := by omega
    subst this
    exact hQ M (Fr.refl _ _ _) t w B htb
  | succ k ih =>
    intro j g g1 M tb hT hj t w htb htb2 B hQ
    have hW : 0 < W := by have := w.2.2.1; omega
    have hH : 0 < H := by have := w.2.2.2.2.1; omega
    have h49 : W * H ≤ 49 := wh_lt w.2.2.2.1 w.2.2.2.2.2
    obtain ⟨n, n1, n2⟩ := hT
    show B_X5_removeFloating_10 Z Q (L_X5_removeFloating_10 Z Q (k + 1)) M a x (nI j)
    unfold B_X5_removeFloating_10
    refine ⟨fun z => ?_, fun _ => ⟨F.1.1, sp_lowFl F h hx t w B (fun m M1 f1 q => ?_) (fun M1 f1 q => absurd n1.2.1 (q n n1.1))⟩⟩
    · rw [show (49 : Int32) = nI 49 from rfl, n_le (by omega) (by omega)] at z; omega
    have := low_uniq n1 q
    subst this
    have hn49 : n < 49 := by have := n1.1; omega
    have t1 : IceS M1 x g := t.frame f1 (by simp; omega) (by simp; omega) (by simp; omega) (by simp; omega)
    have B1 := B.frame f1 (by simp) (by simp)
    refine ⟨fun _ => ⟨a + 23, F.1.2.2.2.2.2.1, h.1, sp_remove (lb := lbG W H g) h hb (by omega) t1 w htb (by omega) B1.1 (fun M2 f2 t2 => ⟨hb.1, sp_forget (lb := lbG W H g) hb (fun c hc => ?_) (fun M3 f3 hl3 => ?_)⟩)⟩, fun z => absurd z (i_n1 n (by omega))⟩
    · rw [f2.1 _ (by simp; omega)]; exact B1.1 c hc
    · have t3 : IceS M3 x (takG W H g n) := t2.frame f3 (by simp) (by simp; omega) (by simp; omega) (by simp; omega)
      have B3 : BlkS M3 (a + 23) W H (gt (takG W H g n)) (gc (takG W H g n)) := B1.tak hW hH h49 n1.1 n1.2.1.1.1 hl3 (by rw [f3.1 _ (by simp), f2.1 _ (by simp; omega)])
      rw [nI_1]
      refine ih (j + 1) (takG W H g n) g1 M3 (tb + 1) n2 (by omega) t3 (w.tak _ _) ?_ (by omega) B3 (fun M4 f4 t4 w4 B4 e4 => ?_)
      · show upd (upd (gs g) 7 (gs g 7 + 1)) 6 (gs g 6 + volS W H (gt g) (lbG W H g) (nI n)) 7 = nI (tb + 1)
        rw [upd_ne _ _ (by omega), upd_same, htb, nI_1]
      · have := hQ M4 (((f1.mono (by simp) (by simp)).trans (f2.mono (by simp) (by simp))).trans ((f3.mono (by simp) (by simp)).trans f4)) t4 w4 B4 (by rw [e4]; congr 1; omega)
        rw [show j + 1 + k = j + (k + 1) by omega]
        exact this
theorem sp_remFl {Z : ZZ} {M : MM} {x a : Nat} {g g1 : GG} {W H k tb : Nat} {Q : Int32 → MM → Prop} (F : FieldAt Z a) (h : IceAt Z x) (hx : x + 9 ≤ a + 23 ∨ a + 39 ≤ x) (t : IceS M x g) (w : WH g W H) (hT : TkR W H k g g1) (hk : k ≤ 49) (htb : gs g 7 = nI tb) (htb2 : tb + k < 1000000)
    (hQ : ∀ M1, Fr [x + 2, x + 6, a + 25, a + 27, a + 29, a + 32, a + 34, a + 36, a + 38] [x, a + 30] M M1 → IceS M1 x g1 → WH g1 W H → BlkS M1 (a + 23) W H (gt g1) (gc g1) → gs g1 7 = nI (tb + k) → Q (nI k) M1) : P_X5_removeFloating Z M a x Q := by
  have hb := F.2.2.2.1
  unfold P_X5_removeFloating B_X5_removeFloating_0
  refine ⟨F.1.1, a + 23, F.1.2.2.2.2.2.1, hb.1, sp_find h hb (by omega) t w (fun M1 f1 B1 => ⟨k + 1, ?_⟩)⟩
  have t1 : IceS M1 x g := t.frame f1 (by simp) (by simp; omega) (by simp; omega) (by simp; omega)
  refine lp_rem F h hx k 0 g g1 M1 tb hT (by omega) t1 w htb htb2 B1 (fun M2 f2 t2 w2 B2 e2 => ?_)
  rw [Nat.zero_add]
  exact hQ M2 ((f1.mono (by simp) (by simp)).trans (f2.mono (by simp) (by simp))) t2 w2 B2 e2
