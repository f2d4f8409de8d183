/-! PURE: left and right exchanged: cells, sides, places of cuts; sums in another order -/
def tau (W c : Nat) : Nat := c - c % W + (W - 1 - c % W)
def sg (s : Nat) : Nat := if s = 0 then 3 else if s = 3 then 0 else s
def mu (W q : Nat) : Nat := if q < 56 then tau W q else 57 + tau W (q - 56)
def alP (W H q : Nat) : Prop := q < W * H ∨ (57 ≤ q ∧ q - 57 < W * H ∧ (q - 57) % W + 1 < W)
def ck1 (W H c : Nat) : Bool := decide (tau W c < W * H) && (decide (tau W (tau W c) = c) && (decide (tau W c / W = c / W) && (decide (tau W c % W = W - 1 - c % W) && (decide (W ≤ c) || decide (tau W c < W)))))
def ckA (W H q : Nat) : Bool := decide (q < W * H) || (decide (57 ≤ q) && (decide (q - 57 < W * H) && decide ((q - 57) % W + 1 < W)))
def ck2 (W H c s : Nat) : Bool := decide (bs W H (tau W c) (sg s) = (bs W H c s).map (tau W))
def ck3 (W H c s : Nat) : Bool := !(decide (s = 2) || (bs W H c s).isSome) || (decide (mu W (pl W c s) = pl W (tau W c) (sg s)) && ckA W H (pl W c s))
def ck4 (W H q : Nat) : Bool := !ckA W H q || (decide (mu W q < 106) && (ckA W H (mu W q) && decide (mu W (mu W q) = q)))
theorem ck1_all : ∀ W, W < 8 → ∀ H, H < 8 → ∀ c, c < W * H → ck1 W H c = true := by decide +kernel
theorem ck2_all : ∀ W, W < 8 → ∀ H, H < 8 → ∀ c, c < W * H → ∀ s, s < 4 → ck2 W H c s = true := by decide +kernel
theorem ck3_all : ∀ W, W < 8 → ∀ H, H < 8 → ∀ c, c < W * H → ∀ s, s < 4 → ck3 W H c s = true := by decide +kernel
theorem ck4_all : ∀ W, W < 8 → ∀ H, H < 8 → ∀ q, q < 106 → ck4 W H q = true := by decide +kernel
theorem ckA_iff {W H q : Nat} : ckA W H q = true ↔ alP W H q := by
  unfold ckA alP
  simp only [Bool.or_eq_true, Bool.and_eq_true, decide_eq_true_eq]
theorem tau_fin1 {W H c : Nat} (hW : W < 8) (hH : H < 8) (hc : c < W * H) : tau W c < W * H ∧ tau W (tau W c) = c ∧ tau W c / W = c / W ∧ tau W c % W = W - 1 - c % W ∧ (W ≤ c ∨ tau W c < W) := by
  have := ck1_all W hW H hH c hc
  unfold ck1 at this
  simpa only [Bool.or_eq_true, Bool.and_eq_true, decide_eq_true_eq] using this
theorem tau_fin2 {W H c s : Nat} (hW : W < 8) (hH : H < 8) (hc : c < W * H) (hs : s < 4) : bs W H (tau W c) (sg s) = (bs W H c s).map (tau W) := of_decide_eq_true (ck2_all W hW H hH c hc s hs)
theorem tau_fin3 {W H c s : Nat} (hW : W < 8) (hH : H < 8) (hc : c < W * H) (hs : s < 4) (h : s = 2 ∨ (bs W H c s).isSome = true) : mu W (pl W c s) = pl W (tau W c) (sg s) ∧ alP W H (pl W c s) := by
  have := ck3_all W hW H hH c hc s hs
  unfold ck3 at this
  have z : (decide (s = 2) || (bs W H c s).isSome) = true := by
    simpa only [Bool.or_eq_true, decide_eq_true_eq] using h
  rw [z] at this
  simp only [Bool.not_true, Bool.false_or, Bool.and_eq_true, decide_eq_true_eq] at this
  exact ⟨this.1, ckA_iff.mp this.2⟩
theorem tau_fin4 {W H q : Nat} (hW : W < 8) (hH : H < 8) (hq : q < 106) (h : alP W H q) : mu W q < 106 ∧ alP W H (mu W q) ∧ mu W (mu W q) = q := by
  have := ck4_all W hW H hH q hq
  unfold ck4 at this
  rw [ckA_iff.mpr h] at this
  simp only [Bool.not_true, Bool.false_or, Bool.and_eq_true, decide_eq_true_eq] at this
  exact ⟨this.1, ckA_iff.mp this.2.1, this.2.2⟩
theorem sg_sg {s : Nat} (h : s < 4) : sg (sg s) = s ∧ sg s < 4 := by
  obtain rfl | rfl | rfl | rfl : s = 0 ∨ s = 1 ∨ s = 2 ∨ s = 3 := by omega
  all_goals decide
theorem sm_0 (n : Nat) : sm (fun _ => 0) n = 0 := by
  induction n with
  | zero => rfl
  | succ n ih => simp only [sm, ih, Int32.add_zero]
theorem sm_one {n k : Nat} (v : Int32) (h : k < n) : sm (fun i => if i = k then v else 0) n = v := by
  induction n with
  | zero => omega
  | succ n ih =>
    simp only [sm]
    by_cases e : n = k
    · rw [if_pos e, sm_ext (g := fun _ => 0) (fun i hi => if_neg (by omega)), sm_0, Int32.zero_add]
    · rw [if_neg e, ih (by omega), Int32.add_zero]
theorem sm_swap (F : Nat → Nat → Int32) (n m : Nat) : sm (fun i => sm (fun j => F i j) m) n = sm (fun j => sm (fun i => F i j) n) m := by
  induction n with
  | zero => exact (sm_0 m).symm
  | succ n ih =>
    show sm (fun i => sm (fun j => F i j) m) n + sm (fun j => F n j) m = _
    rw [ih]
    exact (sm_add (fun j => sm (fun i => F i j) n) (fun j => F n j) m).symm
theorem sm_bij {f g : Nat → Int32} {P R : Nat → Prop} {u v : Nat → Nat} {n m : Nat} (h1 : ∀ q, q < n → P q → u q < m ∧ R (u q) ∧ v (u q) = q ∧ g (u q) = f q) (h2 : ∀ r, r < m → R r → v r < n ∧ P (v r) ∧ u (v r) = r) (h3 : ∀ q, q < n → ¬ P q → f q = 0) (h4 : ∀ r, r < m → ¬ R r → g r = 0) : sm f n = sm g m := by
  have a : sm f n = sm (fun q => sm (fun r => @ite Int32 (P q ∧ r = u q) (Classical.propDecidable _) (f q) 0) m) n := sm_ext (fun q hq => by
    by_cases p : P q
    · obtain ⟨b, _⟩ := h1 q hq p
      rw [sm_ext (g := fun r => if r = u q then f q else 0) (fun r _ => ?_), sm_one _ b]
      by_cases e : r = u q
      · rw [if_pos ⟨p, e⟩, if_pos e]
      · rw [if_neg (fun z => e z.2), if_neg e]
    · rw [sm_ext (g := fun _ => 0) (fun r _ => if_neg (fun z => p z.1)), sm_0, h3 q hq p])
  rw [a, sm_swap]
  refine sm_ext (fun r hr => ?_)
  by_cases p : R r
  · obtain ⟨b, c, d⟩ := h2 r hr p
    rw [sm_ext (g := fun q => if q = v r then g r else 0) (fun q hq => ?_), sm_one _ b]
    by_cases e : q = v r
    · have k := (h1 _ b c).2.2.2
      rw [d] at k
      subst e
      rw [if_pos ⟨c, d.symm⟩, if_pos rfl, k]
    · rw [if_neg e, if_neg]
      intro z
      exact e (by rw [z.2]; exact (h1 q hq z.1).2.2.1.symm)
  · rw [sm_ext (g := fun _ => 0) (fun q hq => if_neg (fun z => p (by rw [z.2]; exact (h1 q hq z.1).2.1))), sm_0, h4 r hr p]
theorem cnP_sm (P : Nat → Prop) (n : Nat) : sm (fun i => @ite Int32 (P i) (Classical.propDecidable _) 1 0) n = nI (cnP P n) := by
  induction n with
  | zero => rfl
  | succ n ih =>
    simp only [sm, cnP]
    rw [ih]
    by_cases e : P n
    · rw [if_pos e, if_pos e, nI_1]
    · rw [if_neg e, if_neg e, Int32.add_zero]; rfl
theorem cnE_sm (f : Nat → Int32) (v : Int32) (n : Nat) : sm (fun i => if f i = v then (1 : Int32) else 0) n = nI (cnE f v n) := by
  induction n with
  | zero => rfl
  | succ n ih =>
    simp only [sm, cnE]
    rw [ih]
    by_cases e : f n = v
    · rw [if_pos e, if_pos e, nI_1]
    · rw [if_neg e, if_neg e, Int32.add_zero]; rfl
theorem cnP_bij {P R : Nat → Prop} {u v : Nat → Nat} {n m : Nat} (h1 : ∀ q, q < n → P q → u q < m ∧ R (u q) ∧ v (u q) = q) (h2 : ∀ r, r < m → R r → v r < n ∧ P (v r) ∧ u (v r) = r) : nI (cnP P n) = nI (cnP R m) := by
  rw [← cnP_sm, ← cnP_sm]
  refine sm_bij (P := P) (R := R) (u := u) (v := v) (fun q hq p => ?_) h2 (fun q _ p => if_neg p) (fun r _ p => if_neg p)
  obtain ⟨a, b, c⟩ := h1 q hq p
  exact ⟨a, b, c, by rw [if_pos b, if_pos p]⟩
/-- two fields, in the second one left and right exchanged -/
def Mir (W H : Nat) (g h : GG) : Prop := (∀ f, f < 8 → gs h f = gs g f) ∧ (∀ c, c < W * H → gt h (tau W c) = gt g c) ∧ (∀ q, q < 106 → alP W H q → gc h (mu W q) = gc g q)
section
variable {W H : Nat} {g h : GG}
theorem tau_lt (hW : W ≤ 7) (hH : H ≤ 7) {c : Nat} (hc : c < W * H) : tau W c < W * H := (tau_fin1 (show W < 8 by omega) (show H < 8 by omega) hc).1
theorem tau_tau (hW : W ≤ 7) (hH : H ≤ 7) {c : Nat} (hc : c < W * H) : tau W (tau W c) = c := (tau_fin1 (show W < 8 by omega) (show H < 8 by omega) hc).2.1
theorem tau_row (hW : W ≤ 7) (hH : H ≤ 7) {c : Nat} (hc : c < W * H) : tau W c / W = c / W := (tau_fin1 (show W < 8 by omega) (show H < 8 by omega) hc).2.2.1
theorem tau_col (hW : W ≤ 7) (hH : H ≤ 7) {c : Nat} (hc : c < W * H) : tau W c % W = W - 1 - c % W := (tau_fin1 (show W < 8 by omega) (show H < 8 by omega) hc).2.2.2.1
theorem bs_tau (hW : W ≤ 7) (hH : H ≤ 7) {c s : Nat} (hc : c < W * H) (hs : s < 4) : bs W H (tau W c) (sg s) = (bs W H c s).map (tau W) := tau_fin2 (show W < 8 by omega) (show H < 8 by omega) hc hs
theorem pl_tau (hW : W ≤ 7) (hH : H ≤ 7) {c s : Nat} (hc : c < W * H) (hs : s < 4) (h : s = 2 ∨ (bs W H c s).isSome = true) : mu W (pl W c s) = pl W (tau W c) (sg s) ∧ alP W H (pl W c s) := tau_fin3 (show W < 8 by omega) (show H < 8 by omega) hc hs h
theorem mu_al (hW : W ≤ 7) (hH : H ≤ 7) {q : Nat} (hq : q < 106) (h : alP W H q) : mu W q < 106 ∧ alP W H (mu W q) ∧ mu W (mu W q) = q := tau_fin4 (show W < 8 by omega) (show H < 8 by omega) hq h
theorem Mir.symm (hW : W ≤ 7) (hH : H ≤ 7) (m : Mir W H g h) : Mir W H h g := by
  refine ⟨fun f hf => (m.1 f hf).symm, fun c hc => ?_, fun q hq ha => ?_⟩
  · have := m.2.1 (tau W c) (tau_lt hW hH hc)
    rw [tau_tau hW hH hc] at this
    exact this.symm
  · obtain ⟨a, b, c⟩ := mu_al hW hH hq ha
    have := m.2.2 (mu W q) a b
    rw [c] at this
    exact this.symm
theorem al_tau (hW : W ≤ 7) (hH : H ≤ 7) {c s : Nat} (hc : c < W * H) (hs : s < 4) : (sg s = 2 ∨ (bs W H (tau W c) (sg s)).isSome = true) ↔ (s = 2 ∨ (bs W H c s).isSome = true) := by
  rw [bs_tau hW hH hc hs, Option.isSome_map]
  obtain rfl | rfl | rfl | rfl : s = 0 ∨ s = 1 ∨ s = 2 ∨ s = 3 := by omega
  all_goals simp [sg]
theorem Mir.cut (hW : W ≤ 7) (hH : H ≤ 7) (m : Mir W H g h) {c s : Nat} (hc : c < W * H) (hs : s < 4) (ha : s = 2 ∨ (bs W H c s).isSome = true) : gc h (pl W (tau W c) (sg s)) = gc g (pl W c s) := by
  obtain ⟨a, b⟩ := pl_tau hW hH hc hs ha
  rw [← a]
  exact m.2.2 _ (pl_lt hW (by have := wh_lt hW hH; omega)) b
theorem tau_sum (hW : W ≤ 7) (hH : H ≤ 7) {f k : Nat → Int32} (h : ∀ c, c < W * H → k (tau W c) = f c) : sm k (W * H) = sm f (W * H) :=
  (sm_bij (P := fun _ => True) (R := fun _ => True) (u := tau W) (v := tau W) (fun q hq _ => ⟨tau_lt hW hH hq, trivial, tau_tau hW hH hq, h q hq⟩) (fun q hq _ => ⟨tau_lt hW hH hq, trivial, tau_tau hW hH hq⟩) (fun _ _ p => absurd trivial p) (fun _ _ p => absurd trivial p)).symm
end
