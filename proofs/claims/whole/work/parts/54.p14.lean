/-! PURE: the model's state; its leaves -/
def RowAt (Z : ZZ) (a n : Nat) : Prop := zK Z a = 7 ∧ zN Z a = n
def ModAt (Z : ZZ) (m : Nat) : Prop := zK Z m = 6 ∧ (zR Z 20 m = some (m + 1) ∧ zR Z 21 m = some (m + 2) ∧ zR Z 22 m = some (m + 3) ∧ zR Z 23 m = some (m + 4) ∧ zR Z 24 m = some (m + 5) ∧ zR Z 25 m = some (m + 6) ∧ zR Z 26 m = some (m + 7)) ∧ RowAt Z (m + 1) 226 ∧ RowAt Z (m + 2) 904 ∧ RowAt Z (m + 3) 226 ∧ RowAt Z (m + 4) 49 ∧ RowAt Z (m + 5) 225 ∧ RowAt Z (m + 6) 49 ∧ RowAt Z (m + 7) 60
theorem vpn {k n : Nat} (h : k < n) (hn : n ≤ 1000) : vp_in (nI k) n := by
  rw [vp_in_iff, i_toInt k (by omega)]; omega
def sxm (k : Nat) : Nat := if k = 5 then 6 else if k = 6 then 5 else k
def bts (W N : Nat) (ct : Nat → Int32) (c : Nat) : Int32 := (if c < N ∧ c % W + 1 < W ∧ ct (57 + c) = 1 then 1 else 0) + (if c + W < N ∧ ct (c + W) = 1 then 2 else 0) + (if c < N ∧ c < W ∧ ct c = 1 then 4 else 0)
def wd (g : GG) : Nat := (gs g 0).toNatClampNeg
def ht (g : GG) : Nat := (gs g 1).toNatClampNeg
def enc (g : GG) (k : Nat) : Int32 := if k < 8 then gs g (sxm k) else if k < 57 then gt g (k - 8) else if k < 106 then bts (wd g) (wd g * ht g) (gc g) (k - 57) else gk g (k - 106)
theorem WH.wd {g : GG} {W H : Nat} (w : WH g W H) : wd g = W ∧ ht g = H := by
  have h1 := w.2.2.2.1
  have h2 := w.2.2.2.2.2
  have h3 := w.1
  have h4 := w.2.1
  refine ⟨?_, ?_⟩
  · show (gs g 0).toNatClampNeg = W
    rw [h3, i_cl W (by omega)]
  · show (gs g 1).toNatClampNeg = H
    rw [h4, i_cl H (by omega)]
/-- cuts stand at places only where something can be sawn -/
def CtOk (W H : Nat) (ct : Nat → Int32) : Prop := ∀ p, p < 106 → (ct p = 0 ∨ ct p = 1) ∧ (ct p = 1 → p < W * H ∨ ∃ c, p = 57 + c ∧ c < W * H ∧ c % W + 1 < W)
def MoS (M : MM) (m : Nat) (g : GG) : Prop := ∀ k, k < 226 → mA M (m + 1) k = enc g k
section
variable {Z : ZZ} {M : MM} {m : Nat} {g : GG} {W H : Nat}
theorem ModAt.all (F : ModAt Z m) : zR Z 20 m = some (m + 1) ∧ zK Z (m + 1) = 7 ∧ zN Z (m + 1) = 226 := ⟨F.2.1.1, F.2.2.1.1, F.2.2.1.2⟩
theorem MoS.w0 (t : MoS M m g) (w : WH g W H) : mA M (m + 1) (0 : Int32).toNatClampNeg = nI W := (t 0 (by omega)).trans w.1
theorem MoS.w1 (t : MoS M m g) (w : WH g W H) : mA M (m + 1) (1 : Int32).toNatClampNeg = nI H := (t 1 (by omega)).trans w.2.1
theorem MoS.th (t : MoS M m g) {c : Nat} (hc : c < 49) : mA M (m + 1) (8 + c) = gt g c := by
  rw [t (8 + c) (by omega)]
  unfold enc
  rw [if_neg (by omega), if_pos (by omega)]
  congr 1; omega
theorem MoS.ct (t : MoS M m g) (w : WH g W H) {c : Nat} (hc : c < 49) : mA M (m + 1) (57 + c) = bts W (W * H) (gc g) c := by
  rw [t (57 + c) (by omega)]
  unfold enc
  rw [if_neg (by omega), if_neg (by omega), if_pos (by omega), w.wd.1, w.wd.2]
  congr 1; omega
theorem vp0 : vp_in 0 226 ∧ vp_in 1 226 ∧ vp_in 2 226 ∧ vp_in 4 226 := ⟨vpn (k := 0) (by omega) (by omega), vpn (k := 1) (by omega) (by omega), vpn (k := 2) (by omega) (by omega), vpn (k := 4) (by omega) (by omega)⟩
theorem MoS.frame {M1 : MM} {rs os : List Nat} (t : MoS M m g) (f : Fr rs os M M1) (h : m + 1 ∉ rs) : MoS M1 m g := fun k hk => by rw [f.1 _ h]; exact t k hk
theorem mo_cells {Q : Int32 → MM → Prop} (F : ModAt Z m) (t : MoS M m g) (w : WH g W H) : P_X6_cells Z M m Q ↔ Q (nI (W * H)) M := by
  unfold P_X6_cells B_X6_cells_0
  simp only [F.1, F.all, Option.some.injEq, exists_eq_left', true_and, vp0, t.w0 w, t.w1 w, n_mul]
theorem mo_row {c : Nat} {Q : Int32 → MM → Prop} (F : ModAt Z m) (t : MoS M m g) (w : WH g W H) (hc : c < 64) : P_X6_row Z M m (nI c) Q ↔ Q (nI (c / W)) M := by
  unfold P_X6_row B_X6_row_0
  have h1 := w.2.2.1
  have h2 := w.2.2.2.1
  simp only [F.1, F.all, Option.some.injEq, exists_eq_left', true_and, vp0, t.w0 w, w_ne w, not_false_eq_true, n_div hc (by omega : W < 8) (by omega)]
theorem mo_col {c : Nat} {Q : Int32 → MM → Prop} (F : ModAt Z m) (t : MoS M m g) (w : WH g W H) (hc : c < 64) : P_X6_column Z M m (nI c) Q ↔ Q (nI (c % W)) M := by
  unfold P_X6_column B_X6_column_0
  have h1 := w.2.2.1
  have h2 := w.2.2.2.1
  simp only [F.1, F.all, Option.some.injEq, exists_eq_left', true_and, vp0, t.w0 w, w_ne w, not_false_eq_true, n_mod hc (by omega : W < 8) (by omega)]
theorem e8 (c : Nat) : (8 : Int32) + nI c = nI (8 + c) := nI_add 8 c
theorem e57 (c : Nat) : (57 : Int32) + nI c = nI (57 + c) := nI_add 57 c
theorem mo_isIce {c : Nat} {Q : Int32 → MM → Prop} (F : ModAt Z m) (t : MoS M m g) (hc : c < 49) : P_X6_isIce Z M m (nI c) Q ↔ Q (bI (¬ gt g c ≤ 0)) M := by
  unfold P_X6_isIce B_X6_isIce_0
  simp only [F.1, F.all, Option.some.injEq, exists_eq_left', true_and, e8, vpn (by omega : 8 + c < 226) (by omega : 226 ≤ 1000), i_cl (8 + c) (by omega), t.th hc]
  by_cases e : gt g c ≤ 0 <;> simp [e, bI]
theorem below_iff {W H c : Nat} (hW : 0 < W) : c / W + 1 < H ↔ c + W < W * H := by
  have e : (c + W) / W = c / W + 1 := Nat.add_div_right c hW
  rw [← e, Nat.div_lt_iff_lt_mul hW, Nat.mul_comm]
theorem row_lt {W H c : Nat} (hc : c < W * H) : c / W < H := Nat.div_lt_of_lt_mul hc
theorem mo_canSaw {c s : Nat} {Q : Int32 → MM → Prop} (F : ModAt Z m) (t : MoS M m g) (w : WH g W H) (hc : c < W * H) (hs : s < 4) : P_X6_canSaw Z M m (nI c) (nI s) Q ↔ Q (bI (s = 2 ∨ (bs W H c s).isSome = true)) M := by
  unfold P_X6_canSaw B_X6_canSaw_0
  have h1 := w.2.2.1
  have h2 := w.2.2.2.1
  have h3 := w.2.2.2.2.1
  have h4 := w.2.2.2.2.2
  have h49 : W * H ≤ 49 := wh_lt h2 h4
  have hm : c % W < W := Nat.mod_lt _ (by omega)
  have hr := row_lt hc
  have e0 : ∀ k : Nat, k < 4 → (nI k = (0 : Int32) ↔ k = 0) ∧ (nI k = (1 : Int32) ↔ k = 1) ∧ (nI k = (2 : Int32) ↔ k = 2) ∧ (nI k = (3 : Int32) ↔ k = 3) := by decide
  obtain ⟨a0, a1, a2, a3⟩ := e0 s hs
  have p1 : nI W - 1 = nI (W - 1) := by rw [← n_sub (by omega : 1 ≤ W)]; rfl
  have p2 : nI H - 1 = nI (H - 1) := by rw [← n_sub (by omega : 1 ≤ H)]; rfl
  simp only [F.1, F.all, Option.some.injEq, exists_eq_left', true_and, vp0, a0, a1, a2, a3, mo_col F t w (by omega : c < 64), mo_row F t w (by omega : c < 64), t.w0 w, t.w1 w, p1, p2]
  have c1 : nI (W - 1) ≤ nI (c % W) ↔ ¬ c % W + 1 < W := by rw [n_le (by omega) (by omega)]; omega
  have hrz := Nat.zero_le (c / W)
  have c2 : nI (H - 1) ≤ nI (c / W) ↔ ¬ c + W < W * H := by
    rw [n_le (by omega) (by omega), ← below_iff (by omega : 0 < W)]; omega
  have c3 : nI (c % W) ≤ 0 ↔ ¬ 0 < c % W := by rw [show (0 : Int32) = nI 0 from rfl, n_le (by omega) (by omega)]; omega
  rw [c1, c2, c3]
  unfold bs
  obtain rfl | rfl | rfl | rfl : s = 0 ∨ s = 1 ∨ s = 2 ∨ s = 3 := by omega
  · by_cases e : c % W + 1 < W <;> simp [e, bI]
  · by_cases e : c + W < W * H <;> simp [e, bI]
  · simp [bI]
  · by_cases e : 0 < c % W <;> simp [e, bI]
/-- where the model keeps a cut -/
def kp (W c s : Nat) : Nat := if s = 3 then c - 1 else if s = 2 then (if W ≤ c then c - W else c) else c
def bitN (W c s : Nat) : Int32 := if s = 0 ∨ s = 3 then 1 else if s = 1 ∨ W ≤ c then 2 else 4
theorem row_pos {W c : Nat} (hW : 0 < W) : 0 < c / W ↔ W ≤ c := Nat.div_pos_iff.trans ⟨fun h => h.2, fun h => ⟨hW, h⟩⟩
theorem mo_keeper {c s : Nat} {Q : Int32 → MM → Prop} (F : ModAt Z m) (t : MoS M m g) (w : WH g W H) (hc : c < W * H) (hs : s < 4) (h3 : s = 3 → 0 < c) : P_X6_keeper Z M m (nI c) (nI s) Q ↔ Q (nI (kp W c s)) M := by
  unfold P_X6_keeper B_X6_keeper_0
  have h1 := w.2.2.1
  have h2 := w.2.2.2.1
  have h49 : W * H ≤ 49 := wh_lt h2 w.2.2.2.2.2
  have hr := row_lt hc
  have e0 : ∀ k : Nat, k < 4 → (nI k = (2 : Int32) ↔ k = 2) ∧ (nI k = (3 : Int32) ↔ k = 3) := by decide
  obtain ⟨a2, a3⟩ := e0 s hs
  have hrz := Nat.zero_le (c / W)
  have hH := w.2.2.2.2.2
  have c3 : nI (c / W) ≤ 0 ↔ ¬ W ≤ c := by rw [show (0 : Int32) = nI 0 from rfl, n_le (by omega) (by omega), ← row_pos (by omega : 0 < W)]; omega
  simp only [F.1, F.all, Option.some.injEq, exists_eq_left', true_and, vp0, a2, a3, mo_row F t w (by omega : c < 64), t.w0 w, c3]
  unfold kp
  obtain rfl | rfl | rfl | rfl : s = 0 ∨ s = 1 ∨ s = 2 ∨ s = 3 := by omega
  · simp
  · simp
  · by_cases e : W ≤ c
    · simp [e, n_sub e]
    · simp [e]
  · have := h3 rfl
    have e4 : nI c - 1 = nI (c - 1) := by rw [← n_sub this]; rfl
    simp [e4]
theorem mo_bit {c s : Nat} {Q : Int32 → MM → Prop} (F : ModAt Z m) (t : MoS M m g) (w : WH g W H) (hc : c < W * H) (hs : s < 4) : P_X6_bit Z M m (nI c) (nI s) Q ↔ Q (bitN W c s) M := by
  unfold P_X6_bit B_X6_bit_0
  have h1 := w.2.2.1
  have h2 := w.2.2.2.1
  have h49 : W * H ≤ 49 := wh_lt h2 w.2.2.2.2.2
  have hr := row_lt hc
  have e0 : ∀ k : Nat, k < 4 → (nI k = (0 : Int32) ↔ k = 0) ∧ (nI k = (1 : Int32) ↔ k = 1) ∧ (nI k = (3 : Int32) ↔ k = 3) := by decide
  obtain ⟨a0, a1, a3⟩ := e0 s hs
  have hrz := Nat.zero_le (c / W)
  have hH := w.2.2.2.2.2
  have c3 : nI (c / W) ≤ 0 ↔ ¬ W ≤ c := by rw [show (0 : Int32) = nI 0 from rfl, n_le (by omega) (by omega), ← row_pos (by omega : 0 < W)]; omega
  simp only [F.1, true_and, a0, a1, a3, mo_row F t w (by omega : c < 64), c3]
  unfold bitN
  obtain rfl | rfl | rfl | rfl : s = 0 ∨ s = 1 ∨ s = 2 ∨ s = 3 := by omega
  · simp
  · simp
  · by_cases e : W ≤ c <;> simp [e]
  · simp
theorem b_and (p q r : Prop) [Decidable p] [Decidable q] [Decidable r] : ((((if p then (1 : Int32) else 0) + (if q then 2 else 0) + (if r then 4 else 0)) &&& 1 = 0) ↔ ¬ p) ∧ ((((if p then (1 : Int32) else 0) + (if q then 2 else 0) + (if r then 4 else 0)) &&& 2 = 0) ↔ ¬ q) ∧ ((((if p then (1 : Int32) else 0) + (if q then 2 else 0) + (if r then 4 else 0)) &&& 4 = 0) ↔ ¬ r) := by
  by_cases hp : p <;> by_cases hq : q <;> by_cases hr : r <;> simp only [hp, hq, hr, if_true, if_false] <;> decide
theorem b_or (p q r : Prop) [Decidable p] [Decidable q] [Decidable r] : (((if p then (1 : Int32) else 0) + (if q then 2 else 0) + (if r then 4 else 0)) ||| 1 = 1 + (if q then 2 else 0) + (if r then 4 else 0)) ∧ (((if p then (1 : Int32) else 0) + (if q then 2 else 0) + (if r then 4 else 0)) ||| 2 = (if p then 1 else 0) + 2 + (if r then 4 else 0)) ∧ (((if p then (1 : Int32) else 0) + (if q then 2 else 0) + (if r then 4 else 0)) ||| 4 = (if p then 1 else 0) + (if q then 2 else 0) + 4) := by
  by_cases hp : p <;> by_cases hq : q <;> by_cases hr : r <;> simp only [hp, hq, hr, if_true, if_false] <;> decide
theorem md_pred {W c : Nat} (hW : 0 < W) (h : 0 < c % W) : (c - 1) % W + 1 = c % W := by
  have hdm : W * (c / W) + c % W = c := Nat.div_add_mod c W
  have hm : c % W < W := Nat.mod_lt _ hW
  have e : c - 1 = W * (c / W) + (c % W - 1) := by omega
  rw [e, Nat.mul_add_mod, Nat.mod_eq_of_lt (by omega)]
  omega
end
