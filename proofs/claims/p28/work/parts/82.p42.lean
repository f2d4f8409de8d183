/-! PURE: the constructor of the model, the whole -/
theorem kR (Z : ZZ) (r a : Nat) (y : Option Nat) (b : Nat) : zK (setR Z r a y) b = zK Z b := rfl
theorem nR (Z : ZZ) (r a : Nat) (y : Option Nat) (b : Nat) : zN (setR Z r a y) b = zN Z b := rfl
theorem rA (Z : ZZ) (a k n r b : Nat) : zR (addA Z a k n) r b = zR Z r b := rfl
theorem nO (Z : ZZ) (a k b : Nat) : zN (addO Z a k) b = zN Z b := rfl
def zM (Z : ZZ) (m : Nat) : ZZ := setR (addA (setR (addA (setR (addA (setR (addA (setR (addA (setR (addA (setR (addA (addO Z m 6) (m + 1) 7 226) 20 m (some (m + 1))) (m + 2) 7 904) 21 m (some (m + 2))) (m + 3) 7 226) 22 m (some (m + 3))) (m + 4) 7 49) 23 m (some (m + 4))) (m + 5) 7 225) 24 m (some (m + 5))) (m + 6) 7 49) 25 m (some (m + 6))) (m + 7) 7 60) 26 m (some (m + 7))
theorem zM_ex (Z : ZZ) (m : Nat) : Ex 0 m Z (zM Z m) ∧ GX m Z (zM Z m) := by
  have sR : ∀ (Z1 : ZZ) r y, Ex 0 m Z Z1 ∧ GX m Z Z1 → Ex 0 m Z (setR Z1 r m y) ∧ GX m Z (setR Z1 r m y) := fun Z1 r y h => ⟨h.1.trans (Ex.setR Z1 r y (Or.inr (Nat.le_refl m))), h.2⟩
  have sA : ∀ (Z1 : ZZ) b k n, m ≤ b → Ex 0 m Z Z1 ∧ GX m Z Z1 → Ex 0 m Z (addA Z1 b k n) ∧ GX m Z (addA Z1 b k n) := fun Z1 b k n hb h => ⟨h.1.trans (Ex.addA Z1 k n hb), h.2.trans (GX.addA Z1 k n hb)⟩
  have s0 : Ex 0 m Z (addO Z m 6) ∧ GX m Z (addO Z m 6) := ⟨Ex.addO Z 6 (Nat.le_refl m), fun _ _ => rfl⟩
  unfold zM
  exact sR _ _ _ (sA _ _ _ _ (by omega) (sR _ _ _ (sA _ _ _ _ (by omega) (sR _ _ _ (sA _ _ _ _ (by omega) (sR _ _ _ (sA _ _ _ _ (by omega) (sR _ _ _ (sA _ _ _ _ (by omega) (sR _ _ _ (sA _ _ _ _ (by omega) (sR _ _ _ (sA _ _ _ _ (by omega) s0)))))))))))))
theorem kA6 {Z : ZZ} {m b k n : Nat} (hb : m ≠ b) (h : zK Z m = 6) : zK (addA Z b k n) m = 6 := by rw [zK_addA, if_neg hb]; exact h
theorem kR6 {Z : ZZ} {m r a : Nat} {y : Option Nat} (h : zK Z m = 6) : zK (setR Z r a y) m = 6 := h
section
variable {a m : Nat} {Q : Nat → ZZ → MM → Prop}
end
theorem lm4 {L : Nat} (hL : L ≤ 2048) : (nI L - 4).toInt = (L : Int) - 4 := by
  by_cases h : 4 ≤ L
  · rw [show (4 : Int32) = nI 4 from rfl, n_sub h, i_toInt (L - 4) (by omega)]; omega
  · obtain rfl | rfl | rfl | rfl : L = 0 ∨ L = 1 ∨ L = 2 ∨ L = 3 := by omega
    all_goals decide
