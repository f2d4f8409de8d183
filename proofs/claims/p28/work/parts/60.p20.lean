/-! PURE: the model melts, sums, counts -/
section
variable {Z : ZZ} {M : MM} {m : Nat} {g : GG} {W H : Nat}
theorem wb1_0 {th : Nat → Int32} {c : Nat} : wb1 W H th c 0 = if c % W + 1 < W then (if th (c + 1) ≤ 0 then 1 else 0) else 0 := by
  unfold wb1 bs
  by_cases e : c % W + 1 < W <;> simp [e]
theorem wb1_1 {th : Nat → Int32} {c : Nat} : wb1 W H th c 1 = if c + W < W * H then (if th (c + W) ≤ 0 then 1 else 0) else 1 := by
  unfold wb1 bs
  by_cases e : c + W < W * H <;> simp [e]
theorem wb1_2 {th : Nat → Int32} {c : Nat} : wb1 W H th c 2 = if W ≤ c then (if th (c - W) ≤ 0 then 1 else 0) else 0 := by
  unfold wb1 bs
  by_cases e : W ≤ c <;> simp [e]
theorem wb1_3 {th : Nat → Int32} {c : Nat} : wb1 W H th c 3 = if 0 < c % W then (if th (c - 1) ≤ 0 then 1 else 0) else 0 := by
  unfold wb1 bs
  by_cases e : 0 < c % W <;> simp [e]
theorem n_p0 (k : Nat) : nI k + 0 = nI (k + 0) := nI_add k 0
/-! sums -/
theorem sm_shift (f : Nat → Int32) (a n : Nat) : sm f (a + n) = sm f a + sm (fun c => f (a + c)) n := by
  induction n with
  | zero => simp [sm]
  | succ n ih =>
    rw [show a + (n + 1) = (a + n) + 1 from rfl]
    simp only [sm]
    rw [ih, Int32.add_assoc]
def bitS (v : Int32) : Int32 := ((v &&& 1) + ((v >>> ((1 : Int32) &&& 31)) &&& 1)) + ((v >>> ((2 : Int32) &&& 31)) &&& 1)
theorem bitS_bts (p q r : Prop) [Decidable p] [Decidable q] [Decidable r] : bitS ((if p then (1 : Int32) else 0) + (if q then 2 else 0) + (if r then 4 else 0)) = ((if p then (1 : Int32) else 0) + (if q then 1 else 0)) + (if r then 1 else 0) := by
  by_cases hp : p <;> by_cases hq : q <;> by_cases hr : r <;> simp only [hp, hq, hr, if_true, if_false] <;> decide
theorem sm_cuts {ct : Nat → Int32} (ok : CtOk W H ct) (hW : 0 < W) (hH : 0 < H) (h49 : W * H ≤ 49) : sm (fun c => bitS (bts W (W * H) ct c)) (W * H) = sm ct 106 := by
  have hWH : W ≤ W * H := w_le hH
  have e01 : ∀ p, p < 106 → ct p = if ct p = 1 then 1 else 0 := fun p hp => by
    rcases (ok p hp).1 with z | z
    · rw [z]; rfl
    · rw [z]; rfl
  have eA : sm (fun c => if c < W * H ∧ c % W + 1 < W ∧ ct (57 + c) = 1 then (1 : Int32) else 0) (W * H) = sm (fun c => ct (57 + c)) 49 := by
    rw [sm_zero h49 (fun i h1 h2 => ?_)]
    · refine sm_ext (fun i hi => ?_)
      by_cases z : ct (57 + i) = 1
      · rcases (ok (57 + i) (by omega)).2 z with q | ⟨d, d1, d2, d3⟩
        · omega
        · have : d = i := by omega
          subst this
          rw [if_pos ⟨hi, d3, z⟩, z]
      · rw [if_neg (fun q => z q.2.2), ((ok (57 + i) (by omega)).1).resolve_right z]
    · rw [e01 (57 + i) (by omega)]
      refine if_neg (fun z => ?_)
      rcases (ok (57 + i) (by omega)).2 z with q | ⟨d, d1, d2, d3⟩
      · omega
      · omega
  have eB : sm (fun c => if c + W < W * H ∧ ct (c + W) = 1 then (1 : Int32) else 0) (W * H) = sm (fun c => ct (W + c)) (W * H - W) := by
    rw [sm_zero (by omega : W * H - W ≤ W * H) (fun i h1 h2 => if_neg (fun q => by omega))]
    refine sm_ext (fun i hi => ?_)
    rw [Nat.add_comm i W]
    by_cases z : ct (W + i) = 1
    · rw [if_pos ⟨by omega, z⟩, z]
    · rw [if_neg (fun q => z q.2), ((ok (W + i) (by omega)).1).resolve_right z]
  have eD : sm (fun c => if c < W * H ∧ c < W ∧ ct c = 1 then (1 : Int32) else 0) (W * H) = sm ct W := by
    rw [sm_zero hWH (fun i h1 h2 => if_neg (fun q => by omega))]
    refine sm_ext (fun i hi => ?_)
    by_cases z : ct i = 1
    · rw [if_pos ⟨by omega, hi, z⟩, z]
    · rw [if_neg (fun q => z q.2.2), ((ok i (by omega)).1).resolve_right z]
  have e1 : sm (fun c => bitS (bts W (W * H) ct c)) (W * H) = sm (fun c => ((if c < W * H ∧ c % W + 1 < W ∧ ct (57 + c) = 1 then (1 : Int32) else 0) + (if c + W < W * H ∧ ct (c + W) = 1 then (1 : Int32) else 0)) + (if c < W * H ∧ c < W ∧ ct c = 1 then (1 : Int32) else 0)) (W * H) := sm_ext (fun i _ => by unfold bts; exact bitS_bts _ _ _)
  rw [e1, sm_add, sm_add, eA, eB, eD]
  have s1 : sm ct 106 = sm ct 57 + sm (fun c => ct (57 + c)) 49 := sm_shift ct 57 49
  have s2 : sm ct 57 = sm ct (W * H) := sm_zero (by omega) (fun i h1 h2 => by
    rw [e01 i (by omega)]
    refine if_neg (fun z => ?_)
    rcases (ok i (by omega)).2 z with q | ⟨d, d1, d2, d3⟩
    · omega
    · omega)
  have s3 : sm ct (W * H) = sm ct W + sm (fun c => ct (W + c)) (W * H - W) := by
    have := sm_shift ct W (W * H - W)
    rwa [show W + (W * H - W) = W * H by omega] at this
  rw [s1, s2, s3]
  rw [Int32.add_assoc, Int32.add_comm (sm (fun c => ct (57 + c)) 49), Int32.add_comm (sm ct W)]
theorem cnI_sm (th : Nat → Int32) (n : Nat) : sm (fun c => if th c ≤ 0 then (0 : Int32) else 1) n = nI (cnI th n) := by
  induction n with
  | zero => rfl
  | succ n ih =>
    simp only [sm, cnI]
    rw [ih]
    by_cases e : th n ≤ 0
    · rw [if_pos e, if_pos e, Int32.add_zero]; rfl
    · rw [if_neg e, if_neg e, nI_1]
end
