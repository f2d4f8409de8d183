/-! PURE: the model saws -/
theorem isSome_bs0 {W H c : Nat} (h : (bs W H c 0).isSome = true) : c % W + 1 < W := by
  by_cases e : c % W + 1 < W
  · exact e
  · simp [bs, e] at h
theorem isSome_bs1 {W H c : Nat} (h : (bs W H c 1).isSome = true) : c + W < W * H := by
  by_cases e : c + W < W * H
  · exact e
  · simp [bs, e] at h
theorem isSome_bs3 {W H c : Nat} (h : (bs W H c 3).isSome = true) : 0 < c % W := by
  by_cases e : 0 < c % W
  · exact e
  · simp [bs, e] at h
theorem bts_cut {W H c s : Nat} {ct : Nat → Int32} (hW : 0 < W) (hc : c < W * H) (hs : s < 4) (h : s = 2 ∨ (bs W H c s).isSome = true) : (bts W (W * H) ct (kp W c s) &&& bitN W c s = 0) ↔ ¬ ct (pl W c s) = 1 := by
  unfold bts
  obtain ⟨b1, b2, b3⟩ := b_and (kp W c s < W * H ∧ kp W c s % W + 1 < W ∧ ct (57 + kp W c s) = 1) (kp W c s + W < W * H ∧ ct (kp W c s + W) = 1) (kp W c s < W * H ∧ kp W c s < W ∧ ct (kp W c s) = 1)
  obtain rfl | rfl | rfl | rfl : s = 0 ∨ s = 1 ∨ s = 2 ∨ s = 3 := by omega
  · have hl := isSome_bs0 (h.resolve_left (by omega))
    have e1 : kp W c 0 = c := rfl
    have e2 : bitN W c 0 = 1 := rfl
    have e3 : pl W c 0 = 57 + c := rfl
    rw [e2, b1, e1, e3]
    exact not_congr ⟨fun q => q.2.2, fun q => ⟨hc, hl, q⟩⟩
  · have hl := isSome_bs1 (h.resolve_left (by omega))
    have e1 : kp W c 1 = c := rfl
    have e2 : bitN W c 1 = 2 := by simp [bitN]
    have e3 : pl W c 1 = c + W := rfl
    rw [e2, b2, e1, e3]
    exact not_congr ⟨fun q => q.2, fun q => ⟨hl, q⟩⟩
  · have e3 : pl W c 2 = c := rfl
    by_cases e : W ≤ c
    · have e1 : kp W c 2 = c - W := by simp [kp, e]
      have e2 : bitN W c 2 = 2 := by simp [bitN, e]
      rw [e2, b2, e1, e3, Nat.sub_add_cancel e]
      exact not_congr ⟨fun q => q.2, fun q => ⟨hc, q⟩⟩
    · have e1 : kp W c 2 = c := by simp [kp, e]
      have e2 : bitN W c 2 = 4 := by simp [bitN, e]
      rw [e2, b3, e1, e3]
      exact not_congr ⟨fun q => q.2.2, fun q => ⟨hc, by omega, q⟩⟩
  · have hl := isSome_bs3 (h.resolve_left (by omega))
    have hl2 : 0 < c := Nat.lt_of_lt_of_le hl (Nat.mod_le _ _)
    have e1 : kp W c 3 = c - 1 := rfl
    have e2 : bitN W c 3 = 1 := rfl
    have e3 : pl W c 3 = 56 + c := rfl
    have e4 : 57 + (c - 1) = 56 + c := by omega
    have hm : c % W < W := Nat.mod_lt _ hW
    have hp := md_pred hW hl
    rw [e2, b1, e1, e3, e4]
    exact not_congr ⟨fun q => q.2.2, fun q => ⟨by omega, by omega, q⟩⟩
theorem bts_upd {W H c s k : Nat} {ct : Nat → Int32} (hW : 0 < W) (h49 : W * H ≤ 49) (hc : c < W * H) (hs : s < 4) (h : s = 2 ∨ (bs W H c s).isSome = true) : bts W (W * H) (upd ct (pl W c s) 1) k = if k = kp W c s then bts W (W * H) ct k ||| bitN W c s else bts W (W * H) ct k := by
  unfold bts
  obtain ⟨b1, b2, b3⟩ := b_or (k < W * H ∧ k % W + 1 < W ∧ ct (57 + k) = 1) (k + W < W * H ∧ ct (k + W) = 1) (k < W * H ∧ k < W ∧ ct k = 1)
  have hm : c % W < W := Nat.mod_lt _ hW
  obtain rfl | rfl | rfl | rfl : s = 0 ∨ s = 1 ∨ s = 2 ∨ s = 3 := by omega
  · have hl := isSome_bs0 (h.resolve_left (by omega))
    have e1 : kp W c 0 = c := rfl
    have e2 : bitN W c 0 = 1 := rfl
    have e3 : pl W c 0 = 57 + c := rfl
    have q2 : (k + W < W * H ∧ upd ct (57 + c) 1 (k + W) = 1) ↔ (k + W < W * H ∧ ct (k + W) = 1) := by
      by_cases z : k + W < W * H
      · rw [upd_ne _ _ (by omega)]
      · simp [z]
    have q3 : (k < W * H ∧ k < W ∧ upd ct (57 + c) 1 k = 1) ↔ (k < W * H ∧ k < W ∧ ct k = 1) := by
      by_cases z : k < W * H
      · rw [upd_ne _ _ (by omega)]
      · simp [z]
    rw [e1, e2, e3]
    simp only [q2, q3]
    by_cases z : k = c
    · subst z
      rw [if_pos rfl, b1, upd_same, if_pos (⟨hc, hl, rfl⟩ : k < W * H ∧ k % W + 1 < W ∧ (1 : Int32) = 1)]
    · rw [if_neg z, upd_ne _ _ (by omega)]
  · have hl := isSome_bs1 (h.resolve_left (by omega))
    have e1 : kp W c 1 = c := rfl
    have e2 : bitN W c 1 = 2 := by simp [bitN]
    have e3 : pl W c 1 = c + W := rfl
    have q3 : (k < W * H ∧ k < W ∧ upd ct (c + W) 1 k = 1) ↔ (k < W * H ∧ k < W ∧ ct k = 1) := by
      by_cases z : k < W
      · rw [upd_ne _ _ (by omega)]
      · simp [z]
    rw [e1, e2, e3]
    simp only [q3]
    rw [upd_ne ct 1 (by omega : 57 + k ≠ c + W)]
    by_cases z : k = c
    · subst z
      rw [if_pos rfl, b2, upd_same, if_pos (⟨hl, rfl⟩ : k + W < W * H ∧ (1 : Int32) = 1)]
    · rw [if_neg z, upd_ne _ _ (by omega)]
  · have e3 : pl W c 2 = c := rfl
    rw [e3]
    rw [upd_ne ct 1 (by omega : 57 + k ≠ c)]
    by_cases e : W ≤ c
    · have e1 : kp W c 2 = c - W := by simp [kp, e]
      have e2 : bitN W c 2 = 2 := by simp [bitN, e]
      have q3 : (k < W * H ∧ k < W ∧ upd ct c 1 k = 1) ↔ (k < W * H ∧ k < W ∧ ct k = 1) := by
        by_cases z : k < W
        · rw [upd_ne _ _ (by omega)]
        · simp [z]
      rw [e1, e2]
      simp only [q3]
      by_cases z : k = c - W
      · subst z
        rw [if_pos rfl, b2]
        rw [Nat.sub_add_cancel e, upd_same, if_pos (⟨hc, rfl⟩ : c < W * H ∧ (1 : Int32) = 1)]
      · rw [if_neg z, upd_ne _ _ (by omega)]
    · have e1 : kp W c 2 = c := by simp [kp, e]
      have e2 : bitN W c 2 = 4 := by simp [bitN, e]
      rw [e1, e2, upd_ne ct 1 (by omega : k + W ≠ c)]
      by_cases z : k = c
      · subst z
        rw [if_pos rfl, b3, upd_same, if_pos (⟨hc, by omega, rfl⟩ : k < W * H ∧ k < W ∧ (1 : Int32) = 1)]
      · rw [if_neg z, upd_ne _ _ z]
  · have hl := isSome_bs3 (h.resolve_left (by omega))
    have hl2 : 0 < c := Nat.lt_of_lt_of_le hl (Nat.mod_le _ _)
    have e1 : kp W c 3 = c - 1 := rfl
    have e2 : bitN W c 3 = 1 := rfl
    have e3 : pl W c 3 = 56 + c := rfl
    have hp := md_pred hW hl
    have q2 : (k + W < W * H ∧ upd ct (56 + c) 1 (k + W) = 1) ↔ (k + W < W * H ∧ ct (k + W) = 1) := by
      by_cases z : k + W < W * H
      · rw [upd_ne _ _ (by omega)]
      · simp [z]
    have q3 : (k < W * H ∧ k < W ∧ upd ct (56 + c) 1 k = 1) ↔ (k < W * H ∧ k < W ∧ ct k = 1) := by
      by_cases z : k < W * H
      · rw [upd_ne _ _ (by omega)]
      · simp [z]
    rw [e1, e2, e3]
    simp only [q2, q3]
    by_cases z : k = c - 1
    · subst z
      rw [if_pos rfl, b1, show 57 + (c - 1) = 56 + c by omega, upd_same, if_pos (⟨by omega, by omega, rfl⟩ : c - 1 < W * H ∧ (c - 1) % W + 1 < W ∧ (1 : Int32) = 1)]
    · rw [if_neg z, upd_ne _ _ (by omega)]
theorem kp_lt {W H c s : Nat} (hc : c < W * H) (h49 : W * H ≤ 49) : kp W c s < 49 := by
  unfold kp
  by_cases e3 : s = 3
  · rw [if_pos e3]; omega
  · rw [if_neg e3]
    by_cases e2 : s = 2
    · rw [if_pos e2]
      by_cases e : W ≤ c
      · rw [if_pos e]; omega
      · rw [if_neg e]; omega
    · rw [if_neg e2]; omega
theorem ct_no {W H c s : Nat} {ct : Nat → Int32} (ok : CtOk W H ct) (hW : 0 < W) (hW7 : W ≤ 7) (h49 : W * H ≤ 49) (hc : c < W * H) (hs : s < 4) (h : ¬ (s = 2 ∨ (bs W H c s).isSome = true)) : ct (pl W c s) ≠ 1 := by
  intro z
  have hp := pl_lt (s := s) hW7 (by omega : c < 49)
  have hm : c % W < W := Nat.mod_lt _ hW
  obtain rfl | rfl | rfl | rfl : s = 0 ∨ s = 1 ∨ s = 2 ∨ s = 3 := by omega
  · have e3 : pl W c 0 = 57 + c := rfl
    rw [e3] at z hp
    have hn : ¬ c % W + 1 < W := fun q => h (Or.inr (by simp [bs, q]))
    rcases (ok _ hp).2 z with q | ⟨d, d1, d2, d3⟩
    · omega
    · have : d = c := by omega
      subst this; exact hn d3
  · have e3 : pl W c 1 = c + W := rfl
    rw [e3] at z hp
    have hn : ¬ c + W < W * H := fun q => h (Or.inr (by simp [bs, q]))
    rcases (ok _ hp).2 z with q | ⟨d, d1, d2, d3⟩
    · exact hn q
    · omega
  · exact h (Or.inl rfl)
  · have e3 : pl W c 3 = 56 + c := rfl
    rw [e3] at z hp
    have hn : ¬ 0 < c % W := fun q => h (Or.inr (by simp [bs, q]))
    rcases (ok _ hp).2 z with q | ⟨d, d1, d2, d3⟩
    · omega
    · have e4 : d + 1 = c := by omega
      have hdm : W * (d / W) + d % W = d := Nat.div_add_mod d W
      have : c % W = d % W + 1 := by
        rw [← e4, ← hdm, Nat.add_assoc, Nat.mul_add_mod, Nat.mul_add_mod, Nat.mod_eq_of_lt d3, Nat.mod_eq_of_lt (Nat.mod_lt _ hW)]
      omega
theorem CtOk.cs {g : GG} {W H c s : Nat} (ok : CtOk W H (gc g)) (hW : 0 < W) (hc : c < W * H) (hs : s < 4) : CtOk W H (gc (csS W H g c s).2) := by
  unfold csS
  by_cases e : (s = 2 ∨ (bs W H c s).isSome = true) ∧ gc g (pl W c s) ≠ 1
  · rw [if_pos e]
    intro p hp
    show (upd (gc g) (pl W c s) 1 p = 0 ∨ upd (gc g) (pl W c s) 1 p = 1) ∧ (upd (gc g) (pl W c s) 1 p = 1 → _)
    rw [upd_at]
    by_cases z : p = pl W c s
    · rw [if_pos z]
      refine ⟨Or.inr rfl, fun _ => ?_⟩
      have hm : c % W < W := Nat.mod_lt _ hW
      obtain rfl | rfl | rfl | rfl : s = 0 ∨ s = 1 ∨ s = 2 ∨ s = 3 := by omega
      · have hl := isSome_bs0 (e.1.resolve_left (by omega))
        exact Or.inr ⟨c, z, hc, hl⟩
      · have hl := isSome_bs1 (e.1.resolve_left (by omega))
        exact Or.inl (by rw [z]; exact hl)
      · exact Or.inl (by rw [z]; exact hc)
      · have hl := isSome_bs3 (e.1.resolve_left (by omega))
        have hl2 : 0 < c := Nat.lt_of_lt_of_le hl (Nat.mod_le _ _)
        have hp := md_pred hW hl
        have e3 : pl W c 3 = 56 + c := rfl
        rw [e3] at z
        exact Or.inr ⟨c - 1, by omega, by omega, by omega⟩
    · rw [if_neg z]; exact ok p hp
  · rw [if_neg e]; exact ok
section
variable {Z : ZZ} {M : MM} {m : Nat} {g : GG} {W H : Nat}
end
