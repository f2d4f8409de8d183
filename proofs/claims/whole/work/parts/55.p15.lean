/-! PURE: the model saws -/
theorem isSome_bs0 {W H c : Nat} (h : (bs W H c 0).isSome = true) : c % W + 1 < W := by
  by_cases e : c % W + 1 < W
  · exact e
  · simp [bs, e] at h
theorem isSome_bs1 {W H c : Nat} (h : (bs W H c 1).isSome = true) : c + W < W * H := by
  by_cases e : c + W < W * H
  · exact e
  · simp [bs, e] at h
theorem isSome_bs3 {W H c : Nat} (h : (bs W H c 3).isSome = true) : 0 < c % W := by
  by_cases e : 0 < c % W
  · exact e
  · simp [bs, e] at h
theorem bts_cut {W H c s : Nat} {ct : Nat → Int32} (hW : 0 < W) (hc : c < W * H) (hs : s < 4) (h : s = 2 ∨ (bs W H c s).isSome = true) : (bts W (W * H) ct (kp W c s) &&& bitN W c s = 0) ↔ ¬ ct (pl W c s) = 1 := by
  unfold bts
  obtain ⟨b1, b2, b3⟩ := b_and (kp W c s < W * H ∧ kp W c s % W + 1 < W ∧ ct (57 + kp W c s) = 1) (kp W c s + W < W * H ∧ ct (kp W c s + W) = 1) (kp W c s < W * H ∧ kp W c s < W ∧ ct (kp W c s) = 1)
  obtain rfl | rfl | rfl | rfl : s = 0 ∨ s = 1 ∨ s = 2 ∨ s = 3 := by omega
  · have hl := isSome_bs0 (h.resolve_left (by omega))
    have e1 : kp W c 0 = c := rfl
    have e2 : bitN W c 0 = 1 := rfl
    have e3 : pl W c 0 = 57 + c := rfl
    rw [e2, b1, e1, e3]
    exact not_congr ⟨fun q => q.2.2, fun q => ⟨hc, hl, q⟩⟩
  · have hl := isSome_bs1 (h.resolve_left (by omega))
    have e1 : kp W c 1 = c := rfl
    have e2 : bitN W c 1 = 2 := by simp [bitN]
    have e3 : pl W c 1 = c + W := rfl
    rw [e2, b2, e1, e3]
    exact not_congr ⟨fun q => q.2, fun q => ⟨hl, q⟩⟩
  · have e3 : pl W c 2 = c := rfl
    by_cases e : W ≤ c
    · have e1 : kp W c 2 = c - W := by simp [kp, e]
      have e2 : bitN W c 2 = 2 := by simp [bitN, e]
      rw [e2, b2, e1, e3, Nat.sub_add_cancel e]
      exact not_congr ⟨fun q => q.2, fun q => ⟨hc, q⟩⟩
    · have e1 : kp W c 2 = c := by simp [kp, e]
      have e2 : bitN W c 2 = 4 := by simp [bitN, e]
      rw [e2, b3, e1, e3]
      exact not_congr ⟨fun q => q.2.2, fun q => ⟨hc, by omega, q⟩⟩
  · have hl := isSome_bs3 (h.resolve_left (by omega))
    have hl2 : 0 < c := Nat.lt_of_lt_of_le hl (Nat.mod_le _ _)
    have e1 : kp W c 3 = c - 1 := rfl
    have e2 : bitN W c 3 = 1 := rfl
    have e3 : pl W c 3 = 56 + c := rfl
    have e4 : 57 + (c - 1) = 56 + c := by omega
    have hm : c % W < W := Nat.mod_lt _ hW
    have hp := md_pred hW hl
    rw [e2, b1, e1, e3, e4]
    exact not_congr ⟨fun q => q.2.2, fun q => ⟨by omega, by omega, q⟩⟩
theorem bts_upd {W H c s k : Nat} {ct : Nat → Int32} (hW : 0 < W) (h49 : W * H ≤ 49) (hc : c < W * H) (hs : s < 4) (h : s = 2 ∨ (bs W H c s).isSome = true) : bts W (W * H) (upd ct (pl W c s) 1) k = if k = kp W c s then bts W (W * H) ct k ||| bitN W c s else bts W (W * H) ct k := by
  unfold bts
  obtain ⟨b1, b2, b3⟩ := b_or (k < W * H ∧ k % W + 1 < W ∧ ct (57 + k) = 1) (k + W < W * H ∧ ct (k + W) = 1) (k < W * H ∧ k < W ∧ ct k = 1)
  have hm : c % W < W := Nat.mod_lt _ hW
  obtain rfl | rfl | rfl | rfl : s = 0 ∨ s = 1 ∨ s = 2 ∨ s = 3 := by omega
  · have hl := isSome_bs0 (h.resolve_left (by omega))
    have e1 : kp W c 0 = c := rfl
    have e2 : bitN W c 0 = 1 := rfl
    have e3 : pl W c 0 = 57 + c := rfl
    have q2 : (k + W < W * H ∧ upd ct (57 + c) 1 (k + W) = 1) ↔ (k + W < W * H ∧ ct (k + W) = 1) := by
      by_cases z : k + W < W * H
      · rw [upd_ne _ _ (by omega)]
      · simp [z]
    have q3 : (k < W * H ∧ k < W ∧ upd ct (57 + c) 1 k = 1) ↔ (k < W * H ∧ k < W ∧ ct k = 1) := by
      by_cases z : k < W * H
      · rw [upd_ne _ _ (by omega)]
      · simp [z]
    rw [e1, e2, e3]
    simp only [q2, q3]
    by_cases z : k = c
    · subst z
      rw [if_pos rfl, b1, upd_same, if_pos (⟨hc, hl, rfl⟩ : k < W * H ∧ k % W + 1 < W ∧ (1 : Int32) = 1)]
    · rw [if_neg z, upd_ne _ _ (by omega)]
  · have hl := isSome_bs1 (h.resolve_left (by omega))
    have e1 : kp W c 1 = c := rfl
    have e2 : bitN W c 1 = 2 := by simp [bitN]
    have e3 : pl W c 1 = c + W := rfl
    have q3 : (k < W * H ∧ k < W ∧ upd ct (c + W) 1 k = 1) ↔ (k < W * H ∧ k < W ∧ ct k = 1) := by
      by_cases z : k < W
      · rw [upd_ne _ _ (by omega)]
      · simp [z]
    rw [e1, e2, e3]
    simp only [q3]
    rw [upd_ne ct 1 (by omega : 57 + k ≠ c + W)]
    by_cases z : k = c
    · subst z
      rw [if_pos rfl, b2, upd_same, if_pos (⟨hl, rfl⟩ : k + W < W * H ∧ (1 : Int32) = 1)]
    · rw [if_neg z, upd_ne _ _ (by omega)]
  · have e3 : pl W c 2 = c := rfl
    rw [e3]
    rw [upd_ne ct 1 (by omega : 57 + k ≠ c)]
    by_cases e : W ≤ c
    · have e1 : kp W c 2 = c - W := by simp [kp, e]
      have e2 : bitN W c 2 = 2 := by simp [bitN, e]
      have q3 : (k < W * H ∧ k < W ∧ upd ct c 1 k = 1) ↔ (k < W * H ∧ k < W ∧ ct k = 1) := by
        by_cases z : k < W
        · rw [upd_ne _ _ (by omega)]
        · simp [z]
      rw [e1, e2]
      simp only [q3]
      by_cases z : k = c - W
      · subst z
        rw [if_pos rfl, b2]
        rw [Nat.sub_add_cancel e, upd_same, if_pos (⟨hc, rfl⟩ : c < W * H ∧ (1 : Int32) = 1)]
      · rw [if_neg z, upd_ne _ _ (by omega)]
    · have e1 : kp W c 2 = c := by simp [kp, e]
      have e2 : bitN W c 2 = 4 := by simp [bitN, e]
      rw [e1, e2, upd_ne ct 1 (by omega : k + W ≠ c)]
      by_cases z : k = c
      · subst z
        rw [if_pos rfl, b3, upd_same, if_pos (⟨hc, by omega, rfl⟩ : k < W * H ∧ k < W ∧ (1 : Int32) = 1)]
      · rw [if_neg z, upd_ne _ _ z]
  · have hl := isSome_bs3 (h.resolve_left (by omega))
    have hl2 : 0 < c := Nat.lt_of_lt_of_le hl (Nat.mod_le _ _)
    have e1 : kp W c 3 = c - 1 := rfl
    have e2 : bitN W c 3 = 1 := rfl
    have e3 : pl W c 3 = 56 + c := rfl
    have hp := md_pred hW hl
    have q2 : (k + W < W * H ∧ upd ct (56 + c) 1 (k + W) = 1) ↔ (k + W < W * H ∧ ct (k + W) = 1) := by
      by_cases z : k + W < W * H
      · rw [upd_ne _ _ (by omega)]
      · simp [z]
    have q3 : (k < W * H ∧ k < W ∧ upd ct (56 + c) 1 k = 1) ↔ (k < W * H ∧ k < W ∧ ct k = 1) := by
      by_cases z : k < W * H
      · rw [upd_ne _ _ (by omega)]
      · simp [z]
    rw [e1, e2, e3]
    simp only [q2, q3]
    by_cases z : k = c - 1
    · subst z
      rw [if_pos rfl, b1, show 57 + (c - 1) = 56 + c by omega, upd_same, if_pos (⟨by omega, by omega, rfl⟩ : c - 1 < W * H ∧ (c - 1) % W + 1 < W ∧ (1 : Int32) = 1)]
    · rw [if_neg z, upd_ne _ _ (by omega)]
theorem kp_lt {W H c s : Nat} (hc : c < W * H) (h49 : W * H ≤ 49) : kp W c s < 49 := by
  unfold kp
  by_cases e3 : s = 3
  · rw [if_pos e3]; omega
  · rw [if_neg e3]
    by_cases e2 : s = 2
    · rw [if_pos e2]
      by_cases e : W ≤ c
      · rw [if_pos e]; omega
      · rw [if_neg e]; omega
    · rw [if_neg e2]; omega
theorem ct_no {W H c s : Nat} {ct : Nat → Int32} (ok : CtOk W H ct) (hW : 0 < W) (hW7 : W ≤ 7) (h49 : W * H ≤ 49) (hc : c < W * H) (hs : s < 4) (h : ¬ (s = 2 ∨ (bs W H c s).isSome = true)) : ct (pl W c s) ≠ 1 := by
  intro z
  have hp := pl_lt (s := s) hW7 (by omega : c < 49)
  have hm : c % W < W := Nat.mod_lt _ hW
  obtain rfl | rfl | rfl | rfl : s = 0 ∨ s = 1 ∨ s = 2 ∨ s = 3 := by omega
  · have e3 : pl W c 0 = 57 + c := rfl
    rw [e3] at z hp
    have hn : ¬ c % W + 1 < W := fun q => h (Or.inr (by simp [bs, q]))
    rcases (ok _ hp).2 z with q | ⟨d, d1, d2, d3⟩
    · omega
    · have : d = c := by omega
      subst this; exact hn d3
  · have e3 : pl W c 1 = c + W := rfl
    rw [e3] at z hp
    have hn : ¬ c + W < W * H := fun q => h (Or.inr (by simp [bs, q]))
    rcases (ok _ hp).2 z with q | ⟨d, d1, d2, d3⟩
    · exact hn q
    · omega
  · exact h (Or.inl rfl)
  · have e3 : pl W c 3 = 56 + c := rfl
    rw [e3] at z hp
    have hn : ¬ 0 < c % W := fun q => h (Or.inr (by simp [bs, q]))
    rcases (ok _ hp).2 z with q | ⟨d, d1, d2, d3⟩
    · omega
    · have e4 : d + 1 = c := by omega
      have hdm : W * (d / W) + d % W = d := Nat.div_add_mod d W
      have : c % W = d % W + 1 := by
        rw [← e4, ← hdm, Nat.add_assoc, Nat.mul_add_mod, Nat.mul_add_mod, Nat.mod_eq_of_lt d3, Nat.mod_eq_of_lt (Nat.mod_lt _ hW)]
      omega
theorem CtOk.cs {g : GG} {W H c s : Nat} (ok : CtOk W H (gc g)) (hW : 0 < W) (hc : c < W * H) (hs : s < 4) : CtOk W H (gc (csS W H g c s).2) := by
  unfold csS
  by_cases e : (s = 2 ∨ (bs W H c s).isSome = true) ∧ gc g (pl W c s) ≠ 1
  · rw [if_pos e]
    intro p hp
    show (upd (gc g) (pl W c s) 1 p = 0 ∨ upd (gc g) (pl W c s) 1 p = 1) ∧ (upd (gc g) (pl W c s) 1 p = 1 → _)
    rw [upd_at]
    by_cases z : p = pl W c s
    · rw [if_pos z]
      refine ⟨Or.inr rfl, fun _ => ?_⟩
      have hm : c % W < W := Nat.mod_lt _ hW
      obtain rfl | rfl | rfl | rfl : s = 0 ∨ s = 1 ∨ s = 2 ∨ s = 3 := by omega
      · have hl := isSome_bs0 (e.1.resolve_left (by omega))
        exact Or.inr ⟨c, z, hc, hl⟩
      · have hl := isSome_bs1 (e.1.resolve_left (by omega))
        exact Or.inl (by rw [z]; exact hl)
      · exact Or.inl (by rw [z]; exact hc)
      · have hl := isSome_bs3 (e.1.resolve_left (by omega))
        have hl2 : 0 < c := Nat.lt_of_lt_of_le hl (Nat.mod_le _ _)
        have hp := md_pred hW hl
        have e3 : pl W c 3 = 56 + c := rfl
        rw [e3] at z
        exact Or.inr ⟨c - 1, by omega, by omega, by omega⟩
    · rw [if_neg z]; exact ok p hp
  · rw [if_neg e]; exact ok
section
variable {Z : ZZ} {M : MM} {m : Nat} {g : GG} {W H : Nat}
theorem mo_isCut {c s : Nat} {Q : Int32 → MM → Prop} (F : ModAt Z m) (t : MoS M m g) (w : WH g W H) (ok : CtOk W H (gc g)) (hc : c < W * H) (hs : s < 4) : P_X6_isCut Z M m (nI c) (nI s) Q ↔ Q (bI (gc g (pl W c s) = 1)) M := by
  unfold P_X6_isCut B_X6_isCut_0
  have h1 := w.2.2.1
  have h2 := w.2.2.2.1
  have h49 : W * H ≤ 49 := wh_lt h2 w.2.2.2.2.2
  simp only [F.1, F.all, Option.some.injEq, exists_eq_left', true_and, mo_canSaw F t w hc hs, bI_0]
  by_cases e : s = 2 ∨ (bs W H c s).isSome = true
  · have h3 : s = 3 → 0 < c := fun q => by
      subst q
      exact Nat.lt_of_lt_of_le (isSome_bs3 (e.resolve_left (by omega))) (Nat.mod_le _ _)
    have hk := kp_lt (s := s) hc h49
    simp only [e, not_true_eq_false, false_imp_iff, not_false_eq_true, true_imp_iff, true_and, mo_keeper F t w hc hs h3, e57, vpn (by omega : 57 + kp W c s < 226) (by omega : 226 ≤ 1000), i_cl (57 + kp W c s) (by omega), mo_bit F t w hc hs, t.ct w hk, bts_cut (by omega : 0 < W) hc hs e]
    by_cases q : gc g (pl W c s) = 1 <;> simp [q, bI]
  · have := ct_no ok (by omega) h2 h49 hc hs e
    simp only [e, not_false_eq_true, true_imp_iff, not_true_eq_false, false_imp_iff, and_true, bI, if_neg this]
theorem MoS.cut {c s : Nat} (t : MoS M m g) (w : WH g W H) (hc : c < W * H) (hs : s < 4) (h : s = 2 ∨ (bs W H c s).isSome = true) : MoS (setA M (m + 1) (upd (mA M (m + 1)) (57 + kp W c s) (bts W (W * H) (gc g) (kp W c s) ||| bitN W c s))) m (mk (gs g) (gt g) (upd (gc g) (pl W c s) 1) (gk g)) := by
  have h1 := w.2.2.1
  have h49 : W * H ≤ 49 := wh_lt w.2.2.2.1 w.2.2.2.2.2
  have hk := kp_lt (s := s) hc h49
  have w2 : WH (mk (gs g) (gt g) (upd (gc g) (pl W c s) 1) (gk g)) W H := w.mk rfl rfl
  intro k hk2
  rw [mA_same, upd_at]
  unfold enc
  by_cases e8 : k < 8
  · rw [if_neg (by omega), if_pos e8, t k hk2]; unfold enc; rw [if_pos e8]; rfl
  · rw [if_neg e8]
    by_cases e57 : k < 57
    · rw [if_neg (by omega), if_pos e57, t k hk2]; unfold enc; rw [if_neg e8, if_pos e57]; rfl
    · rw [if_neg e57]
      by_cases e106 : k < 106
      · rw [if_pos e106, w2.wd.1, w2.wd.2]
        show _ = bts W (W * H) (upd (gc g) (pl W c s) 1) (k - 57)
        rw [bts_upd (by omega) h49 hc hs h]
        by_cases z : k = 57 + kp W c s
        · rw [if_pos z, if_pos (by omega)]; congr 2; omega
        · rw [if_neg z, if_neg (by omega), t k hk2]; unfold enc
          rw [if_neg e8, if_neg e57, if_pos e106, w.wd.1, w.wd.2]
      · rw [if_neg (by omega), if_neg e106, t k hk2]; unfold enc; rw [if_neg e8, if_neg e57, if_neg e106]; rfl
theorem mo_saws {c s : Nat} {Q : Int32 → MM → Prop} (F : ModAt Z m) (t : MoS M m g) (w : WH g W H) (ok : CtOk W H (gc g)) (hc : c < W * H) (hs : s < 4) (hQ : ∀ M1, Fr [m + 1] [] M M1 → MoS M1 m (csS W H g c s).2 → Q (csS W H g c s).1 M1) : P_X6_saws Z M m (nI c) (nI s) Q := by
  unfold P_X6_saws B_X6_saws_0
  have h1 := w.2.2.1
  have h2 := w.2.2.2.1
  have h49 : W * H ≤ 49 := wh_lt h2 w.2.2.2.2.2
  have hk := kp_lt (s := s) hc h49
  refine ⟨F.1, (mo_canSaw F t w hc hs).mpr ⟨fun e => ?_, fun e => (mo_isCut F t w ok hc hs).mpr ⟨fun e2 => ?_, fun e2 => ?_⟩⟩⟩
  · rw [bI_0] at e
    have e3 : csS W H g c s = (0, g) := by unfold csS; rw [if_neg (fun q => e q.1)]
    rw [e3] at hQ
    exact hQ M (Fr.refl _ _ _) t
  · rw [bI_0, Classical.not_not] at e
    rw [bI_0] at e2
    have e3 : csS W H g c s = (1, mk (gs g) (gt g) (upd (gc g) (pl W c s) 1) (gk g)) := by unfold csS; rw [if_pos ⟨e, e2⟩]
    rw [e3] at hQ
    have h3 : s = 3 → 0 < c := fun q => by
      subst q
      exact Nat.lt_of_lt_of_le (isSome_bs3 (e.resolve_left (by omega))) (Nat.mod_le _ _)
    have hv : vp_in (nI (57 + kp W c s)) (zN Z (m + 1)) := by rw [F.all.2.2]; exact vpn (by omega) (by omega)
    refine ⟨m + 1, F.all.1, (mo_keeper F t w hc hs h3).mpr ⟨F.all.2.1, by rw [e57]; exact hv, (mo_bit F t w hc hs).mpr ⟨by rw [e57]; exact hv, ?_⟩⟩⟩
    rw [e57, i_cl (57 + kp W c s) (by omega), t.ct w hk]
    exact hQ _ (Fr.setA _ _ _) (t.cut w hc hs e)
  · rw [bI_0, Classical.not_not] at e2
    have e3 : csS W H g c s = (0, g) := by unfold csS; rw [if_neg (fun q => q.2 e2)]
    rw [e3] at hQ
    exact hQ M (Fr.refl _ _ _) t
theorem mo_rect {c v hh : Nat} {Q : Int32 → MM → Prop} (F : ModAt Z m) (t : MoS M m g) (w : WH g W H) (ok : CtOk W H (gc g)) (hv0 : 1 ≤ v) (hh0 : 1 ≤ hh) (hv : c % W + v ≤ W) (hhh : c / W + hh ≤ H) (hQ : ∀ M1, Fr [m + 1] [] M M1 → MoS M1 m (recS W H g c v hh).2 → WH (recS W H g c v hh).2 W H → CtOk W H (gc (recS W H g c v hh).2) → Q (recS W H g c v hh).1 M1) : P_X6_sawsAround Z M m (nI c) (nI v) (nI hh) Q := by
  have h49 : W * H ≤ 49 := wh_lt w.2.2.2.1 w.2.2.2.2.2
  have hW : 0 < W := by have := w.2.2.1; omega
  have hW7 : W ≤ 7 := w.2.2.2.1
  have hH7 : H ≤ 7 := w.2.2.2.2.2
  have hhH : hh ≤ H := Nat.le_trans (Nat.le_add_left _ _) hhh
  have hvW : v ≤ W := Nat.le_trans (Nat.le_add_left _ _) hv
  have v0 : vp_in 0 (zN Z (m + 1)) := by rw [F.all.2.2]; exact vp0.1
  refine ⟨v + 1, ?_⟩
  refine for_up2 v (fun n i p M' => L_X6_sawsAround_6 Z Q n M' m (nI c) (nI v) (nI hh) p (nI i)) (fun i p M' => Fr [m + 1] [] M M' ∧ p = (it (rec1 W H c hh) i (0, g)).1 ∧ MoS M' m (it (rec1 W H c hh) i (0, g)).2 ∧ WH (it (rec1 W H c hh) i (0, g)).2 W H ∧ CtOk W H (gc (it (rec1 W H c hh) i (0, g)).2)) ?_ ?_ v 0 0 M (by omega) ⟨Fr.refl _ _ _, rfl, t, w, ok⟩
  · intro n i p M' hi ⟨f, hp, t1, w1, k1⟩ k
    show B_X6_sawsAround_6 Z Q (L_X6_sawsAround_6 Z Q n) M' m (nI c) (nI v) (nI hh) p (nI i)
    unfold B_X6_sawsAround_6
    refine ⟨fun e => absurd e ?_, fun _ => ⟨F.1, ?_⟩⟩
    · rw [n_le (by omega) (by omega)]; omega
    rw [nI_add]
    have l1 := rect_lt (i := i) (j := 0) hW hv hhh hi hh0
    have l2 := rect_lt (i := i) (j := hh - 1) hW hv hhh hi (by omega)
    refine mo_saws (s := 2) F t1 w1 k1 (by omega) (by omega) (fun M2 f2 t2 => ⟨m + 1, F.all.1, F.all.2.1, v0, ?_⟩)
    have w2 := w1.cs (c + i) 2
    have k2 := CtOk.cs (s := 2) k1 hW (by omega : c + i < W * H) (by omega)
    have e0 : c + i + (hh - 1) * W = c + (hh - 1) * W + i := by omega
    rw [t2.w0 w2, show (1 : Int32) = nI 1 from rfl, n_sub hh0, n_mul, nI_add, e0]
    refine mo_saws (s := 1) F t2 w2 k2 l2 (by omega) (fun M3 f3 t3 => ?_)
    rw [nI_add]
    exact k _ M3 ⟨(f.trans f2).trans f3, by rw [hp]; rfl, t3, w1.two _ _ _ _, CtOk.cs k2 hW l2 (by omega)⟩
  · intro n p M' ⟨f, hp, t1, w1, k1⟩
    show B_X6_sawsAround_6 Z Q (L_X6_sawsAround_6 Z Q n) M' m (nI c) (nI v) (nI hh) p (nI v)
    unfold B_X6_sawsAround_6
    refine ⟨fun _ => ⟨hh + 1, ?_⟩, fun e => absurd (nI_le (Nat.le_refl _) (by omega)) e⟩
    refine for_up2 hh (fun n i p M' => L_X6_sawsAround_60 Z Q n M' m (nI c) (nI v) (nI hh) p (nI i)) (fun i p M' => Fr [m + 1] [] M M' ∧ p = (it (rec2 W H c v) i (it (rec1 W H c hh) v (0, g))).1 ∧ MoS M' m (it (rec2 W H c v) i (it (rec1 W H c hh) v (0, g))).2 ∧ WH (it (rec2 W H c v) i (it (rec1 W H c hh) v (0, g))).2 W H ∧ CtOk W H (gc (it (rec2 W H c v) i (it (rec1 W H c hh) v (0, g))).2)) ?_ ?_ hh 0 p M' (by omega) ⟨f, hp, t1, w1, k1⟩
    · intro n i p M' hi ⟨f, hp, t1, w1, k1⟩ k
      show B_X6_sawsAround_60 Z Q (L_X6_sawsAround_60 Z Q n) M' m (nI c) (nI v) (nI hh) p (nI i)
      unfold B_X6_sawsAround_60
      refine ⟨fun e => absurd e ?_, fun _ => ⟨F.1, m + 1, F.all.1, F.all.2.1, v0, ?_⟩⟩
      · rw [n_le (by omega) (by omega)]; omega
      have l1 := rect_lt (i := 0) (j := i) hW hv hhh (by omega) hi
      have l2 := rect_lt (i := v - 1) (j := i) hW hv hhh (by omega) hi
      rw [t1.w0 w1, n_mul, nI_add]
      refine mo_saws (s := 3) F t1 w1 k1 (by omega) (by omega) (fun M2 f2 t2 => ⟨v0, ?_⟩)
      have w2 := w1.cs (c + i * W) 3
      have k2 := CtOk.cs (s := 3) k1 hW (by omega : c + i * W < W * H) (by omega)
      rw [t2.w0 w2, n_mul, nI_add, nI_add, show (1 : Int32) = nI 1 from rfl, n_sub (by omega)]
      have e0 : c + i * W + v - 1 = c + i * W + (v - 1) := by omega
      refine mo_saws (s := 0) F t2 w2 k2 (by omega) (by omega) (fun M3 f3 t3 => ?_)
      rw [nI_add]
      exact k _ M3 ⟨(f.trans f2).trans f3, by rw [hp]; rfl, t3, w1.two _ _ _ _, CtOk.cs k2 hW (by omega) (by omega)⟩
    · intro n p M' ⟨f, hp, t1, w1, k1⟩
      show B_X6_sawsAround_60 Z Q (L_X6_sawsAround_60 Z Q n) M' m (nI c) (nI v) (nI hh) p (nI hh)
      unfold B_X6_sawsAround_60
      refine ⟨fun _ => ?_, fun e => absurd (nI_le (Nat.le_refl _) (by omega)) e⟩
      rw [hp]
      exact hQ _ f t1 w1 k1
end
