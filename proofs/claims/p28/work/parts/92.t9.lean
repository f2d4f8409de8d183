/-! PURE: the law's check of one object -/
section
variable {Z : ZZ} {M : MM} {a b : Nat} {g g1 h : GG} {W H T : Nat} {Q : Int32 → MM → Prop}
def icf (g : GG) (c : Nat) : Int32 := if gt g c ≤ 0 then 0 else 1
noncomputable def blf (W H : Nat) (g : GG) (c : Nat) : Int32 := if lbG W H g c = nI c then 1 else 0
noncomputable def vof (W H : Nat) (g : GG) (c : Nat) : Int32 := if lbG W H g c = nI c then bfS W H g (lbG W H g c) 2 else 0
theorem s213 (F : FieldAt Z a) (d : Dj a b) (o : OkG g W H T) (A : Own M a g) (B : Own M b h) {c : Nat} (hc : c < W * H) {v2 v3 v4 v5 t : Int32} {K277 : MM → Nat → Int32 → Int32 → Int32 → Int32 → Int32 → Int32 → Prop} {K278 : MM → Nat → Int32 → Int32 → Int32 → Int32 → Int32 → Int32 → Int32 → Prop} (hK : ∀ M1, Own M1 a g → Own M1 b h → K278 M1 a (nI W) v2 v3 v4 v5 (nI c) 1) : B_L_isSound_213 Z Q K277 K278 M a (nI W) v2 v3 v4 v5 (nI c) t t := by
  obtain ⟨hW, hH, h0, hH0, h49⟩ := o.le
  obtain ⟨_, c2, c3⟩ := so_cell o hc
  unfold B_L_isSound_213 B_L_isSound_273
  refine ⟨fun z => absurd rfl z, fun _ => ⟨F.1.1, q_cell (k := 5) F d o.1 A B hc (by omega) (fun M1 A B => ⟨fun z => absurd z c2, fun _ => q_block (k := 4) F d o.1 A B hc (by omega) (fun M2 A B => ⟨fun _ => hK M2 A B, fun z => ?_⟩)⟩)⟩⟩
  obtain ⟨_, e3, e4⟩ := c3.resolve_left z
  refine q_block (k := 3) F d o.1 A B hc (by omega) (fun M3 A B => ⟨fun z => absurd e3 z, fun _ => q_block (k := 4) F d o.1 A B hc (by omega) (fun M4 A B => q_value (k := 1) F d o.1 A B (by omega) (fun M5 A B => q_cell (k := 5) F d o.1 A B hc (by omega) (fun M6 A B => ⟨nI_ne0 h0 (by omega), fun z => ?_, fun _ => hK M6 A B⟩)))⟩)
  have z' : bfS W H g (lbG W H g c) 4 < gs g 1 - lbG W H g c / nI W := z
  rw [o.1.2.1] at z'
  exact absurd z' e4
theorem s198 (F : FieldAt Z a) (d : Dj a b) (o : OkG g W H T) (A : Own M a g) (B : Own M b h) {c : Nat} (hc : c < W * H) {v2 v3 v4 v5 t : Int32} {K277 : MM → Nat → Int32 → Int32 → Int32 → Int32 → Int32 → Int32 → Prop} {K278 : MM → Nat → Int32 → Int32 → Int32 → Int32 → Int32 → Int32 → Int32 → Prop} (h0 : lbG W H g c < 0 → t = 0) (h1 : ¬ lbG W H g c < 0 → t = 1) (hK : ∀ M1, Own M1 a g → Own M1 b h → K278 M1 a (nI W) v2 v3 v4 v5 (nI c) 1) : B_L_isSound_198 Z Q K277 K278 M a (nI W) v2 v3 v4 v5 (nI c) t := by
  unfold B_L_isSound_198
  refine ⟨F.1.1, q_cell (k := 5) F d o.1 A B hc (by omega) (fun M1 A B => ⟨fun z => ?_, fun z => ?_⟩)⟩
  · rw [h0 z]; exact s213 F d o A B hc hK
  · rw [h1 z]; exact s213 F d o A B hc hK
theorem s175 (F : FieldAt Z a) (d : Dj a b) (o : OkG g W H T) (A : Own M a g) (B : Own M b h) {c : Nat} (hc : c < W * H) {v2 v3 v4 t0 t1 : Int32} {K99 : MM → Nat → Int32 → Int32 → Int32 → Int32 → Int32 → Int32 → Int32 → Prop} (hK : ∀ M1, Own M1 a g → Own M1 b h → K99 M1 a (nI W) v2 v3 v4 (t1 + t0) 1 (nI c + 1)) : B_L_isSound_175 Z Q K99 M a (nI W) v2 v3 v4 1 (nI c) t0 t1 := by
  have e := (so_cell o hc).1
  unfold B_L_isSound_175
  refine ⟨fun z => absurd z (by decide), fun _ => ⟨F.1.1, q_cell (k := 0) F d o.1 A B hc (by omega) (fun M1 A B => ⟨fun z => ?_, fun z => ?_⟩)⟩⟩
  · exact s198 F d o A B hc (fun _ => rfl) (fun q => absurd z (e.mpr q)) hK
  · exact s198 F d o A B hc (fun q => absurd q (e.mp z)) (fun _ => rfl) hK
theorem s154 (F : FieldAt Z a) (d : Dj a b) (o : OkG g W H T) (A : Own M a g) (B : Own M b h) {c : Nat} (hc : c < W * H) {v2 v3 v5 v8 t0 t1 : Int32} {K99 : MM → Nat → Int32 → Int32 → Int32 → Int32 → Int32 → Int32 → Int32 → Prop} (hK : ∀ M1, Own M1 a g → Own M1 b h → K99 M1 a (nI W) v2 v3 (t1 + t0) (v5 + (if v8 = 0 then 0 else bfS W H g (lbG W H g c) 2)) 1 (nI c + 1)) : B_L_isSound_154 Z Q K99 M a (nI W) v2 v3 v5 1 (nI c) v8 t0 t1 := by
  unfold B_L_isSound_154
  refine ⟨fun z => ?_, fun z => ⟨F.1.1, q_block (k := 2) F d o.1 A B hc (by omega) (fun M1 A B => ?_)⟩⟩
  · rw [if_pos z] at hK
    exact s175 F d o A B hc hK
  · rw [if_neg z] at hK
    exact s175 F d o A B hc hK
theorem s122 (F : FieldAt Z a) (d : Dj a b) (o : OkG g W H T) (A : Own M a g) (B : Own M b h) {c : Nat} (hc : c < W * H) {v2 v3 v4 v5 t : Int32} {K99 : MM → Nat → Int32 → Int32 → Int32 → Int32 → Int32 → Int32 → Int32 → Prop} (hK : ∀ M1, Own M1 a g → Own M1 b h → K99 M1 a (nI W) v2 (v3 + icf g c) (v4 + (if t = 0 then 0 else 1)) (v5 + (if t = 0 then 0 else bfS W H g (lbG W H g c) 2)) 1 (nI c + 1)) : B_L_isSound_122 Z Q K99 M a (nI W) v2 v3 v4 v5 1 (nI c) t := by
  have k140 : ∀ M1 t0, t0 = icf g c → Own M1 a g → Own M1 b h → B_L_isSound_140 Z Q K99 M1 a (nI W) v2 v4 v5 1 (nI c) t t0 v3 := fun M1 t0 e A B => by
    subst e
    unfold B_L_isSound_140
    refine ⟨fun z => s154 F d o A B hc (fun M2 A B => ?_), fun z => s154 F d o A B hc (fun M2 A B => ?_)⟩
    · have := hK M2 A B
      rw [if_pos z] at this
      exact this
    · have := hK M2 A B
      rw [if_neg z] at this
      exact this
  unfold B_L_isSound_122
  refine ⟨F.1.1, q_cell (k := 0) F d o.1 A B hc (by omega) (fun M1 A B => ⟨fun z => k140 M1 0 (show (0 : Int32) = icf g c from (if_pos z).symm) A B, fun z => k140 M1 1 (show (1 : Int32) = icf g c from (if_neg z).symm) A B⟩)⟩
theorem lp_sound (F : FieldAt Z a) (d : Dj a b) (o : OkG g W H T) (w : OkW g) (hQ : ∀ M1, Own M1 a g → Own M1 b h → Q 1 M1) : ∀ k i M, i + k = W * H → Own M a g → Own M b h → L_L_isSound_99 Z Q (k + 1) M a (nI W) (nI (W * H)) (sm (icf g) i) (sm (blf W H g) i) (sm (vof W H g) i) 1 (nI i) := by
  obtain ⟨hW, hH, h0, hH0, h49⟩ := o.le
  intro k
  induction k with
  | zero =>
    intro i M hi A B
    obtain rfl : i = W * H := by omega
    show B_L_isSound_99 Z Q (L_L_isSound_99 Z Q 0) M a _ _ _ _ _ _ _
    unfold B_L_isSound_99
    refine ⟨fun _ => ⟨fun z => absurd z (by decide), fun _ => ⟨F.1.1, q_value (k := 2) F d o.1 A B (by omega) (fun M1 A B => ⟨fun z => absurd so_ice z, fun _ => q_value (k := 3) F d o.1 A B (by omega) (fun M1 A B => ⟨fun z => absurd (so_blk o) z, fun _ => q_value (k := 10) F d o.1 A B (by omega) (fun M1 A B => ⟨fun z => absurd (so_vol o w) z, fun _ => hQ M1 A B⟩)⟩)⟩)⟩⟩, fun q => absurd ((n_le (by omega) (by omega)).mpr (Nat.le_refl _)) q⟩
  | succ k ih =>
    intro i M hi A B
    show B_L_isSound_99 Z Q (L_L_isSound_99 Z Q (k + 1)) M a _ _ _ _ _ _ _
    unfold B_L_isSound_99
    refine ⟨fun q => ?_, fun _ => ⟨F.1.1, q_cell (k := 5) F d o.1 A B (by omega) (by omega) (fun M1 A B => ⟨fun z => s122 F d o A B (by omega) (fun M2 A B => ?_), fun z => s122 F d o A B (by omega) (fun M2 A B => ?_)⟩)⟩⟩
    · rw [n_le (by omega) (by omega)] at q; omega
    · have z' : ¬ lbG W H g i = nI i := z
      have := ih (i + 1) M2 (by omega) A B
      have e1 : sm (icf g) (i + 1) = sm (icf g) i + icf g i := rfl
      have e2 : sm (blf W H g) (i + 1) = sm (blf W H g) i + blf W H g i := rfl
      have e3 : sm (vof W H g) (i + 1) = sm (vof W H g) i + vof W H g i := rfl
      rw [e1, e2, e3, show blf W H g i = 0 from if_neg z', show vof W H g i = 0 from if_neg z', ← nI_1] at this
      rw [if_pos rfl, if_pos rfl]
      exact this
    · have z' : lbG W H g i = nI i := z
      have := ih (i + 1) M2 (by omega) A B
      have e1 : sm (icf g) (i + 1) = sm (icf g) i + icf g i := rfl
      have e2 : sm (blf W H g) (i + 1) = sm (blf W H g) i + blf W H g i := rfl
      have e3 : sm (vof W H g) (i + 1) = sm (vof W H g) i + vof W H g i := rfl
      rw [e1, e2, e3, show blf W H g i = 1 from if_pos z', show vof W H g i = bfS W H g (lbG W H g i) 2 from if_pos z', ← nI_1] at this
      rw [if_neg (by decide), if_neg (by decide)]
      exact this
theorem sound_ok (F : FieldAt Z a) (d : Dj a b) (o : OkG g W H T) (w : OkW g) (hT : T < 900000) (A : Own M a g) (B : Own M b h) (hQ : ∀ M1, Own M1 a g → Own M1 b h → Q 1 M1) : P_L_isSound Z M a Q := by
  obtain ⟨hW, hH, h0, hH0, h49⟩ := o.le
  obtain ⟨k, g1, k49, t⟩ := tk_of o.1
  have e0 : ffS W H g 0 = nI W := o.1.1
  have e1 : ffS W H g 1 = nI H := o.1.2.1
  have s1 := so_tk o t
  obtain ⟨s2, s3⟩ := so_54 o
  have s4 : ffS W H g 9 = ffS W H g 10 + ffS W H g 11 + ffS W H g 12 := w.2.2
  unfold P_L_isSound B_L_isSound_0
  refine ⟨F.1.1, q_value (k := 0) F d o.1 A B (by omega) (fun M1 A B => q_value (k := 1) F d o.1 A B (by omega) (fun M1 A B => q_value (k := 9) F d o.1 A B (by omega) (fun M1 A B => q_value (k := 10) F d o.1 A B (by omega) (fun M1 A B => q_value (k := 11) F d o.1 A B (by omega) (fun M1 A B => q_value (k := 12) F d o.1 A B (by omega) (fun M1 A B => ⟨fun z => absurd s4 z, fun _ => q_takable F d o hT A B t k49 (fun M1 A B => q_value (k := 4) F d o.1 A B (by omega) (fun M1 A B => ⟨fun z => ?_, fun _ => q_value (k := 5) F d o.1 A B (by omega) (fun M1 A B => q_value (k := 4) F d o.1 A B (by omega) (fun M1 A B => ⟨fun z => ?_, fun _ => q_value (k := 4) F d o.1 A B (by omega) (fun M1 A B => q_value (k := 3) F d o.1 A B (by omega) (fun M1 A B => ⟨fun z => ?_, fun _ => ?_⟩))⟩))⟩))⟩))))))⟩
  · rw [i_lt] at z; rw [i_le] at s1; omega
  · rw [i_lt] at z; rw [i_le] at s2; omega
  · rw [i_lt] at z; rw [i_le] at s3; omega
  · unfold B_L_isSound_94
    rw [e0, e1, n_mul]
    exact ⟨W * H + 1, lp_sound F d o w hQ (W * H) 0 M1 (by omega) A B⟩
end
