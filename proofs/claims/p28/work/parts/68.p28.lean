/-! PURE: the class's changes -/
def mkC (u v x : Int32) : Prop := (2 ≤ u.toInt ∧ u.toInt ≤ 7) ∧ (2 ≤ v.toInt ∧ v.toInt ≤ 7) ∧ (0 ≤ x.toInt ∧ x.toInt ≤ 50)
def dsum (W H : Nat) (g : GG) : Nat → Int32
  | 0 => 0
  | n + 1 => dsum W H g n + sm (los W H (gs (dayN W H g n) 2) (gt (dayN W H g n))) (W * H)
theorem dsum_eq (W H : Nat) (g : GG) (n : Nat) : gs (dayN W H g n) 5 = gs g 5 + dsum W H g n := by
  induction n with
  | zero => exact (Int32.add_zero _).symm
  | succ n ih =>
    show gs (dayN W H g n) 5 + _ = gs g 5 + (dsum W H g n + _)
    rw [ih, Int32.add_assoc]
theorem dsum_sub (W H : Nat) (g : GG) (n : Nat) : gs (dayN W H g n) 5 - gs g 5 = dsum W H g n := by
  rw [dsum_eq, Int32.add_comm]; exact Int32.add_sub_cancel _ _
def parS (g : GG) (tx : Nat → Int32) (w h : Nat) : GG := addsS (begS g w h) (fun c => tx (c + c / w) - 48) (w * h)
section
variable {Z : ZZ} {M : MM} {a : Nat} {g : GG} {W H : Nat} {sk : Nat → GG} {n ns len : Nat} {tx : Nat → Int32}
theorem ClsI.ice {M1 : MM} {g1 : GG} {rs os : List Nat} (c : ClsI M a g sk n ns tx len) (f : Fr rs os M M1) (t : IceS M1 (a + 1) g1) (h1 : ∀ r ∈ rs, inn a r) (h2 : ∀ r ∈ os, inn a r) : FrC a M M1 ∧ ClsI M1 a g1 sk n ns tx len := ⟨f.toCi h1 h2, c.fr f h1 h2 t⟩
theorem sp_save2 {Q : MM → Prop} (F : FieldAt Z a) (c : ClsI M a g sk n ns tx len) (hQ : ∀ M1, Fr (svA a ns) [a + 41 + 9 * ns, a] M M1 → FrC a M M1 → ClsI M1 a g (pushS sk n g) (pc n) ((ns + 1) % 4) tx len → Q M1) : P_X5_saveState Z M a Q := by
  have h4 := c.2.1.2.1
  refine sp_save F c (fun M1 f1 c1 => hQ M1 f1 (f1.toC (fun r hr => ?_) (fun r hr => ?_)) c1)
  · simp [svA] at hr; omega
  · simp at hr; omega
theorem c_make_x {u v x : Int32} {Q : Int32 → MM → Prop} {X : String → MM → Prop} (h : ¬ mkC u v x) (hX : X "java/lang/IllegalArgumentException" M) : P_X5_make Z M a u v x Q X := by
  unfold P_X5_make B_X5_make_0
  refine sp_out.mpr ⟨fun _ => hX, fun z => sp_out.mpr ⟨fun _ => hX, fun z2 => sp_out.mpr ⟨fun z3 => absurd ?_ h, fun _ => hX⟩⟩⟩
  rw [bI_0, Classical.not_not] at z z2 z3
  exact ⟨z, z2, z3⟩
theorem c_make {u v : Nat} {x : Int32} {Q : Int32 → MM → Prop} {X : String → MM → Prop} (F : FieldAt Z a) (c : ClsI M a g sk n ns tx len) (h : mkC (nI u) (nI v) x) (hu : 2 ≤ u ∧ u ≤ 7) (hv : 2 ≤ v ∧ v ≤ 7) (hQ : ∀ M1, FrC a M M1 → ClsI M1 a (addsS (begS g u v) (fun _ => x) (u * v)) (pushS sk n g) (pc n) ((ns + 1) % 4) tx len → Q (gs (addsS (begS g u v) (fun _ => x) (u * v)) 4) M1) : P_X5_make Z M a (nI u) (nI v) x Q X := by
  have hI := F.2.1.1
  obtain ⟨h1, h2, h3⟩ := h
  unfold P_X5_make B_X5_make_0
  refine sp_out.mpr ⟨fun z => ?_, fun _ => sp_out.mpr ⟨fun z => ?_, fun _ => sp_out.mpr ⟨fun _ => ⟨F.1.1, sp_save2 F c (fun M1 f1 fc1 c1 => ⟨a + 1, F.1.2.1, hI.1, sp_begin hI g (c1.1.1 2 (by omega)) (fun M2 f2 t2 => ?_)⟩)⟩, fun z => ?_⟩⟩⟩
  · rw [bI_0, Classical.not_not] at z; exact absurd h1 z
  · rw [bI_0, Classical.not_not] at z; exact absurd h2 z
  · obtain ⟨fc2, c2⟩ := c1.ice f2 t2 (fun r hr => by simp at hr; unfold inn; omega) (fun r hr => by simp at hr; unfold inn; omega)
    have w2 : WH (begS g u v) u v := ⟨rfl, rfl, hu.1, hu.2, hv.1, hv.2⟩
    refine sp_addEv hI t2 w2 (fun M3 f3 t3 => ?_)
    obtain ⟨fc3, c3⟩ := c2.ice f3 t3 (fun r hr => by simp at hr; unfold inn; omega) (fun r hr => by simp at hr; unfold inn; omega)
    rw [t3.1 4 (by omega)]
    exact hQ M3 ((fc1.trans fc2).trans fc3) c3
  · rw [bI_0, Classical.not_not] at z; exact absurd h3 z
theorem c_lay_x {v u : Int32} {Q : Int32 → MM → Prop} {X : String → MM → Prop} (F : FieldAt Z a) (c : ClsI M a g sk n ns tx len) (w : WH g W H) (h : ¬ isC W H v) (hX : X "java/lang/IndexOutOfBoundsException" M) : P_X5_lay Z M a v u Q X := by
  unfold P_X5_lay B_X5_lay_0
  exact ⟨F.1.1, sp_checkCell F c.1 w (fun q => absurd q h) (fun _ => hX)⟩
theorem c_lay_x2 {v u : Int32} {Q : Int32 → MM → Prop} {X : String → MM → Prop} (F : FieldAt Z a) (c : ClsI M a g sk n ns tx len) (w : WH g W H) (h : isC W H v) (h2 : ¬ (1 ≤ u.toInt ∧ u.toInt ≤ 50)) (hX : X "java/lang/IllegalArgumentException" M) : P_X5_lay Z M a v u Q X := by
  unfold P_X5_lay B_X5_lay_0
  refine ⟨F.1.1, sp_checkCell F c.1 w (fun _ => sp_out.mpr ⟨fun z => absurd ?_ h2, fun _ => hX⟩) (fun q => absurd h q)⟩
  rw [bI_0, Classical.not_not, l32_0.2.1, l32_0.2.2.2.2.1] at z; exact z
theorem c_lay_x3 {d : Nat} {u : Int32} {Q : Int32 → MM → Prop} {X : String → MM → Prop} (F : FieldAt Z a) (c : ClsI M a g sk n ns tx len) (w : WH g W H) (hd : d < W * H) (h2 : 1 ≤ u.toInt ∧ u.toInt ≤ 50) (h3 : ¬ gt g d + u ≤ 50) (hX : X "java/lang/IllegalStateException" M) : P_X5_lay Z M a (nI d) u Q X := by
  have h49 : W * H ≤ 49 := wh_lt w.2.2.2.1 w.2.2.2.2.2
  have hI := F.2.1.1
  unfold P_X5_lay B_X5_lay_0
  refine ⟨F.1.1, sp_checkCell F c.1 w (fun _ => sp_out.mpr ⟨fun _ => ⟨a + 1, F.1.2.1, hI.1, a + 2, hI.2.1, hI.2.2.2.2.2.1.1, (sp_th hI c.1 (by omega)).mpr ⟨fun q => absurd q h3, fun _ => hX⟩⟩, fun z => ?_⟩) (fun q => absurd (isC_n hd h49) q)⟩
  rw [bI_0, Classical.not_not] at z; exact absurd h2 z
theorem c_lay {d : Nat} {u : Int32} {Q : Int32 → MM → Prop} {X : String → MM → Prop} (F : FieldAt Z a) (c : ClsI M a g sk n ns tx len) (w : WH g W H) (hd : d < W * H) (h2 : 1 ≤ u.toInt ∧ u.toInt ≤ 50) (h3 : gt g d + u ≤ 50) (hQ : ∀ M1, FrC a M M1 → ClsI M1 a (addS g d u) (pushS sk n g) (pc n) ((ns + 1) % 4) tx len → Q (gt (addS g d u) d) M1) : P_X5_lay Z M a (nI d) u Q X := by
  have h49 : W * H ≤ 49 := wh_lt w.2.2.2.1 w.2.2.2.2.2
  have hI := F.2.1.1
  unfold P_X5_lay B_X5_lay_0
  refine ⟨F.1.1, sp_checkCell F c.1 w (fun _ => sp_out.mpr ⟨fun _ => ⟨a + 1, F.1.2.1, hI.1, a + 2, hI.2.1, hI.2.2.2.2.2.1.1, (sp_th hI c.1 (by omega)).mpr ⟨fun _ => sp_save2 F c (fun M1 f1 fc1 c1 => sp_add hI c1.1 (by omega) (fun M2 f2 t2 => (sp_th hI t2 (by omega)).mpr ?_)), fun q => absurd h3 q⟩⟩, fun z => ?_⟩) (fun q => absurd (isC_n hd h49) q)⟩
  · obtain ⟨fc2, c2⟩ := c1.ice f2 t2 (fun r hr => by simp at hr; unfold inn; omega) (fun r hr => by simp at hr; unfold inn; omega)
    exact hQ M2 (fc1.trans fc2) c2
  · rw [bI_0, Classical.not_not] at z; exact absurd h2 z
theorem c_saw_x {v u : Int32} {Q : Int32 → MM → Prop} {X : String → MM → Prop} (F : FieldAt Z a) (c : ClsI M a g sk n ns tx len) (w : WH g W H) (h : ¬ isC W H v) (hX : X "java/lang/IndexOutOfBoundsException" M) : P_X5_saw Z M a v u Q X := by
  unfold P_X5_saw B_X5_saw_0
  exact ⟨F.1.1, sp_checkCell F c.1 w (fun q => absurd q h) (fun _ => hX)⟩
theorem c_saw_x2 {v u : Int32} {Q : Int32 → MM → Prop} {X : String → MM → Prop} (F : FieldAt Z a) (c : ClsI M a g sk n ns tx len) (w : WH g W H) (h : isC W H v) (h2 : ¬ (0 ≤ u.toInt ∧ u.toInt ≤ 3)) (hX : X "java/lang/IllegalArgumentException" M) : P_X5_saw Z M a v u Q X := by
  unfold P_X5_saw B_X5_saw_0
  refine ⟨F.1.1, sp_checkCell F c.1 w (fun _ => sp_out.mpr ⟨fun z => absurd ?_ h2, fun _ => hX⟩) (fun q => absurd h q)⟩
  rw [bI_0, Classical.not_not, l32_0.1, l32_0.2.2.2.2.2.1] at z; exact z
theorem c_saw_x3 {d s : Nat} {Q : Int32 → MM → Prop} {X : String → MM → Prop} (F : FieldAt Z a) (c : ClsI M a g sk n ns tx len) (w : WH g W H) (hd : d < W * H) (hs : s < 4) (h3 : ¬ (s = 2 ∨ (bs W H d s).isSome = true)) (hX : X "java/lang/IllegalStateException" M) : P_X5_saw Z M a (nI d) (nI s) Q X := by
  have h49 : W * H ≤ 49 := wh_lt w.2.2.2.1 w.2.2.2.2.2
  have hI := F.2.1.1
  unfold P_X5_saw B_X5_saw_0
  refine ⟨F.1.1, sp_checkCell F c.1 w (fun _ => sp_out.mpr ⟨fun _ => ⟨a + 1, F.1.2.1, hI.1, (sp_canCut hI c.1 w hd hs).mpr ⟨fun q => ?_, fun _ => hX⟩⟩, fun z => ?_⟩) (fun q => absurd (isC_n hd h49) q)⟩
  · rw [bI_0, Classical.not_not] at q; exact absurd q h3
  · rw [bI_0, Classical.not_not, l32_0.1, l32_0.2.2.2.2.2.1, i_toInt s (by omega)] at z; omega
theorem c_saw {d s : Nat} {Q : Int32 → MM → Prop} {X : String → MM → Prop} (F : FieldAt Z a) (c : ClsI M a g sk n ns tx len) (w : WH g W H) (hd : d < W * H) (hs : s < 4) (h3 : s = 2 ∨ (bs W H d s).isSome = true) (hQ : ∀ M1, FrC a M M1 → ClsI M1 a (csS W H g d s).2 (pushS sk n g) (pc n) ((ns + 1) % 4) tx len → Q (csS W H g d s).1 M1) : P_X5_saw Z M a (nI d) (nI s) Q X := by
  have h49 : W * H ≤ 49 := wh_lt w.2.2.2.1 w.2.2.2.2.2
  have hI := F.2.1.1
  unfold P_X5_saw B_X5_saw_0
  refine ⟨F.1.1, sp_checkCell F c.1 w (fun _ => sp_out.mpr ⟨fun _ => ⟨a + 1, F.1.2.1, hI.1, (sp_canCut hI c.1 w hd hs).mpr ⟨fun _ => sp_save2 F c (fun M1 f1 fc1 c1 => sp_cutSide hI c1.1 w hd hs (fun M2 f2 t2 => ?_)), fun q => ?_⟩⟩, fun z => ?_⟩) (fun q => absurd (isC_n hd h49) q)⟩
  · obtain ⟨fc2, c2⟩ := c1.ice f2 t2 (fun r hr => by simp at hr; unfold inn; omega) (fun r hr => by simp at hr)
    exact hQ M2 (fc1.trans fc2) c2
  · rw [bI_0] at q; exact absurd h3 q
  · rw [bI_0, Classical.not_not, l32_0.1, l32_0.2.2.2.2.2.1, i_toInt s (by omega)] at z; omega
theorem c_sa_x {v u x : Int32} {Q : Int32 → MM → Prop} {X : String → MM → Prop} (F : FieldAt Z a) (c : ClsI M a g sk n ns tx len) (w : WH g W H) (h : ¬ isC W H v) (hX : X "java/lang/IndexOutOfBoundsException" M) : P_X5_sawAround Z M a v u x Q X := by
  unfold P_X5_sawAround B_X5_sawAround_0
  refine ⟨F.1.1, ?_⟩
  unfold P_X5_checkRectangle B_X5_checkRectangle_0
  exact ⟨F.1.1, sp_checkCell F c.1 w (fun q => absurd q h) (fun _ => hX)⟩
theorem c_sa_x2 {d : Nat} {u x : Int32} {Q : Int32 → MM → Prop} {X : String → MM → Prop} (F : FieldAt Z a) (c : ClsI M a g sk n ns tx len) (w : WH g W H) (hd : d < W * H) (h : ¬ isR W H d u x) (hX : X "java/lang/IllegalArgumentException" M) : P_X5_sawAround Z M a (nI d) u x Q X := by
  unfold P_X5_sawAround B_X5_sawAround_0
  exact ⟨F.1.1, sp_checkRect F c.1 w hd (fun q => absurd q h) (fun _ => hX)⟩
theorem c_sa {d u x : Nat} {Q : Int32 → MM → Prop} {X : String → MM → Prop} (F : FieldAt Z a) (c : ClsI M a g sk n ns tx len) (w : WH g W H) (hd : d < W * H) (hu : 1 ≤ u) (hx : 1 ≤ x) (h1 : d % W + u ≤ W) (h2 : d / W + x ≤ H) (hR : isR W H d (nI u) (nI x)) (hQ : ∀ M1, FrC a M M1 → ClsI M1 a (recS W H g d u x).2 (pushS sk n g) (pc n) ((ns + 1) % 4) tx len → Q (recS W H g d u x).1 M1) : P_X5_sawAround Z M a (nI d) (nI u) (nI x) Q X := by
  have hI := F.2.1.1
  unfold P_X5_sawAround B_X5_sawAround_0
  refine ⟨F.1.1, sp_checkRect F c.1 w hd (fun _ => sp_save2 F c (fun M1 f1 fc1 c1 => ⟨a + 1, F.1.2.1, hI.1, sp_rect hI c1.1 w hu hx h1 h2 (fun M2 f2 t2 _ => ?_)⟩)) (fun q => absurd hR q)⟩
  obtain ⟨fc2, c2⟩ := c1.ice f2 t2 (fun r hr => by simp at hr; unfold inn; omega) (fun r hr => by simp at hr)
  exact hQ M2 (fc1.trans fc2) c2
theorem c_to_x {v : Int32} {Q : Int32 → MM → Prop} {X : String → MM → Prop} (F : FieldAt Z a) (c : ClsI M a g sk n ns tx len) (w : WH g W H) (h : ¬ isC W H v) (hX : X "java/lang/IndexOutOfBoundsException" M) : P_X5_takeOut Z M a v Q X := by
  unfold P_X5_takeOut B_X5_takeOut_0
  exact ⟨F.1.1, sp_checkCell F c.1 w (fun q => absurd q h) (fun _ => hX)⟩
theorem c_to {d tb : Nat} {Q : Int32 → MM → Prop} {X : String → MM → Prop} (F : FieldAt Z a) (c : ClsI M a g sk n ns tx len) (w : WH g W H) (hd : d < W * H) (htb : gs g 7 = nI tb) (htb2 : tb < 1000000) (hX : (∀ r, r < W * H → lbG W H g d = nI r → ¬ flG W H g r) → ∀ M1, FrC a M M1 → ClsI M1 a g sk n ns tx len → X "java/lang/IllegalStateException" M1)
    (hQ : ∀ r, r < W * H → lbG W H g d = nI r → flG W H g r → ∀ M1, FrC a M M1 → ClsI M1 a (takG W H g r) (pushS sk n g) (pc n) ((ns + 1) % 4) tx len → Q (volS W H (gt g) (lbG W H g) (nI r)) M1) : P_X5_takeOut Z M a (nI d) Q X := by
  have hW : 0 < W := by have := w.2.2.1; omega
  have h49 : W * H ≤ 49 := wh_lt w.2.2.2.1 w.2.2.2.2.2
  have hb := F.2.2.2.1
  have hI := F.2.1.1
  have hy' := F.2.2.2.2.1
  unfold P_X5_takeOut B_X5_takeOut_0
  refine ⟨F.1.1, sp_checkCell F c.1 w (fun _ => ⟨a + 23, F.1.2.2.2.2.2.1, a + 1, F.1.2.1, hb.1, sp_find F.2.1.1 hb (by omega) c.1 w (fun M1 f1 B1 => (sp_number hb (by omega)).mpr ?_)⟩) (fun q => absurd (isC_n hd h49) q)⟩
  obtain ⟨fc, c1⟩ := c.scq f1 (by simp [scA]) (by simp)
  rw [B1.1 d (by omega)]
  have hlb : labS W H (gt g) (gc g) d = lbG W H g d := rfl
  rw [hlb]
  rcases lb_cases (g := g) hW h49 d with q | ⟨r, r1, r2, r3⟩
  · rw [q]
    refine sp_isLoose_neg hb ⟨fun _ => hX (fun r hr e => ?_) M1 fc c1, fun z => absurd rfl z⟩
    rw [q] at e
    exact absurd e.symm (i_n1 r (by omega))
  · rw [r2]
    have huniq : ∀ r', lbG W H g d = nI r' → r' < W * H → r' = r := fun r' e hr' => by
      rw [r2, n_eq (by omega) (by omega)] at e; exact e.symm
    refine sp_isLoose hb (by omega) B1 (fun z => ⟨fun q => absurd q (by decide), fun _ => ⟨a + 30, F.1.2.2.2.2.2.2.1, hy'.1, ?_⟩⟩) (fun z => ⟨fun _ => hX (fun r' hr' e => ?_) M1 fc c1, fun q => absurd rfl q⟩)
    · refine sp_srch (g0 := g) F F.2.1.1 (by omega) c1.1 w B1 (by omega) r3 (fun M2 f2 _ => ?_)
      obtain ⟨fc2, c2⟩ := c1.scq f2 (by simp [scA]) (by simp [scO])
      have B2 := B1.frame f2 (by simp) (by simp)
      refine ⟨fun z2 => sp_save2 F c2 (fun M3 f3 fc3 c3 => ⟨hI.1, ?_⟩), fun z2 => hX (fun r' hr' e => ?_) M2 (fc.trans fc2) c2⟩
      · have hns := c2.2.1.2.1
        have B3 := B2.frame f3 (by simp [svA]; omega) (by simp [svA]; omega)
        refine sp_remove (lb := lbG W H g) hI hb (by omega) c3.1 w htb htb2 B3.1 (fun M4 f4 t4 => ?_)
        obtain ⟨fc4, c4⟩ := c3.ice f4 t4 (fun r hr => by simp at hr; unfold inn; omega) (fun r hr => by simp at hr; unfold inn; omega)
        exact hQ r r1 r2 ⟨z, z2⟩ M4 (((fc.trans fc2).trans fc3).trans fc4) c4
      · have := huniq r' e hr'
        subst this
        exact fun q => q.2 z2
    · have := huniq r' e hr'
      subst this
      exact fun q => z q.1
theorem c_ta {k tb : Nat} {g1 : GG} {Q : Int32 → MM → Prop} (F : FieldAt Z a) (c : ClsI M a g sk n ns tx len) (w : WH g W H) (hT : TkR W H k g g1) (hk : k ≤ 49) (htb : gs g 7 = nI tb) (hb : tb + k < 1000000) (hQ : ∀ M1, FrC a M M1 → ClsI M1 a g1 (pushS sk n g) (pc n) ((ns + 1) % 4) tx len → WH g1 W H → gs g1 7 = nI (tb + k) → Q (nI k) M1) : P_X5_takeAll Z M a Q := by
  unfold P_X5_takeAll B_X5_takeAll_0
  refine ⟨F.1.1, sp_save2 F c (fun M1 f1 fc1 c1 => ⟨a + 1, F.1.2.1, sp_remFl F F.2.1.1 (by omega) c1.1 w hT hk htb hb (fun M2 f2 t2 w2 _ e2 => ?_)⟩)⟩
  obtain ⟨fc2, c2⟩ := c1.ice f2 t2 (fun r hr => by simp at hr; unfold inn; omega) (fun r hr => by simp at hr; unfold inn; omega)
  exact hQ M2 (fc1.trans fc2) c2 w2 e2
theorem c_sm_x {u : Int32} {Q : Int32 → MM → Prop} {X : String → MM → Prop} (h2 : ¬ (0 ≤ u.toInt ∧ u.toInt ≤ 9)) (hX : X "java/lang/IllegalArgumentException" M) : P_X5_setMelt Z M a u Q X := by
  unfold P_X5_setMelt B_X5_setMelt_0
  refine sp_out.mpr ⟨fun z => absurd ?_ h2, fun _ => hX⟩
  rw [bI_0, Classical.not_not, l32_0.1, l32_0.2.2.2.2.2.2.1] at z; exact z
theorem c_sm {u : Int32} {Q : Int32 → MM → Prop} {X : String → MM → Prop} (F : FieldAt Z a) (c : ClsI M a g sk n ns tx len) (h2 : 0 ≤ u.toInt ∧ u.toInt ≤ 9) (hQ : ∀ M1, FrC a M M1 → ClsI M1 a (mk (upd (gs g) 2 u) (gt g) (gc g) (gk g)) (pushS sk n g) (pc n) ((ns + 1) % 4) tx len → Q (gs g 2) M1) : P_X5_setMelt Z M a u Q X := by
  unfold P_X5_setMelt B_X5_setMelt_0
  refine sp_out.mpr ⟨fun _ => ⟨F.1.1, sp_save2 F c (fun M1 f1 fc1 c1 => ⟨a + 1, F.1.2.1, F.2.1.1.1, ?_⟩)⟩, fun z => ?_⟩
  · obtain ⟨fc2, c2⟩ := c1.ice (Fr.setI M1 2 (a + 1) u) (c1.1.setI 2 u) (fun r hr => by simp at hr) (fun r hr => by simp at hr; unfold inn; omega)
    rw [c1.1.1 2 (by omega)]
    exact hQ _ (fc1.trans fc2) c2
  · rw [bI_0, Classical.not_not, l32_0.1, l32_0.2.2.2.2.2.2.1] at z; exact absurd h2 z
theorem c_pass_x {u : Int32} {Q : Int32 → MM → Prop} {X : String → MM → Prop} (h2 : ¬ (1 ≤ u.toInt ∧ u.toInt ≤ 50)) (hX : X "java/lang/IllegalArgumentException" M) : P_X5_pass Z M a u Q X := by
  unfold P_X5_pass B_X5_pass_0
  refine sp_out.mpr ⟨fun z => absurd ?_ h2, fun _ => hX⟩
  rw [bI_0, Classical.not_not, l32_0.2.1, l32_0.2.2.2.2.1] at z; exact z
theorem c_pass {u : Nat} {Q : Int32 → MM → Prop} {X : String → MM → Prop} (F : FieldAt Z a) (c : ClsI M a g sk n ns tx len) (w : WH g W H) (h2 : 1 ≤ u ∧ u ≤ 50) (hQ : ∀ M1, FrC a M M1 → ClsI M1 a (dayN W H g u) (pushS sk n g) (pc n) ((ns + 1) % 4) tx len → Q (dsum W H g u) M1) : P_X5_pass Z M a (nI u) Q X := by
  have hI := F.2.1.1
  unfold P_X5_pass B_X5_pass_0
  refine sp_out.mpr ⟨fun _ => ⟨F.1.1, sp_save2 F c (fun M1 f1 fc1 c1 => ⟨a + 1, F.1.2.1, hI.1, u + 1, ?_⟩)⟩, fun z => ?_⟩
  · rw [c1.1.1 5 (by omega)]
    refine for_up u (fun k i M' => L_X5_pass_34 Z Q X k M' a (nI u) (gs g 5) (nI i)) (fun i M' => FrC a M M' ∧ ClsI M' a (dayN W H g i) (pushS sk n g) (pc n) ((ns + 1) % 4) tx len) ?_ ?_ u 0 M1 (by omega) ⟨fc1, c1⟩
    · intro k i M' hi ⟨fC, cc⟩ kk
      show B_X5_pass_34 Z Q X (L_X5_pass_34 Z Q X k) M' a (nI u) (gs g 5) (nI i)
      unfold B_X5_pass_34
      refine ⟨fun q => absurd q ?_, fun _ => ⟨F.1.1, a + 1, F.1.2.1, hI.1, sp_day hI cc.1 (w.dayN i) (fun M2 f2 t2 => ?_)⟩⟩
      · rw [n_le (by omega) (by omega)]; omega
      obtain ⟨fc2, c2⟩ := cc.ice f2 t2 (fun r hr => by simp at hr; unfold inn; omega) (fun r hr => by simp at hr; unfold inn; omega)
      rw [nI_1]
      exact kk M2 ⟨fC.trans fc2, c2⟩
    · intro k M' ⟨fC, cc⟩
      show B_X5_pass_34 Z Q X (L_X5_pass_34 Z Q X k) M' a (nI u) (gs g 5) (nI u)
      unfold B_X5_pass_34
      refine ⟨fun _ => ⟨F.1.1, a + 1, F.1.2.1, hI.1, ?_⟩, fun q => absurd (nI_le (Nat.le_refl _) (by omega)) q⟩
      rw [cc.1.1 5 (by omega), dsum_sub]
      exact hQ M' fC cc
  · rw [bI_0, Classical.not_not, l32_0.2.1, l32_0.2.2.2.2.1, i_toInt u (by omega)] at z; omega
theorem ClsI.txt {M1 : MM} (c : ClsI M a g sk n ns tx len) (f : FrM (a + 20) [] [9, 10] M M1) : FrC a M M1 ∧ ClsI M1 a g sk n ns tx len := by
  obtain ⟨c0, ⟨c1, c2, c3, c4, c5⟩, c6, c7, c8⟩ := c
  have ic : ∀ x g1, x ≠ a + 20 → IceS M x g1 → IceS M1 x g1 := fun x g1 hx t => by
    refine ⟨fun k hk => ?_, ?_, ?_, ?_⟩
    · rw [f.2.1 _ _ (Or.inl hx)]; exact t.1 k hk
    · rw [f.1 _ (by simp)]; exact t.2.1
    · rw [f.1 _ (by simp)]; exact t.2.2.1
    · rw [f.1 _ (by simp)]; exact t.2.2.2
  refine ⟨⟨fun b _ => f.1 b (by simp), fun k b hb => f.2.1 k b (Or.inl (by omega)), f.2.2⟩, ic _ _ (by omega) c0, ⟨?_, c2, ?_, c4, fun i hi => ic _ _ (by omega) (c5 i hi)⟩, ?_, ?_, c8⟩
  · rw [f.2.1 _ _ (Or.inl (by omega))]; exact c1
  · rw [f.2.1 _ _ (Or.inl (by omega))]; exact c3
  · rw [f.1 _ (by simp)]; exact c6
  · rw [f.2.1 _ _ (Or.inr (by simp))]; exact c7
theorem c_undo_x {Q : Int32 → MM → Prop} {X : String → MM → Prop} (F : FieldAt Z a) (c : ClsI M a g sk n ns tx len) (hn : n = 0) (hX : X "java/lang/IllegalStateException" M) : P_X5_undo Z M a Q X := by
  unfold P_X5_undo B_X5_undo_0
  rw [c.2.1.2.2.1]
  exact ⟨F.1.1, fun q => absurd q (by rw [hn]; decide), fun _ => hX⟩
theorem c_undo {Q : Int32 → MM → Prop} {X : String → MM → Prop} (F : FieldAt Z a) (c : ClsI M a g sk n ns tx len) (hn : 0 < n) (hQ : ∀ M1, FrC a M M1 → ClsI M1 a (sk (n - 1)) sk (n - 1) ((ns + 3) % 4) tx len → Q (nI (n - 1)) M1) : P_X5_undo Z M a Q X := by
  have hI := F.2.1.1
  obtain ⟨c0, ⟨c1, c2, c3, c4, c5⟩, c6, c7, c8⟩ := c
  have e0 : (0 : Int32) < nI n := by rw [show (0 : Int32) = nI 0 from rfl, n_lt (by omega) (by omega)]; exact hn
  have h13 : ∀ x, mI (setI M 12 a x) 13 a = nI n := fun x => by rw [mI_setI, if_neg (by simp)]; exact c3
  have e1 : nI n - 1 = nI (n - 1) := by rw [← n_sub hn]; rfl
  have hm : (ns + 3) % 4 < 4 := Nat.mod_lt _ (by omega)
  unfold P_X5_undo B_X5_undo_0
  rw [c1, mod4u ns c2, h13, c3, e1]
  have h12 : mI (setI (setI M 12 a (nI ((ns + 3) % 4))) 13 a (nI (n - 1))) 12 a = nI ((ns + 3) % 4) := by rw [mI_setI, if_neg (by simp), mI_setI, if_pos ⟨rfl, rfl⟩]
  rw [h12]
  refine ⟨F.1.1, fun _ => (sp_savedAt F hm).mpr ⟨fun z => (Option.some_ne_none _ z).elim, fun y hy => ?_⟩, fun q => absurd e0 q⟩
  injection hy with hy
  subst hy
  have f1 : Fr [] [a] M (setI (setI M 12 a (nI ((ns + 3) % 4))) 13 a (nI (n - 1))) := (Fr.setI _ _ _ _).trans (Fr.setI _ _ _ _)
  have hS := (F.2.1.2.2.2.2 _ hm).2
  have t0 : IceS M (a + 41 + 9 * ((ns + 3) % 4)) (sk (n - 1)) := by
    have := c5 (n - 1) (by omega)
    rw [show (ns + 4 - n + (n - 1)) % 4 = (ns + 3) % 4 by congr 1; omega] at this
    exact this
  refine ⟨a + 1, F.1.2.1, hI.1, sp_copyIce hI hS (by omega) (t0.frame f1 (by simp; omega) (by simp) (by simp) (by simp)) (fun M2 f2 t2 => ?_)⟩
  have h132 : mI M2 13 a = nI (n - 1) := by rw [f2.2.1 _ _ (by simp), mI_setI, if_pos ⟨rfl, rfl⟩]
  rw [h132]
  have f : Fr [a + 1 + 2, a + 1 + 4, a + 1 + 6] [a, a + 1] M M2 := (f1.mono (by simp) (by simp)).trans (f2.mono (by simp) (by simp))
  refine hQ M2 (f.toC (fun r hr => by simp at hr; omega) (fun r hr => by simp at hr; omega)) ⟨t2, ⟨?_, hm, h132, by omega, fun i hi => ?_⟩, fun i hi => ?_, ?_, c8⟩
  · rw [f2.2.1 _ _ (by simp)]; exact h12
  · have := c5 i (by omega)
    rw [show ((ns + 3) % 4 + 4 - (n - 1) + i) % 4 = (ns + 4 - n + i) % 4 by omega]
    exact this.frame f (by simp; omega) (by simp; omega) (by simp; omega) (by simp; omega)
  · rw [f.1 _ (by simp)]; exact c6 i hi
  · rw [f.2.1 _ _ (by simp)]; exact c7
end
