/-! PURE: the digests -/
noncomputable def dg (f : Nat → Int32) (s : Int64) : Nat → Int64
  | 0 => s
  | n + 1 => 31 * dg f s n + (f n).toInt64
noncomputable def dcell (W H : Nat) (g : GG) (s : Int64) (c : Nat) : Int64 := 31 * (31 * dg (cfS W H g c) s 7 + (bfS W H g (lbG W H g c) 3).toInt64) + (bfS W H g (lbG W H g c) 4).toInt64
noncomputable def dcs (W H : Nat) (g : GG) (s : Int64) : Nat → Int64
  | 0 => s
  | n + 1 => dcell W H g (dcs W H g s n) n
noncomputable def dgA (W H : Nat) (g : GG) (len : Nat) : Int64 := dg (ffS W H g) (110267 + (nI len).toInt64) 14
noncomputable def dgC (W H : Nat) (g : GG) (len : Nat) : Int64 := dcs W H g (dgA W H g len) (W * H)
noncomputable def dgT (W H : Nat) (g : GG) (len kp k n : Nat) : Int64 := 31 * (31 * dg (gk g) (dgC W H g len) (3 * kp) + (nI k).toInt64) + (nI n).toInt64
section
variable {Z : ZZ} {M : MM} {a m : Nat} {g : GG} {W H : Nat} {sk : Nat → GG} {n ns len : Nat} {tx : Nat → Int32}
theorem c_digest {k tb : Nat} {g1 : GG} {Q : Int64 → MM → Prop} (F : FieldAt Z a) (c : ClsI M a g sk n ns tx len) (w : WH g W H) (hT : TkR W H k g g1) (hk : k ≤ 49) (htb : gs g 7 = nI tb) (hb : tb + k < 1000000) (hQ : ∀ M1, FrC a M M1 → ClsI M1 a g sk n ns tx len → Q (dgT W H g len (if tb < 40 then tb else 40) k n) M1) : P_X5_digest Z M a Q := by
  have h49 : W * H ≤ 49 := wh_lt w.2.2.2.1 w.2.2.2.2.2
  have hI := F.2.1.1
  have hkp : (if tb < 40 then tb else 40) ≤ 40 := by split <;> omega
  unfold P_X5_digest B_X5_digest_0
  refine ⟨F.1.1, a + 20, F.1.2.2.2.2.1, F.2.2.1.1, sp_fbw F c.1 w (fun M1 f1 B1 L1 => ⟨15, ?_⟩)⟩
  obtain ⟨fc, c1⟩ := c.scq f1 (by simp [scA, fbA]) (by simp [scO])
  have e8 : mI M 8 (a + 20) = nI len := c.2.2.2.1
  rw [e8]
  generalize hkk : (if tb < 40 then tb else 40) = kp at *
  refine for_up 14 (fun r i (_ : Unit) => L_X5_digest_19 Z Q r M1 a (dg (ffS W H g) (110267 + (nI len).toInt64) i) (nI i)) (fun _ _ => True) ?_ ?_ 14 0 () rfl trivial
  · intro r i _ hi _ kk
    show B_X5_digest_19 Z Q (L_X5_digest_19 Z Q r) M1 a (dg (ffS W H g) (110267 + (nI len).toInt64) i) (nI i)
    unfold B_X5_digest_19
    refine ⟨fun q => absurd q ?_, fun _ => ⟨F.1.1, sp_fieldFact F c1.1 w hi (fun _ _ => ⟨B1, L1⟩) ?_⟩⟩
    · rw [show (14 : Int32) = nI 14 from rfl, n_le (by omega) (by omega)]; omega
    · rw [nI_1]; exact kk () trivial
  · intro r _ _
    show B_X5_digest_19 Z Q (L_X5_digest_19 Z Q r) M1 a (dgA W H g len) (nI 14)
    unfold B_X5_digest_19
    refine ⟨fun _ => ⟨W * H + 1, ?_⟩, fun q => absurd (by decide) q⟩
    refine for_up (W * H) (fun r i (_ : Unit) => L_X5_digest_46 Z Q r M1 a (dcs W H g (dgA W H g len) i) (nI i)) (fun _ _ => True) ?_ ?_ (W * H) 0 () (by omega) trivial
    · intro r i _ hi _ kk
      show B_X5_digest_46 Z Q (L_X5_digest_46 Z Q r) M1 a (dcs W H g (dgA W H g len) i) (nI i)
      unfold B_X5_digest_46
      refine ⟨F.1.1, a + 1, F.1.2.1, hI.1, (sp_cells hI c1.1 w).mpr ⟨fun q => absurd q ?_, fun _ => ⟨8, ?_⟩⟩⟩
      · rw [n_le (by omega) (by omega)]; omega
      refine for_up 7 (fun r2 j (_ : Unit) => L_X5_digest_60 Z Q (L_X5_digest_46 Z Q r) r2 M1 a (dg (cfS W H g i) (dcs W H g (dgA W H g len) i) j) (nI i) (nI j)) (fun _ _ => True) ?_ ?_ 7 0 () rfl trivial
      · intro r2 j _ hj _ k2
        show B_X5_digest_60 Z Q (L_X5_digest_46 Z Q r) (L_X5_digest_60 Z Q (L_X5_digest_46 Z Q r) r2) M1 a (dg (cfS W H g i) (dcs W H g (dgA W H g len) i) j) (nI i) (nI j)
        unfold B_X5_digest_60
        refine ⟨fun q => absurd q ?_, fun _ => ⟨F.1.1, sp_cellFact F c1.1 w hi hj (fun _ => B1) ?_⟩⟩
        · rw [show (7 : Int32) = nI 7 from rfl, n_le (by omega) (by omega)]; omega
        · rw [nI_1]; exact k2 () trivial
      · intro r2 _ _
        show B_X5_digest_60 Z Q (L_X5_digest_46 Z Q r) (L_X5_digest_60 Z Q (L_X5_digest_46 Z Q r) r2) M1 a (dg (cfS W H g i) (dcs W H g (dgA W H g len) i) 7) (nI i) (nI 7)
        unfold B_X5_digest_60
        refine ⟨fun _ => ⟨F.1.1, sp_blockFact (k := 3) F c1.1 w hi (by omega) B1 (fun q => absurd q (by decide)) (sp_blockFact (k := 4) F c1.1 w hi (by omega) B1 (fun _ j _ hj => L1 j hj) ?_)⟩, fun q => absurd (by decide) q⟩
        rw [nI_1]; exact kk () trivial
    · intro r _ _
      show B_X5_digest_46 Z Q (L_X5_digest_46 Z Q r) M1 a (dgC W H g len) (nI (W * H))
      unfold B_X5_digest_46
      refine ⟨F.1.1, a + 1, F.1.2.1, hI.1, (sp_cells hI c1.1 w).mpr ⟨fun _ => ⟨kp + 1, ?_⟩, fun q => absurd (nI_le (Nat.le_refl _) (by omega)) q⟩⟩
      have hk1 : ∀ {Q : Int32 → MM → Prop}, P_X1_keptCount Z M1 (a + 1) Q ↔ Q (nI kp) M1 := fun {Q} => by
        have := sp_kept (Q := Q) F c1.1 htb (by omega)
        rw [hkk] at this
        exact this
      refine for_up kp (fun r i (_ : Unit) => L_X5_digest_124 Z Q r M1 a (dg (gk g) (dgC W H g len) (3 * i)) (nI i)) (fun _ _ => True) ?_ ?_ kp 0 () (by omega) trivial
      · intro r i _ hi _ kk
        show B_X5_digest_124 Z Q (L_X5_digest_124 Z Q r) M1 a (dg (gk g) (dgC W H g len) (3 * i)) (nI i)
        unfold B_X5_digest_124
        refine ⟨F.1.1, a + 1, F.1.2.1, hI.1, hk1.mpr ⟨fun q => absurd q ?_, fun _ => ⟨4, ?_⟩⟩⟩
        · rw [n_le (by omega) (by omega)]; omega
        refine for_up 3 (fun r2 j (_ : Unit) => L_X5_digest_138 Z Q (L_X5_digest_124 Z Q r) r2 M1 a (dg (gk g) (dgC W H g len) (3 * i + j)) (nI i) (nI j)) (fun _ _ => True) ?_ ?_ 3 0 () rfl trivial
        · intro r2 j _ hj _ k2
          show B_X5_digest_138 Z Q (L_X5_digest_124 Z Q r) (L_X5_digest_138 Z Q (L_X5_digest_124 Z Q r) r2) M1 a (dg (gk g) (dgC W H g len) (3 * i + j)) (nI i) (nI j)
          unfold B_X5_digest_138
          refine ⟨fun q => absurd q ?_, fun _ => ⟨F.1.1, a + 1, F.1.2.1, hI.1, (sp_keptFact F c1.1 (by omega)).mpr ?_⟩⟩
          · rw [show (3 : Int32) = nI 3 from rfl, n_le (by omega) (by omega)]; omega
          · rw [nI_1]; exact k2 () trivial
        · intro r2 _ _
          show B_X5_digest_138 Z Q (L_X5_digest_124 Z Q r) (L_X5_digest_138 Z Q (L_X5_digest_124 Z Q r) r2) M1 a (dg (gk g) (dgC W H g len) (3 * i + 3)) (nI i) (nI 3)
          unfold B_X5_digest_138
          refine ⟨fun _ => ?_, fun q => absurd (by decide) q⟩
          rw [nI_1]; exact kk () trivial
      · intro r _ _
        show B_X5_digest_124 Z Q (L_X5_digest_124 Z Q r) M1 a (dg (gk g) (dgC W H g len) (3 * kp)) (nI kp)
        unfold B_X5_digest_124
        refine ⟨F.1.1, a + 1, F.1.2.1, hI.1, hk1.mpr ⟨fun _ => ⟨a + 10, F.1.2.2.1, F.2.1.2.1.1, sp_tri F c1.1 (fun M2 f2 t2 => ?_)⟩, fun q => absurd (nI_le (Nat.le_refl _) (by omega)) q⟩⟩
        obtain ⟨fc2, c2⟩ := c1.scq f2 (by simp [scA]) (by simp [scO])
        refine sp_remFl F F.2.1.2.1 (by omega) t2 w hT hk htb hb (fun M3 f3 _ _ _ _ => ?_)
        obtain ⟨fc3, c3⟩ := c2.scq f3 (by simp [scA]) (by simp [scO])
        rw [c3.2.1.2.2.1]
        exact hQ M3 ((fc.trans fc2).trans fc3) c3
theorem o_digest {k tb : Nat} {g1 : GG} {Q : Int64 → MM → Prop} (F : ModAt Z m) (d : MdI M m g sk n tx len) (w : WH g W H) (ok : CtOk W H (gc g)) (oz : ∀ c, W * H ≤ c → c < 49 → gt g c = 0) (hT : TkR W H k g g1) (hk : k ≤ 49) (htb : gs g 7 = nI tb) (hb : tb + k < 1000000) (hQ : ∀ M1, FrO m M M1 → MdI M1 m g sk n tx len → Q (dgT W H g len (if tb < 40 then tb else 40) k n) M1) : P_X6_digest Z M m Q := by
  have h49 : W * H ≤ 49 := wh_lt w.2.2.2.1 w.2.2.2.2.2
  have hkp : (if tb < 40 then tb else 40) ≤ 40 := by split <;> omega
  obtain ⟨g0, d0, _⟩ := d.th 0
  unfold P_X6_digest B_X6_digest_0
  rw [d0.2.2.2]
  refine ⟨F.1, 15, ?_⟩
  generalize hkk : (if tb < 40 then tb else 40) = kp at *
  refine for_up 14 (fun r i M' => L_X6_digest_17 Z Q r M' m (dg (ffS W H g) (110267 + (nI len).toInt64) i) (nI i)) (fun _ M' => FrO m M M' ∧ MdI M' m g sk n tx len) ?_ ?_ 14 0 _ rfl ⟨g0, d0⟩
  · intro r i M' hi ⟨fO, dd⟩ kk
    show B_X6_digest_17 Z Q (L_X6_digest_17 Z Q r) M' m (dg (ffS W H g) (110267 + (nI len).toInt64) i) (nI i)
    unfold B_X6_digest_17
    refine ⟨fun q => absurd q ?_, fun _ => ⟨F.1, mo_valueOf F dd.1 w ok oz hi (fun M1 f1 => ?_)⟩⟩
    · rw [show (14 : Int32) = nI 14 from rfl, n_le (by omega) (by omega)]; omega
    obtain ⟨g2, d2⟩ := dd.scF f1 (by simp)
    rw [nI_1]; exact kk M1 ⟨fO.trans g2, d2⟩
  · intro r M' ⟨fO, dd⟩
    show B_X6_digest_17 Z Q (L_X6_digest_17 Z Q r) M' m (dgA W H g len) (nI 14)
    unfold B_X6_digest_17
    refine ⟨fun _ => ⟨F.1, mo_find F dd.1 w ok (fun M1 f1 B1 => ⟨W * H + 1, ?_⟩)⟩, fun q => absurd (by decide) q⟩
    obtain ⟨g2, d2⟩ := dd.scF f1 (by simp)
    refine for_up (W * H) (fun r i M' => L_X6_digest_48 Z Q r M' m (dcs W H g (dgA W H g len) i) (nI i)) (fun _ M' => FrO m M M' ∧ MdI M' m g sk n tx len ∧ BlM M' m W H g) ?_ ?_ (W * H) 0 M1 (by omega) ⟨fO.trans g2, d2, B1⟩
    · intro r i M' hi ⟨fO, dd, BB⟩ kk
      show B_X6_digest_48 Z Q (L_X6_digest_48 Z Q r) M' m (dcs W H g (dgA W H g len) i) (nI i)
      unfold B_X6_digest_48
      refine ⟨F.1, (mo_cells F dd.1 w).mpr ⟨fun q => absurd q ?_, fun _ => ⟨8, ?_⟩⟩⟩
      · rw [n_le (by omega) (by omega)]; omega
      refine for_up 7 (fun r2 j (_ : Unit) => L_X6_digest_59 Z Q (L_X6_digest_48 Z Q r) r2 M' m (dg (cfS W H g i) (dcs W H g (dgA W H g len) i) j) (nI i) (nI j)) (fun _ _ => True) ?_ ?_ 7 0 () rfl trivial
      · intro r2 j _ hj _ k2
        show B_X6_digest_59 Z Q (L_X6_digest_48 Z Q r) (L_X6_digest_59 Z Q (L_X6_digest_48 Z Q r) r2) M' m (dg (cfS W H g i) (dcs W H g (dgA W H g len) i) j) (nI i) (nI j)
        unfold B_X6_digest_59
        refine ⟨fun q => absurd q ?_, fun _ => ⟨F.1, mo_cellOf F dd.1 w ok BB hi hj ?_⟩⟩
        · rw [show (7 : Int32) = nI 7 from rfl, n_le (by omega) (by omega)]; omega
        · rw [nI_1]; exact k2 () trivial
      · intro r2 _ _
        show B_X6_digest_59 Z Q (L_X6_digest_48 Z Q r) (L_X6_digest_59 Z Q (L_X6_digest_48 Z Q r) r2) M' m (dg (cfS W H g i) (dcs W H g (dgA W H g len) i) 7) (nI i) (nI 7)
        unfold B_X6_digest_59
        refine ⟨fun _ => ⟨F.1, mo_blockOf (k := 3) F dd.1 w ok BB hi (by omega) (fun M2 f2 => ?_)⟩, fun q => absurd (by decide) q⟩
        obtain ⟨g3, d3⟩ := dd.scF f2 (by simp)
        have B3 := BB.frame f2 (by simp)
        refine mo_blockOf (k := 4) F d3.1 w ok B3 hi (by omega) (fun M4 f4 => ?_)
        obtain ⟨g5, d5⟩ := d3.scF f4 (by simp)
        rw [nI_1]; exact kk M4 ⟨(fO.trans g3).trans g5, d5, B3.frame f4 (by simp)⟩
    · intro r M' ⟨fO, dd, BB⟩
      show B_X6_digest_48 Z Q (L_X6_digest_48 Z Q r) M' m (dgC W H g len) (nI (W * H))
      unfold B_X6_digest_48
      refine ⟨F.1, (mo_cells F dd.1 w).mpr ⟨fun _ => ⟨3 * kp + 1, ?_⟩, fun q => absurd (nI_le (Nat.le_refl _) (by omega)) q⟩⟩
      have hk1 : ∀ {Q : Int32 → MM → Prop}, Q (nI kp) M' → P_X6_kept Z M' m Q := fun {Q} hq => mo_kept F dd.1 htb (by omega) (by rw [hkk]; exact hq)
      refine for_up (3 * kp) (fun r i (_ : Unit) => L_X6_digest_121 Z Q r M' m (dg (gk g) (dgC W H g len) i) (nI i)) (fun _ _ => True) ?_ ?_ (3 * kp) 0 () (by omega) trivial
      · intro r i _ hi _ kk
        show B_X6_digest_121 Z Q (L_X6_digest_121 Z Q r) M' m (dg (gk g) (dgC W H g len) i) (nI i)
        unfold B_X6_digest_121
        refine ⟨F.1, hk1 ?_⟩
        have e106 : (106 : Int32) + nI i = nI (106 + i) := nI_add 106 i
        rw [e106, show (3 : Int32) = nI 3 from rfl, n_mul, n_le (by omega) (by omega)]
        refine ⟨fun q => absurd q (by omega), fun _ => ⟨m + 1, F.all.1, F.all.2.1, by rw [F.all.2.2]; exact vpn (by omega) (by omega), ?_⟩⟩
        have e4 : mA M' (m + 1) (106 + i) = gk g i := by
          rw [dd.1 _ (by omega)]; unfold enc
          rw [if_neg (by omega), if_neg (by omega), if_neg (by omega)]; congr 1; omega
        rw [i_cl (106 + i) (by omega), e4, nI_1]
        exact kk () trivial
      · intro r _ _
        show B_X6_digest_121 Z Q (L_X6_digest_121 Z Q r) M' m (dg (gk g) (dgC W H g len) (3 * kp)) (nI (3 * kp))
        unfold B_X6_digest_121
        refine ⟨F.1, hk1 ?_⟩
        rw [show (3 : Int32) = nI 3 from rfl, n_mul, n_le (by omega) (by omega)]
        refine ⟨fun _ => o_tk F dd w ok hT hk htb hb (fun M3 f3 d3 => ?_), fun q => absurd (Nat.le_refl _) q⟩
        rw [d3.2.1.1]
        exact hQ M3 (fO.trans f3) d3
end
