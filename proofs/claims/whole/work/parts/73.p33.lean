/-! PURE: the model's text, undo, harvest -/
section
variable {Z : ZZ} {M : MM} {m : Nat} {g : GG} {W H : Nat} {sk : Nat → GG} {n len : Nat} {tx : Nat → Int32}
theorem o_app {u : Int32} {Q : Int32 → MM → Prop} (F : ModAt Z m) (d : MdI M m g sk n tx len) (hl : len ≤ 60) (h1 : ¬ (0 ≤ u.toInt ∧ u.toInt ≤ 127) → ∀ r M1, FrO m M M1 → MdI M1 m g sk n tx len → mI M1 15 m = 1 → Q r M1) (h2 : (0 ≤ u.toInt ∧ u.toInt ≤ 127) → len = 60 → ∀ r M1, FrO m M M1 → MdI M1 m g sk n tx len → mI M1 15 m = 2 → Q r M1)
    (hQ : (0 ≤ u.toInt ∧ u.toInt ≤ 127) → len < 60 → ∀ M1, FrO m M M1 → MdI M1 m g sk n (upd tx len u) (len + 1) → mI M1 15 m = 0 → Q (nI (len + 1)) M1) : P_X6_append Z M m u Q := by
  have e0 : (0 : Int64).toInt = 0 := by decide
  have e127 : (127 : Int64).toInt = 127 := by decide
  unfold P_X6_append B_X6_append_0
  refine mo_in.mpr ⟨fun z => ⟨F.1, ?_⟩, fun z => ⟨F.1, o_thr F d (h1 ?_)⟩⟩
  · rw [bI_0, Classical.not_not, e0, e127] at z
    rw [d.2.2.2, show (60 : Int32) = nI 60 from rfl, n_eq (by omega) (by omega)]
    refine ⟨fun z2 => ⟨m + 7, F.tx.1, F.tx.2.1, by rw [F.tx.2.2]; exact vpn (by omega) (by omega), ?_⟩, fun z2 => o_thr F d (h2 z z2)⟩
    rw [mI_setA, d.2.2.2, i_cl len (by omega), nI_1]
    have e : mI (setI (setA M (m + 7) (upd (mA M (m + 7)) len u)) 16 m (nI (len + 1))) 16 m = nI (len + 1) := by rw [mI_setI, if_pos ⟨rfl, rfl⟩]
    rw [e]
    have f : FrM m [m + 7] [16] M (setI (setA M (m + 7) (upd (mA M (m + 7)) len u)) 16 m (nI (len + 1))) := ((Fr.setA M (m + 7) (upd (mA M (m + 7)) len u)).toM m [16]).trans ((FrM.setI _ 16 m _).mono (by simp) (by simp))
    have d1 : MdI (setI (setA M (m + 7) (upd (mA M (m + 7)) len u)) 16 m (nI (len + 1))) m g sk n (upd tx len u) (len + 1) := by
      refine ⟨d.1.frM f (by simp), d.2.1.frM f (by simp) (by simp), fun i hi => ?_, e⟩
      rw [mA_setI, mA_same, upd_at, upd_at, d.2.2.1 i hi]
    have g1 : FrO m M _ := f.toO (by simp)
    exact o_fine F d1 (fun M2 f2 d2 e2 => hQ z (by omega) M2 (g1.trans f2) d2 e2)
  · rw [bI_0, e0, e127] at z; exact z
theorem o_clr {Q : Int32 → MM → Prop} (F : ModAt Z m) (d : MdI M m g sk n tx len) (hQ : ∀ M1, FrO m M M1 → MdI M1 m g sk n tx 0 → mI M1 15 m = 0 → Q (nI len) M1) : P_X6_clearText Z M m Q := by
  unfold P_X6_clearText B_X6_clearText_0
  refine ⟨F.1, ?_⟩
  rw [d.2.2.2]
  have f : FrM m [] [16] M (setI M 16 m 0) := FrM.setI M 16 m 0
  have d1 : MdI (setI M 16 m 0) m g sk n tx 0 := ⟨d.1.frM f (by simp), d.2.1.frM f (by simp) (by simp), fun i hi => d.2.2.1 i hi, by rw [mI_setI, if_pos ⟨rfl, rfl⟩]; rfl⟩
  have g1 : FrO m M _ := f.toO (by simp)
  exact o_fine F d1 (fun M2 f2 d2 e2 => hQ M2 (g1.trans f2) d2 e2)
theorem o_parse {Q : Int32 → MM → Prop} (F : ModAt Z m) (d : MdI M m g sk n tx len) (hl : len ≤ 60) (hbad : (rdS tx len len 0 0 1 0).1 ≠ -1 → ∀ M1, FrO m M M1 → MdI M1 m g sk n tx len → mI M1 15 m = 0 → Q (-10 - (rdS tx len len 0 0 1 0).1) M1)
    (hok : (rdS tx len len 0 0 1 0).1 = -1 → ∀ M1, FrO m M M1 → MdI M1 m (parS g tx (rdS tx len len 0 0 1 0).2.1 (rdS tx len len 0 0 1 0).2.2) (pushS sk n g) (pc n) tx len → mI M1 15 m = 0 → Q (gs (parS g tx (rdS tx len len 0 0 1 0).2.1 (rdS tx len len 0 0 1 0).2.2) 4) M1) : P_X6_parse Z M m Q := by
  unfold P_X6_parse B_X6_parse_0
  refine ⟨F.1, mo_fault F hl d.2.2.2 d.2.2.1 (fun M1 f1 hw => ?_)⟩
  obtain ⟨g1, d1⟩ := d.sc f1 (by simp) (by simp)
  refine ⟨fun z => ?_, fun z => o_fine F d1 (fun M2 f2 d2 e2 => hbad z M2 (g1.trans f2) d2 e2)⟩
  have hok := hok z
  have hw := hw z
  have hb := rd_ok (tx := tx) (len := len) len 0 0 1 0 (by omega) (by omega) (by omega) (by omega) (fun _ => by omega) (fun q => by omega) z
  generalize hwd : (rdS tx len len 0 0 1 0).2.1 = u at *
  generalize hhd : (rdS tx len len 0 0 1 0).2.2 = v at *
  obtain ⟨u2, u7, v2, v7⟩ := hb
  have huv : u * v ≤ 49 := wh_lt u7 v7
  unfold P_X6_save B_X6_save_0
  refine mo_save F d1.1 d1.2.1 (fun M2 f2 s2 => ?_)
  have d2 : MdI M2 m g (pushS sk n g) (pc n) tx len := ⟨d1.1.frM f2 (by simp), s2, by rw [f2.1 _ (by simp)]; exact d1.2.2.1, by rw [f2.2.1 _ _ (Or.inr (by simp))]; exact d1.2.2.2⟩
  have g2 : FrO m M1 M2 := f2.toO (by simp)
  have e17 : mI M2 17 m = nI u := by rw [f2.2.1 _ _ (Or.inr (by simp))]; exact hw.1
  have e18 : mI M2 18 m = nI v := by rw [f2.2.1 _ _ (Or.inr (by simp))]; exact hw.2
  rw [e17, e18]
  refine mo_makes F d2.1 u7 v7 (fun M3 f3 t3 => ⟨u * v + 1, ?_⟩)
  obtain ⟨g3, d3⟩ := d2.alF f3 t3 (by simp)
  have w3 : WH (begS g u v) u v := ⟨rfl, rfl, u2, u7, v2, v7⟩
  have e173 : mI M3 17 m = nI u := by rw [f3.2.1 _ _ (by simp)]; exact e17
  refine for_up (u * v) (fun k i M' => L_X6_parse_37 Z Q k M' m (nI i)) (fun i M' => FrO m M M' ∧ MdI M' m (addsS (begS g u v) (fun c => tx (c + c / u) - 48) i) (pushS sk n g) (pc n) tx len ∧ mI M' 17 m = nI u) ?_ ?_ (u * v) 0 M3 (by omega) ⟨(g1.trans g2).trans g3, d3, e173⟩
  · intro k i M' hi ⟨fO, dd, e⟩ kk
    have w' := w3.adds (fun c => tx (c + c / u) - 48) i
    have hiu := row_lt hi
    have hiz := Nat.zero_le (i / u)
    show B_X6_parse_37 Z Q (L_X6_parse_37 Z Q k) M' m (nI i)
    unfold B_X6_parse_37
    refine ⟨F.1, (mo_cells F dd.1 w').mpr ⟨fun q => absurd q ?_, fun _ => ?_⟩⟩
    · rw [n_le (by omega) (by omega)]; omega
    rw [e, n_div (by omega) (by omega) (by omega), nI_add]
    refine ⟨m + 7, F.tx.1, ?_, F.tx.2.1, by rw [F.tx.2.2]; exact vpn (by omega) (by omega), ?_⟩
    · rw [show (0 : Int32) = nI 0 from rfl, n_eq (by omega) (by omega)]; omega
    rw [i_cl (i + i / u) (by omega), dd.2.2.1 _ (by omega)]
    refine mo_puts F dd.1 (by omega) (fun M4 f4 t4 => ?_)
    obtain ⟨g4, d4⟩ := dd.alF f4 t4 (by simp)
    rw [nI_1]
    exact kk M4 ⟨fO.trans g4, d4, by rw [f4.2.1 _ _ (by simp)]; exact e⟩
  · intro k M' ⟨fO, dd, e⟩
    have w' := w3.adds (fun c => tx (c + c / u) - 48) (u * v)
    show B_X6_parse_37 Z Q (L_X6_parse_37 Z Q k) M' m (nI (u * v))
    unfold B_X6_parse_37
    have v4 : vp_in 4 (zN Z (m + 1)) := by rw [F.all.2.2]; exact vp0.2.2.2
    have e4 : mA M' (m + 1) (4 : Int32).toNatClampNeg = gs (addsS (begS g u v) (fun c => tx (c + c / u) - 48) (u * v)) 4 := dd.1.s (k := 4) (by omega)
    refine ⟨F.1, (mo_cells F dd.1 w').mpr ⟨fun _ => ⟨m + 1, F.all.1, F.all.2.1, v4, ?_⟩, fun q => absurd (nI_le (Nat.le_refl _) (by omega)) q⟩⟩
    rw [e4]
    exact o_fine F dd (fun M2 f2 d2 e2 => hok M2 (fO.trans f2) d2 e2)
theorem o_undo {Q : Int32 → MM → Prop} (F : ModAt Z m) (d : MdI M m g sk n tx len) (h1 : n = 0 → ∀ r M1, FrO m M M1 → MdI M1 m g sk n tx len → mI M1 15 m = 1 → Q r M1)
    (hQ : 0 < n → ∀ M1, FrO m M M1 → MdI M1 m (sk (n - 1)) sk (n - 1) tx len → mI M1 15 m = 0 → Q (nI (n - 1)) M1) : P_X6_undo Z M m Q := by
  obtain ⟨s1, s2, s3⟩ := d.2.1
  unfold P_X6_undo B_X6_undo_0
  rw [s1, show (0 : Int32) = nI 0 from rfl, n_eq (by omega) (by omega)]
  refine ⟨F.1, fun z => ⟨227, ?_⟩, fun z => o_thr F d (h1 z)⟩
  have ez : nI n - 1 = nI (n - 1) := by rw [show (1 : Int32) = nI 1 from rfl, n_sub (by omega)]
  rw [ez]
  have f0 : FrM m [m + 1] [14] M (setI M 14 m (nI (n - 1))) := (FrM.setI M 14 m _).mono (by simp) (by simp)
  refine for_up 226 (fun k i M' => L_X6_undo_25 Z Q k M' m (nI i)) (fun i M' => FrM m [m + 1] [14] M M' ∧ mI M' 14 m = nI (n - 1) ∧ ∀ k, k < i → mA M' (m + 1) k = enc (sk (n - 1)) k) ?_ ?_ 226 0 _ rfl ⟨f0, by rw [mI_setI, if_pos ⟨rfl, rfl⟩], fun k hk => by omega⟩
  · intro k i M' hi ⟨f, e, I⟩ kk
    show B_X6_undo_25 Z Q (L_X6_undo_25 Z Q k) M' m (nI i)
    unfold B_X6_undo_25
    have ei : (226 : Int32) * nI (n - 1) + nI i = nI (226 * (n - 1) + i) := by
      rw [show (226 : Int32) = nI 226 from rfl, n_mul, nI_add]
    rw [e, ei]
    refine ⟨fun q => absurd q ?_, fun _ => ⟨F.1, m + 1, F.all.1, m + 2, F.sv.1, F.sv.2.1, by rw [F.sv.2.2]; exact vpn (by omega) (by omega), F.all.2.1, by rw [F.all.2.2]; exact vpn hi (by omega), ?_⟩⟩
    · rw [show (226 : Int32) = nI 226 from rfl, n_le (by omega) (by omega)]; omega
    rw [i_cl i (by omega), i_cl (226 * (n - 1) + i) (by omega), nI_1, f.1 (m + 2) (by simp), s3 (n - 1) (by omega) i hi]
    refine kk _ ⟨f.trans (((Fr.setA M' (m + 1) _).toM m [14]).mono (by simp) (by simp)), e, fun j hj => ?_⟩
    rw [mA_same, upd_at]
    by_cases q : j = i
    · rw [if_pos q, q]
    · rw [if_neg q]; exact I j (by omega)
  · intro k M' ⟨f, e, I⟩
    show B_X6_undo_25 Z Q (L_X6_undo_25 Z Q k) M' m (nI 226)
    unfold B_X6_undo_25
    rw [e]
    have d1 : MdI M' m (sk (n - 1)) sk (n - 1) tx len := by
      refine ⟨fun k hk => I k hk, ⟨e, by omega, fun i hi k hk => ?_⟩, fun i hi => ?_, ?_⟩
      · rw [f.1 _ (by simp)]; exact s3 i (by omega) k hk
      · rw [f.1 _ (by simp)]; exact d.2.2.1 i hi
      · rw [f.2.1 _ _ (Or.inr (by simp))]; exact d.2.2.2
    have g1 : FrO m M M' := f.toO (by simp)
    exact ⟨fun _ => ⟨F.1, o_fine F d1 (fun M2 f2 d2 e2 => hQ (by omega) M2 (g1.trans f2) d2 e2)⟩, fun q => absurd (by decide) q⟩
theorem fp_nan {a : UInt64} (h : Jvm.FP.Core.dIsNaN a = false) : vf_n64 a := by
  have h1 := mt (Jvm.FP.Core.isNaN_bits a).mpr (by rw [h]; decide)
  unfold vf_n64
  rw [UInt64.le_iff_toNat_le, UInt64.toNat_and]
  have e : (0x7fffffffffffffff : UInt64).toNat = 2 ^ 63 - 1 := by decide
  have e2 : (0x7ff0000000000000 : UInt64).toNat = 9218868437227405312 := by decide
  rw [e, e2, Nat.and_two_pow_sub_one_eq_mod]
  omega
theorem fp_no (x : Int32) {y : Int32} (h : y ≠ 0) : Jvm.FP.Core.dIsNaN (FP.ddiv (FP.i2d x) (FP.i2d y)) = false := by
  have hx : Jvm.FP.Core.dIsNaN (FP.i2d x) = false := by
    have h1 := (Jvm.FP.Core.fin_bits _).1 (Jvm.FP.Core.i2d_fin x)
    exact Bool.eq_false_iff.mpr (fun q => by
      have := (Jvm.FP.Core.isNaN_bits _).1 q
      have e : FP.i2d x = Jvm.FP.Core.i2d x := rfl
      rw [e] at this
      omega)
  exact Jvm.FP.Core.ddiv_out hx (Jvm.FP.Core.i2d_fin y) (fun q => Jvm.FP.Core.i2d_ne_zero h ((Jvm.FP.Core.zero_bits2 _).1 q))
noncomputable def hvG (g : GG) : UInt64 := if gs g 4 = 0 then FP.dconst0 else FP.ddiv (FP.i2d (gs g 6)) (FP.i2d (gs g 4))
theorem hv_self (g : GG) : Op.cmpValue (FP.dcmp (hvG g) (hvG g)) .l = 0 := by
  have : Jvm.FP.Core.dIsNaN (hvG g) = false := by
    unfold hvG
    by_cases e : gs g 4 = 0
    · rw [if_pos e]; decide
    · rw [if_neg e]; exact fp_no _ e
  have h : FP.dcmp (hvG g) (hvG g) = some .eq := Jvm.FP.Core.dcmp_self ((Jvm.FP.Core.notNaN_iff _).1 this)
  rw [h]; rfl
theorem o_harvest {Q : UInt64 → MM → Prop} (F : ModAt Z m) (d : MdI M m g sk n tx len) (hQ : ∀ M1, FrO m M M1 → MdI M1 m g sk n tx len → mI M1 15 m = 0 → Q (hvG g) M1) : P_X6_harvest Z M m Q := by
  obtain ⟨g1, d1, e1⟩ := d.th 0
  have hQ := hQ _ g1 d1 e1
  have v4 : vp_in 4 (zN Z (m + 1)) := by rw [F.all.2.2]; exact vp0.2.2.2
  have v5 : vp_in 5 (zN Z (m + 1)) := by rw [F.all.2.2]; exact vpn (k := 5) (by omega) (by omega)
  have e4 : mA (setI M 15 m 0) (m + 1) (4 : Int32).toNatClampNeg = gs g 4 := d1.1.s (k := 4) (by omega)
  have e5 : mA (setI M 15 m 0) (m + 1) (5 : Int32).toNatClampNeg = gs g 6 := d1.1.s (k := 5) (by omega)
  unfold P_X6_harvest B_X6_harvest_0
  refine ⟨F.1, m + 1, F.all.1, F.all.2.1, v5, v4, v4, ?_⟩
  rw [e4, e5]
  unfold hvG at hQ
  refine ⟨fun z => ?_, fun z => ?_⟩
  · rw [if_neg z] at hQ
    exact ⟨fp_nan (fp_no _ z), hQ⟩
  · rw [if_pos z] at hQ
    exact hQ
theorem c_harvest {a ns : Nat} {Q : UInt64 → MM → Prop} (F : FieldAt Z a) (c : ClsI M a g sk n ns tx len) (hQ : Q (hvG g) M) : P_X5_harvest Z M a Q := by
  unfold P_X5_harvest B_X5_harvest_0
  refine ⟨F.1.1, a + 1, F.1.2.1, F.2.1.1.1, ?_⟩
  rw [c.1.1 4 (by omega), c.1.1 6 (by omega)]
  unfold hvG at hQ
  refine ⟨fun z => ?_, fun z => ?_⟩
  · rw [if_neg z] at hQ
    exact ⟨fp_nan (fp_no _ z), hQ⟩
  · rw [if_pos z] at hQ
    exact hQ
end
