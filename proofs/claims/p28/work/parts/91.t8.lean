/-! PURE: the calls of one object, beside another one -/
def Own (M : MM) (x : Nat) (g : GG) : Prop := ∃ sk n ns tx len, ClsI M x g sk n ns tx len
def Dj (x y : Nat) : Prop := x + 77 ≤ y ∨ y + 77 ≤ x
section
variable {Z : ZZ} {M : MM} {x y : Nat} {g g1 h : GG} {W H T : Nat} {X : String → MM → Prop} {Q : Int32 → MM → Prop}
theorem OkG.tb (o : OkG g W H T) : ∃ tb, gs g 7 = nI tb ∧ tb ≤ T := o.2.2.2
theorem q_value {k : Nat} (F : FieldAt Z x) (d : Dj x y) (w : WH g W H) (A : Own M x g) (B : Own M y h) (hk : k < 14) (hQ : ∀ M1, Own M1 x g → Own M1 y h → Q (ffS W H g k) M1) : P_X5_value Z M x (nI k) Q X := by
  obtain ⟨sk, n, ns, tx, len, c⟩ := A
  obtain ⟨sk2, n2, ns2, tx2, len2, e⟩ := B
  exact c_value F c w hk (fun M1 f c1 => hQ M1 ⟨_, _, _, _, _, c1⟩ ⟨_, _, _, _, _, e.oth f d⟩)
theorem q_cell {c k : Nat} (F : FieldAt Z x) (d : Dj x y) (w : WH g W H) (A : Own M x g) (B : Own M y h) (hc : c < W * H) (hk : k < 7) (hQ : ∀ M1, Own M1 x g → Own M1 y h → Q (cfS W H g c k) M1) : P_X5_cell Z M x (nI c) (nI k) Q X := by
  obtain ⟨sk, n, ns, tx, len, c⟩ := A
  obtain ⟨sk2, n2, ns2, tx2, len2, e⟩ := B
  exact c_cell F c w hc hk (fun M1 f c1 => hQ M1 ⟨_, _, _, _, _, c1⟩ ⟨_, _, _, _, _, e.oth f d⟩)
theorem q_block {c k : Nat} (F : FieldAt Z x) (d : Dj x y) (w : WH g W H) (A : Own M x g) (B : Own M y h) (hc : c < W * H) (hk : k < 5) (hQ : ∀ M1, Own M1 x g → Own M1 y h → Q (bfS W H g (lbG W H g c) k) M1) : P_X5_block Z M x (nI c) (nI k) Q X := by
  obtain ⟨sk, n, ns, tx, len, c⟩ := A
  obtain ⟨sk2, n2, ns2, tx2, len2, e⟩ := B
  exact c_block F c w hc hk (fun M1 f c1 => hQ M1 ⟨_, _, _, _, _, c1⟩ ⟨_, _, _, _, _, e.oth f d⟩)
theorem q_takable {k : Nat} (F : FieldAt Z x) (d : Dj x y) (o : OkG g W H T) (hT : T < 900000) (A : Own M x g) (B : Own M y h) (t : TkR W H k g g1) (hk : k ≤ 49) (hQ : ∀ M1, Own M1 x g → Own M1 y h → Q (nI k) M1) : P_X5_takable Z M x Q := by
  obtain ⟨sk, n, ns, tx, len, c⟩ := A
  obtain ⟨sk2, n2, ns2, tx2, len2, e⟩ := B
  obtain ⟨tb, t1, t2⟩ := o.tb
  exact c_takable F c o.1 t hk t1 (by omega) (fun M1 f c1 => hQ M1 ⟨_, _, _, _, _, c1⟩ ⟨_, _, _, _, _, e.oth f d⟩)
theorem q_left {k : Nat} (F : FieldAt Z x) (d : Dj x y) (o : OkG g W H T) (hT : T < 900000) (A : Own M x g) (B : Own M y h) (t : TkR W H k g g1) (hk : k ≤ 49) (hQ : ∀ M1, Own M1 x g → Own M1 y h → Q (nI (cnP (looG W H g1) 49)) M1) : P_X5_leftStranded Z M x Q := by
  obtain ⟨sk, n, ns, tx, len, c⟩ := A
  obtain ⟨sk2, n2, ns2, tx2, len2, e⟩ := B
  obtain ⟨tb, t1, t2⟩ := o.tb
  exact c_leftStr F c o.1 t hk t1 (by omega) (fun M1 f c1 => hQ M1 ⟨_, _, _, _, _, c1⟩ ⟨_, _, _, _, _, e.oth f d⟩)
theorem q_dtw (F : FieldAt Z x) (d : Dj x y) (w : WH g W H) (A : Own M x g) (B : Own M y h) (hQ : ∀ M1 r, DtwV W H g r → Own M1 x g → Own M1 y h → Q r M1) : P_X5_daysToWater Z M x Q := by
  obtain ⟨sk, n, ns, tx, len, c⟩ := A
  obtain ⟨sk2, n2, ns2, tx2, len2, e⟩ := B
  exact c_dtw F c w (fun M1 k f c1 hk z nz => hQ M1 _ (Or.inl ⟨k, by omega, hk, rfl, z, fun j _ hj => nz j hj⟩) ⟨_, _, _, _, _, c1⟩ ⟨_, _, _, _, _, e.oth f d⟩) (fun M1 f c1 nz => hQ M1 _ (Or.inr ⟨rfl, fun j _ hj => nz j hj⟩) ⟨_, _, _, _, _, c1⟩ ⟨_, _, _, _, _, e.oth f d⟩)
theorem q_dw {c : Nat} (F : FieldAt Z x) (d : Dj x y) (w : WH g W H) (A : Own M x g) (B : Own M y h) (hc : c < W * H) (hQ : ∀ M1 r, DwV W H g c r → Own M1 x g → Own M1 y h → Q r M1) : P_X5_daysWhole Z M x (nI c) Q X := by
  obtain ⟨sk, n, ns, tx, len, k⟩ := A
  obtain ⟨sk2, n2, ns2, tx2, len2, e⟩ := B
  refine c_dw F k w hc (fun nl M1 f c1 => hQ M1 _ (Or.inl ⟨nl, rfl⟩) ⟨_, _, _, _, _, c1⟩ ⟨_, _, _, _, _, e.oth f d⟩) (fun r r1 r2 r3 => ⟨fun M1 j f c1 a b z nz => hQ M1 _ (Or.inr ⟨r, r1, r2, r3, Or.inl ⟨j, a, b, rfl, z, nz⟩⟩) ⟨_, _, _, _, _, c1⟩ ⟨_, _, _, _, _, e.oth f d⟩, fun M1 f c1 nz => hQ M1 _ (Or.inr ⟨r, r1, r2, r3, Or.inr ⟨rfl, nz⟩⟩) ⟨_, _, _, _, _, c1⟩ ⟨_, _, _, _, _, e.oth f d⟩⟩)
theorem q_harvest {Q : UInt64 → MM → Prop} (F : FieldAt Z x) (A : Own M x g) (hQ : Q (hvG g) M) : P_X5_harvest Z M x Q := by
  obtain ⟨sk, n, ns, tx, len, c⟩ := A
  exact c_harvest F c hQ
theorem q_make {u v t : Nat} (F : FieldAt Z x) (d : Dj x y) (A : Own M x g) (B : Own M y h) (u2 : 2 ≤ u) (u7 : u ≤ 7) (v2 : 2 ≤ v) (v7 : v ≤ 7) (ht : t ≤ 50) (hQ : ∀ M1, Own M1 x (addsS (begS g u v) (fun _ => nI t) (u * v)) → Own M1 y h → Q (gs (addsS (begS g u v) (fun _ => nI t) (u * v)) 4) M1) : P_X5_make Z M x (nI u) (nI v) (nI t) Q X := by
  obtain ⟨sk, n, ns, tx, len, c⟩ := A
  obtain ⟨sk2, n2, ns2, tx2, len2, e⟩ := B
  refine c_make F c ?_ ⟨u2, u7⟩ ⟨v2, v7⟩ (fun M1 f c1 => hQ M1 ⟨_, _, _, _, _, c1⟩ ⟨_, _, _, _, _, e.oth f d⟩)
  unfold mkC
  rw [i_toInt u (by omega), i_toInt v (by omega), i_toInt t (by omega)]
  omega
theorem q_lay {c u : Nat} (F : FieldAt Z x) (d : Dj x y) (w : WH g W H) (A : Own M x g) (B : Own M y h) (hc : c < W * H) (h1 : 1 ≤ u) (h2 : u ≤ 50) (h3 : gt g c + nI u ≤ 50) (hQ : ∀ M1, Own M1 x (addS g c (nI u)) → Own M1 y h → Q (gt (addS g c (nI u)) c) M1) : P_X5_lay Z M x (nI c) (nI u) Q X := by
  obtain ⟨sk, n, ns, tx, len, k⟩ := A
  obtain ⟨sk2, n2, ns2, tx2, len2, e⟩ := B
  exact c_lay F k w hc (by rw [i_toInt u (by omega)]; omega) h3 (fun M1 f c1 => hQ M1 ⟨_, _, _, _, _, c1⟩ ⟨_, _, _, _, _, e.oth f d⟩)
theorem q_saw {c s : Nat} (F : FieldAt Z x) (d : Dj x y) (w : WH g W H) (A : Own M x g) (B : Own M y h) (hc : c < W * H) (hs : s < 4) (h3 : s = 2 ∨ (bs W H c s).isSome = true) (hQ : ∀ M1, Own M1 x (csS W H g c s).2 → Own M1 y h → Q (csS W H g c s).1 M1) : P_X5_saw Z M x (nI c) (nI s) Q X := by
  obtain ⟨sk, n, ns, tx, len, k⟩ := A
  obtain ⟨sk2, n2, ns2, tx2, len2, e⟩ := B
  exact c_saw F k w hc hs h3 (fun M1 f c1 => hQ M1 ⟨_, _, _, _, _, c1⟩ ⟨_, _, _, _, _, e.oth f d⟩)
theorem isR_n {c u v : Nat} (h1 : 1 ≤ u) (h2 : 1 ≤ v) (hu : c % W + u ≤ W) (hv : c / W + v ≤ H) (hW : W ≤ 7) (hH : H ≤ 7) : isR W H c (nI u) (nI v) := by
  unfold isR
  generalize c / W = p at hv ⊢
  generalize c % W = q at hu ⊢
  rw [i_toInt u (by omega), i_toInt v (by omega)]
  omega
theorem q_sa {c u v : Nat} (F : FieldAt Z x) (d : Dj x y) (w : WH g W H) (A : Own M x g) (B : Own M y h) (hc : c < W * H) (h1 : 1 ≤ u) (h2 : 1 ≤ v) (hu : c % W + u ≤ W) (hv : c / W + v ≤ H) (hQ : ∀ M1, Own M1 x (recS W H g c u v).2 → Own M1 y h → Q (recS W H g c u v).1 M1) : P_X5_sawAround Z M x (nI c) (nI u) (nI v) Q X := by
  obtain ⟨sk, n, ns, tx, len, k⟩ := A
  obtain ⟨sk2, n2, ns2, tx2, len2, e⟩ := B
  exact c_sa F k w hc h1 h2 hu hv (isR_n h1 h2 hu hv w.2.2.2.1 w.2.2.2.2.2) (fun M1 f c1 => hQ M1 ⟨_, _, _, _, _, c1⟩ ⟨_, _, _, _, _, e.oth f d⟩)
theorem q_cuts {c u v : Nat} (F : FieldAt Z x) (d : Dj x y) (w : WH g W H) (A : Own M x g) (B : Own M y h) (hc : c < W * H) (h1 : 1 ≤ u) (h2 : 1 ≤ v) (hu : c % W + u ≤ W) (hv : c / W + v ≤ H) (hQ : ∀ M1, Own M1 x g → Own M1 y h → Q (recS W H g c u v).1 M1) : P_X5_cutsAround Z M x (nI c) (nI u) (nI v) Q X := by
  obtain ⟨sk, n, ns, tx, len, k⟩ := A
  obtain ⟨sk2, n2, ns2, tx2, len2, e⟩ := B
  exact c_cuts F k w hc h1 h2 hu hv (isR_n h1 h2 hu hv w.2.2.2.1 w.2.2.2.2.2) (fun M1 f c1 => hQ M1 ⟨_, _, _, _, _, c1⟩ ⟨_, _, _, _, _, e.oth f d⟩)
theorem q_to {c r : Nat} (F : FieldAt Z x) (d : Dj x y) (o : OkG g W H T) (hT : T < 900000) (A : Own M x g) (B : Own M y h) (hc : c < W * H) (r1 : r < W * H) (r2 : lbG W H g c = nI r) (r3 : flG W H g r) (hQ : ∀ M1, Own M1 x (takG W H g r) → Own M1 y h → Q (volS W H (gt g) (lbG W H g) (nI r)) M1) : P_X5_takeOut Z M x (nI c) Q X := by
  obtain ⟨sk, n, ns, tx, len, k⟩ := A
  obtain ⟨sk2, n2, ns2, tx2, len2, e⟩ := B
  obtain ⟨tb, t1, t2⟩ := o.tb
  have h49 := o.le.2.2.2.2
  refine c_to F k o.1 hc t1 (by omega) (fun q => absurd r3 (q r r1 r2)) (fun s s1 s2 s3 M1 f c1 => ?_)
  rw [r2, n_eq (by omega) (by omega)] at s2
  subst s2
  exact hQ M1 ⟨_, _, _, _, _, c1⟩ ⟨_, _, _, _, _, e.oth f d⟩
theorem q_ta {k : Nat} (F : FieldAt Z x) (d : Dj x y) (o : OkG g W H T) (hT : T < 900000) (A : Own M x g) (B : Own M y h) (t : TkR W H k g g1) (hk : k ≤ 49) (hQ : ∀ M1, Own M1 x g1 → Own M1 y h → Q (nI k) M1) : P_X5_takeAll Z M x Q := by
  obtain ⟨sk, n, ns, tx, len, c⟩ := A
  obtain ⟨sk2, n2, ns2, tx2, len2, e⟩ := B
  obtain ⟨tb, t1, t2⟩ := o.tb
  exact c_ta F c o.1 t hk t1 (by omega) (fun M1 f c1 _ _ => hQ M1 ⟨_, _, _, _, _, c1⟩ ⟨_, _, _, _, _, e.oth f d⟩)
theorem q_sm {u : Nat} (F : FieldAt Z x) (d : Dj x y) (A : Own M x g) (B : Own M y h) (hu : u ≤ 9) (hQ : ∀ M1, Own M1 x (mk (upd (gs g) 2 (nI u)) (gt g) (gc g) (gk g)) → Own M1 y h → Q (gs g 2) M1) : P_X5_setMelt Z M x (nI u) Q X := by
  obtain ⟨sk, n, ns, tx, len, c⟩ := A
  obtain ⟨sk2, n2, ns2, tx2, len2, e⟩ := B
  exact c_sm F c (by rw [i_toInt u (by omega)]; omega) (fun M1 f c1 => hQ M1 ⟨_, _, _, _, _, c1⟩ ⟨_, _, _, _, _, e.oth f d⟩)
theorem q_pass {u : Nat} (F : FieldAt Z x) (d : Dj x y) (w : WH g W H) (A : Own M x g) (B : Own M y h) (h1 : 1 ≤ u) (h2 : u ≤ 50) (hQ : ∀ M1, Own M1 x (dayN W H g u) → Own M1 y h → Q (dsum W H g u) M1) : P_X5_pass Z M x (nI u) Q X := by
  obtain ⟨sk, n, ns, tx, len, c⟩ := A
  obtain ⟨sk2, n2, ns2, tx2, len2, e⟩ := B
  exact c_pass F c w ⟨h1, h2⟩ (fun M1 f c1 => hQ M1 ⟨_, _, _, _, _, c1⟩ ⟨_, _, _, _, _, e.oth f d⟩)
/-! the law's own small methods -/
theorem q_up {v : Int32} {m : Nat} (h0 : 0 < m) (hm : m < 1000) (hQ : ∀ k, k < m → Q (nI k) M) : P_L_up Z M v (nI m) Q := by
  unfold P_L_up B_L_up_0
  have hn : ¬ (v &&& 2147483647) < 0 := by
    rw [i_lt, ← Int32.toInt_toBitVec, ← Int32.toInt_toBitVec]
    have e : (v &&& 2147483647).toBitVec = v.toBitVec &&& 2147483647#32 := rfl
    rw [e]
    have : (v.toBitVec &&& 2147483647#32).msb = false := by
      rw [BitVec.msb_and]
      have : (2147483647#32).msb = false := by decide
      rw [this, Bool.and_false]
    have k := BitVec.toInt_nonneg_of_msb_false this
    have z : (0 : Int32).toBitVec.toInt = 0 := by decide
    omega
  obtain ⟨j, hj, e⟩ := nI_of hn
  rw [e, pk_rem hj h0 (by omega)]
  exact ⟨nI_ne0 h0 (by omega), hQ _ (Nat.mod_lt _ h0)⟩
theorem q_turned {c : Nat} (hW : W ≤ 7) (h0 : 0 < W) (hc : c < 49) (hQ : Q (nI (tau W c)) M) : P_L_turned Z M (nI c) (nI W) Q := by
  unfold P_L_turned B_L_turned_0
  have hm := Nat.mod_lt c h0
  have hl := Nat.mod_le c W
  have e : nI c - (nI (c % W)) + nI W - 1 - nI (c % W) = nI (tau W c) := by
    rw [n_sub hl, nI_add, show (1 : Int32) = nI 1 from rfl, n_sub (by omega), n_sub (by omega)]
    congr 1
    unfold tau
    omega
  rw [n_mod (by omega) (by omega) h0]
  exact ⟨nI_ne0 h0 (by omega), nI_ne0 h0 (by omega), by rw [e]; exact hQ⟩
theorem and3 (v : Int32) : ∃ s, s < 4 ∧ v &&& 3 = nI s := by
  have e : (v &&& 3).toBitVec = v.toBitVec &&& 3#32 := rfl
  have h2 : (v.toBitVec &&& 3#32).toNat < 4 := by
    rw [BitVec.toNat_and]
    have : v.toBitVec.toNat &&& (3#32).toNat ≤ (3#32).toNat := Nat.and_le_right
    have z : (3#32).toNat = 3 := rfl
    omega
  refine ⟨(v.toBitVec &&& 3#32).toNat, h2, ?_⟩
  apply Int32.toBitVec_inj.mp
  rw [e]
  show _ = BitVec.ofNat 32 (v.toBitVec &&& 3#32).toNat
  rw [BitVec.ofNat_toNat, BitVec.setWidth_eq]
end
