variable {p : Program} {l : Launch} {e : Env} {s : State} {m : MethodId} {args : Array Value} {below : List Frame} {meth : Method} {c : Code} {E : EE} {Z : ZZ}
set_option maxRecDepth 100000 in
set_option maxHeartbeats 4000000 in
theorem wB_X1_copyFrom_0 (S : Cx p m c meth cX1_copyFrom 2 s args RX1 (none)) {Q : MM → Prop}   (M : MM) (a0 : Nat) (a1 : Nat) (h : B_X1_copyFrom_0 Z Q  M a0 a1) : WG p l e rm_X1_copyFrom s m args below meth c 0 0 (MQv below E Z args s Q) E Z M 0 2 [(0, .ref a0), (1, .ref a1)] [] := by
  intro H locs ls hw hl
  have hx := S.1.1
  have hb := S.1.2.1
  refine lv_aload_n hx hb dX1_copyFrom_0 rfl (lv_at hl 0 rfl) ?_
  refine lv_aload_n hx hb dX1_copyFrom_1 rfl (lv_at hl 1 rfl) ?_
  obtain ⟨k_0, h⟩ := h
  refine gf_X1_11 S.1 hw k_0 dX1_copyFrom_2 ?_
  obtain ⟨k_1, h⟩ := h
  refine pf_X1_11 S.1 hw k_1 dX1_copyFrom_5 (fun H locs hw => ?_)
  refine lv_aload_n hx hb dX1_copyFrom_8 rfl (lv_at hl 0 rfl) ?_
  refine lv_aload_n hx hb dX1_copyFrom_9 rfl (lv_at hl 1 rfl) ?_
  refine gf_X1_15 S.1 hw k_0 dX1_copyFrom_10 ?_
  refine pf_X1_15 S.1 hw k_1 dX1_copyFrom_13 (fun H locs hw => ?_)
  refine lv_aload_n hx hb dX1_copyFrom_16 rfl (lv_at hl 0 rfl) ?_
  refine lv_aload_n hx hb dX1_copyFrom_17 rfl (lv_at hl 1 rfl) ?_
  refine gf_X1_18 S.1 hw k_0 dX1_copyFrom_18 ?_
  refine pf_X1_18 S.1 hw k_1 dX1_copyFrom_21 (fun H locs hw => ?_)
  refine lv_aload_n hx hb dX1_copyFrom_24 rfl (lv_at hl 0 rfl) ?_
  refine lv_aload_n hx hb dX1_copyFrom_25 rfl (lv_at hl 1 rfl) ?_
  refine gf_X1_21 S.1 hw k_0 dX1_copyFrom_26 ?_
  refine pf_X1_21 S.1 hw k_1 dX1_copyFrom_29 (fun H locs hw => ?_)
  refine lv_aload_n hx hb dX1_copyFrom_32 rfl (lv_at hl 0 rfl) ?_
  refine lv_aload_n hx hb dX1_copyFrom_33 rfl (lv_at hl 1 rfl) ?_
  refine gf_X1_24 S.1 hw k_0 dX1_copyFrom_34 ?_
  refine pf_X1_24 S.1 hw k_1 dX1_copyFrom_37 (fun H locs hw => ?_)
  refine lv_aload_n hx hb dX1_copyFrom_40 rfl (lv_at hl 0 rfl) ?_
  refine lv_aload_n hx hb dX1_copyFrom_41 rfl (lv_at hl 1 rfl) ?_
  refine gf_X1_27 S.1 hw k_0 dX1_copyFrom_42 ?_
  refine pf_X1_27 S.1 hw k_1 dX1_copyFrom_45 (fun H locs hw => ?_)
  refine lv_aload_n hx hb dX1_copyFrom_48 rfl (lv_at hl 0 rfl) ?_
  refine lv_aload_n hx hb dX1_copyFrom_49 rfl (lv_at hl 1 rfl) ?_
  refine gf_X1_30 S.1 hw k_0 dX1_copyFrom_50 ?_
  refine pf_X1_30 S.1 hw k_1 dX1_copyFrom_53 (fun H locs hw => ?_)
  refine lv_aload_n hx hb dX1_copyFrom_56 rfl (lv_at hl 0 rfl) ?_
  refine lv_aload_n hx hb dX1_copyFrom_57 rfl (lv_at hl 1 rfl) ?_
  refine gf_X1_33 S.1 hw k_0 dX1_copyFrom_58 ?_
  refine pf_X1_33 S.1 hw k_1 dX1_copyFrom_61 (fun H locs hw => ?_)
  refine lv_aload_n hx hb dX1_copyFrom_64 rfl (lv_at hl 0 rfl) ?_
  obtain ⟨y65_2, hy_2, h⟩ := h
  refine gf_X1_41 S.1 hw k_1 hy_2 dX1_copyFrom_65 ?_
  refine lv_aload_n hx hb dX1_copyFrom_68 rfl (lv_at hl 1 rfl) ?_
  obtain ⟨y69_3, hy_3, h⟩ := h
  refine gf_X1_41 S.1 hw k_0 hy_3 dX1_copyFrom_69 ?_
  obtain ⟨k_4, h⟩ := h
  refine cv_v (As := [.ref y69_3]) (rest := []) S.1 hw (k_X2_copyFrom l E Z (setI (setI (setI (setI (setI (setI (setI (setI M 0 a0 (mI M 0 a1)) 1 a0 (mI (setI M 0 a0 (mI M 0 a1)) 1 a1)) 2 a0 (mI (setI (setI M 0 a0 (mI M 0 a1)) 1 a0 (mI (setI M 0 a0 (mI M 0 a1)) 1 a1)) 2 a1)) 3 a0 (mI (setI (setI (setI M 0 a0 (mI M 0 a1)) 1 a0 (mI (setI M 0 a0 (mI M 0 a1)) 1 a1)) 2 a0 (mI (setI (setI M 0 a0 (mI M 0 a1)) 1 a0 (mI (setI M 0 a0 (mI M 0 a1)) 1 a1)) 2 a1)) 3 a1)) 4 a0 (mI (setI (setI (setI (setI M 0 a0 (mI M 0 a1)) 1 a0 (mI (setI M 0 a0 (mI M 0 a1)) 1 a1)) 2 a0 (mI (setI (setI M 0 a0 (mI M 0 a1)) 1 a0 (mI (setI M 0 a0 (mI M 0 a1)) 1 a1)) 2 a1)) 3 a0 (mI (setI (setI (setI M 0 a0 (mI M 0 a1)) 1 a0 (mI (setI M 0 a0 (mI M 0 a1)) 1 a1)) 2 a0 (mI (setI (setI M 0 a0 (mI M 0 a1)) 1 a0 (mI (setI M 0 a0 (mI M 0 a1)) 1 a1)) 2 a1)) 3 a1)) 4 a1)) 5 a0 (mI (setI (setI (setI (setI (setI M 0 a0 (mI M 0 a1)) 1 a0 (mI (setI M 0 a0 (mI M 0 a1)) 1 a1)) 2 a0 (mI (setI (setI M 0 a0 (mI M 0 a1)) 1 a0 (mI (setI M 0 a0 (mI M 0 a1)) 1 a1)) 2 a1)) 3 a0 (mI (setI (setI (setI M 0 a0 (mI M 0 a1)) 1 a0 (mI (setI M 0 a0 (mI M 0 a1)) 1 a1)) 2 a0 (mI (setI (setI M 0 a0 (mI M 0 a1)) 1 a0 (mI (setI M 0 a0 (mI M 0 a1)) 1 a1)) 2 a1)) 3 a1)) 4 a0 (mI (setI (setI (setI (setI M 0 a0 (mI M 0 a1)) 1 a0 (mI (setI M 0 a0 (mI M 0 a1)) 1 a1)) 2 a0 (mI (setI (setI M 0 a0 (mI M 0 a1)) 1 a0 (mI (setI M 0 a0 (mI M 0 a1)) 1 a1)) 2 a1)) 3 a0 (mI (setI (setI (setI M 0 a0 (mI M 0 a1)) 1 a0 (mI (setI M 0 a0 (mI M 0 a1)) 1 a1)) 2 a0 (mI (setI (setI M 0 a0 (mI M 0 a1)) 1 a0 (mI (setI M 0 a0 (mI M 0 a1)) 1 a1)) 2 a1)) 3 a1)) 4 a1)) 5 a1)) 6 a0 (mI (setI (setI (setI (setI (setI (setI M 0 a0 (mI M 0 a1)) 1 a0 (mI (setI M 0 a0 (mI M 0 a1)) 1 a1)) 2 a0 (mI (setI (setI M 0 a0 (mI M 0 a1)) 1 a0 (mI (setI M 0 a0 (mI M 0 a1)) 1 a1)) 2 a1)) 3 a0 (mI (setI (setI (setI M 0 a0 (mI M 0 a1)) 1 a0 (mI (setI M 0 a0 (mI M 0 a1)) 1 a1)) 2 a0 (mI (setI (setI M 0 a0 (mI M 0 a1)) 1 a0 (mI (setI M 0 a0 (mI M 0 a1)) 1 a1)) 2 a1)) 3 a1)) 4 a0 (mI (setI (setI (setI (setI M 0 a0 (mI M 0 a1)) 1 a0 (mI (setI M 0 a0 (mI M 0 a1)) 1 a1)) 2 a0 (mI (setI (setI M 0 a0 (mI M 0 a1)) 1 a0 (mI (setI M 0 a0 (mI M 0 a1)) 1 a1)) 2 a1)) 3 a0 (mI (setI (setI (setI M 0 a0 (mI M 0 a1)) 1 a0 (mI (setI M 0 a0 (mI M 0 a1)) 1 a1)) 2 a0 (mI (setI (setI M 0 a0 (mI M 0 a1)) 1 a0 (mI (setI M 0 a0 (mI M 0 a1)) 1 a1)) 2 a1)) 3 a1)) 4 a1)) 5 a0 (mI (setI (setI (setI (setI (setI M 0 a0 (mI M 0 a1)) 1 a0 (mI (setI M 0 a0 (mI M 0 a1)) 1 a1)) 2 a0 (mI (setI (setI M 0 a0 (mI M 0 a1)) 1 a0 (mI (setI M 0 a0 (mI M 0 a1)) 1 a1)) 2 a1)) 3 a0 (mI (setI (setI (setI M 0 a0 (mI M 0 a1)) 1 a0 (mI (setI M 0 a0 (mI M 0 a1)) 1 a1)) 2 a0 (mI (setI (setI M 0 a0 (mI M 0 a1)) 1 a0 (mI (setI M 0 a0 (mI M 0 a1)) 1 a1)) 2 a1)) 3 a1)) 4 a0 (mI (setI (setI (setI (setI M 0 a0 (mI M 0 a1)) 1 a0 (mI (setI M 0 a0 (mI M 0 a1)) 1 a1)) 2 a0 (mI (setI (setI M 0 a0 (mI M 0 a1)) 1 a0 (mI (setI M 0 a0 (mI M 0 a1)) 1 a1)) 2 a1)) 3 a0 (mI (setI (setI (setI M 0 a0 (mI M 0 a1)) 1 a0 (mI (setI M 0 a0 (mI M 0 a1)) 1 a1)) 2 a0 (mI (setI (setI M 0 a0 (mI M 0 a1)) 1 a0 (mI (setI M 0 a0 (mI M 0 a1)) 1 a1)) 2 a1)) 3 a1)) 4 a1)) 5 a1)) 6 a1)) 7 a0 (mI (setI (setI (setI (setI (setI (setI (setI M 0 a0 (mI M 0 a1)) 1 a0 (mI (setI M 0 a0 (mI M 0 a1)) 1 a1)) 2 a0 (mI (setI (setI M 0 a0 (mI M 0 a1)) 1 a0 (mI (setI M 0 a0 (mI M 0 a1)) 1 a1)) 2 a1)) 3 a0 (mI (setI (setI (setI M 0 a0 (mI M 0 a1)) 1 a0 (mI (setI M 0 a0 (mI M 0 a1)) 1 a1)) 2 a0 (mI (setI (setI M 0 a0 (mI M 0 a1)) 1 a0 (mI (setI M 0 a0 (mI M 0 a1)) 1 a1)) 2 a1)) 3 a1)) 4 a0 (mI (setI (setI (setI (setI M 0 a0 (mI M 0 a1)) 1 a0 (mI (setI M 0 a0 (mI M 0 a1)) 1 a1)) 2 a0 (mI (setI (setI M 0 a0 (mI M 0 a1)) 1 a0 (mI (setI M 0 a0 (mI M 0 a1)) 1 a1)) 2 a1)) 3 a0 (mI (setI (setI (setI M 0 a0 (mI M 0 a1)) 1 a0 (mI (setI M 0 a0 (mI M 0 a1)) 1 a1)) 2 a0 (mI (setI (setI M 0 a0 (mI M 0 a1)) 1 a0 (mI (setI M 0 a0 (mI M 0 a1)) 1 a1)) 2 a1)) 3 a1)) 4 a1)) 5 a0 (mI (setI (setI (setI (setI (setI M 0 a0 (mI M 0 a1)) 1 a0 (mI (setI M 0 a0 (mI M 0 a1)) 1 a1)) 2 a0 (mI (setI (setI M 0 a0 (mI M 0 a1)) 1 a0 (mI (setI M 0 a0 (mI M 0 a1)) 1 a1)) 2 a1)) 3 a0 (mI (setI (setI (setI M 0 a0 (mI M 0 a1)) 1 a0 (mI (setI M 0 a0 (mI M 0 a1)) 1 a1)) 2 a0 (mI (setI (setI M 0 a0 (mI M 0 a1)) 1 a0 (mI (setI M 0 a0 (mI M 0 a1)) 1 a1)) 2 a1)) 3 a1)) 4 a0 (mI (setI (setI (setI (setI M 0 a0 (mI M 0 a1)) 1 a0 (mI (setI M 0 a0 (mI M 0 a1)) 1 a1)) 2 a0 (mI (setI (setI M 0 a0 (mI M 0 a1)) 1 a0 (mI (setI M 0 a0 (mI M 0 a1)) 1 a1)) 2 a1)) 3 a0 (mI (setI (setI (setI M 0 a0 (mI M 0 a1)) 1 a0 (mI (setI M 0 a0 (mI M 0 a1)) 1 a1)) 2 a0 (mI (setI (setI M 0 a0 (mI M 0 a1)) 1 a0 (mI (setI M 0 a0 (mI M 0 a1)) 1 a1)) 2 a1)) 3 a1)) 4 a1)) 5 a1)) 6 a0 (mI (setI (setI (setI (setI (setI (setI M 0 a0 (mI M 0 a1)) 1 a0 (mI (setI M 0 a0 (mI M 0 a1)) 1 a1)) 2 a0 (mI (setI (setI M 0 a0 (mI M 0 a1)) 1 a0 (mI (setI M 0 a0 (mI M 0 a1)) 1 a1)) 2 a1)) 3 a0 (mI (setI (setI (setI M 0 a0 (mI M 0 a1)) 1 a0 (mI (setI M 0 a0 (mI M 0 a1)) 1 a1)) 2 a0 (mI (setI (setI M 0 a0 (mI M 0 a1)) 1 a0 (mI (setI M 0 a0 (mI M 0 a1)) 1 a1)) 2 a1)) 3 a1)) 4 a0 (mI (setI (setI (setI (setI M 0 a0 (mI M 0 a1)) 1 a0 (mI (setI M 0 a0 (mI M 0 a1)) 1 a1)) 2 a0 (mI (setI (setI M 0 a0 (mI M 0 a1)) 1 a0 (mI (setI M 0 a0 (mI M 0 a1)) 1 a1)) 2 a1)) 3 a0 (mI (setI (setI (setI M 0 a0 (mI M 0 a1)) 1 a0 (mI (setI M 0 a0 (mI M 0 a1)) 1 a1)) 2 a0 (mI (setI (setI M 0 a0 (mI M 0 a1)) 1 a0 (mI (setI M 0 a0 (mI M 0 a1)) 1 a1)) 2 a1)) 3 a1)) 4 a1)) 5 a0 (mI (setI (setI (setI (setI (setI M 0 a0 (mI M 0 a1)) 1 a0 (mI (setI M 0 a0 (mI M 0 a1)) 1 a1)) 2 a0 (mI (setI (setI M 0 a0 (mI M 0 a1)) 1 a0 (mI (setI M 0 a0 (mI M 0 a1)) 1 a1)) 2 a1)) 3 a0 (mI (setI (setI (setI M 0 a0 (mI M 0 a1)) 1 a0 (mI (setI M 0 a0 (mI M 0 a1)) 1 a1)) 2 a0 (mI (setI (setI M 0 a0 (mI M 0 a1)) 1 a0 (mI (setI M 0 a0 (mI M 0 a1)) 1 a1)) 2 a1)) 3 a1)) 4 a0 (mI (setI (setI (setI (setI M 0 a0 (mI M 0 a1)) 1 a0 (mI (setI M 0 a0 (mI M 0 a1)) 1 a1)) 2 a0 (mI (setI (setI M 0 a0 (mI M 0 a1)) 1 a0 (mI (setI M 0 a0 (mI M 0 a1)) 1 a1)) 2 a1)) 3 a0 (mI (setI (setI (setI M 0 a0 (mI M 0 a1)) 1 a0 (mI (setI M 0 a0 (mI M 0 a1)) 1 a1)) 2 a0 (mI (setI (setI M 0 a0 (mI M 0 a1)) 1 a0 (mI (setI M 0 a0 (mI M 0 a1)) 1 a1)) 2 a1)) 3 a1)) 4 a1)) 5 a1)) 6 a1)) 7 a1)) y65_2 y69_3 _ h) wv_X1_54 yc_X2_copyFrom ⟨rfl, rfl⟩ ⟨Nat.le_of_ble_eq_true rfl, Nat.le_of_ble_eq_true rfl⟩ rfl hl.1 (Nat.le_of_ble_eq_true rfl) (ci := 2) (q := (RX2, TX2, 1)) rfl rfl (by rw [k_4]; decide) (cell_2 k_4) ⟨Nat.le_of_ble_eq_true rfl, Nat.le_of_ble_eq_true rfl⟩ dX1_copyFrom_72 (fun M72 H locs h hw => ?_)
  refine lv_aload_n hx hb dX1_copyFrom_75 rfl (lv_at hl 0 rfl) ?_
  obtain ⟨y76_5, hy_5, h⟩ := h
  refine gf_X1_45 S.1 hw k_1 hy_5 dX1_copyFrom_76 ?_
  refine lv_aload_n hx hb dX1_copyFrom_79 rfl (lv_at hl 1 rfl) ?_
  obtain ⟨y80_6, hy_6, h⟩ := h
  refine gf_X1_45 S.1 hw k_0 hy_6 dX1_copyFrom_80 ?_
  obtain ⟨k_7, h⟩ := h
  refine cv_v (As := [.ref y80_6]) (rest := []) S.1 hw (k_X2_copyFrom l E Z M72 y76_5 y80_6 _ h) wv_X1_54 yc_X2_copyFrom ⟨rfl, rfl⟩ ⟨Nat.le_of_ble_eq_true rfl, Nat.le_of_ble_eq_true rfl⟩ rfl hl.1 (Nat.le_of_ble_eq_true rfl) (ci := 2) (q := (RX2, TX2, 1)) rfl rfl (by rw [k_7]; decide) (cell_2 k_7) ⟨Nat.le_of_ble_eq_true rfl, Nat.le_of_ble_eq_true rfl⟩ dX1_copyFrom_83 (fun M83 H locs h hw => ?_)
  refine lv_aload_n hx hb dX1_copyFrom_86 rfl (lv_at hl 0 rfl) ?_
  obtain ⟨y87_8, hy_8, h⟩ := h
  refine gf_X1_48 S.1 hw k_1 hy_8 dX1_copyFrom_87 ?_
  refine lv_aload_n hx hb dX1_copyFrom_90 rfl (lv_at hl 1 rfl) ?_
  obtain ⟨y91_9, hy_9, h⟩ := h
  refine gf_X1_48 S.1 hw k_0 hy_9 dX1_copyFrom_91 ?_
  obtain ⟨k_10, h⟩ := h
  refine cv_v (As := [.ref y91_9]) (rest := []) S.1 hw (k_X2_copyFrom l E Z M83 y87_8 y91_9 _ h) wv_X1_54 yc_X2_copyFrom ⟨rfl, rfl⟩ ⟨Nat.le_of_ble_eq_true rfl, Nat.le_of_ble_eq_true rfl⟩ rfl hl.1 (Nat.le_of_ble_eq_true rfl) (ci := 2) (q := (RX2, TX2, 1)) rfl rfl (by rw [k_10]; decide) (cell_2 k_10) ⟨Nat.le_of_ble_eq_true rfl, Nat.le_of_ble_eq_true rfl⟩ dX1_copyFrom_94 (fun M94 H locs h hw => ?_)
  exact we_v S hw h dX1_copyFrom_97
set_option maxRecDepth 100000 in
set_option maxHeartbeats 4000000 in
theorem k_X1_copyFrom (l : Launch) (E : EE) (Z : ZZ) (M : MM) (a0 : Nat) (a1 : Nat) (Q : MM → Prop) (h : P_X1_copyFrom Z M a0 a1 Q) : Ct_v l yX1_copyFrom cX1_copyFrom 2 (none) rm_X1_copyFrom E Z M [.ref a0, .ref a1] Q := by
  refine Met.ofW (cc := cX1_copyFrom) (maxL := 2) (ret := none) (by decide) rfl ?_
  intro p e s m args below meth c s₁ B hml hv
  obtain ⟨rfl, hK, hP, hD, hZ⟩ := hv
  have S : Cx p m c meth cX1_copyFrom 2 s _ RX1 (none) := ⟨⟨B.exec, B.bytes, hml, findClass_of_methodNamed B.named, fun w hw => atoms_spec (ws := ws_ yX1_copyFrom cX1_copyFrom 2 (none)) B.pre w (List.mem_cons_of_mem _ hw)⟩, B.returns, B.notSynchronized⟩
  have hl := lv_entry ([.ref a0, .ref a1]) (n := 2) (Nat.le_of_ble_eq_true rfl)
  rw [lg_entry_eq]
  generalize (lg_sl ([.ref a0, .ref a1]) ++ List.replicate (2 - (lg_sl ([.ref a0, .ref a1])).length) Slot.unset).toArray = ls at hl ⊢
  exact (wB_X1_copyFrom_0 S  M a0 a1 h) s.heap [] ls ⟨hK, hP, hD, va_S.rf, hZ⟩ hl
set_option maxRecDepth 100000 in
set_option maxHeartbeats 4000000 in
theorem wB_X1_beginAnew_0 (S : Cx p m c meth cX1_beginAnew 3 s args RX1 (none)) {Q : MM → Prop}   (M : MM) (a0 : Nat) (v1 : Int32) (v2 : Int32) (h : B_X1_beginAnew_0 Z Q  M a0 v1 v2) : WG p l e rm_X1_beginAnew s m args below meth c 0 0 (MQv below E Z args s Q) E Z M 0 3 [(0, .ref a0), (1, .int v1), (2, .int v2)] [] := by
  intro H locs ls hw hl
  have hx := S.1.1
  have hb := S.1.2.1
  refine lv_aload_n hx hb dX1_beginAnew_0 rfl (lv_at hl 0 rfl) ?_
  refine lv_iload_n hx hb dX1_beginAnew_1 rfl (lv_at hl 1 rfl) ?_
  obtain ⟨k_0, h⟩ := h
  refine pf_X1_11 S.1 hw k_0 dX1_beginAnew_2 (fun H locs hw => ?_)
  refine lv_aload_n hx hb dX1_beginAnew_5 rfl (lv_at hl 0 rfl) ?_
  refine lv_iload_n hx hb dX1_beginAnew_6 rfl (lv_at hl 2 rfl) ?_
  refine pf_X1_15 S.1 hw k_0 dX1_beginAnew_7 (fun H locs hw => ?_)
  refine lv_aload_n hx hb dX1_beginAnew_10 rfl (lv_at hl 0 rfl) ?_
  refine lv_iconst (v := 0) hx hb dX1_beginAnew_11 (by decide) ?_
  refine pf_X1_21 S.1 hw k_0 dX1_beginAnew_12 (fun H locs hw => ?_)
  refine lv_aload_n hx hb dX1_beginAnew_15 rfl (lv_at hl 0 rfl) ?_
  refine lv_iconst (v := 0) hx hb dX1_beginAnew_16 (by decide) ?_
  refine pf_X1_24 S.1 hw k_0 dX1_beginAnew_17 (fun H locs hw => ?_)
  refine lv_aload_n hx hb dX1_beginAnew_20 rfl (lv_at hl 0 rfl) ?_
  refine lv_iconst (v := 0) hx hb dX1_beginAnew_21 (by decide) ?_
  refine pf_X1_27 S.1 hw k_0 dX1_beginAnew_22 (fun H locs hw => ?_)
  refine lv_aload_n hx hb dX1_beginAnew_25 rfl (lv_at hl 0 rfl) ?_
  refine lv_iconst (v := 0) hx hb dX1_beginAnew_26 (by decide) ?_
  refine pf_X1_30 S.1 hw k_0 dX1_beginAnew_27 (fun H locs hw => ?_)
  refine lv_aload_n hx hb dX1_beginAnew_30 rfl (lv_at hl 0 rfl) ?_
  refine lv_iconst (v := 0) hx hb dX1_beginAnew_31 (by decide) ?_
  refine pf_X1_33 S.1 hw k_0 dX1_beginAnew_32 (fun H locs hw => ?_)
  refine lv_aload_n hx hb dX1_beginAnew_35 rfl (lv_at hl 0 rfl) ?_
  obtain ⟨y36_1, hy_1, h⟩ := h
  refine gf_X1_41 S.1 hw k_0 hy_1 dX1_beginAnew_36 ?_
  refine lv_iconst (v := 0) hx hb dX1_beginAnew_39 (by decide) ?_
  obtain ⟨k_2, h⟩ := h
  refine cv_v (As := [.int 0]) (rest := []) S.1 hw (k_X2_fill l E Z (setI (setI (setI (setI (setI (setI (setI M 0 a0 v1) 1 a0 v2) 3 a0 0) 4 a0 0) 5 a0 0) 6 a0 0) 7 a0 0) y36_1 0 _ h) wv_X1_58 yc_X2_fill ⟨rfl, rfl⟩ ⟨Nat.le_of_ble_eq_true rfl, Nat.le_of_ble_eq_true rfl⟩ rfl hl.1 (Nat.le_of_ble_eq_true rfl) (ci := 2) (q := (RX2, TX2, 1)) rfl rfl (by rw [k_2]; decide) (cell_2 k_2) ⟨Nat.le_of_ble_eq_true rfl, Nat.le_of_ble_eq_true rfl⟩ dX1_beginAnew_40 (fun M40 H locs h hw => ?_)
  refine lv_aload_n hx hb dX1_beginAnew_43 rfl (lv_at hl 0 rfl) ?_
  obtain ⟨y44_3, hy_3, h⟩ := h
  refine gf_X1_45 S.1 hw k_0 hy_3 dX1_beginAnew_44 ?_
  refine lv_iconst (v := 0) hx hb dX1_beginAnew_47 (by decide) ?_
  obtain ⟨k_4, h⟩ := h
  refine cv_v (As := [.int 0]) (rest := []) S.1 hw (k_X2_fill l E Z M40 y44_3 0 _ h) wv_X1_58 yc_X2_fill ⟨rfl, rfl⟩ ⟨Nat.le_of_ble_eq_true rfl, Nat.le_of_ble_eq_true rfl⟩ rfl hl.1 (Nat.le_of_ble_eq_true rfl) (ci := 2) (q := (RX2, TX2, 1)) rfl rfl (by rw [k_4]; decide) (cell_2 k_4) ⟨Nat.le_of_ble_eq_true rfl, Nat.le_of_ble_eq_true rfl⟩ dX1_beginAnew_48 (fun M48 H locs h hw => ?_)
  refine lv_aload_n hx hb dX1_beginAnew_51 rfl (lv_at hl 0 rfl) ?_
  obtain ⟨y52_5, hy_5, h⟩ := h
  refine gf_X1_48 S.1 hw k_0 hy_5 dX1_beginAnew_52 ?_
  refine lv_iconst (v := 0) hx hb dX1_beginAnew_55 (by decide) ?_
  obtain ⟨k_6, h⟩ := h
  refine cv_v (As := [.int 0]) (rest := []) S.1 hw (k_X2_fill l E Z M48 y52_5 0 _ h) wv_X1_58 yc_X2_fill ⟨rfl, rfl⟩ ⟨Nat.le_of_ble_eq_true rfl, Nat.le_of_ble_eq_true rfl⟩ rfl hl.1 (Nat.le_of_ble_eq_true rfl) (ci := 2) (q := (RX2, TX2, 1)) rfl rfl (by rw [k_6]; decide) (cell_2 k_6) ⟨Nat.le_of_ble_eq_true rfl, Nat.le_of_ble_eq_true rfl⟩ dX1_beginAnew_56 (fun M56 H locs h hw => ?_)
  exact we_v S hw h dX1_beginAnew_59
set_option maxRecDepth 100000 in
set_option maxHeartbeats 4000000 in
theorem k_X1_beginAnew (l : Launch) (E : EE) (Z : ZZ) (M : MM) (a0 : Nat) (v1 : Int32) (v2 : Int32) (Q : MM → Prop) (h : P_X1_beginAnew Z M a0 v1 v2 Q) : Ct_v l yX1_beginAnew cX1_beginAnew 3 (none) rm_X1_beginAnew E Z M [.ref a0, .int v1, .int v2] Q := by
  refine Met.ofW (cc := cX1_beginAnew) (maxL := 3) (ret := none) (by decide) rfl ?_
  intro p e s m args below meth c s₁ B hml hv
  obtain ⟨rfl, hK, hP, hD, hZ⟩ := hv
  have S : Cx p m c meth cX1_beginAnew 3 s _ RX1 (none) := ⟨⟨B.exec, B.bytes, hml, findClass_of_methodNamed B.named, fun w hw => atoms_spec (ws := ws_ yX1_beginAnew cX1_beginAnew 3 (none)) B.pre w (List.mem_cons_of_mem _ hw)⟩, B.returns, B.notSynchronized⟩
  have hl := lv_entry ([.ref a0, .int v1, .int v2]) (n := 3) (Nat.le_of_ble_eq_true rfl)
  rw [lg_entry_eq]
  generalize (lg_sl ([.ref a0, .int v1, .int v2]) ++ List.replicate (3 - (lg_sl ([.ref a0, .int v1, .int v2])).length) Slot.unset).toArray = ls at hl ⊢
  exact (wB_X1_beginAnew_0 S  M a0 v1 v2 h) s.heap [] ls ⟨hK, hP, hD, va_S.rf, hZ⟩ hl
set_option maxRecDepth 100000 in
set_option maxHeartbeats 4000000 in
theorem wB_X1_cellCount_0 (S : Cx p m c meth cX1_cellCount 1 s args RX1 (some .int)) {Q : Int32 → MM → Prop}   (M : MM) (a0 : Nat) (h : B_X1_cellCount_0 Z Q  M a0) : WG p l e rm_X1_cellCount s m args below meth c 0 0 (MQi below E Z args s Q) E Z M 0 1 [(0, .ref a0)] [] := by
  intro H locs ls hw hl
  have hx := S.1.1
  have hb := S.1.2.1
  refine lv_aload_n hx hb dX1_cellCount_0 rfl (lv_at hl 0 rfl) ?_
  obtain ⟨k_0, h⟩ := h
  refine gf_X1_11 S.1 hw k_0 dX1_cellCount_1 ?_
  refine lv_aload_n hx hb dX1_cellCount_4 rfl (lv_at hl 0 rfl) ?_
  refine gf_X1_15 S.1 hw k_0 dX1_cellCount_5 ?_
  refine lv_imul hx hb dX1_cellCount_8 ?_
  exact we_i S hw h dX1_cellCount_9
set_option maxRecDepth 100000 in
set_option maxHeartbeats 4000000 in
theorem k_X1_cellCount (l : Launch) (E : EE) (Z : ZZ) (M : MM) (a0 : Nat) (Q : Int32 → MM → Prop) (h : P_X1_cellCount Z M a0 Q) : Ct_i l yX1_cellCount cX1_cellCount 1 (some .int) rm_X1_cellCount E Z M [.ref a0] Q := by
  refine Met.ofW (cc := cX1_cellCount) (maxL := 1) (ret := some .int) (by decide) rfl ?_
  intro p e s m args below meth c s₁ B hml hv
  obtain ⟨rfl, hK, hP, hD, hZ⟩ := hv
  have S : Cx p m c meth cX1_cellCount 1 s _ RX1 (some .int) := ⟨⟨B.exec, B.bytes, hml, findClass_of_methodNamed B.named, fun w hw => atoms_spec (ws := ws_ yX1_cellCount cX1_cellCount 1 (some .int)) B.pre w (List.mem_cons_of_mem _ hw)⟩, B.returns, B.notSynchronized⟩
  have hl := lv_entry ([.ref a0]) (n := 1) (Nat.le_of_ble_eq_true rfl)
  rw [lg_entry_eq]
  generalize (lg_sl ([.ref a0]) ++ List.replicate (1 - (lg_sl ([.ref a0])).length) Slot.unset).toArray = ls at hl ⊢
  exact (wB_X1_cellCount_0 S  M a0 h) s.heap [] ls ⟨hK, hP, hD, va_S.rf, hZ⟩ hl
set_option maxRecDepth 100000 in
set_option maxHeartbeats 4000000 in
theorem wB_X1_add_0 (S : Cx p m c meth cX1_add 3 s args RX1 (none)) {Q : MM → Prop}   (M : MM) (a0 : Nat) (v1 : Int32) (v2 : Int32) (h : B_X1_add_0 Z Q  M a0 v1 v2) : WG p l e rm_X1_add s m args below meth c 0 0 (MQv below E Z args s Q) E Z M 0 3 [(0, .ref a0), (1, .int v1), (2, .int v2)] [] := by
  intro H locs ls hw hl
  have hx := S.1.1
  have hb := S.1.2.1
  refine lv_aload_n hx hb dX1_add_0 rfl (lv_at hl 0 rfl) ?_
  obtain ⟨k_0, h⟩ := h
  obtain ⟨y1_1, hy_1, h⟩ := h
  refine gf_X1_41 S.1 hw k_0 hy_1 dX1_add_1 ?_
  refine lv_iload_n hx hb dX1_add_4 rfl (lv_at hl 1 rfl) ?_
  refine lv_aload_n hx hb dX1_add_5 rfl (lv_at hl 0 rfl) ?_
  refine gf_X1_41 S.1 hw k_0 hy_1 dX1_add_6 ?_
  refine lv_iload_n hx hb dX1_add_9 rfl (lv_at hl 1 rfl) ?_
  obtain ⟨k_2, h⟩ := h
  refine cv_i (As := [.int v1]) (rest := [.int v1, .ref y1_1]) S.1 hw (k_X2_at l E Z M y1_1 v1 _ h) wv_X1_61 yc_X2_at ⟨rfl, rfl⟩ ⟨Nat.le_of_ble_eq_true rfl, Nat.le_of_ble_eq_true rfl⟩ rfl hl.1 (Nat.le_of_ble_eq_true rfl) (ci := 2) (q := (RX2, TX2, 1)) rfl rfl (by rw [k_2]; decide) (cell_2 k_2) ⟨Nat.le_of_ble_eq_true rfl, Nat.le_of_ble_eq_true rfl⟩ dX1_add_10 (fun r10 M10 H locs h hw => ?_)
  refine lv_iload_n hx hb dX1_add_13 rfl (lv_at hl 2 rfl) ?_
  refine lv_iadd hx hb dX1_add_14 ?_
  refine cv_v (As := [.int v1, .int (r10 + v2)]) (rest := []) S.1 hw (k_X2_put l E Z M10 y1_1 v1 (r10 + v2) _ h) wv_X1_65 yc_X2_put ⟨rfl, rfl⟩ ⟨Nat.le_of_ble_eq_true rfl, Nat.le_of_ble_eq_true rfl⟩ rfl hl.1 (Nat.le_of_ble_eq_true rfl) (ci := 2) (q := (RX2, TX2, 1)) rfl rfl (by rw [k_2]; decide) (cell_2 k_2) ⟨Nat.le_of_ble_eq_true rfl, Nat.le_of_ble_eq_true rfl⟩ dX1_add_15 (fun M15 H locs h hw => ?_)
  refine lv_aload_n hx hb dX1_add_18 rfl (lv_at hl 0 rfl) ?_
  refine lv_dup hx hb dX1_add_19 rfl ?_
  refine gf_X1_24 S.1 hw k_0 dX1_add_20 ?_
  refine lv_iload_n hx hb dX1_add_23 rfl (lv_at hl 2 rfl) ?_
  refine lv_iadd hx hb dX1_add_24 ?_
  refine pf_X1_24 S.1 hw k_0 dX1_add_25 (fun H locs hw => ?_)
  exact we_v S hw h dX1_add_28
set_option maxRecDepth 100000 in
set_option maxHeartbeats 4000000 in
theorem k_X1_add (l : Launch) (E : EE) (Z : ZZ) (M : MM) (a0 : Nat) (v1 : Int32) (v2 : Int32) (Q : MM → Prop) (h : P_X1_add Z M a0 v1 v2 Q) : Ct_v l yX1_add cX1_add 3 (none) rm_X1_add E Z M [.ref a0, .int v1, .int v2] Q := by
  refine Met.ofW (cc := cX1_add) (maxL := 3) (ret := none) (by decide) rfl ?_
  intro p e s m args below meth c s₁ B hml hv
  obtain ⟨rfl, hK, hP, hD, hZ⟩ := hv
  have S : Cx p m c meth cX1_add 3 s _ RX1 (none) := ⟨⟨B.exec, B.bytes, hml, findClass_of_methodNamed B.named, fun w hw => atoms_spec (ws := ws_ yX1_add cX1_add 3 (none)) B.pre w (List.mem_cons_of_mem _ hw)⟩, B.returns, B.notSynchronized⟩
  have hl := lv_entry ([.ref a0, .int v1, .int v2]) (n := 3) (Nat.le_of_ble_eq_true rfl)
  rw [lg_entry_eq]
  generalize (lg_sl ([.ref a0, .int v1, .int v2]) ++ List.replicate (3 - (lg_sl ([.ref a0, .int v1, .int v2])).length) Slot.unset).toArray = ls at hl ⊢
  exact (wB_X1_add_0 S  M a0 v1 v2 h) s.heap [] ls ⟨hK, hP, hD, va_S.rf, hZ⟩ hl
set_option maxRecDepth 100000 in
set_option maxHeartbeats 4000000 in
theorem wB_X1_addEverywhere_2 (S : Cx p m c meth cX1_addEverywhere 3 s args RX1 (none)) {Q : MM → Prop} {K2 : MM → Nat → Int32 → Int32 → Prop} (hK2 : ∀ (M : MM) (a0 : Nat) (v1 : Int32) (v2 : Int32), K2 M a0 v1 v2 → WG p l e rm_X1_addEverywhere s m args below meth c 0 0 (MQv below E Z args s Q) E Z M 2 3 [(0, .ref a0), (1, .int v1), (2, .int v2)] []) (M : MM) (a0 : Nat) (v1 : Int32) (v2 : Int32) (h : B_X1_addEverywhere_2 Z Q K2 M a0 v1 v2) : WG p l e rm_X1_addEverywhere s m args below meth c 0 0 (MQv below E Z args s Q) E Z M 2 3 [(0, .ref a0), (1, .int v1), (2, .int v2)] [] := by
  intro H locs ls hw hl
  have hx := S.1.1
  have hb := S.1.2.1
  refine lv_iload_n hx hb dX1_addEverywhere_2 rfl (lv_at hl 2 rfl) ?_
  refine lv_aload_n hx hb dX1_addEverywhere_3 rfl (lv_at hl 0 rfl) ?_
  obtain ⟨k_0, h⟩ := h
  refine cv_i (As := []) (rest := [.int v2]) S.1 hw (k_X1_cellCount l E Z M a0  _ h) wv_X1_69 yc_X1_cellCount ⟨rfl, rfl⟩ ⟨Nat.le_of_ble_eq_true rfl, Nat.le_of_ble_eq_true rfl⟩ rfl hl.1 (Nat.le_of_ble_eq_true rfl) (ci := 1) (q := (RX1, TX1, 12)) rfl rfl (by rw [k_0]; decide) (cell_1 k_0) ⟨Nat.le_of_ble_eq_true rfl, Nat.le_of_ble_eq_true rfl⟩ dX1_addEverywhere_4 (fun r4 M4 H locs h hw => ?_)
  refine lv_icmp_ge (tgt := 22) hx hb dX1_addEverywhere_7 (by decide) (fun q_7 => ?_) (fun q_7 => ?_)
  · have h := h.1 q_7
    exact we_v S hw h dX1_addEverywhere_22
  · have h := h.2 q_7
    refine lv_aload_n hx hb dX1_addEverywhere_10 rfl (lv_at hl 0 rfl) ?_
    refine lv_iload_n hx hb dX1_addEverywhere_11 rfl (lv_at hl 2 rfl) ?_
    refine lv_iload_n hx hb dX1_addEverywhere_12 rfl (lv_at hl 1 rfl) ?_
    refine cv_v (As := [.int v2, .int v1]) (rest := []) S.1 hw (k_X1_add l E Z M4 a0 v2 v1 _ h) wv_X1_73 yc_X1_add ⟨rfl, rfl⟩ ⟨Nat.le_of_ble_eq_true rfl, Nat.le_of_ble_eq_true rfl⟩ rfl hl.1 (Nat.le_of_ble_eq_true rfl) (ci := 1) (q := (RX1, TX1, 12)) rfl rfl (by rw [k_0]; decide) (cell_1 k_0) ⟨Nat.le_of_ble_eq_true rfl, Nat.le_of_ble_eq_true rfl⟩ dX1_addEverywhere_13 (fun M13 H locs h hw => ?_)
    refine lv_iinc (v := (v2 + 1)) (lv' := [(2, .int (v2 + 1)), (0, .ref a0), (1, .int v1)]) hx hb dX1_addEverywhere_16 hl (k := 2) rfl rfl (by decide) rfl (fun ls hl => ?_)
    refine lv_goto (tgt := 2) hx hb dX1_addEverywhere_19 (by decide) ?_
    exact (hK2 _ _ _ _ h) H locs ls hw (lv_sub hl [1, 2, 0] rfl)
theorem wL_X1_addEverywhere_2 (S : Cx p m c meth cX1_addEverywhere 3 s args RX1 (none)) {Q : MM → Prop}   : ∀ (n : Nat) (M : MM) (a0 : Nat) (v1 : Int32) (v2 : Int32), L_X1_addEverywhere_2 Z Q  n M a0 v1 v2 → WG p l e rm_X1_addEverywhere s m args below meth c 0 0 (MQv below E Z args s Q) E Z M 2 3 [(0, .ref a0), (1, .int v1), (2, .int v2)] []
  | 0, _, _, _, _, h => False.elim h
  | n + 1, M, a0, v1, v2, h => wB_X1_addEverywhere_2 S  (wL_X1_addEverywhere_2 S   n) M a0 v1 v2 h
set_option maxRecDepth 100000 in
set_option maxHeartbeats 4000000 in
theorem wB_X1_addEverywhere_0 (S : Cx p m c meth cX1_addEverywhere 3 s args RX1 (none)) {Q : MM → Prop}   (M : MM) (a0 : Nat) (v1 : Int32) (h : B_X1_addEverywhere_0 Z Q  M a0 v1) : WG p l e rm_X1_addEverywhere s m args below meth c 0 0 (MQv below E Z args s Q) E Z M 0 3 [(0, .ref a0), (1, .int v1)] [] := by
  intro H locs ls hw hl
  have hx := S.1.1
  have hb := S.1.2.1
  refine lv_iconst (v := 0) hx hb dX1_addEverywhere_0 (by decide) ?_
  refine lv_istore_n (lv' := [(2, .int 0), (0, .ref a0), (1, .int v1)]) hx hb dX1_addEverywhere_1 rfl hl (by decide) rfl (fun ls hl => ?_)
  exact ((Exists.elim h (fun n h => wL_X1_addEverywhere_2 S   n _ _ _ _ h))) H locs ls hw (lv_sub hl [1, 2, 0] rfl)
set_option maxRecDepth 100000 in
set_option maxHeartbeats 4000000 in
theorem k_X1_addEverywhere (l : Launch) (E : EE) (Z : ZZ) (M : MM) (a0 : Nat) (v1 : Int32) (Q : MM → Prop) (h : P_X1_addEverywhere Z M a0 v1 Q) : Ct_v l yX1_addEverywhere cX1_addEverywhere 3 (none) rm_X1_addEverywhere E Z M [.ref a0, .int v1] Q := by
  refine Met.ofW (cc := cX1_addEverywhere) (maxL := 3) (ret := none) (by decide) rfl ?_
  intro p e s m args below meth c s₁ B hml hv
  obtain ⟨rfl, hK, hP, hD, hZ⟩ := hv
  have S : Cx p m c meth cX1_addEverywhere 3 s _ RX1 (none) := ⟨⟨B.exec, B.bytes, hml, findClass_of_methodNamed B.named, fun w hw => atoms_spec (ws := ws_ yX1_addEverywhere cX1_addEverywhere 3 (none)) B.pre w (List.mem_cons_of_mem _ hw)⟩, B.returns, B.notSynchronized⟩
  have hl := lv_entry ([.ref a0, .int v1]) (n := 3) (Nat.le_of_ble_eq_true rfl)
  rw [lg_entry_eq]
  generalize (lg_sl ([.ref a0, .int v1]) ++ List.replicate (3 - (lg_sl ([.ref a0, .int v1])).length) Slot.unset).toArray = ls at hl ⊢
  exact (wB_X1_addEverywhere_0 S  M a0 v1 h) s.heap [] ls ⟨hK, hP, hD, va_S.rf, hZ⟩ hl
set_option maxRecDepth 100000 in
set_option maxHeartbeats 4000000 in
theorem wB_X1_columnOf_0 (S : Cx p m c meth cX1_columnOf 2 s args RX1 (some .int)) {Q : Int32 → MM → Prop}   (M : MM) (a0 : Nat) (v1 : Int32) (h : B_X1_columnOf_0 Z Q  M a0 v1) : WG p l e rm_X1_columnOf s m args below meth c 0 0 (MQi below E Z args s Q) E Z M 0 2 [(0, .ref a0), (1, .int v1)] [] := by
  intro H locs ls hw hl
  have hx := S.1.1
  have hb := S.1.2.1
  refine lv_aload_n hx hb dX1_columnOf_0 rfl (lv_at hl 0 rfl) ?_
  obtain ⟨k_0, h⟩ := h
  refine gf_X1_11 S.1 hw k_0 dX1_columnOf_1 ?_
  refine lv_if_le (tgt := 16) hx hb dX1_columnOf_4 (by decide) (fun q_4 => ?_) (fun q_4 => ?_)
  · have h := h.1 q_4
    refine lv_iconst (v := 0) hx hb dX1_columnOf_16 (by decide) ?_
    exact we_i S hw h dX1_columnOf_17
  · have h := h.2 q_4
    refine lv_iload_n hx hb dX1_columnOf_7 rfl (lv_at hl 1 rfl) ?_
    refine lv_aload_n hx hb dX1_columnOf_8 rfl (lv_at hl 0 rfl) ?_
    refine gf_X1_11 S.1 hw k_0 dX1_columnOf_9 ?_
    obtain ⟨z_12, h⟩ := h
    refine lv_irem hx hb dX1_columnOf_12 z_12 ?_
    refine lv_goto (tgt := 17) hx hb dX1_columnOf_13 (by decide) ?_
    exact we_i S hw h dX1_columnOf_17
set_option maxRecDepth 100000 in
set_option maxHeartbeats 4000000 in
theorem k_X1_columnOf (l : Launch) (E : EE) (Z : ZZ) (M : MM) (a0 : Nat) (v1 : Int32) (Q : Int32 → MM → Prop) (h : P_X1_columnOf Z M a0 v1 Q) : Ct_i l yX1_columnOf cX1_columnOf 2 (some .int) rm_X1_columnOf E Z M [.ref a0, .int v1] Q := by
  refine Met.ofW (cc := cX1_columnOf) (maxL := 2) (ret := some .int) (by decide) rfl ?_
  intro p e s m args below meth c s₁ B hml hv
  obtain ⟨rfl, hK, hP, hD, hZ⟩ := hv
  have S : Cx p m c meth cX1_columnOf 2 s _ RX1 (some .int) := ⟨⟨B.exec, B.bytes, hml, findClass_of_methodNamed B.named, fun w hw => atoms_spec (ws := ws_ yX1_columnOf cX1_columnOf 2 (some .int)) B.pre w (List.mem_cons_of_mem _ hw)⟩, B.returns, B.notSynchronized⟩
  have hl := lv_entry ([.ref a0, .int v1]) (n := 2) (Nat.le_of_ble_eq_true rfl)
  rw [lg_entry_eq]
  generalize (lg_sl ([.ref a0, .int v1]) ++ List.replicate (2 - (lg_sl ([.ref a0, .int v1])).length) Slot.unset).toArray = ls at hl ⊢
  exact (wB_X1_columnOf_0 S  M a0 v1 h) s.heap [] ls ⟨hK, hP, hD, va_S.rf, hZ⟩ hl
set_option maxRecDepth 100000 in
set_option maxHeartbeats 4000000 in
theorem wB_X1_beside_0 (S : Cx p m c meth cX1_beside 3 s args RX1 (some .int)) {Q : Int32 → MM → Prop}   (M : MM) (a0 : Nat) (v1 : Int32) (v2 : Int32) (h : B_X1_beside_0 Z Q  M a0 v1 v2) : WG p l e rm_X1_beside s m args below meth c 0 0 (MQi below E Z args s Q) E Z M 0 3 [(0, .ref a0), (1, .int v1), (2, .int v2)] [] := by
  intro H locs ls hw hl
  have hx := S.1.1
  have hb := S.1.2.1
  refine lv_iload_n hx hb dX1_beside_0 rfl (lv_at hl 2 rfl) ?_
  by_cases q_1_0 : v2 = 0
  · have h := h.1 q_1_0
    refine lv_tableIn (tgt := 32) hx hb dX1_beside_1 (by rw [q_1_0]; decide) (by rw [q_1_0]; decide) (by rw [q_1_0]; rfl) (by decide) ?_
    refine lv_aload_n hx hb dX1_beside_32 rfl (lv_at hl 0 rfl) ?_
    refine lv_iload_n hx hb dX1_beside_33 rfl (lv_at hl 1 rfl) ?_
    obtain ⟨k_0, h⟩ := h
    refine cv_i (As := [.int v1]) (rest := []) S.1 hw (k_X1_columnOf l E Z M a0 v1 _ h) wv_X1_80 yc_X1_columnOf ⟨rfl, rfl⟩ ⟨Nat.le_of_ble_eq_true rfl, Nat.le_of_ble_eq_true rfl⟩ rfl hl.1 (Nat.le_of_ble_eq_true rfl) (ci := 1) (q := (RX1, TX1, 12)) rfl rfl (by rw [k_0]; decide) (cell_1 k_0) ⟨Nat.le_of_ble_eq_true rfl, Nat.le_of_ble_eq_true rfl⟩ dX1_beside_34 (fun r34 M34 H locs h hw => ?_)
    refine lv_aload_n hx hb dX1_beside_37 rfl (lv_at hl 0 rfl) ?_
    refine gf_X1_11 S.1 hw k_0 dX1_beside_38 ?_
    refine lv_iconst (v := 1) hx hb dX1_beside_41 (by decide) ?_
    refine lv_isub hx hb dX1_beside_42 ?_
    refine lv_icmp_ge (tgt := 52) hx hb dX1_beside_43 (by decide) (fun q_43 => ?_) (fun q_43 => ?_)
    · have h := h.1 q_43
      refine lv_iconst (v := (-1)) hx hb dX1_beside_52 (by decide) ?_
      exact we_i S hw h dX1_beside_53
    · have h := h.2 q_43
      refine lv_iload_n hx hb dX1_beside_46 rfl (lv_at hl 1 rfl) ?_
      refine lv_iconst (v := 1) hx hb dX1_beside_47 (by decide) ?_
      refine lv_iadd hx hb dX1_beside_48 ?_
      refine lv_goto (tgt := 53) hx hb dX1_beside_49 (by decide) ?_
      exact we_i S hw h dX1_beside_53
  · have h := h.2 q_1_0
    by_cases q_1_1 : v2 = 1
    · have h := h.1 q_1_1
      refine lv_tableIn (tgt := 54) hx hb dX1_beside_1 (by rw [q_1_1]; decide) (by rw [q_1_1]; decide) (by rw [q_1_1]; rfl) (by decide) ?_
      refine lv_iload_n hx hb dX1_beside_54 rfl (lv_at hl 1 rfl) ?_
      refine lv_aload_n hx hb dX1_beside_55 rfl (lv_at hl 0 rfl) ?_
      obtain ⟨k_1, h⟩ := h
      refine gf_X1_11 S.1 hw k_1 dX1_beside_56 ?_
      refine lv_iadd hx hb dX1_beside_59 ?_
      refine lv_aload_n hx hb dX1_beside_60 rfl (lv_at hl 0 rfl) ?_
      refine cv_i (As := []) (rest := [.int (v1 + (mI M 0 a0))]) S.1 hw (k_X1_cellCount l E Z M a0  _ h) wv_X1_69 yc_X1_cellCount ⟨rfl, rfl⟩ ⟨Nat.le_of_ble_eq_true rfl, Nat.le_of_ble_eq_true rfl⟩ rfl hl.1 (Nat.le_of_ble_eq_true rfl) (ci := 1) (q := (RX1, TX1, 12)) rfl rfl (by rw [k_1]; decide) (cell_1 k_1) ⟨Nat.le_of_ble_eq_true rfl, Nat.le_of_ble_eq_true rfl⟩ dX1_beside_61 (fun r61 M61 H locs h hw => ?_)
      refine lv_icmp_ge (tgt := 76) hx hb dX1_beside_64 (by decide) (fun q_64 => ?_) (fun q_64 => ?_)
      · have h := h.1 q_64
        refine lv_iconst (v := (-1)) hx hb dX1_beside_76 (by decide) ?_
        exact we_i S hw h dX1_beside_77
      · have h := h.2 q_64
        refine lv_iload_n hx hb dX1_beside_67 rfl (lv_at hl 1 rfl) ?_
        refine lv_aload_n hx hb dX1_beside_68 rfl (lv_at hl 0 rfl) ?_
        refine gf_X1_11 S.1 hw k_1 dX1_beside_69 ?_
        refine lv_iadd hx hb dX1_beside_72 ?_
        refine lv_goto (tgt := 77) hx hb dX1_beside_73 (by decide) ?_
        exact we_i S hw h dX1_beside_77
    · have h := h.2 q_1_1
      by_cases q_1_2 : v2 = 2
      · have h := h.1 q_1_2
        refine lv_tableIn (tgt := 78) hx hb dX1_beside_1 (by rw [q_1_2]; decide) (by rw [q_1_2]; decide) (by rw [q_1_2]; rfl) (by decide) ?_
        refine lv_iload_n hx hb dX1_beside_78 rfl (lv_at hl 1 rfl) ?_
        refine lv_aload_n hx hb dX1_beside_79 rfl (lv_at hl 0 rfl) ?_
        obtain ⟨k_2, h⟩ := h
        refine gf_X1_11 S.1 hw k_2 dX1_beside_80 ?_
        refine lv_icmp_lt (tgt := 95) hx hb dX1_beside_83 (by decide) (fun q_83 => ?_) (fun q_83 => ?_)
        · have h := h.1 q_83
          refine lv_iconst (v := (-1)) hx hb dX1_beside_95 (by decide) ?_
          exact we_i S hw h dX1_beside_96
        · have h := h.2 q_83
          refine lv_iload_n hx hb dX1_beside_86 rfl (lv_at hl 1 rfl) ?_
          refine lv_aload_n hx hb dX1_beside_87 rfl (lv_at hl 0 rfl) ?_
          refine gf_X1_11 S.1 hw k_2 dX1_beside_88 ?_
          refine lv_isub hx hb dX1_beside_91 ?_
          refine lv_goto (tgt := 96) hx hb dX1_beside_92 (by decide) ?_
          exact we_i S hw h dX1_beside_96
      · have h := h.2 q_1_2
        by_cases q_1_3 : v2 = 3
        · have h := h.1 q_1_3
          refine lv_tableIn (tgt := 97) hx hb dX1_beside_1 (by rw [q_1_3]; decide) (by rw [q_1_3]; decide) (by rw [q_1_3]; rfl) (by decide) ?_
          refine lv_aload_n hx hb dX1_beside_97 rfl (lv_at hl 0 rfl) ?_
          refine lv_iload_n hx hb dX1_beside_98 rfl (lv_at hl 1 rfl) ?_
          obtain ⟨k_3, h⟩ := h
          refine cv_i (As := [.int v1]) (rest := []) S.1 hw (k_X1_columnOf l E Z M a0 v1 _ h) wv_X1_80 yc_X1_columnOf ⟨rfl, rfl⟩ ⟨Nat.le_of_ble_eq_true rfl, Nat.le_of_ble_eq_true rfl⟩ rfl hl.1 (Nat.le_of_ble_eq_true rfl) (ci := 1) (q := (RX1, TX1, 12)) rfl rfl (by rw [k_3]; decide) (cell_1 k_3) ⟨Nat.le_of_ble_eq_true rfl, Nat.le_of_ble_eq_true rfl⟩ dX1_beside_99 (fun r99 M99 H locs h hw => ?_)
          refine lv_if_le (tgt := 111) hx hb dX1_beside_102 (by decide) (fun q_102 => ?_) (fun q_102 => ?_)
          · have h := h.1 q_102
            refine lv_iconst (v := (-1)) hx hb dX1_beside_111 (by decide) ?_
            exact we_i S hw h dX1_beside_112
          · have h := h.2 q_102
            refine lv_iload_n hx hb dX1_beside_105 rfl (lv_at hl 1 rfl) ?_
            refine lv_iconst (v := 1) hx hb dX1_beside_106 (by decide) ?_
            refine lv_isub hx hb dX1_beside_107 ?_
            refine lv_goto (tgt := 112) hx hb dX1_beside_108 (by decide) ?_
            exact we_i S hw h dX1_beside_112
        · have h := h.2 q_1_3
          have t_0 := lv_neT q_1_0 (a := 0) rfl
          have t_1 := lv_neT q_1_1 (a := 1) rfl
          have t_2 := lv_neT q_1_2 (a := 2) rfl
          have t_3 := lv_neT q_1_3 (a := 3) rfl
          refine lv_tableOut (tgt := 113) hx hb dX1_beside_1 (by omega) (by decide) ?_
          refine lv_iconst (v := (-1)) hx hb dX1_beside_113 (by decide) ?_
          exact we_i S hw h dX1_beside_114
set_option maxRecDepth 100000 in
set_option maxHeartbeats 4000000 in
theorem k_X1_beside (l : Launch) (E : EE) (Z : ZZ) (M : MM) (a0 : Nat) (v1 : Int32) (v2 : Int32) (Q : Int32 → MM → Prop) (h : P_X1_beside Z M a0 v1 v2 Q) : Ct_i l yX1_beside cX1_beside 3 (some .int) rm_X1_beside E Z M [.ref a0, .int v1, .int v2] Q := by
  refine Met.ofW (cc := cX1_beside) (maxL := 3) (ret := some .int) (by decide) rfl ?_
  intro p e s m args below meth c s₁ B hml hv
  obtain ⟨rfl, hK, hP, hD, hZ⟩ := hv
  have S : Cx p m c meth cX1_beside 3 s _ RX1 (some .int) := ⟨⟨B.exec, B.bytes, hml, findClass_of_methodNamed B.named, fun w hw => atoms_spec (ws := ws_ yX1_beside cX1_beside 3 (some .int)) B.pre w (List.mem_cons_of_mem _ hw)⟩, B.returns, B.notSynchronized⟩
  have hl := lv_entry ([.ref a0, .int v1, .int v2]) (n := 3) (Nat.le_of_ble_eq_true rfl)
  rw [lg_entry_eq]
  generalize (lg_sl ([.ref a0, .int v1, .int v2]) ++ List.replicate (3 - (lg_sl ([.ref a0, .int v1, .int v2])).length) Slot.unset).toArray = ls at hl ⊢
  exact (wB_X1_beside_0 S  M a0 v1 v2 h) s.heap [] ls ⟨hK, hP, hD, va_S.rf, hZ⟩ hl
set_option maxRecDepth 100000 in
set_option maxHeartbeats 4000000 in
theorem wB_X1_canCut_0 (S : Cx p m c meth cX1_canCut 3 s args RX1 (some .boolean)) {Q : Int32 → MM → Prop}   (M : MM) (a0 : Nat) (v1 : Int32) (v2 : Int32) (h : B_X1_canCut_0 Z Q  M a0 v1 v2) : WG p l e rm_X1_canCut s m args below meth c 0 0 (MQi below E Z args s Q) E Z M 0 3 [(0, .ref a0), (1, .int v1), (2, .int v2)] [] := by
  intro H locs ls hw hl
  have hx := S.1.1
  have hb := S.1.2.1
  refine lv_iload_n hx hb dX1_canCut_0 rfl (lv_at hl 2 rfl) ?_
  refine lv_iconst (v := 2) hx hb dX1_canCut_1 (by decide) ?_
  refine lv_icmp_eq (tgt := 15) hx hb dX1_canCut_2 (by decide) (fun q_2 => ?_) (fun q_2 => ?_)
  · have h := h.1 q_2
    refine lv_iconst (v := 1) hx hb dX1_canCut_15 (by decide) ?_
    refine lv_goto (tgt := 20) hx hb dX1_canCut_16 (by decide) ?_
    exact we_z S hw rfl (by rfl) h dX1_canCut_20
  · have h := h.2 q_2
    refine lv_aload_n hx hb dX1_canCut_5 rfl (lv_at hl 0 rfl) ?_
    refine lv_iload_n hx hb dX1_canCut_6 rfl (lv_at hl 1 rfl) ?_
    refine lv_iload_n hx hb dX1_canCut_7 rfl (lv_at hl 2 rfl) ?_
    obtain ⟨k_0, h⟩ := h
    refine cv_i (As := [.int v1, .int v2]) (rest := []) S.1 hw (k_X1_beside l E Z M a0 v1 v2 _ h) wv_X1_83 yc_X1_beside ⟨rfl, rfl⟩ ⟨Nat.le_of_ble_eq_true rfl, Nat.le_of_ble_eq_true rfl⟩ rfl hl.1 (Nat.le_of_ble_eq_true rfl) (ci := 1) (q := (RX1, TX1, 12)) rfl rfl (by rw [k_0]; decide) (cell_1 k_0) ⟨Nat.le_of_ble_eq_true rfl, Nat.le_of_ble_eq_true rfl⟩ dX1_canCut_8 (fun r8 M8 H locs h hw => ?_)
    refine lv_iconst (v := (-1)) hx hb dX1_canCut_11 (by decide) ?_
    refine lv_icmp_eq (tgt := 19) hx hb dX1_canCut_12 (by decide) (fun q_12 => ?_) (fun q_12 => ?_)
    · have h := h.1 q_12
      refine lv_iconst (v := 0) hx hb dX1_canCut_19 (by decide) ?_
      exact we_z S hw rfl (by rfl) h dX1_canCut_20
    · have h := h.2 q_12
      refine lv_iconst (v := 1) hx hb dX1_canCut_15 (by decide) ?_
      refine lv_goto (tgt := 20) hx hb dX1_canCut_16 (by decide) ?_
      exact we_z S hw rfl (by rfl) h dX1_canCut_20
set_option maxRecDepth 100000 in
set_option maxHeartbeats 4000000 in
theorem k_X1_canCut (l : Launch) (E : EE) (Z : ZZ) (M : MM) (a0 : Nat) (v1 : Int32) (v2 : Int32) (Q : Int32 → MM → Prop) (h : P_X1_canCut Z M a0 v1 v2 Q) : Ct_i l yX1_canCut cX1_canCut 3 (some .boolean) rm_X1_canCut E Z M [.ref a0, .int v1, .int v2] Q := by
  refine Met.ofW (cc := cX1_canCut) (maxL := 3) (ret := some .boolean) (by decide) rfl ?_
  intro p e s m args below meth c s₁ B hml hv
  obtain ⟨rfl, hK, hP, hD, hZ⟩ := hv
  have S : Cx p m c meth cX1_canCut 3 s _ RX1 (some .boolean) := ⟨⟨B.exec, B.bytes, hml, findClass_of_methodNamed B.named, fun w hw => atoms_spec (ws := ws_ yX1_canCut cX1_canCut 3 (some .boolean)) B.pre w (List.mem_cons_of_mem _ hw)⟩, B.returns, B.notSynchronized⟩
  have hl := lv_entry ([.ref a0, .int v1, .int v2]) (n := 3) (Nat.le_of_ble_eq_true rfl)
  rw [lg_entry_eq]
  generalize (lg_sl ([.ref a0, .int v1, .int v2]) ++ List.replicate (3 - (lg_sl ([.ref a0, .int v1, .int v2])).length) Slot.unset).toArray = ls at hl ⊢
  exact (wB_X1_canCut_0 S  M a0 v1 v2 h) s.heap [] ls ⟨hK, hP, hD, va_S.rf, hZ⟩ hl
set_option maxRecDepth 100000 in
set_option maxHeartbeats 4000000 in
theorem wB_X1_cutPlace_0 (S : Cx p m c meth cX1_cutPlace 3 s args RX1 (some .int)) {Q : Int32 → MM → Prop}   (M : MM) (a0 : Nat) (v1 : Int32) (v2 : Int32) (h : B_X1_cutPlace_0 Z Q  M a0 v1 v2) : WG p l e rm_X1_cutPlace s m args below meth c 0 0 (MQi below E Z args s Q) E Z M 0 3 [(0, .ref a0), (1, .int v1), (2, .int v2)] [] := by
  intro H locs ls hw hl
  have hx := S.1.1
  have hb := S.1.2.1
  refine lv_iload_n hx hb dX1_cutPlace_0 rfl (lv_at hl 2 rfl) ?_
  by_cases q_1_0 : v2 = 0
  · have h := h.1 q_1_0
    refine lv_tableIn (tgt := 32) hx hb dX1_cutPlace_1 (by rw [q_1_0]; decide) (by rw [q_1_0]; decide) (by rw [q_1_0]; rfl) (by decide) ?_
    refine lv_bipush (v := 56) hx hb dX1_cutPlace_32 (by decide) ?_
    refine lv_iload_n hx hb dX1_cutPlace_34 rfl (lv_at hl 1 rfl) ?_
    refine lv_iadd hx hb dX1_cutPlace_35 ?_
    refine lv_iconst (v := 1) hx hb dX1_cutPlace_36 (by decide) ?_
    refine lv_iadd hx hb dX1_cutPlace_37 ?_
    exact we_i S hw h dX1_cutPlace_38
  · have h := h.2 q_1_0
    by_cases q_1_1 : v2 = 1
    · have h := h.1 q_1_1
      refine lv_tableIn (tgt := 39) hx hb dX1_cutPlace_1 (by rw [q_1_1]; decide) (by rw [q_1_1]; decide) (by rw [q_1_1]; rfl) (by decide) ?_
      refine lv_iload_n hx hb dX1_cutPlace_39 rfl (lv_at hl 1 rfl) ?_
      refine lv_aload_n hx hb dX1_cutPlace_40 rfl (lv_at hl 0 rfl) ?_
      obtain ⟨k_0, h⟩ := h
      refine gf_X1_11 S.1 hw k_0 dX1_cutPlace_41 ?_
      refine lv_iadd hx hb dX1_cutPlace_44 ?_
      exact we_i S hw h dX1_cutPlace_45
    · have h := h.2 q_1_1
      by_cases q_1_2 : v2 = 2
      · have h := h.1 q_1_2
        refine lv_tableIn (tgt := 51) hx hb dX1_cutPlace_1 (by rw [q_1_2]; decide) (by rw [q_1_2]; decide) (by rw [q_1_2]; rfl) (by decide) ?_
        refine lv_iload_n hx hb dX1_cutPlace_51 rfl (lv_at hl 1 rfl) ?_
        exact we_i S hw h dX1_cutPlace_52
      · have h := h.2 q_1_2
        by_cases q_1_3 : v2 = 3
        · have h := h.1 q_1_3
          refine lv_tableIn (tgt := 46) hx hb dX1_cutPlace_1 (by rw [q_1_3]; decide) (by rw [q_1_3]; decide) (by rw [q_1_3]; rfl) (by decide) ?_
          refine lv_bipush (v := 56) hx hb dX1_cutPlace_46 (by decide) ?_
          refine lv_iload_n hx hb dX1_cutPlace_48 rfl (lv_at hl 1 rfl) ?_
          refine lv_iadd hx hb dX1_cutPlace_49 ?_
          exact we_i S hw h dX1_cutPlace_50
        · have h := h.2 q_1_3
          have t_0 := lv_neT q_1_0 (a := 0) rfl
          have t_1 := lv_neT q_1_1 (a := 1) rfl
          have t_2 := lv_neT q_1_2 (a := 2) rfl
          have t_3 := lv_neT q_1_3 (a := 3) rfl
          refine lv_tableOut (tgt := 51) hx hb dX1_cutPlace_1 (by omega) (by decide) ?_
          refine lv_iload_n hx hb dX1_cutPlace_51 rfl (lv_at hl 1 rfl) ?_
          exact we_i S hw h dX1_cutPlace_52
set_option maxRecDepth 100000 in
set_option maxHeartbeats 4000000 in
theorem k_X1_cutPlace (l : Launch) (E : EE) (Z : ZZ) (M : MM) (a0 : Nat) (v1 : Int32) (v2 : Int32) (Q : Int32 → MM → Prop) (h : P_X1_cutPlace Z M a0 v1 v2 Q) : Ct_i l yX1_cutPlace cX1_cutPlace 3 (some .int) rm_X1_cutPlace E Z M [.ref a0, .int v1, .int v2] Q := by
  refine Met.ofW (cc := cX1_cutPlace) (maxL := 3) (ret := some .int) (by decide) rfl ?_
  intro p e s m args below meth c s₁ B hml hv
  obtain ⟨rfl, hK, hP, hD, hZ⟩ := hv
  have S : Cx p m c meth cX1_cutPlace 3 s _ RX1 (some .int) := ⟨⟨B.exec, B.bytes, hml, findClass_of_methodNamed B.named, fun w hw => atoms_spec (ws := ws_ yX1_cutPlace cX1_cutPlace 3 (some .int)) B.pre w (List.mem_cons_of_mem _ hw)⟩, B.returns, B.notSynchronized⟩
  have hl := lv_entry ([.ref a0, .int v1, .int v2]) (n := 3) (Nat.le_of_ble_eq_true rfl)
  rw [lg_entry_eq]
  generalize (lg_sl ([.ref a0, .int v1, .int v2]) ++ List.replicate (3 - (lg_sl ([.ref a0, .int v1, .int v2])).length) Slot.unset).toArray = ls at hl ⊢
  exact (wB_X1_cutPlace_0 S  M a0 v1 v2 h) s.heap [] ls ⟨hK, hP, hD, va_S.rf, hZ⟩ hl
set_option maxRecDepth 100000 in
set_option maxHeartbeats 4000000 in
theorem wB_X1_cutAt_0 (S : Cx p m c meth cX1_cutAt 3 s args RX1 (some .int)) {Q : Int32 → MM → Prop}   (M : MM) (a0 : Nat) (v1 : Int32) (v2 : Int32) (h : B_X1_cutAt_0 Z Q  M a0 v1 v2) : WG p l e rm_X1_cutAt s m args below meth c 0 0 (MQi below E Z args s Q) E Z M 0 3 [(0, .ref a0), (1, .int v1), (2, .int v2)] [] := by
  intro H locs ls hw hl
  have hx := S.1.1
  have hb := S.1.2.1
  refine lv_aload_n hx hb dX1_cutAt_0 rfl (lv_at hl 0 rfl) ?_
  obtain ⟨k_0, h⟩ := h
  obtain ⟨y1_1, hy_1, h⟩ := h
  refine gf_X1_45 S.1 hw k_0 hy_1 dX1_cutAt_1 ?_
  refine lv_aload_n hx hb dX1_cutAt_4 rfl (lv_at hl 0 rfl) ?_
  refine lv_iload_n hx hb dX1_cutAt_5 rfl (lv_at hl 1 rfl) ?_
  refine lv_iload_n hx hb dX1_cutAt_6 rfl (lv_at hl 2 rfl) ?_
  refine cv_i (As := [.int v1, .int v2]) (rest := [.ref y1_1]) S.1 hw (k_X1_cutPlace l E Z M a0 v1 v2 _ h) wv_X1_87 yc_X1_cutPlace ⟨rfl, rfl⟩ ⟨Nat.le_of_ble_eq_true rfl, Nat.le_of_ble_eq_true rfl⟩ rfl hl.1 (Nat.le_of_ble_eq_true rfl) (ci := 1) (q := (RX1, TX1, 12)) rfl rfl (by rw [k_0]; decide) (cell_1 k_0) ⟨Nat.le_of_ble_eq_true rfl, Nat.le_of_ble_eq_true rfl⟩ dX1_cutAt_7 (fun r7 M7 H locs h hw => ?_)
  obtain ⟨k_2, h⟩ := h
  refine cv_i (As := [.int r7]) (rest := []) S.1 hw (k_X2_at l E Z M7 y1_1 r7 _ h) wv_X1_61 yc_X2_at ⟨rfl, rfl⟩ ⟨Nat.le_of_ble_eq_true rfl, Nat.le_of_ble_eq_true rfl⟩ rfl hl.1 (Nat.le_of_ble_eq_true rfl) (ci := 2) (q := (RX2, TX2, 1)) rfl rfl (by rw [k_2]; decide) (cell_2 k_2) ⟨Nat.le_of_ble_eq_true rfl, Nat.le_of_ble_eq_true rfl⟩ dX1_cutAt_10 (fun r10 M10 H locs h hw => ?_)
  exact we_i S hw h dX1_cutAt_13
set_option maxRecDepth 100000 in
set_option maxHeartbeats 4000000 in
theorem k_X1_cutAt (l : Launch) (E : EE) (Z : ZZ) (M : MM) (a0 : Nat) (v1 : Int32) (v2 : Int32) (Q : Int32 → MM → Prop) (h : P_X1_cutAt Z M a0 v1 v2 Q) : Ct_i l yX1_cutAt cX1_cutAt 3 (some .int) rm_X1_cutAt E Z M [.ref a0, .int v1, .int v2] Q := by
  refine Met.ofW (cc := cX1_cutAt) (maxL := 3) (ret := some .int) (by decide) rfl ?_
  intro p e s m args below meth c s₁ B hml hv
  obtain ⟨rfl, hK, hP, hD, hZ⟩ := hv
  have S : Cx p m c meth cX1_cutAt 3 s _ RX1 (some .int) := ⟨⟨B.exec, B.bytes, hml, findClass_of_methodNamed B.named, fun w hw => atoms_spec (ws := ws_ yX1_cutAt cX1_cutAt 3 (some .int)) B.pre w (List.mem_cons_of_mem _ hw)⟩, B.returns, B.notSynchronized⟩
  have hl := lv_entry ([.ref a0, .int v1, .int v2]) (n := 3) (Nat.le_of_ble_eq_true rfl)
  rw [lg_entry_eq]
  generalize (lg_sl ([.ref a0, .int v1, .int v2]) ++ List.replicate (3 - (lg_sl ([.ref a0, .int v1, .int v2])).length) Slot.unset).toArray = ls at hl ⊢
  exact (wB_X1_cutAt_0 S  M a0 v1 v2 h) s.heap [] ls ⟨hK, hP, hD, va_S.rf, hZ⟩ hl
set_option maxRecDepth 100000 in
set_option maxHeartbeats 4000000 in
theorem wB_X1_cutSide_0 (S : Cx p m c meth cX1_cutSide 3 s args RX1 (some .int)) {Q : Int32 → MM → Prop}   (M : MM) (a0 : Nat) (v1 : Int32) (v2 : Int32) (h : B_X1_cutSide_0 Z Q  M a0 v1 v2) : WG p l e rm_X1_cutSide s m args below meth c 0 0 (MQi below E Z args s Q) E Z M 0 3 [(0, .ref a0), (1, .int v1), (2, .int v2)] [] := by
  intro H locs ls hw hl
  have hx := S.1.1
  have hb := S.1.2.1
  refine lv_aload_n hx hb dX1_cutSide_0 rfl (lv_at hl 0 rfl) ?_
  refine lv_iload_n hx hb dX1_cutSide_1 rfl (lv_at hl 1 rfl) ?_
  refine lv_iload_n hx hb dX1_cutSide_2 rfl (lv_at hl 2 rfl) ?_
  obtain ⟨k_0, h⟩ := h
  refine cv_i (As := [.int v1, .int v2]) (rest := []) S.1 hw (k_X1_canCut l E Z M a0 v1 v2 _ h) wv_X1_90 yc_X1_canCut ⟨rfl, rfl⟩ ⟨Nat.le_of_ble_eq_true rfl, Nat.le_of_ble_eq_true rfl⟩ rfl hl.1 (Nat.le_of_ble_eq_true rfl) (ci := 1) (q := (RX1, TX1, 12)) rfl rfl (by rw [k_0]; decide) (cell_1 k_0) ⟨Nat.le_of_ble_eq_true rfl, Nat.le_of_ble_eq_true rfl⟩ dX1_cutSide_3 (fun r3 M3 H locs h hw => ?_)
  refine lv_if_eq (tgt := 19) hx hb dX1_cutSide_6 (by decide) (fun q_6 => ?_) (fun q_6 => ?_)
  · have h := h.1 q_6
    refine lv_iconst (v := 0) hx hb dX1_cutSide_19 (by decide) ?_
    exact we_i S hw h dX1_cutSide_20
  · have h := h.2 q_6
    refine lv_aload_n hx hb dX1_cutSide_9 rfl (lv_at hl 0 rfl) ?_
    refine lv_iload_n hx hb dX1_cutSide_10 rfl (lv_at hl 1 rfl) ?_
    refine lv_iload_n hx hb dX1_cutSide_11 rfl (lv_at hl 2 rfl) ?_
    refine cv_i (As := [.int v1, .int v2]) (rest := []) S.1 hw (k_X1_cutAt l E Z M3 a0 v1 v2 _ h) wv_X1_94 yc_X1_cutAt ⟨rfl, rfl⟩ ⟨Nat.le_of_ble_eq_true rfl, Nat.le_of_ble_eq_true rfl⟩ rfl hl.1 (Nat.le_of_ble_eq_true rfl) (ci := 1) (q := (RX1, TX1, 12)) rfl rfl (by rw [k_0]; decide) (cell_1 k_0) ⟨Nat.le_of_ble_eq_true rfl, Nat.le_of_ble_eq_true rfl⟩ dX1_cutSide_12 (fun r12 M12 H locs h hw => ?_)
    refine lv_iconst (v := 1) hx hb dX1_cutSide_15 (by decide) ?_
    refine lv_icmp_ne (tgt := 21) hx hb dX1_cutSide_16 (by decide) (fun q_16 => ?_) (fun q_16 => ?_)
    · have h := h.1 q_16
      refine lv_aload_n hx hb dX1_cutSide_21 rfl (lv_at hl 0 rfl) ?_
      obtain ⟨y22_1, hy_1, h⟩ := h
      refine gf_X1_45 S.1 hw k_0 hy_1 dX1_cutSide_22 ?_
      refine lv_aload_n hx hb dX1_cutSide_25 rfl (lv_at hl 0 rfl) ?_
      refine lv_iload_n hx hb dX1_cutSide_26 rfl (lv_at hl 1 rfl) ?_
      refine lv_iload_n hx hb dX1_cutSide_27 rfl (lv_at hl 2 rfl) ?_
      refine cv_i (As := [.int v1, .int v2]) (rest := [.ref y22_1]) S.1 hw (k_X1_cutPlace l E Z M12 a0 v1 v2 _ h) wv_X1_87 yc_X1_cutPlace ⟨rfl, rfl⟩ ⟨Nat.le_of_ble_eq_true rfl, Nat.le_of_ble_eq_true rfl⟩ rfl hl.1 (Nat.le_of_ble_eq_true rfl) (ci := 1) (q := (RX1, TX1, 12)) rfl rfl (by rw [k_0]; decide) (cell_1 k_0) ⟨Nat.le_of_ble_eq_true rfl, Nat.le_of_ble_eq_true rfl⟩ dX1_cutSide_28 (fun r28 M28 H locs h hw => ?_)
      refine lv_iconst (v := 1) hx hb dX1_cutSide_31 (by decide) ?_
      obtain ⟨k_2, h⟩ := h
      refine cv_v (As := [.int r28, .int 1]) (rest := []) S.1 hw (k_X2_put l E Z M28 y22_1 r28 1 _ h) wv_X1_65 yc_X2_put ⟨rfl, rfl⟩ ⟨Nat.le_of_ble_eq_true rfl, Nat.le_of_ble_eq_true rfl⟩ rfl hl.1 (Nat.le_of_ble_eq_true rfl) (ci := 2) (q := (RX2, TX2, 1)) rfl rfl (by rw [k_2]; decide) (cell_2 k_2) ⟨Nat.le_of_ble_eq_true rfl, Nat.le_of_ble_eq_true rfl⟩ dX1_cutSide_32 (fun M32 H locs h hw => ?_)
      refine lv_iconst (v := 1) hx hb dX1_cutSide_35 (by decide) ?_
      exact we_i S hw h dX1_cutSide_36
    · have h := h.2 q_16
      refine lv_iconst (v := 0) hx hb dX1_cutSide_19 (by decide) ?_
      exact we_i S hw h dX1_cutSide_20
set_option maxRecDepth 100000 in
set_option maxHeartbeats 4000000 in
theorem k_X1_cutSide (l : Launch) (E : EE) (Z : ZZ) (M : MM) (a0 : Nat) (v1 : Int32) (v2 : Int32) (Q : Int32 → MM → Prop) (h : P_X1_cutSide Z M a0 v1 v2 Q) : Ct_i l yX1_cutSide cX1_cutSide 3 (some .int) rm_X1_cutSide E Z M [.ref a0, .int v1, .int v2] Q := by
  refine Met.ofW (cc := cX1_cutSide) (maxL := 3) (ret := some .int) (by decide) rfl ?_
  intro p e s m args below meth c s₁ B hml hv
  obtain ⟨rfl, hK, hP, hD, hZ⟩ := hv
  have S : Cx p m c meth cX1_cutSide 3 s _ RX1 (some .int) := ⟨⟨B.exec, B.bytes, hml, findClass_of_methodNamed B.named, fun w hw => atoms_spec (ws := ws_ yX1_cutSide cX1_cutSide 3 (some .int)) B.pre w (List.mem_cons_of_mem _ hw)⟩, B.returns, B.notSynchronized⟩
  have hl := lv_entry ([.ref a0, .int v1, .int v2]) (n := 3) (Nat.le_of_ble_eq_true rfl)
  rw [lg_entry_eq]
  generalize (lg_sl ([.ref a0, .int v1, .int v2]) ++ List.replicate (3 - (lg_sl ([.ref a0, .int v1, .int v2])).length) Slot.unset).toArray = ls at hl ⊢
  exact (wB_X1_cutSide_0 S  M a0 v1 v2 h) s.heap [] ls ⟨hK, hP, hD, va_S.rf, hZ⟩ hl
set_option maxRecDepth 100000 in
set_option maxHeartbeats 4000000 in
theorem wB_X1_rowOf_0 (S : Cx p m c meth cX1_rowOf 2 s args RX1 (some .int)) {Q : Int32 → MM → Prop}   (M : MM) (a0 : Nat) (v1 : Int32) (h : B_X1_rowOf_0 Z Q  M a0 v1) : WG p l e rm_X1_rowOf s m args below meth c 0 0 (MQi below E Z args s Q) E Z M 0 2 [(0, .ref a0), (1, .int v1)] [] := by
  intro H locs ls hw hl
  have hx := S.1.1
  have hb := S.1.2.1
  refine lv_aload_n hx hb dX1_rowOf_0 rfl (lv_at hl 0 rfl) ?_
  obtain ⟨k_0, h⟩ := h
  refine gf_X1_11 S.1 hw k_0 dX1_rowOf_1 ?_
  refine lv_if_le (tgt := 16) hx hb dX1_rowOf_4 (by decide) (fun q_4 => ?_) (fun q_4 => ?_)
  · have h := h.1 q_4
    refine lv_iconst (v := 0) hx hb dX1_rowOf_16 (by decide) ?_
    exact we_i S hw h dX1_rowOf_17
  · have h := h.2 q_4
    refine lv_iload_n hx hb dX1_rowOf_7 rfl (lv_at hl 1 rfl) ?_
    refine lv_aload_n hx hb dX1_rowOf_8 rfl (lv_at hl 0 rfl) ?_
    refine gf_X1_11 S.1 hw k_0 dX1_rowOf_9 ?_
    obtain ⟨z_12, h⟩ := h
    refine lv_idiv hx hb dX1_rowOf_12 z_12 ?_
    refine lv_goto (tgt := 17) hx hb dX1_rowOf_13 (by decide) ?_
    exact we_i S hw h dX1_rowOf_17
set_option maxRecDepth 100000 in
set_option maxHeartbeats 4000000 in
theorem k_X1_rowOf (l : Launch) (E : EE) (Z : ZZ) (M : MM) (a0 : Nat) (v1 : Int32) (Q : Int32 → MM → Prop) (h : P_X1_rowOf Z M a0 v1 Q) : Ct_i l yX1_rowOf cX1_rowOf 2 (some .int) rm_X1_rowOf E Z M [.ref a0, .int v1] Q := by
  refine Met.ofW (cc := cX1_rowOf) (maxL := 2) (ret := some .int) (by decide) rfl ?_
  intro p e s m args below meth c s₁ B hml hv
  obtain ⟨rfl, hK, hP, hD, hZ⟩ := hv
  have S : Cx p m c meth cX1_rowOf 2 s _ RX1 (some .int) := ⟨⟨B.exec, B.bytes, hml, findClass_of_methodNamed B.named, fun w hw => atoms_spec (ws := ws_ yX1_rowOf cX1_rowOf 2 (some .int)) B.pre w (List.mem_cons_of_mem _ hw)⟩, B.returns, B.notSynchronized⟩
  have hl := lv_entry ([.ref a0, .int v1]) (n := 2) (Nat.le_of_ble_eq_true rfl)
  rw [lg_entry_eq]
  generalize (lg_sl ([.ref a0, .int v1]) ++ List.replicate (2 - (lg_sl ([.ref a0, .int v1])).length) Slot.unset).toArray = ls at hl ⊢
  exact (wB_X1_rowOf_0 S  M a0 v1 h) s.heap [] ls ⟨hK, hP, hD, va_S.rf, hZ⟩ hl
set_option maxRecDepth 100000 in
set_option maxHeartbeats 4000000 in
theorem wB_X1_cutRectangle_58 (S : Cx p m c meth cX1_cutRectangle 6 s args RX1 (some .int)) {Q : Int32 → MM → Prop} {K58 : MM → Nat → Int32 → Int32 → Int32 → Int32 → Int32 → Prop} (hK58 : ∀ (M : MM) (a0 : Nat) (v1 : Int32) (v2 : Int32) (v3 : Int32) (v4 : Int32) (v5 : Int32), K58 M a0 v1 v2 v3 v4 v5 → WG p l e rm_X1_cutRectangle s m args below meth c 0 0 (MQi below E Z args s Q) E Z M 58 6 [(0, .ref a0), (1, .int v1), (2, .int v2), (3, .int v3), (4, .int v4), (5, .int v5)] []) (M : MM) (a0 : Nat) (v1 : Int32) (v2 : Int32) (v3 : Int32) (v4 : Int32) (v5 : Int32) (h : B_X1_cutRectangle_58 Z Q K58 M a0 v1 v2 v3 v4 v5) : WG p l e rm_X1_cutRectangle s m args below meth c 0 0 (MQi below E Z args s Q) E Z M 58 6 [(0, .ref a0), (1, .int v1), (2, .int v2), (3, .int v3), (4, .int v4), (5, .int v5)] [] := by
  intro H locs ls hw hl
  have hx := S.1.1
  have hb := S.1.2.1
  refine lv_iload hx hb dX1_cutRectangle_58 (lv_at hl 5 rfl) ?_
  refine lv_iload_n hx hb dX1_cutRectangle_60 rfl (lv_at hl 3 rfl) ?_
  refine lv_icmp_ge (tgt := 112) hx hb dX1_cutRectangle_61 (by decide) (fun q_61 => ?_) (fun q_61 => ?_)
  · have h := h.1 q_61
    refine lv_iload hx hb dX1_cutRectangle_112 (lv_at hl 4 rfl) ?_
    exact we_i S hw h dX1_cutRectangle_114
  · have h := h.2 q_61
    refine lv_iload hx hb dX1_cutRectangle_64 (lv_at hl 4 rfl) ?_
    refine lv_aload_n hx hb dX1_cutRectangle_66 rfl (lv_at hl 0 rfl) ?_
    refine lv_iload_n hx hb dX1_cutRectangle_67 rfl (lv_at hl 1 rfl) ?_
    refine lv_iload hx hb dX1_cutRectangle_68 (lv_at hl 5 rfl) ?_
    refine lv_aload_n hx hb dX1_cutRectangle_70 rfl (lv_at hl 0 rfl) ?_
    obtain ⟨k_0, h⟩ := h
    refine gf_X1_11 S.1 hw k_0 dX1_cutRectangle_71 ?_
    refine lv_imul hx hb dX1_cutRectangle_74 ?_
    refine lv_iadd hx hb dX1_cutRectangle_75 ?_
    refine lv_iconst (v := 3) hx hb dX1_cutRectangle_76 (by decide) ?_
    refine cv_i (As := [.int (v1 + (v5 * (mI M 0 a0))), .int 3]) (rest := [.int v4]) S.1 hw (k_X1_cutSide l E Z M a0 (v1 + (v5 * (mI M 0 a0))) 3 _ h) wv_X1_97 yc_X1_cutSide ⟨rfl, rfl⟩ ⟨Nat.le_of_ble_eq_true rfl, Nat.le_of_ble_eq_true rfl⟩ rfl hl.1 (Nat.le_of_ble_eq_true rfl) (ci := 1) (q := (RX1, TX1, 12)) rfl rfl (by rw [k_0]; decide) (cell_1 k_0) ⟨Nat.le_of_ble_eq_true rfl, Nat.le_of_ble_eq_true rfl⟩ dX1_cutRectangle_77 (fun r77 M77 H locs h hw => ?_)
    refine lv_iadd hx hb dX1_cutRectangle_80 ?_
    refine lv_istore (lv' := [(4, .int (v4 + r77)), (0, .ref a0), (1, .int v1), (2, .int v2), (3, .int v3), (5, .int v5)]) hx hb dX1_cutRectangle_81 hl (by decide) rfl (fun ls hl => ?_)
    refine lv_iload hx hb dX1_cutRectangle_83 (lv_at hl 0 rfl) ?_
    refine lv_aload_n hx hb dX1_cutRectangle_85 rfl (lv_at hl 1 rfl) ?_
    refine lv_iload_n hx hb dX1_cutRectangle_86 rfl (lv_at hl 2 rfl) ?_
    refine lv_iload hx hb dX1_cutRectangle_87 (lv_at hl 5 rfl) ?_
    refine lv_aload_n hx hb dX1_cutRectangle_89 rfl (lv_at hl 1 rfl) ?_
    refine gf_X1_11 S.1 hw k_0 dX1_cutRectangle_90 ?_
    refine lv_imul hx hb dX1_cutRectangle_93 ?_
    refine lv_iadd hx hb dX1_cutRectangle_94 ?_
    refine lv_iload_n hx hb dX1_cutRectangle_95 rfl (lv_at hl 3 rfl) ?_
    refine lv_iadd hx hb dX1_cutRectangle_96 ?_
    refine lv_iconst (v := 1) hx hb dX1_cutRectangle_97 (by decide) ?_
    refine lv_isub hx hb dX1_cutRectangle_98 ?_
    refine lv_iconst (v := 0) hx hb dX1_cutRectangle_99 (by decide) ?_
    refine cv_i (As := [.int (((v1 + (v5 * (mI M77 0 a0))) + v2) - 1), .int 0]) (rest := [.int (v4 + r77)]) S.1 hw (k_X1_cutSide l E Z M77 a0 (((v1 + (v5 * (mI M77 0 a0))) + v2) - 1) 0 _ h) wv_X1_97 yc_X1_cutSide ⟨rfl, rfl⟩ ⟨Nat.le_of_ble_eq_true rfl, Nat.le_of_ble_eq_true rfl⟩ rfl hl.1 (Nat.le_of_ble_eq_true rfl) (ci := 1) (q := (RX1, TX1, 12)) rfl rfl (by rw [k_0]; decide) (cell_1 k_0) ⟨Nat.le_of_ble_eq_true rfl, Nat.le_of_ble_eq_true rfl⟩ dX1_cutRectangle_100 (fun r100 M100 H locs h hw => ?_)
    refine lv_iadd hx hb dX1_cutRectangle_103 ?_
    refine lv_istore (lv' := [(4, .int ((v4 + r77) + r100)), (0, .ref a0), (1, .int v1), (2, .int v2), (3, .int v3), (5, .int v5)]) hx hb dX1_cutRectangle_104 hl (by decide) rfl (fun ls hl => ?_)
    refine lv_iinc (v := (v5 + 1)) (lv' := [(5, .int (v5 + 1)), (4, .int ((v4 + r77) + r100)), (0, .ref a0), (1, .int v1), (2, .int v2), (3, .int v3)]) hx hb dX1_cutRectangle_106 hl (k := 5) rfl rfl (by decide) rfl (fun ls hl => ?_)
    refine lv_goto (tgt := 58) hx hb dX1_cutRectangle_109 (by decide) ?_
    exact (hK58 _ _ _ _ _ _ _ h) H locs ls hw (lv_sub hl [2, 3, 4, 5, 1, 0] rfl)
theorem wL_X1_cutRectangle_58 (S : Cx p m c meth cX1_cutRectangle 6 s args RX1 (some .int)) {Q : Int32 → MM → Prop}   : ∀ (n : Nat) (M : MM) (a0 : Nat) (v1 : Int32) (v2 : Int32) (v3 : Int32) (v4 : Int32) (v5 : Int32), L_X1_cutRectangle_58 Z Q  n M a0 v1 v2 v3 v4 v5 → WG p l e rm_X1_cutRectangle s m args below meth c 0 0 (MQi below E Z args s Q) E Z M 58 6 [(0, .ref a0), (1, .int v1), (2, .int v2), (3, .int v3), (4, .int v4), (5, .int v5)] []
  | 0, _, _, _, _, _, _, _, h => False.elim h
  | n + 1, M, a0, v1, v2, v3, v4, v5, h => wB_X1_cutRectangle_58 S  (wL_X1_cutRectangle_58 S   n) M a0 v1 v2 v3 v4 v5 h
set_option maxRecDepth 100000 in
set_option maxHeartbeats 4000000 in
theorem wB_X1_cutRectangle_6 (S : Cx p m c meth cX1_cutRectangle 6 s args RX1 (some .int)) {Q : Int32 → MM → Prop} {K6 : MM → Nat → Int32 → Int32 → Int32 → Int32 → Int32 → Prop} (hK6 : ∀ (M : MM) (a0 : Nat) (v1 : Int32) (v2 : Int32) (v3 : Int32) (v4 : Int32) (v5 : Int32), K6 M a0 v1 v2 v3 v4 v5 → WG p l e rm_X1_cutRectangle s m args below meth c 0 0 (MQi below E Z args s Q) E Z M 6 6 [(0, .ref a0), (1, .int v1), (2, .int v2), (3, .int v3), (4, .int v4), (5, .int v5)] []) (M : MM) (a0 : Nat) (v1 : Int32) (v2 : Int32) (v3 : Int32) (v4 : Int32) (v5 : Int32) (h : B_X1_cutRectangle_6 Z Q K6 M a0 v1 v2 v3 v4 v5) : WG p l e rm_X1_cutRectangle s m args below meth c 0 0 (MQi below E Z args s Q) E Z M 6 6 [(0, .ref a0), (1, .int v1), (2, .int v2), (3, .int v3), (4, .int v4), (5, .int v5)] [] := by
  intro H locs ls hw hl
  have hx := S.1.1
  have hb := S.1.2.1
  refine lv_iload hx hb dX1_cutRectangle_6 (lv_at hl 5 rfl) ?_
  refine lv_iload_n hx hb dX1_cutRectangle_8 rfl (lv_at hl 2 rfl) ?_
  refine lv_icmp_ge (tgt := 55) hx hb dX1_cutRectangle_9 (by decide) (fun q_9 => ?_) (fun q_9 => ?_)
  · have h := h.1 q_9
    refine lv_iconst (v := 0) hx hb dX1_cutRectangle_55 (by decide) ?_
    refine lv_istore (lv' := [(5, .int 0), (0, .ref a0), (1, .int v1), (2, .int v2), (3, .int v3), (4, .int v4)]) hx hb dX1_cutRectangle_56 hl (by decide) rfl (fun ls hl => ?_)
    exact ((Exists.elim h (fun n h => wL_X1_cutRectangle_58 S   n _ _ _ _ _ _ _ h))) H locs ls hw (lv_sub hl [1, 2, 3, 4, 5, 0] rfl)
  · have h := h.2 q_9
    refine lv_iload hx hb dX1_cutRectangle_12 (lv_at hl 4 rfl) ?_
    refine lv_aload_n hx hb dX1_cutRectangle_14 rfl (lv_at hl 0 rfl) ?_
    refine lv_iload_n hx hb dX1_cutRectangle_15 rfl (lv_at hl 1 rfl) ?_
    refine lv_iload hx hb dX1_cutRectangle_16 (lv_at hl 5 rfl) ?_
    refine lv_iadd hx hb dX1_cutRectangle_18 ?_
    refine lv_iconst (v := 2) hx hb dX1_cutRectangle_19 (by decide) ?_
    obtain ⟨k_0, h⟩ := h
    refine cv_i (As := [.int (v1 + v5), .int 2]) (rest := [.int v4]) S.1 hw (k_X1_cutSide l E Z M a0 (v1 + v5) 2 _ h) wv_X1_97 yc_X1_cutSide ⟨rfl, rfl⟩ ⟨Nat.le_of_ble_eq_true rfl, Nat.le_of_ble_eq_true rfl⟩ rfl hl.1 (Nat.le_of_ble_eq_true rfl) (ci := 1) (q := (RX1, TX1, 12)) rfl rfl (by rw [k_0]; decide) (cell_1 k_0) ⟨Nat.le_of_ble_eq_true rfl, Nat.le_of_ble_eq_true rfl⟩ dX1_cutRectangle_20 (fun r20 M20 H locs h hw => ?_)
    refine lv_iadd hx hb dX1_cutRectangle_23 ?_
    refine lv_istore (lv' := [(4, .int (v4 + r20)), (0, .ref a0), (1, .int v1), (2, .int v2), (3, .int v3), (5, .int v5)]) hx hb dX1_cutRectangle_24 hl (by decide) rfl (fun ls hl => ?_)
    refine lv_iload hx hb dX1_cutRectangle_26 (lv_at hl 0 rfl) ?_
    refine lv_aload_n hx hb dX1_cutRectangle_28 rfl (lv_at hl 1 rfl) ?_
    refine lv_iload_n hx hb dX1_cutRectangle_29 rfl (lv_at hl 2 rfl) ?_
    refine lv_iload_n hx hb dX1_cutRectangle_30 rfl (lv_at hl 4 rfl) ?_
    refine lv_iconst (v := 1) hx hb dX1_cutRectangle_31 (by decide) ?_
    refine lv_isub hx hb dX1_cutRectangle_32 ?_
    refine lv_aload_n hx hb dX1_cutRectangle_33 rfl (lv_at hl 1 rfl) ?_
    refine gf_X1_11 S.1 hw k_0 dX1_cutRectangle_34 ?_
    refine lv_imul hx hb dX1_cutRectangle_37 ?_
    refine lv_iadd hx hb dX1_cutRectangle_38 ?_
    refine lv_iload hx hb dX1_cutRectangle_39 (lv_at hl 5 rfl) ?_
    refine lv_iadd hx hb dX1_cutRectangle_41 ?_
    refine lv_iconst (v := 1) hx hb dX1_cutRectangle_42 (by decide) ?_
    refine cv_i (As := [.int ((v1 + ((v3 - 1) * (mI M20 0 a0))) + v5), .int 1]) (rest := [.int (v4 + r20)]) S.1 hw (k_X1_cutSide l E Z M20 a0 ((v1 + ((v3 - 1) * (mI M20 0 a0))) + v5) 1 _ h) wv_X1_97 yc_X1_cutSide ⟨rfl, rfl⟩ ⟨Nat.le_of_ble_eq_true rfl, Nat.le_of_ble_eq_true rfl⟩ rfl hl.1 (Nat.le_of_ble_eq_true rfl) (ci := 1) (q := (RX1, TX1, 12)) rfl rfl (by rw [k_0]; decide) (cell_1 k_0) ⟨Nat.le_of_ble_eq_true rfl, Nat.le_of_ble_eq_true rfl⟩ dX1_cutRectangle_43 (fun r43 M43 H locs h hw => ?_)
    refine lv_iadd hx hb dX1_cutRectangle_46 ?_
    refine lv_istore (lv' := [(4, .int ((v4 + r20) + r43)), (0, .ref a0), (1, .int v1), (2, .int v2), (3, .int v3), (5, .int v5)]) hx hb dX1_cutRectangle_47 hl (by decide) rfl (fun ls hl => ?_)
    refine lv_iinc (v := (v5 + 1)) (lv' := [(5, .int (v5 + 1)), (4, .int ((v4 + r20) + r43)), (0, .ref a0), (1, .int v1), (2, .int v2), (3, .int v3)]) hx hb dX1_cutRectangle_49 hl (k := 5) rfl rfl (by decide) rfl (fun ls hl => ?_)
    refine lv_goto (tgt := 6) hx hb dX1_cutRectangle_52 (by decide) ?_
    exact (hK6 _ _ _ _ _ _ _ h) H locs ls hw (lv_sub hl [2, 3, 4, 5, 1, 0] rfl)
theorem wL_X1_cutRectangle_6 (S : Cx p m c meth cX1_cutRectangle 6 s args RX1 (some .int)) {Q : Int32 → MM → Prop}   : ∀ (n : Nat) (M : MM) (a0 : Nat) (v1 : Int32) (v2 : Int32) (v3 : Int32) (v4 : Int32) (v5 : Int32), L_X1_cutRectangle_6 Z Q  n M a0 v1 v2 v3 v4 v5 → WG p l e rm_X1_cutRectangle s m args below meth c 0 0 (MQi below E Z args s Q) E Z M 6 6 [(0, .ref a0), (1, .int v1), (2, .int v2), (3, .int v3), (4, .int v4), (5, .int v5)] []
  | 0, _, _, _, _, _, _, _, h => False.elim h
  | n + 1, M, a0, v1, v2, v3, v4, v5, h => wB_X1_cutRectangle_6 S  (wL_X1_cutRectangle_6 S   n) M a0 v1 v2 v3 v4 v5 h
set_option maxRecDepth 100000 in
set_option maxHeartbeats 4000000 in
theorem wB_X1_cutRectangle_0 (S : Cx p m c meth cX1_cutRectangle 6 s args RX1 (some .int)) {Q : Int32 → MM → Prop}   (M : MM) (a0 : Nat) (v1 : Int32) (v2 : Int32) (v3 : Int32) (h : B_X1_cutRectangle_0 Z Q  M a0 v1 v2 v3) : WG p l e rm_X1_cutRectangle s m args below meth c 0 0 (MQi below E Z args s Q) E Z M 0 6 [(0, .ref a0), (1, .int v1), (2, .int v2), (3, .int v3)] [] := by
  intro H locs ls hw hl
  have hx := S.1.1
  have hb := S.1.2.1
  refine lv_iconst (v := 0) hx hb dX1_cutRectangle_0 (by decide) ?_
  refine lv_istore (lv' := [(4, .int 0), (0, .ref a0), (1, .int v1), (2, .int v2), (3, .int v3)]) hx hb dX1_cutRectangle_1 hl (by decide) rfl (fun ls hl => ?_)
  refine lv_iconst (v := 0) hx hb dX1_cutRectangle_3 (by decide) ?_
  refine lv_istore (lv' := [(5, .int 0), (4, .int 0), (0, .ref a0), (1, .int v1), (2, .int v2), (3, .int v3)]) hx hb dX1_cutRectangle_4 hl (by decide) rfl (fun ls hl => ?_)
  exact ((Exists.elim h (fun n h => wL_X1_cutRectangle_6 S   n _ _ _ _ _ _ _ h))) H locs ls hw (lv_sub hl [2, 3, 4, 5, 1, 0] rfl)
set_option maxRecDepth 100000 in
set_option maxHeartbeats 4000000 in
theorem k_X1_cutRectangle (l : Launch) (E : EE) (Z : ZZ) (M : MM) (a0 : Nat) (v1 : Int32) (v2 : Int32) (v3 : Int32) (Q : Int32 → MM → Prop) (h : P_X1_cutRectangle Z M a0 v1 v2 v3 Q) : Ct_i l yX1_cutRectangle cX1_cutRectangle 6 (some .int) rm_X1_cutRectangle E Z M [.ref a0, .int v1, .int v2, .int v3] Q := by
  refine Met.ofW (cc := cX1_cutRectangle) (maxL := 6) (ret := some .int) (by decide) rfl ?_
  intro p e s m args below meth c s₁ B hml hv
  obtain ⟨rfl, hK, hP, hD, hZ⟩ := hv
  have S : Cx p m c meth cX1_cutRectangle 6 s _ RX1 (some .int) := ⟨⟨B.exec, B.bytes, hml, findClass_of_methodNamed B.named, fun w hw => atoms_spec (ws := ws_ yX1_cutRectangle cX1_cutRectangle 6 (some .int)) B.pre w (List.mem_cons_of_mem _ hw)⟩, B.returns, B.notSynchronized⟩
  have hl := lv_entry ([.ref a0, .int v1, .int v2, .int v3]) (n := 6) (Nat.le_of_ble_eq_true rfl)
  rw [lg_entry_eq]
  generalize (lg_sl ([.ref a0, .int v1, .int v2, .int v3]) ++ List.replicate (6 - (lg_sl ([.ref a0, .int v1, .int v2, .int v3])).length) Slot.unset).toArray = ls at hl ⊢
  exact (wB_X1_cutRectangle_0 S  M a0 v1 v2 v3 h) s.heap [] ls ⟨hK, hP, hD, va_S.rf, hZ⟩ hl
set_option maxRecDepth 100000 in
set_option maxHeartbeats 4000000 in
theorem wB_X1_isIce_0 (S : Cx p m c meth cX1_isIce 2 s args RX1 (some .boolean)) {Q : Int32 → MM → Prop}   (M : MM) (a0 : Nat) (v1 : Int32) (h : B_X1_isIce_0 Z Q  M a0 v1) : WG p l e rm_X1_isIce s m args below meth c 0 0 (MQi below E Z args s Q) E Z M 0 2 [(0, .ref a0), (1, .int v1)] [] := by
  intro H locs ls hw hl
  have hx := S.1.1
  have hb := S.1.2.1
  refine lv_aload_n hx hb dX1_isIce_0 rfl (lv_at hl 0 rfl) ?_
  obtain ⟨k_0, h⟩ := h
  obtain ⟨y1_1, hy_1, h⟩ := h
  refine gf_X1_41 S.1 hw k_0 hy_1 dX1_isIce_1 ?_
  refine lv_iload_n hx hb dX1_isIce_4 rfl (lv_at hl 1 rfl) ?_
  obtain ⟨k_2, h⟩ := h
  refine cv_i (As := [.int v1]) (rest := []) S.1 hw (k_X2_at l E Z M y1_1 v1 _ h) wv_X1_61 yc_X2_at ⟨rfl, rfl⟩ ⟨Nat.le_of_ble_eq_true rfl, Nat.le_of_ble_eq_true rfl⟩ rfl hl.1 (Nat.le_of_ble_eq_true rfl) (ci := 2) (q := (RX2, TX2, 1)) rfl rfl (by rw [k_2]; decide) (cell_2 k_2) ⟨Nat.le_of_ble_eq_true rfl, Nat.le_of_ble_eq_true rfl⟩ dX1_isIce_5 (fun r5 M5 H locs h hw => ?_)
  refine lv_if_le (tgt := 15) hx hb dX1_isIce_8 (by decide) (fun q_8 => ?_) (fun q_8 => ?_)
  · have h := h.1 q_8
    refine lv_iconst (v := 0) hx hb dX1_isIce_15 (by decide) ?_
    exact we_z S hw rfl (by rfl) h dX1_isIce_16
  · have h := h.2 q_8
    refine lv_iconst (v := 1) hx hb dX1_isIce_11 (by decide) ?_
    refine lv_goto (tgt := 16) hx hb dX1_isIce_12 (by decide) ?_
    exact we_z S hw rfl (by rfl) h dX1_isIce_16
set_option maxRecDepth 100000 in
set_option maxHeartbeats 4000000 in
theorem k_X1_isIce (l : Launch) (E : EE) (Z : ZZ) (M : MM) (a0 : Nat) (v1 : Int32) (Q : Int32 → MM → Prop) (h : P_X1_isIce Z M a0 v1 Q) : Ct_i l yX1_isIce cX1_isIce 2 (some .boolean) rm_X1_isIce E Z M [.ref a0, .int v1] Q := by
  refine Met.ofW (cc := cX1_isIce) (maxL := 2) (ret := some .boolean) (by decide) rfl ?_
  intro p e s m args below meth c s₁ B hml hv
  obtain ⟨rfl, hK, hP, hD, hZ⟩ := hv
  have S : Cx p m c meth cX1_isIce 2 s _ RX1 (some .boolean) := ⟨⟨B.exec, B.bytes, hml, findClass_of_methodNamed B.named, fun w hw => atoms_spec (ws := ws_ yX1_isIce cX1_isIce 2 (some .boolean)) B.pre w (List.mem_cons_of_mem _ hw)⟩, B.returns, B.notSynchronized⟩
  have hl := lv_entry ([.ref a0, .int v1]) (n := 2) (Nat.le_of_ble_eq_true rfl)
  rw [lg_entry_eq]
  generalize (lg_sl ([.ref a0, .int v1]) ++ List.replicate (2 - (lg_sl ([.ref a0, .int v1])).length) Slot.unset).toArray = ls at hl ⊢
  exact (wB_X1_isIce_0 S  M a0 v1 h) s.heap [] ls ⟨hK, hP, hD, va_S.rf, hZ⟩ hl
set_option maxRecDepth 100000 in
set_option maxHeartbeats 4000000 in
theorem wB_X1_isTiedToShore_0 (S : Cx p m c meth cX1_isTiedToShore 2 s args RX1 (some .boolean)) {Q : Int32 → MM → Prop}   (M : MM) (a0 : Nat) (v1 : Int32) (h : B_X1_isTiedToShore_0 Z Q  M a0 v1) : WG p l e rm_X1_isTiedToShore s m args below meth c 0 0 (MQi below E Z args s Q) E Z M 0 2 [(0, .ref a0), (1, .int v1)] [] := by
  intro H locs ls hw hl
  have hx := S.1.1
  have hb := S.1.2.1
  refine lv_iload_n hx hb dX1_isTiedToShore_0 rfl (lv_at hl 1 rfl) ?_
  refine lv_aload_n hx hb dX1_isTiedToShore_1 rfl (lv_at hl 0 rfl) ?_
  obtain ⟨k_0, h⟩ := h
  refine gf_X1_11 S.1 hw k_0 dX1_isTiedToShore_2 ?_
  refine lv_icmp_ge (tgt := 21) hx hb dX1_isTiedToShore_5 (by decide) (fun q_5 => ?_) (fun q_5 => ?_)
  · have h := h.1 q_5
    refine lv_iconst (v := 0) hx hb dX1_isTiedToShore_21 (by decide) ?_
    exact we_z S hw rfl (by rfl) h dX1_isTiedToShore_22
  · have h := h.2 q_5
    refine lv_aload_n hx hb dX1_isTiedToShore_8 rfl (lv_at hl 0 rfl) ?_
    refine lv_iload_n hx hb dX1_isTiedToShore_9 rfl (lv_at hl 1 rfl) ?_
    refine lv_iconst (v := 2) hx hb dX1_isTiedToShore_10 (by decide) ?_
    refine cv_i (As := [.int v1, .int 2]) (rest := []) S.1 hw (k_X1_cutAt l E Z M a0 v1 2 _ h) wv_X1_94 yc_X1_cutAt ⟨rfl, rfl⟩ ⟨Nat.le_of_ble_eq_true rfl, Nat.le_of_ble_eq_true rfl⟩ rfl hl.1 (Nat.le_of_ble_eq_true rfl) (ci := 1) (q := (RX1, TX1, 12)) rfl rfl (by rw [k_0]; decide) (cell_1 k_0) ⟨Nat.le_of_ble_eq_true rfl, Nat.le_of_ble_eq_true rfl⟩ dX1_isTiedToShore_11 (fun r11 M11 H locs h hw => ?_)
    refine lv_if_ne (tgt := 21) hx hb dX1_isTiedToShore_14 (by decide) (fun q_14 => ?_) (fun q_14 => ?_)
    · have h := h.1 q_14
      refine lv_iconst (v := 0) hx hb dX1_isTiedToShore_21 (by decide) ?_
      exact we_z S hw rfl (by rfl) h dX1_isTiedToShore_22
    · have h := h.2 q_14
      refine lv_iconst (v := 1) hx hb dX1_isTiedToShore_17 (by decide) ?_
      refine lv_goto (tgt := 22) hx hb dX1_isTiedToShore_18 (by decide) ?_
      exact we_z S hw rfl (by rfl) h dX1_isTiedToShore_22
set_option maxRecDepth 100000 in
set_option maxHeartbeats 4000000 in
theorem k_X1_isTiedToShore (l : Launch) (E : EE) (Z : ZZ) (M : MM) (a0 : Nat) (v1 : Int32) (Q : Int32 → MM → Prop) (h : P_X1_isTiedToShore Z M a0 v1 Q) : Ct_i l yX1_isTiedToShore cX1_isTiedToShore 2 (some .boolean) rm_X1_isTiedToShore E Z M [.ref a0, .int v1] Q := by
  refine Met.ofW (cc := cX1_isTiedToShore) (maxL := 2) (ret := some .boolean) (by decide) rfl ?_
  intro p e s m args below meth c s₁ B hml hv
  obtain ⟨rfl, hK, hP, hD, hZ⟩ := hv
  have S : Cx p m c meth cX1_isTiedToShore 2 s _ RX1 (some .boolean) := ⟨⟨B.exec, B.bytes, hml, findClass_of_methodNamed B.named, fun w hw => atoms_spec (ws := ws_ yX1_isTiedToShore cX1_isTiedToShore 2 (some .boolean)) B.pre w (List.mem_cons_of_mem _ hw)⟩, B.returns, B.notSynchronized⟩
  have hl := lv_entry ([.ref a0, .int v1]) (n := 2) (Nat.le_of_ble_eq_true rfl)
  rw [lg_entry_eq]
  generalize (lg_sl ([.ref a0, .int v1]) ++ List.replicate (2 - (lg_sl ([.ref a0, .int v1])).length) Slot.unset).toArray = ls at hl ⊢
  exact (wB_X1_isTiedToShore_0 S  M a0 v1 h) s.heap [] ls ⟨hK, hP, hD, va_S.rf, hZ⟩ hl
set_option maxRecDepth 100000 in
set_option maxHeartbeats 4000000 in
theorem wB_X0_spread_146 (S : Cx p m c meth cX0_spread 8 s args RX0 (none)) {Q : MM → Prop} {K68 : MM → Nat → Nat → Int32 → Int32 → Int32 → Int32 → Int32 → Prop} (hK68 : ∀ (M : MM) (a0 : Nat) (a1 : Nat) (v2 : Int32) (v3 : Int32) (v4 : Int32) (v5 : Int32) (v6 : Int32), K68 M a0 a1 v2 v3 v4 v5 v6 → WG p l e rm_X0_spread s m args below meth c 0 0 (MQv below E Z args s Q) E Z M 68 8 [(0, .ref a0), (1, .ref a1), (2, .int v2), (3, .int v3), (4, .int v4), (5, .int v5), (6, .int v6)] []) (M : MM) (a0 : Nat) (a1 : Nat) (v2 : Int32) (v3 : Int32) (v4 : Int32) (v5 : Int32) (v6 : Int32) (h : B_X0_spread_146 Z Q K68 M a0 a1 v2 v3 v4 v5 v6) : WG p l e rm_X0_spread s m args below meth c 0 0 (MQv below E Z args s Q) E Z M 146 8 [(0, .ref a0), (1, .ref a1), (2, .int v2), (3, .int v3), (4, .int v4), (5, .int v5), (6, .int v6)] [] := by
  intro H locs ls hw hl
  have hx := S.1.1
  have hb := S.1.2.1
  refine lv_iinc (v := (v6 + 1)) (lv' := [(6, .int (v6 + 1)), (0, .ref a0), (1, .ref a1), (2, .int v2), (3, .int v3), (4, .int v4), (5, .int v5)]) hx hb dX0_spread_146 hl (k := 6) rfl rfl (by decide) rfl (fun ls hl => ?_)
  refine lv_goto (tgt := 68) hx hb dX0_spread_149 (by decide) ?_
  exact (hK68 _ _ _ _ _ _ _ _ h) H locs ls hw (lv_sub hl [1, 2, 3, 4, 5, 6, 0] rfl)
set_option maxRecDepth 100000 in
set_option maxHeartbeats 4000000 in
theorem wB_X0_spread_68 (S : Cx p m c meth cX0_spread 8 s args RX0 (none)) {Q : MM → Prop} {K23 : MM → Nat → Nat → Int32 → Int32 → Int32 → Prop} {K68 : MM → Nat → Nat → Int32 → Int32 → Int32 → Int32 → Int32 → Prop} (hK23 : ∀ (M : MM) (a0 : Nat) (a1 : Nat) (v2 : Int32) (v3 : Int32) (v4 : Int32), K23 M a0 a1 v2 v3 v4 → WG p l e rm_X0_spread s m args below meth c 0 0 (MQv below E Z args s Q) E Z M 23 8 [(0, .ref a0), (1, .ref a1), (2, .int v2), (3, .int v3), (4, .int v4)] []) (hK68 : ∀ (M : MM) (a0 : Nat) (a1 : Nat) (v2 : Int32) (v3 : Int32) (v4 : Int32) (v5 : Int32) (v6 : Int32), K68 M a0 a1 v2 v3 v4 v5 v6 → WG p l e rm_X0_spread s m args below meth c 0 0 (MQv below E Z args s Q) E Z M 68 8 [(0, .ref a0), (1, .ref a1), (2, .int v2), (3, .int v3), (4, .int v4), (5, .int v5), (6, .int v6)] []) (M : MM) (a0 : Nat) (a1 : Nat) (v2 : Int32) (v3 : Int32) (v4 : Int32) (v5 : Int32) (v6 : Int32) (h : B_X0_spread_68 Z Q K23 K68 M a0 a1 v2 v3 v4 v5 v6) : WG p l e rm_X0_spread s m args below meth c 0 0 (MQv below E Z args s Q) E Z M 68 8 [(0, .ref a0), (1, .ref a1), (2, .int v2), (3, .int v3), (4, .int v4), (5, .int v5), (6, .int v6)] [] := by
  intro H locs ls hw hl
  have hx := S.1.1
  have hb := S.1.2.1
  refine lv_iload hx hb dX0_spread_68 (lv_at hl 6 rfl) ?_
  refine lv_iconst (v := 4) hx hb dX0_spread_70 (by decide) ?_
  refine lv_icmp_ge (tgt := 152) hx hb dX0_spread_71 (by decide) (fun q_71 => ?_) (fun q_71 => ?_)
  · have h := h.1 q_71
    refine lv_iinc (v := (v4 + 1)) (lv' := [(4, .int (v4 + 1)), (0, .ref a0), (1, .ref a1), (2, .int v2), (3, .int v3), (5, .int v5), (6, .int v6)]) hx hb dX0_spread_152 hl (k := 4) rfl rfl (by decide) rfl (fun ls hl => ?_)
    refine lv_goto (tgt := 23) hx hb dX0_spread_155 (by decide) ?_
    exact (hK23 _ _ _ _ _ _ h) H locs ls hw (lv_sub hl [1, 2, 3, 4, 0] rfl)
  · have h := h.2 q_71
    refine lv_aload_n hx hb dX0_spread_74 rfl (lv_at hl 1 rfl) ?_
    refine lv_iload hx hb dX0_spread_75 (lv_at hl 5 rfl) ?_
    refine lv_iload hx hb dX0_spread_77 (lv_at hl 6 rfl) ?_
    obtain ⟨k_0, h⟩ := h
    refine cv_i (As := [.int v5, .int v6]) (rest := []) S.1 hw (k_X1_beside l E Z M a1 v5 v6 _ h) wv_X0_54 yc_X1_beside ⟨rfl, rfl⟩ ⟨Nat.le_of_ble_eq_true rfl, Nat.le_of_ble_eq_true rfl⟩ rfl hl.1 (Nat.le_of_ble_eq_true rfl) (ci := 1) (q := (RX1, TX1, 12)) rfl rfl (by rw [k_0]; decide) (cell_1 k_0) ⟨Nat.le_of_ble_eq_true rfl, Nat.le_of_ble_eq_true rfl⟩ dX0_spread_79 (fun r79 M79 H locs h hw => ?_)
    refine lv_istore (lv' := [(7, .int r79), (0, .ref a0), (1, .ref a1), (2, .int v2), (3, .int v3), (4, .int v4), (5, .int v5), (6, .int v6)]) hx hb dX0_spread_82 hl (by decide) rfl (fun ls hl => ?_)
    refine lv_iload hx hb dX0_spread_84 (lv_at hl 0 rfl) ?_
    refine lv_iconst (v := (-1)) hx hb dX0_spread_86 (by decide) ?_
    refine lv_icmp_eq (tgt := 146) hx hb dX0_spread_87 (by decide) (fun q_87 => ?_) (fun q_87 => ?_)
    · have h := h.1 q_87
      exact ((wB_X0_spread_146 S  hK68 _ _ _ _ _ _ _ _ h)) H locs ls hw (lv_sub hl [1, 2, 3, 4, 5, 6, 7] rfl)
    · have h := h.2 q_87
      refine lv_aload_n hx hb dX0_spread_90 rfl (lv_at hl 2 rfl) ?_
      refine lv_iload hx hb dX0_spread_91 (lv_at hl 0 rfl) ?_
      refine cv_i (As := [.int r79]) (rest := []) S.1 hw (k_X1_isIce l E Z M79 a1 r79 _ h) wv_X0_35 yc_X1_isIce ⟨rfl, rfl⟩ ⟨Nat.le_of_ble_eq_true rfl, Nat.le_of_ble_eq_true rfl⟩ rfl hl.1 (Nat.le_of_ble_eq_true rfl) (ci := 1) (q := (RX1, TX1, 12)) rfl rfl (by rw [k_0]; decide) (cell_1 k_0) ⟨Nat.le_of_ble_eq_true rfl, Nat.le_of_ble_eq_true rfl⟩ dX0_spread_93 (fun r93 M93 H locs h hw => ?_)
      refine lv_if_eq (tgt := 146) hx hb dX0_spread_96 (by decide) (fun q_96 => ?_) (fun q_96 => ?_)
      · have h := h.1 q_96
        exact ((wB_X0_spread_146 S  hK68 _ _ _ _ _ _ _ _ h)) H locs ls hw (lv_sub hl [1, 2, 3, 4, 5, 6, 7] rfl)
      · have h := h.2 q_96
        refine lv_aload_n hx hb dX0_spread_99 rfl (lv_at hl 1 rfl) ?_
        obtain ⟨k_1, h⟩ := h
        obtain ⟨y100_2, hy_2, h⟩ := h
        refine gf_X0_14 S.1 hw k_1 hy_2 dX0_spread_100 ?_
        refine lv_iload hx hb dX0_spread_103 (lv_at hl 0 rfl) ?_
        obtain ⟨k_3, h⟩ := h
        refine cv_i (As := [.int r79]) (rest := []) S.1 hw (k_X2_at l E Z M93 y100_2 r79 _ h) wv_X0_39 yc_X2_at ⟨rfl, rfl⟩ ⟨Nat.le_of_ble_eq_true rfl, Nat.le_of_ble_eq_true rfl⟩ rfl hl.1 (Nat.le_of_ble_eq_true rfl) (ci := 2) (q := (RX2, TX2, 1)) rfl rfl (by rw [k_3]; decide) (cell_2 k_3) ⟨Nat.le_of_ble_eq_true rfl, Nat.le_of_ble_eq_true rfl⟩ dX0_spread_105 (fun r105 M105 H locs h hw => ?_)
        refine lv_iconst (v := (-1)) hx hb dX0_spread_108 (by decide) ?_
        refine lv_icmp_ne (tgt := 146) hx hb dX0_spread_109 (by decide) (fun q_109 => ?_) (fun q_109 => ?_)
        · have h := h.1 q_109
          exact ((wB_X0_spread_146 S  hK68 _ _ _ _ _ _ _ _ h)) H locs ls hw (lv_sub hl [1, 2, 3, 4, 5, 6, 7] rfl)
        · have h := h.2 q_109
          refine lv_aload_n hx hb dX0_spread_112 rfl (lv_at hl 2 rfl) ?_
          refine lv_iload hx hb dX0_spread_113 (lv_at hl 6 rfl) ?_
          refine lv_iload hx hb dX0_spread_115 (lv_at hl 7 rfl) ?_
          refine cv_i (As := [.int v5, .int v6]) (rest := []) S.1 hw (k_X1_cutAt l E Z M105 a1 v5 v6 _ h) wv_X0_58 yc_X1_cutAt ⟨rfl, rfl⟩ ⟨Nat.le_of_ble_eq_true rfl, Nat.le_of_ble_eq_true rfl⟩ rfl hl.1 (Nat.le_of_ble_eq_true rfl) (ci := 1) (q := (RX1, TX1, 12)) rfl rfl (by rw [k_0]; decide) (cell_1 k_0) ⟨Nat.le_of_ble_eq_true rfl, Nat.le_of_ble_eq_true rfl⟩ dX0_spread_117 (fun r117 M117 H locs h hw => ?_)
          refine lv_if_ne (tgt := 146) hx hb dX0_spread_120 (by decide) (fun q_120 => ?_) (fun q_120 => ?_)
          · have h := h.1 q_120
            exact ((wB_X0_spread_146 S  hK68 _ _ _ _ _ _ _ _ h)) H locs ls hw (lv_sub hl [1, 2, 3, 4, 5, 6, 7] rfl)
          · have h := h.2 q_120
            refine lv_aload_n hx hb dX0_spread_123 rfl (lv_at hl 1 rfl) ?_
            refine gf_X0_14 S.1 hw k_1 hy_2 dX0_spread_124 ?_
            refine lv_iload hx hb dX0_spread_127 (lv_at hl 0 rfl) ?_
            refine lv_iload_n hx hb dX0_spread_129 rfl (lv_at hl 3 rfl) ?_
            refine cv_v (As := [.int r79, .int v2]) (rest := []) S.1 hw (k_X2_put l E Z M117 y100_2 r79 v2 _ h) wv_X0_47 yc_X2_put ⟨rfl, rfl⟩ ⟨Nat.le_of_ble_eq_true rfl, Nat.le_of_ble_eq_true rfl⟩ rfl hl.1 (Nat.le_of_ble_eq_true rfl) (ci := 2) (q := (RX2, TX2, 1)) rfl rfl (by rw [k_3]; decide) (cell_2 k_3) ⟨Nat.le_of_ble_eq_true rfl, Nat.le_of_ble_eq_true rfl⟩ dX0_spread_130 (fun M130 H locs h hw => ?_)
            refine lv_aload_n hx hb dX0_spread_133 rfl (lv_at hl 1 rfl) ?_
            obtain ⟨y134_4, hy_4, h⟩ := h
            refine gf_X0_23 S.1 hw k_1 hy_4 dX0_spread_134 ?_
            refine lv_iload_n hx hb dX0_spread_137 rfl (lv_at hl 4 rfl) ?_
            refine lv_iload hx hb dX0_spread_138 (lv_at hl 0 rfl) ?_
            obtain ⟨k_5, h⟩ := h
            refine cv_v (As := [.int v3, .int r79]) (rest := []) S.1 hw (k_X2_put l E Z M130 y134_4 v3 r79 _ h) wv_X0_47 yc_X2_put ⟨rfl, rfl⟩ ⟨Nat.le_of_ble_eq_true rfl, Nat.le_of_ble_eq_true rfl⟩ rfl hl.1 (Nat.le_of_ble_eq_true rfl) (ci := 2) (q := (RX2, TX2, 1)) rfl rfl (by rw [k_5]; decide) (cell_2 k_5) ⟨Nat.le_of_ble_eq_true rfl, Nat.le_of_ble_eq_true rfl⟩ dX0_spread_140 (fun M140 H locs h hw => ?_)
            refine lv_iinc (v := (v3 + 1)) (lv' := [(3, .int (v3 + 1)), (7, .int r79), (0, .ref a0), (1, .ref a1), (2, .int v2), (4, .int v4), (5, .int v5), (6, .int v6)]) hx hb dX0_spread_143 hl (k := 4) rfl rfl (by decide) rfl (fun ls hl => ?_)
            exact ((wB_X0_spread_146 S  hK68 _ _ _ _ _ _ _ _ h)) H locs ls hw (lv_sub hl [2, 3, 4, 0, 5, 6, 7] rfl)
theorem wL_X0_spread_68 (S : Cx p m c meth cX0_spread 8 s args RX0 (none)) {Q : MM → Prop} {K23 : MM → Nat → Nat → Int32 → Int32 → Int32 → Prop} (hK23 : ∀ (M : MM) (a0 : Nat) (a1 : Nat) (v2 : Int32) (v3 : Int32) (v4 : Int32), K23 M a0 a1 v2 v3 v4 → WG p l e rm_X0_spread s m args below meth c 0 0 (MQv below E Z args s Q) E Z M 23 8 [(0, .ref a0), (1, .ref a1), (2, .int v2), (3, .int v3), (4, .int v4)] []) : ∀ (n : Nat) (M : MM) (a0 : Nat) (a1 : Nat) (v2 : Int32) (v3 : Int32) (v4 : Int32) (v5 : Int32) (v6 : Int32), L_X0_spread_68 Z Q K23 n M a0 a1 v2 v3 v4 v5 v6 → WG p l e rm_X0_spread s m args below meth c 0 0 (MQv below E Z args s Q) E Z M 68 8 [(0, .ref a0), (1, .ref a1), (2, .int v2), (3, .int v3), (4, .int v4), (5, .int v5), (6, .int v6)] []
  | 0, _, _, _, _, _, _, _, _, h => False.elim h
  | n + 1, M, a0, a1, v2, v3, v4, v5, v6, h => wB_X0_spread_68 S  hK23 (wL_X0_spread_68 S  hK23 n) M a0 a1 v2 v3 v4 v5 v6 h
set_option maxRecDepth 100000 in
set_option maxHeartbeats 4000000 in
theorem wB_X0_spread_65 (S : Cx p m c meth cX0_spread 8 s args RX0 (none)) {Q : MM → Prop} {K23 : MM → Nat → Nat → Int32 → Int32 → Int32 → Prop} (hK23 : ∀ (M : MM) (a0 : Nat) (a1 : Nat) (v2 : Int32) (v3 : Int32) (v4 : Int32), K23 M a0 a1 v2 v3 v4 → WG p l e rm_X0_spread s m args below meth c 0 0 (MQv below E Z args s Q) E Z M 23 8 [(0, .ref a0), (1, .ref a1), (2, .int v2), (3, .int v3), (4, .int v4)] []) (M : MM) (a0 : Nat) (a1 : Nat) (v2 : Int32) (v3 : Int32) (v4 : Int32) (v5 : Int32) (h : B_X0_spread_65 Z Q K23 M a0 a1 v2 v3 v4 v5) : WG p l e rm_X0_spread s m args below meth c 0 0 (MQv below E Z args s Q) E Z M 65 8 [(0, .ref a0), (1, .ref a1), (2, .int v2), (3, .int v3), (4, .int v4), (5, .int v5)] [] := by
  intro H locs ls hw hl
  have hx := S.1.1
  have hb := S.1.2.1
  refine lv_iconst (v := 0) hx hb dX0_spread_65 (by decide) ?_
  refine lv_istore (lv' := [(6, .int 0), (0, .ref a0), (1, .ref a1), (2, .int v2), (3, .int v3), (4, .int v4), (5, .int v5)]) hx hb dX0_spread_66 hl (by decide) rfl (fun ls hl => ?_)
  exact ((Exists.elim h (fun n h => wL_X0_spread_68 S  hK23 n _ _ _ _ _ _ _ _ h))) H locs ls hw (lv_sub hl [1, 2, 3, 4, 5, 6, 0] rfl)
set_option maxRecDepth 100000 in
set_option maxHeartbeats 4000000 in
theorem wB_X0_spread_23 (S : Cx p m c meth cX0_spread 8 s args RX0 (none)) {Q : MM → Prop} {K23 : MM → Nat → Nat → Int32 → Int32 → Int32 → Prop} (hK23 : ∀ (M : MM) (a0 : Nat) (a1 : Nat) (v2 : Int32) (v3 : Int32) (v4 : Int32), K23 M a0 a1 v2 v3 v4 → WG p l e rm_X0_spread s m args below meth c 0 0 (MQv below E Z args s Q) E Z M 23 8 [(0, .ref a0), (1, .ref a1), (2, .int v2), (3, .int v3), (4, .int v4)] []) (M : MM) (a0 : Nat) (a1 : Nat) (v2 : Int32) (v3 : Int32) (v4 : Int32) (h : B_X0_spread_23 Z Q K23 M a0 a1 v2 v3 v4) : WG p l e rm_X0_spread s m args below meth c 0 0 (MQv below E Z args s Q) E Z M 23 8 [(0, .ref a0), (1, .ref a1), (2, .int v2), (3, .int v3), (4, .int v4)] [] := by
  intro H locs ls hw hl
  have hx := S.1.1
  have hb := S.1.2.1
  refine lv_iload hx hb dX0_spread_23 (lv_at hl 4 rfl) ?_
  refine lv_iload_n hx hb dX0_spread_25 rfl (lv_at hl 3 rfl) ?_
  refine lv_icmp_ge (tgt := 158) hx hb dX0_spread_26 (by decide) (fun q_26 => ?_) (fun q_26 => ?_)
  · have h := h.1 q_26
    exact we_v S hw h dX0_spread_158
  · have h := h.2 q_26
    refine lv_iload hx hb dX0_spread_29 (lv_at hl 4 rfl) ?_
    refine lv_bipush (v := 49) hx hb dX0_spread_31 (by decide) ?_
    refine lv_icmp_ge (tgt := 158) hx hb dX0_spread_33 (by decide) (fun q_33 => ?_) (fun q_33 => ?_)
    · have h := h.1 q_33
      exact we_v S hw h dX0_spread_158
    · have h := h.2 q_33
      refine lv_aload_n hx hb dX0_spread_36 rfl (lv_at hl 0 rfl) ?_
      obtain ⟨k_0, h⟩ := h
      obtain ⟨y37_1, hy_1, h⟩ := h
      refine gf_X0_23 S.1 hw k_0 hy_1 dX0_spread_37 ?_
      refine lv_iload hx hb dX0_spread_40 (lv_at hl 4 rfl) ?_
      obtain ⟨k_2, h⟩ := h
      refine cv_i (As := [.int v4]) (rest := []) S.1 hw (k_X2_at l E Z M y37_1 v4 _ h) wv_X0_39 yc_X2_at ⟨rfl, rfl⟩ ⟨Nat.le_of_ble_eq_true rfl, Nat.le_of_ble_eq_true rfl⟩ rfl hl.1 (Nat.le_of_ble_eq_true rfl) (ci := 2) (q := (RX2, TX2, 1)) rfl rfl (by rw [k_2]; decide) (cell_2 k_2) ⟨Nat.le_of_ble_eq_true rfl, Nat.le_of_ble_eq_true rfl⟩ dX0_spread_42 (fun r42 M42 H locs h hw => ?_)
      refine lv_istore (lv' := [(5, .int r42), (0, .ref a0), (1, .ref a1), (2, .int v2), (3, .int v3), (4, .int v4)]) hx hb dX0_spread_45 hl (by decide) rfl (fun ls hl => ?_)
      refine lv_aload_n hx hb dX0_spread_47 rfl (lv_at hl 2 rfl) ?_
      refine lv_iload hx hb dX0_spread_48 (lv_at hl 0 rfl) ?_
      obtain ⟨k_3, h⟩ := h
      refine cv_i (As := [.int r42]) (rest := []) S.1 hw (k_X1_isTiedToShore l E Z M42 a1 r42 _ h) wv_X0_51 yc_X1_isTiedToShore ⟨rfl, rfl⟩ ⟨Nat.le_of_ble_eq_true rfl, Nat.le_of_ble_eq_true rfl⟩ rfl hl.1 (Nat.le_of_ble_eq_true rfl) (ci := 1) (q := (RX1, TX1, 12)) rfl rfl (by rw [k_3]; decide) (cell_1 k_3) ⟨Nat.le_of_ble_eq_true rfl, Nat.le_of_ble_eq_true rfl⟩ dX0_spread_50 (fun r50 M50 H locs h hw => ?_)
      refine lv_if_eq (tgt := 65) hx hb dX0_spread_53 (by decide) (fun q_53 => ?_) (fun q_53 => ?_)
      · have h := h.1 q_53
        exact ((wB_X0_spread_65 S  hK23 _ _ _ _ _ _ _ h)) H locs ls hw (lv_sub hl [1, 2, 3, 4, 5, 0] rfl)
      · have h := h.2 q_53
        refine lv_aload_n hx hb dX0_spread_56 rfl (lv_at hl 1 rfl) ?_
        obtain ⟨y57_4, hy_4, h⟩ := h
        refine gf_X0_20 S.1 hw k_0 hy_4 dX0_spread_57 ?_
        refine lv_iload_n hx hb dX0_spread_60 rfl (lv_at hl 3 rfl) ?_
        refine lv_iconst (v := 1) hx hb dX0_spread_61 (by decide) ?_
        obtain ⟨k_5, h⟩ := h
        refine cv_v (As := [.int v2, .int 1]) (rest := []) S.1 hw (k_X2_put l E Z M50 y57_4 v2 1 _ h) wv_X0_47 yc_X2_put ⟨rfl, rfl⟩ ⟨Nat.le_of_ble_eq_true rfl, Nat.le_of_ble_eq_true rfl⟩ rfl hl.1 (Nat.le_of_ble_eq_true rfl) (ci := 2) (q := (RX2, TX2, 1)) rfl rfl (by rw [k_5]; decide) (cell_2 k_5) ⟨Nat.le_of_ble_eq_true rfl, Nat.le_of_ble_eq_true rfl⟩ dX0_spread_62 (fun M62 H locs h hw => ?_)
        exact ((wB_X0_spread_65 S  hK23 _ _ _ _ _ _ _ h)) H locs ls hw (lv_sub hl [1, 2, 3, 4, 5, 0] rfl)
theorem wL_X0_spread_23 (S : Cx p m c meth cX0_spread 8 s args RX0 (none)) {Q : MM → Prop}   : ∀ (n : Nat) (M : MM) (a0 : Nat) (a1 : Nat) (v2 : Int32) (v3 : Int32) (v4 : Int32), L_X0_spread_23 Z Q  n M a0 a1 v2 v3 v4 → WG p l e rm_X0_spread s m args below meth c 0 0 (MQv below E Z args s Q) E Z M 23 8 [(0, .ref a0), (1, .ref a1), (2, .int v2), (3, .int v3), (4, .int v4)] []
  | 0, _, _, _, _, _, _, h => False.elim h
  | n + 1, M, a0, a1, v2, v3, v4, h => wB_X0_spread_23 S  (wL_X0_spread_23 S   n) M a0 a1 v2 v3 v4 h
set_option maxRecDepth 100000 in
set_option maxHeartbeats 4000000 in
theorem wB_X0_spread_0 (S : Cx p m c meth cX0_spread 8 s args RX0 (none)) {Q : MM → Prop}   (M : MM) (a0 : Nat) (a1 : Nat) (v2 : Int32) (h : B_X0_spread_0 Z Q  M a0 a1 v2) : WG p l e rm_X0_spread s m args below meth c 0 0 (MQv below E Z args s Q) E Z M 0 8 [(0, .ref a0), (1, .ref a1), (2, .int v2)] [] := by
  intro H locs ls hw hl
  have hx := S.1.1
  have hb := S.1.2.1
  refine lv_aload_n hx hb dX0_spread_0 rfl (lv_at hl 0 rfl) ?_
  obtain ⟨k_0, h⟩ := h
  obtain ⟨y1_1, hy_1, h⟩ := h
  refine gf_X0_14 S.1 hw k_0 hy_1 dX0_spread_1 ?_
  refine lv_iload_n hx hb dX0_spread_4 rfl (lv_at hl 2 rfl) ?_
  refine lv_iload_n hx hb dX0_spread_5 rfl (lv_at hl 2 rfl) ?_
  obtain ⟨k_2, h⟩ := h
  refine cv_v (As := [.int v2, .int v2]) (rest := []) S.1 hw (k_X2_put l E Z M y1_1 v2 v2 _ h) wv_X0_47 yc_X2_put ⟨rfl, rfl⟩ ⟨Nat.le_of_ble_eq_true rfl, Nat.le_of_ble_eq_true rfl⟩ rfl hl.1 (Nat.le_of_ble_eq_true rfl) (ci := 2) (q := (RX2, TX2, 1)) rfl rfl (by rw [k_2]; decide) (cell_2 k_2) ⟨Nat.le_of_ble_eq_true rfl, Nat.le_of_ble_eq_true rfl⟩ dX0_spread_6 (fun M6 H locs h hw => ?_)
  refine lv_aload_n hx hb dX0_spread_9 rfl (lv_at hl 0 rfl) ?_
  obtain ⟨y10_3, hy_3, h⟩ := h
  refine gf_X0_23 S.1 hw k_0 hy_3 dX0_spread_10 ?_
  refine lv_iconst (v := 0) hx hb dX0_spread_13 (by decide) ?_
  refine lv_iload_n hx hb dX0_spread_14 rfl (lv_at hl 2 rfl) ?_
  obtain ⟨k_4, h⟩ := h
  refine cv_v (As := [.int 0, .int v2]) (rest := []) S.1 hw (k_X2_put l E Z M6 y10_3 0 v2 _ h) wv_X0_47 yc_X2_put ⟨rfl, rfl⟩ ⟨Nat.le_of_ble_eq_true rfl, Nat.le_of_ble_eq_true rfl⟩ rfl hl.1 (Nat.le_of_ble_eq_true rfl) (ci := 2) (q := (RX2, TX2, 1)) rfl rfl (by rw [k_4]; decide) (cell_2 k_4) ⟨Nat.le_of_ble_eq_true rfl, Nat.le_of_ble_eq_true rfl⟩ dX0_spread_15 (fun M15 H locs h hw => ?_)
  refine lv_iconst (v := 1) hx hb dX0_spread_18 (by decide) ?_
  refine lv_istore_n (lv' := [(3, .int 1), (0, .ref a0), (1, .ref a1), (2, .int v2)]) hx hb dX0_spread_19 rfl hl (by decide) rfl (fun ls hl => ?_)
  refine lv_iconst (v := 0) hx hb dX0_spread_20 (by decide) ?_
  refine lv_istore (lv' := [(4, .int 0), (3, .int 1), (0, .ref a0), (1, .ref a1), (2, .int v2)]) hx hb dX0_spread_21 hl (by decide) rfl (fun ls hl => ?_)
  exact ((Exists.elim h (fun n h => wL_X0_spread_23 S   n _ _ _ _ _ _ h))) H locs ls hw (lv_sub hl [2, 3, 4, 1, 0] rfl)
set_option maxRecDepth 100000 in
set_option maxHeartbeats 4000000 in
theorem k_X0_spread (l : Launch) (E : EE) (Z : ZZ) (M : MM) (a0 : Nat) (a1 : Nat) (v2 : Int32) (Q : MM → Prop) (h : P_X0_spread Z M a0 a1 v2 Q) : Ct_v l yX0_spread cX0_spread 8 (none) rm_X0_spread E Z M [.ref a0, .ref a1, .int v2] Q := by
  refine Met.ofW (cc := cX0_spread) (maxL := 8) (ret := none) (by decide) rfl ?_
  intro p e s m args below meth c s₁ B hml hv
  obtain ⟨rfl, hK, hP, hD, hZ⟩ := hv
  have S : Cx p m c meth cX0_spread 8 s _ RX0 (none) := ⟨⟨B.exec, B.bytes, hml, findClass_of_methodNamed B.named, fun w hw => atoms_spec (ws := ws_ yX0_spread cX0_spread 8 (none)) B.pre w (List.mem_cons_of_mem _ hw)⟩, B.returns, B.notSynchronized⟩
  have hl := lv_entry ([.ref a0, .ref a1, .int v2]) (n := 8) (Nat.le_of_ble_eq_true rfl)
  rw [lg_entry_eq]
  generalize (lg_sl ([.ref a0, .ref a1, .int v2]) ++ List.replicate (8 - (lg_sl ([.ref a0, .ref a1, .int v2])).length) Slot.unset).toArray = ls at hl ⊢
  exact (wB_X0_spread_0 S  M a0 a1 v2 h) s.heap [] ls ⟨hK, hP, hD, va_S.rf, hZ⟩ hl
set_option maxRecDepth 100000 in
set_option maxHeartbeats 4000000 in
theorem wB_X0_find_52 (S : Cx p m c meth cX0_find 3 s args RX0 (none)) {Q : MM → Prop} {K18 : MM → Nat → Nat → Int32 → Prop} (hK18 : ∀ (M : MM) (a0 : Nat) (a1 : Nat) (v2 : Int32), K18 M a0 a1 v2 → WG p l e rm_X0_find s m args below meth c 0 0 (MQv below E Z args s Q) E Z M 18 3 [(0, .ref a0), (1, .ref a1), (2, .int v2)] []) (M : MM) (a0 : Nat) (a1 : Nat) (v2 : Int32) (h : B_X0_find_52 Z Q K18 M a0 a1 v2) : WG p l e rm_X0_find s m args below meth c 0 0 (MQv below E Z args s Q) E Z M 52 3 [(0, .ref a0), (1, .ref a1), (2, .int v2)] [] := by
  intro H locs ls hw hl
  have hx := S.1.1
  have hb := S.1.2.1
  refine lv_iinc (v := (v2 + 1)) (lv' := [(2, .int (v2 + 1)), (0, .ref a0), (1, .ref a1)]) hx hb dX0_find_52 hl (k := 2) rfl rfl (by decide) rfl (fun ls hl => ?_)
  refine lv_goto (tgt := 18) hx hb dX0_find_55 (by decide) ?_
  exact (hK18 _ _ _ _ h) H locs ls hw (lv_sub hl [1, 2, 0] rfl)
set_option maxRecDepth 100000 in
set_option maxHeartbeats 4000000 in
theorem wB_X0_find_18 (S : Cx p m c meth cX0_find 3 s args RX0 (none)) {Q : MM → Prop} {K18 : MM → Nat → Nat → Int32 → Prop} (hK18 : ∀ (M : MM) (a0 : Nat) (a1 : Nat) (v2 : Int32), K18 M a0 a1 v2 → WG p l e rm_X0_find s m args below meth c 0 0 (MQv below E Z args s Q) E Z M 18 3 [(0, .ref a0), (1, .ref a1), (2, .int v2)] []) (M : MM) (a0 : Nat) (a1 : Nat) (v2 : Int32) (h : B_X0_find_18 Z Q K18 M a0 a1 v2) : WG p l e rm_X0_find s m args below meth c 0 0 (MQv below E Z args s Q) E Z M 18 3 [(0, .ref a0), (1, .ref a1), (2, .int v2)] [] := by
  intro H locs ls hw hl
  have hx := S.1.1
  have hb := S.1.2.1
  refine lv_iload_n hx hb dX0_find_18 rfl (lv_at hl 2 rfl) ?_
  refine lv_aload_n hx hb dX0_find_19 rfl (lv_at hl 1 rfl) ?_
  obtain ⟨k_0, h⟩ := h
  refine cv_i (As := []) (rest := [.int v2]) S.1 hw (k_X1_cellCount l E Z M a1  _ h) wv_X0_29 yc_X1_cellCount ⟨rfl, rfl⟩ ⟨Nat.le_of_ble_eq_true rfl, Nat.le_of_ble_eq_true rfl⟩ rfl hl.1 (Nat.le_of_ble_eq_true rfl) (ci := 1) (q := (RX1, TX1, 12)) rfl rfl (by rw [k_0]; decide) (cell_1 k_0) ⟨Nat.le_of_ble_eq_true rfl, Nat.le_of_ble_eq_true rfl⟩ dX0_find_20 (fun r20 M20 H locs h hw => ?_)
  refine lv_icmp_ge (tgt := 58) hx hb dX0_find_23 (by decide) (fun q_23 => ?_) (fun q_23 => ?_)
  · have h := h.1 q_23
    exact we_v S hw h dX0_find_58
  · have h := h.2 q_23
    refine lv_aload_n hx hb dX0_find_26 rfl (lv_at hl 1 rfl) ?_
    refine lv_iload_n hx hb dX0_find_27 rfl (lv_at hl 2 rfl) ?_
    refine cv_i (As := [.int v2]) (rest := []) S.1 hw (k_X1_isIce l E Z M20 a1 v2 _ h) wv_X0_35 yc_X1_isIce ⟨rfl, rfl⟩ ⟨Nat.le_of_ble_eq_true rfl, Nat.le_of_ble_eq_true rfl⟩ rfl hl.1 (Nat.le_of_ble_eq_true rfl) (ci := 1) (q := (RX1, TX1, 12)) rfl rfl (by rw [k_0]; decide) (cell_1 k_0) ⟨Nat.le_of_ble_eq_true rfl, Nat.le_of_ble_eq_true rfl⟩ dX0_find_28 (fun r28 M28 H locs h hw => ?_)
    refine lv_if_eq (tgt := 52) hx hb dX0_find_31 (by decide) (fun q_31 => ?_) (fun q_31 => ?_)
    · have h := h.1 q_31
      exact ((wB_X0_find_52 S  hK18 _ _ _ _ h)) H locs ls hw (lv_sub hl [0, 1, 2] rfl)
    · have h := h.2 q_31
      refine lv_aload_n hx hb dX0_find_34 rfl (lv_at hl 0 rfl) ?_
      obtain ⟨k_1, h⟩ := h
      obtain ⟨y35_2, hy_2, h⟩ := h
      refine gf_X0_14 S.1 hw k_1 hy_2 dX0_find_35 ?_
      refine lv_iload_n hx hb dX0_find_38 rfl (lv_at hl 2 rfl) ?_
      obtain ⟨k_3, h⟩ := h
      refine cv_i (As := [.int v2]) (rest := []) S.1 hw (k_X2_at l E Z M28 y35_2 v2 _ h) wv_X0_39 yc_X2_at ⟨rfl, rfl⟩ ⟨Nat.le_of_ble_eq_true rfl, Nat.le_of_ble_eq_true rfl⟩ rfl hl.1 (Nat.le_of_ble_eq_true rfl) (ci := 2) (q := (RX2, TX2, 1)) rfl rfl (by rw [k_3]; decide) (cell_2 k_3) ⟨Nat.le_of_ble_eq_true rfl, Nat.le_of_ble_eq_true rfl⟩ dX0_find_39 (fun r39 M39 H locs h hw => ?_)
      refine lv_iconst (v := (-1)) hx hb dX0_find_42 (by decide) ?_
      refine lv_icmp_ne (tgt := 52) hx hb dX0_find_43 (by decide) (fun q_43 => ?_) (fun q_43 => ?_)
      · have h := h.1 q_43
        exact ((wB_X0_find_52 S  hK18 _ _ _ _ h)) H locs ls hw (lv_sub hl [0, 1, 2] rfl)
      · have h := h.2 q_43
        refine lv_aload_n hx hb dX0_find_46 rfl (lv_at hl 0 rfl) ?_
        refine lv_aload_n hx hb dX0_find_47 rfl (lv_at hl 1 rfl) ?_
        refine lv_iload_n hx hb dX0_find_48 rfl (lv_at hl 2 rfl) ?_
        refine cv_v (As := [.ref a1, .int v2]) (rest := []) S.1 hw (k_X0_spread l E Z M39 a0 a1 v2 _ h) wv_X0_43 yc_X0_spread ⟨rfl, rfl⟩ ⟨Nat.le_of_ble_eq_true rfl, Nat.le_of_ble_eq_true rfl⟩ rfl hl.1 (Nat.le_of_ble_eq_true rfl) (ci := 0) (q := (RX0, TX0, 3)) rfl rfl (by rw [k_1]; decide) (cell_0 k_1) ⟨Nat.le_of_ble_eq_true rfl, Nat.le_of_ble_eq_true rfl⟩ dX0_find_49 (fun M49 H locs h hw => ?_)
        exact ((wB_X0_find_52 S  hK18 _ _ _ _ h)) H locs ls hw (lv_sub hl [0, 1, 2] rfl)
theorem wL_X0_find_18 (S : Cx p m c meth cX0_find 3 s args RX0 (none)) {Q : MM → Prop}   : ∀ (n : Nat) (M : MM) (a0 : Nat) (a1 : Nat) (v2 : Int32), L_X0_find_18 Z Q  n M a0 a1 v2 → WG p l e rm_X0_find s m args below meth c 0 0 (MQv below E Z args s Q) E Z M 18 3 [(0, .ref a0), (1, .ref a1), (2, .int v2)] []
  | 0, _, _, _, _, h => False.elim h
  | n + 1, M, a0, a1, v2, h => wB_X0_find_18 S  (wL_X0_find_18 S   n) M a0 a1 v2 h
set_option maxRecDepth 100000 in
set_option maxHeartbeats 4000000 in
theorem wB_X0_find_0 (S : Cx p m c meth cX0_find 3 s args RX0 (none)) {Q : MM → Prop}   (M : MM) (a0 : Nat) (a1 : Nat) (h : B_X0_find_0 Z Q  M a0 a1) : WG p l e rm_X0_find s m args below meth c 0 0 (MQv below E Z args s Q) E Z M 0 3 [(0, .ref a0), (1, .ref a1)] [] := by
  intro H locs ls hw hl
  have hx := S.1.1
  have hb := S.1.2.1
  refine lv_aload_n hx hb dX0_find_0 rfl (lv_at hl 0 rfl) ?_
  obtain ⟨k_0, h⟩ := h
  obtain ⟨y1_1, hy_1, h⟩ := h
  refine gf_X0_14 S.1 hw k_0 hy_1 dX0_find_1 ?_
  refine lv_iconst (v := (-1)) hx hb dX0_find_4 (by decide) ?_
  obtain ⟨k_2, h⟩ := h
  refine cv_v (As := [.int (-1)]) (rest := []) S.1 hw (k_X2_fill l E Z M y1_1 (-1) _ h) wv_X0_26 yc_X2_fill ⟨rfl, rfl⟩ ⟨Nat.le_of_ble_eq_true rfl, Nat.le_of_ble_eq_true rfl⟩ rfl hl.1 (Nat.le_of_ble_eq_true rfl) (ci := 2) (q := (RX2, TX2, 1)) rfl rfl (by rw [k_2]; decide) (cell_2 k_2) ⟨Nat.le_of_ble_eq_true rfl, Nat.le_of_ble_eq_true rfl⟩ dX0_find_5 (fun M5 H locs h hw => ?_)
  refine lv_aload_n hx hb dX0_find_8 rfl (lv_at hl 0 rfl) ?_
  obtain ⟨y9_3, hy_3, h⟩ := h
  refine gf_X0_20 S.1 hw k_0 hy_3 dX0_find_9 ?_
  refine lv_iconst (v := 0) hx hb dX0_find_12 (by decide) ?_
  obtain ⟨k_4, h⟩ := h
  refine cv_v (As := [.int 0]) (rest := []) S.1 hw (k_X2_fill l E Z M5 y9_3 0 _ h) wv_X0_26 yc_X2_fill ⟨rfl, rfl⟩ ⟨Nat.le_of_ble_eq_true rfl, Nat.le_of_ble_eq_true rfl⟩ rfl hl.1 (Nat.le_of_ble_eq_true rfl) (ci := 2) (q := (RX2, TX2, 1)) rfl rfl (by rw [k_4]; decide) (cell_2 k_4) ⟨Nat.le_of_ble_eq_true rfl, Nat.le_of_ble_eq_true rfl⟩ dX0_find_13 (fun M13 H locs h hw => ?_)
  refine lv_iconst (v := 0) hx hb dX0_find_16 (by decide) ?_
  refine lv_istore_n (lv' := [(2, .int 0), (0, .ref a0), (1, .ref a1)]) hx hb dX0_find_17 rfl hl (by decide) rfl (fun ls hl => ?_)
  exact ((Exists.elim h (fun n h => wL_X0_find_18 S   n _ _ _ _ h))) H locs ls hw (lv_sub hl [1, 2, 0] rfl)
set_option maxRecDepth 100000 in
set_option maxHeartbeats 4000000 in
theorem k_X0_find (l : Launch) (E : EE) (Z : ZZ) (M : MM) (a0 : Nat) (a1 : Nat) (Q : MM → Prop) (h : P_X0_find Z M a0 a1 Q) : Ct_v l yX0_find cX0_find 3 (none) rm_X0_find E Z M [.ref a0, .ref a1] Q := by
  refine Met.ofW (cc := cX0_find) (maxL := 3) (ret := none) (by decide) rfl ?_
  intro p e s m args below meth c s₁ B hml hv
  obtain ⟨rfl, hK, hP, hD, hZ⟩ := hv
  have S : Cx p m c meth cX0_find 3 s _ RX0 (none) := ⟨⟨B.exec, B.bytes, hml, findClass_of_methodNamed B.named, fun w hw => atoms_spec (ws := ws_ yX0_find cX0_find 3 (none)) B.pre w (List.mem_cons_of_mem _ hw)⟩, B.returns, B.notSynchronized⟩
  have hl := lv_entry ([.ref a0, .ref a1]) (n := 3) (Nat.le_of_ble_eq_true rfl)
  rw [lg_entry_eq]
  generalize (lg_sl ([.ref a0, .ref a1]) ++ List.replicate (3 - (lg_sl ([.ref a0, .ref a1])).length) Slot.unset).toArray = ls at hl ⊢
  exact (wB_X0_find_0 S  M a0 a1 h) s.heap [] ls ⟨hK, hP, hD, va_S.rf, hZ⟩ hl
set_option maxRecDepth 100000 in
set_option maxHeartbeats 4000000 in
theorem wB_X0_numberAt_0 (S : Cx p m c meth cX0_numberAt 2 s args RX0 (some .int)) {Q : Int32 → MM → Prop}   (M : MM) (a0 : Nat) (v1 : Int32) (h : B_X0_numberAt_0 Z Q  M a0 v1) : WG p l e rm_X0_numberAt s m args below meth c 0 0 (MQi below E Z args s Q) E Z M 0 2 [(0, .ref a0), (1, .int v1)] [] := by
  intro H locs ls hw hl
  have hx := S.1.1
  have hb := S.1.2.1
  refine lv_aload_n hx hb dX0_numberAt_0 rfl (lv_at hl 0 rfl) ?_
  obtain ⟨k_0, h⟩ := h
  obtain ⟨y1_1, hy_1, h⟩ := h
  refine gf_X0_14 S.1 hw k_0 hy_1 dX0_numberAt_1 ?_
  refine lv_iload_n hx hb dX0_numberAt_4 rfl (lv_at hl 1 rfl) ?_
  obtain ⟨k_2, h⟩ := h
  refine cv_i (As := [.int v1]) (rest := []) S.1 hw (k_X2_at l E Z M y1_1 v1 _ h) wv_X0_39 yc_X2_at ⟨rfl, rfl⟩ ⟨Nat.le_of_ble_eq_true rfl, Nat.le_of_ble_eq_true rfl⟩ rfl hl.1 (Nat.le_of_ble_eq_true rfl) (ci := 2) (q := (RX2, TX2, 1)) rfl rfl (by rw [k_2]; decide) (cell_2 k_2) ⟨Nat.le_of_ble_eq_true rfl, Nat.le_of_ble_eq_true rfl⟩ dX0_numberAt_5 (fun r5 M5 H locs h hw => ?_)
  exact we_i S hw h dX0_numberAt_8
set_option maxRecDepth 100000 in
set_option maxHeartbeats 4000000 in
theorem k_X0_numberAt (l : Launch) (E : EE) (Z : ZZ) (M : MM) (a0 : Nat) (v1 : Int32) (Q : Int32 → MM → Prop) (h : P_X0_numberAt Z M a0 v1 Q) : Ct_i l yX0_numberAt cX0_numberAt 2 (some .int) rm_X0_numberAt E Z M [.ref a0, .int v1] Q := by
  refine Met.ofW (cc := cX0_numberAt) (maxL := 2) (ret := some .int) (by decide) rfl ?_
  intro p e s m args below meth c s₁ B hml hv
  obtain ⟨rfl, hK, hP, hD, hZ⟩ := hv
  have S : Cx p m c meth cX0_numberAt 2 s _ RX0 (some .int) := ⟨⟨B.exec, B.bytes, hml, findClass_of_methodNamed B.named, fun w hw => atoms_spec (ws := ws_ yX0_numberAt cX0_numberAt 2 (some .int)) B.pre w (List.mem_cons_of_mem _ hw)⟩, B.returns, B.notSynchronized⟩
  have hl := lv_entry ([.ref a0, .int v1]) (n := 2) (Nat.le_of_ble_eq_true rfl)
  rw [lg_entry_eq]
  generalize (lg_sl ([.ref a0, .int v1]) ++ List.replicate (2 - (lg_sl ([.ref a0, .int v1])).length) Slot.unset).toArray = ls at hl ⊢
  exact (wB_X0_numberAt_0 S  M a0 v1 h) s.heap [] ls ⟨hK, hP, hD, va_S.rf, hZ⟩ hl
set_option maxRecDepth 100000 in
set_option maxHeartbeats 4000000 in
theorem wB_X0_isBlock_0 (S : Cx p m c meth cX0_isBlock 2 s args RX0 (some .boolean)) {Q : Int32 → MM → Prop}   (M : MM) (a0 : Nat) (v1 : Int32) (h : B_X0_isBlock_0 Z Q  M a0 v1) : WG p l e rm_X0_isBlock s m args below meth c 0 0 (MQi below E Z args s Q) E Z M 0 2 [(0, .ref a0), (1, .int v1)] [] := by
  intro H locs ls hw hl
  have hx := S.1.1
  have hb := S.1.2.1
  refine lv_iload_n hx hb dX0_isBlock_0 rfl (lv_at hl 1 rfl) ?_
  refine lv_if_lt (tgt := 26) hx hb dX0_isBlock_1 (by decide) (fun q_1 => ?_) (fun q_1 => ?_)
  · have h := h.1 q_1
    refine lv_iconst (v := 0) hx hb dX0_isBlock_26 (by decide) ?_
    exact we_z S hw rfl (by rfl) h dX0_isBlock_27
  · have h := h.2 q_1
    refine lv_iload_n hx hb dX0_isBlock_4 rfl (lv_at hl 1 rfl) ?_
    refine lv_bipush (v := 49) hx hb dX0_isBlock_5 (by decide) ?_
    refine lv_icmp_ge (tgt := 26) hx hb dX0_isBlock_7 (by decide) (fun q_7 => ?_) (fun q_7 => ?_)
    · have h := h.1 q_7
      refine lv_iconst (v := 0) hx hb dX0_isBlock_26 (by decide) ?_
      exact we_z S hw rfl (by rfl) h dX0_isBlock_27
    · have h := h.2 q_7
      refine lv_aload_n hx hb dX0_isBlock_10 rfl (lv_at hl 0 rfl) ?_
      obtain ⟨k_0, h⟩ := h
      obtain ⟨y11_1, hy_1, h⟩ := h
      refine gf_X0_14 S.1 hw k_0 hy_1 dX0_isBlock_11 ?_
      refine lv_iload_n hx hb dX0_isBlock_14 rfl (lv_at hl 1 rfl) ?_
      obtain ⟨k_2, h⟩ := h
      refine cv_i (As := [.int v1]) (rest := []) S.1 hw (k_X2_at l E Z M y11_1 v1 _ h) wv_X0_39 yc_X2_at ⟨rfl, rfl⟩ ⟨Nat.le_of_ble_eq_true rfl, Nat.le_of_ble_eq_true rfl⟩ rfl hl.1 (Nat.le_of_ble_eq_true rfl) (ci := 2) (q := (RX2, TX2, 1)) rfl rfl (by rw [k_2]; decide) (cell_2 k_2) ⟨Nat.le_of_ble_eq_true rfl, Nat.le_of_ble_eq_true rfl⟩ dX0_isBlock_15 (fun r15 M15 H locs h hw => ?_)
      refine lv_iload_n hx hb dX0_isBlock_18 rfl (lv_at hl 1 rfl) ?_
      refine lv_icmp_ne (tgt := 26) hx hb dX0_isBlock_19 (by decide) (fun q_19 => ?_) (fun q_19 => ?_)
      · have h := h.1 q_19
        refine lv_iconst (v := 0) hx hb dX0_isBlock_26 (by decide) ?_
        exact we_z S hw rfl (by rfl) h dX0_isBlock_27
      · have h := h.2 q_19
        refine lv_iconst (v := 1) hx hb dX0_isBlock_22 (by decide) ?_
        refine lv_goto (tgt := 27) hx hb dX0_isBlock_23 (by decide) ?_
        exact we_z S hw rfl (by rfl) h dX0_isBlock_27
set_option maxRecDepth 100000 in
set_option maxHeartbeats 4000000 in
theorem k_X0_isBlock (l : Launch) (E : EE) (Z : ZZ) (M : MM) (a0 : Nat) (v1 : Int32) (Q : Int32 → MM → Prop) (h : P_X0_isBlock Z M a0 v1 Q) : Ct_i l yX0_isBlock cX0_isBlock 2 (some .boolean) rm_X0_isBlock E Z M [.ref a0, .int v1] Q := by
  refine Met.ofW (cc := cX0_isBlock) (maxL := 2) (ret := some .boolean) (by decide) rfl ?_
  intro p e s m args below meth c s₁ B hml hv
  obtain ⟨rfl, hK, hP, hD, hZ⟩ := hv
  have S : Cx p m c meth cX0_isBlock 2 s _ RX0 (some .boolean) := ⟨⟨B.exec, B.bytes, hml, findClass_of_methodNamed B.named, fun w hw => atoms_spec (ws := ws_ yX0_isBlock cX0_isBlock 2 (some .boolean)) B.pre w (List.mem_cons_of_mem _ hw)⟩, B.returns, B.notSynchronized⟩
  have hl := lv_entry ([.ref a0, .int v1]) (n := 2) (Nat.le_of_ble_eq_true rfl)
  rw [lg_entry_eq]
  generalize (lg_sl ([.ref a0, .int v1]) ++ List.replicate (2 - (lg_sl ([.ref a0, .int v1])).length) Slot.unset).toArray = ls at hl ⊢
  exact (wB_X0_isBlock_0 S  M a0 v1 h) s.heap [] ls ⟨hK, hP, hD, va_S.rf, hZ⟩ hl
set_option maxRecDepth 100000 in
set_option maxHeartbeats 4000000 in
theorem wB_X0_isLoose_0 (S : Cx p m c meth cX0_isLoose 2 s args RX0 (some .boolean)) {Q : Int32 → MM → Prop}   (M : MM) (a0 : Nat) (v1 : Int32) (h : B_X0_isLoose_0 Z Q  M a0 v1) : WG p l e rm_X0_isLoose s m args below meth c 0 0 (MQi below E Z args s Q) E Z M 0 2 [(0, .ref a0), (1, .int v1)] [] := by
  intro H locs ls hw hl
  have hx := S.1.1
  have hb := S.1.2.1
  refine lv_aload_n hx hb dX0_isLoose_0 rfl (lv_at hl 0 rfl) ?_
  refine lv_iload_n hx hb dX0_isLoose_1 rfl (lv_at hl 1 rfl) ?_
  obtain ⟨k_0, h⟩ := h
  refine cv_i (As := [.int v1]) (rest := []) S.1 hw (k_X0_isBlock l E Z M a0 v1 _ h) wv_X0_61 yc_X0_isBlock ⟨rfl, rfl⟩ ⟨Nat.le_of_ble_eq_true rfl, Nat.le_of_ble_eq_true rfl⟩ rfl hl.1 (Nat.le_of_ble_eq_true rfl) (ci := 0) (q := (RX0, TX0, 3)) rfl rfl (by rw [k_0]; decide) (cell_0 k_0) ⟨Nat.le_of_ble_eq_true rfl, Nat.le_of_ble_eq_true rfl⟩ dX0_isLoose_2 (fun r2 M2 H locs h hw => ?_)
  refine lv_if_eq (tgt := 23) hx hb dX0_isLoose_5 (by decide) (fun q_5 => ?_) (fun q_5 => ?_)
  · have h := h.1 q_5
    refine lv_iconst (v := 0) hx hb dX0_isLoose_23 (by decide) ?_
    exact we_z S hw rfl (by rfl) h dX0_isLoose_24
  · have h := h.2 q_5
    refine lv_aload_n hx hb dX0_isLoose_8 rfl (lv_at hl 0 rfl) ?_
    obtain ⟨y9_1, hy_1, h⟩ := h
    refine gf_X0_20 S.1 hw k_0 hy_1 dX0_isLoose_9 ?_
    refine lv_iload_n hx hb dX0_isLoose_12 rfl (lv_at hl 1 rfl) ?_
    obtain ⟨k_2, h⟩ := h
    refine cv_i (As := [.int v1]) (rest := []) S.1 hw (k_X2_at l E Z M2 y9_1 v1 _ h) wv_X0_39 yc_X2_at ⟨rfl, rfl⟩ ⟨Nat.le_of_ble_eq_true rfl, Nat.le_of_ble_eq_true rfl⟩ rfl hl.1 (Nat.le_of_ble_eq_true rfl) (ci := 2) (q := (RX2, TX2, 1)) rfl rfl (by rw [k_2]; decide) (cell_2 k_2) ⟨Nat.le_of_ble_eq_true rfl, Nat.le_of_ble_eq_true rfl⟩ dX0_isLoose_13 (fun r13 M13 H locs h hw => ?_)
    refine lv_if_ne (tgt := 23) hx hb dX0_isLoose_16 (by decide) (fun q_16 => ?_) (fun q_16 => ?_)
    · have h := h.1 q_16
      refine lv_iconst (v := 0) hx hb dX0_isLoose_23 (by decide) ?_
      exact we_z S hw rfl (by rfl) h dX0_isLoose_24
    · have h := h.2 q_16
      refine lv_iconst (v := 1) hx hb dX0_isLoose_19 (by decide) ?_
      refine lv_goto (tgt := 24) hx hb dX0_isLoose_20 (by decide) ?_
      exact we_z S hw rfl (by rfl) h dX0_isLoose_24
set_option maxRecDepth 100000 in
set_option maxHeartbeats 4000000 in
theorem k_X0_isLoose (l : Launch) (E : EE) (Z : ZZ) (M : MM) (a0 : Nat) (v1 : Int32) (Q : Int32 → MM → Prop) (h : P_X0_isLoose Z M a0 v1 Q) : Ct_i l yX0_isLoose cX0_isLoose 2 (some .boolean) rm_X0_isLoose E Z M [.ref a0, .int v1] Q := by
  refine Met.ofW (cc := cX0_isLoose) (maxL := 2) (ret := some .boolean) (by decide) rfl ?_
  intro p e s m args below meth c s₁ B hml hv
  obtain ⟨rfl, hK, hP, hD, hZ⟩ := hv
  have S : Cx p m c meth cX0_isLoose 2 s _ RX0 (some .boolean) := ⟨⟨B.exec, B.bytes, hml, findClass_of_methodNamed B.named, fun w hw => atoms_spec (ws := ws_ yX0_isLoose cX0_isLoose 2 (some .boolean)) B.pre w (List.mem_cons_of_mem _ hw)⟩, B.returns, B.notSynchronized⟩
  have hl := lv_entry ([.ref a0, .int v1]) (n := 2) (Nat.le_of_ble_eq_true rfl)
  rw [lg_entry_eq]
  generalize (lg_sl ([.ref a0, .int v1]) ++ List.replicate (2 - (lg_sl ([.ref a0, .int v1])).length) Slot.unset).toArray = ls at hl ⊢
  exact (wB_X0_isLoose_0 S  M a0 v1 h) s.heap [] ls ⟨hK, hP, hD, va_S.rf, hZ⟩ hl
set_option maxRecDepth 100000 in
set_option maxHeartbeats 4000000 in
theorem wB_X4_gatherCells_44 (S : Cx p m c meth cX4_gatherCells 4 s args RX4 (none)) {Q : MM → Prop} {K7 : MM → Nat → Nat → Int32 → Int32 → Prop} (hK7 : ∀ (M : MM) (a0 : Nat) (a1 : Nat) (v2 : Int32) (v3 : Int32), K7 M a0 a1 v2 v3 → WG p l e rm_X4_gatherCells s m args below meth c 0 0 (MQv below E Z args s Q) E Z M 7 4 [(0, .ref a0), (1, .ref a1), (2, .int v2), (3, .int v3)] []) (M : MM) (a0 : Nat) (a1 : Nat) (v2 : Int32) (v3 : Int32) (h : B_X4_gatherCells_44 Z Q K7 M a0 a1 v2 v3) : WG p l e rm_X4_gatherCells s m args below meth c 0 0 (MQv below E Z args s Q) E Z M 44 4 [(0, .ref a0), (1, .ref a1), (2, .int v2), (3, .int v3)] [] := by
  intro H locs ls hw hl
  have hx := S.1.1
  have hb := S.1.2.1
  refine lv_iinc (v := (v3 + 1)) (lv' := [(3, .int (v3 + 1)), (0, .ref a0), (1, .ref a1), (2, .int v2)]) hx hb dX4_gatherCells_44 hl (k := 3) rfl rfl (by decide) rfl (fun ls hl => ?_)
  refine lv_goto (tgt := 7) hx hb dX4_gatherCells_47 (by decide) ?_
  exact (hK7 _ _ _ _ _ h) H locs ls hw (lv_sub hl [1, 2, 3, 0] rfl)
set_option maxRecDepth 100000 in
set_option maxHeartbeats 4000000 in
theorem wB_X4_gatherCells_7 (S : Cx p m c meth cX4_gatherCells 4 s args RX4 (none)) {Q : MM → Prop} {K7 : MM → Nat → Nat → Int32 → Int32 → Prop} (hK7 : ∀ (M : MM) (a0 : Nat) (a1 : Nat) (v2 : Int32) (v3 : Int32), K7 M a0 a1 v2 v3 → WG p l e rm_X4_gatherCells s m args below meth c 0 0 (MQv below E Z args s Q) E Z M 7 4 [(0, .ref a0), (1, .ref a1), (2, .int v2), (3, .int v3)] []) (M : MM) (a0 : Nat) (a1 : Nat) (v2 : Int32) (v3 : Int32) (h : B_X4_gatherCells_7 Z Q K7 M a0 a1 v2 v3) : WG p l e rm_X4_gatherCells s m args below meth c 0 0 (MQv below E Z args s Q) E Z M 7 4 [(0, .ref a0), (1, .ref a1), (2, .int v2), (3, .int v3)] [] := by
  intro H locs ls hw hl
  have hx := S.1.1
  have hb := S.1.2.1
  refine lv_iload_n hx hb dX4_gatherCells_7 rfl (lv_at hl 3 rfl) ?_
  refine lv_bipush (v := 49) hx hb dX4_gatherCells_8 (by decide) ?_
  refine lv_icmp_ge (tgt := 50) hx hb dX4_gatherCells_10 (by decide) (fun q_10 => ?_) (fun q_10 => ?_)
  · have h := h.1 q_10
    exact we_v S hw h dX4_gatherCells_50
  · have h := h.2 q_10
    refine lv_aload_n hx hb dX4_gatherCells_13 rfl (lv_at hl 1 rfl) ?_
    refine lv_iload_n hx hb dX4_gatherCells_14 rfl (lv_at hl 3 rfl) ?_
    obtain ⟨k_0, h⟩ := h
    refine cv_i (As := [.int v3]) (rest := []) S.1 hw (k_X0_numberAt l E Z M a1 v3 _ h) wv_X4_69 yc_X0_numberAt ⟨rfl, rfl⟩ ⟨Nat.le_of_ble_eq_true rfl, Nat.le_of_ble_eq_true rfl⟩ rfl hl.1 (Nat.le_of_ble_eq_true rfl) (ci := 0) (q := (RX0, TX0, 3)) rfl rfl (by rw [k_0]; decide) (cell_0 k_0) ⟨Nat.le_of_ble_eq_true rfl, Nat.le_of_ble_eq_true rfl⟩ dX4_gatherCells_15 (fun r15 M15 H locs h hw => ?_)
    refine lv_iload_n hx hb dX4_gatherCells_18 rfl (lv_at hl 2 rfl) ?_
    refine lv_icmp_ne (tgt := 44) hx hb dX4_gatherCells_19 (by decide) (fun q_19 => ?_) (fun q_19 => ?_)
    · have h := h.1 q_19
      exact ((wB_X4_gatherCells_44 S  hK7 _ _ _ _ _ h)) H locs ls hw (lv_sub hl [0, 1, 2, 3] rfl)
    · have h := h.2 q_19
      refine lv_aload_n hx hb dX4_gatherCells_22 rfl (lv_at hl 0 rfl) ?_
      obtain ⟨k_1, h⟩ := h
      obtain ⟨y23_2, hy_2, h⟩ := h
      refine gf_X4_20 S.1 hw k_1 hy_2 dX4_gatherCells_23 ?_
      refine lv_aload_n hx hb dX4_gatherCells_26 rfl (lv_at hl 0 rfl) ?_
      refine gf_X4_23 S.1 hw k_1 dX4_gatherCells_27 ?_
      refine lv_iload_n hx hb dX4_gatherCells_30 rfl (lv_at hl 3 rfl) ?_
      obtain ⟨k_3, h⟩ := h
      refine cv_v (As := [.int (mI M15 11 a0), .int v3]) (rest := []) S.1 hw (k_X2_put l E Z M15 y23_2 (mI M15 11 a0) v3 _ h) wv_X4_40 yc_X2_put ⟨rfl, rfl⟩ ⟨Nat.le_of_ble_eq_true rfl, Nat.le_of_ble_eq_true rfl⟩ rfl hl.1 (Nat.le_of_ble_eq_true rfl) (ci := 2) (q := (RX2, TX2, 1)) rfl rfl (by rw [k_3]; decide) (cell_2 k_3) ⟨Nat.le_of_ble_eq_true rfl, Nat.le_of_ble_eq_true rfl⟩ dX4_gatherCells_31 (fun M31 H locs h hw => ?_)
      refine lv_aload_n hx hb dX4_gatherCells_34 rfl (lv_at hl 0 rfl) ?_
      refine lv_dup hx hb dX4_gatherCells_35 rfl ?_
      refine gf_X4_23 S.1 hw k_1 dX4_gatherCells_36 ?_
      refine lv_iconst (v := 1) hx hb dX4_gatherCells_39 (by decide) ?_
      refine lv_iadd hx hb dX4_gatherCells_40 ?_
      refine pf_X4_23 S.1 hw k_1 dX4_gatherCells_41 (fun H locs hw => ?_)
      exact ((wB_X4_gatherCells_44 S  hK7 _ _ _ _ _ h)) H locs ls hw (lv_sub hl [0, 1, 2, 3] rfl)
theorem wL_X4_gatherCells_7 (S : Cx p m c meth cX4_gatherCells 4 s args RX4 (none)) {Q : MM → Prop}   : ∀ (n : Nat) (M : MM) (a0 : Nat) (a1 : Nat) (v2 : Int32) (v3 : Int32), L_X4_gatherCells_7 Z Q  n M a0 a1 v2 v3 → WG p l e rm_X4_gatherCells s m args below meth c 0 0 (MQv below E Z args s Q) E Z M 7 4 [(0, .ref a0), (1, .ref a1), (2, .int v2), (3, .int v3)] []
  | 0, _, _, _, _, _, h => False.elim h
  | n + 1, M, a0, a1, v2, v3, h => wB_X4_gatherCells_7 S  (wL_X4_gatherCells_7 S   n) M a0 a1 v2 v3 h
set_option maxRecDepth 100000 in
set_option maxHeartbeats 4000000 in
theorem wB_X4_gatherCells_0 (S : Cx p m c meth cX4_gatherCells 4 s args RX4 (none)) {Q : MM → Prop}   (M : MM) (a0 : Nat) (a1 : Nat) (v2 : Int32) (h : B_X4_gatherCells_0 Z Q  M a0 a1 v2) : WG p l e rm_X4_gatherCells s m args below meth c 0 0 (MQv below E Z args s Q) E Z M 0 4 [(0, .ref a0), (1, .ref a1), (2, .int v2)] [] := by
  intro H locs ls hw hl
  have hx := S.1.1
  have hb := S.1.2.1
  refine lv_aload_n hx hb dX4_gatherCells_0 rfl (lv_at hl 0 rfl) ?_
  refine lv_iconst (v := 0) hx hb dX4_gatherCells_1 (by decide) ?_
  obtain ⟨k_0, h⟩ := h
  refine pf_X4_23 S.1 hw k_0 dX4_gatherCells_2 (fun H locs hw => ?_)
  refine lv_iconst (v := 0) hx hb dX4_gatherCells_5 (by decide) ?_
  refine lv_istore_n (lv' := [(3, .int 0), (0, .ref a0), (1, .ref a1), (2, .int v2)]) hx hb dX4_gatherCells_6 rfl hl (by decide) rfl (fun ls hl => ?_)
  exact ((Exists.elim h (fun n h => wL_X4_gatherCells_7 S   n _ _ _ _ _ h))) H locs ls hw (lv_sub hl [1, 2, 3, 0] rfl)
set_option maxRecDepth 100000 in
set_option maxHeartbeats 4000000 in
theorem k_X4_gatherCells (l : Launch) (E : EE) (Z : ZZ) (M : MM) (a0 : Nat) (a1 : Nat) (v2 : Int32) (Q : MM → Prop) (h : P_X4_gatherCells Z M a0 a1 v2 Q) : Ct_v l yX4_gatherCells cX4_gatherCells 4 (none) rm_X4_gatherCells E Z M [.ref a0, .ref a1, .int v2] Q := by
  refine Met.ofW (cc := cX4_gatherCells) (maxL := 4) (ret := none) (by decide) rfl ?_
  intro p e s m args below meth c s₁ B hml hv
  obtain ⟨rfl, hK, hP, hD, hZ⟩ := hv
  have S : Cx p m c meth cX4_gatherCells 4 s _ RX4 (none) := ⟨⟨B.exec, B.bytes, hml, findClass_of_methodNamed B.named, fun w hw => atoms_spec (ws := ws_ yX4_gatherCells cX4_gatherCells 4 (none)) B.pre w (List.mem_cons_of_mem _ hw)⟩, B.returns, B.notSynchronized⟩
  have hl := lv_entry ([.ref a0, .ref a1, .int v2]) (n := 4) (Nat.le_of_ble_eq_true rfl)
  rw [lg_entry_eq]
  generalize (lg_sl ([.ref a0, .ref a1, .int v2]) ++ List.replicate (4 - (lg_sl ([.ref a0, .ref a1, .int v2])).length) Slot.unset).toArray = ls at hl ⊢
  exact (wB_X4_gatherCells_0 S  M a0 a1 v2 h) s.heap [] ls ⟨hK, hP, hD, va_S.rf, hZ⟩ hl
set_option maxRecDepth 100000 in
set_option maxHeartbeats 4000000 in
theorem wB_X4_stepOf_0 (S : Cx p m c meth cX4_stepOf 1 s args RX4 (some .int)) {Q : Int32 → MM → Prop}   (M : MM) (v0 : Int32) (h : B_X4_stepOf_0 Z Q  M v0) : WG p l e rm_X4_stepOf s m args below meth c 0 0 (MQi below E Z args s Q) E Z M 0 1 [(0, .int v0)] [] := by
  intro H locs ls hw hl
  have hx := S.1.1
  have hb := S.1.2.1
  refine lv_iload_n hx hb dX4_stepOf_0 rfl (lv_at hl 0 rfl) ?_
  by_cases q_1_0 : v0 = 0
  · have h := h.1 q_1_0
    refine lv_tableIn (tgt := 32) hx hb dX4_stepOf_1 (by rw [q_1_0]; decide) (by rw [q_1_0]; decide) (by rw [q_1_0]; rfl) (by decide) ?_
    refine lv_iconst (v := (-1)) hx hb dX4_stepOf_32 (by decide) ?_
    exact we_i S hw h dX4_stepOf_33
  · have h := h.2 q_1_0
    by_cases q_1_1 : v0 = 1
    · have h := h.1 q_1_1
      refine lv_tableIn (tgt := 34) hx hb dX4_stepOf_1 (by rw [q_1_1]; decide) (by rw [q_1_1]; decide) (by rw [q_1_1]; rfl) (by decide) ?_
      refine lv_iconst (v := 1) hx hb dX4_stepOf_34 (by decide) ?_
      exact we_i S hw h dX4_stepOf_35
    · have h := h.2 q_1_1
      by_cases q_1_2 : v0 = 2
      · have h := h.1 q_1_2
        refine lv_tableIn (tgt := 36) hx hb dX4_stepOf_1 (by rw [q_1_2]; decide) (by rw [q_1_2]; decide) (by rw [q_1_2]; rfl) (by decide) ?_
        refine lv_bipush (v := (-15)) hx hb dX4_stepOf_36 (by decide) ?_
        exact we_i S hw h dX4_stepOf_38
      · have h := h.2 q_1_2
        by_cases q_1_3 : v0 = 3
        · have h := h.1 q_1_3
          refine lv_tableIn (tgt := 39) hx hb dX4_stepOf_1 (by rw [q_1_3]; decide) (by rw [q_1_3]; decide) (by rw [q_1_3]; rfl) (by decide) ?_
          refine lv_bipush (v := 15) hx hb dX4_stepOf_39 (by decide) ?_
          exact we_i S hw h dX4_stepOf_41
        · have h := h.2 q_1_3
          have t_0 := lv_neT q_1_0 (a := 0) rfl
          have t_1 := lv_neT q_1_1 (a := 1) rfl
          have t_2 := lv_neT q_1_2 (a := 2) rfl
          have t_3 := lv_neT q_1_3 (a := 3) rfl
          refine lv_tableOut (tgt := 42) hx hb dX4_stepOf_1 (by omega) (by decide) ?_
          refine lv_iconst (v := 0) hx hb dX4_stepOf_42 (by decide) ?_
          exact we_i S hw h dX4_stepOf_43
set_option maxRecDepth 100000 in
set_option maxHeartbeats 4000000 in
theorem k_X4_stepOf (l : Launch) (E : EE) (Z : ZZ) (M : MM) (v0 : Int32) (Q : Int32 → MM → Prop) (h : P_X4_stepOf Z M v0 Q) : Ct_i l yX4_stepOf cX4_stepOf 1 (some .int) rm_X4_stepOf E Z M [.int v0] Q := by
  refine Met.ofW (cc := cX4_stepOf) (maxL := 1) (ret := some .int) (by decide) rfl ?_
  intro p e s m args below meth c s₁ B hml hv
  obtain ⟨rfl, hK, hP, hD, hZ⟩ := hv
  have S : Cx p m c meth cX4_stepOf 1 s _ RX4 (some .int) := ⟨⟨B.exec, B.bytes, hml, findClass_of_methodNamed B.named, fun w hw => atoms_spec (ws := ws_ yX4_stepOf cX4_stepOf 1 (some .int)) B.pre w (List.mem_cons_of_mem _ hw)⟩, B.returns, B.notSynchronized⟩
  have hl := lv_entry ([.int v0]) (n := 1) (Nat.le_of_ble_eq_true rfl)
  rw [lg_entry_eq]
  generalize (lg_sl ([.int v0]) ++ List.replicate (1 - (lg_sl ([.int v0])).length) Slot.unset).toArray = ls at hl ⊢
  exact (wB_X4_stepOf_0 S  M v0 h) s.heap [] ls ⟨hK, hP, hD, va_S.rf, hZ⟩ hl
set_option maxRecDepth 100000 in
set_option maxHeartbeats 4000000 in
theorem wB_X4_downAt_0 (S : Cx p m c meth cX4_downAt 1 s args RX4 (some .int)) {Q : Int32 → MM → Prop}   (M : MM) (v0 : Int32) (h : B_X4_downAt_0 Z Q  M v0) : WG p l e rm_X4_downAt s m args below meth c 0 0 (MQi below E Z args s Q) E Z M 0 1 [(0, .int v0)] [] := by
  intro H locs ls hw hl
  have hx := S.1.1
  have hb := S.1.2.1
  refine lv_iload_n hx hb dX4_downAt_0 rfl (lv_at hl 0 rfl) ?_
  refine lv_bipush (v := 15) hx hb dX4_downAt_1 (by decide) ?_
  refine lv_idiv hx hb dX4_downAt_3 (by decide) ?_
  refine lv_bipush (v := 7) hx hb dX4_downAt_4 (by decide) ?_
  refine lv_isub hx hb dX4_downAt_6 ?_
  exact we_i S hw h dX4_downAt_7
set_option maxRecDepth 100000 in
set_option maxHeartbeats 4000000 in
theorem k_X4_downAt (l : Launch) (E : EE) (Z : ZZ) (M : MM) (v0 : Int32) (Q : Int32 → MM → Prop) (h : P_X4_downAt Z M v0 Q) : Ct_i l yX4_downAt cX4_downAt 1 (some .int) rm_X4_downAt E Z M [.int v0] Q := by
  refine Met.ofW (cc := cX4_downAt) (maxL := 1) (ret := some .int) (by decide) rfl ?_
  intro p e s m args below meth c s₁ B hml hv
  obtain ⟨rfl, hK, hP, hD, hZ⟩ := hv
  have S : Cx p m c meth cX4_downAt 1 s _ RX4 (some .int) := ⟨⟨B.exec, B.bytes, hml, findClass_of_methodNamed B.named, fun w hw => atoms_spec (ws := ws_ yX4_downAt cX4_downAt 1 (some .int)) B.pre w (List.mem_cons_of_mem _ hw)⟩, B.returns, B.notSynchronized⟩
  have hl := lv_entry ([.int v0]) (n := 1) (Nat.le_of_ble_eq_true rfl)
  rw [lg_entry_eq]
  generalize (lg_sl ([.int v0]) ++ List.replicate (1 - (lg_sl ([.int v0])).length) Slot.unset).toArray = ls at hl ⊢
  exact (wB_X4_downAt_0 S  M v0 h) s.heap [] ls ⟨hK, hP, hD, va_S.rf, hZ⟩ hl
set_option maxRecDepth 100000 in
set_option maxHeartbeats 4000000 in
theorem wB_X4_rightAt_0 (S : Cx p m c meth cX4_rightAt 1 s args RX4 (some .int)) {Q : Int32 → MM → Prop}   (M : MM) (v0 : Int32) (h : B_X4_rightAt_0 Z Q  M v0) : WG p l e rm_X4_rightAt s m args below meth c 0 0 (MQi below E Z args s Q) E Z M 0 1 [(0, .int v0)] [] := by
  intro H locs ls hw hl
  have hx := S.1.1
  have hb := S.1.2.1
  refine lv_iload_n hx hb dX4_rightAt_0 rfl (lv_at hl 0 rfl) ?_
  refine lv_bipush (v := 15) hx hb dX4_rightAt_1 (by decide) ?_
  refine lv_irem hx hb dX4_rightAt_3 (by decide) ?_
  refine lv_bipush (v := 7) hx hb dX4_rightAt_4 (by decide) ?_
  refine lv_isub hx hb dX4_rightAt_6 ?_
  exact we_i S hw h dX4_rightAt_7
set_option maxRecDepth 100000 in
set_option maxHeartbeats 4000000 in
theorem k_X4_rightAt (l : Launch) (E : EE) (Z : ZZ) (M : MM) (v0 : Int32) (Q : Int32 → MM → Prop) (h : P_X4_rightAt Z M v0 Q) : Ct_i l yX4_rightAt cX4_rightAt 1 (some .int) rm_X4_rightAt E Z M [.int v0] Q := by
  refine Met.ofW (cc := cX4_rightAt) (maxL := 1) (ret := some .int) (by decide) rfl ?_
  intro p e s m args below meth c s₁ B hml hv
  obtain ⟨rfl, hK, hP, hD, hZ⟩ := hv
  have S : Cx p m c meth cX4_rightAt 1 s _ RX4 (some .int) := ⟨⟨B.exec, B.bytes, hml, findClass_of_methodNamed B.named, fun w hw => atoms_spec (ws := ws_ yX4_rightAt cX4_rightAt 1 (some .int)) B.pre w (List.mem_cons_of_mem _ hw)⟩, B.returns, B.notSynchronized⟩
  have hl := lv_entry ([.int v0]) (n := 1) (Nat.le_of_ble_eq_true rfl)
  rw [lg_entry_eq]
  generalize (lg_sl ([.int v0]) ++ List.replicate (1 - (lg_sl ([.int v0])).length) Slot.unset).toArray = ls at hl ⊢
  exact (wB_X4_rightAt_0 S  M v0 h) s.heap [] ls ⟨hK, hP, hD, va_S.rf, hZ⟩ hl
set_option maxRecDepth 100000 in
set_option maxHeartbeats 4000000 in
theorem wB_X4_canLie_125 (S : Cx p m c meth cX4_canLie 11 s args RX4 (some .boolean)) {Q : Int32 → MM → Prop} {K17 : MM → Nat → Nat → Nat → Int32 → Int32 → Int32 → Int32 → Prop} (hK17 : ∀ (M : MM) (a0 : Nat) (a1 : Nat) (a2 : Nat) (v3 : Int32) (v5 : Int32) (v6 : Int32) (v7 : Int32), K17 M a0 a1 a2 v3 v5 v6 v7 → WG p l e rm_X4_canLie s m args below meth c 0 0 (MQi below E Z args s Q) E Z M 17 11 [(0, .ref a0), (1, .ref a1), (2, .ref a2), (3, .int v3), (5, .int v5), (6, .int v6), (7, .int v7)] []) (M : MM) (a0 : Nat) (a1 : Nat) (a2 : Nat) (v3 : Int32) (v5 : Int32) (v6 : Int32) (v7 : Int32) (h : B_X4_canLie_125 Z Q K17 M a0 a1 a2 v3 v5 v6 v7) : WG p l e rm_X4_canLie s m args below meth c 0 0 (MQi below E Z args s Q) E Z M 125 11 [(0, .ref a0), (1, .ref a1), (2, .ref a2), (3, .int v3), (5, .int v5), (6, .int v6), (7, .int v7)] [] := by
  intro H locs ls hw hl
  have hx := S.1.1
  have hb := S.1.2.1
  refine lv_iinc (v := (v7 + 1)) (lv' := [(7, .int (v7 + 1)), (0, .ref a0), (1, .ref a1), (2, .ref a2), (3, .int v3), (5, .int v5), (6, .int v6)]) hx hb dX4_canLie_125 hl (k := 6) rfl rfl (by decide) rfl (fun ls hl => ?_)
  refine lv_goto (tgt := 17) hx hb dX4_canLie_128 (by decide) ?_
  exact (hK17 _ _ _ _ _ _ _ _ h) H locs ls hw (lv_sub hl [1, 2, 3, 4, 5, 6, 0] rfl)
set_option maxRecDepth 100000 in
set_option maxHeartbeats 4000000 in
theorem wB_X4_canLie_17 (S : Cx p m c meth cX4_canLie 11 s args RX4 (some .boolean)) {Q : Int32 → MM → Prop} {K17 : MM → Nat → Nat → Nat → Int32 → Int32 → Int32 → Int32 → Prop} (hK17 : ∀ (M : MM) (a0 : Nat) (a1 : Nat) (a2 : Nat) (v3 : Int32) (v5 : Int32) (v6 : Int32) (v7 : Int32), K17 M a0 a1 a2 v3 v5 v6 v7 → WG p l e rm_X4_canLie s m args below meth c 0 0 (MQi below E Z args s Q) E Z M 17 11 [(0, .ref a0), (1, .ref a1), (2, .ref a2), (3, .int v3), (5, .int v5), (6, .int v6), (7, .int v7)] []) (M : MM) (a0 : Nat) (a1 : Nat) (a2 : Nat) (v3 : Int32) (v5 : Int32) (v6 : Int32) (v7 : Int32) (h : B_X4_canLie_17 Z Q K17 M a0 a1 a2 v3 v5 v6 v7) : WG p l e rm_X4_canLie s m args below meth c 0 0 (MQi below E Z args s Q) E Z M 17 11 [(0, .ref a0), (1, .ref a1), (2, .ref a2), (3, .int v3), (5, .int v5), (6, .int v6), (7, .int v7)] [] := by
  intro H locs ls hw hl
  have hx := S.1.1
  have hb := S.1.2.1
  refine lv_iload hx hb dX4_canLie_17 (lv_at hl 6 rfl) ?_
  refine lv_aload_n hx hb dX4_canLie_19 rfl (lv_at hl 0 rfl) ?_
  obtain ⟨k_0, h⟩ := h
  refine gf_X4_23 S.1 hw k_0 dX4_canLie_20 ?_
  refine lv_icmp_ge (tgt := 131) hx hb dX4_canLie_23 (by decide) (fun q_23 => ?_) (fun q_23 => ?_)
  · have h := h.1 q_23
    refine lv_iconst (v := 1) hx hb dX4_canLie_131 (by decide) ?_
    exact we_z S hw rfl (by rfl) h dX4_canLie_132
  · have h := h.2 q_23
    refine lv_aload_n hx hb dX4_canLie_26 rfl (lv_at hl 1 rfl) ?_
    refine lv_aload_n hx hb dX4_canLie_27 rfl (lv_at hl 0 rfl) ?_
    obtain ⟨y28_1, hy_1, h⟩ := h
    refine gf_X4_20 S.1 hw k_0 hy_1 dX4_canLie_28 ?_
    refine lv_iload hx hb dX4_canLie_31 (lv_at hl 6 rfl) ?_
    obtain ⟨k_2, h⟩ := h
    refine cv_i (As := [.int v7]) (rest := [.ref a1]) S.1 hw (k_X2_at l E Z M y28_1 v7 _ h) wv_X4_44 yc_X2_at ⟨rfl, rfl⟩ ⟨Nat.le_of_ble_eq_true rfl, Nat.le_of_ble_eq_true rfl⟩ rfl hl.1 (Nat.le_of_ble_eq_true rfl) (ci := 2) (q := (RX2, TX2, 1)) rfl rfl (by rw [k_2]; decide) (cell_2 k_2) ⟨Nat.le_of_ble_eq_true rfl, Nat.le_of_ble_eq_true rfl⟩ dX4_canLie_33 (fun r33 M33 H locs h hw => ?_)
    obtain ⟨k_3, h⟩ := h
    refine cv_i (As := [.int r33]) (rest := []) S.1 hw (k_X1_rowOf l E Z M33 a1 r33 _ h) wv_X4_55 yc_X1_rowOf ⟨rfl, rfl⟩ ⟨Nat.le_of_ble_eq_true rfl, Nat.le_of_ble_eq_true rfl⟩ rfl hl.1 (Nat.le_of_ble_eq_true rfl) (ci := 1) (q := (RX1, TX1, 12)) rfl rfl (by rw [k_3]; decide) (cell_1 k_3) ⟨Nat.le_of_ble_eq_true rfl, Nat.le_of_ble_eq_true rfl⟩ dX4_canLie_36 (fun r36 M36 H locs h hw => ?_)
    refine lv_iload hx hb dX4_canLie_39 (lv_at hl 4 rfl) ?_
    refine lv_iadd hx hb dX4_canLie_41 ?_
    refine lv_istore (lv' := [(8, .int (r36 + v5)), (0, .ref a0), (1, .ref a1), (2, .ref a2), (3, .int v3), (5, .int v5), (6, .int v6), (7, .int v7)]) hx hb dX4_canLie_42 hl (by decide) rfl (fun ls hl => ?_)
    refine lv_aload_n hx hb dX4_canLie_44 rfl (lv_at hl 2 rfl) ?_
    refine lv_aload_n hx hb dX4_canLie_45 rfl (lv_at hl 1 rfl) ?_
    refine gf_X4_20 S.1 hw k_0 hy_1 dX4_canLie_46 ?_
    refine lv_iload hx hb dX4_canLie_49 (lv_at hl 7 rfl) ?_
    refine cv_i (As := [.int v7]) (rest := [.ref a1]) S.1 hw (k_X2_at l E Z M36 y28_1 v7 _ h) wv_X4_44 yc_X2_at ⟨rfl, rfl⟩ ⟨Nat.le_of_ble_eq_true rfl, Nat.le_of_ble_eq_true rfl⟩ rfl hl.1 (Nat.le_of_ble_eq_true rfl) (ci := 2) (q := (RX2, TX2, 1)) rfl rfl (by rw [k_2]; decide) (cell_2 k_2) ⟨Nat.le_of_ble_eq_true rfl, Nat.le_of_ble_eq_true rfl⟩ dX4_canLie_51 (fun r51 M51 H locs h hw => ?_)
    refine cv_i (As := [.int r51]) (rest := []) S.1 hw (k_X1_columnOf l E Z M51 a1 r51 _ h) wv_X4_77 yc_X1_columnOf ⟨rfl, rfl⟩ ⟨Nat.le_of_ble_eq_true rfl, Nat.le_of_ble_eq_true rfl⟩ rfl hl.1 (Nat.le_of_ble_eq_true rfl) (ci := 1) (q := (RX1, TX1, 12)) rfl rfl (by rw [k_3]; decide) (cell_1 k_3) ⟨Nat.le_of_ble_eq_true rfl, Nat.le_of_ble_eq_true rfl⟩ dX4_canLie_54 (fun r54 M54 H locs h hw => ?_)
    refine lv_iload hx hb dX4_canLie_57 (lv_at hl 6 rfl) ?_
    refine lv_iadd hx hb dX4_canLie_59 ?_
    refine lv_istore (lv' := [(9, .int (r54 + v6)), (8, .int (r36 + v5)), (0, .ref a0), (1, .ref a1), (2, .ref a2), (3, .int v3), (5, .int v5), (6, .int v6), (7, .int v7)]) hx hb dX4_canLie_60 hl (by decide) rfl (fun ls hl => ?_)
    refine lv_iload hx hb dX4_canLie_62 (lv_at hl 1 rfl) ?_
    refine lv_if_lt (tgt := 81) hx hb dX4_canLie_64 (by decide) (fun q_64 => ?_) (fun q_64 => ?_)
    · have h := h.1 q_64
      refine lv_iconst (v := 0) hx hb dX4_canLie_81 (by decide) ?_
      exact we_z S hw rfl (by rfl) h dX4_canLie_82
    · have h := h.2 q_64
      refine lv_iload hx hb dX4_canLie_67 (lv_at hl 0 rfl) ?_
      refine lv_if_lt (tgt := 81) hx hb dX4_canLie_69 (by decide) (fun q_69 => ?_) (fun q_69 => ?_)
      · have h := h.1 q_69
        refine lv_iconst (v := 0) hx hb dX4_canLie_81 (by decide) ?_
        exact we_z S hw rfl (by rfl) h dX4_canLie_82
      · have h := h.2 q_69
        refine lv_iload hx hb dX4_canLie_72 (lv_at hl 0 rfl) ?_
        refine lv_aload_n hx hb dX4_canLie_74 rfl (lv_at hl 3 rfl) ?_
        refine gf_X4_80 S.1 hw k_3 dX4_canLie_75 ?_
        refine lv_icmp_lt (tgt := 83) hx hb dX4_canLie_78 (by decide) (fun q_78 => ?_) (fun q_78 => ?_)
        · have h := h.1 q_78
          refine lv_iload hx hb dX4_canLie_83 (lv_at hl 1 rfl) ?_
          refine lv_aload_n hx hb dX4_canLie_85 rfl (lv_at hl 3 rfl) ?_
          refine gf_X4_80 S.1 hw k_3 dX4_canLie_86 ?_
          refine lv_imul hx hb dX4_canLie_89 ?_
          refine lv_iload hx hb dX4_canLie_90 (lv_at hl 0 rfl) ?_
          refine lv_iadd hx hb dX4_canLie_92 ?_
          refine lv_istore (lv' := [(10, .int (((r36 + v5) * (mI M54 0 a1)) + (r54 + v6))), (9, .int (r54 + v6)), (8, .int (r36 + v5)), (0, .ref a0), (1, .ref a1), (2, .ref a2), (3, .int v3), (5, .int v5), (6, .int v6), (7, .int v7)]) hx hb dX4_canLie_93 hl (by decide) rfl (fun ls hl => ?_)
          refine lv_iload hx hb dX4_canLie_95 (lv_at hl 2 rfl) ?_
          refine lv_aload_n hx hb dX4_canLie_97 rfl (lv_at hl 4 rfl) ?_
          refine gf_X4_63 S.1 hw k_3 dX4_canLie_98 ?_
          refine lv_icmp_ge (tgt := 125) hx hb dX4_canLie_101 (by decide) (fun q_101 => ?_) (fun q_101 => ?_)
          · have h := h.1 q_101
            exact ((wB_X4_canLie_125 S  hK17 _ _ _ _ _ _ _ _ h)) H locs ls hw (lv_sub hl [3, 4, 5, 6, 7, 8, 9] rfl)
          · have h := h.2 q_101
            refine lv_aload_n hx hb dX4_canLie_104 rfl (lv_at hl 4 rfl) ?_
            refine lv_iload hx hb dX4_canLie_105 (lv_at hl 0 rfl) ?_
            refine cv_i (As := [.int (((r36 + v5) * (mI M54 0 a1)) + (r54 + v6))]) (rest := []) S.1 hw (k_X1_isIce l E Z M54 a1 (((r36 + v5) * (mI M54 0 a1)) + (r54 + v6)) _ h) wv_X4_83 yc_X1_isIce ⟨rfl, rfl⟩ ⟨Nat.le_of_ble_eq_true rfl, Nat.le_of_ble_eq_true rfl⟩ rfl hl.1 (Nat.le_of_ble_eq_true rfl) (ci := 1) (q := (RX1, TX1, 12)) rfl rfl (by rw [k_3]; decide) (cell_1 k_3) ⟨Nat.le_of_ble_eq_true rfl, Nat.le_of_ble_eq_true rfl⟩ dX4_canLie_107 (fun r107 M107 H locs h hw => ?_)
            refine lv_if_eq (tgt := 125) hx hb dX4_canLie_110 (by decide) (fun q_110 => ?_) (fun q_110 => ?_)
            · have h := h.1 q_110
              exact ((wB_X4_canLie_125 S  hK17 _ _ _ _ _ _ _ _ h)) H locs ls hw (lv_sub hl [3, 4, 5, 6, 7, 8, 9] rfl)
            · have h := h.2 q_110
              refine lv_aload_n hx hb dX4_canLie_113 rfl (lv_at hl 5 rfl) ?_
              refine lv_iload hx hb dX4_canLie_114 (lv_at hl 0 rfl) ?_
              obtain ⟨k_4, h⟩ := h
              refine cv_i (As := [.int (((r36 + v5) * (mI M54 0 a1)) + (r54 + v6))]) (rest := []) S.1 hw (k_X0_numberAt l E Z M107 a2 (((r36 + v5) * (mI M54 0 a1)) + (r54 + v6)) _ h) wv_X4_69 yc_X0_numberAt ⟨rfl, rfl⟩ ⟨Nat.le_of_ble_eq_true rfl, Nat.le_of_ble_eq_true rfl⟩ rfl hl.1 (Nat.le_of_ble_eq_true rfl) (ci := 0) (q := (RX0, TX0, 3)) rfl rfl (by rw [k_4]; decide) (cell_0 k_4) ⟨Nat.le_of_ble_eq_true rfl, Nat.le_of_ble_eq_true rfl⟩ dX4_canLie_116 (fun r116 M116 H locs h hw => ?_)
              refine lv_iload_n hx hb dX4_canLie_119 rfl (lv_at hl 6 rfl) ?_
              refine lv_icmp_eq (tgt := 125) hx hb dX4_canLie_120 (by decide) (fun q_120 => ?_) (fun q_120 => ?_)
              · have h := h.1 q_120
                exact ((wB_X4_canLie_125 S  hK17 _ _ _ _ _ _ _ _ h)) H locs ls hw (lv_sub hl [3, 4, 5, 6, 7, 8, 9] rfl)
              · have h := h.2 q_120
                refine lv_iconst (v := 0) hx hb dX4_canLie_123 (by decide) ?_
                exact we_z S hw rfl (by rfl) h dX4_canLie_124
        · have h := h.2 q_78
          refine lv_iconst (v := 0) hx hb dX4_canLie_81 (by decide) ?_
          exact we_z S hw rfl (by rfl) h dX4_canLie_82
theorem wL_X4_canLie_17 (S : Cx p m c meth cX4_canLie 11 s args RX4 (some .boolean)) {Q : Int32 → MM → Prop}   : ∀ (n : Nat) (M : MM) (a0 : Nat) (a1 : Nat) (a2 : Nat) (v3 : Int32) (v5 : Int32) (v6 : Int32) (v7 : Int32), L_X4_canLie_17 Z Q  n M a0 a1 a2 v3 v5 v6 v7 → WG p l e rm_X4_canLie s m args below meth c 0 0 (MQi below E Z args s Q) E Z M 17 11 [(0, .ref a0), (1, .ref a1), (2, .ref a2), (3, .int v3), (5, .int v5), (6, .int v6), (7, .int v7)] []
  | 0, _, _, _, _, _, _, _, _, h => False.elim h
  | n + 1, M, a0, a1, a2, v3, v5, v6, v7, h => wB_X4_canLie_17 S  (wL_X4_canLie_17 S   n) M a0 a1 a2 v3 v5 v6 v7 h
set_option maxRecDepth 100000 in
set_option maxHeartbeats 4000000 in
theorem wB_X4_canLie_0 (S : Cx p m c meth cX4_canLie 11 s args RX4 (some .boolean)) {Q : Int32 → MM → Prop}   (M : MM) (a0 : Nat) (a1 : Nat) (a2 : Nat) (v3 : Int32) (v4 : Int32) (h : B_X4_canLie_0 Z Q  M a0 a1 a2 v3 v4) : WG p l e rm_X4_canLie s m args below meth c 0 0 (MQi below E Z args s Q) E Z M 0 11 [(0, .ref a0), (1, .ref a1), (2, .ref a2), (3, .int v3), (4, .int v4)] [] := by
  intro H locs ls hw hl
  have hx := S.1.1
  have hb := S.1.2.1
  refine lv_iload hx hb dX4_canLie_0 (lv_at hl 4 rfl) ?_
  refine cs_i (As := [.int v4]) (rest := []) S.1 hw (k_X4_downAt l E Z M v4 _ h) wv_X4_60 yc_X4_downAt ⟨rfl, rfl⟩ ⟨Nat.le_of_ble_eq_true rfl, Nat.le_of_ble_eq_true rfl⟩ rfl hl.1 (Nat.le_of_ble_eq_true rfl) ⟨Nat.le_of_ble_eq_true rfl, Nat.le_of_ble_eq_true rfl⟩ dX4_canLie_2 (fun r2 M2 H locs h hw => ?_)
  refine lv_istore (lv' := [(5, .int r2), (0, .ref a0), (1, .ref a1), (2, .ref a2), (3, .int v3), (4, .int v4)]) hx hb dX4_canLie_5 hl (by decide) rfl (fun ls hl => ?_)
  refine lv_iload hx hb dX4_canLie_7 (lv_at hl 5 rfl) ?_
  refine cs_i (As := [.int v4]) (rest := []) S.1 hw (k_X4_rightAt l E Z M2 v4 _ h) wv_X4_74 yc_X4_rightAt ⟨rfl, rfl⟩ ⟨Nat.le_of_ble_eq_true rfl, Nat.le_of_ble_eq_true rfl⟩ rfl hl.1 (Nat.le_of_ble_eq_true rfl) ⟨Nat.le_of_ble_eq_true rfl, Nat.le_of_ble_eq_true rfl⟩ dX4_canLie_9 (fun r9 M9 H locs h hw => ?_)
  refine lv_istore (lv' := [(6, .int r9), (5, .int r2), (0, .ref a0), (1, .ref a1), (2, .ref a2), (3, .int v3), (4, .int v4)]) hx hb dX4_canLie_12 hl (by decide) rfl (fun ls hl => ?_)
  refine lv_iconst (v := 0) hx hb dX4_canLie_14 (by decide) ?_
  refine lv_istore (lv' := [(7, .int 0), (6, .int r9), (5, .int r2), (0, .ref a0), (1, .ref a1), (2, .ref a2), (3, .int v3), (4, .int v4)]) hx hb dX4_canLie_15 hl (by decide) rfl (fun ls hl => ?_)
  exact ((Exists.elim h (fun n h => wL_X4_canLie_17 S   n _ _ _ _ _ _ _ _ h))) H locs ls hw (lv_sub hl [3, 4, 5, 6, 2, 1, 0] rfl)
set_option maxRecDepth 100000 in
set_option maxHeartbeats 4000000 in
theorem k_X4_canLie (l : Launch) (E : EE) (Z : ZZ) (M : MM) (a0 : Nat) (a1 : Nat) (a2 : Nat) (v3 : Int32) (v4 : Int32) (Q : Int32 → MM → Prop) (h : P_X4_canLie Z M a0 a1 a2 v3 v4 Q) : Ct_i l yX4_canLie cX4_canLie 11 (some .boolean) rm_X4_canLie E Z M [.ref a0, .ref a1, .ref a2, .int v3, .int v4] Q := by
  refine Met.ofW (cc := cX4_canLie) (maxL := 11) (ret := some .boolean) (by decide) rfl ?_
  intro p e s m args below meth c s₁ B hml hv
  obtain ⟨rfl, hK, hP, hD, hZ⟩ := hv
  have S : Cx p m c meth cX4_canLie 11 s _ RX4 (some .boolean) := ⟨⟨B.exec, B.bytes, hml, findClass_of_methodNamed B.named, fun w hw => atoms_spec (ws := ws_ yX4_canLie cX4_canLie 11 (some .boolean)) B.pre w (List.mem_cons_of_mem _ hw)⟩, B.returns, B.notSynchronized⟩
  have hl := lv_entry ([.ref a0, .ref a1, .ref a2, .int v3, .int v4]) (n := 11) (Nat.le_of_ble_eq_true rfl)
  rw [lg_entry_eq]
  generalize (lg_sl ([.ref a0, .ref a1, .ref a2, .int v3, .int v4]) ++ List.replicate (11 - (lg_sl ([.ref a0, .ref a1, .ref a2, .int v3, .int v4])).length) Slot.unset).toArray = ls at hl ⊢
  exact (wB_X4_canLie_0 S  M a0 a1 a2 v3 v4 h) s.heap [] ls ⟨hK, hP, hD, va_S.rf, hZ⟩ hl
set_option maxRecDepth 100000 in
set_option maxHeartbeats 4000000 in
theorem wB_X4_traceBack_51 (S : Cx p m c meth cX4_traceBack 5 s args RX4 (some .int)) {Q : Int32 → MM → Prop} {K51 : MM → Nat → Int32 → Int32 → Int32 → Prop} (hK51 : ∀ (M : MM) (a0 : Nat) (v2 : Int32) (v3 : Int32) (v4 : Int32), K51 M a0 v2 v3 v4 → WG p l e rm_X4_traceBack s m args below meth c 0 0 (MQi below E Z args s Q) E Z M 51 5 [(0, .ref a0), (2, .int v2), (3, .int v3), (4, .int v4)] []) (M : MM) (a0 : Nat) (v2 : Int32) (v3 : Int32) (v4 : Int32) (h : B_X4_traceBack_51 Z Q K51 M a0 v2 v3 v4) : WG p l e rm_X4_traceBack s m args below meth c 0 0 (MQi below E Z args s Q) E Z M 51 5 [(0, .ref a0), (2, .int v2), (3, .int v3), (4, .int v4)] [] := by
  intro H locs ls hw hl
  have hx := S.1.1
  have hb := S.1.2.1
  refine lv_iload hx hb dX4_traceBack_51 (lv_at hl 3 rfl) ?_
  refine lv_if_lt (tgt := 93) hx hb dX4_traceBack_53 (by decide) (fun q_53 => ?_) (fun q_53 => ?_)
  · have h := h.1 q_53
    refine lv_iload_n hx hb dX4_traceBack_93 rfl (lv_at hl 1 rfl) ?_
    exact we_i S hw h dX4_traceBack_94
  · have h := h.2 q_53
    refine lv_aload_n hx hb dX4_traceBack_56 rfl (lv_at hl 0 rfl) ?_
    obtain ⟨k_0, h⟩ := h
    obtain ⟨y57_1, hy_1, h⟩ := h
    refine gf_X4_16 S.1 hw k_0 hy_1 dX4_traceBack_57 ?_
    refine lv_iload hx hb dX4_traceBack_60 (lv_at hl 3 rfl) ?_
    refine lv_aload_n hx hb dX4_traceBack_62 rfl (lv_at hl 0 rfl) ?_
    obtain ⟨y63_2, hy_2, h⟩ := h
    refine gf_X4_27 S.1 hw k_0 hy_2 dX4_traceBack_63 ?_
    refine lv_iload_n hx hb dX4_traceBack_66 rfl (lv_at hl 2 rfl) ?_
    obtain ⟨k_3, h⟩ := h
    refine cv_i (As := [.int v3]) (rest := [.int v4, .ref y57_1]) S.1 hw (k_X2_at l E Z M y63_2 v3 _ h) wv_X4_44 yc_X2_at ⟨rfl, rfl⟩ ⟨Nat.le_of_ble_eq_true rfl, Nat.le_of_ble_eq_true rfl⟩ rfl hl.1 (Nat.le_of_ble_eq_true rfl) (ci := 2) (q := (RX2, TX2, 1)) rfl rfl (by rw [k_3]; decide) (cell_2 k_3) ⟨Nat.le_of_ble_eq_true rfl, Nat.le_of_ble_eq_true rfl⟩ dX4_traceBack_67 (fun r67 M67 H locs h hw => ?_)
    obtain ⟨k_4, h⟩ := h
    refine cv_v (As := [.int v4, .int r67]) (rest := []) S.1 hw (k_X2_put l E Z M67 y57_1 v4 r67 _ h) wv_X4_40 yc_X2_put ⟨rfl, rfl⟩ ⟨Nat.le_of_ble_eq_true rfl, Nat.le_of_ble_eq_true rfl⟩ rfl hl.1 (Nat.le_of_ble_eq_true rfl) (ci := 2) (q := (RX2, TX2, 1)) rfl rfl (by rw [k_4]; decide) (cell_2 k_4) ⟨Nat.le_of_ble_eq_true rfl, Nat.le_of_ble_eq_true rfl⟩ dX4_traceBack_70 (fun M70 H locs h hw => ?_)
    refine lv_iload_n hx hb dX4_traceBack_73 rfl (lv_at hl 2 rfl) ?_
    refine lv_aload_n hx hb dX4_traceBack_74 rfl (lv_at hl 0 rfl) ?_
    refine gf_X4_27 S.1 hw k_0 hy_2 dX4_traceBack_75 ?_
    refine lv_iload_n hx hb dX4_traceBack_78 rfl (lv_at hl 2 rfl) ?_
    refine cv_i (As := [.int v3]) (rest := [.int v3]) S.1 hw (k_X2_at l E Z M70 y63_2 v3 _ h) wv_X4_44 yc_X2_at ⟨rfl, rfl⟩ ⟨Nat.le_of_ble_eq_true rfl, Nat.le_of_ble_eq_true rfl⟩ rfl hl.1 (Nat.le_of_ble_eq_true rfl) (ci := 2) (q := (RX2, TX2, 1)) rfl rfl (by rw [k_3]; decide) (cell_2 k_3) ⟨Nat.le_of_ble_eq_true rfl, Nat.le_of_ble_eq_true rfl⟩ dX4_traceBack_79 (fun r79 M79 H locs h hw => ?_)
    refine cs_i (As := [.int r79]) (rest := [.int v3]) S.1 hw (k_X4_stepOf l E Z M79 r79 _ h) wv_X4_48 yc_X4_stepOf ⟨rfl, rfl⟩ ⟨Nat.le_of_ble_eq_true rfl, Nat.le_of_ble_eq_true rfl⟩ rfl hl.1 (Nat.le_of_ble_eq_true rfl) ⟨Nat.le_of_ble_eq_true rfl, Nat.le_of_ble_eq_true rfl⟩ dX4_traceBack_82 (fun r82 M82 H locs h hw => ?_)
    refine lv_isub hx hb dX4_traceBack_85 ?_
    refine lv_istore_n (lv' := [(3, .int (v3 - r82)), (0, .ref a0), (2, .int v2), (4, .int v4)]) hx hb dX4_traceBack_86 rfl hl (by decide) rfl (fun ls hl => ?_)
    refine lv_iinc (v := (v4 + (-1))) (lv' := [(4, .int (v4 + (-1))), (3, .int (v3 - r82)), (0, .ref a0), (2, .int v2)]) hx hb dX4_traceBack_87 hl (k := 3) rfl rfl (by decide) rfl (fun ls hl => ?_)
    refine lv_goto (tgt := 51) hx hb dX4_traceBack_90 (by decide) ?_
    exact (hK51 _ _ _ _ _ h) H locs ls hw (lv_sub hl [2, 3, 1, 0] rfl)
theorem wL_X4_traceBack_51 (S : Cx p m c meth cX4_traceBack 5 s args RX4 (some .int)) {Q : Int32 → MM → Prop}   : ∀ (n : Nat) (M : MM) (a0 : Nat) (v2 : Int32) (v3 : Int32) (v4 : Int32), L_X4_traceBack_51 Z Q  n M a0 v2 v3 v4 → WG p l e rm_X4_traceBack s m args below meth c 0 0 (MQi below E Z args s Q) E Z M 51 5 [(0, .ref a0), (2, .int v2), (3, .int v3), (4, .int v4)] []
  | 0, _, _, _, _, _, h => False.elim h
  | n + 1, M, a0, v2, v3, v4, h => wB_X4_traceBack_51 S  (wL_X4_traceBack_51 S   n) M a0 v2 v3 v4 h
set_option maxRecDepth 100000 in
set_option maxHeartbeats 4000000 in
theorem wB_X4_traceBack_44 (S : Cx p m c meth cX4_traceBack 5 s args RX4 (some .int)) {Q : Int32 → MM → Prop}   (M : MM) (a0 : Nat) (v1 : Int32) (v2 : Int32) (h : B_X4_traceBack_44 Z Q  M a0 v1 v2) : WG p l e rm_X4_traceBack s m args below meth c 0 0 (MQi below E Z args s Q) E Z M 44 5 [(0, .ref a0), (1, .int v1), (2, .int v2)] [] := by
  intro H locs ls hw hl
  have hx := S.1.1
  have hb := S.1.2.1
  refine lv_iload_n hx hb dX4_traceBack_44 rfl (lv_at hl 1 rfl) ?_
  refine lv_istore_n (lv' := [(3, .int v1), (0, .ref a0), (1, .int v1), (2, .int v2)]) hx hb dX4_traceBack_45 rfl hl (by decide) rfl (fun ls hl => ?_)
  refine lv_iload_n hx hb dX4_traceBack_46 rfl (lv_at hl 3 rfl) ?_
  refine lv_iconst (v := 1) hx hb dX4_traceBack_47 (by decide) ?_
  refine lv_isub hx hb dX4_traceBack_48 ?_
  refine lv_istore (lv' := [(4, .int (v2 - 1)), (3, .int v1), (0, .ref a0), (1, .int v1), (2, .int v2)]) hx hb dX4_traceBack_49 hl (by decide) rfl (fun ls hl => ?_)
  exact ((Exists.elim h (fun n h => wL_X4_traceBack_51 S   n _ _ _ _ _ h))) H locs ls hw (lv_sub hl [2, 4, 1, 0] rfl)
set_option maxRecDepth 100000 in
set_option maxHeartbeats 4000000 in
theorem wB_X4_traceBack_7 (S : Cx p m c meth cX4_traceBack 5 s args RX4 (some .int)) {Q : Int32 → MM → Prop} {K7 : MM → Nat → Int32 → Int32 → Int32 → Int32 → Prop} (hK7 : ∀ (M : MM) (a0 : Nat) (v1 : Int32) (v2 : Int32) (v3 : Int32) (v4 : Int32), K7 M a0 v1 v2 v3 v4 → WG p l e rm_X4_traceBack s m args below meth c 0 0 (MQi below E Z args s Q) E Z M 7 5 [(0, .ref a0), (1, .int v1), (2, .int v2), (3, .int v3), (4, .int v4)] []) (M : MM) (a0 : Nat) (v1 : Int32) (v2 : Int32) (v3 : Int32) (v4 : Int32) (h : B_X4_traceBack_7 Z Q K7 M a0 v1 v2 v3 v4) : WG p l e rm_X4_traceBack s m args below meth c 0 0 (MQi below E Z args s Q) E Z M 7 5 [(0, .ref a0), (1, .int v1), (2, .int v2), (3, .int v3), (4, .int v4)] [] := by
  intro H locs ls hw hl
  have hx := S.1.1
  have hb := S.1.2.1
  refine lv_iload hx hb dX4_traceBack_7 (lv_at hl 4 rfl) ?_
  refine lv_sipush (v := 240) hx hb dX4_traceBack_9 (by decide) ?_
  refine lv_icmp_ge (tgt := 44) hx hb dX4_traceBack_12 (by decide) (fun q_12 => ?_) (fun q_12 => ?_)
  · have h := h.1 q_12
    exact ((wB_X4_traceBack_44 S   _ _ _ _ h)) H locs ls hw (lv_sub hl [0, 1, 2] rfl)
  · have h := h.2 q_12
    refine lv_iload_n hx hb dX4_traceBack_15 rfl (lv_at hl 3 rfl) ?_
    refine lv_bipush (v := 112) hx hb dX4_traceBack_16 (by decide) ?_
    refine lv_icmp_eq (tgt := 44) hx hb dX4_traceBack_18 (by decide) (fun q_18 => ?_) (fun q_18 => ?_)
    · have h := h.1 q_18
      exact ((wB_X4_traceBack_44 S   _ _ _ _ h)) H locs ls hw (lv_sub hl [0, 1, 2] rfl)
    · have h := h.2 q_18
      refine lv_iinc (v := (v2 + 1)) (lv' := [(2, .int (v2 + 1)), (0, .ref a0), (1, .int v1), (3, .int v3), (4, .int v4)]) hx hb dX4_traceBack_21 hl (k := 2) rfl rfl (by decide) rfl (fun ls hl => ?_)
      refine lv_iload_n hx hb dX4_traceBack_24 rfl (lv_at hl 3 rfl) ?_
      refine lv_aload_n hx hb dX4_traceBack_25 rfl (lv_at hl 1 rfl) ?_
      obtain ⟨k_0, h⟩ := h
      obtain ⟨y26_1, hy_1, h⟩ := h
      refine gf_X4_27 S.1 hw k_0 hy_1 dX4_traceBack_26 ?_
      refine lv_iload_n hx hb dX4_traceBack_29 rfl (lv_at hl 3 rfl) ?_
      obtain ⟨k_2, h⟩ := h
      refine cv_i (As := [.int v3]) (rest := [.int v3]) S.1 hw (k_X2_at l E Z M y26_1 v3 _ h) wv_X4_44 yc_X2_at ⟨rfl, rfl⟩ ⟨Nat.le_of_ble_eq_true rfl, Nat.le_of_ble_eq_true rfl⟩ rfl hl.1 (Nat.le_of_ble_eq_true rfl) (ci := 2) (q := (RX2, TX2, 1)) rfl rfl (by rw [k_2]; decide) (cell_2 k_2) ⟨Nat.le_of_ble_eq_true rfl, Nat.le_of_ble_eq_true rfl⟩ dX4_traceBack_30 (fun r30 M30 H locs h hw => ?_)
      refine cs_i (As := [.int r30]) (rest := [.int v3]) S.1 hw (k_X4_stepOf l E Z M30 r30 _ h) wv_X4_48 yc_X4_stepOf ⟨rfl, rfl⟩ ⟨Nat.le_of_ble_eq_true rfl, Nat.le_of_ble_eq_true rfl⟩ rfl hl.1 (Nat.le_of_ble_eq_true rfl) ⟨Nat.le_of_ble_eq_true rfl, Nat.le_of_ble_eq_true rfl⟩ dX4_traceBack_33 (fun r33 M33 H locs h hw => ?_)
      refine lv_isub hx hb dX4_traceBack_36 ?_
      refine lv_istore_n (lv' := [(3, .int (v3 - r33)), (2, .int (v2 + 1)), (0, .ref a0), (1, .int v1), (4, .int v4)]) hx hb dX4_traceBack_37 rfl hl (by decide) rfl (fun ls hl => ?_)
      refine lv_iinc (v := (v4 + 1)) (lv' := [(4, .int (v4 + 1)), (3, .int (v3 - r33)), (2, .int (v2 + 1)), (0, .ref a0), (1, .int v1)]) hx hb dX4_traceBack_38 hl (k := 4) rfl rfl (by decide) rfl (fun ls hl => ?_)
      refine lv_goto (tgt := 7) hx hb dX4_traceBack_41 (by decide) ?_
      exact (hK7 _ _ _ _ _ _ h) H locs ls hw (lv_sub hl [3, 4, 2, 1, 0] rfl)
theorem wL_X4_traceBack_7 (S : Cx p m c meth cX4_traceBack 5 s args RX4 (some .int)) {Q : Int32 → MM → Prop}   : ∀ (n : Nat) (M : MM) (a0 : Nat) (v1 : Int32) (v2 : Int32) (v3 : Int32) (v4 : Int32), L_X4_traceBack_7 Z Q  n M a0 v1 v2 v3 v4 → WG p l e rm_X4_traceBack s m args below meth c 0 0 (MQi below E Z args s Q) E Z M 7 5 [(0, .ref a0), (1, .int v1), (2, .int v2), (3, .int v3), (4, .int v4)] []
  | 0, _, _, _, _, _, _, h => False.elim h
  | n + 1, M, a0, v1, v2, v3, v4, h => wB_X4_traceBack_7 S  (wL_X4_traceBack_7 S   n) M a0 v1 v2 v3 v4 h
set_option maxRecDepth 100000 in
set_option maxHeartbeats 4000000 in
theorem wB_X4_traceBack_0 (S : Cx p m c meth cX4_traceBack 5 s args RX4 (some .int)) {Q : Int32 → MM → Prop}   (M : MM) (a0 : Nat) (v1 : Int32) (h : B_X4_traceBack_0 Z Q  M a0 v1) : WG p l e rm_X4_traceBack s m args below meth c 0 0 (MQi below E Z args s Q) E Z M 0 5 [(0, .ref a0), (1, .int v1)] [] := by
  intro H locs ls hw hl
  have hx := S.1.1
  have hb := S.1.2.1
  refine lv_iconst (v := 0) hx hb dX4_traceBack_0 (by decide) ?_
  refine lv_istore_n (lv' := [(2, .int 0), (0, .ref a0), (1, .int v1)]) hx hb dX4_traceBack_1 rfl hl (by decide) rfl (fun ls hl => ?_)
  refine lv_iload_n hx hb dX4_traceBack_2 rfl (lv_at hl 2 rfl) ?_
  refine lv_istore_n (lv' := [(3, .int v1), (2, .int 0), (0, .ref a0), (1, .int v1)]) hx hb dX4_traceBack_3 rfl hl (by decide) rfl (fun ls hl => ?_)
  refine lv_iconst (v := 0) hx hb dX4_traceBack_4 (by decide) ?_
  refine lv_istore (lv' := [(4, .int 0), (3, .int v1), (2, .int 0), (0, .ref a0), (1, .int v1)]) hx hb dX4_traceBack_5 hl (by decide) rfl (fun ls hl => ?_)
  exact ((Exists.elim h (fun n h => wL_X4_traceBack_7 S   n _ _ _ _ _ _ h))) H locs ls hw (lv_sub hl [3, 4, 2, 1, 0] rfl)
set_option maxRecDepth 100000 in
set_option maxHeartbeats 4000000 in
theorem k_X4_traceBack (l : Launch) (E : EE) (Z : ZZ) (M : MM) (a0 : Nat) (v1 : Int32) (Q : Int32 → MM → Prop) (h : P_X4_traceBack Z M a0 v1 Q) : Ct_i l yX4_traceBack cX4_traceBack 5 (some .int) rm_X4_traceBack E Z M [.ref a0, .int v1] Q := by
  refine Met.ofW (cc := cX4_traceBack) (maxL := 5) (ret := some .int) (by decide) rfl ?_
  intro p e s m args below meth c s₁ B hml hv
  obtain ⟨rfl, hK, hP, hD, hZ⟩ := hv
  have S : Cx p m c meth cX4_traceBack 5 s _ RX4 (some .int) := ⟨⟨B.exec, B.bytes, hml, findClass_of_methodNamed B.named, fun w hw => atoms_spec (ws := ws_ yX4_traceBack cX4_traceBack 5 (some .int)) B.pre w (List.mem_cons_of_mem _ hw)⟩, B.returns, B.notSynchronized⟩
  have hl := lv_entry ([.ref a0, .int v1]) (n := 5) (Nat.le_of_ble_eq_true rfl)
  rw [lg_entry_eq]
  generalize (lg_sl ([.ref a0, .int v1]) ++ List.replicate (5 - (lg_sl ([.ref a0, .int v1])).length) Slot.unset).toArray = ls at hl ⊢
  exact (wB_X4_traceBack_0 S  M a0 v1 h) s.heap [] ls ⟨hK, hP, hD, va_S.rf, hZ⟩ hl
