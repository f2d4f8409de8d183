variable {p : Program} {l : Launch} {e : Env} {s : State} {m : MethodId} {args : Array Value} {below : List Frame} {meth : Method} {c : Code} {E : EE} {Z : ZZ}
set_option maxRecDepth 100000 in
set_option maxHeartbeats 4000000 in
theorem wB_X5_harvest_0 (S : Cx p m c meth cX5_harvest 1 s args RX5 (some .double)) {Q : UInt64 → MM → Prop}   (M : MM) (a0 : Nat) (h : B_X5_harvest_0 Z Q  M a0) : WG p l e rm_X5_harvest s m args below meth c 0 0 (MQd below E Z args s Q) E Z M 0 1 [(0, .ref a0)] [] := by
  intro H locs ls hw hl
  have hx := S.1.1
  have hb := S.1.2.1
  refine lv_aload_n hx hb dX5_harvest_0 rfl (lv_at hl 0 rfl) ?_
  obtain ⟨k_0, h⟩ := h
  obtain ⟨y1_1, hy_1, h⟩ := h
  refine gf_X5_10 S.1 hw k_0 hy_1 dX5_harvest_1 ?_
  obtain ⟨k_2, h⟩ := h
  refine gf_X5_84 S.1 hw k_2 dX5_harvest_4 ?_
  refine lv_if_ne (tgt := 14) hx hb dX5_harvest_7 (by decide) (fun q_7 => ?_) (fun q_7 => ?_)
  · have h := h.1 q_7
    refine lv_aload_n hx hb dX5_harvest_14 rfl (lv_at hl 0 rfl) ?_
    refine gf_X5_10 S.1 hw k_0 hy_1 dX5_harvest_15 ?_
    refine gf_X5_221 S.1 hw k_2 dX5_harvest_18 ?_
    refine lv_i2d hx hb dX5_harvest_21 ?_
    refine lv_aload_n hx hb dX5_harvest_22 rfl (lv_at hl 0 rfl) ?_
    refine gf_X5_10 S.1 hw k_0 hy_1 dX5_harvest_23 ?_
    refine gf_X5_84 S.1 hw k_2 dX5_harvest_26 ?_
    refine lv_i2d hx hb dX5_harvest_29 ?_
    obtain ⟨z_30, h⟩ := h
    refine lv_ddiv hx hb dX5_harvest_30 z_30 ?_
    exact we_d S hw h dX5_harvest_31
  · have h := h.2 q_7
    refine lv_dconst0 hx hb dX5_harvest_10 ?_
    refine lv_goto (tgt := 31) hx hb dX5_harvest_11 (by decide) ?_
    exact we_d S hw h dX5_harvest_31
set_option maxRecDepth 100000 in
set_option maxHeartbeats 4000000 in
theorem k_X5_harvest (l : Launch) (E : EE) (Z : ZZ) (M : MM) (a0 : Nat) (Q : UInt64 → MM → Prop) (h : P_X5_harvest Z M a0 Q) : Ct_d l yX5_harvest cX5_harvest 1 (some .double) rm_X5_harvest E Z M [.ref a0] Q := by
  refine Met.ofW (cc := cX5_harvest) (maxL := 1) (ret := some .double) (by decide) rfl ?_
  intro p e s m args below meth c s₁ B hml hv
  obtain ⟨rfl, hK, hP, hD, hZ⟩ := hv
  have S : Cx p m c meth cX5_harvest 1 s _ RX5 (some .double) := ⟨⟨B.exec, B.bytes, hml, findClass_of_methodNamed B.named, fun w hw => atoms_spec (ws := ws_ yX5_harvest cX5_harvest 1 (some .double)) B.pre w (List.mem_cons_of_mem _ hw)⟩, B.returns, B.notSynchronized⟩
  have hl := lv_entry ([.ref a0]) (n := 1) (Nat.le_of_ble_eq_true rfl)
  rw [lg_entry_eq]
  generalize (lg_sl ([.ref a0]) ++ List.replicate (1 - (lg_sl ([.ref a0])).length) Slot.unset).toArray = ls at hl ⊢
  exact (wB_X5_harvest_0 S  M a0 h) s.heap [] ls ⟨hK, hP, hD, va_S.rf, hZ⟩ hl
set_option maxRecDepth 100000 in
set_option maxHeartbeats 4000000 in
theorem wB_X6_harvest_0 (S : Cx p m c meth cX6_harvest 5 s args RX6 (some .double)) {Q : UInt64 → MM → Prop}   (M : MM) (a0 : Nat) (h : B_X6_harvest_0 Z Q  M a0) : WG p l e rm_X6_harvest s m args below meth c 0 0 (MQd below E Z args s Q) E Z M 0 5 [(0, .ref a0)] [] := by
  intro H locs ls hw hl
  have hx := S.1.1
  have hb := S.1.2.1
  refine lv_aload_n hx hb dX6_harvest_0 rfl (lv_at hl 0 rfl) ?_
  refine lv_iconst (v := 0) hx hb dX6_harvest_1 (by decide) ?_
  obtain ⟨k_0, h⟩ := h
  refine pf_X6_38 S.1 hw k_0 dX6_harvest_2 (fun H locs hw => ?_)
  refine lv_aload_n hx hb dX6_harvest_5 rfl (lv_at hl 0 rfl) ?_
  obtain ⟨y6_1, hy_1, h⟩ := h
  refine gf_X6_7 S.1 hw k_0 hy_1 dX6_harvest_6 ?_
  refine lv_iconst (v := 5) hx hb dX6_harvest_9 (by decide) ?_
  obtain ⟨k_2, h⟩ := h
  obtain ⟨i_10, h⟩ := h
  refine wo_iald S.1 hw k_2 i_10 dX6_harvest_10 ?_
  refine lv_i2d hx hb dX6_harvest_11 ?_
  refine lv_dstore_n (lv' := [(1, .double (FP.i2d (mA (setI M 15 a0 0) y6_1 (5 : Int32).toNatClampNeg))), (0, .ref a0)]) hx hb dX6_harvest_12 rfl hl (by decide) rfl (fun ls hl => ?_)
  refine lv_aload_n hx hb dX6_harvest_13 rfl (lv_at hl 1 rfl) ?_
  refine gf_X6_7 S.1 hw k_0 hy_1 dX6_harvest_14 ?_
  refine lv_iconst (v := 4) hx hb dX6_harvest_17 (by decide) ?_
  obtain ⟨i_18, h⟩ := h
  refine wo_iald S.1 hw k_2 i_18 dX6_harvest_18 ?_
  refine lv_i2d hx hb dX6_harvest_19 ?_
  refine lv_dstore_n (lv' := [(3, .double (FP.i2d (mA (setI M 15 a0 0) y6_1 (4 : Int32).toNatClampNeg))), (1, .double (FP.i2d (mA (setI M 15 a0 0) y6_1 (5 : Int32).toNatClampNeg))), (0, .ref a0)]) hx hb dX6_harvest_20 rfl hl (by decide) rfl (fun ls hl => ?_)
  refine lv_aload_n hx hb dX6_harvest_21 rfl (lv_at hl 2 rfl) ?_
  refine gf_X6_7 S.1 hw k_0 hy_1 dX6_harvest_22 ?_
  refine lv_iconst (v := 4) hx hb dX6_harvest_25 (by decide) ?_
  obtain ⟨i_26, h⟩ := h
  refine wo_iald S.1 hw k_2 i_26 dX6_harvest_26 ?_
  refine lv_if_ne (tgt := 34) hx hb dX6_harvest_27 (by decide) (fun q_27 => ?_) (fun q_27 => ?_)
  · have h := h.1 q_27
    refine lv_dload_n hx hb dX6_harvest_34 rfl (lv_at hl 1 rfl) ?_
    refine lv_dload_n hx hb dX6_harvest_35 rfl (lv_at hl 0 rfl) ?_
    obtain ⟨z_36, h⟩ := h
    refine lv_ddiv hx hb dX6_harvest_36 z_36 ?_
    exact we_d S hw h dX6_harvest_37
  · have h := h.2 q_27
    refine lv_dconst0 hx hb dX6_harvest_30 ?_
    refine lv_goto (tgt := 37) hx hb dX6_harvest_31 (by decide) ?_
    exact we_d S hw h dX6_harvest_37
set_option maxRecDepth 100000 in
set_option maxHeartbeats 4000000 in
theorem k_X6_harvest (l : Launch) (E : EE) (Z : ZZ) (M : MM) (a0 : Nat) (Q : UInt64 → MM → Prop) (h : P_X6_harvest Z M a0 Q) : Ct_d l yX6_harvest cX6_harvest 5 (some .double) rm_X6_harvest E Z M [.ref a0] Q := by
  refine Met.ofW (cc := cX6_harvest) (maxL := 5) (ret := some .double) (by decide) rfl ?_
  intro p e s m args below meth c s₁ B hml hv
  obtain ⟨rfl, hK, hP, hD, hZ⟩ := hv
  have S : Cx p m c meth cX6_harvest 5 s _ RX6 (some .double) := ⟨⟨B.exec, B.bytes, hml, findClass_of_methodNamed B.named, fun w hw => atoms_spec (ws := ws_ yX6_harvest cX6_harvest 5 (some .double)) B.pre w (List.mem_cons_of_mem _ hw)⟩, B.returns, B.notSynchronized⟩
  have hl := lv_entry ([.ref a0]) (n := 5) (Nat.le_of_ble_eq_true rfl)
  rw [lg_entry_eq]
  generalize (lg_sl ([.ref a0]) ++ List.replicate (5 - (lg_sl ([.ref a0])).length) Slot.unset).toArray = ls at hl ⊢
  exact (wB_X6_harvest_0 S  M a0 h) s.heap [] ls ⟨hK, hP, hD, va_S.rf, hZ⟩ hl
set_option maxRecDepth 100000 in
set_option maxHeartbeats 4000000 in
theorem wB_L_make_0 (S : Cx p m c meth cL_make 6 s args RL (some .int)) (T : Hx l c Z s [(0, 12, 15, 13)]) {Q : Int32 → MM → Prop}   (M : MM) (a0 : Nat) (v1 : Int32) (v2 : Int32) (v3 : Int32) (a4 : Nat) (h : B_L_make_0 Z Q  M a0 v1 v2 v3 a4) : WG p l e rm_L_make s m args below meth c 0 0 (MQh below E Z args s Q 1 6) E Z M 0 6 [(0, .ref a0), (1, .int v1), (2, .int v2), (3, .int v3), (4, .ref a4)] [] := by
  intro H locs ls hw hl
  have hx := S.1.1
  have hb := S.1.2.1
  have hown := S.1.2.2.2.1
  have hts := S.1.2.2.2.2
  refine lv_aload hx hb dL_make_0 (lv_at hl 4 rfl) ?_
  refine lv_iconst (v := 0) hx hb dL_make_2 (by decide) ?_
  refine lv_aload_n hx hb dL_make_3 rfl (lv_at hl 0 rfl) ?_
  refine lv_iload_n hx hb dL_make_4 rfl (lv_at hl 1 rfl) ?_
  refine lv_iload_n hx hb dL_make_5 rfl (lv_at hl 2 rfl) ?_
  refine lv_iload_n hx hb dL_make_6 rfl (lv_at hl 3 rfl) ?_
  obtain ⟨k_0, h⟩ := h
  refine ch_i (As := [.int v1, .int v2, .int v3]) (rest := [.int 0, .ref a4]) S T.2.2 hw (k_X5_make l T.1 E Z M a0 v1 v2 v3 _ _ h) wv_L_7 yc_X5_make ⟨rfl, rfl⟩ ⟨Nat.le_of_ble_eq_true rfl, Nat.le_of_ble_eq_true rfl⟩ rfl hl.1 (Nat.le_of_ble_eq_true rfl) (ci := 5) (q := (RX5, TX5, 9)) rfl rfl (by rw [k_0]; decide) (cell_5 k_0) ⟨Nat.le_of_ble_eq_true rfl, Nat.le_of_ble_eq_true rfl⟩ dL_make_7 (fun E1 ce q9 M7 H locs h hw hce hcv hcl => ?_) (fun r7 M7 H locs h hw => ?_)
  · rcases h with ⟨rfl, h⟩
    refine vx_catch hown [] ⟨0, 12, 15, 13⟩ [] (by rw [T.2.1]; rfl) (fun z hz => nomatch hz) rfl (by decide) (hts _ wk_L_13) (va_Nw.use rfl (T.2.2.1.2.1 _ (by decide))) hce hcv hcl ?_
    refine lv_astore (lv' := [(5, .ref q9), (0, .ref a0), (1, .int v1), (2, .int v2), (3, .int v3), (4, .ref a4)]) hx hb dL_make_15 hl (by decide) rfl (fun ls hl => ?_)
    refine lv_iconst (v := 1) hx hb dL_make_17 (by decide) ?_
    exact we_i S hw h dL_make_18
  · refine lv_i2l (v := r7.toInt64) hx hb dL_make_10 rfl ?_
    obtain ⟨k_1, h⟩ := h
    obtain ⟨i_11, h⟩ := h
    refine wo_last S.1 hw k_1 i_11 dL_make_11 (fun H locs hw => ?_)
    refine lv_goto (tgt := 19) hx hb dL_make_12 (by decide) ?_
    refine lv_iconst (v := 0) hx hb dL_make_19 (by decide) ?_
    exact we_i S hw h dL_make_20
set_option maxRecDepth 100000 in
set_option maxHeartbeats 4000000 in
theorem k_L_make (l : Launch) (hl0 : l.stackTraces = false) (E : EE) (Z : ZZ) (M : MM) (a0 : Nat) (v1 : Int32) (v2 : Int32) (v3 : Int32) (a4 : Nat) (Q : Int32 → MM → Prop) (h : P_L_make Z M a0 v1 v2 v3 a4 Q) : Ch_i l yL_make cL_make 6 (some .int) [(0, 12, 15, 13)] rm_L_make E Z M [.ref a0, .int v1, .int v2, .int v3, .ref a4] Q 1 6 := by
  refine va_MetW (cc := cL_make) (maxL := 6) (ret := some .int) (hh := [(0, 12, 15, 13)]) (by decide) rfl ?_
  intro p e s m args below meth c s₁ B hml hv
  obtain ⟨rfl, ⟨hK, hP, hD, hZ⟩, hsx⟩ := hv
  have S : Cx p m c meth cL_make 6 s _ RL (some .int) := ⟨⟨B.exec, B.bytes, hml, findClass_of_methodNamed B.named, fun w hw => atoms_spec (ws := wsW_ yL_make cL_make 6 (some .int) [(0, 12, 15, 13)]) B.pre w (List.mem_cons_of_mem _ hw)⟩, B.returns, B.notSynchronized⟩
  have T : Hx l c Z s [(0, 12, 15, 13)] := ⟨hl0, vx_table (x := yL_make) B (atoms_spec (ws := wsW_ yL_make cL_make 6 (some .int) [(0, 12, 15, 13)]) B.pre _ List.mem_cons_self), hsx⟩
  have hl := lv_entry ([.ref a0, .int v1, .int v2, .int v3, .ref a4]) (n := 6) (Nat.le_of_ble_eq_true rfl)
  rw [lg_entry_eq]
  generalize (lg_sl ([.ref a0, .int v1, .int v2, .int v3, .ref a4]) ++ List.replicate (6 - (lg_sl ([.ref a0, .int v1, .int v2, .int v3, .ref a4])).length) Slot.unset).toArray = ls at hl ⊢
  exact (wB_L_make_0 S T M a0 v1 v2 v3 a4 h) s.heap [] ls ⟨hK, hP, hD, va_S.rf, hZ⟩ hl
set_option maxRecDepth 100000 in
set_option maxHeartbeats 4000000 in
theorem wB_L_lay_0 (S : Cx p m c meth cL_lay 5 s args RL (some .int)) (T : Hx l c Z s [(0, 10, 13, 19), (0, 10, 17, 13), (0, 10, 21, 21)]) {Q : Int32 → MM → Prop}   (M : MM) (a0 : Nat) (v1 : Int32) (v2 : Int32) (a3 : Nat) (h : B_L_lay_0 Z Q  M a0 v1 v2 a3) : WG p l e rm_L_lay s m args below meth c 0 0 (MQh below E Z args s Q 2 12) E Z M 0 5 [(0, .ref a0), (1, .int v1), (2, .int v2), (3, .ref a3)] [] := by
  intro H locs ls hw hl
  have hx := S.1.1
  have hb := S.1.2.1
  have hown := S.1.2.2.2.1
  have hts := S.1.2.2.2.2
  refine lv_aload_n hx hb dL_lay_0 rfl (lv_at hl 3 rfl) ?_
  refine lv_iconst (v := 0) hx hb dL_lay_1 (by decide) ?_
  refine lv_aload_n hx hb dL_lay_2 rfl (lv_at hl 0 rfl) ?_
  refine lv_iload_n hx hb dL_lay_3 rfl (lv_at hl 1 rfl) ?_
  refine lv_iload_n hx hb dL_lay_4 rfl (lv_at hl 2 rfl) ?_
  obtain ⟨k_0, h⟩ := h
  refine ch_i (As := [.int v1, .int v2]) (rest := [.int 0, .ref a3]) S T.2.2 hw (k_X5_lay l T.1 E Z M a0 v1 v2 _ _ h) wv_L_15 yc_X5_lay ⟨rfl, rfl⟩ ⟨Nat.le_of_ble_eq_true rfl, Nat.le_of_ble_eq_true rfl⟩ rfl hl.1 (Nat.le_of_ble_eq_true rfl) (ci := 5) (q := (RX5, TX5, 9)) rfl rfl (by rw [k_0]; decide) (cell_5 k_0) ⟨Nat.le_of_ble_eq_true rfl, Nat.le_of_ble_eq_true rfl⟩ dL_lay_5 (fun E1 ce q9 M5 H locs h hw hce hcv hcl => ?_) (fun r5 M5 H locs h hw => ?_)
  · rcases h with ⟨rfl, h⟩ | ⟨rfl, h⟩ | ⟨rfl, h⟩
    · refine vx_catch hown [] ⟨0, 10, 13, 19⟩ [⟨0, 10, 17, 13⟩, ⟨0, 10, 21, 21⟩] (by rw [T.2.1]; rfl) (fun z hz => nomatch hz) rfl (by decide) (hts _ wk_L_19) (va_Nw.use rfl (T.2.2.1.2.1 _ (by decide))) hce hcv hcl ?_
      refine lv_astore (lv' := [(4, .ref q9), (0, .ref a0), (1, .int v1), (2, .int v2), (3, .ref a3)]) hx hb dL_lay_13 hl (by decide) rfl (fun ls hl => ?_)
      refine lv_iconst (v := 1) hx hb dL_lay_15 (by decide) ?_
      exact we_i S hw h dL_lay_16
    · refine vx_catch hown [⟨0, 10, 13, 19⟩] ⟨0, 10, 17, 13⟩ [⟨0, 10, 21, 21⟩] (by rw [T.2.1]; rfl) (fun z hz => by simp only [List.mem_cons, List.not_mem_nil, or_false] at hz; rcases hz with rfl; exact Or.inr ⟨by decide, "java/lang/IndexOutOfBoundsException", hts _ wk_L_19, T.2.2.1.2.2 _ (by decide) _ (by decide) (by decide)⟩) rfl (by decide) (hts _ wk_L_13) (va_Nw.use rfl (T.2.2.1.2.1 _ (by decide))) hce hcv hcl ?_
      refine lv_astore (lv' := [(4, .ref q9), (0, .ref a0), (1, .int v1), (2, .int v2), (3, .ref a3)]) hx hb dL_lay_17 hl (by decide) rfl (fun ls hl => ?_)
      refine lv_iconst (v := 2) hx hb dL_lay_19 (by decide) ?_
      exact we_i S hw h dL_lay_20
    · refine vx_catch hown [⟨0, 10, 13, 19⟩, ⟨0, 10, 17, 13⟩] ⟨0, 10, 21, 21⟩ [] (by rw [T.2.1]; rfl) (fun z hz => by
        simp only [List.mem_cons, List.not_mem_nil, or_false] at hz
        rcases hz with rfl | rfl
        · exact Or.inr ⟨by decide, "java/lang/IndexOutOfBoundsException", hts _ wk_L_19, T.2.2.1.2.2 _ (by decide) _ (by decide) (by decide)⟩
        · exact Or.inr ⟨by decide, "java/lang/IllegalArgumentException", hts _ wk_L_13, T.2.2.1.2.2 _ (by decide) _ (by decide) (by decide)⟩) rfl (by decide) (hts _ wk_L_21) (va_Nw.use rfl (T.2.2.1.2.1 _ (by decide))) hce hcv hcl ?_
      refine lv_astore (lv' := [(4, .ref q9), (0, .ref a0), (1, .int v1), (2, .int v2), (3, .ref a3)]) hx hb dL_lay_21 hl (by decide) rfl (fun ls hl => ?_)
      refine lv_iconst (v := 3) hx hb dL_lay_23 (by decide) ?_
      exact we_i S hw h dL_lay_24
  · refine lv_i2l (v := r5.toInt64) hx hb dL_lay_8 rfl ?_
    obtain ⟨k_1, h⟩ := h
    obtain ⟨i_9, h⟩ := h
    refine wo_last S.1 hw k_1 i_9 dL_lay_9 (fun H locs hw => ?_)
    refine lv_goto (tgt := 25) hx hb dL_lay_10 (by decide) ?_
    refine lv_iconst (v := 0) hx hb dL_lay_25 (by decide) ?_
    exact we_i S hw h dL_lay_26
set_option maxRecDepth 100000 in
set_option maxHeartbeats 4000000 in
theorem k_L_lay (l : Launch) (hl0 : l.stackTraces = false) (E : EE) (Z : ZZ) (M : MM) (a0 : Nat) (v1 : Int32) (v2 : Int32) (a3 : Nat) (Q : Int32 → MM → Prop) (h : P_L_lay Z M a0 v1 v2 a3 Q) : Ch_i l yL_lay cL_lay 5 (some .int) [(0, 10, 13, 19), (0, 10, 17, 13), (0, 10, 21, 21)] rm_L_lay E Z M [.ref a0, .int v1, .int v2, .ref a3] Q 2 12 := by
  refine va_MetW (cc := cL_lay) (maxL := 5) (ret := some .int) (hh := [(0, 10, 13, 19), (0, 10, 17, 13), (0, 10, 21, 21)]) (by decide) rfl ?_
  intro p e s m args below meth c s₁ B hml hv
  obtain ⟨rfl, ⟨hK, hP, hD, hZ⟩, hsx⟩ := hv
  have S : Cx p m c meth cL_lay 5 s _ RL (some .int) := ⟨⟨B.exec, B.bytes, hml, findClass_of_methodNamed B.named, fun w hw => atoms_spec (ws := wsW_ yL_lay cL_lay 5 (some .int) [(0, 10, 13, 19), (0, 10, 17, 13), (0, 10, 21, 21)]) B.pre w (List.mem_cons_of_mem _ hw)⟩, B.returns, B.notSynchronized⟩
  have T : Hx l c Z s [(0, 10, 13, 19), (0, 10, 17, 13), (0, 10, 21, 21)] := ⟨hl0, vx_table (x := yL_lay) B (atoms_spec (ws := wsW_ yL_lay cL_lay 5 (some .int) [(0, 10, 13, 19), (0, 10, 17, 13), (0, 10, 21, 21)]) B.pre _ List.mem_cons_self), hsx⟩
  have hl := lv_entry ([.ref a0, .int v1, .int v2, .ref a3]) (n := 5) (Nat.le_of_ble_eq_true rfl)
  rw [lg_entry_eq]
  generalize (lg_sl ([.ref a0, .int v1, .int v2, .ref a3]) ++ List.replicate (5 - (lg_sl ([.ref a0, .int v1, .int v2, .ref a3])).length) Slot.unset).toArray = ls at hl ⊢
  exact (wB_L_lay_0 S T M a0 v1 v2 a3 h) s.heap [] ls ⟨hK, hP, hD, va_S.rf, hZ⟩ hl
set_option maxRecDepth 100000 in
set_option maxHeartbeats 4000000 in
theorem wB_L_saw_0 (S : Cx p m c meth cL_saw 5 s args RL (some .int)) (T : Hx l c Z s [(0, 10, 13, 19), (0, 10, 17, 13), (0, 10, 21, 21)]) {Q : Int32 → MM → Prop}   (M : MM) (a0 : Nat) (v1 : Int32) (v2 : Int32) (a3 : Nat) (h : B_L_saw_0 Z Q  M a0 v1 v2 a3) : WG p l e rm_L_saw s m args below meth c 0 0 (MQh below E Z args s Q 2 12) E Z M 0 5 [(0, .ref a0), (1, .int v1), (2, .int v2), (3, .ref a3)] [] := by
  intro H locs ls hw hl
  have hx := S.1.1
  have hb := S.1.2.1
  have hown := S.1.2.2.2.1
  have hts := S.1.2.2.2.2
  refine lv_aload_n hx hb dL_saw_0 rfl (lv_at hl 3 rfl) ?_
  refine lv_iconst (v := 0) hx hb dL_saw_1 (by decide) ?_
  refine lv_aload_n hx hb dL_saw_2 rfl (lv_at hl 0 rfl) ?_
  refine lv_iload_n hx hb dL_saw_3 rfl (lv_at hl 1 rfl) ?_
  refine lv_iload_n hx hb dL_saw_4 rfl (lv_at hl 2 rfl) ?_
  obtain ⟨k_0, h⟩ := h
  refine ch_i (As := [.int v1, .int v2]) (rest := [.int 0, .ref a3]) S T.2.2 hw (k_X5_saw l T.1 E Z M a0 v1 v2 _ _ h) wv_L_23 yc_X5_saw ⟨rfl, rfl⟩ ⟨Nat.le_of_ble_eq_true rfl, Nat.le_of_ble_eq_true rfl⟩ rfl hl.1 (Nat.le_of_ble_eq_true rfl) (ci := 5) (q := (RX5, TX5, 9)) rfl rfl (by rw [k_0]; decide) (cell_5 k_0) ⟨Nat.le_of_ble_eq_true rfl, Nat.le_of_ble_eq_true rfl⟩ dL_saw_5 (fun E1 ce q9 M5 H locs h hw hce hcv hcl => ?_) (fun r5 M5 H locs h hw => ?_)
  · rcases h with ⟨rfl, h⟩ | ⟨rfl, h⟩ | ⟨rfl, h⟩
    · refine vx_catch hown [] ⟨0, 10, 13, 19⟩ [⟨0, 10, 17, 13⟩, ⟨0, 10, 21, 21⟩] (by rw [T.2.1]; rfl) (fun z hz => nomatch hz) rfl (by decide) (hts _ wk_L_19) (va_Nw.use rfl (T.2.2.1.2.1 _ (by decide))) hce hcv hcl ?_
      refine lv_astore (lv' := [(4, .ref q9), (0, .ref a0), (1, .int v1), (2, .int v2), (3, .ref a3)]) hx hb dL_saw_13 hl (by decide) rfl (fun ls hl => ?_)
      refine lv_iconst (v := 1) hx hb dL_saw_15 (by decide) ?_
      exact we_i S hw h dL_saw_16
    · refine vx_catch hown [⟨0, 10, 13, 19⟩] ⟨0, 10, 17, 13⟩ [⟨0, 10, 21, 21⟩] (by rw [T.2.1]; rfl) (fun z hz => by simp only [List.mem_cons, List.not_mem_nil, or_false] at hz; rcases hz with rfl; exact Or.inr ⟨by decide, "java/lang/IndexOutOfBoundsException", hts _ wk_L_19, T.2.2.1.2.2 _ (by decide) _ (by decide) (by decide)⟩) rfl (by decide) (hts _ wk_L_13) (va_Nw.use rfl (T.2.2.1.2.1 _ (by decide))) hce hcv hcl ?_
      refine lv_astore (lv' := [(4, .ref q9), (0, .ref a0), (1, .int v1), (2, .int v2), (3, .ref a3)]) hx hb dL_saw_17 hl (by decide) rfl (fun ls hl => ?_)
      refine lv_iconst (v := 2) hx hb dL_saw_19 (by decide) ?_
      exact we_i S hw h dL_saw_20
    · refine vx_catch hown [⟨0, 10, 13, 19⟩, ⟨0, 10, 17, 13⟩] ⟨0, 10, 21, 21⟩ [] (by rw [T.2.1]; rfl) (fun z hz => by
        simp only [List.mem_cons, List.not_mem_nil, or_false] at hz
        rcases hz with rfl | rfl
        · exact Or.inr ⟨by decide, "java/lang/IndexOutOfBoundsException", hts _ wk_L_19, T.2.2.1.2.2 _ (by decide) _ (by decide) (by decide)⟩
        · exact Or.inr ⟨by decide, "java/lang/IllegalArgumentException", hts _ wk_L_13, T.2.2.1.2.2 _ (by decide) _ (by decide) (by decide)⟩) rfl (by decide) (hts _ wk_L_21) (va_Nw.use rfl (T.2.2.1.2.1 _ (by decide))) hce hcv hcl ?_
      refine lv_astore (lv' := [(4, .ref q9), (0, .ref a0), (1, .int v1), (2, .int v2), (3, .ref a3)]) hx hb dL_saw_21 hl (by decide) rfl (fun ls hl => ?_)
      refine lv_iconst (v := 3) hx hb dL_saw_23 (by decide) ?_
      exact we_i S hw h dL_saw_24
  · refine lv_i2l (v := r5.toInt64) hx hb dL_saw_8 rfl ?_
    obtain ⟨k_1, h⟩ := h
    obtain ⟨i_9, h⟩ := h
    refine wo_last S.1 hw k_1 i_9 dL_saw_9 (fun H locs hw => ?_)
    refine lv_goto (tgt := 25) hx hb dL_saw_10 (by decide) ?_
    refine lv_iconst (v := 0) hx hb dL_saw_25 (by decide) ?_
    exact we_i S hw h dL_saw_26
set_option maxRecDepth 100000 in
set_option maxHeartbeats 4000000 in
theorem k_L_saw (l : Launch) (hl0 : l.stackTraces = false) (E : EE) (Z : ZZ) (M : MM) (a0 : Nat) (v1 : Int32) (v2 : Int32) (a3 : Nat) (Q : Int32 → MM → Prop) (h : P_L_saw Z M a0 v1 v2 a3 Q) : Ch_i l yL_saw cL_saw 5 (some .int) [(0, 10, 13, 19), (0, 10, 17, 13), (0, 10, 21, 21)] rm_L_saw E Z M [.ref a0, .int v1, .int v2, .ref a3] Q 2 12 := by
  refine va_MetW (cc := cL_saw) (maxL := 5) (ret := some .int) (hh := [(0, 10, 13, 19), (0, 10, 17, 13), (0, 10, 21, 21)]) (by decide) rfl ?_
  intro p e s m args below meth c s₁ B hml hv
  obtain ⟨rfl, ⟨hK, hP, hD, hZ⟩, hsx⟩ := hv
  have S : Cx p m c meth cL_saw 5 s _ RL (some .int) := ⟨⟨B.exec, B.bytes, hml, findClass_of_methodNamed B.named, fun w hw => atoms_spec (ws := wsW_ yL_saw cL_saw 5 (some .int) [(0, 10, 13, 19), (0, 10, 17, 13), (0, 10, 21, 21)]) B.pre w (List.mem_cons_of_mem _ hw)⟩, B.returns, B.notSynchronized⟩
  have T : Hx l c Z s [(0, 10, 13, 19), (0, 10, 17, 13), (0, 10, 21, 21)] := ⟨hl0, vx_table (x := yL_saw) B (atoms_spec (ws := wsW_ yL_saw cL_saw 5 (some .int) [(0, 10, 13, 19), (0, 10, 17, 13), (0, 10, 21, 21)]) B.pre _ List.mem_cons_self), hsx⟩
  have hl := lv_entry ([.ref a0, .int v1, .int v2, .ref a3]) (n := 5) (Nat.le_of_ble_eq_true rfl)
  rw [lg_entry_eq]
  generalize (lg_sl ([.ref a0, .int v1, .int v2, .ref a3]) ++ List.replicate (5 - (lg_sl ([.ref a0, .int v1, .int v2, .ref a3])).length) Slot.unset).toArray = ls at hl ⊢
  exact (wB_L_saw_0 S T M a0 v1 v2 a3 h) s.heap [] ls ⟨hK, hP, hD, va_S.rf, hZ⟩ hl
set_option maxRecDepth 100000 in
set_option maxHeartbeats 4000000 in
theorem wB_L_sawAround_0 (S : Cx p m c meth cL_sawAround 6 s args RL (some .int)) (T : Hx l c Z s [(0, 12, 15, 19), (0, 12, 19, 13)]) {Q : Int32 → MM → Prop}   (M : MM) (a0 : Nat) (v1 : Int32) (v2 : Int32) (v3 : Int32) (a4 : Nat) (h : B_L_sawAround_0 Z Q  M a0 v1 v2 v3 a4) : WG p l e rm_L_sawAround s m args below meth c 0 0 (MQh below E Z args s Q 2 12) E Z M 0 6 [(0, .ref a0), (1, .int v1), (2, .int v2), (3, .int v3), (4, .ref a4)] [] := by
  intro H locs ls hw hl
  have hx := S.1.1
  have hb := S.1.2.1
  have hown := S.1.2.2.2.1
  have hts := S.1.2.2.2.2
  refine lv_aload hx hb dL_sawAround_0 (lv_at hl 4 rfl) ?_
  refine lv_iconst (v := 0) hx hb dL_sawAround_2 (by decide) ?_
  refine lv_aload_n hx hb dL_sawAround_3 rfl (lv_at hl 0 rfl) ?_
  refine lv_iload_n hx hb dL_sawAround_4 rfl (lv_at hl 1 rfl) ?_
  refine lv_iload_n hx hb dL_sawAround_5 rfl (lv_at hl 2 rfl) ?_
  refine lv_iload_n hx hb dL_sawAround_6 rfl (lv_at hl 3 rfl) ?_
  obtain ⟨k_0, h⟩ := h
  refine ch_i (As := [.int v1, .int v2, .int v3]) (rest := [.int 0, .ref a4]) S T.2.2 hw (k_X5_sawAround l T.1 E Z M a0 v1 v2 v3 _ _ h) wv_L_26 yc_X5_sawAround ⟨rfl, rfl⟩ ⟨Nat.le_of_ble_eq_true rfl, Nat.le_of_ble_eq_true rfl⟩ rfl hl.1 (Nat.le_of_ble_eq_true rfl) (ci := 5) (q := (RX5, TX5, 9)) rfl rfl (by rw [k_0]; decide) (cell_5 k_0) ⟨Nat.le_of_ble_eq_true rfl, Nat.le_of_ble_eq_true rfl⟩ dL_sawAround_7 (fun E1 ce q9 M7 H locs h hw hce hcv hcl => ?_) (fun r7 M7 H locs h hw => ?_)
  · rcases h with ⟨rfl, h⟩ | ⟨rfl, h⟩
    · refine vx_catch hown [] ⟨0, 12, 15, 19⟩ [⟨0, 12, 19, 13⟩] (by rw [T.2.1]; rfl) (fun z hz => nomatch hz) rfl (by decide) (hts _ wk_L_19) (va_Nw.use rfl (T.2.2.1.2.1 _ (by decide))) hce hcv hcl ?_
      refine lv_astore (lv' := [(5, .ref q9), (0, .ref a0), (1, .int v1), (2, .int v2), (3, .int v3), (4, .ref a4)]) hx hb dL_sawAround_15 hl (by decide) rfl (fun ls hl => ?_)
      refine lv_iconst (v := 1) hx hb dL_sawAround_17 (by decide) ?_
      exact we_i S hw h dL_sawAround_18
    · refine vx_catch hown [⟨0, 12, 15, 19⟩] ⟨0, 12, 19, 13⟩ [] (by rw [T.2.1]; rfl) (fun z hz => by simp only [List.mem_cons, List.not_mem_nil, or_false] at hz; rcases hz with rfl; exact Or.inr ⟨by decide, "java/lang/IndexOutOfBoundsException", hts _ wk_L_19, T.2.2.1.2.2 _ (by decide) _ (by decide) (by decide)⟩) rfl (by decide) (hts _ wk_L_13) (va_Nw.use rfl (T.2.2.1.2.1 _ (by decide))) hce hcv hcl ?_
      refine lv_astore (lv' := [(5, .ref q9), (0, .ref a0), (1, .int v1), (2, .int v2), (3, .int v3), (4, .ref a4)]) hx hb dL_sawAround_19 hl (by decide) rfl (fun ls hl => ?_)
      refine lv_iconst (v := 2) hx hb dL_sawAround_21 (by decide) ?_
      exact we_i S hw h dL_sawAround_22
  · refine lv_i2l (v := r7.toInt64) hx hb dL_sawAround_10 rfl ?_
    obtain ⟨k_1, h⟩ := h
    obtain ⟨i_11, h⟩ := h
    refine wo_last S.1 hw k_1 i_11 dL_sawAround_11 (fun H locs hw => ?_)
    refine lv_goto (tgt := 23) hx hb dL_sawAround_12 (by decide) ?_
    refine lv_iconst (v := 0) hx hb dL_sawAround_23 (by decide) ?_
    exact we_i S hw h dL_sawAround_24
set_option maxRecDepth 100000 in
set_option maxHeartbeats 4000000 in
theorem k_L_sawAround (l : Launch) (hl0 : l.stackTraces = false) (E : EE) (Z : ZZ) (M : MM) (a0 : Nat) (v1 : Int32) (v2 : Int32) (v3 : Int32) (a4 : Nat) (Q : Int32 → MM → Prop) (h : P_L_sawAround Z M a0 v1 v2 v3 a4 Q) : Ch_i l yL_sawAround cL_sawAround 6 (some .int) [(0, 12, 15, 19), (0, 12, 19, 13)] rm_L_sawAround E Z M [.ref a0, .int v1, .int v2, .int v3, .ref a4] Q 2 12 := by
  refine va_MetW (cc := cL_sawAround) (maxL := 6) (ret := some .int) (hh := [(0, 12, 15, 19), (0, 12, 19, 13)]) (by decide) rfl ?_
  intro p e s m args below meth c s₁ B hml hv
  obtain ⟨rfl, ⟨hK, hP, hD, hZ⟩, hsx⟩ := hv
  have S : Cx p m c meth cL_sawAround 6 s _ RL (some .int) := ⟨⟨B.exec, B.bytes, hml, findClass_of_methodNamed B.named, fun w hw => atoms_spec (ws := wsW_ yL_sawAround cL_sawAround 6 (some .int) [(0, 12, 15, 19), (0, 12, 19, 13)]) B.pre w (List.mem_cons_of_mem _ hw)⟩, B.returns, B.notSynchronized⟩
  have T : Hx l c Z s [(0, 12, 15, 19), (0, 12, 19, 13)] := ⟨hl0, vx_table (x := yL_sawAround) B (atoms_spec (ws := wsW_ yL_sawAround cL_sawAround 6 (some .int) [(0, 12, 15, 19), (0, 12, 19, 13)]) B.pre _ List.mem_cons_self), hsx⟩
  have hl := lv_entry ([.ref a0, .int v1, .int v2, .int v3, .ref a4]) (n := 6) (Nat.le_of_ble_eq_true rfl)
  rw [lg_entry_eq]
  generalize (lg_sl ([.ref a0, .int v1, .int v2, .int v3, .ref a4]) ++ List.replicate (6 - (lg_sl ([.ref a0, .int v1, .int v2, .int v3, .ref a4])).length) Slot.unset).toArray = ls at hl ⊢
  exact (wB_L_sawAround_0 S T M a0 v1 v2 v3 a4 h) s.heap [] ls ⟨hK, hP, hD, va_S.rf, hZ⟩ hl
set_option maxRecDepth 100000 in
set_option maxHeartbeats 4000000 in
theorem wB_L_takeOut_0 (S : Cx p m c meth cL_takeOut 4 s args RL (some .int)) (T : Hx l c Z s [(0, 9, 12, 19), (0, 9, 15, 21)]) {Q : Int32 → MM → Prop}   (M : MM) (a0 : Nat) (v1 : Int32) (a2 : Nat) (h : B_L_takeOut_0 Z Q  M a0 v1 a2) : WG p l e rm_L_takeOut s m args below meth c 0 0 (MQh below E Z args s Q 2 12) E Z M 0 4 [(0, .ref a0), (1, .int v1), (2, .ref a2)] [] := by
  intro H locs ls hw hl
  have hx := S.1.1
  have hb := S.1.2.1
  have hown := S.1.2.2.2.1
  have hts := S.1.2.2.2.2
  refine lv_aload_n hx hb dL_takeOut_0 rfl (lv_at hl 2 rfl) ?_
  refine lv_iconst (v := 0) hx hb dL_takeOut_1 (by decide) ?_
  refine lv_aload_n hx hb dL_takeOut_2 rfl (lv_at hl 0 rfl) ?_
  refine lv_iload_n hx hb dL_takeOut_3 rfl (lv_at hl 1 rfl) ?_
  obtain ⟨k_0, h⟩ := h
  refine ch_i (As := [.int v1]) (rest := [.int 0, .ref a2]) S T.2.2 hw (k_X5_takeOut l T.1 E Z M a0 v1 _ _ h) wv_L_29 yc_X5_takeOut ⟨rfl, rfl⟩ ⟨Nat.le_of_ble_eq_true rfl, Nat.le_of_ble_eq_true rfl⟩ rfl hl.1 (Nat.le_of_ble_eq_true rfl) (ci := 5) (q := (RX5, TX5, 9)) rfl rfl (by rw [k_0]; decide) (cell_5 k_0) ⟨Nat.le_of_ble_eq_true rfl, Nat.le_of_ble_eq_true rfl⟩ dL_takeOut_4 (fun E1 ce q9 M4 H locs h hw hce hcv hcl => ?_) (fun r4 M4 H locs h hw => ?_)
  · rcases h with ⟨rfl, h⟩ | ⟨rfl, h⟩
    · refine vx_catch hown [] ⟨0, 9, 12, 19⟩ [⟨0, 9, 15, 21⟩] (by rw [T.2.1]; rfl) (fun z hz => nomatch hz) rfl (by decide) (hts _ wk_L_19) (va_Nw.use rfl (T.2.2.1.2.1 _ (by decide))) hce hcv hcl ?_
      refine lv_astore_n (lv' := [(3, .ref q9), (0, .ref a0), (1, .int v1), (2, .ref a2)]) hx hb dL_takeOut_12 rfl hl (by decide) rfl (fun ls hl => ?_)
      refine lv_iconst (v := 1) hx hb dL_takeOut_13 (by decide) ?_
      exact we_i S hw h dL_takeOut_14
    · refine vx_catch hown [⟨0, 9, 12, 19⟩] ⟨0, 9, 15, 21⟩ [] (by rw [T.2.1]; rfl) (fun z hz => by simp only [List.mem_cons, List.not_mem_nil, or_false] at hz; rcases hz with rfl; exact Or.inr ⟨by decide, "java/lang/IndexOutOfBoundsException", hts _ wk_L_19, T.2.2.1.2.2 _ (by decide) _ (by decide) (by decide)⟩) rfl (by decide) (hts _ wk_L_21) (va_Nw.use rfl (T.2.2.1.2.1 _ (by decide))) hce hcv hcl ?_
      refine lv_astore_n (lv' := [(3, .ref q9), (0, .ref a0), (1, .int v1), (2, .ref a2)]) hx hb dL_takeOut_15 rfl hl (by decide) rfl (fun ls hl => ?_)
      refine lv_iconst (v := 2) hx hb dL_takeOut_16 (by decide) ?_
      exact we_i S hw h dL_takeOut_17
  · refine lv_i2l (v := r4.toInt64) hx hb dL_takeOut_7 rfl ?_
    obtain ⟨k_1, h⟩ := h
    obtain ⟨i_8, h⟩ := h
    refine wo_last S.1 hw k_1 i_8 dL_takeOut_8 (fun H locs hw => ?_)
    refine lv_goto (tgt := 18) hx hb dL_takeOut_9 (by decide) ?_
    refine lv_iconst (v := 0) hx hb dL_takeOut_18 (by decide) ?_
    exact we_i S hw h dL_takeOut_19
set_option maxRecDepth 100000 in
set_option maxHeartbeats 4000000 in
theorem k_L_takeOut (l : Launch) (hl0 : l.stackTraces = false) (E : EE) (Z : ZZ) (M : MM) (a0 : Nat) (v1 : Int32) (a2 : Nat) (Q : Int32 → MM → Prop) (h : P_L_takeOut Z M a0 v1 a2 Q) : Ch_i l yL_takeOut cL_takeOut 4 (some .int) [(0, 9, 12, 19), (0, 9, 15, 21)] rm_L_takeOut E Z M [.ref a0, .int v1, .ref a2] Q 2 12 := by
  refine va_MetW (cc := cL_takeOut) (maxL := 4) (ret := some .int) (hh := [(0, 9, 12, 19), (0, 9, 15, 21)]) (by decide) rfl ?_
  intro p e s m args below meth c s₁ B hml hv
  obtain ⟨rfl, ⟨hK, hP, hD, hZ⟩, hsx⟩ := hv
  have S : Cx p m c meth cL_takeOut 4 s _ RL (some .int) := ⟨⟨B.exec, B.bytes, hml, findClass_of_methodNamed B.named, fun w hw => atoms_spec (ws := wsW_ yL_takeOut cL_takeOut 4 (some .int) [(0, 9, 12, 19), (0, 9, 15, 21)]) B.pre w (List.mem_cons_of_mem _ hw)⟩, B.returns, B.notSynchronized⟩
  have T : Hx l c Z s [(0, 9, 12, 19), (0, 9, 15, 21)] := ⟨hl0, vx_table (x := yL_takeOut) B (atoms_spec (ws := wsW_ yL_takeOut cL_takeOut 4 (some .int) [(0, 9, 12, 19), (0, 9, 15, 21)]) B.pre _ List.mem_cons_self), hsx⟩
  have hl := lv_entry ([.ref a0, .int v1, .ref a2]) (n := 4) (Nat.le_of_ble_eq_true rfl)
  rw [lg_entry_eq]
  generalize (lg_sl ([.ref a0, .int v1, .ref a2]) ++ List.replicate (4 - (lg_sl ([.ref a0, .int v1, .ref a2])).length) Slot.unset).toArray = ls at hl ⊢
  exact (wB_L_takeOut_0 S T M a0 v1 a2 h) s.heap [] ls ⟨hK, hP, hD, va_S.rf, hZ⟩ hl
set_option maxRecDepth 100000 in
set_option maxHeartbeats 4000000 in
theorem wB_L_setMelt_0 (S : Cx p m c meth cL_setMelt 4 s args RL (some .int)) (T : Hx l c Z s [(0, 9, 12, 13)]) {Q : Int32 → MM → Prop}   (M : MM) (a0 : Nat) (v1 : Int32) (a2 : Nat) (h : B_L_setMelt_0 Z Q  M a0 v1 a2) : WG p l e rm_L_setMelt s m args below meth c 0 0 (MQh below E Z args s Q 1 6) E Z M 0 4 [(0, .ref a0), (1, .int v1), (2, .ref a2)] [] := by
  intro H locs ls hw hl
  have hx := S.1.1
  have hb := S.1.2.1
  have hown := S.1.2.2.2.1
  have hts := S.1.2.2.2.2
  refine lv_aload_n hx hb dL_setMelt_0 rfl (lv_at hl 2 rfl) ?_
  refine lv_iconst (v := 0) hx hb dL_setMelt_1 (by decide) ?_
  refine lv_aload_n hx hb dL_setMelt_2 rfl (lv_at hl 0 rfl) ?_
  refine lv_iload_n hx hb dL_setMelt_3 rfl (lv_at hl 1 rfl) ?_
  obtain ⟨k_0, h⟩ := h
  refine ch_i (As := [.int v1]) (rest := [.int 0, .ref a2]) S T.2.2 hw (k_X5_setMelt l T.1 E Z M a0 v1 _ _ h) wv_L_33 yc_X5_setMelt ⟨rfl, rfl⟩ ⟨Nat.le_of_ble_eq_true rfl, Nat.le_of_ble_eq_true rfl⟩ rfl hl.1 (Nat.le_of_ble_eq_true rfl) (ci := 5) (q := (RX5, TX5, 9)) rfl rfl (by rw [k_0]; decide) (cell_5 k_0) ⟨Nat.le_of_ble_eq_true rfl, Nat.le_of_ble_eq_true rfl⟩ dL_setMelt_4 (fun E1 ce q9 M4 H locs h hw hce hcv hcl => ?_) (fun r4 M4 H locs h hw => ?_)
  · rcases h with ⟨rfl, h⟩
    refine vx_catch hown [] ⟨0, 9, 12, 13⟩ [] (by rw [T.2.1]; rfl) (fun z hz => nomatch hz) rfl (by decide) (hts _ wk_L_13) (va_Nw.use rfl (T.2.2.1.2.1 _ (by decide))) hce hcv hcl ?_
    refine lv_astore_n (lv' := [(3, .ref q9), (0, .ref a0), (1, .int v1), (2, .ref a2)]) hx hb dL_setMelt_12 rfl hl (by decide) rfl (fun ls hl => ?_)
    refine lv_iconst (v := 1) hx hb dL_setMelt_13 (by decide) ?_
    exact we_i S hw h dL_setMelt_14
  · refine lv_i2l (v := r4.toInt64) hx hb dL_setMelt_7 rfl ?_
    obtain ⟨k_1, h⟩ := h
    obtain ⟨i_8, h⟩ := h
    refine wo_last S.1 hw k_1 i_8 dL_setMelt_8 (fun H locs hw => ?_)
    refine lv_goto (tgt := 15) hx hb dL_setMelt_9 (by decide) ?_
    refine lv_iconst (v := 0) hx hb dL_setMelt_15 (by decide) ?_
    exact we_i S hw h dL_setMelt_16
set_option maxRecDepth 100000 in
set_option maxHeartbeats 4000000 in
theorem k_L_setMelt (l : Launch) (hl0 : l.stackTraces = false) (E : EE) (Z : ZZ) (M : MM) (a0 : Nat) (v1 : Int32) (a2 : Nat) (Q : Int32 → MM → Prop) (h : P_L_setMelt Z M a0 v1 a2 Q) : Ch_i l yL_setMelt cL_setMelt 4 (some .int) [(0, 9, 12, 13)] rm_L_setMelt E Z M [.ref a0, .int v1, .ref a2] Q 1 6 := by
  refine va_MetW (cc := cL_setMelt) (maxL := 4) (ret := some .int) (hh := [(0, 9, 12, 13)]) (by decide) rfl ?_
  intro p e s m args below meth c s₁ B hml hv
  obtain ⟨rfl, ⟨hK, hP, hD, hZ⟩, hsx⟩ := hv
  have S : Cx p m c meth cL_setMelt 4 s _ RL (some .int) := ⟨⟨B.exec, B.bytes, hml, findClass_of_methodNamed B.named, fun w hw => atoms_spec (ws := wsW_ yL_setMelt cL_setMelt 4 (some .int) [(0, 9, 12, 13)]) B.pre w (List.mem_cons_of_mem _ hw)⟩, B.returns, B.notSynchronized⟩
  have T : Hx l c Z s [(0, 9, 12, 13)] := ⟨hl0, vx_table (x := yL_setMelt) B (atoms_spec (ws := wsW_ yL_setMelt cL_setMelt 4 (some .int) [(0, 9, 12, 13)]) B.pre _ List.mem_cons_self), hsx⟩
  have hl := lv_entry ([.ref a0, .int v1, .ref a2]) (n := 4) (Nat.le_of_ble_eq_true rfl)
  rw [lg_entry_eq]
  generalize (lg_sl ([.ref a0, .int v1, .ref a2]) ++ List.replicate (4 - (lg_sl ([.ref a0, .int v1, .ref a2])).length) Slot.unset).toArray = ls at hl ⊢
  exact (wB_L_setMelt_0 S T M a0 v1 a2 h) s.heap [] ls ⟨hK, hP, hD, va_S.rf, hZ⟩ hl
set_option maxRecDepth 100000 in
set_option maxHeartbeats 4000000 in
theorem wB_L_pass_0 (S : Cx p m c meth cL_pass 4 s args RL (some .int)) (T : Hx l c Z s [(0, 9, 12, 13)]) {Q : Int32 → MM → Prop}   (M : MM) (a0 : Nat) (v1 : Int32) (a2 : Nat) (h : B_L_pass_0 Z Q  M a0 v1 a2) : WG p l e rm_L_pass s m args below meth c 0 0 (MQh below E Z args s Q 1 6) E Z M 0 4 [(0, .ref a0), (1, .int v1), (2, .ref a2)] [] := by
  intro H locs ls hw hl
  have hx := S.1.1
  have hb := S.1.2.1
  have hown := S.1.2.2.2.1
  have hts := S.1.2.2.2.2
  refine lv_aload_n hx hb dL_pass_0 rfl (lv_at hl 2 rfl) ?_
  refine lv_iconst (v := 0) hx hb dL_pass_1 (by decide) ?_
  refine lv_aload_n hx hb dL_pass_2 rfl (lv_at hl 0 rfl) ?_
  refine lv_iload_n hx hb dL_pass_3 rfl (lv_at hl 1 rfl) ?_
  obtain ⟨k_0, h⟩ := h
  refine ch_i (As := [.int v1]) (rest := [.int 0, .ref a2]) S T.2.2 hw (k_X5_pass l T.1 E Z M a0 v1 _ _ h) wv_L_36 yc_X5_pass ⟨rfl, rfl⟩ ⟨Nat.le_of_ble_eq_true rfl, Nat.le_of_ble_eq_true rfl⟩ rfl hl.1 (Nat.le_of_ble_eq_true rfl) (ci := 5) (q := (RX5, TX5, 9)) rfl rfl (by rw [k_0]; decide) (cell_5 k_0) ⟨Nat.le_of_ble_eq_true rfl, Nat.le_of_ble_eq_true rfl⟩ dL_pass_4 (fun E1 ce q9 M4 H locs h hw hce hcv hcl => ?_) (fun r4 M4 H locs h hw => ?_)
  · rcases h with ⟨rfl, h⟩
    refine vx_catch hown [] ⟨0, 9, 12, 13⟩ [] (by rw [T.2.1]; rfl) (fun z hz => nomatch hz) rfl (by decide) (hts _ wk_L_13) (va_Nw.use rfl (T.2.2.1.2.1 _ (by decide))) hce hcv hcl ?_
    refine lv_astore_n (lv' := [(3, .ref q9), (0, .ref a0), (1, .int v1), (2, .ref a2)]) hx hb dL_pass_12 rfl hl (by decide) rfl (fun ls hl => ?_)
    refine lv_iconst (v := 1) hx hb dL_pass_13 (by decide) ?_
    exact we_i S hw h dL_pass_14
  · refine lv_i2l (v := r4.toInt64) hx hb dL_pass_7 rfl ?_
    obtain ⟨k_1, h⟩ := h
    obtain ⟨i_8, h⟩ := h
    refine wo_last S.1 hw k_1 i_8 dL_pass_8 (fun H locs hw => ?_)
    refine lv_goto (tgt := 15) hx hb dL_pass_9 (by decide) ?_
    refine lv_iconst (v := 0) hx hb dL_pass_15 (by decide) ?_
    exact we_i S hw h dL_pass_16
set_option maxRecDepth 100000 in
set_option maxHeartbeats 4000000 in
theorem k_L_pass (l : Launch) (hl0 : l.stackTraces = false) (E : EE) (Z : ZZ) (M : MM) (a0 : Nat) (v1 : Int32) (a2 : Nat) (Q : Int32 → MM → Prop) (h : P_L_pass Z M a0 v1 a2 Q) : Ch_i l yL_pass cL_pass 4 (some .int) [(0, 9, 12, 13)] rm_L_pass E Z M [.ref a0, .int v1, .ref a2] Q 1 6 := by
  refine va_MetW (cc := cL_pass) (maxL := 4) (ret := some .int) (hh := [(0, 9, 12, 13)]) (by decide) rfl ?_
  intro p e s m args below meth c s₁ B hml hv
  obtain ⟨rfl, ⟨hK, hP, hD, hZ⟩, hsx⟩ := hv
  have S : Cx p m c meth cL_pass 4 s _ RL (some .int) := ⟨⟨B.exec, B.bytes, hml, findClass_of_methodNamed B.named, fun w hw => atoms_spec (ws := wsW_ yL_pass cL_pass 4 (some .int) [(0, 9, 12, 13)]) B.pre w (List.mem_cons_of_mem _ hw)⟩, B.returns, B.notSynchronized⟩
  have T : Hx l c Z s [(0, 9, 12, 13)] := ⟨hl0, vx_table (x := yL_pass) B (atoms_spec (ws := wsW_ yL_pass cL_pass 4 (some .int) [(0, 9, 12, 13)]) B.pre _ List.mem_cons_self), hsx⟩
  have hl := lv_entry ([.ref a0, .int v1, .ref a2]) (n := 4) (Nat.le_of_ble_eq_true rfl)
  rw [lg_entry_eq]
  generalize (lg_sl ([.ref a0, .int v1, .ref a2]) ++ List.replicate (4 - (lg_sl ([.ref a0, .int v1, .ref a2])).length) Slot.unset).toArray = ls at hl ⊢
  exact (wB_L_pass_0 S T M a0 v1 a2 h) s.heap [] ls ⟨hK, hP, hD, va_S.rf, hZ⟩ hl
set_option maxRecDepth 100000 in
set_option maxHeartbeats 4000000 in
theorem wB_L_cell_0 (S : Cx p m c meth cL_cell 5 s args RL (some .int)) (T : Hx l c Z s [(0, 10, 13, 19), (0, 10, 17, 13)]) {Q : Int32 → MM → Prop}   (M : MM) (a0 : Nat) (v1 : Int32) (v2 : Int32) (a3 : Nat) (h : B_L_cell_0 Z Q  M a0 v1 v2 a3) : WG p l e rm_L_cell s m args below meth c 0 0 (MQh below E Z args s Q 2 12) E Z M 0 5 [(0, .ref a0), (1, .int v1), (2, .int v2), (3, .ref a3)] [] := by
  intro H locs ls hw hl
  have hx := S.1.1
  have hb := S.1.2.1
  have hown := S.1.2.2.2.1
  have hts := S.1.2.2.2.2
  refine lv_aload_n hx hb dL_cell_0 rfl (lv_at hl 3 rfl) ?_
  refine lv_iconst (v := 0) hx hb dL_cell_1 (by decide) ?_
  refine lv_aload_n hx hb dL_cell_2 rfl (lv_at hl 0 rfl) ?_
  refine lv_iload_n hx hb dL_cell_3 rfl (lv_at hl 1 rfl) ?_
  refine lv_iload_n hx hb dL_cell_4 rfl (lv_at hl 2 rfl) ?_
  obtain ⟨k_0, h⟩ := h
  refine ch_i (As := [.int v1, .int v2]) (rest := [.int 0, .ref a3]) S T.2.2 hw (k_X5_cell l T.1 E Z M a0 v1 v2 _ _ h) wv_L_39 yc_X5_cell ⟨rfl, rfl⟩ ⟨Nat.le_of_ble_eq_true rfl, Nat.le_of_ble_eq_true rfl⟩ rfl hl.1 (Nat.le_of_ble_eq_true rfl) (ci := 5) (q := (RX5, TX5, 9)) rfl rfl (by rw [k_0]; decide) (cell_5 k_0) ⟨Nat.le_of_ble_eq_true rfl, Nat.le_of_ble_eq_true rfl⟩ dL_cell_5 (fun E1 ce q9 M5 H locs h hw hce hcv hcl => ?_) (fun r5 M5 H locs h hw => ?_)
  · rcases h with ⟨rfl, h⟩ | ⟨rfl, h⟩
    · refine vx_catch hown [] ⟨0, 10, 13, 19⟩ [⟨0, 10, 17, 13⟩] (by rw [T.2.1]; rfl) (fun z hz => nomatch hz) rfl (by decide) (hts _ wk_L_19) (va_Nw.use rfl (T.2.2.1.2.1 _ (by decide))) hce hcv hcl ?_
      refine lv_astore (lv' := [(4, .ref q9), (0, .ref a0), (1, .int v1), (2, .int v2), (3, .ref a3)]) hx hb dL_cell_13 hl (by decide) rfl (fun ls hl => ?_)
      refine lv_iconst (v := 1) hx hb dL_cell_15 (by decide) ?_
      exact we_i S hw h dL_cell_16
    · refine vx_catch hown [⟨0, 10, 13, 19⟩] ⟨0, 10, 17, 13⟩ [] (by rw [T.2.1]; rfl) (fun z hz => by simp only [List.mem_cons, List.not_mem_nil, or_false] at hz; rcases hz with rfl; exact Or.inr ⟨by decide, "java/lang/IndexOutOfBoundsException", hts _ wk_L_19, T.2.2.1.2.2 _ (by decide) _ (by decide) (by decide)⟩) rfl (by decide) (hts _ wk_L_13) (va_Nw.use rfl (T.2.2.1.2.1 _ (by decide))) hce hcv hcl ?_
      refine lv_astore (lv' := [(4, .ref q9), (0, .ref a0), (1, .int v1), (2, .int v2), (3, .ref a3)]) hx hb dL_cell_17 hl (by decide) rfl (fun ls hl => ?_)
      refine lv_iconst (v := 2) hx hb dL_cell_19 (by decide) ?_
      exact we_i S hw h dL_cell_20
  · refine lv_i2l (v := r5.toInt64) hx hb dL_cell_8 rfl ?_
    obtain ⟨k_1, h⟩ := h
    obtain ⟨i_9, h⟩ := h
    refine wo_last S.1 hw k_1 i_9 dL_cell_9 (fun H locs hw => ?_)
    refine lv_goto (tgt := 21) hx hb dL_cell_10 (by decide) ?_
    refine lv_iconst (v := 0) hx hb dL_cell_21 (by decide) ?_
    exact we_i S hw h dL_cell_22
set_option maxRecDepth 100000 in
set_option maxHeartbeats 4000000 in
theorem k_L_cell (l : Launch) (hl0 : l.stackTraces = false) (E : EE) (Z : ZZ) (M : MM) (a0 : Nat) (v1 : Int32) (v2 : Int32) (a3 : Nat) (Q : Int32 → MM → Prop) (h : P_L_cell Z M a0 v1 v2 a3 Q) : Ch_i l yL_cell cL_cell 5 (some .int) [(0, 10, 13, 19), (0, 10, 17, 13)] rm_L_cell E Z M [.ref a0, .int v1, .int v2, .ref a3] Q 2 12 := by
  refine va_MetW (cc := cL_cell) (maxL := 5) (ret := some .int) (hh := [(0, 10, 13, 19), (0, 10, 17, 13)]) (by decide) rfl ?_
  intro p e s m args below meth c s₁ B hml hv
  obtain ⟨rfl, ⟨hK, hP, hD, hZ⟩, hsx⟩ := hv
  have S : Cx p m c meth cL_cell 5 s _ RL (some .int) := ⟨⟨B.exec, B.bytes, hml, findClass_of_methodNamed B.named, fun w hw => atoms_spec (ws := wsW_ yL_cell cL_cell 5 (some .int) [(0, 10, 13, 19), (0, 10, 17, 13)]) B.pre w (List.mem_cons_of_mem _ hw)⟩, B.returns, B.notSynchronized⟩
  have T : Hx l c Z s [(0, 10, 13, 19), (0, 10, 17, 13)] := ⟨hl0, vx_table (x := yL_cell) B (atoms_spec (ws := wsW_ yL_cell cL_cell 5 (some .int) [(0, 10, 13, 19), (0, 10, 17, 13)]) B.pre _ List.mem_cons_self), hsx⟩
  have hl := lv_entry ([.ref a0, .int v1, .int v2, .ref a3]) (n := 5) (Nat.le_of_ble_eq_true rfl)
  rw [lg_entry_eq]
  generalize (lg_sl ([.ref a0, .int v1, .int v2, .ref a3]) ++ List.replicate (5 - (lg_sl ([.ref a0, .int v1, .int v2, .ref a3])).length) Slot.unset).toArray = ls at hl ⊢
  exact (wB_L_cell_0 S T M a0 v1 v2 a3 h) s.heap [] ls ⟨hK, hP, hD, va_S.rf, hZ⟩ hl
set_option maxRecDepth 100000 in
set_option maxHeartbeats 4000000 in
theorem wB_L_block_0 (S : Cx p m c meth cL_block 5 s args RL (some .int)) (T : Hx l c Z s [(0, 10, 13, 19), (0, 10, 17, 13)]) {Q : Int32 → MM → Prop}   (M : MM) (a0 : Nat) (v1 : Int32) (v2 : Int32) (a3 : Nat) (h : B_L_block_0 Z Q  M a0 v1 v2 a3) : WG p l e rm_L_block s m args below meth c 0 0 (MQh below E Z args s Q 2 12) E Z M 0 5 [(0, .ref a0), (1, .int v1), (2, .int v2), (3, .ref a3)] [] := by
  intro H locs ls hw hl
  have hx := S.1.1
  have hb := S.1.2.1
  have hown := S.1.2.2.2.1
  have hts := S.1.2.2.2.2
  refine lv_aload_n hx hb dL_block_0 rfl (lv_at hl 3 rfl) ?_
  refine lv_iconst (v := 0) hx hb dL_block_1 (by decide) ?_
  refine lv_aload_n hx hb dL_block_2 rfl (lv_at hl 0 rfl) ?_
  refine lv_iload_n hx hb dL_block_3 rfl (lv_at hl 1 rfl) ?_
  refine lv_iload_n hx hb dL_block_4 rfl (lv_at hl 2 rfl) ?_
  obtain ⟨k_0, h⟩ := h
  refine ch_i (As := [.int v1, .int v2]) (rest := [.int 0, .ref a3]) S T.2.2 hw (k_X5_block l T.1 E Z M a0 v1 v2 _ _ h) wv_L_42 yc_X5_block ⟨rfl, rfl⟩ ⟨Nat.le_of_ble_eq_true rfl, Nat.le_of_ble_eq_true rfl⟩ rfl hl.1 (Nat.le_of_ble_eq_true rfl) (ci := 5) (q := (RX5, TX5, 9)) rfl rfl (by rw [k_0]; decide) (cell_5 k_0) ⟨Nat.le_of_ble_eq_true rfl, Nat.le_of_ble_eq_true rfl⟩ dL_block_5 (fun E1 ce q9 M5 H locs h hw hce hcv hcl => ?_) (fun r5 M5 H locs h hw => ?_)
  · rcases h with ⟨rfl, h⟩ | ⟨rfl, h⟩
    · refine vx_catch hown [] ⟨0, 10, 13, 19⟩ [⟨0, 10, 17, 13⟩] (by rw [T.2.1]; rfl) (fun z hz => nomatch hz) rfl (by decide) (hts _ wk_L_19) (va_Nw.use rfl (T.2.2.1.2.1 _ (by decide))) hce hcv hcl ?_
      refine lv_astore (lv' := [(4, .ref q9), (0, .ref a0), (1, .int v1), (2, .int v2), (3, .ref a3)]) hx hb dL_block_13 hl (by decide) rfl (fun ls hl => ?_)
      refine lv_iconst (v := 1) hx hb dL_block_15 (by decide) ?_
      exact we_i S hw h dL_block_16
    · refine vx_catch hown [⟨0, 10, 13, 19⟩] ⟨0, 10, 17, 13⟩ [] (by rw [T.2.1]; rfl) (fun z hz => by simp only [List.mem_cons, List.not_mem_nil, or_false] at hz; rcases hz with rfl; exact Or.inr ⟨by decide, "java/lang/IndexOutOfBoundsException", hts _ wk_L_19, T.2.2.1.2.2 _ (by decide) _ (by decide) (by decide)⟩) rfl (by decide) (hts _ wk_L_13) (va_Nw.use rfl (T.2.2.1.2.1 _ (by decide))) hce hcv hcl ?_
      refine lv_astore (lv' := [(4, .ref q9), (0, .ref a0), (1, .int v1), (2, .int v2), (3, .ref a3)]) hx hb dL_block_17 hl (by decide) rfl (fun ls hl => ?_)
      refine lv_iconst (v := 2) hx hb dL_block_19 (by decide) ?_
      exact we_i S hw h dL_block_20
  · refine lv_i2l (v := r5.toInt64) hx hb dL_block_8 rfl ?_
    obtain ⟨k_1, h⟩ := h
    obtain ⟨i_9, h⟩ := h
    refine wo_last S.1 hw k_1 i_9 dL_block_9 (fun H locs hw => ?_)
    refine lv_goto (tgt := 21) hx hb dL_block_10 (by decide) ?_
    refine lv_iconst (v := 0) hx hb dL_block_21 (by decide) ?_
    exact we_i S hw h dL_block_22
set_option maxRecDepth 100000 in
set_option maxHeartbeats 4000000 in
theorem k_L_block (l : Launch) (hl0 : l.stackTraces = false) (E : EE) (Z : ZZ) (M : MM) (a0 : Nat) (v1 : Int32) (v2 : Int32) (a3 : Nat) (Q : Int32 → MM → Prop) (h : P_L_block Z M a0 v1 v2 a3 Q) : Ch_i l yL_block cL_block 5 (some .int) [(0, 10, 13, 19), (0, 10, 17, 13)] rm_L_block E Z M [.ref a0, .int v1, .int v2, .ref a3] Q 2 12 := by
  refine va_MetW (cc := cL_block) (maxL := 5) (ret := some .int) (hh := [(0, 10, 13, 19), (0, 10, 17, 13)]) (by decide) rfl ?_
  intro p e s m args below meth c s₁ B hml hv
  obtain ⟨rfl, ⟨hK, hP, hD, hZ⟩, hsx⟩ := hv
  have S : Cx p m c meth cL_block 5 s _ RL (some .int) := ⟨⟨B.exec, B.bytes, hml, findClass_of_methodNamed B.named, fun w hw => atoms_spec (ws := wsW_ yL_block cL_block 5 (some .int) [(0, 10, 13, 19), (0, 10, 17, 13)]) B.pre w (List.mem_cons_of_mem _ hw)⟩, B.returns, B.notSynchronized⟩
  have T : Hx l c Z s [(0, 10, 13, 19), (0, 10, 17, 13)] := ⟨hl0, vx_table (x := yL_block) B (atoms_spec (ws := wsW_ yL_block cL_block 5 (some .int) [(0, 10, 13, 19), (0, 10, 17, 13)]) B.pre _ List.mem_cons_self), hsx⟩
  have hl := lv_entry ([.ref a0, .int v1, .int v2, .ref a3]) (n := 5) (Nat.le_of_ble_eq_true rfl)
  rw [lg_entry_eq]
  generalize (lg_sl ([.ref a0, .int v1, .int v2, .ref a3]) ++ List.replicate (5 - (lg_sl ([.ref a0, .int v1, .int v2, .ref a3])).length) Slot.unset).toArray = ls at hl ⊢
  exact (wB_L_block_0 S T M a0 v1 v2 a3 h) s.heap [] ls ⟨hK, hP, hD, va_S.rf, hZ⟩ hl
set_option maxRecDepth 100000 in
set_option maxHeartbeats 4000000 in
theorem wB_L_move_0 (S : Cx p m c meth cL_move 5 s args RL (some .int)) (T : Hx l c Z s [(0, 10, 13, 19)]) {Q : Int32 → MM → Prop}   (M : MM) (a0 : Nat) (v1 : Int32) (v2 : Int32) (a3 : Nat) (h : B_L_move_0 Z Q  M a0 v1 v2 a3) : WG p l e rm_L_move s m args below meth c 0 0 (MQh below E Z args s Q 2 12) E Z M 0 5 [(0, .ref a0), (1, .int v1), (2, .int v2), (3, .ref a3)] [] := by
  intro H locs ls hw hl
  have hx := S.1.1
  have hb := S.1.2.1
  have hown := S.1.2.2.2.1
  have hts := S.1.2.2.2.2
  refine lv_aload_n hx hb dL_move_0 rfl (lv_at hl 3 rfl) ?_
  refine lv_iconst (v := 0) hx hb dL_move_1 (by decide) ?_
  refine lv_aload_n hx hb dL_move_2 rfl (lv_at hl 0 rfl) ?_
  refine lv_iload_n hx hb dL_move_3 rfl (lv_at hl 1 rfl) ?_
  refine lv_iload_n hx hb dL_move_4 rfl (lv_at hl 2 rfl) ?_
  obtain ⟨k_0, h⟩ := h
  refine ch_i (As := [.int v1, .int v2]) (rest := [.int 0, .ref a3]) S T.2.2 hw (k_X5_move l T.1 E Z M a0 v1 v2 _ _ h) wv_L_45 yc_X5_move ⟨rfl, rfl⟩ ⟨Nat.le_of_ble_eq_true rfl, Nat.le_of_ble_eq_true rfl⟩ rfl hl.1 (Nat.le_of_ble_eq_true rfl) (ci := 5) (q := (RX5, TX5, 9)) rfl rfl (by rw [k_0]; decide) (cell_5 k_0) ⟨Nat.le_of_ble_eq_true rfl, Nat.le_of_ble_eq_true rfl⟩ dL_move_5 (fun E1 ce q9 M5 H locs h hw hce hcv hcl => ?_) (fun r5 M5 H locs h hw => ?_)
  · rcases h with ⟨rfl, h⟩
    refine vx_catch hown [] ⟨0, 10, 13, 19⟩ [] (by rw [T.2.1]; rfl) (fun z hz => nomatch hz) rfl (by decide) (hts _ wk_L_19) (va_Nw.use rfl (T.2.2.1.2.1 _ (by decide))) hce hcv hcl ?_
    refine lv_astore (lv' := [(4, .ref q9), (0, .ref a0), (1, .int v1), (2, .int v2), (3, .ref a3)]) hx hb dL_move_13 hl (by decide) rfl (fun ls hl => ?_)
    refine lv_iconst (v := 1) hx hb dL_move_15 (by decide) ?_
    exact we_i S hw h dL_move_16
  · refine lv_i2l (v := r5.toInt64) hx hb dL_move_8 rfl ?_
    obtain ⟨k_1, h⟩ := h
    obtain ⟨i_9, h⟩ := h
    refine wo_last S.1 hw k_1 i_9 dL_move_9 (fun H locs hw => ?_)
    refine lv_goto (tgt := 17) hx hb dL_move_10 (by decide) ?_
    refine lv_iconst (v := 0) hx hb dL_move_17 (by decide) ?_
    exact we_i S hw h dL_move_18
set_option maxRecDepth 100000 in
set_option maxHeartbeats 4000000 in
theorem k_L_move (l : Launch) (hl0 : l.stackTraces = false) (E : EE) (Z : ZZ) (M : MM) (a0 : Nat) (v1 : Int32) (v2 : Int32) (a3 : Nat) (Q : Int32 → MM → Prop) (h : P_L_move Z M a0 v1 v2 a3 Q) : Ch_i l yL_move cL_move 5 (some .int) [(0, 10, 13, 19)] rm_L_move E Z M [.ref a0, .int v1, .int v2, .ref a3] Q 2 12 := by
  refine va_MetW (cc := cL_move) (maxL := 5) (ret := some .int) (hh := [(0, 10, 13, 19)]) (by decide) rfl ?_
  intro p e s m args below meth c s₁ B hml hv
  obtain ⟨rfl, ⟨hK, hP, hD, hZ⟩, hsx⟩ := hv
  have S : Cx p m c meth cL_move 5 s _ RL (some .int) := ⟨⟨B.exec, B.bytes, hml, findClass_of_methodNamed B.named, fun w hw => atoms_spec (ws := wsW_ yL_move cL_move 5 (some .int) [(0, 10, 13, 19)]) B.pre w (List.mem_cons_of_mem _ hw)⟩, B.returns, B.notSynchronized⟩
  have T : Hx l c Z s [(0, 10, 13, 19)] := ⟨hl0, vx_table (x := yL_move) B (atoms_spec (ws := wsW_ yL_move cL_move 5 (some .int) [(0, 10, 13, 19)]) B.pre _ List.mem_cons_self), hsx⟩
  have hl := lv_entry ([.ref a0, .int v1, .int v2, .ref a3]) (n := 5) (Nat.le_of_ble_eq_true rfl)
  rw [lg_entry_eq]
  generalize (lg_sl ([.ref a0, .int v1, .int v2, .ref a3]) ++ List.replicate (5 - (lg_sl ([.ref a0, .int v1, .int v2, .ref a3])).length) Slot.unset).toArray = ls at hl ⊢
  exact (wB_L_move_0 S T M a0 v1 v2 a3 h) s.heap [] ls ⟨hK, hP, hD, va_S.rf, hZ⟩ hl
set_option maxRecDepth 100000 in
set_option maxHeartbeats 4000000 in
theorem wB_L_value_0 (S : Cx p m c meth cL_value 4 s args RL (some .int)) (T : Hx l c Z s [(0, 9, 12, 13)]) {Q : Int32 → MM → Prop}   (M : MM) (a0 : Nat) (v1 : Int32) (a2 : Nat) (h : B_L_value_0 Z Q  M a0 v1 a2) : WG p l e rm_L_value s m args below meth c 0 0 (MQh below E Z args s Q 1 6) E Z M 0 4 [(0, .ref a0), (1, .int v1), (2, .ref a2)] [] := by
  intro H locs ls hw hl
  have hx := S.1.1
  have hb := S.1.2.1
  have hown := S.1.2.2.2.1
  have hts := S.1.2.2.2.2
  refine lv_aload_n hx hb dL_value_0 rfl (lv_at hl 2 rfl) ?_
  refine lv_iconst (v := 0) hx hb dL_value_1 (by decide) ?_
  refine lv_aload_n hx hb dL_value_2 rfl (lv_at hl 0 rfl) ?_
  refine lv_iload_n hx hb dL_value_3 rfl (lv_at hl 1 rfl) ?_
  obtain ⟨k_0, h⟩ := h
  refine ch_i (As := [.int v1]) (rest := [.int 0, .ref a2]) S T.2.2 hw (k_X5_value l T.1 E Z M a0 v1 _ _ h) wv_L_48 yc_X5_value ⟨rfl, rfl⟩ ⟨Nat.le_of_ble_eq_true rfl, Nat.le_of_ble_eq_true rfl⟩ rfl hl.1 (Nat.le_of_ble_eq_true rfl) (ci := 5) (q := (RX5, TX5, 9)) rfl rfl (by rw [k_0]; decide) (cell_5 k_0) ⟨Nat.le_of_ble_eq_true rfl, Nat.le_of_ble_eq_true rfl⟩ dL_value_4 (fun E1 ce q9 M4 H locs h hw hce hcv hcl => ?_) (fun r4 M4 H locs h hw => ?_)
  · rcases h with ⟨rfl, h⟩
    refine vx_catch hown [] ⟨0, 9, 12, 13⟩ [] (by rw [T.2.1]; rfl) (fun z hz => nomatch hz) rfl (by decide) (hts _ wk_L_13) (va_Nw.use rfl (T.2.2.1.2.1 _ (by decide))) hce hcv hcl ?_
    refine lv_astore_n (lv' := [(3, .ref q9), (0, .ref a0), (1, .int v1), (2, .ref a2)]) hx hb dL_value_12 rfl hl (by decide) rfl (fun ls hl => ?_)
    refine lv_iconst (v := 1) hx hb dL_value_13 (by decide) ?_
    exact we_i S hw h dL_value_14
  · refine lv_i2l (v := r4.toInt64) hx hb dL_value_7 rfl ?_
    obtain ⟨k_1, h⟩ := h
    obtain ⟨i_8, h⟩ := h
    refine wo_last S.1 hw k_1 i_8 dL_value_8 (fun H locs hw => ?_)
    refine lv_goto (tgt := 15) hx hb dL_value_9 (by decide) ?_
    refine lv_iconst (v := 0) hx hb dL_value_15 (by decide) ?_
    exact we_i S hw h dL_value_16
set_option maxRecDepth 100000 in
set_option maxHeartbeats 4000000 in
theorem k_L_value (l : Launch) (hl0 : l.stackTraces = false) (E : EE) (Z : ZZ) (M : MM) (a0 : Nat) (v1 : Int32) (a2 : Nat) (Q : Int32 → MM → Prop) (h : P_L_value Z M a0 v1 a2 Q) : Ch_i l yL_value cL_value 4 (some .int) [(0, 9, 12, 13)] rm_L_value E Z M [.ref a0, .int v1, .ref a2] Q 1 6 := by
  refine va_MetW (cc := cL_value) (maxL := 4) (ret := some .int) (hh := [(0, 9, 12, 13)]) (by decide) rfl ?_
  intro p e s m args below meth c s₁ B hml hv
  obtain ⟨rfl, ⟨hK, hP, hD, hZ⟩, hsx⟩ := hv
  have S : Cx p m c meth cL_value 4 s _ RL (some .int) := ⟨⟨B.exec, B.bytes, hml, findClass_of_methodNamed B.named, fun w hw => atoms_spec (ws := wsW_ yL_value cL_value 4 (some .int) [(0, 9, 12, 13)]) B.pre w (List.mem_cons_of_mem _ hw)⟩, B.returns, B.notSynchronized⟩
  have T : Hx l c Z s [(0, 9, 12, 13)] := ⟨hl0, vx_table (x := yL_value) B (atoms_spec (ws := wsW_ yL_value cL_value 4 (some .int) [(0, 9, 12, 13)]) B.pre _ List.mem_cons_self), hsx⟩
  have hl := lv_entry ([.ref a0, .int v1, .ref a2]) (n := 4) (Nat.le_of_ble_eq_true rfl)
  rw [lg_entry_eq]
  generalize (lg_sl ([.ref a0, .int v1, .ref a2]) ++ List.replicate (4 - (lg_sl ([.ref a0, .int v1, .ref a2])).length) Slot.unset).toArray = ls at hl ⊢
  exact (wB_L_value_0 S T M a0 v1 a2 h) s.heap [] ls ⟨hK, hP, hD, va_S.rf, hZ⟩ hl
set_option maxRecDepth 100000 in
set_option maxHeartbeats 4000000 in
theorem wB_L_taken_0 (S : Cx p m c meth cL_taken 5 s args RL (some .int)) (T : Hx l c Z s [(0, 10, 13, 19), (0, 10, 17, 13)]) {Q : Int32 → MM → Prop}   (M : MM) (a0 : Nat) (v1 : Int32) (v2 : Int32) (a3 : Nat) (h : B_L_taken_0 Z Q  M a0 v1 v2 a3) : WG p l e rm_L_taken s m args below meth c 0 0 (MQh below E Z args s Q 1 6) E Z M 0 5 [(0, .ref a0), (1, .int v1), (2, .int v2), (3, .ref a3)] [] := by
  intro H locs ls hw hl
  have hx := S.1.1
  have hb := S.1.2.1
  have hown := S.1.2.2.2.1
  have hts := S.1.2.2.2.2
  refine lv_aload_n hx hb dL_taken_0 rfl (lv_at hl 3 rfl) ?_
  refine lv_iconst (v := 0) hx hb dL_taken_1 (by decide) ?_
  refine lv_aload_n hx hb dL_taken_2 rfl (lv_at hl 0 rfl) ?_
  refine lv_iload_n hx hb dL_taken_3 rfl (lv_at hl 1 rfl) ?_
  refine lv_iload_n hx hb dL_taken_4 rfl (lv_at hl 2 rfl) ?_
  obtain ⟨k_0, h⟩ := h
  refine ch_i (As := [.int v1, .int v2]) (rest := [.int 0, .ref a3]) S T.2.2 hw (k_X5_taken l T.1 E Z M a0 v1 v2 _ _ h) wv_L_51 yc_X5_taken ⟨rfl, rfl⟩ ⟨Nat.le_of_ble_eq_true rfl, Nat.le_of_ble_eq_true rfl⟩ rfl hl.1 (Nat.le_of_ble_eq_true rfl) (ci := 5) (q := (RX5, TX5, 9)) rfl rfl (by rw [k_0]; decide) (cell_5 k_0) ⟨Nat.le_of_ble_eq_true rfl, Nat.le_of_ble_eq_true rfl⟩ dL_taken_5 (fun E1 ce q9 M5 H locs h hw hce hcv hcl => ?_) (fun r5 M5 H locs h hw => ?_)
  · rcases h with ⟨rfl, h⟩ | ⟨rfl, h⟩
    · refine vx_catch hown [] ⟨0, 10, 13, 19⟩ [⟨0, 10, 17, 13⟩] (by rw [T.2.1]; rfl) (fun z hz => nomatch hz) rfl (by decide) (hts _ wk_L_19) (va_Nw.use rfl (T.2.2.1.2.1 _ (by decide))) hce hcv hcl ?_
      refine lv_astore (lv' := [(4, .ref q9), (0, .ref a0), (1, .int v1), (2, .int v2), (3, .ref a3)]) hx hb dL_taken_13 hl (by decide) rfl (fun ls hl => ?_)
      refine lv_iconst (v := 1) hx hb dL_taken_15 (by decide) ?_
      exact we_i S hw h dL_taken_16
    · refine vx_catch hown [⟨0, 10, 13, 19⟩] ⟨0, 10, 17, 13⟩ [] (by rw [T.2.1]; rfl) (fun z hz => by simp only [List.mem_cons, List.not_mem_nil, or_false] at hz; rcases hz with rfl; exact Or.inr ⟨by decide, "java/lang/IndexOutOfBoundsException", hts _ wk_L_19, T.2.2.1.2.2 _ (by decide) _ (by decide) (by decide)⟩) rfl (by decide) (hts _ wk_L_13) (va_Nw.use rfl (T.2.2.1.2.1 _ (by decide))) hce hcv hcl ?_
      refine lv_astore (lv' := [(4, .ref q9), (0, .ref a0), (1, .int v1), (2, .int v2), (3, .ref a3)]) hx hb dL_taken_17 hl (by decide) rfl (fun ls hl => ?_)
      refine lv_iconst (v := 2) hx hb dL_taken_19 (by decide) ?_
      exact we_i S hw h dL_taken_20
  · refine lv_i2l (v := r5.toInt64) hx hb dL_taken_8 rfl ?_
    obtain ⟨k_1, h⟩ := h
    obtain ⟨i_9, h⟩ := h
    refine wo_last S.1 hw k_1 i_9 dL_taken_9 (fun H locs hw => ?_)
    refine lv_goto (tgt := 21) hx hb dL_taken_10 (by decide) ?_
    refine lv_iconst (v := 0) hx hb dL_taken_21 (by decide) ?_
    exact we_i S hw h dL_taken_22
set_option maxRecDepth 100000 in
set_option maxHeartbeats 4000000 in
theorem k_L_taken (l : Launch) (hl0 : l.stackTraces = false) (E : EE) (Z : ZZ) (M : MM) (a0 : Nat) (v1 : Int32) (v2 : Int32) (a3 : Nat) (Q : Int32 → MM → Prop) (h : P_L_taken Z M a0 v1 v2 a3 Q) : Ch_i l yL_taken cL_taken 5 (some .int) [(0, 10, 13, 19), (0, 10, 17, 13)] rm_L_taken E Z M [.ref a0, .int v1, .int v2, .ref a3] Q 1 6 := by
  refine va_MetW (cc := cL_taken) (maxL := 5) (ret := some .int) (hh := [(0, 10, 13, 19), (0, 10, 17, 13)]) (by decide) rfl ?_
  intro p e s m args below meth c s₁ B hml hv
  obtain ⟨rfl, ⟨hK, hP, hD, hZ⟩, hsx⟩ := hv
  have S : Cx p m c meth cL_taken 5 s _ RL (some .int) := ⟨⟨B.exec, B.bytes, hml, findClass_of_methodNamed B.named, fun w hw => atoms_spec (ws := wsW_ yL_taken cL_taken 5 (some .int) [(0, 10, 13, 19), (0, 10, 17, 13)]) B.pre w (List.mem_cons_of_mem _ hw)⟩, B.returns, B.notSynchronized⟩
  have T : Hx l c Z s [(0, 10, 13, 19), (0, 10, 17, 13)] := ⟨hl0, vx_table (x := yL_taken) B (atoms_spec (ws := wsW_ yL_taken cL_taken 5 (some .int) [(0, 10, 13, 19), (0, 10, 17, 13)]) B.pre _ List.mem_cons_self), hsx⟩
  have hl := lv_entry ([.ref a0, .int v1, .int v2, .ref a3]) (n := 5) (Nat.le_of_ble_eq_true rfl)
  rw [lg_entry_eq]
  generalize (lg_sl ([.ref a0, .int v1, .int v2, .ref a3]) ++ List.replicate (5 - (lg_sl ([.ref a0, .int v1, .int v2, .ref a3])).length) Slot.unset).toArray = ls at hl ⊢
  exact (wB_L_taken_0 S T M a0 v1 v2 a3 h) s.heap [] ls ⟨hK, hP, hD, va_S.rf, hZ⟩ hl
set_option maxRecDepth 100000 in
set_option maxHeartbeats 4000000 in
theorem wB_L_cutsAround_0 (S : Cx p m c meth cL_cutsAround 6 s args RL (some .int)) (T : Hx l c Z s [(0, 12, 15, 19), (0, 12, 19, 13)]) {Q : Int32 → MM → Prop}   (M : MM) (a0 : Nat) (v1 : Int32) (v2 : Int32) (v3 : Int32) (a4 : Nat) (h : B_L_cutsAround_0 Z Q  M a0 v1 v2 v3 a4) : WG p l e rm_L_cutsAround s m args below meth c 0 0 (MQh below E Z args s Q 2 12) E Z M 0 6 [(0, .ref a0), (1, .int v1), (2, .int v2), (3, .int v3), (4, .ref a4)] [] := by
  intro H locs ls hw hl
  have hx := S.1.1
  have hb := S.1.2.1
  have hown := S.1.2.2.2.1
  have hts := S.1.2.2.2.2
  refine lv_aload hx hb dL_cutsAround_0 (lv_at hl 4 rfl) ?_
  refine lv_iconst (v := 0) hx hb dL_cutsAround_2 (by decide) ?_
  refine lv_aload_n hx hb dL_cutsAround_3 rfl (lv_at hl 0 rfl) ?_
  refine lv_iload_n hx hb dL_cutsAround_4 rfl (lv_at hl 1 rfl) ?_
  refine lv_iload_n hx hb dL_cutsAround_5 rfl (lv_at hl 2 rfl) ?_
  refine lv_iload_n hx hb dL_cutsAround_6 rfl (lv_at hl 3 rfl) ?_
  obtain ⟨k_0, h⟩ := h
  refine ch_i (As := [.int v1, .int v2, .int v3]) (rest := [.int 0, .ref a4]) S T.2.2 hw (k_X5_cutsAround l T.1 E Z M a0 v1 v2 v3 _ _ h) wv_L_54 yc_X5_cutsAround ⟨rfl, rfl⟩ ⟨Nat.le_of_ble_eq_true rfl, Nat.le_of_ble_eq_true rfl⟩ rfl hl.1 (Nat.le_of_ble_eq_true rfl) (ci := 5) (q := (RX5, TX5, 9)) rfl rfl (by rw [k_0]; decide) (cell_5 k_0) ⟨Nat.le_of_ble_eq_true rfl, Nat.le_of_ble_eq_true rfl⟩ dL_cutsAround_7 (fun E1 ce q9 M7 H locs h hw hce hcv hcl => ?_) (fun r7 M7 H locs h hw => ?_)
  · rcases h with ⟨rfl, h⟩ | ⟨rfl, h⟩
    · refine vx_catch hown [] ⟨0, 12, 15, 19⟩ [⟨0, 12, 19, 13⟩] (by rw [T.2.1]; rfl) (fun z hz => nomatch hz) rfl (by decide) (hts _ wk_L_19) (va_Nw.use rfl (T.2.2.1.2.1 _ (by decide))) hce hcv hcl ?_
      refine lv_astore (lv' := [(5, .ref q9), (0, .ref a0), (1, .int v1), (2, .int v2), (3, .int v3), (4, .ref a4)]) hx hb dL_cutsAround_15 hl (by decide) rfl (fun ls hl => ?_)
      refine lv_iconst (v := 1) hx hb dL_cutsAround_17 (by decide) ?_
      exact we_i S hw h dL_cutsAround_18
    · refine vx_catch hown [⟨0, 12, 15, 19⟩] ⟨0, 12, 19, 13⟩ [] (by rw [T.2.1]; rfl) (fun z hz => by simp only [List.mem_cons, List.not_mem_nil, or_false] at hz; rcases hz with rfl; exact Or.inr ⟨by decide, "java/lang/IndexOutOfBoundsException", hts _ wk_L_19, T.2.2.1.2.2 _ (by decide) _ (by decide) (by decide)⟩) rfl (by decide) (hts _ wk_L_13) (va_Nw.use rfl (T.2.2.1.2.1 _ (by decide))) hce hcv hcl ?_
      refine lv_astore (lv' := [(5, .ref q9), (0, .ref a0), (1, .int v1), (2, .int v2), (3, .int v3), (4, .ref a4)]) hx hb dL_cutsAround_19 hl (by decide) rfl (fun ls hl => ?_)
      refine lv_iconst (v := 2) hx hb dL_cutsAround_21 (by decide) ?_
      exact we_i S hw h dL_cutsAround_22
  · refine lv_i2l (v := r7.toInt64) hx hb dL_cutsAround_10 rfl ?_
    obtain ⟨k_1, h⟩ := h
    obtain ⟨i_11, h⟩ := h
    refine wo_last S.1 hw k_1 i_11 dL_cutsAround_11 (fun H locs hw => ?_)
    refine lv_goto (tgt := 23) hx hb dL_cutsAround_12 (by decide) ?_
    refine lv_iconst (v := 0) hx hb dL_cutsAround_23 (by decide) ?_
    exact we_i S hw h dL_cutsAround_24
set_option maxRecDepth 100000 in
set_option maxHeartbeats 4000000 in
theorem k_L_cutsAround (l : Launch) (hl0 : l.stackTraces = false) (E : EE) (Z : ZZ) (M : MM) (a0 : Nat) (v1 : Int32) (v2 : Int32) (v3 : Int32) (a4 : Nat) (Q : Int32 → MM → Prop) (h : P_L_cutsAround Z M a0 v1 v2 v3 a4 Q) : Ch_i l yL_cutsAround cL_cutsAround 6 (some .int) [(0, 12, 15, 19), (0, 12, 19, 13)] rm_L_cutsAround E Z M [.ref a0, .int v1, .int v2, .int v3, .ref a4] Q 2 12 := by
  refine va_MetW (cc := cL_cutsAround) (maxL := 6) (ret := some .int) (hh := [(0, 12, 15, 19), (0, 12, 19, 13)]) (by decide) rfl ?_
  intro p e s m args below meth c s₁ B hml hv
  obtain ⟨rfl, ⟨hK, hP, hD, hZ⟩, hsx⟩ := hv
  have S : Cx p m c meth cL_cutsAround 6 s _ RL (some .int) := ⟨⟨B.exec, B.bytes, hml, findClass_of_methodNamed B.named, fun w hw => atoms_spec (ws := wsW_ yL_cutsAround cL_cutsAround 6 (some .int) [(0, 12, 15, 19), (0, 12, 19, 13)]) B.pre w (List.mem_cons_of_mem _ hw)⟩, B.returns, B.notSynchronized⟩
  have T : Hx l c Z s [(0, 12, 15, 19), (0, 12, 19, 13)] := ⟨hl0, vx_table (x := yL_cutsAround) B (atoms_spec (ws := wsW_ yL_cutsAround cL_cutsAround 6 (some .int) [(0, 12, 15, 19), (0, 12, 19, 13)]) B.pre _ List.mem_cons_self), hsx⟩
  have hl := lv_entry ([.ref a0, .int v1, .int v2, .int v3, .ref a4]) (n := 6) (Nat.le_of_ble_eq_true rfl)
  rw [lg_entry_eq]
  generalize (lg_sl ([.ref a0, .int v1, .int v2, .int v3, .ref a4]) ++ List.replicate (6 - (lg_sl ([.ref a0, .int v1, .int v2, .int v3, .ref a4])).length) Slot.unset).toArray = ls at hl ⊢
  exact (wB_L_cutsAround_0 S T M a0 v1 v2 v3 a4 h) s.heap [] ls ⟨hK, hP, hD, va_S.rf, hZ⟩ hl
set_option maxRecDepth 100000 in
set_option maxHeartbeats 4000000 in
theorem wB_L_daysWhole_0 (S : Cx p m c meth cL_daysWhole 4 s args RL (some .int)) (T : Hx l c Z s [(0, 9, 12, 19)]) {Q : Int32 → MM → Prop}   (M : MM) (a0 : Nat) (v1 : Int32) (a2 : Nat) (h : B_L_daysWhole_0 Z Q  M a0 v1 a2) : WG p l e rm_L_daysWhole s m args below meth c 0 0 (MQh below E Z args s Q 1 6) E Z M 0 4 [(0, .ref a0), (1, .int v1), (2, .ref a2)] [] := by
  intro H locs ls hw hl
  have hx := S.1.1
  have hb := S.1.2.1
  have hown := S.1.2.2.2.1
  have hts := S.1.2.2.2.2
  refine lv_aload_n hx hb dL_daysWhole_0 rfl (lv_at hl 2 rfl) ?_
  refine lv_iconst (v := 0) hx hb dL_daysWhole_1 (by decide) ?_
  refine lv_aload_n hx hb dL_daysWhole_2 rfl (lv_at hl 0 rfl) ?_
  refine lv_iload_n hx hb dL_daysWhole_3 rfl (lv_at hl 1 rfl) ?_
  obtain ⟨k_0, h⟩ := h
  refine ch_i (As := [.int v1]) (rest := [.int 0, .ref a2]) S T.2.2 hw (k_X5_daysWhole l T.1 E Z M a0 v1 _ _ h) wv_L_57 yc_X5_daysWhole ⟨rfl, rfl⟩ ⟨Nat.le_of_ble_eq_true rfl, Nat.le_of_ble_eq_true rfl⟩ rfl hl.1 (Nat.le_of_ble_eq_true rfl) (ci := 5) (q := (RX5, TX5, 9)) rfl rfl (by rw [k_0]; decide) (cell_5 k_0) ⟨Nat.le_of_ble_eq_true rfl, Nat.le_of_ble_eq_true rfl⟩ dL_daysWhole_4 (fun E1 ce q9 M4 H locs h hw hce hcv hcl => ?_) (fun r4 M4 H locs h hw => ?_)
  · rcases h with ⟨rfl, h⟩
    refine vx_catch hown [] ⟨0, 9, 12, 19⟩ [] (by rw [T.2.1]; rfl) (fun z hz => nomatch hz) rfl (by decide) (hts _ wk_L_19) (va_Nw.use rfl (T.2.2.1.2.1 _ (by decide))) hce hcv hcl ?_
    refine lv_astore_n (lv' := [(3, .ref q9), (0, .ref a0), (1, .int v1), (2, .ref a2)]) hx hb dL_daysWhole_12 rfl hl (by decide) rfl (fun ls hl => ?_)
    refine lv_iconst (v := 1) hx hb dL_daysWhole_13 (by decide) ?_
    exact we_i S hw h dL_daysWhole_14
  · refine lv_i2l (v := r4.toInt64) hx hb dL_daysWhole_7 rfl ?_
    obtain ⟨k_1, h⟩ := h
    obtain ⟨i_8, h⟩ := h
    refine wo_last S.1 hw k_1 i_8 dL_daysWhole_8 (fun H locs hw => ?_)
    refine lv_goto (tgt := 15) hx hb dL_daysWhole_9 (by decide) ?_
    refine lv_iconst (v := 0) hx hb dL_daysWhole_15 (by decide) ?_
    exact we_i S hw h dL_daysWhole_16
set_option maxRecDepth 100000 in
set_option maxHeartbeats 4000000 in
theorem k_L_daysWhole (l : Launch) (hl0 : l.stackTraces = false) (E : EE) (Z : ZZ) (M : MM) (a0 : Nat) (v1 : Int32) (a2 : Nat) (Q : Int32 → MM → Prop) (h : P_L_daysWhole Z M a0 v1 a2 Q) : Ch_i l yL_daysWhole cL_daysWhole 4 (some .int) [(0, 9, 12, 19)] rm_L_daysWhole E Z M [.ref a0, .int v1, .ref a2] Q 1 6 := by
  refine va_MetW (cc := cL_daysWhole) (maxL := 4) (ret := some .int) (hh := [(0, 9, 12, 19)]) (by decide) rfl ?_
  intro p e s m args below meth c s₁ B hml hv
  obtain ⟨rfl, ⟨hK, hP, hD, hZ⟩, hsx⟩ := hv
  have S : Cx p m c meth cL_daysWhole 4 s _ RL (some .int) := ⟨⟨B.exec, B.bytes, hml, findClass_of_methodNamed B.named, fun w hw => atoms_spec (ws := wsW_ yL_daysWhole cL_daysWhole 4 (some .int) [(0, 9, 12, 19)]) B.pre w (List.mem_cons_of_mem _ hw)⟩, B.returns, B.notSynchronized⟩
  have T : Hx l c Z s [(0, 9, 12, 19)] := ⟨hl0, vx_table (x := yL_daysWhole) B (atoms_spec (ws := wsW_ yL_daysWhole cL_daysWhole 4 (some .int) [(0, 9, 12, 19)]) B.pre _ List.mem_cons_self), hsx⟩
  have hl := lv_entry ([.ref a0, .int v1, .ref a2]) (n := 4) (Nat.le_of_ble_eq_true rfl)
  rw [lg_entry_eq]
  generalize (lg_sl ([.ref a0, .int v1, .ref a2]) ++ List.replicate (4 - (lg_sl ([.ref a0, .int v1, .ref a2])).length) Slot.unset).toArray = ls at hl ⊢
  exact (wB_L_daysWhole_0 S T M a0 v1 a2 h) s.heap [] ls ⟨hK, hP, hD, va_S.rf, hZ⟩ hl
set_option maxRecDepth 100000 in
set_option maxHeartbeats 4000000 in
theorem wB_L_append_0 (S : Cx p m c meth cL_append 4 s args RL (some .int)) (T : Hx l c Z s [(0, 9, 12, 13), (0, 9, 15, 21)]) {Q : Int32 → MM → Prop}   (M : MM) (a0 : Nat) (v1 : Int32) (a2 : Nat) (h : B_L_append_0 Z Q  M a0 v1 a2) : WG p l e rm_L_append s m args below meth c 0 0 (MQh below E Z args s Q 1 6) E Z M 0 4 [(0, .ref a0), (1, .int v1), (2, .ref a2)] [] := by
  intro H locs ls hw hl
  have hx := S.1.1
  have hb := S.1.2.1
  have hown := S.1.2.2.2.1
  have hts := S.1.2.2.2.2
  refine lv_aload_n hx hb dL_append_0 rfl (lv_at hl 2 rfl) ?_
  refine lv_iconst (v := 0) hx hb dL_append_1 (by decide) ?_
  refine lv_aload_n hx hb dL_append_2 rfl (lv_at hl 0 rfl) ?_
  refine lv_iload_n hx hb dL_append_3 rfl (lv_at hl 1 rfl) ?_
  obtain ⟨k_0, h⟩ := h
  refine ch_i (As := [.int v1]) (rest := [.int 0, .ref a2]) S T.2.2 hw (k_X5_append l T.1 E Z M a0 v1 _ _ h) wv_L_60 yc_X5_append ⟨rfl, rfl⟩ ⟨Nat.le_of_ble_eq_true rfl, Nat.le_of_ble_eq_true rfl⟩ rfl hl.1 (Nat.le_of_ble_eq_true rfl) (ci := 5) (q := (RX5, TX5, 9)) rfl rfl (by rw [k_0]; decide) (cell_5 k_0) ⟨Nat.le_of_ble_eq_true rfl, Nat.le_of_ble_eq_true rfl⟩ dL_append_4 (fun E1 ce q9 M4 H locs h hw hce hcv hcl => ?_) (fun r4 M4 H locs h hw => ?_)
  · rcases h with ⟨rfl, h⟩ | ⟨rfl, h⟩
    · refine vx_catch hown [] ⟨0, 9, 12, 13⟩ [⟨0, 9, 15, 21⟩] (by rw [T.2.1]; rfl) (fun z hz => nomatch hz) rfl (by decide) (hts _ wk_L_13) (va_Nw.use rfl (T.2.2.1.2.1 _ (by decide))) hce hcv hcl ?_
      refine lv_astore_n (lv' := [(3, .ref q9), (0, .ref a0), (1, .int v1), (2, .ref a2)]) hx hb dL_append_12 rfl hl (by decide) rfl (fun ls hl => ?_)
      refine lv_iconst (v := 1) hx hb dL_append_13 (by decide) ?_
      exact we_i S hw h dL_append_14
    · refine vx_catch hown [⟨0, 9, 12, 13⟩] ⟨0, 9, 15, 21⟩ [] (by rw [T.2.1]; rfl) (fun z hz => by simp only [List.mem_cons, List.not_mem_nil, or_false] at hz; rcases hz with rfl; exact Or.inr ⟨by decide, "java/lang/IllegalArgumentException", hts _ wk_L_13, T.2.2.1.2.2 _ (by decide) _ (by decide) (by decide)⟩) rfl (by decide) (hts _ wk_L_21) (va_Nw.use rfl (T.2.2.1.2.1 _ (by decide))) hce hcv hcl ?_
      refine lv_astore_n (lv' := [(3, .ref q9), (0, .ref a0), (1, .int v1), (2, .ref a2)]) hx hb dL_append_15 rfl hl (by decide) rfl (fun ls hl => ?_)
      refine lv_iconst (v := 2) hx hb dL_append_16 (by decide) ?_
      exact we_i S hw h dL_append_17
  · refine lv_i2l (v := r4.toInt64) hx hb dL_append_7 rfl ?_
    obtain ⟨k_1, h⟩ := h
    obtain ⟨i_8, h⟩ := h
    refine wo_last S.1 hw k_1 i_8 dL_append_8 (fun H locs hw => ?_)
    refine lv_goto (tgt := 18) hx hb dL_append_9 (by decide) ?_
    refine lv_iconst (v := 0) hx hb dL_append_18 (by decide) ?_
    exact we_i S hw h dL_append_19
set_option maxRecDepth 100000 in
set_option maxHeartbeats 4000000 in
theorem k_L_append (l : Launch) (hl0 : l.stackTraces = false) (E : EE) (Z : ZZ) (M : MM) (a0 : Nat) (v1 : Int32) (a2 : Nat) (Q : Int32 → MM → Prop) (h : P_L_append Z M a0 v1 a2 Q) : Ch_i l yL_append cL_append 4 (some .int) [(0, 9, 12, 13), (0, 9, 15, 21)] rm_L_append E Z M [.ref a0, .int v1, .ref a2] Q 1 6 := by
  refine va_MetW (cc := cL_append) (maxL := 4) (ret := some .int) (hh := [(0, 9, 12, 13), (0, 9, 15, 21)]) (by decide) rfl ?_
  intro p e s m args below meth c s₁ B hml hv
  obtain ⟨rfl, ⟨hK, hP, hD, hZ⟩, hsx⟩ := hv
  have S : Cx p m c meth cL_append 4 s _ RL (some .int) := ⟨⟨B.exec, B.bytes, hml, findClass_of_methodNamed B.named, fun w hw => atoms_spec (ws := wsW_ yL_append cL_append 4 (some .int) [(0, 9, 12, 13), (0, 9, 15, 21)]) B.pre w (List.mem_cons_of_mem _ hw)⟩, B.returns, B.notSynchronized⟩
  have T : Hx l c Z s [(0, 9, 12, 13), (0, 9, 15, 21)] := ⟨hl0, vx_table (x := yL_append) B (atoms_spec (ws := wsW_ yL_append cL_append 4 (some .int) [(0, 9, 12, 13), (0, 9, 15, 21)]) B.pre _ List.mem_cons_self), hsx⟩
  have hl := lv_entry ([.ref a0, .int v1, .ref a2]) (n := 4) (Nat.le_of_ble_eq_true rfl)
  rw [lg_entry_eq]
  generalize (lg_sl ([.ref a0, .int v1, .ref a2]) ++ List.replicate (4 - (lg_sl ([.ref a0, .int v1, .ref a2])).length) Slot.unset).toArray = ls at hl ⊢
  exact (wB_L_append_0 S T M a0 v1 a2 h) s.heap [] ls ⟨hK, hP, hD, va_S.rf, hZ⟩ hl
set_option maxRecDepth 100000 in
set_option maxHeartbeats 4000000 in
theorem wB_L_undo_0 (S : Cx p m c meth cL_undo 3 s args RL (some .int)) (T : Hx l c Z s [(0, 8, 11, 21)]) {Q : Int32 → MM → Prop}   (M : MM) (a0 : Nat) (a1 : Nat) (h : B_L_undo_0 Z Q  M a0 a1) : WG p l e rm_L_undo s m args below meth c 0 0 (MQh below E Z args s Q 1 6) E Z M 0 3 [(0, .ref a0), (1, .ref a1)] [] := by
  intro H locs ls hw hl
  have hx := S.1.1
  have hb := S.1.2.1
  have hown := S.1.2.2.2.1
  have hts := S.1.2.2.2.2
  refine lv_aload_n hx hb dL_undo_0 rfl (lv_at hl 1 rfl) ?_
  refine lv_iconst (v := 0) hx hb dL_undo_1 (by decide) ?_
  refine lv_aload_n hx hb dL_undo_2 rfl (lv_at hl 0 rfl) ?_
  obtain ⟨k_0, h⟩ := h
  refine ch_i (As := []) (rest := [.int 0, .ref a1]) S T.2.2 hw (k_X5_undo l T.1 E Z M a0  _ _ h) wv_L_63 yc_X5_undo ⟨rfl, rfl⟩ ⟨Nat.le_of_ble_eq_true rfl, Nat.le_of_ble_eq_true rfl⟩ rfl hl.1 (Nat.le_of_ble_eq_true rfl) (ci := 5) (q := (RX5, TX5, 9)) rfl rfl (by rw [k_0]; decide) (cell_5 k_0) ⟨Nat.le_of_ble_eq_true rfl, Nat.le_of_ble_eq_true rfl⟩ dL_undo_3 (fun E1 ce q9 M3 H locs h hw hce hcv hcl => ?_) (fun r3 M3 H locs h hw => ?_)
  · rcases h with ⟨rfl, h⟩
    refine vx_catch hown [] ⟨0, 8, 11, 21⟩ [] (by rw [T.2.1]; rfl) (fun z hz => nomatch hz) rfl (by decide) (hts _ wk_L_21) (va_Nw.use rfl (T.2.2.1.2.1 _ (by decide))) hce hcv hcl ?_
    refine lv_astore_n (lv' := [(2, .ref q9), (0, .ref a0), (1, .ref a1)]) hx hb dL_undo_11 rfl hl (by decide) rfl (fun ls hl => ?_)
    refine lv_iconst (v := 1) hx hb dL_undo_12 (by decide) ?_
    exact we_i S hw h dL_undo_13
  · refine lv_i2l (v := r3.toInt64) hx hb dL_undo_6 rfl ?_
    obtain ⟨k_1, h⟩ := h
    obtain ⟨i_7, h⟩ := h
    refine wo_last S.1 hw k_1 i_7 dL_undo_7 (fun H locs hw => ?_)
    refine lv_goto (tgt := 14) hx hb dL_undo_8 (by decide) ?_
    refine lv_iconst (v := 0) hx hb dL_undo_14 (by decide) ?_
    exact we_i S hw h dL_undo_15
set_option maxRecDepth 100000 in
set_option maxHeartbeats 4000000 in
theorem k_L_undo (l : Launch) (hl0 : l.stackTraces = false) (E : EE) (Z : ZZ) (M : MM) (a0 : Nat) (a1 : Nat) (Q : Int32 → MM → Prop) (h : P_L_undo Z M a0 a1 Q) : Ch_i l yL_undo cL_undo 3 (some .int) [(0, 8, 11, 21)] rm_L_undo E Z M [.ref a0, .ref a1] Q 1 6 := by
  refine va_MetW (cc := cL_undo) (maxL := 3) (ret := some .int) (hh := [(0, 8, 11, 21)]) (by decide) rfl ?_
  intro p e s m args below meth c s₁ B hml hv
  obtain ⟨rfl, ⟨hK, hP, hD, hZ⟩, hsx⟩ := hv
  have S : Cx p m c meth cL_undo 3 s _ RL (some .int) := ⟨⟨B.exec, B.bytes, hml, findClass_of_methodNamed B.named, fun w hw => atoms_spec (ws := wsW_ yL_undo cL_undo 3 (some .int) [(0, 8, 11, 21)]) B.pre w (List.mem_cons_of_mem _ hw)⟩, B.returns, B.notSynchronized⟩
  have T : Hx l c Z s [(0, 8, 11, 21)] := ⟨hl0, vx_table (x := yL_undo) B (atoms_spec (ws := wsW_ yL_undo cL_undo 3 (some .int) [(0, 8, 11, 21)]) B.pre _ List.mem_cons_self), hsx⟩
  have hl := lv_entry ([.ref a0, .ref a1]) (n := 3) (Nat.le_of_ble_eq_true rfl)
  rw [lg_entry_eq]
  generalize (lg_sl ([.ref a0, .ref a1]) ++ List.replicate (3 - (lg_sl ([.ref a0, .ref a1])).length) Slot.unset).toArray = ls at hl ⊢
  exact (wB_L_undo_0 S T M a0 a1 h) s.heap [] ls ⟨hK, hP, hD, va_S.rf, hZ⟩ hl
