variable {p : Program} {l : Launch} {e : Env} {s : State} {m : MethodId} {args : Array Value} {below : List Frame} {meth : Method} {c : Code} {E : EE} {Z : ZZ}
set_option maxRecDepth 100000 in
set_option maxHeartbeats 4000000 in
theorem wB_X5_isOutside_0 (S : Cx p m c meth cX5_isOutside 3 s args RX5 (some .boolean)) {Q : Int32 → MM → Prop}   (M : MM) (v0 : Int32) (v1 : Int32) (v2 : Int32) (h : B_X5_isOutside_0 Z Q  M v0 v1 v2) : WG p l e rm_X5_isOutside s m args below meth c 0 0 (MQi below E Z args s Q) E Z M 0 3 [(0, .int v0), (1, .int v1), (2, .int v2)] [] := by
  intro H locs ls hw hl
  have hx := S.1.1
  have hb := S.1.2.1
  refine lv_iload_n hx hb dX5_isOutside_0 rfl (lv_at hl 0 rfl) ?_
  refine lv_iload_n hx hb dX5_isOutside_1 rfl (lv_at hl 1 rfl) ?_
  refine lv_icmp_lt (tgt := 10) hx hb dX5_isOutside_2 (by decide) (fun q_2 => ?_) (fun q_2 => ?_)
  · have h := h.1 q_2
    refine lv_iconst (v := 1) hx hb dX5_isOutside_10 (by decide) ?_
    refine lv_goto (tgt := 15) hx hb dX5_isOutside_11 (by decide) ?_
    exact we_z S hw rfl (by rfl) h dX5_isOutside_15
  · have h := h.2 q_2
    refine lv_iload_n hx hb dX5_isOutside_5 rfl (lv_at hl 0 rfl) ?_
    refine lv_iload_n hx hb dX5_isOutside_6 rfl (lv_at hl 2 rfl) ?_
    refine lv_icmp_le (tgt := 14) hx hb dX5_isOutside_7 (by decide) (fun q_7 => ?_) (fun q_7 => ?_)
    · have h := h.1 q_7
      refine lv_iconst (v := 0) hx hb dX5_isOutside_14 (by decide) ?_
      exact we_z S hw rfl (by rfl) h dX5_isOutside_15
    · have h := h.2 q_7
      refine lv_iconst (v := 1) hx hb dX5_isOutside_10 (by decide) ?_
      refine lv_goto (tgt := 15) hx hb dX5_isOutside_11 (by decide) ?_
      exact we_z S hw rfl (by rfl) h dX5_isOutside_15
set_option maxRecDepth 100000 in
set_option maxHeartbeats 4000000 in
theorem k_X5_isOutside (l : Launch) (E : EE) (Z : ZZ) (M : MM) (v0 : Int32) (v1 : Int32) (v2 : Int32) (Q : Int32 → MM → Prop) (h : P_X5_isOutside Z M v0 v1 v2 Q) : Ct_i l yX5_isOutside cX5_isOutside 3 (some .boolean) rm_X5_isOutside E Z M [.int v0, .int v1, .int v2] Q := by
  refine Met.ofW (cc := cX5_isOutside) (maxL := 3) (ret := some .boolean) (by decide) rfl ?_
  intro p e s m args below meth c s₁ B hml hv
  obtain ⟨rfl, hK, hP, hD, hZ⟩ := hv
  have S : Cx p m c meth cX5_isOutside 3 s _ RX5 (some .boolean) := ⟨⟨B.exec, B.bytes, hml, findClass_of_methodNamed B.named, fun w hw => atoms_spec (ws := ws_ yX5_isOutside cX5_isOutside 3 (some .boolean)) B.pre w (List.mem_cons_of_mem _ hw)⟩, B.returns, B.notSynchronized⟩
  have hl := lv_entry ([.int v0, .int v1, .int v2]) (n := 3) (Nat.le_of_ble_eq_true rfl)
  rw [lg_entry_eq]
  generalize (lg_sl ([.int v0, .int v1, .int v2]) ++ List.replicate (3 - (lg_sl ([.int v0, .int v1, .int v2])).length) Slot.unset).toArray = ls at hl ⊢
  exact (wB_X5_isOutside_0 S  M v0 v1 v2 h) s.heap [] ls ⟨hK, hP, hD, va_S.rf, hZ⟩ hl
set_option maxRecDepth 100000 in
set_option maxHeartbeats 4000000 in
theorem wB_X5_savedAt_0 (S : Cx p m c meth cX5_savedAt 2 s args RX5 (some (.object "IceField$Ice"))) {Q : Option Nat → MM → Prop}   (M : MM) (a0 : Nat) (v1 : Int32) (h : B_X5_savedAt_0 Z Q  M a0 v1) : WG p l e rm_X5_savedAt s m args below meth c 0 0 (MQq below E Z args s Q) E Z M 0 2 [(0, .ref a0), (1, .int v1)] [] := by
  intro H locs ls hw hl
  have hx := S.1.1
  have hb := S.1.2.1
  refine lv_iload_n hx hb dX5_savedAt_0 rfl (lv_at hl 1 rfl) ?_
  refine lv_if_lt (tgt := 22) hx hb dX5_savedAt_1 (by decide) (fun q_1 => ?_) (fun q_1 => ?_)
  · have h := h.1 q_1
    refine lv_null hx hb dX5_savedAt_22 ?_
    exact we_q (r := none) S hw h dX5_savedAt_23
  · have h := h.2 q_1
    refine lv_iload_n hx hb dX5_savedAt_4 rfl (lv_at hl 1 rfl) ?_
    refine lv_aload_n hx hb dX5_savedAt_5 rfl (lv_at hl 0 rfl) ?_
    obtain ⟨k_0, h⟩ := h
    obtain ⟨y6_1, hy_1, h⟩ := h
    refine gf_X5_19 S.1 hw k_0 hy_1 dX5_savedAt_6 ?_
    obtain ⟨k_2, h⟩ := h
    refine wo_alen8 S.1 hw k_2 dX5_savedAt_9 ?_
    refine lv_icmp_ge (tgt := 22) hx hb dX5_savedAt_10 (by decide) (fun q_10 => ?_) (fun q_10 => ?_)
    · have h := h.1 q_10
      refine lv_null hx hb dX5_savedAt_22 ?_
      exact we_q (r := none) S hw h dX5_savedAt_23
    · have h := h.2 q_10
      refine lv_aload_n hx hb dX5_savedAt_13 rfl (lv_at hl 0 rfl) ?_
      refine gf_X5_19 S.1 hw k_0 hy_1 dX5_savedAt_14 ?_
      refine lv_iload_n hx hb dX5_savedAt_17 rfl (lv_at hl 1 rfl) ?_
      obtain ⟨i_18, y18_3, hy_3, h⟩ := h
      refine wo_aldq S.1 hw k_2 i_18 hy_3 dX5_savedAt_18 ?_
      refine lv_goto (tgt := 23) hx hb dX5_savedAt_19 (by decide) ?_
      exact we_q (r := (some y18_3)) S hw h dX5_savedAt_23
set_option maxRecDepth 100000 in
set_option maxHeartbeats 4000000 in
theorem k_X5_savedAt (l : Launch) (E : EE) (Z : ZZ) (M : MM) (a0 : Nat) (v1 : Int32) (Q : Option Nat → MM → Prop) (h : P_X5_savedAt Z M a0 v1 Q) : Ct_q l yX5_savedAt cX5_savedAt 2 (some (.object "IceField$Ice")) rm_X5_savedAt E Z M [.ref a0, .int v1] Q := by
  refine Met.ofW (cc := cX5_savedAt) (maxL := 2) (ret := some (.object "IceField$Ice")) (by decide) rfl ?_
  intro p e s m args below meth c s₁ B hml hv
  obtain ⟨rfl, hK, hP, hD, hZ⟩ := hv
  have S : Cx p m c meth cX5_savedAt 2 s _ RX5 (some (.object "IceField$Ice")) := ⟨⟨B.exec, B.bytes, hml, findClass_of_methodNamed B.named, fun w hw => atoms_spec (ws := ws_ yX5_savedAt cX5_savedAt 2 (some (.object "IceField$Ice"))) B.pre w (List.mem_cons_of_mem _ hw)⟩, B.returns, B.notSynchronized⟩
  have hl := lv_entry ([.ref a0, .int v1]) (n := 2) (Nat.le_of_ble_eq_true rfl)
  rw [lg_entry_eq]
  generalize (lg_sl ([.ref a0, .int v1]) ++ List.replicate (2 - (lg_sl ([.ref a0, .int v1])).length) Slot.unset).toArray = ls at hl ⊢
  exact (wB_X5_savedAt_0 S  M a0 v1 h) s.heap [] ls ⟨hK, hP, hD, va_S.rf, hZ⟩ hl
set_option maxRecDepth 100000 in
set_option maxHeartbeats 4000000 in
theorem wB_X5_saveState_21 (S : Cx p m c meth cX5_saveState 2 s args RX5 (none)) {Q : MM → Prop}   (M : MM) (a0 : Nat) (h : B_X5_saveState_21 Z Q  M a0) : WG p l e rm_X5_saveState s m args below meth c 0 0 (MQv below E Z args s Q) E Z M 21 2 [(0, .ref a0)] [] := by
  intro H locs ls hw hl
  have hx := S.1.1
  have hb := S.1.2.1
  refine lv_aload_n hx hb dX5_saveState_21 rfl (lv_at hl 0 rfl) ?_
  refine lv_aload_n hx hb dX5_saveState_22 rfl (lv_at hl 0 rfl) ?_
  obtain ⟨k_0, h⟩ := h
  refine gf_X5_23 S.1 hw k_0 dX5_saveState_23 ?_
  refine lv_iconst (v := 1) hx hb dX5_saveState_26 (by decide) ?_
  refine lv_iadd hx hb dX5_saveState_27 ?_
  refine lv_iconst (v := 4) hx hb dX5_saveState_28 (by decide) ?_
  refine lv_irem hx hb dX5_saveState_29 (by decide) ?_
  refine pf_X5_23 S.1 hw k_0 dX5_saveState_30 (fun H locs hw => ?_)
  refine lv_aload_n hx hb dX5_saveState_33 rfl (lv_at hl 0 rfl) ?_
  refine gf_X5_27 S.1 hw k_0 dX5_saveState_34 ?_
  refine lv_iconst (v := 4) hx hb dX5_saveState_37 (by decide) ?_
  refine lv_icmp_ge (tgt := 51) hx hb dX5_saveState_38 (by decide) (fun q_38 => ?_) (fun q_38 => ?_)
  · have h := h.1 q_38
    exact we_v S hw h dX5_saveState_51
  · have h := h.2 q_38
    refine lv_aload_n hx hb dX5_saveState_41 rfl (lv_at hl 0 rfl) ?_
    refine lv_dup hx hb dX5_saveState_42 rfl ?_
    refine gf_X5_27 S.1 hw k_0 dX5_saveState_43 ?_
    refine lv_iconst (v := 1) hx hb dX5_saveState_46 (by decide) ?_
    refine lv_iadd hx hb dX5_saveState_47 ?_
    refine pf_X5_27 S.1 hw k_0 dX5_saveState_48 (fun H locs hw => ?_)
    exact we_v S hw h dX5_saveState_51
set_option maxRecDepth 100000 in
set_option maxHeartbeats 4000000 in
theorem wB_X5_saveState_0 (S : Cx p m c meth cX5_saveState 2 s args RX5 (none)) {Q : MM → Prop}   (M : MM) (a0 : Nat) (h : B_X5_saveState_0 Z Q  M a0) : WG p l e rm_X5_saveState s m args below meth c 0 0 (MQv below E Z args s Q) E Z M 0 2 [(0, .ref a0)] [] := by
  intro H locs ls hw hl
  have hx := S.1.1
  have hb := S.1.2.1
  refine lv_aload_n hx hb dX5_saveState_0 rfl (lv_at hl 0 rfl) ?_
  refine lv_aload_n hx hb dX5_saveState_1 rfl (lv_at hl 0 rfl) ?_
  obtain ⟨k_0, h⟩ := h
  refine gf_X5_23 S.1 hw k_0 dX5_saveState_2 ?_
  refine cv_q (As := [.int (mI M 12 a0)]) (rest := []) S.1 hw (k_X5_savedAt l E Z M a0 (mI M 12 a0) _ h) wv_X5_253 yc_X5_savedAt ⟨rfl, rfl⟩ ⟨Nat.le_of_ble_eq_true rfl, Nat.le_of_ble_eq_true rfl⟩ rfl hl.1 (Nat.le_of_ble_eq_true rfl) (ci := 5) (q := (RX5, TX5, 9)) rfl rfl (by rw [k_0]; decide) (cell_5 k_0) ⟨Nat.le_of_ble_eq_true rfl, Nat.le_of_ble_eq_true rfl⟩ dX5_saveState_5 (fun r5 M5 H locs h hw => ?_)
  rcases r5 with _ | y5_1
  · have h := h.1 rfl
    refine lv_astore_nN (lv' := [(1, .null), (0, .ref a0)]) hx hb dX5_saveState_8 rfl hl (by decide) rfl (fun ls hl => ?_)
    refine lv_aload_nN hx hb dX5_saveState_9 rfl (lv_at hl 0 rfl) ?_
    refine lv_ifnullN (tgt := 21) hx hb dX5_saveState_10 (by decide) ?_
    exact ((wB_X5_saveState_21 S   _ _ h)) H locs ls hw (lv_sub hl [1] rfl)
  · have h := h.2 y5_1 rfl
    refine lv_astore_n (lv' := [(1, .ref y5_1), (0, .ref a0)]) hx hb dX5_saveState_8 rfl hl (by decide) rfl (fun ls hl => ?_)
    refine lv_aload_n hx hb dX5_saveState_9 rfl (lv_at hl 0 rfl) ?_
    refine lv_ifnull hx hb dX5_saveState_10 ?_
    refine lv_aload_n hx hb dX5_saveState_13 rfl (lv_at hl 0 rfl) ?_
    refine lv_aload_n hx hb dX5_saveState_14 rfl (lv_at hl 1 rfl) ?_
    obtain ⟨y15_2, hy_2, h⟩ := h
    refine gf_X5_10 S.1 hw k_0 hy_2 dX5_saveState_15 ?_
    obtain ⟨k_3, h⟩ := h
    refine cv_v (As := [.ref y15_2]) (rest := []) S.1 hw (k_X1_copyFrom l E Z M5 y5_1 y15_2 _ h) wv_X5_196 yc_X1_copyFrom ⟨rfl, rfl⟩ ⟨Nat.le_of_ble_eq_true rfl, Nat.le_of_ble_eq_true rfl⟩ rfl hl.1 (Nat.le_of_ble_eq_true rfl) (ci := 1) (q := (RX1, TX1, 12)) rfl rfl (by rw [k_3]; decide) (cell_1 k_3) ⟨Nat.le_of_ble_eq_true rfl, Nat.le_of_ble_eq_true rfl⟩ dX5_saveState_18 (fun M18 H locs h hw => ?_)
    exact ((wB_X5_saveState_21 S   _ _ h)) H locs ls hw (lv_sub hl [1] rfl)
set_option maxRecDepth 100000 in
set_option maxHeartbeats 4000000 in
theorem k_X5_saveState (l : Launch) (E : EE) (Z : ZZ) (M : MM) (a0 : Nat) (Q : MM → Prop) (h : P_X5_saveState Z M a0 Q) : Ct_v l yX5_saveState cX5_saveState 2 (none) rm_X5_saveState E Z M [.ref a0] Q := by
  refine Met.ofW (cc := cX5_saveState) (maxL := 2) (ret := none) (by decide) rfl ?_
  intro p e s m args below meth c s₁ B hml hv
  obtain ⟨rfl, hK, hP, hD, hZ⟩ := hv
  have S : Cx p m c meth cX5_saveState 2 s _ RX5 (none) := ⟨⟨B.exec, B.bytes, hml, findClass_of_methodNamed B.named, fun w hw => atoms_spec (ws := ws_ yX5_saveState cX5_saveState 2 (none)) B.pre w (List.mem_cons_of_mem _ hw)⟩, B.returns, B.notSynchronized⟩
  have hl := lv_entry ([.ref a0]) (n := 2) (Nat.le_of_ble_eq_true rfl)
  rw [lg_entry_eq]
  generalize (lg_sl ([.ref a0]) ++ List.replicate (2 - (lg_sl ([.ref a0])).length) Slot.unset).toArray = ls at hl ⊢
  exact (wB_X5_saveState_0 S  M a0 h) s.heap [] ls ⟨hK, hP, hD, va_S.rf, hZ⟩ hl
set_option maxRecDepth 100000 in
set_option maxHeartbeats 4000000 in
theorem wB_X5_make_0 (S : Cx p m c meth cX5_make 4 s args RX5 (some .int)) {Q : Int32 → MM → Prop}   (M : MM) (a0 : Nat) (v1 : Int32) (v2 : Int32) (v3 : Int32) (h : B_X5_make_0 Z Q XF  M a0 v1 v2 v3) : WG p l e rm_X5_make s m args below meth c 0 0 (MQi below E Z args s Q) E Z M 0 4 [(0, .ref a0), (1, .int v1), (2, .int v2), (3, .int v3)] [] := by
  intro H locs ls hw hl
  have hx := S.1.1
  have hb := S.1.2.1
  refine lv_iload_n hx hb dX5_make_0 rfl (lv_at hl 1 rfl) ?_
  refine lv_iconst (v := 2) hx hb dX5_make_1 (by decide) ?_
  refine lv_bipush (v := 7) hx hb dX5_make_2 (by decide) ?_
  refine cs_i (As := [.int v1, .int 2, .int 7]) (rest := []) S.1 hw (k_X5_isOutside l E Z M v1 2 7 _ h) wv_X5_70 yc_X5_isOutside ⟨rfl, rfl⟩ ⟨Nat.le_of_ble_eq_true rfl, Nat.le_of_ble_eq_true rfl⟩ rfl hl.1 (Nat.le_of_ble_eq_true rfl) ⟨Nat.le_of_ble_eq_true rfl, Nat.le_of_ble_eq_true rfl⟩ dX5_make_4 (fun r4 M4 H locs h hw => ?_)
  refine lv_if_ne (tgt := 30) hx hb dX5_make_7 (by decide) (fun q_7 => ?_) (fun q_7 => ?_)
  · have h := h.1 q_7
    exact False.elim h
  · have h := h.2 q_7
    refine lv_iload_n hx hb dX5_make_10 rfl (lv_at hl 2 rfl) ?_
    refine lv_iconst (v := 2) hx hb dX5_make_11 (by decide) ?_
    refine lv_bipush (v := 7) hx hb dX5_make_12 (by decide) ?_
    refine cs_i (As := [.int v2, .int 2, .int 7]) (rest := []) S.1 hw (k_X5_isOutside l E Z M4 v2 2 7 _ h) wv_X5_70 yc_X5_isOutside ⟨rfl, rfl⟩ ⟨Nat.le_of_ble_eq_true rfl, Nat.le_of_ble_eq_true rfl⟩ rfl hl.1 (Nat.le_of_ble_eq_true rfl) ⟨Nat.le_of_ble_eq_true rfl, Nat.le_of_ble_eq_true rfl⟩ dX5_make_14 (fun r14 M14 H locs h hw => ?_)
    refine lv_if_ne (tgt := 30) hx hb dX5_make_17 (by decide) (fun q_17 => ?_) (fun q_17 => ?_)
    · have h := h.1 q_17
      exact False.elim h
    · have h := h.2 q_17
      refine lv_iload_n hx hb dX5_make_20 rfl (lv_at hl 3 rfl) ?_
      refine lv_iconst (v := 0) hx hb dX5_make_21 (by decide) ?_
      refine lv_bipush (v := 50) hx hb dX5_make_22 (by decide) ?_
      refine cs_i (As := [.int v3, .int 0, .int 50]) (rest := []) S.1 hw (k_X5_isOutside l E Z M14 v3 0 50 _ h) wv_X5_70 yc_X5_isOutside ⟨rfl, rfl⟩ ⟨Nat.le_of_ble_eq_true rfl, Nat.le_of_ble_eq_true rfl⟩ rfl hl.1 (Nat.le_of_ble_eq_true rfl) ⟨Nat.le_of_ble_eq_true rfl, Nat.le_of_ble_eq_true rfl⟩ dX5_make_24 (fun r24 M24 H locs h hw => ?_)
      refine lv_if_eq (tgt := 40) hx hb dX5_make_27 (by decide) (fun q_27 => ?_) (fun q_27 => ?_)
      · have h := h.1 q_27
        refine lv_aload_n hx hb dX5_make_40 rfl (lv_at hl 0 rfl) ?_
        obtain ⟨k_0, h⟩ := h
        refine cv_v (As := []) (rest := []) S.1 hw (k_X5_saveState l E Z M24 a0  _ h) wv_X5_81 yc_X5_saveState ⟨rfl, rfl⟩ ⟨Nat.le_of_ble_eq_true rfl, Nat.le_of_ble_eq_true rfl⟩ rfl hl.1 (Nat.le_of_ble_eq_true rfl) (ci := 5) (q := (RX5, TX5, 9)) rfl rfl (by rw [k_0]; decide) (cell_5 k_0) ⟨Nat.le_of_ble_eq_true rfl, Nat.le_of_ble_eq_true rfl⟩ dX5_make_41 (fun M41 H locs h hw => ?_)
        refine lv_aload_n hx hb dX5_make_44 rfl (lv_at hl 0 rfl) ?_
        obtain ⟨y45_1, hy_1, h⟩ := h
        refine gf_X5_10 S.1 hw k_0 hy_1 dX5_make_45 ?_
        refine lv_iload_n hx hb dX5_make_48 rfl (lv_at hl 1 rfl) ?_
        refine lv_iload_n hx hb dX5_make_49 rfl (lv_at hl 2 rfl) ?_
        obtain ⟨k_2, h⟩ := h
        refine cv_v (As := [.int v1, .int v2]) (rest := []) S.1 hw (k_X1_beginAnew l E Z M41 y45_1 v1 v2 _ h) wv_X5_63 yc_X1_beginAnew ⟨rfl, rfl⟩ ⟨Nat.le_of_ble_eq_true rfl, Nat.le_of_ble_eq_true rfl⟩ rfl hl.1 (Nat.le_of_ble_eq_true rfl) (ci := 1) (q := (RX1, TX1, 12)) rfl rfl (by rw [k_2]; decide) (cell_1 k_2) ⟨Nat.le_of_ble_eq_true rfl, Nat.le_of_ble_eq_true rfl⟩ dX5_make_50 (fun M50 H locs h hw => ?_)
        refine lv_aload_n hx hb dX5_make_53 rfl (lv_at hl 0 rfl) ?_
        refine gf_X5_10 S.1 hw k_0 hy_1 dX5_make_54 ?_
        refine lv_iload_n hx hb dX5_make_57 rfl (lv_at hl 3 rfl) ?_
        refine cv_v (As := [.int v3]) (rest := []) S.1 hw (k_X1_addEverywhere l E Z M50 y45_1 v3 _ h) wv_X5_67 yc_X1_addEverywhere ⟨rfl, rfl⟩ ⟨Nat.le_of_ble_eq_true rfl, Nat.le_of_ble_eq_true rfl⟩ rfl hl.1 (Nat.le_of_ble_eq_true rfl) (ci := 1) (q := (RX1, TX1, 12)) rfl rfl (by rw [k_2]; decide) (cell_1 k_2) ⟨Nat.le_of_ble_eq_true rfl, Nat.le_of_ble_eq_true rfl⟩ dX5_make_58 (fun M58 H locs h hw => ?_)
        refine lv_aload_n hx hb dX5_make_61 rfl (lv_at hl 0 rfl) ?_
        refine gf_X5_10 S.1 hw k_0 hy_1 dX5_make_62 ?_
        refine gf_X5_84 S.1 hw k_2 dX5_make_65 ?_
        exact we_i S hw h dX5_make_68
      · have h := h.2 q_27
        exact False.elim h
set_option maxRecDepth 100000 in
set_option maxHeartbeats 4000000 in
theorem k_X5_make (l : Launch) (E : EE) (Z : ZZ) (M : MM) (a0 : Nat) (v1 : Int32) (v2 : Int32) (v3 : Int32) (Q : Int32 → MM → Prop) (h : P_X5_make Z M a0 v1 v2 v3 Q XF) : Ct_i l yX5_make cX5_make 4 (some .int) rm_X5_make E Z M [.ref a0, .int v1, .int v2, .int v3] Q := by
  refine Met.ofW (cc := cX5_make) (maxL := 4) (ret := some .int) (by decide) rfl ?_
  intro p e s m args below meth c s₁ B hml hv
  obtain ⟨rfl, hK, hP, hD, hZ⟩ := hv
  have S : Cx p m c meth cX5_make 4 s _ RX5 (some .int) := ⟨⟨B.exec, B.bytes, hml, findClass_of_methodNamed B.named, fun w hw => atoms_spec (ws := ws_ yX5_make cX5_make 4 (some .int)) B.pre w (List.mem_cons_of_mem _ hw)⟩, B.returns, B.notSynchronized⟩
  have hl := lv_entry ([.ref a0, .int v1, .int v2, .int v3]) (n := 4) (Nat.le_of_ble_eq_true rfl)
  rw [lg_entry_eq]
  generalize (lg_sl ([.ref a0, .int v1, .int v2, .int v3]) ++ List.replicate (4 - (lg_sl ([.ref a0, .int v1, .int v2, .int v3])).length) Slot.unset).toArray = ls at hl ⊢
  exact (wB_X5_make_0 S  M a0 v1 v2 v3 h) s.heap [] ls ⟨hK, hP, hD, va_S.rf, hZ⟩ hl
set_option maxRecDepth 100000 in
set_option maxHeartbeats 4000000 in
theorem wB_X5_checkCell_0 (S : Cx p m c meth cX5_checkCell 2 s args RX5 (none)) {Q : MM → Prop}   (M : MM) (a0 : Nat) (v1 : Int32) (h : B_X5_checkCell_0 Z Q XF  M a0 v1) : WG p l e rm_X5_checkCell s m args below meth c 0 0 (MQv below E Z args s Q) E Z M 0 2 [(0, .ref a0), (1, .int v1)] [] := by
  intro H locs ls hw hl
  have hx := S.1.1
  have hb := S.1.2.1
  refine lv_iload_n hx hb dX5_checkCell_0 rfl (lv_at hl 1 rfl) ?_
  refine lv_iconst (v := 0) hx hb dX5_checkCell_1 (by decide) ?_
  refine lv_aload_n hx hb dX5_checkCell_2 rfl (lv_at hl 0 rfl) ?_
  obtain ⟨k_0, h⟩ := h
  obtain ⟨y3_1, hy_1, h⟩ := h
  refine gf_X5_10 S.1 hw k_0 hy_1 dX5_checkCell_3 ?_
  obtain ⟨k_2, h⟩ := h
  refine cv_i (As := []) (rest := [.int 0, .int v1]) S.1 hw (k_X1_cellCount l E Z M y3_1  _ h) wv_X5_212 yc_X1_cellCount ⟨rfl, rfl⟩ ⟨Nat.le_of_ble_eq_true rfl, Nat.le_of_ble_eq_true rfl⟩ rfl hl.1 (Nat.le_of_ble_eq_true rfl) (ci := 1) (q := (RX1, TX1, 12)) rfl rfl (by rw [k_2]; decide) (cell_1 k_2) ⟨Nat.le_of_ble_eq_true rfl, Nat.le_of_ble_eq_true rfl⟩ dX5_checkCell_6 (fun r6 M6 H locs h hw => ?_)
  refine lv_iconst (v := 1) hx hb dX5_checkCell_9 (by decide) ?_
  refine lv_isub hx hb dX5_checkCell_10 ?_
  refine cs_i (As := [.int v1, .int 0, .int (r6 - 1)]) (rest := []) S.1 hw (k_X5_isOutside l E Z M6 v1 0 (r6 - 1) _ h) wv_X5_70 yc_X5_isOutside ⟨rfl, rfl⟩ ⟨Nat.le_of_ble_eq_true rfl, Nat.le_of_ble_eq_true rfl⟩ rfl hl.1 (Nat.le_of_ble_eq_true rfl) ⟨Nat.le_of_ble_eq_true rfl, Nat.le_of_ble_eq_true rfl⟩ dX5_checkCell_11 (fun r11 M11 H locs h hw => ?_)
  refine lv_if_eq (tgt := 28) hx hb dX5_checkCell_14 (by decide) (fun q_14 => ?_) (fun q_14 => ?_)
  · have h := h.1 q_14
    exact we_v S hw h dX5_checkCell_28
  · have h := h.2 q_14
    exact False.elim h
set_option maxRecDepth 100000 in
set_option maxHeartbeats 4000000 in
theorem k_X5_checkCell (l : Launch) (E : EE) (Z : ZZ) (M : MM) (a0 : Nat) (v1 : Int32) (Q : MM → Prop) (h : P_X5_checkCell Z M a0 v1 Q XF) : Ct_v l yX5_checkCell cX5_checkCell 2 (none) rm_X5_checkCell E Z M [.ref a0, .int v1] Q := by
  refine Met.ofW (cc := cX5_checkCell) (maxL := 2) (ret := none) (by decide) rfl ?_
  intro p e s m args below meth c s₁ B hml hv
  obtain ⟨rfl, hK, hP, hD, hZ⟩ := hv
  have S : Cx p m c meth cX5_checkCell 2 s _ RX5 (none) := ⟨⟨B.exec, B.bytes, hml, findClass_of_methodNamed B.named, fun w hw => atoms_spec (ws := ws_ yX5_checkCell cX5_checkCell 2 (none)) B.pre w (List.mem_cons_of_mem _ hw)⟩, B.returns, B.notSynchronized⟩
  have hl := lv_entry ([.ref a0, .int v1]) (n := 2) (Nat.le_of_ble_eq_true rfl)
  rw [lg_entry_eq]
  generalize (lg_sl ([.ref a0, .int v1]) ++ List.replicate (2 - (lg_sl ([.ref a0, .int v1])).length) Slot.unset).toArray = ls at hl ⊢
  exact (wB_X5_checkCell_0 S  M a0 v1 h) s.heap [] ls ⟨hK, hP, hD, va_S.rf, hZ⟩ hl
set_option maxRecDepth 100000 in
set_option maxHeartbeats 4000000 in
theorem wB_X5_lay_0 (S : Cx p m c meth cX5_lay 3 s args RX5 (some .int)) {Q : Int32 → MM → Prop}   (M : MM) (a0 : Nat) (v1 : Int32) (v2 : Int32) (h : B_X5_lay_0 Z Q XF  M a0 v1 v2) : WG p l e rm_X5_lay s m args below meth c 0 0 (MQi below E Z args s Q) E Z M 0 3 [(0, .ref a0), (1, .int v1), (2, .int v2)] [] := by
  intro H locs ls hw hl
  have hx := S.1.1
  have hb := S.1.2.1
  refine lv_aload_n hx hb dX5_lay_0 rfl (lv_at hl 0 rfl) ?_
  refine lv_iload_n hx hb dX5_lay_1 rfl (lv_at hl 1 rfl) ?_
  obtain ⟨k_0, h⟩ := h
  refine cv_v (As := [.int v1]) (rest := []) S.1 hw (k_X5_checkCell l E Z M a0 v1 _ h) wv_X5_87 yc_X5_checkCell ⟨rfl, rfl⟩ ⟨Nat.le_of_ble_eq_true rfl, Nat.le_of_ble_eq_true rfl⟩ rfl hl.1 (Nat.le_of_ble_eq_true rfl) (ci := 5) (q := (RX5, TX5, 9)) rfl rfl (by rw [k_0]; decide) (cell_5 k_0) ⟨Nat.le_of_ble_eq_true rfl, Nat.le_of_ble_eq_true rfl⟩ dX5_lay_2 (fun M2 H locs h hw => ?_)
  refine lv_iload_n hx hb dX5_lay_5 rfl (lv_at hl 2 rfl) ?_
  refine lv_iconst (v := 1) hx hb dX5_lay_6 (by decide) ?_
  refine lv_bipush (v := 50) hx hb dX5_lay_7 (by decide) ?_
  refine cs_i (As := [.int v2, .int 1, .int 50]) (rest := []) S.1 hw (k_X5_isOutside l E Z M2 v2 1 50 _ h) wv_X5_70 yc_X5_isOutside ⟨rfl, rfl⟩ ⟨Nat.le_of_ble_eq_true rfl, Nat.le_of_ble_eq_true rfl⟩ rfl hl.1 (Nat.le_of_ble_eq_true rfl) ⟨Nat.le_of_ble_eq_true rfl, Nat.le_of_ble_eq_true rfl⟩ dX5_lay_9 (fun r9 M9 H locs h hw => ?_)
  refine lv_if_eq (tgt := 25) hx hb dX5_lay_12 (by decide) (fun q_12 => ?_) (fun q_12 => ?_)
  · have h := h.1 q_12
    refine lv_aload_n hx hb dX5_lay_25 rfl (lv_at hl 0 rfl) ?_
    obtain ⟨y26_1, hy_1, h⟩ := h
    refine gf_X5_10 S.1 hw k_0 hy_1 dX5_lay_26 ?_
    obtain ⟨k_2, h⟩ := h
    obtain ⟨y29_3, hy_3, h⟩ := h
    refine gf_X5_92 S.1 hw k_2 hy_3 dX5_lay_29 ?_
    refine lv_iload_n hx hb dX5_lay_32 rfl (lv_at hl 1 rfl) ?_
    obtain ⟨k_4, h⟩ := h
    refine cv_i (As := [.int v1]) (rest := []) S.1 hw (k_X2_at l E Z M9 y29_3 v1 _ h) wv_X5_95 yc_X2_at ⟨rfl, rfl⟩ ⟨Nat.le_of_ble_eq_true rfl, Nat.le_of_ble_eq_true rfl⟩ rfl hl.1 (Nat.le_of_ble_eq_true rfl) (ci := 2) (q := (RX2, TX2, 1)) rfl rfl (by rw [k_4]; decide) (cell_2 k_4) ⟨Nat.le_of_ble_eq_true rfl, Nat.le_of_ble_eq_true rfl⟩ dX5_lay_33 (fun r33 M33 H locs h hw => ?_)
    refine lv_iload_n hx hb dX5_lay_36 rfl (lv_at hl 2 rfl) ?_
    refine lv_iadd hx hb dX5_lay_37 ?_
    refine lv_bipush (v := 50) hx hb dX5_lay_38 (by decide) ?_
    refine lv_icmp_le (tgt := 53) hx hb dX5_lay_40 (by decide) (fun q_40 => ?_) (fun q_40 => ?_)
    · have h := h.1 q_40
      refine lv_aload_n hx hb dX5_lay_53 rfl (lv_at hl 0 rfl) ?_
      refine cv_v (As := []) (rest := []) S.1 hw (k_X5_saveState l E Z M33 a0  _ h) wv_X5_81 yc_X5_saveState ⟨rfl, rfl⟩ ⟨Nat.le_of_ble_eq_true rfl, Nat.le_of_ble_eq_true rfl⟩ rfl hl.1 (Nat.le_of_ble_eq_true rfl) (ci := 5) (q := (RX5, TX5, 9)) rfl rfl (by rw [k_0]; decide) (cell_5 k_0) ⟨Nat.le_of_ble_eq_true rfl, Nat.le_of_ble_eq_true rfl⟩ dX5_lay_54 (fun M54 H locs h hw => ?_)
      refine lv_aload_n hx hb dX5_lay_57 rfl (lv_at hl 0 rfl) ?_
      refine gf_X5_10 S.1 hw k_0 hy_1 dX5_lay_58 ?_
      refine lv_iload_n hx hb dX5_lay_61 rfl (lv_at hl 1 rfl) ?_
      refine lv_iload_n hx hb dX5_lay_62 rfl (lv_at hl 2 rfl) ?_
      refine cv_v (As := [.int v1, .int v2]) (rest := []) S.1 hw (k_X1_add l E Z M54 y26_1 v1 v2 _ h) wv_X5_104 yc_X1_add ⟨rfl, rfl⟩ ⟨Nat.le_of_ble_eq_true rfl, Nat.le_of_ble_eq_true rfl⟩ rfl hl.1 (Nat.le_of_ble_eq_true rfl) (ci := 1) (q := (RX1, TX1, 12)) rfl rfl (by rw [k_2]; decide) (cell_1 k_2) ⟨Nat.le_of_ble_eq_true rfl, Nat.le_of_ble_eq_true rfl⟩ dX5_lay_63 (fun M63 H locs h hw => ?_)
      refine lv_aload_n hx hb dX5_lay_66 rfl (lv_at hl 0 rfl) ?_
      refine gf_X5_10 S.1 hw k_0 hy_1 dX5_lay_67 ?_
      refine gf_X5_92 S.1 hw k_2 hy_3 dX5_lay_70 ?_
      refine lv_iload_n hx hb dX5_lay_73 rfl (lv_at hl 1 rfl) ?_
      refine cv_i (As := [.int v1]) (rest := []) S.1 hw (k_X2_at l E Z M63 y29_3 v1 _ h) wv_X5_95 yc_X2_at ⟨rfl, rfl⟩ ⟨Nat.le_of_ble_eq_true rfl, Nat.le_of_ble_eq_true rfl⟩ rfl hl.1 (Nat.le_of_ble_eq_true rfl) (ci := 2) (q := (RX2, TX2, 1)) rfl rfl (by rw [k_4]; decide) (cell_2 k_4) ⟨Nat.le_of_ble_eq_true rfl, Nat.le_of_ble_eq_true rfl⟩ dX5_lay_74 (fun r74 M74 H locs h hw => ?_)
      exact we_i S hw h dX5_lay_77
    · have h := h.2 q_40
      exact False.elim h
  · have h := h.2 q_12
    exact False.elim h
set_option maxRecDepth 100000 in
set_option maxHeartbeats 4000000 in
theorem k_X5_lay (l : Launch) (E : EE) (Z : ZZ) (M : MM) (a0 : Nat) (v1 : Int32) (v2 : Int32) (Q : Int32 → MM → Prop) (h : P_X5_lay Z M a0 v1 v2 Q XF) : Ct_i l yX5_lay cX5_lay 3 (some .int) rm_X5_lay E Z M [.ref a0, .int v1, .int v2] Q := by
  refine Met.ofW (cc := cX5_lay) (maxL := 3) (ret := some .int) (by decide) rfl ?_
  intro p e s m args below meth c s₁ B hml hv
  obtain ⟨rfl, hK, hP, hD, hZ⟩ := hv
  have S : Cx p m c meth cX5_lay 3 s _ RX5 (some .int) := ⟨⟨B.exec, B.bytes, hml, findClass_of_methodNamed B.named, fun w hw => atoms_spec (ws := ws_ yX5_lay cX5_lay 3 (some .int)) B.pre w (List.mem_cons_of_mem _ hw)⟩, B.returns, B.notSynchronized⟩
  have hl := lv_entry ([.ref a0, .int v1, .int v2]) (n := 3) (Nat.le_of_ble_eq_true rfl)
  rw [lg_entry_eq]
  generalize (lg_sl ([.ref a0, .int v1, .int v2]) ++ List.replicate (3 - (lg_sl ([.ref a0, .int v1, .int v2])).length) Slot.unset).toArray = ls at hl ⊢
  exact (wB_X5_lay_0 S  M a0 v1 v2 h) s.heap [] ls ⟨hK, hP, hD, va_S.rf, hZ⟩ hl
set_option maxRecDepth 100000 in
set_option maxHeartbeats 4000000 in
theorem wB_X5_saw_0 (S : Cx p m c meth cX5_saw 3 s args RX5 (some .int)) {Q : Int32 → MM → Prop}   (M : MM) (a0 : Nat) (v1 : Int32) (v2 : Int32) (h : B_X5_saw_0 Z Q XF  M a0 v1 v2) : WG p l e rm_X5_saw s m args below meth c 0 0 (MQi below E Z args s Q) E Z M 0 3 [(0, .ref a0), (1, .int v1), (2, .int v2)] [] := by
  intro H locs ls hw hl
  have hx := S.1.1
  have hb := S.1.2.1
  refine lv_aload_n hx hb dX5_saw_0 rfl (lv_at hl 0 rfl) ?_
  refine lv_iload_n hx hb dX5_saw_1 rfl (lv_at hl 1 rfl) ?_
  obtain ⟨k_0, h⟩ := h
  refine cv_v (As := [.int v1]) (rest := []) S.1 hw (k_X5_checkCell l E Z M a0 v1 _ h) wv_X5_87 yc_X5_checkCell ⟨rfl, rfl⟩ ⟨Nat.le_of_ble_eq_true rfl, Nat.le_of_ble_eq_true rfl⟩ rfl hl.1 (Nat.le_of_ble_eq_true rfl) (ci := 5) (q := (RX5, TX5, 9)) rfl rfl (by rw [k_0]; decide) (cell_5 k_0) ⟨Nat.le_of_ble_eq_true rfl, Nat.le_of_ble_eq_true rfl⟩ dX5_saw_2 (fun M2 H locs h hw => ?_)
  refine lv_iload_n hx hb dX5_saw_5 rfl (lv_at hl 2 rfl) ?_
  refine lv_iconst (v := 0) hx hb dX5_saw_6 (by decide) ?_
  refine lv_iconst (v := 3) hx hb dX5_saw_7 (by decide) ?_
  refine cs_i (As := [.int v2, .int 0, .int 3]) (rest := []) S.1 hw (k_X5_isOutside l E Z M2 v2 0 3 _ h) wv_X5_70 yc_X5_isOutside ⟨rfl, rfl⟩ ⟨Nat.le_of_ble_eq_true rfl, Nat.le_of_ble_eq_true rfl⟩ rfl hl.1 (Nat.le_of_ble_eq_true rfl) ⟨Nat.le_of_ble_eq_true rfl, Nat.le_of_ble_eq_true rfl⟩ dX5_saw_8 (fun r8 M8 H locs h hw => ?_)
  refine lv_if_eq (tgt := 24) hx hb dX5_saw_11 (by decide) (fun q_11 => ?_) (fun q_11 => ?_)
  · have h := h.1 q_11
    refine lv_aload_n hx hb dX5_saw_24 rfl (lv_at hl 0 rfl) ?_
    obtain ⟨y25_1, hy_1, h⟩ := h
    refine gf_X5_10 S.1 hw k_0 hy_1 dX5_saw_25 ?_
    refine lv_iload_n hx hb dX5_saw_28 rfl (lv_at hl 1 rfl) ?_
    refine lv_iload_n hx hb dX5_saw_29 rfl (lv_at hl 2 rfl) ?_
    obtain ⟨k_2, h⟩ := h
    refine cv_i (As := [.int v1, .int v2]) (rest := []) S.1 hw (k_X1_canCut l E Z M8 y25_1 v1 v2 _ h) wv_X5_109 yc_X1_canCut ⟨rfl, rfl⟩ ⟨Nat.le_of_ble_eq_true rfl, Nat.le_of_ble_eq_true rfl⟩ rfl hl.1 (Nat.le_of_ble_eq_true rfl) (ci := 1) (q := (RX1, TX1, 12)) rfl rfl (by rw [k_2]; decide) (cell_1 k_2) ⟨Nat.le_of_ble_eq_true rfl, Nat.le_of_ble_eq_true rfl⟩ dX5_saw_30 (fun r30 M30 H locs h hw => ?_)
    refine lv_if_ne (tgt := 46) hx hb dX5_saw_33 (by decide) (fun q_33 => ?_) (fun q_33 => ?_)
    · have h := h.1 q_33
      refine lv_aload_n hx hb dX5_saw_46 rfl (lv_at hl 0 rfl) ?_
      refine cv_v (As := []) (rest := []) S.1 hw (k_X5_saveState l E Z M30 a0  _ h) wv_X5_81 yc_X5_saveState ⟨rfl, rfl⟩ ⟨Nat.le_of_ble_eq_true rfl, Nat.le_of_ble_eq_true rfl⟩ rfl hl.1 (Nat.le_of_ble_eq_true rfl) (ci := 5) (q := (RX5, TX5, 9)) rfl rfl (by rw [k_0]; decide) (cell_5 k_0) ⟨Nat.le_of_ble_eq_true rfl, Nat.le_of_ble_eq_true rfl⟩ dX5_saw_47 (fun M47 H locs h hw => ?_)
      refine lv_aload_n hx hb dX5_saw_50 rfl (lv_at hl 0 rfl) ?_
      refine gf_X5_10 S.1 hw k_0 hy_1 dX5_saw_51 ?_
      refine lv_iload_n hx hb dX5_saw_54 rfl (lv_at hl 1 rfl) ?_
      refine lv_iload_n hx hb dX5_saw_55 rfl (lv_at hl 2 rfl) ?_
      refine cv_i (As := [.int v1, .int v2]) (rest := []) S.1 hw (k_X1_cutSide l E Z M47 y25_1 v1 v2 _ h) wv_X5_115 yc_X1_cutSide ⟨rfl, rfl⟩ ⟨Nat.le_of_ble_eq_true rfl, Nat.le_of_ble_eq_true rfl⟩ rfl hl.1 (Nat.le_of_ble_eq_true rfl) (ci := 1) (q := (RX1, TX1, 12)) rfl rfl (by rw [k_2]; decide) (cell_1 k_2) ⟨Nat.le_of_ble_eq_true rfl, Nat.le_of_ble_eq_true rfl⟩ dX5_saw_56 (fun r56 M56 H locs h hw => ?_)
      exact we_i S hw h dX5_saw_59
    · have h := h.2 q_33
      exact False.elim h
  · have h := h.2 q_11
    exact False.elim h
set_option maxRecDepth 100000 in
set_option maxHeartbeats 4000000 in
theorem k_X5_saw (l : Launch) (E : EE) (Z : ZZ) (M : MM) (a0 : Nat) (v1 : Int32) (v2 : Int32) (Q : Int32 → MM → Prop) (h : P_X5_saw Z M a0 v1 v2 Q XF) : Ct_i l yX5_saw cX5_saw 3 (some .int) rm_X5_saw E Z M [.ref a0, .int v1, .int v2] Q := by
  refine Met.ofW (cc := cX5_saw) (maxL := 3) (ret := some .int) (by decide) rfl ?_
  intro p e s m args below meth c s₁ B hml hv
  obtain ⟨rfl, hK, hP, hD, hZ⟩ := hv
  have S : Cx p m c meth cX5_saw 3 s _ RX5 (some .int) := ⟨⟨B.exec, B.bytes, hml, findClass_of_methodNamed B.named, fun w hw => atoms_spec (ws := ws_ yX5_saw cX5_saw 3 (some .int)) B.pre w (List.mem_cons_of_mem _ hw)⟩, B.returns, B.notSynchronized⟩
  have hl := lv_entry ([.ref a0, .int v1, .int v2]) (n := 3) (Nat.le_of_ble_eq_true rfl)
  rw [lg_entry_eq]
  generalize (lg_sl ([.ref a0, .int v1, .int v2]) ++ List.replicate (3 - (lg_sl ([.ref a0, .int v1, .int v2])).length) Slot.unset).toArray = ls at hl ⊢
  exact (wB_X5_saw_0 S  M a0 v1 v2 h) s.heap [] ls ⟨hK, hP, hD, va_S.rf, hZ⟩ hl
set_option maxRecDepth 100000 in
set_option maxHeartbeats 4000000 in
theorem wB_X5_checkRectangle_0 (S : Cx p m c meth cX5_checkRectangle 4 s args RX5 (none)) {Q : MM → Prop}   (M : MM) (a0 : Nat) (v1 : Int32) (v2 : Int32) (v3 : Int32) (h : B_X5_checkRectangle_0 Z Q XF  M a0 v1 v2 v3) : WG p l e rm_X5_checkRectangle s m args below meth c 0 0 (MQv below E Z args s Q) E Z M 0 4 [(0, .ref a0), (1, .int v1), (2, .int v2), (3, .int v3)] [] := by
  intro H locs ls hw hl
  have hx := S.1.1
  have hb := S.1.2.1
  refine lv_aload_n hx hb dX5_checkRectangle_0 rfl (lv_at hl 0 rfl) ?_
  refine lv_iload_n hx hb dX5_checkRectangle_1 rfl (lv_at hl 1 rfl) ?_
  obtain ⟨k_0, h⟩ := h
  refine cv_v (As := [.int v1]) (rest := []) S.1 hw (k_X5_checkCell l E Z M a0 v1 _ h) wv_X5_87 yc_X5_checkCell ⟨rfl, rfl⟩ ⟨Nat.le_of_ble_eq_true rfl, Nat.le_of_ble_eq_true rfl⟩ rfl hl.1 (Nat.le_of_ble_eq_true rfl) (ci := 5) (q := (RX5, TX5, 9)) rfl rfl (by rw [k_0]; decide) (cell_5 k_0) ⟨Nat.le_of_ble_eq_true rfl, Nat.le_of_ble_eq_true rfl⟩ dX5_checkRectangle_2 (fun M2 H locs h hw => ?_)
  refine lv_iload_n hx hb dX5_checkRectangle_5 rfl (lv_at hl 2 rfl) ?_
  refine lv_iconst (v := 1) hx hb dX5_checkRectangle_6 (by decide) ?_
  refine lv_bipush (v := 7) hx hb dX5_checkRectangle_7 (by decide) ?_
  refine cs_i (As := [.int v2, .int 1, .int 7]) (rest := []) S.1 hw (k_X5_isOutside l E Z M2 v2 1 7 _ h) wv_X5_70 yc_X5_isOutside ⟨rfl, rfl⟩ ⟨Nat.le_of_ble_eq_true rfl, Nat.le_of_ble_eq_true rfl⟩ rfl hl.1 (Nat.le_of_ble_eq_true rfl) ⟨Nat.le_of_ble_eq_true rfl, Nat.le_of_ble_eq_true rfl⟩ dX5_checkRectangle_9 (fun r9 M9 H locs h hw => ?_)
  refine lv_if_ne (tgt := 65) hx hb dX5_checkRectangle_12 (by decide) (fun q_12 => ?_) (fun q_12 => ?_)
  · have h := h.1 q_12
    exact False.elim h
  · have h := h.2 q_12
    refine lv_iload_n hx hb dX5_checkRectangle_15 rfl (lv_at hl 3 rfl) ?_
    refine lv_iconst (v := 1) hx hb dX5_checkRectangle_16 (by decide) ?_
    refine lv_bipush (v := 7) hx hb dX5_checkRectangle_17 (by decide) ?_
    refine cs_i (As := [.int v3, .int 1, .int 7]) (rest := []) S.1 hw (k_X5_isOutside l E Z M9 v3 1 7 _ h) wv_X5_70 yc_X5_isOutside ⟨rfl, rfl⟩ ⟨Nat.le_of_ble_eq_true rfl, Nat.le_of_ble_eq_true rfl⟩ rfl hl.1 (Nat.le_of_ble_eq_true rfl) ⟨Nat.le_of_ble_eq_true rfl, Nat.le_of_ble_eq_true rfl⟩ dX5_checkRectangle_19 (fun r19 M19 H locs h hw => ?_)
    refine lv_if_ne (tgt := 65) hx hb dX5_checkRectangle_22 (by decide) (fun q_22 => ?_) (fun q_22 => ?_)
    · have h := h.1 q_22
      exact False.elim h
    · have h := h.2 q_22
      refine lv_aload_n hx hb dX5_checkRectangle_25 rfl (lv_at hl 0 rfl) ?_
      obtain ⟨y26_1, hy_1, h⟩ := h
      refine gf_X5_10 S.1 hw k_0 hy_1 dX5_checkRectangle_26 ?_
      refine lv_iload_n hx hb dX5_checkRectangle_29 rfl (lv_at hl 1 rfl) ?_
      obtain ⟨k_2, h⟩ := h
      refine cv_i (As := [.int v1]) (rest := []) S.1 hw (k_X1_columnOf l E Z M19 y26_1 v1 _ h) wv_X5_245 yc_X1_columnOf ⟨rfl, rfl⟩ ⟨Nat.le_of_ble_eq_true rfl, Nat.le_of_ble_eq_true rfl⟩ rfl hl.1 (Nat.le_of_ble_eq_true rfl) (ci := 1) (q := (RX1, TX1, 12)) rfl rfl (by rw [k_2]; decide) (cell_1 k_2) ⟨Nat.le_of_ble_eq_true rfl, Nat.le_of_ble_eq_true rfl⟩ dX5_checkRectangle_30 (fun r30 M30 H locs h hw => ?_)
      refine lv_iload_n hx hb dX5_checkRectangle_33 rfl (lv_at hl 2 rfl) ?_
      refine lv_iadd hx hb dX5_checkRectangle_34 ?_
      refine lv_aload_n hx hb dX5_checkRectangle_35 rfl (lv_at hl 0 rfl) ?_
      refine gf_X5_10 S.1 hw k_0 hy_1 dX5_checkRectangle_36 ?_
      refine gf_X5_263 S.1 hw k_2 dX5_checkRectangle_39 ?_
      refine lv_icmp_gt (tgt := 65) hx hb dX5_checkRectangle_42 (by decide) (fun q_42 => ?_) (fun q_42 => ?_)
      · have h := h.1 q_42
        exact False.elim h
      · have h := h.2 q_42
        refine lv_aload_n hx hb dX5_checkRectangle_45 rfl (lv_at hl 0 rfl) ?_
        refine gf_X5_10 S.1 hw k_0 hy_1 dX5_checkRectangle_46 ?_
        refine lv_iload_n hx hb dX5_checkRectangle_49 rfl (lv_at hl 1 rfl) ?_
        refine cv_i (As := [.int v1]) (rest := []) S.1 hw (k_X1_rowOf l E Z M30 y26_1 v1 _ h) wv_X5_242 yc_X1_rowOf ⟨rfl, rfl⟩ ⟨Nat.le_of_ble_eq_true rfl, Nat.le_of_ble_eq_true rfl⟩ rfl hl.1 (Nat.le_of_ble_eq_true rfl) (ci := 1) (q := (RX1, TX1, 12)) rfl rfl (by rw [k_2]; decide) (cell_1 k_2) ⟨Nat.le_of_ble_eq_true rfl, Nat.le_of_ble_eq_true rfl⟩ dX5_checkRectangle_50 (fun r50 M50 H locs h hw => ?_)
        refine lv_iload_n hx hb dX5_checkRectangle_53 rfl (lv_at hl 3 rfl) ?_
        refine lv_iadd hx hb dX5_checkRectangle_54 ?_
        refine lv_aload_n hx hb dX5_checkRectangle_55 rfl (lv_at hl 0 rfl) ?_
        refine gf_X5_10 S.1 hw k_0 hy_1 dX5_checkRectangle_56 ?_
        refine gf_X5_264 S.1 hw k_2 dX5_checkRectangle_59 ?_
        refine lv_icmp_le (tgt := 76) hx hb dX5_checkRectangle_62 (by decide) (fun q_62 => ?_) (fun q_62 => ?_)
        · have h := h.1 q_62
          exact we_v S hw h dX5_checkRectangle_76
        · have h := h.2 q_62
          exact False.elim h
set_option maxRecDepth 100000 in
set_option maxHeartbeats 4000000 in
theorem k_X5_checkRectangle (l : Launch) (E : EE) (Z : ZZ) (M : MM) (a0 : Nat) (v1 : Int32) (v2 : Int32) (v3 : Int32) (Q : MM → Prop) (h : P_X5_checkRectangle Z M a0 v1 v2 v3 Q XF) : Ct_v l yX5_checkRectangle cX5_checkRectangle 4 (none) rm_X5_checkRectangle E Z M [.ref a0, .int v1, .int v2, .int v3] Q := by
  refine Met.ofW (cc := cX5_checkRectangle) (maxL := 4) (ret := none) (by decide) rfl ?_
  intro p e s m args below meth c s₁ B hml hv
  obtain ⟨rfl, hK, hP, hD, hZ⟩ := hv
  have S : Cx p m c meth cX5_checkRectangle 4 s _ RX5 (none) := ⟨⟨B.exec, B.bytes, hml, findClass_of_methodNamed B.named, fun w hw => atoms_spec (ws := ws_ yX5_checkRectangle cX5_checkRectangle 4 (none)) B.pre w (List.mem_cons_of_mem _ hw)⟩, B.returns, B.notSynchronized⟩
  have hl := lv_entry ([.ref a0, .int v1, .int v2, .int v3]) (n := 4) (Nat.le_of_ble_eq_true rfl)
  rw [lg_entry_eq]
  generalize (lg_sl ([.ref a0, .int v1, .int v2, .int v3]) ++ List.replicate (4 - (lg_sl ([.ref a0, .int v1, .int v2, .int v3])).length) Slot.unset).toArray = ls at hl ⊢
  exact (wB_X5_checkRectangle_0 S  M a0 v1 v2 v3 h) s.heap [] ls ⟨hK, hP, hD, va_S.rf, hZ⟩ hl
set_option maxRecDepth 100000 in
set_option maxHeartbeats 4000000 in
theorem wB_X5_sawAround_0 (S : Cx p m c meth cX5_sawAround 4 s args RX5 (some .int)) {Q : Int32 → MM → Prop}   (M : MM) (a0 : Nat) (v1 : Int32) (v2 : Int32) (v3 : Int32) (h : B_X5_sawAround_0 Z Q XF  M a0 v1 v2 v3) : WG p l e rm_X5_sawAround s m args below meth c 0 0 (MQi below E Z args s Q) E Z M 0 4 [(0, .ref a0), (1, .int v1), (2, .int v2), (3, .int v3)] [] := by
  intro H locs ls hw hl
  have hx := S.1.1
  have hb := S.1.2.1
  refine lv_aload_n hx hb dX5_sawAround_0 rfl (lv_at hl 0 rfl) ?_
  refine lv_iload_n hx hb dX5_sawAround_1 rfl (lv_at hl 1 rfl) ?_
  refine lv_iload_n hx hb dX5_sawAround_2 rfl (lv_at hl 2 rfl) ?_
  refine lv_iload_n hx hb dX5_sawAround_3 rfl (lv_at hl 3 rfl) ?_
  obtain ⟨k_0, h⟩ := h
  refine cv_v (As := [.int v1, .int v2, .int v3]) (rest := []) S.1 hw (k_X5_checkRectangle l E Z M a0 v1 v2 v3 _ h) wv_X5_119 yc_X5_checkRectangle ⟨rfl, rfl⟩ ⟨Nat.le_of_ble_eq_true rfl, Nat.le_of_ble_eq_true rfl⟩ rfl hl.1 (Nat.le_of_ble_eq_true rfl) (ci := 5) (q := (RX5, TX5, 9)) rfl rfl (by rw [k_0]; decide) (cell_5 k_0) ⟨Nat.le_of_ble_eq_true rfl, Nat.le_of_ble_eq_true rfl⟩ dX5_sawAround_4 (fun M4 H locs h hw => ?_)
  refine lv_aload_n hx hb dX5_sawAround_7 rfl (lv_at hl 0 rfl) ?_
  refine cv_v (As := []) (rest := []) S.1 hw (k_X5_saveState l E Z M4 a0  _ h) wv_X5_81 yc_X5_saveState ⟨rfl, rfl⟩ ⟨Nat.le_of_ble_eq_true rfl, Nat.le_of_ble_eq_true rfl⟩ rfl hl.1 (Nat.le_of_ble_eq_true rfl) (ci := 5) (q := (RX5, TX5, 9)) rfl rfl (by rw [k_0]; decide) (cell_5 k_0) ⟨Nat.le_of_ble_eq_true rfl, Nat.le_of_ble_eq_true rfl⟩ dX5_sawAround_8 (fun M8 H locs h hw => ?_)
  refine lv_aload_n hx hb dX5_sawAround_11 rfl (lv_at hl 0 rfl) ?_
  obtain ⟨y12_1, hy_1, h⟩ := h
  refine gf_X5_10 S.1 hw k_0 hy_1 dX5_sawAround_12 ?_
  refine lv_iload_n hx hb dX5_sawAround_15 rfl (lv_at hl 1 rfl) ?_
  refine lv_iload_n hx hb dX5_sawAround_16 rfl (lv_at hl 2 rfl) ?_
  refine lv_iload_n hx hb dX5_sawAround_17 rfl (lv_at hl 3 rfl) ?_
  obtain ⟨k_2, h⟩ := h
  refine cv_i (As := [.int v1, .int v2, .int v3]) (rest := []) S.1 hw (k_X1_cutRectangle l E Z M8 y12_1 v1 v2 v3 _ h) wv_X5_123 yc_X1_cutRectangle ⟨rfl, rfl⟩ ⟨Nat.le_of_ble_eq_true rfl, Nat.le_of_ble_eq_true rfl⟩ rfl hl.1 (Nat.le_of_ble_eq_true rfl) (ci := 1) (q := (RX1, TX1, 12)) rfl rfl (by rw [k_2]; decide) (cell_1 k_2) ⟨Nat.le_of_ble_eq_true rfl, Nat.le_of_ble_eq_true rfl⟩ dX5_sawAround_18 (fun r18 M18 H locs h hw => ?_)
  exact we_i S hw h dX5_sawAround_21
set_option maxRecDepth 100000 in
set_option maxHeartbeats 4000000 in
theorem k_X5_sawAround (l : Launch) (E : EE) (Z : ZZ) (M : MM) (a0 : Nat) (v1 : Int32) (v2 : Int32) (v3 : Int32) (Q : Int32 → MM → Prop) (h : P_X5_sawAround Z M a0 v1 v2 v3 Q XF) : Ct_i l yX5_sawAround cX5_sawAround 4 (some .int) rm_X5_sawAround E Z M [.ref a0, .int v1, .int v2, .int v3] Q := by
  refine Met.ofW (cc := cX5_sawAround) (maxL := 4) (ret := some .int) (by decide) rfl ?_
  intro p e s m args below meth c s₁ B hml hv
  obtain ⟨rfl, hK, hP, hD, hZ⟩ := hv
  have S : Cx p m c meth cX5_sawAround 4 s _ RX5 (some .int) := ⟨⟨B.exec, B.bytes, hml, findClass_of_methodNamed B.named, fun w hw => atoms_spec (ws := ws_ yX5_sawAround cX5_sawAround 4 (some .int)) B.pre w (List.mem_cons_of_mem _ hw)⟩, B.returns, B.notSynchronized⟩
  have hl := lv_entry ([.ref a0, .int v1, .int v2, .int v3]) (n := 4) (Nat.le_of_ble_eq_true rfl)
  rw [lg_entry_eq]
  generalize (lg_sl ([.ref a0, .int v1, .int v2, .int v3]) ++ List.replicate (4 - (lg_sl ([.ref a0, .int v1, .int v2, .int v3])).length) Slot.unset).toArray = ls at hl ⊢
  exact (wB_X5_sawAround_0 S  M a0 v1 v2 v3 h) s.heap [] ls ⟨hK, hP, hD, va_S.rf, hZ⟩ hl
set_option maxRecDepth 100000 in
set_option maxHeartbeats 4000000 in
theorem wB_X5_takeOut_0 (S : Cx p m c meth cX5_takeOut 3 s args RX5 (some .int)) {Q : Int32 → MM → Prop}   (M : MM) (a0 : Nat) (v1 : Int32) (h : B_X5_takeOut_0 Z Q XF  M a0 v1) : WG p l e rm_X5_takeOut s m args below meth c 0 0 (MQi below E Z args s Q) E Z M 0 3 [(0, .ref a0), (1, .int v1)] [] := by
  intro H locs ls hw hl
  have hx := S.1.1
  have hb := S.1.2.1
  refine lv_aload_n hx hb dX5_takeOut_0 rfl (lv_at hl 0 rfl) ?_
  refine lv_iload_n hx hb dX5_takeOut_1 rfl (lv_at hl 1 rfl) ?_
  obtain ⟨k_0, h⟩ := h
  refine cv_v (As := [.int v1]) (rest := []) S.1 hw (k_X5_checkCell l E Z M a0 v1 _ h) wv_X5_87 yc_X5_checkCell ⟨rfl, rfl⟩ ⟨Nat.le_of_ble_eq_true rfl, Nat.le_of_ble_eq_true rfl⟩ rfl hl.1 (Nat.le_of_ble_eq_true rfl) (ci := 5) (q := (RX5, TX5, 9)) rfl rfl (by rw [k_0]; decide) (cell_5 k_0) ⟨Nat.le_of_ble_eq_true rfl, Nat.le_of_ble_eq_true rfl⟩ dX5_takeOut_2 (fun M2 H locs h hw => ?_)
  refine lv_aload_n hx hb dX5_takeOut_5 rfl (lv_at hl 0 rfl) ?_
  obtain ⟨y6_1, hy_1, h⟩ := h
  refine gf_X5_40 S.1 hw k_0 hy_1 dX5_takeOut_6 ?_
  refine lv_aload_n hx hb dX5_takeOut_9 rfl (lv_at hl 0 rfl) ?_
  obtain ⟨y10_2, hy_2, h⟩ := h
  refine gf_X5_10 S.1 hw k_0 hy_2 dX5_takeOut_10 ?_
  obtain ⟨k_3, h⟩ := h
  refine cv_v (As := [.ref y10_2]) (rest := []) S.1 hw (k_X0_find l E Z M2 y6_1 y10_2 _ h) wv_X5_127 yc_X0_find ⟨rfl, rfl⟩ ⟨Nat.le_of_ble_eq_true rfl, Nat.le_of_ble_eq_true rfl⟩ rfl hl.1 (Nat.le_of_ble_eq_true rfl) (ci := 0) (q := (RX0, TX0, 3)) rfl rfl (by rw [k_3]; decide) (cell_0 k_3) ⟨Nat.le_of_ble_eq_true rfl, Nat.le_of_ble_eq_true rfl⟩ dX5_takeOut_13 (fun M13 H locs h hw => ?_)
  refine lv_aload_n hx hb dX5_takeOut_16 rfl (lv_at hl 0 rfl) ?_
  refine gf_X5_40 S.1 hw k_0 hy_1 dX5_takeOut_17 ?_
  refine lv_iload_n hx hb dX5_takeOut_20 rfl (lv_at hl 1 rfl) ?_
  refine cv_i (As := [.int v1]) (rest := []) S.1 hw (k_X0_numberAt l E Z M13 y6_1 v1 _ h) wv_X5_131 yc_X0_numberAt ⟨rfl, rfl⟩ ⟨Nat.le_of_ble_eq_true rfl, Nat.le_of_ble_eq_true rfl⟩ rfl hl.1 (Nat.le_of_ble_eq_true rfl) (ci := 0) (q := (RX0, TX0, 3)) rfl rfl (by rw [k_3]; decide) (cell_0 k_3) ⟨Nat.le_of_ble_eq_true rfl, Nat.le_of_ble_eq_true rfl⟩ dX5_takeOut_21 (fun r21 M21 H locs h hw => ?_)
  refine lv_istore_n (lv' := [(2, .int r21), (0, .ref a0), (1, .int v1)]) hx hb dX5_takeOut_24 rfl hl (by decide) rfl (fun ls hl => ?_)
  refine lv_aload_n hx hb dX5_takeOut_25 rfl (lv_at hl 1 rfl) ?_
  refine gf_X5_40 S.1 hw k_0 hy_1 dX5_takeOut_26 ?_
  refine lv_iload_n hx hb dX5_takeOut_29 rfl (lv_at hl 0 rfl) ?_
  refine cv_i (As := [.int r21]) (rest := []) S.1 hw (k_X0_isLoose l E Z M21 y6_1 r21 _ h) wv_X5_134 yc_X0_isLoose ⟨rfl, rfl⟩ ⟨Nat.le_of_ble_eq_true rfl, Nat.le_of_ble_eq_true rfl⟩ rfl hl.1 (Nat.le_of_ble_eq_true rfl) (ci := 0) (q := (RX0, TX0, 3)) rfl rfl (by rw [k_3]; decide) (cell_0 k_3) ⟨Nat.le_of_ble_eq_true rfl, Nat.le_of_ble_eq_true rfl⟩ dX5_takeOut_30 (fun r30 M30 H locs h hw => ?_)
  refine lv_if_eq (tgt := 56) hx hb dX5_takeOut_33 (by decide) (fun q_33 => ?_) (fun q_33 => ?_)
  · have h := h.1 q_33
    exact False.elim h
  · have h := h.2 q_33
    refine lv_aload_n hx hb dX5_takeOut_36 rfl (lv_at hl 1 rfl) ?_
    obtain ⟨y37_4, hy_4, h⟩ := h
    refine gf_X5_47 S.1 hw k_0 hy_4 dX5_takeOut_37 ?_
    refine lv_aload_n hx hb dX5_takeOut_40 rfl (lv_at hl 1 rfl) ?_
    refine gf_X5_10 S.1 hw k_0 hy_2 dX5_takeOut_41 ?_
    refine lv_aload_n hx hb dX5_takeOut_44 rfl (lv_at hl 1 rfl) ?_
    refine gf_X5_40 S.1 hw k_0 hy_1 dX5_takeOut_45 ?_
    refine lv_iload_n hx hb dX5_takeOut_48 rfl (lv_at hl 0 rfl) ?_
    obtain ⟨k_5, h⟩ := h
    refine cv_i (As := [.ref y10_2, .ref y6_1, .int r21]) (rest := []) S.1 hw (k_X4_search l E Z M30 y37_4 y10_2 y6_1 r21 _ h) wv_X5_138 yc_X4_search ⟨rfl, rfl⟩ ⟨Nat.le_of_ble_eq_true rfl, Nat.le_of_ble_eq_true rfl⟩ rfl hl.1 (Nat.le_of_ble_eq_true rfl) (ci := 4) (q := (RX4, TX4, 5)) rfl rfl (by rw [k_5]; decide) (cell_4 k_5) ⟨Nat.le_of_ble_eq_true rfl, Nat.le_of_ble_eq_true rfl⟩ dX5_takeOut_49 (fun r49 M49 H locs h hw => ?_)
    refine lv_iconst (v := (-1)) hx hb dX5_takeOut_52 (by decide) ?_
    refine lv_icmp_ne (tgt := 66) hx hb dX5_takeOut_53 (by decide) (fun q_53 => ?_) (fun q_53 => ?_)
    · have h := h.1 q_53
      refine lv_aload_n hx hb dX5_takeOut_66 rfl (lv_at hl 1 rfl) ?_
      refine cv_v (As := []) (rest := []) S.1 hw (k_X5_saveState l E Z M49 a0  _ h) wv_X5_81 yc_X5_saveState ⟨rfl, rfl⟩ ⟨Nat.le_of_ble_eq_true rfl, Nat.le_of_ble_eq_true rfl⟩ rfl hl.1 (Nat.le_of_ble_eq_true rfl) (ci := 5) (q := (RX5, TX5, 9)) rfl rfl (by rw [k_0]; decide) (cell_5 k_0) ⟨Nat.le_of_ble_eq_true rfl, Nat.le_of_ble_eq_true rfl⟩ dX5_takeOut_67 (fun M67 H locs h hw => ?_)
      refine lv_aload_n hx hb dX5_takeOut_70 rfl (lv_at hl 1 rfl) ?_
      refine gf_X5_10 S.1 hw k_0 hy_2 dX5_takeOut_71 ?_
      refine lv_aload_n hx hb dX5_takeOut_74 rfl (lv_at hl 1 rfl) ?_
      refine gf_X5_40 S.1 hw k_0 hy_1 dX5_takeOut_75 ?_
      refine lv_iload_n hx hb dX5_takeOut_78 rfl (lv_at hl 0 rfl) ?_
      obtain ⟨k_6, h⟩ := h
      refine cv_i (As := [.ref y6_1, .int r21]) (rest := []) S.1 hw (k_X1_removeBlock l E Z M67 y10_2 y6_1 r21 _ h) wv_X5_144 yc_X1_removeBlock ⟨rfl, rfl⟩ ⟨Nat.le_of_ble_eq_true rfl, Nat.le_of_ble_eq_true rfl⟩ rfl hl.1 (Nat.le_of_ble_eq_true rfl) (ci := 1) (q := (RX1, TX1, 12)) rfl rfl (by rw [k_6]; decide) (cell_1 k_6) ⟨Nat.le_of_ble_eq_true rfl, Nat.le_of_ble_eq_true rfl⟩ dX5_takeOut_79 (fun r79 M79 H locs h hw => ?_)
      exact we_i S hw h dX5_takeOut_82
    · have h := h.2 q_53
      exact False.elim h
set_option maxRecDepth 100000 in
set_option maxHeartbeats 4000000 in
theorem k_X5_takeOut (l : Launch) (E : EE) (Z : ZZ) (M : MM) (a0 : Nat) (v1 : Int32) (Q : Int32 → MM → Prop) (h : P_X5_takeOut Z M a0 v1 Q XF) : Ct_i l yX5_takeOut cX5_takeOut 3 (some .int) rm_X5_takeOut E Z M [.ref a0, .int v1] Q := by
  refine Met.ofW (cc := cX5_takeOut) (maxL := 3) (ret := some .int) (by decide) rfl ?_
  intro p e s m args below meth c s₁ B hml hv
  obtain ⟨rfl, hK, hP, hD, hZ⟩ := hv
  have S : Cx p m c meth cX5_takeOut 3 s _ RX5 (some .int) := ⟨⟨B.exec, B.bytes, hml, findClass_of_methodNamed B.named, fun w hw => atoms_spec (ws := ws_ yX5_takeOut cX5_takeOut 3 (some .int)) B.pre w (List.mem_cons_of_mem _ hw)⟩, B.returns, B.notSynchronized⟩
  have hl := lv_entry ([.ref a0, .int v1]) (n := 3) (Nat.le_of_ble_eq_true rfl)
  rw [lg_entry_eq]
  generalize (lg_sl ([.ref a0, .int v1]) ++ List.replicate (3 - (lg_sl ([.ref a0, .int v1])).length) Slot.unset).toArray = ls at hl ⊢
  exact (wB_X5_takeOut_0 S  M a0 v1 h) s.heap [] ls ⟨hK, hP, hD, va_S.rf, hZ⟩ hl
set_option maxRecDepth 100000 in
set_option maxHeartbeats 4000000 in
theorem wB_X5_lowestFloating_40 (S : Cx p m c meth cX5_lowestFloating 3 s args RX5 (some .int)) {Q : Int32 → MM → Prop} {K2 : MM → Nat → Nat → Int32 → Prop} (hK2 : ∀ (M : MM) (a0 : Nat) (a1 : Nat) (v2 : Int32), K2 M a0 a1 v2 → WG p l e rm_X5_lowestFloating s m args below meth c 0 0 (MQi below E Z args s Q) E Z M 2 3 [(0, .ref a0), (1, .ref a1), (2, .int v2)] []) (M : MM) (a0 : Nat) (a1 : Nat) (v2 : Int32) (h : B_X5_lowestFloating_40 Z Q K2 M a0 a1 v2) : WG p l e rm_X5_lowestFloating s m args below meth c 0 0 (MQi below E Z args s Q) E Z M 40 3 [(0, .ref a0), (1, .ref a1), (2, .int v2)] [] := by
  intro H locs ls hw hl
  have hx := S.1.1
  have hb := S.1.2.1
  refine lv_iinc (v := (v2 + 1)) (lv' := [(2, .int (v2 + 1)), (0, .ref a0), (1, .ref a1)]) hx hb dX5_lowestFloating_40 hl (k := 2) rfl rfl (by decide) rfl (fun ls hl => ?_)
  refine lv_goto (tgt := 2) hx hb dX5_lowestFloating_43 (by decide) ?_
  exact (hK2 _ _ _ _ h) H locs ls hw (lv_sub hl [1, 2, 0] rfl)
set_option maxRecDepth 100000 in
set_option maxHeartbeats 4000000 in
theorem wB_X5_lowestFloating_2 (S : Cx p m c meth cX5_lowestFloating 3 s args RX5 (some .int)) {Q : Int32 → MM → Prop} {K2 : MM → Nat → Nat → Int32 → Prop} (hK2 : ∀ (M : MM) (a0 : Nat) (a1 : Nat) (v2 : Int32), K2 M a0 a1 v2 → WG p l e rm_X5_lowestFloating s m args below meth c 0 0 (MQi below E Z args s Q) E Z M 2 3 [(0, .ref a0), (1, .ref a1), (2, .int v2)] []) (M : MM) (a0 : Nat) (a1 : Nat) (v2 : Int32) (h : B_X5_lowestFloating_2 Z Q K2 M a0 a1 v2) : WG p l e rm_X5_lowestFloating s m args below meth c 0 0 (MQi below E Z args s Q) E Z M 2 3 [(0, .ref a0), (1, .ref a1), (2, .int v2)] [] := by
  intro H locs ls hw hl
  have hx := S.1.1
  have hb := S.1.2.1
  refine lv_iload_n hx hb dX5_lowestFloating_2 rfl (lv_at hl 2 rfl) ?_
  refine lv_aload_n hx hb dX5_lowestFloating_3 rfl (lv_at hl 1 rfl) ?_
  obtain ⟨k_0, h⟩ := h
  refine cv_i (As := []) (rest := [.int v2]) S.1 hw (k_X1_cellCount l E Z M a1  _ h) wv_X5_212 yc_X1_cellCount ⟨rfl, rfl⟩ ⟨Nat.le_of_ble_eq_true rfl, Nat.le_of_ble_eq_true rfl⟩ rfl hl.1 (Nat.le_of_ble_eq_true rfl) (ci := 1) (q := (RX1, TX1, 12)) rfl rfl (by rw [k_0]; decide) (cell_1 k_0) ⟨Nat.le_of_ble_eq_true rfl, Nat.le_of_ble_eq_true rfl⟩ dX5_lowestFloating_4 (fun r4 M4 H locs h hw => ?_)
  refine lv_icmp_ge (tgt := 46) hx hb dX5_lowestFloating_7 (by decide) (fun q_7 => ?_) (fun q_7 => ?_)
  · have h := h.1 q_7
    refine lv_iconst (v := (-1)) hx hb dX5_lowestFloating_46 (by decide) ?_
    exact we_i S hw h dX5_lowestFloating_47
  · have h := h.2 q_7
    refine lv_aload_n hx hb dX5_lowestFloating_10 rfl (lv_at hl 0 rfl) ?_
    obtain ⟨k_1, h⟩ := h
    obtain ⟨y11_2, hy_2, h⟩ := h
    refine gf_X5_40 S.1 hw k_1 hy_2 dX5_lowestFloating_11 ?_
    refine lv_iload_n hx hb dX5_lowestFloating_14 rfl (lv_at hl 2 rfl) ?_
    obtain ⟨k_3, h⟩ := h
    refine cv_i (As := [.int v2]) (rest := []) S.1 hw (k_X0_isLoose l E Z M4 y11_2 v2 _ h) wv_X5_134 yc_X0_isLoose ⟨rfl, rfl⟩ ⟨Nat.le_of_ble_eq_true rfl, Nat.le_of_ble_eq_true rfl⟩ rfl hl.1 (Nat.le_of_ble_eq_true rfl) (ci := 0) (q := (RX0, TX0, 3)) rfl rfl (by rw [k_3]; decide) (cell_0 k_3) ⟨Nat.le_of_ble_eq_true rfl, Nat.le_of_ble_eq_true rfl⟩ dX5_lowestFloating_15 (fun r15 M15 H locs h hw => ?_)
    refine lv_if_eq (tgt := 40) hx hb dX5_lowestFloating_18 (by decide) (fun q_18 => ?_) (fun q_18 => ?_)
    · have h := h.1 q_18
      exact ((wB_X5_lowestFloating_40 S  hK2 _ _ _ _ h)) H locs ls hw (lv_sub hl [0, 1, 2] rfl)
    · have h := h.2 q_18
      refine lv_aload_n hx hb dX5_lowestFloating_21 rfl (lv_at hl 0 rfl) ?_
      obtain ⟨y22_4, hy_4, h⟩ := h
      refine gf_X5_47 S.1 hw k_1 hy_4 dX5_lowestFloating_22 ?_
      refine lv_aload_n hx hb dX5_lowestFloating_25 rfl (lv_at hl 1 rfl) ?_
      refine lv_aload_n hx hb dX5_lowestFloating_26 rfl (lv_at hl 0 rfl) ?_
      refine gf_X5_40 S.1 hw k_1 hy_2 dX5_lowestFloating_27 ?_
      refine lv_iload_n hx hb dX5_lowestFloating_30 rfl (lv_at hl 2 rfl) ?_
      obtain ⟨k_5, h⟩ := h
      refine cv_i (As := [.ref a1, .ref y11_2, .int v2]) (rest := []) S.1 hw (k_X4_search l E Z M15 y22_4 a1 y11_2 v2 _ h) wv_X5_138 yc_X4_search ⟨rfl, rfl⟩ ⟨Nat.le_of_ble_eq_true rfl, Nat.le_of_ble_eq_true rfl⟩ rfl hl.1 (Nat.le_of_ble_eq_true rfl) (ci := 4) (q := (RX4, TX4, 5)) rfl rfl (by rw [k_5]; decide) (cell_4 k_5) ⟨Nat.le_of_ble_eq_true rfl, Nat.le_of_ble_eq_true rfl⟩ dX5_lowestFloating_31 (fun r31 M31 H locs h hw => ?_)
      refine lv_iconst (v := (-1)) hx hb dX5_lowestFloating_34 (by decide) ?_
      refine lv_icmp_eq (tgt := 40) hx hb dX5_lowestFloating_35 (by decide) (fun q_35 => ?_) (fun q_35 => ?_)
      · have h := h.1 q_35
        exact ((wB_X5_lowestFloating_40 S  hK2 _ _ _ _ h)) H locs ls hw (lv_sub hl [0, 1, 2] rfl)
      · have h := h.2 q_35
        refine lv_iload_n hx hb dX5_lowestFloating_38 rfl (lv_at hl 2 rfl) ?_
        exact we_i S hw h dX5_lowestFloating_39
theorem wL_X5_lowestFloating_2 (S : Cx p m c meth cX5_lowestFloating 3 s args RX5 (some .int)) {Q : Int32 → MM → Prop}   : ∀ (n : Nat) (M : MM) (a0 : Nat) (a1 : Nat) (v2 : Int32), L_X5_lowestFloating_2 Z Q  n M a0 a1 v2 → WG p l e rm_X5_lowestFloating s m args below meth c 0 0 (MQi below E Z args s Q) E Z M 2 3 [(0, .ref a0), (1, .ref a1), (2, .int v2)] []
  | 0, _, _, _, _, h => False.elim h
  | n + 1, M, a0, a1, v2, h => wB_X5_lowestFloating_2 S  (wL_X5_lowestFloating_2 S   n) M a0 a1 v2 h
set_option maxRecDepth 100000 in
set_option maxHeartbeats 4000000 in
theorem wB_X5_lowestFloating_0 (S : Cx p m c meth cX5_lowestFloating 3 s args RX5 (some .int)) {Q : Int32 → MM → Prop}   (M : MM) (a0 : Nat) (a1 : Nat) (h : B_X5_lowestFloating_0 Z Q  M a0 a1) : WG p l e rm_X5_lowestFloating s m args below meth c 0 0 (MQi below E Z args s Q) E Z M 0 3 [(0, .ref a0), (1, .ref a1)] [] := by
  intro H locs ls hw hl
  have hx := S.1.1
  have hb := S.1.2.1
  refine lv_iconst (v := 0) hx hb dX5_lowestFloating_0 (by decide) ?_
  refine lv_istore_n (lv' := [(2, .int 0), (0, .ref a0), (1, .ref a1)]) hx hb dX5_lowestFloating_1 rfl hl (by decide) rfl (fun ls hl => ?_)
  exact ((Exists.elim h (fun n h => wL_X5_lowestFloating_2 S   n _ _ _ _ h))) H locs ls hw (lv_sub hl [1, 2, 0] rfl)
set_option maxRecDepth 100000 in
set_option maxHeartbeats 4000000 in
theorem k_X5_lowestFloating (l : Launch) (E : EE) (Z : ZZ) (M : MM) (a0 : Nat) (a1 : Nat) (Q : Int32 → MM → Prop) (h : P_X5_lowestFloating Z M a0 a1 Q) : Ct_i l yX5_lowestFloating cX5_lowestFloating 3 (some .int) rm_X5_lowestFloating E Z M [.ref a0, .ref a1] Q := by
  refine Met.ofW (cc := cX5_lowestFloating) (maxL := 3) (ret := some .int) (by decide) rfl ?_
  intro p e s m args below meth c s₁ B hml hv
  obtain ⟨rfl, hK, hP, hD, hZ⟩ := hv
  have S : Cx p m c meth cX5_lowestFloating 3 s _ RX5 (some .int) := ⟨⟨B.exec, B.bytes, hml, findClass_of_methodNamed B.named, fun w hw => atoms_spec (ws := ws_ yX5_lowestFloating cX5_lowestFloating 3 (some .int)) B.pre w (List.mem_cons_of_mem _ hw)⟩, B.returns, B.notSynchronized⟩
  have hl := lv_entry ([.ref a0, .ref a1]) (n := 3) (Nat.le_of_ble_eq_true rfl)
  rw [lg_entry_eq]
  generalize (lg_sl ([.ref a0, .ref a1]) ++ List.replicate (3 - (lg_sl ([.ref a0, .ref a1])).length) Slot.unset).toArray = ls at hl ⊢
  exact (wB_X5_lowestFloating_0 S  M a0 a1 h) s.heap [] ls ⟨hK, hP, hD, va_S.rf, hZ⟩ hl
set_option maxRecDepth 100000 in
set_option maxHeartbeats 4000000 in
theorem wB_X5_removeFloating_10 (S : Cx p m c meth cX5_removeFloating 4 s args RX5 (some .int)) {Q : Int32 → MM → Prop} {K10 : MM → Nat → Nat → Int32 → Prop} (hK10 : ∀ (M : MM) (a0 : Nat) (a1 : Nat) (v2 : Int32), K10 M a0 a1 v2 → WG p l e rm_X5_removeFloating s m args below meth c 0 0 (MQi below E Z args s Q) E Z M 10 4 [(0, .ref a0), (1, .ref a1), (2, .int v2)] []) (M : MM) (a0 : Nat) (a1 : Nat) (v2 : Int32) (h : B_X5_removeFloating_10 Z Q K10 M a0 a1 v2) : WG p l e rm_X5_removeFloating s m args below meth c 0 0 (MQi below E Z args s Q) E Z M 10 4 [(0, .ref a0), (1, .ref a1), (2, .int v2)] [] := by
  intro H locs ls hw hl
  have hx := S.1.1
  have hb := S.1.2.1
  refine lv_iload_n hx hb dX5_removeFloating_10 rfl (lv_at hl 2 rfl) ?_
  refine lv_bipush (v := 49) hx hb dX5_removeFloating_11 (by decide) ?_
  refine lv_icmp_ge (tgt := 53) hx hb dX5_removeFloating_13 (by decide) (fun q_13 => ?_) (fun q_13 => ?_)
  · have h := h.1 q_13
    refine lv_bipush (v := 49) hx hb dX5_removeFloating_53 (by decide) ?_
    exact we_i S hw h dX5_removeFloating_55
  · have h := h.2 q_13
    refine lv_aload_n hx hb dX5_removeFloating_16 rfl (lv_at hl 0 rfl) ?_
    refine lv_aload_n hx hb dX5_removeFloating_17 rfl (lv_at hl 1 rfl) ?_
    obtain ⟨k_0, h⟩ := h
    refine cv_i (As := [.ref a1]) (rest := []) S.1 hw (k_X5_lowestFloating l E Z M a0 a1 _ h) wv_X5_303 yc_X5_lowestFloating ⟨rfl, rfl⟩ ⟨Nat.le_of_ble_eq_true rfl, Nat.le_of_ble_eq_true rfl⟩ rfl hl.1 (Nat.le_of_ble_eq_true rfl) (ci := 5) (q := (RX5, TX5, 9)) rfl rfl (by rw [k_0]; decide) (cell_5 k_0) ⟨Nat.le_of_ble_eq_true rfl, Nat.le_of_ble_eq_true rfl⟩ dX5_removeFloating_18 (fun r18 M18 H locs h hw => ?_)
    refine lv_istore_n (lv' := [(3, .int r18), (0, .ref a0), (1, .ref a1), (2, .int v2)]) hx hb dX5_removeFloating_21 rfl hl (by decide) rfl (fun ls hl => ?_)
    refine lv_iload_n hx hb dX5_removeFloating_22 rfl (lv_at hl 0 rfl) ?_
    refine lv_iconst (v := (-1)) hx hb dX5_removeFloating_23 (by decide) ?_
    refine lv_icmp_ne (tgt := 29) hx hb dX5_removeFloating_24 (by decide) (fun q_24 => ?_) (fun q_24 => ?_)
    · have h := h.1 q_24
      refine lv_aload_n hx hb dX5_removeFloating_29 rfl (lv_at hl 2 rfl) ?_
      refine lv_aload_n hx hb dX5_removeFloating_30 rfl (lv_at hl 1 rfl) ?_
      obtain ⟨y31_1, hy_1, h⟩ := h
      refine gf_X5_40 S.1 hw k_0 hy_1 dX5_removeFloating_31 ?_
      refine lv_iload_n hx hb dX5_removeFloating_34 rfl (lv_at hl 0 rfl) ?_
      obtain ⟨k_2, h⟩ := h
      refine cv_i (As := [.ref y31_1, .int r18]) (rest := []) S.1 hw (k_X1_removeBlock l E Z M18 a1 y31_1 r18 _ h) wv_X5_144 yc_X1_removeBlock ⟨rfl, rfl⟩ ⟨Nat.le_of_ble_eq_true rfl, Nat.le_of_ble_eq_true rfl⟩ rfl hl.1 (Nat.le_of_ble_eq_true rfl) (ci := 1) (q := (RX1, TX1, 12)) rfl rfl (by rw [k_2]; decide) (cell_1 k_2) ⟨Nat.le_of_ble_eq_true rfl, Nat.le_of_ble_eq_true rfl⟩ dX5_removeFloating_35 (fun r35 M35 H locs h hw => ?_)
      refine lv_pop hx hb dX5_removeFloating_38 rfl ?_
      refine lv_aload_n hx hb dX5_removeFloating_39 rfl (lv_at hl 1 rfl) ?_
      refine gf_X5_40 S.1 hw k_0 hy_1 dX5_removeFloating_40 ?_
      refine lv_iload_n hx hb dX5_removeFloating_43 rfl (lv_at hl 0 rfl) ?_
      obtain ⟨k_3, h⟩ := h
      refine cv_v (As := [.int r18]) (rest := []) S.1 hw (k_X0_forget l E Z M35 y31_1 r18 _ h) wv_X5_306 yc_X0_forget ⟨rfl, rfl⟩ ⟨Nat.le_of_ble_eq_true rfl, Nat.le_of_ble_eq_true rfl⟩ rfl hl.1 (Nat.le_of_ble_eq_true rfl) (ci := 0) (q := (RX0, TX0, 3)) rfl rfl (by rw [k_3]; decide) (cell_0 k_3) ⟨Nat.le_of_ble_eq_true rfl, Nat.le_of_ble_eq_true rfl⟩ dX5_removeFloating_44 (fun M44 H locs h hw => ?_)
      refine lv_iinc (v := (v2 + 1)) (lv' := [(2, .int (v2 + 1)), (3, .int r18), (0, .ref a0), (1, .ref a1)]) hx hb dX5_removeFloating_47 hl (k := 3) rfl rfl (by decide) rfl (fun ls hl => ?_)
      refine lv_goto (tgt := 10) hx hb dX5_removeFloating_50 (by decide) ?_
      exact (hK10 _ _ _ _ h) H locs ls hw (lv_sub hl [2, 3, 0] rfl)
    · have h := h.2 q_24
      refine lv_iload_n hx hb dX5_removeFloating_27 rfl (lv_at hl 3 rfl) ?_
      exact we_i S hw h dX5_removeFloating_28
theorem wL_X5_removeFloating_10 (S : Cx p m c meth cX5_removeFloating 4 s args RX5 (some .int)) {Q : Int32 → MM → Prop}   : ∀ (n : Nat) (M : MM) (a0 : Nat) (a1 : Nat) (v2 : Int32), L_X5_removeFloating_10 Z Q  n M a0 a1 v2 → WG p l e rm_X5_removeFloating s m args below meth c 0 0 (MQi below E Z args s Q) E Z M 10 4 [(0, .ref a0), (1, .ref a1), (2, .int v2)] []
  | 0, _, _, _, _, h => False.elim h
  | n + 1, M, a0, a1, v2, h => wB_X5_removeFloating_10 S  (wL_X5_removeFloating_10 S   n) M a0 a1 v2 h
set_option maxRecDepth 100000 in
set_option maxHeartbeats 4000000 in
theorem wB_X5_removeFloating_0 (S : Cx p m c meth cX5_removeFloating 4 s args RX5 (some .int)) {Q : Int32 → MM → Prop}   (M : MM) (a0 : Nat) (a1 : Nat) (h : B_X5_removeFloating_0 Z Q  M a0 a1) : WG p l e rm_X5_removeFloating s m args below meth c 0 0 (MQi below E Z args s Q) E Z M 0 4 [(0, .ref a0), (1, .ref a1)] [] := by
  intro H locs ls hw hl
  have hx := S.1.1
  have hb := S.1.2.1
  refine lv_aload_n hx hb dX5_removeFloating_0 rfl (lv_at hl 0 rfl) ?_
  obtain ⟨k_0, h⟩ := h
  obtain ⟨y1_1, hy_1, h⟩ := h
  refine gf_X5_40 S.1 hw k_0 hy_1 dX5_removeFloating_1 ?_
  refine lv_aload_n hx hb dX5_removeFloating_4 rfl (lv_at hl 1 rfl) ?_
  obtain ⟨k_2, h⟩ := h
  refine cv_v (As := [.ref a1]) (rest := []) S.1 hw (k_X0_find l E Z M y1_1 a1 _ h) wv_X5_127 yc_X0_find ⟨rfl, rfl⟩ ⟨Nat.le_of_ble_eq_true rfl, Nat.le_of_ble_eq_true rfl⟩ rfl hl.1 (Nat.le_of_ble_eq_true rfl) (ci := 0) (q := (RX0, TX0, 3)) rfl rfl (by rw [k_2]; decide) (cell_0 k_2) ⟨Nat.le_of_ble_eq_true rfl, Nat.le_of_ble_eq_true rfl⟩ dX5_removeFloating_5 (fun M5 H locs h hw => ?_)
  refine lv_iconst (v := 0) hx hb dX5_removeFloating_8 (by decide) ?_
  refine lv_istore_n (lv' := [(2, .int 0), (0, .ref a0), (1, .ref a1)]) hx hb dX5_removeFloating_9 rfl hl (by decide) rfl (fun ls hl => ?_)
  exact ((Exists.elim h (fun n h => wL_X5_removeFloating_10 S   n _ _ _ _ h))) H locs ls hw (lv_sub hl [1, 2, 0] rfl)
set_option maxRecDepth 100000 in
set_option maxHeartbeats 4000000 in
theorem k_X5_removeFloating (l : Launch) (E : EE) (Z : ZZ) (M : MM) (a0 : Nat) (a1 : Nat) (Q : Int32 → MM → Prop) (h : P_X5_removeFloating Z M a0 a1 Q) : Ct_i l yX5_removeFloating cX5_removeFloating 4 (some .int) rm_X5_removeFloating E Z M [.ref a0, .ref a1] Q := by
  refine Met.ofW (cc := cX5_removeFloating) (maxL := 4) (ret := some .int) (by decide) rfl ?_
  intro p e s m args below meth c s₁ B hml hv
  obtain ⟨rfl, hK, hP, hD, hZ⟩ := hv
  have S : Cx p m c meth cX5_removeFloating 4 s _ RX5 (some .int) := ⟨⟨B.exec, B.bytes, hml, findClass_of_methodNamed B.named, fun w hw => atoms_spec (ws := ws_ yX5_removeFloating cX5_removeFloating 4 (some .int)) B.pre w (List.mem_cons_of_mem _ hw)⟩, B.returns, B.notSynchronized⟩
  have hl := lv_entry ([.ref a0, .ref a1]) (n := 4) (Nat.le_of_ble_eq_true rfl)
  rw [lg_entry_eq]
  generalize (lg_sl ([.ref a0, .ref a1]) ++ List.replicate (4 - (lg_sl ([.ref a0, .ref a1])).length) Slot.unset).toArray = ls at hl ⊢
  exact (wB_X5_removeFloating_0 S  M a0 a1 h) s.heap [] ls ⟨hK, hP, hD, va_S.rf, hZ⟩ hl
set_option maxRecDepth 100000 in
set_option maxHeartbeats 4000000 in
theorem wB_X5_takeAll_0 (S : Cx p m c meth cX5_takeAll 1 s args RX5 (some .int)) {Q : Int32 → MM → Prop}   (M : MM) (a0 : Nat) (h : B_X5_takeAll_0 Z Q  M a0) : WG p l e rm_X5_takeAll s m args below meth c 0 0 (MQi below E Z args s Q) E Z M 0 1 [(0, .ref a0)] [] := by
  intro H locs ls hw hl
  have hx := S.1.1
  have hb := S.1.2.1
  refine lv_aload_n hx hb dX5_takeAll_0 rfl (lv_at hl 0 rfl) ?_
  obtain ⟨k_0, h⟩ := h
  refine cv_v (As := []) (rest := []) S.1 hw (k_X5_saveState l E Z M a0  _ h) wv_X5_81 yc_X5_saveState ⟨rfl, rfl⟩ ⟨Nat.le_of_ble_eq_true rfl, Nat.le_of_ble_eq_true rfl⟩ rfl hl.1 (Nat.le_of_ble_eq_true rfl) (ci := 5) (q := (RX5, TX5, 9)) rfl rfl (by rw [k_0]; decide) (cell_5 k_0) ⟨Nat.le_of_ble_eq_true rfl, Nat.le_of_ble_eq_true rfl⟩ dX5_takeAll_1 (fun M1 H locs h hw => ?_)
  refine lv_aload_n hx hb dX5_takeAll_4 rfl (lv_at hl 0 rfl) ?_
  refine lv_aload_n hx hb dX5_takeAll_5 rfl (lv_at hl 0 rfl) ?_
  obtain ⟨y6_1, hy_1, h⟩ := h
  refine gf_X5_10 S.1 hw k_0 hy_1 dX5_takeAll_6 ?_
  refine cv_i (As := [.ref y6_1]) (rest := []) S.1 hw (k_X5_removeFloating l E Z M1 a0 y6_1 _ h) wv_X5_148 yc_X5_removeFloating ⟨rfl, rfl⟩ ⟨Nat.le_of_ble_eq_true rfl, Nat.le_of_ble_eq_true rfl⟩ rfl hl.1 (Nat.le_of_ble_eq_true rfl) (ci := 5) (q := (RX5, TX5, 9)) rfl rfl (by rw [k_0]; decide) (cell_5 k_0) ⟨Nat.le_of_ble_eq_true rfl, Nat.le_of_ble_eq_true rfl⟩ dX5_takeAll_9 (fun r9 M9 H locs h hw => ?_)
  exact we_i S hw h dX5_takeAll_12
set_option maxRecDepth 100000 in
set_option maxHeartbeats 4000000 in
theorem k_X5_takeAll (l : Launch) (E : EE) (Z : ZZ) (M : MM) (a0 : Nat) (Q : Int32 → MM → Prop) (h : P_X5_takeAll Z M a0 Q) : Ct_i l yX5_takeAll cX5_takeAll 1 (some .int) rm_X5_takeAll E Z M [.ref a0] Q := by
  refine Met.ofW (cc := cX5_takeAll) (maxL := 1) (ret := some .int) (by decide) rfl ?_
  intro p e s m args below meth c s₁ B hml hv
  obtain ⟨rfl, hK, hP, hD, hZ⟩ := hv
  have S : Cx p m c meth cX5_takeAll 1 s _ RX5 (some .int) := ⟨⟨B.exec, B.bytes, hml, findClass_of_methodNamed B.named, fun w hw => atoms_spec (ws := ws_ yX5_takeAll cX5_takeAll 1 (some .int)) B.pre w (List.mem_cons_of_mem _ hw)⟩, B.returns, B.notSynchronized⟩
  have hl := lv_entry ([.ref a0]) (n := 1) (Nat.le_of_ble_eq_true rfl)
  rw [lg_entry_eq]
  generalize (lg_sl ([.ref a0]) ++ List.replicate (1 - (lg_sl ([.ref a0])).length) Slot.unset).toArray = ls at hl ⊢
  exact (wB_X5_takeAll_0 S  M a0 h) s.heap [] ls ⟨hK, hP, hD, va_S.rf, hZ⟩ hl
set_option maxRecDepth 100000 in
set_option maxHeartbeats 4000000 in
theorem wB_X5_setMelt_0 (S : Cx p m c meth cX5_setMelt 3 s args RX5 (some .int)) {Q : Int32 → MM → Prop}   (M : MM) (a0 : Nat) (v1 : Int32) (h : B_X5_setMelt_0 Z Q XF  M a0 v1) : WG p l e rm_X5_setMelt s m args below meth c 0 0 (MQi below E Z args s Q) E Z M 0 3 [(0, .ref a0), (1, .int v1)] [] := by
  intro H locs ls hw hl
  have hx := S.1.1
  have hb := S.1.2.1
  refine lv_iload_n hx hb dX5_setMelt_0 rfl (lv_at hl 1 rfl) ?_
  refine lv_iconst (v := 0) hx hb dX5_setMelt_1 (by decide) ?_
  refine lv_bipush (v := 9) hx hb dX5_setMelt_2 (by decide) ?_
  refine cs_i (As := [.int v1, .int 0, .int 9]) (rest := []) S.1 hw (k_X5_isOutside l E Z M v1 0 9 _ h) wv_X5_70 yc_X5_isOutside ⟨rfl, rfl⟩ ⟨Nat.le_of_ble_eq_true rfl, Nat.le_of_ble_eq_true rfl⟩ rfl hl.1 (Nat.le_of_ble_eq_true rfl) ⟨Nat.le_of_ble_eq_true rfl, Nat.le_of_ble_eq_true rfl⟩ dX5_setMelt_4 (fun r4 M4 H locs h hw => ?_)
  refine lv_if_eq (tgt := 20) hx hb dX5_setMelt_7 (by decide) (fun q_7 => ?_) (fun q_7 => ?_)
  · have h := h.1 q_7
    refine lv_aload_n hx hb dX5_setMelt_20 rfl (lv_at hl 0 rfl) ?_
    obtain ⟨k_0, h⟩ := h
    refine cv_v (As := []) (rest := []) S.1 hw (k_X5_saveState l E Z M4 a0  _ h) wv_X5_81 yc_X5_saveState ⟨rfl, rfl⟩ ⟨Nat.le_of_ble_eq_true rfl, Nat.le_of_ble_eq_true rfl⟩ rfl hl.1 (Nat.le_of_ble_eq_true rfl) (ci := 5) (q := (RX5, TX5, 9)) rfl rfl (by rw [k_0]; decide) (cell_5 k_0) ⟨Nat.le_of_ble_eq_true rfl, Nat.le_of_ble_eq_true rfl⟩ dX5_setMelt_21 (fun M21 H locs h hw => ?_)
    refine lv_aload_n hx hb dX5_setMelt_24 rfl (lv_at hl 0 rfl) ?_
    obtain ⟨y25_1, hy_1, h⟩ := h
    refine gf_X5_10 S.1 hw k_0 hy_1 dX5_setMelt_25 ?_
    obtain ⟨k_2, h⟩ := h
    refine gf_X5_60 S.1 hw k_2 dX5_setMelt_28 ?_
    refine lv_istore_n (lv' := [(2, .int (mI M21 2 y25_1)), (0, .ref a0), (1, .int v1)]) hx hb dX5_setMelt_31 rfl hl (by decide) rfl (fun ls hl => ?_)
    refine lv_aload_n hx hb dX5_setMelt_32 rfl (lv_at hl 1 rfl) ?_
    refine gf_X5_10 S.1 hw k_0 hy_1 dX5_setMelt_33 ?_
    refine lv_iload_n hx hb dX5_setMelt_36 rfl (lv_at hl 2 rfl) ?_
    refine pf_X5_60 S.1 hw k_2 dX5_setMelt_37 (fun H locs hw => ?_)
    refine lv_iload_n hx hb dX5_setMelt_40 rfl (lv_at hl 0 rfl) ?_
    exact we_i S hw h dX5_setMelt_41
  · have h := h.2 q_7
    exact False.elim h
set_option maxRecDepth 100000 in
set_option maxHeartbeats 4000000 in
theorem k_X5_setMelt (l : Launch) (E : EE) (Z : ZZ) (M : MM) (a0 : Nat) (v1 : Int32) (Q : Int32 → MM → Prop) (h : P_X5_setMelt Z M a0 v1 Q XF) : Ct_i l yX5_setMelt cX5_setMelt 3 (some .int) rm_X5_setMelt E Z M [.ref a0, .int v1] Q := by
  refine Met.ofW (cc := cX5_setMelt) (maxL := 3) (ret := some .int) (by decide) rfl ?_
  intro p e s m args below meth c s₁ B hml hv
  obtain ⟨rfl, hK, hP, hD, hZ⟩ := hv
  have S : Cx p m c meth cX5_setMelt 3 s _ RX5 (some .int) := ⟨⟨B.exec, B.bytes, hml, findClass_of_methodNamed B.named, fun w hw => atoms_spec (ws := ws_ yX5_setMelt cX5_setMelt 3 (some .int)) B.pre w (List.mem_cons_of_mem _ hw)⟩, B.returns, B.notSynchronized⟩
  have hl := lv_entry ([.ref a0, .int v1]) (n := 3) (Nat.le_of_ble_eq_true rfl)
  rw [lg_entry_eq]
  generalize (lg_sl ([.ref a0, .int v1]) ++ List.replicate (3 - (lg_sl ([.ref a0, .int v1])).length) Slot.unset).toArray = ls at hl ⊢
  exact (wB_X5_setMelt_0 S  M a0 v1 h) s.heap [] ls ⟨hK, hP, hD, va_S.rf, hZ⟩ hl
set_option maxRecDepth 100000 in
set_option maxHeartbeats 4000000 in
theorem wB_X5_pass_34 (S : Cx p m c meth cX5_pass 4 s args RX5 (some .int)) {Q : Int32 → MM → Prop} {K34 : MM → Nat → Int32 → Int32 → Int32 → Prop} (hK34 : ∀ (M : MM) (a0 : Nat) (v1 : Int32) (v2 : Int32) (v3 : Int32), K34 M a0 v1 v2 v3 → WG p l e rm_X5_pass s m args below meth c 0 0 (MQi below E Z args s Q) E Z M 34 4 [(0, .ref a0), (1, .int v1), (2, .int v2), (3, .int v3)] []) (M : MM) (a0 : Nat) (v1 : Int32) (v2 : Int32) (v3 : Int32) (h : B_X5_pass_34 Z Q XF K34 M a0 v1 v2 v3) : WG p l e rm_X5_pass s m args below meth c 0 0 (MQi below E Z args s Q) E Z M 34 4 [(0, .ref a0), (1, .int v1), (2, .int v2), (3, .int v3)] [] := by
  intro H locs ls hw hl
  have hx := S.1.1
  have hb := S.1.2.1
  refine lv_iload_n hx hb dX5_pass_34 rfl (lv_at hl 3 rfl) ?_
  refine lv_iload_n hx hb dX5_pass_35 rfl (lv_at hl 1 rfl) ?_
  refine lv_icmp_ge (tgt := 52) hx hb dX5_pass_36 (by decide) (fun q_36 => ?_) (fun q_36 => ?_)
  · have h := h.1 q_36
    refine lv_aload_n hx hb dX5_pass_52 rfl (lv_at hl 0 rfl) ?_
    obtain ⟨k_0, h⟩ := h
    obtain ⟨y53_1, hy_1, h⟩ := h
    refine gf_X5_10 S.1 hw k_0 hy_1 dX5_pass_53 ?_
    obtain ⟨k_2, h⟩ := h
    refine gf_X5_156 S.1 hw k_2 dX5_pass_56 ?_
    refine lv_iload_n hx hb dX5_pass_59 rfl (lv_at hl 2 rfl) ?_
    refine lv_isub hx hb dX5_pass_60 ?_
    exact we_i S hw h dX5_pass_61
  · have h := h.2 q_36
    refine lv_aload_n hx hb dX5_pass_39 rfl (lv_at hl 0 rfl) ?_
    obtain ⟨k_3, h⟩ := h
    obtain ⟨y40_4, hy_4, h⟩ := h
    refine gf_X5_10 S.1 hw k_3 hy_4 dX5_pass_40 ?_
    obtain ⟨k_5, h⟩ := h
    refine cv_v (As := []) (rest := []) S.1 hw (k_X1_meltOneDay l E Z M y40_4  _ h) wv_X5_159 yc_X1_meltOneDay ⟨rfl, rfl⟩ ⟨Nat.le_of_ble_eq_true rfl, Nat.le_of_ble_eq_true rfl⟩ rfl hl.1 (Nat.le_of_ble_eq_true rfl) (ci := 1) (q := (RX1, TX1, 12)) rfl rfl (by rw [k_5]; decide) (cell_1 k_5) ⟨Nat.le_of_ble_eq_true rfl, Nat.le_of_ble_eq_true rfl⟩ dX5_pass_43 (fun M43 H locs h hw => ?_)
    refine lv_iinc (v := (v3 + 1)) (lv' := [(3, .int (v3 + 1)), (0, .ref a0), (1, .int v1), (2, .int v2)]) hx hb dX5_pass_46 hl (k := 3) rfl rfl (by decide) rfl (fun ls hl => ?_)
    refine lv_goto (tgt := 34) hx hb dX5_pass_49 (by decide) ?_
    exact (hK34 _ _ _ _ _ h) H locs ls hw (lv_sub hl [1, 2, 3, 0] rfl)
theorem wL_X5_pass_34 (S : Cx p m c meth cX5_pass 4 s args RX5 (some .int)) {Q : Int32 → MM → Prop}   : ∀ (n : Nat) (M : MM) (a0 : Nat) (v1 : Int32) (v2 : Int32) (v3 : Int32), L_X5_pass_34 Z Q XF  n M a0 v1 v2 v3 → WG p l e rm_X5_pass s m args below meth c 0 0 (MQi below E Z args s Q) E Z M 34 4 [(0, .ref a0), (1, .int v1), (2, .int v2), (3, .int v3)] []
  | 0, _, _, _, _, _, h => False.elim h
  | n + 1, M, a0, v1, v2, v3, h => wB_X5_pass_34 S  (wL_X5_pass_34 S   n) M a0 v1 v2 v3 h
set_option maxRecDepth 100000 in
set_option maxHeartbeats 4000000 in
theorem wB_X5_pass_0 (S : Cx p m c meth cX5_pass 4 s args RX5 (some .int)) {Q : Int32 → MM → Prop}   (M : MM) (a0 : Nat) (v1 : Int32) (h : B_X5_pass_0 Z Q XF  M a0 v1) : WG p l e rm_X5_pass s m args below meth c 0 0 (MQi below E Z args s Q) E Z M 0 4 [(0, .ref a0), (1, .int v1)] [] := by
  intro H locs ls hw hl
  have hx := S.1.1
  have hb := S.1.2.1
  refine lv_iload_n hx hb dX5_pass_0 rfl (lv_at hl 1 rfl) ?_
  refine lv_iconst (v := 1) hx hb dX5_pass_1 (by decide) ?_
  refine lv_bipush (v := 50) hx hb dX5_pass_2 (by decide) ?_
  refine cs_i (As := [.int v1, .int 1, .int 50]) (rest := []) S.1 hw (k_X5_isOutside l E Z M v1 1 50 _ h) wv_X5_70 yc_X5_isOutside ⟨rfl, rfl⟩ ⟨Nat.le_of_ble_eq_true rfl, Nat.le_of_ble_eq_true rfl⟩ rfl hl.1 (Nat.le_of_ble_eq_true rfl) ⟨Nat.le_of_ble_eq_true rfl, Nat.le_of_ble_eq_true rfl⟩ dX5_pass_4 (fun r4 M4 H locs h hw => ?_)
  refine lv_if_eq (tgt := 20) hx hb dX5_pass_7 (by decide) (fun q_7 => ?_) (fun q_7 => ?_)
  · have h := h.1 q_7
    refine lv_aload_n hx hb dX5_pass_20 rfl (lv_at hl 0 rfl) ?_
    obtain ⟨k_0, h⟩ := h
    refine cv_v (As := []) (rest := []) S.1 hw (k_X5_saveState l E Z M4 a0  _ h) wv_X5_81 yc_X5_saveState ⟨rfl, rfl⟩ ⟨Nat.le_of_ble_eq_true rfl, Nat.le_of_ble_eq_true rfl⟩ rfl hl.1 (Nat.le_of_ble_eq_true rfl) (ci := 5) (q := (RX5, TX5, 9)) rfl rfl (by rw [k_0]; decide) (cell_5 k_0) ⟨Nat.le_of_ble_eq_true rfl, Nat.le_of_ble_eq_true rfl⟩ dX5_pass_21 (fun M21 H locs h hw => ?_)
    refine lv_aload_n hx hb dX5_pass_24 rfl (lv_at hl 0 rfl) ?_
    obtain ⟨y25_1, hy_1, h⟩ := h
    refine gf_X5_10 S.1 hw k_0 hy_1 dX5_pass_25 ?_
    obtain ⟨k_2, h⟩ := h
    refine gf_X5_156 S.1 hw k_2 dX5_pass_28 ?_
    refine lv_istore_n (lv' := [(2, .int (mI M21 5 y25_1)), (0, .ref a0), (1, .int v1)]) hx hb dX5_pass_31 rfl hl (by decide) rfl (fun ls hl => ?_)
    refine lv_iconst (v := 0) hx hb dX5_pass_32 (by decide) ?_
    refine lv_istore_n (lv' := [(3, .int 0), (2, .int (mI M21 5 y25_1)), (0, .ref a0), (1, .int v1)]) hx hb dX5_pass_33 rfl hl (by decide) rfl (fun ls hl => ?_)
    exact ((Exists.elim h (fun n h => wL_X5_pass_34 S   n _ _ _ _ _ h))) H locs ls hw (lv_sub hl [2, 3, 1, 0] rfl)
  · have h := h.2 q_7
    exact False.elim h
set_option maxRecDepth 100000 in
set_option maxHeartbeats 4000000 in
theorem k_X5_pass (l : Launch) (E : EE) (Z : ZZ) (M : MM) (a0 : Nat) (v1 : Int32) (Q : Int32 → MM → Prop) (h : P_X5_pass Z M a0 v1 Q XF) : Ct_i l yX5_pass cX5_pass 4 (some .int) rm_X5_pass E Z M [.ref a0, .int v1] Q := by
  refine Met.ofW (cc := cX5_pass) (maxL := 4) (ret := some .int) (by decide) rfl ?_
  intro p e s m args below meth c s₁ B hml hv
  obtain ⟨rfl, hK, hP, hD, hZ⟩ := hv
  have S : Cx p m c meth cX5_pass 4 s _ RX5 (some .int) := ⟨⟨B.exec, B.bytes, hml, findClass_of_methodNamed B.named, fun w hw => atoms_spec (ws := ws_ yX5_pass cX5_pass 4 (some .int)) B.pre w (List.mem_cons_of_mem _ hw)⟩, B.returns, B.notSynchronized⟩
  have hl := lv_entry ([.ref a0, .int v1]) (n := 4) (Nat.le_of_ble_eq_true rfl)
  rw [lg_entry_eq]
  generalize (lg_sl ([.ref a0, .int v1]) ++ List.replicate (4 - (lg_sl ([.ref a0, .int v1])).length) Slot.unset).toArray = ls at hl ⊢
  exact (wB_X5_pass_0 S  M a0 v1 h) s.heap [] ls ⟨hK, hP, hD, va_S.rf, hZ⟩ hl
set_option maxRecDepth 100000 in
set_option maxHeartbeats 4000000 in
theorem wB_X5_cellFact_0 (S : Cx p m c meth cX5_cellFact 3 s args RX5 (some .int)) {Q : Int32 → MM → Prop}   (M : MM) (a0 : Nat) (v1 : Int32) (v2 : Int32) (h : B_X5_cellFact_0 Z Q  M a0 v1 v2) : WG p l e rm_X5_cellFact s m args below meth c 0 0 (MQi below E Z args s Q) E Z M 0 3 [(0, .ref a0), (1, .int v1), (2, .int v2)] [] := by
  intro H locs ls hw hl
  have hx := S.1.1
  have hb := S.1.2.1
  refine lv_iload_n hx hb dX5_cellFact_0 rfl (lv_at hl 2 rfl) ?_
  by_cases q_1_0 : v2 = 0
  · have h := h.1 q_1_0
    refine lv_lookup (tgt := 36) hx hb dX5_cellFact_1 (by decide) (by rw [q_1_0] <;> rfl) (by decide) ?_
    refine lv_aload_n hx hb dX5_cellFact_36 rfl (lv_at hl 0 rfl) ?_
    obtain ⟨k_0, h⟩ := h
    obtain ⟨y37_1, hy_1, h⟩ := h
    refine gf_X5_10 S.1 hw k_0 hy_1 dX5_cellFact_37 ?_
    obtain ⟨k_2, h⟩ := h
    obtain ⟨y40_3, hy_3, h⟩ := h
    refine gf_X5_92 S.1 hw k_2 hy_3 dX5_cellFact_40 ?_
    refine lv_iload_n hx hb dX5_cellFact_43 rfl (lv_at hl 1 rfl) ?_
    obtain ⟨k_4, h⟩ := h
    refine cv_i (As := [.int v1]) (rest := []) S.1 hw (k_X2_at l E Z M y40_3 v1 _ h) wv_X5_95 yc_X2_at ⟨rfl, rfl⟩ ⟨Nat.le_of_ble_eq_true rfl, Nat.le_of_ble_eq_true rfl⟩ rfl hl.1 (Nat.le_of_ble_eq_true rfl) (ci := 2) (q := (RX2, TX2, 1)) rfl rfl (by rw [k_4]; decide) (cell_2 k_4) ⟨Nat.le_of_ble_eq_true rfl, Nat.le_of_ble_eq_true rfl⟩ dX5_cellFact_44 (fun r44 M44 H locs h hw => ?_)
    exact we_i S hw h dX5_cellFact_47
  · have h := h.2 q_1_0
    by_cases q_1_1 : v2 = 5
    · have h := h.1 q_1_1
      refine lv_lookup (tgt := 48) hx hb dX5_cellFact_1 (by decide) (by rw [q_1_1] <;> rfl) (by decide) ?_
      refine lv_aload_n hx hb dX5_cellFact_48 rfl (lv_at hl 0 rfl) ?_
      obtain ⟨k_5, h⟩ := h
      obtain ⟨y49_6, hy_6, h⟩ := h
      refine gf_X5_40 S.1 hw k_5 hy_6 dX5_cellFact_49 ?_
      refine lv_iload_n hx hb dX5_cellFact_52 rfl (lv_at hl 1 rfl) ?_
      obtain ⟨k_7, h⟩ := h
      refine cv_i (As := [.int v1]) (rest := []) S.1 hw (k_X0_numberAt l E Z M y49_6 v1 _ h) wv_X5_131 yc_X0_numberAt ⟨rfl, rfl⟩ ⟨Nat.le_of_ble_eq_true rfl, Nat.le_of_ble_eq_true rfl⟩ rfl hl.1 (Nat.le_of_ble_eq_true rfl) (ci := 0) (q := (RX0, TX0, 3)) rfl rfl (by rw [k_7]; decide) (cell_0 k_7) ⟨Nat.le_of_ble_eq_true rfl, Nat.le_of_ble_eq_true rfl⟩ dX5_cellFact_53 (fun r53 M53 H locs h hw => ?_)
      exact we_i S hw h dX5_cellFact_56
    · have h := h.2 q_1_1
      by_cases q_1_2 : v2 = 6
      · have h := h.1 q_1_2
        refine lv_lookup (tgt := 57) hx hb dX5_cellFact_1 (by decide) (by rw [q_1_2] <;> rfl) (by decide) ?_
        refine lv_aload_n hx hb dX5_cellFact_57 rfl (lv_at hl 0 rfl) ?_
        obtain ⟨k_8, h⟩ := h
        obtain ⟨y58_9, hy_9, h⟩ := h
        refine gf_X5_10 S.1 hw k_8 hy_9 dX5_cellFact_58 ?_
        refine lv_iload_n hx hb dX5_cellFact_61 rfl (lv_at hl 1 rfl) ?_
        obtain ⟨k_10, h⟩ := h
        refine cv_i (As := [.int v1]) (rest := []) S.1 hw (k_X1_waterBeside l E Z M y58_9 v1 _ h) wv_X5_285 yc_X1_waterBeside ⟨rfl, rfl⟩ ⟨Nat.le_of_ble_eq_true rfl, Nat.le_of_ble_eq_true rfl⟩ rfl hl.1 (Nat.le_of_ble_eq_true rfl) (ci := 1) (q := (RX1, TX1, 12)) rfl rfl (by rw [k_10]; decide) (cell_1 k_10) ⟨Nat.le_of_ble_eq_true rfl, Nat.le_of_ble_eq_true rfl⟩ dX5_cellFact_62 (fun r62 M62 H locs h hw => ?_)
        exact we_i S hw h dX5_cellFact_65
      · have h := h.2 q_1_2
        have t_0 := lv_neT q_1_0 (a := 0) rfl
        have t_1 := lv_neT q_1_1 (a := 5) rfl
        have t_2 := lv_neT q_1_2 (a := 6) rfl
        refine lv_lookup (off := 65) (tgt := 66) hx hb dX5_cellFact_1 (by decide) (by rw [lv_osw q_1_0 (by decide), lv_osw q_1_1 (by decide), lv_osw q_1_2 (by decide)] <;> rfl) (by decide) ?_
        refine lv_aload_n hx hb dX5_cellFact_66 rfl (lv_at hl 0 rfl) ?_
        obtain ⟨k_11, h⟩ := h
        obtain ⟨y67_12, hy_12, h⟩ := h
        refine gf_X5_10 S.1 hw k_11 hy_12 dX5_cellFact_67 ?_
        refine lv_iload_n hx hb dX5_cellFact_70 rfl (lv_at hl 1 rfl) ?_
        refine lv_iload_n hx hb dX5_cellFact_71 rfl (lv_at hl 2 rfl) ?_
        refine lv_iconst (v := 1) hx hb dX5_cellFact_72 (by decide) ?_
        refine lv_isub hx hb dX5_cellFact_73 ?_
        obtain ⟨k_13, h⟩ := h
        refine cv_i (As := [.int v1, .int (v2 - 1)]) (rest := []) S.1 hw (k_X1_cutAt l E Z M y67_12 v1 (v2 - 1) _ h) wv_X5_288 yc_X1_cutAt ⟨rfl, rfl⟩ ⟨Nat.le_of_ble_eq_true rfl, Nat.le_of_ble_eq_true rfl⟩ rfl hl.1 (Nat.le_of_ble_eq_true rfl) (ci := 1) (q := (RX1, TX1, 12)) rfl rfl (by rw [k_13]; decide) (cell_1 k_13) ⟨Nat.le_of_ble_eq_true rfl, Nat.le_of_ble_eq_true rfl⟩ dX5_cellFact_74 (fun r74 M74 H locs h hw => ?_)
        exact we_i S hw h dX5_cellFact_77
set_option maxRecDepth 100000 in
set_option maxHeartbeats 4000000 in
theorem k_X5_cellFact (l : Launch) (E : EE) (Z : ZZ) (M : MM) (a0 : Nat) (v1 : Int32) (v2 : Int32) (Q : Int32 → MM → Prop) (h : P_X5_cellFact Z M a0 v1 v2 Q) : Ct_i l yX5_cellFact cX5_cellFact 3 (some .int) rm_X5_cellFact E Z M [.ref a0, .int v1, .int v2] Q := by
  refine Met.ofW (cc := cX5_cellFact) (maxL := 3) (ret := some .int) (by decide) rfl ?_
  intro p e s m args below meth c s₁ B hml hv
  obtain ⟨rfl, hK, hP, hD, hZ⟩ := hv
  have S : Cx p m c meth cX5_cellFact 3 s _ RX5 (some .int) := ⟨⟨B.exec, B.bytes, hml, findClass_of_methodNamed B.named, fun w hw => atoms_spec (ws := ws_ yX5_cellFact cX5_cellFact 3 (some .int)) B.pre w (List.mem_cons_of_mem _ hw)⟩, B.returns, B.notSynchronized⟩
  have hl := lv_entry ([.ref a0, .int v1, .int v2]) (n := 3) (Nat.le_of_ble_eq_true rfl)
  rw [lg_entry_eq]
  generalize (lg_sl ([.ref a0, .int v1, .int v2]) ++ List.replicate (3 - (lg_sl ([.ref a0, .int v1, .int v2])).length) Slot.unset).toArray = ls at hl ⊢
  exact (wB_X5_cellFact_0 S  M a0 v1 v2 h) s.heap [] ls ⟨hK, hP, hD, va_S.rf, hZ⟩ hl
set_option maxRecDepth 100000 in
set_option maxHeartbeats 4000000 in
theorem wB_X5_cell_41 (S : Cx p m c meth cX5_cell 3 s args RX5 (some .int)) {Q : Int32 → MM → Prop}   (M : MM) (a0 : Nat) (v1 : Int32) (v2 : Int32) (h : B_X5_cell_41 Z Q XF  M a0 v1 v2) : WG p l e rm_X5_cell s m args below meth c 0 0 (MQi below E Z args s Q) E Z M 41 3 [(0, .ref a0), (1, .int v1), (2, .int v2)] [] := by
  intro H locs ls hw hl
  have hx := S.1.1
  have hb := S.1.2.1
  refine lv_aload_n hx hb dX5_cell_41 rfl (lv_at hl 0 rfl) ?_
  refine lv_iload_n hx hb dX5_cell_42 rfl (lv_at hl 1 rfl) ?_
  refine lv_iload_n hx hb dX5_cell_43 rfl (lv_at hl 2 rfl) ?_
  obtain ⟨k_0, h⟩ := h
  refine cv_i (As := [.int v1, .int v2]) (rest := []) S.1 hw (k_X5_cellFact l E Z M a0 v1 v2 _ h) wv_X5_164 yc_X5_cellFact ⟨rfl, rfl⟩ ⟨Nat.le_of_ble_eq_true rfl, Nat.le_of_ble_eq_true rfl⟩ rfl hl.1 (Nat.le_of_ble_eq_true rfl) (ci := 5) (q := (RX5, TX5, 9)) rfl rfl (by rw [k_0]; decide) (cell_5 k_0) ⟨Nat.le_of_ble_eq_true rfl, Nat.le_of_ble_eq_true rfl⟩ dX5_cell_44 (fun r44 M44 H locs h hw => ?_)
  exact we_i S hw h dX5_cell_47
set_option maxRecDepth 100000 in
set_option maxHeartbeats 4000000 in
theorem wB_X5_cell_0 (S : Cx p m c meth cX5_cell 3 s args RX5 (some .int)) {Q : Int32 → MM → Prop}   (M : MM) (a0 : Nat) (v1 : Int32) (v2 : Int32) (h : B_X5_cell_0 Z Q XF  M a0 v1 v2) : WG p l e rm_X5_cell s m args below meth c 0 0 (MQi below E Z args s Q) E Z M 0 3 [(0, .ref a0), (1, .int v1), (2, .int v2)] [] := by
  intro H locs ls hw hl
  have hx := S.1.1
  have hb := S.1.2.1
  refine lv_aload_n hx hb dX5_cell_0 rfl (lv_at hl 0 rfl) ?_
  refine lv_iload_n hx hb dX5_cell_1 rfl (lv_at hl 1 rfl) ?_
  obtain ⟨k_0, h⟩ := h
  refine cv_v (As := [.int v1]) (rest := []) S.1 hw (k_X5_checkCell l E Z M a0 v1 _ h) wv_X5_87 yc_X5_checkCell ⟨rfl, rfl⟩ ⟨Nat.le_of_ble_eq_true rfl, Nat.le_of_ble_eq_true rfl⟩ rfl hl.1 (Nat.le_of_ble_eq_true rfl) (ci := 5) (q := (RX5, TX5, 9)) rfl rfl (by rw [k_0]; decide) (cell_5 k_0) ⟨Nat.le_of_ble_eq_true rfl, Nat.le_of_ble_eq_true rfl⟩ dX5_cell_2 (fun M2 H locs h hw => ?_)
  refine lv_iload_n hx hb dX5_cell_5 rfl (lv_at hl 2 rfl) ?_
  refine lv_iconst (v := 0) hx hb dX5_cell_6 (by decide) ?_
  refine lv_bipush (v := 6) hx hb dX5_cell_7 (by decide) ?_
  refine cs_i (As := [.int v2, .int 0, .int 6]) (rest := []) S.1 hw (k_X5_isOutside l E Z M2 v2 0 6 _ h) wv_X5_70 yc_X5_isOutside ⟨rfl, rfl⟩ ⟨Nat.le_of_ble_eq_true rfl, Nat.le_of_ble_eq_true rfl⟩ rfl hl.1 (Nat.le_of_ble_eq_true rfl) ⟨Nat.le_of_ble_eq_true rfl, Nat.le_of_ble_eq_true rfl⟩ dX5_cell_9 (fun r9 M9 H locs h hw => ?_)
  refine lv_if_eq (tgt := 25) hx hb dX5_cell_12 (by decide) (fun q_12 => ?_) (fun q_12 => ?_)
  · have h := h.1 q_12
    refine lv_iload_n hx hb dX5_cell_25 rfl (lv_at hl 2 rfl) ?_
    refine lv_iconst (v := 5) hx hb dX5_cell_26 (by decide) ?_
    refine lv_icmp_ne (tgt := 41) hx hb dX5_cell_27 (by decide) (fun q_27 => ?_) (fun q_27 => ?_)
    · have h := h.1 q_27
      exact ((wB_X5_cell_41 S   _ _ _ _ h)) H locs ls hw (lv_sub hl [0, 1, 2] rfl)
    · have h := h.2 q_27
      refine lv_aload_n hx hb dX5_cell_30 rfl (lv_at hl 0 rfl) ?_
      obtain ⟨y31_1, hy_1, h⟩ := h
      refine gf_X5_40 S.1 hw k_0 hy_1 dX5_cell_31 ?_
      refine lv_aload_n hx hb dX5_cell_34 rfl (lv_at hl 0 rfl) ?_
      obtain ⟨y35_2, hy_2, h⟩ := h
      refine gf_X5_10 S.1 hw k_0 hy_2 dX5_cell_35 ?_
      obtain ⟨k_3, h⟩ := h
      refine cv_v (As := [.ref y35_2]) (rest := []) S.1 hw (k_X0_find l E Z M9 y31_1 y35_2 _ h) wv_X5_127 yc_X0_find ⟨rfl, rfl⟩ ⟨Nat.le_of_ble_eq_true rfl, Nat.le_of_ble_eq_true rfl⟩ rfl hl.1 (Nat.le_of_ble_eq_true rfl) (ci := 0) (q := (RX0, TX0, 3)) rfl rfl (by rw [k_3]; decide) (cell_0 k_3) ⟨Nat.le_of_ble_eq_true rfl, Nat.le_of_ble_eq_true rfl⟩ dX5_cell_38 (fun M38 H locs h hw => ?_)
      exact ((wB_X5_cell_41 S   _ _ _ _ h)) H locs ls hw (lv_sub hl [0, 1, 2] rfl)
  · have h := h.2 q_12
    exact False.elim h
set_option maxRecDepth 100000 in
set_option maxHeartbeats 4000000 in
theorem k_X5_cell (l : Launch) (E : EE) (Z : ZZ) (M : MM) (a0 : Nat) (v1 : Int32) (v2 : Int32) (Q : Int32 → MM → Prop) (h : P_X5_cell Z M a0 v1 v2 Q XF) : Ct_i l yX5_cell cX5_cell 3 (some .int) rm_X5_cell E Z M [.ref a0, .int v1, .int v2] Q := by
  refine Met.ofW (cc := cX5_cell) (maxL := 3) (ret := some .int) (by decide) rfl ?_
  intro p e s m args below meth c s₁ B hml hv
  obtain ⟨rfl, hK, hP, hD, hZ⟩ := hv
  have S : Cx p m c meth cX5_cell 3 s _ RX5 (some .int) := ⟨⟨B.exec, B.bytes, hml, findClass_of_methodNamed B.named, fun w hw => atoms_spec (ws := ws_ yX5_cell cX5_cell 3 (some .int)) B.pre w (List.mem_cons_of_mem _ hw)⟩, B.returns, B.notSynchronized⟩
  have hl := lv_entry ([.ref a0, .int v1, .int v2]) (n := 3) (Nat.le_of_ble_eq_true rfl)
  rw [lg_entry_eq]
  generalize (lg_sl ([.ref a0, .int v1, .int v2]) ++ List.replicate (3 - (lg_sl ([.ref a0, .int v1, .int v2])).length) Slot.unset).toArray = ls at hl ⊢
  exact (wB_X5_cell_0 S  M a0 v1 v2 h) s.heap [] ls ⟨hK, hP, hD, va_S.rf, hZ⟩ hl
set_option maxRecDepth 100000 in
set_option maxHeartbeats 4000000 in
theorem wB_X5_findWayOf_36 (S : Cx p m c meth cX5_findWayOf 2 s args RX5 (none)) {Q : MM → Prop}   (M : MM) (t0 : Int32) (t1 : Int32) (t2 : Nat) (h : B_X5_findWayOf_36 Z Q  M t0 t1 t2) : WG p l e rm_X5_findWayOf s m args below meth c 0 0 (MQv below E Z args s Q) E Z M 36 2 [] [.int t0, .int t1, .ref t2] := by
  intro H locs ls hw hl
  have hx := S.1.1
  have hb := S.1.2.1
  obtain ⟨k_0, h⟩ := h
  refine cv_v (As := [.int t1, .int t0]) (rest := []) S.1 hw (k_X2_put l E Z M t2 t1 t0 _ h) wv_X5_300 yc_X2_put ⟨rfl, rfl⟩ ⟨Nat.le_of_ble_eq_true rfl, Nat.le_of_ble_eq_true rfl⟩ rfl hl.1 (Nat.le_of_ble_eq_true rfl) (ci := 2) (q := (RX2, TX2, 1)) rfl rfl (by rw [k_0]; decide) (cell_2 k_0) ⟨Nat.le_of_ble_eq_true rfl, Nat.le_of_ble_eq_true rfl⟩ dX5_findWayOf_36 (fun M36 H locs h hw => ?_)
  exact we_v S hw h dX5_findWayOf_39
set_option maxRecDepth 100000 in
set_option maxHeartbeats 4000000 in
theorem wB_X5_findWayOf_0 (S : Cx p m c meth cX5_findWayOf 2 s args RX5 (none)) {Q : MM → Prop}   (M : MM) (a0 : Nat) (v1 : Int32) (h : B_X5_findWayOf_0 Z Q  M a0 v1) : WG p l e rm_X5_findWayOf s m args below meth c 0 0 (MQv below E Z args s Q) E Z M 0 2 [(0, .ref a0), (1, .int v1)] [] := by
  intro H locs ls hw hl
  have hx := S.1.1
  have hb := S.1.2.1
  refine lv_aload_n hx hb dX5_findWayOf_0 rfl (lv_at hl 0 rfl) ?_
  obtain ⟨k_0, h⟩ := h
  obtain ⟨y1_1, hy_1, h⟩ := h
  refine gf_X5_56 S.1 hw k_0 hy_1 dX5_findWayOf_1 ?_
  refine lv_iload_n hx hb dX5_findWayOf_4 rfl (lv_at hl 1 rfl) ?_
  refine lv_aload_n hx hb dX5_findWayOf_5 rfl (lv_at hl 0 rfl) ?_
  obtain ⟨y6_2, hy_2, h⟩ := h
  refine gf_X5_40 S.1 hw k_0 hy_2 dX5_findWayOf_6 ?_
  refine lv_iload_n hx hb dX5_findWayOf_9 rfl (lv_at hl 1 rfl) ?_
  obtain ⟨k_3, h⟩ := h
  refine cv_i (As := [.int v1]) (rest := [.int v1, .ref y1_1]) S.1 hw (k_X0_isLoose l E Z M y6_2 v1 _ h) wv_X5_134 yc_X0_isLoose ⟨rfl, rfl⟩ ⟨Nat.le_of_ble_eq_true rfl, Nat.le_of_ble_eq_true rfl⟩ rfl hl.1 (Nat.le_of_ble_eq_true rfl) (ci := 0) (q := (RX0, TX0, 3)) rfl rfl (by rw [k_3]; decide) (cell_0 k_3) ⟨Nat.le_of_ble_eq_true rfl, Nat.le_of_ble_eq_true rfl⟩ dX5_findWayOf_10 (fun r10 M10 H locs h hw => ?_)
  refine lv_if_eq (tgt := 35) hx hb dX5_findWayOf_13 (by decide) (fun q_13 => ?_) (fun q_13 => ?_)
  · have h := h.1 q_13
    refine lv_iconst (v := (-1)) hx hb dX5_findWayOf_35 (by decide) ?_
    exact ((wB_X5_findWayOf_36 S   _ _ _ _ h)) H locs ls hw (lv_sub hl [] rfl)
  · have h := h.2 q_13
    refine lv_aload_n hx hb dX5_findWayOf_16 rfl (lv_at hl 0 rfl) ?_
    obtain ⟨y17_4, hy_4, h⟩ := h
    refine gf_X5_47 S.1 hw k_0 hy_4 dX5_findWayOf_17 ?_
    refine lv_aload_n hx hb dX5_findWayOf_20 rfl (lv_at hl 0 rfl) ?_
    obtain ⟨y21_5, hy_5, h⟩ := h
    refine gf_X5_10 S.1 hw k_0 hy_5 dX5_findWayOf_21 ?_
    refine lv_aload_n hx hb dX5_findWayOf_24 rfl (lv_at hl 0 rfl) ?_
    refine gf_X5_40 S.1 hw k_0 hy_2 dX5_findWayOf_25 ?_
    refine lv_iload_n hx hb dX5_findWayOf_28 rfl (lv_at hl 1 rfl) ?_
    obtain ⟨k_6, h⟩ := h
    refine cv_i (As := [.ref y21_5, .ref y6_2, .int v1]) (rest := [.int v1, .ref y1_1]) S.1 hw (k_X4_search l E Z M10 y17_4 y21_5 y6_2 v1 _ h) wv_X5_138 yc_X4_search ⟨rfl, rfl⟩ ⟨Nat.le_of_ble_eq_true rfl, Nat.le_of_ble_eq_true rfl⟩ rfl hl.1 (Nat.le_of_ble_eq_true rfl) (ci := 4) (q := (RX4, TX4, 5)) rfl rfl (by rw [k_6]; decide) (cell_4 k_6) ⟨Nat.le_of_ble_eq_true rfl, Nat.le_of_ble_eq_true rfl⟩ dX5_findWayOf_29 (fun r29 M29 H locs h hw => ?_)
    refine lv_goto (tgt := 36) hx hb dX5_findWayOf_32 (by decide) ?_
    exact ((wB_X5_findWayOf_36 S   _ _ _ _ h)) H locs ls hw (lv_sub hl [] rfl)
set_option maxRecDepth 100000 in
set_option maxHeartbeats 4000000 in
theorem k_X5_findWayOf (l : Launch) (E : EE) (Z : ZZ) (M : MM) (a0 : Nat) (v1 : Int32) (Q : MM → Prop) (h : P_X5_findWayOf Z M a0 v1 Q) : Ct_v l yX5_findWayOf cX5_findWayOf 2 (none) rm_X5_findWayOf E Z M [.ref a0, .int v1] Q := by
  refine Met.ofW (cc := cX5_findWayOf) (maxL := 2) (ret := none) (by decide) rfl ?_
  intro p e s m args below meth c s₁ B hml hv
  obtain ⟨rfl, hK, hP, hD, hZ⟩ := hv
  have S : Cx p m c meth cX5_findWayOf 2 s _ RX5 (none) := ⟨⟨B.exec, B.bytes, hml, findClass_of_methodNamed B.named, fun w hw => atoms_spec (ws := ws_ yX5_findWayOf cX5_findWayOf 2 (none)) B.pre w (List.mem_cons_of_mem _ hw)⟩, B.returns, B.notSynchronized⟩
  have hl := lv_entry ([.ref a0, .int v1]) (n := 2) (Nat.le_of_ble_eq_true rfl)
  rw [lg_entry_eq]
  generalize (lg_sl ([.ref a0, .int v1]) ++ List.replicate (2 - (lg_sl ([.ref a0, .int v1])).length) Slot.unset).toArray = ls at hl ⊢
  exact (wB_X5_findWayOf_0 S  M a0 v1 h) s.heap [] ls ⟨hK, hP, hD, va_S.rf, hZ⟩ hl
set_option maxRecDepth 100000 in
set_option maxHeartbeats 4000000 in
theorem wB_X5_blockFact_0 (S : Cx p m c meth cX5_blockFact 4 s args RX5 (some .int)) {Q : Int32 → MM → Prop}   (M : MM) (a0 : Nat) (v1 : Int32) (v2 : Int32) (h : B_X5_blockFact_0 Z Q  M a0 v1 v2) : WG p l e rm_X5_blockFact s m args below meth c 0 0 (MQi below E Z args s Q) E Z M 0 4 [(0, .ref a0), (1, .int v1), (2, .int v2)] [] := by
  intro H locs ls hw hl
  have hx := S.1.1
  have hb := S.1.2.1
  refine lv_aload_n hx hb dX5_blockFact_0 rfl (lv_at hl 0 rfl) ?_
  obtain ⟨k_0, h⟩ := h
  obtain ⟨y1_1, hy_1, h⟩ := h
  refine gf_X5_40 S.1 hw k_0 hy_1 dX5_blockFact_1 ?_
  refine lv_iload_n hx hb dX5_blockFact_4 rfl (lv_at hl 1 rfl) ?_
  obtain ⟨k_2, h⟩ := h
  refine cv_i (As := [.int v1]) (rest := []) S.1 hw (k_X0_numberAt l E Z M y1_1 v1 _ h) wv_X5_131 yc_X0_numberAt ⟨rfl, rfl⟩ ⟨Nat.le_of_ble_eq_true rfl, Nat.le_of_ble_eq_true rfl⟩ rfl hl.1 (Nat.le_of_ble_eq_true rfl) (ci := 0) (q := (RX0, TX0, 3)) rfl rfl (by rw [k_2]; decide) (cell_0 k_2) ⟨Nat.le_of_ble_eq_true rfl, Nat.le_of_ble_eq_true rfl⟩ dX5_blockFact_5 (fun r5 M5 H locs h hw => ?_)
  refine lv_istore_n (lv' := [(3, .int r5), (0, .ref a0), (1, .int v1), (2, .int v2)]) hx hb dX5_blockFact_8 rfl hl (by decide) rfl (fun ls hl => ?_)
  refine lv_iload_n hx hb dX5_blockFact_9 rfl (lv_at hl 0 rfl) ?_
  refine lv_iconst (v := (-1)) hx hb dX5_blockFact_10 (by decide) ?_
  refine lv_icmp_ne (tgt := 16) hx hb dX5_blockFact_11 (by decide) (fun q_11 => ?_) (fun q_11 => ?_)
  · have h := h.1 q_11
    refine lv_iload_n hx hb dX5_blockFact_16 rfl (lv_at hl 3 rfl) ?_
    by_cases q_17_0 : v2 = 0
    · have h := h.1 q_17_0
      refine lv_tableIn (tgt := 48) hx hb dX5_blockFact_17 (by rw [q_17_0]; decide) (by rw [q_17_0]; decide) (by rw [q_17_0]; rfl) (by decide) ?_
      refine lv_iload_n hx hb dX5_blockFact_48 rfl (lv_at hl 0 rfl) ?_
      exact we_i S hw h dX5_blockFact_49
    · have h := h.2 q_17_0
      by_cases q_17_1 : v2 = 1
      · have h := h.1 q_17_1
        refine lv_tableIn (tgt := 50) hx hb dX5_blockFact_17 (by rw [q_17_1]; decide) (by rw [q_17_1]; decide) (by rw [q_17_1]; rfl) (by decide) ?_
        refine lv_aload_n hx hb dX5_blockFact_50 rfl (lv_at hl 1 rfl) ?_
        refine gf_X5_40 S.1 hw k_0 hy_1 dX5_blockFact_51 ?_
        refine lv_iload_n hx hb dX5_blockFact_54 rfl (lv_at hl 0 rfl) ?_
        refine cv_i (As := [.int r5]) (rest := []) S.1 hw (k_X0_sizeOf l E Z M5 y1_1 r5 _ h) wv_X5_291 yc_X0_sizeOf ⟨rfl, rfl⟩ ⟨Nat.le_of_ble_eq_true rfl, Nat.le_of_ble_eq_true rfl⟩ rfl hl.1 (Nat.le_of_ble_eq_true rfl) (ci := 0) (q := (RX0, TX0, 3)) rfl rfl (by rw [k_2]; decide) (cell_0 k_2) ⟨Nat.le_of_ble_eq_true rfl, Nat.le_of_ble_eq_true rfl⟩ dX5_blockFact_55 (fun r55 M55 H locs h hw => ?_)
        exact we_i S hw h dX5_blockFact_58
      · have h := h.2 q_17_1
        by_cases q_17_2 : v2 = 2
        · have h := h.1 q_17_2
          refine lv_tableIn (tgt := 59) hx hb dX5_blockFact_17 (by rw [q_17_2]; decide) (by rw [q_17_2]; decide) (by rw [q_17_2]; rfl) (by decide) ?_
          refine lv_aload_n hx hb dX5_blockFact_59 rfl (lv_at hl 1 rfl) ?_
          obtain ⟨y60_3, hy_3, h⟩ := h
          refine gf_X5_10 S.1 hw k_0 hy_3 dX5_blockFact_60 ?_
          refine lv_aload_n hx hb dX5_blockFact_63 rfl (lv_at hl 1 rfl) ?_
          refine gf_X5_40 S.1 hw k_0 hy_1 dX5_blockFact_64 ?_
          refine lv_iload_n hx hb dX5_blockFact_67 rfl (lv_at hl 0 rfl) ?_
          obtain ⟨k_4, h⟩ := h
          refine cv_i (As := [.ref y1_1, .int r5]) (rest := []) S.1 hw (k_X1_volumeOf l E Z M5 y60_3 y1_1 r5 _ h) wv_X5_294 yc_X1_volumeOf ⟨rfl, rfl⟩ ⟨Nat.le_of_ble_eq_true rfl, Nat.le_of_ble_eq_true rfl⟩ rfl hl.1 (Nat.le_of_ble_eq_true rfl) (ci := 1) (q := (RX1, TX1, 12)) rfl rfl (by rw [k_4]; decide) (cell_1 k_4) ⟨Nat.le_of_ble_eq_true rfl, Nat.le_of_ble_eq_true rfl⟩ dX5_blockFact_68 (fun r68 M68 H locs h hw => ?_)
          exact we_i S hw h dX5_blockFact_71
        · have h := h.2 q_17_2
          by_cases q_17_3 : v2 = 3
          · have h := h.1 q_17_3
            refine lv_tableIn (tgt := 72) hx hb dX5_blockFact_17 (by rw [q_17_3]; decide) (by rw [q_17_3]; decide) (by rw [q_17_3]; rfl) (by decide) ?_
            refine lv_aload_n hx hb dX5_blockFact_72 rfl (lv_at hl 1 rfl) ?_
            refine gf_X5_40 S.1 hw k_0 hy_1 dX5_blockFact_73 ?_
            refine lv_iload_n hx hb dX5_blockFact_76 rfl (lv_at hl 0 rfl) ?_
            refine cv_i (As := [.int r5]) (rest := []) S.1 hw (k_X0_isLoose l E Z M5 y1_1 r5 _ h) wv_X5_134 yc_X0_isLoose ⟨rfl, rfl⟩ ⟨Nat.le_of_ble_eq_true rfl, Nat.le_of_ble_eq_true rfl⟩ rfl hl.1 (Nat.le_of_ble_eq_true rfl) (ci := 0) (q := (RX0, TX0, 3)) rfl rfl (by rw [k_2]; decide) (cell_0 k_2) ⟨Nat.le_of_ble_eq_true rfl, Nat.le_of_ble_eq_true rfl⟩ dX5_blockFact_77 (fun r77 M77 H locs h hw => ?_)
            refine lv_if_eq (tgt := 87) hx hb dX5_blockFact_80 (by decide) (fun q_80 => ?_) (fun q_80 => ?_)
            · have h := h.1 q_80
              refine lv_iconst (v := 1) hx hb dX5_blockFact_87 (by decide) ?_
              exact we_i S hw h dX5_blockFact_88
            · have h := h.2 q_80
              refine lv_iconst (v := 0) hx hb dX5_blockFact_83 (by decide) ?_
              refine lv_goto (tgt := 88) hx hb dX5_blockFact_84 (by decide) ?_
              exact we_i S hw h dX5_blockFact_88
          · have h := h.2 q_17_3
            have t_0 := lv_neT q_17_0 (a := 0) rfl
            have t_1 := lv_neT q_17_1 (a := 1) rfl
            have t_2 := lv_neT q_17_2 (a := 2) rfl
            have t_3 := lv_neT q_17_3 (a := 3) rfl
            refine lv_tableOut (tgt := 89) hx hb dX5_blockFact_17 (by omega) (by decide) ?_
            refine lv_aload_n hx hb dX5_blockFact_89 rfl (lv_at hl 1 rfl) ?_
            obtain ⟨y90_5, hy_5, h⟩ := h
            refine gf_X5_56 S.1 hw k_0 hy_5 dX5_blockFact_90 ?_
            refine lv_iload_n hx hb dX5_blockFact_93 rfl (lv_at hl 0 rfl) ?_
            obtain ⟨k_6, h⟩ := h
            refine cv_i (As := [.int r5]) (rest := []) S.1 hw (k_X2_at l E Z M5 y90_5 r5 _ h) wv_X5_95 yc_X2_at ⟨rfl, rfl⟩ ⟨Nat.le_of_ble_eq_true rfl, Nat.le_of_ble_eq_true rfl⟩ rfl hl.1 (Nat.le_of_ble_eq_true rfl) (ci := 2) (q := (RX2, TX2, 1)) rfl rfl (by rw [k_6]; decide) (cell_2 k_6) ⟨Nat.le_of_ble_eq_true rfl, Nat.le_of_ble_eq_true rfl⟩ dX5_blockFact_94 (fun r94 M94 H locs h hw => ?_)
            exact we_i S hw h dX5_blockFact_97
  · have h := h.2 q_11
    refine lv_iconst (v := (-1)) hx hb dX5_blockFact_14 (by decide) ?_
    exact we_i S hw h dX5_blockFact_15
set_option maxRecDepth 100000 in
set_option maxHeartbeats 4000000 in
theorem k_X5_blockFact (l : Launch) (E : EE) (Z : ZZ) (M : MM) (a0 : Nat) (v1 : Int32) (v2 : Int32) (Q : Int32 → MM → Prop) (h : P_X5_blockFact Z M a0 v1 v2 Q) : Ct_i l yX5_blockFact cX5_blockFact 4 (some .int) rm_X5_blockFact E Z M [.ref a0, .int v1, .int v2] Q := by
  refine Met.ofW (cc := cX5_blockFact) (maxL := 4) (ret := some .int) (by decide) rfl ?_
  intro p e s m args below meth c s₁ B hml hv
  obtain ⟨rfl, hK, hP, hD, hZ⟩ := hv
  have S : Cx p m c meth cX5_blockFact 4 s _ RX5 (some .int) := ⟨⟨B.exec, B.bytes, hml, findClass_of_methodNamed B.named, fun w hw => atoms_spec (ws := ws_ yX5_blockFact cX5_blockFact 4 (some .int)) B.pre w (List.mem_cons_of_mem _ hw)⟩, B.returns, B.notSynchronized⟩
  have hl := lv_entry ([.ref a0, .int v1, .int v2]) (n := 4) (Nat.le_of_ble_eq_true rfl)
  rw [lg_entry_eq]
  generalize (lg_sl ([.ref a0, .int v1, .int v2]) ++ List.replicate (4 - (lg_sl ([.ref a0, .int v1, .int v2])).length) Slot.unset).toArray = ls at hl ⊢
  exact (wB_X5_blockFact_0 S  M a0 v1 v2 h) s.heap [] ls ⟨hK, hP, hD, va_S.rf, hZ⟩ hl
set_option maxRecDepth 100000 in
set_option maxHeartbeats 4000000 in
theorem wB_X5_block_52 (S : Cx p m c meth cX5_block 3 s args RX5 (some .int)) {Q : Int32 → MM → Prop}   (M : MM) (a0 : Nat) (v1 : Int32) (v2 : Int32) (h : B_X5_block_52 Z Q XF  M a0 v1 v2) : WG p l e rm_X5_block s m args below meth c 0 0 (MQi below E Z args s Q) E Z M 52 3 [(0, .ref a0), (1, .int v1), (2, .int v2)] [] := by
  intro H locs ls hw hl
  have hx := S.1.1
  have hb := S.1.2.1
  refine lv_aload_n hx hb dX5_block_52 rfl (lv_at hl 0 rfl) ?_
  refine lv_iload_n hx hb dX5_block_53 rfl (lv_at hl 1 rfl) ?_
  refine lv_iload_n hx hb dX5_block_54 rfl (lv_at hl 2 rfl) ?_
  obtain ⟨k_0, h⟩ := h
  refine cv_i (As := [.int v1, .int v2]) (rest := []) S.1 hw (k_X5_blockFact l E Z M a0 v1 v2 _ h) wv_X5_170 yc_X5_blockFact ⟨rfl, rfl⟩ ⟨Nat.le_of_ble_eq_true rfl, Nat.le_of_ble_eq_true rfl⟩ rfl hl.1 (Nat.le_of_ble_eq_true rfl) (ci := 5) (q := (RX5, TX5, 9)) rfl rfl (by rw [k_0]; decide) (cell_5 k_0) ⟨Nat.le_of_ble_eq_true rfl, Nat.le_of_ble_eq_true rfl⟩ dX5_block_55 (fun r55 M55 H locs h hw => ?_)
  exact we_i S hw h dX5_block_58
set_option maxRecDepth 100000 in
set_option maxHeartbeats 4000000 in
theorem wB_X5_block_0 (S : Cx p m c meth cX5_block 3 s args RX5 (some .int)) {Q : Int32 → MM → Prop}   (M : MM) (a0 : Nat) (v1 : Int32) (v2 : Int32) (h : B_X5_block_0 Z Q XF  M a0 v1 v2) : WG p l e rm_X5_block s m args below meth c 0 0 (MQi below E Z args s Q) E Z M 0 3 [(0, .ref a0), (1, .int v1), (2, .int v2)] [] := by
  intro H locs ls hw hl
  have hx := S.1.1
  have hb := S.1.2.1
  refine lv_aload_n hx hb dX5_block_0 rfl (lv_at hl 0 rfl) ?_
  refine lv_iload_n hx hb dX5_block_1 rfl (lv_at hl 1 rfl) ?_
  obtain ⟨k_0, h⟩ := h
  refine cv_v (As := [.int v1]) (rest := []) S.1 hw (k_X5_checkCell l E Z M a0 v1 _ h) wv_X5_87 yc_X5_checkCell ⟨rfl, rfl⟩ ⟨Nat.le_of_ble_eq_true rfl, Nat.le_of_ble_eq_true rfl⟩ rfl hl.1 (Nat.le_of_ble_eq_true rfl) (ci := 5) (q := (RX5, TX5, 9)) rfl rfl (by rw [k_0]; decide) (cell_5 k_0) ⟨Nat.le_of_ble_eq_true rfl, Nat.le_of_ble_eq_true rfl⟩ dX5_block_2 (fun M2 H locs h hw => ?_)
  refine lv_iload_n hx hb dX5_block_5 rfl (lv_at hl 2 rfl) ?_
  refine lv_iconst (v := 0) hx hb dX5_block_6 (by decide) ?_
  refine lv_iconst (v := 4) hx hb dX5_block_7 (by decide) ?_
  refine cs_i (As := [.int v2, .int 0, .int 4]) (rest := []) S.1 hw (k_X5_isOutside l E Z M2 v2 0 4 _ h) wv_X5_70 yc_X5_isOutside ⟨rfl, rfl⟩ ⟨Nat.le_of_ble_eq_true rfl, Nat.le_of_ble_eq_true rfl⟩ rfl hl.1 (Nat.le_of_ble_eq_true rfl) ⟨Nat.le_of_ble_eq_true rfl, Nat.le_of_ble_eq_true rfl⟩ dX5_block_8 (fun r8 M8 H locs h hw => ?_)
  refine lv_if_eq (tgt := 24) hx hb dX5_block_11 (by decide) (fun q_11 => ?_) (fun q_11 => ?_)
  · have h := h.1 q_11
    refine lv_aload_n hx hb dX5_block_24 rfl (lv_at hl 0 rfl) ?_
    obtain ⟨y25_1, hy_1, h⟩ := h
    refine gf_X5_40 S.1 hw k_0 hy_1 dX5_block_25 ?_
    refine lv_aload_n hx hb dX5_block_28 rfl (lv_at hl 0 rfl) ?_
    obtain ⟨y29_2, hy_2, h⟩ := h
    refine gf_X5_10 S.1 hw k_0 hy_2 dX5_block_29 ?_
    obtain ⟨k_3, h⟩ := h
    refine cv_v (As := [.ref y29_2]) (rest := []) S.1 hw (k_X0_find l E Z M8 y25_1 y29_2 _ h) wv_X5_127 yc_X0_find ⟨rfl, rfl⟩ ⟨Nat.le_of_ble_eq_true rfl, Nat.le_of_ble_eq_true rfl⟩ rfl hl.1 (Nat.le_of_ble_eq_true rfl) (ci := 0) (q := (RX0, TX0, 3)) rfl rfl (by rw [k_3]; decide) (cell_0 k_3) ⟨Nat.le_of_ble_eq_true rfl, Nat.le_of_ble_eq_true rfl⟩ dX5_block_32 (fun M32 H locs h hw => ?_)
    refine lv_iload_n hx hb dX5_block_35 rfl (lv_at hl 2 rfl) ?_
    refine lv_iconst (v := 4) hx hb dX5_block_36 (by decide) ?_
    refine lv_icmp_ne (tgt := 52) hx hb dX5_block_37 (by decide) (fun q_37 => ?_) (fun q_37 => ?_)
    · have h := h.1 q_37
      exact ((wB_X5_block_52 S   _ _ _ _ h)) H locs ls hw (lv_sub hl [0, 1, 2] rfl)
    · have h := h.2 q_37
      refine lv_aload_n hx hb dX5_block_40 rfl (lv_at hl 0 rfl) ?_
      refine lv_aload_n hx hb dX5_block_41 rfl (lv_at hl 0 rfl) ?_
      refine gf_X5_40 S.1 hw k_0 hy_1 dX5_block_42 ?_
      refine lv_iload_n hx hb dX5_block_45 rfl (lv_at hl 1 rfl) ?_
      refine cv_i (As := [.int v1]) (rest := [.ref a0]) S.1 hw (k_X0_numberAt l E Z M32 y25_1 v1 _ h) wv_X5_131 yc_X0_numberAt ⟨rfl, rfl⟩ ⟨Nat.le_of_ble_eq_true rfl, Nat.le_of_ble_eq_true rfl⟩ rfl hl.1 (Nat.le_of_ble_eq_true rfl) (ci := 0) (q := (RX0, TX0, 3)) rfl rfl (by rw [k_3]; decide) (cell_0 k_3) ⟨Nat.le_of_ble_eq_true rfl, Nat.le_of_ble_eq_true rfl⟩ dX5_block_46 (fun r46 M46 H locs h hw => ?_)
      refine cv_v (As := [.int r46]) (rest := []) S.1 hw (k_X5_findWayOf l E Z M46 a0 r46 _ h) wv_X5_167 yc_X5_findWayOf ⟨rfl, rfl⟩ ⟨Nat.le_of_ble_eq_true rfl, Nat.le_of_ble_eq_true rfl⟩ rfl hl.1 (Nat.le_of_ble_eq_true rfl) (ci := 5) (q := (RX5, TX5, 9)) rfl rfl (by rw [k_0]; decide) (cell_5 k_0) ⟨Nat.le_of_ble_eq_true rfl, Nat.le_of_ble_eq_true rfl⟩ dX5_block_49 (fun M49 H locs h hw => ?_)
      exact ((wB_X5_block_52 S   _ _ _ _ h)) H locs ls hw (lv_sub hl [0, 1, 2] rfl)
  · have h := h.2 q_11
    exact False.elim h
set_option maxRecDepth 100000 in
set_option maxHeartbeats 4000000 in
theorem k_X5_block (l : Launch) (E : EE) (Z : ZZ) (M : MM) (a0 : Nat) (v1 : Int32) (v2 : Int32) (Q : Int32 → MM → Prop) (h : P_X5_block Z M a0 v1 v2 Q XF) : Ct_i l yX5_block cX5_block 3 (some .int) rm_X5_block E Z M [.ref a0, .int v1, .int v2] Q := by
  refine Met.ofW (cc := cX5_block) (maxL := 3) (ret := some .int) (by decide) rfl ?_
  intro p e s m args below meth c s₁ B hml hv
  obtain ⟨rfl, hK, hP, hD, hZ⟩ := hv
  have S : Cx p m c meth cX5_block 3 s _ RX5 (some .int) := ⟨⟨B.exec, B.bytes, hml, findClass_of_methodNamed B.named, fun w hw => atoms_spec (ws := ws_ yX5_block cX5_block 3 (some .int)) B.pre w (List.mem_cons_of_mem _ hw)⟩, B.returns, B.notSynchronized⟩
  have hl := lv_entry ([.ref a0, .int v1, .int v2]) (n := 3) (Nat.le_of_ble_eq_true rfl)
  rw [lg_entry_eq]
  generalize (lg_sl ([.ref a0, .int v1, .int v2]) ++ List.replicate (3 - (lg_sl ([.ref a0, .int v1, .int v2])).length) Slot.unset).toArray = ls at hl ⊢
  exact (wB_X5_block_0 S  M a0 v1 v2 h) s.heap [] ls ⟨hK, hP, hD, va_S.rf, hZ⟩ hl
set_option maxRecDepth 100000 in
set_option maxHeartbeats 4000000 in
theorem wB_X5_findBlocksAndWays_13 (S : Cx p m c meth cX5_findBlocksAndWays 2 s args RX5 (none)) {Q : MM → Prop} {K13 : MM → Nat → Int32 → Prop} (hK13 : ∀ (M : MM) (a0 : Nat) (v1 : Int32), K13 M a0 v1 → WG p l e rm_X5_findBlocksAndWays s m args below meth c 0 0 (MQv below E Z args s Q) E Z M 13 2 [(0, .ref a0), (1, .int v1)] []) (M : MM) (a0 : Nat) (v1 : Int32) (h : B_X5_findBlocksAndWays_13 Z Q K13 M a0 v1) : WG p l e rm_X5_findBlocksAndWays s m args below meth c 0 0 (MQv below E Z args s Q) E Z M 13 2 [(0, .ref a0), (1, .int v1)] [] := by
  intro H locs ls hw hl
  have hx := S.1.1
  have hb := S.1.2.1
  refine lv_iload_n hx hb dX5_findBlocksAndWays_13 rfl (lv_at hl 1 rfl) ?_
  refine lv_aload_n hx hb dX5_findBlocksAndWays_14 rfl (lv_at hl 0 rfl) ?_
  obtain ⟨k_0, h⟩ := h
  obtain ⟨y15_1, hy_1, h⟩ := h
  refine gf_X5_10 S.1 hw k_0 hy_1 dX5_findBlocksAndWays_15 ?_
  obtain ⟨k_2, h⟩ := h
  refine cv_i (As := []) (rest := [.int v1]) S.1 hw (k_X1_cellCount l E Z M y15_1  _ h) wv_X5_212 yc_X1_cellCount ⟨rfl, rfl⟩ ⟨Nat.le_of_ble_eq_true rfl, Nat.le_of_ble_eq_true rfl⟩ rfl hl.1 (Nat.le_of_ble_eq_true rfl) (ci := 1) (q := (RX1, TX1, 12)) rfl rfl (by rw [k_2]; decide) (cell_1 k_2) ⟨Nat.le_of_ble_eq_true rfl, Nat.le_of_ble_eq_true rfl⟩ dX5_findBlocksAndWays_18 (fun r18 M18 H locs h hw => ?_)
  refine lv_icmp_ge (tgt := 35) hx hb dX5_findBlocksAndWays_21 (by decide) (fun q_21 => ?_) (fun q_21 => ?_)
  · have h := h.1 q_21
    exact we_v S hw h dX5_findBlocksAndWays_35
  · have h := h.2 q_21
    refine lv_aload_n hx hb dX5_findBlocksAndWays_24 rfl (lv_at hl 0 rfl) ?_
    refine lv_iload_n hx hb dX5_findBlocksAndWays_25 rfl (lv_at hl 1 rfl) ?_
    refine cv_v (As := [.int v1]) (rest := []) S.1 hw (k_X5_findWayOf l E Z M18 a0 v1 _ h) wv_X5_167 yc_X5_findWayOf ⟨rfl, rfl⟩ ⟨Nat.le_of_ble_eq_true rfl, Nat.le_of_ble_eq_true rfl⟩ rfl hl.1 (Nat.le_of_ble_eq_true rfl) (ci := 5) (q := (RX5, TX5, 9)) rfl rfl (by rw [k_0]; decide) (cell_5 k_0) ⟨Nat.le_of_ble_eq_true rfl, Nat.le_of_ble_eq_true rfl⟩ dX5_findBlocksAndWays_26 (fun M26 H locs h hw => ?_)
    refine lv_iinc (v := (v1 + 1)) (lv' := [(1, .int (v1 + 1)), (0, .ref a0)]) hx hb dX5_findBlocksAndWays_29 hl (k := 1) rfl rfl (by decide) rfl (fun ls hl => ?_)
    refine lv_goto (tgt := 13) hx hb dX5_findBlocksAndWays_32 (by decide) ?_
    exact (hK13 _ _ _ h) H locs ls hw (lv_sub hl [1, 0] rfl)
theorem wL_X5_findBlocksAndWays_13 (S : Cx p m c meth cX5_findBlocksAndWays 2 s args RX5 (none)) {Q : MM → Prop}   : ∀ (n : Nat) (M : MM) (a0 : Nat) (v1 : Int32), L_X5_findBlocksAndWays_13 Z Q  n M a0 v1 → WG p l e rm_X5_findBlocksAndWays s m args below meth c 0 0 (MQv below E Z args s Q) E Z M 13 2 [(0, .ref a0), (1, .int v1)] []
  | 0, _, _, _, h => False.elim h
  | n + 1, M, a0, v1, h => wB_X5_findBlocksAndWays_13 S  (wL_X5_findBlocksAndWays_13 S   n) M a0 v1 h
set_option maxRecDepth 100000 in
set_option maxHeartbeats 4000000 in
theorem wB_X5_findBlocksAndWays_0 (S : Cx p m c meth cX5_findBlocksAndWays 2 s args RX5 (none)) {Q : MM → Prop}   (M : MM) (a0 : Nat) (h : B_X5_findBlocksAndWays_0 Z Q  M a0) : WG p l e rm_X5_findBlocksAndWays s m args below meth c 0 0 (MQv below E Z args s Q) E Z M 0 2 [(0, .ref a0)] [] := by
  intro H locs ls hw hl
  have hx := S.1.1
  have hb := S.1.2.1
  refine lv_aload_n hx hb dX5_findBlocksAndWays_0 rfl (lv_at hl 0 rfl) ?_
  obtain ⟨k_0, h⟩ := h
  obtain ⟨y1_1, hy_1, h⟩ := h
  refine gf_X5_40 S.1 hw k_0 hy_1 dX5_findBlocksAndWays_1 ?_
  refine lv_aload_n hx hb dX5_findBlocksAndWays_4 rfl (lv_at hl 0 rfl) ?_
  obtain ⟨y5_2, hy_2, h⟩ := h
  refine gf_X5_10 S.1 hw k_0 hy_2 dX5_findBlocksAndWays_5 ?_
  obtain ⟨k_3, h⟩ := h
  refine cv_v (As := [.ref y5_2]) (rest := []) S.1 hw (k_X0_find l E Z M y1_1 y5_2 _ h) wv_X5_127 yc_X0_find ⟨rfl, rfl⟩ ⟨Nat.le_of_ble_eq_true rfl, Nat.le_of_ble_eq_true rfl⟩ rfl hl.1 (Nat.le_of_ble_eq_true rfl) (ci := 0) (q := (RX0, TX0, 3)) rfl rfl (by rw [k_3]; decide) (cell_0 k_3) ⟨Nat.le_of_ble_eq_true rfl, Nat.le_of_ble_eq_true rfl⟩ dX5_findBlocksAndWays_8 (fun M8 H locs h hw => ?_)
  refine lv_iconst (v := 0) hx hb dX5_findBlocksAndWays_11 (by decide) ?_
  refine lv_istore_n (lv' := [(1, .int 0), (0, .ref a0)]) hx hb dX5_findBlocksAndWays_12 rfl hl (by decide) rfl (fun ls hl => ?_)
  exact ((Exists.elim h (fun n h => wL_X5_findBlocksAndWays_13 S   n _ _ _ h))) H locs ls hw (lv_sub hl [1, 0] rfl)
set_option maxRecDepth 100000 in
set_option maxHeartbeats 4000000 in
theorem k_X5_findBlocksAndWays (l : Launch) (E : EE) (Z : ZZ) (M : MM) (a0 : Nat) (Q : MM → Prop) (h : P_X5_findBlocksAndWays Z M a0 Q) : Ct_v l yX5_findBlocksAndWays cX5_findBlocksAndWays 2 (none) rm_X5_findBlocksAndWays E Z M [.ref a0] Q := by
  refine Met.ofW (cc := cX5_findBlocksAndWays) (maxL := 2) (ret := none) (by decide) rfl ?_
  intro p e s m args below meth c s₁ B hml hv
  obtain ⟨rfl, hK, hP, hD, hZ⟩ := hv
  have S : Cx p m c meth cX5_findBlocksAndWays 2 s _ RX5 (none) := ⟨⟨B.exec, B.bytes, hml, findClass_of_methodNamed B.named, fun w hw => atoms_spec (ws := ws_ yX5_findBlocksAndWays cX5_findBlocksAndWays 2 (none)) B.pre w (List.mem_cons_of_mem _ hw)⟩, B.returns, B.notSynchronized⟩
  have hl := lv_entry ([.ref a0]) (n := 2) (Nat.le_of_ble_eq_true rfl)
  rw [lg_entry_eq]
  generalize (lg_sl ([.ref a0]) ++ List.replicate (2 - (lg_sl ([.ref a0])).length) Slot.unset).toArray = ls at hl ⊢
  exact (wB_X5_findBlocksAndWays_0 S  M a0 h) s.heap [] ls ⟨hK, hP, hD, va_S.rf, hZ⟩ hl
set_option maxRecDepth 100000 in
set_option maxHeartbeats 4000000 in
theorem wB_X5_isStranded_0 (S : Cx p m c meth cX5_isStranded 2 s args RX5 (some .boolean)) {Q : Int32 → MM → Prop}   (M : MM) (a0 : Nat) (v1 : Int32) (h : B_X5_isStranded_0 Z Q  M a0 v1) : WG p l e rm_X5_isStranded s m args below meth c 0 0 (MQi below E Z args s Q) E Z M 0 2 [(0, .ref a0), (1, .int v1)] [] := by
  intro H locs ls hw hl
  have hx := S.1.1
  have hb := S.1.2.1
  refine lv_aload_n hx hb dX5_isStranded_0 rfl (lv_at hl 0 rfl) ?_
  obtain ⟨k_0, h⟩ := h
  obtain ⟨y1_1, hy_1, h⟩ := h
  refine gf_X5_40 S.1 hw k_0 hy_1 dX5_isStranded_1 ?_
  refine lv_iload_n hx hb dX5_isStranded_4 rfl (lv_at hl 1 rfl) ?_
  obtain ⟨k_2, h⟩ := h
  refine cv_i (As := [.int v1]) (rest := []) S.1 hw (k_X0_isLoose l E Z M y1_1 v1 _ h) wv_X5_134 yc_X0_isLoose ⟨rfl, rfl⟩ ⟨Nat.le_of_ble_eq_true rfl, Nat.le_of_ble_eq_true rfl⟩ rfl hl.1 (Nat.le_of_ble_eq_true rfl) (ci := 0) (q := (RX0, TX0, 3)) rfl rfl (by rw [k_2]; decide) (cell_0 k_2) ⟨Nat.le_of_ble_eq_true rfl, Nat.le_of_ble_eq_true rfl⟩ dX5_isStranded_5 (fun r5 M5 H locs h hw => ?_)
  refine lv_if_eq (tgt := 27) hx hb dX5_isStranded_8 (by decide) (fun q_8 => ?_) (fun q_8 => ?_)
  · have h := h.1 q_8
    refine lv_iconst (v := 0) hx hb dX5_isStranded_27 (by decide) ?_
    exact we_z S hw rfl (by rfl) h dX5_isStranded_28
  · have h := h.2 q_8
    refine lv_aload_n hx hb dX5_isStranded_11 rfl (lv_at hl 0 rfl) ?_
    obtain ⟨y12_3, hy_3, h⟩ := h
    refine gf_X5_56 S.1 hw k_0 hy_3 dX5_isStranded_12 ?_
    refine lv_iload_n hx hb dX5_isStranded_15 rfl (lv_at hl 1 rfl) ?_
    obtain ⟨k_4, h⟩ := h
    refine cv_i (As := [.int v1]) (rest := []) S.1 hw (k_X2_at l E Z M5 y12_3 v1 _ h) wv_X5_95 yc_X2_at ⟨rfl, rfl⟩ ⟨Nat.le_of_ble_eq_true rfl, Nat.le_of_ble_eq_true rfl⟩ rfl hl.1 (Nat.le_of_ble_eq_true rfl) (ci := 2) (q := (RX2, TX2, 1)) rfl rfl (by rw [k_4]; decide) (cell_2 k_4) ⟨Nat.le_of_ble_eq_true rfl, Nat.le_of_ble_eq_true rfl⟩ dX5_isStranded_16 (fun r16 M16 H locs h hw => ?_)
    refine lv_iconst (v := (-1)) hx hb dX5_isStranded_19 (by decide) ?_
    refine lv_icmp_ne (tgt := 27) hx hb dX5_isStranded_20 (by decide) (fun q_20 => ?_) (fun q_20 => ?_)
    · have h := h.1 q_20
      refine lv_iconst (v := 0) hx hb dX5_isStranded_27 (by decide) ?_
      exact we_z S hw rfl (by rfl) h dX5_isStranded_28
    · have h := h.2 q_20
      refine lv_iconst (v := 1) hx hb dX5_isStranded_23 (by decide) ?_
      refine lv_goto (tgt := 28) hx hb dX5_isStranded_24 (by decide) ?_
      exact we_z S hw rfl (by rfl) h dX5_isStranded_28
set_option maxRecDepth 100000 in
set_option maxHeartbeats 4000000 in
theorem k_X5_isStranded (l : Launch) (E : EE) (Z : ZZ) (M : MM) (a0 : Nat) (v1 : Int32) (Q : Int32 → MM → Prop) (h : P_X5_isStranded Z M a0 v1 Q) : Ct_i l yX5_isStranded cX5_isStranded 2 (some .boolean) rm_X5_isStranded E Z M [.ref a0, .int v1] Q := by
  refine Met.ofW (cc := cX5_isStranded) (maxL := 2) (ret := some .boolean) (by decide) rfl ?_
  intro p e s m args below meth c s₁ B hml hv
  obtain ⟨rfl, hK, hP, hD, hZ⟩ := hv
  have S : Cx p m c meth cX5_isStranded 2 s _ RX5 (some .boolean) := ⟨⟨B.exec, B.bytes, hml, findClass_of_methodNamed B.named, fun w hw => atoms_spec (ws := ws_ yX5_isStranded cX5_isStranded 2 (some .boolean)) B.pre w (List.mem_cons_of_mem _ hw)⟩, B.returns, B.notSynchronized⟩
  have hl := lv_entry ([.ref a0, .int v1]) (n := 2) (Nat.le_of_ble_eq_true rfl)
  rw [lg_entry_eq]
  generalize (lg_sl ([.ref a0, .int v1]) ++ List.replicate (2 - (lg_sl ([.ref a0, .int v1])).length) Slot.unset).toArray = ls at hl ⊢
  exact (wB_X5_isStranded_0 S  M a0 v1 h) s.heap [] ls ⟨hK, hP, hD, va_S.rf, hZ⟩ hl
set_option maxRecDepth 100000 in
set_option maxHeartbeats 4000000 in
theorem wB_X5_countStranded_26 (S : Cx p m c meth cX5_countStranded 3 s args RX5 (some .int)) {Q : Int32 → MM → Prop} {K4 : MM → Nat → Int32 → Int32 → Prop} (hK4 : ∀ (M : MM) (a0 : Nat) (v1 : Int32) (v2 : Int32), K4 M a0 v1 v2 → WG p l e rm_X5_countStranded s m args below meth c 0 0 (MQi below E Z args s Q) E Z M 4 3 [(0, .ref a0), (1, .int v1), (2, .int v2)] []) (M : MM) (a0 : Nat) (v1 : Int32) (v2 : Int32) (h : B_X5_countStranded_26 Z Q K4 M a0 v1 v2) : WG p l e rm_X5_countStranded s m args below meth c 0 0 (MQi below E Z args s Q) E Z M 26 3 [(0, .ref a0), (1, .int v1), (2, .int v2)] [] := by
  intro H locs ls hw hl
  have hx := S.1.1
  have hb := S.1.2.1
  refine lv_iinc (v := (v2 + 1)) (lv' := [(2, .int (v2 + 1)), (0, .ref a0), (1, .int v1)]) hx hb dX5_countStranded_26 hl (k := 2) rfl rfl (by decide) rfl (fun ls hl => ?_)
  refine lv_goto (tgt := 4) hx hb dX5_countStranded_29 (by decide) ?_
  exact (hK4 _ _ _ _ h) H locs ls hw (lv_sub hl [1, 2, 0] rfl)
set_option maxRecDepth 100000 in
set_option maxHeartbeats 4000000 in
theorem wB_X5_countStranded_4 (S : Cx p m c meth cX5_countStranded 3 s args RX5 (some .int)) {Q : Int32 → MM → Prop} {K4 : MM → Nat → Int32 → Int32 → Prop} (hK4 : ∀ (M : MM) (a0 : Nat) (v1 : Int32) (v2 : Int32), K4 M a0 v1 v2 → WG p l e rm_X5_countStranded s m args below meth c 0 0 (MQi below E Z args s Q) E Z M 4 3 [(0, .ref a0), (1, .int v1), (2, .int v2)] []) (M : MM) (a0 : Nat) (v1 : Int32) (v2 : Int32) (h : B_X5_countStranded_4 Z Q K4 M a0 v1 v2) : WG p l e rm_X5_countStranded s m args below meth c 0 0 (MQi below E Z args s Q) E Z M 4 3 [(0, .ref a0), (1, .int v1), (2, .int v2)] [] := by
  intro H locs ls hw hl
  have hx := S.1.1
  have hb := S.1.2.1
  refine lv_iload_n hx hb dX5_countStranded_4 rfl (lv_at hl 2 rfl) ?_
  refine lv_aload_n hx hb dX5_countStranded_5 rfl (lv_at hl 0 rfl) ?_
  obtain ⟨k_0, h⟩ := h
  obtain ⟨y6_1, hy_1, h⟩ := h
  refine gf_X5_10 S.1 hw k_0 hy_1 dX5_countStranded_6 ?_
  obtain ⟨k_2, h⟩ := h
  refine cv_i (As := []) (rest := [.int v2]) S.1 hw (k_X1_cellCount l E Z M y6_1  _ h) wv_X5_212 yc_X1_cellCount ⟨rfl, rfl⟩ ⟨Nat.le_of_ble_eq_true rfl, Nat.le_of_ble_eq_true rfl⟩ rfl hl.1 (Nat.le_of_ble_eq_true rfl) (ci := 1) (q := (RX1, TX1, 12)) rfl rfl (by rw [k_2]; decide) (cell_1 k_2) ⟨Nat.le_of_ble_eq_true rfl, Nat.le_of_ble_eq_true rfl⟩ dX5_countStranded_9 (fun r9 M9 H locs h hw => ?_)
  refine lv_icmp_ge (tgt := 32) hx hb dX5_countStranded_12 (by decide) (fun q_12 => ?_) (fun q_12 => ?_)
  · have h := h.1 q_12
    refine lv_iload_n hx hb dX5_countStranded_32 rfl (lv_at hl 1 rfl) ?_
    exact we_i S hw h dX5_countStranded_33
  · have h := h.2 q_12
    refine lv_aload_n hx hb dX5_countStranded_15 rfl (lv_at hl 0 rfl) ?_
    refine lv_iload_n hx hb dX5_countStranded_16 rfl (lv_at hl 2 rfl) ?_
    refine cv_i (As := [.int v2]) (rest := []) S.1 hw (k_X5_isStranded l E Z M9 a0 v2 _ h) wv_X5_297 yc_X5_isStranded ⟨rfl, rfl⟩ ⟨Nat.le_of_ble_eq_true rfl, Nat.le_of_ble_eq_true rfl⟩ rfl hl.1 (Nat.le_of_ble_eq_true rfl) (ci := 5) (q := (RX5, TX5, 9)) rfl rfl (by rw [k_0]; decide) (cell_5 k_0) ⟨Nat.le_of_ble_eq_true rfl, Nat.le_of_ble_eq_true rfl⟩ dX5_countStranded_17 (fun r17 M17 H locs h hw => ?_)
    refine lv_if_eq (tgt := 26) hx hb dX5_countStranded_20 (by decide) (fun q_20 => ?_) (fun q_20 => ?_)
    · have h := h.1 q_20
      exact ((wB_X5_countStranded_26 S  hK4 _ _ _ _ h)) H locs ls hw (lv_sub hl [0, 1, 2] rfl)
    · have h := h.2 q_20
      refine lv_iinc (v := (v1 + 1)) (lv' := [(1, .int (v1 + 1)), (0, .ref a0), (2, .int v2)]) hx hb dX5_countStranded_23 hl (k := 1) rfl rfl (by decide) rfl (fun ls hl => ?_)
      exact ((wB_X5_countStranded_26 S  hK4 _ _ _ _ h)) H locs ls hw (lv_sub hl [1, 0, 2] rfl)
theorem wL_X5_countStranded_4 (S : Cx p m c meth cX5_countStranded 3 s args RX5 (some .int)) {Q : Int32 → MM → Prop}   : ∀ (n : Nat) (M : MM) (a0 : Nat) (v1 : Int32) (v2 : Int32), L_X5_countStranded_4 Z Q  n M a0 v1 v2 → WG p l e rm_X5_countStranded s m args below meth c 0 0 (MQi below E Z args s Q) E Z M 4 3 [(0, .ref a0), (1, .int v1), (2, .int v2)] []
  | 0, _, _, _, _, h => False.elim h
  | n + 1, M, a0, v1, v2, h => wB_X5_countStranded_4 S  (wL_X5_countStranded_4 S   n) M a0 v1 v2 h
set_option maxRecDepth 100000 in
set_option maxHeartbeats 4000000 in
theorem wB_X5_countStranded_0 (S : Cx p m c meth cX5_countStranded 3 s args RX5 (some .int)) {Q : Int32 → MM → Prop}   (M : MM) (a0 : Nat) (h : B_X5_countStranded_0 Z Q  M a0) : WG p l e rm_X5_countStranded s m args below meth c 0 0 (MQi below E Z args s Q) E Z M 0 3 [(0, .ref a0)] [] := by
  intro H locs ls hw hl
  have hx := S.1.1
  have hb := S.1.2.1
  refine lv_iconst (v := 0) hx hb dX5_countStranded_0 (by decide) ?_
  refine lv_istore_n (lv' := [(1, .int 0), (0, .ref a0)]) hx hb dX5_countStranded_1 rfl hl (by decide) rfl (fun ls hl => ?_)
  refine lv_iconst (v := 0) hx hb dX5_countStranded_2 (by decide) ?_
  refine lv_istore_n (lv' := [(2, .int 0), (1, .int 0), (0, .ref a0)]) hx hb dX5_countStranded_3 rfl hl (by decide) rfl (fun ls hl => ?_)
  exact ((Exists.elim h (fun n h => wL_X5_countStranded_4 S   n _ _ _ _ h))) H locs ls hw (lv_sub hl [2, 1, 0] rfl)
set_option maxRecDepth 100000 in
set_option maxHeartbeats 4000000 in
theorem k_X5_countStranded (l : Launch) (E : EE) (Z : ZZ) (M : MM) (a0 : Nat) (Q : Int32 → MM → Prop) (h : P_X5_countStranded Z M a0 Q) : Ct_i l yX5_countStranded cX5_countStranded 3 (some .int) rm_X5_countStranded E Z M [.ref a0] Q := by
  refine Met.ofW (cc := cX5_countStranded) (maxL := 3) (ret := some .int) (by decide) rfl ?_
  intro p e s m args below meth c s₁ B hml hv
  obtain ⟨rfl, hK, hP, hD, hZ⟩ := hv
  have S : Cx p m c meth cX5_countStranded 3 s _ RX5 (some .int) := ⟨⟨B.exec, B.bytes, hml, findClass_of_methodNamed B.named, fun w hw => atoms_spec (ws := ws_ yX5_countStranded cX5_countStranded 3 (some .int)) B.pre w (List.mem_cons_of_mem _ hw)⟩, B.returns, B.notSynchronized⟩
  have hl := lv_entry ([.ref a0]) (n := 3) (Nat.le_of_ble_eq_true rfl)
  rw [lg_entry_eq]
  generalize (lg_sl ([.ref a0]) ++ List.replicate (3 - (lg_sl ([.ref a0])).length) Slot.unset).toArray = ls at hl ⊢
  exact (wB_X5_countStranded_0 S  M a0 h) s.heap [] ls ⟨hK, hP, hD, va_S.rf, hZ⟩ hl
set_option maxRecDepth 100000 in
set_option maxHeartbeats 4000000 in
theorem wB_X5_fieldFact_0 (S : Cx p m c meth cX5_fieldFact 2 s args RX5 (some .int)) {Q : Int32 → MM → Prop}   (M : MM) (a0 : Nat) (v1 : Int32) (h : B_X5_fieldFact_0 Z Q  M a0 v1) : WG p l e rm_X5_fieldFact s m args below meth c 0 0 (MQi below E Z args s Q) E Z M 0 2 [(0, .ref a0), (1, .int v1)] [] := by
  intro H locs ls hw hl
  have hx := S.1.1
  have hb := S.1.2.1
  refine lv_iload_n hx hb dX5_fieldFact_0 rfl (lv_at hl 1 rfl) ?_
  by_cases q_1_0 : v1 = 0
  · have h := h.1 q_1_0
    refine lv_tableIn (tgt := 68) hx hb dX5_fieldFact_1 (by rw [q_1_0]; decide) (by rw [q_1_0]; decide) (by rw [q_1_0]; rfl) (by decide) ?_
    refine lv_aload_n hx hb dX5_fieldFact_68 rfl (lv_at hl 0 rfl) ?_
    obtain ⟨k_0, h⟩ := h
    obtain ⟨y69_1, hy_1, h⟩ := h
    refine gf_X5_10 S.1 hw k_0 hy_1 dX5_fieldFact_69 ?_
    obtain ⟨k_2, h⟩ := h
    refine gf_X5_263 S.1 hw k_2 dX5_fieldFact_72 ?_
    exact we_i S hw h dX5_fieldFact_75
  · have h := h.2 q_1_0
    by_cases q_1_1 : v1 = 1
    · have h := h.1 q_1_1
      refine lv_tableIn (tgt := 76) hx hb dX5_fieldFact_1 (by rw [q_1_1]; decide) (by rw [q_1_1]; decide) (by rw [q_1_1]; rfl) (by decide) ?_
      refine lv_aload_n hx hb dX5_fieldFact_76 rfl (lv_at hl 0 rfl) ?_
      obtain ⟨k_3, h⟩ := h
      obtain ⟨y77_4, hy_4, h⟩ := h
      refine gf_X5_10 S.1 hw k_3 hy_4 dX5_fieldFact_77 ?_
      obtain ⟨k_5, h⟩ := h
      refine gf_X5_264 S.1 hw k_5 dX5_fieldFact_80 ?_
      exact we_i S hw h dX5_fieldFact_83
    · have h := h.2 q_1_1
      by_cases q_1_2 : v1 = 2
      · have h := h.1 q_1_2
        refine lv_tableIn (tgt := 84) hx hb dX5_fieldFact_1 (by rw [q_1_2]; decide) (by rw [q_1_2]; decide) (by rw [q_1_2]; rfl) (by decide) ?_
        refine lv_aload_n hx hb dX5_fieldFact_84 rfl (lv_at hl 0 rfl) ?_
        obtain ⟨k_6, h⟩ := h
        obtain ⟨y85_7, hy_7, h⟩ := h
        refine gf_X5_10 S.1 hw k_6 hy_7 dX5_fieldFact_85 ?_
        obtain ⟨k_8, h⟩ := h
        refine cv_i (As := []) (rest := []) S.1 hw (k_X1_iceCells l E Z M y85_7  _ h) wv_X5_206 yc_X1_iceCells ⟨rfl, rfl⟩ ⟨Nat.le_of_ble_eq_true rfl, Nat.le_of_ble_eq_true rfl⟩ rfl hl.1 (Nat.le_of_ble_eq_true rfl) (ci := 1) (q := (RX1, TX1, 12)) rfl rfl (by rw [k_8]; decide) (cell_1 k_8) ⟨Nat.le_of_ble_eq_true rfl, Nat.le_of_ble_eq_true rfl⟩ dX5_fieldFact_88 (fun r88 M88 H locs h hw => ?_)
        exact we_i S hw h dX5_fieldFact_91
      · have h := h.2 q_1_2
        by_cases q_1_3 : v1 = 3
        · have h := h.1 q_1_3
          refine lv_tableIn (tgt := 92) hx hb dX5_fieldFact_1 (by rw [q_1_3]; decide) (by rw [q_1_3]; decide) (by rw [q_1_3]; rfl) (by decide) ?_
          refine lv_aload_n hx hb dX5_fieldFact_92 rfl (lv_at hl 0 rfl) ?_
          obtain ⟨k_9, h⟩ := h
          obtain ⟨y93_10, hy_10, h⟩ := h
          refine gf_X5_40 S.1 hw k_9 hy_10 dX5_fieldFact_93 ?_
          obtain ⟨k_11, h⟩ := h
          refine cv_i (As := []) (rest := []) S.1 hw (k_X0_countAll l E Z M y93_10  _ h) wv_X5_267 yc_X0_countAll ⟨rfl, rfl⟩ ⟨Nat.le_of_ble_eq_true rfl, Nat.le_of_ble_eq_true rfl⟩ rfl hl.1 (Nat.le_of_ble_eq_true rfl) (ci := 0) (q := (RX0, TX0, 3)) rfl rfl (by rw [k_11]; decide) (cell_0 k_11) ⟨Nat.le_of_ble_eq_true rfl, Nat.le_of_ble_eq_true rfl⟩ dX5_fieldFact_96 (fun r96 M96 H locs h hw => ?_)
          exact we_i S hw h dX5_fieldFact_99
        · have h := h.2 q_1_3
          by_cases q_1_4 : v1 = 4
          · have h := h.1 q_1_4
            refine lv_tableIn (tgt := 100) hx hb dX5_fieldFact_1 (by rw [q_1_4]; decide) (by rw [q_1_4]; decide) (by rw [q_1_4]; rfl) (by decide) ?_
            refine lv_aload_n hx hb dX5_fieldFact_100 rfl (lv_at hl 0 rfl) ?_
            obtain ⟨k_12, h⟩ := h
            obtain ⟨y101_13, hy_13, h⟩ := h
            refine gf_X5_40 S.1 hw k_12 hy_13 dX5_fieldFact_101 ?_
            obtain ⟨k_14, h⟩ := h
            refine cv_i (As := []) (rest := []) S.1 hw (k_X0_countLoose l E Z M y101_13  _ h) wv_X5_199 yc_X0_countLoose ⟨rfl, rfl⟩ ⟨Nat.le_of_ble_eq_true rfl, Nat.le_of_ble_eq_true rfl⟩ rfl hl.1 (Nat.le_of_ble_eq_true rfl) (ci := 0) (q := (RX0, TX0, 3)) rfl rfl (by rw [k_14]; decide) (cell_0 k_14) ⟨Nat.le_of_ble_eq_true rfl, Nat.le_of_ble_eq_true rfl⟩ dX5_fieldFact_104 (fun r104 M104 H locs h hw => ?_)
            exact we_i S hw h dX5_fieldFact_107
          · have h := h.2 q_1_4
            by_cases q_1_5 : v1 = 5
            · have h := h.1 q_1_5
              refine lv_tableIn (tgt := 108) hx hb dX5_fieldFact_1 (by rw [q_1_5]; decide) (by rw [q_1_5]; decide) (by rw [q_1_5]; rfl) (by decide) ?_
              refine lv_aload_n hx hb dX5_fieldFact_108 rfl (lv_at hl 0 rfl) ?_
              obtain ⟨k_15, h⟩ := h
              refine cv_i (As := []) (rest := []) S.1 hw (k_X5_countStranded l E Z M a0  _ h) wv_X5_270 yc_X5_countStranded ⟨rfl, rfl⟩ ⟨Nat.le_of_ble_eq_true rfl, Nat.le_of_ble_eq_true rfl⟩ rfl hl.1 (Nat.le_of_ble_eq_true rfl) (ci := 5) (q := (RX5, TX5, 9)) rfl rfl (by rw [k_15]; decide) (cell_5 k_15) ⟨Nat.le_of_ble_eq_true rfl, Nat.le_of_ble_eq_true rfl⟩ dX5_fieldFact_109 (fun r109 M109 H locs h hw => ?_)
              exact we_i S hw h dX5_fieldFact_112
            · have h := h.2 q_1_5
              by_cases q_1_6 : v1 = 6
              · have h := h.1 q_1_6
                refine lv_tableIn (tgt := 113) hx hb dX5_fieldFact_1 (by rw [q_1_6]; decide) (by rw [q_1_6]; decide) (by rw [q_1_6]; rfl) (by decide) ?_
                refine lv_aload_n hx hb dX5_fieldFact_113 rfl (lv_at hl 0 rfl) ?_
                obtain ⟨k_16, h⟩ := h
                obtain ⟨y114_17, hy_17, h⟩ := h
                refine gf_X5_10 S.1 hw k_16 hy_17 dX5_fieldFact_114 ?_
                obtain ⟨k_18, h⟩ := h
                obtain ⟨y117_19, hy_19, h⟩ := h
                refine gf_X5_273 S.1 hw k_18 hy_19 dX5_fieldFact_117 ?_
                obtain ⟨k_20, h⟩ := h
                refine cv_i (As := []) (rest := []) S.1 hw (k_X2_sum l E Z M y117_19  _ h) wv_X5_276 yc_X2_sum ⟨rfl, rfl⟩ ⟨Nat.le_of_ble_eq_true rfl, Nat.le_of_ble_eq_true rfl⟩ rfl hl.1 (Nat.le_of_ble_eq_true rfl) (ci := 2) (q := (RX2, TX2, 1)) rfl rfl (by rw [k_20]; decide) (cell_2 k_20) ⟨Nat.le_of_ble_eq_true rfl, Nat.le_of_ble_eq_true rfl⟩ dX5_fieldFact_120 (fun r120 M120 H locs h hw => ?_)
                exact we_i S hw h dX5_fieldFact_123
              · have h := h.2 q_1_6
                by_cases q_1_7 : v1 = 7
                · have h := h.1 q_1_7
                  refine lv_tableIn (tgt := 124) hx hb dX5_fieldFact_1 (by rw [q_1_7]; decide) (by rw [q_1_7]; decide) (by rw [q_1_7]; rfl) (by decide) ?_
                  refine lv_aload_n hx hb dX5_fieldFact_124 rfl (lv_at hl 0 rfl) ?_
                  obtain ⟨k_21, h⟩ := h
                  obtain ⟨y125_22, hy_22, h⟩ := h
                  refine gf_X5_10 S.1 hw k_21 hy_22 dX5_fieldFact_125 ?_
                  obtain ⟨k_23, h⟩ := h
                  refine gf_X5_60 S.1 hw k_23 dX5_fieldFact_128 ?_
                  exact we_i S hw h dX5_fieldFact_131
                · have h := h.2 q_1_7
                  by_cases q_1_8 : v1 = 8
                  · have h := h.1 q_1_8
                    refine lv_tableIn (tgt := 132) hx hb dX5_fieldFact_1 (by rw [q_1_8]; decide) (by rw [q_1_8]; decide) (by rw [q_1_8]; rfl) (by decide) ?_
                    refine lv_aload_n hx hb dX5_fieldFact_132 rfl (lv_at hl 0 rfl) ?_
                    obtain ⟨k_24, h⟩ := h
                    obtain ⟨y133_25, hy_25, h⟩ := h
                    refine gf_X5_10 S.1 hw k_24 hy_25 dX5_fieldFact_133 ?_
                    obtain ⟨k_26, h⟩ := h
                    refine gf_X5_279 S.1 hw k_26 dX5_fieldFact_136 ?_
                    exact we_i S hw h dX5_fieldFact_139
                  · have h := h.2 q_1_8
                    by_cases q_1_9 : v1 = 9
                    · have h := h.1 q_1_9
                      refine lv_tableIn (tgt := 140) hx hb dX5_fieldFact_1 (by rw [q_1_9]; decide) (by rw [q_1_9]; decide) (by rw [q_1_9]; rfl) (by decide) ?_
                      refine lv_aload_n hx hb dX5_fieldFact_140 rfl (lv_at hl 0 rfl) ?_
                      obtain ⟨k_27, h⟩ := h
                      obtain ⟨y141_28, hy_28, h⟩ := h
                      refine gf_X5_10 S.1 hw k_27 hy_28 dX5_fieldFact_141 ?_
                      obtain ⟨k_29, h⟩ := h
                      refine gf_X5_84 S.1 hw k_29 dX5_fieldFact_144 ?_
                      exact we_i S hw h dX5_fieldFact_147
                    · have h := h.2 q_1_9
                      by_cases q_1_10 : v1 = 10
                      · have h := h.1 q_1_10
                        refine lv_tableIn (tgt := 148) hx hb dX5_fieldFact_1 (by rw [q_1_10]; decide) (by rw [q_1_10]; decide) (by rw [q_1_10]; rfl) (by decide) ?_
                        refine lv_aload_n hx hb dX5_fieldFact_148 rfl (lv_at hl 0 rfl) ?_
                        obtain ⟨k_30, h⟩ := h
                        obtain ⟨y149_31, hy_31, h⟩ := h
                        refine gf_X5_10 S.1 hw k_30 hy_31 dX5_fieldFact_149 ?_
                        obtain ⟨k_32, h⟩ := h
                        obtain ⟨y152_33, hy_33, h⟩ := h
                        refine gf_X5_92 S.1 hw k_32 hy_33 dX5_fieldFact_152 ?_
                        obtain ⟨k_34, h⟩ := h
                        refine cv_i (As := []) (rest := []) S.1 hw (k_X2_sum l E Z M y152_33  _ h) wv_X5_276 yc_X2_sum ⟨rfl, rfl⟩ ⟨Nat.le_of_ble_eq_true rfl, Nat.le_of_ble_eq_true rfl⟩ rfl hl.1 (Nat.le_of_ble_eq_true rfl) (ci := 2) (q := (RX2, TX2, 1)) rfl rfl (by rw [k_34]; decide) (cell_2 k_34) ⟨Nat.le_of_ble_eq_true rfl, Nat.le_of_ble_eq_true rfl⟩ dX5_fieldFact_155 (fun r155 M155 H locs h hw => ?_)
                        exact we_i S hw h dX5_fieldFact_158
                      · have h := h.2 q_1_10
                        by_cases q_1_11 : v1 = 11
                        · have h := h.1 q_1_11
                          refine lv_tableIn (tgt := 159) hx hb dX5_fieldFact_1 (by rw [q_1_11]; decide) (by rw [q_1_11]; decide) (by rw [q_1_11]; rfl) (by decide) ?_
                          refine lv_aload_n hx hb dX5_fieldFact_159 rfl (lv_at hl 0 rfl) ?_
                          obtain ⟨k_35, h⟩ := h
                          obtain ⟨y160_36, hy_36, h⟩ := h
                          refine gf_X5_10 S.1 hw k_35 hy_36 dX5_fieldFact_160 ?_
                          obtain ⟨k_37, h⟩ := h
                          refine gf_X5_221 S.1 hw k_37 dX5_fieldFact_163 ?_
                          exact we_i S hw h dX5_fieldFact_166
                        · have h := h.2 q_1_11
                          by_cases q_1_12 : v1 = 12
                          · have h := h.1 q_1_12
                            refine lv_tableIn (tgt := 167) hx hb dX5_fieldFact_1 (by rw [q_1_12]; decide) (by rw [q_1_12]; decide) (by rw [q_1_12]; rfl) (by decide) ?_
                            refine lv_aload_n hx hb dX5_fieldFact_167 rfl (lv_at hl 0 rfl) ?_
                            obtain ⟨k_38, h⟩ := h
                            obtain ⟨y168_39, hy_39, h⟩ := h
                            refine gf_X5_10 S.1 hw k_38 hy_39 dX5_fieldFact_168 ?_
                            obtain ⟨k_40, h⟩ := h
                            refine gf_X5_156 S.1 hw k_40 dX5_fieldFact_171 ?_
                            exact we_i S hw h dX5_fieldFact_174
                          · have h := h.2 q_1_12
                            have t_0 := lv_neT q_1_0 (a := 0) rfl
                            have t_1 := lv_neT q_1_1 (a := 1) rfl
                            have t_2 := lv_neT q_1_2 (a := 2) rfl
                            have t_3 := lv_neT q_1_3 (a := 3) rfl
                            have t_4 := lv_neT q_1_4 (a := 4) rfl
                            have t_5 := lv_neT q_1_5 (a := 5) rfl
                            have t_6 := lv_neT q_1_6 (a := 6) rfl
                            have t_7 := lv_neT q_1_7 (a := 7) rfl
                            have t_8 := lv_neT q_1_8 (a := 8) rfl
                            have t_9 := lv_neT q_1_9 (a := 9) rfl
                            have t_10 := lv_neT q_1_10 (a := 10) rfl
                            have t_11 := lv_neT q_1_11 (a := 11) rfl
                            have t_12 := lv_neT q_1_12 (a := 12) rfl
                            refine lv_tableOut (tgt := 175) hx hb dX5_fieldFact_1 (by omega) (by decide) ?_
                            refine lv_aload_n hx hb dX5_fieldFact_175 rfl (lv_at hl 0 rfl) ?_
                            obtain ⟨k_41, h⟩ := h
                            obtain ⟨y176_42, hy_42, h⟩ := h
                            refine gf_X5_10 S.1 hw k_41 hy_42 dX5_fieldFact_176 ?_
                            obtain ⟨k_43, h⟩ := h
                            refine gf_X5_282 S.1 hw k_43 dX5_fieldFact_179 ?_
                            exact we_i S hw h dX5_fieldFact_182
set_option maxRecDepth 100000 in
set_option maxHeartbeats 4000000 in
theorem k_X5_fieldFact (l : Launch) (E : EE) (Z : ZZ) (M : MM) (a0 : Nat) (v1 : Int32) (Q : Int32 → MM → Prop) (h : P_X5_fieldFact Z M a0 v1 Q) : Ct_i l yX5_fieldFact cX5_fieldFact 2 (some .int) rm_X5_fieldFact E Z M [.ref a0, .int v1] Q := by
  refine Met.ofW (cc := cX5_fieldFact) (maxL := 2) (ret := some .int) (by decide) rfl ?_
  intro p e s m args below meth c s₁ B hml hv
  obtain ⟨rfl, hK, hP, hD, hZ⟩ := hv
  have S : Cx p m c meth cX5_fieldFact 2 s _ RX5 (some .int) := ⟨⟨B.exec, B.bytes, hml, findClass_of_methodNamed B.named, fun w hw => atoms_spec (ws := ws_ yX5_fieldFact cX5_fieldFact 2 (some .int)) B.pre w (List.mem_cons_of_mem _ hw)⟩, B.returns, B.notSynchronized⟩
  have hl := lv_entry ([.ref a0, .int v1]) (n := 2) (Nat.le_of_ble_eq_true rfl)
  rw [lg_entry_eq]
  generalize (lg_sl ([.ref a0, .int v1]) ++ List.replicate (2 - (lg_sl ([.ref a0, .int v1])).length) Slot.unset).toArray = ls at hl ⊢
  exact (wB_X5_fieldFact_0 S  M a0 v1 h) s.heap [] ls ⟨hK, hP, hD, va_S.rf, hZ⟩ hl
set_option maxRecDepth 100000 in
set_option maxHeartbeats 4000000 in
theorem wB_X5_value_33 (S : Cx p m c meth cX5_value 2 s args RX5 (some .int)) {Q : Int32 → MM → Prop}   (M : MM) (a0 : Nat) (v1 : Int32) (h : B_X5_value_33 Z Q XF  M a0 v1) : WG p l e rm_X5_value s m args below meth c 0 0 (MQi below E Z args s Q) E Z M 33 2 [(0, .ref a0), (1, .int v1)] [] := by
  intro H locs ls hw hl
  have hx := S.1.1
  have hb := S.1.2.1
  refine lv_aload_n hx hb dX5_value_33 rfl (lv_at hl 0 rfl) ?_
  refine lv_iload_n hx hb dX5_value_34 rfl (lv_at hl 1 rfl) ?_
  obtain ⟨k_0, h⟩ := h
  refine cv_i (As := [.int v1]) (rest := []) S.1 hw (k_X5_fieldFact l E Z M a0 v1 _ h) wv_X5_184 yc_X5_fieldFact ⟨rfl, rfl⟩ ⟨Nat.le_of_ble_eq_true rfl, Nat.le_of_ble_eq_true rfl⟩ rfl hl.1 (Nat.le_of_ble_eq_true rfl) (ci := 5) (q := (RX5, TX5, 9)) rfl rfl (by rw [k_0]; decide) (cell_5 k_0) ⟨Nat.le_of_ble_eq_true rfl, Nat.le_of_ble_eq_true rfl⟩ dX5_value_35 (fun r35 M35 H locs h hw => ?_)
  exact we_i S hw h dX5_value_38
set_option maxRecDepth 100000 in
set_option maxHeartbeats 4000000 in
theorem wB_X5_value_0 (S : Cx p m c meth cX5_value 2 s args RX5 (some .int)) {Q : Int32 → MM → Prop}   (M : MM) (a0 : Nat) (v1 : Int32) (h : B_X5_value_0 Z Q XF  M a0 v1) : WG p l e rm_X5_value s m args below meth c 0 0 (MQi below E Z args s Q) E Z M 0 2 [(0, .ref a0), (1, .int v1)] [] := by
  intro H locs ls hw hl
  have hx := S.1.1
  have hb := S.1.2.1
  refine lv_iload_n hx hb dX5_value_0 rfl (lv_at hl 1 rfl) ?_
  refine lv_iconst (v := 0) hx hb dX5_value_1 (by decide) ?_
  refine lv_bipush (v := 13) hx hb dX5_value_2 (by decide) ?_
  refine cs_i (As := [.int v1, .int 0, .int 13]) (rest := []) S.1 hw (k_X5_isOutside l E Z M v1 0 13 _ h) wv_X5_70 yc_X5_isOutside ⟨rfl, rfl⟩ ⟨Nat.le_of_ble_eq_true rfl, Nat.le_of_ble_eq_true rfl⟩ rfl hl.1 (Nat.le_of_ble_eq_true rfl) ⟨Nat.le_of_ble_eq_true rfl, Nat.le_of_ble_eq_true rfl⟩ dX5_value_4 (fun r4 M4 H locs h hw => ?_)
  refine lv_if_eq (tgt := 20) hx hb dX5_value_7 (by decide) (fun q_7 => ?_) (fun q_7 => ?_)
  · have h := h.1 q_7
    refine lv_iload_n hx hb dX5_value_20 rfl (lv_at hl 1 rfl) ?_
    refine lv_iconst (v := 3) hx hb dX5_value_21 (by decide) ?_
    refine lv_iconst (v := 5) hx hb dX5_value_22 (by decide) ?_
    refine cs_i (As := [.int v1, .int 3, .int 5]) (rest := []) S.1 hw (k_X5_isOutside l E Z M4 v1 3 5 _ h) wv_X5_70 yc_X5_isOutside ⟨rfl, rfl⟩ ⟨Nat.le_of_ble_eq_true rfl, Nat.le_of_ble_eq_true rfl⟩ rfl hl.1 (Nat.le_of_ble_eq_true rfl) ⟨Nat.le_of_ble_eq_true rfl, Nat.le_of_ble_eq_true rfl⟩ dX5_value_23 (fun r23 M23 H locs h hw => ?_)
    refine lv_if_ne (tgt := 33) hx hb dX5_value_26 (by decide) (fun q_26 => ?_) (fun q_26 => ?_)
    · have h := h.1 q_26
      exact ((wB_X5_value_33 S   _ _ _ h)) H locs ls hw (lv_sub hl [0, 1] rfl)
    · have h := h.2 q_26
      refine lv_aload_n hx hb dX5_value_29 rfl (lv_at hl 0 rfl) ?_
      obtain ⟨k_0, h⟩ := h
      refine cv_v (As := []) (rest := []) S.1 hw (k_X5_findBlocksAndWays l E Z M23 a0  _ h) wv_X5_181 yc_X5_findBlocksAndWays ⟨rfl, rfl⟩ ⟨Nat.le_of_ble_eq_true rfl, Nat.le_of_ble_eq_true rfl⟩ rfl hl.1 (Nat.le_of_ble_eq_true rfl) (ci := 5) (q := (RX5, TX5, 9)) rfl rfl (by rw [k_0]; decide) (cell_5 k_0) ⟨Nat.le_of_ble_eq_true rfl, Nat.le_of_ble_eq_true rfl⟩ dX5_value_30 (fun M30 H locs h hw => ?_)
      exact ((wB_X5_value_33 S   _ _ _ h)) H locs ls hw (lv_sub hl [0, 1] rfl)
  · have h := h.2 q_7
    exact False.elim h
set_option maxRecDepth 100000 in
set_option maxHeartbeats 4000000 in
theorem k_X5_value (l : Launch) (E : EE) (Z : ZZ) (M : MM) (a0 : Nat) (v1 : Int32) (Q : Int32 → MM → Prop) (h : P_X5_value Z M a0 v1 Q XF) : Ct_i l yX5_value cX5_value 2 (some .int) rm_X5_value E Z M [.ref a0, .int v1] Q := by
  refine Met.ofW (cc := cX5_value) (maxL := 2) (ret := some .int) (by decide) rfl ?_
  intro p e s m args below meth c s₁ B hml hv
  obtain ⟨rfl, hK, hP, hD, hZ⟩ := hv
  have S : Cx p m c meth cX5_value 2 s _ RX5 (some .int) := ⟨⟨B.exec, B.bytes, hml, findClass_of_methodNamed B.named, fun w hw => atoms_spec (ws := ws_ yX5_value cX5_value 2 (some .int)) B.pre w (List.mem_cons_of_mem _ hw)⟩, B.returns, B.notSynchronized⟩
  have hl := lv_entry ([.ref a0, .int v1]) (n := 2) (Nat.le_of_ble_eq_true rfl)
  rw [lg_entry_eq]
  generalize (lg_sl ([.ref a0, .int v1]) ++ List.replicate (2 - (lg_sl ([.ref a0, .int v1])).length) Slot.unset).toArray = ls at hl ⊢
  exact (wB_X5_value_0 S  M a0 v1 h) s.heap [] ls ⟨hK, hP, hD, va_S.rf, hZ⟩ hl
set_option maxRecDepth 100000 in
set_option maxHeartbeats 4000000 in
theorem wB_X5_cutsAround_0 (S : Cx p m c meth cX5_cutsAround 4 s args RX5 (some .int)) {Q : Int32 → MM → Prop}   (M : MM) (a0 : Nat) (v1 : Int32) (v2 : Int32) (v3 : Int32) (h : B_X5_cutsAround_0 Z Q XF  M a0 v1 v2 v3) : WG p l e rm_X5_cutsAround s m args below meth c 0 0 (MQi below E Z args s Q) E Z M 0 4 [(0, .ref a0), (1, .int v1), (2, .int v2), (3, .int v3)] [] := by
  intro H locs ls hw hl
  have hx := S.1.1
  have hb := S.1.2.1
  refine lv_aload_n hx hb dX5_cutsAround_0 rfl (lv_at hl 0 rfl) ?_
  refine lv_iload_n hx hb dX5_cutsAround_1 rfl (lv_at hl 1 rfl) ?_
  refine lv_iload_n hx hb dX5_cutsAround_2 rfl (lv_at hl 2 rfl) ?_
  refine lv_iload_n hx hb dX5_cutsAround_3 rfl (lv_at hl 3 rfl) ?_
  obtain ⟨k_0, h⟩ := h
  refine cv_v (As := [.int v1, .int v2, .int v3]) (rest := []) S.1 hw (k_X5_checkRectangle l E Z M a0 v1 v2 v3 _ h) wv_X5_119 yc_X5_checkRectangle ⟨rfl, rfl⟩ ⟨Nat.le_of_ble_eq_true rfl, Nat.le_of_ble_eq_true rfl⟩ rfl hl.1 (Nat.le_of_ble_eq_true rfl) (ci := 5) (q := (RX5, TX5, 9)) rfl rfl (by rw [k_0]; decide) (cell_5 k_0) ⟨Nat.le_of_ble_eq_true rfl, Nat.le_of_ble_eq_true rfl⟩ dX5_cutsAround_4 (fun M4 H locs h hw => ?_)
  refine lv_aload_n hx hb dX5_cutsAround_7 rfl (lv_at hl 0 rfl) ?_
  obtain ⟨y8_1, hy_1, h⟩ := h
  refine gf_X5_16 S.1 hw k_0 hy_1 dX5_cutsAround_8 ?_
  refine lv_aload_n hx hb dX5_cutsAround_11 rfl (lv_at hl 0 rfl) ?_
  obtain ⟨y12_2, hy_2, h⟩ := h
  refine gf_X5_10 S.1 hw k_0 hy_2 dX5_cutsAround_12 ?_
  obtain ⟨k_3, h⟩ := h
  refine cv_v (As := [.ref y12_2]) (rest := []) S.1 hw (k_X1_copyFrom l E Z M4 y8_1 y12_2 _ h) wv_X5_196 yc_X1_copyFrom ⟨rfl, rfl⟩ ⟨Nat.le_of_ble_eq_true rfl, Nat.le_of_ble_eq_true rfl⟩ rfl hl.1 (Nat.le_of_ble_eq_true rfl) (ci := 1) (q := (RX1, TX1, 12)) rfl rfl (by rw [k_3]; decide) (cell_1 k_3) ⟨Nat.le_of_ble_eq_true rfl, Nat.le_of_ble_eq_true rfl⟩ dX5_cutsAround_15 (fun M15 H locs h hw => ?_)
  refine lv_aload_n hx hb dX5_cutsAround_18 rfl (lv_at hl 0 rfl) ?_
  refine gf_X5_16 S.1 hw k_0 hy_1 dX5_cutsAround_19 ?_
  refine lv_iload_n hx hb dX5_cutsAround_22 rfl (lv_at hl 1 rfl) ?_
  refine lv_iload_n hx hb dX5_cutsAround_23 rfl (lv_at hl 2 rfl) ?_
  refine lv_iload_n hx hb dX5_cutsAround_24 rfl (lv_at hl 3 rfl) ?_
  refine cv_i (As := [.int v1, .int v2, .int v3]) (rest := []) S.1 hw (k_X1_cutRectangle l E Z M15 y8_1 v1 v2 v3 _ h) wv_X5_123 yc_X1_cutRectangle ⟨rfl, rfl⟩ ⟨Nat.le_of_ble_eq_true rfl, Nat.le_of_ble_eq_true rfl⟩ rfl hl.1 (Nat.le_of_ble_eq_true rfl) (ci := 1) (q := (RX1, TX1, 12)) rfl rfl (by rw [k_3]; decide) (cell_1 k_3) ⟨Nat.le_of_ble_eq_true rfl, Nat.le_of_ble_eq_true rfl⟩ dX5_cutsAround_25 (fun r25 M25 H locs h hw => ?_)
  exact we_i S hw h dX5_cutsAround_28
set_option maxRecDepth 100000 in
set_option maxHeartbeats 4000000 in
theorem k_X5_cutsAround (l : Launch) (E : EE) (Z : ZZ) (M : MM) (a0 : Nat) (v1 : Int32) (v2 : Int32) (v3 : Int32) (Q : Int32 → MM → Prop) (h : P_X5_cutsAround Z M a0 v1 v2 v3 Q XF) : Ct_i l yX5_cutsAround cX5_cutsAround 4 (some .int) rm_X5_cutsAround E Z M [.ref a0, .int v1, .int v2, .int v3] Q := by
  refine Met.ofW (cc := cX5_cutsAround) (maxL := 4) (ret := some .int) (by decide) rfl ?_
  intro p e s m args below meth c s₁ B hml hv
  obtain ⟨rfl, hK, hP, hD, hZ⟩ := hv
  have S : Cx p m c meth cX5_cutsAround 4 s _ RX5 (some .int) := ⟨⟨B.exec, B.bytes, hml, findClass_of_methodNamed B.named, fun w hw => atoms_spec (ws := ws_ yX5_cutsAround cX5_cutsAround 4 (some .int)) B.pre w (List.mem_cons_of_mem _ hw)⟩, B.returns, B.notSynchronized⟩
  have hl := lv_entry ([.ref a0, .int v1, .int v2, .int v3]) (n := 4) (Nat.le_of_ble_eq_true rfl)
  rw [lg_entry_eq]
  generalize (lg_sl ([.ref a0, .int v1, .int v2, .int v3]) ++ List.replicate (4 - (lg_sl ([.ref a0, .int v1, .int v2, .int v3])).length) Slot.unset).toArray = ls at hl ⊢
  exact (wB_X5_cutsAround_0 S  M a0 v1 v2 v3 h) s.heap [] ls ⟨hK, hP, hD, va_S.rf, hZ⟩ hl
