variable {p : Program} {l : Launch} {e : Env} {s : State} {m : MethodId} {args : Array Value} {below : List Frame} {meth : Method} {c : Code} {E : EE} {Z : ZZ}
set_option maxRecDepth 100000 in
set_option maxHeartbeats 4000000 in
theorem wB_X5_takable_0 (S : Cx p m c meth cX5_takable 1 s args RX5 (some .int)) {Q : Int32 → MM → Prop}   (M : MM) (a0 : Nat) (h : B_X5_takable_0 Z Q  M a0) : WG p l e rm_X5_takable s m args below meth c 0 0 (MQi below E Z args s Q) E Z M 0 1 [(0, .ref a0)] [] := by
  intro H locs ls hw hl
  have hx := S.1.1
  have hb := S.1.2.1
  refine lv_aload_n hx hb dX5_takable_0 rfl (lv_at hl 0 rfl) ?_
  obtain ⟨k_0, h⟩ := h
  obtain ⟨y1_1, hy_1, h⟩ := h
  refine gf_X5_16 S.1 hw k_0 hy_1 dX5_takable_1 ?_
  refine lv_aload_n hx hb dX5_takable_4 rfl (lv_at hl 0 rfl) ?_
  obtain ⟨y5_2, hy_2, h⟩ := h
  refine gf_X5_10 S.1 hw k_0 hy_2 dX5_takable_5 ?_
  obtain ⟨k_3, h⟩ := h
  refine cv_v (As := [.ref y5_2]) (rest := []) S.1 hw (k_X1_copyFrom l E Z M y1_1 y5_2 _ h) wv_X5_196 yc_X1_copyFrom ⟨rfl, rfl⟩ ⟨Nat.le_of_ble_eq_true rfl, Nat.le_of_ble_eq_true rfl⟩ rfl hl.1 (Nat.le_of_ble_eq_true rfl) (ci := 1) (q := (RX1, TX1, 12)) rfl rfl (by rw [k_3]; decide) (cell_1 k_3) ⟨Nat.le_of_ble_eq_true rfl, Nat.le_of_ble_eq_true rfl⟩ dX5_takable_8 (fun M8 H locs h hw => ?_)
  refine lv_aload_n hx hb dX5_takable_11 rfl (lv_at hl 0 rfl) ?_
  refine lv_aload_n hx hb dX5_takable_12 rfl (lv_at hl 0 rfl) ?_
  refine gf_X5_16 S.1 hw k_0 hy_1 dX5_takable_13 ?_
  refine cv_i (As := [.ref y1_1]) (rest := []) S.1 hw (k_X5_removeFloating l E Z M8 a0 y1_1 _ h) wv_X5_148 yc_X5_removeFloating ⟨rfl, rfl⟩ ⟨Nat.le_of_ble_eq_true rfl, Nat.le_of_ble_eq_true rfl⟩ rfl hl.1 (Nat.le_of_ble_eq_true rfl) (ci := 5) (q := (RX5, TX5, 9)) rfl rfl (by rw [k_0]; decide) (cell_5 k_0) ⟨Nat.le_of_ble_eq_true rfl, Nat.le_of_ble_eq_true rfl⟩ dX5_takable_16 (fun r16 M16 H locs h hw => ?_)
  exact we_i S hw h dX5_takable_19
set_option maxRecDepth 100000 in
set_option maxHeartbeats 4000000 in
theorem k_X5_takable (l : Launch) (E : EE) (Z : ZZ) (M : MM) (a0 : Nat) (Q : Int32 → MM → Prop) (h : P_X5_takable Z M a0 Q) : Ct_i l yX5_takable cX5_takable 1 (some .int) rm_X5_takable E Z M [.ref a0] Q := by
  refine Met.ofW (cc := cX5_takable) (maxL := 1) (ret := some .int) (by decide) rfl ?_
  intro p e s m args below meth c s₁ B hml hv
  obtain ⟨rfl, hK, hP, hD, hZ⟩ := hv
  have S : Cx p m c meth cX5_takable 1 s _ RX5 (some .int) := ⟨⟨B.exec, B.bytes, hml, findClass_of_methodNamed B.named, fun w hw => atoms_spec (ws := ws_ yX5_takable cX5_takable 1 (some .int)) B.pre w (List.mem_cons_of_mem _ hw)⟩, B.returns, B.notSynchronized⟩
  have hl := lv_entry ([.ref a0]) (n := 1) (Nat.le_of_ble_eq_true rfl)
  rw [lg_entry_eq]
  generalize (lg_sl ([.ref a0]) ++ List.replicate (1 - (lg_sl ([.ref a0])).length) Slot.unset).toArray = ls at hl ⊢
  exact (wB_X5_takable_0 S  M a0 h) s.heap [] ls ⟨hK, hP, hD, va_S.rf, hZ⟩ hl
set_option maxRecDepth 100000 in
set_option maxHeartbeats 4000000 in
theorem wB_X5_leftStranded_0 (S : Cx p m c meth cX5_leftStranded 1 s args RX5 (some .int)) {Q : Int32 → MM → Prop}   (M : MM) (a0 : Nat) (h : B_X5_leftStranded_0 Z Q  M a0) : WG p l e rm_X5_leftStranded s m args below meth c 0 0 (MQi below E Z args s Q) E Z M 0 1 [(0, .ref a0)] [] := by
  intro H locs ls hw hl
  have hx := S.1.1
  have hb := S.1.2.1
  refine lv_aload_n hx hb dX5_leftStranded_0 rfl (lv_at hl 0 rfl) ?_
  obtain ⟨k_0, h⟩ := h
  obtain ⟨y1_1, hy_1, h⟩ := h
  refine gf_X5_16 S.1 hw k_0 hy_1 dX5_leftStranded_1 ?_
  refine lv_aload_n hx hb dX5_leftStranded_4 rfl (lv_at hl 0 rfl) ?_
  obtain ⟨y5_2, hy_2, h⟩ := h
  refine gf_X5_10 S.1 hw k_0 hy_2 dX5_leftStranded_5 ?_
  obtain ⟨k_3, h⟩ := h
  refine cv_v (As := [.ref y5_2]) (rest := []) S.1 hw (k_X1_copyFrom l E Z M y1_1 y5_2 _ h) wv_X5_196 yc_X1_copyFrom ⟨rfl, rfl⟩ ⟨Nat.le_of_ble_eq_true rfl, Nat.le_of_ble_eq_true rfl⟩ rfl hl.1 (Nat.le_of_ble_eq_true rfl) (ci := 1) (q := (RX1, TX1, 12)) rfl rfl (by rw [k_3]; decide) (cell_1 k_3) ⟨Nat.le_of_ble_eq_true rfl, Nat.le_of_ble_eq_true rfl⟩ dX5_leftStranded_8 (fun M8 H locs h hw => ?_)
  refine lv_aload_n hx hb dX5_leftStranded_11 rfl (lv_at hl 0 rfl) ?_
  refine lv_aload_n hx hb dX5_leftStranded_12 rfl (lv_at hl 0 rfl) ?_
  refine gf_X5_16 S.1 hw k_0 hy_1 dX5_leftStranded_13 ?_
  refine cv_i (As := [.ref y1_1]) (rest := []) S.1 hw (k_X5_removeFloating l E Z M8 a0 y1_1 _ h) wv_X5_148 yc_X5_removeFloating ⟨rfl, rfl⟩ ⟨Nat.le_of_ble_eq_true rfl, Nat.le_of_ble_eq_true rfl⟩ rfl hl.1 (Nat.le_of_ble_eq_true rfl) (ci := 5) (q := (RX5, TX5, 9)) rfl rfl (by rw [k_0]; decide) (cell_5 k_0) ⟨Nat.le_of_ble_eq_true rfl, Nat.le_of_ble_eq_true rfl⟩ dX5_leftStranded_16 (fun r16 M16 H locs h hw => ?_)
  refine lv_pop hx hb dX5_leftStranded_19 rfl ?_
  refine lv_aload_n hx hb dX5_leftStranded_20 rfl (lv_at hl 0 rfl) ?_
  obtain ⟨y21_4, hy_4, h⟩ := h
  refine gf_X5_40 S.1 hw k_0 hy_4 dX5_leftStranded_21 ?_
  obtain ⟨k_5, h⟩ := h
  refine cv_i (As := []) (rest := []) S.1 hw (k_X0_countLoose l E Z M16 y21_4  _ h) wv_X5_199 yc_X0_countLoose ⟨rfl, rfl⟩ ⟨Nat.le_of_ble_eq_true rfl, Nat.le_of_ble_eq_true rfl⟩ rfl hl.1 (Nat.le_of_ble_eq_true rfl) (ci := 0) (q := (RX0, TX0, 3)) rfl rfl (by rw [k_5]; decide) (cell_0 k_5) ⟨Nat.le_of_ble_eq_true rfl, Nat.le_of_ble_eq_true rfl⟩ dX5_leftStranded_24 (fun r24 M24 H locs h hw => ?_)
  exact we_i S hw h dX5_leftStranded_27
set_option maxRecDepth 100000 in
set_option maxHeartbeats 4000000 in
theorem k_X5_leftStranded (l : Launch) (E : EE) (Z : ZZ) (M : MM) (a0 : Nat) (Q : Int32 → MM → Prop) (h : P_X5_leftStranded Z M a0 Q) : Ct_i l yX5_leftStranded cX5_leftStranded 1 (some .int) rm_X5_leftStranded E Z M [.ref a0] Q := by
  refine Met.ofW (cc := cX5_leftStranded) (maxL := 1) (ret := some .int) (by decide) rfl ?_
  intro p e s m args below meth c s₁ B hml hv
  obtain ⟨rfl, hK, hP, hD, hZ⟩ := hv
  have S : Cx p m c meth cX5_leftStranded 1 s _ RX5 (some .int) := ⟨⟨B.exec, B.bytes, hml, findClass_of_methodNamed B.named, fun w hw => atoms_spec (ws := ws_ yX5_leftStranded cX5_leftStranded 1 (some .int)) B.pre w (List.mem_cons_of_mem _ hw)⟩, B.returns, B.notSynchronized⟩
  have hl := lv_entry ([.ref a0]) (n := 1) (Nat.le_of_ble_eq_true rfl)
  rw [lg_entry_eq]
  generalize (lg_sl ([.ref a0]) ++ List.replicate (1 - (lg_sl ([.ref a0])).length) Slot.unset).toArray = ls at hl ⊢
  exact (wB_X5_leftStranded_0 S  M a0 h) s.heap [] ls ⟨hK, hP, hD, va_S.rf, hZ⟩ hl
set_option maxRecDepth 100000 in
set_option maxHeartbeats 4000000 in
theorem wB_X5_hasWaterIn_32 (S : Cx p m c meth cX5_hasWaterIn 4 s args RX5 (some .boolean)) {Q : Int32 → MM → Prop} {K2 : MM → Nat → Nat → Int32 → Int32 → Prop} (hK2 : ∀ (M : MM) (a0 : Nat) (a1 : Nat) (v2 : Int32) (v3 : Int32), K2 M a0 a1 v2 v3 → WG p l e rm_X5_hasWaterIn s m args below meth c 0 0 (MQi below E Z args s Q) E Z M 2 4 [(0, .ref a0), (1, .ref a1), (2, .int v2), (3, .int v3)] []) (M : MM) (a0 : Nat) (a1 : Nat) (v2 : Int32) (v3 : Int32) (h : B_X5_hasWaterIn_32 Z Q K2 M a0 a1 v2 v3) : WG p l e rm_X5_hasWaterIn s m args below meth c 0 0 (MQi below E Z args s Q) E Z M 32 4 [(0, .ref a0), (1, .ref a1), (2, .int v2), (3, .int v3)] [] := by
  intro H locs ls hw hl
  have hx := S.1.1
  have hb := S.1.2.1
  refine lv_iinc (v := (v3 + 1)) (lv' := [(3, .int (v3 + 1)), (0, .ref a0), (1, .ref a1), (2, .int v2)]) hx hb dX5_hasWaterIn_32 hl (k := 3) rfl rfl (by decide) rfl (fun ls hl => ?_)
  refine lv_goto (tgt := 2) hx hb dX5_hasWaterIn_35 (by decide) ?_
  exact (hK2 _ _ _ _ _ h) H locs ls hw (lv_sub hl [1, 2, 3, 0] rfl)
set_option maxRecDepth 100000 in
set_option maxHeartbeats 4000000 in
theorem wB_X5_hasWaterIn_2 (S : Cx p m c meth cX5_hasWaterIn 4 s args RX5 (some .boolean)) {Q : Int32 → MM → Prop} {K2 : MM → Nat → Nat → Int32 → Int32 → Prop} (hK2 : ∀ (M : MM) (a0 : Nat) (a1 : Nat) (v2 : Int32) (v3 : Int32), K2 M a0 a1 v2 v3 → WG p l e rm_X5_hasWaterIn s m args below meth c 0 0 (MQi below E Z args s Q) E Z M 2 4 [(0, .ref a0), (1, .ref a1), (2, .int v2), (3, .int v3)] []) (M : MM) (a0 : Nat) (a1 : Nat) (v2 : Int32) (v3 : Int32) (h : B_X5_hasWaterIn_2 Z Q K2 M a0 a1 v2 v3) : WG p l e rm_X5_hasWaterIn s m args below meth c 0 0 (MQi below E Z args s Q) E Z M 2 4 [(0, .ref a0), (1, .ref a1), (2, .int v2), (3, .int v3)] [] := by
  intro H locs ls hw hl
  have hx := S.1.1
  have hb := S.1.2.1
  refine lv_iload_n hx hb dX5_hasWaterIn_2 rfl (lv_at hl 3 rfl) ?_
  refine lv_aload_n hx hb dX5_hasWaterIn_3 rfl (lv_at hl 1 rfl) ?_
  obtain ⟨k_0, h⟩ := h
  refine cv_i (As := []) (rest := [.int v3]) S.1 hw (k_X1_cellCount l E Z M a1  _ h) wv_X5_212 yc_X1_cellCount ⟨rfl, rfl⟩ ⟨Nat.le_of_ble_eq_true rfl, Nat.le_of_ble_eq_true rfl⟩ rfl hl.1 (Nat.le_of_ble_eq_true rfl) (ci := 1) (q := (RX1, TX1, 12)) rfl rfl (by rw [k_0]; decide) (cell_1 k_0) ⟨Nat.le_of_ble_eq_true rfl, Nat.le_of_ble_eq_true rfl⟩ dX5_hasWaterIn_4 (fun r4 M4 H locs h hw => ?_)
  refine lv_icmp_ge (tgt := 38) hx hb dX5_hasWaterIn_7 (by decide) (fun q_7 => ?_) (fun q_7 => ?_)
  · have h := h.1 q_7
    refine lv_iconst (v := 0) hx hb dX5_hasWaterIn_38 (by decide) ?_
    exact we_z S hw rfl (by rfl) h dX5_hasWaterIn_39
  · have h := h.2 q_7
    refine lv_aload_n hx hb dX5_hasWaterIn_10 rfl (lv_at hl 0 rfl) ?_
    obtain ⟨k_1, h⟩ := h
    obtain ⟨y11_2, hy_2, h⟩ := h
    refine gf_X5_40 S.1 hw k_1 hy_2 dX5_hasWaterIn_11 ?_
    refine lv_iload_n hx hb dX5_hasWaterIn_14 rfl (lv_at hl 3 rfl) ?_
    obtain ⟨k_3, h⟩ := h
    refine cv_i (As := [.int v3]) (rest := []) S.1 hw (k_X0_numberAt l E Z M4 y11_2 v3 _ h) wv_X5_131 yc_X0_numberAt ⟨rfl, rfl⟩ ⟨Nat.le_of_ble_eq_true rfl, Nat.le_of_ble_eq_true rfl⟩ rfl hl.1 (Nat.le_of_ble_eq_true rfl) (ci := 0) (q := (RX0, TX0, 3)) rfl rfl (by rw [k_3]; decide) (cell_0 k_3) ⟨Nat.le_of_ble_eq_true rfl, Nat.le_of_ble_eq_true rfl⟩ dX5_hasWaterIn_15 (fun r15 M15 H locs h hw => ?_)
    refine lv_iload_n hx hb dX5_hasWaterIn_18 rfl (lv_at hl 2 rfl) ?_
    refine lv_icmp_ne (tgt := 32) hx hb dX5_hasWaterIn_19 (by decide) (fun q_19 => ?_) (fun q_19 => ?_)
    · have h := h.1 q_19
      exact ((wB_X5_hasWaterIn_32 S  hK2 _ _ _ _ _ h)) H locs ls hw (lv_sub hl [0, 1, 2, 3] rfl)
    · have h := h.2 q_19
      refine lv_aload_n hx hb dX5_hasWaterIn_22 rfl (lv_at hl 1 rfl) ?_
      refine lv_iload_n hx hb dX5_hasWaterIn_23 rfl (lv_at hl 3 rfl) ?_
      refine cv_i (As := [.int v3]) (rest := []) S.1 hw (k_X1_isIce l E Z M15 a1 v3 _ h) wv_X5_215 yc_X1_isIce ⟨rfl, rfl⟩ ⟨Nat.le_of_ble_eq_true rfl, Nat.le_of_ble_eq_true rfl⟩ rfl hl.1 (Nat.le_of_ble_eq_true rfl) (ci := 1) (q := (RX1, TX1, 12)) rfl rfl (by rw [k_0]; decide) (cell_1 k_0) ⟨Nat.le_of_ble_eq_true rfl, Nat.le_of_ble_eq_true rfl⟩ dX5_hasWaterIn_24 (fun r24 M24 H locs h hw => ?_)
      refine lv_if_ne (tgt := 32) hx hb dX5_hasWaterIn_27 (by decide) (fun q_27 => ?_) (fun q_27 => ?_)
      · have h := h.1 q_27
        exact ((wB_X5_hasWaterIn_32 S  hK2 _ _ _ _ _ h)) H locs ls hw (lv_sub hl [0, 1, 2, 3] rfl)
      · have h := h.2 q_27
        refine lv_iconst (v := 1) hx hb dX5_hasWaterIn_30 (by decide) ?_
        exact we_z S hw rfl (by rfl) h dX5_hasWaterIn_31
theorem wL_X5_hasWaterIn_2 (S : Cx p m c meth cX5_hasWaterIn 4 s args RX5 (some .boolean)) {Q : Int32 → MM → Prop}   : ∀ (n : Nat) (M : MM) (a0 : Nat) (a1 : Nat) (v2 : Int32) (v3 : Int32), L_X5_hasWaterIn_2 Z Q  n M a0 a1 v2 v3 → WG p l e rm_X5_hasWaterIn s m args below meth c 0 0 (MQi below E Z args s Q) E Z M 2 4 [(0, .ref a0), (1, .ref a1), (2, .int v2), (3, .int v3)] []
  | 0, _, _, _, _, _, h => False.elim h
  | n + 1, M, a0, a1, v2, v3, h => wB_X5_hasWaterIn_2 S  (wL_X5_hasWaterIn_2 S   n) M a0 a1 v2 v3 h
set_option maxRecDepth 100000 in
set_option maxHeartbeats 4000000 in
theorem wB_X5_hasWaterIn_0 (S : Cx p m c meth cX5_hasWaterIn 4 s args RX5 (some .boolean)) {Q : Int32 → MM → Prop}   (M : MM) (a0 : Nat) (a1 : Nat) (v2 : Int32) (h : B_X5_hasWaterIn_0 Z Q  M a0 a1 v2) : WG p l e rm_X5_hasWaterIn s m args below meth c 0 0 (MQi below E Z args s Q) E Z M 0 4 [(0, .ref a0), (1, .ref a1), (2, .int v2)] [] := by
  intro H locs ls hw hl
  have hx := S.1.1
  have hb := S.1.2.1
  refine lv_iconst (v := 0) hx hb dX5_hasWaterIn_0 (by decide) ?_
  refine lv_istore_n (lv' := [(3, .int 0), (0, .ref a0), (1, .ref a1), (2, .int v2)]) hx hb dX5_hasWaterIn_1 rfl hl (by decide) rfl (fun ls hl => ?_)
  exact ((Exists.elim h (fun n h => wL_X5_hasWaterIn_2 S   n _ _ _ _ _ h))) H locs ls hw (lv_sub hl [1, 2, 3, 0] rfl)
set_option maxRecDepth 100000 in
set_option maxHeartbeats 4000000 in
theorem k_X5_hasWaterIn (l : Launch) (E : EE) (Z : ZZ) (M : MM) (a0 : Nat) (a1 : Nat) (v2 : Int32) (Q : Int32 → MM → Prop) (h : P_X5_hasWaterIn Z M a0 a1 v2 Q) : Ct_i l yX5_hasWaterIn cX5_hasWaterIn 4 (some .boolean) rm_X5_hasWaterIn E Z M [.ref a0, .ref a1, .int v2] Q := by
  refine Met.ofW (cc := cX5_hasWaterIn) (maxL := 4) (ret := some .boolean) (by decide) rfl ?_
  intro p e s m args below meth c s₁ B hml hv
  obtain ⟨rfl, hK, hP, hD, hZ⟩ := hv
  have S : Cx p m c meth cX5_hasWaterIn 4 s _ RX5 (some .boolean) := ⟨⟨B.exec, B.bytes, hml, findClass_of_methodNamed B.named, fun w hw => atoms_spec (ws := ws_ yX5_hasWaterIn cX5_hasWaterIn 4 (some .boolean)) B.pre w (List.mem_cons_of_mem _ hw)⟩, B.returns, B.notSynchronized⟩
  have hl := lv_entry ([.ref a0, .ref a1, .int v2]) (n := 4) (Nat.le_of_ble_eq_true rfl)
  rw [lg_entry_eq]
  generalize (lg_sl ([.ref a0, .ref a1, .int v2]) ++ List.replicate (4 - (lg_sl ([.ref a0, .ref a1, .int v2])).length) Slot.unset).toArray = ls at hl ⊢
  exact (wB_X5_hasWaterIn_0 S  M a0 a1 v2 h) s.heap [] ls ⟨hK, hP, hD, va_S.rf, hZ⟩ hl
set_option maxRecDepth 100000 in
set_option maxHeartbeats 4000000 in
theorem wB_X5_daysWhole_51 (S : Cx p m c meth cX5_daysWhole 4 s args RX5 (some .int)) {Q : Int32 → MM → Prop} {K51 : MM → Nat → Int32 → Int32 → Prop} (hK51 : ∀ (M : MM) (a0 : Nat) (v2 : Int32) (v3 : Int32), K51 M a0 v2 v3 → WG p l e rm_X5_daysWhole s m args below meth c 0 0 (MQi below E Z args s Q) E Z M 51 4 [(0, .ref a0), (2, .int v2), (3, .int v3)] []) (M : MM) (a0 : Nat) (v2 : Int32) (v3 : Int32) (h : B_X5_daysWhole_51 Z Q XF K51 M a0 v2 v3) : WG p l e rm_X5_daysWhole s m args below meth c 0 0 (MQi below E Z args s Q) E Z M 51 4 [(0, .ref a0), (2, .int v2), (3, .int v3)] [] := by
  intro H locs ls hw hl
  have hx := S.1.1
  have hb := S.1.2.1
  refine lv_iload_n hx hb dX5_daysWhole_51 rfl (lv_at hl 2 rfl) ?_
  refine lv_bipush (v := 60) hx hb dX5_daysWhole_52 (by decide) ?_
  refine lv_icmp_gt (tgt := 84) hx hb dX5_daysWhole_54 (by decide) (fun q_54 => ?_) (fun q_54 => ?_)
  · have h := h.1 q_54
    refine lv_iconst (v := (-1)) hx hb dX5_daysWhole_84 (by decide) ?_
    exact we_i S hw h dX5_daysWhole_85
  · have h := h.2 q_54
    refine lv_aload_n hx hb dX5_daysWhole_57 rfl (lv_at hl 0 rfl) ?_
    obtain ⟨k_0, h⟩ := h
    obtain ⟨y58_1, hy_1, h⟩ := h
    refine gf_X5_16 S.1 hw k_0 hy_1 dX5_daysWhole_58 ?_
    obtain ⟨k_2, h⟩ := h
    refine cv_v (As := []) (rest := []) S.1 hw (k_X1_meltOneDay l E Z M y58_1  _ h) wv_X5_159 yc_X1_meltOneDay ⟨rfl, rfl⟩ ⟨Nat.le_of_ble_eq_true rfl, Nat.le_of_ble_eq_true rfl⟩ rfl hl.1 (Nat.le_of_ble_eq_true rfl) (ci := 1) (q := (RX1, TX1, 12)) rfl rfl (by rw [k_2]; decide) (cell_1 k_2) ⟨Nat.le_of_ble_eq_true rfl, Nat.le_of_ble_eq_true rfl⟩ dX5_daysWhole_61 (fun M61 H locs h hw => ?_)
    refine lv_aload_n hx hb dX5_daysWhole_64 rfl (lv_at hl 0 rfl) ?_
    refine lv_aload_n hx hb dX5_daysWhole_65 rfl (lv_at hl 0 rfl) ?_
    refine gf_X5_16 S.1 hw k_0 hy_1 dX5_daysWhole_66 ?_
    refine lv_iload_n hx hb dX5_daysWhole_69 rfl (lv_at hl 1 rfl) ?_
    refine cv_i (As := [.ref y58_1, .int v2]) (rest := []) S.1 hw (k_X5_hasWaterIn l E Z M61 a0 y58_1 v2 _ h) wv_X5_202 yc_X5_hasWaterIn ⟨rfl, rfl⟩ ⟨Nat.le_of_ble_eq_true rfl, Nat.le_of_ble_eq_true rfl⟩ rfl hl.1 (Nat.le_of_ble_eq_true rfl) (ci := 5) (q := (RX5, TX5, 9)) rfl rfl (by rw [k_0]; decide) (cell_5 k_0) ⟨Nat.le_of_ble_eq_true rfl, Nat.le_of_ble_eq_true rfl⟩ dX5_daysWhole_70 (fun r70 M70 H locs h hw => ?_)
    refine lv_if_eq (tgt := 78) hx hb dX5_daysWhole_73 (by decide) (fun q_73 => ?_) (fun q_73 => ?_)
    · have h := h.1 q_73
      refine lv_iinc (v := (v3 + 1)) (lv' := [(3, .int (v3 + 1)), (0, .ref a0), (2, .int v2)]) hx hb dX5_daysWhole_78 hl (k := 2) rfl rfl (by decide) rfl (fun ls hl => ?_)
      refine lv_goto (tgt := 51) hx hb dX5_daysWhole_81 (by decide) ?_
      exact (hK51 _ _ _ _ h) H locs ls hw (lv_sub hl [1, 2, 0] rfl)
    · have h := h.2 q_73
      refine lv_iload_n hx hb dX5_daysWhole_76 rfl (lv_at hl 2 rfl) ?_
      exact we_i S hw h dX5_daysWhole_77
theorem wL_X5_daysWhole_51 (S : Cx p m c meth cX5_daysWhole 4 s args RX5 (some .int)) {Q : Int32 → MM → Prop}   : ∀ (n : Nat) (M : MM) (a0 : Nat) (v2 : Int32) (v3 : Int32), L_X5_daysWhole_51 Z Q XF  n M a0 v2 v3 → WG p l e rm_X5_daysWhole s m args below meth c 0 0 (MQi below E Z args s Q) E Z M 51 4 [(0, .ref a0), (2, .int v2), (3, .int v3)] []
  | 0, _, _, _, _, h => False.elim h
  | n + 1, M, a0, v2, v3, h => wB_X5_daysWhole_51 S  (wL_X5_daysWhole_51 S   n) M a0 v2 v3 h
set_option maxRecDepth 100000 in
set_option maxHeartbeats 4000000 in
theorem wB_X5_daysWhole_0 (S : Cx p m c meth cX5_daysWhole 4 s args RX5 (some .int)) {Q : Int32 → MM → Prop}   (M : MM) (a0 : Nat) (v1 : Int32) (h : B_X5_daysWhole_0 Z Q XF  M a0 v1) : WG p l e rm_X5_daysWhole s m args below meth c 0 0 (MQi below E Z args s Q) E Z M 0 4 [(0, .ref a0), (1, .int v1)] [] := by
  intro H locs ls hw hl
  have hx := S.1.1
  have hb := S.1.2.1
  refine lv_aload_n hx hb dX5_daysWhole_0 rfl (lv_at hl 0 rfl) ?_
  refine lv_iload_n hx hb dX5_daysWhole_1 rfl (lv_at hl 1 rfl) ?_
  obtain ⟨k_0, h⟩ := h
  refine cv_v (As := [.int v1]) (rest := []) S.1 hw (k_X5_checkCell l E Z M a0 v1 _ h) wv_X5_87 yc_X5_checkCell ⟨rfl, rfl⟩ ⟨Nat.le_of_ble_eq_true rfl, Nat.le_of_ble_eq_true rfl⟩ rfl hl.1 (Nat.le_of_ble_eq_true rfl) (ci := 5) (q := (RX5, TX5, 9)) rfl rfl (by rw [k_0]; decide) (cell_5 k_0) ⟨Nat.le_of_ble_eq_true rfl, Nat.le_of_ble_eq_true rfl⟩ dX5_daysWhole_2 (fun M2 H locs h hw => ?_)
  refine lv_aload_n hx hb dX5_daysWhole_5 rfl (lv_at hl 0 rfl) ?_
  obtain ⟨y6_1, hy_1, h⟩ := h
  refine gf_X5_40 S.1 hw k_0 hy_1 dX5_daysWhole_6 ?_
  refine lv_aload_n hx hb dX5_daysWhole_9 rfl (lv_at hl 0 rfl) ?_
  obtain ⟨y10_2, hy_2, h⟩ := h
  refine gf_X5_10 S.1 hw k_0 hy_2 dX5_daysWhole_10 ?_
  obtain ⟨k_3, h⟩ := h
  refine cv_v (As := [.ref y10_2]) (rest := []) S.1 hw (k_X0_find l E Z M2 y6_1 y10_2 _ h) wv_X5_127 yc_X0_find ⟨rfl, rfl⟩ ⟨Nat.le_of_ble_eq_true rfl, Nat.le_of_ble_eq_true rfl⟩ rfl hl.1 (Nat.le_of_ble_eq_true rfl) (ci := 0) (q := (RX0, TX0, 3)) rfl rfl (by rw [k_3]; decide) (cell_0 k_3) ⟨Nat.le_of_ble_eq_true rfl, Nat.le_of_ble_eq_true rfl⟩ dX5_daysWhole_13 (fun M13 H locs h hw => ?_)
  refine lv_aload_n hx hb dX5_daysWhole_16 rfl (lv_at hl 0 rfl) ?_
  refine gf_X5_40 S.1 hw k_0 hy_1 dX5_daysWhole_17 ?_
  refine lv_iload_n hx hb dX5_daysWhole_20 rfl (lv_at hl 1 rfl) ?_
  refine cv_i (As := [.int v1]) (rest := []) S.1 hw (k_X0_numberAt l E Z M13 y6_1 v1 _ h) wv_X5_131 yc_X0_numberAt ⟨rfl, rfl⟩ ⟨Nat.le_of_ble_eq_true rfl, Nat.le_of_ble_eq_true rfl⟩ rfl hl.1 (Nat.le_of_ble_eq_true rfl) (ci := 0) (q := (RX0, TX0, 3)) rfl rfl (by rw [k_3]; decide) (cell_0 k_3) ⟨Nat.le_of_ble_eq_true rfl, Nat.le_of_ble_eq_true rfl⟩ dX5_daysWhole_21 (fun r21 M21 H locs h hw => ?_)
  refine lv_istore_n (lv' := [(2, .int r21), (0, .ref a0), (1, .int v1)]) hx hb dX5_daysWhole_24 rfl hl (by decide) rfl (fun ls hl => ?_)
  refine lv_aload_n hx hb dX5_daysWhole_25 rfl (lv_at hl 1 rfl) ?_
  refine gf_X5_40 S.1 hw k_0 hy_1 dX5_daysWhole_26 ?_
  refine lv_iload_n hx hb dX5_daysWhole_29 rfl (lv_at hl 0 rfl) ?_
  refine cv_i (As := [.int r21]) (rest := []) S.1 hw (k_X0_isLoose l E Z M21 y6_1 r21 _ h) wv_X5_134 yc_X0_isLoose ⟨rfl, rfl⟩ ⟨Nat.le_of_ble_eq_true rfl, Nat.le_of_ble_eq_true rfl⟩ rfl hl.1 (Nat.le_of_ble_eq_true rfl) (ci := 0) (q := (RX0, TX0, 3)) rfl rfl (by rw [k_3]; decide) (cell_0 k_3) ⟨Nat.le_of_ble_eq_true rfl, Nat.le_of_ble_eq_true rfl⟩ dX5_daysWhole_30 (fun r30 M30 H locs h hw => ?_)
  refine lv_if_ne (tgt := 38) hx hb dX5_daysWhole_33 (by decide) (fun q_33 => ?_) (fun q_33 => ?_)
  · have h := h.1 q_33
    refine lv_aload_n hx hb dX5_daysWhole_38 rfl (lv_at hl 1 rfl) ?_
    obtain ⟨y39_4, hy_4, h⟩ := h
    refine gf_X5_16 S.1 hw k_0 hy_4 dX5_daysWhole_39 ?_
    refine lv_aload_n hx hb dX5_daysWhole_42 rfl (lv_at hl 1 rfl) ?_
    refine gf_X5_10 S.1 hw k_0 hy_2 dX5_daysWhole_43 ?_
    obtain ⟨k_5, h⟩ := h
    refine cv_v (As := [.ref y10_2]) (rest := []) S.1 hw (k_X1_copyFrom l E Z M30 y39_4 y10_2 _ h) wv_X5_196 yc_X1_copyFrom ⟨rfl, rfl⟩ ⟨Nat.le_of_ble_eq_true rfl, Nat.le_of_ble_eq_true rfl⟩ rfl hl.1 (Nat.le_of_ble_eq_true rfl) (ci := 1) (q := (RX1, TX1, 12)) rfl rfl (by rw [k_5]; decide) (cell_1 k_5) ⟨Nat.le_of_ble_eq_true rfl, Nat.le_of_ble_eq_true rfl⟩ dX5_daysWhole_46 (fun M46 H locs h hw => ?_)
    refine lv_iconst (v := 1) hx hb dX5_daysWhole_49 (by decide) ?_
    refine lv_istore_n (lv' := [(3, .int 1), (2, .int r21), (0, .ref a0), (1, .int v1)]) hx hb dX5_daysWhole_50 rfl hl (by decide) rfl (fun ls hl => ?_)
    exact ((Exists.elim h (fun n h => wL_X5_daysWhole_51 S   n _ _ _ _ h))) H locs ls hw (lv_sub hl [2, 1, 0] rfl)
  · have h := h.2 q_33
    refine lv_iconst (v := (-1)) hx hb dX5_daysWhole_36 (by decide) ?_
    exact we_i S hw h dX5_daysWhole_37
set_option maxRecDepth 100000 in
set_option maxHeartbeats 4000000 in
theorem k_X5_daysWhole (l : Launch) (E : EE) (Z : ZZ) (M : MM) (a0 : Nat) (v1 : Int32) (Q : Int32 → MM → Prop) (h : P_X5_daysWhole Z M a0 v1 Q XF) : Ct_i l yX5_daysWhole cX5_daysWhole 4 (some .int) rm_X5_daysWhole E Z M [.ref a0, .int v1] Q := by
  refine Met.ofW (cc := cX5_daysWhole) (maxL := 4) (ret := some .int) (by decide) rfl ?_
  intro p e s m args below meth c s₁ B hml hv
  obtain ⟨rfl, hK, hP, hD, hZ⟩ := hv
  have S : Cx p m c meth cX5_daysWhole 4 s _ RX5 (some .int) := ⟨⟨B.exec, B.bytes, hml, findClass_of_methodNamed B.named, fun w hw => atoms_spec (ws := ws_ yX5_daysWhole cX5_daysWhole 4 (some .int)) B.pre w (List.mem_cons_of_mem _ hw)⟩, B.returns, B.notSynchronized⟩
  have hl := lv_entry ([.ref a0, .int v1]) (n := 4) (Nat.le_of_ble_eq_true rfl)
  rw [lg_entry_eq]
  generalize (lg_sl ([.ref a0, .int v1]) ++ List.replicate (4 - (lg_sl ([.ref a0, .int v1])).length) Slot.unset).toArray = ls at hl ⊢
  exact (wB_X5_daysWhole_0 S  M a0 v1 h) s.heap [] ls ⟨hK, hP, hD, va_S.rf, hZ⟩ hl
set_option maxRecDepth 100000 in
set_option maxHeartbeats 4000000 in
theorem wB_X5_daysToWater_13 (S : Cx p m c meth cX5_daysToWater 2 s args RX5 (some .int)) {Q : Int32 → MM → Prop} {K13 : MM → Nat → Int32 → Prop} (hK13 : ∀ (M : MM) (a0 : Nat) (v1 : Int32), K13 M a0 v1 → WG p l e rm_X5_daysToWater s m args below meth c 0 0 (MQi below E Z args s Q) E Z M 13 2 [(0, .ref a0), (1, .int v1)] []) (M : MM) (a0 : Nat) (v1 : Int32) (h : B_X5_daysToWater_13 Z Q K13 M a0 v1) : WG p l e rm_X5_daysToWater s m args below meth c 0 0 (MQi below E Z args s Q) E Z M 13 2 [(0, .ref a0), (1, .int v1)] [] := by
  intro H locs ls hw hl
  have hx := S.1.1
  have hb := S.1.2.1
  refine lv_iload_n hx hb dX5_daysToWater_13 rfl (lv_at hl 1 rfl) ?_
  refine lv_bipush (v := 60) hx hb dX5_daysToWater_14 (by decide) ?_
  refine lv_icmp_gt (tgt := 44) hx hb dX5_daysToWater_16 (by decide) (fun q_16 => ?_) (fun q_16 => ?_)
  · have h := h.1 q_16
    refine lv_iconst (v := (-1)) hx hb dX5_daysToWater_44 (by decide) ?_
    exact we_i S hw h dX5_daysToWater_45
  · have h := h.2 q_16
    refine lv_aload_n hx hb dX5_daysToWater_19 rfl (lv_at hl 0 rfl) ?_
    obtain ⟨k_0, h⟩ := h
    obtain ⟨y20_1, hy_1, h⟩ := h
    refine gf_X5_16 S.1 hw k_0 hy_1 dX5_daysToWater_20 ?_
    obtain ⟨k_2, h⟩ := h
    refine cv_i (As := []) (rest := []) S.1 hw (k_X1_iceCells l E Z M y20_1  _ h) wv_X5_206 yc_X1_iceCells ⟨rfl, rfl⟩ ⟨Nat.le_of_ble_eq_true rfl, Nat.le_of_ble_eq_true rfl⟩ rfl hl.1 (Nat.le_of_ble_eq_true rfl) (ci := 1) (q := (RX1, TX1, 12)) rfl rfl (by rw [k_2]; decide) (cell_1 k_2) ⟨Nat.le_of_ble_eq_true rfl, Nat.le_of_ble_eq_true rfl⟩ dX5_daysToWater_23 (fun r23 M23 H locs h hw => ?_)
    refine lv_if_ne (tgt := 31) hx hb dX5_daysToWater_26 (by decide) (fun q_26 => ?_) (fun q_26 => ?_)
    · have h := h.1 q_26
      refine lv_aload_n hx hb dX5_daysToWater_31 rfl (lv_at hl 0 rfl) ?_
      refine gf_X5_16 S.1 hw k_0 hy_1 dX5_daysToWater_32 ?_
      refine cv_v (As := []) (rest := []) S.1 hw (k_X1_meltOneDay l E Z M23 y20_1  _ h) wv_X5_159 yc_X1_meltOneDay ⟨rfl, rfl⟩ ⟨Nat.le_of_ble_eq_true rfl, Nat.le_of_ble_eq_true rfl⟩ rfl hl.1 (Nat.le_of_ble_eq_true rfl) (ci := 1) (q := (RX1, TX1, 12)) rfl rfl (by rw [k_2]; decide) (cell_1 k_2) ⟨Nat.le_of_ble_eq_true rfl, Nat.le_of_ble_eq_true rfl⟩ dX5_daysToWater_35 (fun M35 H locs h hw => ?_)
      refine lv_iinc (v := (v1 + 1)) (lv' := [(1, .int (v1 + 1)), (0, .ref a0)]) hx hb dX5_daysToWater_38 hl (k := 1) rfl rfl (by decide) rfl (fun ls hl => ?_)
      refine lv_goto (tgt := 13) hx hb dX5_daysToWater_41 (by decide) ?_
      exact (hK13 _ _ _ h) H locs ls hw (lv_sub hl [1, 0] rfl)
    · have h := h.2 q_26
      refine lv_iload_n hx hb dX5_daysToWater_29 rfl (lv_at hl 1 rfl) ?_
      exact we_i S hw h dX5_daysToWater_30
theorem wL_X5_daysToWater_13 (S : Cx p m c meth cX5_daysToWater 2 s args RX5 (some .int)) {Q : Int32 → MM → Prop}   : ∀ (n : Nat) (M : MM) (a0 : Nat) (v1 : Int32), L_X5_daysToWater_13 Z Q  n M a0 v1 → WG p l e rm_X5_daysToWater s m args below meth c 0 0 (MQi below E Z args s Q) E Z M 13 2 [(0, .ref a0), (1, .int v1)] []
  | 0, _, _, _, h => False.elim h
  | n + 1, M, a0, v1, h => wB_X5_daysToWater_13 S  (wL_X5_daysToWater_13 S   n) M a0 v1 h
set_option maxRecDepth 100000 in
set_option maxHeartbeats 4000000 in
theorem wB_X5_daysToWater_0 (S : Cx p m c meth cX5_daysToWater 2 s args RX5 (some .int)) {Q : Int32 → MM → Prop}   (M : MM) (a0 : Nat) (h : B_X5_daysToWater_0 Z Q  M a0) : WG p l e rm_X5_daysToWater s m args below meth c 0 0 (MQi below E Z args s Q) E Z M 0 2 [(0, .ref a0)] [] := by
  intro H locs ls hw hl
  have hx := S.1.1
  have hb := S.1.2.1
  refine lv_aload_n hx hb dX5_daysToWater_0 rfl (lv_at hl 0 rfl) ?_
  obtain ⟨k_0, h⟩ := h
  obtain ⟨y1_1, hy_1, h⟩ := h
  refine gf_X5_16 S.1 hw k_0 hy_1 dX5_daysToWater_1 ?_
  refine lv_aload_n hx hb dX5_daysToWater_4 rfl (lv_at hl 0 rfl) ?_
  obtain ⟨y5_2, hy_2, h⟩ := h
  refine gf_X5_10 S.1 hw k_0 hy_2 dX5_daysToWater_5 ?_
  obtain ⟨k_3, h⟩ := h
  refine cv_v (As := [.ref y5_2]) (rest := []) S.1 hw (k_X1_copyFrom l E Z M y1_1 y5_2 _ h) wv_X5_196 yc_X1_copyFrom ⟨rfl, rfl⟩ ⟨Nat.le_of_ble_eq_true rfl, Nat.le_of_ble_eq_true rfl⟩ rfl hl.1 (Nat.le_of_ble_eq_true rfl) (ci := 1) (q := (RX1, TX1, 12)) rfl rfl (by rw [k_3]; decide) (cell_1 k_3) ⟨Nat.le_of_ble_eq_true rfl, Nat.le_of_ble_eq_true rfl⟩ dX5_daysToWater_8 (fun M8 H locs h hw => ?_)
  refine lv_iconst (v := 0) hx hb dX5_daysToWater_11 (by decide) ?_
  refine lv_istore_n (lv' := [(1, .int 0), (0, .ref a0)]) hx hb dX5_daysToWater_12 rfl hl (by decide) rfl (fun ls hl => ?_)
  exact ((Exists.elim h (fun n h => wL_X5_daysToWater_13 S   n _ _ _ h))) H locs ls hw (lv_sub hl [1, 0] rfl)
set_option maxRecDepth 100000 in
set_option maxHeartbeats 4000000 in
theorem k_X5_daysToWater (l : Launch) (E : EE) (Z : ZZ) (M : MM) (a0 : Nat) (Q : Int32 → MM → Prop) (h : P_X5_daysToWater Z M a0 Q) : Ct_i l yX5_daysToWater cX5_daysToWater 2 (some .int) rm_X5_daysToWater E Z M [.ref a0] Q := by
  refine Met.ofW (cc := cX5_daysToWater) (maxL := 2) (ret := some .int) (by decide) rfl ?_
  intro p e s m args below meth c s₁ B hml hv
  obtain ⟨rfl, hK, hP, hD, hZ⟩ := hv
  have S : Cx p m c meth cX5_daysToWater 2 s _ RX5 (some .int) := ⟨⟨B.exec, B.bytes, hml, findClass_of_methodNamed B.named, fun w hw => atoms_spec (ws := ws_ yX5_daysToWater cX5_daysToWater 2 (some .int)) B.pre w (List.mem_cons_of_mem _ hw)⟩, B.returns, B.notSynchronized⟩
  have hl := lv_entry ([.ref a0]) (n := 2) (Nat.le_of_ble_eq_true rfl)
  rw [lg_entry_eq]
  generalize (lg_sl ([.ref a0]) ++ List.replicate (2 - (lg_sl ([.ref a0])).length) Slot.unset).toArray = ls at hl ⊢
  exact (wB_X5_daysToWater_0 S  M a0 h) s.heap [] ls ⟨hK, hP, hD, va_S.rf, hZ⟩ hl
set_option maxRecDepth 100000 in
set_option maxHeartbeats 4000000 in
theorem wB_X5_undo_0 (S : Cx p m c meth cX5_undo 2 s args RX5 (some .int)) {Q : Int32 → MM → Prop}   (M : MM) (a0 : Nat) (h : B_X5_undo_0 Z Q XF  M a0) : WG p l e rm_X5_undo s m args below meth c 0 0 (MQi below E Z args s Q) E Z M 0 2 [(0, .ref a0)] [] := by
  intro H locs ls hw hl
  have hx := S.1.1
  have hb := S.1.2.1
  refine lv_aload_n hx hb dX5_undo_0 rfl (lv_at hl 0 rfl) ?_
  obtain ⟨k_0, h⟩ := h
  refine gf_X5_27 S.1 hw k_0 dX5_undo_1 ?_
  refine lv_if_gt (tgt := 17) hx hb dX5_undo_4 (by decide) (fun q_4 => ?_) (fun q_4 => ?_)
  · have h := h.1 q_4
    refine lv_aload_n hx hb dX5_undo_17 rfl (lv_at hl 0 rfl) ?_
    refine lv_aload_n hx hb dX5_undo_18 rfl (lv_at hl 0 rfl) ?_
    refine gf_X5_23 S.1 hw k_0 dX5_undo_19 ?_
    refine lv_iconst (v := 4) hx hb dX5_undo_22 (by decide) ?_
    refine lv_iadd hx hb dX5_undo_23 ?_
    refine lv_iconst (v := 1) hx hb dX5_undo_24 (by decide) ?_
    refine lv_isub hx hb dX5_undo_25 ?_
    refine lv_iconst (v := 4) hx hb dX5_undo_26 (by decide) ?_
    refine lv_irem hx hb dX5_undo_27 (by decide) ?_
    refine pf_X5_23 S.1 hw k_0 dX5_undo_28 (fun H locs hw => ?_)
    refine lv_aload_n hx hb dX5_undo_31 rfl (lv_at hl 0 rfl) ?_
    refine lv_dup hx hb dX5_undo_32 rfl ?_
    refine gf_X5_27 S.1 hw k_0 dX5_undo_33 ?_
    refine lv_iconst (v := 1) hx hb dX5_undo_36 (by decide) ?_
    refine lv_isub hx hb dX5_undo_37 ?_
    refine pf_X5_27 S.1 hw k_0 dX5_undo_38 (fun H locs hw => ?_)
    refine lv_aload_n hx hb dX5_undo_41 rfl (lv_at hl 0 rfl) ?_
    refine lv_aload_n hx hb dX5_undo_42 rfl (lv_at hl 0 rfl) ?_
    refine gf_X5_23 S.1 hw k_0 dX5_undo_43 ?_
    refine cv_q (As := [.int (mI (setI (setI M 12 a0 ((((mI M 12 a0) + 4) - 1) - (((mI M 12 a0) + 4) - 1) / 4 * 4)) 13 a0 ((mI (setI M 12 a0 ((((mI M 12 a0) + 4) - 1) - (((mI M 12 a0) + 4) - 1) / 4 * 4)) 13 a0) - 1)) 12 a0)]) (rest := []) S.1 hw (k_X5_savedAt l E Z (setI (setI M 12 a0 ((((mI M 12 a0) + 4) - 1) - (((mI M 12 a0) + 4) - 1) / 4 * 4)) 13 a0 ((mI (setI M 12 a0 ((((mI M 12 a0) + 4) - 1) - (((mI M 12 a0) + 4) - 1) / 4 * 4)) 13 a0) - 1)) a0 (mI (setI (setI M 12 a0 ((((mI M 12 a0) + 4) - 1) - (((mI M 12 a0) + 4) - 1) / 4 * 4)) 13 a0 ((mI (setI M 12 a0 ((((mI M 12 a0) + 4) - 1) - (((mI M 12 a0) + 4) - 1) / 4 * 4)) 13 a0) - 1)) 12 a0) _ h) wv_X5_253 yc_X5_savedAt ⟨rfl, rfl⟩ ⟨Nat.le_of_ble_eq_true rfl, Nat.le_of_ble_eq_true rfl⟩ rfl hl.1 (Nat.le_of_ble_eq_true rfl) (ci := 5) (q := (RX5, TX5, 9)) rfl rfl (by rw [k_0]; decide) (cell_5 k_0) ⟨Nat.le_of_ble_eq_true rfl, Nat.le_of_ble_eq_true rfl⟩ dX5_undo_46 (fun r46 M46 H locs h hw => ?_)
    rcases r46 with _ | y46_1
    · have h := h.1 rfl
      refine lv_astore_nN (lv' := [(1, .null), (0, .ref a0)]) hx hb dX5_undo_49 rfl hl (by decide) rfl (fun ls hl => ?_)
      refine lv_aload_nN hx hb dX5_undo_50 rfl (lv_at hl 0 rfl) ?_
      refine lv_ifnullN (tgt := 62) hx hb dX5_undo_51 (by decide) ?_
      refine lv_aload_n hx hb dX5_undo_62 rfl (lv_at hl 1 rfl) ?_
      refine gf_X5_27 S.1 hw k_0 dX5_undo_63 ?_
      exact we_i S hw h dX5_undo_66
    · have h := h.2 y46_1 rfl
      refine lv_astore_n (lv' := [(1, .ref y46_1), (0, .ref a0)]) hx hb dX5_undo_49 rfl hl (by decide) rfl (fun ls hl => ?_)
      refine lv_aload_n hx hb dX5_undo_50 rfl (lv_at hl 0 rfl) ?_
      refine lv_ifnull hx hb dX5_undo_51 ?_
      refine lv_aload_n hx hb dX5_undo_54 rfl (lv_at hl 1 rfl) ?_
      obtain ⟨y55_2, hy_2, h⟩ := h
      refine gf_X5_10 S.1 hw k_0 hy_2 dX5_undo_55 ?_
      refine lv_aload_n hx hb dX5_undo_58 rfl (lv_at hl 0 rfl) ?_
      obtain ⟨k_3, h⟩ := h
      refine cv_v (As := [.ref y46_1]) (rest := []) S.1 hw (k_X1_copyFrom l E Z M46 y55_2 y46_1 _ h) wv_X5_196 yc_X1_copyFrom ⟨rfl, rfl⟩ ⟨Nat.le_of_ble_eq_true rfl, Nat.le_of_ble_eq_true rfl⟩ rfl hl.1 (Nat.le_of_ble_eq_true rfl) (ci := 1) (q := (RX1, TX1, 12)) rfl rfl (by rw [k_3]; decide) (cell_1 k_3) ⟨Nat.le_of_ble_eq_true rfl, Nat.le_of_ble_eq_true rfl⟩ dX5_undo_59 (fun M59 H locs h hw => ?_)
      refine lv_aload_n hx hb dX5_undo_62 rfl (lv_at hl 1 rfl) ?_
      refine gf_X5_27 S.1 hw k_0 dX5_undo_63 ?_
      exact we_i S hw h dX5_undo_66
  · have h := h.2 q_4
    exact False.elim h
set_option maxRecDepth 100000 in
set_option maxHeartbeats 4000000 in
theorem k_X5_undo (l : Launch) (E : EE) (Z : ZZ) (M : MM) (a0 : Nat) (Q : Int32 → MM → Prop) (h : P_X5_undo Z M a0 Q XF) : Ct_i l yX5_undo cX5_undo 2 (some .int) rm_X5_undo E Z M [.ref a0] Q := by
  refine Met.ofW (cc := cX5_undo) (maxL := 2) (ret := some .int) (by decide) rfl ?_
  intro p e s m args below meth c s₁ B hml hv
  obtain ⟨rfl, hK, hP, hD, hZ⟩ := hv
  have S : Cx p m c meth cX5_undo 2 s _ RX5 (some .int) := ⟨⟨B.exec, B.bytes, hml, findClass_of_methodNamed B.named, fun w hw => atoms_spec (ws := ws_ yX5_undo cX5_undo 2 (some .int)) B.pre w (List.mem_cons_of_mem _ hw)⟩, B.returns, B.notSynchronized⟩
  have hl := lv_entry ([.ref a0]) (n := 2) (Nat.le_of_ble_eq_true rfl)
  rw [lg_entry_eq]
  generalize (lg_sl ([.ref a0]) ++ List.replicate (2 - (lg_sl ([.ref a0])).length) Slot.unset).toArray = ls at hl ⊢
  exact (wB_X5_undo_0 S  M a0 h) s.heap [] ls ⟨hK, hP, hD, va_S.rf, hZ⟩ hl
