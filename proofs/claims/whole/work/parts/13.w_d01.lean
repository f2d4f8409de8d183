variable {p : Program} {l : Launch} {e : Env} {s : State} {m : MethodId} {args : Array Value} {below : List Frame} {meth : Method} {c : Code} {E : EE} {Z : ZZ}
set_option maxRecDepth 100000 in
set_option maxHeartbeats 4000000 in
theorem wB_X5_value_33 (S : Cx p m c meth cX5_value 2 s args RX5 (some .int)) (T : Tx l c Z s) {Q : Int32 → MM → Prop} {X : String → MM → Prop}   (M : MM) (a0 : Nat) (v1 : Int32) (h : B_X5_value_33 Z Q X  M a0 v1) : WG p l e rm_X5_value s m args below meth c 0 0 (MQxi below E Z args s Q X 1 6) E Z M 33 2 [(0, .ref a0), (1, .int v1)] [] := by
  intro H locs ls hw hl
  have hx := S.1.1
  have hb := S.1.2.1
  refine lv_aload_n hx hb dX5_value_33 rfl (lv_at hl 0 rfl) ?_
  refine lv_iload_n hx hb dX5_value_34 rfl (lv_at hl 1 rfl) ?_
  obtain ⟨k_0, h⟩ := h
  refine cv_i (As := [.int v1]) (rest := []) S.1 hw (k_X5_fieldFact l E Z M a0 v1 _ h) wv_X5_184 yc_X5_fieldFact ⟨rfl, rfl⟩ ⟨Nat.le_of_ble_eq_true rfl, Nat.le_of_ble_eq_true rfl⟩ rfl hl.1 (Nat.le_of_ble_eq_true rfl) (ci := 5) (q := (RX5, TX5, 9)) rfl rfl (by rw [k_0]; decide) (cell_5 k_0) ⟨Nat.le_of_ble_eq_true rfl, Nat.le_of_ble_eq_true rfl⟩ dX5_value_35 (fun r35 M35 H locs h hw => ?_)
  refine wx_end (Nat.le_of_ble_eq_true rfl) (Nat.le_of_ble_eq_true rfl) ?_
  exact we_i S hw h dX5_value_38
set_option maxRecDepth 100000 in
set_option maxHeartbeats 4000000 in
theorem wB_X5_value_0 (S : Cx p m c meth cX5_value 2 s args RX5 (some .int)) (T : Tx l c Z s) {Q : Int32 → MM → Prop} {X : String → MM → Prop}   (M : MM) (a0 : Nat) (v1 : Int32) (h : B_X5_value_0 Z Q X  M a0 v1) : WG p l e rm_X5_value s m args below meth c 0 0 (MQxi below E Z args s Q X 1 6) E Z M 0 2 [(0, .ref a0), (1, .int v1)] [] := by
  intro H locs ls hw hl
  have hx := S.1.1
  have hb := S.1.2.1
  refine lv_iload_n hx hb dX5_value_0 rfl (lv_at hl 1 rfl) ?_
  refine lv_iconst (v := 0) hx hb dX5_value_1 (by decide) ?_
  refine lv_bipush (v := 13) hx hb dX5_value_2 (by decide) ?_
  refine cs_i (As := [.int v1, .int 0, .int 13]) (rest := []) S.1 hw (k_X5_isOutside l E Z M v1 0 13 _ h) wv_X5_70 yc_X5_isOutside ⟨rfl, rfl⟩ ⟨Nat.le_of_ble_eq_true rfl, Nat.le_of_ble_eq_true rfl⟩ rfl hl.1 (Nat.le_of_ble_eq_true rfl) ⟨Nat.le_of_ble_eq_true rfl, Nat.le_of_ble_eq_true rfl⟩ dX5_value_4 (fun r4 M4 H locs h hw => ?_)
  refine lv_if_eq (tgt := 20) hx hb dX5_value_7 (by decide) (fun q_7 => ?_) (fun q_7 => ?_)
  · have h := h.1 q_7
    refine lv_iload_n hx hb dX5_value_20 rfl (lv_at hl 1 rfl) ?_
    refine lv_iconst (v := 3) hx hb dX5_value_21 (by decide) ?_
    refine lv_iconst (v := 5) hx hb dX5_value_22 (by decide) ?_
    refine cs_i (As := [.int v1, .int 3, .int 5]) (rest := []) S.1 hw (k_X5_isOutside l E Z M4 v1 3 5 _ h) wv_X5_70 yc_X5_isOutside ⟨rfl, rfl⟩ ⟨Nat.le_of_ble_eq_true rfl, Nat.le_of_ble_eq_true rfl⟩ rfl hl.1 (Nat.le_of_ble_eq_true rfl) ⟨Nat.le_of_ble_eq_true rfl, Nat.le_of_ble_eq_true rfl⟩ dX5_value_23 (fun r23 M23 H locs h hw => ?_)
    refine lv_if_ne (tgt := 33) hx hb dX5_value_26 (by decide) (fun q_26 => ?_) (fun q_26 => ?_)
    · have h := h.1 q_26
      exact ((wB_X5_value_33 S T  _ _ _ h)) H locs ls hw (lv_sub hl [0, 1] rfl)
    · have h := h.2 q_26
      refine lv_aload_n hx hb dX5_value_29 rfl (lv_at hl 0 rfl) ?_
      obtain ⟨k_0, h⟩ := h
      refine cv_v (As := []) (rest := []) S.1 hw (k_X5_findBlocksAndWays l E Z M23 a0  _ h) wv_X5_181 yc_X5_findBlocksAndWays ⟨rfl, rfl⟩ ⟨Nat.le_of_ble_eq_true rfl, Nat.le_of_ble_eq_true rfl⟩ rfl hl.1 (Nat.le_of_ble_eq_true rfl) (ci := 5) (q := (RX5, TX5, 9)) rfl rfl (by rw [k_0]; decide) (cell_5 k_0) ⟨Nat.le_of_ble_eq_true rfl, Nat.le_of_ble_eq_true rfl⟩ dX5_value_30 (fun M30 H locs h hw => ?_)
      exact ((wB_X5_value_33 S T  _ _ _ h)) H locs ls hw (lv_sub hl [0, 1] rfl)
  · have h := h.2 q_7
    exact wx_thS (text := "what is out of range") S T hw (by decide +kernel) wk_X5_74 wn_IllegalArgumentException (by decide +kernel) wat_X5_78 h hl.1 dX5_value_10 dX5_value_13 dX5_value_14 dX5_value_16 dX5_value_19 (Nat.le_of_ble_eq_true rfl) (Nat.le_of_ble_eq_true rfl) (Nat.le_of_ble_eq_true rfl) (Nat.le_of_ble_eq_true rfl) (Nat.le_of_ble_eq_true rfl) (Nat.le_of_ble_eq_true rfl)
set_option maxRecDepth 100000 in
set_option maxHeartbeats 4000000 in
theorem k_X5_value (l : Launch) (hl0 : l.stackTraces = false) (E : EE) (Z : ZZ) (M : MM) (a0 : Nat) (v1 : Int32) (Q : Int32 → MM → Prop) (X : String → MM → Prop) (h : P_X5_value Z M a0 v1 Q X) : Cxi l yX5_value cX5_value 2 (some .int) rm_X5_value E Z M [.ref a0, .int v1] Q X 1 6 := by
  refine vx_ofW (cc := cX5_value) (maxL := 2) (ret := some .int) (by decide) rfl ?_
  intro p e s m args below meth c s₁ B hml ht hv
  obtain ⟨rfl, ⟨hK, hP, hD, hZ⟩, hsx⟩ := hv
  have S : Cx p m c meth cX5_value 2 s _ RX5 (some .int) := ⟨⟨B.exec, B.bytes, hml, findClass_of_methodNamed B.named, fun w hw => atoms_spec (ws := ws_ yX5_value cX5_value 2 (some .int)) B.pre w (List.mem_cons_of_mem _ hw)⟩, B.returns, B.notSynchronized⟩
  have T : Tx l c Z s := ⟨hl0, ht, hsx⟩
  have hl := lv_entry ([.ref a0, .int v1]) (n := 2) (Nat.le_of_ble_eq_true rfl)
  rw [lg_entry_eq]
  generalize (lg_sl ([.ref a0, .int v1]) ++ List.replicate (2 - (lg_sl ([.ref a0, .int v1])).length) Slot.unset).toArray = ls at hl ⊢
  exact (wB_X5_value_0 S T M a0 v1 h) s.heap [] ls ⟨hK, hP, hD, va_S.rf, hZ⟩ hl
set_option maxRecDepth 100000 in
set_option maxHeartbeats 4000000 in
theorem wB_X5_taken_0 (S : Cx p m c meth cX5_taken 3 s args RX5 (some .int)) (T : Tx l c Z s) {Q : Int32 → MM → Prop} {X : String → MM → Prop}   (M : MM) (a0 : Nat) (v1 : Int32) (v2 : Int32) (h : B_X5_taken_0 Z Q X  M a0 v1 v2) : WG p l e rm_X5_taken s m args below meth c 0 0 (MQxi below E Z args s Q X 1 6) E Z M 0 3 [(0, .ref a0), (1, .int v1), (2, .int v2)] [] := by
  intro H locs ls hw hl
  have hx := S.1.1
  have hb := S.1.2.1
  refine lv_iload_n hx hb dX5_taken_0 rfl (lv_at hl 1 rfl) ?_
  refine lv_iconst (v := 0) hx hb dX5_taken_1 (by decide) ?_
  refine lv_aload_n hx hb dX5_taken_2 rfl (lv_at hl 0 rfl) ?_
  obtain ⟨k_0, h⟩ := h
  obtain ⟨y3_1, hy_1, h⟩ := h
  refine gf_X5_10 S.1 hw k_0 hy_1 dX5_taken_3 ?_
  obtain ⟨k_2, h⟩ := h
  refine cv_i (As := []) (rest := [.int 0, .int v1]) S.1 hw (k_X1_keptCount l E Z M y3_1  _ h) wv_X5_187 yc_X1_keptCount ⟨rfl, rfl⟩ ⟨Nat.le_of_ble_eq_true rfl, Nat.le_of_ble_eq_true rfl⟩ rfl hl.1 (Nat.le_of_ble_eq_true rfl) (ci := 1) (q := (RX1, TX1, 12)) rfl rfl (by rw [k_2]; decide) (cell_1 k_2) ⟨Nat.le_of_ble_eq_true rfl, Nat.le_of_ble_eq_true rfl⟩ dX5_taken_6 (fun r6 M6 H locs h hw => ?_)
  refine lv_iconst (v := 1) hx hb dX5_taken_9 (by decide) ?_
  refine lv_isub hx hb dX5_taken_10 ?_
  refine cs_i (As := [.int v1, .int 0, .int (r6 - 1)]) (rest := []) S.1 hw (k_X5_isOutside l E Z M6 v1 0 (r6 - 1) _ h) wv_X5_70 yc_X5_isOutside ⟨rfl, rfl⟩ ⟨Nat.le_of_ble_eq_true rfl, Nat.le_of_ble_eq_true rfl⟩ rfl hl.1 (Nat.le_of_ble_eq_true rfl) ⟨Nat.le_of_ble_eq_true rfl, Nat.le_of_ble_eq_true rfl⟩ dX5_taken_11 (fun r11 M11 H locs h hw => ?_)
  refine lv_if_eq (tgt := 27) hx hb dX5_taken_14 (by decide) (fun q_14 => ?_) (fun q_14 => ?_)
  · have h := h.1 q_14
    refine lv_iload_n hx hb dX5_taken_27 rfl (lv_at hl 2 rfl) ?_
    refine lv_iconst (v := 0) hx hb dX5_taken_28 (by decide) ?_
    refine lv_iconst (v := 2) hx hb dX5_taken_29 (by decide) ?_
    refine cs_i (As := [.int v2, .int 0, .int 2]) (rest := []) S.1 hw (k_X5_isOutside l E Z M11 v2 0 2 _ h) wv_X5_70 yc_X5_isOutside ⟨rfl, rfl⟩ ⟨Nat.le_of_ble_eq_true rfl, Nat.le_of_ble_eq_true rfl⟩ rfl hl.1 (Nat.le_of_ble_eq_true rfl) ⟨Nat.le_of_ble_eq_true rfl, Nat.le_of_ble_eq_true rfl⟩ dX5_taken_30 (fun r30 M30 H locs h hw => ?_)
    refine lv_if_eq (tgt := 46) hx hb dX5_taken_33 (by decide) (fun q_33 => ?_) (fun q_33 => ?_)
    · have h := h.1 q_33
      refine lv_aload_n hx hb dX5_taken_46 rfl (lv_at hl 0 rfl) ?_
      refine gf_X5_10 S.1 hw k_0 hy_1 dX5_taken_47 ?_
      refine lv_iload_n hx hb dX5_taken_50 rfl (lv_at hl 1 rfl) ?_
      refine lv_iload_n hx hb dX5_taken_51 rfl (lv_at hl 2 rfl) ?_
      refine cv_i (As := [.int v1, .int v2]) (rest := []) S.1 hw (k_X1_keptFact l E Z M30 y3_1 v1 v2 _ h) wv_X5_193 yc_X1_keptFact ⟨rfl, rfl⟩ ⟨Nat.le_of_ble_eq_true rfl, Nat.le_of_ble_eq_true rfl⟩ rfl hl.1 (Nat.le_of_ble_eq_true rfl) (ci := 1) (q := (RX1, TX1, 12)) rfl rfl (by rw [k_2]; decide) (cell_1 k_2) ⟨Nat.le_of_ble_eq_true rfl, Nat.le_of_ble_eq_true rfl⟩ dX5_taken_52 (fun r52 M52 H locs h hw => ?_)
      refine wx_end (Nat.le_of_ble_eq_true rfl) (Nat.le_of_ble_eq_true rfl) ?_
      exact we_i S hw h dX5_taken_55
    · have h := h.2 q_33
      exact wx_thS (text := "what is out of range") S T hw (by decide +kernel) wk_X5_74 wn_IllegalArgumentException (by decide +kernel) wat_X5_78 h hl.1 dX5_taken_36 dX5_taken_39 dX5_taken_40 dX5_taken_42 dX5_taken_45 (Nat.le_of_ble_eq_true rfl) (Nat.le_of_ble_eq_true rfl) (Nat.le_of_ble_eq_true rfl) (Nat.le_of_ble_eq_true rfl) (Nat.le_of_ble_eq_true rfl) (Nat.le_of_ble_eq_true rfl)
  · have h := h.2 q_14
    exact wx_thS (text := "not so many are kept") S T hw (by decide +kernel) wk_X5_173 wn_IndexOutOfBoundsException (by decide +kernel) wat_X5_177 h hl.1 dX5_taken_17 dX5_taken_20 dX5_taken_21 dX5_taken_23 dX5_taken_26 (Nat.le_of_ble_eq_true rfl) (Nat.le_of_ble_eq_true rfl) (Nat.le_of_ble_eq_true rfl) (Nat.le_of_ble_eq_true rfl) (Nat.le_of_ble_eq_true rfl) (Nat.le_of_ble_eq_true rfl)
set_option maxRecDepth 100000 in
set_option maxHeartbeats 4000000 in
theorem k_X5_taken (l : Launch) (hl0 : l.stackTraces = false) (E : EE) (Z : ZZ) (M : MM) (a0 : Nat) (v1 : Int32) (v2 : Int32) (Q : Int32 → MM → Prop) (X : String → MM → Prop) (h : P_X5_taken Z M a0 v1 v2 Q X) : Cxi l yX5_taken cX5_taken 3 (some .int) rm_X5_taken E Z M [.ref a0, .int v1, .int v2] Q X 1 6 := by
  refine vx_ofW (cc := cX5_taken) (maxL := 3) (ret := some .int) (by decide) rfl ?_
  intro p e s m args below meth c s₁ B hml ht hv
  obtain ⟨rfl, ⟨hK, hP, hD, hZ⟩, hsx⟩ := hv
  have S : Cx p m c meth cX5_taken 3 s _ RX5 (some .int) := ⟨⟨B.exec, B.bytes, hml, findClass_of_methodNamed B.named, fun w hw => atoms_spec (ws := ws_ yX5_taken cX5_taken 3 (some .int)) B.pre w (List.mem_cons_of_mem _ hw)⟩, B.returns, B.notSynchronized⟩
  have T : Tx l c Z s := ⟨hl0, ht, hsx⟩
  have hl := lv_entry ([.ref a0, .int v1, .int v2]) (n := 3) (Nat.le_of_ble_eq_true rfl)
  rw [lg_entry_eq]
  generalize (lg_sl ([.ref a0, .int v1, .int v2]) ++ List.replicate (3 - (lg_sl ([.ref a0, .int v1, .int v2])).length) Slot.unset).toArray = ls at hl ⊢
  exact (wB_X5_taken_0 S T M a0 v1 v2 h) s.heap [] ls ⟨hK, hP, hD, va_S.rf, hZ⟩ hl
set_option maxRecDepth 100000 in
set_option maxHeartbeats 4000000 in
theorem wB_X5_cutsAround_0 (S : Cx p m c meth cX5_cutsAround 4 s args RX5 (some .int)) (T : Tx l c Z s) {Q : Int32 → MM → Prop} {X : String → MM → Prop}   (M : MM) (a0 : Nat) (v1 : Int32) (v2 : Int32) (v3 : Int32) (h : B_X5_cutsAround_0 Z Q X  M a0 v1 v2 v3) : WG p l e rm_X5_cutsAround s m args below meth c 0 0 (MQxi below E Z args s Q X 2 12) E Z M 0 4 [(0, .ref a0), (1, .int v1), (2, .int v2), (3, .int v3)] [] := by
  intro H locs ls hw hl
  have hx := S.1.1
  have hb := S.1.2.1
  refine lv_aload_n hx hb dX5_cutsAround_0 rfl (lv_at hl 0 rfl) ?_
  refine lv_iload_n hx hb dX5_cutsAround_1 rfl (lv_at hl 1 rfl) ?_
  refine lv_iload_n hx hb dX5_cutsAround_2 rfl (lv_at hl 2 rfl) ?_
  refine lv_iload_n hx hb dX5_cutsAround_3 rfl (lv_at hl 3 rfl) ?_
  obtain ⟨k_0, h⟩ := h
  refine cx_v (As := [.int v1, .int v2, .int v3]) (rest := []) S T hw (k_X5_checkRectangle l T.1 E Z M a0 v1 v2 v3 _ _ h) wv_X5_119 yc_X5_checkRectangle ⟨rfl, rfl⟩ ⟨Nat.le_of_ble_eq_true rfl, Nat.le_of_ble_eq_true rfl⟩ rfl hl.1 (Nat.le_of_ble_eq_true rfl) (ci := 5) (q := (RX5, TX5, 9)) rfl rfl (by rw [k_0]; decide) (cell_5 k_0) ⟨Nat.le_of_ble_eq_true rfl, Nat.le_of_ble_eq_true rfl⟩ dX5_cutsAround_4 (Nat.le_of_ble_eq_true rfl) (Nat.le_of_ble_eq_true rfl) (fun M4 H locs h hw => ?_)
  refine lv_aload_n hx hb dX5_cutsAround_7 rfl (lv_at hl 0 rfl) ?_
  obtain ⟨y8_1, hy_1, h⟩ := h
  refine gf_X5_16 S.1 hw k_0 hy_1 dX5_cutsAround_8 ?_
  refine lv_aload_n hx hb dX5_cutsAround_11 rfl (lv_at hl 0 rfl) ?_
  obtain ⟨y12_2, hy_2, h⟩ := h
  refine gf_X5_10 S.1 hw k_0 hy_2 dX5_cutsAround_12 ?_
  obtain ⟨k_3, h⟩ := h
  refine cv_v (As := [.ref y12_2]) (rest := []) S.1 hw (k_X1_copyFrom l E Z M4 y8_1 y12_2 _ h) wv_X5_196 yc_X1_copyFrom ⟨rfl, rfl⟩ ⟨Nat.le_of_ble_eq_true rfl, Nat.le_of_ble_eq_true rfl⟩ rfl hl.1 (Nat.le_of_ble_eq_true rfl) (ci := 1) (q := (RX1, TX1, 12)) rfl rfl (by rw [k_3]; decide) (cell_1 k_3) ⟨Nat.le_of_ble_eq_true rfl, Nat.le_of_ble_eq_true rfl⟩ dX5_cutsAround_15 (fun M15 H locs h hw => ?_)
  refine lv_aload_n hx hb dX5_cutsAround_18 rfl (lv_at hl 0 rfl) ?_
  refine gf_X5_16 S.1 hw k_0 hy_1 dX5_cutsAround_19 ?_
  refine lv_iload_n hx hb dX5_cutsAround_22 rfl (lv_at hl 1 rfl) ?_
  refine lv_iload_n hx hb dX5_cutsAround_23 rfl (lv_at hl 2 rfl) ?_
  refine lv_iload_n hx hb dX5_cutsAround_24 rfl (lv_at hl 3 rfl) ?_
  refine cv_i (As := [.int v1, .int v2, .int v3]) (rest := []) S.1 hw (k_X1_cutRectangle l E Z M15 y8_1 v1 v2 v3 _ h) wv_X5_123 yc_X1_cutRectangle ⟨rfl, rfl⟩ ⟨Nat.le_of_ble_eq_true rfl, Nat.le_of_ble_eq_true rfl⟩ rfl hl.1 (Nat.le_of_ble_eq_true rfl) (ci := 1) (q := (RX1, TX1, 12)) rfl rfl (by rw [k_3]; decide) (cell_1 k_3) ⟨Nat.le_of_ble_eq_true rfl, Nat.le_of_ble_eq_true rfl⟩ dX5_cutsAround_25 (fun r25 M25 H locs h hw => ?_)
  refine wx_end (Nat.le_of_ble_eq_true rfl) (Nat.le_of_ble_eq_true rfl) ?_
  exact we_i S hw h dX5_cutsAround_28
set_option maxRecDepth 100000 in
set_option maxHeartbeats 4000000 in
theorem k_X5_cutsAround (l : Launch) (hl0 : l.stackTraces = false) (E : EE) (Z : ZZ) (M : MM) (a0 : Nat) (v1 : Int32) (v2 : Int32) (v3 : Int32) (Q : Int32 → MM → Prop) (X : String → MM → Prop) (h : P_X5_cutsAround Z M a0 v1 v2 v3 Q X) : Cxi l yX5_cutsAround cX5_cutsAround 4 (some .int) rm_X5_cutsAround E Z M [.ref a0, .int v1, .int v2, .int v3] Q X 2 12 := by
  refine vx_ofW (cc := cX5_cutsAround) (maxL := 4) (ret := some .int) (by decide) rfl ?_
  intro p e s m args below meth c s₁ B hml ht hv
  obtain ⟨rfl, ⟨hK, hP, hD, hZ⟩, hsx⟩ := hv
  have S : Cx p m c meth cX5_cutsAround 4 s _ RX5 (some .int) := ⟨⟨B.exec, B.bytes, hml, findClass_of_methodNamed B.named, fun w hw => atoms_spec (ws := ws_ yX5_cutsAround cX5_cutsAround 4 (some .int)) B.pre w (List.mem_cons_of_mem _ hw)⟩, B.returns, B.notSynchronized⟩
  have T : Tx l c Z s := ⟨hl0, ht, hsx⟩
  have hl := lv_entry ([.ref a0, .int v1, .int v2, .int v3]) (n := 4) (Nat.le_of_ble_eq_true rfl)
  rw [lg_entry_eq]
  generalize (lg_sl ([.ref a0, .int v1, .int v2, .int v3]) ++ List.replicate (4 - (lg_sl ([.ref a0, .int v1, .int v2, .int v3])).length) Slot.unset).toArray = ls at hl ⊢
  exact (wB_X5_cutsAround_0 S T M a0 v1 v2 v3 h) s.heap [] ls ⟨hK, hP, hD, va_S.rf, hZ⟩ hl
set_option maxRecDepth 100000 in
set_option maxHeartbeats 4000000 in
theorem wB_X5_takable_0 (S : Cx p m c meth cX5_takable 1 s args RX5 (some .int)) {Q : Int32 → MM → Prop}   (M : MM) (a0 : Nat) (h : B_X5_takable_0 Z Q  M a0) : WG p l e rm_X5_takable s m args below meth c 0 0 (MQi below E Z args s Q) E Z M 0 1 [(0, .ref a0)] [] := by
  intro H locs ls hw hl
  have hx := S.1.1
  have hb := S.1.2.1
  refine lv_aload_n hx hb dX5_takable_0 rfl (lv_at hl 0 rfl) ?_
  obtain ⟨k_0, h⟩ := h
  obtain ⟨y1_1, hy_1, h⟩ := h
  refine gf_X5_16 S.1 hw k_0 hy_1 dX5_takable_1 ?_
  refine lv_aload_n hx hb dX5_takable_4 rfl (lv_at hl 0 rfl) ?_
  obtain ⟨y5_2, hy_2, h⟩ := h
  refine gf_X5_10 S.1 hw k_0 hy_2 dX5_takable_5 ?_
  obtain ⟨k_3, h⟩ := h
  refine cv_v (As := [.ref y5_2]) (rest := []) S.1 hw (k_X1_copyFrom l E Z M y1_1 y5_2 _ h) wv_X5_196 yc_X1_copyFrom ⟨rfl, rfl⟩ ⟨Nat.le_of_ble_eq_true rfl, Nat.le_of_ble_eq_true rfl⟩ rfl hl.1 (Nat.le_of_ble_eq_true rfl) (ci := 1) (q := (RX1, TX1, 12)) rfl rfl (by rw [k_3]; decide) (cell_1 k_3) ⟨Nat.le_of_ble_eq_true rfl, Nat.le_of_ble_eq_true rfl⟩ dX5_takable_8 (fun M8 H locs h hw => ?_)
  refine lv_aload_n hx hb dX5_takable_11 rfl (lv_at hl 0 rfl) ?_
  refine lv_aload_n hx hb dX5_takable_12 rfl (lv_at hl 0 rfl) ?_
  refine gf_X5_16 S.1 hw k_0 hy_1 dX5_takable_13 ?_
  refine cv_i (As := [.ref y1_1]) (rest := []) S.1 hw (k_X5_removeFloating l E Z M8 a0 y1_1 _ h) wv_X5_148 yc_X5_removeFloating ⟨rfl, rfl⟩ ⟨Nat.le_of_ble_eq_true rfl, Nat.le_of_ble_eq_true rfl⟩ rfl hl.1 (Nat.le_of_ble_eq_true rfl) (ci := 5) (q := (RX5, TX5, 9)) rfl rfl (by rw [k_0]; decide) (cell_5 k_0) ⟨Nat.le_of_ble_eq_true rfl, Nat.le_of_ble_eq_true rfl⟩ dX5_takable_16 (fun r16 M16 H locs h hw => ?_)
  exact we_i S hw h dX5_takable_19
set_option maxRecDepth 100000 in
set_option maxHeartbeats 4000000 in
theorem k_X5_takable (l : Launch) (E : EE) (Z : ZZ) (M : MM) (a0 : Nat) (Q : Int32 → MM → Prop) (h : P_X5_takable Z M a0 Q) : Ct_i l yX5_takable cX5_takable 1 (some .int) rm_X5_takable E Z M [.ref a0] Q := by
  refine Met.ofW (cc := cX5_takable) (maxL := 1) (ret := some .int) (by decide) rfl ?_
  intro p e s m args below meth c s₁ B hml hv
  obtain ⟨rfl, hK, hP, hD, hZ⟩ := hv
  have S : Cx p m c meth cX5_takable 1 s _ RX5 (some .int) := ⟨⟨B.exec, B.bytes, hml, findClass_of_methodNamed B.named, fun w hw => atoms_spec (ws := ws_ yX5_takable cX5_takable 1 (some .int)) B.pre w (List.mem_cons_of_mem _ hw)⟩, B.returns, B.notSynchronized⟩
  have hl := lv_entry ([.ref a0]) (n := 1) (Nat.le_of_ble_eq_true rfl)
  rw [lg_entry_eq]
  generalize (lg_sl ([.ref a0]) ++ List.replicate (1 - (lg_sl ([.ref a0])).length) Slot.unset).toArray = ls at hl ⊢
  exact (wB_X5_takable_0 S  M a0 h) s.heap [] ls ⟨hK, hP, hD, va_S.rf, hZ⟩ hl
set_option maxRecDepth 100000 in
set_option maxHeartbeats 4000000 in
theorem wB_X5_leftStranded_0 (S : Cx p m c meth cX5_leftStranded 1 s args RX5 (some .int)) {Q : Int32 → MM → Prop}   (M : MM) (a0 : Nat) (h : B_X5_leftStranded_0 Z Q  M a0) : WG p l e rm_X5_leftStranded s m args below meth c 0 0 (MQi below E Z args s Q) E Z M 0 1 [(0, .ref a0)] [] := by
  intro H locs ls hw hl
  have hx := S.1.1
  have hb := S.1.2.1
  refine lv_aload_n hx hb dX5_leftStranded_0 rfl (lv_at hl 0 rfl) ?_
  obtain ⟨k_0, h⟩ := h
  obtain ⟨y1_1, hy_1, h⟩ := h
  refine gf_X5_16 S.1 hw k_0 hy_1 dX5_leftStranded_1 ?_
  refine lv_aload_n hx hb dX5_leftStranded_4 rfl (lv_at hl 0 rfl) ?_
  obtain ⟨y5_2, hy_2, h⟩ := h
  refine gf_X5_10 S.1 hw k_0 hy_2 dX5_leftStranded_5 ?_
  obtain ⟨k_3, h⟩ := h
  refine cv_v (As := [.ref y5_2]) (rest := []) S.1 hw (k_X1_copyFrom l E Z M y1_1 y5_2 _ h) wv_X5_196 yc_X1_copyFrom ⟨rfl, rfl⟩ ⟨Nat.le_of_ble_eq_true rfl, Nat.le_of_ble_eq_true rfl⟩ rfl hl.1 (Nat.le_of_ble_eq_true rfl) (ci := 1) (q := (RX1, TX1, 12)) rfl rfl (by rw [k_3]; decide) (cell_1 k_3) ⟨Nat.le_of_ble_eq_true rfl, Nat.le_of_ble_eq_true rfl⟩ dX5_leftStranded_8 (fun M8 H locs h hw => ?_)
  refine lv_aload_n hx hb dX5_leftStranded_11 rfl (lv_at hl 0 rfl) ?_
  refine lv_aload_n hx hb dX5_leftStranded_12 rfl (lv_at hl 0 rfl) ?_
  refine gf_X5_16 S.1 hw k_0 hy_1 dX5_leftStranded_13 ?_
  refine cv_i (As := [.ref y1_1]) (rest := []) S.1 hw (k_X5_removeFloating l E Z M8 a0 y1_1 _ h) wv_X5_148 yc_X5_removeFloating ⟨rfl, rfl⟩ ⟨Nat.le_of_ble_eq_true rfl, Nat.le_of_ble_eq_true rfl⟩ rfl hl.1 (Nat.le_of_ble_eq_true rfl) (ci := 5) (q := (RX5, TX5, 9)) rfl rfl (by rw [k_0]; decide) (cell_5 k_0) ⟨Nat.le_of_ble_eq_true rfl, Nat.le_of_ble_eq_true rfl⟩ dX5_leftStranded_16 (fun r16 M16 H locs h hw => ?_)
  refine lv_pop hx hb dX5_leftStranded_19 rfl ?_
  refine lv_aload_n hx hb dX5_leftStranded_20 rfl (lv_at hl 0 rfl) ?_
  obtain ⟨y21_4, hy_4, h⟩ := h
  refine gf_X5_40 S.1 hw k_0 hy_4 dX5_leftStranded_21 ?_
  obtain ⟨k_5, h⟩ := h
  refine cv_i (As := []) (rest := []) S.1 hw (k_X0_countLoose l E Z M16 y21_4  _ h) wv_X5_199 yc_X0_countLoose ⟨rfl, rfl⟩ ⟨Nat.le_of_ble_eq_true rfl, Nat.le_of_ble_eq_true rfl⟩ rfl hl.1 (Nat.le_of_ble_eq_true rfl) (ci := 0) (q := (RX0, TX0, 3)) rfl rfl (by rw [k_5]; decide) (cell_0 k_5) ⟨Nat.le_of_ble_eq_true rfl, Nat.le_of_ble_eq_true rfl⟩ dX5_leftStranded_24 (fun r24 M24 H locs h hw => ?_)
  exact we_i S hw h dX5_leftStranded_27
set_option maxRecDepth 100000 in
set_option maxHeartbeats 4000000 in
theorem k_X5_leftStranded (l : Launch) (E : EE) (Z : ZZ) (M : MM) (a0 : Nat) (Q : Int32 → MM → Prop) (h : P_X5_leftStranded Z M a0 Q) : Ct_i l yX5_leftStranded cX5_leftStranded 1 (some .int) rm_X5_leftStranded E Z M [.ref a0] Q := by
  refine Met.ofW (cc := cX5_leftStranded) (maxL := 1) (ret := some .int) (by decide) rfl ?_
  intro p e s m args below meth c s₁ B hml hv
  obtain ⟨rfl, hK, hP, hD, hZ⟩ := hv
  have S : Cx p m c meth cX5_leftStranded 1 s _ RX5 (some .int) := ⟨⟨B.exec, B.bytes, hml, findClass_of_methodNamed B.named, fun w hw => atoms_spec (ws := ws_ yX5_leftStranded cX5_leftStranded 1 (some .int)) B.pre w (List.mem_cons_of_mem _ hw)⟩, B.returns, B.notSynchronized⟩
  have hl := lv_entry ([.ref a0]) (n := 1) (Nat.le_of_ble_eq_true rfl)
  rw [lg_entry_eq]
  generalize (lg_sl ([.ref a0]) ++ List.replicate (1 - (lg_sl ([.ref a0])).length) Slot.unset).toArray = ls at hl ⊢
  exact (wB_X5_leftStranded_0 S  M a0 h) s.heap [] ls ⟨hK, hP, hD, va_S.rf, hZ⟩ hl
set_option maxRecDepth 100000 in
set_option maxHeartbeats 4000000 in
theorem wB_X5_hasWaterIn_32 (S : Cx p m c meth cX5_hasWaterIn 4 s args RX5 (some .boolean)) {Q : Int32 → MM → Prop} {K2 : MM → Nat → Nat → Int32 → Int32 → Prop} (hK2 : ∀ (M : MM) (a0 : Nat) (a1 : Nat) (v2 : Int32) (v3 : Int32), K2 M a0 a1 v2 v3 → WG p l e rm_X5_hasWaterIn s m args below meth c 0 0 (MQi below E Z args s Q) E Z M 2 4 [(0, .ref a0), (1, .ref a1), (2, .int v2), (3, .int v3)] []) (M : MM) (a0 : Nat) (a1 : Nat) (v2 : Int32) (v3 : Int32) (h : B_X5_hasWaterIn_32 Z Q K2 M a0 a1 v2 v3) : WG p l e rm_X5_hasWaterIn s m args below meth c 0 0 (MQi below E Z args s Q) E Z M 32 4 [(0, .ref a0), (1, .ref a1), (2, .int v2), (3, .int v3)] [] := by
  intro H locs ls hw hl
  have hx := S.1.1
  have hb := S.1.2.1
  refine lv_iinc (v := (v3 + 1)) (lv' := [(3, .int (v3 + 1)), (0, .ref a0), (1, .ref a1), (2, .int v2)]) hx hb dX5_hasWaterIn_32 hl (k := 3) rfl rfl (by decide) rfl (fun ls hl => ?_)
  refine lv_goto (tgt := 2) hx hb dX5_hasWaterIn_35 (by decide) ?_
  exact (hK2 _ _ _ _ _ h) H locs ls hw (lv_sub hl [1, 2, 3, 0] rfl)
set_option maxRecDepth 100000 in
set_option maxHeartbeats 4000000 in
theorem wB_X5_hasWaterIn_2 (S : Cx p m c meth cX5_hasWaterIn 4 s args RX5 (some .boolean)) {Q : Int32 → MM → Prop} {K2 : MM → Nat → Nat → Int32 → Int32 → Prop} (hK2 : ∀ (M : MM) (a0 : Nat) (a1 : Nat) (v2 : Int32) (v3 : Int32), K2 M a0 a1 v2 v3 → WG p l e rm_X5_hasWaterIn s m args below meth c 0 0 (MQi below E Z args s Q) E Z M 2 4 [(0, .ref a0), (1, .ref a1), (2, .int v2), (3, .int v3)] []) (M : MM) (a0 : Nat) (a1 : Nat) (v2 : Int32) (v3 : Int32) (h : B_X5_hasWaterIn_2 Z Q K2 M a0 a1 v2 v3) : WG p l e rm_X5_hasWaterIn s m args below meth c 0 0 (MQi below E Z args s Q) E Z M 2 4 [(0, .ref a0), (1, .ref a1), (2, .int v2), (3, .int v3)] [] := by
  intro H locs ls hw hl
  have hx := S.1.1
  have hb := S.1.2.1
  refine lv_iload_n hx hb dX5_hasWaterIn_2 rfl (lv_at hl 3 rfl) ?_
  refine lv_aload_n hx hb dX5_hasWaterIn_3 rfl (lv_at hl 1 rfl) ?_
  obtain ⟨k_0, h⟩ := h
  refine cv_i (As := []) (rest := [.int v3]) S.1 hw (k_X1_cellCount l E Z M a1  _ h) wv_X5_212 yc_X1_cellCount ⟨rfl, rfl⟩ ⟨Nat.le_of_ble_eq_true rfl, Nat.le_of_ble_eq_true rfl⟩ rfl hl.1 (Nat.le_of_ble_eq_true rfl) (ci := 1) (q := (RX1, TX1, 12)) rfl rfl (by rw [k_0]; decide) (cell_1 k_0) ⟨Nat.le_of_ble_eq_true rfl, Nat.le_of_ble_eq_true rfl⟩ dX5_hasWaterIn_4 (fun r4 M4 H locs h hw => ?_)
  refine lv_icmp_ge (tgt := 38) hx hb dX5_hasWaterIn_7 (by decide) (fun q_7 => ?_) (fun q_7 => ?_)
  · have h := h.1 q_7
    refine lv_iconst (v := 0) hx hb dX5_hasWaterIn_38 (by decide) ?_
    exact we_z S hw rfl (by rfl) h dX5_hasWaterIn_39
  · have h := h.2 q_7
    refine lv_aload_n hx hb dX5_hasWaterIn_10 rfl (lv_at hl 0 rfl) ?_
    obtain ⟨k_1, h⟩ := h
    obtain ⟨y11_2, hy_2, h⟩ := h
    refine gf_X5_40 S.1 hw k_1 hy_2 dX5_hasWaterIn_11 ?_
    refine lv_iload_n hx hb dX5_hasWaterIn_14 rfl (lv_at hl 3 rfl) ?_
    obtain ⟨k_3, h⟩ := h
    refine cv_i (As := [.int v3]) (rest := []) S.1 hw (k_X0_numberAt l E Z M4 y11_2 v3 _ h) wv_X5_131 yc_X0_numberAt ⟨rfl, rfl⟩ ⟨Nat.le_of_ble_eq_true rfl, Nat.le_of_ble_eq_true rfl⟩ rfl hl.1 (Nat.le_of_ble_eq_true rfl) (ci := 0) (q := (RX0, TX0, 3)) rfl rfl (by rw [k_3]; decide) (cell_0 k_3) ⟨Nat.le_of_ble_eq_true rfl, Nat.le_of_ble_eq_true rfl⟩ dX5_hasWaterIn_15 (fun r15 M15 H locs h hw => ?_)
    refine lv_iload_n hx hb dX5_hasWaterIn_18 rfl (lv_at hl 2 rfl) ?_
    refine lv_icmp_ne (tgt := 32) hx hb dX5_hasWaterIn_19 (by decide) (fun q_19 => ?_) (fun q_19 => ?_)
    · have h := h.1 q_19
      exact ((wB_X5_hasWaterIn_32 S  hK2 _ _ _ _ _ h)) H locs ls hw (lv_sub hl [0, 1, 2, 3] rfl)
    · have h := h.2 q_19
      refine lv_aload_n hx hb dX5_hasWaterIn_22 rfl (lv_at hl 1 rfl) ?_
      refine lv_iload_n hx hb dX5_hasWaterIn_23 rfl (lv_at hl 3 rfl) ?_
      refine cv_i (As := [.int v3]) (rest := []) S.1 hw (k_X1_isIce l E Z M15 a1 v3 _ h) wv_X5_215 yc_X1_isIce ⟨rfl, rfl⟩ ⟨Nat.le_of_ble_eq_true rfl, Nat.le_of_ble_eq_true rfl⟩ rfl hl.1 (Nat.le_of_ble_eq_true rfl) (ci := 1) (q := (RX1, TX1, 12)) rfl rfl (by rw [k_0]; decide) (cell_1 k_0) ⟨Nat.le_of_ble_eq_true rfl, Nat.le_of_ble_eq_true rfl⟩ dX5_hasWaterIn_24 (fun r24 M24 H locs h hw => ?_)
      refine lv_if_ne (tgt := 32) hx hb dX5_hasWaterIn_27 (by decide) (fun q_27 => ?_) (fun q_27 => ?_)
      · have h := h.1 q_27
        exact ((wB_X5_hasWaterIn_32 S  hK2 _ _ _ _ _ h)) H locs ls hw (lv_sub hl [0, 1, 2, 3] rfl)
      · have h := h.2 q_27
        refine lv_iconst (v := 1) hx hb dX5_hasWaterIn_30 (by decide) ?_
        exact we_z S hw rfl (by rfl) h dX5_hasWaterIn_31
theorem wL_X5_hasWaterIn_2 (S : Cx p m c meth cX5_hasWaterIn 4 s args RX5 (some .boolean)) {Q : Int32 → MM → Prop}   : ∀ (n : Nat) (M : MM) (a0 : Nat) (a1 : Nat) (v2 : Int32) (v3 : Int32), L_X5_hasWaterIn_2 Z Q   n M a0 a1 v2 v3 → WG p l e rm_X5_hasWaterIn s m args below meth c 0 0 (MQi below E Z args s Q) E Z M 2 4 [(0, .ref a0), (1, .ref a1), (2, .int v2), (3, .int v3)] []
  | 0, _, _, _, _, _, h => False.elim h
  | n + 1, M, a0, a1, v2, v3, h => wB_X5_hasWaterIn_2 S  (wL_X5_hasWaterIn_2 S   n) M a0 a1 v2 v3 h
set_option maxRecDepth 100000 in
set_option maxHeartbeats 4000000 in
theorem wB_X5_hasWaterIn_0 (S : Cx p m c meth cX5_hasWaterIn 4 s args RX5 (some .boolean)) {Q : Int32 → MM → Prop}   (M : MM) (a0 : Nat) (a1 : Nat) (v2 : Int32) (h : B_X5_hasWaterIn_0 Z Q  M a0 a1 v2) : WG p l e rm_X5_hasWaterIn s m args below meth c 0 0 (MQi below E Z args s Q) E Z M 0 4 [(0, .ref a0), (1, .ref a1), (2, .int v2)] [] := by
  intro H locs ls hw hl
  have hx := S.1.1
  have hb := S.1.2.1
  refine lv_iconst (v := 0) hx hb dX5_hasWaterIn_0 (by decide) ?_
  refine lv_istore_n (lv' := [(3, .int 0), (0, .ref a0), (1, .ref a1), (2, .int v2)]) hx hb dX5_hasWaterIn_1 rfl hl (by decide) rfl (fun ls hl => ?_)
  exact ((Exists.elim h (fun n h => wL_X5_hasWaterIn_2 S   n _ _ _ _ _ h))) H locs ls hw (lv_sub hl [1, 2, 3, 0] rfl)
set_option maxRecDepth 100000 in
set_option maxHeartbeats 4000000 in
theorem k_X5_hasWaterIn (l : Launch) (E : EE) (Z : ZZ) (M : MM) (a0 : Nat) (a1 : Nat) (v2 : Int32) (Q : Int32 → MM → Prop) (h : P_X5_hasWaterIn Z M a0 a1 v2 Q) : Ct_i l yX5_hasWaterIn cX5_hasWaterIn 4 (some .boolean) rm_X5_hasWaterIn E Z M [.ref a0, .ref a1, .int v2] Q := by
  refine Met.ofW (cc := cX5_hasWaterIn) (maxL := 4) (ret := some .boolean) (by decide) rfl ?_
  intro p e s m args below meth c s₁ B hml hv
  obtain ⟨rfl, hK, hP, hD, hZ⟩ := hv
  have S : Cx p m c meth cX5_hasWaterIn 4 s _ RX5 (some .boolean) := ⟨⟨B.exec, B.bytes, hml, findClass_of_methodNamed B.named, fun w hw => atoms_spec (ws := ws_ yX5_hasWaterIn cX5_hasWaterIn 4 (some .boolean)) B.pre w (List.mem_cons_of_mem _ hw)⟩, B.returns, B.notSynchronized⟩
  have hl := lv_entry ([.ref a0, .ref a1, .int v2]) (n := 4) (Nat.le_of_ble_eq_true rfl)
  rw [lg_entry_eq]
  generalize (lg_sl ([.ref a0, .ref a1, .int v2]) ++ List.replicate (4 - (lg_sl ([.ref a0, .ref a1, .int v2])).length) Slot.unset).toArray = ls at hl ⊢
  exact (wB_X5_hasWaterIn_0 S  M a0 a1 v2 h) s.heap [] ls ⟨hK, hP, hD, va_S.rf, hZ⟩ hl
set_option maxRecDepth 100000 in
set_option maxHeartbeats 4000000 in
theorem wB_X5_daysWhole_51 (S : Cx p m c meth cX5_daysWhole 4 s args RX5 (some .int)) (T : Tx l c Z s) {Q : Int32 → MM → Prop} {X : String → MM → Prop} {K51 : MM → Nat → Int32 → Int32 → Prop} (hK51 : ∀ (M : MM) (a0 : Nat) (v2 : Int32) (v3 : Int32), K51 M a0 v2 v3 → WG p l e rm_X5_daysWhole s m args below meth c 1 6 (MQxi below E Z args s Q X 1 6) E Z M 51 4 [(0, .ref a0), (2, .int v2), (3, .int v3)] []) (M : MM) (a0 : Nat) (v2 : Int32) (v3 : Int32) (h : B_X5_daysWhole_51 Z Q X K51 M a0 v2 v3) : WG p l e rm_X5_daysWhole s m args below meth c 1 6 (MQxi below E Z args s Q X 1 6) E Z M 51 4 [(0, .ref a0), (2, .int v2), (3, .int v3)] [] := by
  intro H locs ls hw hl
  have hx := S.1.1
  have hb := S.1.2.1
  refine lv_iload_n hx hb dX5_daysWhole_51 rfl (lv_at hl 2 rfl) ?_
  refine lv_bipush (v := 60) hx hb dX5_daysWhole_52 (by decide) ?_
  refine lv_icmp_gt (tgt := 84) hx hb dX5_daysWhole_54 (by decide) (fun q_54 => ?_) (fun q_54 => ?_)
  · have h := h.1 q_54
    refine lv_iconst (v := (-1)) hx hb dX5_daysWhole_84 (by decide) ?_
    refine wx_end (Nat.le_of_ble_eq_true rfl) (Nat.le_of_ble_eq_true rfl) ?_
    exact we_i S hw h dX5_daysWhole_85
  · have h := h.2 q_54
    refine lv_aload_n hx hb dX5_daysWhole_57 rfl (lv_at hl 0 rfl) ?_
    obtain ⟨k_0, h⟩ := h
    obtain ⟨y58_1, hy_1, h⟩ := h
    refine gf_X5_16 S.1 hw k_0 hy_1 dX5_daysWhole_58 ?_
    obtain ⟨k_2, h⟩ := h
    refine cv_v (As := []) (rest := []) S.1 hw (k_X1_meltOneDay l E Z M y58_1  _ h) wv_X5_159 yc_X1_meltOneDay ⟨rfl, rfl⟩ ⟨Nat.le_of_ble_eq_true rfl, Nat.le_of_ble_eq_true rfl⟩ rfl hl.1 (Nat.le_of_ble_eq_true rfl) (ci := 1) (q := (RX1, TX1, 12)) rfl rfl (by rw [k_2]; decide) (cell_1 k_2) ⟨Nat.le_of_ble_eq_true rfl, Nat.le_of_ble_eq_true rfl⟩ dX5_daysWhole_61 (fun M61 H locs h hw => ?_)
    refine lv_aload_n hx hb dX5_daysWhole_64 rfl (lv_at hl 0 rfl) ?_
    refine lv_aload_n hx hb dX5_daysWhole_65 rfl (lv_at hl 0 rfl) ?_
    refine gf_X5_16 S.1 hw k_0 hy_1 dX5_daysWhole_66 ?_
    refine lv_iload_n hx hb dX5_daysWhole_69 rfl (lv_at hl 1 rfl) ?_
    refine cv_i (As := [.ref y58_1, .int v2]) (rest := []) S.1 hw (k_X5_hasWaterIn l E Z M61 a0 y58_1 v2 _ h) wv_X5_202 yc_X5_hasWaterIn ⟨rfl, rfl⟩ ⟨Nat.le_of_ble_eq_true rfl, Nat.le_of_ble_eq_true rfl⟩ rfl hl.1 (Nat.le_of_ble_eq_true rfl) (ci := 5) (q := (RX5, TX5, 9)) rfl rfl (by rw [k_0]; decide) (cell_5 k_0) ⟨Nat.le_of_ble_eq_true rfl, Nat.le_of_ble_eq_true rfl⟩ dX5_daysWhole_70 (fun r70 M70 H locs h hw => ?_)
    refine lv_if_eq (tgt := 78) hx hb dX5_daysWhole_73 (by decide) (fun q_73 => ?_) (fun q_73 => ?_)
    · have h := h.1 q_73
      refine lv_iinc (v := (v3 + 1)) (lv' := [(3, .int (v3 + 1)), (0, .ref a0), (2, .int v2)]) hx hb dX5_daysWhole_78 hl (k := 2) rfl rfl (by decide) rfl (fun ls hl => ?_)
      refine lv_goto (tgt := 51) hx hb dX5_daysWhole_81 (by decide) ?_
      exact (hK51 _ _ _ _ h) H locs ls hw (lv_sub hl [1, 2, 0] rfl)
    · have h := h.2 q_73
      refine lv_iload_n hx hb dX5_daysWhole_76 rfl (lv_at hl 2 rfl) ?_
      refine wx_end (Nat.le_of_ble_eq_true rfl) (Nat.le_of_ble_eq_true rfl) ?_
      exact we_i S hw h dX5_daysWhole_77
theorem wL_X5_daysWhole_51 (S : Cx p m c meth cX5_daysWhole 4 s args RX5 (some .int)) (T : Tx l c Z s) {Q : Int32 → MM → Prop} {X : String → MM → Prop}   : ∀ (n : Nat) (M : MM) (a0 : Nat) (v2 : Int32) (v3 : Int32), L_X5_daysWhole_51 Z Q X  n M a0 v2 v3 → WG p l e rm_X5_daysWhole s m args below meth c 1 6 (MQxi below E Z args s Q X 1 6) E Z M 51 4 [(0, .ref a0), (2, .int v2), (3, .int v3)] []
  | 0, _, _, _, _, h => False.elim h
  | n + 1, M, a0, v2, v3, h => wB_X5_daysWhole_51 S T (wL_X5_daysWhole_51 S T  n) M a0 v2 v3 h
set_option maxRecDepth 100000 in
set_option maxHeartbeats 4000000 in
theorem wB_X5_daysWhole_0 (S : Cx p m c meth cX5_daysWhole 4 s args RX5 (some .int)) (T : Tx l c Z s) {Q : Int32 → MM → Prop} {X : String → MM → Prop}   (M : MM) (a0 : Nat) (v1 : Int32) (h : B_X5_daysWhole_0 Z Q X  M a0 v1) : WG p l e rm_X5_daysWhole s m args below meth c 0 0 (MQxi below E Z args s Q X 1 6) E Z M 0 4 [(0, .ref a0), (1, .int v1)] [] := by
  intro H locs ls hw hl
  have hx := S.1.1
  have hb := S.1.2.1
  refine lv_aload_n hx hb dX5_daysWhole_0 rfl (lv_at hl 0 rfl) ?_
  refine lv_iload_n hx hb dX5_daysWhole_1 rfl (lv_at hl 1 rfl) ?_
  obtain ⟨k_0, h⟩ := h
  refine cx_v (As := [.int v1]) (rest := []) S T hw (k_X5_checkCell l T.1 E Z M a0 v1 _ _ h) wv_X5_87 yc_X5_checkCell ⟨rfl, rfl⟩ ⟨Nat.le_of_ble_eq_true rfl, Nat.le_of_ble_eq_true rfl⟩ rfl hl.1 (Nat.le_of_ble_eq_true rfl) (ci := 5) (q := (RX5, TX5, 9)) rfl rfl (by rw [k_0]; decide) (cell_5 k_0) ⟨Nat.le_of_ble_eq_true rfl, Nat.le_of_ble_eq_true rfl⟩ dX5_daysWhole_2 (Nat.le_of_ble_eq_true rfl) (Nat.le_of_ble_eq_true rfl) (fun M2 H locs h hw => ?_)
  refine lv_aload_n hx hb dX5_daysWhole_5 rfl (lv_at hl 0 rfl) ?_
  obtain ⟨y6_1, hy_1, h⟩ := h
  refine gf_X5_40 S.1 hw k_0 hy_1 dX5_daysWhole_6 ?_
  refine lv_aload_n hx hb dX5_daysWhole_9 rfl (lv_at hl 0 rfl) ?_
  obtain ⟨y10_2, hy_2, h⟩ := h
  refine gf_X5_10 S.1 hw k_0 hy_2 dX5_daysWhole_10 ?_
  obtain ⟨k_3, h⟩ := h
  refine cv_v (As := [.ref y10_2]) (rest := []) S.1 hw (k_X0_find l E Z M2 y6_1 y10_2 _ h) wv_X5_127 yc_X0_find ⟨rfl, rfl⟩ ⟨Nat.le_of_ble_eq_true rfl, Nat.le_of_ble_eq_true rfl⟩ rfl hl.1 (Nat.le_of_ble_eq_true rfl) (ci := 0) (q := (RX0, TX0, 3)) rfl rfl (by rw [k_3]; decide) (cell_0 k_3) ⟨Nat.le_of_ble_eq_true rfl, Nat.le_of_ble_eq_true rfl⟩ dX5_daysWhole_13 (fun M13 H locs h hw => ?_)
  refine lv_aload_n hx hb dX5_daysWhole_16 rfl (lv_at hl 0 rfl) ?_
  refine gf_X5_40 S.1 hw k_0 hy_1 dX5_daysWhole_17 ?_
  refine lv_iload_n hx hb dX5_daysWhole_20 rfl (lv_at hl 1 rfl) ?_
  refine cv_i (As := [.int v1]) (rest := []) S.1 hw (k_X0_numberAt l E Z M13 y6_1 v1 _ h) wv_X5_131 yc_X0_numberAt ⟨rfl, rfl⟩ ⟨Nat.le_of_ble_eq_true rfl, Nat.le_of_ble_eq_true rfl⟩ rfl hl.1 (Nat.le_of_ble_eq_true rfl) (ci := 0) (q := (RX0, TX0, 3)) rfl rfl (by rw [k_3]; decide) (cell_0 k_3) ⟨Nat.le_of_ble_eq_true rfl, Nat.le_of_ble_eq_true rfl⟩ dX5_daysWhole_21 (fun r21 M21 H locs h hw => ?_)
  refine lv_istore_n (lv' := [(2, .int r21), (0, .ref a0), (1, .int v1)]) hx hb dX5_daysWhole_24 rfl hl (by decide) rfl (fun ls hl => ?_)
  refine lv_aload_n hx hb dX5_daysWhole_25 rfl (lv_at hl 1 rfl) ?_
  refine gf_X5_40 S.1 hw k_0 hy_1 dX5_daysWhole_26 ?_
  refine lv_iload_n hx hb dX5_daysWhole_29 rfl (lv_at hl 0 rfl) ?_
  refine cv_i (As := [.int r21]) (rest := []) S.1 hw (k_X0_isLoose l E Z M21 y6_1 r21 _ h) wv_X5_134 yc_X0_isLoose ⟨rfl, rfl⟩ ⟨Nat.le_of_ble_eq_true rfl, Nat.le_of_ble_eq_true rfl⟩ rfl hl.1 (Nat.le_of_ble_eq_true rfl) (ci := 0) (q := (RX0, TX0, 3)) rfl rfl (by rw [k_3]; decide) (cell_0 k_3) ⟨Nat.le_of_ble_eq_true rfl, Nat.le_of_ble_eq_true rfl⟩ dX5_daysWhole_30 (fun r30 M30 H locs h hw => ?_)
  refine lv_if_ne (tgt := 38) hx hb dX5_daysWhole_33 (by decide) (fun q_33 => ?_) (fun q_33 => ?_)
  · have h := h.1 q_33
    refine lv_aload_n hx hb dX5_daysWhole_38 rfl (lv_at hl 1 rfl) ?_
    obtain ⟨y39_4, hy_4, h⟩ := h
    refine gf_X5_16 S.1 hw k_0 hy_4 dX5_daysWhole_39 ?_
    refine lv_aload_n hx hb dX5_daysWhole_42 rfl (lv_at hl 1 rfl) ?_
    refine gf_X5_10 S.1 hw k_0 hy_2 dX5_daysWhole_43 ?_
    obtain ⟨k_5, h⟩ := h
    refine cv_v (As := [.ref y10_2]) (rest := []) S.1 hw (k_X1_copyFrom l E Z M30 y39_4 y10_2 _ h) wv_X5_196 yc_X1_copyFrom ⟨rfl, rfl⟩ ⟨Nat.le_of_ble_eq_true rfl, Nat.le_of_ble_eq_true rfl⟩ rfl hl.1 (Nat.le_of_ble_eq_true rfl) (ci := 1) (q := (RX1, TX1, 12)) rfl rfl (by rw [k_5]; decide) (cell_1 k_5) ⟨Nat.le_of_ble_eq_true rfl, Nat.le_of_ble_eq_true rfl⟩ dX5_daysWhole_46 (fun M46 H locs h hw => ?_)
    refine lv_iconst (v := 1) hx hb dX5_daysWhole_49 (by decide) ?_
    refine lv_istore_n (lv' := [(3, .int 1), (2, .int r21), (0, .ref a0), (1, .int v1)]) hx hb dX5_daysWhole_50 rfl hl (by decide) rfl (fun ls hl => ?_)
    exact ((Exists.elim h (fun n h => wL_X5_daysWhole_51 S T  n _ _ _ _ h))) H locs ls hw (lv_sub hl [2, 1, 0] rfl)
  · have h := h.2 q_33
    refine lv_iconst (v := (-1)) hx hb dX5_daysWhole_36 (by decide) ?_
    refine wx_end (Nat.le_of_ble_eq_true rfl) (Nat.le_of_ble_eq_true rfl) ?_
    exact we_i S hw h dX5_daysWhole_37
set_option maxRecDepth 100000 in
set_option maxHeartbeats 4000000 in
theorem k_X5_daysWhole (l : Launch) (hl0 : l.stackTraces = false) (E : EE) (Z : ZZ) (M : MM) (a0 : Nat) (v1 : Int32) (Q : Int32 → MM → Prop) (X : String → MM → Prop) (h : P_X5_daysWhole Z M a0 v1 Q X) : Cxi l yX5_daysWhole cX5_daysWhole 4 (some .int) rm_X5_daysWhole E Z M [.ref a0, .int v1] Q X 1 6 := by
  refine vx_ofW (cc := cX5_daysWhole) (maxL := 4) (ret := some .int) (by decide) rfl ?_
  intro p e s m args below meth c s₁ B hml ht hv
  obtain ⟨rfl, ⟨hK, hP, hD, hZ⟩, hsx⟩ := hv
  have S : Cx p m c meth cX5_daysWhole 4 s _ RX5 (some .int) := ⟨⟨B.exec, B.bytes, hml, findClass_of_methodNamed B.named, fun w hw => atoms_spec (ws := ws_ yX5_daysWhole cX5_daysWhole 4 (some .int)) B.pre w (List.mem_cons_of_mem _ hw)⟩, B.returns, B.notSynchronized⟩
  have T : Tx l c Z s := ⟨hl0, ht, hsx⟩
  have hl := lv_entry ([.ref a0, .int v1]) (n := 4) (Nat.le_of_ble_eq_true rfl)
  rw [lg_entry_eq]
  generalize (lg_sl ([.ref a0, .int v1]) ++ List.replicate (4 - (lg_sl ([.ref a0, .int v1])).length) Slot.unset).toArray = ls at hl ⊢
  exact (wB_X5_daysWhole_0 S T M a0 v1 h) s.heap [] ls ⟨hK, hP, hD, va_S.rf, hZ⟩ hl
set_option maxRecDepth 100000 in
set_option maxHeartbeats 4000000 in
theorem wB_X5_daysToWater_13 (S : Cx p m c meth cX5_daysToWater 2 s args RX5 (some .int)) {Q : Int32 → MM → Prop} {K13 : MM → Nat → Int32 → Prop} (hK13 : ∀ (M : MM) (a0 : Nat) (v1 : Int32), K13 M a0 v1 → WG p l e rm_X5_daysToWater s m args below meth c 0 0 (MQi below E Z args s Q) E Z M 13 2 [(0, .ref a0), (1, .int v1)] []) (M : MM) (a0 : Nat) (v1 : Int32) (h : B_X5_daysToWater_13 Z Q K13 M a0 v1) : WG p l e rm_X5_daysToWater s m args below meth c 0 0 (MQi below E Z args s Q) E Z M 13 2 [(0, .ref a0), (1, .int v1)] [] := by
  intro H locs ls hw hl
  have hx := S.1.1
  have hb := S.1.2.1
  refine lv_iload_n hx hb dX5_daysToWater_13 rfl (lv_at hl 1 rfl) ?_
  refine lv_bipush (v := 60) hx hb dX5_daysToWater_14 (by decide) ?_
  refine lv_icmp_gt (tgt := 44) hx hb dX5_daysToWater_16 (by decide) (fun q_16 => ?_) (fun q_16 => ?_)
  · have h := h.1 q_16
    refine lv_iconst (v := (-1)) hx hb dX5_daysToWater_44 (by decide) ?_
    exact we_i S hw h dX5_daysToWater_45
  · have h := h.2 q_16
    refine lv_aload_n hx hb dX5_daysToWater_19 rfl (lv_at hl 0 rfl) ?_
    obtain ⟨k_0, h⟩ := h
    obtain ⟨y20_1, hy_1, h⟩ := h
    refine gf_X5_16 S.1 hw k_0 hy_1 dX5_daysToWater_20 ?_
    obtain ⟨k_2, h⟩ := h
    refine cv_i (As := []) (rest := []) S.1 hw (k_X1_iceCells l E Z M y20_1  _ h) wv_X5_206 yc_X1_iceCells ⟨rfl, rfl⟩ ⟨Nat.le_of_ble_eq_true rfl, Nat.le_of_ble_eq_true rfl⟩ rfl hl.1 (Nat.le_of_ble_eq_true rfl) (ci := 1) (q := (RX1, TX1, 12)) rfl rfl (by rw [k_2]; decide) (cell_1 k_2) ⟨Nat.le_of_ble_eq_true rfl, Nat.le_of_ble_eq_true rfl⟩ dX5_daysToWater_23 (fun r23 M23 H locs h hw => ?_)
    refine lv_if_ne (tgt := 31) hx hb dX5_daysToWater_26 (by decide) (fun q_26 => ?_) (fun q_26 => ?_)
    · have h := h.1 q_26
      refine lv_aload_n hx hb dX5_daysToWater_31 rfl (lv_at hl 0 rfl) ?_
      refine gf_X5_16 S.1 hw k_0 hy_1 dX5_daysToWater_32 ?_
      refine cv_v (As := []) (rest := []) S.1 hw (k_X1_meltOneDay l E Z M23 y20_1  _ h) wv_X5_159 yc_X1_meltOneDay ⟨rfl, rfl⟩ ⟨Nat.le_of_ble_eq_true rfl, Nat.le_of_ble_eq_true rfl⟩ rfl hl.1 (Nat.le_of_ble_eq_true rfl) (ci := 1) (q := (RX1, TX1, 12)) rfl rfl (by rw [k_2]; decide) (cell_1 k_2) ⟨Nat.le_of_ble_eq_true rfl, Nat.le_of_ble_eq_true rfl⟩ dX5_daysToWater_35 (fun M35 H locs h hw => ?_)
      refine lv_iinc (v := (v1 + 1)) (lv' := [(1, .int (v1 + 1)), (0, .ref a0)]) hx hb dX5_daysToWater_38 hl (k := 1) rfl rfl (by decide) rfl (fun ls hl => ?_)
      refine lv_goto (tgt := 13) hx hb dX5_daysToWater_41 (by decide) ?_
      exact (hK13 _ _ _ h) H locs ls hw (lv_sub hl [1, 0] rfl)
    · have h := h.2 q_26
      refine lv_iload_n hx hb dX5_daysToWater_29 rfl (lv_at hl 1 rfl) ?_
      exact we_i S hw h dX5_daysToWater_30
theorem wL_X5_daysToWater_13 (S : Cx p m c meth cX5_daysToWater 2 s args RX5 (some .int)) {Q : Int32 → MM → Prop}   : ∀ (n : Nat) (M : MM) (a0 : Nat) (v1 : Int32), L_X5_daysToWater_13 Z Q   n M a0 v1 → WG p l e rm_X5_daysToWater s m args below meth c 0 0 (MQi below E Z args s Q) E Z M 13 2 [(0, .ref a0), (1, .int v1)] []
  | 0, _, _, _, h => False.elim h
  | n + 1, M, a0, v1, h => wB_X5_daysToWater_13 S  (wL_X5_daysToWater_13 S   n) M a0 v1 h
set_option maxRecDepth 100000 in
set_option maxHeartbeats 4000000 in
theorem wB_X5_daysToWater_0 (S : Cx p m c meth cX5_daysToWater 2 s args RX5 (some .int)) {Q : Int32 → MM → Prop}   (M : MM) (a0 : Nat) (h : B_X5_daysToWater_0 Z Q  M a0) : WG p l e rm_X5_daysToWater s m args below meth c 0 0 (MQi below E Z args s Q) E Z M 0 2 [(0, .ref a0)] [] := by
  intro H locs ls hw hl
  have hx := S.1.1
  have hb := S.1.2.1
  refine lv_aload_n hx hb dX5_daysToWater_0 rfl (lv_at hl 0 rfl) ?_
  obtain ⟨k_0, h⟩ := h
  obtain ⟨y1_1, hy_1, h⟩ := h
  refine gf_X5_16 S.1 hw k_0 hy_1 dX5_daysToWater_1 ?_
  refine lv_aload_n hx hb dX5_daysToWater_4 rfl (lv_at hl 0 rfl) ?_
  obtain ⟨y5_2, hy_2, h⟩ := h
  refine gf_X5_10 S.1 hw k_0 hy_2 dX5_daysToWater_5 ?_
  obtain ⟨k_3, h⟩ := h
  refine cv_v (As := [.ref y5_2]) (rest := []) S.1 hw (k_X1_copyFrom l E Z M y1_1 y5_2 _ h) wv_X5_196 yc_X1_copyFrom ⟨rfl, rfl⟩ ⟨Nat.le_of_ble_eq_true rfl, Nat.le_of_ble_eq_true rfl⟩ rfl hl.1 (Nat.le_of_ble_eq_true rfl) (ci := 1) (q := (RX1, TX1, 12)) rfl rfl (by rw [k_3]; decide) (cell_1 k_3) ⟨Nat.le_of_ble_eq_true rfl, Nat.le_of_ble_eq_true rfl⟩ dX5_daysToWater_8 (fun M8 H locs h hw => ?_)
  refine lv_iconst (v := 0) hx hb dX5_daysToWater_11 (by decide) ?_
  refine lv_istore_n (lv' := [(1, .int 0), (0, .ref a0)]) hx hb dX5_daysToWater_12 rfl hl (by decide) rfl (fun ls hl => ?_)
  exact ((Exists.elim h (fun n h => wL_X5_daysToWater_13 S   n _ _ _ h))) H locs ls hw (lv_sub hl [1, 0] rfl)
set_option maxRecDepth 100000 in
set_option maxHeartbeats 4000000 in
theorem k_X5_daysToWater (l : Launch) (E : EE) (Z : ZZ) (M : MM) (a0 : Nat) (Q : Int32 → MM → Prop) (h : P_X5_daysToWater Z M a0 Q) : Ct_i l yX5_daysToWater cX5_daysToWater 2 (some .int) rm_X5_daysToWater E Z M [.ref a0] Q := by
  refine Met.ofW (cc := cX5_daysToWater) (maxL := 2) (ret := some .int) (by decide) rfl ?_
  intro p e s m args below meth c s₁ B hml hv
  obtain ⟨rfl, hK, hP, hD, hZ⟩ := hv
  have S : Cx p m c meth cX5_daysToWater 2 s _ RX5 (some .int) := ⟨⟨B.exec, B.bytes, hml, findClass_of_methodNamed B.named, fun w hw => atoms_spec (ws := ws_ yX5_daysToWater cX5_daysToWater 2 (some .int)) B.pre w (List.mem_cons_of_mem _ hw)⟩, B.returns, B.notSynchronized⟩
  have hl := lv_entry ([.ref a0]) (n := 2) (Nat.le_of_ble_eq_true rfl)
  rw [lg_entry_eq]
  generalize (lg_sl ([.ref a0]) ++ List.replicate (2 - (lg_sl ([.ref a0])).length) Slot.unset).toArray = ls at hl ⊢
  exact (wB_X5_daysToWater_0 S  M a0 h) s.heap [] ls ⟨hK, hP, hD, va_S.rf, hZ⟩ hl
set_option maxRecDepth 100000 in
set_option maxHeartbeats 4000000 in
theorem wB_X5_lowestStranded_2 (S : Cx p m c meth cX5_lowestStranded 2 s args RX5 (some .int)) {Q : Int32 → MM → Prop} {K2 : MM → Nat → Int32 → Prop} (hK2 : ∀ (M : MM) (a0 : Nat) (v1 : Int32), K2 M a0 v1 → WG p l e rm_X5_lowestStranded s m args below meth c 0 0 (MQi below E Z args s Q) E Z M 2 2 [(0, .ref a0), (1, .int v1)] []) (M : MM) (a0 : Nat) (v1 : Int32) (h : B_X5_lowestStranded_2 Z Q K2 M a0 v1) : WG p l e rm_X5_lowestStranded s m args below meth c 0 0 (MQi below E Z args s Q) E Z M 2 2 [(0, .ref a0), (1, .int v1)] [] := by
  intro H locs ls hw hl
  have hx := S.1.1
  have hb := S.1.2.1
  refine lv_iload_n hx hb dX5_lowestStranded_2 rfl (lv_at hl 1 rfl) ?_
  refine lv_aload_n hx hb dX5_lowestStranded_3 rfl (lv_at hl 0 rfl) ?_
  obtain ⟨k_0, h⟩ := h
  obtain ⟨y4_1, hy_1, h⟩ := h
  refine gf_X5_10 S.1 hw k_0 hy_1 dX5_lowestStranded_4 ?_
  obtain ⟨k_2, h⟩ := h
  refine cv_i (As := []) (rest := [.int v1]) S.1 hw (k_X1_cellCount l E Z M y4_1  _ h) wv_X5_212 yc_X1_cellCount ⟨rfl, rfl⟩ ⟨Nat.le_of_ble_eq_true rfl, Nat.le_of_ble_eq_true rfl⟩ rfl hl.1 (Nat.le_of_ble_eq_true rfl) (ci := 1) (q := (RX1, TX1, 12)) rfl rfl (by rw [k_2]; decide) (cell_1 k_2) ⟨Nat.le_of_ble_eq_true rfl, Nat.le_of_ble_eq_true rfl⟩ dX5_lowestStranded_7 (fun r7 M7 H locs h hw => ?_)
  refine lv_icmp_ge (tgt := 29) hx hb dX5_lowestStranded_10 (by decide) (fun q_10 => ?_) (fun q_10 => ?_)
  · have h := h.1 q_10
    refine lv_iconst (v := (-1)) hx hb dX5_lowestStranded_29 (by decide) ?_
    exact we_i S hw h dX5_lowestStranded_30
  · have h := h.2 q_10
    refine lv_aload_n hx hb dX5_lowestStranded_13 rfl (lv_at hl 0 rfl) ?_
    refine lv_iload_n hx hb dX5_lowestStranded_14 rfl (lv_at hl 1 rfl) ?_
    refine cv_i (As := [.int v1]) (rest := []) S.1 hw (k_X5_isStranded l E Z M7 a0 v1 _ h) wv_X5_297 yc_X5_isStranded ⟨rfl, rfl⟩ ⟨Nat.le_of_ble_eq_true rfl, Nat.le_of_ble_eq_true rfl⟩ rfl hl.1 (Nat.le_of_ble_eq_true rfl) (ci := 5) (q := (RX5, TX5, 9)) rfl rfl (by rw [k_0]; decide) (cell_5 k_0) ⟨Nat.le_of_ble_eq_true rfl, Nat.le_of_ble_eq_true rfl⟩ dX5_lowestStranded_15 (fun r15 M15 H locs h hw => ?_)
    refine lv_if_eq (tgt := 23) hx hb dX5_lowestStranded_18 (by decide) (fun q_18 => ?_) (fun q_18 => ?_)
    · have h := h.1 q_18
      refine lv_iinc (v := (v1 + 1)) (lv' := [(1, .int (v1 + 1)), (0, .ref a0)]) hx hb dX5_lowestStranded_23 hl (k := 1) rfl rfl (by decide) rfl (fun ls hl => ?_)
      refine lv_goto (tgt := 2) hx hb dX5_lowestStranded_26 (by decide) ?_
      exact (hK2 _ _ _ h) H locs ls hw (lv_sub hl [1, 0] rfl)
    · have h := h.2 q_18
      refine lv_iload_n hx hb dX5_lowestStranded_21 rfl (lv_at hl 1 rfl) ?_
      exact we_i S hw h dX5_lowestStranded_22
theorem wL_X5_lowestStranded_2 (S : Cx p m c meth cX5_lowestStranded 2 s args RX5 (some .int)) {Q : Int32 → MM → Prop}   : ∀ (n : Nat) (M : MM) (a0 : Nat) (v1 : Int32), L_X5_lowestStranded_2 Z Q   n M a0 v1 → WG p l e rm_X5_lowestStranded s m args below meth c 0 0 (MQi below E Z args s Q) E Z M 2 2 [(0, .ref a0), (1, .int v1)] []
  | 0, _, _, _, h => False.elim h
  | n + 1, M, a0, v1, h => wB_X5_lowestStranded_2 S  (wL_X5_lowestStranded_2 S   n) M a0 v1 h
set_option maxRecDepth 100000 in
set_option maxHeartbeats 4000000 in
theorem wB_X5_lowestStranded_0 (S : Cx p m c meth cX5_lowestStranded 2 s args RX5 (some .int)) {Q : Int32 → MM → Prop}   (M : MM) (a0 : Nat) (h : B_X5_lowestStranded_0 Z Q  M a0) : WG p l e rm_X5_lowestStranded s m args below meth c 0 0 (MQi below E Z args s Q) E Z M 0 2 [(0, .ref a0)] [] := by
  intro H locs ls hw hl
  have hx := S.1.1
  have hb := S.1.2.1
  refine lv_iconst (v := 0) hx hb dX5_lowestStranded_0 (by decide) ?_
  refine lv_istore_n (lv' := [(1, .int 0), (0, .ref a0)]) hx hb dX5_lowestStranded_1 rfl hl (by decide) rfl (fun ls hl => ?_)
  exact ((Exists.elim h (fun n h => wL_X5_lowestStranded_2 S   n _ _ _ h))) H locs ls hw (lv_sub hl [1, 0] rfl)
set_option maxRecDepth 100000 in
set_option maxHeartbeats 4000000 in
theorem k_X5_lowestStranded (l : Launch) (E : EE) (Z : ZZ) (M : MM) (a0 : Nat) (Q : Int32 → MM → Prop) (h : P_X5_lowestStranded Z M a0 Q) : Ct_i l yX5_lowestStranded cX5_lowestStranded 2 (some .int) rm_X5_lowestStranded E Z M [.ref a0] Q := by
  refine Met.ofW (cc := cX5_lowestStranded) (maxL := 2) (ret := some .int) (by decide) rfl ?_
  intro p e s m args below meth c s₁ B hml hv
  obtain ⟨rfl, hK, hP, hD, hZ⟩ := hv
  have S : Cx p m c meth cX5_lowestStranded 2 s _ RX5 (some .int) := ⟨⟨B.exec, B.bytes, hml, findClass_of_methodNamed B.named, fun w hw => atoms_spec (ws := ws_ yX5_lowestStranded cX5_lowestStranded 2 (some .int)) B.pre w (List.mem_cons_of_mem _ hw)⟩, B.returns, B.notSynchronized⟩
  have hl := lv_entry ([.ref a0]) (n := 2) (Nat.le_of_ble_eq_true rfl)
  rw [lg_entry_eq]
  generalize (lg_sl ([.ref a0]) ++ List.replicate (2 - (lg_sl ([.ref a0])).length) Slot.unset).toArray = ls at hl ⊢
  exact (wB_X5_lowestStranded_0 S  M a0 h) s.heap [] ls ⟨hK, hP, hD, va_S.rf, hZ⟩ hl
set_option maxRecDepth 100000 in
set_option maxHeartbeats 4000000 in
theorem wB_X5_freesWay_49 (S : Cx p m c meth cX5_freesWay 5 s args RX5 (some .boolean)) {Q : Int32 → MM → Prop}   (M : MM) (a0 : Nat) (v1 : Int32) (v3 : Int32) (t0 : Int32) (h : B_X5_freesWay_49 Z Q  M a0 v1 v3 t0) : WG p l e rm_X5_freesWay s m args below meth c 0 0 (MQi below E Z args s Q) E Z M 49 5 [(0, .ref a0), (1, .int v1), (3, .int v3)] [.int t0] := by
  intro H locs ls hw hl
  have hx := S.1.1
  have hb := S.1.2.1
  refine lv_istore (lv' := [(4, .int t0), (0, .ref a0), (1, .int v1), (3, .int v3)]) hx hb dX5_freesWay_49 hl (by decide) rfl (fun ls hl => ?_)
  refine lv_aload_n hx hb dX5_freesWay_51 rfl (lv_at hl 1 rfl) ?_
  obtain ⟨k_0, h⟩ := h
  obtain ⟨y52_1, hy_1, h⟩ := h
  refine gf_X5_16 S.1 hw k_0 hy_1 dX5_freesWay_52 ?_
  obtain ⟨k_2, h⟩ := h
  obtain ⟨y55_3, hy_3, h⟩ := h
  refine gf_X5_92 S.1 hw k_2 hy_3 dX5_freesWay_55 ?_
  refine lv_iload_n hx hb dX5_freesWay_58 rfl (lv_at hl 2 rfl) ?_
  refine lv_iload_n hx hb dX5_freesWay_59 rfl (lv_at hl 3 rfl) ?_
  obtain ⟨k_4, h⟩ := h
  refine cv_v (As := [.int v1, .int v3]) (rest := []) S.1 hw (k_X2_put l E Z M y55_3 v1 v3 _ h) wv_X5_300 yc_X2_put ⟨rfl, rfl⟩ ⟨Nat.le_of_ble_eq_true rfl, Nat.le_of_ble_eq_true rfl⟩ rfl hl.1 (Nat.le_of_ble_eq_true rfl) (ci := 2) (q := (RX2, TX2, 1)) rfl rfl (by rw [k_4]; decide) (cell_2 k_4) ⟨Nat.le_of_ble_eq_true rfl, Nat.le_of_ble_eq_true rfl⟩ dX5_freesWay_60 (fun M60 H locs h hw => ?_)
  refine lv_iload hx hb dX5_freesWay_63 (lv_at hl 0 rfl) ?_
  obtain ⟨zz, h⟩ := h
  exact we_b S hw zz h dX5_freesWay_65
set_option maxRecDepth 100000 in
set_option maxHeartbeats 4000000 in
theorem wB_X5_freesWay_0 (S : Cx p m c meth cX5_freesWay 5 s args RX5 (some .boolean)) {Q : Int32 → MM → Prop}   (M : MM) (a0 : Nat) (v1 : Int32) (v2 : Int32) (h : B_X5_freesWay_0 Z Q  M a0 v1 v2) : WG p l e rm_X5_freesWay s m args below meth c 0 0 (MQi below E Z args s Q) E Z M 0 5 [(0, .ref a0), (1, .int v1), (2, .int v2)] [] := by
  intro H locs ls hw hl
  have hx := S.1.1
  have hb := S.1.2.1
  refine lv_aload_n hx hb dX5_freesWay_0 rfl (lv_at hl 0 rfl) ?_
  obtain ⟨k_0, h⟩ := h
  obtain ⟨y1_1, hy_1, h⟩ := h
  refine gf_X5_16 S.1 hw k_0 hy_1 dX5_freesWay_1 ?_
  obtain ⟨k_2, h⟩ := h
  obtain ⟨y4_3, hy_3, h⟩ := h
  refine gf_X5_92 S.1 hw k_2 hy_3 dX5_freesWay_4 ?_
  refine lv_iload_n hx hb dX5_freesWay_7 rfl (lv_at hl 1 rfl) ?_
  obtain ⟨k_4, h⟩ := h
  refine cv_i (As := [.int v1]) (rest := []) S.1 hw (k_X2_at l E Z M y4_3 v1 _ h) wv_X5_95 yc_X2_at ⟨rfl, rfl⟩ ⟨Nat.le_of_ble_eq_true rfl, Nat.le_of_ble_eq_true rfl⟩ rfl hl.1 (Nat.le_of_ble_eq_true rfl) (ci := 2) (q := (RX2, TX2, 1)) rfl rfl (by rw [k_4]; decide) (cell_2 k_4) ⟨Nat.le_of_ble_eq_true rfl, Nat.le_of_ble_eq_true rfl⟩ dX5_freesWay_8 (fun r8 M8 H locs h hw => ?_)
  refine lv_istore_n (lv' := [(3, .int r8), (0, .ref a0), (1, .int v1), (2, .int v2)]) hx hb dX5_freesWay_11 rfl hl (by decide) rfl (fun ls hl => ?_)
  refine lv_aload_n hx hb dX5_freesWay_12 rfl (lv_at hl 1 rfl) ?_
  refine gf_X5_16 S.1 hw k_0 hy_1 dX5_freesWay_13 ?_
  refine gf_X5_92 S.1 hw k_2 hy_3 dX5_freesWay_16 ?_
  refine lv_iload_n hx hb dX5_freesWay_19 rfl (lv_at hl 2 rfl) ?_
  refine lv_iconst (v := 0) hx hb dX5_freesWay_20 (by decide) ?_
  refine cv_v (As := [.int v1, .int 0]) (rest := []) S.1 hw (k_X2_put l E Z M8 y4_3 v1 0 _ h) wv_X5_300 yc_X2_put ⟨rfl, rfl⟩ ⟨Nat.le_of_ble_eq_true rfl, Nat.le_of_ble_eq_true rfl⟩ rfl hl.1 (Nat.le_of_ble_eq_true rfl) (ci := 2) (q := (RX2, TX2, 1)) rfl rfl (by rw [k_4]; decide) (cell_2 k_4) ⟨Nat.le_of_ble_eq_true rfl, Nat.le_of_ble_eq_true rfl⟩ dX5_freesWay_21 (fun M21 H locs h hw => ?_)
  refine lv_aload_n hx hb dX5_freesWay_24 rfl (lv_at hl 1 rfl) ?_
  obtain ⟨y25_5, hy_5, h⟩ := h
  refine gf_X5_47 S.1 hw k_0 hy_5 dX5_freesWay_25 ?_
  refine lv_aload_n hx hb dX5_freesWay_28 rfl (lv_at hl 1 rfl) ?_
  refine gf_X5_16 S.1 hw k_0 hy_1 dX5_freesWay_29 ?_
  refine lv_aload_n hx hb dX5_freesWay_32 rfl (lv_at hl 1 rfl) ?_
  obtain ⟨y33_6, hy_6, h⟩ := h
  refine gf_X5_40 S.1 hw k_0 hy_6 dX5_freesWay_33 ?_
  refine lv_iload_n hx hb dX5_freesWay_36 rfl (lv_at hl 3 rfl) ?_
  obtain ⟨k_7, h⟩ := h
  refine cv_i (As := [.ref y1_1, .ref y33_6, .int v2]) (rest := []) S.1 hw (k_X4_search l E Z M21 y25_5 y1_1 y33_6 v2 _ h) wv_X5_138 yc_X4_search ⟨rfl, rfl⟩ ⟨Nat.le_of_ble_eq_true rfl, Nat.le_of_ble_eq_true rfl⟩ rfl hl.1 (Nat.le_of_ble_eq_true rfl) (ci := 4) (q := (RX4, TX4, 5)) rfl rfl (by rw [k_7]; decide) (cell_4 k_7) ⟨Nat.le_of_ble_eq_true rfl, Nat.le_of_ble_eq_true rfl⟩ dX5_freesWay_37 (fun r37 M37 H locs h hw => ?_)
  refine lv_iconst (v := (-1)) hx hb dX5_freesWay_40 (by decide) ?_
  refine lv_icmp_eq (tgt := 48) hx hb dX5_freesWay_41 (by decide) (fun q_41 => ?_) (fun q_41 => ?_)
  · have h := h.1 q_41
    refine lv_iconst (v := 0) hx hb dX5_freesWay_48 (by decide) ?_
    exact ((wB_X5_freesWay_49 S   _ _ _ _ _ h)) H locs ls hw (lv_sub hl [1, 2, 0] rfl)
  · have h := h.2 q_41
    refine lv_iconst (v := 1) hx hb dX5_freesWay_44 (by decide) ?_
    refine lv_goto (tgt := 49) hx hb dX5_freesWay_45 (by decide) ?_
    exact ((wB_X5_freesWay_49 S   _ _ _ _ _ h)) H locs ls hw (lv_sub hl [1, 2, 0] rfl)
set_option maxRecDepth 100000 in
set_option maxHeartbeats 4000000 in
theorem k_X5_freesWay (l : Launch) (E : EE) (Z : ZZ) (M : MM) (a0 : Nat) (v1 : Int32) (v2 : Int32) (Q : Int32 → MM → Prop) (h : P_X5_freesWay Z M a0 v1 v2 Q) : Ct_i l yX5_freesWay cX5_freesWay 5 (some .boolean) rm_X5_freesWay E Z M [.ref a0, .int v1, .int v2] Q := by
  refine Met.ofW (cc := cX5_freesWay) (maxL := 5) (ret := some .boolean) (by decide) rfl ?_
  intro p e s m args below meth c s₁ B hml hv
  obtain ⟨rfl, hK, hP, hD, hZ⟩ := hv
  have S : Cx p m c meth cX5_freesWay 5 s _ RX5 (some .boolean) := ⟨⟨B.exec, B.bytes, hml, findClass_of_methodNamed B.named, fun w hw => atoms_spec (ws := ws_ yX5_freesWay cX5_freesWay 5 (some .boolean)) B.pre w (List.mem_cons_of_mem _ hw)⟩, B.returns, B.notSynchronized⟩
  have hl := lv_entry ([.ref a0, .int v1, .int v2]) (n := 5) (Nat.le_of_ble_eq_true rfl)
  rw [lg_entry_eq]
  generalize (lg_sl ([.ref a0, .int v1, .int v2]) ++ List.replicate (5 - (lg_sl ([.ref a0, .int v1, .int v2])).length) Slot.unset).toArray = ls at hl ⊢
  exact (wB_X5_freesWay_0 S  M a0 v1 v2 h) s.heap [] ls ⟨hK, hP, hD, va_S.rf, hZ⟩ hl
set_option maxRecDepth 100000 in
set_option maxHeartbeats 4000000 in
theorem wB_X5_barredBy_74 (S : Cx p m c meth cX5_barredBy 3 s args RX5 (some .int)) {Q : Int32 → MM → Prop} {K29 : MM → Nat → Int32 → Int32 → Prop} (hK29 : ∀ (M : MM) (a0 : Nat) (v1 : Int32) (v2 : Int32), K29 M a0 v1 v2 → WG p l e rm_X5_barredBy s m args below meth c 0 0 (MQi below E Z args s Q) E Z M 29 3 [(0, .ref a0), (1, .int v1), (2, .int v2)] []) (M : MM) (a0 : Nat) (v1 : Int32) (v2 : Int32) (h : B_X5_barredBy_74 Z Q K29 M a0 v1 v2) : WG p l e rm_X5_barredBy s m args below meth c 0 0 (MQi below E Z args s Q) E Z M 74 3 [(0, .ref a0), (1, .int v1), (2, .int v2)] [] := by
  intro H locs ls hw hl
  have hx := S.1.1
  have hb := S.1.2.1
  refine lv_iinc (v := (v2 + 1)) (lv' := [(2, .int (v2 + 1)), (0, .ref a0), (1, .int v1)]) hx hb dX5_barredBy_74 hl (k := 2) rfl rfl (by decide) rfl (fun ls hl => ?_)
  refine lv_goto (tgt := 29) hx hb dX5_barredBy_77 (by decide) ?_
  exact (hK29 _ _ _ _ h) H locs ls hw (lv_sub hl [1, 2, 0] rfl)
set_option maxRecDepth 100000 in
set_option maxHeartbeats 4000000 in
theorem wB_X5_barredBy_29 (S : Cx p m c meth cX5_barredBy 3 s args RX5 (some .int)) {Q : Int32 → MM → Prop} {K29 : MM → Nat → Int32 → Int32 → Prop} (hK29 : ∀ (M : MM) (a0 : Nat) (v1 : Int32) (v2 : Int32), K29 M a0 v1 v2 → WG p l e rm_X5_barredBy s m args below meth c 0 0 (MQi below E Z args s Q) E Z M 29 3 [(0, .ref a0), (1, .int v1), (2, .int v2)] []) (M : MM) (a0 : Nat) (v1 : Int32) (v2 : Int32) (h : B_X5_barredBy_29 Z Q K29 M a0 v1 v2) : WG p l e rm_X5_barredBy s m args below meth c 0 0 (MQi below E Z args s Q) E Z M 29 3 [(0, .ref a0), (1, .int v1), (2, .int v2)] [] := by
  intro H locs ls hw hl
  have hx := S.1.1
  have hb := S.1.2.1
  refine lv_iload_n hx hb dX5_barredBy_29 rfl (lv_at hl 2 rfl) ?_
  refine lv_aload_n hx hb dX5_barredBy_30 rfl (lv_at hl 0 rfl) ?_
  obtain ⟨k_0, h⟩ := h
  obtain ⟨y31_1, hy_1, h⟩ := h
  refine gf_X5_10 S.1 hw k_0 hy_1 dX5_barredBy_31 ?_
  obtain ⟨k_2, h⟩ := h
  refine cv_i (As := []) (rest := [.int v2]) S.1 hw (k_X1_cellCount l E Z M y31_1  _ h) wv_X5_212 yc_X1_cellCount ⟨rfl, rfl⟩ ⟨Nat.le_of_ble_eq_true rfl, Nat.le_of_ble_eq_true rfl⟩ rfl hl.1 (Nat.le_of_ble_eq_true rfl) (ci := 1) (q := (RX1, TX1, 12)) rfl rfl (by rw [k_2]; decide) (cell_1 k_2) ⟨Nat.le_of_ble_eq_true rfl, Nat.le_of_ble_eq_true rfl⟩ dX5_barredBy_34 (fun r34 M34 H locs h hw => ?_)
  refine lv_icmp_ge (tgt := 80) hx hb dX5_barredBy_37 (by decide) (fun q_37 => ?_) (fun q_37 => ?_)
  · have h := h.1 q_37
    refine lv_iconst (v := (-1)) hx hb dX5_barredBy_80 (by decide) ?_
    exact we_i S hw h dX5_barredBy_81
  · have h := h.2 q_37
    refine lv_aload_n hx hb dX5_barredBy_40 rfl (lv_at hl 0 rfl) ?_
    refine gf_X5_10 S.1 hw k_0 hy_1 dX5_barredBy_41 ?_
    refine lv_iload_n hx hb dX5_barredBy_44 rfl (lv_at hl 2 rfl) ?_
    refine cv_i (As := [.int v2]) (rest := []) S.1 hw (k_X1_isIce l E Z M34 y31_1 v2 _ h) wv_X5_215 yc_X1_isIce ⟨rfl, rfl⟩ ⟨Nat.le_of_ble_eq_true rfl, Nat.le_of_ble_eq_true rfl⟩ rfl hl.1 (Nat.le_of_ble_eq_true rfl) (ci := 1) (q := (RX1, TX1, 12)) rfl rfl (by rw [k_2]; decide) (cell_1 k_2) ⟨Nat.le_of_ble_eq_true rfl, Nat.le_of_ble_eq_true rfl⟩ dX5_barredBy_45 (fun r45 M45 H locs h hw => ?_)
    refine lv_if_eq (tgt := 74) hx hb dX5_barredBy_48 (by decide) (fun q_48 => ?_) (fun q_48 => ?_)
    · have h := h.1 q_48
      exact ((wB_X5_barredBy_74 S  hK29 _ _ _ _ h)) H locs ls hw (lv_sub hl [0, 1, 2] rfl)
    · have h := h.2 q_48
      refine lv_aload_n hx hb dX5_barredBy_51 rfl (lv_at hl 0 rfl) ?_
      obtain ⟨y52_3, hy_3, h⟩ := h
      refine gf_X5_40 S.1 hw k_0 hy_3 dX5_barredBy_52 ?_
      refine lv_iload_n hx hb dX5_barredBy_55 rfl (lv_at hl 2 rfl) ?_
      obtain ⟨k_4, h⟩ := h
      refine cv_i (As := [.int v2]) (rest := []) S.1 hw (k_X0_numberAt l E Z M45 y52_3 v2 _ h) wv_X5_131 yc_X0_numberAt ⟨rfl, rfl⟩ ⟨Nat.le_of_ble_eq_true rfl, Nat.le_of_ble_eq_true rfl⟩ rfl hl.1 (Nat.le_of_ble_eq_true rfl) (ci := 0) (q := (RX0, TX0, 3)) rfl rfl (by rw [k_4]; decide) (cell_0 k_4) ⟨Nat.le_of_ble_eq_true rfl, Nat.le_of_ble_eq_true rfl⟩ dX5_barredBy_56 (fun r56 M56 H locs h hw => ?_)
      refine lv_iload_n hx hb dX5_barredBy_59 rfl (lv_at hl 1 rfl) ?_
      refine lv_icmp_eq (tgt := 74) hx hb dX5_barredBy_60 (by decide) (fun q_60 => ?_) (fun q_60 => ?_)
      · have h := h.1 q_60
        exact ((wB_X5_barredBy_74 S  hK29 _ _ _ _ h)) H locs ls hw (lv_sub hl [0, 1, 2] rfl)
      · have h := h.2 q_60
        refine lv_aload_n hx hb dX5_barredBy_63 rfl (lv_at hl 0 rfl) ?_
        refine lv_iload_n hx hb dX5_barredBy_64 rfl (lv_at hl 2 rfl) ?_
        refine lv_iload_n hx hb dX5_barredBy_65 rfl (lv_at hl 1 rfl) ?_
        refine cv_i (As := [.int v2, .int v1]) (rest := []) S.1 hw (k_X5_freesWay l E Z M56 a0 v2 v1 _ h) wv_X5_218 yc_X5_freesWay ⟨rfl, rfl⟩ ⟨Nat.le_of_ble_eq_true rfl, Nat.le_of_ble_eq_true rfl⟩ rfl hl.1 (Nat.le_of_ble_eq_true rfl) (ci := 5) (q := (RX5, TX5, 9)) rfl rfl (by rw [k_0]; decide) (cell_5 k_0) ⟨Nat.le_of_ble_eq_true rfl, Nat.le_of_ble_eq_true rfl⟩ dX5_barredBy_66 (fun r66 M66 H locs h hw => ?_)
        refine lv_if_eq (tgt := 74) hx hb dX5_barredBy_69 (by decide) (fun q_69 => ?_) (fun q_69 => ?_)
        · have h := h.1 q_69
          exact ((wB_X5_barredBy_74 S  hK29 _ _ _ _ h)) H locs ls hw (lv_sub hl [0, 1, 2] rfl)
        · have h := h.2 q_69
          refine lv_iload_n hx hb dX5_barredBy_72 rfl (lv_at hl 2 rfl) ?_
          exact we_i S hw h dX5_barredBy_73
theorem wL_X5_barredBy_29 (S : Cx p m c meth cX5_barredBy 3 s args RX5 (some .int)) {Q : Int32 → MM → Prop}   : ∀ (n : Nat) (M : MM) (a0 : Nat) (v1 : Int32) (v2 : Int32), L_X5_barredBy_29 Z Q   n M a0 v1 v2 → WG p l e rm_X5_barredBy s m args below meth c 0 0 (MQi below E Z args s Q) E Z M 29 3 [(0, .ref a0), (1, .int v1), (2, .int v2)] []
  | 0, _, _, _, _, h => False.elim h
  | n + 1, M, a0, v1, v2, h => wB_X5_barredBy_29 S  (wL_X5_barredBy_29 S   n) M a0 v1 v2 h
set_option maxRecDepth 100000 in
set_option maxHeartbeats 4000000 in
theorem wB_X5_barredBy_0 (S : Cx p m c meth cX5_barredBy 3 s args RX5 (some .int)) {Q : Int32 → MM → Prop}   (M : MM) (a0 : Nat) (h : B_X5_barredBy_0 Z Q  M a0) : WG p l e rm_X5_barredBy s m args below meth c 0 0 (MQi below E Z args s Q) E Z M 0 3 [(0, .ref a0)] [] := by
  intro H locs ls hw hl
  have hx := S.1.1
  have hb := S.1.2.1
  refine lv_aload_n hx hb dX5_barredBy_0 rfl (lv_at hl 0 rfl) ?_
  obtain ⟨k_0, h⟩ := h
  refine cv_v (As := []) (rest := []) S.1 hw (k_X5_findBlocksAndWays l E Z M a0  _ h) wv_X5_181 yc_X5_findBlocksAndWays ⟨rfl, rfl⟩ ⟨Nat.le_of_ble_eq_true rfl, Nat.le_of_ble_eq_true rfl⟩ rfl hl.1 (Nat.le_of_ble_eq_true rfl) (ci := 5) (q := (RX5, TX5, 9)) rfl rfl (by rw [k_0]; decide) (cell_5 k_0) ⟨Nat.le_of_ble_eq_true rfl, Nat.le_of_ble_eq_true rfl⟩ dX5_barredBy_1 (fun M1 H locs h hw => ?_)
  refine lv_aload_n hx hb dX5_barredBy_4 rfl (lv_at hl 0 rfl) ?_
  refine cv_i (As := []) (rest := []) S.1 hw (k_X5_lowestStranded l E Z M1 a0  _ h) wv_X5_209 yc_X5_lowestStranded ⟨rfl, rfl⟩ ⟨Nat.le_of_ble_eq_true rfl, Nat.le_of_ble_eq_true rfl⟩ rfl hl.1 (Nat.le_of_ble_eq_true rfl) (ci := 5) (q := (RX5, TX5, 9)) rfl rfl (by rw [k_0]; decide) (cell_5 k_0) ⟨Nat.le_of_ble_eq_true rfl, Nat.le_of_ble_eq_true rfl⟩ dX5_barredBy_5 (fun r5 M5 H locs h hw => ?_)
  refine lv_istore_n (lv' := [(1, .int r5), (0, .ref a0)]) hx hb dX5_barredBy_8 rfl hl (by decide) rfl (fun ls hl => ?_)
  refine lv_iload_n hx hb dX5_barredBy_9 rfl (lv_at hl 0 rfl) ?_
  refine lv_iconst (v := (-1)) hx hb dX5_barredBy_10 (by decide) ?_
  refine lv_icmp_ne (tgt := 16) hx hb dX5_barredBy_11 (by decide) (fun q_11 => ?_) (fun q_11 => ?_)
  · have h := h.1 q_11
    refine lv_aload_n hx hb dX5_barredBy_16 rfl (lv_at hl 1 rfl) ?_
    obtain ⟨y17_1, hy_1, h⟩ := h
    refine gf_X5_16 S.1 hw k_0 hy_1 dX5_barredBy_17 ?_
    refine lv_aload_n hx hb dX5_barredBy_20 rfl (lv_at hl 1 rfl) ?_
    obtain ⟨y21_2, hy_2, h⟩ := h
    refine gf_X5_10 S.1 hw k_0 hy_2 dX5_barredBy_21 ?_
    obtain ⟨k_3, h⟩ := h
    refine cv_v (As := [.ref y21_2]) (rest := []) S.1 hw (k_X1_copyFrom l E Z M5 y17_1 y21_2 _ h) wv_X5_196 yc_X1_copyFrom ⟨rfl, rfl⟩ ⟨Nat.le_of_ble_eq_true rfl, Nat.le_of_ble_eq_true rfl⟩ rfl hl.1 (Nat.le_of_ble_eq_true rfl) (ci := 1) (q := (RX1, TX1, 12)) rfl rfl (by rw [k_3]; decide) (cell_1 k_3) ⟨Nat.le_of_ble_eq_true rfl, Nat.le_of_ble_eq_true rfl⟩ dX5_barredBy_24 (fun M24 H locs h hw => ?_)
    refine lv_iconst (v := 0) hx hb dX5_barredBy_27 (by decide) ?_
    refine lv_istore_n (lv' := [(2, .int 0), (1, .int r5), (0, .ref a0)]) hx hb dX5_barredBy_28 rfl hl (by decide) rfl (fun ls hl => ?_)
    exact ((Exists.elim h (fun n h => wL_X5_barredBy_29 S   n _ _ _ _ h))) H locs ls hw (lv_sub hl [2, 1, 0] rfl)
  · have h := h.2 q_11
    refine lv_iconst (v := (-1)) hx hb dX5_barredBy_14 (by decide) ?_
    exact we_i S hw h dX5_barredBy_15
set_option maxRecDepth 100000 in
set_option maxHeartbeats 4000000 in
theorem k_X5_barredBy (l : Launch) (E : EE) (Z : ZZ) (M : MM) (a0 : Nat) (Q : Int32 → MM → Prop) (h : P_X5_barredBy Z M a0 Q) : Ct_i l yX5_barredBy cX5_barredBy 3 (some .int) rm_X5_barredBy E Z M [.ref a0] Q := by
  refine Met.ofW (cc := cX5_barredBy) (maxL := 3) (ret := some .int) (by decide) rfl ?_
  intro p e s m args below meth c s₁ B hml hv
  obtain ⟨rfl, hK, hP, hD, hZ⟩ := hv
  have S : Cx p m c meth cX5_barredBy 3 s _ RX5 (some .int) := ⟨⟨B.exec, B.bytes, hml, findClass_of_methodNamed B.named, fun w hw => atoms_spec (ws := ws_ yX5_barredBy cX5_barredBy 3 (some .int)) B.pre w (List.mem_cons_of_mem _ hw)⟩, B.returns, B.notSynchronized⟩
  have hl := lv_entry ([.ref a0]) (n := 3) (Nat.le_of_ble_eq_true rfl)
  rw [lg_entry_eq]
  generalize (lg_sl ([.ref a0]) ++ List.replicate (3 - (lg_sl ([.ref a0])).length) Slot.unset).toArray = ls at hl ⊢
  exact (wB_X5_barredBy_0 S  M a0 h) s.heap [] ls ⟨hK, hP, hD, va_S.rf, hZ⟩ hl
set_option maxRecDepth 100000 in
set_option maxHeartbeats 4000000 in
theorem wB_X5_append_0 (S : Cx p m c meth cX5_append 2 s args RX5 (some .int)) (T : Tx l c Z s) {Q : Int32 → MM → Prop} {X : String → MM → Prop}   (M : MM) (a0 : Nat) (v1 : Int32) (h : B_X5_append_0 Z Q X  M a0 v1) : WG p l e rm_X5_append s m args below meth c 0 0 (MQxi below E Z args s Q X 1 6) E Z M 0 2 [(0, .ref a0), (1, .int v1)] [] := by
  intro H locs ls hw hl
  have hx := S.1.1
  have hb := S.1.2.1
  refine lv_iload_n hx hb dX5_append_0 rfl (lv_at hl 1 rfl) ?_
  refine lv_iconst (v := 0) hx hb dX5_append_1 (by decide) ?_
  refine lv_bipush (v := 127) hx hb dX5_append_2 (by decide) ?_
  refine cs_i (As := [.int v1, .int 0, .int 127]) (rest := []) S.1 hw (k_X5_isOutside l E Z M v1 0 127 _ h) wv_X5_70 yc_X5_isOutside ⟨rfl, rfl⟩ ⟨Nat.le_of_ble_eq_true rfl, Nat.le_of_ble_eq_true rfl⟩ rfl hl.1 (Nat.le_of_ble_eq_true rfl) ⟨Nat.le_of_ble_eq_true rfl, Nat.le_of_ble_eq_true rfl⟩ dX5_append_4 (fun r4 M4 H locs h hw => ?_)
  refine lv_if_eq (tgt := 20) hx hb dX5_append_7 (by decide) (fun q_7 => ?_) (fun q_7 => ?_)
  · have h := h.1 q_7
    refine lv_aload_n hx hb dX5_append_20 rfl (lv_at hl 0 rfl) ?_
    obtain ⟨k_0, h⟩ := h
    obtain ⟨y21_1, hy_1, h⟩ := h
    refine gf_X5_33 S.1 hw k_0 hy_1 dX5_append_21 ?_
    obtain ⟨k_2, h⟩ := h
    refine gf_X5_226 S.1 hw k_2 dX5_append_24 ?_
    refine lv_bipush (v := 60) hx hb dX5_append_27 (by decide) ?_
    refine lv_icmp_lt (tgt := 42) hx hb dX5_append_29 (by decide) (fun q_29 => ?_) (fun q_29 => ?_)
    · have h := h.1 q_29
      refine lv_aload_n hx hb dX5_append_42 rfl (lv_at hl 0 rfl) ?_
      refine gf_X5_33 S.1 hw k_0 hy_1 dX5_append_43 ?_
      refine lv_iload_n hx hb dX5_append_46 rfl (lv_at hl 1 rfl) ?_
      refine cv_v (As := [.int v1]) (rest := []) S.1 hw (k_X3_add l E Z M4 y21_1 v1 _ h) wv_X5_231 yc_X3_add ⟨rfl, rfl⟩ ⟨Nat.le_of_ble_eq_true rfl, Nat.le_of_ble_eq_true rfl⟩ rfl hl.1 (Nat.le_of_ble_eq_true rfl) (ci := 3) (q := (RX3, TX3, 4)) rfl rfl (by rw [k_2]; decide) (cell_3 k_2) ⟨Nat.le_of_ble_eq_true rfl, Nat.le_of_ble_eq_true rfl⟩ dX5_append_47 (fun M47 H locs h hw => ?_)
      refine lv_aload_n hx hb dX5_append_50 rfl (lv_at hl 0 rfl) ?_
      refine gf_X5_33 S.1 hw k_0 hy_1 dX5_append_51 ?_
      refine gf_X5_226 S.1 hw k_2 dX5_append_54 ?_
      refine wx_end (Nat.le_of_ble_eq_true rfl) (Nat.le_of_ble_eq_true rfl) ?_
      exact we_i S hw h dX5_append_57
    · have h := h.2 q_29
      exact wx_thS (text := "the text is full") S T hw (by decide +kernel) wk_X5_99 wn_IllegalStateException (by decide +kernel) wat_X5_103 h hl.1 dX5_append_32 dX5_append_35 dX5_append_36 dX5_append_38 dX5_append_41 (Nat.le_of_ble_eq_true rfl) (Nat.le_of_ble_eq_true rfl) (Nat.le_of_ble_eq_true rfl) (Nat.le_of_ble_eq_true rfl) (Nat.le_of_ble_eq_true rfl) (Nat.le_of_ble_eq_true rfl)
  · have h := h.2 q_7
    exact wx_thS (text := "value is out of range") S T hw (by decide +kernel) wk_X5_74 wn_IllegalArgumentException (by decide +kernel) wat_X5_78 h hl.1 dX5_append_10 dX5_append_13 dX5_append_14 dX5_append_16 dX5_append_19 (Nat.le_of_ble_eq_true rfl) (Nat.le_of_ble_eq_true rfl) (Nat.le_of_ble_eq_true rfl) (Nat.le_of_ble_eq_true rfl) (Nat.le_of_ble_eq_true rfl) (Nat.le_of_ble_eq_true rfl)
set_option maxRecDepth 100000 in
set_option maxHeartbeats 4000000 in
theorem k_X5_append (l : Launch) (hl0 : l.stackTraces = false) (E : EE) (Z : ZZ) (M : MM) (a0 : Nat) (v1 : Int32) (Q : Int32 → MM → Prop) (X : String → MM → Prop) (h : P_X5_append Z M a0 v1 Q X) : Cxi l yX5_append cX5_append 2 (some .int) rm_X5_append E Z M [.ref a0, .int v1] Q X 1 6 := by
  refine vx_ofW (cc := cX5_append) (maxL := 2) (ret := some .int) (by decide) rfl ?_
  intro p e s m args below meth c s₁ B hml ht hv
  obtain ⟨rfl, ⟨hK, hP, hD, hZ⟩, hsx⟩ := hv
  have S : Cx p m c meth cX5_append 2 s _ RX5 (some .int) := ⟨⟨B.exec, B.bytes, hml, findClass_of_methodNamed B.named, fun w hw => atoms_spec (ws := ws_ yX5_append cX5_append 2 (some .int)) B.pre w (List.mem_cons_of_mem _ hw)⟩, B.returns, B.notSynchronized⟩
  have T : Tx l c Z s := ⟨hl0, ht, hsx⟩
  have hl := lv_entry ([.ref a0, .int v1]) (n := 2) (Nat.le_of_ble_eq_true rfl)
  rw [lg_entry_eq]
  generalize (lg_sl ([.ref a0, .int v1]) ++ List.replicate (2 - (lg_sl ([.ref a0, .int v1])).length) Slot.unset).toArray = ls at hl ⊢
  exact (wB_X5_append_0 S T M a0 v1 h) s.heap [] ls ⟨hK, hP, hD, va_S.rf, hZ⟩ hl
set_option maxRecDepth 100000 in
set_option maxHeartbeats 4000000 in
theorem wB_X5_clearText_0 (S : Cx p m c meth cX5_clearText 2 s args RX5 (some .int)) {Q : Int32 → MM → Prop}   (M : MM) (a0 : Nat) (h : B_X5_clearText_0 Z Q  M a0) : WG p l e rm_X5_clearText s m args below meth c 0 0 (MQi below E Z args s Q) E Z M 0 2 [(0, .ref a0)] [] := by
  intro H locs ls hw hl
  have hx := S.1.1
  have hb := S.1.2.1
  refine lv_aload_n hx hb dX5_clearText_0 rfl (lv_at hl 0 rfl) ?_
  obtain ⟨k_0, h⟩ := h
  obtain ⟨y1_1, hy_1, h⟩ := h
  refine gf_X5_33 S.1 hw k_0 hy_1 dX5_clearText_1 ?_
  obtain ⟨k_2, h⟩ := h
  refine gf_X5_226 S.1 hw k_2 dX5_clearText_4 ?_
  refine lv_istore_n (lv' := [(1, .int (mI M 8 y1_1)), (0, .ref a0)]) hx hb dX5_clearText_7 rfl hl (by decide) rfl (fun ls hl => ?_)
  refine lv_aload_n hx hb dX5_clearText_8 rfl (lv_at hl 1 rfl) ?_
  refine gf_X5_33 S.1 hw k_0 hy_1 dX5_clearText_9 ?_
  refine lv_iconst (v := 0) hx hb dX5_clearText_12 (by decide) ?_
  refine pf_X5_226 S.1 hw k_2 dX5_clearText_13 (fun H locs hw => ?_)
  refine lv_iload_n hx hb dX5_clearText_16 rfl (lv_at hl 0 rfl) ?_
  exact we_i S hw h dX5_clearText_17
set_option maxRecDepth 100000 in
set_option maxHeartbeats 4000000 in
theorem k_X5_clearText (l : Launch) (E : EE) (Z : ZZ) (M : MM) (a0 : Nat) (Q : Int32 → MM → Prop) (h : P_X5_clearText Z M a0 Q) : Ct_i l yX5_clearText cX5_clearText 2 (some .int) rm_X5_clearText E Z M [.ref a0] Q := by
  refine Met.ofW (cc := cX5_clearText) (maxL := 2) (ret := some .int) (by decide) rfl ?_
  intro p e s m args below meth c s₁ B hml hv
  obtain ⟨rfl, hK, hP, hD, hZ⟩ := hv
  have S : Cx p m c meth cX5_clearText 2 s _ RX5 (some .int) := ⟨⟨B.exec, B.bytes, hml, findClass_of_methodNamed B.named, fun w hw => atoms_spec (ws := ws_ yX5_clearText cX5_clearText 2 (some .int)) B.pre w (List.mem_cons_of_mem _ hw)⟩, B.returns, B.notSynchronized⟩
  have hl := lv_entry ([.ref a0]) (n := 2) (Nat.le_of_ble_eq_true rfl)
  rw [lg_entry_eq]
  generalize (lg_sl ([.ref a0]) ++ List.replicate (2 - (lg_sl ([.ref a0])).length) Slot.unset).toArray = ls at hl ⊢
  exact (wB_X5_clearText_0 S  M a0 h) s.heap [] ls ⟨hK, hP, hD, va_S.rf, hZ⟩ hl
set_option maxRecDepth 100000 in
set_option maxHeartbeats 4000000 in
theorem wB_X5_parse_45 (S : Cx p m c meth cX5_parse 3 s args RX5 (some .int)) {Q : Int32 → MM → Prop} {K45 : MM → Nat → Int32 → Prop} (hK45 : ∀ (M : MM) (a0 : Nat) (v2 : Int32), K45 M a0 v2 → WG p l e rm_X5_parse s m args below meth c 0 0 (MQi below E Z args s Q) E Z M 45 3 [(0, .ref a0), (2, .int v2)] []) (M : MM) (a0 : Nat) (v2 : Int32) (h : B_X5_parse_45 Z Q K45 M a0 v2) : WG p l e rm_X5_parse s m args below meth c 0 0 (MQi below E Z args s Q) E Z M 45 3 [(0, .ref a0), (2, .int v2)] [] := by
  intro H locs ls hw hl
  have hx := S.1.1
  have hb := S.1.2.1
  refine lv_iload_n hx hb dX5_parse_45 rfl (lv_at hl 1 rfl) ?_
  refine lv_aload_n hx hb dX5_parse_46 rfl (lv_at hl 0 rfl) ?_
  obtain ⟨k_0, h⟩ := h
  obtain ⟨y47_1, hy_1, h⟩ := h
  refine gf_X5_10 S.1 hw k_0 hy_1 dX5_parse_47 ?_
  obtain ⟨k_2, h⟩ := h
  refine cv_i (As := []) (rest := [.int v2]) S.1 hw (k_X1_cellCount l E Z M y47_1  _ h) wv_X5_212 yc_X1_cellCount ⟨rfl, rfl⟩ ⟨Nat.le_of_ble_eq_true rfl, Nat.le_of_ble_eq_true rfl⟩ rfl hl.1 (Nat.le_of_ble_eq_true rfl) (ci := 1) (q := (RX1, TX1, 12)) rfl rfl (by rw [k_2]; decide) (cell_1 k_2) ⟨Nat.le_of_ble_eq_true rfl, Nat.le_of_ble_eq_true rfl⟩ dX5_parse_50 (fun r50 M50 H locs h hw => ?_)
  refine lv_icmp_ge (tgt := 93) hx hb dX5_parse_53 (by decide) (fun q_53 => ?_) (fun q_53 => ?_)
  · have h := h.1 q_53
    refine lv_aload_n hx hb dX5_parse_93 rfl (lv_at hl 0 rfl) ?_
    refine gf_X5_10 S.1 hw k_0 hy_1 dX5_parse_94 ?_
    refine gf_X5_84 S.1 hw k_2 dX5_parse_97 ?_
    exact we_i S hw h dX5_parse_100
  · have h := h.2 q_53
    refine lv_aload_n hx hb dX5_parse_56 rfl (lv_at hl 0 rfl) ?_
    refine gf_X5_10 S.1 hw k_0 hy_1 dX5_parse_57 ?_
    refine lv_iload_n hx hb dX5_parse_60 rfl (lv_at hl 1 rfl) ?_
    refine lv_aload_n hx hb dX5_parse_61 rfl (lv_at hl 0 rfl) ?_
    obtain ⟨y62_3, hy_3, h⟩ := h
    refine gf_X5_33 S.1 hw k_0 hy_3 dX5_parse_62 ?_
    refine lv_aload_n hx hb dX5_parse_65 rfl (lv_at hl 0 rfl) ?_
    refine gf_X5_10 S.1 hw k_0 hy_1 dX5_parse_66 ?_
    refine lv_iload_n hx hb dX5_parse_69 rfl (lv_at hl 1 rfl) ?_
    refine cv_i (As := [.int v2]) (rest := [.ref y62_3, .int v2, .ref y47_1]) S.1 hw (k_X1_rowOf l E Z M50 y47_1 v2 _ h) wv_X5_242 yc_X1_rowOf ⟨rfl, rfl⟩ ⟨Nat.le_of_ble_eq_true rfl, Nat.le_of_ble_eq_true rfl⟩ rfl hl.1 (Nat.le_of_ble_eq_true rfl) (ci := 1) (q := (RX1, TX1, 12)) rfl rfl (by rw [k_2]; decide) (cell_1 k_2) ⟨Nat.le_of_ble_eq_true rfl, Nat.le_of_ble_eq_true rfl⟩ dX5_parse_70 (fun r70 M70 H locs h hw => ?_)
    refine lv_aload_n hx hb dX5_parse_73 rfl (lv_at hl 0 rfl) ?_
    refine gf_X5_10 S.1 hw k_0 hy_1 dX5_parse_74 ?_
    refine lv_iload_n hx hb dX5_parse_77 rfl (lv_at hl 1 rfl) ?_
    refine cv_i (As := [.int v2]) (rest := [.int r70, .ref y62_3, .int v2, .ref y47_1]) S.1 hw (k_X1_columnOf l E Z M70 y47_1 v2 _ h) wv_X5_245 yc_X1_columnOf ⟨rfl, rfl⟩ ⟨Nat.le_of_ble_eq_true rfl, Nat.le_of_ble_eq_true rfl⟩ rfl hl.1 (Nat.le_of_ble_eq_true rfl) (ci := 1) (q := (RX1, TX1, 12)) rfl rfl (by rw [k_2]; decide) (cell_1 k_2) ⟨Nat.le_of_ble_eq_true rfl, Nat.le_of_ble_eq_true rfl⟩ dX5_parse_78 (fun r78 M78 H locs h hw => ?_)
    obtain ⟨k_4, h⟩ := h
    refine cv_i (As := [.int r70, .int r78]) (rest := [.int v2, .ref y47_1]) S.1 hw (k_X3_digitAt l E Z M78 y62_3 r70 r78 _ h) wv_X5_248 yc_X3_digitAt ⟨rfl, rfl⟩ ⟨Nat.le_of_ble_eq_true rfl, Nat.le_of_ble_eq_true rfl⟩ rfl hl.1 (Nat.le_of_ble_eq_true rfl) (ci := 3) (q := (RX3, TX3, 4)) rfl rfl (by rw [k_4]; decide) (cell_3 k_4) ⟨Nat.le_of_ble_eq_true rfl, Nat.le_of_ble_eq_true rfl⟩ dX5_parse_81 (fun r81 M81 H locs h hw => ?_)
    refine cv_v (As := [.int v2, .int r81]) (rest := []) S.1 hw (k_X1_add l E Z M81 y47_1 v2 r81 _ h) wv_X5_104 yc_X1_add ⟨rfl, rfl⟩ ⟨Nat.le_of_ble_eq_true rfl, Nat.le_of_ble_eq_true rfl⟩ rfl hl.1 (Nat.le_of_ble_eq_true rfl) (ci := 1) (q := (RX1, TX1, 12)) rfl rfl (by rw [k_2]; decide) (cell_1 k_2) ⟨Nat.le_of_ble_eq_true rfl, Nat.le_of_ble_eq_true rfl⟩ dX5_parse_84 (fun M84 H locs h hw => ?_)
    refine lv_iinc (v := (v2 + 1)) (lv' := [(2, .int (v2 + 1)), (0, .ref a0)]) hx hb dX5_parse_87 hl (k := 1) rfl rfl (by decide) rfl (fun ls hl => ?_)
    refine lv_goto (tgt := 45) hx hb dX5_parse_90 (by decide) ?_
    exact (hK45 _ _ _ h) H locs ls hw (lv_sub hl [1, 0] rfl)
theorem wL_X5_parse_45 (S : Cx p m c meth cX5_parse 3 s args RX5 (some .int)) {Q : Int32 → MM → Prop}   : ∀ (n : Nat) (M : MM) (a0 : Nat) (v2 : Int32), L_X5_parse_45 Z Q   n M a0 v2 → WG p l e rm_X5_parse s m args below meth c 0 0 (MQi below E Z args s Q) E Z M 45 3 [(0, .ref a0), (2, .int v2)] []
  | 0, _, _, _, h => False.elim h
  | n + 1, M, a0, v2, h => wB_X5_parse_45 S  (wL_X5_parse_45 S   n) M a0 v2 h
set_option maxRecDepth 100000 in
set_option maxHeartbeats 4000000 in
theorem wB_X5_parse_0 (S : Cx p m c meth cX5_parse 3 s args RX5 (some .int)) {Q : Int32 → MM → Prop}   (M : MM) (a0 : Nat) (h : B_X5_parse_0 Z Q  M a0) : WG p l e rm_X5_parse s m args below meth c 0 0 (MQi below E Z args s Q) E Z M 0 3 [(0, .ref a0)] [] := by
  intro H locs ls hw hl
  have hx := S.1.1
  have hb := S.1.2.1
  refine lv_aload_n hx hb dX5_parse_0 rfl (lv_at hl 0 rfl) ?_
  obtain ⟨k_0, h⟩ := h
  obtain ⟨y1_1, hy_1, h⟩ := h
  refine gf_X5_33 S.1 hw k_0 hy_1 dX5_parse_1 ?_
  obtain ⟨k_2, h⟩ := h
  refine cv_i (As := []) (rest := []) S.1 hw (k_X3_read l E Z M y1_1  _ h) wv_X5_233 yc_X3_read ⟨rfl, rfl⟩ ⟨Nat.le_of_ble_eq_true rfl, Nat.le_of_ble_eq_true rfl⟩ rfl hl.1 (Nat.le_of_ble_eq_true rfl) (ci := 3) (q := (RX3, TX3, 4)) rfl rfl (by rw [k_2]; decide) (cell_3 k_2) ⟨Nat.le_of_ble_eq_true rfl, Nat.le_of_ble_eq_true rfl⟩ dX5_parse_4 (fun r4 M4 H locs h hw => ?_)
  refine lv_istore_n (lv' := [(1, .int r4), (0, .ref a0)]) hx hb dX5_parse_7 rfl hl (by decide) rfl (fun ls hl => ?_)
  refine lv_iload_n hx hb dX5_parse_8 rfl (lv_at hl 0 rfl) ?_
  refine lv_iconst (v := (-1)) hx hb dX5_parse_9 (by decide) ?_
  refine lv_icmp_eq (tgt := 18) hx hb dX5_parse_10 (by decide) (fun q_10 => ?_) (fun q_10 => ?_)
  · have h := h.1 q_10
    refine lv_aload_n hx hb dX5_parse_18 rfl (lv_at hl 1 rfl) ?_
    refine cv_v (As := []) (rest := []) S.1 hw (k_X5_saveState l E Z M4 a0  _ h) wv_X5_81 yc_X5_saveState ⟨rfl, rfl⟩ ⟨Nat.le_of_ble_eq_true rfl, Nat.le_of_ble_eq_true rfl⟩ rfl hl.1 (Nat.le_of_ble_eq_true rfl) (ci := 5) (q := (RX5, TX5, 9)) rfl rfl (by rw [k_0]; decide) (cell_5 k_0) ⟨Nat.le_of_ble_eq_true rfl, Nat.le_of_ble_eq_true rfl⟩ dX5_parse_19 (fun M19 H locs h hw => ?_)
    refine lv_aload_n hx hb dX5_parse_22 rfl (lv_at hl 1 rfl) ?_
    obtain ⟨y23_3, hy_3, h⟩ := h
    refine gf_X5_10 S.1 hw k_0 hy_3 dX5_parse_23 ?_
    refine lv_aload_n hx hb dX5_parse_26 rfl (lv_at hl 1 rfl) ?_
    refine gf_X5_33 S.1 hw k_0 hy_1 dX5_parse_27 ?_
    refine gf_X5_236 S.1 hw k_2 dX5_parse_30 ?_
    refine lv_aload_n hx hb dX5_parse_33 rfl (lv_at hl 1 rfl) ?_
    refine gf_X5_33 S.1 hw k_0 hy_1 dX5_parse_34 ?_
    refine gf_X5_239 S.1 hw k_2 dX5_parse_37 ?_
    obtain ⟨k_4, h⟩ := h
    refine cv_v (As := [.int (mI M19 9 y1_1), .int (mI M19 10 y1_1)]) (rest := []) S.1 hw (k_X1_beginAnew l E Z M19 y23_3 (mI M19 9 y1_1) (mI M19 10 y1_1) _ h) wv_X5_63 yc_X1_beginAnew ⟨rfl, rfl⟩ ⟨Nat.le_of_ble_eq_true rfl, Nat.le_of_ble_eq_true rfl⟩ rfl hl.1 (Nat.le_of_ble_eq_true rfl) (ci := 1) (q := (RX1, TX1, 12)) rfl rfl (by rw [k_4]; decide) (cell_1 k_4) ⟨Nat.le_of_ble_eq_true rfl, Nat.le_of_ble_eq_true rfl⟩ dX5_parse_40 (fun M40 H locs h hw => ?_)
    refine lv_iconst (v := 0) hx hb dX5_parse_43 (by decide) ?_
    refine lv_istore_n (lv' := [(2, .int 0), (1, .int r4), (0, .ref a0)]) hx hb dX5_parse_44 rfl hl (by decide) rfl (fun ls hl => ?_)
    exact ((Exists.elim h (fun n h => wL_X5_parse_45 S   n _ _ _ h))) H locs ls hw (lv_sub hl [2, 0] rfl)
  · have h := h.2 q_10
    refine lv_bipush (v := (-10)) hx hb dX5_parse_13 (by decide) ?_
    refine lv_iload_n hx hb dX5_parse_15 rfl (lv_at hl 0 rfl) ?_
    refine lv_isub hx hb dX5_parse_16 ?_
    exact we_i S hw h dX5_parse_17
set_option maxRecDepth 100000 in
set_option maxHeartbeats 4000000 in
theorem k_X5_parse (l : Launch) (E : EE) (Z : ZZ) (M : MM) (a0 : Nat) (Q : Int32 → MM → Prop) (h : P_X5_parse Z M a0 Q) : Ct_i l yX5_parse cX5_parse 3 (some .int) rm_X5_parse E Z M [.ref a0] Q := by
  refine Met.ofW (cc := cX5_parse) (maxL := 3) (ret := some .int) (by decide) rfl ?_
  intro p e s m args below meth c s₁ B hml hv
  obtain ⟨rfl, hK, hP, hD, hZ⟩ := hv
  have S : Cx p m c meth cX5_parse 3 s _ RX5 (some .int) := ⟨⟨B.exec, B.bytes, hml, findClass_of_methodNamed B.named, fun w hw => atoms_spec (ws := ws_ yX5_parse cX5_parse 3 (some .int)) B.pre w (List.mem_cons_of_mem _ hw)⟩, B.returns, B.notSynchronized⟩
  have hl := lv_entry ([.ref a0]) (n := 3) (Nat.le_of_ble_eq_true rfl)
  rw [lg_entry_eq]
  generalize (lg_sl ([.ref a0]) ++ List.replicate (3 - (lg_sl ([.ref a0])).length) Slot.unset).toArray = ls at hl ⊢
  exact (wB_X5_parse_0 S  M a0 h) s.heap [] ls ⟨hK, hP, hD, va_S.rf, hZ⟩ hl
set_option maxRecDepth 100000 in
set_option maxHeartbeats 4000000 in
theorem wB_X5_undo_0 (S : Cx p m c meth cX5_undo 2 s args RX5 (some .int)) (T : Tx l c Z s) {Q : Int32 → MM → Prop} {X : String → MM → Prop}   (M : MM) (a0 : Nat) (h : B_X5_undo_0 Z Q X  M a0) : WG p l e rm_X5_undo s m args below meth c 0 0 (MQxi below E Z args s Q X 1 6) E Z M 0 2 [(0, .ref a0)] [] := by
  intro H locs ls hw hl
  have hx := S.1.1
  have hb := S.1.2.1
  refine lv_aload_n hx hb dX5_undo_0 rfl (lv_at hl 0 rfl) ?_
  obtain ⟨k_0, h⟩ := h
  refine gf_X5_27 S.1 hw k_0 dX5_undo_1 ?_
  refine lv_if_gt (tgt := 17) hx hb dX5_undo_4 (by decide) (fun q_4 => ?_) (fun q_4 => ?_)
  · have h := h.1 q_4
    refine lv_aload_n hx hb dX5_undo_17 rfl (lv_at hl 0 rfl) ?_
    refine lv_aload_n hx hb dX5_undo_18 rfl (lv_at hl 0 rfl) ?_
    refine gf_X5_23 S.1 hw k_0 dX5_undo_19 ?_
    refine lv_iconst (v := 4) hx hb dX5_undo_22 (by decide) ?_
    refine lv_iadd hx hb dX5_undo_23 ?_
    refine lv_iconst (v := 1) hx hb dX5_undo_24 (by decide) ?_
    refine lv_isub hx hb dX5_undo_25 ?_
    refine lv_iconst (v := 4) hx hb dX5_undo_26 (by decide) ?_
    refine lv_irem hx hb dX5_undo_27 (by decide) ?_
    refine pf_X5_23 S.1 hw k_0 dX5_undo_28 (fun H locs hw => ?_)
    refine lv_aload_n hx hb dX5_undo_31 rfl (lv_at hl 0 rfl) ?_
    refine lv_dup hx hb dX5_undo_32 rfl ?_
    refine gf_X5_27 S.1 hw k_0 dX5_undo_33 ?_
    refine lv_iconst (v := 1) hx hb dX5_undo_36 (by decide) ?_
    refine lv_isub hx hb dX5_undo_37 ?_
    refine pf_X5_27 S.1 hw k_0 dX5_undo_38 (fun H locs hw => ?_)
    refine lv_aload_n hx hb dX5_undo_41 rfl (lv_at hl 0 rfl) ?_
    refine lv_aload_n hx hb dX5_undo_42 rfl (lv_at hl 0 rfl) ?_
    refine gf_X5_23 S.1 hw k_0 dX5_undo_43 ?_
    refine cv_q (As := [.int (mI (setI (setI M 12 a0 ((((mI M 12 a0) + 4) - 1) - (((mI M 12 a0) + 4) - 1) / 4 * 4)) 13 a0 ((mI (setI M 12 a0 ((((mI M 12 a0) + 4) - 1) - (((mI M 12 a0) + 4) - 1) / 4 * 4)) 13 a0) - 1)) 12 a0)]) (rest := []) S.1 hw (k_X5_savedAt l E Z (setI (setI M 12 a0 ((((mI M 12 a0) + 4) - 1) - (((mI M 12 a0) + 4) - 1) / 4 * 4)) 13 a0 ((mI (setI M 12 a0 ((((mI M 12 a0) + 4) - 1) - (((mI M 12 a0) + 4) - 1) / 4 * 4)) 13 a0) - 1)) a0 (mI (setI (setI M 12 a0 ((((mI M 12 a0) + 4) - 1) - (((mI M 12 a0) + 4) - 1) / 4 * 4)) 13 a0 ((mI (setI M 12 a0 ((((mI M 12 a0) + 4) - 1) - (((mI M 12 a0) + 4) - 1) / 4 * 4)) 13 a0) - 1)) 12 a0) _ h) wv_X5_253 yc_X5_savedAt ⟨rfl, rfl⟩ ⟨Nat.le_of_ble_eq_true rfl, Nat.le_of_ble_eq_true rfl⟩ rfl hl.1 (Nat.le_of_ble_eq_true rfl) (ci := 5) (q := (RX5, TX5, 9)) rfl rfl (by rw [k_0]; decide) (cell_5 k_0) ⟨Nat.le_of_ble_eq_true rfl, Nat.le_of_ble_eq_true rfl⟩ dX5_undo_46 (fun r46 M46 H locs h hw => ?_)
    rcases r46 with _ | y46_1
    · have h := h.1 rfl
      refine lv_astore_nN (lv' := [(1, .null), (0, .ref a0)]) hx hb dX5_undo_49 rfl hl (by decide) rfl (fun ls hl => ?_)
      refine lv_aload_nN hx hb dX5_undo_50 rfl (lv_at hl 0 rfl) ?_
      refine lv_ifnullN (tgt := 62) hx hb dX5_undo_51 (by decide) ?_
      refine lv_aload_n hx hb dX5_undo_62 rfl (lv_at hl 1 rfl) ?_
      refine gf_X5_27 S.1 hw k_0 dX5_undo_63 ?_
      refine wx_end (Nat.le_of_ble_eq_true rfl) (Nat.le_of_ble_eq_true rfl) ?_
      exact we_i S hw h dX5_undo_66
    · have h := h.2 y46_1 rfl
      refine lv_astore_n (lv' := [(1, .ref y46_1), (0, .ref a0)]) hx hb dX5_undo_49 rfl hl (by decide) rfl (fun ls hl => ?_)
      refine lv_aload_n hx hb dX5_undo_50 rfl (lv_at hl 0 rfl) ?_
      refine lv_ifnull hx hb dX5_undo_51 ?_
      refine lv_aload_n hx hb dX5_undo_54 rfl (lv_at hl 1 rfl) ?_
      obtain ⟨y55_2, hy_2, h⟩ := h
      refine gf_X5_10 S.1 hw k_0 hy_2 dX5_undo_55 ?_
      refine lv_aload_n hx hb dX5_undo_58 rfl (lv_at hl 0 rfl) ?_
      obtain ⟨k_3, h⟩ := h
      refine cv_v (As := [.ref y46_1]) (rest := []) S.1 hw (k_X1_copyFrom l E Z M46 y55_2 y46_1 _ h) wv_X5_196 yc_X1_copyFrom ⟨rfl, rfl⟩ ⟨Nat.le_of_ble_eq_true rfl, Nat.le_of_ble_eq_true rfl⟩ rfl hl.1 (Nat.le_of_ble_eq_true rfl) (ci := 1) (q := (RX1, TX1, 12)) rfl rfl (by rw [k_3]; decide) (cell_1 k_3) ⟨Nat.le_of_ble_eq_true rfl, Nat.le_of_ble_eq_true rfl⟩ dX5_undo_59 (fun M59 H locs h hw => ?_)
      refine lv_aload_n hx hb dX5_undo_62 rfl (lv_at hl 1 rfl) ?_
      refine gf_X5_27 S.1 hw k_0 dX5_undo_63 ?_
      refine wx_end (Nat.le_of_ble_eq_true rfl) (Nat.le_of_ble_eq_true rfl) ?_
      exact we_i S hw h dX5_undo_66
  · have h := h.2 q_4
    exact wx_thS (text := "there is no saved state") S T hw (by decide +kernel) wk_X5_99 wn_IllegalStateException (by decide +kernel) wat_X5_103 h hl.1 dX5_undo_7 dX5_undo_10 dX5_undo_11 dX5_undo_13 dX5_undo_16 (Nat.le_of_ble_eq_true rfl) (Nat.le_of_ble_eq_true rfl) (Nat.le_of_ble_eq_true rfl) (Nat.le_of_ble_eq_true rfl) (Nat.le_of_ble_eq_true rfl) (Nat.le_of_ble_eq_true rfl)
set_option maxRecDepth 100000 in
set_option maxHeartbeats 4000000 in
theorem k_X5_undo (l : Launch) (hl0 : l.stackTraces = false) (E : EE) (Z : ZZ) (M : MM) (a0 : Nat) (Q : Int32 → MM → Prop) (X : String → MM → Prop) (h : P_X5_undo Z M a0 Q X) : Cxi l yX5_undo cX5_undo 2 (some .int) rm_X5_undo E Z M [.ref a0] Q X 1 6 := by
  refine vx_ofW (cc := cX5_undo) (maxL := 2) (ret := some .int) (by decide) rfl ?_
  intro p e s m args below meth c s₁ B hml ht hv
  obtain ⟨rfl, ⟨hK, hP, hD, hZ⟩, hsx⟩ := hv
  have S : Cx p m c meth cX5_undo 2 s _ RX5 (some .int) := ⟨⟨B.exec, B.bytes, hml, findClass_of_methodNamed B.named, fun w hw => atoms_spec (ws := ws_ yX5_undo cX5_undo 2 (some .int)) B.pre w (List.mem_cons_of_mem _ hw)⟩, B.returns, B.notSynchronized⟩
  have T : Tx l c Z s := ⟨hl0, ht, hsx⟩
  have hl := lv_entry ([.ref a0]) (n := 2) (Nat.le_of_ble_eq_true rfl)
  rw [lg_entry_eq]
  generalize (lg_sl ([.ref a0]) ++ List.replicate (2 - (lg_sl ([.ref a0])).length) Slot.unset).toArray = ls at hl ⊢
  exact (wB_X5_undo_0 S T M a0 h) s.heap [] ls ⟨hK, hP, hD, va_S.rf, hZ⟩ hl
set_option maxRecDepth 100000 in
set_option maxHeartbeats 4000000 in
theorem wB_X5_digest_60 (S : Cx p m c meth cX5_digest 5 s args RX5 (some .long)) {Q : Int64 → MM → Prop} {K46 : MM → Nat → Int64 → Int32 → Prop} {K60 : MM → Nat → Int64 → Int32 → Int32 → Prop} (hK46 : ∀ (M : MM) (a0 : Nat) (v1 : Int64) (v3 : Int32), K46 M a0 v1 v3 → WG p l e rm_X5_digest s m args below meth c 0 0 (MQl below E Z args s Q) E Z M 46 5 [(0, .ref a0), (1, .long v1), (3, .int v3)] []) (hK60 : ∀ (M : MM) (a0 : Nat) (v1 : Int64) (v3 : Int32) (v4 : Int32), K60 M a0 v1 v3 v4 → WG p l e rm_X5_digest s m args below meth c 0 0 (MQl below E Z args s Q) E Z M 60 5 [(0, .ref a0), (1, .long v1), (3, .int v3), (4, .int v4)] []) (M : MM) (a0 : Nat) (v1 : Int64) (v3 : Int32) (v4 : Int32) (h : B_X5_digest_60 Z Q K46 K60 M a0 v1 v3 v4) : WG p l e rm_X5_digest s m args below meth c 0 0 (MQl below E Z args s Q) E Z M 60 5 [(0, .ref a0), (1, .long v1), (3, .int v3), (4, .int v4)] [] := by
  intro H locs ls hw hl
  have hx := S.1.1
  have hb := S.1.2.1
  have hown := S.1.2.2.2.1
  have hts := S.1.2.2.2.2
  refine lv_iload hx hb dX5_digest_60 (lv_at hl 3 rfl) ?_
  refine lv_bipush (v := 7) hx hb dX5_digest_62 (by decide) ?_
  refine lv_icmp_ge (tgt := 88) hx hb dX5_digest_64 (by decide) (fun q_64 => ?_) (fun q_64 => ?_)
  · have h := h.1 q_64
    refine lv_ldc2 (v := 31) hx hb hown (hts _ wq_X5_259) dX5_digest_88 ?_
    refine lv_lload_n hx hb dX5_digest_91 rfl (lv_at hl 1 rfl) ?_
    refine lv_lmul hx hb dX5_digest_92 ?_
    refine lv_aload_n hx hb dX5_digest_93 rfl (lv_at hl 0 rfl) ?_
    refine lv_iload_n hx hb dX5_digest_94 rfl (lv_at hl 2 rfl) ?_
    refine lv_iconst (v := 3) hx hb dX5_digest_95 (by decide) ?_
    obtain ⟨k_0, h⟩ := h
    refine cv_i (As := [.int v3, .int 3]) (rest := [.long (31 * v1)]) S.1 hw (k_X5_blockFact l E Z M a0 v3 3 _ h) wv_X5_170 yc_X5_blockFact ⟨rfl, rfl⟩ ⟨Nat.le_of_ble_eq_true rfl, Nat.le_of_ble_eq_true rfl⟩ rfl hl.1 (Nat.le_of_ble_eq_true rfl) (ci := 5) (q := (RX5, TX5, 9)) rfl rfl (by rw [k_0]; decide) (cell_5 k_0) ⟨Nat.le_of_ble_eq_true rfl, Nat.le_of_ble_eq_true rfl⟩ dX5_digest_96 (fun r96 M96 H locs h hw => ?_)
    refine lv_i2l (v := r96.toInt64) hx hb dX5_digest_99 rfl ?_
    refine lv_ladd hx hb dX5_digest_100 ?_
    refine lv_lstore_n (lv' := [(1, .long ((31 * v1) + r96.toInt64)), (0, .ref a0), (3, .int v3), (4, .int v4)]) hx hb dX5_digest_101 rfl hl (by decide) rfl (fun ls hl => ?_)
    refine lv_ldc2 (v := 31) hx hb hown (hts _ wq_X5_259) dX5_digest_102 ?_
    refine lv_lload_n hx hb dX5_digest_105 rfl (lv_at hl 0 rfl) ?_
    refine lv_lmul hx hb dX5_digest_106 ?_
    refine lv_aload_n hx hb dX5_digest_107 rfl (lv_at hl 1 rfl) ?_
    refine lv_iload_n hx hb dX5_digest_108 rfl (lv_at hl 2 rfl) ?_
    refine lv_iconst (v := 4) hx hb dX5_digest_109 (by decide) ?_
    refine cv_i (As := [.int v3, .int 4]) (rest := [.long (31 * ((31 * v1) + r96.toInt64))]) S.1 hw (k_X5_blockFact l E Z M96 a0 v3 4 _ h) wv_X5_170 yc_X5_blockFact ⟨rfl, rfl⟩ ⟨Nat.le_of_ble_eq_true rfl, Nat.le_of_ble_eq_true rfl⟩ rfl hl.1 (Nat.le_of_ble_eq_true rfl) (ci := 5) (q := (RX5, TX5, 9)) rfl rfl (by rw [k_0]; decide) (cell_5 k_0) ⟨Nat.le_of_ble_eq_true rfl, Nat.le_of_ble_eq_true rfl⟩ dX5_digest_110 (fun r110 M110 H locs h hw => ?_)
    refine lv_i2l (v := r110.toInt64) hx hb dX5_digest_113 rfl ?_
    refine lv_ladd hx hb dX5_digest_114 ?_
    refine lv_lstore_n (lv' := [(1, .long ((31 * ((31 * v1) + r96.toInt64)) + r110.toInt64)), (0, .ref a0), (3, .int v3), (4, .int v4)]) hx hb dX5_digest_115 rfl hl (by decide) rfl (fun ls hl => ?_)
    refine lv_iinc (v := (v3 + 1)) (lv' := [(3, .int (v3 + 1)), (1, .long ((31 * ((31 * v1) + r96.toInt64)) + r110.toInt64)), (0, .ref a0), (4, .int v4)]) hx hb dX5_digest_116 hl (k := 2) rfl rfl (by decide) rfl (fun ls hl => ?_)
    refine lv_goto (tgt := 46) hx hb dX5_digest_119 (by decide) ?_
    exact (hK46 _ _ _ _ h) H locs ls hw (lv_sub hl [2, 1, 0] rfl)
  · have h := h.2 q_64
    refine lv_ldc2 (v := 31) hx hb hown (hts _ wq_X5_259) dX5_digest_67 ?_
    refine lv_lload_n hx hb dX5_digest_70 rfl (lv_at hl 1 rfl) ?_
    refine lv_lmul hx hb dX5_digest_71 ?_
    refine lv_aload_n hx hb dX5_digest_72 rfl (lv_at hl 0 rfl) ?_
    refine lv_iload_n hx hb dX5_digest_73 rfl (lv_at hl 2 rfl) ?_
    refine lv_iload hx hb dX5_digest_74 (lv_at hl 3 rfl) ?_
    obtain ⟨k_1, h⟩ := h
    refine cv_i (As := [.int v3, .int v4]) (rest := [.long (31 * v1)]) S.1 hw (k_X5_cellFact l E Z M a0 v3 v4 _ h) wv_X5_164 yc_X5_cellFact ⟨rfl, rfl⟩ ⟨Nat.le_of_ble_eq_true rfl, Nat.le_of_ble_eq_true rfl⟩ rfl hl.1 (Nat.le_of_ble_eq_true rfl) (ci := 5) (q := (RX5, TX5, 9)) rfl rfl (by rw [k_1]; decide) (cell_5 k_1) ⟨Nat.le_of_ble_eq_true rfl, Nat.le_of_ble_eq_true rfl⟩ dX5_digest_76 (fun r76 M76 H locs h hw => ?_)
    refine lv_i2l (v := r76.toInt64) hx hb dX5_digest_79 rfl ?_
    refine lv_ladd hx hb dX5_digest_80 ?_
    refine lv_lstore_n (lv' := [(1, .long ((31 * v1) + r76.toInt64)), (0, .ref a0), (3, .int v3), (4, .int v4)]) hx hb dX5_digest_81 rfl hl (by decide) rfl (fun ls hl => ?_)
    refine lv_iinc (v := (v4 + 1)) (lv' := [(4, .int (v4 + 1)), (1, .long ((31 * v1) + r76.toInt64)), (0, .ref a0), (3, .int v3)]) hx hb dX5_digest_82 hl (k := 3) rfl rfl (by decide) rfl (fun ls hl => ?_)
    refine lv_goto (tgt := 60) hx hb dX5_digest_85 (by decide) ?_
    exact (hK60 _ _ _ _ _ h) H locs ls hw (lv_sub hl [2, 1, 3, 0] rfl)
theorem wL_X5_digest_60 (S : Cx p m c meth cX5_digest 5 s args RX5 (some .long)) {Q : Int64 → MM → Prop} {K46 : MM → Nat → Int64 → Int32 → Prop} (hK46 : ∀ (M : MM) (a0 : Nat) (v1 : Int64) (v3 : Int32), K46 M a0 v1 v3 → WG p l e rm_X5_digest s m args below meth c 0 0 (MQl below E Z args s Q) E Z M 46 5 [(0, .ref a0), (1, .long v1), (3, .int v3)] []) : ∀ (n : Nat) (M : MM) (a0 : Nat) (v1 : Int64) (v3 : Int32) (v4 : Int32), L_X5_digest_60 Z Q  K46 n M a0 v1 v3 v4 → WG p l e rm_X5_digest s m args below meth c 0 0 (MQl below E Z args s Q) E Z M 60 5 [(0, .ref a0), (1, .long v1), (3, .int v3), (4, .int v4)] []
  | 0, _, _, _, _, _, h => False.elim h
  | n + 1, M, a0, v1, v3, v4, h => wB_X5_digest_60 S  hK46 (wL_X5_digest_60 S  hK46 n) M a0 v1 v3 v4 h
set_option maxRecDepth 100000 in
set_option maxHeartbeats 4000000 in
theorem wB_X5_digest_138 (S : Cx p m c meth cX5_digest 5 s args RX5 (some .long)) {Q : Int64 → MM → Prop} {K124 : MM → Nat → Int64 → Int32 → Prop} {K138 : MM → Nat → Int64 → Int32 → Int32 → Prop} (hK124 : ∀ (M : MM) (a0 : Nat) (v1 : Int64) (v3 : Int32), K124 M a0 v1 v3 → WG p l e rm_X5_digest s m args below meth c 0 0 (MQl below E Z args s Q) E Z M 124 5 [(0, .ref a0), (1, .long v1), (3, .int v3)] []) (hK138 : ∀ (M : MM) (a0 : Nat) (v1 : Int64) (v3 : Int32) (v4 : Int32), K138 M a0 v1 v3 v4 → WG p l e rm_X5_digest s m args below meth c 0 0 (MQl below E Z args s Q) E Z M 138 5 [(0, .ref a0), (1, .long v1), (3, .int v3), (4, .int v4)] []) (M : MM) (a0 : Nat) (v1 : Int64) (v3 : Int32) (v4 : Int32) (h : B_X5_digest_138 Z Q K124 K138 M a0 v1 v3 v4) : WG p l e rm_X5_digest s m args below meth c 0 0 (MQl below E Z args s Q) E Z M 138 5 [(0, .ref a0), (1, .long v1), (3, .int v3), (4, .int v4)] [] := by
  intro H locs ls hw hl
  have hx := S.1.1
  have hb := S.1.2.1
  have hown := S.1.2.2.2.1
  have hts := S.1.2.2.2.2
  refine lv_iload hx hb dX5_digest_138 (lv_at hl 3 rfl) ?_
  refine lv_iconst (v := 3) hx hb dX5_digest_140 (by decide) ?_
  refine lv_icmp_ge (tgt := 168) hx hb dX5_digest_141 (by decide) (fun q_141 => ?_) (fun q_141 => ?_)
  · have h := h.1 q_141
    refine lv_iinc (v := (v3 + 1)) (lv' := [(3, .int (v3 + 1)), (0, .ref a0), (1, .long v1), (4, .int v4)]) hx hb dX5_digest_168 hl (k := 2) rfl rfl (by decide) rfl (fun ls hl => ?_)
    refine lv_goto (tgt := 124) hx hb dX5_digest_171 (by decide) ?_
    exact (hK124 _ _ _ _ h) H locs ls hw (lv_sub hl [1, 2, 0] rfl)
  · have h := h.2 q_141
    refine lv_ldc2 (v := 31) hx hb hown (hts _ wq_X5_259) dX5_digest_144 ?_
    refine lv_lload_n hx hb dX5_digest_147 rfl (lv_at hl 1 rfl) ?_
    refine lv_lmul hx hb dX5_digest_148 ?_
    refine lv_aload_n hx hb dX5_digest_149 rfl (lv_at hl 0 rfl) ?_
    obtain ⟨k_0, h⟩ := h
    obtain ⟨y150_1, hy_1, h⟩ := h
    refine gf_X5_10 S.1 hw k_0 hy_1 dX5_digest_150 ?_
    refine lv_iload_n hx hb dX5_digest_153 rfl (lv_at hl 2 rfl) ?_
    refine lv_iload hx hb dX5_digest_154 (lv_at hl 3 rfl) ?_
    obtain ⟨k_2, h⟩ := h
    refine cv_i (As := [.int v3, .int v4]) (rest := [.long (31 * v1)]) S.1 hw (k_X1_keptFact l E Z M y150_1 v3 v4 _ h) wv_X5_193 yc_X1_keptFact ⟨rfl, rfl⟩ ⟨Nat.le_of_ble_eq_true rfl, Nat.le_of_ble_eq_true rfl⟩ rfl hl.1 (Nat.le_of_ble_eq_true rfl) (ci := 1) (q := (RX1, TX1, 12)) rfl rfl (by rw [k_2]; decide) (cell_1 k_2) ⟨Nat.le_of_ble_eq_true rfl, Nat.le_of_ble_eq_true rfl⟩ dX5_digest_156 (fun r156 M156 H locs h hw => ?_)
    refine lv_i2l (v := r156.toInt64) hx hb dX5_digest_159 rfl ?_
    refine lv_ladd hx hb dX5_digest_160 ?_
    refine lv_lstore_n (lv' := [(1, .long ((31 * v1) + r156.toInt64)), (0, .ref a0), (3, .int v3), (4, .int v4)]) hx hb dX5_digest_161 rfl hl (by decide) rfl (fun ls hl => ?_)
    refine lv_iinc (v := (v4 + 1)) (lv' := [(4, .int (v4 + 1)), (1, .long ((31 * v1) + r156.toInt64)), (0, .ref a0), (3, .int v3)]) hx hb dX5_digest_162 hl (k := 3) rfl rfl (by decide) rfl (fun ls hl => ?_)
    refine lv_goto (tgt := 138) hx hb dX5_digest_165 (by decide) ?_
    exact (hK138 _ _ _ _ _ h) H locs ls hw (lv_sub hl [2, 1, 3, 0] rfl)
theorem wL_X5_digest_138 (S : Cx p m c meth cX5_digest 5 s args RX5 (some .long)) {Q : Int64 → MM → Prop} {K124 : MM → Nat → Int64 → Int32 → Prop} (hK124 : ∀ (M : MM) (a0 : Nat) (v1 : Int64) (v3 : Int32), K124 M a0 v1 v3 → WG p l e rm_X5_digest s m args below meth c 0 0 (MQl below E Z args s Q) E Z M 124 5 [(0, .ref a0), (1, .long v1), (3, .int v3)] []) : ∀ (n : Nat) (M : MM) (a0 : Nat) (v1 : Int64) (v3 : Int32) (v4 : Int32), L_X5_digest_138 Z Q  K124 n M a0 v1 v3 v4 → WG p l e rm_X5_digest s m args below meth c 0 0 (MQl below E Z args s Q) E Z M 138 5 [(0, .ref a0), (1, .long v1), (3, .int v3), (4, .int v4)] []
  | 0, _, _, _, _, _, h => False.elim h
  | n + 1, M, a0, v1, v3, v4, h => wB_X5_digest_138 S  hK124 (wL_X5_digest_138 S  hK124 n) M a0 v1 v3 v4 h
set_option maxRecDepth 100000 in
set_option maxHeartbeats 4000000 in
theorem wB_X5_digest_124 (S : Cx p m c meth cX5_digest 5 s args RX5 (some .long)) {Q : Int64 → MM → Prop} {K124 : MM → Nat → Int64 → Int32 → Prop} (hK124 : ∀ (M : MM) (a0 : Nat) (v1 : Int64) (v3 : Int32), K124 M a0 v1 v3 → WG p l e rm_X5_digest s m args below meth c 0 0 (MQl below E Z args s Q) E Z M 124 5 [(0, .ref a0), (1, .long v1), (3, .int v3)] []) (M : MM) (a0 : Nat) (v1 : Int64) (v3 : Int32) (h : B_X5_digest_124 Z Q K124 M a0 v1 v3) : WG p l e rm_X5_digest s m args below meth c 0 0 (MQl below E Z args s Q) E Z M 124 5 [(0, .ref a0), (1, .long v1), (3, .int v3)] [] := by
  intro H locs ls hw hl
  have hx := S.1.1
  have hb := S.1.2.1
  have hown := S.1.2.2.2.1
  have hts := S.1.2.2.2.2
  refine lv_iload_n hx hb dX5_digest_124 rfl (lv_at hl 2 rfl) ?_
  refine lv_aload_n hx hb dX5_digest_125 rfl (lv_at hl 0 rfl) ?_
  obtain ⟨k_0, h⟩ := h
  obtain ⟨y126_1, hy_1, h⟩ := h
  refine gf_X5_10 S.1 hw k_0 hy_1 dX5_digest_126 ?_
  obtain ⟨k_2, h⟩ := h
  refine cv_i (As := []) (rest := [.int v3]) S.1 hw (k_X1_keptCount l E Z M y126_1  _ h) wv_X5_187 yc_X1_keptCount ⟨rfl, rfl⟩ ⟨Nat.le_of_ble_eq_true rfl, Nat.le_of_ble_eq_true rfl⟩ rfl hl.1 (Nat.le_of_ble_eq_true rfl) (ci := 1) (q := (RX1, TX1, 12)) rfl rfl (by rw [k_2]; decide) (cell_1 k_2) ⟨Nat.le_of_ble_eq_true rfl, Nat.le_of_ble_eq_true rfl⟩ dX5_digest_129 (fun r129 M129 H locs h hw => ?_)
  refine lv_icmp_ge (tgt := 174) hx hb dX5_digest_132 (by decide) (fun q_132 => ?_) (fun q_132 => ?_)
  · have h := h.1 q_132
    refine lv_aload_n hx hb dX5_digest_174 rfl (lv_at hl 0 rfl) ?_
    obtain ⟨y175_3, hy_3, h⟩ := h
    refine gf_X5_16 S.1 hw k_0 hy_3 dX5_digest_175 ?_
    refine lv_aload_n hx hb dX5_digest_178 rfl (lv_at hl 0 rfl) ?_
    refine gf_X5_10 S.1 hw k_0 hy_1 dX5_digest_179 ?_
    obtain ⟨k_4, h⟩ := h
    refine cv_v (As := [.ref y126_1]) (rest := []) S.1 hw (k_X1_copyFrom l E Z M129 y175_3 y126_1 _ h) wv_X5_196 yc_X1_copyFrom ⟨rfl, rfl⟩ ⟨Nat.le_of_ble_eq_true rfl, Nat.le_of_ble_eq_true rfl⟩ rfl hl.1 (Nat.le_of_ble_eq_true rfl) (ci := 1) (q := (RX1, TX1, 12)) rfl rfl (by rw [k_4]; decide) (cell_1 k_4) ⟨Nat.le_of_ble_eq_true rfl, Nat.le_of_ble_eq_true rfl⟩ dX5_digest_182 (fun M182 H locs h hw => ?_)
    refine lv_ldc2 (v := 31) hx hb hown (hts _ wq_X5_259) dX5_digest_185 ?_
    refine lv_lload_n hx hb dX5_digest_188 rfl (lv_at hl 1 rfl) ?_
    refine lv_lmul hx hb dX5_digest_189 ?_
    refine lv_aload_n hx hb dX5_digest_190 rfl (lv_at hl 0 rfl) ?_
    refine lv_aload_n hx hb dX5_digest_191 rfl (lv_at hl 0 rfl) ?_
    refine gf_X5_16 S.1 hw k_0 hy_3 dX5_digest_192 ?_
    refine cv_i (As := [.ref y175_3]) (rest := [.long (31 * v1)]) S.1 hw (k_X5_removeFloating l E Z M182 a0 y175_3 _ h) wv_X5_148 yc_X5_removeFloating ⟨rfl, rfl⟩ ⟨Nat.le_of_ble_eq_true rfl, Nat.le_of_ble_eq_true rfl⟩ rfl hl.1 (Nat.le_of_ble_eq_true rfl) (ci := 5) (q := (RX5, TX5, 9)) rfl rfl (by rw [k_0]; decide) (cell_5 k_0) ⟨Nat.le_of_ble_eq_true rfl, Nat.le_of_ble_eq_true rfl⟩ dX5_digest_195 (fun r195 M195 H locs h hw => ?_)
    refine lv_i2l (v := r195.toInt64) hx hb dX5_digest_198 rfl ?_
    refine lv_ladd hx hb dX5_digest_199 ?_
    refine lv_lstore_n (lv' := [(1, .long ((31 * v1) + r195.toInt64)), (0, .ref a0), (3, .int v3)]) hx hb dX5_digest_200 rfl hl (by decide) rfl (fun ls hl => ?_)
    refine lv_ldc2 (v := 31) hx hb hown (hts _ wq_X5_259) dX5_digest_201 ?_
    refine lv_lload_n hx hb dX5_digest_204 rfl (lv_at hl 0 rfl) ?_
    refine lv_lmul hx hb dX5_digest_205 ?_
    refine lv_aload_n hx hb dX5_digest_206 rfl (lv_at hl 1 rfl) ?_
    refine gf_X5_27 S.1 hw k_0 dX5_digest_207 ?_
    refine lv_i2l (v := (mI M195 13 a0).toInt64) hx hb dX5_digest_210 rfl ?_
    refine lv_ladd hx hb dX5_digest_211 ?_
    exact we_l S hw h dX5_digest_212
  · have h := h.2 q_132
    refine lv_iconst (v := 0) hx hb dX5_digest_135 (by decide) ?_
    refine lv_istore (lv' := [(4, .int 0), (0, .ref a0), (1, .long v1), (3, .int v3)]) hx hb dX5_digest_136 hl (by decide) rfl (fun ls hl => ?_)
    exact ((Exists.elim h (fun n h => wL_X5_digest_138 S  hK124 n _ _ _ _ _ h))) H locs ls hw (lv_sub hl [1, 2, 3, 0] rfl)
theorem wL_X5_digest_124 (S : Cx p m c meth cX5_digest 5 s args RX5 (some .long)) {Q : Int64 → MM → Prop}   : ∀ (n : Nat) (M : MM) (a0 : Nat) (v1 : Int64) (v3 : Int32), L_X5_digest_124 Z Q   n M a0 v1 v3 → WG p l e rm_X5_digest s m args below meth c 0 0 (MQl below E Z args s Q) E Z M 124 5 [(0, .ref a0), (1, .long v1), (3, .int v3)] []
  | 0, _, _, _, _, h => False.elim h
  | n + 1, M, a0, v1, v3, h => wB_X5_digest_124 S  (wL_X5_digest_124 S   n) M a0 v1 v3 h
set_option maxRecDepth 100000 in
set_option maxHeartbeats 4000000 in
theorem wB_X5_digest_46 (S : Cx p m c meth cX5_digest 5 s args RX5 (some .long)) {Q : Int64 → MM → Prop} {K46 : MM → Nat → Int64 → Int32 → Prop} (hK46 : ∀ (M : MM) (a0 : Nat) (v1 : Int64) (v3 : Int32), K46 M a0 v1 v3 → WG p l e rm_X5_digest s m args below meth c 0 0 (MQl below E Z args s Q) E Z M 46 5 [(0, .ref a0), (1, .long v1), (3, .int v3)] []) (M : MM) (a0 : Nat) (v1 : Int64) (v3 : Int32) (h : B_X5_digest_46 Z Q K46 M a0 v1 v3) : WG p l e rm_X5_digest s m args below meth c 0 0 (MQl below E Z args s Q) E Z M 46 5 [(0, .ref a0), (1, .long v1), (3, .int v3)] [] := by
  intro H locs ls hw hl
  have hx := S.1.1
  have hb := S.1.2.1
  refine lv_iload_n hx hb dX5_digest_46 rfl (lv_at hl 2 rfl) ?_
  refine lv_aload_n hx hb dX5_digest_47 rfl (lv_at hl 0 rfl) ?_
  obtain ⟨k_0, h⟩ := h
  obtain ⟨y48_1, hy_1, h⟩ := h
  refine gf_X5_10 S.1 hw k_0 hy_1 dX5_digest_48 ?_
  obtain ⟨k_2, h⟩ := h
  refine cv_i (As := []) (rest := [.int v3]) S.1 hw (k_X1_cellCount l E Z M y48_1  _ h) wv_X5_212 yc_X1_cellCount ⟨rfl, rfl⟩ ⟨Nat.le_of_ble_eq_true rfl, Nat.le_of_ble_eq_true rfl⟩ rfl hl.1 (Nat.le_of_ble_eq_true rfl) (ci := 1) (q := (RX1, TX1, 12)) rfl rfl (by rw [k_2]; decide) (cell_1 k_2) ⟨Nat.le_of_ble_eq_true rfl, Nat.le_of_ble_eq_true rfl⟩ dX5_digest_51 (fun r51 M51 H locs h hw => ?_)
  refine lv_icmp_ge (tgt := 122) hx hb dX5_digest_54 (by decide) (fun q_54 => ?_) (fun q_54 => ?_)
  · have h := h.1 q_54
    refine lv_iconst (v := 0) hx hb dX5_digest_122 (by decide) ?_
    refine lv_istore_n (lv' := [(3, .int 0), (0, .ref a0), (1, .long v1)]) hx hb dX5_digest_123 rfl hl (by decide) rfl (fun ls hl => ?_)
    exact ((Exists.elim h (fun n h => wL_X5_digest_124 S   n _ _ _ _ h))) H locs ls hw (lv_sub hl [1, 2, 0] rfl)
  · have h := h.2 q_54
    refine lv_iconst (v := 0) hx hb dX5_digest_57 (by decide) ?_
    refine lv_istore (lv' := [(4, .int 0), (0, .ref a0), (1, .long v1), (3, .int v3)]) hx hb dX5_digest_58 hl (by decide) rfl (fun ls hl => ?_)
    exact ((Exists.elim h (fun n h => wL_X5_digest_60 S  hK46 n _ _ _ _ _ h))) H locs ls hw (lv_sub hl [1, 2, 3, 0] rfl)
theorem wL_X5_digest_46 (S : Cx p m c meth cX5_digest 5 s args RX5 (some .long)) {Q : Int64 → MM → Prop}   : ∀ (n : Nat) (M : MM) (a0 : Nat) (v1 : Int64) (v3 : Int32), L_X5_digest_46 Z Q   n M a0 v1 v3 → WG p l e rm_X5_digest s m args below meth c 0 0 (MQl below E Z args s Q) E Z M 46 5 [(0, .ref a0), (1, .long v1), (3, .int v3)] []
  | 0, _, _, _, _, h => False.elim h
  | n + 1, M, a0, v1, v3, h => wB_X5_digest_46 S  (wL_X5_digest_46 S   n) M a0 v1 v3 h
set_option maxRecDepth 100000 in
set_option maxHeartbeats 4000000 in
theorem wB_X5_digest_19 (S : Cx p m c meth cX5_digest 5 s args RX5 (some .long)) {Q : Int64 → MM → Prop} {K19 : MM → Nat → Int64 → Int32 → Prop} (hK19 : ∀ (M : MM) (a0 : Nat) (v1 : Int64) (v3 : Int32), K19 M a0 v1 v3 → WG p l e rm_X5_digest s m args below meth c 0 0 (MQl below E Z args s Q) E Z M 19 5 [(0, .ref a0), (1, .long v1), (3, .int v3)] []) (M : MM) (a0 : Nat) (v1 : Int64) (v3 : Int32) (h : B_X5_digest_19 Z Q K19 M a0 v1 v3) : WG p l e rm_X5_digest s m args below meth c 0 0 (MQl below E Z args s Q) E Z M 19 5 [(0, .ref a0), (1, .long v1), (3, .int v3)] [] := by
  intro H locs ls hw hl
  have hx := S.1.1
  have hb := S.1.2.1
  have hown := S.1.2.2.2.1
  have hts := S.1.2.2.2.2
  refine lv_iload_n hx hb dX5_digest_19 rfl (lv_at hl 2 rfl) ?_
  refine lv_bipush (v := 14) hx hb dX5_digest_20 (by decide) ?_
  refine lv_icmp_ge (tgt := 44) hx hb dX5_digest_22 (by decide) (fun q_22 => ?_) (fun q_22 => ?_)
  · have h := h.1 q_22
    refine lv_iconst (v := 0) hx hb dX5_digest_44 (by decide) ?_
    refine lv_istore_n (lv' := [(3, .int 0), (0, .ref a0), (1, .long v1)]) hx hb dX5_digest_45 rfl hl (by decide) rfl (fun ls hl => ?_)
    exact ((Exists.elim h (fun n h => wL_X5_digest_46 S   n _ _ _ _ h))) H locs ls hw (lv_sub hl [1, 2, 0] rfl)
  · have h := h.2 q_22
    refine lv_ldc2 (v := 31) hx hb hown (hts _ wq_X5_259) dX5_digest_25 ?_
    refine lv_lload_n hx hb dX5_digest_28 rfl (lv_at hl 1 rfl) ?_
    refine lv_lmul hx hb dX5_digest_29 ?_
    refine lv_aload_n hx hb dX5_digest_30 rfl (lv_at hl 0 rfl) ?_
    refine lv_iload_n hx hb dX5_digest_31 rfl (lv_at hl 2 rfl) ?_
    obtain ⟨k_0, h⟩ := h
    refine cv_i (As := [.int v3]) (rest := [.long (31 * v1)]) S.1 hw (k_X5_fieldFact l E Z M a0 v3 _ h) wv_X5_184 yc_X5_fieldFact ⟨rfl, rfl⟩ ⟨Nat.le_of_ble_eq_true rfl, Nat.le_of_ble_eq_true rfl⟩ rfl hl.1 (Nat.le_of_ble_eq_true rfl) (ci := 5) (q := (RX5, TX5, 9)) rfl rfl (by rw [k_0]; decide) (cell_5 k_0) ⟨Nat.le_of_ble_eq_true rfl, Nat.le_of_ble_eq_true rfl⟩ dX5_digest_32 (fun r32 M32 H locs h hw => ?_)
    refine lv_i2l (v := r32.toInt64) hx hb dX5_digest_35 rfl ?_
    refine lv_ladd hx hb dX5_digest_36 ?_
    refine lv_lstore_n (lv' := [(1, .long ((31 * v1) + r32.toInt64)), (0, .ref a0), (3, .int v3)]) hx hb dX5_digest_37 rfl hl (by decide) rfl (fun ls hl => ?_)
    refine lv_iinc (v := (v3 + 1)) (lv' := [(3, .int (v3 + 1)), (1, .long ((31 * v1) + r32.toInt64)), (0, .ref a0)]) hx hb dX5_digest_38 hl (k := 2) rfl rfl (by decide) rfl (fun ls hl => ?_)
    refine lv_goto (tgt := 19) hx hb dX5_digest_41 (by decide) ?_
    exact (hK19 _ _ _ _ h) H locs ls hw (lv_sub hl [2, 1, 0] rfl)
theorem wL_X5_digest_19 (S : Cx p m c meth cX5_digest 5 s args RX5 (some .long)) {Q : Int64 → MM → Prop}   : ∀ (n : Nat) (M : MM) (a0 : Nat) (v1 : Int64) (v3 : Int32), L_X5_digest_19 Z Q   n M a0 v1 v3 → WG p l e rm_X5_digest s m args below meth c 0 0 (MQl below E Z args s Q) E Z M 19 5 [(0, .ref a0), (1, .long v1), (3, .int v3)] []
  | 0, _, _, _, _, h => False.elim h
  | n + 1, M, a0, v1, v3, h => wB_X5_digest_19 S  (wL_X5_digest_19 S   n) M a0 v1 v3 h
set_option maxRecDepth 100000 in
set_option maxHeartbeats 4000000 in
theorem wB_X5_digest_0 (S : Cx p m c meth cX5_digest 5 s args RX5 (some .long)) {Q : Int64 → MM → Prop}   (M : MM) (a0 : Nat) (h : B_X5_digest_0 Z Q  M a0) : WG p l e rm_X5_digest s m args below meth c 0 0 (MQl below E Z args s Q) E Z M 0 5 [(0, .ref a0)] [] := by
  intro H locs ls hw hl
  have hx := S.1.1
  have hb := S.1.2.1
  have hown := S.1.2.2.2.1
  have hts := S.1.2.2.2.2
  refine lv_ldc2 (v := 110267) hx hb hown (hts _ wq_X5_257) dX5_digest_0 ?_
  refine lv_aload_n hx hb dX5_digest_3 rfl (lv_at hl 0 rfl) ?_
  obtain ⟨k_0, h⟩ := h
  obtain ⟨y4_1, hy_1, h⟩ := h
  refine gf_X5_33 S.1 hw k_0 hy_1 dX5_digest_4 ?_
  obtain ⟨k_2, h⟩ := h
  refine gf_X5_226 S.1 hw k_2 dX5_digest_7 ?_
  refine lv_i2l (v := (mI M 8 y4_1).toInt64) hx hb dX5_digest_10 rfl ?_
  refine lv_ladd hx hb dX5_digest_11 ?_
  refine lv_lstore_n (lv' := [(1, .long (110267 + ((mI M 8 y4_1).toInt64))), (0, .ref a0)]) hx hb dX5_digest_12 rfl hl (by decide) rfl (fun ls hl => ?_)
  refine lv_aload_n hx hb dX5_digest_13 rfl (lv_at hl 1 rfl) ?_
  refine cv_v (As := []) (rest := []) S.1 hw (k_X5_findBlocksAndWays l E Z M a0  _ h) wv_X5_181 yc_X5_findBlocksAndWays ⟨rfl, rfl⟩ ⟨Nat.le_of_ble_eq_true rfl, Nat.le_of_ble_eq_true rfl⟩ rfl hl.1 (Nat.le_of_ble_eq_true rfl) (ci := 5) (q := (RX5, TX5, 9)) rfl rfl (by rw [k_0]; decide) (cell_5 k_0) ⟨Nat.le_of_ble_eq_true rfl, Nat.le_of_ble_eq_true rfl⟩ dX5_digest_14 (fun M14 H locs h hw => ?_)
  refine lv_iconst (v := 0) hx hb dX5_digest_17 (by decide) ?_
  refine lv_istore_n (lv' := [(3, .int 0), (1, .long (110267 + ((mI M 8 y4_1).toInt64))), (0, .ref a0)]) hx hb dX5_digest_18 rfl hl (by decide) rfl (fun ls hl => ?_)
  exact ((Exists.elim h (fun n h => wL_X5_digest_19 S   n _ _ _ _ h))) H locs ls hw (lv_sub hl [2, 1, 0] rfl)
set_option maxRecDepth 100000 in
set_option maxHeartbeats 4000000 in
theorem k_X5_digest (l : Launch) (E : EE) (Z : ZZ) (M : MM) (a0 : Nat) (Q : Int64 → MM → Prop) (h : P_X5_digest Z M a0 Q) : Ct_l l yX5_digest cX5_digest 5 (some .long) rm_X5_digest E Z M [.ref a0] Q := by
  refine Met.ofW (cc := cX5_digest) (maxL := 5) (ret := some .long) (by decide) rfl ?_
  intro p e s m args below meth c s₁ B hml hv
  obtain ⟨rfl, hK, hP, hD, hZ⟩ := hv
  have S : Cx p m c meth cX5_digest 5 s _ RX5 (some .long) := ⟨⟨B.exec, B.bytes, hml, findClass_of_methodNamed B.named, fun w hw => atoms_spec (ws := ws_ yX5_digest cX5_digest 5 (some .long)) B.pre w (List.mem_cons_of_mem _ hw)⟩, B.returns, B.notSynchronized⟩
  have hl := lv_entry ([.ref a0]) (n := 5) (Nat.le_of_ble_eq_true rfl)
  rw [lg_entry_eq]
  generalize (lg_sl ([.ref a0]) ++ List.replicate (5 - (lg_sl ([.ref a0])).length) Slot.unset).toArray = ls at hl ⊢
  exact (wB_X5_digest_0 S  M a0 h) s.heap [] ls ⟨hK, hP, hD, va_S.rf, hZ⟩ hl
