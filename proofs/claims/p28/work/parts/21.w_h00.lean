variable {p : Program} {l : Launch} {e : Env} {s : State} {m : MethodId} {args : Array Value} {below : List Frame} {meth : Method} {c : Code} {E : EE} {Z : ZZ}
set_option maxRecDepth 100000 in
set_option maxHeartbeats 4000000 in
theorem wB_X5_harvest_0 (S : Cx p m c meth cX5_harvest 1 s args RX5 (some .double)) {Q : UInt64 → MM → Prop}   (M : MM) (a0 : Nat) (h : B_X5_harvest_0 Z Q  M a0) : WG p l e rm_X5_harvest s m args below meth c 0 0 (MQd below E Z args s Q) E Z M 0 1 [(0, .ref a0)] [] := by
  intro H locs ls hw hl
  have hx := S.1.1
  have hb := S.1.2.1
  refine lv_aload_n hx hb dX5_harvest_0 rfl (lv_at hl 0 rfl) ?_
  obtain ⟨k_0, h⟩ := h
  obtain ⟨y1_1, hy_1, h⟩ := h
  refine gf_X5_10 S.1 hw k_0 hy_1 dX5_harvest_1 ?_
  obtain ⟨k_2, h⟩ := h
  refine gf_X5_84 S.1 hw k_2 dX5_harvest_4 ?_
  refine lv_if_ne (tgt := 14) hx hb dX5_harvest_7 (by decide) (fun q_7 => ?_) (fun q_7 => ?_)
  · have h := h.1 q_7
    refine lv_aload_n hx hb dX5_harvest_14 rfl (lv_at hl 0 rfl) ?_
    refine gf_X5_10 S.1 hw k_0 hy_1 dX5_harvest_15 ?_
    refine gf_X5_221 S.1 hw k_2 dX5_harvest_18 ?_
    refine lv_i2d hx hb dX5_harvest_21 ?_
    refine lv_aload_n hx hb dX5_harvest_22 rfl (lv_at hl 0 rfl) ?_
    refine gf_X5_10 S.1 hw k_0 hy_1 dX5_harvest_23 ?_
    refine gf_X5_84 S.1 hw k_2 dX5_harvest_26 ?_
    refine lv_i2d hx hb dX5_harvest_29 ?_
    obtain ⟨z_30, h⟩ := h
    refine lv_ddiv hx hb dX5_harvest_30 z_30 ?_
    exact we_d S hw h dX5_harvest_31
  · have h := h.2 q_7
    refine lv_dconst0 hx hb dX5_harvest_10 ?_
    refine lv_goto (tgt := 31) hx hb dX5_harvest_11 (by decide) ?_
    exact we_d S hw h dX5_harvest_31
set_option maxRecDepth 100000 in
set_option maxHeartbeats 4000000 in
theorem k_X5_harvest (l : Launch) (E : EE) (Z : ZZ) (M : MM) (a0 : Nat) (Q : UInt64 → MM → Prop) (h : P_X5_harvest Z M a0 Q) : Ct_d l yX5_harvest cX5_harvest 1 (some .double) rm_X5_harvest E Z M [.ref a0] Q := by
  refine Met.ofW (cc := cX5_harvest) (maxL := 1) (ret := some .double) (by decide) rfl ?_
  intro p e s m args below meth c s₁ B hml hv
  obtain ⟨rfl, hK, hP, hD, hZ⟩ := hv
  have S : Cx p m c meth cX5_harvest 1 s _ RX5 (some .double) := ⟨⟨B.exec, B.bytes, hml, findClass_of_methodNamed B.named, fun w hw => atoms_spec (ws := ws_ yX5_harvest cX5_harvest 1 (some .double)) B.pre w (List.mem_cons_of_mem _ hw)⟩, B.returns, B.notSynchronized⟩
  have hl := lv_entry ([.ref a0]) (n := 1) (Nat.le_of_ble_eq_true rfl)
  rw [lg_entry_eq]
  generalize (lg_sl ([.ref a0]) ++ List.replicate (1 - (lg_sl ([.ref a0])).length) Slot.unset).toArray = ls at hl ⊢
  exact (wB_X5_harvest_0 S  M a0 h) s.heap [] ls ⟨hK, hP, hD, va_S.rf, hZ⟩ hl
set_option maxRecDepth 100000 in
set_option maxHeartbeats 4000000 in
theorem wB_L_cell_0 {b L : Nat} {xs : Nat → Int32} {Q : Int32 → MM → Prop} (S : Cx p m c meth cL_cell 2 s args RL (some .int)) (T : va_X b L xs s s.heap ∧ b < s.heap.size ∧ ¬ inL Z b)   (M : MM) (v1 : Int32) (h : B_L_cell_0 Z L xs Q  M v1) : WG p l e rm_L_cell s m args below meth c 0 0 (MQi below E Z args s Q) E Z M 0 2 [(0, .ref b), (1, .int v1)] [] := by
  have hX := T.1
  have hbl := T.2.1
  have hbA := T.2.2
  intro H locs ls hw hl
  have hx := S.1.1
  have hb := S.1.2.1
  have hown := S.1.2.2.2.1
  have hts := S.1.2.2.2.2
  refine lv_iload_n hx hb dL_cell_0 rfl (lv_at hl 1 rfl) ?_
  refine lv_aload_n hx hb dL_cell_1 rfl (lv_at hl 0 rfl) ?_
  refine va_slen hx hb hX hbl hbA hw.2.2.2.1 dL_cell_2 ?_
  refine lv_icmp_ge (tgt := 12) hx hb dL_cell_3 (by decide) (fun q_3 => ?_) (fun q_3 => ?_)
  · have h := h.1 q_3
    refine lv_ldc (v := 1116352408) hx hb hown (hts _ wq_L_7) dL_cell_12 ?_
    refine lv_iload_n hx hb dL_cell_14 rfl (lv_at hl 1 rfl) ?_
    refine lv_sipush (v := 619) hx hb dL_cell_15 (by decide) ?_
    refine lv_iadd hx hb dL_cell_18 ?_
    refine lv_imul hx hb dL_cell_19 ?_
    exact we_i S hw h dL_cell_20
  · have h := h.2 q_3
    refine lv_aload_n hx hb dL_cell_6 rfl (lv_at hl 0 rfl) ?_
    refine lv_iload_n hx hb dL_cell_7 rfl (lv_at hl 1 rfl) ?_
    obtain ⟨i_8, h⟩ := h
    refine va_sld hx hb hX hbl hbA hw.2.2.2.1 i_8 dL_cell_8 ?_
    refine lv_goto (tgt := 20) hx hb dL_cell_9 (by decide) ?_
    exact we_i S hw h dL_cell_20
set_option maxRecDepth 100000 in
set_option maxHeartbeats 4000000 in
theorem k_L_cell (l : Launch) (E : EE) (Z : ZZ) (b L : Nat) (xs : Nat → Int32) (M : MM) (v1 : Int32) (Q : Int32 → MM → Prop) (h : P_L_cell Z L xs M v1 Q) : Cs_i l yL_cell cL_cell 2 (some .int) rm_L_cell E Z M b L xs [.ref b, .int v1] Q := by
  refine Met.ofW (cc := cL_cell) (maxL := 2) (ret := some .int) (by decide) rfl ?_
  intro p e s m args below meth c s₁ B hml hv
  obtain ⟨rfl, ⟨hK, hP, hD, hZ⟩, T⟩ := hv
  have S : Cx p m c meth cL_cell 2 s _ RL (some .int) := ⟨⟨B.exec, B.bytes, hml, findClass_of_methodNamed B.named, fun w hw => atoms_spec (ws := ws_ yL_cell cL_cell 2 (some .int)) B.pre w (List.mem_cons_of_mem _ hw)⟩, B.returns, B.notSynchronized⟩
  have hl := lv_entry ([.ref b, .int v1]) (n := 2) (Nat.le_of_ble_eq_true rfl)
  rw [lg_entry_eq]
  generalize (lg_sl ([.ref b, .int v1]) ++ List.replicate (2 - (lg_sl ([.ref b, .int v1])).length) Slot.unset).toArray = ls at hl ⊢
  exact (wB_L_cell_0 S T M v1 h) s.heap [] ls ⟨hK, hP, hD, va_S.rf, hZ⟩ hl
set_option maxRecDepth 100000 in
set_option maxHeartbeats 4000000 in
theorem wB_L_up_0 (S : Cx p m c meth cL_up 2 s args RL (some .int)) {Q : Int32 → MM → Prop}   (M : MM) (v0 : Int32) (v1 : Int32) (h : B_L_up_0 Z Q  M v0 v1) : WG p l e rm_L_up s m args below meth c 0 0 (MQi below E Z args s Q) E Z M 0 2 [(0, .int v0), (1, .int v1)] [] := by
  intro H locs ls hw hl
  have hx := S.1.1
  have hb := S.1.2.1
  have hown := S.1.2.2.2.1
  have hts := S.1.2.2.2.2
  refine lv_iload_n hx hb dL_up_0 rfl (lv_at hl 0 rfl) ?_
  refine lv_ldc (v := 2147483647) hx hb hown (hts _ wq_L_8) dL_up_1 ?_
  refine lv_iand hx hb dL_up_3 ?_
  refine lv_iload_n hx hb dL_up_4 rfl (lv_at hl 1 rfl) ?_
  obtain ⟨z_5, h⟩ := h
  refine lv_irem hx hb dL_up_5 z_5 ?_
  exact we_i S hw h dL_up_6
set_option maxRecDepth 100000 in
set_option maxHeartbeats 4000000 in
theorem k_L_up (l : Launch) (E : EE) (Z : ZZ) (M : MM) (v0 : Int32) (v1 : Int32) (Q : Int32 → MM → Prop) (h : P_L_up Z M v0 v1 Q) : Ct_i l yL_up cL_up 2 (some .int) rm_L_up E Z M [.int v0, .int v1] Q := by
  refine Met.ofW (cc := cL_up) (maxL := 2) (ret := some .int) (by decide) rfl ?_
  intro p e s m args below meth c s₁ B hml hv
  obtain ⟨rfl, hK, hP, hD, hZ⟩ := hv
  have S : Cx p m c meth cL_up 2 s _ RL (some .int) := ⟨⟨B.exec, B.bytes, hml, findClass_of_methodNamed B.named, fun w hw => atoms_spec (ws := ws_ yL_up cL_up 2 (some .int)) B.pre w (List.mem_cons_of_mem _ hw)⟩, B.returns, B.notSynchronized⟩
  have hl := lv_entry ([.int v0, .int v1]) (n := 2) (Nat.le_of_ble_eq_true rfl)
  rw [lg_entry_eq]
  generalize (lg_sl ([.int v0, .int v1]) ++ List.replicate (2 - (lg_sl ([.int v0, .int v1])).length) Slot.unset).toArray = ls at hl ⊢
  exact (wB_L_up_0 S  M v0 v1 h) s.heap [] ls ⟨hK, hP, hD, va_S.rf, hZ⟩ hl
set_option maxRecDepth 100000 in
set_option maxHeartbeats 4000000 in
theorem wB_L_turned_0 (S : Cx p m c meth cL_turned 2 s args RL (some .int)) {Q : Int32 → MM → Prop}   (M : MM) (v0 : Int32) (v1 : Int32) (h : B_L_turned_0 Z Q  M v0 v1) : WG p l e rm_L_turned s m args below meth c 0 0 (MQi below E Z args s Q) E Z M 0 2 [(0, .int v0), (1, .int v1)] [] := by
  intro H locs ls hw hl
  have hx := S.1.1
  have hb := S.1.2.1
  refine lv_iload_n hx hb dL_turned_0 rfl (lv_at hl 0 rfl) ?_
  refine lv_iload_n hx hb dL_turned_1 rfl (lv_at hl 0 rfl) ?_
  refine lv_iload_n hx hb dL_turned_2 rfl (lv_at hl 1 rfl) ?_
  obtain ⟨z_3, h⟩ := h
  refine lv_irem hx hb dL_turned_3 z_3 ?_
  refine lv_isub hx hb dL_turned_4 ?_
  refine lv_iload_n hx hb dL_turned_5 rfl (lv_at hl 1 rfl) ?_
  refine lv_iadd hx hb dL_turned_6 ?_
  refine lv_iconst (v := 1) hx hb dL_turned_7 (by decide) ?_
  refine lv_isub hx hb dL_turned_8 ?_
  refine lv_iload_n hx hb dL_turned_9 rfl (lv_at hl 0 rfl) ?_
  refine lv_iload_n hx hb dL_turned_10 rfl (lv_at hl 1 rfl) ?_
  obtain ⟨z_11, h⟩ := h
  refine lv_irem hx hb dL_turned_11 z_11 ?_
  refine lv_isub hx hb dL_turned_12 ?_
  exact we_i S hw h dL_turned_13
set_option maxRecDepth 100000 in
set_option maxHeartbeats 4000000 in
theorem k_L_turned (l : Launch) (E : EE) (Z : ZZ) (M : MM) (v0 : Int32) (v1 : Int32) (Q : Int32 → MM → Prop) (h : P_L_turned Z M v0 v1 Q) : Ct_i l yL_turned cL_turned 2 (some .int) rm_L_turned E Z M [.int v0, .int v1] Q := by
  refine Met.ofW (cc := cL_turned) (maxL := 2) (ret := some .int) (by decide) rfl ?_
  intro p e s m args below meth c s₁ B hml hv
  obtain ⟨rfl, hK, hP, hD, hZ⟩ := hv
  have S : Cx p m c meth cL_turned 2 s _ RL (some .int) := ⟨⟨B.exec, B.bytes, hml, findClass_of_methodNamed B.named, fun w hw => atoms_spec (ws := ws_ yL_turned cL_turned 2 (some .int)) B.pre w (List.mem_cons_of_mem _ hw)⟩, B.returns, B.notSynchronized⟩
  have hl := lv_entry ([.int v0, .int v1]) (n := 2) (Nat.le_of_ble_eq_true rfl)
  rw [lg_entry_eq]
  generalize (lg_sl ([.int v0, .int v1]) ++ List.replicate (2 - (lg_sl ([.int v0, .int v1])).length) Slot.unset).toArray = ls at hl ⊢
  exact (wB_L_turned_0 S  M v0 v1 h) s.heap [] ls ⟨hK, hP, hD, va_S.rf, hZ⟩ hl
set_option maxRecDepth 100000 in
set_option maxHeartbeats 4000000 in
theorem wB_L_isStep_177 (S : Cx p m c meth cL_isStep 11 s args RL (some .boolean)) {Q : Int32 → MM → Prop} {K182 : MM → Nat → Nat → Int32 → Int32 → Int32 → Int32 → Prop} (hK182 : ∀ (M : MM) (a0 : Nat) (a1 : Nat) (v6 : Int32) (v7 : Int32) (v8 : Int32) (t0 : Int32), K182 M a0 a1 v6 v7 v8 t0 → WG p l e rm_L_isStep s m args below meth c 0 0 (MQi below E Z args s Q) E Z M 182 11 [(0, .ref a0), (1, .ref a1), (6, .int v6), (7, .int v7), (8, .int v8)] [.int t0]) (M : MM) (a0 : Nat) (a1 : Nat) (v6 : Int32) (v7 : Int32) (v8 : Int32) (h : B_L_isStep_177 Z Q K182 M a0 a1 v6 v7 v8) : WG p l e rm_L_isStep s m args below meth c 0 0 (MQi below E Z args s Q) E Z M 177 11 [(0, .ref a0), (1, .ref a1), (6, .int v6), (7, .int v7), (8, .int v8)] [] := by
  intro H locs ls hw hl
  have hx := S.1.1
  have hb := S.1.2.1
  refine lv_iconst (v := 1) hx hb dL_isStep_177 (by decide) ?_
  refine lv_goto (tgt := 182) hx hb dL_isStep_178 (by decide) ?_
  exact (hK182 _ _ _ _ _ _ _ h) H locs ls hw (lv_sub hl [0, 1, 2, 3, 4] rfl)
set_option maxRecDepth 100000 in
set_option maxHeartbeats 4000000 in
theorem wB_L_isStep_221 (S : Cx p m c meth cL_isStep 11 s args RL (some .boolean)) {Q : Int32 → MM → Prop}   (M : MM) (t0 : Int32) (t1 : Int32) (t2 : Nat) (t3 : Int32) (h : B_L_isStep_221 Z Q  M t0 t1 t2 t3) : WG p l e rm_L_isStep s m args below meth c 0 0 (MQi below E Z args s Q) E Z M 221 11 [] [.int t0, .int t1, .ref t2, .int t3] := by
  intro H locs ls hw hl
  have hx := S.1.1
  have hb := S.1.2.1
  obtain ⟨k_0, h⟩ := h
  refine cv_i (As := [.int t1, .int t0]) (rest := [.int t3]) S.1 hw (k_X5_saw l E Z M t2 t1 t0 _ h) wv_L_24 yc_X5_saw ⟨rfl, rfl⟩ ⟨Nat.le_of_ble_eq_true rfl, Nat.le_of_ble_eq_true rfl⟩ rfl hl.1 (Nat.le_of_ble_eq_true rfl) (ci := 5) (q := (RX5, TX5, 9)) rfl rfl (by rw [k_0]; decide) (cell_5 k_0) ⟨Nat.le_of_ble_eq_true rfl, Nat.le_of_ble_eq_true rfl⟩ dL_isStep_221 (fun r221 M221 H locs h hw => ?_)
  refine lv_icmp_ne (tgt := 231) hx hb dL_isStep_224 (by decide) (fun q_224 => ?_) (fun q_224 => ?_)
  · have h := h.1 q_224
    refine lv_iconst (v := 0) hx hb dL_isStep_231 (by decide) ?_
    exact we_z S hw rfl (by rfl) h dL_isStep_232
  · have h := h.2 q_224
    refine lv_iconst (v := 1) hx hb dL_isStep_227 (by decide) ?_
    refine lv_goto (tgt := 232) hx hb dL_isStep_228 (by decide) ?_
    exact we_z S hw rfl (by rfl) h dL_isStep_232
set_option maxRecDepth 100000 in
set_option maxHeartbeats 4000000 in
theorem wB_L_isStep_182 (S : Cx p m c meth cL_isStep 11 s args RL (some .boolean)) {Q : Int32 → MM → Prop}   (M : MM) (a0 : Nat) (a1 : Nat) (v6 : Int32) (v7 : Int32) (v8 : Int32) (t0 : Int32) (h : B_L_isStep_182 Z Q  M a0 a1 v6 v7 v8 t0) : WG p l e rm_L_isStep s m args below meth c 0 0 (MQi below E Z args s Q) E Z M 182 11 [(0, .ref a0), (1, .ref a1), (6, .int v6), (7, .int v7), (8, .int v8)] [.int t0] := by
  intro H locs ls hw hl
  have hx := S.1.1
  have hb := S.1.2.1
  refine lv_istore (lv' := [(9, .int t0), (0, .ref a0), (1, .ref a1), (6, .int v6), (7, .int v7), (8, .int v8)]) hx hb dL_isStep_182 hl (by decide) rfl (fun ls hl => ?_)
  refine lv_iload hx hb dL_isStep_184 (lv_at hl 0 rfl) ?_
  refine lv_if_eq (tgt := 227) hx hb dL_isStep_186 (by decide) (fun q_186 => ?_) (fun q_186 => ?_)
  · have h := h.1 q_186
    refine lv_iconst (v := 1) hx hb dL_isStep_227 (by decide) ?_
    refine lv_goto (tgt := 232) hx hb dL_isStep_228 (by decide) ?_
    exact we_z S hw rfl (by rfl) h dL_isStep_232
  · have h := h.2 q_186
    refine lv_aload_n hx hb dL_isStep_189 rfl (lv_at hl 1 rfl) ?_
    refine lv_iload hx hb dL_isStep_190 (lv_at hl 3 rfl) ?_
    refine lv_iload hx hb dL_isStep_192 (lv_at hl 5 rfl) ?_
    obtain ⟨k_0, h⟩ := h
    refine cv_i (As := [.int v6, .int v8]) (rest := []) S.1 hw (k_X5_saw l E Z M a0 v6 v8 _ h) wv_L_24 yc_X5_saw ⟨rfl, rfl⟩ ⟨Nat.le_of_ble_eq_true rfl, Nat.le_of_ble_eq_true rfl⟩ rfl hl.1 (Nat.le_of_ble_eq_true rfl) (ci := 5) (q := (RX5, TX5, 9)) rfl rfl (by rw [k_0]; decide) (cell_5 k_0) ⟨Nat.le_of_ble_eq_true rfl, Nat.le_of_ble_eq_true rfl⟩ dL_isStep_194 (fun r194 M194 H locs h hw => ?_)
    refine lv_aload_n hx hb dL_isStep_197 rfl (lv_at hl 2 rfl) ?_
    refine lv_iload hx hb dL_isStep_198 (lv_at hl 4 rfl) ?_
    refine lv_iload hx hb dL_isStep_200 (lv_at hl 5 rfl) ?_
    refine lv_if_ne (tgt := 209) hx hb dL_isStep_202 (by decide) (fun q_202 => ?_) (fun q_202 => ?_)
    · have h := h.1 q_202
      refine lv_iload hx hb dL_isStep_209 (lv_at hl 5 rfl) ?_
      refine lv_iconst (v := 3) hx hb dL_isStep_211 (by decide) ?_
      refine lv_icmp_ne (tgt := 219) hx hb dL_isStep_212 (by decide) (fun q_212 => ?_) (fun q_212 => ?_)
      · have h := h.1 q_212
        refine lv_iload hx hb dL_isStep_219 (lv_at hl 5 rfl) ?_
        exact ((wB_L_isStep_221 S   _ _ _ _ _ h)) H locs ls hw (lv_sub hl [] rfl)
      · have h := h.2 q_212
        refine lv_iconst (v := 0) hx hb dL_isStep_215 (by decide) ?_
        refine lv_goto (tgt := 221) hx hb dL_isStep_216 (by decide) ?_
        exact ((wB_L_isStep_221 S   _ _ _ _ _ h)) H locs ls hw (lv_sub hl [] rfl)
    · have h := h.2 q_202
      refine lv_iconst (v := 3) hx hb dL_isStep_205 (by decide) ?_
      refine lv_goto (tgt := 221) hx hb dL_isStep_206 (by decide) ?_
      exact ((wB_L_isStep_221 S   _ _ _ _ _ h)) H locs ls hw (lv_sub hl [] rfl)
set_option maxRecDepth 100000 in
set_option maxHeartbeats 4000000 in
theorem wB_L_isStep_0 (S : Cx p m c meth cL_isStep 11 s args RL (some .boolean)) {Q : Int32 → MM → Prop}   (M : MM) (a0 : Nat) (a1 : Nat) (v2 : Int32) (h : B_L_isStep_0 Z Q  M a0 a1 v2) : WG p l e rm_L_isStep s m args below meth c 0 0 (MQi below E Z args s Q) E Z M 0 11 [(0, .ref a0), (1, .ref a1), (2, .int v2)] [] := by
  intro H locs ls hw hl
  have hx := S.1.1
  have hb := S.1.2.1
  refine lv_iload_n hx hb dL_isStep_0 rfl (lv_at hl 2 rfl) ?_
  refine lv_iconst (v := 4) hx hb dL_isStep_1 (by decide) ?_
  refine lv_ishr hx hb dL_isStep_2 ?_
  refine lv_istore_n (lv' := [(3, .int (v2 >>> ((4 : Int32) &&& 31))), (0, .ref a0), (1, .ref a1), (2, .int v2)]) hx hb dL_isStep_3 rfl hl (by decide) rfl (fun ls hl => ?_)
  refine lv_aload_n hx hb dL_isStep_4 rfl (lv_at hl 1 rfl) ?_
  refine lv_iconst (v := 0) hx hb dL_isStep_5 (by decide) ?_
  obtain ⟨k_0, h⟩ := h
  refine cv_i (As := [.int 0]) (rest := []) S.1 hw (k_X5_value l E Z M a0 0 _ h) wv_L_9 yc_X5_value ⟨rfl, rfl⟩ ⟨Nat.le_of_ble_eq_true rfl, Nat.le_of_ble_eq_true rfl⟩ rfl hl.1 (Nat.le_of_ble_eq_true rfl) (ci := 5) (q := (RX5, TX5, 9)) rfl rfl (by rw [k_0]; decide) (cell_5 k_0) ⟨Nat.le_of_ble_eq_true rfl, Nat.le_of_ble_eq_true rfl⟩ dL_isStep_6 (fun r6 M6 H locs h hw => ?_)
  refine lv_istore (lv' := [(4, .int r6), (3, .int (v2 >>> ((4 : Int32) &&& 31))), (0, .ref a0), (1, .ref a1), (2, .int v2)]) hx hb dL_isStep_9 hl (by decide) rfl (fun ls hl => ?_)
  refine lv_aload_n hx hb dL_isStep_11 rfl (lv_at hl 2 rfl) ?_
  refine lv_iconst (v := 1) hx hb dL_isStep_12 (by decide) ?_
  refine cv_i (As := [.int 1]) (rest := []) S.1 hw (k_X5_value l E Z M6 a0 1 _ h) wv_L_9 yc_X5_value ⟨rfl, rfl⟩ ⟨Nat.le_of_ble_eq_true rfl, Nat.le_of_ble_eq_true rfl⟩ rfl hl.1 (Nat.le_of_ble_eq_true rfl) (ci := 5) (q := (RX5, TX5, 9)) rfl rfl (by rw [k_0]; decide) (cell_5 k_0) ⟨Nat.le_of_ble_eq_true rfl, Nat.le_of_ble_eq_true rfl⟩ dL_isStep_13 (fun r13 M13 H locs h hw => ?_)
  refine lv_istore (lv' := [(5, .int r13), (4, .int r6), (3, .int (v2 >>> ((4 : Int32) &&& 31))), (0, .ref a0), (1, .ref a1), (2, .int v2)]) hx hb dL_isStep_16 hl (by decide) rfl (fun ls hl => ?_)
  refine lv_iload_n hx hb dL_isStep_18 rfl (lv_at hl 2 rfl) ?_
  refine lv_iload hx hb dL_isStep_19 (lv_at hl 1 rfl) ?_
  refine lv_iload hx hb dL_isStep_21 (lv_at hl 0 rfl) ?_
  refine lv_imul hx hb dL_isStep_23 ?_
  refine cs_i (As := [.int (v2 >>> ((4 : Int32) &&& 31)), .int (r6 * r13)]) (rest := []) S.1 hw (k_L_up l E Z M13 (v2 >>> ((4 : Int32) &&& 31)) (r6 * r13) _ h) wv_L_15 yc_L_up ⟨rfl, rfl⟩ ⟨Nat.le_of_ble_eq_true rfl, Nat.le_of_ble_eq_true rfl⟩ rfl hl.1 (Nat.le_of_ble_eq_true rfl) ⟨Nat.le_of_ble_eq_true rfl, Nat.le_of_ble_eq_true rfl⟩ dL_isStep_24 (fun r24 M24 H locs h hw => ?_)
  refine lv_istore (lv' := [(6, .int r24), (5, .int r13), (4, .int r6), (3, .int (v2 >>> ((4 : Int32) &&& 31))), (0, .ref a0), (1, .ref a1), (2, .int v2)]) hx hb dL_isStep_27 hl (by decide) rfl (fun ls hl => ?_)
  refine lv_iload hx hb dL_isStep_29 (lv_at hl 0 rfl) ?_
  refine lv_iload hx hb dL_isStep_31 (lv_at hl 2 rfl) ?_
  refine cs_i (As := [.int r24, .int r6]) (rest := []) S.1 hw (k_L_turned l E Z M24 r24 r6 _ h) wv_L_21 yc_L_turned ⟨rfl, rfl⟩ ⟨Nat.le_of_ble_eq_true rfl, Nat.le_of_ble_eq_true rfl⟩ rfl hl.1 (Nat.le_of_ble_eq_true rfl) ⟨Nat.le_of_ble_eq_true rfl, Nat.le_of_ble_eq_true rfl⟩ dL_isStep_33 (fun r33 M33 H locs h hw => ?_)
  refine lv_istore (lv' := [(7, .int r33), (6, .int r24), (5, .int r13), (4, .int r6), (3, .int (v2 >>> ((4 : Int32) &&& 31))), (0, .ref a0), (1, .ref a1), (2, .int v2)]) hx hb dL_isStep_36 hl (by decide) rfl (fun ls hl => ?_)
  refine lv_iload_n hx hb dL_isStep_38 rfl (lv_at hl 7 rfl) ?_
  refine lv_bipush (v := 12) hx hb dL_isStep_39 (by decide) ?_
  refine cs_i (As := [.int v2, .int 12]) (rest := []) S.1 hw (k_L_up l E Z M33 v2 12 _ h) wv_L_15 yc_L_up ⟨rfl, rfl⟩ ⟨Nat.le_of_ble_eq_true rfl, Nat.le_of_ble_eq_true rfl⟩ rfl hl.1 (Nat.le_of_ble_eq_true rfl) ⟨Nat.le_of_ble_eq_true rfl, Nat.le_of_ble_eq_true rfl⟩ dL_isStep_41 (fun r41 M41 H locs h hw => ?_)
  by_cases q_44_0 : r41 = 0
  · have h := h.1 q_44_0
    refine lv_tableIn (tgt := 104) hx hb dL_isStep_44 (by rw [q_44_0]; decide) (by rw [q_44_0]; decide) (by rw [q_44_0]; rfl) (by decide) ?_
    refine lv_iload_n hx hb dL_isStep_104 rfl (lv_at hl 4 rfl) ?_
    refine lv_bipush (v := 7) hx hb dL_isStep_105 (by decide) ?_
    refine lv_ishr hx hb dL_isStep_107 ?_
    refine lv_iconst (v := 3) hx hb dL_isStep_108 (by decide) ?_
    refine lv_iand hx hb dL_isStep_109 ?_
    refine lv_istore (lv' := [(8, .int (((v2 >>> ((4 : Int32) &&& 31)) >>> ((7 : Int32) &&& 31)) &&& 3)), (7, .int r33), (6, .int r24), (5, .int r13), (4, .int r6), (3, .int (v2 >>> ((4 : Int32) &&& 31))), (0, .ref a0), (1, .ref a1), (2, .int v2)]) hx hb dL_isStep_110 hl (by decide) rfl (fun ls hl => ?_)
    refine lv_iload hx hb dL_isStep_112 (lv_at hl 0 rfl) ?_
    refine lv_if_ne (tgt := 137) hx hb dL_isStep_114 (by decide) (fun q_114 => ?_) (fun q_114 => ?_)
    · have h := h.1 q_114
      refine lv_iload hx hb dL_isStep_137 (lv_at hl 0 rfl) ?_
      refine lv_iconst (v := 1) hx hb dL_isStep_139 (by decide) ?_
      refine lv_icmp_ne (tgt := 163) hx hb dL_isStep_140 (by decide) (fun q_140 => ?_) (fun q_140 => ?_)
      · have h := h.1 q_140
        refine lv_iload hx hb dL_isStep_163 (lv_at hl 0 rfl) ?_
        refine lv_iconst (v := 2) hx hb dL_isStep_165 (by decide) ?_
        refine lv_icmp_eq (tgt := 177) hx hb dL_isStep_166 (by decide) (fun q_166 => ?_) (fun q_166 => ?_)
        · have h := h.1 q_166
          exact ((wB_L_isStep_177 S  (fun M1 a0 a1 v6 v7 v8 t0 h => (wB_L_isStep_182 S   _ _ _ _ _ _ _ h)) _ _ _ _ _ _ h)) H locs ls hw (lv_sub hl [6, 7, 2, 1, 0] rfl)
        · have h := h.2 q_166
          refine lv_iload hx hb dL_isStep_169 (lv_at hl 2 rfl) ?_
          refine lv_iload hx hb dL_isStep_171 (lv_at hl 4 rfl) ?_
          obtain ⟨z_173, h⟩ := h
          refine lv_irem hx hb dL_isStep_173 z_173 ?_
          refine lv_if_le (tgt := 181) hx hb dL_isStep_174 (by decide) (fun q_174 => ?_) (fun q_174 => ?_)
          · have h := h.1 q_174
            refine lv_iconst (v := 0) hx hb dL_isStep_181 (by decide) ?_
            exact ((wB_L_isStep_182 S   _ _ _ _ _ _ _ h)) H locs ls hw (lv_sub hl [6, 7, 2, 1, 0] rfl)
          · have h := h.2 q_174
            exact ((wB_L_isStep_177 S  (fun M1 a0 a1 v6 v7 v8 t0 h => (wB_L_isStep_182 S   _ _ _ _ _ _ _ h)) _ _ _ _ _ _ h)) H locs ls hw (lv_sub hl [6, 7, 2, 1, 0] rfl)
      · have h := h.2 q_140
        refine lv_iload hx hb dL_isStep_143 (lv_at hl 2 rfl) ?_
        refine lv_iload hx hb dL_isStep_145 (lv_at hl 4 rfl) ?_
        obtain ⟨z_147, h⟩ := h
        refine lv_idiv hx hb dL_isStep_147 z_147 ?_
        refine lv_iload hx hb dL_isStep_148 (lv_at hl 3 rfl) ?_
        refine lv_iconst (v := 1) hx hb dL_isStep_150 (by decide) ?_
        refine lv_isub hx hb dL_isStep_151 ?_
        refine lv_icmp_ge (tgt := 159) hx hb dL_isStep_152 (by decide) (fun q_152 => ?_) (fun q_152 => ?_)
        · have h := h.1 q_152
          refine lv_iconst (v := 0) hx hb dL_isStep_159 (by decide) ?_
          refine lv_goto (tgt := 182) hx hb dL_isStep_160 (by decide) ?_
          exact ((wB_L_isStep_182 S   _ _ _ _ _ _ _ h)) H locs ls hw (lv_sub hl [6, 7, 2, 1, 0] rfl)
        · have h := h.2 q_152
          refine lv_iconst (v := 1) hx hb dL_isStep_155 (by decide) ?_
          refine lv_goto (tgt := 182) hx hb dL_isStep_156 (by decide) ?_
          exact ((wB_L_isStep_182 S   _ _ _ _ _ _ _ h)) H locs ls hw (lv_sub hl [6, 7, 2, 1, 0] rfl)
    · have h := h.2 q_114
      refine lv_iload hx hb dL_isStep_117 (lv_at hl 2 rfl) ?_
      refine lv_iload hx hb dL_isStep_119 (lv_at hl 4 rfl) ?_
      obtain ⟨z_121, h⟩ := h
      refine lv_irem hx hb dL_isStep_121 z_121 ?_
      refine lv_iload hx hb dL_isStep_122 (lv_at hl 4 rfl) ?_
      refine lv_iconst (v := 1) hx hb dL_isStep_124 (by decide) ?_
      refine lv_isub hx hb dL_isStep_125 ?_
      refine lv_icmp_ge (tgt := 133) hx hb dL_isStep_126 (by decide) (fun q_126 => ?_) (fun q_126 => ?_)
      · have h := h.1 q_126
        refine lv_iconst (v := 0) hx hb dL_isStep_133 (by decide) ?_
        refine lv_goto (tgt := 182) hx hb dL_isStep_134 (by decide) ?_
        exact ((wB_L_isStep_182 S   _ _ _ _ _ _ _ h)) H locs ls hw (lv_sub hl [6, 7, 2, 1, 0] rfl)
      · have h := h.2 q_126
        refine lv_iconst (v := 1) hx hb dL_isStep_129 (by decide) ?_
        refine lv_goto (tgt := 182) hx hb dL_isStep_130 (by decide) ?_
        exact ((wB_L_isStep_182 S   _ _ _ _ _ _ _ h)) H locs ls hw (lv_sub hl [6, 7, 2, 1, 0] rfl)
  · have h := h.2 q_44_0
    by_cases q_44_1 : r41 = 1
    · have h := h.1 q_44_1
      refine lv_tableIn (tgt := 104) hx hb dL_isStep_44 (by rw [q_44_1]; decide) (by rw [q_44_1]; decide) (by rw [q_44_1]; rfl) (by decide) ?_
      refine lv_iload_n hx hb dL_isStep_104 rfl (lv_at hl 4 rfl) ?_
      refine lv_bipush (v := 7) hx hb dL_isStep_105 (by decide) ?_
      refine lv_ishr hx hb dL_isStep_107 ?_
      refine lv_iconst (v := 3) hx hb dL_isStep_108 (by decide) ?_
      refine lv_iand hx hb dL_isStep_109 ?_
      refine lv_istore (lv' := [(8, .int (((v2 >>> ((4 : Int32) &&& 31)) >>> ((7 : Int32) &&& 31)) &&& 3)), (7, .int r33), (6, .int r24), (5, .int r13), (4, .int r6), (3, .int (v2 >>> ((4 : Int32) &&& 31))), (0, .ref a0), (1, .ref a1), (2, .int v2)]) hx hb dL_isStep_110 hl (by decide) rfl (fun ls hl => ?_)
      refine lv_iload hx hb dL_isStep_112 (lv_at hl 0 rfl) ?_
      refine lv_if_ne (tgt := 137) hx hb dL_isStep_114 (by decide) (fun q_114 => ?_) (fun q_114 => ?_)
      · have h := h.1 q_114
        refine lv_iload hx hb dL_isStep_137 (lv_at hl 0 rfl) ?_
        refine lv_iconst (v := 1) hx hb dL_isStep_139 (by decide) ?_
        refine lv_icmp_ne (tgt := 163) hx hb dL_isStep_140 (by decide) (fun q_140 => ?_) (fun q_140 => ?_)
        · have h := h.1 q_140
          refine lv_iload hx hb dL_isStep_163 (lv_at hl 0 rfl) ?_
          refine lv_iconst (v := 2) hx hb dL_isStep_165 (by decide) ?_
          refine lv_icmp_eq (tgt := 177) hx hb dL_isStep_166 (by decide) (fun q_166 => ?_) (fun q_166 => ?_)
          · have h := h.1 q_166
            exact ((wB_L_isStep_177 S  (fun M1 a0 a1 v6 v7 v8 t0 h => (wB_L_isStep_182 S   _ _ _ _ _ _ _ h)) _ _ _ _ _ _ h)) H locs ls hw (lv_sub hl [6, 7, 2, 1, 0] rfl)
          · have h := h.2 q_166
            refine lv_iload hx hb dL_isStep_169 (lv_at hl 2 rfl) ?_
            refine lv_iload hx hb dL_isStep_171 (lv_at hl 4 rfl) ?_
            obtain ⟨z_173, h⟩ := h
            refine lv_irem hx hb dL_isStep_173 z_173 ?_
            refine lv_if_le (tgt := 181) hx hb dL_isStep_174 (by decide) (fun q_174 => ?_) (fun q_174 => ?_)
            · have h := h.1 q_174
              refine lv_iconst (v := 0) hx hb dL_isStep_181 (by decide) ?_
              exact ((wB_L_isStep_182 S   _ _ _ _ _ _ _ h)) H locs ls hw (lv_sub hl [6, 7, 2, 1, 0] rfl)
            · have h := h.2 q_174
              exact ((wB_L_isStep_177 S  (fun M1 a0 a1 v6 v7 v8 t0 h => (wB_L_isStep_182 S   _ _ _ _ _ _ _ h)) _ _ _ _ _ _ h)) H locs ls hw (lv_sub hl [6, 7, 2, 1, 0] rfl)
        · have h := h.2 q_140
          refine lv_iload hx hb dL_isStep_143 (lv_at hl 2 rfl) ?_
          refine lv_iload hx hb dL_isStep_145 (lv_at hl 4 rfl) ?_
          obtain ⟨z_147, h⟩ := h
          refine lv_idiv hx hb dL_isStep_147 z_147 ?_
          refine lv_iload hx hb dL_isStep_148 (lv_at hl 3 rfl) ?_
          refine lv_iconst (v := 1) hx hb dL_isStep_150 (by decide) ?_
          refine lv_isub hx hb dL_isStep_151 ?_
          refine lv_icmp_ge (tgt := 159) hx hb dL_isStep_152 (by decide) (fun q_152 => ?_) (fun q_152 => ?_)
          · have h := h.1 q_152
            refine lv_iconst (v := 0) hx hb dL_isStep_159 (by decide) ?_
            refine lv_goto (tgt := 182) hx hb dL_isStep_160 (by decide) ?_
            exact ((wB_L_isStep_182 S   _ _ _ _ _ _ _ h)) H locs ls hw (lv_sub hl [6, 7, 2, 1, 0] rfl)
          · have h := h.2 q_152
            refine lv_iconst (v := 1) hx hb dL_isStep_155 (by decide) ?_
            refine lv_goto (tgt := 182) hx hb dL_isStep_156 (by decide) ?_
            exact ((wB_L_isStep_182 S   _ _ _ _ _ _ _ h)) H locs ls hw (lv_sub hl [6, 7, 2, 1, 0] rfl)
      · have h := h.2 q_114
        refine lv_iload hx hb dL_isStep_117 (lv_at hl 2 rfl) ?_
        refine lv_iload hx hb dL_isStep_119 (lv_at hl 4 rfl) ?_
        obtain ⟨z_121, h⟩ := h
        refine lv_irem hx hb dL_isStep_121 z_121 ?_
        refine lv_iload hx hb dL_isStep_122 (lv_at hl 4 rfl) ?_
        refine lv_iconst (v := 1) hx hb dL_isStep_124 (by decide) ?_
        refine lv_isub hx hb dL_isStep_125 ?_
        refine lv_icmp_ge (tgt := 133) hx hb dL_isStep_126 (by decide) (fun q_126 => ?_) (fun q_126 => ?_)
        · have h := h.1 q_126
          refine lv_iconst (v := 0) hx hb dL_isStep_133 (by decide) ?_
          refine lv_goto (tgt := 182) hx hb dL_isStep_134 (by decide) ?_
          exact ((wB_L_isStep_182 S   _ _ _ _ _ _ _ h)) H locs ls hw (lv_sub hl [6, 7, 2, 1, 0] rfl)
        · have h := h.2 q_126
          refine lv_iconst (v := 1) hx hb dL_isStep_129 (by decide) ?_
          refine lv_goto (tgt := 182) hx hb dL_isStep_130 (by decide) ?_
          exact ((wB_L_isStep_182 S   _ _ _ _ _ _ _ h)) H locs ls hw (lv_sub hl [6, 7, 2, 1, 0] rfl)
    · have h := h.2 q_44_1
      by_cases q_44_2 : r41 = 2
      · have h := h.1 q_44_2
        refine lv_tableIn (tgt := 104) hx hb dL_isStep_44 (by rw [q_44_2]; decide) (by rw [q_44_2]; decide) (by rw [q_44_2]; rfl) (by decide) ?_
        refine lv_iload_n hx hb dL_isStep_104 rfl (lv_at hl 4 rfl) ?_
        refine lv_bipush (v := 7) hx hb dL_isStep_105 (by decide) ?_
        refine lv_ishr hx hb dL_isStep_107 ?_
        refine lv_iconst (v := 3) hx hb dL_isStep_108 (by decide) ?_
        refine lv_iand hx hb dL_isStep_109 ?_
        refine lv_istore (lv' := [(8, .int (((v2 >>> ((4 : Int32) &&& 31)) >>> ((7 : Int32) &&& 31)) &&& 3)), (7, .int r33), (6, .int r24), (5, .int r13), (4, .int r6), (3, .int (v2 >>> ((4 : Int32) &&& 31))), (0, .ref a0), (1, .ref a1), (2, .int v2)]) hx hb dL_isStep_110 hl (by decide) rfl (fun ls hl => ?_)
        refine lv_iload hx hb dL_isStep_112 (lv_at hl 0 rfl) ?_
        refine lv_if_ne (tgt := 137) hx hb dL_isStep_114 (by decide) (fun q_114 => ?_) (fun q_114 => ?_)
        · have h := h.1 q_114
          refine lv_iload hx hb dL_isStep_137 (lv_at hl 0 rfl) ?_
          refine lv_iconst (v := 1) hx hb dL_isStep_139 (by decide) ?_
          refine lv_icmp_ne (tgt := 163) hx hb dL_isStep_140 (by decide) (fun q_140 => ?_) (fun q_140 => ?_)
          · have h := h.1 q_140
            refine lv_iload hx hb dL_isStep_163 (lv_at hl 0 rfl) ?_
            refine lv_iconst (v := 2) hx hb dL_isStep_165 (by decide) ?_
            refine lv_icmp_eq (tgt := 177) hx hb dL_isStep_166 (by decide) (fun q_166 => ?_) (fun q_166 => ?_)
            · have h := h.1 q_166
              exact ((wB_L_isStep_177 S  (fun M1 a0 a1 v6 v7 v8 t0 h => (wB_L_isStep_182 S   _ _ _ _ _ _ _ h)) _ _ _ _ _ _ h)) H locs ls hw (lv_sub hl [6, 7, 2, 1, 0] rfl)
            · have h := h.2 q_166
              refine lv_iload hx hb dL_isStep_169 (lv_at hl 2 rfl) ?_
              refine lv_iload hx hb dL_isStep_171 (lv_at hl 4 rfl) ?_
              obtain ⟨z_173, h⟩ := h
              refine lv_irem hx hb dL_isStep_173 z_173 ?_
              refine lv_if_le (tgt := 181) hx hb dL_isStep_174 (by decide) (fun q_174 => ?_) (fun q_174 => ?_)
              · have h := h.1 q_174
                refine lv_iconst (v := 0) hx hb dL_isStep_181 (by decide) ?_
                exact ((wB_L_isStep_182 S   _ _ _ _ _ _ _ h)) H locs ls hw (lv_sub hl [6, 7, 2, 1, 0] rfl)
              · have h := h.2 q_174
                exact ((wB_L_isStep_177 S  (fun M1 a0 a1 v6 v7 v8 t0 h => (wB_L_isStep_182 S   _ _ _ _ _ _ _ h)) _ _ _ _ _ _ h)) H locs ls hw (lv_sub hl [6, 7, 2, 1, 0] rfl)
          · have h := h.2 q_140
            refine lv_iload hx hb dL_isStep_143 (lv_at hl 2 rfl) ?_
            refine lv_iload hx hb dL_isStep_145 (lv_at hl 4 rfl) ?_
            obtain ⟨z_147, h⟩ := h
            refine lv_idiv hx hb dL_isStep_147 z_147 ?_
            refine lv_iload hx hb dL_isStep_148 (lv_at hl 3 rfl) ?_
            refine lv_iconst (v := 1) hx hb dL_isStep_150 (by decide) ?_
            refine lv_isub hx hb dL_isStep_151 ?_
            refine lv_icmp_ge (tgt := 159) hx hb dL_isStep_152 (by decide) (fun q_152 => ?_) (fun q_152 => ?_)
            · have h := h.1 q_152
              refine lv_iconst (v := 0) hx hb dL_isStep_159 (by decide) ?_
              refine lv_goto (tgt := 182) hx hb dL_isStep_160 (by decide) ?_
              exact ((wB_L_isStep_182 S   _ _ _ _ _ _ _ h)) H locs ls hw (lv_sub hl [6, 7, 2, 1, 0] rfl)
            · have h := h.2 q_152
              refine lv_iconst (v := 1) hx hb dL_isStep_155 (by decide) ?_
              refine lv_goto (tgt := 182) hx hb dL_isStep_156 (by decide) ?_
              exact ((wB_L_isStep_182 S   _ _ _ _ _ _ _ h)) H locs ls hw (lv_sub hl [6, 7, 2, 1, 0] rfl)
        · have h := h.2 q_114
          refine lv_iload hx hb dL_isStep_117 (lv_at hl 2 rfl) ?_
          refine lv_iload hx hb dL_isStep_119 (lv_at hl 4 rfl) ?_
          obtain ⟨z_121, h⟩ := h
          refine lv_irem hx hb dL_isStep_121 z_121 ?_
          refine lv_iload hx hb dL_isStep_122 (lv_at hl 4 rfl) ?_
          refine lv_iconst (v := 1) hx hb dL_isStep_124 (by decide) ?_
          refine lv_isub hx hb dL_isStep_125 ?_
          refine lv_icmp_ge (tgt := 133) hx hb dL_isStep_126 (by decide) (fun q_126 => ?_) (fun q_126 => ?_)
          · have h := h.1 q_126
            refine lv_iconst (v := 0) hx hb dL_isStep_133 (by decide) ?_
            refine lv_goto (tgt := 182) hx hb dL_isStep_134 (by decide) ?_
            exact ((wB_L_isStep_182 S   _ _ _ _ _ _ _ h)) H locs ls hw (lv_sub hl [6, 7, 2, 1, 0] rfl)
          · have h := h.2 q_126
            refine lv_iconst (v := 1) hx hb dL_isStep_129 (by decide) ?_
            refine lv_goto (tgt := 182) hx hb dL_isStep_130 (by decide) ?_
            exact ((wB_L_isStep_182 S   _ _ _ _ _ _ _ h)) H locs ls hw (lv_sub hl [6, 7, 2, 1, 0] rfl)
      · have h := h.2 q_44_2
        by_cases q_44_3 : r41 = 3
        · have h := h.1 q_44_3
          refine lv_tableIn (tgt := 233) hx hb dL_isStep_44 (by rw [q_44_3]; decide) (by rw [q_44_3]; decide) (by rw [q_44_3]; rfl) (by decide) ?_
          refine lv_iconst (v := 1) hx hb dL_isStep_233 (by decide) ?_
          refine lv_iload_n hx hb dL_isStep_234 rfl (lv_at hl 4 rfl) ?_
          refine lv_bipush (v := 7) hx hb dL_isStep_235 (by decide) ?_
          refine lv_ishr hx hb dL_isStep_237 ?_
          refine lv_iload hx hb dL_isStep_238 (lv_at hl 3 rfl) ?_
          refine lv_iload hx hb dL_isStep_240 (lv_at hl 1 rfl) ?_
          refine lv_iload hx hb dL_isStep_242 (lv_at hl 3 rfl) ?_
          obtain ⟨z_244, h⟩ := h
          refine lv_irem hx hb dL_isStep_244 z_244 ?_
          refine lv_isub hx hb dL_isStep_245 ?_
          refine cs_i (As := [.int ((v2 >>> ((4 : Int32) &&& 31)) >>> ((7 : Int32) &&& 31)), .int (r6 - (r24 - r24 / r6 * r6))]) (rest := [.int 1]) S.1 hw (k_L_up l E Z M41 ((v2 >>> ((4 : Int32) &&& 31)) >>> ((7 : Int32) &&& 31)) (r6 - (r24 - r24 / r6 * r6)) _ h) wv_L_15 yc_L_up ⟨rfl, rfl⟩ ⟨Nat.le_of_ble_eq_true rfl, Nat.le_of_ble_eq_true rfl⟩ rfl hl.1 (Nat.le_of_ble_eq_true rfl) ⟨Nat.le_of_ble_eq_true rfl, Nat.le_of_ble_eq_true rfl⟩ dL_isStep_246 (fun r246 M246 H locs h hw => ?_)
          refine lv_iadd hx hb dL_isStep_249 ?_
          refine lv_istore (lv' := [(8, .int (1 + r246)), (7, .int r33), (6, .int r24), (5, .int r13), (4, .int r6), (3, .int (v2 >>> ((4 : Int32) &&& 31))), (0, .ref a0), (1, .ref a1), (2, .int v2)]) hx hb dL_isStep_250 hl (by decide) rfl (fun ls hl => ?_)
          refine lv_iconst (v := 1) hx hb dL_isStep_252 (by decide) ?_
          refine lv_iload_n hx hb dL_isStep_253 rfl (lv_at hl 5 rfl) ?_
          refine lv_bipush (v := 10) hx hb dL_isStep_254 (by decide) ?_
          refine lv_ishr hx hb dL_isStep_256 ?_
          refine lv_iload hx hb dL_isStep_257 (lv_at hl 3 rfl) ?_
          refine lv_iload hx hb dL_isStep_259 (lv_at hl 2 rfl) ?_
          refine lv_iload hx hb dL_isStep_261 (lv_at hl 4 rfl) ?_
          obtain ⟨z_263, h⟩ := h
          refine lv_idiv hx hb dL_isStep_263 z_263 ?_
          refine lv_isub hx hb dL_isStep_264 ?_
          refine cs_i (As := [.int ((v2 >>> ((4 : Int32) &&& 31)) >>> ((10 : Int32) &&& 31)), .int (r13 - (r24 / r6))]) (rest := [.int 1]) S.1 hw (k_L_up l E Z M246 ((v2 >>> ((4 : Int32) &&& 31)) >>> ((10 : Int32) &&& 31)) (r13 - (r24 / r6)) _ h) wv_L_15 yc_L_up ⟨rfl, rfl⟩ ⟨Nat.le_of_ble_eq_true rfl, Nat.le_of_ble_eq_true rfl⟩ rfl hl.1 (Nat.le_of_ble_eq_true rfl) ⟨Nat.le_of_ble_eq_true rfl, Nat.le_of_ble_eq_true rfl⟩ dL_isStep_265 (fun r265 M265 H locs h hw => ?_)
          refine lv_iadd hx hb dL_isStep_268 ?_
          refine lv_istore (lv' := [(9, .int (1 + r265)), (8, .int (1 + r246)), (7, .int r33), (6, .int r24), (5, .int r13), (4, .int r6), (3, .int (v2 >>> ((4 : Int32) &&& 31))), (0, .ref a0), (1, .ref a1), (2, .int v2)]) hx hb dL_isStep_269 hl (by decide) rfl (fun ls hl => ?_)
          refine lv_iload hx hb dL_isStep_271 (lv_at hl 3 rfl) ?_
          refine lv_iload hx hb dL_isStep_273 (lv_at hl 1 rfl) ?_
          refine lv_iadd hx hb dL_isStep_275 ?_
          refine lv_iconst (v := 1) hx hb dL_isStep_276 (by decide) ?_
          refine lv_isub hx hb dL_isStep_277 ?_
          refine lv_iload hx hb dL_isStep_278 (lv_at hl 5 rfl) ?_
          refine cs_i (As := [.int ((r24 + (1 + r246)) - 1), .int r6]) (rest := []) S.1 hw (k_L_turned l E Z M265 ((r24 + (1 + r246)) - 1) r6 _ h) wv_L_21 yc_L_turned ⟨rfl, rfl⟩ ⟨Nat.le_of_ble_eq_true rfl, Nat.le_of_ble_eq_true rfl⟩ rfl hl.1 (Nat.le_of_ble_eq_true rfl) ⟨Nat.le_of_ble_eq_true rfl, Nat.le_of_ble_eq_true rfl⟩ dL_isStep_280 (fun r280 M280 H locs h hw => ?_)
          refine lv_istore (lv' := [(10, .int r280), (9, .int (1 + r265)), (8, .int (1 + r246)), (7, .int r33), (6, .int r24), (5, .int r13), (4, .int r6), (3, .int (v2 >>> ((4 : Int32) &&& 31))), (0, .ref a0), (1, .ref a1), (2, .int v2)]) hx hb dL_isStep_283 hl (by decide) rfl (fun ls hl => ?_)
          refine lv_aload_n hx hb dL_isStep_285 rfl (lv_at hl 8 rfl) ?_
          refine lv_iload hx hb dL_isStep_286 (lv_at hl 4 rfl) ?_
          refine lv_iload hx hb dL_isStep_288 (lv_at hl 2 rfl) ?_
          refine lv_iload hx hb dL_isStep_290 (lv_at hl 1 rfl) ?_
          refine cv_i (As := [.int r24, .int (1 + r246), .int (1 + r265)]) (rest := []) S.1 hw (k_X5_cutsAround l E Z M280 a0 r24 (1 + r246) (1 + r265) _ h) wv_L_27 yc_X5_cutsAround ⟨rfl, rfl⟩ ⟨Nat.le_of_ble_eq_true rfl, Nat.le_of_ble_eq_true rfl⟩ rfl hl.1 (Nat.le_of_ble_eq_true rfl) (ci := 5) (q := (RX5, TX5, 9)) rfl rfl (by rw [k_0]; decide) (cell_5 k_0) ⟨Nat.le_of_ble_eq_true rfl, Nat.le_of_ble_eq_true rfl⟩ dL_isStep_292 (fun r292 M292 H locs h hw => ?_)
          refine lv_aload_n hx hb dL_isStep_295 rfl (lv_at hl 9 rfl) ?_
          refine lv_iload hx hb dL_isStep_296 (lv_at hl 0 rfl) ?_
          refine lv_iload hx hb dL_isStep_298 (lv_at hl 2 rfl) ?_
          refine lv_iload hx hb dL_isStep_300 (lv_at hl 1 rfl) ?_
          obtain ⟨k_1, h⟩ := h
          refine cv_i (As := [.int r280, .int (1 + r246), .int (1 + r265)]) (rest := [.int r292]) S.1 hw (k_X5_cutsAround l E Z M292 a1 r280 (1 + r246) (1 + r265) _ h) wv_L_27 yc_X5_cutsAround ⟨rfl, rfl⟩ ⟨Nat.le_of_ble_eq_true rfl, Nat.le_of_ble_eq_true rfl⟩ rfl hl.1 (Nat.le_of_ble_eq_true rfl) (ci := 5) (q := (RX5, TX5, 9)) rfl rfl (by rw [k_1]; decide) (cell_5 k_1) ⟨Nat.le_of_ble_eq_true rfl, Nat.le_of_ble_eq_true rfl⟩ dL_isStep_302 (fun r302 M302 H locs h hw => ?_)
          refine lv_icmp_ne (tgt := 335) hx hb dL_isStep_305 (by decide) (fun q_305 => ?_) (fun q_305 => ?_)
          · have h := h.1 q_305
            refine lv_iconst (v := 0) hx hb dL_isStep_335 (by decide) ?_
            exact we_z S hw rfl (by rfl) h dL_isStep_336
          · have h := h.2 q_305
            refine lv_aload_n hx hb dL_isStep_308 rfl (lv_at hl 8 rfl) ?_
            refine lv_iload hx hb dL_isStep_309 (lv_at hl 4 rfl) ?_
            refine lv_iload hx hb dL_isStep_311 (lv_at hl 2 rfl) ?_
            refine lv_iload hx hb dL_isStep_313 (lv_at hl 1 rfl) ?_
            refine cv_i (As := [.int r24, .int (1 + r246), .int (1 + r265)]) (rest := []) S.1 hw (k_X5_sawAround l E Z M302 a0 r24 (1 + r246) (1 + r265) _ h) wv_L_31 yc_X5_sawAround ⟨rfl, rfl⟩ ⟨Nat.le_of_ble_eq_true rfl, Nat.le_of_ble_eq_true rfl⟩ rfl hl.1 (Nat.le_of_ble_eq_true rfl) (ci := 5) (q := (RX5, TX5, 9)) rfl rfl (by rw [k_0]; decide) (cell_5 k_0) ⟨Nat.le_of_ble_eq_true rfl, Nat.le_of_ble_eq_true rfl⟩ dL_isStep_315 (fun r315 M315 H locs h hw => ?_)
            refine lv_aload_n hx hb dL_isStep_318 rfl (lv_at hl 9 rfl) ?_
            refine lv_iload hx hb dL_isStep_319 (lv_at hl 0 rfl) ?_
            refine lv_iload hx hb dL_isStep_321 (lv_at hl 2 rfl) ?_
            refine lv_iload hx hb dL_isStep_323 (lv_at hl 1 rfl) ?_
            refine cv_i (As := [.int r280, .int (1 + r246), .int (1 + r265)]) (rest := [.int r315]) S.1 hw (k_X5_sawAround l E Z M315 a1 r280 (1 + r246) (1 + r265) _ h) wv_L_31 yc_X5_sawAround ⟨rfl, rfl⟩ ⟨Nat.le_of_ble_eq_true rfl, Nat.le_of_ble_eq_true rfl⟩ rfl hl.1 (Nat.le_of_ble_eq_true rfl) (ci := 5) (q := (RX5, TX5, 9)) rfl rfl (by rw [k_1]; decide) (cell_5 k_1) ⟨Nat.le_of_ble_eq_true rfl, Nat.le_of_ble_eq_true rfl⟩ dL_isStep_325 (fun r325 M325 H locs h hw => ?_)
            refine lv_icmp_ne (tgt := 335) hx hb dL_isStep_328 (by decide) (fun q_328 => ?_) (fun q_328 => ?_)
            · have h := h.1 q_328
              refine lv_iconst (v := 0) hx hb dL_isStep_335 (by decide) ?_
              exact we_z S hw rfl (by rfl) h dL_isStep_336
            · have h := h.2 q_328
              refine lv_iconst (v := 1) hx hb dL_isStep_331 (by decide) ?_
              refine lv_goto (tgt := 336) hx hb dL_isStep_332 (by decide) ?_
              exact we_z S hw rfl (by rfl) h dL_isStep_336
        · have h := h.2 q_44_3
          by_cases q_44_4 : r41 = 4
          · have h := h.1 q_44_4
            refine lv_tableIn (tgt := 233) hx hb dL_isStep_44 (by rw [q_44_4]; decide) (by rw [q_44_4]; decide) (by rw [q_44_4]; rfl) (by decide) ?_
            refine lv_iconst (v := 1) hx hb dL_isStep_233 (by decide) ?_
            refine lv_iload_n hx hb dL_isStep_234 rfl (lv_at hl 4 rfl) ?_
            refine lv_bipush (v := 7) hx hb dL_isStep_235 (by decide) ?_
            refine lv_ishr hx hb dL_isStep_237 ?_
            refine lv_iload hx hb dL_isStep_238 (lv_at hl 3 rfl) ?_
            refine lv_iload hx hb dL_isStep_240 (lv_at hl 1 rfl) ?_
            refine lv_iload hx hb dL_isStep_242 (lv_at hl 3 rfl) ?_
            obtain ⟨z_244, h⟩ := h
            refine lv_irem hx hb dL_isStep_244 z_244 ?_
            refine lv_isub hx hb dL_isStep_245 ?_
            refine cs_i (As := [.int ((v2 >>> ((4 : Int32) &&& 31)) >>> ((7 : Int32) &&& 31)), .int (r6 - (r24 - r24 / r6 * r6))]) (rest := [.int 1]) S.1 hw (k_L_up l E Z M41 ((v2 >>> ((4 : Int32) &&& 31)) >>> ((7 : Int32) &&& 31)) (r6 - (r24 - r24 / r6 * r6)) _ h) wv_L_15 yc_L_up ⟨rfl, rfl⟩ ⟨Nat.le_of_ble_eq_true rfl, Nat.le_of_ble_eq_true rfl⟩ rfl hl.1 (Nat.le_of_ble_eq_true rfl) ⟨Nat.le_of_ble_eq_true rfl, Nat.le_of_ble_eq_true rfl⟩ dL_isStep_246 (fun r246 M246 H locs h hw => ?_)
            refine lv_iadd hx hb dL_isStep_249 ?_
            refine lv_istore (lv' := [(8, .int (1 + r246)), (7, .int r33), (6, .int r24), (5, .int r13), (4, .int r6), (3, .int (v2 >>> ((4 : Int32) &&& 31))), (0, .ref a0), (1, .ref a1), (2, .int v2)]) hx hb dL_isStep_250 hl (by decide) rfl (fun ls hl => ?_)
            refine lv_iconst (v := 1) hx hb dL_isStep_252 (by decide) ?_
            refine lv_iload_n hx hb dL_isStep_253 rfl (lv_at hl 5 rfl) ?_
            refine lv_bipush (v := 10) hx hb dL_isStep_254 (by decide) ?_
            refine lv_ishr hx hb dL_isStep_256 ?_
            refine lv_iload hx hb dL_isStep_257 (lv_at hl 3 rfl) ?_
            refine lv_iload hx hb dL_isStep_259 (lv_at hl 2 rfl) ?_
            refine lv_iload hx hb dL_isStep_261 (lv_at hl 4 rfl) ?_
            obtain ⟨z_263, h⟩ := h
            refine lv_idiv hx hb dL_isStep_263 z_263 ?_
            refine lv_isub hx hb dL_isStep_264 ?_
            refine cs_i (As := [.int ((v2 >>> ((4 : Int32) &&& 31)) >>> ((10 : Int32) &&& 31)), .int (r13 - (r24 / r6))]) (rest := [.int 1]) S.1 hw (k_L_up l E Z M246 ((v2 >>> ((4 : Int32) &&& 31)) >>> ((10 : Int32) &&& 31)) (r13 - (r24 / r6)) _ h) wv_L_15 yc_L_up ⟨rfl, rfl⟩ ⟨Nat.le_of_ble_eq_true rfl, Nat.le_of_ble_eq_true rfl⟩ rfl hl.1 (Nat.le_of_ble_eq_true rfl) ⟨Nat.le_of_ble_eq_true rfl, Nat.le_of_ble_eq_true rfl⟩ dL_isStep_265 (fun r265 M265 H locs h hw => ?_)
            refine lv_iadd hx hb dL_isStep_268 ?_
            refine lv_istore (lv' := [(9, .int (1 + r265)), (8, .int (1 + r246)), (7, .int r33), (6, .int r24), (5, .int r13), (4, .int r6), (3, .int (v2 >>> ((4 : Int32) &&& 31))), (0, .ref a0), (1, .ref a1), (2, .int v2)]) hx hb dL_isStep_269 hl (by decide) rfl (fun ls hl => ?_)
            refine lv_iload hx hb dL_isStep_271 (lv_at hl 3 rfl) ?_
            refine lv_iload hx hb dL_isStep_273 (lv_at hl 1 rfl) ?_
            refine lv_iadd hx hb dL_isStep_275 ?_
            refine lv_iconst (v := 1) hx hb dL_isStep_276 (by decide) ?_
            refine lv_isub hx hb dL_isStep_277 ?_
            refine lv_iload hx hb dL_isStep_278 (lv_at hl 5 rfl) ?_
            refine cs_i (As := [.int ((r24 + (1 + r246)) - 1), .int r6]) (rest := []) S.1 hw (k_L_turned l E Z M265 ((r24 + (1 + r246)) - 1) r6 _ h) wv_L_21 yc_L_turned ⟨rfl, rfl⟩ ⟨Nat.le_of_ble_eq_true rfl, Nat.le_of_ble_eq_true rfl⟩ rfl hl.1 (Nat.le_of_ble_eq_true rfl) ⟨Nat.le_of_ble_eq_true rfl, Nat.le_of_ble_eq_true rfl⟩ dL_isStep_280 (fun r280 M280 H locs h hw => ?_)
            refine lv_istore (lv' := [(10, .int r280), (9, .int (1 + r265)), (8, .int (1 + r246)), (7, .int r33), (6, .int r24), (5, .int r13), (4, .int r6), (3, .int (v2 >>> ((4 : Int32) &&& 31))), (0, .ref a0), (1, .ref a1), (2, .int v2)]) hx hb dL_isStep_283 hl (by decide) rfl (fun ls hl => ?_)
            refine lv_aload_n hx hb dL_isStep_285 rfl (lv_at hl 8 rfl) ?_
            refine lv_iload hx hb dL_isStep_286 (lv_at hl 4 rfl) ?_
            refine lv_iload hx hb dL_isStep_288 (lv_at hl 2 rfl) ?_
            refine lv_iload hx hb dL_isStep_290 (lv_at hl 1 rfl) ?_
            refine cv_i (As := [.int r24, .int (1 + r246), .int (1 + r265)]) (rest := []) S.1 hw (k_X5_cutsAround l E Z M280 a0 r24 (1 + r246) (1 + r265) _ h) wv_L_27 yc_X5_cutsAround ⟨rfl, rfl⟩ ⟨Nat.le_of_ble_eq_true rfl, Nat.le_of_ble_eq_true rfl⟩ rfl hl.1 (Nat.le_of_ble_eq_true rfl) (ci := 5) (q := (RX5, TX5, 9)) rfl rfl (by rw [k_0]; decide) (cell_5 k_0) ⟨Nat.le_of_ble_eq_true rfl, Nat.le_of_ble_eq_true rfl⟩ dL_isStep_292 (fun r292 M292 H locs h hw => ?_)
            refine lv_aload_n hx hb dL_isStep_295 rfl (lv_at hl 9 rfl) ?_
            refine lv_iload hx hb dL_isStep_296 (lv_at hl 0 rfl) ?_
            refine lv_iload hx hb dL_isStep_298 (lv_at hl 2 rfl) ?_
            refine lv_iload hx hb dL_isStep_300 (lv_at hl 1 rfl) ?_
            obtain ⟨k_2, h⟩ := h
            refine cv_i (As := [.int r280, .int (1 + r246), .int (1 + r265)]) (rest := [.int r292]) S.1 hw (k_X5_cutsAround l E Z M292 a1 r280 (1 + r246) (1 + r265) _ h) wv_L_27 yc_X5_cutsAround ⟨rfl, rfl⟩ ⟨Nat.le_of_ble_eq_true rfl, Nat.le_of_ble_eq_true rfl⟩ rfl hl.1 (Nat.le_of_ble_eq_true rfl) (ci := 5) (q := (RX5, TX5, 9)) rfl rfl (by rw [k_2]; decide) (cell_5 k_2) ⟨Nat.le_of_ble_eq_true rfl, Nat.le_of_ble_eq_true rfl⟩ dL_isStep_302 (fun r302 M302 H locs h hw => ?_)
            refine lv_icmp_ne (tgt := 335) hx hb dL_isStep_305 (by decide) (fun q_305 => ?_) (fun q_305 => ?_)
            · have h := h.1 q_305
              refine lv_iconst (v := 0) hx hb dL_isStep_335 (by decide) ?_
              exact we_z S hw rfl (by rfl) h dL_isStep_336
            · have h := h.2 q_305
              refine lv_aload_n hx hb dL_isStep_308 rfl (lv_at hl 8 rfl) ?_
              refine lv_iload hx hb dL_isStep_309 (lv_at hl 4 rfl) ?_
              refine lv_iload hx hb dL_isStep_311 (lv_at hl 2 rfl) ?_
              refine lv_iload hx hb dL_isStep_313 (lv_at hl 1 rfl) ?_
              refine cv_i (As := [.int r24, .int (1 + r246), .int (1 + r265)]) (rest := []) S.1 hw (k_X5_sawAround l E Z M302 a0 r24 (1 + r246) (1 + r265) _ h) wv_L_31 yc_X5_sawAround ⟨rfl, rfl⟩ ⟨Nat.le_of_ble_eq_true rfl, Nat.le_of_ble_eq_true rfl⟩ rfl hl.1 (Nat.le_of_ble_eq_true rfl) (ci := 5) (q := (RX5, TX5, 9)) rfl rfl (by rw [k_0]; decide) (cell_5 k_0) ⟨Nat.le_of_ble_eq_true rfl, Nat.le_of_ble_eq_true rfl⟩ dL_isStep_315 (fun r315 M315 H locs h hw => ?_)
              refine lv_aload_n hx hb dL_isStep_318 rfl (lv_at hl 9 rfl) ?_
              refine lv_iload hx hb dL_isStep_319 (lv_at hl 0 rfl) ?_
              refine lv_iload hx hb dL_isStep_321 (lv_at hl 2 rfl) ?_
              refine lv_iload hx hb dL_isStep_323 (lv_at hl 1 rfl) ?_
              refine cv_i (As := [.int r280, .int (1 + r246), .int (1 + r265)]) (rest := [.int r315]) S.1 hw (k_X5_sawAround l E Z M315 a1 r280 (1 + r246) (1 + r265) _ h) wv_L_31 yc_X5_sawAround ⟨rfl, rfl⟩ ⟨Nat.le_of_ble_eq_true rfl, Nat.le_of_ble_eq_true rfl⟩ rfl hl.1 (Nat.le_of_ble_eq_true rfl) (ci := 5) (q := (RX5, TX5, 9)) rfl rfl (by rw [k_2]; decide) (cell_5 k_2) ⟨Nat.le_of_ble_eq_true rfl, Nat.le_of_ble_eq_true rfl⟩ dL_isStep_325 (fun r325 M325 H locs h hw => ?_)
              refine lv_icmp_ne (tgt := 335) hx hb dL_isStep_328 (by decide) (fun q_328 => ?_) (fun q_328 => ?_)
              · have h := h.1 q_328
                refine lv_iconst (v := 0) hx hb dL_isStep_335 (by decide) ?_
                exact we_z S hw rfl (by rfl) h dL_isStep_336
              · have h := h.2 q_328
                refine lv_iconst (v := 1) hx hb dL_isStep_331 (by decide) ?_
                refine lv_goto (tgt := 336) hx hb dL_isStep_332 (by decide) ?_
                exact we_z S hw rfl (by rfl) h dL_isStep_336
          · have h := h.2 q_44_4
            by_cases q_44_5 : r41 = 5
            · have h := h.1 q_44_5
              refine lv_tableIn (tgt := 233) hx hb dL_isStep_44 (by rw [q_44_5]; decide) (by rw [q_44_5]; decide) (by rw [q_44_5]; rfl) (by decide) ?_
              refine lv_iconst (v := 1) hx hb dL_isStep_233 (by decide) ?_
              refine lv_iload_n hx hb dL_isStep_234 rfl (lv_at hl 4 rfl) ?_
              refine lv_bipush (v := 7) hx hb dL_isStep_235 (by decide) ?_
              refine lv_ishr hx hb dL_isStep_237 ?_
              refine lv_iload hx hb dL_isStep_238 (lv_at hl 3 rfl) ?_
              refine lv_iload hx hb dL_isStep_240 (lv_at hl 1 rfl) ?_
              refine lv_iload hx hb dL_isStep_242 (lv_at hl 3 rfl) ?_
              obtain ⟨z_244, h⟩ := h
              refine lv_irem hx hb dL_isStep_244 z_244 ?_
              refine lv_isub hx hb dL_isStep_245 ?_
              refine cs_i (As := [.int ((v2 >>> ((4 : Int32) &&& 31)) >>> ((7 : Int32) &&& 31)), .int (r6 - (r24 - r24 / r6 * r6))]) (rest := [.int 1]) S.1 hw (k_L_up l E Z M41 ((v2 >>> ((4 : Int32) &&& 31)) >>> ((7 : Int32) &&& 31)) (r6 - (r24 - r24 / r6 * r6)) _ h) wv_L_15 yc_L_up ⟨rfl, rfl⟩ ⟨Nat.le_of_ble_eq_true rfl, Nat.le_of_ble_eq_true rfl⟩ rfl hl.1 (Nat.le_of_ble_eq_true rfl) ⟨Nat.le_of_ble_eq_true rfl, Nat.le_of_ble_eq_true rfl⟩ dL_isStep_246 (fun r246 M246 H locs h hw => ?_)
              refine lv_iadd hx hb dL_isStep_249 ?_
              refine lv_istore (lv' := [(8, .int (1 + r246)), (7, .int r33), (6, .int r24), (5, .int r13), (4, .int r6), (3, .int (v2 >>> ((4 : Int32) &&& 31))), (0, .ref a0), (1, .ref a1), (2, .int v2)]) hx hb dL_isStep_250 hl (by decide) rfl (fun ls hl => ?_)
              refine lv_iconst (v := 1) hx hb dL_isStep_252 (by decide) ?_
              refine lv_iload_n hx hb dL_isStep_253 rfl (lv_at hl 5 rfl) ?_
              refine lv_bipush (v := 10) hx hb dL_isStep_254 (by decide) ?_
              refine lv_ishr hx hb dL_isStep_256 ?_
              refine lv_iload hx hb dL_isStep_257 (lv_at hl 3 rfl) ?_
              refine lv_iload hx hb dL_isStep_259 (lv_at hl 2 rfl) ?_
              refine lv_iload hx hb dL_isStep_261 (lv_at hl 4 rfl) ?_
              obtain ⟨z_263, h⟩ := h
              refine lv_idiv hx hb dL_isStep_263 z_263 ?_
              refine lv_isub hx hb dL_isStep_264 ?_
              refine cs_i (As := [.int ((v2 >>> ((4 : Int32) &&& 31)) >>> ((10 : Int32) &&& 31)), .int (r13 - (r24 / r6))]) (rest := [.int 1]) S.1 hw (k_L_up l E Z M246 ((v2 >>> ((4 : Int32) &&& 31)) >>> ((10 : Int32) &&& 31)) (r13 - (r24 / r6)) _ h) wv_L_15 yc_L_up ⟨rfl, rfl⟩ ⟨Nat.le_of_ble_eq_true rfl, Nat.le_of_ble_eq_true rfl⟩ rfl hl.1 (Nat.le_of_ble_eq_true rfl) ⟨Nat.le_of_ble_eq_true rfl, Nat.le_of_ble_eq_true rfl⟩ dL_isStep_265 (fun r265 M265 H locs h hw => ?_)
              refine lv_iadd hx hb dL_isStep_268 ?_
              refine lv_istore (lv' := [(9, .int (1 + r265)), (8, .int (1 + r246)), (7, .int r33), (6, .int r24), (5, .int r13), (4, .int r6), (3, .int (v2 >>> ((4 : Int32) &&& 31))), (0, .ref a0), (1, .ref a1), (2, .int v2)]) hx hb dL_isStep_269 hl (by decide) rfl (fun ls hl => ?_)
              refine lv_iload hx hb dL_isStep_271 (lv_at hl 3 rfl) ?_
              refine lv_iload hx hb dL_isStep_273 (lv_at hl 1 rfl) ?_
              refine lv_iadd hx hb dL_isStep_275 ?_
              refine lv_iconst (v := 1) hx hb dL_isStep_276 (by decide) ?_
              refine lv_isub hx hb dL_isStep_277 ?_
              refine lv_iload hx hb dL_isStep_278 (lv_at hl 5 rfl) ?_
              refine cs_i (As := [.int ((r24 + (1 + r246)) - 1), .int r6]) (rest := []) S.1 hw (k_L_turned l E Z M265 ((r24 + (1 + r246)) - 1) r6 _ h) wv_L_21 yc_L_turned ⟨rfl, rfl⟩ ⟨Nat.le_of_ble_eq_true rfl, Nat.le_of_ble_eq_true rfl⟩ rfl hl.1 (Nat.le_of_ble_eq_true rfl) ⟨Nat.le_of_ble_eq_true rfl, Nat.le_of_ble_eq_true rfl⟩ dL_isStep_280 (fun r280 M280 H locs h hw => ?_)
              refine lv_istore (lv' := [(10, .int r280), (9, .int (1 + r265)), (8, .int (1 + r246)), (7, .int r33), (6, .int r24), (5, .int r13), (4, .int r6), (3, .int (v2 >>> ((4 : Int32) &&& 31))), (0, .ref a0), (1, .ref a1), (2, .int v2)]) hx hb dL_isStep_283 hl (by decide) rfl (fun ls hl => ?_)
              refine lv_aload_n hx hb dL_isStep_285 rfl (lv_at hl 8 rfl) ?_
              refine lv_iload hx hb dL_isStep_286 (lv_at hl 4 rfl) ?_
              refine lv_iload hx hb dL_isStep_288 (lv_at hl 2 rfl) ?_
              refine lv_iload hx hb dL_isStep_290 (lv_at hl 1 rfl) ?_
              refine cv_i (As := [.int r24, .int (1 + r246), .int (1 + r265)]) (rest := []) S.1 hw (k_X5_cutsAround l E Z M280 a0 r24 (1 + r246) (1 + r265) _ h) wv_L_27 yc_X5_cutsAround ⟨rfl, rfl⟩ ⟨Nat.le_of_ble_eq_true rfl, Nat.le_of_ble_eq_true rfl⟩ rfl hl.1 (Nat.le_of_ble_eq_true rfl) (ci := 5) (q := (RX5, TX5, 9)) rfl rfl (by rw [k_0]; decide) (cell_5 k_0) ⟨Nat.le_of_ble_eq_true rfl, Nat.le_of_ble_eq_true rfl⟩ dL_isStep_292 (fun r292 M292 H locs h hw => ?_)
              refine lv_aload_n hx hb dL_isStep_295 rfl (lv_at hl 9 rfl) ?_
              refine lv_iload hx hb dL_isStep_296 (lv_at hl 0 rfl) ?_
              refine lv_iload hx hb dL_isStep_298 (lv_at hl 2 rfl) ?_
              refine lv_iload hx hb dL_isStep_300 (lv_at hl 1 rfl) ?_
              obtain ⟨k_3, h⟩ := h
              refine cv_i (As := [.int r280, .int (1 + r246), .int (1 + r265)]) (rest := [.int r292]) S.1 hw (k_X5_cutsAround l E Z M292 a1 r280 (1 + r246) (1 + r265) _ h) wv_L_27 yc_X5_cutsAround ⟨rfl, rfl⟩ ⟨Nat.le_of_ble_eq_true rfl, Nat.le_of_ble_eq_true rfl⟩ rfl hl.1 (Nat.le_of_ble_eq_true rfl) (ci := 5) (q := (RX5, TX5, 9)) rfl rfl (by rw [k_3]; decide) (cell_5 k_3) ⟨Nat.le_of_ble_eq_true rfl, Nat.le_of_ble_eq_true rfl⟩ dL_isStep_302 (fun r302 M302 H locs h hw => ?_)
              refine lv_icmp_ne (tgt := 335) hx hb dL_isStep_305 (by decide) (fun q_305 => ?_) (fun q_305 => ?_)
              · have h := h.1 q_305
                refine lv_iconst (v := 0) hx hb dL_isStep_335 (by decide) ?_
                exact we_z S hw rfl (by rfl) h dL_isStep_336
              · have h := h.2 q_305
                refine lv_aload_n hx hb dL_isStep_308 rfl (lv_at hl 8 rfl) ?_
                refine lv_iload hx hb dL_isStep_309 (lv_at hl 4 rfl) ?_
                refine lv_iload hx hb dL_isStep_311 (lv_at hl 2 rfl) ?_
                refine lv_iload hx hb dL_isStep_313 (lv_at hl 1 rfl) ?_
                refine cv_i (As := [.int r24, .int (1 + r246), .int (1 + r265)]) (rest := []) S.1 hw (k_X5_sawAround l E Z M302 a0 r24 (1 + r246) (1 + r265) _ h) wv_L_31 yc_X5_sawAround ⟨rfl, rfl⟩ ⟨Nat.le_of_ble_eq_true rfl, Nat.le_of_ble_eq_true rfl⟩ rfl hl.1 (Nat.le_of_ble_eq_true rfl) (ci := 5) (q := (RX5, TX5, 9)) rfl rfl (by rw [k_0]; decide) (cell_5 k_0) ⟨Nat.le_of_ble_eq_true rfl, Nat.le_of_ble_eq_true rfl⟩ dL_isStep_315 (fun r315 M315 H locs h hw => ?_)
                refine lv_aload_n hx hb dL_isStep_318 rfl (lv_at hl 9 rfl) ?_
                refine lv_iload hx hb dL_isStep_319 (lv_at hl 0 rfl) ?_
                refine lv_iload hx hb dL_isStep_321 (lv_at hl 2 rfl) ?_
                refine lv_iload hx hb dL_isStep_323 (lv_at hl 1 rfl) ?_
                refine cv_i (As := [.int r280, .int (1 + r246), .int (1 + r265)]) (rest := [.int r315]) S.1 hw (k_X5_sawAround l E Z M315 a1 r280 (1 + r246) (1 + r265) _ h) wv_L_31 yc_X5_sawAround ⟨rfl, rfl⟩ ⟨Nat.le_of_ble_eq_true rfl, Nat.le_of_ble_eq_true rfl⟩ rfl hl.1 (Nat.le_of_ble_eq_true rfl) (ci := 5) (q := (RX5, TX5, 9)) rfl rfl (by rw [k_3]; decide) (cell_5 k_3) ⟨Nat.le_of_ble_eq_true rfl, Nat.le_of_ble_eq_true rfl⟩ dL_isStep_325 (fun r325 M325 H locs h hw => ?_)
                refine lv_icmp_ne (tgt := 335) hx hb dL_isStep_328 (by decide) (fun q_328 => ?_) (fun q_328 => ?_)
                · have h := h.1 q_328
                  refine lv_iconst (v := 0) hx hb dL_isStep_335 (by decide) ?_
                  exact we_z S hw rfl (by rfl) h dL_isStep_336
                · have h := h.2 q_328
                  refine lv_iconst (v := 1) hx hb dL_isStep_331 (by decide) ?_
                  refine lv_goto (tgt := 336) hx hb dL_isStep_332 (by decide) ?_
                  exact we_z S hw rfl (by rfl) h dL_isStep_336
            · have h := h.2 q_44_5
              by_cases q_44_6 : r41 = 6
              · have h := h.1 q_44_6
                refine lv_tableIn (tgt := 337) hx hb dL_isStep_44 (by rw [q_44_6]; decide) (by rw [q_44_6]; decide) (by rw [q_44_6]; rfl) (by decide) ?_
                refine lv_iconst (v := 1) hx hb dL_isStep_337 (by decide) ?_
                refine lv_iload_n hx hb dL_isStep_338 rfl (lv_at hl 4 rfl) ?_
                refine lv_bipush (v := 7) hx hb dL_isStep_339 (by decide) ?_
                refine lv_ishr hx hb dL_isStep_341 ?_
                refine lv_bipush (v := 9) hx hb dL_isStep_342 (by decide) ?_
                refine cs_i (As := [.int ((v2 >>> ((4 : Int32) &&& 31)) >>> ((7 : Int32) &&& 31)), .int 9]) (rest := [.int 1]) S.1 hw (k_L_up l E Z M41 ((v2 >>> ((4 : Int32) &&& 31)) >>> ((7 : Int32) &&& 31)) 9 _ h) wv_L_15 yc_L_up ⟨rfl, rfl⟩ ⟨Nat.le_of_ble_eq_true rfl, Nat.le_of_ble_eq_true rfl⟩ rfl hl.1 (Nat.le_of_ble_eq_true rfl) ⟨Nat.le_of_ble_eq_true rfl, Nat.le_of_ble_eq_true rfl⟩ dL_isStep_344 (fun r344 M344 H locs h hw => ?_)
                refine lv_iadd hx hb dL_isStep_347 ?_
                refine lv_istore (lv' := [(8, .int (1 + r344)), (7, .int r33), (6, .int r24), (5, .int r13), (4, .int r6), (3, .int (v2 >>> ((4 : Int32) &&& 31))), (0, .ref a0), (1, .ref a1), (2, .int v2)]) hx hb dL_isStep_348 hl (by decide) rfl (fun ls hl => ?_)
                refine lv_aload_n hx hb dL_isStep_350 rfl (lv_at hl 6 rfl) ?_
                refine lv_iload hx hb dL_isStep_351 (lv_at hl 2 rfl) ?_
                refine lv_iconst (v := 0) hx hb dL_isStep_353 (by decide) ?_
                refine cv_i (As := [.int r24, .int 0]) (rest := []) S.1 hw (k_X5_cell l E Z M344 a0 r24 0 _ h) wv_L_34 yc_X5_cell ⟨rfl, rfl⟩ ⟨Nat.le_of_ble_eq_true rfl, Nat.le_of_ble_eq_true rfl⟩ rfl hl.1 (Nat.le_of_ble_eq_true rfl) (ci := 5) (q := (RX5, TX5, 9)) rfl rfl (by rw [k_0]; decide) (cell_5 k_0) ⟨Nat.le_of_ble_eq_true rfl, Nat.le_of_ble_eq_true rfl⟩ dL_isStep_354 (fun r354 M354 H locs h hw => ?_)
                refine lv_iload hx hb dL_isStep_357 (lv_at hl 0 rfl) ?_
                refine lv_iadd hx hb dL_isStep_359 ?_
                refine lv_bipush (v := 50) hx hb dL_isStep_360 (by decide) ?_
                refine lv_icmp_gt (tgt := 384) hx hb dL_isStep_362 (by decide) (fun q_362 => ?_) (fun q_362 => ?_)
                · have h := h.1 q_362
                  refine lv_iconst (v := 1) hx hb dL_isStep_384 (by decide) ?_
                  refine lv_goto (tgt := 389) hx hb dL_isStep_385 (by decide) ?_
                  exact we_z S hw rfl (by rfl) h dL_isStep_389
                · have h := h.2 q_362
                  refine lv_aload_n hx hb dL_isStep_365 rfl (lv_at hl 6 rfl) ?_
                  refine lv_iload hx hb dL_isStep_366 (lv_at hl 2 rfl) ?_
                  refine lv_iload hx hb dL_isStep_368 (lv_at hl 0 rfl) ?_
                  refine cv_i (As := [.int r24, .int (1 + r344)]) (rest := []) S.1 hw (k_X5_lay l E Z M354 a0 r24 (1 + r344) _ h) wv_L_37 yc_X5_lay ⟨rfl, rfl⟩ ⟨Nat.le_of_ble_eq_true rfl, Nat.le_of_ble_eq_true rfl⟩ rfl hl.1 (Nat.le_of_ble_eq_true rfl) (ci := 5) (q := (RX5, TX5, 9)) rfl rfl (by rw [k_0]; decide) (cell_5 k_0) ⟨Nat.le_of_ble_eq_true rfl, Nat.le_of_ble_eq_true rfl⟩ dL_isStep_370 (fun r370 M370 H locs h hw => ?_)
                  refine lv_aload_n hx hb dL_isStep_373 rfl (lv_at hl 7 rfl) ?_
                  refine lv_iload hx hb dL_isStep_374 (lv_at hl 1 rfl) ?_
                  refine lv_iload hx hb dL_isStep_376 (lv_at hl 0 rfl) ?_
                  obtain ⟨k_4, h⟩ := h
                  refine cv_i (As := [.int r33, .int (1 + r344)]) (rest := [.int r370]) S.1 hw (k_X5_lay l E Z M370 a1 r33 (1 + r344) _ h) wv_L_37 yc_X5_lay ⟨rfl, rfl⟩ ⟨Nat.le_of_ble_eq_true rfl, Nat.le_of_ble_eq_true rfl⟩ rfl hl.1 (Nat.le_of_ble_eq_true rfl) (ci := 5) (q := (RX5, TX5, 9)) rfl rfl (by rw [k_4]; decide) (cell_5 k_4) ⟨Nat.le_of_ble_eq_true rfl, Nat.le_of_ble_eq_true rfl⟩ dL_isStep_378 (fun r378 M378 H locs h hw => ?_)
                  refine lv_icmp_ne (tgt := 388) hx hb dL_isStep_381 (by decide) (fun q_381 => ?_) (fun q_381 => ?_)
                  · have h := h.1 q_381
                    refine lv_iconst (v := 0) hx hb dL_isStep_388 (by decide) ?_
                    exact we_z S hw rfl (by rfl) h dL_isStep_389
                  · have h := h.2 q_381
                    refine lv_iconst (v := 1) hx hb dL_isStep_384 (by decide) ?_
                    refine lv_goto (tgt := 389) hx hb dL_isStep_385 (by decide) ?_
                    exact we_z S hw rfl (by rfl) h dL_isStep_389
              · have h := h.2 q_44_6
                by_cases q_44_7 : r41 = 7
                · have h := h.1 q_44_7
                  refine lv_tableIn (tgt := 390) hx hb dL_isStep_44 (by rw [q_44_7]; decide) (by rw [q_44_7]; decide) (by rw [q_44_7]; rfl) (by decide) ?_
                  refine lv_aload_n hx hb dL_isStep_390 rfl (lv_at hl 5 rfl) ?_
                  refine lv_iload_n hx hb dL_isStep_391 rfl (lv_at hl 4 rfl) ?_
                  refine lv_iconst (v := 5) hx hb dL_isStep_392 (by decide) ?_
                  refine cs_i (As := [.int (v2 >>> ((4 : Int32) &&& 31)), .int 5]) (rest := [.ref a0]) S.1 hw (k_L_up l E Z M41 (v2 >>> ((4 : Int32) &&& 31)) 5 _ h) wv_L_15 yc_L_up ⟨rfl, rfl⟩ ⟨Nat.le_of_ble_eq_true rfl, Nat.le_of_ble_eq_true rfl⟩ rfl hl.1 (Nat.le_of_ble_eq_true rfl) ⟨Nat.le_of_ble_eq_true rfl, Nat.le_of_ble_eq_true rfl⟩ dL_isStep_393 (fun r393 M393 H locs h hw => ?_)
                  refine cv_i (As := [.int r393]) (rest := []) S.1 hw (k_X5_setMelt l E Z M393 a0 r393 _ h) wv_L_40 yc_X5_setMelt ⟨rfl, rfl⟩ ⟨Nat.le_of_ble_eq_true rfl, Nat.le_of_ble_eq_true rfl⟩ rfl hl.1 (Nat.le_of_ble_eq_true rfl) (ci := 5) (q := (RX5, TX5, 9)) rfl rfl (by rw [k_0]; decide) (cell_5 k_0) ⟨Nat.le_of_ble_eq_true rfl, Nat.le_of_ble_eq_true rfl⟩ dL_isStep_396 (fun r396 M396 H locs h hw => ?_)
                  refine lv_aload_n hx hb dL_isStep_399 rfl (lv_at hl 6 rfl) ?_
                  refine lv_iload_n hx hb dL_isStep_400 rfl (lv_at hl 4 rfl) ?_
                  refine lv_iconst (v := 5) hx hb dL_isStep_401 (by decide) ?_
                  refine cs_i (As := [.int (v2 >>> ((4 : Int32) &&& 31)), .int 5]) (rest := [.ref a1, .int r396]) S.1 hw (k_L_up l E Z M396 (v2 >>> ((4 : Int32) &&& 31)) 5 _ h) wv_L_15 yc_L_up ⟨rfl, rfl⟩ ⟨Nat.le_of_ble_eq_true rfl, Nat.le_of_ble_eq_true rfl⟩ rfl hl.1 (Nat.le_of_ble_eq_true rfl) ⟨Nat.le_of_ble_eq_true rfl, Nat.le_of_ble_eq_true rfl⟩ dL_isStep_402 (fun r402 M402 H locs h hw => ?_)
                  obtain ⟨k_5, h⟩ := h
                  refine cv_i (As := [.int r402]) (rest := [.int r396]) S.1 hw (k_X5_setMelt l E Z M402 a1 r402 _ h) wv_L_40 yc_X5_setMelt ⟨rfl, rfl⟩ ⟨Nat.le_of_ble_eq_true rfl, Nat.le_of_ble_eq_true rfl⟩ rfl hl.1 (Nat.le_of_ble_eq_true rfl) (ci := 5) (q := (RX5, TX5, 9)) rfl rfl (by rw [k_5]; decide) (cell_5 k_5) ⟨Nat.le_of_ble_eq_true rfl, Nat.le_of_ble_eq_true rfl⟩ dL_isStep_405 (fun r405 M405 H locs h hw => ?_)
                  refine lv_icmp_ne (tgt := 415) hx hb dL_isStep_408 (by decide) (fun q_408 => ?_) (fun q_408 => ?_)
                  · have h := h.1 q_408
                    refine lv_iconst (v := 0) hx hb dL_isStep_415 (by decide) ?_
                    exact we_z S hw rfl (by rfl) h dL_isStep_416
                  · have h := h.2 q_408
                    refine lv_iconst (v := 1) hx hb dL_isStep_411 (by decide) ?_
                    refine lv_goto (tgt := 416) hx hb dL_isStep_412 (by decide) ?_
                    exact we_z S hw rfl (by rfl) h dL_isStep_416
                · have h := h.2 q_44_7
                  by_cases q_44_8 : r41 = 8
                  · have h := h.1 q_44_8
                    refine lv_tableIn (tgt := 417) hx hb dL_isStep_44 (by rw [q_44_8]; decide) (by rw [q_44_8]; decide) (by rw [q_44_8]; rfl) (by decide) ?_
                    refine lv_aload_n hx hb dL_isStep_417 rfl (lv_at hl 5 rfl) ?_
                    refine lv_iconst (v := 1) hx hb dL_isStep_418 (by decide) ?_
                    refine lv_iload_n hx hb dL_isStep_419 rfl (lv_at hl 4 rfl) ?_
                    refine lv_iconst (v := 5) hx hb dL_isStep_420 (by decide) ?_
                    refine cs_i (As := [.int (v2 >>> ((4 : Int32) &&& 31)), .int 5]) (rest := [.int 1, .ref a0]) S.1 hw (k_L_up l E Z M41 (v2 >>> ((4 : Int32) &&& 31)) 5 _ h) wv_L_15 yc_L_up ⟨rfl, rfl⟩ ⟨Nat.le_of_ble_eq_true rfl, Nat.le_of_ble_eq_true rfl⟩ rfl hl.1 (Nat.le_of_ble_eq_true rfl) ⟨Nat.le_of_ble_eq_true rfl, Nat.le_of_ble_eq_true rfl⟩ dL_isStep_421 (fun r421 M421 H locs h hw => ?_)
                    refine lv_iadd hx hb dL_isStep_424 ?_
                    refine cv_i (As := [.int (1 + r421)]) (rest := []) S.1 hw (k_X5_pass l E Z M421 a0 (1 + r421) _ h) wv_L_43 yc_X5_pass ⟨rfl, rfl⟩ ⟨Nat.le_of_ble_eq_true rfl, Nat.le_of_ble_eq_true rfl⟩ rfl hl.1 (Nat.le_of_ble_eq_true rfl) (ci := 5) (q := (RX5, TX5, 9)) rfl rfl (by rw [k_0]; decide) (cell_5 k_0) ⟨Nat.le_of_ble_eq_true rfl, Nat.le_of_ble_eq_true rfl⟩ dL_isStep_425 (fun r425 M425 H locs h hw => ?_)
                    refine lv_aload_n hx hb dL_isStep_428 rfl (lv_at hl 6 rfl) ?_
                    refine lv_iconst (v := 1) hx hb dL_isStep_429 (by decide) ?_
                    refine lv_iload_n hx hb dL_isStep_430 rfl (lv_at hl 4 rfl) ?_
                    refine lv_iconst (v := 5) hx hb dL_isStep_431 (by decide) ?_
                    refine cs_i (As := [.int (v2 >>> ((4 : Int32) &&& 31)), .int 5]) (rest := [.int 1, .ref a1, .int r425]) S.1 hw (k_L_up l E Z M425 (v2 >>> ((4 : Int32) &&& 31)) 5 _ h) wv_L_15 yc_L_up ⟨rfl, rfl⟩ ⟨Nat.le_of_ble_eq_true rfl, Nat.le_of_ble_eq_true rfl⟩ rfl hl.1 (Nat.le_of_ble_eq_true rfl) ⟨Nat.le_of_ble_eq_true rfl, Nat.le_of_ble_eq_true rfl⟩ dL_isStep_432 (fun r432 M432 H locs h hw => ?_)
                    refine lv_iadd hx hb dL_isStep_435 ?_
                    obtain ⟨k_6, h⟩ := h
                    refine cv_i (As := [.int (1 + r432)]) (rest := [.int r425]) S.1 hw (k_X5_pass l E Z M432 a1 (1 + r432) _ h) wv_L_43 yc_X5_pass ⟨rfl, rfl⟩ ⟨Nat.le_of_ble_eq_true rfl, Nat.le_of_ble_eq_true rfl⟩ rfl hl.1 (Nat.le_of_ble_eq_true rfl) (ci := 5) (q := (RX5, TX5, 9)) rfl rfl (by rw [k_6]; decide) (cell_5 k_6) ⟨Nat.le_of_ble_eq_true rfl, Nat.le_of_ble_eq_true rfl⟩ dL_isStep_436 (fun r436 M436 H locs h hw => ?_)
                    refine lv_icmp_ne (tgt := 446) hx hb dL_isStep_439 (by decide) (fun q_439 => ?_) (fun q_439 => ?_)
                    · have h := h.1 q_439
                      refine lv_iconst (v := 0) hx hb dL_isStep_446 (by decide) ?_
                      exact we_z S hw rfl (by rfl) h dL_isStep_447
                    · have h := h.2 q_439
                      refine lv_iconst (v := 1) hx hb dL_isStep_442 (by decide) ?_
                      refine lv_goto (tgt := 447) hx hb dL_isStep_443 (by decide) ?_
                      exact we_z S hw rfl (by rfl) h dL_isStep_447
                  · have h := h.2 q_44_8
                    by_cases q_44_9 : r41 = 9
                    · have h := h.1 q_44_9
                      refine lv_tableIn (tgt := 448) hx hb dL_isStep_44 (by rw [q_44_9]; decide) (by rw [q_44_9]; decide) (by rw [q_44_9]; rfl) (by decide) ?_
                      refine lv_iload_n hx hb dL_isStep_448 rfl (lv_at hl 4 rfl) ?_
                      refine lv_iconst (v := 3) hx hb dL_isStep_449 (by decide) ?_
                      refine cs_i (As := [.int (v2 >>> ((4 : Int32) &&& 31)), .int 3]) (rest := []) S.1 hw (k_L_up l E Z M41 (v2 >>> ((4 : Int32) &&& 31)) 3 _ h) wv_L_15 yc_L_up ⟨rfl, rfl⟩ ⟨Nat.le_of_ble_eq_true rfl, Nat.le_of_ble_eq_true rfl⟩ rfl hl.1 (Nat.le_of_ble_eq_true rfl) ⟨Nat.le_of_ble_eq_true rfl, Nat.le_of_ble_eq_true rfl⟩ dL_isStep_450 (fun r450 M450 H locs h hw => ?_)
                      refine lv_if_gt (tgt := 467) hx hb dL_isStep_453 (by decide) (fun q_453 => ?_) (fun q_453 => ?_)
                      · have h := h.1 q_453
                        refine lv_iconst (v := 1) hx hb dL_isStep_467 (by decide) ?_
                        refine lv_goto (tgt := 472) hx hb dL_isStep_468 (by decide) ?_
                        exact we_z S hw rfl (by rfl) h dL_isStep_472
                      · have h := h.2 q_453
                        refine lv_aload_n hx hb dL_isStep_456 rfl (lv_at hl 5 rfl) ?_
                        refine cv_i (As := []) (rest := []) S.1 hw (k_X5_takeAll l E Z M450 a0  _ h) wv_L_46 yc_X5_takeAll ⟨rfl, rfl⟩ ⟨Nat.le_of_ble_eq_true rfl, Nat.le_of_ble_eq_true rfl⟩ rfl hl.1 (Nat.le_of_ble_eq_true rfl) (ci := 5) (q := (RX5, TX5, 9)) rfl rfl (by rw [k_0]; decide) (cell_5 k_0) ⟨Nat.le_of_ble_eq_true rfl, Nat.le_of_ble_eq_true rfl⟩ dL_isStep_457 (fun r457 M457 H locs h hw => ?_)
                        refine lv_aload_n hx hb dL_isStep_460 rfl (lv_at hl 6 rfl) ?_
                        obtain ⟨k_7, h⟩ := h
                        refine cv_i (As := []) (rest := [.int r457]) S.1 hw (k_X5_takeAll l E Z M457 a1  _ h) wv_L_46 yc_X5_takeAll ⟨rfl, rfl⟩ ⟨Nat.le_of_ble_eq_true rfl, Nat.le_of_ble_eq_true rfl⟩ rfl hl.1 (Nat.le_of_ble_eq_true rfl) (ci := 5) (q := (RX5, TX5, 9)) rfl rfl (by rw [k_7]; decide) (cell_5 k_7) ⟨Nat.le_of_ble_eq_true rfl, Nat.le_of_ble_eq_true rfl⟩ dL_isStep_461 (fun r461 M461 H locs h hw => ?_)
                        refine lv_icmp_ne (tgt := 471) hx hb dL_isStep_464 (by decide) (fun q_464 => ?_) (fun q_464 => ?_)
                        · have h := h.1 q_464
                          refine lv_iconst (v := 0) hx hb dL_isStep_471 (by decide) ?_
                          exact we_z S hw rfl (by rfl) h dL_isStep_472
                        · have h := h.2 q_464
                          refine lv_iconst (v := 1) hx hb dL_isStep_467 (by decide) ?_
                          refine lv_goto (tgt := 472) hx hb dL_isStep_468 (by decide) ?_
                          exact we_z S hw rfl (by rfl) h dL_isStep_472
                    · have h := h.2 q_44_9
                      by_cases q_44_10 : r41 = 10
                      · have h := h.1 q_44_10
                        refine lv_tableIn (tgt := 473) hx hb dL_isStep_44 (by rw [q_44_10]; decide) (by rw [q_44_10]; decide) (by rw [q_44_10]; rfl) (by decide) ?_
                        refine lv_iconst (v := 2) hx hb dL_isStep_473 (by decide) ?_
                        refine lv_iload_n hx hb dL_isStep_474 rfl (lv_at hl 4 rfl) ?_
                        refine lv_bipush (v := 6) hx hb dL_isStep_475 (by decide) ?_
                        refine cs_i (As := [.int (v2 >>> ((4 : Int32) &&& 31)), .int 6]) (rest := [.int 2]) S.1 hw (k_L_up l E Z M41 (v2 >>> ((4 : Int32) &&& 31)) 6 _ h) wv_L_15 yc_L_up ⟨rfl, rfl⟩ ⟨Nat.le_of_ble_eq_true rfl, Nat.le_of_ble_eq_true rfl⟩ rfl hl.1 (Nat.le_of_ble_eq_true rfl) ⟨Nat.le_of_ble_eq_true rfl, Nat.le_of_ble_eq_true rfl⟩ dL_isStep_477 (fun r477 M477 H locs h hw => ?_)
                        refine lv_iadd hx hb dL_isStep_480 ?_
                        refine lv_istore (lv' := [(8, .int (2 + r477)), (7, .int r33), (6, .int r24), (5, .int r13), (4, .int r6), (3, .int (v2 >>> ((4 : Int32) &&& 31))), (0, .ref a0), (1, .ref a1), (2, .int v2)]) hx hb dL_isStep_481 hl (by decide) rfl (fun ls hl => ?_)
                        refine lv_iconst (v := 2) hx hb dL_isStep_483 (by decide) ?_
                        refine lv_iload_n hx hb dL_isStep_484 rfl (lv_at hl 5 rfl) ?_
                        refine lv_iconst (v := 3) hx hb dL_isStep_485 (by decide) ?_
                        refine lv_ishr hx hb dL_isStep_486 ?_
                        refine lv_bipush (v := 6) hx hb dL_isStep_487 (by decide) ?_
                        refine cs_i (As := [.int ((v2 >>> ((4 : Int32) &&& 31)) >>> ((3 : Int32) &&& 31)), .int 6]) (rest := [.int 2]) S.1 hw (k_L_up l E Z M477 ((v2 >>> ((4 : Int32) &&& 31)) >>> ((3 : Int32) &&& 31)) 6 _ h) wv_L_15 yc_L_up ⟨rfl, rfl⟩ ⟨Nat.le_of_ble_eq_true rfl, Nat.le_of_ble_eq_true rfl⟩ rfl hl.1 (Nat.le_of_ble_eq_true rfl) ⟨Nat.le_of_ble_eq_true rfl, Nat.le_of_ble_eq_true rfl⟩ dL_isStep_489 (fun r489 M489 H locs h hw => ?_)
                        refine lv_iadd hx hb dL_isStep_492 ?_
                        refine lv_istore (lv' := [(9, .int (2 + r489)), (8, .int (2 + r477)), (7, .int r33), (6, .int r24), (5, .int r13), (4, .int r6), (3, .int (v2 >>> ((4 : Int32) &&& 31))), (0, .ref a0), (1, .ref a1), (2, .int v2)]) hx hb dL_isStep_493 hl (by decide) rfl (fun ls hl => ?_)
                        refine lv_iload_n hx hb dL_isStep_495 rfl (lv_at hl 6 rfl) ?_
                        refine lv_bipush (v := 6) hx hb dL_isStep_496 (by decide) ?_
                        refine lv_ishr hx hb dL_isStep_498 ?_
                        refine lv_iconst (v := 5) hx hb dL_isStep_499 (by decide) ?_
                        refine cs_i (As := [.int ((v2 >>> ((4 : Int32) &&& 31)) >>> ((6 : Int32) &&& 31)), .int 5]) (rest := []) S.1 hw (k_L_up l E Z M489 ((v2 >>> ((4 : Int32) &&& 31)) >>> ((6 : Int32) &&& 31)) 5 _ h) wv_L_15 yc_L_up ⟨rfl, rfl⟩ ⟨Nat.le_of_ble_eq_true rfl, Nat.le_of_ble_eq_true rfl⟩ rfl hl.1 (Nat.le_of_ble_eq_true rfl) ⟨Nat.le_of_ble_eq_true rfl, Nat.le_of_ble_eq_true rfl⟩ dL_isStep_500 (fun r500 M500 H locs h hw => ?_)
                        refine lv_if_gt (tgt := 543) hx hb dL_isStep_503 (by decide) (fun q_503 => ?_) (fun q_503 => ?_)
                        · have h := h.1 q_503
                          refine lv_iconst (v := 1) hx hb dL_isStep_543 (by decide) ?_
                          refine lv_goto (tgt := 548) hx hb dL_isStep_544 (by decide) ?_
                          exact we_z S hw rfl (by rfl) h dL_isStep_548
                        · have h := h.2 q_503
                          refine lv_aload_n hx hb dL_isStep_506 rfl (lv_at hl 7 rfl) ?_
                          refine lv_iload hx hb dL_isStep_507 (lv_at hl 1 rfl) ?_
                          refine lv_iload hx hb dL_isStep_509 (lv_at hl 0 rfl) ?_
                          refine lv_iload_n hx hb dL_isStep_511 rfl (lv_at hl 6 rfl) ?_
                          refine lv_bipush (v := 9) hx hb dL_isStep_512 (by decide) ?_
                          refine lv_ishr hx hb dL_isStep_514 ?_
                          refine lv_bipush (v := 12) hx hb dL_isStep_515 (by decide) ?_
                          refine cs_i (As := [.int ((v2 >>> ((4 : Int32) &&& 31)) >>> ((9 : Int32) &&& 31)), .int 12]) (rest := [.int (2 + r489), .int (2 + r477), .ref a0]) S.1 hw (k_L_up l E Z M500 ((v2 >>> ((4 : Int32) &&& 31)) >>> ((9 : Int32) &&& 31)) 12 _ h) wv_L_15 yc_L_up ⟨rfl, rfl⟩ ⟨Nat.le_of_ble_eq_true rfl, Nat.le_of_ble_eq_true rfl⟩ rfl hl.1 (Nat.le_of_ble_eq_true rfl) ⟨Nat.le_of_ble_eq_true rfl, Nat.le_of_ble_eq_true rfl⟩ dL_isStep_517 (fun r517 M517 H locs h hw => ?_)
                          refine cv_i (As := [.int (2 + r477), .int (2 + r489), .int r517]) (rest := []) S.1 hw (k_X5_make l E Z M517 a0 (2 + r477) (2 + r489) r517 _ h) wv_L_50 yc_X5_make ⟨rfl, rfl⟩ ⟨Nat.le_of_ble_eq_true rfl, Nat.le_of_ble_eq_true rfl⟩ rfl hl.1 (Nat.le_of_ble_eq_true rfl) (ci := 5) (q := (RX5, TX5, 9)) rfl rfl (by rw [k_0]; decide) (cell_5 k_0) ⟨Nat.le_of_ble_eq_true rfl, Nat.le_of_ble_eq_true rfl⟩ dL_isStep_520 (fun r520 M520 H locs h hw => ?_)
                          refine lv_aload_n hx hb dL_isStep_523 rfl (lv_at hl 8 rfl) ?_
                          refine lv_iload hx hb dL_isStep_524 (lv_at hl 1 rfl) ?_
                          refine lv_iload hx hb dL_isStep_526 (lv_at hl 0 rfl) ?_
                          refine lv_iload_n hx hb dL_isStep_528 rfl (lv_at hl 6 rfl) ?_
                          refine lv_bipush (v := 9) hx hb dL_isStep_529 (by decide) ?_
                          refine lv_ishr hx hb dL_isStep_531 ?_
                          refine lv_bipush (v := 12) hx hb dL_isStep_532 (by decide) ?_
                          refine cs_i (As := [.int ((v2 >>> ((4 : Int32) &&& 31)) >>> ((9 : Int32) &&& 31)), .int 12]) (rest := [.int (2 + r489), .int (2 + r477), .ref a1, .int r520]) S.1 hw (k_L_up l E Z M520 ((v2 >>> ((4 : Int32) &&& 31)) >>> ((9 : Int32) &&& 31)) 12 _ h) wv_L_15 yc_L_up ⟨rfl, rfl⟩ ⟨Nat.le_of_ble_eq_true rfl, Nat.le_of_ble_eq_true rfl⟩ rfl hl.1 (Nat.le_of_ble_eq_true rfl) ⟨Nat.le_of_ble_eq_true rfl, Nat.le_of_ble_eq_true rfl⟩ dL_isStep_534 (fun r534 M534 H locs h hw => ?_)
                          obtain ⟨k_8, h⟩ := h
                          refine cv_i (As := [.int (2 + r477), .int (2 + r489), .int r534]) (rest := [.int r520]) S.1 hw (k_X5_make l E Z M534 a1 (2 + r477) (2 + r489) r534 _ h) wv_L_50 yc_X5_make ⟨rfl, rfl⟩ ⟨Nat.le_of_ble_eq_true rfl, Nat.le_of_ble_eq_true rfl⟩ rfl hl.1 (Nat.le_of_ble_eq_true rfl) (ci := 5) (q := (RX5, TX5, 9)) rfl rfl (by rw [k_8]; decide) (cell_5 k_8) ⟨Nat.le_of_ble_eq_true rfl, Nat.le_of_ble_eq_true rfl⟩ dL_isStep_537 (fun r537 M537 H locs h hw => ?_)
                          refine lv_icmp_ne (tgt := 547) hx hb dL_isStep_540 (by decide) (fun q_540 => ?_) (fun q_540 => ?_)
                          · have h := h.1 q_540
                            refine lv_iconst (v := 0) hx hb dL_isStep_547 (by decide) ?_
                            exact we_z S hw rfl (by rfl) h dL_isStep_548
                          · have h := h.2 q_540
                            refine lv_iconst (v := 1) hx hb dL_isStep_543 (by decide) ?_
                            refine lv_goto (tgt := 548) hx hb dL_isStep_544 (by decide) ?_
                            exact we_z S hw rfl (by rfl) h dL_isStep_548
                      · have h := h.2 q_44_10
                        have t_0 := lv_neT q_44_0 (a := 0) rfl
                        have t_1 := lv_neT q_44_1 (a := 1) rfl
                        have t_2 := lv_neT q_44_2 (a := 2) rfl
                        have t_3 := lv_neT q_44_3 (a := 3) rfl
                        have t_4 := lv_neT q_44_4 (a := 4) rfl
                        have t_5 := lv_neT q_44_5 (a := 5) rfl
                        have t_6 := lv_neT q_44_6 (a := 6) rfl
                        have t_7 := lv_neT q_44_7 (a := 7) rfl
                        have t_8 := lv_neT q_44_8 (a := 8) rfl
                        have t_9 := lv_neT q_44_9 (a := 9) rfl
                        have t_10 := lv_neT q_44_10 (a := 10) rfl
                        refine lv_tableOut (tgt := 549) hx hb dL_isStep_44 (by omega) (by decide) ?_
                        refine lv_aload_n hx hb dL_isStep_549 rfl (lv_at hl 5 rfl) ?_
                        refine lv_iload hx hb dL_isStep_550 (lv_at hl 1 rfl) ?_
                        refine lv_iconst (v := 4) hx hb dL_isStep_552 (by decide) ?_
                        refine cv_i (As := [.int r24, .int 4]) (rest := []) S.1 hw (k_X5_block l E Z M41 a0 r24 4 _ h) wv_L_53 yc_X5_block ⟨rfl, rfl⟩ ⟨Nat.le_of_ble_eq_true rfl, Nat.le_of_ble_eq_true rfl⟩ rfl hl.1 (Nat.le_of_ble_eq_true rfl) (ci := 5) (q := (RX5, TX5, 9)) rfl rfl (by rw [k_0]; decide) (cell_5 k_0) ⟨Nat.le_of_ble_eq_true rfl, Nat.le_of_ble_eq_true rfl⟩ dL_isStep_553 (fun r553 M553 H locs h hw => ?_)
                        refine lv_if_ge (tgt := 577) hx hb dL_isStep_556 (by decide) (fun q_556 => ?_) (fun q_556 => ?_)
                        · have h := h.1 q_556
                          refine lv_aload_n hx hb dL_isStep_577 rfl (lv_at hl 5 rfl) ?_
                          refine lv_iload hx hb dL_isStep_578 (lv_at hl 1 rfl) ?_
                          refine cv_i (As := [.int r24]) (rest := []) S.1 hw (k_X5_takeOut l E Z M553 a0 r24 _ h) wv_L_56 yc_X5_takeOut ⟨rfl, rfl⟩ ⟨Nat.le_of_ble_eq_true rfl, Nat.le_of_ble_eq_true rfl⟩ rfl hl.1 (Nat.le_of_ble_eq_true rfl) (ci := 5) (q := (RX5, TX5, 9)) rfl rfl (by rw [k_0]; decide) (cell_5 k_0) ⟨Nat.le_of_ble_eq_true rfl, Nat.le_of_ble_eq_true rfl⟩ dL_isStep_580 (fun r580 M580 H locs h hw => ?_)
                          refine lv_aload_n hx hb dL_isStep_583 rfl (lv_at hl 6 rfl) ?_
                          refine lv_iload hx hb dL_isStep_584 (lv_at hl 0 rfl) ?_
                          obtain ⟨k_9, h⟩ := h
                          refine cv_i (As := [.int r33]) (rest := [.int r580]) S.1 hw (k_X5_takeOut l E Z M580 a1 r33 _ h) wv_L_56 yc_X5_takeOut ⟨rfl, rfl⟩ ⟨Nat.le_of_ble_eq_true rfl, Nat.le_of_ble_eq_true rfl⟩ rfl hl.1 (Nat.le_of_ble_eq_true rfl) (ci := 5) (q := (RX5, TX5, 9)) rfl rfl (by rw [k_9]; decide) (cell_5 k_9) ⟨Nat.le_of_ble_eq_true rfl, Nat.le_of_ble_eq_true rfl⟩ dL_isStep_586 (fun r586 M586 H locs h hw => ?_)
                          refine lv_icmp_ne (tgt := 596) hx hb dL_isStep_589 (by decide) (fun q_589 => ?_) (fun q_589 => ?_)
                          · have h := h.1 q_589
                            refine lv_iconst (v := 0) hx hb dL_isStep_596 (by decide) ?_
                            exact we_z S hw rfl (by rfl) h dL_isStep_597
                          · have h := h.2 q_589
                            refine lv_iconst (v := 1) hx hb dL_isStep_592 (by decide) ?_
                            refine lv_goto (tgt := 597) hx hb dL_isStep_593 (by decide) ?_
                            exact we_z S hw rfl (by rfl) h dL_isStep_597
                        · have h := h.2 q_556
                          refine lv_aload_n hx hb dL_isStep_559 rfl (lv_at hl 6 rfl) ?_
                          refine lv_iload hx hb dL_isStep_560 (lv_at hl 0 rfl) ?_
                          refine lv_iconst (v := 4) hx hb dL_isStep_562 (by decide) ?_
                          obtain ⟨k_10, h⟩ := h
                          refine cv_i (As := [.int r33, .int 4]) (rest := []) S.1 hw (k_X5_block l E Z M553 a1 r33 4 _ h) wv_L_53 yc_X5_block ⟨rfl, rfl⟩ ⟨Nat.le_of_ble_eq_true rfl, Nat.le_of_ble_eq_true rfl⟩ rfl hl.1 (Nat.le_of_ble_eq_true rfl) (ci := 5) (q := (RX5, TX5, 9)) rfl rfl (by rw [k_10]; decide) (cell_5 k_10) ⟨Nat.le_of_ble_eq_true rfl, Nat.le_of_ble_eq_true rfl⟩ dL_isStep_563 (fun r563 M563 H locs h hw => ?_)
                          refine lv_if_ge (tgt := 573) hx hb dL_isStep_566 (by decide) (fun q_566 => ?_) (fun q_566 => ?_)
                          · have h := h.1 q_566
                            refine lv_iconst (v := 0) hx hb dL_isStep_573 (by decide) ?_
                            refine lv_goto (tgt := 597) hx hb dL_isStep_574 (by decide) ?_
                            exact we_z S hw rfl (by rfl) h dL_isStep_597
                          · have h := h.2 q_566
                            refine lv_iconst (v := 1) hx hb dL_isStep_569 (by decide) ?_
                            refine lv_goto (tgt := 597) hx hb dL_isStep_570 (by decide) ?_
                            exact we_z S hw rfl (by rfl) h dL_isStep_597
set_option maxRecDepth 100000 in
set_option maxHeartbeats 4000000 in
theorem k_L_isStep (l : Launch) (E : EE) (Z : ZZ) (M : MM) (a0 : Nat) (a1 : Nat) (v2 : Int32) (Q : Int32 → MM → Prop) (h : P_L_isStep Z M a0 a1 v2 Q) : Ct_i l yL_isStep cL_isStep 11 (some .boolean) rm_L_isStep E Z M [.ref a0, .ref a1, .int v2] Q := by
  refine Met.ofW (cc := cL_isStep) (maxL := 11) (ret := some .boolean) (by decide) rfl ?_
  intro p e s m args below meth c s₁ B hml hv
  obtain ⟨rfl, hK, hP, hD, hZ⟩ := hv
  have S : Cx p m c meth cL_isStep 11 s _ RL (some .boolean) := ⟨⟨B.exec, B.bytes, hml, findClass_of_methodNamed B.named, fun w hw => atoms_spec (ws := ws_ yL_isStep cL_isStep 11 (some .boolean)) B.pre w (List.mem_cons_of_mem _ hw)⟩, B.returns, B.notSynchronized⟩
  have hl := lv_entry ([.ref a0, .ref a1, .int v2]) (n := 11) (Nat.le_of_ble_eq_true rfl)
  rw [lg_entry_eq]
  generalize (lg_sl ([.ref a0, .ref a1, .int v2]) ++ List.replicate (11 - (lg_sl ([.ref a0, .ref a1, .int v2])).length) Slot.unset).toArray = ls at hl ⊢
  exact (wB_L_isStep_0 S  M a0 a1 v2 h) s.heap [] ls ⟨hK, hP, hD, va_S.rf, hZ⟩ hl
set_option maxRecDepth 100000 in
set_option maxHeartbeats 4000000 in
theorem wB_L_areAlike_63 (S : Cx p m c meth cL_areAlike 8 s args RL (some .boolean)) {Q : Int32 → MM → Prop} {K64 : MM → Nat → Nat → Int32 → Int32 → Int32 → Prop} (hK64 : ∀ (M : MM) (a0 : Nat) (a1 : Nat) (v2 : Int32) (v3 : Int32) (t0 : Int32), K64 M a0 a1 v2 v3 t0 → WG p l e rm_L_areAlike s m args below meth c 0 0 (MQi below E Z args s Q) E Z M 64 8 [(0, .ref a0), (1, .ref a1), (2, .int v2), (3, .int v3)] [.int t0]) (M : MM) (a0 : Nat) (a1 : Nat) (v2 : Int32) (v3 : Int32) (h : B_L_areAlike_63 Z Q K64 M a0 a1 v2 v3) : WG p l e rm_L_areAlike s m args below meth c 0 0 (MQi below E Z args s Q) E Z M 63 8 [(0, .ref a0), (1, .ref a1), (2, .int v2), (3, .int v3)] [] := by
  intro H locs ls hw hl
  have hx := S.1.1
  have hb := S.1.2.1
  refine lv_iconst (v := 0) hx hb dL_areAlike_63 (by decide) ?_
  exact (hK64 _ _ _ _ _ _ h) H locs ls hw (lv_sub hl [0, 1, 2, 3] rfl)
set_option maxRecDepth 100000 in
set_option maxHeartbeats 4000000 in
theorem wB_L_areAlike_100 (S : Cx p m c meth cL_areAlike 8 s args RL (some .boolean)) {Q : Int32 → MM → Prop} {K101 : MM → Nat → Nat → Int32 → Int32 → Int32 → Int32 → Prop} (hK101 : ∀ (M : MM) (a0 : Nat) (a1 : Nat) (v2 : Int32) (v3 : Int32) (v5 : Int32) (t0 : Int32), K101 M a0 a1 v2 v3 v5 t0 → WG p l e rm_L_areAlike s m args below meth c 0 0 (MQi below E Z args s Q) E Z M 101 8 [(0, .ref a0), (1, .ref a1), (2, .int v2), (3, .int v3), (5, .int v5)] [.int t0]) (M : MM) (a0 : Nat) (a1 : Nat) (v2 : Int32) (v3 : Int32) (v5 : Int32) (h : B_L_areAlike_100 Z Q K101 M a0 a1 v2 v3 v5) : WG p l e rm_L_areAlike s m args below meth c 0 0 (MQi below E Z args s Q) E Z M 100 8 [(0, .ref a0), (1, .ref a1), (2, .int v2), (3, .int v3), (5, .int v5)] [] := by
  intro H locs ls hw hl
  have hx := S.1.1
  have hb := S.1.2.1
  refine lv_iconst (v := 0) hx hb dL_areAlike_100 (by decide) ?_
  exact (hK101 _ _ _ _ _ _ _ h) H locs ls hw (lv_sub hl [0, 1, 2, 3, 4] rfl)
set_option maxRecDepth 100000 in
set_option maxHeartbeats 4000000 in
theorem wB_L_areAlike_101 (S : Cx p m c meth cL_areAlike 8 s args RL (some .boolean)) {Q : Int32 → MM → Prop} {K69 : MM → Nat → Nat → Int32 → Int32 → Int32 → Int32 → Prop} (hK69 : ∀ (M : MM) (a0 : Nat) (a1 : Nat) (v2 : Int32) (v3 : Int32) (v4 : Int32) (v5 : Int32), K69 M a0 a1 v2 v3 v4 v5 → WG p l e rm_L_areAlike s m args below meth c 0 0 (MQi below E Z args s Q) E Z M 69 8 [(0, .ref a0), (1, .ref a1), (2, .int v2), (3, .int v3), (4, .int v4), (5, .int v5)] []) (M : MM) (a0 : Nat) (a1 : Nat) (v2 : Int32) (v3 : Int32) (v5 : Int32) (t0 : Int32) (h : B_L_areAlike_101 Z Q K69 M a0 a1 v2 v3 v5 t0) : WG p l e rm_L_areAlike s m args below meth c 0 0 (MQi below E Z args s Q) E Z M 101 8 [(0, .ref a0), (1, .ref a1), (2, .int v2), (3, .int v3), (5, .int v5)] [.int t0] := by
  intro H locs ls hw hl
  have hx := S.1.1
  have hb := S.1.2.1
  refine lv_istore (lv' := [(4, .int t0), (0, .ref a0), (1, .ref a1), (2, .int v2), (3, .int v3), (5, .int v5)]) hx hb dL_areAlike_101 hl (by decide) rfl (fun ls hl => ?_)
  refine lv_iinc (v := (v5 + 1)) (lv' := [(5, .int (v5 + 1)), (4, .int t0), (0, .ref a0), (1, .ref a1), (2, .int v2), (3, .int v3)]) hx hb dL_areAlike_103 hl (k := 5) rfl rfl (by decide) rfl (fun ls hl => ?_)
  refine lv_goto (tgt := 69) hx hb dL_areAlike_106 (by decide) ?_
  exact (hK69 _ _ _ _ _ _ _ h) H locs ls hw (lv_sub hl [2, 3, 4, 5, 1, 0] rfl)
set_option maxRecDepth 100000 in
set_option maxHeartbeats 4000000 in
theorem wB_L_areAlike_254 (S : Cx p m c meth cL_areAlike 8 s args RL (some .boolean)) {Q : Int32 → MM → Prop} {K255 : MM → Nat → Nat → Int32 → Int32 → Int32 → Int32 → Int32 → Prop} (hK255 : ∀ (M : MM) (a0 : Nat) (a1 : Nat) (v2 : Int32) (v3 : Int32) (v5 : Int32) (v6 : Int32) (t0 : Int32), K255 M a0 a1 v2 v3 v5 v6 t0 → WG p l e rm_L_areAlike s m args below meth c 0 0 (MQi below E Z args s Q) E Z M 255 8 [(0, .ref a0), (1, .ref a1), (2, .int v2), (3, .int v3), (5, .int v5), (6, .int v6)] [.int t0]) (M : MM) (a0 : Nat) (a1 : Nat) (v2 : Int32) (v3 : Int32) (v5 : Int32) (v6 : Int32) (h : B_L_areAlike_254 Z Q K255 M a0 a1 v2 v3 v5 v6) : WG p l e rm_L_areAlike s m args below meth c 0 0 (MQi below E Z args s Q) E Z M 254 8 [(0, .ref a0), (1, .ref a1), (2, .int v2), (3, .int v3), (5, .int v5), (6, .int v6)] [] := by
  intro H locs ls hw hl
  have hx := S.1.1
  have hb := S.1.2.1
  refine lv_iconst (v := 0) hx hb dL_areAlike_254 (by decide) ?_
  exact (hK255 _ _ _ _ _ _ _ _ h) H locs ls hw (lv_sub hl [0, 1, 2, 3, 4, 5] rfl)
set_option maxRecDepth 100000 in
set_option maxHeartbeats 4000000 in
theorem wB_L_areAlike_294 (S : Cx p m c meth cL_areAlike 8 s args RL (some .boolean)) {Q : Int32 → MM → Prop} {K295 : MM → Nat → Nat → Int32 → Int32 → Int32 → Int32 → Int32 → Int32 → Prop} (hK295 : ∀ (M : MM) (a0 : Nat) (a1 : Nat) (v2 : Int32) (v3 : Int32) (v5 : Int32) (v6 : Int32) (v7 : Int32) (t0 : Int32), K295 M a0 a1 v2 v3 v5 v6 v7 t0 → WG p l e rm_L_areAlike s m args below meth c 0 0 (MQi below E Z args s Q) E Z M 295 8 [(0, .ref a0), (1, .ref a1), (2, .int v2), (3, .int v3), (5, .int v5), (6, .int v6), (7, .int v7)] [.int t0]) (M : MM) (a0 : Nat) (a1 : Nat) (v2 : Int32) (v3 : Int32) (v5 : Int32) (v6 : Int32) (v7 : Int32) (h : B_L_areAlike_294 Z Q K295 M a0 a1 v2 v3 v5 v6 v7) : WG p l e rm_L_areAlike s m args below meth c 0 0 (MQi below E Z args s Q) E Z M 294 8 [(0, .ref a0), (1, .ref a1), (2, .int v2), (3, .int v3), (5, .int v5), (6, .int v6), (7, .int v7)] [] := by
  intro H locs ls hw hl
  have hx := S.1.1
  have hb := S.1.2.1
  refine lv_iconst (v := 0) hx hb dL_areAlike_294 (by decide) ?_
  exact (hK295 _ _ _ _ _ _ _ _ _ h) H locs ls hw (lv_sub hl [0, 1, 2, 3, 4, 5, 6] rfl)
set_option maxRecDepth 100000 in
set_option maxHeartbeats 4000000 in
theorem wB_L_areAlike_295 (S : Cx p m c meth cL_areAlike 8 s args RL (some .boolean)) {Q : Int32 → MM → Prop} {K260 : MM → Nat → Nat → Int32 → Int32 → Int32 → Int32 → Int32 → Int32 → Prop} (hK260 : ∀ (M : MM) (a0 : Nat) (a1 : Nat) (v2 : Int32) (v3 : Int32) (v4 : Int32) (v5 : Int32) (v6 : Int32) (v7 : Int32), K260 M a0 a1 v2 v3 v4 v5 v6 v7 → WG p l e rm_L_areAlike s m args below meth c 0 0 (MQi below E Z args s Q) E Z M 260 8 [(0, .ref a0), (1, .ref a1), (2, .int v2), (3, .int v3), (4, .int v4), (5, .int v5), (6, .int v6), (7, .int v7)] []) (M : MM) (a0 : Nat) (a1 : Nat) (v2 : Int32) (v3 : Int32) (v5 : Int32) (v6 : Int32) (v7 : Int32) (t0 : Int32) (h : B_L_areAlike_295 Z Q K260 M a0 a1 v2 v3 v5 v6 v7 t0) : WG p l e rm_L_areAlike s m args below meth c 0 0 (MQi below E Z args s Q) E Z M 295 8 [(0, .ref a0), (1, .ref a1), (2, .int v2), (3, .int v3), (5, .int v5), (6, .int v6), (7, .int v7)] [.int t0] := by
  intro H locs ls hw hl
  have hx := S.1.1
  have hb := S.1.2.1
  refine lv_istore (lv' := [(4, .int t0), (0, .ref a0), (1, .ref a1), (2, .int v2), (3, .int v3), (5, .int v5), (6, .int v6), (7, .int v7)]) hx hb dL_areAlike_295 hl (by decide) rfl (fun ls hl => ?_)
  refine lv_iinc (v := (v7 + 1)) (lv' := [(7, .int (v7 + 1)), (4, .int t0), (0, .ref a0), (1, .ref a1), (2, .int v2), (3, .int v3), (5, .int v5), (6, .int v6)]) hx hb dL_areAlike_297 hl (k := 7) rfl rfl (by decide) rfl (fun ls hl => ?_)
  refine lv_goto (tgt := 260) hx hb dL_areAlike_300 (by decide) ?_
  exact (hK260 _ _ _ _ _ _ _ _ _ h) H locs ls hw (lv_sub hl [2, 3, 4, 5, 1, 6, 7, 0] rfl)
set_option maxRecDepth 100000 in
set_option maxHeartbeats 4000000 in
theorem wB_L_areAlike_260 (S : Cx p m c meth cL_areAlike 8 s args RL (some .boolean)) {Q : Int32 → MM → Prop} {K112 : MM → Nat → Nat → Int32 → Int32 → Int32 → Int32 → Prop} {K260 : MM → Nat → Nat → Int32 → Int32 → Int32 → Int32 → Int32 → Int32 → Prop} (hK112 : ∀ (M : MM) (a0 : Nat) (a1 : Nat) (v2 : Int32) (v3 : Int32) (v4 : Int32) (v5 : Int32), K112 M a0 a1 v2 v3 v4 v5 → WG p l e rm_L_areAlike s m args below meth c 0 0 (MQi below E Z args s Q) E Z M 112 8 [(0, .ref a0), (1, .ref a1), (2, .int v2), (3, .int v3), (4, .int v4), (5, .int v5)] []) (hK260 : ∀ (M : MM) (a0 : Nat) (a1 : Nat) (v2 : Int32) (v3 : Int32) (v4 : Int32) (v5 : Int32) (v6 : Int32) (v7 : Int32), K260 M a0 a1 v2 v3 v4 v5 v6 v7 → WG p l e rm_L_areAlike s m args below meth c 0 0 (MQi below E Z args s Q) E Z M 260 8 [(0, .ref a0), (1, .ref a1), (2, .int v2), (3, .int v3), (4, .int v4), (5, .int v5), (6, .int v6), (7, .int v7)] []) (M : MM) (a0 : Nat) (a1 : Nat) (v2 : Int32) (v3 : Int32) (v4 : Int32) (v5 : Int32) (v6 : Int32) (v7 : Int32) (h : B_L_areAlike_260 Z Q K112 K260 M a0 a1 v2 v3 v4 v5 v6 v7) : WG p l e rm_L_areAlike s m args below meth c 0 0 (MQi below E Z args s Q) E Z M 260 8 [(0, .ref a0), (1, .ref a1), (2, .int v2), (3, .int v3), (4, .int v4), (5, .int v5), (6, .int v6), (7, .int v7)] [] := by
  intro H locs ls hw hl
  have hx := S.1.1
  have hb := S.1.2.1
  refine lv_iload hx hb dL_areAlike_260 (lv_at hl 7 rfl) ?_
  refine lv_iconst (v := 5) hx hb dL_areAlike_262 (by decide) ?_
  refine lv_icmp_ge (tgt := 303) hx hb dL_areAlike_263 (by decide) (fun q_263 => ?_) (fun q_263 => ?_)
  · have h := h.1 q_263
    refine lv_iinc (v := (v5 + 1)) (lv' := [(5, .int (v5 + 1)), (0, .ref a0), (1, .ref a1), (2, .int v2), (3, .int v3), (4, .int v4), (6, .int v6), (7, .int v7)]) hx hb dL_areAlike_303 hl (k := 5) rfl rfl (by decide) rfl (fun ls hl => ?_)
    refine lv_goto (tgt := 112) hx hb dL_areAlike_306 (by decide) ?_
    exact (hK112 _ _ _ _ _ _ _ h) H locs ls hw (lv_sub hl [1, 2, 3, 4, 5, 0] rfl)
  · have h := h.2 q_263
    refine lv_iload hx hb dL_areAlike_266 (lv_at hl 4 rfl) ?_
    refine lv_if_eq (tgt := 294) hx hb dL_areAlike_268 (by decide) (fun q_268 => ?_) (fun q_268 => ?_)
    · have h := h.1 q_268
      exact ((wB_L_areAlike_294 S  (fun M1 a0 a1 v2 v3 v5 v6 v7 t0 h => (wB_L_areAlike_295 S  hK260 _ _ _ _ _ _ _ _ _ h)) _ _ _ _ _ _ _ _ h)) H locs ls hw (lv_sub hl [0, 1, 2, 3, 5, 6, 7] rfl)
    · have h := h.2 q_268
      refine lv_aload_n hx hb dL_areAlike_271 rfl (lv_at hl 0 rfl) ?_
      refine lv_iload hx hb dL_areAlike_272 (lv_at hl 5 rfl) ?_
      refine lv_iload hx hb dL_areAlike_274 (lv_at hl 7 rfl) ?_
      obtain ⟨k_0, h⟩ := h
      refine cv_i (As := [.int v5, .int v7]) (rest := []) S.1 hw (k_X5_block l E Z M a0 v5 v7 _ h) wv_L_53 yc_X5_block ⟨rfl, rfl⟩ ⟨Nat.le_of_ble_eq_true rfl, Nat.le_of_ble_eq_true rfl⟩ rfl hl.1 (Nat.le_of_ble_eq_true rfl) (ci := 5) (q := (RX5, TX5, 9)) rfl rfl (by rw [k_0]; decide) (cell_5 k_0) ⟨Nat.le_of_ble_eq_true rfl, Nat.le_of_ble_eq_true rfl⟩ dL_areAlike_276 (fun r276 M276 H locs h hw => ?_)
      refine lv_aload_n hx hb dL_areAlike_279 rfl (lv_at hl 1 rfl) ?_
      refine lv_iload hx hb dL_areAlike_280 (lv_at hl 6 rfl) ?_
      refine lv_iload hx hb dL_areAlike_282 (lv_at hl 7 rfl) ?_
      obtain ⟨k_1, h⟩ := h
      refine cv_i (As := [.int v6, .int v7]) (rest := [.int r276]) S.1 hw (k_X5_block l E Z M276 a1 v6 v7 _ h) wv_L_53 yc_X5_block ⟨rfl, rfl⟩ ⟨Nat.le_of_ble_eq_true rfl, Nat.le_of_ble_eq_true rfl⟩ rfl hl.1 (Nat.le_of_ble_eq_true rfl) (ci := 5) (q := (RX5, TX5, 9)) rfl rfl (by rw [k_1]; decide) (cell_5 k_1) ⟨Nat.le_of_ble_eq_true rfl, Nat.le_of_ble_eq_true rfl⟩ dL_areAlike_284 (fun r284 M284 H locs h hw => ?_)
      refine lv_icmp_ne (tgt := 294) hx hb dL_areAlike_287 (by decide) (fun q_287 => ?_) (fun q_287 => ?_)
      · have h := h.1 q_287
        exact ((wB_L_areAlike_294 S  (fun M1 a0 a1 v2 v3 v5 v6 v7 t0 h => (wB_L_areAlike_295 S  hK260 _ _ _ _ _ _ _ _ _ h)) _ _ _ _ _ _ _ _ h)) H locs ls hw (lv_sub hl [0, 1, 2, 3, 5, 6, 7] rfl)
      · have h := h.2 q_287
        refine lv_iconst (v := 1) hx hb dL_areAlike_290 (by decide) ?_
        refine lv_goto (tgt := 295) hx hb dL_areAlike_291 (by decide) ?_
        exact ((wB_L_areAlike_295 S  hK260 _ _ _ _ _ _ _ _ _ h)) H locs ls hw (lv_sub hl [0, 1, 2, 3, 5, 6, 7] rfl)
theorem wL_L_areAlike_260 (S : Cx p m c meth cL_areAlike 8 s args RL (some .boolean)) {Q : Int32 → MM → Prop} {K112 : MM → Nat → Nat → Int32 → Int32 → Int32 → Int32 → Prop} (hK112 : ∀ (M : MM) (a0 : Nat) (a1 : Nat) (v2 : Int32) (v3 : Int32) (v4 : Int32) (v5 : Int32), K112 M a0 a1 v2 v3 v4 v5 → WG p l e rm_L_areAlike s m args below meth c 0 0 (MQi below E Z args s Q) E Z M 112 8 [(0, .ref a0), (1, .ref a1), (2, .int v2), (3, .int v3), (4, .int v4), (5, .int v5)] []) : ∀ (n : Nat) (M : MM) (a0 : Nat) (a1 : Nat) (v2 : Int32) (v3 : Int32) (v4 : Int32) (v5 : Int32) (v6 : Int32) (v7 : Int32), L_L_areAlike_260 Z Q K112 n M a0 a1 v2 v3 v4 v5 v6 v7 → WG p l e rm_L_areAlike s m args below meth c 0 0 (MQi below E Z args s Q) E Z M 260 8 [(0, .ref a0), (1, .ref a1), (2, .int v2), (3, .int v3), (4, .int v4), (5, .int v5), (6, .int v6), (7, .int v7)] []
  | 0, _, _, _, _, _, _, _, _, _, h => False.elim h
  | n + 1, M, a0, a1, v2, v3, v4, v5, v6, v7, h => wB_L_areAlike_260 S  hK112 (wL_L_areAlike_260 S  hK112 n) M a0 a1 v2 v3 v4 v5 v6 v7 h
set_option maxRecDepth 100000 in
set_option maxHeartbeats 4000000 in
theorem wB_L_areAlike_255 (S : Cx p m c meth cL_areAlike 8 s args RL (some .boolean)) {Q : Int32 → MM → Prop} {K112 : MM → Nat → Nat → Int32 → Int32 → Int32 → Int32 → Prop} (hK112 : ∀ (M : MM) (a0 : Nat) (a1 : Nat) (v2 : Int32) (v3 : Int32) (v4 : Int32) (v5 : Int32), K112 M a0 a1 v2 v3 v4 v5 → WG p l e rm_L_areAlike s m args below meth c 0 0 (MQi below E Z args s Q) E Z M 112 8 [(0, .ref a0), (1, .ref a1), (2, .int v2), (3, .int v3), (4, .int v4), (5, .int v5)] []) (M : MM) (a0 : Nat) (a1 : Nat) (v2 : Int32) (v3 : Int32) (v5 : Int32) (v6 : Int32) (t0 : Int32) (h : B_L_areAlike_255 Z Q K112 M a0 a1 v2 v3 v5 v6 t0) : WG p l e rm_L_areAlike s m args below meth c 0 0 (MQi below E Z args s Q) E Z M 255 8 [(0, .ref a0), (1, .ref a1), (2, .int v2), (3, .int v3), (5, .int v5), (6, .int v6)] [.int t0] := by
  intro H locs ls hw hl
  have hx := S.1.1
  have hb := S.1.2.1
  refine lv_istore (lv' := [(4, .int t0), (0, .ref a0), (1, .ref a1), (2, .int v2), (3, .int v3), (5, .int v5), (6, .int v6)]) hx hb dL_areAlike_255 hl (by decide) rfl (fun ls hl => ?_)
  refine lv_iconst (v := 1) hx hb dL_areAlike_257 (by decide) ?_
  refine lv_istore (lv' := [(7, .int 1), (4, .int t0), (0, .ref a0), (1, .ref a1), (2, .int v2), (3, .int v3), (5, .int v5), (6, .int v6)]) hx hb dL_areAlike_258 hl (by decide) rfl (fun ls hl => ?_)
  exact ((Exists.elim h (fun n h => wL_L_areAlike_260 S  hK112 n _ _ _ _ _ _ _ _ _ h))) H locs ls hw (lv_sub hl [2, 3, 4, 5, 1, 6, 7, 0] rfl)
set_option maxRecDepth 100000 in
set_option maxHeartbeats 4000000 in
theorem wB_L_areAlike_112 (S : Cx p m c meth cL_areAlike 8 s args RL (some .boolean)) {Q : Int32 → MM → Prop} {K112 : MM → Nat → Nat → Int32 → Int32 → Int32 → Int32 → Prop} (hK112 : ∀ (M : MM) (a0 : Nat) (a1 : Nat) (v2 : Int32) (v3 : Int32) (v4 : Int32) (v5 : Int32), K112 M a0 a1 v2 v3 v4 v5 → WG p l e rm_L_areAlike s m args below meth c 0 0 (MQi below E Z args s Q) E Z M 112 8 [(0, .ref a0), (1, .ref a1), (2, .int v2), (3, .int v3), (4, .int v4), (5, .int v5)] []) (M : MM) (a0 : Nat) (a1 : Nat) (v2 : Int32) (v3 : Int32) (v4 : Int32) (v5 : Int32) (h : B_L_areAlike_112 Z Q K112 M a0 a1 v2 v3 v4 v5) : WG p l e rm_L_areAlike s m args below meth c 0 0 (MQi below E Z args s Q) E Z M 112 8 [(0, .ref a0), (1, .ref a1), (2, .int v2), (3, .int v3), (4, .int v4), (5, .int v5)] [] := by
  intro H locs ls hw hl
  have hx := S.1.1
  have hb := S.1.2.1
  refine lv_iload hx hb dL_areAlike_112 (lv_at hl 5 rfl) ?_
  refine lv_iload_n hx hb dL_areAlike_114 rfl (lv_at hl 3 rfl) ?_
  refine lv_icmp_ge (tgt := 309) hx hb dL_areAlike_115 (by decide) (fun q_115 => ?_) (fun q_115 => ?_)
  · have h := h.1 q_115
    refine lv_iload hx hb dL_areAlike_309 (lv_at hl 4 rfl) ?_
    obtain ⟨zz, h⟩ := h
    exact we_b S hw zz h dL_areAlike_311
  · have h := h.2 q_115
    refine lv_iload hx hb dL_areAlike_118 (lv_at hl 4 rfl) ?_
    refine lv_if_eq (tgt := 309) hx hb dL_areAlike_120 (by decide) (fun q_120 => ?_) (fun q_120 => ?_)
    · have h := h.1 q_120
      refine lv_iload hx hb dL_areAlike_309 (lv_at hl 4 rfl) ?_
      obtain ⟨zz, h⟩ := h
      exact we_b S hw zz h dL_areAlike_311
    · have h := h.2 q_120
      refine lv_iload hx hb dL_areAlike_123 (lv_at hl 5 rfl) ?_
      refine lv_iload_n hx hb dL_areAlike_125 rfl (lv_at hl 2 rfl) ?_
      refine cs_i (As := [.int v5, .int v2]) (rest := []) S.1 hw (k_L_turned l E Z M v5 v2 _ h) wv_L_21 yc_L_turned ⟨rfl, rfl⟩ ⟨Nat.le_of_ble_eq_true rfl, Nat.le_of_ble_eq_true rfl⟩ rfl hl.1 (Nat.le_of_ble_eq_true rfl) ⟨Nat.le_of_ble_eq_true rfl, Nat.le_of_ble_eq_true rfl⟩ dL_areAlike_126 (fun r126 M126 H locs h hw => ?_)
      refine lv_istore (lv' := [(6, .int r126), (0, .ref a0), (1, .ref a1), (2, .int v2), (3, .int v3), (4, .int v4), (5, .int v5)]) hx hb dL_areAlike_129 hl (by decide) rfl (fun ls hl => ?_)
      refine lv_aload_n hx hb dL_areAlike_131 rfl (lv_at hl 1 rfl) ?_
      refine lv_iload hx hb dL_areAlike_132 (lv_at hl 6 rfl) ?_
      refine lv_iconst (v := 0) hx hb dL_areAlike_134 (by decide) ?_
      obtain ⟨k_0, h⟩ := h
      refine cv_i (As := [.int v5, .int 0]) (rest := []) S.1 hw (k_X5_cell l E Z M126 a0 v5 0 _ h) wv_L_34 yc_X5_cell ⟨rfl, rfl⟩ ⟨Nat.le_of_ble_eq_true rfl, Nat.le_of_ble_eq_true rfl⟩ rfl hl.1 (Nat.le_of_ble_eq_true rfl) (ci := 5) (q := (RX5, TX5, 9)) rfl rfl (by rw [k_0]; decide) (cell_5 k_0) ⟨Nat.le_of_ble_eq_true rfl, Nat.le_of_ble_eq_true rfl⟩ dL_areAlike_135 (fun r135 M135 H locs h hw => ?_)
      refine lv_aload_n hx hb dL_areAlike_138 rfl (lv_at hl 2 rfl) ?_
      refine lv_iload hx hb dL_areAlike_139 (lv_at hl 0 rfl) ?_
      refine lv_iconst (v := 0) hx hb dL_areAlike_141 (by decide) ?_
      obtain ⟨k_1, h⟩ := h
      refine cv_i (As := [.int r126, .int 0]) (rest := [.int r135]) S.1 hw (k_X5_cell l E Z M135 a1 r126 0 _ h) wv_L_34 yc_X5_cell ⟨rfl, rfl⟩ ⟨Nat.le_of_ble_eq_true rfl, Nat.le_of_ble_eq_true rfl⟩ rfl hl.1 (Nat.le_of_ble_eq_true rfl) (ci := 5) (q := (RX5, TX5, 9)) rfl rfl (by rw [k_1]; decide) (cell_5 k_1) ⟨Nat.le_of_ble_eq_true rfl, Nat.le_of_ble_eq_true rfl⟩ dL_areAlike_142 (fun r142 M142 H locs h hw => ?_)
      refine lv_icmp_ne (tgt := 254) hx hb dL_areAlike_145 (by decide) (fun q_145 => ?_) (fun q_145 => ?_)
      · have h := h.1 q_145
        exact ((wB_L_areAlike_254 S  (fun M1 a0 a1 v2 v3 v5 v6 t0 h => (wB_L_areAlike_255 S  hK112 _ _ _ _ _ _ _ _ h)) _ _ _ _ _ _ _ h)) H locs ls hw (lv_sub hl [1, 2, 3, 4, 6, 0] rfl)
      · have h := h.2 q_145
        refine lv_aload_n hx hb dL_areAlike_148 rfl (lv_at hl 1 rfl) ?_
        refine lv_iload hx hb dL_areAlike_149 (lv_at hl 6 rfl) ?_
        refine lv_iconst (v := 1) hx hb dL_areAlike_151 (by decide) ?_
        refine cv_i (As := [.int v5, .int 1]) (rest := []) S.1 hw (k_X5_cell l E Z M142 a0 v5 1 _ h) wv_L_34 yc_X5_cell ⟨rfl, rfl⟩ ⟨Nat.le_of_ble_eq_true rfl, Nat.le_of_ble_eq_true rfl⟩ rfl hl.1 (Nat.le_of_ble_eq_true rfl) (ci := 5) (q := (RX5, TX5, 9)) rfl rfl (by rw [k_0]; decide) (cell_5 k_0) ⟨Nat.le_of_ble_eq_true rfl, Nat.le_of_ble_eq_true rfl⟩ dL_areAlike_152 (fun r152 M152 H locs h hw => ?_)
        refine lv_aload_n hx hb dL_areAlike_155 rfl (lv_at hl 2 rfl) ?_
        refine lv_iload hx hb dL_areAlike_156 (lv_at hl 0 rfl) ?_
        refine lv_iconst (v := 4) hx hb dL_areAlike_158 (by decide) ?_
        refine cv_i (As := [.int r126, .int 4]) (rest := [.int r152]) S.1 hw (k_X5_cell l E Z M152 a1 r126 4 _ h) wv_L_34 yc_X5_cell ⟨rfl, rfl⟩ ⟨Nat.le_of_ble_eq_true rfl, Nat.le_of_ble_eq_true rfl⟩ rfl hl.1 (Nat.le_of_ble_eq_true rfl) (ci := 5) (q := (RX5, TX5, 9)) rfl rfl (by rw [k_1]; decide) (cell_5 k_1) ⟨Nat.le_of_ble_eq_true rfl, Nat.le_of_ble_eq_true rfl⟩ dL_areAlike_159 (fun r159 M159 H locs h hw => ?_)
        refine lv_icmp_ne (tgt := 254) hx hb dL_areAlike_162 (by decide) (fun q_162 => ?_) (fun q_162 => ?_)
        · have h := h.1 q_162
          exact ((wB_L_areAlike_254 S  (fun M1 a0 a1 v2 v3 v5 v6 t0 h => (wB_L_areAlike_255 S  hK112 _ _ _ _ _ _ _ _ h)) _ _ _ _ _ _ _ h)) H locs ls hw (lv_sub hl [1, 2, 3, 4, 6, 0] rfl)
        · have h := h.2 q_162
          refine lv_aload_n hx hb dL_areAlike_165 rfl (lv_at hl 1 rfl) ?_
          refine lv_iload hx hb dL_areAlike_166 (lv_at hl 6 rfl) ?_
          refine lv_iconst (v := 2) hx hb dL_areAlike_168 (by decide) ?_
          refine cv_i (As := [.int v5, .int 2]) (rest := []) S.1 hw (k_X5_cell l E Z M159 a0 v5 2 _ h) wv_L_34 yc_X5_cell ⟨rfl, rfl⟩ ⟨Nat.le_of_ble_eq_true rfl, Nat.le_of_ble_eq_true rfl⟩ rfl hl.1 (Nat.le_of_ble_eq_true rfl) (ci := 5) (q := (RX5, TX5, 9)) rfl rfl (by rw [k_0]; decide) (cell_5 k_0) ⟨Nat.le_of_ble_eq_true rfl, Nat.le_of_ble_eq_true rfl⟩ dL_areAlike_169 (fun r169 M169 H locs h hw => ?_)
          refine lv_aload_n hx hb dL_areAlike_172 rfl (lv_at hl 2 rfl) ?_
          refine lv_iload hx hb dL_areAlike_173 (lv_at hl 0 rfl) ?_
          refine lv_iconst (v := 2) hx hb dL_areAlike_175 (by decide) ?_
          refine cv_i (As := [.int r126, .int 2]) (rest := [.int r169]) S.1 hw (k_X5_cell l E Z M169 a1 r126 2 _ h) wv_L_34 yc_X5_cell ⟨rfl, rfl⟩ ⟨Nat.le_of_ble_eq_true rfl, Nat.le_of_ble_eq_true rfl⟩ rfl hl.1 (Nat.le_of_ble_eq_true rfl) (ci := 5) (q := (RX5, TX5, 9)) rfl rfl (by rw [k_1]; decide) (cell_5 k_1) ⟨Nat.le_of_ble_eq_true rfl, Nat.le_of_ble_eq_true rfl⟩ dL_areAlike_176 (fun r176 M176 H locs h hw => ?_)
          refine lv_icmp_ne (tgt := 254) hx hb dL_areAlike_179 (by decide) (fun q_179 => ?_) (fun q_179 => ?_)
          · have h := h.1 q_179
            exact ((wB_L_areAlike_254 S  (fun M1 a0 a1 v2 v3 v5 v6 t0 h => (wB_L_areAlike_255 S  hK112 _ _ _ _ _ _ _ _ h)) _ _ _ _ _ _ _ h)) H locs ls hw (lv_sub hl [1, 2, 3, 4, 6, 0] rfl)
          · have h := h.2 q_179
            refine lv_aload_n hx hb dL_areAlike_182 rfl (lv_at hl 1 rfl) ?_
            refine lv_iload hx hb dL_areAlike_183 (lv_at hl 6 rfl) ?_
            refine lv_iconst (v := 3) hx hb dL_areAlike_185 (by decide) ?_
            refine cv_i (As := [.int v5, .int 3]) (rest := []) S.1 hw (k_X5_cell l E Z M176 a0 v5 3 _ h) wv_L_34 yc_X5_cell ⟨rfl, rfl⟩ ⟨Nat.le_of_ble_eq_true rfl, Nat.le_of_ble_eq_true rfl⟩ rfl hl.1 (Nat.le_of_ble_eq_true rfl) (ci := 5) (q := (RX5, TX5, 9)) rfl rfl (by rw [k_0]; decide) (cell_5 k_0) ⟨Nat.le_of_ble_eq_true rfl, Nat.le_of_ble_eq_true rfl⟩ dL_areAlike_186 (fun r186 M186 H locs h hw => ?_)
            refine lv_aload_n hx hb dL_areAlike_189 rfl (lv_at hl 2 rfl) ?_
            refine lv_iload hx hb dL_areAlike_190 (lv_at hl 0 rfl) ?_
            refine lv_iconst (v := 3) hx hb dL_areAlike_192 (by decide) ?_
            refine cv_i (As := [.int r126, .int 3]) (rest := [.int r186]) S.1 hw (k_X5_cell l E Z M186 a1 r126 3 _ h) wv_L_34 yc_X5_cell ⟨rfl, rfl⟩ ⟨Nat.le_of_ble_eq_true rfl, Nat.le_of_ble_eq_true rfl⟩ rfl hl.1 (Nat.le_of_ble_eq_true rfl) (ci := 5) (q := (RX5, TX5, 9)) rfl rfl (by rw [k_1]; decide) (cell_5 k_1) ⟨Nat.le_of_ble_eq_true rfl, Nat.le_of_ble_eq_true rfl⟩ dL_areAlike_193 (fun r193 M193 H locs h hw => ?_)
            refine lv_icmp_ne (tgt := 254) hx hb dL_areAlike_196 (by decide) (fun q_196 => ?_) (fun q_196 => ?_)
            · have h := h.1 q_196
              exact ((wB_L_areAlike_254 S  (fun M1 a0 a1 v2 v3 v5 v6 t0 h => (wB_L_areAlike_255 S  hK112 _ _ _ _ _ _ _ _ h)) _ _ _ _ _ _ _ h)) H locs ls hw (lv_sub hl [1, 2, 3, 4, 6, 0] rfl)
            · have h := h.2 q_196
              refine lv_aload_n hx hb dL_areAlike_199 rfl (lv_at hl 1 rfl) ?_
              refine lv_iload hx hb dL_areAlike_200 (lv_at hl 6 rfl) ?_
              refine lv_iconst (v := 4) hx hb dL_areAlike_202 (by decide) ?_
              refine cv_i (As := [.int v5, .int 4]) (rest := []) S.1 hw (k_X5_cell l E Z M193 a0 v5 4 _ h) wv_L_34 yc_X5_cell ⟨rfl, rfl⟩ ⟨Nat.le_of_ble_eq_true rfl, Nat.le_of_ble_eq_true rfl⟩ rfl hl.1 (Nat.le_of_ble_eq_true rfl) (ci := 5) (q := (RX5, TX5, 9)) rfl rfl (by rw [k_0]; decide) (cell_5 k_0) ⟨Nat.le_of_ble_eq_true rfl, Nat.le_of_ble_eq_true rfl⟩ dL_areAlike_203 (fun r203 M203 H locs h hw => ?_)
              refine lv_aload_n hx hb dL_areAlike_206 rfl (lv_at hl 2 rfl) ?_
              refine lv_iload hx hb dL_areAlike_207 (lv_at hl 0 rfl) ?_
              refine lv_iconst (v := 1) hx hb dL_areAlike_209 (by decide) ?_
              refine cv_i (As := [.int r126, .int 1]) (rest := [.int r203]) S.1 hw (k_X5_cell l E Z M203 a1 r126 1 _ h) wv_L_34 yc_X5_cell ⟨rfl, rfl⟩ ⟨Nat.le_of_ble_eq_true rfl, Nat.le_of_ble_eq_true rfl⟩ rfl hl.1 (Nat.le_of_ble_eq_true rfl) (ci := 5) (q := (RX5, TX5, 9)) rfl rfl (by rw [k_1]; decide) (cell_5 k_1) ⟨Nat.le_of_ble_eq_true rfl, Nat.le_of_ble_eq_true rfl⟩ dL_areAlike_210 (fun r210 M210 H locs h hw => ?_)
              refine lv_icmp_ne (tgt := 254) hx hb dL_areAlike_213 (by decide) (fun q_213 => ?_) (fun q_213 => ?_)
              · have h := h.1 q_213
                exact ((wB_L_areAlike_254 S  (fun M1 a0 a1 v2 v3 v5 v6 t0 h => (wB_L_areAlike_255 S  hK112 _ _ _ _ _ _ _ _ h)) _ _ _ _ _ _ _ h)) H locs ls hw (lv_sub hl [1, 2, 3, 4, 6, 0] rfl)
              · have h := h.2 q_213
                refine lv_aload_n hx hb dL_areAlike_216 rfl (lv_at hl 1 rfl) ?_
                refine lv_iload hx hb dL_areAlike_217 (lv_at hl 6 rfl) ?_
                refine lv_bipush (v := 6) hx hb dL_areAlike_219 (by decide) ?_
                refine cv_i (As := [.int v5, .int 6]) (rest := []) S.1 hw (k_X5_cell l E Z M210 a0 v5 6 _ h) wv_L_34 yc_X5_cell ⟨rfl, rfl⟩ ⟨Nat.le_of_ble_eq_true rfl, Nat.le_of_ble_eq_true rfl⟩ rfl hl.1 (Nat.le_of_ble_eq_true rfl) (ci := 5) (q := (RX5, TX5, 9)) rfl rfl (by rw [k_0]; decide) (cell_5 k_0) ⟨Nat.le_of_ble_eq_true rfl, Nat.le_of_ble_eq_true rfl⟩ dL_areAlike_221 (fun r221 M221 H locs h hw => ?_)
                refine lv_aload_n hx hb dL_areAlike_224 rfl (lv_at hl 2 rfl) ?_
                refine lv_iload hx hb dL_areAlike_225 (lv_at hl 0 rfl) ?_
                refine lv_bipush (v := 6) hx hb dL_areAlike_227 (by decide) ?_
                refine cv_i (As := [.int r126, .int 6]) (rest := [.int r221]) S.1 hw (k_X5_cell l E Z M221 a1 r126 6 _ h) wv_L_34 yc_X5_cell ⟨rfl, rfl⟩ ⟨Nat.le_of_ble_eq_true rfl, Nat.le_of_ble_eq_true rfl⟩ rfl hl.1 (Nat.le_of_ble_eq_true rfl) (ci := 5) (q := (RX5, TX5, 9)) rfl rfl (by rw [k_1]; decide) (cell_5 k_1) ⟨Nat.le_of_ble_eq_true rfl, Nat.le_of_ble_eq_true rfl⟩ dL_areAlike_229 (fun r229 M229 H locs h hw => ?_)
                refine lv_icmp_ne (tgt := 254) hx hb dL_areAlike_232 (by decide) (fun q_232 => ?_) (fun q_232 => ?_)
                · have h := h.1 q_232
                  exact ((wB_L_areAlike_254 S  (fun M1 a0 a1 v2 v3 v5 v6 t0 h => (wB_L_areAlike_255 S  hK112 _ _ _ _ _ _ _ _ h)) _ _ _ _ _ _ _ h)) H locs ls hw (lv_sub hl [1, 2, 3, 4, 6, 0] rfl)
                · have h := h.2 q_232
                  refine lv_aload_n hx hb dL_areAlike_235 rfl (lv_at hl 1 rfl) ?_
                  refine lv_iload hx hb dL_areAlike_236 (lv_at hl 6 rfl) ?_
                  refine cv_i (As := [.int v5]) (rest := []) S.1 hw (k_X5_daysWhole l E Z M229 a0 v5 _ h) wv_L_72 yc_X5_daysWhole ⟨rfl, rfl⟩ ⟨Nat.le_of_ble_eq_true rfl, Nat.le_of_ble_eq_true rfl⟩ rfl hl.1 (Nat.le_of_ble_eq_true rfl) (ci := 5) (q := (RX5, TX5, 9)) rfl rfl (by rw [k_0]; decide) (cell_5 k_0) ⟨Nat.le_of_ble_eq_true rfl, Nat.le_of_ble_eq_true rfl⟩ dL_areAlike_238 (fun r238 M238 H locs h hw => ?_)
                  refine lv_aload_n hx hb dL_areAlike_241 rfl (lv_at hl 2 rfl) ?_
                  refine lv_iload hx hb dL_areAlike_242 (lv_at hl 0 rfl) ?_
                  refine cv_i (As := [.int r126]) (rest := [.int r238]) S.1 hw (k_X5_daysWhole l E Z M238 a1 r126 _ h) wv_L_72 yc_X5_daysWhole ⟨rfl, rfl⟩ ⟨Nat.le_of_ble_eq_true rfl, Nat.le_of_ble_eq_true rfl⟩ rfl hl.1 (Nat.le_of_ble_eq_true rfl) (ci := 5) (q := (RX5, TX5, 9)) rfl rfl (by rw [k_1]; decide) (cell_5 k_1) ⟨Nat.le_of_ble_eq_true rfl, Nat.le_of_ble_eq_true rfl⟩ dL_areAlike_244 (fun r244 M244 H locs h hw => ?_)
                  refine lv_icmp_ne (tgt := 254) hx hb dL_areAlike_247 (by decide) (fun q_247 => ?_) (fun q_247 => ?_)
                  · have h := h.1 q_247
                    exact ((wB_L_areAlike_254 S  (fun M1 a0 a1 v2 v3 v5 v6 t0 h => (wB_L_areAlike_255 S  hK112 _ _ _ _ _ _ _ _ h)) _ _ _ _ _ _ _ h)) H locs ls hw (lv_sub hl [1, 2, 3, 4, 6, 0] rfl)
                  · have h := h.2 q_247
                    refine lv_iconst (v := 1) hx hb dL_areAlike_250 (by decide) ?_
                    refine lv_goto (tgt := 255) hx hb dL_areAlike_251 (by decide) ?_
                    exact ((wB_L_areAlike_255 S  hK112 _ _ _ _ _ _ _ _ h)) H locs ls hw (lv_sub hl [1, 2, 3, 4, 6, 0] rfl)
theorem wL_L_areAlike_112 (S : Cx p m c meth cL_areAlike 8 s args RL (some .boolean)) {Q : Int32 → MM → Prop}   : ∀ (n : Nat) (M : MM) (a0 : Nat) (a1 : Nat) (v2 : Int32) (v3 : Int32) (v4 : Int32) (v5 : Int32), L_L_areAlike_112 Z Q  n M a0 a1 v2 v3 v4 v5 → WG p l e rm_L_areAlike s m args below meth c 0 0 (MQi below E Z args s Q) E Z M 112 8 [(0, .ref a0), (1, .ref a1), (2, .int v2), (3, .int v3), (4, .int v4), (5, .int v5)] []
  | 0, _, _, _, _, _, _, _, h => False.elim h
  | n + 1, M, a0, a1, v2, v3, v4, v5, h => wB_L_areAlike_112 S  (wL_L_areAlike_112 S   n) M a0 a1 v2 v3 v4 v5 h
set_option maxRecDepth 100000 in
set_option maxHeartbeats 4000000 in
theorem wB_L_areAlike_69 (S : Cx p m c meth cL_areAlike 8 s args RL (some .boolean)) {Q : Int32 → MM → Prop} {K69 : MM → Nat → Nat → Int32 → Int32 → Int32 → Int32 → Prop} (hK69 : ∀ (M : MM) (a0 : Nat) (a1 : Nat) (v2 : Int32) (v3 : Int32) (v4 : Int32) (v5 : Int32), K69 M a0 a1 v2 v3 v4 v5 → WG p l e rm_L_areAlike s m args below meth c 0 0 (MQi below E Z args s Q) E Z M 69 8 [(0, .ref a0), (1, .ref a1), (2, .int v2), (3, .int v3), (4, .int v4), (5, .int v5)] []) (M : MM) (a0 : Nat) (a1 : Nat) (v2 : Int32) (v3 : Int32) (v4 : Int32) (v5 : Int32) (h : B_L_areAlike_69 Z Q K69 M a0 a1 v2 v3 v4 v5) : WG p l e rm_L_areAlike s m args below meth c 0 0 (MQi below E Z args s Q) E Z M 69 8 [(0, .ref a0), (1, .ref a1), (2, .int v2), (3, .int v3), (4, .int v4), (5, .int v5)] [] := by
  intro H locs ls hw hl
  have hx := S.1.1
  have hb := S.1.2.1
  refine lv_iload hx hb dL_areAlike_69 (lv_at hl 5 rfl) ?_
  refine lv_bipush (v := 14) hx hb dL_areAlike_71 (by decide) ?_
  refine lv_icmp_ge (tgt := 109) hx hb dL_areAlike_73 (by decide) (fun q_73 => ?_) (fun q_73 => ?_)
  · have h := h.1 q_73
    refine lv_iconst (v := 0) hx hb dL_areAlike_109 (by decide) ?_
    refine lv_istore (lv' := [(5, .int 0), (0, .ref a0), (1, .ref a1), (2, .int v2), (3, .int v3), (4, .int v4)]) hx hb dL_areAlike_110 hl (by decide) rfl (fun ls hl => ?_)
    exact ((Exists.elim h (fun n h => wL_L_areAlike_112 S   n _ _ _ _ _ _ _ h))) H locs ls hw (lv_sub hl [1, 2, 3, 4, 5, 0] rfl)
  · have h := h.2 q_73
    refine lv_iload hx hb dL_areAlike_76 (lv_at hl 4 rfl) ?_
    refine lv_if_eq (tgt := 100) hx hb dL_areAlike_78 (by decide) (fun q_78 => ?_) (fun q_78 => ?_)
    · have h := h.1 q_78
      exact ((wB_L_areAlike_100 S  (fun M1 a0 a1 v2 v3 v5 t0 h => (wB_L_areAlike_101 S  hK69 _ _ _ _ _ _ _ h)) _ _ _ _ _ _ h)) H locs ls hw (lv_sub hl [0, 1, 2, 3, 5] rfl)
    · have h := h.2 q_78
      refine lv_aload_n hx hb dL_areAlike_81 rfl (lv_at hl 0 rfl) ?_
      refine lv_iload hx hb dL_areAlike_82 (lv_at hl 5 rfl) ?_
      obtain ⟨k_0, h⟩ := h
      refine cv_i (As := [.int v5]) (rest := []) S.1 hw (k_X5_value l E Z M a0 v5 _ h) wv_L_9 yc_X5_value ⟨rfl, rfl⟩ ⟨Nat.le_of_ble_eq_true rfl, Nat.le_of_ble_eq_true rfl⟩ rfl hl.1 (Nat.le_of_ble_eq_true rfl) (ci := 5) (q := (RX5, TX5, 9)) rfl rfl (by rw [k_0]; decide) (cell_5 k_0) ⟨Nat.le_of_ble_eq_true rfl, Nat.le_of_ble_eq_true rfl⟩ dL_areAlike_84 (fun r84 M84 H locs h hw => ?_)
      refine lv_aload_n hx hb dL_areAlike_87 rfl (lv_at hl 1 rfl) ?_
      refine lv_iload hx hb dL_areAlike_88 (lv_at hl 5 rfl) ?_
      obtain ⟨k_1, h⟩ := h
      refine cv_i (As := [.int v5]) (rest := [.int r84]) S.1 hw (k_X5_value l E Z M84 a1 v5 _ h) wv_L_9 yc_X5_value ⟨rfl, rfl⟩ ⟨Nat.le_of_ble_eq_true rfl, Nat.le_of_ble_eq_true rfl⟩ rfl hl.1 (Nat.le_of_ble_eq_true rfl) (ci := 5) (q := (RX5, TX5, 9)) rfl rfl (by rw [k_1]; decide) (cell_5 k_1) ⟨Nat.le_of_ble_eq_true rfl, Nat.le_of_ble_eq_true rfl⟩ dL_areAlike_90 (fun r90 M90 H locs h hw => ?_)
      refine lv_icmp_ne (tgt := 100) hx hb dL_areAlike_93 (by decide) (fun q_93 => ?_) (fun q_93 => ?_)
      · have h := h.1 q_93
        exact ((wB_L_areAlike_100 S  (fun M1 a0 a1 v2 v3 v5 t0 h => (wB_L_areAlike_101 S  hK69 _ _ _ _ _ _ _ h)) _ _ _ _ _ _ h)) H locs ls hw (lv_sub hl [0, 1, 2, 3, 5] rfl)
      · have h := h.2 q_93
        refine lv_iconst (v := 1) hx hb dL_areAlike_96 (by decide) ?_
        refine lv_goto (tgt := 101) hx hb dL_areAlike_97 (by decide) ?_
        exact ((wB_L_areAlike_101 S  hK69 _ _ _ _ _ _ _ h)) H locs ls hw (lv_sub hl [0, 1, 2, 3, 5] rfl)
theorem wL_L_areAlike_69 (S : Cx p m c meth cL_areAlike 8 s args RL (some .boolean)) {Q : Int32 → MM → Prop}   : ∀ (n : Nat) (M : MM) (a0 : Nat) (a1 : Nat) (v2 : Int32) (v3 : Int32) (v4 : Int32) (v5 : Int32), L_L_areAlike_69 Z Q  n M a0 a1 v2 v3 v4 v5 → WG p l e rm_L_areAlike s m args below meth c 0 0 (MQi below E Z args s Q) E Z M 69 8 [(0, .ref a0), (1, .ref a1), (2, .int v2), (3, .int v3), (4, .int v4), (5, .int v5)] []
  | 0, _, _, _, _, _, _, _, h => False.elim h
  | n + 1, M, a0, a1, v2, v3, v4, v5, h => wB_L_areAlike_69 S  (wL_L_areAlike_69 S   n) M a0 a1 v2 v3 v4 v5 h
set_option maxRecDepth 100000 in
set_option maxHeartbeats 4000000 in
theorem wB_L_areAlike_64 (S : Cx p m c meth cL_areAlike 8 s args RL (some .boolean)) {Q : Int32 → MM → Prop}   (M : MM) (a0 : Nat) (a1 : Nat) (v2 : Int32) (v3 : Int32) (t0 : Int32) (h : B_L_areAlike_64 Z Q  M a0 a1 v2 v3 t0) : WG p l e rm_L_areAlike s m args below meth c 0 0 (MQi below E Z args s Q) E Z M 64 8 [(0, .ref a0), (1, .ref a1), (2, .int v2), (3, .int v3)] [.int t0] := by
  intro H locs ls hw hl
  have hx := S.1.1
  have hb := S.1.2.1
  refine lv_istore (lv' := [(4, .int t0), (0, .ref a0), (1, .ref a1), (2, .int v2), (3, .int v3)]) hx hb dL_areAlike_64 hl (by decide) rfl (fun ls hl => ?_)
  refine lv_iconst (v := 0) hx hb dL_areAlike_66 (by decide) ?_
  refine lv_istore (lv' := [(5, .int 0), (4, .int t0), (0, .ref a0), (1, .ref a1), (2, .int v2), (3, .int v3)]) hx hb dL_areAlike_67 hl (by decide) rfl (fun ls hl => ?_)
  exact ((Exists.elim h (fun n h => wL_L_areAlike_69 S   n _ _ _ _ _ _ _ h))) H locs ls hw (lv_sub hl [2, 3, 4, 5, 1, 0] rfl)
set_option maxRecDepth 100000 in
set_option maxHeartbeats 4000000 in
theorem wB_L_areAlike_0 (S : Cx p m c meth cL_areAlike 8 s args RL (some .boolean)) {Q : Int32 → MM → Prop}   (M : MM) (a0 : Nat) (a1 : Nat) (h : B_L_areAlike_0 Z Q  M a0 a1) : WG p l e rm_L_areAlike s m args below meth c 0 0 (MQi below E Z args s Q) E Z M 0 8 [(0, .ref a0), (1, .ref a1)] [] := by
  intro H locs ls hw hl
  have hx := S.1.1
  have hb := S.1.2.1
  refine lv_aload_n hx hb dL_areAlike_0 rfl (lv_at hl 0 rfl) ?_
  refine lv_iconst (v := 0) hx hb dL_areAlike_1 (by decide) ?_
  obtain ⟨k_0, h⟩ := h
  refine cv_i (As := [.int 0]) (rest := []) S.1 hw (k_X5_value l E Z M a0 0 _ h) wv_L_9 yc_X5_value ⟨rfl, rfl⟩ ⟨Nat.le_of_ble_eq_true rfl, Nat.le_of_ble_eq_true rfl⟩ rfl hl.1 (Nat.le_of_ble_eq_true rfl) (ci := 5) (q := (RX5, TX5, 9)) rfl rfl (by rw [k_0]; decide) (cell_5 k_0) ⟨Nat.le_of_ble_eq_true rfl, Nat.le_of_ble_eq_true rfl⟩ dL_areAlike_2 (fun r2 M2 H locs h hw => ?_)
  refine lv_istore_n (lv' := [(2, .int r2), (0, .ref a0), (1, .ref a1)]) hx hb dL_areAlike_5 rfl hl (by decide) rfl (fun ls hl => ?_)
  refine lv_iload_n hx hb dL_areAlike_6 rfl (lv_at hl 0 rfl) ?_
  refine lv_aload_n hx hb dL_areAlike_7 rfl (lv_at hl 1 rfl) ?_
  refine lv_iconst (v := 1) hx hb dL_areAlike_8 (by decide) ?_
  refine cv_i (As := [.int 1]) (rest := [.int r2]) S.1 hw (k_X5_value l E Z M2 a0 1 _ h) wv_L_9 yc_X5_value ⟨rfl, rfl⟩ ⟨Nat.le_of_ble_eq_true rfl, Nat.le_of_ble_eq_true rfl⟩ rfl hl.1 (Nat.le_of_ble_eq_true rfl) (ci := 5) (q := (RX5, TX5, 9)) rfl rfl (by rw [k_0]; decide) (cell_5 k_0) ⟨Nat.le_of_ble_eq_true rfl, Nat.le_of_ble_eq_true rfl⟩ dL_areAlike_9 (fun r9 M9 H locs h hw => ?_)
  refine lv_imul hx hb dL_areAlike_12 ?_
  refine lv_istore_n (lv' := [(3, .int (r2 * r9)), (2, .int r2), (0, .ref a0), (1, .ref a1)]) hx hb dL_areAlike_13 rfl hl (by decide) rfl (fun ls hl => ?_)
  refine lv_aload_n hx hb dL_areAlike_14 rfl (lv_at hl 2 rfl) ?_
  refine cv_i (As := []) (rest := []) S.1 hw (k_X5_takable l E Z M9 a0  _ h) wv_L_59 yc_X5_takable ⟨rfl, rfl⟩ ⟨Nat.le_of_ble_eq_true rfl, Nat.le_of_ble_eq_true rfl⟩ rfl hl.1 (Nat.le_of_ble_eq_true rfl) (ci := 5) (q := (RX5, TX5, 9)) rfl rfl (by rw [k_0]; decide) (cell_5 k_0) ⟨Nat.le_of_ble_eq_true rfl, Nat.le_of_ble_eq_true rfl⟩ dL_areAlike_15 (fun r15 M15 H locs h hw => ?_)
  refine lv_aload_n hx hb dL_areAlike_18 rfl (lv_at hl 3 rfl) ?_
  obtain ⟨k_1, h⟩ := h
  refine cv_i (As := []) (rest := [.int r15]) S.1 hw (k_X5_takable l E Z M15 a1  _ h) wv_L_59 yc_X5_takable ⟨rfl, rfl⟩ ⟨Nat.le_of_ble_eq_true rfl, Nat.le_of_ble_eq_true rfl⟩ rfl hl.1 (Nat.le_of_ble_eq_true rfl) (ci := 5) (q := (RX5, TX5, 9)) rfl rfl (by rw [k_1]; decide) (cell_5 k_1) ⟨Nat.le_of_ble_eq_true rfl, Nat.le_of_ble_eq_true rfl⟩ dL_areAlike_19 (fun r19 M19 H locs h hw => ?_)
  refine lv_icmp_ne (tgt := 63) hx hb dL_areAlike_22 (by decide) (fun q_22 => ?_) (fun q_22 => ?_)
  · have h := h.1 q_22
    exact ((wB_L_areAlike_63 S  (fun M1 a0 a1 v2 v3 t0 h => (wB_L_areAlike_64 S   _ _ _ _ _ _ h)) _ _ _ _ _ h)) H locs ls hw (lv_sub hl [2, 3, 1, 0] rfl)
  · have h := h.2 q_22
    refine lv_aload_n hx hb dL_areAlike_25 rfl (lv_at hl 2 rfl) ?_
    refine cv_i (As := []) (rest := []) S.1 hw (k_X5_leftStranded l E Z M19 a0  _ h) wv_L_62 yc_X5_leftStranded ⟨rfl, rfl⟩ ⟨Nat.le_of_ble_eq_true rfl, Nat.le_of_ble_eq_true rfl⟩ rfl hl.1 (Nat.le_of_ble_eq_true rfl) (ci := 5) (q := (RX5, TX5, 9)) rfl rfl (by rw [k_0]; decide) (cell_5 k_0) ⟨Nat.le_of_ble_eq_true rfl, Nat.le_of_ble_eq_true rfl⟩ dL_areAlike_26 (fun r26 M26 H locs h hw => ?_)
    refine lv_aload_n hx hb dL_areAlike_29 rfl (lv_at hl 3 rfl) ?_
    refine cv_i (As := []) (rest := [.int r26]) S.1 hw (k_X5_leftStranded l E Z M26 a1  _ h) wv_L_62 yc_X5_leftStranded ⟨rfl, rfl⟩ ⟨Nat.le_of_ble_eq_true rfl, Nat.le_of_ble_eq_true rfl⟩ rfl hl.1 (Nat.le_of_ble_eq_true rfl) (ci := 5) (q := (RX5, TX5, 9)) rfl rfl (by rw [k_1]; decide) (cell_5 k_1) ⟨Nat.le_of_ble_eq_true rfl, Nat.le_of_ble_eq_true rfl⟩ dL_areAlike_30 (fun r30 M30 H locs h hw => ?_)
    refine lv_icmp_ne (tgt := 63) hx hb dL_areAlike_33 (by decide) (fun q_33 => ?_) (fun q_33 => ?_)
    · have h := h.1 q_33
      exact ((wB_L_areAlike_63 S  (fun M1 a0 a1 v2 v3 t0 h => (wB_L_areAlike_64 S   _ _ _ _ _ _ h)) _ _ _ _ _ h)) H locs ls hw (lv_sub hl [2, 3, 1, 0] rfl)
    · have h := h.2 q_33
      refine lv_aload_n hx hb dL_areAlike_36 rfl (lv_at hl 2 rfl) ?_
      refine cv_i (As := []) (rest := []) S.1 hw (k_X5_daysToWater l E Z M30 a0  _ h) wv_L_65 yc_X5_daysToWater ⟨rfl, rfl⟩ ⟨Nat.le_of_ble_eq_true rfl, Nat.le_of_ble_eq_true rfl⟩ rfl hl.1 (Nat.le_of_ble_eq_true rfl) (ci := 5) (q := (RX5, TX5, 9)) rfl rfl (by rw [k_0]; decide) (cell_5 k_0) ⟨Nat.le_of_ble_eq_true rfl, Nat.le_of_ble_eq_true rfl⟩ dL_areAlike_37 (fun r37 M37 H locs h hw => ?_)
      refine lv_aload_n hx hb dL_areAlike_40 rfl (lv_at hl 3 rfl) ?_
      refine cv_i (As := []) (rest := [.int r37]) S.1 hw (k_X5_daysToWater l E Z M37 a1  _ h) wv_L_65 yc_X5_daysToWater ⟨rfl, rfl⟩ ⟨Nat.le_of_ble_eq_true rfl, Nat.le_of_ble_eq_true rfl⟩ rfl hl.1 (Nat.le_of_ble_eq_true rfl) (ci := 5) (q := (RX5, TX5, 9)) rfl rfl (by rw [k_1]; decide) (cell_5 k_1) ⟨Nat.le_of_ble_eq_true rfl, Nat.le_of_ble_eq_true rfl⟩ dL_areAlike_41 (fun r41 M41 H locs h hw => ?_)
      refine lv_icmp_ne (tgt := 63) hx hb dL_areAlike_44 (by decide) (fun q_44 => ?_) (fun q_44 => ?_)
      · have h := h.1 q_44
        exact ((wB_L_areAlike_63 S  (fun M1 a0 a1 v2 v3 t0 h => (wB_L_areAlike_64 S   _ _ _ _ _ _ h)) _ _ _ _ _ h)) H locs ls hw (lv_sub hl [2, 3, 1, 0] rfl)
      · have h := h.2 q_44
        refine lv_aload_n hx hb dL_areAlike_47 rfl (lv_at hl 2 rfl) ?_
        refine cv_d (As := []) (rest := []) S.1 hw (k_X5_harvest l E Z M41 a0  _ h) wv_L_68 yc_X5_harvest ⟨rfl, rfl⟩ ⟨Nat.le_of_ble_eq_true rfl, Nat.le_of_ble_eq_true rfl⟩ rfl hl.1 (Nat.le_of_ble_eq_true rfl) (ci := 5) (q := (RX5, TX5, 9)) rfl rfl (by rw [k_0]; decide) (cell_5 k_0) ⟨Nat.le_of_ble_eq_true rfl, Nat.le_of_ble_eq_true rfl⟩ dL_areAlike_48 (fun r48 M48 H locs h hw => ?_)
        refine lv_aload_n hx hb dL_areAlike_51 rfl (lv_at hl 3 rfl) ?_
        refine cv_d (As := []) (rest := [.double r48]) S.1 hw (k_X5_harvest l E Z M48 a1  _ h) wv_L_68 yc_X5_harvest ⟨rfl, rfl⟩ ⟨Nat.le_of_ble_eq_true rfl, Nat.le_of_ble_eq_true rfl⟩ rfl hl.1 (Nat.le_of_ble_eq_true rfl) (ci := 5) (q := (RX5, TX5, 9)) rfl rfl (by rw [k_1]; decide) (cell_5 k_1) ⟨Nat.le_of_ble_eq_true rfl, Nat.le_of_ble_eq_true rfl⟩ dL_areAlike_52 (fun r52 M52 H locs h hw => ?_)
        refine lv_dcmp hx hb dL_areAlike_55 ?_
        refine lv_if_ne (tgt := 63) hx hb dL_areAlike_56 (by decide) (fun q_56 => ?_) (fun q_56 => ?_)
        · have h := h.1 q_56
          exact ((wB_L_areAlike_63 S  (fun M1 a0 a1 v2 v3 t0 h => (wB_L_areAlike_64 S   _ _ _ _ _ _ h)) _ _ _ _ _ h)) H locs ls hw (lv_sub hl [2, 3, 1, 0] rfl)
        · have h := h.2 q_56
          refine lv_iconst (v := 1) hx hb dL_areAlike_59 (by decide) ?_
          refine lv_goto (tgt := 64) hx hb dL_areAlike_60 (by decide) ?_
          exact ((wB_L_areAlike_64 S   _ _ _ _ _ _ h)) H locs ls hw (lv_sub hl [2, 3, 1, 0] rfl)
set_option maxRecDepth 100000 in
set_option maxHeartbeats 4000000 in
theorem k_L_areAlike (l : Launch) (E : EE) (Z : ZZ) (M : MM) (a0 : Nat) (a1 : Nat) (Q : Int32 → MM → Prop) (h : P_L_areAlike Z M a0 a1 Q) : Ct_i l yL_areAlike cL_areAlike 8 (some .boolean) rm_L_areAlike E Z M [.ref a0, .ref a1] Q := by
  refine Met.ofW (cc := cL_areAlike) (maxL := 8) (ret := some .boolean) (by decide) rfl ?_
  intro p e s m args below meth c s₁ B hml hv
  obtain ⟨rfl, hK, hP, hD, hZ⟩ := hv
  have S : Cx p m c meth cL_areAlike 8 s _ RL (some .boolean) := ⟨⟨B.exec, B.bytes, hml, findClass_of_methodNamed B.named, fun w hw => atoms_spec (ws := ws_ yL_areAlike cL_areAlike 8 (some .boolean)) B.pre w (List.mem_cons_of_mem _ hw)⟩, B.returns, B.notSynchronized⟩
  have hl := lv_entry ([.ref a0, .ref a1]) (n := 8) (Nat.le_of_ble_eq_true rfl)
  rw [lg_entry_eq]
  generalize (lg_sl ([.ref a0, .ref a1]) ++ List.replicate (8 - (lg_sl ([.ref a0, .ref a1])).length) Slot.unset).toArray = ls at hl ⊢
  exact (wB_L_areAlike_0 S  M a0 a1 h) s.heap [] ls ⟨hK, hP, hD, va_S.rf, hZ⟩ hl
set_option maxRecDepth 100000 in
set_option maxHeartbeats 4000000 in
theorem wB_L_isSound_93 (S : Cx p m c meth cL_isSound 9 s args RL (some .boolean)) {Q : Int32 → MM → Prop} {K94 : MM → Nat → Int32 → Int32 → Int32 → Int32 → Int32 → Int32 → Prop} (hK94 : ∀ (M : MM) (a0 : Nat) (v1 : Int32) (v2 : Int32) (v3 : Int32) (v4 : Int32) (v5 : Int32) (t0 : Int32), K94 M a0 v1 v2 v3 v4 v5 t0 → WG p l e rm_L_isSound s m args below meth c 0 0 (MQi below E Z args s Q) E Z M 94 9 [(0, .ref a0), (1, .int v1), (2, .int v2), (3, .int v3), (4, .int v4), (5, .int v5)] [.int t0]) (M : MM) (a0 : Nat) (v1 : Int32) (v2 : Int32) (v3 : Int32) (v4 : Int32) (v5 : Int32) (h : B_L_isSound_93 Z Q K94 M a0 v1 v2 v3 v4 v5) : WG p l e rm_L_isSound s m args below meth c 0 0 (MQi below E Z args s Q) E Z M 93 9 [(0, .ref a0), (1, .int v1), (2, .int v2), (3, .int v3), (4, .int v4), (5, .int v5)] [] := by
  intro H locs ls hw hl
  have hx := S.1.1
  have hb := S.1.2.1
  refine lv_iconst (v := 0) hx hb dL_isSound_93 (by decide) ?_
  exact (hK94 _ _ _ _ _ _ _ _ h) H locs ls hw (lv_sub hl [0, 1, 2, 3, 4, 5] rfl)
set_option maxRecDepth 100000 in
set_option maxHeartbeats 4000000 in
theorem wB_L_isSound_273 (S : Cx p m c meth cL_isSound 9 s args RL (some .boolean)) {Q : Int32 → MM → Prop} {K278 : MM → Nat → Int32 → Int32 → Int32 → Int32 → Int32 → Int32 → Int32 → Prop} (hK278 : ∀ (M : MM) (a0 : Nat) (v1 : Int32) (v2 : Int32) (v3 : Int32) (v4 : Int32) (v5 : Int32) (v7 : Int32) (t0 : Int32), K278 M a0 v1 v2 v3 v4 v5 v7 t0 → WG p l e rm_L_isSound s m args below meth c 0 0 (MQi below E Z args s Q) E Z M 278 9 [(0, .ref a0), (1, .int v1), (2, .int v2), (3, .int v3), (4, .int v4), (5, .int v5), (7, .int v7)] [.int t0]) (M : MM) (a0 : Nat) (v1 : Int32) (v2 : Int32) (v3 : Int32) (v4 : Int32) (v5 : Int32) (v7 : Int32) (h : B_L_isSound_273 Z Q K278 M a0 v1 v2 v3 v4 v5 v7) : WG p l e rm_L_isSound s m args below meth c 0 0 (MQi below E Z args s Q) E Z M 273 9 [(0, .ref a0), (1, .int v1), (2, .int v2), (3, .int v3), (4, .int v4), (5, .int v5), (7, .int v7)] [] := by
  intro H locs ls hw hl
  have hx := S.1.1
  have hb := S.1.2.1
  refine lv_iconst (v := 1) hx hb dL_isSound_273 (by decide) ?_
  refine lv_goto (tgt := 278) hx hb dL_isSound_274 (by decide) ?_
  exact (hK278 _ _ _ _ _ _ _ _ _ h) H locs ls hw (lv_sub hl [0, 1, 2, 3, 4, 5, 6] rfl)
set_option maxRecDepth 100000 in
set_option maxHeartbeats 4000000 in
theorem wB_L_isSound_213 (S : Cx p m c meth cL_isSound 9 s args RL (some .boolean)) {Q : Int32 → MM → Prop} {K277 : MM → Nat → Int32 → Int32 → Int32 → Int32 → Int32 → Int32 → Prop} {K278 : MM → Nat → Int32 → Int32 → Int32 → Int32 → Int32 → Int32 → Int32 → Prop} (hK277 : ∀ (M : MM) (a0 : Nat) (v1 : Int32) (v2 : Int32) (v3 : Int32) (v4 : Int32) (v5 : Int32) (v7 : Int32), K277 M a0 v1 v2 v3 v4 v5 v7 → WG p l e rm_L_isSound s m args below meth c 0 0 (MQi below E Z args s Q) E Z M 277 9 [(0, .ref a0), (1, .int v1), (2, .int v2), (3, .int v3), (4, .int v4), (5, .int v5), (7, .int v7)] []) (hK278 : ∀ (M : MM) (a0 : Nat) (v1 : Int32) (v2 : Int32) (v3 : Int32) (v4 : Int32) (v5 : Int32) (v7 : Int32) (t0 : Int32), K278 M a0 v1 v2 v3 v4 v5 v7 t0 → WG p l e rm_L_isSound s m args below meth c 0 0 (MQi below E Z args s Q) E Z M 278 9 [(0, .ref a0), (1, .int v1), (2, .int v2), (3, .int v3), (4, .int v4), (5, .int v5), (7, .int v7)] [.int t0]) (M : MM) (a0 : Nat) (v1 : Int32) (v2 : Int32) (v3 : Int32) (v4 : Int32) (v5 : Int32) (v7 : Int32) (t0 : Int32) (t1 : Int32) (h : B_L_isSound_213 Z Q K277 K278 M a0 v1 v2 v3 v4 v5 v7 t0 t1) : WG p l e rm_L_isSound s m args below meth c 0 0 (MQi below E Z args s Q) E Z M 213 9 [(0, .ref a0), (1, .int v1), (2, .int v2), (3, .int v3), (4, .int v4), (5, .int v5), (7, .int v7)] [.int t0, .int t1] := by
  intro H locs ls hw hl
  have hx := S.1.1
  have hb := S.1.2.1
  refine lv_icmp_ne (tgt := 277) hx hb dL_isSound_213 (by decide) (fun q_213 => ?_) (fun q_213 => ?_)
  · have h := h.1 q_213
    exact (hK277 _ _ _ _ _ _ _ _ h) H locs ls hw (lv_sub hl [0, 1, 2, 3, 4, 5, 6] rfl)
  · have h := h.2 q_213
    refine lv_aload_n hx hb dL_isSound_216 rfl (lv_at hl 0 rfl) ?_
    refine lv_iload hx hb dL_isSound_217 (lv_at hl 6 rfl) ?_
    refine lv_iconst (v := 5) hx hb dL_isSound_219 (by decide) ?_
    obtain ⟨k_0, h⟩ := h
    refine cv_i (As := [.int v7, .int 5]) (rest := []) S.1 hw (k_X5_cell l E Z M a0 v7 5 _ h) wv_L_34 yc_X5_cell ⟨rfl, rfl⟩ ⟨Nat.le_of_ble_eq_true rfl, Nat.le_of_ble_eq_true rfl⟩ rfl hl.1 (Nat.le_of_ble_eq_true rfl) (ci := 5) (q := (RX5, TX5, 9)) rfl rfl (by rw [k_0]; decide) (cell_5 k_0) ⟨Nat.le_of_ble_eq_true rfl, Nat.le_of_ble_eq_true rfl⟩ dL_isSound_220 (fun r220 M220 H locs h hw => ?_)
    refine lv_iload hx hb dL_isSound_223 (lv_at hl 6 rfl) ?_
    refine lv_icmp_gt (tgt := 277) hx hb dL_isSound_225 (by decide) (fun q_225 => ?_) (fun q_225 => ?_)
    · have h := h.1 q_225
      exact (hK277 _ _ _ _ _ _ _ _ h) H locs ls hw (lv_sub hl [0, 1, 2, 3, 4, 5, 6] rfl)
    · have h := h.2 q_225
      refine lv_aload_n hx hb dL_isSound_228 rfl (lv_at hl 0 rfl) ?_
      refine lv_iload hx hb dL_isSound_229 (lv_at hl 6 rfl) ?_
      refine lv_iconst (v := 4) hx hb dL_isSound_231 (by decide) ?_
      refine cv_i (As := [.int v7, .int 4]) (rest := []) S.1 hw (k_X5_block l E Z M220 a0 v7 4 _ h) wv_L_53 yc_X5_block ⟨rfl, rfl⟩ ⟨Nat.le_of_ble_eq_true rfl, Nat.le_of_ble_eq_true rfl⟩ rfl hl.1 (Nat.le_of_ble_eq_true rfl) (ci := 5) (q := (RX5, TX5, 9)) rfl rfl (by rw [k_0]; decide) (cell_5 k_0) ⟨Nat.le_of_ble_eq_true rfl, Nat.le_of_ble_eq_true rfl⟩ dL_isSound_232 (fun r232 M232 H locs h hw => ?_)
      refine lv_if_lt (tgt := 273) hx hb dL_isSound_235 (by decide) (fun q_235 => ?_) (fun q_235 => ?_)
      · have h := h.1 q_235
        exact ((wB_L_isSound_273 S  hK278 _ _ _ _ _ _ _ _ h)) H locs ls hw (lv_sub hl [0, 1, 2, 3, 4, 5, 6] rfl)
      · have h := h.2 q_235
        refine lv_aload_n hx hb dL_isSound_238 rfl (lv_at hl 0 rfl) ?_
        refine lv_iload hx hb dL_isSound_239 (lv_at hl 6 rfl) ?_
        refine lv_iconst (v := 3) hx hb dL_isSound_241 (by decide) ?_
        refine cv_i (As := [.int v7, .int 3]) (rest := []) S.1 hw (k_X5_block l E Z M232 a0 v7 3 _ h) wv_L_53 yc_X5_block ⟨rfl, rfl⟩ ⟨Nat.le_of_ble_eq_true rfl, Nat.le_of_ble_eq_true rfl⟩ rfl hl.1 (Nat.le_of_ble_eq_true rfl) (ci := 5) (q := (RX5, TX5, 9)) rfl rfl (by rw [k_0]; decide) (cell_5 k_0) ⟨Nat.le_of_ble_eq_true rfl, Nat.le_of_ble_eq_true rfl⟩ dL_isSound_242 (fun r242 M242 H locs h hw => ?_)
        refine lv_if_ne (tgt := 277) hx hb dL_isSound_245 (by decide) (fun q_245 => ?_) (fun q_245 => ?_)
        · have h := h.1 q_245
          exact (hK277 _ _ _ _ _ _ _ _ h) H locs ls hw (lv_sub hl [0, 1, 2, 3, 4, 5, 6] rfl)
        · have h := h.2 q_245
          refine lv_aload_n hx hb dL_isSound_248 rfl (lv_at hl 0 rfl) ?_
          refine lv_iload hx hb dL_isSound_249 (lv_at hl 6 rfl) ?_
          refine lv_iconst (v := 4) hx hb dL_isSound_251 (by decide) ?_
          refine cv_i (As := [.int v7, .int 4]) (rest := []) S.1 hw (k_X5_block l E Z M242 a0 v7 4 _ h) wv_L_53 yc_X5_block ⟨rfl, rfl⟩ ⟨Nat.le_of_ble_eq_true rfl, Nat.le_of_ble_eq_true rfl⟩ rfl hl.1 (Nat.le_of_ble_eq_true rfl) (ci := 5) (q := (RX5, TX5, 9)) rfl rfl (by rw [k_0]; decide) (cell_5 k_0) ⟨Nat.le_of_ble_eq_true rfl, Nat.le_of_ble_eq_true rfl⟩ dL_isSound_252 (fun r252 M252 H locs h hw => ?_)
          refine lv_aload_n hx hb dL_isSound_255 rfl (lv_at hl 0 rfl) ?_
          refine lv_iconst (v := 1) hx hb dL_isSound_256 (by decide) ?_
          refine cv_i (As := [.int 1]) (rest := [.int r252]) S.1 hw (k_X5_value l E Z M252 a0 1 _ h) wv_L_9 yc_X5_value ⟨rfl, rfl⟩ ⟨Nat.le_of_ble_eq_true rfl, Nat.le_of_ble_eq_true rfl⟩ rfl hl.1 (Nat.le_of_ble_eq_true rfl) (ci := 5) (q := (RX5, TX5, 9)) rfl rfl (by rw [k_0]; decide) (cell_5 k_0) ⟨Nat.le_of_ble_eq_true rfl, Nat.le_of_ble_eq_true rfl⟩ dL_isSound_257 (fun r257 M257 H locs h hw => ?_)
          refine lv_aload_n hx hb dL_isSound_260 rfl (lv_at hl 0 rfl) ?_
          refine lv_iload hx hb dL_isSound_261 (lv_at hl 6 rfl) ?_
          refine lv_iconst (v := 5) hx hb dL_isSound_263 (by decide) ?_
          refine cv_i (As := [.int v7, .int 5]) (rest := [.int r257, .int r252]) S.1 hw (k_X5_cell l E Z M257 a0 v7 5 _ h) wv_L_34 yc_X5_cell ⟨rfl, rfl⟩ ⟨Nat.le_of_ble_eq_true rfl, Nat.le_of_ble_eq_true rfl⟩ rfl hl.1 (Nat.le_of_ble_eq_true rfl) (ci := 5) (q := (RX5, TX5, 9)) rfl rfl (by rw [k_0]; decide) (cell_5 k_0) ⟨Nat.le_of_ble_eq_true rfl, Nat.le_of_ble_eq_true rfl⟩ dL_isSound_264 (fun r264 M264 H locs h hw => ?_)
          refine lv_iload_n hx hb dL_isSound_267 rfl (lv_at hl 1 rfl) ?_
          obtain ⟨z_268, h⟩ := h
          refine lv_idiv hx hb dL_isSound_268 z_268 ?_
          refine lv_isub hx hb dL_isSound_269 ?_
          refine lv_icmp_lt (tgt := 277) hx hb dL_isSound_270 (by decide) (fun q_270 => ?_) (fun q_270 => ?_)
          · have h := h.1 q_270
            exact (hK277 _ _ _ _ _ _ _ _ h) H locs ls hw (lv_sub hl [0, 1, 2, 3, 4, 5, 6] rfl)
          · have h := h.2 q_270
            exact ((wB_L_isSound_273 S  hK278 _ _ _ _ _ _ _ _ h)) H locs ls hw (lv_sub hl [0, 1, 2, 3, 4, 5, 6] rfl)
set_option maxRecDepth 100000 in
set_option maxHeartbeats 4000000 in
theorem wB_L_isSound_198 (S : Cx p m c meth cL_isSound 9 s args RL (some .boolean)) {Q : Int32 → MM → Prop} {K277 : MM → Nat → Int32 → Int32 → Int32 → Int32 → Int32 → Int32 → Prop} {K278 : MM → Nat → Int32 → Int32 → Int32 → Int32 → Int32 → Int32 → Int32 → Prop} (hK277 : ∀ (M : MM) (a0 : Nat) (v1 : Int32) (v2 : Int32) (v3 : Int32) (v4 : Int32) (v5 : Int32) (v7 : Int32), K277 M a0 v1 v2 v3 v4 v5 v7 → WG p l e rm_L_isSound s m args below meth c 0 0 (MQi below E Z args s Q) E Z M 277 9 [(0, .ref a0), (1, .int v1), (2, .int v2), (3, .int v3), (4, .int v4), (5, .int v5), (7, .int v7)] []) (hK278 : ∀ (M : MM) (a0 : Nat) (v1 : Int32) (v2 : Int32) (v3 : Int32) (v4 : Int32) (v5 : Int32) (v7 : Int32) (t0 : Int32), K278 M a0 v1 v2 v3 v4 v5 v7 t0 → WG p l e rm_L_isSound s m args below meth c 0 0 (MQi below E Z args s Q) E Z M 278 9 [(0, .ref a0), (1, .int v1), (2, .int v2), (3, .int v3), (4, .int v4), (5, .int v5), (7, .int v7)] [.int t0]) (M : MM) (a0 : Nat) (v1 : Int32) (v2 : Int32) (v3 : Int32) (v4 : Int32) (v5 : Int32) (v7 : Int32) (t0 : Int32) (h : B_L_isSound_198 Z Q K277 K278 M a0 v1 v2 v3 v4 v5 v7 t0) : WG p l e rm_L_isSound s m args below meth c 0 0 (MQi below E Z args s Q) E Z M 198 9 [(0, .ref a0), (1, .int v1), (2, .int v2), (3, .int v3), (4, .int v4), (5, .int v5), (7, .int v7)] [.int t0] := by
  intro H locs ls hw hl
  have hx := S.1.1
  have hb := S.1.2.1
  refine lv_aload_n hx hb dL_isSound_198 rfl (lv_at hl 0 rfl) ?_
  refine lv_iload hx hb dL_isSound_199 (lv_at hl 6 rfl) ?_
  refine lv_iconst (v := 5) hx hb dL_isSound_201 (by decide) ?_
  obtain ⟨k_0, h⟩ := h
  refine cv_i (As := [.int v7, .int 5]) (rest := [.int t0]) S.1 hw (k_X5_cell l E Z M a0 v7 5 _ h) wv_L_34 yc_X5_cell ⟨rfl, rfl⟩ ⟨Nat.le_of_ble_eq_true rfl, Nat.le_of_ble_eq_true rfl⟩ rfl hl.1 (Nat.le_of_ble_eq_true rfl) (ci := 5) (q := (RX5, TX5, 9)) rfl rfl (by rw [k_0]; decide) (cell_5 k_0) ⟨Nat.le_of_ble_eq_true rfl, Nat.le_of_ble_eq_true rfl⟩ dL_isSound_202 (fun r202 M202 H locs h hw => ?_)
  refine lv_if_lt (tgt := 212) hx hb dL_isSound_205 (by decide) (fun q_205 => ?_) (fun q_205 => ?_)
  · have h := h.1 q_205
    refine lv_iconst (v := 0) hx hb dL_isSound_212 (by decide) ?_
    exact ((wB_L_isSound_213 S  hK277 hK278 _ _ _ _ _ _ _ _ _ _ h)) H locs ls hw (lv_sub hl [0, 1, 2, 3, 4, 5, 6] rfl)
  · have h := h.2 q_205
    refine lv_iconst (v := 1) hx hb dL_isSound_208 (by decide) ?_
    refine lv_goto (tgt := 213) hx hb dL_isSound_209 (by decide) ?_
    exact ((wB_L_isSound_213 S  hK277 hK278 _ _ _ _ _ _ _ _ _ _ h)) H locs ls hw (lv_sub hl [0, 1, 2, 3, 4, 5, 6] rfl)
set_option maxRecDepth 100000 in
set_option maxHeartbeats 4000000 in
theorem wB_L_isSound_277 (S : Cx p m c meth cL_isSound 9 s args RL (some .boolean)) {Q : Int32 → MM → Prop} {K278 : MM → Nat → Int32 → Int32 → Int32 → Int32 → Int32 → Int32 → Int32 → Prop} (hK278 : ∀ (M : MM) (a0 : Nat) (v1 : Int32) (v2 : Int32) (v3 : Int32) (v4 : Int32) (v5 : Int32) (v7 : Int32) (t0 : Int32), K278 M a0 v1 v2 v3 v4 v5 v7 t0 → WG p l e rm_L_isSound s m args below meth c 0 0 (MQi below E Z args s Q) E Z M 278 9 [(0, .ref a0), (1, .int v1), (2, .int v2), (3, .int v3), (4, .int v4), (5, .int v5), (7, .int v7)] [.int t0]) (M : MM) (a0 : Nat) (v1 : Int32) (v2 : Int32) (v3 : Int32) (v4 : Int32) (v5 : Int32) (v7 : Int32) (h : B_L_isSound_277 Z Q K278 M a0 v1 v2 v3 v4 v5 v7) : WG p l e rm_L_isSound s m args below meth c 0 0 (MQi below E Z args s Q) E Z M 277 9 [(0, .ref a0), (1, .int v1), (2, .int v2), (3, .int v3), (4, .int v4), (5, .int v5), (7, .int v7)] [] := by
  intro H locs ls hw hl
  have hx := S.1.1
  have hb := S.1.2.1
  refine lv_iconst (v := 0) hx hb dL_isSound_277 (by decide) ?_
  exact (hK278 _ _ _ _ _ _ _ _ _ h) H locs ls hw (lv_sub hl [0, 1, 2, 3, 4, 5, 6] rfl)
set_option maxRecDepth 100000 in
set_option maxHeartbeats 4000000 in
theorem wB_L_isSound_278 (S : Cx p m c meth cL_isSound 9 s args RL (some .boolean)) {Q : Int32 → MM → Prop} {K99 : MM → Nat → Int32 → Int32 → Int32 → Int32 → Int32 → Int32 → Int32 → Prop} (hK99 : ∀ (M : MM) (a0 : Nat) (v1 : Int32) (v2 : Int32) (v3 : Int32) (v4 : Int32) (v5 : Int32) (v6 : Int32) (v7 : Int32), K99 M a0 v1 v2 v3 v4 v5 v6 v7 → WG p l e rm_L_isSound s m args below meth c 0 0 (MQi below E Z args s Q) E Z M 99 9 [(0, .ref a0), (1, .int v1), (2, .int v2), (3, .int v3), (4, .int v4), (5, .int v5), (6, .int v6), (7, .int v7)] []) (M : MM) (a0 : Nat) (v1 : Int32) (v2 : Int32) (v3 : Int32) (v4 : Int32) (v5 : Int32) (v7 : Int32) (t0 : Int32) (h : B_L_isSound_278 Z Q K99 M a0 v1 v2 v3 v4 v5 v7 t0) : WG p l e rm_L_isSound s m args below meth c 0 0 (MQi below E Z args s Q) E Z M 278 9 [(0, .ref a0), (1, .int v1), (2, .int v2), (3, .int v3), (4, .int v4), (5, .int v5), (7, .int v7)] [.int t0] := by
  intro H locs ls hw hl
  have hx := S.1.1
  have hb := S.1.2.1
  refine lv_istore (lv' := [(6, .int t0), (0, .ref a0), (1, .int v1), (2, .int v2), (3, .int v3), (4, .int v4), (5, .int v5), (7, .int v7)]) hx hb dL_isSound_278 hl (by decide) rfl (fun ls hl => ?_)
  refine lv_iinc (v := (v7 + 1)) (lv' := [(7, .int (v7 + 1)), (6, .int t0), (0, .ref a0), (1, .int v1), (2, .int v2), (3, .int v3), (4, .int v4), (5, .int v5)]) hx hb dL_isSound_280 hl (k := 7) rfl rfl (by decide) rfl (fun ls hl => ?_)
  refine lv_goto (tgt := 99) hx hb dL_isSound_283 (by decide) ?_
  exact (hK99 _ _ _ _ _ _ _ _ _ h) H locs ls hw (lv_sub hl [2, 3, 4, 5, 6, 7, 1, 0] rfl)
set_option maxRecDepth 100000 in
set_option maxHeartbeats 4000000 in
theorem wB_L_isSound_175 (S : Cx p m c meth cL_isSound 9 s args RL (some .boolean)) {Q : Int32 → MM → Prop} {K99 : MM → Nat → Int32 → Int32 → Int32 → Int32 → Int32 → Int32 → Int32 → Prop} (hK99 : ∀ (M : MM) (a0 : Nat) (v1 : Int32) (v2 : Int32) (v3 : Int32) (v4 : Int32) (v5 : Int32) (v6 : Int32) (v7 : Int32), K99 M a0 v1 v2 v3 v4 v5 v6 v7 → WG p l e rm_L_isSound s m args below meth c 0 0 (MQi below E Z args s Q) E Z M 99 9 [(0, .ref a0), (1, .int v1), (2, .int v2), (3, .int v3), (4, .int v4), (5, .int v5), (6, .int v6), (7, .int v7)] []) (M : MM) (a0 : Nat) (v1 : Int32) (v2 : Int32) (v3 : Int32) (v4 : Int32) (v6 : Int32) (v7 : Int32) (t0 : Int32) (t1 : Int32) (h : B_L_isSound_175 Z Q K99 M a0 v1 v2 v3 v4 v6 v7 t0 t1) : WG p l e rm_L_isSound s m args below meth c 0 0 (MQi below E Z args s Q) E Z M 175 9 [(0, .ref a0), (1, .int v1), (2, .int v2), (3, .int v3), (4, .int v4), (6, .int v6), (7, .int v7)] [.int t0, .int t1] := by
  intro H locs ls hw hl
  have hx := S.1.1
  have hb := S.1.2.1
  refine lv_iadd hx hb dL_isSound_175 ?_
  refine lv_istore (lv' := [(5, .int (t1 + t0)), (0, .ref a0), (1, .int v1), (2, .int v2), (3, .int v3), (4, .int v4), (6, .int v6), (7, .int v7)]) hx hb dL_isSound_176 hl (by decide) rfl (fun ls hl => ?_)
  refine lv_iload hx hb dL_isSound_178 (lv_at hl 6 rfl) ?_
  refine lv_if_eq (tgt := 277) hx hb dL_isSound_180 (by decide) (fun q_180 => ?_) (fun q_180 => ?_)
  · have h := h.1 q_180
    exact ((wB_L_isSound_277 S  (fun M1 a0 v1 v2 v3 v4 v5 v7 t0 h => (wB_L_isSound_278 S  hK99 _ _ _ _ _ _ _ _ _ h)) _ _ _ _ _ _ _ _ h)) H locs ls hw (lv_sub hl [1, 2, 3, 4, 5, 0, 7] rfl)
  · have h := h.2 q_180
    refine lv_aload_n hx hb dL_isSound_183 rfl (lv_at hl 1 rfl) ?_
    refine lv_iload hx hb dL_isSound_184 (lv_at hl 7 rfl) ?_
    refine lv_iconst (v := 0) hx hb dL_isSound_186 (by decide) ?_
    obtain ⟨k_0, h⟩ := h
    refine cv_i (As := [.int v7, .int 0]) (rest := []) S.1 hw (k_X5_cell l E Z M a0 v7 0 _ h) wv_L_34 yc_X5_cell ⟨rfl, rfl⟩ ⟨Nat.le_of_ble_eq_true rfl, Nat.le_of_ble_eq_true rfl⟩ rfl hl.1 (Nat.le_of_ble_eq_true rfl) (ci := 5) (q := (RX5, TX5, 9)) rfl rfl (by rw [k_0]; decide) (cell_5 k_0) ⟨Nat.le_of_ble_eq_true rfl, Nat.le_of_ble_eq_true rfl⟩ dL_isSound_187 (fun r187 M187 H locs h hw => ?_)
    refine lv_if_le (tgt := 197) hx hb dL_isSound_190 (by decide) (fun q_190 => ?_) (fun q_190 => ?_)
    · have h := h.1 q_190
      refine lv_iconst (v := 0) hx hb dL_isSound_197 (by decide) ?_
      exact ((wB_L_isSound_198 S  (fun M1 a0 v1 v2 v3 v4 v5 v7 h => (wB_L_isSound_277 S  (fun M1 a0 v1 v2 v3 v4 v5 v7 t0 h => (wB_L_isSound_278 S  hK99 _ _ _ _ _ _ _ _ _ h)) _ _ _ _ _ _ _ _ h)) (fun M1 a0 v1 v2 v3 v4 v5 v7 t0 h => (wB_L_isSound_278 S  hK99 _ _ _ _ _ _ _ _ _ h)) _ _ _ _ _ _ _ _ _ h)) H locs ls hw (lv_sub hl [1, 2, 3, 4, 5, 0, 7] rfl)
    · have h := h.2 q_190
      refine lv_iconst (v := 1) hx hb dL_isSound_193 (by decide) ?_
      refine lv_goto (tgt := 198) hx hb dL_isSound_194 (by decide) ?_
      exact ((wB_L_isSound_198 S  (fun M1 a0 v1 v2 v3 v4 v5 v7 h => (wB_L_isSound_277 S  (fun M1 a0 v1 v2 v3 v4 v5 v7 t0 h => (wB_L_isSound_278 S  hK99 _ _ _ _ _ _ _ _ _ h)) _ _ _ _ _ _ _ _ h)) (fun M1 a0 v1 v2 v3 v4 v5 v7 t0 h => (wB_L_isSound_278 S  hK99 _ _ _ _ _ _ _ _ _ h)) _ _ _ _ _ _ _ _ _ h)) H locs ls hw (lv_sub hl [1, 2, 3, 4, 5, 0, 7] rfl)
set_option maxRecDepth 100000 in
set_option maxHeartbeats 4000000 in
theorem wB_L_isSound_154 (S : Cx p m c meth cL_isSound 9 s args RL (some .boolean)) {Q : Int32 → MM → Prop} {K99 : MM → Nat → Int32 → Int32 → Int32 → Int32 → Int32 → Int32 → Int32 → Prop} (hK99 : ∀ (M : MM) (a0 : Nat) (v1 : Int32) (v2 : Int32) (v3 : Int32) (v4 : Int32) (v5 : Int32) (v6 : Int32) (v7 : Int32), K99 M a0 v1 v2 v3 v4 v5 v6 v7 → WG p l e rm_L_isSound s m args below meth c 0 0 (MQi below E Z args s Q) E Z M 99 9 [(0, .ref a0), (1, .int v1), (2, .int v2), (3, .int v3), (4, .int v4), (5, .int v5), (6, .int v6), (7, .int v7)] []) (M : MM) (a0 : Nat) (v1 : Int32) (v2 : Int32) (v3 : Int32) (v5 : Int32) (v6 : Int32) (v7 : Int32) (v8 : Int32) (t0 : Int32) (t1 : Int32) (h : B_L_isSound_154 Z Q K99 M a0 v1 v2 v3 v5 v6 v7 v8 t0 t1) : WG p l e rm_L_isSound s m args below meth c 0 0 (MQi below E Z args s Q) E Z M 154 9 [(0, .ref a0), (1, .int v1), (2, .int v2), (3, .int v3), (5, .int v5), (6, .int v6), (7, .int v7), (8, .int v8)] [.int t0, .int t1] := by
  intro H locs ls hw hl
  have hx := S.1.1
  have hb := S.1.2.1
  refine lv_iadd hx hb dL_isSound_154 ?_
  refine lv_istore (lv' := [(4, .int (t1 + t0)), (0, .ref a0), (1, .int v1), (2, .int v2), (3, .int v3), (5, .int v5), (6, .int v6), (7, .int v7), (8, .int v8)]) hx hb dL_isSound_155 hl (by decide) rfl (fun ls hl => ?_)
  refine lv_iload hx hb dL_isSound_157 (lv_at hl 5 rfl) ?_
  refine lv_iload hx hb dL_isSound_159 (lv_at hl 8 rfl) ?_
  refine lv_if_eq (tgt := 174) hx hb dL_isSound_161 (by decide) (fun q_161 => ?_) (fun q_161 => ?_)
  · have h := h.1 q_161
    refine lv_iconst (v := 0) hx hb dL_isSound_174 (by decide) ?_
    exact ((wB_L_isSound_175 S  hK99 _ _ _ _ _ _ _ _ _ _ h)) H locs ls hw (lv_sub hl [1, 2, 3, 4, 0, 6, 7] rfl)
  · have h := h.2 q_161
    refine lv_aload_n hx hb dL_isSound_164 rfl (lv_at hl 1 rfl) ?_
    refine lv_iload hx hb dL_isSound_165 (lv_at hl 7 rfl) ?_
    refine lv_iconst (v := 2) hx hb dL_isSound_167 (by decide) ?_
    obtain ⟨k_0, h⟩ := h
    refine cv_i (As := [.int v7, .int 2]) (rest := [.int v5]) S.1 hw (k_X5_block l E Z M a0 v7 2 _ h) wv_L_53 yc_X5_block ⟨rfl, rfl⟩ ⟨Nat.le_of_ble_eq_true rfl, Nat.le_of_ble_eq_true rfl⟩ rfl hl.1 (Nat.le_of_ble_eq_true rfl) (ci := 5) (q := (RX5, TX5, 9)) rfl rfl (by rw [k_0]; decide) (cell_5 k_0) ⟨Nat.le_of_ble_eq_true rfl, Nat.le_of_ble_eq_true rfl⟩ dL_isSound_168 (fun r168 M168 H locs h hw => ?_)
    refine lv_goto (tgt := 175) hx hb dL_isSound_171 (by decide) ?_
    exact ((wB_L_isSound_175 S  hK99 _ _ _ _ _ _ _ _ _ _ h)) H locs ls hw (lv_sub hl [1, 2, 3, 4, 0, 6, 7] rfl)
set_option maxRecDepth 100000 in
set_option maxHeartbeats 4000000 in
theorem wB_L_isSound_140 (S : Cx p m c meth cL_isSound 9 s args RL (some .boolean)) {Q : Int32 → MM → Prop} {K99 : MM → Nat → Int32 → Int32 → Int32 → Int32 → Int32 → Int32 → Int32 → Prop} (hK99 : ∀ (M : MM) (a0 : Nat) (v1 : Int32) (v2 : Int32) (v3 : Int32) (v4 : Int32) (v5 : Int32) (v6 : Int32) (v7 : Int32), K99 M a0 v1 v2 v3 v4 v5 v6 v7 → WG p l e rm_L_isSound s m args below meth c 0 0 (MQi below E Z args s Q) E Z M 99 9 [(0, .ref a0), (1, .int v1), (2, .int v2), (3, .int v3), (4, .int v4), (5, .int v5), (6, .int v6), (7, .int v7)] []) (M : MM) (a0 : Nat) (v1 : Int32) (v2 : Int32) (v4 : Int32) (v5 : Int32) (v6 : Int32) (v7 : Int32) (v8 : Int32) (t0 : Int32) (t1 : Int32) (h : B_L_isSound_140 Z Q K99 M a0 v1 v2 v4 v5 v6 v7 v8 t0 t1) : WG p l e rm_L_isSound s m args below meth c 0 0 (MQi below E Z args s Q) E Z M 140 9 [(0, .ref a0), (1, .int v1), (2, .int v2), (4, .int v4), (5, .int v5), (6, .int v6), (7, .int v7), (8, .int v8)] [.int t0, .int t1] := by
  intro H locs ls hw hl
  have hx := S.1.1
  have hb := S.1.2.1
  refine lv_iadd hx hb dL_isSound_140 ?_
  refine lv_istore_n (lv' := [(3, .int (t1 + t0)), (0, .ref a0), (1, .int v1), (2, .int v2), (4, .int v4), (5, .int v5), (6, .int v6), (7, .int v7), (8, .int v8)]) hx hb dL_isSound_141 rfl hl (by decide) rfl (fun ls hl => ?_)
  refine lv_iload hx hb dL_isSound_142 (lv_at hl 4 rfl) ?_
  refine lv_iload hx hb dL_isSound_144 (lv_at hl 8 rfl) ?_
  refine lv_if_eq (tgt := 153) hx hb dL_isSound_146 (by decide) (fun q_146 => ?_) (fun q_146 => ?_)
  · have h := h.1 q_146
    refine lv_iconst (v := 0) hx hb dL_isSound_153 (by decide) ?_
    exact ((wB_L_isSound_154 S  hK99 _ _ _ _ _ _ _ _ _ _ _ h)) H locs ls hw (lv_sub hl [1, 2, 3, 0, 5, 6, 7, 8] rfl)
  · have h := h.2 q_146
    refine lv_iconst (v := 1) hx hb dL_isSound_149 (by decide) ?_
    refine lv_goto (tgt := 154) hx hb dL_isSound_150 (by decide) ?_
    exact ((wB_L_isSound_154 S  hK99 _ _ _ _ _ _ _ _ _ _ _ h)) H locs ls hw (lv_sub hl [1, 2, 3, 0, 5, 6, 7, 8] rfl)
set_option maxRecDepth 100000 in
set_option maxHeartbeats 4000000 in
theorem wB_L_isSound_122 (S : Cx p m c meth cL_isSound 9 s args RL (some .boolean)) {Q : Int32 → MM → Prop} {K99 : MM → Nat → Int32 → Int32 → Int32 → Int32 → Int32 → Int32 → Int32 → Prop} (hK99 : ∀ (M : MM) (a0 : Nat) (v1 : Int32) (v2 : Int32) (v3 : Int32) (v4 : Int32) (v5 : Int32) (v6 : Int32) (v7 : Int32), K99 M a0 v1 v2 v3 v4 v5 v6 v7 → WG p l e rm_L_isSound s m args below meth c 0 0 (MQi below E Z args s Q) E Z M 99 9 [(0, .ref a0), (1, .int v1), (2, .int v2), (3, .int v3), (4, .int v4), (5, .int v5), (6, .int v6), (7, .int v7)] []) (M : MM) (a0 : Nat) (v1 : Int32) (v2 : Int32) (v3 : Int32) (v4 : Int32) (v5 : Int32) (v6 : Int32) (v7 : Int32) (t0 : Int32) (h : B_L_isSound_122 Z Q K99 M a0 v1 v2 v3 v4 v5 v6 v7 t0) : WG p l e rm_L_isSound s m args below meth c 0 0 (MQi below E Z args s Q) E Z M 122 9 [(0, .ref a0), (1, .int v1), (2, .int v2), (3, .int v3), (4, .int v4), (5, .int v5), (6, .int v6), (7, .int v7)] [.int t0] := by
  intro H locs ls hw hl
  have hx := S.1.1
  have hb := S.1.2.1
  refine lv_istore (lv' := [(8, .int t0), (0, .ref a0), (1, .int v1), (2, .int v2), (3, .int v3), (4, .int v4), (5, .int v5), (6, .int v6), (7, .int v7)]) hx hb dL_isSound_122 hl (by decide) rfl (fun ls hl => ?_)
  refine lv_iload_n hx hb dL_isSound_124 rfl (lv_at hl 4 rfl) ?_
  refine lv_aload_n hx hb dL_isSound_125 rfl (lv_at hl 1 rfl) ?_
  refine lv_iload hx hb dL_isSound_126 (lv_at hl 8 rfl) ?_
  refine lv_iconst (v := 0) hx hb dL_isSound_128 (by decide) ?_
  obtain ⟨k_0, h⟩ := h
  refine cv_i (As := [.int v7, .int 0]) (rest := [.int v3]) S.1 hw (k_X5_cell l E Z M a0 v7 0 _ h) wv_L_34 yc_X5_cell ⟨rfl, rfl⟩ ⟨Nat.le_of_ble_eq_true rfl, Nat.le_of_ble_eq_true rfl⟩ rfl hl.1 (Nat.le_of_ble_eq_true rfl) (ci := 5) (q := (RX5, TX5, 9)) rfl rfl (by rw [k_0]; decide) (cell_5 k_0) ⟨Nat.le_of_ble_eq_true rfl, Nat.le_of_ble_eq_true rfl⟩ dL_isSound_129 (fun r129 M129 H locs h hw => ?_)
  refine lv_if_le (tgt := 139) hx hb dL_isSound_132 (by decide) (fun q_132 => ?_) (fun q_132 => ?_)
  · have h := h.1 q_132
    refine lv_iconst (v := 0) hx hb dL_isSound_139 (by decide) ?_
    exact ((wB_L_isSound_140 S  hK99 _ _ _ _ _ _ _ _ _ _ _ h)) H locs ls hw (lv_sub hl [1, 2, 3, 5, 6, 7, 8, 0] rfl)
  · have h := h.2 q_132
    refine lv_iconst (v := 1) hx hb dL_isSound_135 (by decide) ?_
    refine lv_goto (tgt := 140) hx hb dL_isSound_136 (by decide) ?_
    exact ((wB_L_isSound_140 S  hK99 _ _ _ _ _ _ _ _ _ _ _ h)) H locs ls hw (lv_sub hl [1, 2, 3, 5, 6, 7, 8, 0] rfl)
set_option maxRecDepth 100000 in
set_option maxHeartbeats 4000000 in
theorem wB_L_isSound_99 (S : Cx p m c meth cL_isSound 9 s args RL (some .boolean)) {Q : Int32 → MM → Prop} {K99 : MM → Nat → Int32 → Int32 → Int32 → Int32 → Int32 → Int32 → Int32 → Prop} (hK99 : ∀ (M : MM) (a0 : Nat) (v1 : Int32) (v2 : Int32) (v3 : Int32) (v4 : Int32) (v5 : Int32) (v6 : Int32) (v7 : Int32), K99 M a0 v1 v2 v3 v4 v5 v6 v7 → WG p l e rm_L_isSound s m args below meth c 0 0 (MQi below E Z args s Q) E Z M 99 9 [(0, .ref a0), (1, .int v1), (2, .int v2), (3, .int v3), (4, .int v4), (5, .int v5), (6, .int v6), (7, .int v7)] []) (M : MM) (a0 : Nat) (v1 : Int32) (v2 : Int32) (v3 : Int32) (v4 : Int32) (v5 : Int32) (v6 : Int32) (v7 : Int32) (h : B_L_isSound_99 Z Q K99 M a0 v1 v2 v3 v4 v5 v6 v7) : WG p l e rm_L_isSound s m args below meth c 0 0 (MQi below E Z args s Q) E Z M 99 9 [(0, .ref a0), (1, .int v1), (2, .int v2), (3, .int v3), (4, .int v4), (5, .int v5), (6, .int v6), (7, .int v7)] [] := by
  intro H locs ls hw hl
  have hx := S.1.1
  have hb := S.1.2.1
  refine lv_iload hx hb dL_isSound_99 (lv_at hl 7 rfl) ?_
  refine lv_iload_n hx hb dL_isSound_101 rfl (lv_at hl 2 rfl) ?_
  refine lv_icmp_ge (tgt := 286) hx hb dL_isSound_102 (by decide) (fun q_102 => ?_) (fun q_102 => ?_)
  · have h := h.1 q_102
    refine lv_iload hx hb dL_isSound_286 (lv_at hl 6 rfl) ?_
    refine lv_if_eq (tgt := 325) hx hb dL_isSound_288 (by decide) (fun q_288 => ?_) (fun q_288 => ?_)
    · have h := h.1 q_288
      refine lv_iconst (v := 0) hx hb dL_isSound_325 (by decide) ?_
      exact we_z S hw rfl (by rfl) h dL_isSound_326
    · have h := h.2 q_288
      refine lv_iload_n hx hb dL_isSound_291 rfl (lv_at hl 3 rfl) ?_
      refine lv_aload_n hx hb dL_isSound_292 rfl (lv_at hl 0 rfl) ?_
      refine lv_iconst (v := 2) hx hb dL_isSound_293 (by decide) ?_
      obtain ⟨k_0, h⟩ := h
      refine cv_i (As := [.int 2]) (rest := [.int v3]) S.1 hw (k_X5_value l E Z M a0 2 _ h) wv_L_9 yc_X5_value ⟨rfl, rfl⟩ ⟨Nat.le_of_ble_eq_true rfl, Nat.le_of_ble_eq_true rfl⟩ rfl hl.1 (Nat.le_of_ble_eq_true rfl) (ci := 5) (q := (RX5, TX5, 9)) rfl rfl (by rw [k_0]; decide) (cell_5 k_0) ⟨Nat.le_of_ble_eq_true rfl, Nat.le_of_ble_eq_true rfl⟩ dL_isSound_294 (fun r294 M294 H locs h hw => ?_)
      refine lv_icmp_ne (tgt := 325) hx hb dL_isSound_297 (by decide) (fun q_297 => ?_) (fun q_297 => ?_)
      · have h := h.1 q_297
        refine lv_iconst (v := 0) hx hb dL_isSound_325 (by decide) ?_
        exact we_z S hw rfl (by rfl) h dL_isSound_326
      · have h := h.2 q_297
        refine lv_iload hx hb dL_isSound_300 (lv_at hl 4 rfl) ?_
        refine lv_aload_n hx hb dL_isSound_302 rfl (lv_at hl 0 rfl) ?_
        refine lv_iconst (v := 3) hx hb dL_isSound_303 (by decide) ?_
        refine cv_i (As := [.int 3]) (rest := [.int v4]) S.1 hw (k_X5_value l E Z M294 a0 3 _ h) wv_L_9 yc_X5_value ⟨rfl, rfl⟩ ⟨Nat.le_of_ble_eq_true rfl, Nat.le_of_ble_eq_true rfl⟩ rfl hl.1 (Nat.le_of_ble_eq_true rfl) (ci := 5) (q := (RX5, TX5, 9)) rfl rfl (by rw [k_0]; decide) (cell_5 k_0) ⟨Nat.le_of_ble_eq_true rfl, Nat.le_of_ble_eq_true rfl⟩ dL_isSound_304 (fun r304 M304 H locs h hw => ?_)
        refine lv_icmp_ne (tgt := 325) hx hb dL_isSound_307 (by decide) (fun q_307 => ?_) (fun q_307 => ?_)
        · have h := h.1 q_307
          refine lv_iconst (v := 0) hx hb dL_isSound_325 (by decide) ?_
          exact we_z S hw rfl (by rfl) h dL_isSound_326
        · have h := h.2 q_307
          refine lv_iload hx hb dL_isSound_310 (lv_at hl 5 rfl) ?_
          refine lv_aload_n hx hb dL_isSound_312 rfl (lv_at hl 0 rfl) ?_
          refine lv_bipush (v := 10) hx hb dL_isSound_313 (by decide) ?_
          refine cv_i (As := [.int 10]) (rest := [.int v5]) S.1 hw (k_X5_value l E Z M304 a0 10 _ h) wv_L_9 yc_X5_value ⟨rfl, rfl⟩ ⟨Nat.le_of_ble_eq_true rfl, Nat.le_of_ble_eq_true rfl⟩ rfl hl.1 (Nat.le_of_ble_eq_true rfl) (ci := 5) (q := (RX5, TX5, 9)) rfl rfl (by rw [k_0]; decide) (cell_5 k_0) ⟨Nat.le_of_ble_eq_true rfl, Nat.le_of_ble_eq_true rfl⟩ dL_isSound_315 (fun r315 M315 H locs h hw => ?_)
          refine lv_icmp_ne (tgt := 325) hx hb dL_isSound_318 (by decide) (fun q_318 => ?_) (fun q_318 => ?_)
          · have h := h.1 q_318
            refine lv_iconst (v := 0) hx hb dL_isSound_325 (by decide) ?_
            exact we_z S hw rfl (by rfl) h dL_isSound_326
          · have h := h.2 q_318
            refine lv_iconst (v := 1) hx hb dL_isSound_321 (by decide) ?_
            refine lv_goto (tgt := 326) hx hb dL_isSound_322 (by decide) ?_
            exact we_z S hw rfl (by rfl) h dL_isSound_326
  · have h := h.2 q_102
    refine lv_aload_n hx hb dL_isSound_105 rfl (lv_at hl 0 rfl) ?_
    refine lv_iload hx hb dL_isSound_106 (lv_at hl 7 rfl) ?_
    refine lv_iconst (v := 5) hx hb dL_isSound_108 (by decide) ?_
    obtain ⟨k_1, h⟩ := h
    refine cv_i (As := [.int v7, .int 5]) (rest := []) S.1 hw (k_X5_cell l E Z M a0 v7 5 _ h) wv_L_34 yc_X5_cell ⟨rfl, rfl⟩ ⟨Nat.le_of_ble_eq_true rfl, Nat.le_of_ble_eq_true rfl⟩ rfl hl.1 (Nat.le_of_ble_eq_true rfl) (ci := 5) (q := (RX5, TX5, 9)) rfl rfl (by rw [k_1]; decide) (cell_5 k_1) ⟨Nat.le_of_ble_eq_true rfl, Nat.le_of_ble_eq_true rfl⟩ dL_isSound_109 (fun r109 M109 H locs h hw => ?_)
    refine lv_iload hx hb dL_isSound_112 (lv_at hl 7 rfl) ?_
    refine lv_icmp_ne (tgt := 121) hx hb dL_isSound_114 (by decide) (fun q_114 => ?_) (fun q_114 => ?_)
    · have h := h.1 q_114
      refine lv_iconst (v := 0) hx hb dL_isSound_121 (by decide) ?_
      exact ((wB_L_isSound_122 S  hK99 _ _ _ _ _ _ _ _ _ _ h)) H locs ls hw (lv_sub hl [0, 1, 2, 3, 4, 5, 6, 7] rfl)
    · have h := h.2 q_114
      refine lv_iconst (v := 1) hx hb dL_isSound_117 (by decide) ?_
      refine lv_goto (tgt := 122) hx hb dL_isSound_118 (by decide) ?_
      exact ((wB_L_isSound_122 S  hK99 _ _ _ _ _ _ _ _ _ _ h)) H locs ls hw (lv_sub hl [0, 1, 2, 3, 4, 5, 6, 7] rfl)
theorem wL_L_isSound_99 (S : Cx p m c meth cL_isSound 9 s args RL (some .boolean)) {Q : Int32 → MM → Prop}   : ∀ (n : Nat) (M : MM) (a0 : Nat) (v1 : Int32) (v2 : Int32) (v3 : Int32) (v4 : Int32) (v5 : Int32) (v6 : Int32) (v7 : Int32), L_L_isSound_99 Z Q  n M a0 v1 v2 v3 v4 v5 v6 v7 → WG p l e rm_L_isSound s m args below meth c 0 0 (MQi below E Z args s Q) E Z M 99 9 [(0, .ref a0), (1, .int v1), (2, .int v2), (3, .int v3), (4, .int v4), (5, .int v5), (6, .int v6), (7, .int v7)] []
  | 0, _, _, _, _, _, _, _, _, _, h => False.elim h
  | n + 1, M, a0, v1, v2, v3, v4, v5, v6, v7, h => wB_L_isSound_99 S  (wL_L_isSound_99 S   n) M a0 v1 v2 v3 v4 v5 v6 v7 h
set_option maxRecDepth 100000 in
set_option maxHeartbeats 4000000 in
theorem wB_L_isSound_94 (S : Cx p m c meth cL_isSound 9 s args RL (some .boolean)) {Q : Int32 → MM → Prop}   (M : MM) (a0 : Nat) (v1 : Int32) (v2 : Int32) (v3 : Int32) (v4 : Int32) (v5 : Int32) (t0 : Int32) (h : B_L_isSound_94 Z Q  M a0 v1 v2 v3 v4 v5 t0) : WG p l e rm_L_isSound s m args below meth c 0 0 (MQi below E Z args s Q) E Z M 94 9 [(0, .ref a0), (1, .int v1), (2, .int v2), (3, .int v3), (4, .int v4), (5, .int v5)] [.int t0] := by
  intro H locs ls hw hl
  have hx := S.1.1
  have hb := S.1.2.1
  refine lv_istore (lv' := [(6, .int t0), (0, .ref a0), (1, .int v1), (2, .int v2), (3, .int v3), (4, .int v4), (5, .int v5)]) hx hb dL_isSound_94 hl (by decide) rfl (fun ls hl => ?_)
  refine lv_iconst (v := 0) hx hb dL_isSound_96 (by decide) ?_
  refine lv_istore (lv' := [(7, .int 0), (6, .int t0), (0, .ref a0), (1, .int v1), (2, .int v2), (3, .int v3), (4, .int v4), (5, .int v5)]) hx hb dL_isSound_97 hl (by decide) rfl (fun ls hl => ?_)
  exact ((Exists.elim h (fun n h => wL_L_isSound_99 S   n _ _ _ _ _ _ _ _ _ h))) H locs ls hw (lv_sub hl [2, 3, 4, 5, 6, 7, 1, 0] rfl)
set_option maxRecDepth 100000 in
set_option maxHeartbeats 4000000 in
theorem wB_L_isSound_0 (S : Cx p m c meth cL_isSound 9 s args RL (some .boolean)) {Q : Int32 → MM → Prop}   (M : MM) (a0 : Nat) (h : B_L_isSound_0 Z Q  M a0) : WG p l e rm_L_isSound s m args below meth c 0 0 (MQi below E Z args s Q) E Z M 0 9 [(0, .ref a0)] [] := by
  intro H locs ls hw hl
  have hx := S.1.1
  have hb := S.1.2.1
  refine lv_aload_n hx hb dL_isSound_0 rfl (lv_at hl 0 rfl) ?_
  refine lv_iconst (v := 0) hx hb dL_isSound_1 (by decide) ?_
  obtain ⟨k_0, h⟩ := h
  refine cv_i (As := [.int 0]) (rest := []) S.1 hw (k_X5_value l E Z M a0 0 _ h) wv_L_9 yc_X5_value ⟨rfl, rfl⟩ ⟨Nat.le_of_ble_eq_true rfl, Nat.le_of_ble_eq_true rfl⟩ rfl hl.1 (Nat.le_of_ble_eq_true rfl) (ci := 5) (q := (RX5, TX5, 9)) rfl rfl (by rw [k_0]; decide) (cell_5 k_0) ⟨Nat.le_of_ble_eq_true rfl, Nat.le_of_ble_eq_true rfl⟩ dL_isSound_2 (fun r2 M2 H locs h hw => ?_)
  refine lv_istore_n (lv' := [(1, .int r2), (0, .ref a0)]) hx hb dL_isSound_5 rfl hl (by decide) rfl (fun ls hl => ?_)
  refine lv_iload_n hx hb dL_isSound_6 rfl (lv_at hl 0 rfl) ?_
  refine lv_aload_n hx hb dL_isSound_7 rfl (lv_at hl 1 rfl) ?_
  refine lv_iconst (v := 1) hx hb dL_isSound_8 (by decide) ?_
  refine cv_i (As := [.int 1]) (rest := [.int r2]) S.1 hw (k_X5_value l E Z M2 a0 1 _ h) wv_L_9 yc_X5_value ⟨rfl, rfl⟩ ⟨Nat.le_of_ble_eq_true rfl, Nat.le_of_ble_eq_true rfl⟩ rfl hl.1 (Nat.le_of_ble_eq_true rfl) (ci := 5) (q := (RX5, TX5, 9)) rfl rfl (by rw [k_0]; decide) (cell_5 k_0) ⟨Nat.le_of_ble_eq_true rfl, Nat.le_of_ble_eq_true rfl⟩ dL_isSound_9 (fun r9 M9 H locs h hw => ?_)
  refine lv_imul hx hb dL_isSound_12 ?_
  refine lv_istore_n (lv' := [(2, .int (r2 * r9)), (1, .int r2), (0, .ref a0)]) hx hb dL_isSound_13 rfl hl (by decide) rfl (fun ls hl => ?_)
  refine lv_iconst (v := 0) hx hb dL_isSound_14 (by decide) ?_
  refine lv_istore_n (lv' := [(3, .int 0), (2, .int (r2 * r9)), (1, .int r2), (0, .ref a0)]) hx hb dL_isSound_15 rfl hl (by decide) rfl (fun ls hl => ?_)
  refine lv_iconst (v := 0) hx hb dL_isSound_16 (by decide) ?_
  refine lv_istore (lv' := [(4, .int 0), (3, .int 0), (2, .int (r2 * r9)), (1, .int r2), (0, .ref a0)]) hx hb dL_isSound_17 hl (by decide) rfl (fun ls hl => ?_)
  refine lv_iconst (v := 0) hx hb dL_isSound_19 (by decide) ?_
  refine lv_istore (lv' := [(5, .int 0), (4, .int 0), (3, .int 0), (2, .int (r2 * r9)), (1, .int r2), (0, .ref a0)]) hx hb dL_isSound_20 hl (by decide) rfl (fun ls hl => ?_)
  refine lv_aload_n hx hb dL_isSound_22 rfl (lv_at hl 5 rfl) ?_
  refine lv_bipush (v := 9) hx hb dL_isSound_23 (by decide) ?_
  refine cv_i (As := [.int 9]) (rest := []) S.1 hw (k_X5_value l E Z M9 a0 9 _ h) wv_L_9 yc_X5_value ⟨rfl, rfl⟩ ⟨Nat.le_of_ble_eq_true rfl, Nat.le_of_ble_eq_true rfl⟩ rfl hl.1 (Nat.le_of_ble_eq_true rfl) (ci := 5) (q := (RX5, TX5, 9)) rfl rfl (by rw [k_0]; decide) (cell_5 k_0) ⟨Nat.le_of_ble_eq_true rfl, Nat.le_of_ble_eq_true rfl⟩ dL_isSound_25 (fun r25 M25 H locs h hw => ?_)
  refine lv_aload_n hx hb dL_isSound_28 rfl (lv_at hl 5 rfl) ?_
  refine lv_bipush (v := 10) hx hb dL_isSound_29 (by decide) ?_
  refine cv_i (As := [.int 10]) (rest := [.int r25]) S.1 hw (k_X5_value l E Z M25 a0 10 _ h) wv_L_9 yc_X5_value ⟨rfl, rfl⟩ ⟨Nat.le_of_ble_eq_true rfl, Nat.le_of_ble_eq_true rfl⟩ rfl hl.1 (Nat.le_of_ble_eq_true rfl) (ci := 5) (q := (RX5, TX5, 9)) rfl rfl (by rw [k_0]; decide) (cell_5 k_0) ⟨Nat.le_of_ble_eq_true rfl, Nat.le_of_ble_eq_true rfl⟩ dL_isSound_31 (fun r31 M31 H locs h hw => ?_)
  refine lv_aload_n hx hb dL_isSound_34 rfl (lv_at hl 5 rfl) ?_
  refine lv_bipush (v := 11) hx hb dL_isSound_35 (by decide) ?_
  refine cv_i (As := [.int 11]) (rest := [.int r31, .int r25]) S.1 hw (k_X5_value l E Z M31 a0 11 _ h) wv_L_9 yc_X5_value ⟨rfl, rfl⟩ ⟨Nat.le_of_ble_eq_true rfl, Nat.le_of_ble_eq_true rfl⟩ rfl hl.1 (Nat.le_of_ble_eq_true rfl) (ci := 5) (q := (RX5, TX5, 9)) rfl rfl (by rw [k_0]; decide) (cell_5 k_0) ⟨Nat.le_of_ble_eq_true rfl, Nat.le_of_ble_eq_true rfl⟩ dL_isSound_37 (fun r37 M37 H locs h hw => ?_)
  refine lv_iadd hx hb dL_isSound_40 ?_
  refine lv_aload_n hx hb dL_isSound_41 rfl (lv_at hl 5 rfl) ?_
  refine lv_bipush (v := 12) hx hb dL_isSound_42 (by decide) ?_
  refine cv_i (As := [.int 12]) (rest := [.int (r31 + r37), .int r25]) S.1 hw (k_X5_value l E Z M37 a0 12 _ h) wv_L_9 yc_X5_value ⟨rfl, rfl⟩ ⟨Nat.le_of_ble_eq_true rfl, Nat.le_of_ble_eq_true rfl⟩ rfl hl.1 (Nat.le_of_ble_eq_true rfl) (ci := 5) (q := (RX5, TX5, 9)) rfl rfl (by rw [k_0]; decide) (cell_5 k_0) ⟨Nat.le_of_ble_eq_true rfl, Nat.le_of_ble_eq_true rfl⟩ dL_isSound_44 (fun r44 M44 H locs h hw => ?_)
  refine lv_iadd hx hb dL_isSound_47 ?_
  refine lv_icmp_ne (tgt := 93) hx hb dL_isSound_48 (by decide) (fun q_48 => ?_) (fun q_48 => ?_)
  · have h := h.1 q_48
    exact ((wB_L_isSound_93 S  (fun M1 a0 v1 v2 v3 v4 v5 t0 h => (wB_L_isSound_94 S   _ _ _ _ _ _ _ _ h)) _ _ _ _ _ _ _ h)) H locs ls hw (lv_sub hl [5, 4, 3, 2, 1, 0] rfl)
  · have h := h.2 q_48
    refine lv_aload_n hx hb dL_isSound_51 rfl (lv_at hl 5 rfl) ?_
    refine cv_i (As := []) (rest := []) S.1 hw (k_X5_takable l E Z M44 a0  _ h) wv_L_59 yc_X5_takable ⟨rfl, rfl⟩ ⟨Nat.le_of_ble_eq_true rfl, Nat.le_of_ble_eq_true rfl⟩ rfl hl.1 (Nat.le_of_ble_eq_true rfl) (ci := 5) (q := (RX5, TX5, 9)) rfl rfl (by rw [k_0]; decide) (cell_5 k_0) ⟨Nat.le_of_ble_eq_true rfl, Nat.le_of_ble_eq_true rfl⟩ dL_isSound_52 (fun r52 M52 H locs h hw => ?_)
    refine lv_aload_n hx hb dL_isSound_55 rfl (lv_at hl 5 rfl) ?_
    refine lv_iconst (v := 4) hx hb dL_isSound_56 (by decide) ?_
    refine cv_i (As := [.int 4]) (rest := [.int r52]) S.1 hw (k_X5_value l E Z M52 a0 4 _ h) wv_L_9 yc_X5_value ⟨rfl, rfl⟩ ⟨Nat.le_of_ble_eq_true rfl, Nat.le_of_ble_eq_true rfl⟩ rfl hl.1 (Nat.le_of_ble_eq_true rfl) (ci := 5) (q := (RX5, TX5, 9)) rfl rfl (by rw [k_0]; decide) (cell_5 k_0) ⟨Nat.le_of_ble_eq_true rfl, Nat.le_of_ble_eq_true rfl⟩ dL_isSound_57 (fun r57 M57 H locs h hw => ?_)
    refine lv_icmp_gt (tgt := 93) hx hb dL_isSound_60 (by decide) (fun q_60 => ?_) (fun q_60 => ?_)
    · have h := h.1 q_60
      exact ((wB_L_isSound_93 S  (fun M1 a0 v1 v2 v3 v4 v5 t0 h => (wB_L_isSound_94 S   _ _ _ _ _ _ _ _ h)) _ _ _ _ _ _ _ h)) H locs ls hw (lv_sub hl [5, 4, 3, 2, 1, 0] rfl)
    · have h := h.2 q_60
      refine lv_aload_n hx hb dL_isSound_63 rfl (lv_at hl 5 rfl) ?_
      refine lv_iconst (v := 5) hx hb dL_isSound_64 (by decide) ?_
      refine cv_i (As := [.int 5]) (rest := []) S.1 hw (k_X5_value l E Z M57 a0 5 _ h) wv_L_9 yc_X5_value ⟨rfl, rfl⟩ ⟨Nat.le_of_ble_eq_true rfl, Nat.le_of_ble_eq_true rfl⟩ rfl hl.1 (Nat.le_of_ble_eq_true rfl) (ci := 5) (q := (RX5, TX5, 9)) rfl rfl (by rw [k_0]; decide) (cell_5 k_0) ⟨Nat.le_of_ble_eq_true rfl, Nat.le_of_ble_eq_true rfl⟩ dL_isSound_65 (fun r65 M65 H locs h hw => ?_)
      refine lv_aload_n hx hb dL_isSound_68 rfl (lv_at hl 5 rfl) ?_
      refine lv_iconst (v := 4) hx hb dL_isSound_69 (by decide) ?_
      refine cv_i (As := [.int 4]) (rest := [.int r65]) S.1 hw (k_X5_value l E Z M65 a0 4 _ h) wv_L_9 yc_X5_value ⟨rfl, rfl⟩ ⟨Nat.le_of_ble_eq_true rfl, Nat.le_of_ble_eq_true rfl⟩ rfl hl.1 (Nat.le_of_ble_eq_true rfl) (ci := 5) (q := (RX5, TX5, 9)) rfl rfl (by rw [k_0]; decide) (cell_5 k_0) ⟨Nat.le_of_ble_eq_true rfl, Nat.le_of_ble_eq_true rfl⟩ dL_isSound_70 (fun r70 M70 H locs h hw => ?_)
      refine lv_icmp_gt (tgt := 93) hx hb dL_isSound_73 (by decide) (fun q_73 => ?_) (fun q_73 => ?_)
      · have h := h.1 q_73
        exact ((wB_L_isSound_93 S  (fun M1 a0 v1 v2 v3 v4 v5 t0 h => (wB_L_isSound_94 S   _ _ _ _ _ _ _ _ h)) _ _ _ _ _ _ _ h)) H locs ls hw (lv_sub hl [5, 4, 3, 2, 1, 0] rfl)
      · have h := h.2 q_73
        refine lv_aload_n hx hb dL_isSound_76 rfl (lv_at hl 5 rfl) ?_
        refine lv_iconst (v := 4) hx hb dL_isSound_77 (by decide) ?_
        refine cv_i (As := [.int 4]) (rest := []) S.1 hw (k_X5_value l E Z M70 a0 4 _ h) wv_L_9 yc_X5_value ⟨rfl, rfl⟩ ⟨Nat.le_of_ble_eq_true rfl, Nat.le_of_ble_eq_true rfl⟩ rfl hl.1 (Nat.le_of_ble_eq_true rfl) (ci := 5) (q := (RX5, TX5, 9)) rfl rfl (by rw [k_0]; decide) (cell_5 k_0) ⟨Nat.le_of_ble_eq_true rfl, Nat.le_of_ble_eq_true rfl⟩ dL_isSound_78 (fun r78 M78 H locs h hw => ?_)
        refine lv_aload_n hx hb dL_isSound_81 rfl (lv_at hl 5 rfl) ?_
        refine lv_iconst (v := 3) hx hb dL_isSound_82 (by decide) ?_
        refine cv_i (As := [.int 3]) (rest := [.int r78]) S.1 hw (k_X5_value l E Z M78 a0 3 _ h) wv_L_9 yc_X5_value ⟨rfl, rfl⟩ ⟨Nat.le_of_ble_eq_true rfl, Nat.le_of_ble_eq_true rfl⟩ rfl hl.1 (Nat.le_of_ble_eq_true rfl) (ci := 5) (q := (RX5, TX5, 9)) rfl rfl (by rw [k_0]; decide) (cell_5 k_0) ⟨Nat.le_of_ble_eq_true rfl, Nat.le_of_ble_eq_true rfl⟩ dL_isSound_83 (fun r83 M83 H locs h hw => ?_)
        refine lv_icmp_gt (tgt := 93) hx hb dL_isSound_86 (by decide) (fun q_86 => ?_) (fun q_86 => ?_)
        · have h := h.1 q_86
          exact ((wB_L_isSound_93 S  (fun M1 a0 v1 v2 v3 v4 v5 t0 h => (wB_L_isSound_94 S   _ _ _ _ _ _ _ _ h)) _ _ _ _ _ _ _ h)) H locs ls hw (lv_sub hl [5, 4, 3, 2, 1, 0] rfl)
        · have h := h.2 q_86
          refine lv_iconst (v := 1) hx hb dL_isSound_89 (by decide) ?_
          refine lv_goto (tgt := 94) hx hb dL_isSound_90 (by decide) ?_
          exact ((wB_L_isSound_94 S   _ _ _ _ _ _ _ _ h)) H locs ls hw (lv_sub hl [5, 4, 3, 2, 1, 0] rfl)
set_option maxRecDepth 100000 in
set_option maxHeartbeats 4000000 in
theorem k_L_isSound (l : Launch) (E : EE) (Z : ZZ) (M : MM) (a0 : Nat) (Q : Int32 → MM → Prop) (h : P_L_isSound Z M a0 Q) : Ct_i l yL_isSound cL_isSound 9 (some .boolean) rm_L_isSound E Z M [.ref a0] Q := by
  refine Met.ofW (cc := cL_isSound) (maxL := 9) (ret := some .boolean) (by decide) rfl ?_
  intro p e s m args below meth c s₁ B hml hv
  obtain ⟨rfl, hK, hP, hD, hZ⟩ := hv
  have S : Cx p m c meth cL_isSound 9 s _ RL (some .boolean) := ⟨⟨B.exec, B.bytes, hml, findClass_of_methodNamed B.named, fun w hw => atoms_spec (ws := ws_ yL_isSound cL_isSound 9 (some .boolean)) B.pre w (List.mem_cons_of_mem _ hw)⟩, B.returns, B.notSynchronized⟩
  have hl := lv_entry ([.ref a0]) (n := 9) (Nat.le_of_ble_eq_true rfl)
  rw [lg_entry_eq]
  generalize (lg_sl ([.ref a0]) ++ List.replicate (9 - (lg_sl ([.ref a0])).length) Slot.unset).toArray = ls at hl ⊢
  exact (wB_L_isSound_0 S  M a0 h) s.heap [] ls ⟨hK, hP, hD, va_S.rf, hZ⟩ hl
