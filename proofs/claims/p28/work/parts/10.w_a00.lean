variable {p : Program} {l : Launch} {e : Env} {s : State} {m : MethodId} {args : Array Value} {below : List Frame} {meth : Method} {c : Code} {E : EE} {Z : ZZ}
set_option maxRecDepth 100000 in
set_option maxHeartbeats 4000000 in
theorem wB_X2_at_0 (S : Cx p m c meth cX2_at 2 s args RX2 (some .int)) {Q : Int32 → MM → Prop}   (M : MM) (a0 : Nat) (v1 : Int32) (h : B_X2_at_0 Z Q  M a0 v1) : WG p l e rm_X2_at s m args below meth c 0 0 (MQi below E Z args s Q) E Z M 0 2 [(0, .ref a0), (1, .int v1)] [] := by
  intro H locs ls hw hl
  have hx := S.1.1
  have hb := S.1.2.1
  refine lv_iload_n hx hb dX2_at_0 rfl (lv_at hl 1 rfl) ?_
  refine lv_if_lt (tgt := 22) hx hb dX2_at_1 (by decide) (fun q_1 => ?_) (fun q_1 => ?_)
  · have h := h.1 q_1
    refine lv_iconst (v := 0) hx hb dX2_at_22 (by decide) ?_
    exact we_i S hw h dX2_at_23
  · have h := h.2 q_1
    refine lv_iload_n hx hb dX2_at_4 rfl (lv_at hl 1 rfl) ?_
    refine lv_aload_n hx hb dX2_at_5 rfl (lv_at hl 0 rfl) ?_
    obtain ⟨k_0, h⟩ := h
    obtain ⟨y6_1, hy_1, h⟩ := h
    refine gf_X2_7 S.1 hw k_0 hy_1 dX2_at_6 ?_
    obtain ⟨k_2, h⟩ := h
    refine wo_alen7 S.1 hw k_2 dX2_at_9 ?_
    refine lv_icmp_ge (tgt := 22) hx hb dX2_at_10 (by decide) (fun q_10 => ?_) (fun q_10 => ?_)
    · have h := h.1 q_10
      refine lv_iconst (v := 0) hx hb dX2_at_22 (by decide) ?_
      exact we_i S hw h dX2_at_23
    · have h := h.2 q_10
      refine lv_aload_n hx hb dX2_at_13 rfl (lv_at hl 0 rfl) ?_
      refine gf_X2_7 S.1 hw k_0 hy_1 dX2_at_14 ?_
      refine lv_iload_n hx hb dX2_at_17 rfl (lv_at hl 1 rfl) ?_
      obtain ⟨i_18, h⟩ := h
      refine wo_iald S.1 hw k_2 i_18 dX2_at_18 ?_
      refine lv_goto (tgt := 23) hx hb dX2_at_19 (by decide) ?_
      exact we_i S hw h dX2_at_23
set_option maxRecDepth 100000 in
set_option maxHeartbeats 4000000 in
theorem k_X2_at (l : Launch) (E : EE) (Z : ZZ) (M : MM) (a0 : Nat) (v1 : Int32) (Q : Int32 → MM → Prop) (h : P_X2_at Z M a0 v1 Q) : Ct_i l yX2_at cX2_at 2 (some .int) rm_X2_at E Z M [.ref a0, .int v1] Q := by
  refine Met.ofW (cc := cX2_at) (maxL := 2) (ret := some .int) (by decide) rfl ?_
  intro p e s m args below meth c s₁ B hml hv
  obtain ⟨rfl, hK, hP, hD, hZ⟩ := hv
  have S : Cx p m c meth cX2_at 2 s _ RX2 (some .int) := ⟨⟨B.exec, B.bytes, hml, findClass_of_methodNamed B.named, fun w hw => atoms_spec (ws := ws_ yX2_at cX2_at 2 (some .int)) B.pre w (List.mem_cons_of_mem _ hw)⟩, B.returns, B.notSynchronized⟩
  have hl := lv_entry ([.ref a0, .int v1]) (n := 2) (Nat.le_of_ble_eq_true rfl)
  rw [lg_entry_eq]
  generalize (lg_sl ([.ref a0, .int v1]) ++ List.replicate (2 - (lg_sl ([.ref a0, .int v1])).length) Slot.unset).toArray = ls at hl ⊢
  exact (wB_X2_at_0 S  M a0 v1 h) s.heap [] ls ⟨hK, hP, hD, va_S.rf, hZ⟩ hl
set_option maxRecDepth 100000 in
set_option maxHeartbeats 4000000 in
theorem wB_X2_copyFrom_2 (S : Cx p m c meth cX2_copyFrom 3 s args RX2 (none)) {Q : MM → Prop} {K2 : MM → Nat → Nat → Int32 → Prop} (hK2 : ∀ (M : MM) (a0 : Nat) (a1 : Nat) (v2 : Int32), K2 M a0 a1 v2 → WG p l e rm_X2_copyFrom s m args below meth c 0 0 (MQv below E Z args s Q) E Z M 2 3 [(0, .ref a0), (1, .ref a1), (2, .int v2)] []) (M : MM) (a0 : Nat) (a1 : Nat) (v2 : Int32) (h : B_X2_copyFrom_2 Z Q K2 M a0 a1 v2) : WG p l e rm_X2_copyFrom s m args below meth c 0 0 (MQv below E Z args s Q) E Z M 2 3 [(0, .ref a0), (1, .ref a1), (2, .int v2)] [] := by
  intro H locs ls hw hl
  have hx := S.1.1
  have hb := S.1.2.1
  refine lv_iload_n hx hb dX2_copyFrom_2 rfl (lv_at hl 2 rfl) ?_
  refine lv_aload_n hx hb dX2_copyFrom_3 rfl (lv_at hl 0 rfl) ?_
  obtain ⟨k_0, h⟩ := h
  obtain ⟨y4_1, hy_1, h⟩ := h
  refine gf_X2_7 S.1 hw k_0 hy_1 dX2_copyFrom_4 ?_
  obtain ⟨k_2, h⟩ := h
  refine wo_alen7 S.1 hw k_2 dX2_copyFrom_7 ?_
  refine lv_icmp_ge (tgt := 28) hx hb dX2_copyFrom_8 (by decide) (fun q_8 => ?_) (fun q_8 => ?_)
  · have h := h.1 q_8
    exact we_v S hw h dX2_copyFrom_28
  · have h := h.2 q_8
    refine lv_aload_n hx hb dX2_copyFrom_11 rfl (lv_at hl 0 rfl) ?_
    refine gf_X2_7 S.1 hw k_0 hy_1 dX2_copyFrom_12 ?_
    refine lv_iload_n hx hb dX2_copyFrom_15 rfl (lv_at hl 2 rfl) ?_
    refine lv_aload_n hx hb dX2_copyFrom_16 rfl (lv_at hl 1 rfl) ?_
    refine lv_iload_n hx hb dX2_copyFrom_17 rfl (lv_at hl 2 rfl) ?_
    obtain ⟨k_3, h⟩ := h
    refine cv_i (As := [.int v2]) (rest := [.int v2, .ref y4_1]) S.1 hw (k_X2_at l E Z M a1 v2 _ h) wv_X2_13 yc_X2_at ⟨rfl, rfl⟩ ⟨Nat.le_of_ble_eq_true rfl, Nat.le_of_ble_eq_true rfl⟩ rfl hl.1 (Nat.le_of_ble_eq_true rfl) (ci := 2) (q := (RX2, TX2, 1)) rfl rfl (by rw [k_3]; decide) (cell_2 k_3) ⟨Nat.le_of_ble_eq_true rfl, Nat.le_of_ble_eq_true rfl⟩ dX2_copyFrom_18 (fun r18 M18 H locs h hw => ?_)
    obtain ⟨i_21, h⟩ := h
    refine wo_iast S.1 hw k_2 i_21 dX2_copyFrom_21 (fun H locs hw => ?_)
    refine lv_iinc (v := (v2 + 1)) (lv' := [(2, .int (v2 + 1)), (0, .ref a0), (1, .ref a1)]) hx hb dX2_copyFrom_22 hl (k := 2) rfl rfl (by decide) rfl (fun ls hl => ?_)
    refine lv_goto (tgt := 2) hx hb dX2_copyFrom_25 (by decide) ?_
    exact (hK2 _ _ _ _ h) H locs ls hw (lv_sub hl [1, 2, 0] rfl)
theorem wL_X2_copyFrom_2 (S : Cx p m c meth cX2_copyFrom 3 s args RX2 (none)) {Q : MM → Prop}   : ∀ (n : Nat) (M : MM) (a0 : Nat) (a1 : Nat) (v2 : Int32), L_X2_copyFrom_2 Z Q  n M a0 a1 v2 → WG p l e rm_X2_copyFrom s m args below meth c 0 0 (MQv below E Z args s Q) E Z M 2 3 [(0, .ref a0), (1, .ref a1), (2, .int v2)] []
  | 0, _, _, _, _, h => False.elim h
  | n + 1, M, a0, a1, v2, h => wB_X2_copyFrom_2 S  (wL_X2_copyFrom_2 S   n) M a0 a1 v2 h
set_option maxRecDepth 100000 in
set_option maxHeartbeats 4000000 in
theorem wB_X2_copyFrom_0 (S : Cx p m c meth cX2_copyFrom 3 s args RX2 (none)) {Q : MM → Prop}   (M : MM) (a0 : Nat) (a1 : Nat) (h : B_X2_copyFrom_0 Z Q  M a0 a1) : WG p l e rm_X2_copyFrom s m args below meth c 0 0 (MQv below E Z args s Q) E Z M 0 3 [(0, .ref a0), (1, .ref a1)] [] := by
  intro H locs ls hw hl
  have hx := S.1.1
  have hb := S.1.2.1
  refine lv_iconst (v := 0) hx hb dX2_copyFrom_0 (by decide) ?_
  refine lv_istore_n (lv' := [(2, .int 0), (0, .ref a0), (1, .ref a1)]) hx hb dX2_copyFrom_1 rfl hl (by decide) rfl (fun ls hl => ?_)
  exact ((Exists.elim h (fun n h => wL_X2_copyFrom_2 S   n _ _ _ _ h))) H locs ls hw (lv_sub hl [1, 2, 0] rfl)
set_option maxRecDepth 100000 in
set_option maxHeartbeats 4000000 in
theorem k_X2_copyFrom (l : Launch) (E : EE) (Z : ZZ) (M : MM) (a0 : Nat) (a1 : Nat) (Q : MM → Prop) (h : P_X2_copyFrom Z M a0 a1 Q) : Ct_v l yX2_copyFrom cX2_copyFrom 3 (none) rm_X2_copyFrom E Z M [.ref a0, .ref a1] Q := by
  refine Met.ofW (cc := cX2_copyFrom) (maxL := 3) (ret := none) (by decide) rfl ?_
  intro p e s m args below meth c s₁ B hml hv
  obtain ⟨rfl, hK, hP, hD, hZ⟩ := hv
  have S : Cx p m c meth cX2_copyFrom 3 s _ RX2 (none) := ⟨⟨B.exec, B.bytes, hml, findClass_of_methodNamed B.named, fun w hw => atoms_spec (ws := ws_ yX2_copyFrom cX2_copyFrom 3 (none)) B.pre w (List.mem_cons_of_mem _ hw)⟩, B.returns, B.notSynchronized⟩
  have hl := lv_entry ([.ref a0, .ref a1]) (n := 3) (Nat.le_of_ble_eq_true rfl)
  rw [lg_entry_eq]
  generalize (lg_sl ([.ref a0, .ref a1]) ++ List.replicate (3 - (lg_sl ([.ref a0, .ref a1])).length) Slot.unset).toArray = ls at hl ⊢
  exact (wB_X2_copyFrom_0 S  M a0 a1 h) s.heap [] ls ⟨hK, hP, hD, va_S.rf, hZ⟩ hl
set_option maxRecDepth 100000 in
set_option maxHeartbeats 4000000 in
theorem wB_X2_fill_2 (S : Cx p m c meth cX2_fill 3 s args RX2 (none)) {Q : MM → Prop} {K2 : MM → Nat → Int32 → Int32 → Prop} (hK2 : ∀ (M : MM) (a0 : Nat) (v1 : Int32) (v2 : Int32), K2 M a0 v1 v2 → WG p l e rm_X2_fill s m args below meth c 0 0 (MQv below E Z args s Q) E Z M 2 3 [(0, .ref a0), (1, .int v1), (2, .int v2)] []) (M : MM) (a0 : Nat) (v1 : Int32) (v2 : Int32) (h : B_X2_fill_2 Z Q K2 M a0 v1 v2) : WG p l e rm_X2_fill s m args below meth c 0 0 (MQv below E Z args s Q) E Z M 2 3 [(0, .ref a0), (1, .int v1), (2, .int v2)] [] := by
  intro H locs ls hw hl
  have hx := S.1.1
  have hb := S.1.2.1
  refine lv_iload_n hx hb dX2_fill_2 rfl (lv_at hl 2 rfl) ?_
  refine lv_aload_n hx hb dX2_fill_3 rfl (lv_at hl 0 rfl) ?_
  obtain ⟨k_0, h⟩ := h
  obtain ⟨y4_1, hy_1, h⟩ := h
  refine gf_X2_7 S.1 hw k_0 hy_1 dX2_fill_4 ?_
  obtain ⟨k_2, h⟩ := h
  refine wo_alen7 S.1 hw k_2 dX2_fill_7 ?_
  refine lv_icmp_ge (tgt := 24) hx hb dX2_fill_8 (by decide) (fun q_8 => ?_) (fun q_8 => ?_)
  · have h := h.1 q_8
    exact we_v S hw h dX2_fill_24
  · have h := h.2 q_8
    refine lv_aload_n hx hb dX2_fill_11 rfl (lv_at hl 0 rfl) ?_
    refine gf_X2_7 S.1 hw k_0 hy_1 dX2_fill_12 ?_
    refine lv_iload_n hx hb dX2_fill_15 rfl (lv_at hl 2 rfl) ?_
    refine lv_iload_n hx hb dX2_fill_16 rfl (lv_at hl 1 rfl) ?_
    obtain ⟨i_17, h⟩ := h
    refine wo_iast S.1 hw k_2 i_17 dX2_fill_17 (fun H locs hw => ?_)
    refine lv_iinc (v := (v2 + 1)) (lv' := [(2, .int (v2 + 1)), (0, .ref a0), (1, .int v1)]) hx hb dX2_fill_18 hl (k := 2) rfl rfl (by decide) rfl (fun ls hl => ?_)
    refine lv_goto (tgt := 2) hx hb dX2_fill_21 (by decide) ?_
    exact (hK2 _ _ _ _ h) H locs ls hw (lv_sub hl [1, 2, 0] rfl)
theorem wL_X2_fill_2 (S : Cx p m c meth cX2_fill 3 s args RX2 (none)) {Q : MM → Prop}   : ∀ (n : Nat) (M : MM) (a0 : Nat) (v1 : Int32) (v2 : Int32), L_X2_fill_2 Z Q  n M a0 v1 v2 → WG p l e rm_X2_fill s m args below meth c 0 0 (MQv below E Z args s Q) E Z M 2 3 [(0, .ref a0), (1, .int v1), (2, .int v2)] []
  | 0, _, _, _, _, h => False.elim h
  | n + 1, M, a0, v1, v2, h => wB_X2_fill_2 S  (wL_X2_fill_2 S   n) M a0 v1 v2 h
set_option maxRecDepth 100000 in
set_option maxHeartbeats 4000000 in
theorem wB_X2_fill_0 (S : Cx p m c meth cX2_fill 3 s args RX2 (none)) {Q : MM → Prop}   (M : MM) (a0 : Nat) (v1 : Int32) (h : B_X2_fill_0 Z Q  M a0 v1) : WG p l e rm_X2_fill s m args below meth c 0 0 (MQv below E Z args s Q) E Z M 0 3 [(0, .ref a0), (1, .int v1)] [] := by
  intro H locs ls hw hl
  have hx := S.1.1
  have hb := S.1.2.1
  refine lv_iconst (v := 0) hx hb dX2_fill_0 (by decide) ?_
  refine lv_istore_n (lv' := [(2, .int 0), (0, .ref a0), (1, .int v1)]) hx hb dX2_fill_1 rfl hl (by decide) rfl (fun ls hl => ?_)
  exact ((Exists.elim h (fun n h => wL_X2_fill_2 S   n _ _ _ _ h))) H locs ls hw (lv_sub hl [1, 2, 0] rfl)
set_option maxRecDepth 100000 in
set_option maxHeartbeats 4000000 in
theorem k_X2_fill (l : Launch) (E : EE) (Z : ZZ) (M : MM) (a0 : Nat) (v1 : Int32) (Q : MM → Prop) (h : P_X2_fill Z M a0 v1 Q) : Ct_v l yX2_fill cX2_fill 3 (none) rm_X2_fill E Z M [.ref a0, .int v1] Q := by
  refine Met.ofW (cc := cX2_fill) (maxL := 3) (ret := none) (by decide) rfl ?_
  intro p e s m args below meth c s₁ B hml hv
  obtain ⟨rfl, hK, hP, hD, hZ⟩ := hv
  have S : Cx p m c meth cX2_fill 3 s _ RX2 (none) := ⟨⟨B.exec, B.bytes, hml, findClass_of_methodNamed B.named, fun w hw => atoms_spec (ws := ws_ yX2_fill cX2_fill 3 (none)) B.pre w (List.mem_cons_of_mem _ hw)⟩, B.returns, B.notSynchronized⟩
  have hl := lv_entry ([.ref a0, .int v1]) (n := 3) (Nat.le_of_ble_eq_true rfl)
  rw [lg_entry_eq]
  generalize (lg_sl ([.ref a0, .int v1]) ++ List.replicate (3 - (lg_sl ([.ref a0, .int v1])).length) Slot.unset).toArray = ls at hl ⊢
  exact (wB_X2_fill_0 S  M a0 v1 h) s.heap [] ls ⟨hK, hP, hD, va_S.rf, hZ⟩ hl
set_option maxRecDepth 100000 in
set_option maxHeartbeats 4000000 in
theorem wB_X2_put_0 (S : Cx p m c meth cX2_put 3 s args RX2 (none)) {Q : MM → Prop}   (M : MM) (a0 : Nat) (v1 : Int32) (v2 : Int32) (h : B_X2_put_0 Z Q  M a0 v1 v2) : WG p l e rm_X2_put s m args below meth c 0 0 (MQv below E Z args s Q) E Z M 0 3 [(0, .ref a0), (1, .int v1), (2, .int v2)] [] := by
  intro H locs ls hw hl
  have hx := S.1.1
  have hb := S.1.2.1
  refine lv_iload_n hx hb dX2_put_0 rfl (lv_at hl 1 rfl) ?_
  refine lv_if_lt (tgt := 20) hx hb dX2_put_1 (by decide) (fun q_1 => ?_) (fun q_1 => ?_)
  · have h := h.1 q_1
    exact we_v S hw h dX2_put_20
  · have h := h.2 q_1
    refine lv_iload_n hx hb dX2_put_4 rfl (lv_at hl 1 rfl) ?_
    refine lv_aload_n hx hb dX2_put_5 rfl (lv_at hl 0 rfl) ?_
    obtain ⟨k_0, h⟩ := h
    obtain ⟨y6_1, hy_1, h⟩ := h
    refine gf_X2_7 S.1 hw k_0 hy_1 dX2_put_6 ?_
    obtain ⟨k_2, h⟩ := h
    refine wo_alen7 S.1 hw k_2 dX2_put_9 ?_
    refine lv_icmp_ge (tgt := 20) hx hb dX2_put_10 (by decide) (fun q_10 => ?_) (fun q_10 => ?_)
    · have h := h.1 q_10
      exact we_v S hw h dX2_put_20
    · have h := h.2 q_10
      refine lv_aload_n hx hb dX2_put_13 rfl (lv_at hl 0 rfl) ?_
      refine gf_X2_7 S.1 hw k_0 hy_1 dX2_put_14 ?_
      refine lv_iload_n hx hb dX2_put_17 rfl (lv_at hl 1 rfl) ?_
      refine lv_iload_n hx hb dX2_put_18 rfl (lv_at hl 2 rfl) ?_
      obtain ⟨i_19, h⟩ := h
      refine wo_iast S.1 hw k_2 i_19 dX2_put_19 (fun H locs hw => ?_)
      exact we_v S hw h dX2_put_20
set_option maxRecDepth 100000 in
set_option maxHeartbeats 4000000 in
theorem k_X2_put (l : Launch) (E : EE) (Z : ZZ) (M : MM) (a0 : Nat) (v1 : Int32) (v2 : Int32) (Q : MM → Prop) (h : P_X2_put Z M a0 v1 v2 Q) : Ct_v l yX2_put cX2_put 3 (none) rm_X2_put E Z M [.ref a0, .int v1, .int v2] Q := by
  refine Met.ofW (cc := cX2_put) (maxL := 3) (ret := none) (by decide) rfl ?_
  intro p e s m args below meth c s₁ B hml hv
  obtain ⟨rfl, hK, hP, hD, hZ⟩ := hv
  have S : Cx p m c meth cX2_put 3 s _ RX2 (none) := ⟨⟨B.exec, B.bytes, hml, findClass_of_methodNamed B.named, fun w hw => atoms_spec (ws := ws_ yX2_put cX2_put 3 (none)) B.pre w (List.mem_cons_of_mem _ hw)⟩, B.returns, B.notSynchronized⟩
  have hl := lv_entry ([.ref a0, .int v1, .int v2]) (n := 3) (Nat.le_of_ble_eq_true rfl)
  rw [lg_entry_eq]
  generalize (lg_sl ([.ref a0, .int v1, .int v2]) ++ List.replicate (3 - (lg_sl ([.ref a0, .int v1, .int v2])).length) Slot.unset).toArray = ls at hl ⊢
  exact (wB_X2_put_0 S  M a0 v1 v2 h) s.heap [] ls ⟨hK, hP, hD, va_S.rf, hZ⟩ hl
set_option maxRecDepth 100000 in
set_option maxHeartbeats 4000000 in
theorem wB_X2_sum_4 (S : Cx p m c meth cX2_sum 3 s args RX2 (some .int)) {Q : Int32 → MM → Prop} {K4 : MM → Nat → Int32 → Int32 → Prop} (hK4 : ∀ (M : MM) (a0 : Nat) (v1 : Int32) (v2 : Int32), K4 M a0 v1 v2 → WG p l e rm_X2_sum s m args below meth c 0 0 (MQi below E Z args s Q) E Z M 4 3 [(0, .ref a0), (1, .int v1), (2, .int v2)] []) (M : MM) (a0 : Nat) (v1 : Int32) (v2 : Int32) (h : B_X2_sum_4 Z Q K4 M a0 v1 v2) : WG p l e rm_X2_sum s m args below meth c 0 0 (MQi below E Z args s Q) E Z M 4 3 [(0, .ref a0), (1, .int v1), (2, .int v2)] [] := by
  intro H locs ls hw hl
  have hx := S.1.1
  have hb := S.1.2.1
  refine lv_iload_n hx hb dX2_sum_4 rfl (lv_at hl 2 rfl) ?_
  refine lv_aload_n hx hb dX2_sum_5 rfl (lv_at hl 0 rfl) ?_
  obtain ⟨k_0, h⟩ := h
  obtain ⟨y6_1, hy_1, h⟩ := h
  refine gf_X2_7 S.1 hw k_0 hy_1 dX2_sum_6 ?_
  obtain ⟨k_2, h⟩ := h
  refine wo_alen7 S.1 hw k_2 dX2_sum_9 ?_
  refine lv_icmp_ge (tgt := 28) hx hb dX2_sum_10 (by decide) (fun q_10 => ?_) (fun q_10 => ?_)
  · have h := h.1 q_10
    refine lv_iload_n hx hb dX2_sum_28 rfl (lv_at hl 1 rfl) ?_
    exact we_i S hw h dX2_sum_29
  · have h := h.2 q_10
    refine lv_iload_n hx hb dX2_sum_13 rfl (lv_at hl 1 rfl) ?_
    refine lv_aload_n hx hb dX2_sum_14 rfl (lv_at hl 0 rfl) ?_
    refine gf_X2_7 S.1 hw k_0 hy_1 dX2_sum_15 ?_
    refine lv_iload_n hx hb dX2_sum_18 rfl (lv_at hl 2 rfl) ?_
    obtain ⟨i_19, h⟩ := h
    refine wo_iald S.1 hw k_2 i_19 dX2_sum_19 ?_
    refine lv_iadd hx hb dX2_sum_20 ?_
    refine lv_istore_n (lv' := [(1, .int (v1 + (mA M y6_1 v2.toNatClampNeg))), (0, .ref a0), (2, .int v2)]) hx hb dX2_sum_21 rfl hl (by decide) rfl (fun ls hl => ?_)
    refine lv_iinc (v := (v2 + 1)) (lv' := [(2, .int (v2 + 1)), (1, .int (v1 + (mA M y6_1 v2.toNatClampNeg))), (0, .ref a0)]) hx hb dX2_sum_22 hl (k := 2) rfl rfl (by decide) rfl (fun ls hl => ?_)
    refine lv_goto (tgt := 4) hx hb dX2_sum_25 (by decide) ?_
    exact (hK4 _ _ _ _ h) H locs ls hw (lv_sub hl [2, 1, 0] rfl)
theorem wL_X2_sum_4 (S : Cx p m c meth cX2_sum 3 s args RX2 (some .int)) {Q : Int32 → MM → Prop}   : ∀ (n : Nat) (M : MM) (a0 : Nat) (v1 : Int32) (v2 : Int32), L_X2_sum_4 Z Q  n M a0 v1 v2 → WG p l e rm_X2_sum s m args below meth c 0 0 (MQi below E Z args s Q) E Z M 4 3 [(0, .ref a0), (1, .int v1), (2, .int v2)] []
  | 0, _, _, _, _, h => False.elim h
  | n + 1, M, a0, v1, v2, h => wB_X2_sum_4 S  (wL_X2_sum_4 S   n) M a0 v1 v2 h
set_option maxRecDepth 100000 in
set_option maxHeartbeats 4000000 in
theorem wB_X2_sum_0 (S : Cx p m c meth cX2_sum 3 s args RX2 (some .int)) {Q : Int32 → MM → Prop}   (M : MM) (a0 : Nat) (h : B_X2_sum_0 Z Q  M a0) : WG p l e rm_X2_sum s m args below meth c 0 0 (MQi below E Z args s Q) E Z M 0 3 [(0, .ref a0)] [] := by
  intro H locs ls hw hl
  have hx := S.1.1
  have hb := S.1.2.1
  refine lv_iconst (v := 0) hx hb dX2_sum_0 (by decide) ?_
  refine lv_istore_n (lv' := [(1, .int 0), (0, .ref a0)]) hx hb dX2_sum_1 rfl hl (by decide) rfl (fun ls hl => ?_)
  refine lv_iconst (v := 0) hx hb dX2_sum_2 (by decide) ?_
  refine lv_istore_n (lv' := [(2, .int 0), (1, .int 0), (0, .ref a0)]) hx hb dX2_sum_3 rfl hl (by decide) rfl (fun ls hl => ?_)
  exact ((Exists.elim h (fun n h => wL_X2_sum_4 S   n _ _ _ _ h))) H locs ls hw (lv_sub hl [2, 1, 0] rfl)
set_option maxRecDepth 100000 in
set_option maxHeartbeats 4000000 in
theorem k_X2_sum (l : Launch) (E : EE) (Z : ZZ) (M : MM) (a0 : Nat) (Q : Int32 → MM → Prop) (h : P_X2_sum Z M a0 Q) : Ct_i l yX2_sum cX2_sum 3 (some .int) rm_X2_sum E Z M [.ref a0] Q := by
  refine Met.ofW (cc := cX2_sum) (maxL := 3) (ret := some .int) (by decide) rfl ?_
  intro p e s m args below meth c s₁ B hml hv
  obtain ⟨rfl, hK, hP, hD, hZ⟩ := hv
  have S : Cx p m c meth cX2_sum 3 s _ RX2 (some .int) := ⟨⟨B.exec, B.bytes, hml, findClass_of_methodNamed B.named, fun w hw => atoms_spec (ws := ws_ yX2_sum cX2_sum 3 (some .int)) B.pre w (List.mem_cons_of_mem _ hw)⟩, B.returns, B.notSynchronized⟩
  have hl := lv_entry ([.ref a0]) (n := 3) (Nat.le_of_ble_eq_true rfl)
  rw [lg_entry_eq]
  generalize (lg_sl ([.ref a0]) ++ List.replicate (3 - (lg_sl ([.ref a0])).length) Slot.unset).toArray = ls at hl ⊢
  exact (wB_X2_sum_0 S  M a0 h) s.heap [] ls ⟨hK, hP, hD, va_S.rf, hZ⟩ hl
