variable {p : Program} {l : Launch} {e : Env} {s : State} {m : MethodId} {args : Array Value} {below : List Frame} {meth : Method} {c : Code} {E : EE} {Z : ZZ}
set_option maxRecDepth 100000 in
set_option maxHeartbeats 4000000 in
theorem wB_X6_thrown_0 (S : Cx p m c meth cX6_thrown 1 s args RX6 (some .int)) {Q : Int32 → MM → Prop}   (M : MM) (a0 : Nat) (h : B_X6_thrown_0 Z Q  M a0) : WG p l e rm_X6_thrown s m args below meth c 0 0 (MQi below E Z args s Q) E Z M 0 1 [(0, .ref a0)] [] := by
  intro H locs ls hw hl
  have hx := S.1.1
  have hb := S.1.2.1
  refine lv_aload_n hx hb dX6_thrown_0 rfl (lv_at hl 0 rfl) ?_
  obtain ⟨k_0, h⟩ := h
  refine gf_X6_38 S.1 hw k_0 dX6_thrown_1 ?_
  exact we_i S hw h dX6_thrown_4
set_option maxRecDepth 100000 in
set_option maxHeartbeats 4000000 in
theorem k_X6_thrown (l : Launch) (E : EE) (Z : ZZ) (M : MM) (a0 : Nat) (Q : Int32 → MM → Prop) (h : P_X6_thrown Z M a0 Q) : Ct_i l yX6_thrown cX6_thrown 1 (some .int) rm_X6_thrown E Z M [.ref a0] Q := by
  refine Met.ofW (cc := cX6_thrown) (maxL := 1) (ret := some .int) (by decide) rfl ?_
  intro p e s m args below meth c s₁ B hml hv
  obtain ⟨rfl, hK, hP, hD, hZ⟩ := hv
  have S : Cx p m c meth cX6_thrown 1 s _ RX6 (some .int) := ⟨⟨B.exec, B.bytes, hml, findClass_of_methodNamed B.named, fun w hw => atoms_spec (ws := ws_ yX6_thrown cX6_thrown 1 (some .int)) B.pre w (List.mem_cons_of_mem _ hw)⟩, B.returns, B.notSynchronized⟩
  have hl := lv_entry ([.ref a0]) (n := 1) (Nat.le_of_ble_eq_true rfl)
  rw [lg_entry_eq]
  generalize (lg_sl ([.ref a0]) ++ List.replicate (1 - (lg_sl ([.ref a0])).length) Slot.unset).toArray = ls at hl ⊢
  exact (wB_X6_thrown_0 S  M a0 h) s.heap [] ls ⟨hK, hP, hD, va_S.rf, hZ⟩ hl
set_option maxRecDepth 100000 in
set_option maxHeartbeats 4000000 in
theorem wB_X6_in_0 (S : Cx p m c meth cX6_in 6 s args RX6 (some .boolean)) {Q : Int32 → MM → Prop}   (M : MM) (v0 : Int64) (v2 : Int64) (v4 : Int64) (h : B_X6_in_0 Z Q  M v0 v2 v4) : WG p l e rm_X6_in s m args below meth c 0 0 (MQi below E Z args s Q) E Z M 0 6 [(0, .long v0), (2, .long v2), (4, .long v4)] [] := by
  intro H locs ls hw hl
  have hx := S.1.1
  have hb := S.1.2.1
  refine lv_lload_n hx hb dX6_in_0 rfl (lv_at hl 0 rfl) ?_
  refine lv_lload_n hx hb dX6_in_1 rfl (lv_at hl 1 rfl) ?_
  refine W.lcmp hx hb dX6_in_2 ?_
  refine lv_if_lt (tgt := 17) hx hb dX6_in_3 (by decide) (fun q_3 => ?_) (fun q_3 => ?_)
  · have h := h.1 q_3
    refine lv_iconst (v := 0) hx hb dX6_in_17 (by decide) ?_
    exact we_z S hw rfl (by rfl) h dX6_in_18
  · have h := h.2 q_3
    refine lv_lload_n hx hb dX6_in_6 rfl (lv_at hl 0 rfl) ?_
    refine lv_lload hx hb dX6_in_7 (lv_at hl 2 rfl) ?_
    refine W.lcmp hx hb dX6_in_9 ?_
    refine lv_if_gt (tgt := 17) hx hb dX6_in_10 (by decide) (fun q_10 => ?_) (fun q_10 => ?_)
    · have h := h.1 q_10
      refine lv_iconst (v := 0) hx hb dX6_in_17 (by decide) ?_
      exact we_z S hw rfl (by rfl) h dX6_in_18
    · have h := h.2 q_10
      refine lv_iconst (v := 1) hx hb dX6_in_13 (by decide) ?_
      refine lv_goto (tgt := 18) hx hb dX6_in_14 (by decide) ?_
      exact we_z S hw rfl (by rfl) h dX6_in_18
set_option maxRecDepth 100000 in
set_option maxHeartbeats 4000000 in
theorem k_X6_in (l : Launch) (E : EE) (Z : ZZ) (M : MM) (v0 : Int64) (v2 : Int64) (v4 : Int64) (Q : Int32 → MM → Prop) (h : P_X6_in Z M v0 v2 v4 Q) : Ct_i l yX6_in cX6_in 6 (some .boolean) rm_X6_in E Z M [.long v0, .long v2, .long v4] Q := by
  refine Met.ofW (cc := cX6_in) (maxL := 6) (ret := some .boolean) (by decide) rfl ?_
  intro p e s m args below meth c s₁ B hml hv
  obtain ⟨rfl, hK, hP, hD, hZ⟩ := hv
  have S : Cx p m c meth cX6_in 6 s _ RX6 (some .boolean) := ⟨⟨B.exec, B.bytes, hml, findClass_of_methodNamed B.named, fun w hw => atoms_spec (ws := ws_ yX6_in cX6_in 6 (some .boolean)) B.pre w (List.mem_cons_of_mem _ hw)⟩, B.returns, B.notSynchronized⟩
  have hl := lv_entry ([.long v0, .long v2, .long v4]) (n := 6) (Nat.le_of_ble_eq_true rfl)
  rw [lg_entry_eq]
  generalize (lg_sl ([.long v0, .long v2, .long v4]) ++ List.replicate (6 - (lg_sl ([.long v0, .long v2, .long v4])).length) Slot.unset).toArray = ls at hl ⊢
  exact (wB_X6_in_0 S  M v0 v2 v4 h) s.heap [] ls ⟨hK, hP, hD, va_S.rf, hZ⟩ hl
set_option maxRecDepth 100000 in
set_option maxHeartbeats 4000000 in
theorem wB_X6_fine_0 (S : Cx p m c meth cX6_fine 2 s args RX6 (some .int)) {Q : Int32 → MM → Prop}   (M : MM) (a0 : Nat) (v1 : Int32) (h : B_X6_fine_0 Z Q  M a0 v1) : WG p l e rm_X6_fine s m args below meth c 0 0 (MQi below E Z args s Q) E Z M 0 2 [(0, .ref a0), (1, .int v1)] [] := by
  intro H locs ls hw hl
  have hx := S.1.1
  have hb := S.1.2.1
  refine lv_aload_n hx hb dX6_fine_0 rfl (lv_at hl 0 rfl) ?_
  refine lv_iconst (v := 0) hx hb dX6_fine_1 (by decide) ?_
  obtain ⟨k_0, h⟩ := h
  refine pf_X6_38 S.1 hw k_0 dX6_fine_2 (fun H locs hw => ?_)
  refine lv_iload_n hx hb dX6_fine_5 rfl (lv_at hl 1 rfl) ?_
  exact we_i S hw h dX6_fine_6
set_option maxRecDepth 100000 in
set_option maxHeartbeats 4000000 in
theorem k_X6_fine (l : Launch) (E : EE) (Z : ZZ) (M : MM) (a0 : Nat) (v1 : Int32) (Q : Int32 → MM → Prop) (h : P_X6_fine Z M a0 v1 Q) : Ct_i l yX6_fine cX6_fine 2 (some .int) rm_X6_fine E Z M [.ref a0, .int v1] Q := by
  refine Met.ofW (cc := cX6_fine) (maxL := 2) (ret := some .int) (by decide) rfl ?_
  intro p e s m args below meth c s₁ B hml hv
  obtain ⟨rfl, hK, hP, hD, hZ⟩ := hv
  have S : Cx p m c meth cX6_fine 2 s _ RX6 (some .int) := ⟨⟨B.exec, B.bytes, hml, findClass_of_methodNamed B.named, fun w hw => atoms_spec (ws := ws_ yX6_fine cX6_fine 2 (some .int)) B.pre w (List.mem_cons_of_mem _ hw)⟩, B.returns, B.notSynchronized⟩
  have hl := lv_entry ([.ref a0, .int v1]) (n := 2) (Nat.le_of_ble_eq_true rfl)
  rw [lg_entry_eq]
  generalize (lg_sl ([.ref a0, .int v1]) ++ List.replicate (2 - (lg_sl ([.ref a0, .int v1])).length) Slot.unset).toArray = ls at hl ⊢
  exact (wB_X6_fine_0 S  M a0 v1 h) s.heap [] ls ⟨hK, hP, hD, va_S.rf, hZ⟩ hl
set_option maxRecDepth 100000 in
set_option maxHeartbeats 4000000 in
theorem wB_X6_throwing_0 (S : Cx p m c meth cX6_throwing 2 s args RX6 (some .int)) {Q : Int32 → MM → Prop}   (M : MM) (a0 : Nat) (v1 : Int32) (h : B_X6_throwing_0 Z Q  M a0 v1) : WG p l e rm_X6_throwing s m args below meth c 0 0 (MQi below E Z args s Q) E Z M 0 2 [(0, .ref a0), (1, .int v1)] [] := by
  intro H locs ls hw hl
  have hx := S.1.1
  have hb := S.1.2.1
  refine lv_aload_n hx hb dX6_throwing_0 rfl (lv_at hl 0 rfl) ?_
  refine lv_iload_n hx hb dX6_throwing_1 rfl (lv_at hl 1 rfl) ?_
  obtain ⟨k_0, h⟩ := h
  refine pf_X6_38 S.1 hw k_0 dX6_throwing_2 (fun H locs hw => ?_)
  refine lv_iconst (v := 0) hx hb dX6_throwing_5 (by decide) ?_
  exact we_i S hw h dX6_throwing_6
set_option maxRecDepth 100000 in
set_option maxHeartbeats 4000000 in
theorem k_X6_throwing (l : Launch) (E : EE) (Z : ZZ) (M : MM) (a0 : Nat) (v1 : Int32) (Q : Int32 → MM → Prop) (h : P_X6_throwing Z M a0 v1 Q) : Ct_i l yX6_throwing cX6_throwing 2 (some .int) rm_X6_throwing E Z M [.ref a0, .int v1] Q := by
  refine Met.ofW (cc := cX6_throwing) (maxL := 2) (ret := some .int) (by decide) rfl ?_
  intro p e s m args below meth c s₁ B hml hv
  obtain ⟨rfl, hK, hP, hD, hZ⟩ := hv
  have S : Cx p m c meth cX6_throwing 2 s _ RX6 (some .int) := ⟨⟨B.exec, B.bytes, hml, findClass_of_methodNamed B.named, fun w hw => atoms_spec (ws := ws_ yX6_throwing cX6_throwing 2 (some .int)) B.pre w (List.mem_cons_of_mem _ hw)⟩, B.returns, B.notSynchronized⟩
  have hl := lv_entry ([.ref a0, .int v1]) (n := 2) (Nat.le_of_ble_eq_true rfl)
  rw [lg_entry_eq]
  generalize (lg_sl ([.ref a0, .int v1]) ++ List.replicate (2 - (lg_sl ([.ref a0, .int v1])).length) Slot.unset).toArray = ls at hl ⊢
  exact (wB_X6_throwing_0 S  M a0 v1 h) s.heap [] ls ⟨hK, hP, hD, va_S.rf, hZ⟩ hl
set_option maxRecDepth 100000 in
set_option maxHeartbeats 4000000 in
theorem wB_X6_save_10 (S : Cx p m c meth cX6_save 2 s args RX6 (none)) {Q : MM → Prop} {K10 : MM → Nat → Int32 → Prop} {K49 : MM → Nat → Prop} (hK10 : ∀ (M : MM) (a0 : Nat) (v1 : Int32), K10 M a0 v1 → WG p l e rm_X6_save s m args below meth c 0 0 (MQv below E Z args s Q) E Z M 10 2 [(0, .ref a0), (1, .int v1)] []) (hK49 : ∀ (M : MM) (a0 : Nat), K49 M a0 → WG p l e rm_X6_save s m args below meth c 0 0 (MQv below E Z args s Q) E Z M 49 2 [(0, .ref a0)] []) (M : MM) (a0 : Nat) (v1 : Int32) (h : B_X6_save_10 Z Q K10 K49 M a0 v1) : WG p l e rm_X6_save s m args below meth c 0 0 (MQv below E Z args s Q) E Z M 10 2 [(0, .ref a0), (1, .int v1)] [] := by
  intro H locs ls hw hl
  have hx := S.1.1
  have hb := S.1.2.1
  refine lv_iload_n hx hb dX6_save_10 rfl (lv_at hl 1 rfl) ?_
  refine lv_sipush (v := 678) hx hb dX6_save_11 (by decide) ?_
  refine lv_icmp_ge (tgt := 39) hx hb dX6_save_14 (by decide) (fun q_14 => ?_) (fun q_14 => ?_)
  · have h := h.1 q_14
    refine lv_aload_n hx hb dX6_save_39 rfl (lv_at hl 0 rfl) ?_
    refine lv_dup hx hb dX6_save_40 rfl ?_
    obtain ⟨k_0, h⟩ := h
    refine gf_X6_42 S.1 hw k_0 dX6_save_41 ?_
    refine lv_iconst (v := 1) hx hb dX6_save_44 (by decide) ?_
    refine lv_isub hx hb dX6_save_45 ?_
    refine pf_X6_42 S.1 hw k_0 dX6_save_46 (fun H locs hw => ?_)
    exact (hK49 _ _ h) H locs ls hw (lv_sub hl [0] rfl)
  · have h := h.2 q_14
    refine lv_aload_n hx hb dX6_save_17 rfl (lv_at hl 0 rfl) ?_
    obtain ⟨k_1, h⟩ := h
    obtain ⟨y18_2, hy_2, h⟩ := h
    refine gf_X6_13 S.1 hw k_1 hy_2 dX6_save_18 ?_
    refine lv_iload_n hx hb dX6_save_21 rfl (lv_at hl 1 rfl) ?_
    refine lv_aload_n hx hb dX6_save_22 rfl (lv_at hl 0 rfl) ?_
    refine gf_X6_13 S.1 hw k_1 hy_2 dX6_save_23 ?_
    refine lv_iload_n hx hb dX6_save_26 rfl (lv_at hl 1 rfl) ?_
    refine lv_sipush (v := 226) hx hb dX6_save_27 (by decide) ?_
    refine lv_iadd hx hb dX6_save_30 ?_
    obtain ⟨k_3, h⟩ := h
    obtain ⟨i_31, h⟩ := h
    refine wo_iald S.1 hw k_3 i_31 dX6_save_31 ?_
    obtain ⟨i_32, h⟩ := h
    refine wo_iast S.1 hw k_3 i_32 dX6_save_32 (fun H locs hw => ?_)
    refine lv_iinc (v := (v1 + 1)) (lv' := [(1, .int (v1 + 1)), (0, .ref a0)]) hx hb dX6_save_33 hl (k := 1) rfl rfl (by decide) rfl (fun ls hl => ?_)
    refine lv_goto (tgt := 10) hx hb dX6_save_36 (by decide) ?_
    exact (hK10 _ _ _ h) H locs ls hw (lv_sub hl [1, 0] rfl)
theorem wL_X6_save_10 (S : Cx p m c meth cX6_save 2 s args RX6 (none)) {Q : MM → Prop} {K49 : MM → Nat → Prop} (hK49 : ∀ (M : MM) (a0 : Nat), K49 M a0 → WG p l e rm_X6_save s m args below meth c 0 0 (MQv below E Z args s Q) E Z M 49 2 [(0, .ref a0)] []) : ∀ (n : Nat) (M : MM) (a0 : Nat) (v1 : Int32), L_X6_save_10 Z Q  K49 n M a0 v1 → WG p l e rm_X6_save s m args below meth c 0 0 (MQv below E Z args s Q) E Z M 10 2 [(0, .ref a0), (1, .int v1)] []
  | 0, _, _, _, h => False.elim h
  | n + 1, M, a0, v1, h => wB_X6_save_10 S  (wL_X6_save_10 S  hK49 n) hK49 M a0 v1 h
set_option maxRecDepth 100000 in
set_option maxHeartbeats 4000000 in
theorem wB_X6_save_51 (S : Cx p m c meth cX6_save 2 s args RX6 (none)) {Q : MM → Prop} {K51 : MM → Nat → Int32 → Prop} (hK51 : ∀ (M : MM) (a0 : Nat) (v1 : Int32), K51 M a0 v1 → WG p l e rm_X6_save s m args below meth c 0 0 (MQv below E Z args s Q) E Z M 51 2 [(0, .ref a0), (1, .int v1)] []) (M : MM) (a0 : Nat) (v1 : Int32) (h : B_X6_save_51 Z Q K51 M a0 v1) : WG p l e rm_X6_save s m args below meth c 0 0 (MQv below E Z args s Q) E Z M 51 2 [(0, .ref a0), (1, .int v1)] [] := by
  intro H locs ls hw hl
  have hx := S.1.1
  have hb := S.1.2.1
  refine lv_iload_n hx hb dX6_save_51 rfl (lv_at hl 1 rfl) ?_
  refine lv_sipush (v := 226) hx hb dX6_save_52 (by decide) ?_
  refine lv_icmp_ge (tgt := 85) hx hb dX6_save_55 (by decide) (fun q_55 => ?_) (fun q_55 => ?_)
  · have h := h.1 q_55
    refine lv_aload_n hx hb dX6_save_85 rfl (lv_at hl 0 rfl) ?_
    refine lv_dup hx hb dX6_save_86 rfl ?_
    obtain ⟨k_0, h⟩ := h
    refine gf_X6_42 S.1 hw k_0 dX6_save_87 ?_
    refine lv_iconst (v := 1) hx hb dX6_save_90 (by decide) ?_
    refine lv_iadd hx hb dX6_save_91 ?_
    refine pf_X6_42 S.1 hw k_0 dX6_save_92 (fun H locs hw => ?_)
    exact we_v S hw h dX6_save_95
  · have h := h.2 q_55
    refine lv_aload_n hx hb dX6_save_58 rfl (lv_at hl 0 rfl) ?_
    obtain ⟨k_1, h⟩ := h
    obtain ⟨y59_2, hy_2, h⟩ := h
    refine gf_X6_13 S.1 hw k_1 hy_2 dX6_save_59 ?_
    refine lv_sipush (v := 226) hx hb dX6_save_62 (by decide) ?_
    refine lv_aload_n hx hb dX6_save_65 rfl (lv_at hl 0 rfl) ?_
    refine gf_X6_42 S.1 hw k_1 dX6_save_66 ?_
    refine lv_imul hx hb dX6_save_69 ?_
    refine lv_iload_n hx hb dX6_save_70 rfl (lv_at hl 1 rfl) ?_
    refine lv_iadd hx hb dX6_save_71 ?_
    refine lv_aload_n hx hb dX6_save_72 rfl (lv_at hl 0 rfl) ?_
    obtain ⟨y73_3, hy_3, h⟩ := h
    refine gf_X6_7 S.1 hw k_1 hy_3 dX6_save_73 ?_
    refine lv_iload_n hx hb dX6_save_76 rfl (lv_at hl 1 rfl) ?_
    obtain ⟨k_4, h⟩ := h
    obtain ⟨i_77, h⟩ := h
    refine wo_iald S.1 hw k_4 i_77 dX6_save_77 ?_
    obtain ⟨k_5, h⟩ := h
    obtain ⟨i_78, h⟩ := h
    refine wo_iast S.1 hw k_5 i_78 dX6_save_78 (fun H locs hw => ?_)
    refine lv_iinc (v := (v1 + 1)) (lv' := [(1, .int (v1 + 1)), (0, .ref a0)]) hx hb dX6_save_79 hl (k := 1) rfl rfl (by decide) rfl (fun ls hl => ?_)
    refine lv_goto (tgt := 51) hx hb dX6_save_82 (by decide) ?_
    exact (hK51 _ _ _ h) H locs ls hw (lv_sub hl [1, 0] rfl)
theorem wL_X6_save_51 (S : Cx p m c meth cX6_save 2 s args RX6 (none)) {Q : MM → Prop}   : ∀ (n : Nat) (M : MM) (a0 : Nat) (v1 : Int32), L_X6_save_51 Z Q   n M a0 v1 → WG p l e rm_X6_save s m args below meth c 0 0 (MQv below E Z args s Q) E Z M 51 2 [(0, .ref a0), (1, .int v1)] []
  | 0, _, _, _, h => False.elim h
  | n + 1, M, a0, v1, h => wB_X6_save_51 S  (wL_X6_save_51 S   n) M a0 v1 h
set_option maxRecDepth 100000 in
set_option maxHeartbeats 4000000 in
theorem wB_X6_save_49 (S : Cx p m c meth cX6_save 2 s args RX6 (none)) {Q : MM → Prop}   (M : MM) (a0 : Nat) (h : B_X6_save_49 Z Q  M a0) : WG p l e rm_X6_save s m args below meth c 0 0 (MQv below E Z args s Q) E Z M 49 2 [(0, .ref a0)] [] := by
  intro H locs ls hw hl
  have hx := S.1.1
  have hb := S.1.2.1
  refine lv_iconst (v := 0) hx hb dX6_save_49 (by decide) ?_
  refine lv_istore_n (lv' := [(1, .int 0), (0, .ref a0)]) hx hb dX6_save_50 rfl hl (by decide) rfl (fun ls hl => ?_)
  exact ((Exists.elim h (fun n h => wL_X6_save_51 S   n _ _ _ h))) H locs ls hw (lv_sub hl [1, 0] rfl)
set_option maxRecDepth 100000 in
set_option maxHeartbeats 4000000 in
theorem wB_X6_save_0 (S : Cx p m c meth cX6_save 2 s args RX6 (none)) {Q : MM → Prop}   (M : MM) (a0 : Nat) (h : B_X6_save_0 Z Q  M a0) : WG p l e rm_X6_save s m args below meth c 0 0 (MQv below E Z args s Q) E Z M 0 2 [(0, .ref a0)] [] := by
  intro H locs ls hw hl
  have hx := S.1.1
  have hb := S.1.2.1
  refine lv_aload_n hx hb dX6_save_0 rfl (lv_at hl 0 rfl) ?_
  obtain ⟨k_0, h⟩ := h
  refine gf_X6_42 S.1 hw k_0 dX6_save_1 ?_
  refine lv_iconst (v := 4) hx hb dX6_save_4 (by decide) ?_
  refine lv_icmp_ne (tgt := 49) hx hb dX6_save_5 (by decide) (fun q_5 => ?_) (fun q_5 => ?_)
  · have h := h.1 q_5
    exact ((wB_X6_save_49 S   _ _ h)) H locs ls hw (lv_sub hl [0] rfl)
  · have h := h.2 q_5
    refine lv_iconst (v := 0) hx hb dX6_save_8 (by decide) ?_
    refine lv_istore_n (lv' := [(1, .int 0), (0, .ref a0)]) hx hb dX6_save_9 rfl hl (by decide) rfl (fun ls hl => ?_)
    exact ((Exists.elim h (fun n h => wL_X6_save_10 S  (fun M1 a0 h => (wB_X6_save_49 S   _ _ h)) n _ _ _ h))) H locs ls hw (lv_sub hl [1, 0] rfl)
set_option maxRecDepth 100000 in
set_option maxHeartbeats 4000000 in
theorem k_X6_save (l : Launch) (E : EE) (Z : ZZ) (M : MM) (a0 : Nat) (Q : MM → Prop) (h : P_X6_save Z M a0 Q) : Ct_v l yX6_save cX6_save 2 (none) rm_X6_save E Z M [.ref a0] Q := by
  refine Met.ofW (cc := cX6_save) (maxL := 2) (ret := none) (by decide) rfl ?_
  intro p e s m args below meth c s₁ B hml hv
  obtain ⟨rfl, hK, hP, hD, hZ⟩ := hv
  have S : Cx p m c meth cX6_save 2 s _ RX6 (none) := ⟨⟨B.exec, B.bytes, hml, findClass_of_methodNamed B.named, fun w hw => atoms_spec (ws := ws_ yX6_save cX6_save 2 (none)) B.pre w (List.mem_cons_of_mem _ hw)⟩, B.returns, B.notSynchronized⟩
  have hl := lv_entry ([.ref a0]) (n := 2) (Nat.le_of_ble_eq_true rfl)
  rw [lg_entry_eq]
  generalize (lg_sl ([.ref a0]) ++ List.replicate (2 - (lg_sl ([.ref a0])).length) Slot.unset).toArray = ls at hl ⊢
  exact (wB_X6_save_0 S  M a0 h) s.heap [] ls ⟨hK, hP, hD, va_S.rf, hZ⟩ hl
set_option maxRecDepth 100000 in
set_option maxHeartbeats 4000000 in
theorem wB_X6_laysAside_2 (S : Cx p m c meth cX6_laysAside 2 s args RX6 (none)) {Q : MM → Prop} {K2 : MM → Nat → Int32 → Prop} (hK2 : ∀ (M : MM) (a0 : Nat) (v1 : Int32), K2 M a0 v1 → WG p l e rm_X6_laysAside s m args below meth c 0 0 (MQv below E Z args s Q) E Z M 2 2 [(0, .ref a0), (1, .int v1)] []) (M : MM) (a0 : Nat) (v1 : Int32) (h : B_X6_laysAside_2 Z Q K2 M a0 v1) : WG p l e rm_X6_laysAside s m args below meth c 0 0 (MQv below E Z args s Q) E Z M 2 2 [(0, .ref a0), (1, .int v1)] [] := by
  intro H locs ls hw hl
  have hx := S.1.1
  have hb := S.1.2.1
  refine lv_iload_n hx hb dX6_laysAside_2 rfl (lv_at hl 1 rfl) ?_
  refine lv_sipush (v := 226) hx hb dX6_laysAside_3 (by decide) ?_
  refine lv_icmp_ge (tgt := 27) hx hb dX6_laysAside_6 (by decide) (fun q_6 => ?_) (fun q_6 => ?_)
  · have h := h.1 q_6
    exact we_v S hw h dX6_laysAside_27
  · have h := h.2 q_6
    refine lv_aload_n hx hb dX6_laysAside_9 rfl (lv_at hl 0 rfl) ?_
    obtain ⟨k_0, h⟩ := h
    obtain ⟨y10_1, hy_1, h⟩ := h
    refine gf_X6_16 S.1 hw k_0 hy_1 dX6_laysAside_10 ?_
    refine lv_iload_n hx hb dX6_laysAside_13 rfl (lv_at hl 1 rfl) ?_
    refine lv_aload_n hx hb dX6_laysAside_14 rfl (lv_at hl 0 rfl) ?_
    obtain ⟨y15_2, hy_2, h⟩ := h
    refine gf_X6_7 S.1 hw k_0 hy_2 dX6_laysAside_15 ?_
    refine lv_iload_n hx hb dX6_laysAside_18 rfl (lv_at hl 1 rfl) ?_
    obtain ⟨k_3, h⟩ := h
    obtain ⟨i_19, h⟩ := h
    refine wo_iald S.1 hw k_3 i_19 dX6_laysAside_19 ?_
    obtain ⟨k_4, h⟩ := h
    obtain ⟨i_20, h⟩ := h
    refine wo_iast S.1 hw k_4 i_20 dX6_laysAside_20 (fun H locs hw => ?_)
    refine lv_iinc (v := (v1 + 1)) (lv' := [(1, .int (v1 + 1)), (0, .ref a0)]) hx hb dX6_laysAside_21 hl (k := 1) rfl rfl (by decide) rfl (fun ls hl => ?_)
    refine lv_goto (tgt := 2) hx hb dX6_laysAside_24 (by decide) ?_
    exact (hK2 _ _ _ h) H locs ls hw (lv_sub hl [1, 0] rfl)
theorem wL_X6_laysAside_2 (S : Cx p m c meth cX6_laysAside 2 s args RX6 (none)) {Q : MM → Prop}   : ∀ (n : Nat) (M : MM) (a0 : Nat) (v1 : Int32), L_X6_laysAside_2 Z Q   n M a0 v1 → WG p l e rm_X6_laysAside s m args below meth c 0 0 (MQv below E Z args s Q) E Z M 2 2 [(0, .ref a0), (1, .int v1)] []
  | 0, _, _, _, h => False.elim h
  | n + 1, M, a0, v1, h => wB_X6_laysAside_2 S  (wL_X6_laysAside_2 S   n) M a0 v1 h
set_option maxRecDepth 100000 in
set_option maxHeartbeats 4000000 in
theorem wB_X6_laysAside_0 (S : Cx p m c meth cX6_laysAside 2 s args RX6 (none)) {Q : MM → Prop}   (M : MM) (a0 : Nat) (h : B_X6_laysAside_0 Z Q  M a0) : WG p l e rm_X6_laysAside s m args below meth c 0 0 (MQv below E Z args s Q) E Z M 0 2 [(0, .ref a0)] [] := by
  intro H locs ls hw hl
  have hx := S.1.1
  have hb := S.1.2.1
  refine lv_iconst (v := 0) hx hb dX6_laysAside_0 (by decide) ?_
  refine lv_istore_n (lv' := [(1, .int 0), (0, .ref a0)]) hx hb dX6_laysAside_1 rfl hl (by decide) rfl (fun ls hl => ?_)
  exact ((Exists.elim h (fun n h => wL_X6_laysAside_2 S   n _ _ _ h))) H locs ls hw (lv_sub hl [1, 0] rfl)
set_option maxRecDepth 100000 in
set_option maxHeartbeats 4000000 in
theorem k_X6_laysAside (l : Launch) (E : EE) (Z : ZZ) (M : MM) (a0 : Nat) (Q : MM → Prop) (h : P_X6_laysAside Z M a0 Q) : Ct_v l yX6_laysAside cX6_laysAside 2 (none) rm_X6_laysAside E Z M [.ref a0] Q := by
  refine Met.ofW (cc := cX6_laysAside) (maxL := 2) (ret := none) (by decide) rfl ?_
  intro p e s m args below meth c s₁ B hml hv
  obtain ⟨rfl, hK, hP, hD, hZ⟩ := hv
  have S : Cx p m c meth cX6_laysAside 2 s _ RX6 (none) := ⟨⟨B.exec, B.bytes, hml, findClass_of_methodNamed B.named, fun w hw => atoms_spec (ws := ws_ yX6_laysAside cX6_laysAside 2 (none)) B.pre w (List.mem_cons_of_mem _ hw)⟩, B.returns, B.notSynchronized⟩
  have hl := lv_entry ([.ref a0]) (n := 2) (Nat.le_of_ble_eq_true rfl)
  rw [lg_entry_eq]
  generalize (lg_sl ([.ref a0]) ++ List.replicate (2 - (lg_sl ([.ref a0])).length) Slot.unset).toArray = ls at hl ⊢
  exact (wB_X6_laysAside_0 S  M a0 h) s.heap [] ls ⟨hK, hP, hD, va_S.rf, hZ⟩ hl
set_option maxRecDepth 100000 in
set_option maxHeartbeats 4000000 in
theorem wB_X6_takesBack_2 (S : Cx p m c meth cX6_takesBack 2 s args RX6 (none)) {Q : MM → Prop} {K2 : MM → Nat → Int32 → Prop} (hK2 : ∀ (M : MM) (a0 : Nat) (v1 : Int32), K2 M a0 v1 → WG p l e rm_X6_takesBack s m args below meth c 0 0 (MQv below E Z args s Q) E Z M 2 2 [(0, .ref a0), (1, .int v1)] []) (M : MM) (a0 : Nat) (v1 : Int32) (h : B_X6_takesBack_2 Z Q K2 M a0 v1) : WG p l e rm_X6_takesBack s m args below meth c 0 0 (MQv below E Z args s Q) E Z M 2 2 [(0, .ref a0), (1, .int v1)] [] := by
  intro H locs ls hw hl
  have hx := S.1.1
  have hb := S.1.2.1
  refine lv_iload_n hx hb dX6_takesBack_2 rfl (lv_at hl 1 rfl) ?_
  refine lv_sipush (v := 226) hx hb dX6_takesBack_3 (by decide) ?_
  refine lv_icmp_ge (tgt := 27) hx hb dX6_takesBack_6 (by decide) (fun q_6 => ?_) (fun q_6 => ?_)
  · have h := h.1 q_6
    exact we_v S hw h dX6_takesBack_27
  · have h := h.2 q_6
    refine lv_aload_n hx hb dX6_takesBack_9 rfl (lv_at hl 0 rfl) ?_
    obtain ⟨k_0, h⟩ := h
    obtain ⟨y10_1, hy_1, h⟩ := h
    refine gf_X6_7 S.1 hw k_0 hy_1 dX6_takesBack_10 ?_
    refine lv_iload_n hx hb dX6_takesBack_13 rfl (lv_at hl 1 rfl) ?_
    refine lv_aload_n hx hb dX6_takesBack_14 rfl (lv_at hl 0 rfl) ?_
    obtain ⟨y15_2, hy_2, h⟩ := h
    refine gf_X6_16 S.1 hw k_0 hy_2 dX6_takesBack_15 ?_
    refine lv_iload_n hx hb dX6_takesBack_18 rfl (lv_at hl 1 rfl) ?_
    obtain ⟨k_3, h⟩ := h
    obtain ⟨i_19, h⟩ := h
    refine wo_iald S.1 hw k_3 i_19 dX6_takesBack_19 ?_
    obtain ⟨k_4, h⟩ := h
    obtain ⟨i_20, h⟩ := h
    refine wo_iast S.1 hw k_4 i_20 dX6_takesBack_20 (fun H locs hw => ?_)
    refine lv_iinc (v := (v1 + 1)) (lv' := [(1, .int (v1 + 1)), (0, .ref a0)]) hx hb dX6_takesBack_21 hl (k := 1) rfl rfl (by decide) rfl (fun ls hl => ?_)
    refine lv_goto (tgt := 2) hx hb dX6_takesBack_24 (by decide) ?_
    exact (hK2 _ _ _ h) H locs ls hw (lv_sub hl [1, 0] rfl)
theorem wL_X6_takesBack_2 (S : Cx p m c meth cX6_takesBack 2 s args RX6 (none)) {Q : MM → Prop}   : ∀ (n : Nat) (M : MM) (a0 : Nat) (v1 : Int32), L_X6_takesBack_2 Z Q   n M a0 v1 → WG p l e rm_X6_takesBack s m args below meth c 0 0 (MQv below E Z args s Q) E Z M 2 2 [(0, .ref a0), (1, .int v1)] []
  | 0, _, _, _, h => False.elim h
  | n + 1, M, a0, v1, h => wB_X6_takesBack_2 S  (wL_X6_takesBack_2 S   n) M a0 v1 h
set_option maxRecDepth 100000 in
set_option maxHeartbeats 4000000 in
theorem wB_X6_takesBack_0 (S : Cx p m c meth cX6_takesBack 2 s args RX6 (none)) {Q : MM → Prop}   (M : MM) (a0 : Nat) (h : B_X6_takesBack_0 Z Q  M a0) : WG p l e rm_X6_takesBack s m args below meth c 0 0 (MQv below E Z args s Q) E Z M 0 2 [(0, .ref a0)] [] := by
  intro H locs ls hw hl
  have hx := S.1.1
  have hb := S.1.2.1
  refine lv_iconst (v := 0) hx hb dX6_takesBack_0 (by decide) ?_
  refine lv_istore_n (lv' := [(1, .int 0), (0, .ref a0)]) hx hb dX6_takesBack_1 rfl hl (by decide) rfl (fun ls hl => ?_)
  exact ((Exists.elim h (fun n h => wL_X6_takesBack_2 S   n _ _ _ h))) H locs ls hw (lv_sub hl [1, 0] rfl)
set_option maxRecDepth 100000 in
set_option maxHeartbeats 4000000 in
theorem k_X6_takesBack (l : Launch) (E : EE) (Z : ZZ) (M : MM) (a0 : Nat) (Q : MM → Prop) (h : P_X6_takesBack Z M a0 Q) : Ct_v l yX6_takesBack cX6_takesBack 2 (none) rm_X6_takesBack E Z M [.ref a0] Q := by
  refine Met.ofW (cc := cX6_takesBack) (maxL := 2) (ret := none) (by decide) rfl ?_
  intro p e s m args below meth c s₁ B hml hv
  obtain ⟨rfl, hK, hP, hD, hZ⟩ := hv
  have S : Cx p m c meth cX6_takesBack 2 s _ RX6 (none) := ⟨⟨B.exec, B.bytes, hml, findClass_of_methodNamed B.named, fun w hw => atoms_spec (ws := ws_ yX6_takesBack cX6_takesBack 2 (none)) B.pre w (List.mem_cons_of_mem _ hw)⟩, B.returns, B.notSynchronized⟩
  have hl := lv_entry ([.ref a0]) (n := 2) (Nat.le_of_ble_eq_true rfl)
  rw [lg_entry_eq]
  generalize (lg_sl ([.ref a0]) ++ List.replicate (2 - (lg_sl ([.ref a0])).length) Slot.unset).toArray = ls at hl ⊢
  exact (wB_X6_takesBack_0 S  M a0 h) s.heap [] ls ⟨hK, hP, hD, va_S.rf, hZ⟩ hl
set_option maxRecDepth 100000 in
set_option maxHeartbeats 4000000 in
theorem wB_X6_makes_10 (S : Cx p m c meth cX6_makes 5 s args RX6 (none)) {Q : MM → Prop} {K10 : MM → Nat → Int32 → Int32 → Int32 → Int32 → Prop} (hK10 : ∀ (M : MM) (a0 : Nat) (v1 : Int32) (v2 : Int32) (v3 : Int32) (v4 : Int32), K10 M a0 v1 v2 v3 v4 → WG p l e rm_X6_makes s m args below meth c 0 0 (MQv below E Z args s Q) E Z M 10 5 [(0, .ref a0), (1, .int v1), (2, .int v2), (3, .int v3), (4, .int v4)] []) (M : MM) (a0 : Nat) (v1 : Int32) (v2 : Int32) (v3 : Int32) (v4 : Int32) (h : B_X6_makes_10 Z Q K10 M a0 v1 v2 v3 v4) : WG p l e rm_X6_makes s m args below meth c 0 0 (MQv below E Z args s Q) E Z M 10 5 [(0, .ref a0), (1, .int v1), (2, .int v2), (3, .int v3), (4, .int v4)] [] := by
  intro H locs ls hw hl
  have hx := S.1.1
  have hb := S.1.2.1
  refine lv_iload hx hb dX6_makes_10 (lv_at hl 4 rfl) ?_
  refine lv_sipush (v := 226) hx hb dX6_makes_12 (by decide) ?_
  refine lv_icmp_ge (tgt := 32) hx hb dX6_makes_15 (by decide) (fun q_15 => ?_) (fun q_15 => ?_)
  · have h := h.1 q_15
    refine lv_aload_n hx hb dX6_makes_32 rfl (lv_at hl 0 rfl) ?_
    obtain ⟨k_0, h⟩ := h
    obtain ⟨y33_1, hy_1, h⟩ := h
    refine gf_X6_7 S.1 hw k_0 hy_1 dX6_makes_33 ?_
    refine lv_iconst (v := 2) hx hb dX6_makes_36 (by decide) ?_
    refine lv_iload_n hx hb dX6_makes_37 rfl (lv_at hl 3 rfl) ?_
    obtain ⟨k_2, h⟩ := h
    obtain ⟨i_38, h⟩ := h
    refine wo_iast S.1 hw k_2 i_38 dX6_makes_38 (fun H locs hw => ?_)
    refine lv_aload_n hx hb dX6_makes_39 rfl (lv_at hl 0 rfl) ?_
    refine gf_X6_7 S.1 hw k_0 hy_1 dX6_makes_40 ?_
    refine lv_iconst (v := 0) hx hb dX6_makes_43 (by decide) ?_
    refine lv_iload_n hx hb dX6_makes_44 rfl (lv_at hl 1 rfl) ?_
    obtain ⟨i_45, h⟩ := h
    refine wo_iast S.1 hw k_2 i_45 dX6_makes_45 (fun H locs hw => ?_)
    refine lv_aload_n hx hb dX6_makes_46 rfl (lv_at hl 0 rfl) ?_
    refine gf_X6_7 S.1 hw k_0 hy_1 dX6_makes_47 ?_
    refine lv_iconst (v := 1) hx hb dX6_makes_50 (by decide) ?_
    refine lv_iload_n hx hb dX6_makes_51 rfl (lv_at hl 2 rfl) ?_
    obtain ⟨i_52, h⟩ := h
    refine wo_iast S.1 hw k_2 i_52 dX6_makes_52 (fun H locs hw => ?_)
    exact we_v S hw h dX6_makes_53
  · have h := h.2 q_15
    refine lv_aload_n hx hb dX6_makes_18 rfl (lv_at hl 0 rfl) ?_
    obtain ⟨k_3, h⟩ := h
    obtain ⟨y19_4, hy_4, h⟩ := h
    refine gf_X6_7 S.1 hw k_3 hy_4 dX6_makes_19 ?_
    refine lv_iload hx hb dX6_makes_22 (lv_at hl 4 rfl) ?_
    refine lv_iconst (v := 0) hx hb dX6_makes_24 (by decide) ?_
    obtain ⟨k_5, h⟩ := h
    obtain ⟨i_25, h⟩ := h
    refine wo_iast S.1 hw k_5 i_25 dX6_makes_25 (fun H locs hw => ?_)
    refine lv_iinc (v := (v4 + 1)) (lv' := [(4, .int (v4 + 1)), (0, .ref a0), (1, .int v1), (2, .int v2), (3, .int v3)]) hx hb dX6_makes_26 hl (k := 4) rfl rfl (by decide) rfl (fun ls hl => ?_)
    refine lv_goto (tgt := 10) hx hb dX6_makes_29 (by decide) ?_
    exact (hK10 _ _ _ _ _ _ h) H locs ls hw (lv_sub hl [1, 2, 3, 4, 0] rfl)
theorem wL_X6_makes_10 (S : Cx p m c meth cX6_makes 5 s args RX6 (none)) {Q : MM → Prop}   : ∀ (n : Nat) (M : MM) (a0 : Nat) (v1 : Int32) (v2 : Int32) (v3 : Int32) (v4 : Int32), L_X6_makes_10 Z Q   n M a0 v1 v2 v3 v4 → WG p l e rm_X6_makes s m args below meth c 0 0 (MQv below E Z args s Q) E Z M 10 5 [(0, .ref a0), (1, .int v1), (2, .int v2), (3, .int v3), (4, .int v4)] []
  | 0, _, _, _, _, _, _, h => False.elim h
  | n + 1, M, a0, v1, v2, v3, v4, h => wB_X6_makes_10 S  (wL_X6_makes_10 S   n) M a0 v1 v2 v3 v4 h
set_option maxRecDepth 100000 in
set_option maxHeartbeats 4000000 in
theorem wB_X6_makes_0 (S : Cx p m c meth cX6_makes 5 s args RX6 (none)) {Q : MM → Prop}   (M : MM) (a0 : Nat) (v1 : Int32) (v2 : Int32) (h : B_X6_makes_0 Z Q  M a0 v1 v2) : WG p l e rm_X6_makes s m args below meth c 0 0 (MQv below E Z args s Q) E Z M 0 5 [(0, .ref a0), (1, .int v1), (2, .int v2)] [] := by
  intro H locs ls hw hl
  have hx := S.1.1
  have hb := S.1.2.1
  refine lv_aload_n hx hb dX6_makes_0 rfl (lv_at hl 0 rfl) ?_
  obtain ⟨k_0, h⟩ := h
  obtain ⟨y1_1, hy_1, h⟩ := h
  refine gf_X6_7 S.1 hw k_0 hy_1 dX6_makes_1 ?_
  refine lv_iconst (v := 2) hx hb dX6_makes_4 (by decide) ?_
  obtain ⟨k_2, h⟩ := h
  obtain ⟨i_5, h⟩ := h
  refine wo_iald S.1 hw k_2 i_5 dX6_makes_5 ?_
  refine lv_istore_n (lv' := [(3, .int (mA M y1_1 (2 : Int32).toNatClampNeg)), (0, .ref a0), (1, .int v1), (2, .int v2)]) hx hb dX6_makes_6 rfl hl (by decide) rfl (fun ls hl => ?_)
  refine lv_iconst (v := 0) hx hb dX6_makes_7 (by decide) ?_
  refine lv_istore (lv' := [(4, .int 0), (3, .int (mA M y1_1 (2 : Int32).toNatClampNeg)), (0, .ref a0), (1, .int v1), (2, .int v2)]) hx hb dX6_makes_8 hl (by decide) rfl (fun ls hl => ?_)
  exact ((Exists.elim h (fun n h => wL_X6_makes_10 S   n _ _ _ _ _ _ h))) H locs ls hw (lv_sub hl [2, 3, 4, 1, 0] rfl)
set_option maxRecDepth 100000 in
set_option maxHeartbeats 4000000 in
theorem k_X6_makes (l : Launch) (E : EE) (Z : ZZ) (M : MM) (a0 : Nat) (v1 : Int32) (v2 : Int32) (Q : MM → Prop) (h : P_X6_makes Z M a0 v1 v2 Q) : Ct_v l yX6_makes cX6_makes 5 (none) rm_X6_makes E Z M [.ref a0, .int v1, .int v2] Q := by
  refine Met.ofW (cc := cX6_makes) (maxL := 5) (ret := none) (by decide) rfl ?_
  intro p e s m args below meth c s₁ B hml hv
  obtain ⟨rfl, hK, hP, hD, hZ⟩ := hv
  have S : Cx p m c meth cX6_makes 5 s _ RX6 (none) := ⟨⟨B.exec, B.bytes, hml, findClass_of_methodNamed B.named, fun w hw => atoms_spec (ws := ws_ yX6_makes cX6_makes 5 (none)) B.pre w (List.mem_cons_of_mem _ hw)⟩, B.returns, B.notSynchronized⟩
  have hl := lv_entry ([.ref a0, .int v1, .int v2]) (n := 5) (Nat.le_of_ble_eq_true rfl)
  rw [lg_entry_eq]
  generalize (lg_sl ([.ref a0, .int v1, .int v2]) ++ List.replicate (5 - (lg_sl ([.ref a0, .int v1, .int v2])).length) Slot.unset).toArray = ls at hl ⊢
  exact (wB_X6_makes_0 S  M a0 v1 v2 h) s.heap [] ls ⟨hK, hP, hD, va_S.rf, hZ⟩ hl
set_option maxRecDepth 100000 in
set_option maxHeartbeats 4000000 in
theorem wB_X6_puts_0 (S : Cx p m c meth cX6_puts 3 s args RX6 (none)) {Q : MM → Prop}   (M : MM) (a0 : Nat) (v1 : Int32) (v2 : Int32) (h : B_X6_puts_0 Z Q  M a0 v1 v2) : WG p l e rm_X6_puts s m args below meth c 0 0 (MQv below E Z args s Q) E Z M 0 3 [(0, .ref a0), (1, .int v1), (2, .int v2)] [] := by
  intro H locs ls hw hl
  have hx := S.1.1
  have hb := S.1.2.1
  refine lv_aload_n hx hb dX6_puts_0 rfl (lv_at hl 0 rfl) ?_
  obtain ⟨k_0, h⟩ := h
  obtain ⟨y1_1, hy_1, h⟩ := h
  refine gf_X6_7 S.1 hw k_0 hy_1 dX6_puts_1 ?_
  refine lv_bipush (v := 8) hx hb dX6_puts_4 (by decide) ?_
  refine lv_iload_n hx hb dX6_puts_6 rfl (lv_at hl 1 rfl) ?_
  refine lv_iadd hx hb dX6_puts_7 ?_
  refine lv_dup2_11 hx hb dX6_puts_8 rfl rfl ?_
  obtain ⟨k_2, h⟩ := h
  obtain ⟨i_9, h⟩ := h
  refine wo_iald S.1 hw k_2 i_9 dX6_puts_9 ?_
  refine lv_iload_n hx hb dX6_puts_10 rfl (lv_at hl 2 rfl) ?_
  refine lv_iadd hx hb dX6_puts_11 ?_
  obtain ⟨i_12, h⟩ := h
  refine wo_iast S.1 hw k_2 i_12 dX6_puts_12 (fun H locs hw => ?_)
  refine lv_aload_n hx hb dX6_puts_13 rfl (lv_at hl 0 rfl) ?_
  refine gf_X6_7 S.1 hw k_0 hy_1 dX6_puts_14 ?_
  refine lv_iconst (v := 4) hx hb dX6_puts_17 (by decide) ?_
  refine lv_dup2_11 hx hb dX6_puts_18 rfl rfl ?_
  obtain ⟨i_19, h⟩ := h
  refine wo_iald S.1 hw k_2 i_19 dX6_puts_19 ?_
  refine lv_iload_n hx hb dX6_puts_20 rfl (lv_at hl 2 rfl) ?_
  refine lv_iadd hx hb dX6_puts_21 ?_
  obtain ⟨i_22, h⟩ := h
  refine wo_iast S.1 hw k_2 i_22 dX6_puts_22 (fun H locs hw => ?_)
  exact we_v S hw h dX6_puts_23
set_option maxRecDepth 100000 in
set_option maxHeartbeats 4000000 in
theorem k_X6_puts (l : Launch) (E : EE) (Z : ZZ) (M : MM) (a0 : Nat) (v1 : Int32) (v2 : Int32) (Q : MM → Prop) (h : P_X6_puts Z M a0 v1 v2 Q) : Ct_v l yX6_puts cX6_puts 3 (none) rm_X6_puts E Z M [.ref a0, .int v1, .int v2] Q := by
  refine Met.ofW (cc := cX6_puts) (maxL := 3) (ret := none) (by decide) rfl ?_
  intro p e s m args below meth c s₁ B hml hv
  obtain ⟨rfl, hK, hP, hD, hZ⟩ := hv
  have S : Cx p m c meth cX6_puts 3 s _ RX6 (none) := ⟨⟨B.exec, B.bytes, hml, findClass_of_methodNamed B.named, fun w hw => atoms_spec (ws := ws_ yX6_puts cX6_puts 3 (none)) B.pre w (List.mem_cons_of_mem _ hw)⟩, B.returns, B.notSynchronized⟩
  have hl := lv_entry ([.ref a0, .int v1, .int v2]) (n := 3) (Nat.le_of_ble_eq_true rfl)
  rw [lg_entry_eq]
  generalize (lg_sl ([.ref a0, .int v1, .int v2]) ++ List.replicate (3 - (lg_sl ([.ref a0, .int v1, .int v2])).length) Slot.unset).toArray = ls at hl ⊢
  exact (wB_X6_puts_0 S  M a0 v1 v2 h) s.heap [] ls ⟨hK, hP, hD, va_S.rf, hZ⟩ hl
set_option maxRecDepth 100000 in
set_option maxHeartbeats 4000000 in
theorem wB_X6_cells_0 (S : Cx p m c meth cX6_cells 1 s args RX6 (some .int)) {Q : Int32 → MM → Prop}   (M : MM) (a0 : Nat) (h : B_X6_cells_0 Z Q  M a0) : WG p l e rm_X6_cells s m args below meth c 0 0 (MQi below E Z args s Q) E Z M 0 1 [(0, .ref a0)] [] := by
  intro H locs ls hw hl
  have hx := S.1.1
  have hb := S.1.2.1
  refine lv_aload_n hx hb dX6_cells_0 rfl (lv_at hl 0 rfl) ?_
  obtain ⟨k_0, h⟩ := h
  obtain ⟨y1_1, hy_1, h⟩ := h
  refine gf_X6_7 S.1 hw k_0 hy_1 dX6_cells_1 ?_
  refine lv_iconst (v := 0) hx hb dX6_cells_4 (by decide) ?_
  obtain ⟨k_2, h⟩ := h
  obtain ⟨i_5, h⟩ := h
  refine wo_iald S.1 hw k_2 i_5 dX6_cells_5 ?_
  refine lv_aload_n hx hb dX6_cells_6 rfl (lv_at hl 0 rfl) ?_
  refine gf_X6_7 S.1 hw k_0 hy_1 dX6_cells_7 ?_
  refine lv_iconst (v := 1) hx hb dX6_cells_10 (by decide) ?_
  obtain ⟨i_11, h⟩ := h
  refine wo_iald S.1 hw k_2 i_11 dX6_cells_11 ?_
  refine lv_imul hx hb dX6_cells_12 ?_
  exact we_i S hw h dX6_cells_13
set_option maxRecDepth 100000 in
set_option maxHeartbeats 4000000 in
theorem k_X6_cells (l : Launch) (E : EE) (Z : ZZ) (M : MM) (a0 : Nat) (Q : Int32 → MM → Prop) (h : P_X6_cells Z M a0 Q) : Ct_i l yX6_cells cX6_cells 1 (some .int) rm_X6_cells E Z M [.ref a0] Q := by
  refine Met.ofW (cc := cX6_cells) (maxL := 1) (ret := some .int) (by decide) rfl ?_
  intro p e s m args below meth c s₁ B hml hv
  obtain ⟨rfl, hK, hP, hD, hZ⟩ := hv
  have S : Cx p m c meth cX6_cells 1 s _ RX6 (some .int) := ⟨⟨B.exec, B.bytes, hml, findClass_of_methodNamed B.named, fun w hw => atoms_spec (ws := ws_ yX6_cells cX6_cells 1 (some .int)) B.pre w (List.mem_cons_of_mem _ hw)⟩, B.returns, B.notSynchronized⟩
  have hl := lv_entry ([.ref a0]) (n := 1) (Nat.le_of_ble_eq_true rfl)
  rw [lg_entry_eq]
  generalize (lg_sl ([.ref a0]) ++ List.replicate (1 - (lg_sl ([.ref a0])).length) Slot.unset).toArray = ls at hl ⊢
  exact (wB_X6_cells_0 S  M a0 h) s.heap [] ls ⟨hK, hP, hD, va_S.rf, hZ⟩ hl
set_option maxRecDepth 100000 in
set_option maxHeartbeats 4000000 in
theorem wB_X6_isCell_0 (S : Cx p m c meth cX6_isCell 2 s args RX6 (some .boolean)) {Q : Int32 → MM → Prop}   (M : MM) (a0 : Nat) (v1 : Int32) (h : B_X6_isCell_0 Z Q  M a0 v1) : WG p l e rm_X6_isCell s m args below meth c 0 0 (MQi below E Z args s Q) E Z M 0 2 [(0, .ref a0), (1, .int v1)] [] := by
  intro H locs ls hw hl
  have hx := S.1.1
  have hb := S.1.2.1
  refine lv_iload_n hx hb dX6_isCell_0 rfl (lv_at hl 1 rfl) ?_
  refine lv_i2l (v := v1.toInt64) hx hb dX6_isCell_1 rfl ?_
  refine lv_lconst (v := 0) hx hb dX6_isCell_2 (by decide) ?_
  refine lv_aload_n hx hb dX6_isCell_3 rfl (lv_at hl 0 rfl) ?_
  obtain ⟨k_0, h⟩ := h
  refine cv_i (As := []) (rest := [.long 0, .long v1.toInt64]) S.1 hw (k_X6_cells l E Z M a0  _ h) wv_X6_45 yc_X6_cells ⟨rfl, rfl⟩ ⟨Nat.le_of_ble_eq_true rfl, Nat.le_of_ble_eq_true rfl⟩ rfl hl.1 (Nat.le_of_ble_eq_true rfl) (ci := 6) (q := (RX6, TX6, 12)) rfl rfl (by rw [k_0]; decide) (cell_6 k_0) ⟨Nat.le_of_ble_eq_true rfl, Nat.le_of_ble_eq_true rfl⟩ dX6_isCell_4 (fun r4 M4 H locs h hw => ?_)
  refine lv_i2l (v := r4.toInt64) hx hb dX6_isCell_7 rfl ?_
  refine lv_lconst (v := 1) hx hb dX6_isCell_8 (by decide) ?_
  refine lv_lsub hx hb dX6_isCell_9 ?_
  refine cs_i (As := [.long v1.toInt64, .long 0, .long (r4.toInt64 - 1)]) (rest := []) S.1 hw (k_X6_in l E Z M4 v1.toInt64 0 (r4.toInt64 - 1) _ h) wv_X6_49 yc_X6_in ⟨rfl, rfl⟩ ⟨Nat.le_of_ble_eq_true rfl, Nat.le_of_ble_eq_true rfl⟩ rfl hl.1 (Nat.le_of_ble_eq_true rfl) ⟨Nat.le_of_ble_eq_true rfl, Nat.le_of_ble_eq_true rfl⟩ dX6_isCell_10 (fun r10 M10 H locs h hw => ?_)
  obtain ⟨zz, h⟩ := h
  exact we_b S hw zz h dX6_isCell_13
set_option maxRecDepth 100000 in
set_option maxHeartbeats 4000000 in
theorem k_X6_isCell (l : Launch) (E : EE) (Z : ZZ) (M : MM) (a0 : Nat) (v1 : Int32) (Q : Int32 → MM → Prop) (h : P_X6_isCell Z M a0 v1 Q) : Ct_i l yX6_isCell cX6_isCell 2 (some .boolean) rm_X6_isCell E Z M [.ref a0, .int v1] Q := by
  refine Met.ofW (cc := cX6_isCell) (maxL := 2) (ret := some .boolean) (by decide) rfl ?_
  intro p e s m args below meth c s₁ B hml hv
  obtain ⟨rfl, hK, hP, hD, hZ⟩ := hv
  have S : Cx p m c meth cX6_isCell 2 s _ RX6 (some .boolean) := ⟨⟨B.exec, B.bytes, hml, findClass_of_methodNamed B.named, fun w hw => atoms_spec (ws := ws_ yX6_isCell cX6_isCell 2 (some .boolean)) B.pre w (List.mem_cons_of_mem _ hw)⟩, B.returns, B.notSynchronized⟩
  have hl := lv_entry ([.ref a0, .int v1]) (n := 2) (Nat.le_of_ble_eq_true rfl)
  rw [lg_entry_eq]
  generalize (lg_sl ([.ref a0, .int v1]) ++ List.replicate (2 - (lg_sl ([.ref a0, .int v1])).length) Slot.unset).toArray = ls at hl ⊢
  exact (wB_X6_isCell_0 S  M a0 v1 h) s.heap [] ls ⟨hK, hP, hD, va_S.rf, hZ⟩ hl
set_option maxRecDepth 100000 in
set_option maxHeartbeats 4000000 in
theorem wB_X6_row_0 (S : Cx p m c meth cX6_row 2 s args RX6 (some .int)) {Q : Int32 → MM → Prop}   (M : MM) (a0 : Nat) (v1 : Int32) (h : B_X6_row_0 Z Q  M a0 v1) : WG p l e rm_X6_row s m args below meth c 0 0 (MQi below E Z args s Q) E Z M 0 2 [(0, .ref a0), (1, .int v1)] [] := by
  intro H locs ls hw hl
  have hx := S.1.1
  have hb := S.1.2.1
  refine lv_iload_n hx hb dX6_row_0 rfl (lv_at hl 1 rfl) ?_
  refine lv_aload_n hx hb dX6_row_1 rfl (lv_at hl 0 rfl) ?_
  obtain ⟨k_0, h⟩ := h
  obtain ⟨y2_1, hy_1, h⟩ := h
  refine gf_X6_7 S.1 hw k_0 hy_1 dX6_row_2 ?_
  refine lv_iconst (v := 0) hx hb dX6_row_5 (by decide) ?_
  obtain ⟨k_2, h⟩ := h
  obtain ⟨i_6, h⟩ := h
  refine wo_iald S.1 hw k_2 i_6 dX6_row_6 ?_
  obtain ⟨z_7, h⟩ := h
  refine lv_idiv hx hb dX6_row_7 z_7 ?_
  exact we_i S hw h dX6_row_8
set_option maxRecDepth 100000 in
set_option maxHeartbeats 4000000 in
theorem k_X6_row (l : Launch) (E : EE) (Z : ZZ) (M : MM) (a0 : Nat) (v1 : Int32) (Q : Int32 → MM → Prop) (h : P_X6_row Z M a0 v1 Q) : Ct_i l yX6_row cX6_row 2 (some .int) rm_X6_row E Z M [.ref a0, .int v1] Q := by
  refine Met.ofW (cc := cX6_row) (maxL := 2) (ret := some .int) (by decide) rfl ?_
  intro p e s m args below meth c s₁ B hml hv
  obtain ⟨rfl, hK, hP, hD, hZ⟩ := hv
  have S : Cx p m c meth cX6_row 2 s _ RX6 (some .int) := ⟨⟨B.exec, B.bytes, hml, findClass_of_methodNamed B.named, fun w hw => atoms_spec (ws := ws_ yX6_row cX6_row 2 (some .int)) B.pre w (List.mem_cons_of_mem _ hw)⟩, B.returns, B.notSynchronized⟩
  have hl := lv_entry ([.ref a0, .int v1]) (n := 2) (Nat.le_of_ble_eq_true rfl)
  rw [lg_entry_eq]
  generalize (lg_sl ([.ref a0, .int v1]) ++ List.replicate (2 - (lg_sl ([.ref a0, .int v1])).length) Slot.unset).toArray = ls at hl ⊢
  exact (wB_X6_row_0 S  M a0 v1 h) s.heap [] ls ⟨hK, hP, hD, va_S.rf, hZ⟩ hl
set_option maxRecDepth 100000 in
set_option maxHeartbeats 4000000 in
theorem wB_X6_column_0 (S : Cx p m c meth cX6_column 2 s args RX6 (some .int)) {Q : Int32 → MM → Prop}   (M : MM) (a0 : Nat) (v1 : Int32) (h : B_X6_column_0 Z Q  M a0 v1) : WG p l e rm_X6_column s m args below meth c 0 0 (MQi below E Z args s Q) E Z M 0 2 [(0, .ref a0), (1, .int v1)] [] := by
  intro H locs ls hw hl
  have hx := S.1.1
  have hb := S.1.2.1
  refine lv_iload_n hx hb dX6_column_0 rfl (lv_at hl 1 rfl) ?_
  refine lv_aload_n hx hb dX6_column_1 rfl (lv_at hl 0 rfl) ?_
  obtain ⟨k_0, h⟩ := h
  obtain ⟨y2_1, hy_1, h⟩ := h
  refine gf_X6_7 S.1 hw k_0 hy_1 dX6_column_2 ?_
  refine lv_iconst (v := 0) hx hb dX6_column_5 (by decide) ?_
  obtain ⟨k_2, h⟩ := h
  obtain ⟨i_6, h⟩ := h
  refine wo_iald S.1 hw k_2 i_6 dX6_column_6 ?_
  obtain ⟨z_7, h⟩ := h
  refine lv_irem hx hb dX6_column_7 z_7 ?_
  exact we_i S hw h dX6_column_8
set_option maxRecDepth 100000 in
set_option maxHeartbeats 4000000 in
theorem k_X6_column (l : Launch) (E : EE) (Z : ZZ) (M : MM) (a0 : Nat) (v1 : Int32) (Q : Int32 → MM → Prop) (h : P_X6_column Z M a0 v1 Q) : Ct_i l yX6_column cX6_column 2 (some .int) rm_X6_column E Z M [.ref a0, .int v1] Q := by
  refine Met.ofW (cc := cX6_column) (maxL := 2) (ret := some .int) (by decide) rfl ?_
  intro p e s m args below meth c s₁ B hml hv
  obtain ⟨rfl, hK, hP, hD, hZ⟩ := hv
  have S : Cx p m c meth cX6_column 2 s _ RX6 (some .int) := ⟨⟨B.exec, B.bytes, hml, findClass_of_methodNamed B.named, fun w hw => atoms_spec (ws := ws_ yX6_column cX6_column 2 (some .int)) B.pre w (List.mem_cons_of_mem _ hw)⟩, B.returns, B.notSynchronized⟩
  have hl := lv_entry ([.ref a0, .int v1]) (n := 2) (Nat.le_of_ble_eq_true rfl)
  rw [lg_entry_eq]
  generalize (lg_sl ([.ref a0, .int v1]) ++ List.replicate (2 - (lg_sl ([.ref a0, .int v1])).length) Slot.unset).toArray = ls at hl ⊢
  exact (wB_X6_column_0 S  M a0 v1 h) s.heap [] ls ⟨hK, hP, hD, va_S.rf, hZ⟩ hl
set_option maxRecDepth 100000 in
set_option maxHeartbeats 4000000 in
theorem wB_X6_isIce_0 (S : Cx p m c meth cX6_isIce 2 s args RX6 (some .boolean)) {Q : Int32 → MM → Prop}   (M : MM) (a0 : Nat) (v1 : Int32) (h : B_X6_isIce_0 Z Q  M a0 v1) : WG p l e rm_X6_isIce s m args below meth c 0 0 (MQi below E Z args s Q) E Z M 0 2 [(0, .ref a0), (1, .int v1)] [] := by
  intro H locs ls hw hl
  have hx := S.1.1
  have hb := S.1.2.1
  refine lv_aload_n hx hb dX6_isIce_0 rfl (lv_at hl 0 rfl) ?_
  obtain ⟨k_0, h⟩ := h
  obtain ⟨y1_1, hy_1, h⟩ := h
  refine gf_X6_7 S.1 hw k_0 hy_1 dX6_isIce_1 ?_
  refine lv_bipush (v := 8) hx hb dX6_isIce_4 (by decide) ?_
  refine lv_iload_n hx hb dX6_isIce_6 rfl (lv_at hl 1 rfl) ?_
  refine lv_iadd hx hb dX6_isIce_7 ?_
  obtain ⟨k_2, h⟩ := h
  obtain ⟨i_8, h⟩ := h
  refine wo_iald S.1 hw k_2 i_8 dX6_isIce_8 ?_
  refine lv_if_le (tgt := 16) hx hb dX6_isIce_9 (by decide) (fun q_9 => ?_) (fun q_9 => ?_)
  · have h := h.1 q_9
    refine lv_iconst (v := 0) hx hb dX6_isIce_16 (by decide) ?_
    exact we_z S hw rfl (by rfl) h dX6_isIce_17
  · have h := h.2 q_9
    refine lv_iconst (v := 1) hx hb dX6_isIce_12 (by decide) ?_
    refine lv_goto (tgt := 17) hx hb dX6_isIce_13 (by decide) ?_
    exact we_z S hw rfl (by rfl) h dX6_isIce_17
set_option maxRecDepth 100000 in
set_option maxHeartbeats 4000000 in
theorem k_X6_isIce (l : Launch) (E : EE) (Z : ZZ) (M : MM) (a0 : Nat) (v1 : Int32) (Q : Int32 → MM → Prop) (h : P_X6_isIce Z M a0 v1 Q) : Ct_i l yX6_isIce cX6_isIce 2 (some .boolean) rm_X6_isIce E Z M [.ref a0, .int v1] Q := by
  refine Met.ofW (cc := cX6_isIce) (maxL := 2) (ret := some .boolean) (by decide) rfl ?_
  intro p e s m args below meth c s₁ B hml hv
  obtain ⟨rfl, hK, hP, hD, hZ⟩ := hv
  have S : Cx p m c meth cX6_isIce 2 s _ RX6 (some .boolean) := ⟨⟨B.exec, B.bytes, hml, findClass_of_methodNamed B.named, fun w hw => atoms_spec (ws := ws_ yX6_isIce cX6_isIce 2 (some .boolean)) B.pre w (List.mem_cons_of_mem _ hw)⟩, B.returns, B.notSynchronized⟩
  have hl := lv_entry ([.ref a0, .int v1]) (n := 2) (Nat.le_of_ble_eq_true rfl)
  rw [lg_entry_eq]
  generalize (lg_sl ([.ref a0, .int v1]) ++ List.replicate (2 - (lg_sl ([.ref a0, .int v1])).length) Slot.unset).toArray = ls at hl ⊢
  exact (wB_X6_isIce_0 S  M a0 v1 h) s.heap [] ls ⟨hK, hP, hD, va_S.rf, hZ⟩ hl
set_option maxRecDepth 100000 in
set_option maxHeartbeats 4000000 in
theorem wB_X6_make_40 (S : Cx p m c meth cX6_make 5 s args RX6 (some .int)) {Q : Int32 → MM → Prop}   (M : MM) (a0 : Nat) (h : B_X6_make_40 Z Q  M a0) : WG p l e rm_X6_make s m args below meth c 0 0 (MQi below E Z args s Q) E Z M 40 5 [(0, .ref a0)] [] := by
  intro H locs ls hw hl
  have hx := S.1.1
  have hb := S.1.2.1
  refine lv_aload_n hx hb dX6_make_40 rfl (lv_at hl 0 rfl) ?_
  refine lv_iconst (v := 1) hx hb dX6_make_41 (by decide) ?_
  obtain ⟨k_0, h⟩ := h
  refine cv_i (As := [.int 1]) (rest := []) S.1 hw (k_X6_throwing l E Z M a0 1 _ h) wv_X6_59 yc_X6_throwing ⟨rfl, rfl⟩ ⟨Nat.le_of_ble_eq_true rfl, Nat.le_of_ble_eq_true rfl⟩ rfl hl.1 (Nat.le_of_ble_eq_true rfl) (ci := 6) (q := (RX6, TX6, 12)) rfl rfl (by rw [k_0]; decide) (cell_6 k_0) ⟨Nat.le_of_ble_eq_true rfl, Nat.le_of_ble_eq_true rfl⟩ dX6_make_42 (fun r42 M42 H locs h hw => ?_)
  exact we_i S hw h dX6_make_45
set_option maxRecDepth 100000 in
set_option maxHeartbeats 4000000 in
theorem wB_X6_make_59 (S : Cx p m c meth cX6_make 5 s args RX6 (some .int)) {Q : Int32 → MM → Prop} {K59 : MM → Nat → Int32 → Int32 → Int32 → Int32 → Prop} (hK59 : ∀ (M : MM) (a0 : Nat) (v1 : Int32) (v2 : Int32) (v3 : Int32) (v4 : Int32), K59 M a0 v1 v2 v3 v4 → WG p l e rm_X6_make s m args below meth c 0 0 (MQi below E Z args s Q) E Z M 59 5 [(0, .ref a0), (1, .int v1), (2, .int v2), (3, .int v3), (4, .int v4)] []) (M : MM) (a0 : Nat) (v1 : Int32) (v2 : Int32) (v3 : Int32) (v4 : Int32) (h : B_X6_make_59 Z Q K59 M a0 v1 v2 v3 v4) : WG p l e rm_X6_make s m args below meth c 0 0 (MQi below E Z args s Q) E Z M 59 5 [(0, .ref a0), (1, .int v1), (2, .int v2), (3, .int v3), (4, .int v4)] [] := by
  intro H locs ls hw hl
  have hx := S.1.1
  have hb := S.1.2.1
  refine lv_iload hx hb dX6_make_59 (lv_at hl 4 rfl) ?_
  refine lv_iload_n hx hb dX6_make_61 rfl (lv_at hl 1 rfl) ?_
  refine lv_iload_n hx hb dX6_make_62 rfl (lv_at hl 2 rfl) ?_
  refine lv_imul hx hb dX6_make_63 ?_
  refine lv_icmp_ge (tgt := 80) hx hb dX6_make_64 (by decide) (fun q_64 => ?_) (fun q_64 => ?_)
  · have h := h.1 q_64
    refine lv_aload_n hx hb dX6_make_80 rfl (lv_at hl 0 rfl) ?_
    refine lv_aload_n hx hb dX6_make_81 rfl (lv_at hl 0 rfl) ?_
    obtain ⟨k_0, h⟩ := h
    obtain ⟨y82_1, hy_1, h⟩ := h
    refine gf_X6_7 S.1 hw k_0 hy_1 dX6_make_82 ?_
    refine lv_iconst (v := 4) hx hb dX6_make_85 (by decide) ?_
    obtain ⟨k_2, h⟩ := h
    obtain ⟨i_86, h⟩ := h
    refine wo_iald S.1 hw k_2 i_86 dX6_make_86 ?_
    refine cv_i (As := [.int (mA M y82_1 (4 : Int32).toNatClampNeg)]) (rest := []) S.1 hw (k_X6_fine l E Z M a0 (mA M y82_1 (4 : Int32).toNatClampNeg) _ h) wv_X6_66 yc_X6_fine ⟨rfl, rfl⟩ ⟨Nat.le_of_ble_eq_true rfl, Nat.le_of_ble_eq_true rfl⟩ rfl hl.1 (Nat.le_of_ble_eq_true rfl) (ci := 6) (q := (RX6, TX6, 12)) rfl rfl (by rw [k_0]; decide) (cell_6 k_0) ⟨Nat.le_of_ble_eq_true rfl, Nat.le_of_ble_eq_true rfl⟩ dX6_make_87 (fun r87 M87 H locs h hw => ?_)
    exact we_i S hw h dX6_make_90
  · have h := h.2 q_64
    refine lv_aload_n hx hb dX6_make_67 rfl (lv_at hl 0 rfl) ?_
    refine lv_iload hx hb dX6_make_68 (lv_at hl 4 rfl) ?_
    refine lv_iload_n hx hb dX6_make_70 rfl (lv_at hl 3 rfl) ?_
    obtain ⟨k_3, h⟩ := h
    refine cv_v (As := [.int v4, .int v3]) (rest := []) S.1 hw (k_X6_puts l E Z M a0 v4 v3 _ h) wv_X6_35 yc_X6_puts ⟨rfl, rfl⟩ ⟨Nat.le_of_ble_eq_true rfl, Nat.le_of_ble_eq_true rfl⟩ rfl hl.1 (Nat.le_of_ble_eq_true rfl) (ci := 6) (q := (RX6, TX6, 12)) rfl rfl (by rw [k_3]; decide) (cell_6 k_3) ⟨Nat.le_of_ble_eq_true rfl, Nat.le_of_ble_eq_true rfl⟩ dX6_make_71 (fun M71 H locs h hw => ?_)
    refine lv_iinc (v := (v4 + 1)) (lv' := [(4, .int (v4 + 1)), (0, .ref a0), (1, .int v1), (2, .int v2), (3, .int v3)]) hx hb dX6_make_74 hl (k := 4) rfl rfl (by decide) rfl (fun ls hl => ?_)
    refine lv_goto (tgt := 59) hx hb dX6_make_77 (by decide) ?_
    exact (hK59 _ _ _ _ _ _ h) H locs ls hw (lv_sub hl [1, 2, 3, 4, 0] rfl)
theorem wL_X6_make_59 (S : Cx p m c meth cX6_make 5 s args RX6 (some .int)) {Q : Int32 → MM → Prop}   : ∀ (n : Nat) (M : MM) (a0 : Nat) (v1 : Int32) (v2 : Int32) (v3 : Int32) (v4 : Int32), L_X6_make_59 Z Q   n M a0 v1 v2 v3 v4 → WG p l e rm_X6_make s m args below meth c 0 0 (MQi below E Z args s Q) E Z M 59 5 [(0, .ref a0), (1, .int v1), (2, .int v2), (3, .int v3), (4, .int v4)] []
  | 0, _, _, _, _, _, _, h => False.elim h
  | n + 1, M, a0, v1, v2, v3, v4, h => wB_X6_make_59 S  (wL_X6_make_59 S   n) M a0 v1 v2 v3 v4 h
set_option maxRecDepth 100000 in
set_option maxHeartbeats 4000000 in
theorem wB_X6_make_0 (S : Cx p m c meth cX6_make 5 s args RX6 (some .int)) {Q : Int32 → MM → Prop}   (M : MM) (a0 : Nat) (v1 : Int32) (v2 : Int32) (v3 : Int32) (h : B_X6_make_0 Z Q  M a0 v1 v2 v3) : WG p l e rm_X6_make s m args below meth c 0 0 (MQi below E Z args s Q) E Z M 0 5 [(0, .ref a0), (1, .int v1), (2, .int v2), (3, .int v3)] [] := by
  intro H locs ls hw hl
  have hx := S.1.1
  have hb := S.1.2.1
  have hown := S.1.2.2.2.1
  have hts := S.1.2.2.2.2
  refine lv_iload_n hx hb dX6_make_0 rfl (lv_at hl 1 rfl) ?_
  refine lv_i2l (v := v1.toInt64) hx hb dX6_make_1 rfl ?_
  refine lv_ldc2 (v := 2) hx hb hown (hts _ wq_X6_53) dX6_make_2 ?_
  refine lv_ldc2 (v := 7) hx hb hown (hts _ wq_X6_55) dX6_make_5 ?_
  refine cs_i (As := [.long v1.toInt64, .long 2, .long 7]) (rest := []) S.1 hw (k_X6_in l E Z M v1.toInt64 2 7 _ h) wv_X6_49 yc_X6_in ⟨rfl, rfl⟩ ⟨Nat.le_of_ble_eq_true rfl, Nat.le_of_ble_eq_true rfl⟩ rfl hl.1 (Nat.le_of_ble_eq_true rfl) ⟨Nat.le_of_ble_eq_true rfl, Nat.le_of_ble_eq_true rfl⟩ dX6_make_8 (fun r8 M8 H locs h hw => ?_)
  refine lv_if_eq (tgt := 40) hx hb dX6_make_11 (by decide) (fun q_11 => ?_) (fun q_11 => ?_)
  · have h := h.1 q_11
    exact ((wB_X6_make_40 S   _ _ h)) H locs ls hw (lv_sub hl [0] rfl)
  · have h := h.2 q_11
    refine lv_iload_n hx hb dX6_make_14 rfl (lv_at hl 2 rfl) ?_
    refine lv_i2l (v := v2.toInt64) hx hb dX6_make_15 rfl ?_
    refine lv_ldc2 (v := 2) hx hb hown (hts _ wq_X6_53) dX6_make_16 ?_
    refine lv_ldc2 (v := 7) hx hb hown (hts _ wq_X6_55) dX6_make_19 ?_
    refine cs_i (As := [.long v2.toInt64, .long 2, .long 7]) (rest := []) S.1 hw (k_X6_in l E Z M8 v2.toInt64 2 7 _ h) wv_X6_49 yc_X6_in ⟨rfl, rfl⟩ ⟨Nat.le_of_ble_eq_true rfl, Nat.le_of_ble_eq_true rfl⟩ rfl hl.1 (Nat.le_of_ble_eq_true rfl) ⟨Nat.le_of_ble_eq_true rfl, Nat.le_of_ble_eq_true rfl⟩ dX6_make_22 (fun r22 M22 H locs h hw => ?_)
    refine lv_if_eq (tgt := 40) hx hb dX6_make_25 (by decide) (fun q_25 => ?_) (fun q_25 => ?_)
    · have h := h.1 q_25
      exact ((wB_X6_make_40 S   _ _ h)) H locs ls hw (lv_sub hl [0] rfl)
    · have h := h.2 q_25
      refine lv_iload_n hx hb dX6_make_28 rfl (lv_at hl 3 rfl) ?_
      refine lv_i2l (v := v3.toInt64) hx hb dX6_make_29 rfl ?_
      refine lv_lconst (v := 0) hx hb dX6_make_30 (by decide) ?_
      refine lv_ldc2 (v := 50) hx hb hown (hts _ wq_X6_57) dX6_make_31 ?_
      refine cs_i (As := [.long v3.toInt64, .long 0, .long 50]) (rest := []) S.1 hw (k_X6_in l E Z M22 v3.toInt64 0 50 _ h) wv_X6_49 yc_X6_in ⟨rfl, rfl⟩ ⟨Nat.le_of_ble_eq_true rfl, Nat.le_of_ble_eq_true rfl⟩ rfl hl.1 (Nat.le_of_ble_eq_true rfl) ⟨Nat.le_of_ble_eq_true rfl, Nat.le_of_ble_eq_true rfl⟩ dX6_make_34 (fun r34 M34 H locs h hw => ?_)
      refine lv_if_ne (tgt := 46) hx hb dX6_make_37 (by decide) (fun q_37 => ?_) (fun q_37 => ?_)
      · have h := h.1 q_37
        refine lv_aload_n hx hb dX6_make_46 rfl (lv_at hl 0 rfl) ?_
        obtain ⟨k_0, h⟩ := h
        refine cv_v (As := []) (rest := []) S.1 hw (k_X6_save l E Z M34 a0  _ h) wv_X6_63 yc_X6_save ⟨rfl, rfl⟩ ⟨Nat.le_of_ble_eq_true rfl, Nat.le_of_ble_eq_true rfl⟩ rfl hl.1 (Nat.le_of_ble_eq_true rfl) (ci := 6) (q := (RX6, TX6, 12)) rfl rfl (by rw [k_0]; decide) (cell_6 k_0) ⟨Nat.le_of_ble_eq_true rfl, Nat.le_of_ble_eq_true rfl⟩ dX6_make_47 (fun M47 H locs h hw => ?_)
        refine lv_aload_n hx hb dX6_make_50 rfl (lv_at hl 0 rfl) ?_
        refine lv_iload_n hx hb dX6_make_51 rfl (lv_at hl 1 rfl) ?_
        refine lv_iload_n hx hb dX6_make_52 rfl (lv_at hl 2 rfl) ?_
        refine cv_v (As := [.int v1, .int v2]) (rest := []) S.1 hw (k_X6_makes l E Z M47 a0 v1 v2 _ h) wv_X6_31 yc_X6_makes ⟨rfl, rfl⟩ ⟨Nat.le_of_ble_eq_true rfl, Nat.le_of_ble_eq_true rfl⟩ rfl hl.1 (Nat.le_of_ble_eq_true rfl) (ci := 6) (q := (RX6, TX6, 12)) rfl rfl (by rw [k_0]; decide) (cell_6 k_0) ⟨Nat.le_of_ble_eq_true rfl, Nat.le_of_ble_eq_true rfl⟩ dX6_make_53 (fun M53 H locs h hw => ?_)
        refine lv_iconst (v := 0) hx hb dX6_make_56 (by decide) ?_
        refine lv_istore (lv' := [(4, .int 0), (0, .ref a0), (1, .int v1), (2, .int v2), (3, .int v3)]) hx hb dX6_make_57 hl (by decide) rfl (fun ls hl => ?_)
        exact ((Exists.elim h (fun n h => wL_X6_make_59 S   n _ _ _ _ _ _ h))) H locs ls hw (lv_sub hl [1, 2, 3, 4, 0] rfl)
      · have h := h.2 q_37
        exact ((wB_X6_make_40 S   _ _ h)) H locs ls hw (lv_sub hl [0] rfl)
set_option maxRecDepth 100000 in
set_option maxHeartbeats 4000000 in
theorem k_X6_make (l : Launch) (E : EE) (Z : ZZ) (M : MM) (a0 : Nat) (v1 : Int32) (v2 : Int32) (v3 : Int32) (Q : Int32 → MM → Prop) (h : P_X6_make Z M a0 v1 v2 v3 Q) : Ct_i l yX6_make cX6_make 5 (some .int) rm_X6_make E Z M [.ref a0, .int v1, .int v2, .int v3] Q := by
  refine Met.ofW (cc := cX6_make) (maxL := 5) (ret := some .int) (by decide) rfl ?_
  intro p e s m args below meth c s₁ B hml hv
  obtain ⟨rfl, hK, hP, hD, hZ⟩ := hv
  have S : Cx p m c meth cX6_make 5 s _ RX6 (some .int) := ⟨⟨B.exec, B.bytes, hml, findClass_of_methodNamed B.named, fun w hw => atoms_spec (ws := ws_ yX6_make cX6_make 5 (some .int)) B.pre w (List.mem_cons_of_mem _ hw)⟩, B.returns, B.notSynchronized⟩
  have hl := lv_entry ([.ref a0, .int v1, .int v2, .int v3]) (n := 5) (Nat.le_of_ble_eq_true rfl)
  rw [lg_entry_eq]
  generalize (lg_sl ([.ref a0, .int v1, .int v2, .int v3]) ++ List.replicate (5 - (lg_sl ([.ref a0, .int v1, .int v2, .int v3])).length) Slot.unset).toArray = ls at hl ⊢
  exact (wB_X6_make_0 S  M a0 v1 v2 v3 h) s.heap [] ls ⟨hK, hP, hD, va_S.rf, hZ⟩ hl
set_option maxRecDepth 100000 in
set_option maxHeartbeats 4000000 in
theorem wB_X6_lay_0 (S : Cx p m c meth cX6_lay 3 s args RX6 (some .int)) {Q : Int32 → MM → Prop}   (M : MM) (a0 : Nat) (v1 : Int32) (v2 : Int32) (h : B_X6_lay_0 Z Q  M a0 v1 v2) : WG p l e rm_X6_lay s m args below meth c 0 0 (MQi below E Z args s Q) E Z M 0 3 [(0, .ref a0), (1, .int v1), (2, .int v2)] [] := by
  intro H locs ls hw hl
  have hx := S.1.1
  have hb := S.1.2.1
  have hown := S.1.2.2.2.1
  have hts := S.1.2.2.2.2
  refine lv_aload_n hx hb dX6_lay_0 rfl (lv_at hl 0 rfl) ?_
  refine lv_iload_n hx hb dX6_lay_1 rfl (lv_at hl 1 rfl) ?_
  obtain ⟨k_0, h⟩ := h
  refine cv_i (As := [.int v1]) (rest := []) S.1 hw (k_X6_isCell l E Z M a0 v1 _ h) wv_X6_69 yc_X6_isCell ⟨rfl, rfl⟩ ⟨Nat.le_of_ble_eq_true rfl, Nat.le_of_ble_eq_true rfl⟩ rfl hl.1 (Nat.le_of_ble_eq_true rfl) (ci := 6) (q := (RX6, TX6, 12)) rfl rfl (by rw [k_0]; decide) (cell_6 k_0) ⟨Nat.le_of_ble_eq_true rfl, Nat.le_of_ble_eq_true rfl⟩ dX6_lay_2 (fun r2 M2 H locs h hw => ?_)
  refine lv_if_ne (tgt := 14) hx hb dX6_lay_5 (by decide) (fun q_5 => ?_) (fun q_5 => ?_)
  · have h := h.1 q_5
    refine lv_iload_n hx hb dX6_lay_14 rfl (lv_at hl 2 rfl) ?_
    refine lv_i2l (v := v2.toInt64) hx hb dX6_lay_15 rfl ?_
    refine lv_lconst (v := 1) hx hb dX6_lay_16 (by decide) ?_
    refine lv_ldc2 (v := 50) hx hb hown (hts _ wq_X6_57) dX6_lay_17 ?_
    refine cs_i (As := [.long v2.toInt64, .long 1, .long 50]) (rest := []) S.1 hw (k_X6_in l E Z M2 v2.toInt64 1 50 _ h) wv_X6_49 yc_X6_in ⟨rfl, rfl⟩ ⟨Nat.le_of_ble_eq_true rfl, Nat.le_of_ble_eq_true rfl⟩ rfl hl.1 (Nat.le_of_ble_eq_true rfl) ⟨Nat.le_of_ble_eq_true rfl, Nat.le_of_ble_eq_true rfl⟩ dX6_lay_20 (fun r20 M20 H locs h hw => ?_)
    refine lv_if_ne (tgt := 32) hx hb dX6_lay_23 (by decide) (fun q_23 => ?_) (fun q_23 => ?_)
    · have h := h.1 q_23
      refine lv_aload_n hx hb dX6_lay_32 rfl (lv_at hl 0 rfl) ?_
      obtain ⟨y33_1, hy_1, h⟩ := h
      refine gf_X6_7 S.1 hw k_0 hy_1 dX6_lay_33 ?_
      refine lv_bipush (v := 8) hx hb dX6_lay_36 (by decide) ?_
      refine lv_iload_n hx hb dX6_lay_38 rfl (lv_at hl 1 rfl) ?_
      refine lv_iadd hx hb dX6_lay_39 ?_
      obtain ⟨k_2, h⟩ := h
      obtain ⟨i_40, h⟩ := h
      refine wo_iald S.1 hw k_2 i_40 dX6_lay_40 ?_
      refine lv_iload_n hx hb dX6_lay_41 rfl (lv_at hl 2 rfl) ?_
      refine lv_iadd hx hb dX6_lay_42 ?_
      refine lv_bipush (v := 50) hx hb dX6_lay_43 (by decide) ?_
      refine lv_icmp_le (tgt := 54) hx hb dX6_lay_45 (by decide) (fun q_45 => ?_) (fun q_45 => ?_)
      · have h := h.1 q_45
        refine lv_aload_n hx hb dX6_lay_54 rfl (lv_at hl 0 rfl) ?_
        refine cv_v (As := []) (rest := []) S.1 hw (k_X6_save l E Z M20 a0  _ h) wv_X6_63 yc_X6_save ⟨rfl, rfl⟩ ⟨Nat.le_of_ble_eq_true rfl, Nat.le_of_ble_eq_true rfl⟩ rfl hl.1 (Nat.le_of_ble_eq_true rfl) (ci := 6) (q := (RX6, TX6, 12)) rfl rfl (by rw [k_0]; decide) (cell_6 k_0) ⟨Nat.le_of_ble_eq_true rfl, Nat.le_of_ble_eq_true rfl⟩ dX6_lay_55 (fun M55 H locs h hw => ?_)
        refine lv_aload_n hx hb dX6_lay_58 rfl (lv_at hl 0 rfl) ?_
        refine lv_iload_n hx hb dX6_lay_59 rfl (lv_at hl 1 rfl) ?_
        refine lv_iload_n hx hb dX6_lay_60 rfl (lv_at hl 2 rfl) ?_
        refine cv_v (As := [.int v1, .int v2]) (rest := []) S.1 hw (k_X6_puts l E Z M55 a0 v1 v2 _ h) wv_X6_35 yc_X6_puts ⟨rfl, rfl⟩ ⟨Nat.le_of_ble_eq_true rfl, Nat.le_of_ble_eq_true rfl⟩ rfl hl.1 (Nat.le_of_ble_eq_true rfl) (ci := 6) (q := (RX6, TX6, 12)) rfl rfl (by rw [k_0]; decide) (cell_6 k_0) ⟨Nat.le_of_ble_eq_true rfl, Nat.le_of_ble_eq_true rfl⟩ dX6_lay_61 (fun M61 H locs h hw => ?_)
        refine lv_aload_n hx hb dX6_lay_64 rfl (lv_at hl 0 rfl) ?_
        refine lv_aload_n hx hb dX6_lay_65 rfl (lv_at hl 0 rfl) ?_
        refine gf_X6_7 S.1 hw k_0 hy_1 dX6_lay_66 ?_
        refine lv_bipush (v := 8) hx hb dX6_lay_69 (by decide) ?_
        refine lv_iload_n hx hb dX6_lay_71 rfl (lv_at hl 1 rfl) ?_
        refine lv_iadd hx hb dX6_lay_72 ?_
        obtain ⟨i_73, h⟩ := h
        refine wo_iald S.1 hw k_2 i_73 dX6_lay_73 ?_
        refine cv_i (As := [.int (mA M61 y33_1 (8 + v1).toNatClampNeg)]) (rest := []) S.1 hw (k_X6_fine l E Z M61 a0 (mA M61 y33_1 (8 + v1).toNatClampNeg) _ h) wv_X6_66 yc_X6_fine ⟨rfl, rfl⟩ ⟨Nat.le_of_ble_eq_true rfl, Nat.le_of_ble_eq_true rfl⟩ rfl hl.1 (Nat.le_of_ble_eq_true rfl) (ci := 6) (q := (RX6, TX6, 12)) rfl rfl (by rw [k_0]; decide) (cell_6 k_0) ⟨Nat.le_of_ble_eq_true rfl, Nat.le_of_ble_eq_true rfl⟩ dX6_lay_74 (fun r74 M74 H locs h hw => ?_)
        exact we_i S hw h dX6_lay_77
      · have h := h.2 q_45
        refine lv_aload_n hx hb dX6_lay_48 rfl (lv_at hl 0 rfl) ?_
        refine lv_iconst (v := 3) hx hb dX6_lay_49 (by decide) ?_
        refine cv_i (As := [.int 3]) (rest := []) S.1 hw (k_X6_throwing l E Z M20 a0 3 _ h) wv_X6_59 yc_X6_throwing ⟨rfl, rfl⟩ ⟨Nat.le_of_ble_eq_true rfl, Nat.le_of_ble_eq_true rfl⟩ rfl hl.1 (Nat.le_of_ble_eq_true rfl) (ci := 6) (q := (RX6, TX6, 12)) rfl rfl (by rw [k_0]; decide) (cell_6 k_0) ⟨Nat.le_of_ble_eq_true rfl, Nat.le_of_ble_eq_true rfl⟩ dX6_lay_50 (fun r50 M50 H locs h hw => ?_)
        exact we_i S hw h dX6_lay_53
    · have h := h.2 q_23
      refine lv_aload_n hx hb dX6_lay_26 rfl (lv_at hl 0 rfl) ?_
      refine lv_iconst (v := 2) hx hb dX6_lay_27 (by decide) ?_
      refine cv_i (As := [.int 2]) (rest := []) S.1 hw (k_X6_throwing l E Z M20 a0 2 _ h) wv_X6_59 yc_X6_throwing ⟨rfl, rfl⟩ ⟨Nat.le_of_ble_eq_true rfl, Nat.le_of_ble_eq_true rfl⟩ rfl hl.1 (Nat.le_of_ble_eq_true rfl) (ci := 6) (q := (RX6, TX6, 12)) rfl rfl (by rw [k_0]; decide) (cell_6 k_0) ⟨Nat.le_of_ble_eq_true rfl, Nat.le_of_ble_eq_true rfl⟩ dX6_lay_28 (fun r28 M28 H locs h hw => ?_)
      exact we_i S hw h dX6_lay_31
  · have h := h.2 q_5
    refine lv_aload_n hx hb dX6_lay_8 rfl (lv_at hl 0 rfl) ?_
    refine lv_iconst (v := 1) hx hb dX6_lay_9 (by decide) ?_
    refine cv_i (As := [.int 1]) (rest := []) S.1 hw (k_X6_throwing l E Z M2 a0 1 _ h) wv_X6_59 yc_X6_throwing ⟨rfl, rfl⟩ ⟨Nat.le_of_ble_eq_true rfl, Nat.le_of_ble_eq_true rfl⟩ rfl hl.1 (Nat.le_of_ble_eq_true rfl) (ci := 6) (q := (RX6, TX6, 12)) rfl rfl (by rw [k_0]; decide) (cell_6 k_0) ⟨Nat.le_of_ble_eq_true rfl, Nat.le_of_ble_eq_true rfl⟩ dX6_lay_10 (fun r10 M10 H locs h hw => ?_)
    exact we_i S hw h dX6_lay_13
set_option maxRecDepth 100000 in
set_option maxHeartbeats 4000000 in
theorem k_X6_lay (l : Launch) (E : EE) (Z : ZZ) (M : MM) (a0 : Nat) (v1 : Int32) (v2 : Int32) (Q : Int32 → MM → Prop) (h : P_X6_lay Z M a0 v1 v2 Q) : Ct_i l yX6_lay cX6_lay 3 (some .int) rm_X6_lay E Z M [.ref a0, .int v1, .int v2] Q := by
  refine Met.ofW (cc := cX6_lay) (maxL := 3) (ret := some .int) (by decide) rfl ?_
  intro p e s m args below meth c s₁ B hml hv
  obtain ⟨rfl, hK, hP, hD, hZ⟩ := hv
  have S : Cx p m c meth cX6_lay 3 s _ RX6 (some .int) := ⟨⟨B.exec, B.bytes, hml, findClass_of_methodNamed B.named, fun w hw => atoms_spec (ws := ws_ yX6_lay cX6_lay 3 (some .int)) B.pre w (List.mem_cons_of_mem _ hw)⟩, B.returns, B.notSynchronized⟩
  have hl := lv_entry ([.ref a0, .int v1, .int v2]) (n := 3) (Nat.le_of_ble_eq_true rfl)
  rw [lg_entry_eq]
  generalize (lg_sl ([.ref a0, .int v1, .int v2]) ++ List.replicate (3 - (lg_sl ([.ref a0, .int v1, .int v2])).length) Slot.unset).toArray = ls at hl ⊢
  exact (wB_X6_lay_0 S  M a0 v1 v2 h) s.heap [] ls ⟨hK, hP, hD, va_S.rf, hZ⟩ hl
set_option maxRecDepth 100000 in
set_option maxHeartbeats 4000000 in
theorem wB_X6_canSaw_0 (S : Cx p m c meth cX6_canSaw 3 s args RX6 (some .boolean)) {Q : Int32 → MM → Prop}   (M : MM) (a0 : Nat) (v1 : Int32) (v2 : Int32) (h : B_X6_canSaw_0 Z Q  M a0 v1 v2) : WG p l e rm_X6_canSaw s m args below meth c 0 0 (MQi below E Z args s Q) E Z M 0 3 [(0, .ref a0), (1, .int v1), (2, .int v2)] [] := by
  intro H locs ls hw hl
  have hx := S.1.1
  have hb := S.1.2.1
  refine lv_iload_n hx hb dX6_canSaw_0 rfl (lv_at hl 2 rfl) ?_
  by_cases q_1_0 : v2 = 0
  · have h := h.1 q_1_0
    refine lv_tableIn (tgt := 32) hx hb dX6_canSaw_1 (by rw [q_1_0]; decide) (by rw [q_1_0]; decide) (by rw [q_1_0]; rfl) (by decide) ?_
    refine lv_aload_n hx hb dX6_canSaw_32 rfl (lv_at hl 0 rfl) ?_
    refine lv_iload_n hx hb dX6_canSaw_33 rfl (lv_at hl 1 rfl) ?_
    obtain ⟨k_0, h⟩ := h
    refine cv_i (As := [.int v1]) (rest := []) S.1 hw (k_X6_column l E Z M a0 v1 _ h) wv_X6_73 yc_X6_column ⟨rfl, rfl⟩ ⟨Nat.le_of_ble_eq_true rfl, Nat.le_of_ble_eq_true rfl⟩ rfl hl.1 (Nat.le_of_ble_eq_true rfl) (ci := 6) (q := (RX6, TX6, 12)) rfl rfl (by rw [k_0]; decide) (cell_6 k_0) ⟨Nat.le_of_ble_eq_true rfl, Nat.le_of_ble_eq_true rfl⟩ dX6_canSaw_34 (fun r34 M34 H locs h hw => ?_)
    refine lv_aload_n hx hb dX6_canSaw_37 rfl (lv_at hl 0 rfl) ?_
    obtain ⟨y38_1, hy_1, h⟩ := h
    refine gf_X6_7 S.1 hw k_0 hy_1 dX6_canSaw_38 ?_
    refine lv_iconst (v := 0) hx hb dX6_canSaw_41 (by decide) ?_
    obtain ⟨k_2, h⟩ := h
    obtain ⟨i_42, h⟩ := h
    refine wo_iald S.1 hw k_2 i_42 dX6_canSaw_42 ?_
    refine lv_iconst (v := 1) hx hb dX6_canSaw_43 (by decide) ?_
    refine lv_isub hx hb dX6_canSaw_44 ?_
    refine lv_icmp_ge (tgt := 52) hx hb dX6_canSaw_45 (by decide) (fun q_45 => ?_) (fun q_45 => ?_)
    · have h := h.1 q_45
      refine lv_iconst (v := 0) hx hb dX6_canSaw_52 (by decide) ?_
      exact we_z S hw rfl (by rfl) h dX6_canSaw_53
    · have h := h.2 q_45
      refine lv_iconst (v := 1) hx hb dX6_canSaw_48 (by decide) ?_
      refine lv_goto (tgt := 53) hx hb dX6_canSaw_49 (by decide) ?_
      exact we_z S hw rfl (by rfl) h dX6_canSaw_53
  · have h := h.2 q_1_0
    by_cases q_1_1 : v2 = 1
    · have h := h.1 q_1_1
      refine lv_tableIn (tgt := 54) hx hb dX6_canSaw_1 (by rw [q_1_1]; decide) (by rw [q_1_1]; decide) (by rw [q_1_1]; rfl) (by decide) ?_
      refine lv_aload_n hx hb dX6_canSaw_54 rfl (lv_at hl 0 rfl) ?_
      refine lv_iload_n hx hb dX6_canSaw_55 rfl (lv_at hl 1 rfl) ?_
      obtain ⟨k_3, h⟩ := h
      refine cv_i (As := [.int v1]) (rest := []) S.1 hw (k_X6_row l E Z M a0 v1 _ h) wv_X6_76 yc_X6_row ⟨rfl, rfl⟩ ⟨Nat.le_of_ble_eq_true rfl, Nat.le_of_ble_eq_true rfl⟩ rfl hl.1 (Nat.le_of_ble_eq_true rfl) (ci := 6) (q := (RX6, TX6, 12)) rfl rfl (by rw [k_3]; decide) (cell_6 k_3) ⟨Nat.le_of_ble_eq_true rfl, Nat.le_of_ble_eq_true rfl⟩ dX6_canSaw_56 (fun r56 M56 H locs h hw => ?_)
      refine lv_aload_n hx hb dX6_canSaw_59 rfl (lv_at hl 0 rfl) ?_
      obtain ⟨y60_4, hy_4, h⟩ := h
      refine gf_X6_7 S.1 hw k_3 hy_4 dX6_canSaw_60 ?_
      refine lv_iconst (v := 1) hx hb dX6_canSaw_63 (by decide) ?_
      obtain ⟨k_5, h⟩ := h
      obtain ⟨i_64, h⟩ := h
      refine wo_iald S.1 hw k_5 i_64 dX6_canSaw_64 ?_
      refine lv_iconst (v := 1) hx hb dX6_canSaw_65 (by decide) ?_
      refine lv_isub hx hb dX6_canSaw_66 ?_
      refine lv_icmp_ge (tgt := 74) hx hb dX6_canSaw_67 (by decide) (fun q_67 => ?_) (fun q_67 => ?_)
      · have h := h.1 q_67
        refine lv_iconst (v := 0) hx hb dX6_canSaw_74 (by decide) ?_
        exact we_z S hw rfl (by rfl) h dX6_canSaw_75
      · have h := h.2 q_67
        refine lv_iconst (v := 1) hx hb dX6_canSaw_70 (by decide) ?_
        refine lv_goto (tgt := 75) hx hb dX6_canSaw_71 (by decide) ?_
        exact we_z S hw rfl (by rfl) h dX6_canSaw_75
    · have h := h.2 q_1_1
      by_cases q_1_2 : v2 = 2
      · have h := h.1 q_1_2
        refine lv_tableIn (tgt := 90) hx hb dX6_canSaw_1 (by rw [q_1_2]; decide) (by rw [q_1_2]; decide) (by rw [q_1_2]; rfl) (by decide) ?_
        refine lv_iconst (v := 1) hx hb dX6_canSaw_90 (by decide) ?_
        exact we_z S hw rfl (by rfl) h dX6_canSaw_91
      · have h := h.2 q_1_2
        by_cases q_1_3 : v2 = 3
        · have h := h.1 q_1_3
          refine lv_tableIn (tgt := 76) hx hb dX6_canSaw_1 (by rw [q_1_3]; decide) (by rw [q_1_3]; decide) (by rw [q_1_3]; rfl) (by decide) ?_
          refine lv_aload_n hx hb dX6_canSaw_76 rfl (lv_at hl 0 rfl) ?_
          refine lv_iload_n hx hb dX6_canSaw_77 rfl (lv_at hl 1 rfl) ?_
          obtain ⟨k_6, h⟩ := h
          refine cv_i (As := [.int v1]) (rest := []) S.1 hw (k_X6_column l E Z M a0 v1 _ h) wv_X6_73 yc_X6_column ⟨rfl, rfl⟩ ⟨Nat.le_of_ble_eq_true rfl, Nat.le_of_ble_eq_true rfl⟩ rfl hl.1 (Nat.le_of_ble_eq_true rfl) (ci := 6) (q := (RX6, TX6, 12)) rfl rfl (by rw [k_6]; decide) (cell_6 k_6) ⟨Nat.le_of_ble_eq_true rfl, Nat.le_of_ble_eq_true rfl⟩ dX6_canSaw_78 (fun r78 M78 H locs h hw => ?_)
          refine lv_if_le (tgt := 88) hx hb dX6_canSaw_81 (by decide) (fun q_81 => ?_) (fun q_81 => ?_)
          · have h := h.1 q_81
            refine lv_iconst (v := 0) hx hb dX6_canSaw_88 (by decide) ?_
            exact we_z S hw rfl (by rfl) h dX6_canSaw_89
          · have h := h.2 q_81
            refine lv_iconst (v := 1) hx hb dX6_canSaw_84 (by decide) ?_
            refine lv_goto (tgt := 89) hx hb dX6_canSaw_85 (by decide) ?_
            exact we_z S hw rfl (by rfl) h dX6_canSaw_89
        · have h := h.2 q_1_3
          have t_0 := lv_neT q_1_0 (a := 0) rfl
          have t_1 := lv_neT q_1_1 (a := 1) rfl
          have t_2 := lv_neT q_1_2 (a := 2) rfl
          have t_3 := lv_neT q_1_3 (a := 3) rfl
          refine lv_tableOut (tgt := 90) hx hb dX6_canSaw_1 (by omega) (by decide) ?_
          refine lv_iconst (v := 1) hx hb dX6_canSaw_90 (by decide) ?_
          exact we_z S hw rfl (by rfl) h dX6_canSaw_91
set_option maxRecDepth 100000 in
set_option maxHeartbeats 4000000 in
theorem k_X6_canSaw (l : Launch) (E : EE) (Z : ZZ) (M : MM) (a0 : Nat) (v1 : Int32) (v2 : Int32) (Q : Int32 → MM → Prop) (h : P_X6_canSaw Z M a0 v1 v2 Q) : Ct_i l yX6_canSaw cX6_canSaw 3 (some .boolean) rm_X6_canSaw E Z M [.ref a0, .int v1, .int v2] Q := by
  refine Met.ofW (cc := cX6_canSaw) (maxL := 3) (ret := some .boolean) (by decide) rfl ?_
  intro p e s m args below meth c s₁ B hml hv
  obtain ⟨rfl, hK, hP, hD, hZ⟩ := hv
  have S : Cx p m c meth cX6_canSaw 3 s _ RX6 (some .boolean) := ⟨⟨B.exec, B.bytes, hml, findClass_of_methodNamed B.named, fun w hw => atoms_spec (ws := ws_ yX6_canSaw cX6_canSaw 3 (some .boolean)) B.pre w (List.mem_cons_of_mem _ hw)⟩, B.returns, B.notSynchronized⟩
  have hl := lv_entry ([.ref a0, .int v1, .int v2]) (n := 3) (Nat.le_of_ble_eq_true rfl)
  rw [lg_entry_eq]
  generalize (lg_sl ([.ref a0, .int v1, .int v2]) ++ List.replicate (3 - (lg_sl ([.ref a0, .int v1, .int v2])).length) Slot.unset).toArray = ls at hl ⊢
  exact (wB_X6_canSaw_0 S  M a0 v1 v2 h) s.heap [] ls ⟨hK, hP, hD, va_S.rf, hZ⟩ hl
set_option maxRecDepth 100000 in
set_option maxHeartbeats 4000000 in
theorem wB_X6_keeper_0 (S : Cx p m c meth cX6_keeper 3 s args RX6 (some .int)) {Q : Int32 → MM → Prop}   (M : MM) (a0 : Nat) (v1 : Int32) (v2 : Int32) (h : B_X6_keeper_0 Z Q  M a0 v1 v2) : WG p l e rm_X6_keeper s m args below meth c 0 0 (MQi below E Z args s Q) E Z M 0 3 [(0, .ref a0), (1, .int v1), (2, .int v2)] [] := by
  intro H locs ls hw hl
  have hx := S.1.1
  have hb := S.1.2.1
  refine lv_iload_n hx hb dX6_keeper_0 rfl (lv_at hl 2 rfl) ?_
  refine lv_iconst (v := 3) hx hb dX6_keeper_1 (by decide) ?_
  refine lv_icmp_ne (tgt := 11) hx hb dX6_keeper_2 (by decide) (fun q_2 => ?_) (fun q_2 => ?_)
  · have h := h.1 q_2
    refine lv_iload_n hx hb dX6_keeper_11 rfl (lv_at hl 2 rfl) ?_
    refine lv_iconst (v := 2) hx hb dX6_keeper_12 (by decide) ?_
    refine lv_icmp_ne (tgt := 35) hx hb dX6_keeper_13 (by decide) (fun q_13 => ?_) (fun q_13 => ?_)
    · have h := h.1 q_13
      refine lv_iload_n hx hb dX6_keeper_35 rfl (lv_at hl 1 rfl) ?_
      exact we_i S hw h dX6_keeper_36
    · have h := h.2 q_13
      refine lv_aload_n hx hb dX6_keeper_16 rfl (lv_at hl 0 rfl) ?_
      refine lv_iload_n hx hb dX6_keeper_17 rfl (lv_at hl 1 rfl) ?_
      obtain ⟨k_0, h⟩ := h
      refine cv_i (As := [.int v1]) (rest := []) S.1 hw (k_X6_row l E Z M a0 v1 _ h) wv_X6_76 yc_X6_row ⟨rfl, rfl⟩ ⟨Nat.le_of_ble_eq_true rfl, Nat.le_of_ble_eq_true rfl⟩ rfl hl.1 (Nat.le_of_ble_eq_true rfl) (ci := 6) (q := (RX6, TX6, 12)) rfl rfl (by rw [k_0]; decide) (cell_6 k_0) ⟨Nat.le_of_ble_eq_true rfl, Nat.le_of_ble_eq_true rfl⟩ dX6_keeper_18 (fun r18 M18 H locs h hw => ?_)
      refine lv_if_le (tgt := 35) hx hb dX6_keeper_21 (by decide) (fun q_21 => ?_) (fun q_21 => ?_)
      · have h := h.1 q_21
        refine lv_iload_n hx hb dX6_keeper_35 rfl (lv_at hl 1 rfl) ?_
        exact we_i S hw h dX6_keeper_36
      · have h := h.2 q_21
        refine lv_iload_n hx hb dX6_keeper_24 rfl (lv_at hl 1 rfl) ?_
        refine lv_aload_n hx hb dX6_keeper_25 rfl (lv_at hl 0 rfl) ?_
        obtain ⟨y26_1, hy_1, h⟩ := h
        refine gf_X6_7 S.1 hw k_0 hy_1 dX6_keeper_26 ?_
        refine lv_iconst (v := 0) hx hb dX6_keeper_29 (by decide) ?_
        obtain ⟨k_2, h⟩ := h
        obtain ⟨i_30, h⟩ := h
        refine wo_iald S.1 hw k_2 i_30 dX6_keeper_30 ?_
        refine lv_isub hx hb dX6_keeper_31 ?_
        refine lv_goto (tgt := 36) hx hb dX6_keeper_32 (by decide) ?_
        exact we_i S hw h dX6_keeper_36
  · have h := h.2 q_2
    refine lv_iload_n hx hb dX6_keeper_5 rfl (lv_at hl 1 rfl) ?_
    refine lv_iconst (v := 1) hx hb dX6_keeper_6 (by decide) ?_
    refine lv_isub hx hb dX6_keeper_7 ?_
    refine lv_goto (tgt := 36) hx hb dX6_keeper_8 (by decide) ?_
    exact we_i S hw h dX6_keeper_36
set_option maxRecDepth 100000 in
set_option maxHeartbeats 4000000 in
theorem k_X6_keeper (l : Launch) (E : EE) (Z : ZZ) (M : MM) (a0 : Nat) (v1 : Int32) (v2 : Int32) (Q : Int32 → MM → Prop) (h : P_X6_keeper Z M a0 v1 v2 Q) : Ct_i l yX6_keeper cX6_keeper 3 (some .int) rm_X6_keeper E Z M [.ref a0, .int v1, .int v2] Q := by
  refine Met.ofW (cc := cX6_keeper) (maxL := 3) (ret := some .int) (by decide) rfl ?_
  intro p e s m args below meth c s₁ B hml hv
  obtain ⟨rfl, hK, hP, hD, hZ⟩ := hv
  have S : Cx p m c meth cX6_keeper 3 s _ RX6 (some .int) := ⟨⟨B.exec, B.bytes, hml, findClass_of_methodNamed B.named, fun w hw => atoms_spec (ws := ws_ yX6_keeper cX6_keeper 3 (some .int)) B.pre w (List.mem_cons_of_mem _ hw)⟩, B.returns, B.notSynchronized⟩
  have hl := lv_entry ([.ref a0, .int v1, .int v2]) (n := 3) (Nat.le_of_ble_eq_true rfl)
  rw [lg_entry_eq]
  generalize (lg_sl ([.ref a0, .int v1, .int v2]) ++ List.replicate (3 - (lg_sl ([.ref a0, .int v1, .int v2])).length) Slot.unset).toArray = ls at hl ⊢
  exact (wB_X6_keeper_0 S  M a0 v1 v2 h) s.heap [] ls ⟨hK, hP, hD, va_S.rf, hZ⟩ hl
set_option maxRecDepth 100000 in
set_option maxHeartbeats 4000000 in
theorem wB_X6_bit_0 (S : Cx p m c meth cX6_bit 3 s args RX6 (some .int)) {Q : Int32 → MM → Prop}   (M : MM) (a0 : Nat) (v1 : Int32) (v2 : Int32) (h : B_X6_bit_0 Z Q  M a0 v1 v2) : WG p l e rm_X6_bit s m args below meth c 0 0 (MQi below E Z args s Q) E Z M 0 3 [(0, .ref a0), (1, .int v1), (2, .int v2)] [] := by
  intro H locs ls hw hl
  have hx := S.1.1
  have hb := S.1.2.1
  refine lv_iload_n hx hb dX6_bit_0 rfl (lv_at hl 2 rfl) ?_
  refine lv_if_eq (tgt := 9) hx hb dX6_bit_1 (by decide) (fun q_1 => ?_) (fun q_1 => ?_)
  · have h := h.1 q_1
    refine lv_iconst (v := 1) hx hb dX6_bit_9 (by decide) ?_
    refine lv_goto (tgt := 31) hx hb dX6_bit_10 (by decide) ?_
    exact we_i S hw h dX6_bit_31
  · have h := h.2 q_1
    refine lv_iload_n hx hb dX6_bit_4 rfl (lv_at hl 2 rfl) ?_
    refine lv_iconst (v := 3) hx hb dX6_bit_5 (by decide) ?_
    refine lv_icmp_ne (tgt := 13) hx hb dX6_bit_6 (by decide) (fun q_6 => ?_) (fun q_6 => ?_)
    · have h := h.1 q_6
      refine lv_iload_n hx hb dX6_bit_13 rfl (lv_at hl 2 rfl) ?_
      refine lv_iconst (v := 1) hx hb dX6_bit_14 (by decide) ?_
      refine lv_icmp_eq (tgt := 26) hx hb dX6_bit_15 (by decide) (fun q_15 => ?_) (fun q_15 => ?_)
      · have h := h.1 q_15
        refine lv_iconst (v := 2) hx hb dX6_bit_26 (by decide) ?_
        refine lv_goto (tgt := 31) hx hb dX6_bit_27 (by decide) ?_
        exact we_i S hw h dX6_bit_31
      · have h := h.2 q_15
        refine lv_aload_n hx hb dX6_bit_18 rfl (lv_at hl 0 rfl) ?_
        refine lv_iload_n hx hb dX6_bit_19 rfl (lv_at hl 1 rfl) ?_
        obtain ⟨k_0, h⟩ := h
        refine cv_i (As := [.int v1]) (rest := []) S.1 hw (k_X6_row l E Z M a0 v1 _ h) wv_X6_76 yc_X6_row ⟨rfl, rfl⟩ ⟨Nat.le_of_ble_eq_true rfl, Nat.le_of_ble_eq_true rfl⟩ rfl hl.1 (Nat.le_of_ble_eq_true rfl) (ci := 6) (q := (RX6, TX6, 12)) rfl rfl (by rw [k_0]; decide) (cell_6 k_0) ⟨Nat.le_of_ble_eq_true rfl, Nat.le_of_ble_eq_true rfl⟩ dX6_bit_20 (fun r20 M20 H locs h hw => ?_)
        refine lv_if_le (tgt := 30) hx hb dX6_bit_23 (by decide) (fun q_23 => ?_) (fun q_23 => ?_)
        · have h := h.1 q_23
          refine lv_iconst (v := 4) hx hb dX6_bit_30 (by decide) ?_
          exact we_i S hw h dX6_bit_31
        · have h := h.2 q_23
          refine lv_iconst (v := 2) hx hb dX6_bit_26 (by decide) ?_
          refine lv_goto (tgt := 31) hx hb dX6_bit_27 (by decide) ?_
          exact we_i S hw h dX6_bit_31
    · have h := h.2 q_6
      refine lv_iconst (v := 1) hx hb dX6_bit_9 (by decide) ?_
      refine lv_goto (tgt := 31) hx hb dX6_bit_10 (by decide) ?_
      exact we_i S hw h dX6_bit_31
set_option maxRecDepth 100000 in
set_option maxHeartbeats 4000000 in
theorem k_X6_bit (l : Launch) (E : EE) (Z : ZZ) (M : MM) (a0 : Nat) (v1 : Int32) (v2 : Int32) (Q : Int32 → MM → Prop) (h : P_X6_bit Z M a0 v1 v2 Q) : Ct_i l yX6_bit cX6_bit 3 (some .int) rm_X6_bit E Z M [.ref a0, .int v1, .int v2] Q := by
  refine Met.ofW (cc := cX6_bit) (maxL := 3) (ret := some .int) (by decide) rfl ?_
  intro p e s m args below meth c s₁ B hml hv
  obtain ⟨rfl, hK, hP, hD, hZ⟩ := hv
  have S : Cx p m c meth cX6_bit 3 s _ RX6 (some .int) := ⟨⟨B.exec, B.bytes, hml, findClass_of_methodNamed B.named, fun w hw => atoms_spec (ws := ws_ yX6_bit cX6_bit 3 (some .int)) B.pre w (List.mem_cons_of_mem _ hw)⟩, B.returns, B.notSynchronized⟩
  have hl := lv_entry ([.ref a0, .int v1, .int v2]) (n := 3) (Nat.le_of_ble_eq_true rfl)
  rw [lg_entry_eq]
  generalize (lg_sl ([.ref a0, .int v1, .int v2]) ++ List.replicate (3 - (lg_sl ([.ref a0, .int v1, .int v2])).length) Slot.unset).toArray = ls at hl ⊢
  exact (wB_X6_bit_0 S  M a0 v1 v2 h) s.heap [] ls ⟨hK, hP, hD, va_S.rf, hZ⟩ hl
set_option maxRecDepth 100000 in
set_option maxHeartbeats 4000000 in
theorem wB_X6_isCut_0 (S : Cx p m c meth cX6_isCut 3 s args RX6 (some .boolean)) {Q : Int32 → MM → Prop}   (M : MM) (a0 : Nat) (v1 : Int32) (v2 : Int32) (h : B_X6_isCut_0 Z Q  M a0 v1 v2) : WG p l e rm_X6_isCut s m args below meth c 0 0 (MQi below E Z args s Q) E Z M 0 3 [(0, .ref a0), (1, .int v1), (2, .int v2)] [] := by
  intro H locs ls hw hl
  have hx := S.1.1
  have hb := S.1.2.1
  refine lv_aload_n hx hb dX6_isCut_0 rfl (lv_at hl 0 rfl) ?_
  refine lv_iload_n hx hb dX6_isCut_1 rfl (lv_at hl 1 rfl) ?_
  refine lv_iload_n hx hb dX6_isCut_2 rfl (lv_at hl 2 rfl) ?_
  obtain ⟨k_0, h⟩ := h
  refine cv_i (As := [.int v1, .int v2]) (rest := []) S.1 hw (k_X6_canSaw l E Z M a0 v1 v2 _ h) wv_X6_79 yc_X6_canSaw ⟨rfl, rfl⟩ ⟨Nat.le_of_ble_eq_true rfl, Nat.le_of_ble_eq_true rfl⟩ rfl hl.1 (Nat.le_of_ble_eq_true rfl) (ci := 6) (q := (RX6, TX6, 12)) rfl rfl (by rw [k_0]; decide) (cell_6 k_0) ⟨Nat.le_of_ble_eq_true rfl, Nat.le_of_ble_eq_true rfl⟩ dX6_isCut_3 (fun r3 M3 H locs h hw => ?_)
  refine lv_if_eq (tgt := 37) hx hb dX6_isCut_6 (by decide) (fun q_6 => ?_) (fun q_6 => ?_)
  · have h := h.1 q_6
    refine lv_iconst (v := 0) hx hb dX6_isCut_37 (by decide) ?_
    exact we_z S hw rfl (by rfl) h dX6_isCut_38
  · have h := h.2 q_6
    refine lv_aload_n hx hb dX6_isCut_9 rfl (lv_at hl 0 rfl) ?_
    obtain ⟨y10_1, hy_1, h⟩ := h
    refine gf_X6_7 S.1 hw k_0 hy_1 dX6_isCut_10 ?_
    refine lv_bipush (v := 57) hx hb dX6_isCut_13 (by decide) ?_
    refine lv_aload_n hx hb dX6_isCut_15 rfl (lv_at hl 0 rfl) ?_
    refine lv_iload_n hx hb dX6_isCut_16 rfl (lv_at hl 1 rfl) ?_
    refine lv_iload_n hx hb dX6_isCut_17 rfl (lv_at hl 2 rfl) ?_
    refine cv_i (As := [.int v1, .int v2]) (rest := [.int 57, .ref y10_1]) S.1 hw (k_X6_keeper l E Z M3 a0 v1 v2 _ h) wv_X6_83 yc_X6_keeper ⟨rfl, rfl⟩ ⟨Nat.le_of_ble_eq_true rfl, Nat.le_of_ble_eq_true rfl⟩ rfl hl.1 (Nat.le_of_ble_eq_true rfl) (ci := 6) (q := (RX6, TX6, 12)) rfl rfl (by rw [k_0]; decide) (cell_6 k_0) ⟨Nat.le_of_ble_eq_true rfl, Nat.le_of_ble_eq_true rfl⟩ dX6_isCut_18 (fun r18 M18 H locs h hw => ?_)
    refine lv_iadd hx hb dX6_isCut_21 ?_
    obtain ⟨k_2, h⟩ := h
    obtain ⟨i_22, h⟩ := h
    refine wo_iald S.1 hw k_2 i_22 dX6_isCut_22 ?_
    refine lv_aload_n hx hb dX6_isCut_23 rfl (lv_at hl 0 rfl) ?_
    refine lv_iload_n hx hb dX6_isCut_24 rfl (lv_at hl 1 rfl) ?_
    refine lv_iload_n hx hb dX6_isCut_25 rfl (lv_at hl 2 rfl) ?_
    refine cv_i (As := [.int v1, .int v2]) (rest := [.int (mA M18 y10_1 (57 + r18).toNatClampNeg)]) S.1 hw (k_X6_bit l E Z M18 a0 v1 v2 _ h) wv_X6_87 yc_X6_bit ⟨rfl, rfl⟩ ⟨Nat.le_of_ble_eq_true rfl, Nat.le_of_ble_eq_true rfl⟩ rfl hl.1 (Nat.le_of_ble_eq_true rfl) (ci := 6) (q := (RX6, TX6, 12)) rfl rfl (by rw [k_0]; decide) (cell_6 k_0) ⟨Nat.le_of_ble_eq_true rfl, Nat.le_of_ble_eq_true rfl⟩ dX6_isCut_26 (fun r26 M26 H locs h hw => ?_)
    refine lv_iand hx hb dX6_isCut_29 ?_
    refine lv_if_eq (tgt := 37) hx hb dX6_isCut_30 (by decide) (fun q_30 => ?_) (fun q_30 => ?_)
    · have h := h.1 q_30
      refine lv_iconst (v := 0) hx hb dX6_isCut_37 (by decide) ?_
      exact we_z S hw rfl (by rfl) h dX6_isCut_38
    · have h := h.2 q_30
      refine lv_iconst (v := 1) hx hb dX6_isCut_33 (by decide) ?_
      refine lv_goto (tgt := 38) hx hb dX6_isCut_34 (by decide) ?_
      exact we_z S hw rfl (by rfl) h dX6_isCut_38
set_option maxRecDepth 100000 in
set_option maxHeartbeats 4000000 in
theorem k_X6_isCut (l : Launch) (E : EE) (Z : ZZ) (M : MM) (a0 : Nat) (v1 : Int32) (v2 : Int32) (Q : Int32 → MM → Prop) (h : P_X6_isCut Z M a0 v1 v2 Q) : Ct_i l yX6_isCut cX6_isCut 3 (some .boolean) rm_X6_isCut E Z M [.ref a0, .int v1, .int v2] Q := by
  refine Met.ofW (cc := cX6_isCut) (maxL := 3) (ret := some .boolean) (by decide) rfl ?_
  intro p e s m args below meth c s₁ B hml hv
  obtain ⟨rfl, hK, hP, hD, hZ⟩ := hv
  have S : Cx p m c meth cX6_isCut 3 s _ RX6 (some .boolean) := ⟨⟨B.exec, B.bytes, hml, findClass_of_methodNamed B.named, fun w hw => atoms_spec (ws := ws_ yX6_isCut cX6_isCut 3 (some .boolean)) B.pre w (List.mem_cons_of_mem _ hw)⟩, B.returns, B.notSynchronized⟩
  have hl := lv_entry ([.ref a0, .int v1, .int v2]) (n := 3) (Nat.le_of_ble_eq_true rfl)
  rw [lg_entry_eq]
  generalize (lg_sl ([.ref a0, .int v1, .int v2]) ++ List.replicate (3 - (lg_sl ([.ref a0, .int v1, .int v2])).length) Slot.unset).toArray = ls at hl ⊢
  exact (wB_X6_isCut_0 S  M a0 v1 v2 h) s.heap [] ls ⟨hK, hP, hD, va_S.rf, hZ⟩ hl
set_option maxRecDepth 100000 in
set_option maxHeartbeats 4000000 in
theorem wB_X6_saws_0 (S : Cx p m c meth cX6_saws 3 s args RX6 (some .int)) {Q : Int32 → MM → Prop}   (M : MM) (a0 : Nat) (v1 : Int32) (v2 : Int32) (h : B_X6_saws_0 Z Q  M a0 v1 v2) : WG p l e rm_X6_saws s m args below meth c 0 0 (MQi below E Z args s Q) E Z M 0 3 [(0, .ref a0), (1, .int v1), (2, .int v2)] [] := by
  intro H locs ls hw hl
  have hx := S.1.1
  have hb := S.1.2.1
  refine lv_aload_n hx hb dX6_saws_0 rfl (lv_at hl 0 rfl) ?_
  refine lv_iload_n hx hb dX6_saws_1 rfl (lv_at hl 1 rfl) ?_
  refine lv_iload_n hx hb dX6_saws_2 rfl (lv_at hl 2 rfl) ?_
  obtain ⟨k_0, h⟩ := h
  refine cv_i (As := [.int v1, .int v2]) (rest := []) S.1 hw (k_X6_canSaw l E Z M a0 v1 v2 _ h) wv_X6_79 yc_X6_canSaw ⟨rfl, rfl⟩ ⟨Nat.le_of_ble_eq_true rfl, Nat.le_of_ble_eq_true rfl⟩ rfl hl.1 (Nat.le_of_ble_eq_true rfl) (ci := 6) (q := (RX6, TX6, 12)) rfl rfl (by rw [k_0]; decide) (cell_6 k_0) ⟨Nat.le_of_ble_eq_true rfl, Nat.le_of_ble_eq_true rfl⟩ dX6_saws_3 (fun r3 M3 H locs h hw => ?_)
  refine lv_if_eq (tgt := 18) hx hb dX6_saws_6 (by decide) (fun q_6 => ?_) (fun q_6 => ?_)
  · have h := h.1 q_6
    refine lv_iconst (v := 0) hx hb dX6_saws_18 (by decide) ?_
    exact we_i S hw h dX6_saws_19
  · have h := h.2 q_6
    refine lv_aload_n hx hb dX6_saws_9 rfl (lv_at hl 0 rfl) ?_
    refine lv_iload_n hx hb dX6_saws_10 rfl (lv_at hl 1 rfl) ?_
    refine lv_iload_n hx hb dX6_saws_11 rfl (lv_at hl 2 rfl) ?_
    refine cv_i (As := [.int v1, .int v2]) (rest := []) S.1 hw (k_X6_isCut l E Z M3 a0 v1 v2 _ h) wv_X6_90 yc_X6_isCut ⟨rfl, rfl⟩ ⟨Nat.le_of_ble_eq_true rfl, Nat.le_of_ble_eq_true rfl⟩ rfl hl.1 (Nat.le_of_ble_eq_true rfl) (ci := 6) (q := (RX6, TX6, 12)) rfl rfl (by rw [k_0]; decide) (cell_6 k_0) ⟨Nat.le_of_ble_eq_true rfl, Nat.le_of_ble_eq_true rfl⟩ dX6_saws_12 (fun r12 M12 H locs h hw => ?_)
    refine lv_if_eq (tgt := 20) hx hb dX6_saws_15 (by decide) (fun q_15 => ?_) (fun q_15 => ?_)
    · have h := h.1 q_15
      refine lv_aload_n hx hb dX6_saws_20 rfl (lv_at hl 0 rfl) ?_
      obtain ⟨y21_1, hy_1, h⟩ := h
      refine gf_X6_7 S.1 hw k_0 hy_1 dX6_saws_21 ?_
      refine lv_bipush (v := 57) hx hb dX6_saws_24 (by decide) ?_
      refine lv_aload_n hx hb dX6_saws_26 rfl (lv_at hl 0 rfl) ?_
      refine lv_iload_n hx hb dX6_saws_27 rfl (lv_at hl 1 rfl) ?_
      refine lv_iload_n hx hb dX6_saws_28 rfl (lv_at hl 2 rfl) ?_
      refine cv_i (As := [.int v1, .int v2]) (rest := [.int 57, .ref y21_1]) S.1 hw (k_X6_keeper l E Z M12 a0 v1 v2 _ h) wv_X6_83 yc_X6_keeper ⟨rfl, rfl⟩ ⟨Nat.le_of_ble_eq_true rfl, Nat.le_of_ble_eq_true rfl⟩ rfl hl.1 (Nat.le_of_ble_eq_true rfl) (ci := 6) (q := (RX6, TX6, 12)) rfl rfl (by rw [k_0]; decide) (cell_6 k_0) ⟨Nat.le_of_ble_eq_true rfl, Nat.le_of_ble_eq_true rfl⟩ dX6_saws_29 (fun r29 M29 H locs h hw => ?_)
      refine lv_iadd hx hb dX6_saws_32 ?_
      refine lv_dup2_11 hx hb dX6_saws_33 rfl rfl ?_
      obtain ⟨k_2, h⟩ := h
      obtain ⟨i_34, h⟩ := h
      refine wo_iald S.1 hw k_2 i_34 dX6_saws_34 ?_
      refine lv_aload_n hx hb dX6_saws_35 rfl (lv_at hl 0 rfl) ?_
      refine lv_iload_n hx hb dX6_saws_36 rfl (lv_at hl 1 rfl) ?_
      refine lv_iload_n hx hb dX6_saws_37 rfl (lv_at hl 2 rfl) ?_
      refine cv_i (As := [.int v1, .int v2]) (rest := [.int (mA M29 y21_1 (57 + r29).toNatClampNeg), .int (57 + r29), .ref y21_1]) S.1 hw (k_X6_bit l E Z M29 a0 v1 v2 _ h) wv_X6_87 yc_X6_bit ⟨rfl, rfl⟩ ⟨Nat.le_of_ble_eq_true rfl, Nat.le_of_ble_eq_true rfl⟩ rfl hl.1 (Nat.le_of_ble_eq_true rfl) (ci := 6) (q := (RX6, TX6, 12)) rfl rfl (by rw [k_0]; decide) (cell_6 k_0) ⟨Nat.le_of_ble_eq_true rfl, Nat.le_of_ble_eq_true rfl⟩ dX6_saws_38 (fun r38 M38 H locs h hw => ?_)
      refine lv_ior hx hb dX6_saws_41 ?_
      obtain ⟨i_42, h⟩ := h
      refine wo_iast S.1 hw k_2 i_42 dX6_saws_42 (fun H locs hw => ?_)
      refine lv_iconst (v := 1) hx hb dX6_saws_43 (by decide) ?_
      exact we_i S hw h dX6_saws_44
    · have h := h.2 q_15
      refine lv_iconst (v := 0) hx hb dX6_saws_18 (by decide) ?_
      exact we_i S hw h dX6_saws_19
set_option maxRecDepth 100000 in
set_option maxHeartbeats 4000000 in
theorem k_X6_saws (l : Launch) (E : EE) (Z : ZZ) (M : MM) (a0 : Nat) (v1 : Int32) (v2 : Int32) (Q : Int32 → MM → Prop) (h : P_X6_saws Z M a0 v1 v2 Q) : Ct_i l yX6_saws cX6_saws 3 (some .int) rm_X6_saws E Z M [.ref a0, .int v1, .int v2] Q := by
  refine Met.ofW (cc := cX6_saws) (maxL := 3) (ret := some .int) (by decide) rfl ?_
  intro p e s m args below meth c s₁ B hml hv
  obtain ⟨rfl, hK, hP, hD, hZ⟩ := hv
  have S : Cx p m c meth cX6_saws 3 s _ RX6 (some .int) := ⟨⟨B.exec, B.bytes, hml, findClass_of_methodNamed B.named, fun w hw => atoms_spec (ws := ws_ yX6_saws cX6_saws 3 (some .int)) B.pre w (List.mem_cons_of_mem _ hw)⟩, B.returns, B.notSynchronized⟩
  have hl := lv_entry ([.ref a0, .int v1, .int v2]) (n := 3) (Nat.le_of_ble_eq_true rfl)
  rw [lg_entry_eq]
  generalize (lg_sl ([.ref a0, .int v1, .int v2]) ++ List.replicate (3 - (lg_sl ([.ref a0, .int v1, .int v2])).length) Slot.unset).toArray = ls at hl ⊢
  exact (wB_X6_saws_0 S  M a0 v1 v2 h) s.heap [] ls ⟨hK, hP, hD, va_S.rf, hZ⟩ hl
set_option maxRecDepth 100000 in
set_option maxHeartbeats 4000000 in
theorem wB_X6_saw_0 (S : Cx p m c meth cX6_saw 3 s args RX6 (some .int)) {Q : Int32 → MM → Prop}   (M : MM) (a0 : Nat) (v1 : Int32) (v2 : Int32) (h : B_X6_saw_0 Z Q  M a0 v1 v2) : WG p l e rm_X6_saw s m args below meth c 0 0 (MQi below E Z args s Q) E Z M 0 3 [(0, .ref a0), (1, .int v1), (2, .int v2)] [] := by
  intro H locs ls hw hl
  have hx := S.1.1
  have hb := S.1.2.1
  have hown := S.1.2.2.2.1
  have hts := S.1.2.2.2.2
  refine lv_aload_n hx hb dX6_saw_0 rfl (lv_at hl 0 rfl) ?_
  refine lv_iload_n hx hb dX6_saw_1 rfl (lv_at hl 1 rfl) ?_
  obtain ⟨k_0, h⟩ := h
  refine cv_i (As := [.int v1]) (rest := []) S.1 hw (k_X6_isCell l E Z M a0 v1 _ h) wv_X6_69 yc_X6_isCell ⟨rfl, rfl⟩ ⟨Nat.le_of_ble_eq_true rfl, Nat.le_of_ble_eq_true rfl⟩ rfl hl.1 (Nat.le_of_ble_eq_true rfl) (ci := 6) (q := (RX6, TX6, 12)) rfl rfl (by rw [k_0]; decide) (cell_6 k_0) ⟨Nat.le_of_ble_eq_true rfl, Nat.le_of_ble_eq_true rfl⟩ dX6_saw_2 (fun r2 M2 H locs h hw => ?_)
  refine lv_if_ne (tgt := 14) hx hb dX6_saw_5 (by decide) (fun q_5 => ?_) (fun q_5 => ?_)
  · have h := h.1 q_5
    refine lv_iload_n hx hb dX6_saw_14 rfl (lv_at hl 2 rfl) ?_
    refine lv_i2l (v := v2.toInt64) hx hb dX6_saw_15 rfl ?_
    refine lv_lconst (v := 0) hx hb dX6_saw_16 (by decide) ?_
    refine lv_ldc2 (v := 3) hx hb hown (hts _ wq_X6_93) dX6_saw_17 ?_
    refine cs_i (As := [.long v2.toInt64, .long 0, .long 3]) (rest := []) S.1 hw (k_X6_in l E Z M2 v2.toInt64 0 3 _ h) wv_X6_49 yc_X6_in ⟨rfl, rfl⟩ ⟨Nat.le_of_ble_eq_true rfl, Nat.le_of_ble_eq_true rfl⟩ rfl hl.1 (Nat.le_of_ble_eq_true rfl) ⟨Nat.le_of_ble_eq_true rfl, Nat.le_of_ble_eq_true rfl⟩ dX6_saw_20 (fun r20 M20 H locs h hw => ?_)
    refine lv_if_ne (tgt := 32) hx hb dX6_saw_23 (by decide) (fun q_23 => ?_) (fun q_23 => ?_)
    · have h := h.1 q_23
      refine lv_aload_n hx hb dX6_saw_32 rfl (lv_at hl 0 rfl) ?_
      refine lv_iload_n hx hb dX6_saw_33 rfl (lv_at hl 1 rfl) ?_
      refine lv_iload_n hx hb dX6_saw_34 rfl (lv_at hl 2 rfl) ?_
      refine cv_i (As := [.int v1, .int v2]) (rest := []) S.1 hw (k_X6_canSaw l E Z M20 a0 v1 v2 _ h) wv_X6_79 yc_X6_canSaw ⟨rfl, rfl⟩ ⟨Nat.le_of_ble_eq_true rfl, Nat.le_of_ble_eq_true rfl⟩ rfl hl.1 (Nat.le_of_ble_eq_true rfl) (ci := 6) (q := (RX6, TX6, 12)) rfl rfl (by rw [k_0]; decide) (cell_6 k_0) ⟨Nat.le_of_ble_eq_true rfl, Nat.le_of_ble_eq_true rfl⟩ dX6_saw_35 (fun r35 M35 H locs h hw => ?_)
      refine lv_if_ne (tgt := 47) hx hb dX6_saw_38 (by decide) (fun q_38 => ?_) (fun q_38 => ?_)
      · have h := h.1 q_38
        refine lv_aload_n hx hb dX6_saw_47 rfl (lv_at hl 0 rfl) ?_
        refine cv_v (As := []) (rest := []) S.1 hw (k_X6_save l E Z M35 a0  _ h) wv_X6_63 yc_X6_save ⟨rfl, rfl⟩ ⟨Nat.le_of_ble_eq_true rfl, Nat.le_of_ble_eq_true rfl⟩ rfl hl.1 (Nat.le_of_ble_eq_true rfl) (ci := 6) (q := (RX6, TX6, 12)) rfl rfl (by rw [k_0]; decide) (cell_6 k_0) ⟨Nat.le_of_ble_eq_true rfl, Nat.le_of_ble_eq_true rfl⟩ dX6_saw_48 (fun M48 H locs h hw => ?_)
        refine lv_aload_n hx hb dX6_saw_51 rfl (lv_at hl 0 rfl) ?_
        refine lv_aload_n hx hb dX6_saw_52 rfl (lv_at hl 0 rfl) ?_
        refine lv_iload_n hx hb dX6_saw_53 rfl (lv_at hl 1 rfl) ?_
        refine lv_iload_n hx hb dX6_saw_54 rfl (lv_at hl 2 rfl) ?_
        refine cv_i (As := [.int v1, .int v2]) (rest := [.ref a0]) S.1 hw (k_X6_saws l E Z M48 a0 v1 v2 _ h) wv_X6_95 yc_X6_saws ⟨rfl, rfl⟩ ⟨Nat.le_of_ble_eq_true rfl, Nat.le_of_ble_eq_true rfl⟩ rfl hl.1 (Nat.le_of_ble_eq_true rfl) (ci := 6) (q := (RX6, TX6, 12)) rfl rfl (by rw [k_0]; decide) (cell_6 k_0) ⟨Nat.le_of_ble_eq_true rfl, Nat.le_of_ble_eq_true rfl⟩ dX6_saw_55 (fun r55 M55 H locs h hw => ?_)
        refine cv_i (As := [.int r55]) (rest := []) S.1 hw (k_X6_fine l E Z M55 a0 r55 _ h) wv_X6_66 yc_X6_fine ⟨rfl, rfl⟩ ⟨Nat.le_of_ble_eq_true rfl, Nat.le_of_ble_eq_true rfl⟩ rfl hl.1 (Nat.le_of_ble_eq_true rfl) (ci := 6) (q := (RX6, TX6, 12)) rfl rfl (by rw [k_0]; decide) (cell_6 k_0) ⟨Nat.le_of_ble_eq_true rfl, Nat.le_of_ble_eq_true rfl⟩ dX6_saw_58 (fun r58 M58 H locs h hw => ?_)
        exact we_i S hw h dX6_saw_61
      · have h := h.2 q_38
        refine lv_aload_n hx hb dX6_saw_41 rfl (lv_at hl 0 rfl) ?_
        refine lv_iconst (v := 3) hx hb dX6_saw_42 (by decide) ?_
        refine cv_i (As := [.int 3]) (rest := []) S.1 hw (k_X6_throwing l E Z M35 a0 3 _ h) wv_X6_59 yc_X6_throwing ⟨rfl, rfl⟩ ⟨Nat.le_of_ble_eq_true rfl, Nat.le_of_ble_eq_true rfl⟩ rfl hl.1 (Nat.le_of_ble_eq_true rfl) (ci := 6) (q := (RX6, TX6, 12)) rfl rfl (by rw [k_0]; decide) (cell_6 k_0) ⟨Nat.le_of_ble_eq_true rfl, Nat.le_of_ble_eq_true rfl⟩ dX6_saw_43 (fun r43 M43 H locs h hw => ?_)
        exact we_i S hw h dX6_saw_46
    · have h := h.2 q_23
      refine lv_aload_n hx hb dX6_saw_26 rfl (lv_at hl 0 rfl) ?_
      refine lv_iconst (v := 2) hx hb dX6_saw_27 (by decide) ?_
      refine cv_i (As := [.int 2]) (rest := []) S.1 hw (k_X6_throwing l E Z M20 a0 2 _ h) wv_X6_59 yc_X6_throwing ⟨rfl, rfl⟩ ⟨Nat.le_of_ble_eq_true rfl, Nat.le_of_ble_eq_true rfl⟩ rfl hl.1 (Nat.le_of_ble_eq_true rfl) (ci := 6) (q := (RX6, TX6, 12)) rfl rfl (by rw [k_0]; decide) (cell_6 k_0) ⟨Nat.le_of_ble_eq_true rfl, Nat.le_of_ble_eq_true rfl⟩ dX6_saw_28 (fun r28 M28 H locs h hw => ?_)
      exact we_i S hw h dX6_saw_31
  · have h := h.2 q_5
    refine lv_aload_n hx hb dX6_saw_8 rfl (lv_at hl 0 rfl) ?_
    refine lv_iconst (v := 1) hx hb dX6_saw_9 (by decide) ?_
    refine cv_i (As := [.int 1]) (rest := []) S.1 hw (k_X6_throwing l E Z M2 a0 1 _ h) wv_X6_59 yc_X6_throwing ⟨rfl, rfl⟩ ⟨Nat.le_of_ble_eq_true rfl, Nat.le_of_ble_eq_true rfl⟩ rfl hl.1 (Nat.le_of_ble_eq_true rfl) (ci := 6) (q := (RX6, TX6, 12)) rfl rfl (by rw [k_0]; decide) (cell_6 k_0) ⟨Nat.le_of_ble_eq_true rfl, Nat.le_of_ble_eq_true rfl⟩ dX6_saw_10 (fun r10 M10 H locs h hw => ?_)
    exact we_i S hw h dX6_saw_13
set_option maxRecDepth 100000 in
set_option maxHeartbeats 4000000 in
theorem k_X6_saw (l : Launch) (E : EE) (Z : ZZ) (M : MM) (a0 : Nat) (v1 : Int32) (v2 : Int32) (Q : Int32 → MM → Prop) (h : P_X6_saw Z M a0 v1 v2 Q) : Ct_i l yX6_saw cX6_saw 3 (some .int) rm_X6_saw E Z M [.ref a0, .int v1, .int v2] Q := by
  refine Met.ofW (cc := cX6_saw) (maxL := 3) (ret := some .int) (by decide) rfl ?_
  intro p e s m args below meth c s₁ B hml hv
  obtain ⟨rfl, hK, hP, hD, hZ⟩ := hv
  have S : Cx p m c meth cX6_saw 3 s _ RX6 (some .int) := ⟨⟨B.exec, B.bytes, hml, findClass_of_methodNamed B.named, fun w hw => atoms_spec (ws := ws_ yX6_saw cX6_saw 3 (some .int)) B.pre w (List.mem_cons_of_mem _ hw)⟩, B.returns, B.notSynchronized⟩
  have hl := lv_entry ([.ref a0, .int v1, .int v2]) (n := 3) (Nat.le_of_ble_eq_true rfl)
  rw [lg_entry_eq]
  generalize (lg_sl ([.ref a0, .int v1, .int v2]) ++ List.replicate (3 - (lg_sl ([.ref a0, .int v1, .int v2])).length) Slot.unset).toArray = ls at hl ⊢
  exact (wB_X6_saw_0 S  M a0 v1 v2 h) s.heap [] ls ⟨hK, hP, hD, va_S.rf, hZ⟩ hl
set_option maxRecDepth 100000 in
set_option maxHeartbeats 4000000 in
theorem wB_X6_isRectangle_0 (S : Cx p m c meth cX6_isRectangle 4 s args RX6 (some .boolean)) {Q : Int32 → MM → Prop}   (M : MM) (a0 : Nat) (v1 : Int32) (v2 : Int32) (v3 : Int32) (h : B_X6_isRectangle_0 Z Q  M a0 v1 v2 v3) : WG p l e rm_X6_isRectangle s m args below meth c 0 0 (MQi below E Z args s Q) E Z M 0 4 [(0, .ref a0), (1, .int v1), (2, .int v2), (3, .int v3)] [] := by
  intro H locs ls hw hl
  have hx := S.1.1
  have hb := S.1.2.1
  have hown := S.1.2.2.2.1
  have hts := S.1.2.2.2.2
  refine lv_iload_n hx hb dX6_isRectangle_0 rfl (lv_at hl 2 rfl) ?_
  refine lv_i2l (v := v2.toInt64) hx hb dX6_isRectangle_1 rfl ?_
  refine lv_lconst (v := 1) hx hb dX6_isRectangle_2 (by decide) ?_
  refine lv_ldc2 (v := 7) hx hb hown (hts _ wq_X6_55) dX6_isRectangle_3 ?_
  refine cs_i (As := [.long v2.toInt64, .long 1, .long 7]) (rest := []) S.1 hw (k_X6_in l E Z M v2.toInt64 1 7 _ h) wv_X6_49 yc_X6_in ⟨rfl, rfl⟩ ⟨Nat.le_of_ble_eq_true rfl, Nat.le_of_ble_eq_true rfl⟩ rfl hl.1 (Nat.le_of_ble_eq_true rfl) ⟨Nat.le_of_ble_eq_true rfl, Nat.le_of_ble_eq_true rfl⟩ dX6_isRectangle_6 (fun r6 M6 H locs h hw => ?_)
  refine lv_if_eq (tgt := 60) hx hb dX6_isRectangle_9 (by decide) (fun q_9 => ?_) (fun q_9 => ?_)
  · have h := h.1 q_9
    refine lv_iconst (v := 0) hx hb dX6_isRectangle_60 (by decide) ?_
    exact we_z S hw rfl (by rfl) h dX6_isRectangle_61
  · have h := h.2 q_9
    refine lv_iload_n hx hb dX6_isRectangle_12 rfl (lv_at hl 3 rfl) ?_
    refine lv_i2l (v := v3.toInt64) hx hb dX6_isRectangle_13 rfl ?_
    refine lv_lconst (v := 1) hx hb dX6_isRectangle_14 (by decide) ?_
    refine lv_ldc2 (v := 7) hx hb hown (hts _ wq_X6_55) dX6_isRectangle_15 ?_
    refine cs_i (As := [.long v3.toInt64, .long 1, .long 7]) (rest := []) S.1 hw (k_X6_in l E Z M6 v3.toInt64 1 7 _ h) wv_X6_49 yc_X6_in ⟨rfl, rfl⟩ ⟨Nat.le_of_ble_eq_true rfl, Nat.le_of_ble_eq_true rfl⟩ rfl hl.1 (Nat.le_of_ble_eq_true rfl) ⟨Nat.le_of_ble_eq_true rfl, Nat.le_of_ble_eq_true rfl⟩ dX6_isRectangle_18 (fun r18 M18 H locs h hw => ?_)
    refine lv_if_eq (tgt := 60) hx hb dX6_isRectangle_21 (by decide) (fun q_21 => ?_) (fun q_21 => ?_)
    · have h := h.1 q_21
      refine lv_iconst (v := 0) hx hb dX6_isRectangle_60 (by decide) ?_
      exact we_z S hw rfl (by rfl) h dX6_isRectangle_61
    · have h := h.2 q_21
      refine lv_aload_n hx hb dX6_isRectangle_24 rfl (lv_at hl 0 rfl) ?_
      refine lv_iload_n hx hb dX6_isRectangle_25 rfl (lv_at hl 1 rfl) ?_
      obtain ⟨k_0, h⟩ := h
      refine cv_i (As := [.int v1]) (rest := []) S.1 hw (k_X6_column l E Z M18 a0 v1 _ h) wv_X6_73 yc_X6_column ⟨rfl, rfl⟩ ⟨Nat.le_of_ble_eq_true rfl, Nat.le_of_ble_eq_true rfl⟩ rfl hl.1 (Nat.le_of_ble_eq_true rfl) (ci := 6) (q := (RX6, TX6, 12)) rfl rfl (by rw [k_0]; decide) (cell_6 k_0) ⟨Nat.le_of_ble_eq_true rfl, Nat.le_of_ble_eq_true rfl⟩ dX6_isRectangle_26 (fun r26 M26 H locs h hw => ?_)
      refine lv_iload_n hx hb dX6_isRectangle_29 rfl (lv_at hl 2 rfl) ?_
      refine lv_iadd hx hb dX6_isRectangle_30 ?_
      refine lv_aload_n hx hb dX6_isRectangle_31 rfl (lv_at hl 0 rfl) ?_
      obtain ⟨y32_1, hy_1, h⟩ := h
      refine gf_X6_7 S.1 hw k_0 hy_1 dX6_isRectangle_32 ?_
      refine lv_iconst (v := 0) hx hb dX6_isRectangle_35 (by decide) ?_
      obtain ⟨k_2, h⟩ := h
      obtain ⟨i_36, h⟩ := h
      refine wo_iald S.1 hw k_2 i_36 dX6_isRectangle_36 ?_
      refine lv_icmp_gt (tgt := 60) hx hb dX6_isRectangle_37 (by decide) (fun q_37 => ?_) (fun q_37 => ?_)
      · have h := h.1 q_37
        refine lv_iconst (v := 0) hx hb dX6_isRectangle_60 (by decide) ?_
        exact we_z S hw rfl (by rfl) h dX6_isRectangle_61
      · have h := h.2 q_37
        refine lv_aload_n hx hb dX6_isRectangle_40 rfl (lv_at hl 0 rfl) ?_
        refine lv_iload_n hx hb dX6_isRectangle_41 rfl (lv_at hl 1 rfl) ?_
        refine cv_i (As := [.int v1]) (rest := []) S.1 hw (k_X6_row l E Z M26 a0 v1 _ h) wv_X6_76 yc_X6_row ⟨rfl, rfl⟩ ⟨Nat.le_of_ble_eq_true rfl, Nat.le_of_ble_eq_true rfl⟩ rfl hl.1 (Nat.le_of_ble_eq_true rfl) (ci := 6) (q := (RX6, TX6, 12)) rfl rfl (by rw [k_0]; decide) (cell_6 k_0) ⟨Nat.le_of_ble_eq_true rfl, Nat.le_of_ble_eq_true rfl⟩ dX6_isRectangle_42 (fun r42 M42 H locs h hw => ?_)
        refine lv_iload_n hx hb dX6_isRectangle_45 rfl (lv_at hl 3 rfl) ?_
        refine lv_iadd hx hb dX6_isRectangle_46 ?_
        refine lv_aload_n hx hb dX6_isRectangle_47 rfl (lv_at hl 0 rfl) ?_
        refine gf_X6_7 S.1 hw k_0 hy_1 dX6_isRectangle_48 ?_
        refine lv_iconst (v := 1) hx hb dX6_isRectangle_51 (by decide) ?_
        obtain ⟨i_52, h⟩ := h
        refine wo_iald S.1 hw k_2 i_52 dX6_isRectangle_52 ?_
        refine lv_icmp_gt (tgt := 60) hx hb dX6_isRectangle_53 (by decide) (fun q_53 => ?_) (fun q_53 => ?_)
        · have h := h.1 q_53
          refine lv_iconst (v := 0) hx hb dX6_isRectangle_60 (by decide) ?_
          exact we_z S hw rfl (by rfl) h dX6_isRectangle_61
        · have h := h.2 q_53
          refine lv_iconst (v := 1) hx hb dX6_isRectangle_56 (by decide) ?_
          refine lv_goto (tgt := 61) hx hb dX6_isRectangle_57 (by decide) ?_
          exact we_z S hw rfl (by rfl) h dX6_isRectangle_61
set_option maxRecDepth 100000 in
set_option maxHeartbeats 4000000 in
theorem k_X6_isRectangle (l : Launch) (E : EE) (Z : ZZ) (M : MM) (a0 : Nat) (v1 : Int32) (v2 : Int32) (v3 : Int32) (Q : Int32 → MM → Prop) (h : P_X6_isRectangle Z M a0 v1 v2 v3 Q) : Ct_i l yX6_isRectangle cX6_isRectangle 4 (some .boolean) rm_X6_isRectangle E Z M [.ref a0, .int v1, .int v2, .int v3] Q := by
  refine Met.ofW (cc := cX6_isRectangle) (maxL := 4) (ret := some .boolean) (by decide) rfl ?_
  intro p e s m args below meth c s₁ B hml hv
  obtain ⟨rfl, hK, hP, hD, hZ⟩ := hv
  have S : Cx p m c meth cX6_isRectangle 4 s _ RX6 (some .boolean) := ⟨⟨B.exec, B.bytes, hml, findClass_of_methodNamed B.named, fun w hw => atoms_spec (ws := ws_ yX6_isRectangle cX6_isRectangle 4 (some .boolean)) B.pre w (List.mem_cons_of_mem _ hw)⟩, B.returns, B.notSynchronized⟩
  have hl := lv_entry ([.ref a0, .int v1, .int v2, .int v3]) (n := 4) (Nat.le_of_ble_eq_true rfl)
  rw [lg_entry_eq]
  generalize (lg_sl ([.ref a0, .int v1, .int v2, .int v3]) ++ List.replicate (4 - (lg_sl ([.ref a0, .int v1, .int v2, .int v3])).length) Slot.unset).toArray = ls at hl ⊢
  exact (wB_X6_isRectangle_0 S  M a0 v1 v2 v3 h) s.heap [] ls ⟨hK, hP, hD, va_S.rf, hZ⟩ hl
set_option maxRecDepth 100000 in
set_option maxHeartbeats 4000000 in
theorem wB_X6_sawsAround_60 (S : Cx p m c meth cX6_sawsAround 6 s args RX6 (some .int)) {Q : Int32 → MM → Prop} {K60 : MM → Nat → Int32 → Int32 → Int32 → Int32 → Int32 → Prop} (hK60 : ∀ (M : MM) (a0 : Nat) (v1 : Int32) (v2 : Int32) (v3 : Int32) (v4 : Int32) (v5 : Int32), K60 M a0 v1 v2 v3 v4 v5 → WG p l e rm_X6_sawsAround s m args below meth c 0 0 (MQi below E Z args s Q) E Z M 60 6 [(0, .ref a0), (1, .int v1), (2, .int v2), (3, .int v3), (4, .int v4), (5, .int v5)] []) (M : MM) (a0 : Nat) (v1 : Int32) (v2 : Int32) (v3 : Int32) (v4 : Int32) (v5 : Int32) (h : B_X6_sawsAround_60 Z Q K60 M a0 v1 v2 v3 v4 v5) : WG p l e rm_X6_sawsAround s m args below meth c 0 0 (MQi below E Z args s Q) E Z M 60 6 [(0, .ref a0), (1, .int v1), (2, .int v2), (3, .int v3), (4, .int v4), (5, .int v5)] [] := by
  intro H locs ls hw hl
  have hx := S.1.1
  have hb := S.1.2.1
  refine lv_iload hx hb dX6_sawsAround_60 (lv_at hl 5 rfl) ?_
  refine lv_iload_n hx hb dX6_sawsAround_62 rfl (lv_at hl 3 rfl) ?_
  refine lv_icmp_ge (tgt := 118) hx hb dX6_sawsAround_63 (by decide) (fun q_63 => ?_) (fun q_63 => ?_)
  · have h := h.1 q_63
    refine lv_iload hx hb dX6_sawsAround_118 (lv_at hl 4 rfl) ?_
    exact we_i S hw h dX6_sawsAround_120
  · have h := h.2 q_63
    refine lv_iload hx hb dX6_sawsAround_66 (lv_at hl 4 rfl) ?_
    refine lv_aload_n hx hb dX6_sawsAround_68 rfl (lv_at hl 0 rfl) ?_
    refine lv_iload_n hx hb dX6_sawsAround_69 rfl (lv_at hl 1 rfl) ?_
    refine lv_iload hx hb dX6_sawsAround_70 (lv_at hl 5 rfl) ?_
    refine lv_aload_n hx hb dX6_sawsAround_72 rfl (lv_at hl 0 rfl) ?_
    obtain ⟨k_0, h⟩ := h
    obtain ⟨y73_1, hy_1, h⟩ := h
    refine gf_X6_7 S.1 hw k_0 hy_1 dX6_sawsAround_73 ?_
    refine lv_iconst (v := 0) hx hb dX6_sawsAround_76 (by decide) ?_
    obtain ⟨k_2, h⟩ := h
    obtain ⟨i_77, h⟩ := h
    refine wo_iald S.1 hw k_2 i_77 dX6_sawsAround_77 ?_
    refine lv_imul hx hb dX6_sawsAround_78 ?_
    refine lv_iadd hx hb dX6_sawsAround_79 ?_
    refine lv_iconst (v := 3) hx hb dX6_sawsAround_80 (by decide) ?_
    refine cv_i (As := [.int (v1 + (v5 * (mA M y73_1 (0 : Int32).toNatClampNeg))), .int 3]) (rest := [.int v4]) S.1 hw (k_X6_saws l E Z M a0 (v1 + (v5 * (mA M y73_1 (0 : Int32).toNatClampNeg))) 3 _ h) wv_X6_95 yc_X6_saws ⟨rfl, rfl⟩ ⟨Nat.le_of_ble_eq_true rfl, Nat.le_of_ble_eq_true rfl⟩ rfl hl.1 (Nat.le_of_ble_eq_true rfl) (ci := 6) (q := (RX6, TX6, 12)) rfl rfl (by rw [k_0]; decide) (cell_6 k_0) ⟨Nat.le_of_ble_eq_true rfl, Nat.le_of_ble_eq_true rfl⟩ dX6_sawsAround_81 (fun r81 M81 H locs h hw => ?_)
    refine lv_iadd hx hb dX6_sawsAround_84 ?_
    refine lv_istore (lv' := [(4, .int (v4 + r81)), (0, .ref a0), (1, .int v1), (2, .int v2), (3, .int v3), (5, .int v5)]) hx hb dX6_sawsAround_85 hl (by decide) rfl (fun ls hl => ?_)
    refine lv_iload hx hb dX6_sawsAround_87 (lv_at hl 0 rfl) ?_
    refine lv_aload_n hx hb dX6_sawsAround_89 rfl (lv_at hl 1 rfl) ?_
    refine lv_iload_n hx hb dX6_sawsAround_90 rfl (lv_at hl 2 rfl) ?_
    refine lv_iload hx hb dX6_sawsAround_91 (lv_at hl 5 rfl) ?_
    refine lv_aload_n hx hb dX6_sawsAround_93 rfl (lv_at hl 1 rfl) ?_
    refine gf_X6_7 S.1 hw k_0 hy_1 dX6_sawsAround_94 ?_
    refine lv_iconst (v := 0) hx hb dX6_sawsAround_97 (by decide) ?_
    obtain ⟨i_98, h⟩ := h
    refine wo_iald S.1 hw k_2 i_98 dX6_sawsAround_98 ?_
    refine lv_imul hx hb dX6_sawsAround_99 ?_
    refine lv_iadd hx hb dX6_sawsAround_100 ?_
    refine lv_iload_n hx hb dX6_sawsAround_101 rfl (lv_at hl 3 rfl) ?_
    refine lv_iadd hx hb dX6_sawsAround_102 ?_
    refine lv_iconst (v := 1) hx hb dX6_sawsAround_103 (by decide) ?_
    refine lv_isub hx hb dX6_sawsAround_104 ?_
    refine lv_iconst (v := 0) hx hb dX6_sawsAround_105 (by decide) ?_
    refine cv_i (As := [.int (((v1 + (v5 * (mA M81 y73_1 (0 : Int32).toNatClampNeg))) + v2) - 1), .int 0]) (rest := [.int (v4 + r81)]) S.1 hw (k_X6_saws l E Z M81 a0 (((v1 + (v5 * (mA M81 y73_1 (0 : Int32).toNatClampNeg))) + v2) - 1) 0 _ h) wv_X6_95 yc_X6_saws ⟨rfl, rfl⟩ ⟨Nat.le_of_ble_eq_true rfl, Nat.le_of_ble_eq_true rfl⟩ rfl hl.1 (Nat.le_of_ble_eq_true rfl) (ci := 6) (q := (RX6, TX6, 12)) rfl rfl (by rw [k_0]; decide) (cell_6 k_0) ⟨Nat.le_of_ble_eq_true rfl, Nat.le_of_ble_eq_true rfl⟩ dX6_sawsAround_106 (fun r106 M106 H locs h hw => ?_)
    refine lv_iadd hx hb dX6_sawsAround_109 ?_
    refine lv_istore (lv' := [(4, .int ((v4 + r81) + r106)), (0, .ref a0), (1, .int v1), (2, .int v2), (3, .int v3), (5, .int v5)]) hx hb dX6_sawsAround_110 hl (by decide) rfl (fun ls hl => ?_)
    refine lv_iinc (v := (v5 + 1)) (lv' := [(5, .int (v5 + 1)), (4, .int ((v4 + r81) + r106)), (0, .ref a0), (1, .int v1), (2, .int v2), (3, .int v3)]) hx hb dX6_sawsAround_112 hl (k := 5) rfl rfl (by decide) rfl (fun ls hl => ?_)
    refine lv_goto (tgt := 60) hx hb dX6_sawsAround_115 (by decide) ?_
    exact (hK60 _ _ _ _ _ _ _ h) H locs ls hw (lv_sub hl [2, 3, 4, 5, 1, 0] rfl)
theorem wL_X6_sawsAround_60 (S : Cx p m c meth cX6_sawsAround 6 s args RX6 (some .int)) {Q : Int32 → MM → Prop}   : ∀ (n : Nat) (M : MM) (a0 : Nat) (v1 : Int32) (v2 : Int32) (v3 : Int32) (v4 : Int32) (v5 : Int32), L_X6_sawsAround_60 Z Q   n M a0 v1 v2 v3 v4 v5 → WG p l e rm_X6_sawsAround s m args below meth c 0 0 (MQi below E Z args s Q) E Z M 60 6 [(0, .ref a0), (1, .int v1), (2, .int v2), (3, .int v3), (4, .int v4), (5, .int v5)] []
  | 0, _, _, _, _, _, _, _, h => False.elim h
  | n + 1, M, a0, v1, v2, v3, v4, v5, h => wB_X6_sawsAround_60 S  (wL_X6_sawsAround_60 S   n) M a0 v1 v2 v3 v4 v5 h
set_option maxRecDepth 100000 in
set_option maxHeartbeats 4000000 in
theorem wB_X6_sawsAround_6 (S : Cx p m c meth cX6_sawsAround 6 s args RX6 (some .int)) {Q : Int32 → MM → Prop} {K6 : MM → Nat → Int32 → Int32 → Int32 → Int32 → Int32 → Prop} (hK6 : ∀ (M : MM) (a0 : Nat) (v1 : Int32) (v2 : Int32) (v3 : Int32) (v4 : Int32) (v5 : Int32), K6 M a0 v1 v2 v3 v4 v5 → WG p l e rm_X6_sawsAround s m args below meth c 0 0 (MQi below E Z args s Q) E Z M 6 6 [(0, .ref a0), (1, .int v1), (2, .int v2), (3, .int v3), (4, .int v4), (5, .int v5)] []) (M : MM) (a0 : Nat) (v1 : Int32) (v2 : Int32) (v3 : Int32) (v4 : Int32) (v5 : Int32) (h : B_X6_sawsAround_6 Z Q K6 M a0 v1 v2 v3 v4 v5) : WG p l e rm_X6_sawsAround s m args below meth c 0 0 (MQi below E Z args s Q) E Z M 6 6 [(0, .ref a0), (1, .int v1), (2, .int v2), (3, .int v3), (4, .int v4), (5, .int v5)] [] := by
  intro H locs ls hw hl
  have hx := S.1.1
  have hb := S.1.2.1
  refine lv_iload hx hb dX6_sawsAround_6 (lv_at hl 5 rfl) ?_
  refine lv_iload_n hx hb dX6_sawsAround_8 rfl (lv_at hl 2 rfl) ?_
  refine lv_icmp_ge (tgt := 57) hx hb dX6_sawsAround_9 (by decide) (fun q_9 => ?_) (fun q_9 => ?_)
  · have h := h.1 q_9
    refine lv_iconst (v := 0) hx hb dX6_sawsAround_57 (by decide) ?_
    refine lv_istore (lv' := [(5, .int 0), (0, .ref a0), (1, .int v1), (2, .int v2), (3, .int v3), (4, .int v4)]) hx hb dX6_sawsAround_58 hl (by decide) rfl (fun ls hl => ?_)
    exact ((Exists.elim h (fun n h => wL_X6_sawsAround_60 S   n _ _ _ _ _ _ _ h))) H locs ls hw (lv_sub hl [1, 2, 3, 4, 5, 0] rfl)
  · have h := h.2 q_9
    refine lv_iload hx hb dX6_sawsAround_12 (lv_at hl 4 rfl) ?_
    refine lv_aload_n hx hb dX6_sawsAround_14 rfl (lv_at hl 0 rfl) ?_
    refine lv_iload_n hx hb dX6_sawsAround_15 rfl (lv_at hl 1 rfl) ?_
    refine lv_iload hx hb dX6_sawsAround_16 (lv_at hl 5 rfl) ?_
    refine lv_iadd hx hb dX6_sawsAround_18 ?_
    refine lv_iconst (v := 2) hx hb dX6_sawsAround_19 (by decide) ?_
    obtain ⟨k_0, h⟩ := h
    refine cv_i (As := [.int (v1 + v5), .int 2]) (rest := [.int v4]) S.1 hw (k_X6_saws l E Z M a0 (v1 + v5) 2 _ h) wv_X6_95 yc_X6_saws ⟨rfl, rfl⟩ ⟨Nat.le_of_ble_eq_true rfl, Nat.le_of_ble_eq_true rfl⟩ rfl hl.1 (Nat.le_of_ble_eq_true rfl) (ci := 6) (q := (RX6, TX6, 12)) rfl rfl (by rw [k_0]; decide) (cell_6 k_0) ⟨Nat.le_of_ble_eq_true rfl, Nat.le_of_ble_eq_true rfl⟩ dX6_sawsAround_20 (fun r20 M20 H locs h hw => ?_)
    refine lv_iadd hx hb dX6_sawsAround_23 ?_
    refine lv_istore (lv' := [(4, .int (v4 + r20)), (0, .ref a0), (1, .int v1), (2, .int v2), (3, .int v3), (5, .int v5)]) hx hb dX6_sawsAround_24 hl (by decide) rfl (fun ls hl => ?_)
    refine lv_iload hx hb dX6_sawsAround_26 (lv_at hl 0 rfl) ?_
    refine lv_aload_n hx hb dX6_sawsAround_28 rfl (lv_at hl 1 rfl) ?_
    refine lv_iload_n hx hb dX6_sawsAround_29 rfl (lv_at hl 2 rfl) ?_
    refine lv_iload hx hb dX6_sawsAround_30 (lv_at hl 5 rfl) ?_
    refine lv_iadd hx hb dX6_sawsAround_32 ?_
    refine lv_iload_n hx hb dX6_sawsAround_33 rfl (lv_at hl 4 rfl) ?_
    refine lv_iconst (v := 1) hx hb dX6_sawsAround_34 (by decide) ?_
    refine lv_isub hx hb dX6_sawsAround_35 ?_
    refine lv_aload_n hx hb dX6_sawsAround_36 rfl (lv_at hl 1 rfl) ?_
    obtain ⟨y37_1, hy_1, h⟩ := h
    refine gf_X6_7 S.1 hw k_0 hy_1 dX6_sawsAround_37 ?_
    refine lv_iconst (v := 0) hx hb dX6_sawsAround_40 (by decide) ?_
    obtain ⟨k_2, h⟩ := h
    obtain ⟨i_41, h⟩ := h
    refine wo_iald S.1 hw k_2 i_41 dX6_sawsAround_41 ?_
    refine lv_imul hx hb dX6_sawsAround_42 ?_
    refine lv_iadd hx hb dX6_sawsAround_43 ?_
    refine lv_iconst (v := 1) hx hb dX6_sawsAround_44 (by decide) ?_
    refine cv_i (As := [.int ((v1 + v5) + ((v3 - 1) * (mA M20 y37_1 (0 : Int32).toNatClampNeg))), .int 1]) (rest := [.int (v4 + r20)]) S.1 hw (k_X6_saws l E Z M20 a0 ((v1 + v5) + ((v3 - 1) * (mA M20 y37_1 (0 : Int32).toNatClampNeg))) 1 _ h) wv_X6_95 yc_X6_saws ⟨rfl, rfl⟩ ⟨Nat.le_of_ble_eq_true rfl, Nat.le_of_ble_eq_true rfl⟩ rfl hl.1 (Nat.le_of_ble_eq_true rfl) (ci := 6) (q := (RX6, TX6, 12)) rfl rfl (by rw [k_0]; decide) (cell_6 k_0) ⟨Nat.le_of_ble_eq_true rfl, Nat.le_of_ble_eq_true rfl⟩ dX6_sawsAround_45 (fun r45 M45 H locs h hw => ?_)
    refine lv_iadd hx hb dX6_sawsAround_48 ?_
    refine lv_istore (lv' := [(4, .int ((v4 + r20) + r45)), (0, .ref a0), (1, .int v1), (2, .int v2), (3, .int v3), (5, .int v5)]) hx hb dX6_sawsAround_49 hl (by decide) rfl (fun ls hl => ?_)
    refine lv_iinc (v := (v5 + 1)) (lv' := [(5, .int (v5 + 1)), (4, .int ((v4 + r20) + r45)), (0, .ref a0), (1, .int v1), (2, .int v2), (3, .int v3)]) hx hb dX6_sawsAround_51 hl (k := 5) rfl rfl (by decide) rfl (fun ls hl => ?_)
    refine lv_goto (tgt := 6) hx hb dX6_sawsAround_54 (by decide) ?_
    exact (hK6 _ _ _ _ _ _ _ h) H locs ls hw (lv_sub hl [2, 3, 4, 5, 1, 0] rfl)
theorem wL_X6_sawsAround_6 (S : Cx p m c meth cX6_sawsAround 6 s args RX6 (some .int)) {Q : Int32 → MM → Prop}   : ∀ (n : Nat) (M : MM) (a0 : Nat) (v1 : Int32) (v2 : Int32) (v3 : Int32) (v4 : Int32) (v5 : Int32), L_X6_sawsAround_6 Z Q   n M a0 v1 v2 v3 v4 v5 → WG p l e rm_X6_sawsAround s m args below meth c 0 0 (MQi below E Z args s Q) E Z M 6 6 [(0, .ref a0), (1, .int v1), (2, .int v2), (3, .int v3), (4, .int v4), (5, .int v5)] []
  | 0, _, _, _, _, _, _, _, h => False.elim h
  | n + 1, M, a0, v1, v2, v3, v4, v5, h => wB_X6_sawsAround_6 S  (wL_X6_sawsAround_6 S   n) M a0 v1 v2 v3 v4 v5 h
set_option maxRecDepth 100000 in
set_option maxHeartbeats 4000000 in
theorem wB_X6_sawsAround_0 (S : Cx p m c meth cX6_sawsAround 6 s args RX6 (some .int)) {Q : Int32 → MM → Prop}   (M : MM) (a0 : Nat) (v1 : Int32) (v2 : Int32) (v3 : Int32) (h : B_X6_sawsAround_0 Z Q  M a0 v1 v2 v3) : WG p l e rm_X6_sawsAround s m args below meth c 0 0 (MQi below E Z args s Q) E Z M 0 6 [(0, .ref a0), (1, .int v1), (2, .int v2), (3, .int v3)] [] := by
  intro H locs ls hw hl
  have hx := S.1.1
  have hb := S.1.2.1
  refine lv_iconst (v := 0) hx hb dX6_sawsAround_0 (by decide) ?_
  refine lv_istore (lv' := [(4, .int 0), (0, .ref a0), (1, .int v1), (2, .int v2), (3, .int v3)]) hx hb dX6_sawsAround_1 hl (by decide) rfl (fun ls hl => ?_)
  refine lv_iconst (v := 0) hx hb dX6_sawsAround_3 (by decide) ?_
  refine lv_istore (lv' := [(5, .int 0), (4, .int 0), (0, .ref a0), (1, .int v1), (2, .int v2), (3, .int v3)]) hx hb dX6_sawsAround_4 hl (by decide) rfl (fun ls hl => ?_)
  exact ((Exists.elim h (fun n h => wL_X6_sawsAround_6 S   n _ _ _ _ _ _ _ h))) H locs ls hw (lv_sub hl [2, 3, 4, 5, 1, 0] rfl)
set_option maxRecDepth 100000 in
set_option maxHeartbeats 4000000 in
theorem k_X6_sawsAround (l : Launch) (E : EE) (Z : ZZ) (M : MM) (a0 : Nat) (v1 : Int32) (v2 : Int32) (v3 : Int32) (Q : Int32 → MM → Prop) (h : P_X6_sawsAround Z M a0 v1 v2 v3 Q) : Ct_i l yX6_sawsAround cX6_sawsAround 6 (some .int) rm_X6_sawsAround E Z M [.ref a0, .int v1, .int v2, .int v3] Q := by
  refine Met.ofW (cc := cX6_sawsAround) (maxL := 6) (ret := some .int) (by decide) rfl ?_
  intro p e s m args below meth c s₁ B hml hv
  obtain ⟨rfl, hK, hP, hD, hZ⟩ := hv
  have S : Cx p m c meth cX6_sawsAround 6 s _ RX6 (some .int) := ⟨⟨B.exec, B.bytes, hml, findClass_of_methodNamed B.named, fun w hw => atoms_spec (ws := ws_ yX6_sawsAround cX6_sawsAround 6 (some .int)) B.pre w (List.mem_cons_of_mem _ hw)⟩, B.returns, B.notSynchronized⟩
  have hl := lv_entry ([.ref a0, .int v1, .int v2, .int v3]) (n := 6) (Nat.le_of_ble_eq_true rfl)
  rw [lg_entry_eq]
  generalize (lg_sl ([.ref a0, .int v1, .int v2, .int v3]) ++ List.replicate (6 - (lg_sl ([.ref a0, .int v1, .int v2, .int v3])).length) Slot.unset).toArray = ls at hl ⊢
  exact (wB_X6_sawsAround_0 S  M a0 v1 v2 v3 h) s.heap [] ls ⟨hK, hP, hD, va_S.rf, hZ⟩ hl
set_option maxRecDepth 100000 in
set_option maxHeartbeats 4000000 in
theorem wB_X6_sawAround_0 (S : Cx p m c meth cX6_sawAround 4 s args RX6 (some .int)) {Q : Int32 → MM → Prop}   (M : MM) (a0 : Nat) (v1 : Int32) (v2 : Int32) (v3 : Int32) (h : B_X6_sawAround_0 Z Q  M a0 v1 v2 v3) : WG p l e rm_X6_sawAround s m args below meth c 0 0 (MQi below E Z args s Q) E Z M 0 4 [(0, .ref a0), (1, .int v1), (2, .int v2), (3, .int v3)] [] := by
  intro H locs ls hw hl
  have hx := S.1.1
  have hb := S.1.2.1
  refine lv_aload_n hx hb dX6_sawAround_0 rfl (lv_at hl 0 rfl) ?_
  refine lv_iload_n hx hb dX6_sawAround_1 rfl (lv_at hl 1 rfl) ?_
  obtain ⟨k_0, h⟩ := h
  refine cv_i (As := [.int v1]) (rest := []) S.1 hw (k_X6_isCell l E Z M a0 v1 _ h) wv_X6_69 yc_X6_isCell ⟨rfl, rfl⟩ ⟨Nat.le_of_ble_eq_true rfl, Nat.le_of_ble_eq_true rfl⟩ rfl hl.1 (Nat.le_of_ble_eq_true rfl) (ci := 6) (q := (RX6, TX6, 12)) rfl rfl (by rw [k_0]; decide) (cell_6 k_0) ⟨Nat.le_of_ble_eq_true rfl, Nat.le_of_ble_eq_true rfl⟩ dX6_sawAround_2 (fun r2 M2 H locs h hw => ?_)
  refine lv_if_ne (tgt := 14) hx hb dX6_sawAround_5 (by decide) (fun q_5 => ?_) (fun q_5 => ?_)
  · have h := h.1 q_5
    refine lv_aload_n hx hb dX6_sawAround_14 rfl (lv_at hl 0 rfl) ?_
    refine lv_iload_n hx hb dX6_sawAround_15 rfl (lv_at hl 1 rfl) ?_
    refine lv_iload_n hx hb dX6_sawAround_16 rfl (lv_at hl 2 rfl) ?_
    refine lv_iload_n hx hb dX6_sawAround_17 rfl (lv_at hl 3 rfl) ?_
    refine cv_i (As := [.int v1, .int v2, .int v3]) (rest := []) S.1 hw (k_X6_isRectangle l E Z M2 a0 v1 v2 v3 _ h) wv_X6_98 yc_X6_isRectangle ⟨rfl, rfl⟩ ⟨Nat.le_of_ble_eq_true rfl, Nat.le_of_ble_eq_true rfl⟩ rfl hl.1 (Nat.le_of_ble_eq_true rfl) (ci := 6) (q := (RX6, TX6, 12)) rfl rfl (by rw [k_0]; decide) (cell_6 k_0) ⟨Nat.le_of_ble_eq_true rfl, Nat.le_of_ble_eq_true rfl⟩ dX6_sawAround_18 (fun r18 M18 H locs h hw => ?_)
    refine lv_if_ne (tgt := 30) hx hb dX6_sawAround_21 (by decide) (fun q_21 => ?_) (fun q_21 => ?_)
    · have h := h.1 q_21
      refine lv_aload_n hx hb dX6_sawAround_30 rfl (lv_at hl 0 rfl) ?_
      refine cv_v (As := []) (rest := []) S.1 hw (k_X6_save l E Z M18 a0  _ h) wv_X6_63 yc_X6_save ⟨rfl, rfl⟩ ⟨Nat.le_of_ble_eq_true rfl, Nat.le_of_ble_eq_true rfl⟩ rfl hl.1 (Nat.le_of_ble_eq_true rfl) (ci := 6) (q := (RX6, TX6, 12)) rfl rfl (by rw [k_0]; decide) (cell_6 k_0) ⟨Nat.le_of_ble_eq_true rfl, Nat.le_of_ble_eq_true rfl⟩ dX6_sawAround_31 (fun M31 H locs h hw => ?_)
      refine lv_aload_n hx hb dX6_sawAround_34 rfl (lv_at hl 0 rfl) ?_
      refine lv_aload_n hx hb dX6_sawAround_35 rfl (lv_at hl 0 rfl) ?_
      refine lv_iload_n hx hb dX6_sawAround_36 rfl (lv_at hl 1 rfl) ?_
      refine lv_iload_n hx hb dX6_sawAround_37 rfl (lv_at hl 2 rfl) ?_
      refine lv_iload_n hx hb dX6_sawAround_38 rfl (lv_at hl 3 rfl) ?_
      refine cv_i (As := [.int v1, .int v2, .int v3]) (rest := [.ref a0]) S.1 hw (k_X6_sawsAround l E Z M31 a0 v1 v2 v3 _ h) wv_X6_102 yc_X6_sawsAround ⟨rfl, rfl⟩ ⟨Nat.le_of_ble_eq_true rfl, Nat.le_of_ble_eq_true rfl⟩ rfl hl.1 (Nat.le_of_ble_eq_true rfl) (ci := 6) (q := (RX6, TX6, 12)) rfl rfl (by rw [k_0]; decide) (cell_6 k_0) ⟨Nat.le_of_ble_eq_true rfl, Nat.le_of_ble_eq_true rfl⟩ dX6_sawAround_39 (fun r39 M39 H locs h hw => ?_)
      refine cv_i (As := [.int r39]) (rest := []) S.1 hw (k_X6_fine l E Z M39 a0 r39 _ h) wv_X6_66 yc_X6_fine ⟨rfl, rfl⟩ ⟨Nat.le_of_ble_eq_true rfl, Nat.le_of_ble_eq_true rfl⟩ rfl hl.1 (Nat.le_of_ble_eq_true rfl) (ci := 6) (q := (RX6, TX6, 12)) rfl rfl (by rw [k_0]; decide) (cell_6 k_0) ⟨Nat.le_of_ble_eq_true rfl, Nat.le_of_ble_eq_true rfl⟩ dX6_sawAround_42 (fun r42 M42 H locs h hw => ?_)
      exact we_i S hw h dX6_sawAround_45
    · have h := h.2 q_21
      refine lv_aload_n hx hb dX6_sawAround_24 rfl (lv_at hl 0 rfl) ?_
      refine lv_iconst (v := 2) hx hb dX6_sawAround_25 (by decide) ?_
      refine cv_i (As := [.int 2]) (rest := []) S.1 hw (k_X6_throwing l E Z M18 a0 2 _ h) wv_X6_59 yc_X6_throwing ⟨rfl, rfl⟩ ⟨Nat.le_of_ble_eq_true rfl, Nat.le_of_ble_eq_true rfl⟩ rfl hl.1 (Nat.le_of_ble_eq_true rfl) (ci := 6) (q := (RX6, TX6, 12)) rfl rfl (by rw [k_0]; decide) (cell_6 k_0) ⟨Nat.le_of_ble_eq_true rfl, Nat.le_of_ble_eq_true rfl⟩ dX6_sawAround_26 (fun r26 M26 H locs h hw => ?_)
      exact we_i S hw h dX6_sawAround_29
  · have h := h.2 q_5
    refine lv_aload_n hx hb dX6_sawAround_8 rfl (lv_at hl 0 rfl) ?_
    refine lv_iconst (v := 1) hx hb dX6_sawAround_9 (by decide) ?_
    refine cv_i (As := [.int 1]) (rest := []) S.1 hw (k_X6_throwing l E Z M2 a0 1 _ h) wv_X6_59 yc_X6_throwing ⟨rfl, rfl⟩ ⟨Nat.le_of_ble_eq_true rfl, Nat.le_of_ble_eq_true rfl⟩ rfl hl.1 (Nat.le_of_ble_eq_true rfl) (ci := 6) (q := (RX6, TX6, 12)) rfl rfl (by rw [k_0]; decide) (cell_6 k_0) ⟨Nat.le_of_ble_eq_true rfl, Nat.le_of_ble_eq_true rfl⟩ dX6_sawAround_10 (fun r10 M10 H locs h hw => ?_)
    exact we_i S hw h dX6_sawAround_13
set_option maxRecDepth 100000 in
set_option maxHeartbeats 4000000 in
theorem k_X6_sawAround (l : Launch) (E : EE) (Z : ZZ) (M : MM) (a0 : Nat) (v1 : Int32) (v2 : Int32) (v3 : Int32) (Q : Int32 → MM → Prop) (h : P_X6_sawAround Z M a0 v1 v2 v3 Q) : Ct_i l yX6_sawAround cX6_sawAround 4 (some .int) rm_X6_sawAround E Z M [.ref a0, .int v1, .int v2, .int v3] Q := by
  refine Met.ofW (cc := cX6_sawAround) (maxL := 4) (ret := some .int) (by decide) rfl ?_
  intro p e s m args below meth c s₁ B hml hv
  obtain ⟨rfl, hK, hP, hD, hZ⟩ := hv
  have S : Cx p m c meth cX6_sawAround 4 s _ RX6 (some .int) := ⟨⟨B.exec, B.bytes, hml, findClass_of_methodNamed B.named, fun w hw => atoms_spec (ws := ws_ yX6_sawAround cX6_sawAround 4 (some .int)) B.pre w (List.mem_cons_of_mem _ hw)⟩, B.returns, B.notSynchronized⟩
  have hl := lv_entry ([.ref a0, .int v1, .int v2, .int v3]) (n := 4) (Nat.le_of_ble_eq_true rfl)
  rw [lg_entry_eq]
  generalize (lg_sl ([.ref a0, .int v1, .int v2, .int v3]) ++ List.replicate (4 - (lg_sl ([.ref a0, .int v1, .int v2, .int v3])).length) Slot.unset).toArray = ls at hl ⊢
  exact (wB_X6_sawAround_0 S  M a0 v1 v2 v3 h) s.heap [] ls ⟨hK, hP, hD, va_S.rf, hZ⟩ hl
set_option maxRecDepth 100000 in
set_option maxHeartbeats 4000000 in
theorem wB_X6_cutsAround_0 (S : Cx p m c meth cX6_cutsAround 5 s args RX6 (some .int)) {Q : Int32 → MM → Prop}   (M : MM) (a0 : Nat) (v1 : Int32) (v2 : Int32) (v3 : Int32) (h : B_X6_cutsAround_0 Z Q  M a0 v1 v2 v3) : WG p l e rm_X6_cutsAround s m args below meth c 0 0 (MQi below E Z args s Q) E Z M 0 5 [(0, .ref a0), (1, .int v1), (2, .int v2), (3, .int v3)] [] := by
  intro H locs ls hw hl
  have hx := S.1.1
  have hb := S.1.2.1
  refine lv_aload_n hx hb dX6_cutsAround_0 rfl (lv_at hl 0 rfl) ?_
  refine lv_iload_n hx hb dX6_cutsAround_1 rfl (lv_at hl 1 rfl) ?_
  obtain ⟨k_0, h⟩ := h
  refine cv_i (As := [.int v1]) (rest := []) S.1 hw (k_X6_isCell l E Z M a0 v1 _ h) wv_X6_69 yc_X6_isCell ⟨rfl, rfl⟩ ⟨Nat.le_of_ble_eq_true rfl, Nat.le_of_ble_eq_true rfl⟩ rfl hl.1 (Nat.le_of_ble_eq_true rfl) (ci := 6) (q := (RX6, TX6, 12)) rfl rfl (by rw [k_0]; decide) (cell_6 k_0) ⟨Nat.le_of_ble_eq_true rfl, Nat.le_of_ble_eq_true rfl⟩ dX6_cutsAround_2 (fun r2 M2 H locs h hw => ?_)
  refine lv_if_ne (tgt := 14) hx hb dX6_cutsAround_5 (by decide) (fun q_5 => ?_) (fun q_5 => ?_)
  · have h := h.1 q_5
    refine lv_aload_n hx hb dX6_cutsAround_14 rfl (lv_at hl 0 rfl) ?_
    refine lv_iload_n hx hb dX6_cutsAround_15 rfl (lv_at hl 1 rfl) ?_
    refine lv_iload_n hx hb dX6_cutsAround_16 rfl (lv_at hl 2 rfl) ?_
    refine lv_iload_n hx hb dX6_cutsAround_17 rfl (lv_at hl 3 rfl) ?_
    refine cv_i (As := [.int v1, .int v2, .int v3]) (rest := []) S.1 hw (k_X6_isRectangle l E Z M2 a0 v1 v2 v3 _ h) wv_X6_98 yc_X6_isRectangle ⟨rfl, rfl⟩ ⟨Nat.le_of_ble_eq_true rfl, Nat.le_of_ble_eq_true rfl⟩ rfl hl.1 (Nat.le_of_ble_eq_true rfl) (ci := 6) (q := (RX6, TX6, 12)) rfl rfl (by rw [k_0]; decide) (cell_6 k_0) ⟨Nat.le_of_ble_eq_true rfl, Nat.le_of_ble_eq_true rfl⟩ dX6_cutsAround_18 (fun r18 M18 H locs h hw => ?_)
    refine lv_if_ne (tgt := 30) hx hb dX6_cutsAround_21 (by decide) (fun q_21 => ?_) (fun q_21 => ?_)
    · have h := h.1 q_21
      refine lv_aload_n hx hb dX6_cutsAround_30 rfl (lv_at hl 0 rfl) ?_
      refine cv_v (As := []) (rest := []) S.1 hw (k_X6_laysAside l E Z M18 a0  _ h) wv_X6_106 yc_X6_laysAside ⟨rfl, rfl⟩ ⟨Nat.le_of_ble_eq_true rfl, Nat.le_of_ble_eq_true rfl⟩ rfl hl.1 (Nat.le_of_ble_eq_true rfl) (ci := 6) (q := (RX6, TX6, 12)) rfl rfl (by rw [k_0]; decide) (cell_6 k_0) ⟨Nat.le_of_ble_eq_true rfl, Nat.le_of_ble_eq_true rfl⟩ dX6_cutsAround_31 (fun M31 H locs h hw => ?_)
      refine lv_aload_n hx hb dX6_cutsAround_34 rfl (lv_at hl 0 rfl) ?_
      refine lv_iload_n hx hb dX6_cutsAround_35 rfl (lv_at hl 1 rfl) ?_
      refine lv_iload_n hx hb dX6_cutsAround_36 rfl (lv_at hl 2 rfl) ?_
      refine lv_iload_n hx hb dX6_cutsAround_37 rfl (lv_at hl 3 rfl) ?_
      refine cv_i (As := [.int v1, .int v2, .int v3]) (rest := []) S.1 hw (k_X6_sawsAround l E Z M31 a0 v1 v2 v3 _ h) wv_X6_102 yc_X6_sawsAround ⟨rfl, rfl⟩ ⟨Nat.le_of_ble_eq_true rfl, Nat.le_of_ble_eq_true rfl⟩ rfl hl.1 (Nat.le_of_ble_eq_true rfl) (ci := 6) (q := (RX6, TX6, 12)) rfl rfl (by rw [k_0]; decide) (cell_6 k_0) ⟨Nat.le_of_ble_eq_true rfl, Nat.le_of_ble_eq_true rfl⟩ dX6_cutsAround_38 (fun r38 M38 H locs h hw => ?_)
      refine lv_istore (lv' := [(4, .int r38), (0, .ref a0), (1, .int v1), (2, .int v2), (3, .int v3)]) hx hb dX6_cutsAround_41 hl (by decide) rfl (fun ls hl => ?_)
      refine lv_aload_n hx hb dX6_cutsAround_43 rfl (lv_at hl 1 rfl) ?_
      refine cv_v (As := []) (rest := []) S.1 hw (k_X6_takesBack l E Z M38 a0  _ h) wv_X6_109 yc_X6_takesBack ⟨rfl, rfl⟩ ⟨Nat.le_of_ble_eq_true rfl, Nat.le_of_ble_eq_true rfl⟩ rfl hl.1 (Nat.le_of_ble_eq_true rfl) (ci := 6) (q := (RX6, TX6, 12)) rfl rfl (by rw [k_0]; decide) (cell_6 k_0) ⟨Nat.le_of_ble_eq_true rfl, Nat.le_of_ble_eq_true rfl⟩ dX6_cutsAround_44 (fun M44 H locs h hw => ?_)
      refine lv_aload_n hx hb dX6_cutsAround_47 rfl (lv_at hl 1 rfl) ?_
      refine lv_iload hx hb dX6_cutsAround_48 (lv_at hl 0 rfl) ?_
      refine cv_i (As := [.int r38]) (rest := []) S.1 hw (k_X6_fine l E Z M44 a0 r38 _ h) wv_X6_66 yc_X6_fine ⟨rfl, rfl⟩ ⟨Nat.le_of_ble_eq_true rfl, Nat.le_of_ble_eq_true rfl⟩ rfl hl.1 (Nat.le_of_ble_eq_true rfl) (ci := 6) (q := (RX6, TX6, 12)) rfl rfl (by rw [k_0]; decide) (cell_6 k_0) ⟨Nat.le_of_ble_eq_true rfl, Nat.le_of_ble_eq_true rfl⟩ dX6_cutsAround_50 (fun r50 M50 H locs h hw => ?_)
      exact we_i S hw h dX6_cutsAround_53
    · have h := h.2 q_21
      refine lv_aload_n hx hb dX6_cutsAround_24 rfl (lv_at hl 0 rfl) ?_
      refine lv_iconst (v := 2) hx hb dX6_cutsAround_25 (by decide) ?_
      refine cv_i (As := [.int 2]) (rest := []) S.1 hw (k_X6_throwing l E Z M18 a0 2 _ h) wv_X6_59 yc_X6_throwing ⟨rfl, rfl⟩ ⟨Nat.le_of_ble_eq_true rfl, Nat.le_of_ble_eq_true rfl⟩ rfl hl.1 (Nat.le_of_ble_eq_true rfl) (ci := 6) (q := (RX6, TX6, 12)) rfl rfl (by rw [k_0]; decide) (cell_6 k_0) ⟨Nat.le_of_ble_eq_true rfl, Nat.le_of_ble_eq_true rfl⟩ dX6_cutsAround_26 (fun r26 M26 H locs h hw => ?_)
      exact we_i S hw h dX6_cutsAround_29
  · have h := h.2 q_5
    refine lv_aload_n hx hb dX6_cutsAround_8 rfl (lv_at hl 0 rfl) ?_
    refine lv_iconst (v := 1) hx hb dX6_cutsAround_9 (by decide) ?_
    refine cv_i (As := [.int 1]) (rest := []) S.1 hw (k_X6_throwing l E Z M2 a0 1 _ h) wv_X6_59 yc_X6_throwing ⟨rfl, rfl⟩ ⟨Nat.le_of_ble_eq_true rfl, Nat.le_of_ble_eq_true rfl⟩ rfl hl.1 (Nat.le_of_ble_eq_true rfl) (ci := 6) (q := (RX6, TX6, 12)) rfl rfl (by rw [k_0]; decide) (cell_6 k_0) ⟨Nat.le_of_ble_eq_true rfl, Nat.le_of_ble_eq_true rfl⟩ dX6_cutsAround_10 (fun r10 M10 H locs h hw => ?_)
    exact we_i S hw h dX6_cutsAround_13
set_option maxRecDepth 100000 in
set_option maxHeartbeats 4000000 in
theorem k_X6_cutsAround (l : Launch) (E : EE) (Z : ZZ) (M : MM) (a0 : Nat) (v1 : Int32) (v2 : Int32) (v3 : Int32) (Q : Int32 → MM → Prop) (h : P_X6_cutsAround Z M a0 v1 v2 v3 Q) : Ct_i l yX6_cutsAround cX6_cutsAround 5 (some .int) rm_X6_cutsAround E Z M [.ref a0, .int v1, .int v2, .int v3] Q := by
  refine Met.ofW (cc := cX6_cutsAround) (maxL := 5) (ret := some .int) (by decide) rfl ?_
  intro p e s m args below meth c s₁ B hml hv
  obtain ⟨rfl, hK, hP, hD, hZ⟩ := hv
  have S : Cx p m c meth cX6_cutsAround 5 s _ RX6 (some .int) := ⟨⟨B.exec, B.bytes, hml, findClass_of_methodNamed B.named, fun w hw => atoms_spec (ws := ws_ yX6_cutsAround cX6_cutsAround 5 (some .int)) B.pre w (List.mem_cons_of_mem _ hw)⟩, B.returns, B.notSynchronized⟩
  have hl := lv_entry ([.ref a0, .int v1, .int v2, .int v3]) (n := 5) (Nat.le_of_ble_eq_true rfl)
  rw [lg_entry_eq]
  generalize (lg_sl ([.ref a0, .int v1, .int v2, .int v3]) ++ List.replicate (5 - (lg_sl ([.ref a0, .int v1, .int v2, .int v3])).length) Slot.unset).toArray = ls at hl ⊢
  exact (wB_X6_cutsAround_0 S  M a0 v1 v2 v3 h) s.heap [] ls ⟨hK, hP, hD, va_S.rf, hZ⟩ hl
set_option maxRecDepth 100000 in
set_option maxHeartbeats 4000000 in
theorem wB_X6_hang_0 (S : Cx p m c meth cX6_hang 4 s args RX6 (some .boolean)) {Q : Int32 → MM → Prop}   (M : MM) (a0 : Nat) (v1 : Int32) (v2 : Int32) (v3 : Int32) (h : B_X6_hang_0 Z Q  M a0 v1 v2 v3) : WG p l e rm_X6_hang s m args below meth c 0 0 (MQi below E Z args s Q) E Z M 0 4 [(0, .ref a0), (1, .int v1), (2, .int v2), (3, .int v3)] [] := by
  intro H locs ls hw hl
  have hx := S.1.1
  have hb := S.1.2.1
  refine lv_aload_n hx hb dX6_hang_0 rfl (lv_at hl 0 rfl) ?_
  refine lv_iload_n hx hb dX6_hang_1 rfl (lv_at hl 1 rfl) ?_
  obtain ⟨k_0, h⟩ := h
  refine cv_i (As := [.int v1]) (rest := []) S.1 hw (k_X6_isIce l E Z M a0 v1 _ h) wv_X6_112 yc_X6_isIce ⟨rfl, rfl⟩ ⟨Nat.le_of_ble_eq_true rfl, Nat.le_of_ble_eq_true rfl⟩ rfl hl.1 (Nat.le_of_ble_eq_true rfl) (ci := 6) (q := (RX6, TX6, 12)) rfl rfl (by rw [k_0]; decide) (cell_6 k_0) ⟨Nat.le_of_ble_eq_true rfl, Nat.le_of_ble_eq_true rfl⟩ dX6_hang_2 (fun r2 M2 H locs h hw => ?_)
  refine lv_if_eq (tgt := 29) hx hb dX6_hang_5 (by decide) (fun q_5 => ?_) (fun q_5 => ?_)
  · have h := h.1 q_5
    refine lv_iconst (v := 0) hx hb dX6_hang_29 (by decide) ?_
    exact we_z S hw rfl (by rfl) h dX6_hang_30
  · have h := h.2 q_5
    refine lv_aload_n hx hb dX6_hang_8 rfl (lv_at hl 0 rfl) ?_
    refine lv_iload_n hx hb dX6_hang_9 rfl (lv_at hl 2 rfl) ?_
    refine cv_i (As := [.int v2]) (rest := []) S.1 hw (k_X6_isIce l E Z M2 a0 v2 _ h) wv_X6_112 yc_X6_isIce ⟨rfl, rfl⟩ ⟨Nat.le_of_ble_eq_true rfl, Nat.le_of_ble_eq_true rfl⟩ rfl hl.1 (Nat.le_of_ble_eq_true rfl) (ci := 6) (q := (RX6, TX6, 12)) rfl rfl (by rw [k_0]; decide) (cell_6 k_0) ⟨Nat.le_of_ble_eq_true rfl, Nat.le_of_ble_eq_true rfl⟩ dX6_hang_10 (fun r10 M10 H locs h hw => ?_)
    refine lv_if_eq (tgt := 29) hx hb dX6_hang_13 (by decide) (fun q_13 => ?_) (fun q_13 => ?_)
    · have h := h.1 q_13
      refine lv_iconst (v := 0) hx hb dX6_hang_29 (by decide) ?_
      exact we_z S hw rfl (by rfl) h dX6_hang_30
    · have h := h.2 q_13
      refine lv_aload_n hx hb dX6_hang_16 rfl (lv_at hl 0 rfl) ?_
      refine lv_iload_n hx hb dX6_hang_17 rfl (lv_at hl 1 rfl) ?_
      refine lv_iload_n hx hb dX6_hang_18 rfl (lv_at hl 3 rfl) ?_
      refine cv_i (As := [.int v1, .int v3]) (rest := []) S.1 hw (k_X6_isCut l E Z M10 a0 v1 v3 _ h) wv_X6_90 yc_X6_isCut ⟨rfl, rfl⟩ ⟨Nat.le_of_ble_eq_true rfl, Nat.le_of_ble_eq_true rfl⟩ rfl hl.1 (Nat.le_of_ble_eq_true rfl) (ci := 6) (q := (RX6, TX6, 12)) rfl rfl (by rw [k_0]; decide) (cell_6 k_0) ⟨Nat.le_of_ble_eq_true rfl, Nat.le_of_ble_eq_true rfl⟩ dX6_hang_19 (fun r19 M19 H locs h hw => ?_)
      refine lv_if_ne (tgt := 29) hx hb dX6_hang_22 (by decide) (fun q_22 => ?_) (fun q_22 => ?_)
      · have h := h.1 q_22
        refine lv_iconst (v := 0) hx hb dX6_hang_29 (by decide) ?_
        exact we_z S hw rfl (by rfl) h dX6_hang_30
      · have h := h.2 q_22
        refine lv_iconst (v := 1) hx hb dX6_hang_25 (by decide) ?_
        refine lv_goto (tgt := 30) hx hb dX6_hang_26 (by decide) ?_
        exact we_z S hw rfl (by rfl) h dX6_hang_30
set_option maxRecDepth 100000 in
set_option maxHeartbeats 4000000 in
theorem k_X6_hang (l : Launch) (E : EE) (Z : ZZ) (M : MM) (a0 : Nat) (v1 : Int32) (v2 : Int32) (v3 : Int32) (Q : Int32 → MM → Prop) (h : P_X6_hang Z M a0 v1 v2 v3 Q) : Ct_i l yX6_hang cX6_hang 4 (some .boolean) rm_X6_hang E Z M [.ref a0, .int v1, .int v2, .int v3] Q := by
  refine Met.ofW (cc := cX6_hang) (maxL := 4) (ret := some .boolean) (by decide) rfl ?_
  intro p e s m args below meth c s₁ B hml hv
  obtain ⟨rfl, hK, hP, hD, hZ⟩ := hv
  have S : Cx p m c meth cX6_hang 4 s _ RX6 (some .boolean) := ⟨⟨B.exec, B.bytes, hml, findClass_of_methodNamed B.named, fun w hw => atoms_spec (ws := ws_ yX6_hang cX6_hang 4 (some .boolean)) B.pre w (List.mem_cons_of_mem _ hw)⟩, B.returns, B.notSynchronized⟩
  have hl := lv_entry ([.ref a0, .int v1, .int v2, .int v3]) (n := 4) (Nat.le_of_ble_eq_true rfl)
  rw [lg_entry_eq]
  generalize (lg_sl ([.ref a0, .int v1, .int v2, .int v3]) ++ List.replicate (4 - (lg_sl ([.ref a0, .int v1, .int v2, .int v3])).length) Slot.unset).toArray = ls at hl ⊢
  exact (wB_X6_hang_0 S  M a0 v1 v2 v3 h) s.heap [] ls ⟨hK, hP, hD, va_S.rf, hZ⟩ hl
set_option maxRecDepth 100000 in
set_option maxHeartbeats 4000000 in
theorem wB_X6_joins_51 (S : Cx p m c meth cX6_joins 5 s args RX6 (some .boolean)) {Q : Int32 → MM → Prop}   (M : MM) (a0 : Nat) (v1 : Int32) (v2 : Int32) (v3 : Int32) (t0 : Int32) (h : B_X6_joins_51 Z Q  M a0 v1 v2 v3 t0) : WG p l e rm_X6_joins s m args below meth c 0 0 (MQi below E Z args s Q) E Z M 51 5 [(0, .ref a0), (1, .int v1), (2, .int v2), (3, .int v3)] [.int t0] := by
  intro H locs ls hw hl
  have hx := S.1.1
  have hb := S.1.2.1
  refine lv_istore (lv' := [(4, .int t0), (0, .ref a0), (1, .int v1), (2, .int v2), (3, .int v3)]) hx hb dX6_joins_51 hl (by decide) rfl (fun ls hl => ?_)
  refine lv_aload_n hx hb dX6_joins_53 rfl (lv_at hl 1 rfl) ?_
  obtain ⟨k_0, h⟩ := h
  obtain ⟨y54_1, hy_1, h⟩ := h
  refine gf_X6_19 S.1 hw k_0 hy_1 dX6_joins_54 ?_
  refine lv_iload_n hx hb dX6_joins_57 rfl (lv_at hl 2 rfl) ?_
  refine lv_iload_n hx hb dX6_joins_58 rfl (lv_at hl 4 rfl) ?_
  obtain ⟨k_2, h⟩ := h
  obtain ⟨i_59, h⟩ := h
  refine wo_iast S.1 hw k_2 i_59 dX6_joins_59 (fun H locs hw => ?_)
  refine lv_aload_n hx hb dX6_joins_60 rfl (lv_at hl 1 rfl) ?_
  refine gf_X6_19 S.1 hw k_0 hy_1 dX6_joins_61 ?_
  refine lv_iload_n hx hb dX6_joins_64 rfl (lv_at hl 3 rfl) ?_
  refine lv_iload_n hx hb dX6_joins_65 rfl (lv_at hl 4 rfl) ?_
  obtain ⟨i_66, h⟩ := h
  refine wo_iast S.1 hw k_2 i_66 dX6_joins_66 (fun H locs hw => ?_)
  refine lv_iload hx hb dX6_joins_67 (lv_at hl 0 rfl) ?_
  obtain ⟨zz, h⟩ := h
  exact we_b S hw zz h dX6_joins_69
set_option maxRecDepth 100000 in
set_option maxHeartbeats 4000000 in
theorem wB_X6_joins_30 (S : Cx p m c meth cX6_joins 5 s args RX6 (some .boolean)) {Q : Int32 → MM → Prop}   (M : MM) (a0 : Nat) (v1 : Int32) (v2 : Int32) (t0 : Int32) (h : B_X6_joins_30 Z Q  M a0 v1 v2 t0) : WG p l e rm_X6_joins s m args below meth c 0 0 (MQi below E Z args s Q) E Z M 30 5 [(0, .ref a0), (1, .int v1), (2, .int v2)] [.int t0] := by
  intro H locs ls hw hl
  have hx := S.1.1
  have hb := S.1.2.1
  refine lv_istore_n (lv' := [(3, .int t0), (0, .ref a0), (1, .int v1), (2, .int v2)]) hx hb dX6_joins_30 rfl hl (by decide) rfl (fun ls hl => ?_)
  refine lv_aload_n hx hb dX6_joins_31 rfl (lv_at hl 1 rfl) ?_
  obtain ⟨k_0, h⟩ := h
  obtain ⟨y32_1, hy_1, h⟩ := h
  refine gf_X6_19 S.1 hw k_0 hy_1 dX6_joins_32 ?_
  refine lv_iload_n hx hb dX6_joins_35 rfl (lv_at hl 2 rfl) ?_
  obtain ⟨k_2, h⟩ := h
  obtain ⟨i_36, h⟩ := h
  refine wo_iald S.1 hw k_2 i_36 dX6_joins_36 ?_
  refine lv_aload_n hx hb dX6_joins_37 rfl (lv_at hl 1 rfl) ?_
  refine gf_X6_19 S.1 hw k_0 hy_1 dX6_joins_38 ?_
  refine lv_iload_n hx hb dX6_joins_41 rfl (lv_at hl 3 rfl) ?_
  obtain ⟨i_42, h⟩ := h
  refine wo_iald S.1 hw k_2 i_42 dX6_joins_42 ?_
  refine lv_icmp_eq (tgt := 50) hx hb dX6_joins_43 (by decide) (fun q_43 => ?_) (fun q_43 => ?_)
  · have h := h.1 q_43
    refine lv_iconst (v := 0) hx hb dX6_joins_50 (by decide) ?_
    exact ((wB_X6_joins_51 S   _ _ _ _ _ _ h)) H locs ls hw (lv_sub hl [1, 2, 3, 0] rfl)
  · have h := h.2 q_43
    refine lv_iconst (v := 1) hx hb dX6_joins_46 (by decide) ?_
    refine lv_goto (tgt := 51) hx hb dX6_joins_47 (by decide) ?_
    exact ((wB_X6_joins_51 S   _ _ _ _ _ _ h)) H locs ls hw (lv_sub hl [1, 2, 3, 0] rfl)
set_option maxRecDepth 100000 in
set_option maxHeartbeats 4000000 in
theorem wB_X6_joins_0 (S : Cx p m c meth cX6_joins 5 s args RX6 (some .boolean)) {Q : Int32 → MM → Prop}   (M : MM) (a0 : Nat) (v1 : Int32) (v2 : Int32) (h : B_X6_joins_0 Z Q  M a0 v1 v2) : WG p l e rm_X6_joins s m args below meth c 0 0 (MQi below E Z args s Q) E Z M 0 5 [(0, .ref a0), (1, .int v1), (2, .int v2)] [] := by
  intro H locs ls hw hl
  have hx := S.1.1
  have hb := S.1.2.1
  refine lv_aload_n hx hb dX6_joins_0 rfl (lv_at hl 0 rfl) ?_
  obtain ⟨k_0, h⟩ := h
  obtain ⟨y1_1, hy_1, h⟩ := h
  refine gf_X6_19 S.1 hw k_0 hy_1 dX6_joins_1 ?_
  refine lv_iload_n hx hb dX6_joins_4 rfl (lv_at hl 1 rfl) ?_
  obtain ⟨k_2, h⟩ := h
  obtain ⟨i_5, h⟩ := h
  refine wo_iald S.1 hw k_2 i_5 dX6_joins_5 ?_
  refine lv_aload_n hx hb dX6_joins_6 rfl (lv_at hl 0 rfl) ?_
  refine gf_X6_19 S.1 hw k_0 hy_1 dX6_joins_7 ?_
  refine lv_iload_n hx hb dX6_joins_10 rfl (lv_at hl 2 rfl) ?_
  obtain ⟨i_11, h⟩ := h
  refine wo_iald S.1 hw k_2 i_11 dX6_joins_11 ?_
  refine lv_icmp_ge (tgt := 24) hx hb dX6_joins_12 (by decide) (fun q_12 => ?_) (fun q_12 => ?_)
  · have h := h.1 q_12
    refine lv_aload_n hx hb dX6_joins_24 rfl (lv_at hl 0 rfl) ?_
    refine gf_X6_19 S.1 hw k_0 hy_1 dX6_joins_25 ?_
    refine lv_iload_n hx hb dX6_joins_28 rfl (lv_at hl 2 rfl) ?_
    obtain ⟨i_29, h⟩ := h
    refine wo_iald S.1 hw k_2 i_29 dX6_joins_29 ?_
    exact ((wB_X6_joins_30 S   _ _ _ _ _ h)) H locs ls hw (lv_sub hl [0, 1, 2] rfl)
  · have h := h.2 q_12
    refine lv_aload_n hx hb dX6_joins_15 rfl (lv_at hl 0 rfl) ?_
    refine gf_X6_19 S.1 hw k_0 hy_1 dX6_joins_16 ?_
    refine lv_iload_n hx hb dX6_joins_19 rfl (lv_at hl 1 rfl) ?_
    obtain ⟨i_20, h⟩ := h
    refine wo_iald S.1 hw k_2 i_20 dX6_joins_20 ?_
    refine lv_goto (tgt := 30) hx hb dX6_joins_21 (by decide) ?_
    exact ((wB_X6_joins_30 S   _ _ _ _ _ h)) H locs ls hw (lv_sub hl [0, 1, 2] rfl)
set_option maxRecDepth 100000 in
set_option maxHeartbeats 4000000 in
theorem k_X6_joins (l : Launch) (E : EE) (Z : ZZ) (M : MM) (a0 : Nat) (v1 : Int32) (v2 : Int32) (Q : Int32 → MM → Prop) (h : P_X6_joins Z M a0 v1 v2 Q) : Ct_i l yX6_joins cX6_joins 5 (some .boolean) rm_X6_joins E Z M [.ref a0, .int v1, .int v2] Q := by
  refine Met.ofW (cc := cX6_joins) (maxL := 5) (ret := some .boolean) (by decide) rfl ?_
  intro p e s m args below meth c s₁ B hml hv
  obtain ⟨rfl, hK, hP, hD, hZ⟩ := hv
  have S : Cx p m c meth cX6_joins 5 s _ RX6 (some .boolean) := ⟨⟨B.exec, B.bytes, hml, findClass_of_methodNamed B.named, fun w hw => atoms_spec (ws := ws_ yX6_joins cX6_joins 5 (some .boolean)) B.pre w (List.mem_cons_of_mem _ hw)⟩, B.returns, B.notSynchronized⟩
  have hl := lv_entry ([.ref a0, .int v1, .int v2]) (n := 5) (Nat.le_of_ble_eq_true rfl)
  rw [lg_entry_eq]
  generalize (lg_sl ([.ref a0, .int v1, .int v2]) ++ List.replicate (5 - (lg_sl ([.ref a0, .int v1, .int v2])).length) Slot.unset).toArray = ls at hl ⊢
  exact (wB_X6_joins_0 S  M a0 v1 v2 h) s.heap [] ls ⟨hK, hP, hD, va_S.rf, hZ⟩ hl
