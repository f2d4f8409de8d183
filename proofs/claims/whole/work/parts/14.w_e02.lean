variable {p : Program} {l : Launch} {e : Env} {s : State} {m : MethodId} {args : Array Value} {below : List Frame} {meth : Method} {c : Code} {E : EE} {Z : ZZ}
set_option maxRecDepth 100000 in
set_option maxHeartbeats 4000000 in
theorem wB_X6_day_65 (S : Cx p m c meth cX6_day 4 s args RX6 (some .int)) {Q : Int32 → MM → Prop} {K4 : MM → Nat → Int32 → Int32 → Prop} (hK4 : ∀ (M : MM) (a0 : Nat) (v1 : Int32) (v2 : Int32), K4 M a0 v1 v2 → WG p l e rm_X6_day s m args below meth c 0 0 (MQi below E Z args s Q) E Z M 4 4 [(0, .ref a0), (1, .int v1), (2, .int v2)] []) (M : MM) (a0 : Nat) (v1 : Int32) (v2 : Int32) (t0 : Int32) (t1 : Int32) (t2 : Nat) (h : B_X6_day_65 Z Q K4 M a0 v1 v2 t0 t1 t2) : WG p l e rm_X6_day s m args below meth c 0 0 (MQi below E Z args s Q) E Z M 65 4 [(0, .ref a0), (1, .int v1), (2, .int v2)] [.int t0, .int t1, .ref t2] := by
  intro H locs ls hw hl
  have hx := S.1.1
  have hb := S.1.2.1
  obtain ⟨k_0, h⟩ := h
  obtain ⟨i_65, h⟩ := h
  refine wo_iast S.1 hw k_0 i_65 dX6_day_65 (fun H locs hw => ?_)
  refine lv_iload_n hx hb dX6_day_66 rfl (lv_at hl 1 rfl) ?_
  refine lv_aload_n hx hb dX6_day_67 rfl (lv_at hl 0 rfl) ?_
  obtain ⟨k_1, h⟩ := h
  obtain ⟨y68_2, hy_2, h⟩ := h
  refine gf_X6_25 S.1 hw k_1 hy_2 dX6_day_68 ?_
  refine lv_iload_n hx hb dX6_day_71 rfl (lv_at hl 2 rfl) ?_
  obtain ⟨k_3, h⟩ := h
  obtain ⟨i_72, h⟩ := h
  refine wo_iald S.1 hw k_3 i_72 dX6_day_72 ?_
  refine lv_iadd hx hb dX6_day_73 ?_
  refine lv_istore_n (lv' := [(1, .int (v1 + (mA (setA M t2 (upd (mA M t2) t1.toNatClampNeg t0)) y68_2 v2.toNatClampNeg))), (0, .ref a0), (2, .int v2)]) hx hb dX6_day_74 rfl hl (by decide) rfl (fun ls hl => ?_)
  refine lv_iinc (v := (v2 + 1)) (lv' := [(2, .int (v2 + 1)), (1, .int (v1 + (mA (setA M t2 (upd (mA M t2) t1.toNatClampNeg t0)) y68_2 v2.toNatClampNeg))), (0, .ref a0)]) hx hb dX6_day_75 hl (k := 2) rfl rfl (by decide) rfl (fun ls hl => ?_)
  refine lv_goto (tgt := 4) hx hb dX6_day_78 (by decide) ?_
  exact (hK4 _ _ _ _ h) H locs ls hw (lv_sub hl [2, 1, 0] rfl)
set_option maxRecDepth 100000 in
set_option maxHeartbeats 4000000 in
theorem wB_X6_day_32 (S : Cx p m c meth cX6_day 4 s args RX6 (some .int)) {Q : Int32 → MM → Prop} {K4 : MM → Nat → Int32 → Int32 → Prop} (hK4 : ∀ (M : MM) (a0 : Nat) (v1 : Int32) (v2 : Int32), K4 M a0 v1 v2 → WG p l e rm_X6_day s m args below meth c 0 0 (MQi below E Z args s Q) E Z M 4 4 [(0, .ref a0), (1, .int v1), (2, .int v2)] []) (M : MM) (a0 : Nat) (v1 : Int32) (v2 : Int32) (t0 : Int32) (t1 : Int32) (h : B_X6_day_32 Z Q K4 M a0 v1 v2 t0 t1) : WG p l e rm_X6_day s m args below meth c 0 0 (MQi below E Z args s Q) E Z M 32 4 [(0, .ref a0), (1, .int v1), (2, .int v2)] [.int t0, .int t1] := by
  intro H locs ls hw hl
  have hx := S.1.1
  have hb := S.1.2.1
  refine lv_iadd hx hb dX6_day_32 ?_
  refine lv_istore_n (lv' := [(3, .int (t1 + t0)), (0, .ref a0), (1, .int v1), (2, .int v2)]) hx hb dX6_day_33 rfl hl (by decide) rfl (fun ls hl => ?_)
  refine lv_aload_n hx hb dX6_day_34 rfl (lv_at hl 1 rfl) ?_
  obtain ⟨k_0, h⟩ := h
  obtain ⟨y35_1, hy_1, h⟩ := h
  refine gf_X6_25 S.1 hw k_0 hy_1 dX6_day_35 ?_
  refine lv_iload_n hx hb dX6_day_38 rfl (lv_at hl 3 rfl) ?_
  refine lv_iload_n hx hb dX6_day_39 rfl (lv_at hl 0 rfl) ?_
  refine lv_aload_n hx hb dX6_day_40 rfl (lv_at hl 1 rfl) ?_
  obtain ⟨y41_2, hy_2, h⟩ := h
  refine gf_X6_7 S.1 hw k_0 hy_2 dX6_day_41 ?_
  refine lv_bipush (v := 8) hx hb dX6_day_44 (by decide) ?_
  refine lv_iload_n hx hb dX6_day_46 rfl (lv_at hl 3 rfl) ?_
  refine lv_iadd hx hb dX6_day_47 ?_
  obtain ⟨k_3, h⟩ := h
  obtain ⟨i_48, h⟩ := h
  refine wo_iald S.1 hw k_3 i_48 dX6_day_48 ?_
  refine lv_icmp_ge (tgt := 56) hx hb dX6_day_49 (by decide) (fun q_49 => ?_) (fun q_49 => ?_)
  · have h := h.1 q_49
    refine lv_aload_n hx hb dX6_day_56 rfl (lv_at hl 1 rfl) ?_
    refine gf_X6_7 S.1 hw k_0 hy_2 dX6_day_57 ?_
    refine lv_bipush (v := 8) hx hb dX6_day_60 (by decide) ?_
    refine lv_iload_n hx hb dX6_day_62 rfl (lv_at hl 3 rfl) ?_
    refine lv_iadd hx hb dX6_day_63 ?_
    obtain ⟨i_64, h⟩ := h
    refine wo_iald S.1 hw k_3 i_64 dX6_day_64 ?_
    exact ((wB_X6_day_65 S  hK4 _ _ _ _ _ _ _ h)) H locs ls hw (lv_sub hl [1, 2, 3] rfl)
  · have h := h.2 q_49
    refine lv_iload_n hx hb dX6_day_52 rfl (lv_at hl 0 rfl) ?_
    refine lv_goto (tgt := 65) hx hb dX6_day_53 (by decide) ?_
    exact ((wB_X6_day_65 S  hK4 _ _ _ _ _ _ _ h)) H locs ls hw (lv_sub hl [1, 2, 3] rfl)
set_option maxRecDepth 100000 in
set_option maxHeartbeats 4000000 in
theorem wB_X6_day_83 (S : Cx p m c meth cX6_day 4 s args RX6 (some .int)) {Q : Int32 → MM → Prop} {K83 : MM → Nat → Int32 → Int32 → Prop} (hK83 : ∀ (M : MM) (a0 : Nat) (v1 : Int32) (v2 : Int32), K83 M a0 v1 v2 → WG p l e rm_X6_day s m args below meth c 0 0 (MQi below E Z args s Q) E Z M 83 4 [(0, .ref a0), (1, .int v1), (2, .int v2)] []) (M : MM) (a0 : Nat) (v1 : Int32) (v2 : Int32) (h : B_X6_day_83 Z Q K83 M a0 v1 v2) : WG p l e rm_X6_day s m args below meth c 0 0 (MQi below E Z args s Q) E Z M 83 4 [(0, .ref a0), (1, .int v1), (2, .int v2)] [] := by
  intro H locs ls hw hl
  have hx := S.1.1
  have hb := S.1.2.1
  refine lv_iload_n hx hb dX6_day_83 rfl (lv_at hl 2 rfl) ?_
  refine lv_aload_n hx hb dX6_day_84 rfl (lv_at hl 0 rfl) ?_
  obtain ⟨k_0, h⟩ := h
  refine cv_i (As := []) (rest := [.int v2]) S.1 hw (k_X6_cells l E Z M a0  _ h) wv_X6_45 yc_X6_cells ⟨rfl, rfl⟩ ⟨Nat.le_of_ble_eq_true rfl, Nat.le_of_ble_eq_true rfl⟩ rfl hl.1 (Nat.le_of_ble_eq_true rfl) (ci := 6) (q := (RX6, TX6, 12)) rfl rfl (by rw [k_0]; decide) (cell_6 k_0) ⟨Nat.le_of_ble_eq_true rfl, Nat.le_of_ble_eq_true rfl⟩ dX6_day_85 (fun r85 M85 H locs h hw => ?_)
  refine lv_icmp_ge (tgt := 115) hx hb dX6_day_88 (by decide) (fun q_88 => ?_) (fun q_88 => ?_)
  · have h := h.1 q_88
    refine lv_aload_n hx hb dX6_day_115 rfl (lv_at hl 0 rfl) ?_
    obtain ⟨y116_1, hy_1, h⟩ := h
    refine gf_X6_7 S.1 hw k_0 hy_1 dX6_day_116 ?_
    refine lv_bipush (v := 6) hx hb dX6_day_119 (by decide) ?_
    refine lv_dup2_11 hx hb dX6_day_121 rfl rfl ?_
    obtain ⟨k_2, h⟩ := h
    obtain ⟨i_122, h⟩ := h
    refine wo_iald S.1 hw k_2 i_122 dX6_day_122 ?_
    refine lv_iload_n hx hb dX6_day_123 rfl (lv_at hl 1 rfl) ?_
    refine lv_iadd hx hb dX6_day_124 ?_
    obtain ⟨i_125, h⟩ := h
    refine wo_iast S.1 hw k_2 i_125 dX6_day_125 (fun H locs hw => ?_)
    refine lv_aload_n hx hb dX6_day_126 rfl (lv_at hl 0 rfl) ?_
    refine gf_X6_7 S.1 hw k_0 hy_1 dX6_day_127 ?_
    refine lv_iconst (v := 3) hx hb dX6_day_130 (by decide) ?_
    refine lv_dup2_11 hx hb dX6_day_131 rfl rfl ?_
    obtain ⟨i_132, h⟩ := h
    refine wo_iald S.1 hw k_2 i_132 dX6_day_132 ?_
    refine lv_iconst (v := 1) hx hb dX6_day_133 (by decide) ?_
    refine lv_iadd hx hb dX6_day_134 ?_
    obtain ⟨i_135, h⟩ := h
    refine wo_iast S.1 hw k_2 i_135 dX6_day_135 (fun H locs hw => ?_)
    refine lv_iload_n hx hb dX6_day_136 rfl (lv_at hl 1 rfl) ?_
    exact we_i S hw h dX6_day_137
  · have h := h.2 q_88
    refine lv_aload_n hx hb dX6_day_91 rfl (lv_at hl 0 rfl) ?_
    obtain ⟨y92_3, hy_3, h⟩ := h
    refine gf_X6_7 S.1 hw k_0 hy_3 dX6_day_92 ?_
    refine lv_bipush (v := 8) hx hb dX6_day_95 (by decide) ?_
    refine lv_iload_n hx hb dX6_day_97 rfl (lv_at hl 2 rfl) ?_
    refine lv_iadd hx hb dX6_day_98 ?_
    refine lv_dup2_11 hx hb dX6_day_99 rfl rfl ?_
    obtain ⟨k_4, h⟩ := h
    obtain ⟨i_100, h⟩ := h
    refine wo_iald S.1 hw k_4 i_100 dX6_day_100 ?_
    refine lv_aload_n hx hb dX6_day_101 rfl (lv_at hl 0 rfl) ?_
    obtain ⟨y102_5, hy_5, h⟩ := h
    refine gf_X6_25 S.1 hw k_0 hy_5 dX6_day_102 ?_
    refine lv_iload_n hx hb dX6_day_105 rfl (lv_at hl 2 rfl) ?_
    obtain ⟨k_6, h⟩ := h
    obtain ⟨i_106, h⟩ := h
    refine wo_iald S.1 hw k_6 i_106 dX6_day_106 ?_
    refine lv_isub hx hb dX6_day_107 ?_
    obtain ⟨i_108, h⟩ := h
    refine wo_iast S.1 hw k_4 i_108 dX6_day_108 (fun H locs hw => ?_)
    refine lv_iinc (v := (v2 + 1)) (lv' := [(2, .int (v2 + 1)), (0, .ref a0), (1, .int v1)]) hx hb dX6_day_109 hl (k := 2) rfl rfl (by decide) rfl (fun ls hl => ?_)
    refine lv_goto (tgt := 83) hx hb dX6_day_112 (by decide) ?_
    exact (hK83 _ _ _ _ h) H locs ls hw (lv_sub hl [1, 2, 0] rfl)
theorem wL_X6_day_83 (S : Cx p m c meth cX6_day 4 s args RX6 (some .int)) {Q : Int32 → MM → Prop}   : ∀ (n : Nat) (M : MM) (a0 : Nat) (v1 : Int32) (v2 : Int32), L_X6_day_83 Z Q   n M a0 v1 v2 → WG p l e rm_X6_day s m args below meth c 0 0 (MQi below E Z args s Q) E Z M 83 4 [(0, .ref a0), (1, .int v1), (2, .int v2)] []
  | 0, _, _, _, _, h => False.elim h
  | n + 1, M, a0, v1, v2, h => wB_X6_day_83 S  (wL_X6_day_83 S   n) M a0 v1 v2 h
set_option maxRecDepth 100000 in
set_option maxHeartbeats 4000000 in
theorem wB_X6_day_4 (S : Cx p m c meth cX6_day 4 s args RX6 (some .int)) {Q : Int32 → MM → Prop} {K4 : MM → Nat → Int32 → Int32 → Prop} (hK4 : ∀ (M : MM) (a0 : Nat) (v1 : Int32) (v2 : Int32), K4 M a0 v1 v2 → WG p l e rm_X6_day s m args below meth c 0 0 (MQi below E Z args s Q) E Z M 4 4 [(0, .ref a0), (1, .int v1), (2, .int v2)] []) (M : MM) (a0 : Nat) (v1 : Int32) (v2 : Int32) (h : B_X6_day_4 Z Q K4 M a0 v1 v2) : WG p l e rm_X6_day s m args below meth c 0 0 (MQi below E Z args s Q) E Z M 4 4 [(0, .ref a0), (1, .int v1), (2, .int v2)] [] := by
  intro H locs ls hw hl
  have hx := S.1.1
  have hb := S.1.2.1
  refine lv_iload_n hx hb dX6_day_4 rfl (lv_at hl 2 rfl) ?_
  refine lv_aload_n hx hb dX6_day_5 rfl (lv_at hl 0 rfl) ?_
  obtain ⟨k_0, h⟩ := h
  refine cv_i (As := []) (rest := [.int v2]) S.1 hw (k_X6_cells l E Z M a0  _ h) wv_X6_45 yc_X6_cells ⟨rfl, rfl⟩ ⟨Nat.le_of_ble_eq_true rfl, Nat.le_of_ble_eq_true rfl⟩ rfl hl.1 (Nat.le_of_ble_eq_true rfl) (ci := 6) (q := (RX6, TX6, 12)) rfl rfl (by rw [k_0]; decide) (cell_6 k_0) ⟨Nat.le_of_ble_eq_true rfl, Nat.le_of_ble_eq_true rfl⟩ dX6_day_6 (fun r6 M6 H locs h hw => ?_)
  refine lv_icmp_ge (tgt := 81) hx hb dX6_day_9 (by decide) (fun q_9 => ?_) (fun q_9 => ?_)
  · have h := h.1 q_9
    refine lv_iconst (v := 0) hx hb dX6_day_81 (by decide) ?_
    refine lv_istore_n (lv' := [(2, .int 0), (0, .ref a0), (1, .int v1)]) hx hb dX6_day_82 rfl hl (by decide) rfl (fun ls hl => ?_)
    exact ((Exists.elim h (fun n h => wL_X6_day_83 S   n _ _ _ _ h))) H locs ls hw (lv_sub hl [1, 2, 0] rfl)
  · have h := h.2 q_9
    refine lv_aload_n hx hb dX6_day_12 rfl (lv_at hl 0 rfl) ?_
    obtain ⟨y13_1, hy_1, h⟩ := h
    refine gf_X6_7 S.1 hw k_0 hy_1 dX6_day_13 ?_
    refine lv_iconst (v := 2) hx hb dX6_day_16 (by decide) ?_
    obtain ⟨k_2, h⟩ := h
    obtain ⟨i_17, h⟩ := h
    refine wo_iald S.1 hw k_2 i_17 dX6_day_17 ?_
    refine lv_aload_n hx hb dX6_day_18 rfl (lv_at hl 0 rfl) ?_
    refine lv_iload_n hx hb dX6_day_19 rfl (lv_at hl 2 rfl) ?_
    refine cv_i (As := [.int v2]) (rest := [.int (mA M6 y13_1 (2 : Int32).toNatClampNeg)]) S.1 hw (k_X6_waterBeside l E Z M6 a0 v2 _ h) wv_X6_160 yc_X6_waterBeside ⟨rfl, rfl⟩ ⟨Nat.le_of_ble_eq_true rfl, Nat.le_of_ble_eq_true rfl⟩ rfl hl.1 (Nat.le_of_ble_eq_true rfl) (ci := 6) (q := (RX6, TX6, 12)) rfl rfl (by rw [k_0]; decide) (cell_6 k_0) ⟨Nat.le_of_ble_eq_true rfl, Nat.le_of_ble_eq_true rfl⟩ dX6_day_20 (fun r20 M20 H locs h hw => ?_)
    refine lv_iconst (v := 1) hx hb dX6_day_23 (by decide) ?_
    refine lv_icmp_le (tgt := 31) hx hb dX6_day_24 (by decide) (fun q_24 => ?_) (fun q_24 => ?_)
    · have h := h.1 q_24
      refine lv_iconst (v := 0) hx hb dX6_day_31 (by decide) ?_
      exact ((wB_X6_day_32 S  hK4 _ _ _ _ _ _ h)) H locs ls hw (lv_sub hl [0, 1, 2] rfl)
    · have h := h.2 q_24
      refine lv_iconst (v := 1) hx hb dX6_day_27 (by decide) ?_
      refine lv_goto (tgt := 32) hx hb dX6_day_28 (by decide) ?_
      exact ((wB_X6_day_32 S  hK4 _ _ _ _ _ _ h)) H locs ls hw (lv_sub hl [0, 1, 2] rfl)
theorem wL_X6_day_4 (S : Cx p m c meth cX6_day 4 s args RX6 (some .int)) {Q : Int32 → MM → Prop}   : ∀ (n : Nat) (M : MM) (a0 : Nat) (v1 : Int32) (v2 : Int32), L_X6_day_4 Z Q   n M a0 v1 v2 → WG p l e rm_X6_day s m args below meth c 0 0 (MQi below E Z args s Q) E Z M 4 4 [(0, .ref a0), (1, .int v1), (2, .int v2)] []
  | 0, _, _, _, _, h => False.elim h
  | n + 1, M, a0, v1, v2, h => wB_X6_day_4 S  (wL_X6_day_4 S   n) M a0 v1 v2 h
set_option maxRecDepth 100000 in
set_option maxHeartbeats 4000000 in
theorem wB_X6_day_0 (S : Cx p m c meth cX6_day 4 s args RX6 (some .int)) {Q : Int32 → MM → Prop}   (M : MM) (a0 : Nat) (h : B_X6_day_0 Z Q  M a0) : WG p l e rm_X6_day s m args below meth c 0 0 (MQi below E Z args s Q) E Z M 0 4 [(0, .ref a0)] [] := by
  intro H locs ls hw hl
  have hx := S.1.1
  have hb := S.1.2.1
  refine lv_iconst (v := 0) hx hb dX6_day_0 (by decide) ?_
  refine lv_istore_n (lv' := [(1, .int 0), (0, .ref a0)]) hx hb dX6_day_1 rfl hl (by decide) rfl (fun ls hl => ?_)
  refine lv_iconst (v := 0) hx hb dX6_day_2 (by decide) ?_
  refine lv_istore_n (lv' := [(2, .int 0), (1, .int 0), (0, .ref a0)]) hx hb dX6_day_3 rfl hl (by decide) rfl (fun ls hl => ?_)
  exact ((Exists.elim h (fun n h => wL_X6_day_4 S   n _ _ _ _ h))) H locs ls hw (lv_sub hl [2, 1, 0] rfl)
set_option maxRecDepth 100000 in
set_option maxHeartbeats 4000000 in
theorem k_X6_day (l : Launch) (E : EE) (Z : ZZ) (M : MM) (a0 : Nat) (Q : Int32 → MM → Prop) (h : P_X6_day Z M a0 Q) : Ct_i l yX6_day cX6_day 4 (some .int) rm_X6_day E Z M [.ref a0] Q := by
  refine Met.ofW (cc := cX6_day) (maxL := 4) (ret := some .int) (by decide) rfl ?_
  intro p e s m args below meth c s₁ B hml hv
  obtain ⟨rfl, hK, hP, hD, hZ⟩ := hv
  have S : Cx p m c meth cX6_day 4 s _ RX6 (some .int) := ⟨⟨B.exec, B.bytes, hml, findClass_of_methodNamed B.named, fun w hw => atoms_spec (ws := ws_ yX6_day cX6_day 4 (some .int)) B.pre w (List.mem_cons_of_mem _ hw)⟩, B.returns, B.notSynchronized⟩
  have hl := lv_entry ([.ref a0]) (n := 4) (Nat.le_of_ble_eq_true rfl)
  rw [lg_entry_eq]
  generalize (lg_sl ([.ref a0]) ++ List.replicate (4 - (lg_sl ([.ref a0])).length) Slot.unset).toArray = ls at hl ⊢
  exact (wB_X6_day_0 S  M a0 h) s.heap [] ls ⟨hK, hP, hD, va_S.rf, hZ⟩ hl
set_option maxRecDepth 100000 in
set_option maxHeartbeats 4000000 in
theorem wB_X6_pass_26 (S : Cx p m c meth cX6_pass 4 s args RX6 (some .int)) {Q : Int32 → MM → Prop} {K26 : MM → Nat → Int32 → Int32 → Int32 → Prop} (hK26 : ∀ (M : MM) (a0 : Nat) (v1 : Int32) (v2 : Int32) (v3 : Int32), K26 M a0 v1 v2 v3 → WG p l e rm_X6_pass s m args below meth c 0 0 (MQi below E Z args s Q) E Z M 26 4 [(0, .ref a0), (1, .int v1), (2, .int v2), (3, .int v3)] []) (M : MM) (a0 : Nat) (v1 : Int32) (v2 : Int32) (v3 : Int32) (h : B_X6_pass_26 Z Q K26 M a0 v1 v2 v3) : WG p l e rm_X6_pass s m args below meth c 0 0 (MQi below E Z args s Q) E Z M 26 4 [(0, .ref a0), (1, .int v1), (2, .int v2), (3, .int v3)] [] := by
  intro H locs ls hw hl
  have hx := S.1.1
  have hb := S.1.2.1
  refine lv_iload_n hx hb dX6_pass_26 rfl (lv_at hl 3 rfl) ?_
  refine lv_iload_n hx hb dX6_pass_27 rfl (lv_at hl 1 rfl) ?_
  refine lv_icmp_ge (tgt := 44) hx hb dX6_pass_28 (by decide) (fun q_28 => ?_) (fun q_28 => ?_)
  · have h := h.1 q_28
    refine lv_aload_n hx hb dX6_pass_44 rfl (lv_at hl 0 rfl) ?_
    refine lv_iload_n hx hb dX6_pass_45 rfl (lv_at hl 2 rfl) ?_
    obtain ⟨k_0, h⟩ := h
    refine cv_i (As := [.int v2]) (rest := []) S.1 hw (k_X6_fine l E Z M a0 v2 _ h) wv_X6_66 yc_X6_fine ⟨rfl, rfl⟩ ⟨Nat.le_of_ble_eq_true rfl, Nat.le_of_ble_eq_true rfl⟩ rfl hl.1 (Nat.le_of_ble_eq_true rfl) (ci := 6) (q := (RX6, TX6, 12)) rfl rfl (by rw [k_0]; decide) (cell_6 k_0) ⟨Nat.le_of_ble_eq_true rfl, Nat.le_of_ble_eq_true rfl⟩ dX6_pass_46 (fun r46 M46 H locs h hw => ?_)
    exact we_i S hw h dX6_pass_49
  · have h := h.2 q_28
    refine lv_iload_n hx hb dX6_pass_31 rfl (lv_at hl 2 rfl) ?_
    refine lv_aload_n hx hb dX6_pass_32 rfl (lv_at hl 0 rfl) ?_
    obtain ⟨k_1, h⟩ := h
    refine cv_i (As := []) (rest := [.int v2]) S.1 hw (k_X6_day l E Z M a0  _ h) wv_X6_163 yc_X6_day ⟨rfl, rfl⟩ ⟨Nat.le_of_ble_eq_true rfl, Nat.le_of_ble_eq_true rfl⟩ rfl hl.1 (Nat.le_of_ble_eq_true rfl) (ci := 6) (q := (RX6, TX6, 12)) rfl rfl (by rw [k_1]; decide) (cell_6 k_1) ⟨Nat.le_of_ble_eq_true rfl, Nat.le_of_ble_eq_true rfl⟩ dX6_pass_33 (fun r33 M33 H locs h hw => ?_)
    refine lv_iadd hx hb dX6_pass_36 ?_
    refine lv_istore_n (lv' := [(2, .int (v2 + r33)), (0, .ref a0), (1, .int v1), (3, .int v3)]) hx hb dX6_pass_37 rfl hl (by decide) rfl (fun ls hl => ?_)
    refine lv_iinc (v := (v3 + 1)) (lv' := [(3, .int (v3 + 1)), (2, .int (v2 + r33)), (0, .ref a0), (1, .int v1)]) hx hb dX6_pass_38 hl (k := 3) rfl rfl (by decide) rfl (fun ls hl => ?_)
    refine lv_goto (tgt := 26) hx hb dX6_pass_41 (by decide) ?_
    exact (hK26 _ _ _ _ _ h) H locs ls hw (lv_sub hl [2, 3, 1, 0] rfl)
theorem wL_X6_pass_26 (S : Cx p m c meth cX6_pass 4 s args RX6 (some .int)) {Q : Int32 → MM → Prop}   : ∀ (n : Nat) (M : MM) (a0 : Nat) (v1 : Int32) (v2 : Int32) (v3 : Int32), L_X6_pass_26 Z Q   n M a0 v1 v2 v3 → WG p l e rm_X6_pass s m args below meth c 0 0 (MQi below E Z args s Q) E Z M 26 4 [(0, .ref a0), (1, .int v1), (2, .int v2), (3, .int v3)] []
  | 0, _, _, _, _, _, h => False.elim h
  | n + 1, M, a0, v1, v2, v3, h => wB_X6_pass_26 S  (wL_X6_pass_26 S   n) M a0 v1 v2 v3 h
set_option maxRecDepth 100000 in
set_option maxHeartbeats 4000000 in
theorem wB_X6_pass_0 (S : Cx p m c meth cX6_pass 4 s args RX6 (some .int)) {Q : Int32 → MM → Prop}   (M : MM) (a0 : Nat) (v1 : Int32) (h : B_X6_pass_0 Z Q  M a0 v1) : WG p l e rm_X6_pass s m args below meth c 0 0 (MQi below E Z args s Q) E Z M 0 4 [(0, .ref a0), (1, .int v1)] [] := by
  intro H locs ls hw hl
  have hx := S.1.1
  have hb := S.1.2.1
  have hown := S.1.2.2.2.1
  have hts := S.1.2.2.2.2
  refine lv_iload_n hx hb dX6_pass_0 rfl (lv_at hl 1 rfl) ?_
  refine lv_i2l (v := v1.toInt64) hx hb dX6_pass_1 rfl ?_
  refine lv_lconst (v := 1) hx hb dX6_pass_2 (by decide) ?_
  refine lv_ldc2 (v := 50) hx hb hown (hts _ wq_X6_57) dX6_pass_3 ?_
  refine cs_i (As := [.long v1.toInt64, .long 1, .long 50]) (rest := []) S.1 hw (k_X6_in l E Z M v1.toInt64 1 50 _ h) wv_X6_49 yc_X6_in ⟨rfl, rfl⟩ ⟨Nat.le_of_ble_eq_true rfl, Nat.le_of_ble_eq_true rfl⟩ rfl hl.1 (Nat.le_of_ble_eq_true rfl) ⟨Nat.le_of_ble_eq_true rfl, Nat.le_of_ble_eq_true rfl⟩ dX6_pass_6 (fun r6 M6 H locs h hw => ?_)
  refine lv_if_ne (tgt := 18) hx hb dX6_pass_9 (by decide) (fun q_9 => ?_) (fun q_9 => ?_)
  · have h := h.1 q_9
    refine lv_aload_n hx hb dX6_pass_18 rfl (lv_at hl 0 rfl) ?_
    obtain ⟨k_0, h⟩ := h
    refine cv_v (As := []) (rest := []) S.1 hw (k_X6_save l E Z M6 a0  _ h) wv_X6_63 yc_X6_save ⟨rfl, rfl⟩ ⟨Nat.le_of_ble_eq_true rfl, Nat.le_of_ble_eq_true rfl⟩ rfl hl.1 (Nat.le_of_ble_eq_true rfl) (ci := 6) (q := (RX6, TX6, 12)) rfl rfl (by rw [k_0]; decide) (cell_6 k_0) ⟨Nat.le_of_ble_eq_true rfl, Nat.le_of_ble_eq_true rfl⟩ dX6_pass_19 (fun M19 H locs h hw => ?_)
    refine lv_iconst (v := 0) hx hb dX6_pass_22 (by decide) ?_
    refine lv_istore_n (lv' := [(2, .int 0), (0, .ref a0), (1, .int v1)]) hx hb dX6_pass_23 rfl hl (by decide) rfl (fun ls hl => ?_)
    refine lv_iconst (v := 0) hx hb dX6_pass_24 (by decide) ?_
    refine lv_istore_n (lv' := [(3, .int 0), (2, .int 0), (0, .ref a0), (1, .int v1)]) hx hb dX6_pass_25 rfl hl (by decide) rfl (fun ls hl => ?_)
    exact ((Exists.elim h (fun n h => wL_X6_pass_26 S   n _ _ _ _ _ h))) H locs ls hw (lv_sub hl [2, 3, 1, 0] rfl)
  · have h := h.2 q_9
    refine lv_aload_n hx hb dX6_pass_12 rfl (lv_at hl 0 rfl) ?_
    refine lv_iconst (v := 1) hx hb dX6_pass_13 (by decide) ?_
    obtain ⟨k_1, h⟩ := h
    refine cv_i (As := [.int 1]) (rest := []) S.1 hw (k_X6_throwing l E Z M6 a0 1 _ h) wv_X6_59 yc_X6_throwing ⟨rfl, rfl⟩ ⟨Nat.le_of_ble_eq_true rfl, Nat.le_of_ble_eq_true rfl⟩ rfl hl.1 (Nat.le_of_ble_eq_true rfl) (ci := 6) (q := (RX6, TX6, 12)) rfl rfl (by rw [k_1]; decide) (cell_6 k_1) ⟨Nat.le_of_ble_eq_true rfl, Nat.le_of_ble_eq_true rfl⟩ dX6_pass_14 (fun r14 M14 H locs h hw => ?_)
    exact we_i S hw h dX6_pass_17
set_option maxRecDepth 100000 in
set_option maxHeartbeats 4000000 in
theorem k_X6_pass (l : Launch) (E : EE) (Z : ZZ) (M : MM) (a0 : Nat) (v1 : Int32) (Q : Int32 → MM → Prop) (h : P_X6_pass Z M a0 v1 Q) : Ct_i l yX6_pass cX6_pass 4 (some .int) rm_X6_pass E Z M [.ref a0, .int v1] Q := by
  refine Met.ofW (cc := cX6_pass) (maxL := 4) (ret := some .int) (by decide) rfl ?_
  intro p e s m args below meth c s₁ B hml hv
  obtain ⟨rfl, hK, hP, hD, hZ⟩ := hv
  have S : Cx p m c meth cX6_pass 4 s _ RX6 (some .int) := ⟨⟨B.exec, B.bytes, hml, findClass_of_methodNamed B.named, fun w hw => atoms_spec (ws := ws_ yX6_pass cX6_pass 4 (some .int)) B.pre w (List.mem_cons_of_mem _ hw)⟩, B.returns, B.notSynchronized⟩
  have hl := lv_entry ([.ref a0, .int v1]) (n := 4) (Nat.le_of_ble_eq_true rfl)
  rw [lg_entry_eq]
  generalize (lg_sl ([.ref a0, .int v1]) ++ List.replicate (4 - (lg_sl ([.ref a0, .int v1])).length) Slot.unset).toArray = ls at hl ⊢
  exact (wB_X6_pass_0 S  M a0 v1 h) s.heap [] ls ⟨hK, hP, hD, va_S.rf, hZ⟩ hl
set_option maxRecDepth 100000 in
set_option maxHeartbeats 4000000 in
theorem wB_X6_cellOf_0 (S : Cx p m c meth cX6_cellOf 3 s args RX6 (some .int)) {Q : Int32 → MM → Prop}   (M : MM) (a0 : Nat) (v1 : Int32) (v2 : Int32) (h : B_X6_cellOf_0 Z Q  M a0 v1 v2) : WG p l e rm_X6_cellOf s m args below meth c 0 0 (MQi below E Z args s Q) E Z M 0 3 [(0, .ref a0), (1, .int v1), (2, .int v2)] [] := by
  intro H locs ls hw hl
  have hx := S.1.1
  have hb := S.1.2.1
  refine lv_iload_n hx hb dX6_cellOf_0 rfl (lv_at hl 2 rfl) ?_
  by_cases q_1_0 : v2 = 0
  · have h := h.1 q_1_0
    refine lv_lookup (tgt := 36) hx hb dX6_cellOf_1 (by decide) (by rw [q_1_0] <;> rfl) (by decide) ?_
    refine lv_aload_n hx hb dX6_cellOf_36 rfl (lv_at hl 0 rfl) ?_
    obtain ⟨k_0, h⟩ := h
    obtain ⟨y37_1, hy_1, h⟩ := h
    refine gf_X6_7 S.1 hw k_0 hy_1 dX6_cellOf_37 ?_
    refine lv_bipush (v := 8) hx hb dX6_cellOf_40 (by decide) ?_
    refine lv_iload_n hx hb dX6_cellOf_42 rfl (lv_at hl 1 rfl) ?_
    refine lv_iadd hx hb dX6_cellOf_43 ?_
    obtain ⟨k_2, h⟩ := h
    obtain ⟨i_44, h⟩ := h
    refine wo_iald S.1 hw k_2 i_44 dX6_cellOf_44 ?_
    exact we_i S hw h dX6_cellOf_45
  · have h := h.2 q_1_0
    by_cases q_1_1 : v2 = 5
    · have h := h.1 q_1_1
      refine lv_lookup (tgt := 46) hx hb dX6_cellOf_1 (by decide) (by rw [q_1_1] <;> rfl) (by decide) ?_
      refine lv_aload_n hx hb dX6_cellOf_46 rfl (lv_at hl 0 rfl) ?_
      obtain ⟨k_3, h⟩ := h
      obtain ⟨y47_4, hy_4, h⟩ := h
      refine gf_X6_19 S.1 hw k_3 hy_4 dX6_cellOf_47 ?_
      refine lv_iload_n hx hb dX6_cellOf_50 rfl (lv_at hl 1 rfl) ?_
      obtain ⟨k_5, h⟩ := h
      obtain ⟨i_51, h⟩ := h
      refine wo_iald S.1 hw k_5 i_51 dX6_cellOf_51 ?_
      exact we_i S hw h dX6_cellOf_52
    · have h := h.2 q_1_1
      by_cases q_1_2 : v2 = 6
      · have h := h.1 q_1_2
        refine lv_lookup (tgt := 53) hx hb dX6_cellOf_1 (by decide) (by rw [q_1_2] <;> rfl) (by decide) ?_
        refine lv_aload_n hx hb dX6_cellOf_53 rfl (lv_at hl 0 rfl) ?_
        refine lv_iload_n hx hb dX6_cellOf_54 rfl (lv_at hl 1 rfl) ?_
        obtain ⟨k_6, h⟩ := h
        refine cv_i (As := [.int v1]) (rest := []) S.1 hw (k_X6_waterBeside l E Z M a0 v1 _ h) wv_X6_160 yc_X6_waterBeside ⟨rfl, rfl⟩ ⟨Nat.le_of_ble_eq_true rfl, Nat.le_of_ble_eq_true rfl⟩ rfl hl.1 (Nat.le_of_ble_eq_true rfl) (ci := 6) (q := (RX6, TX6, 12)) rfl rfl (by rw [k_6]; decide) (cell_6 k_6) ⟨Nat.le_of_ble_eq_true rfl, Nat.le_of_ble_eq_true rfl⟩ dX6_cellOf_55 (fun r55 M55 H locs h hw => ?_)
        exact we_i S hw h dX6_cellOf_58
      · have h := h.2 q_1_2
        have t_0 := lv_neT q_1_0 (a := 0) rfl
        have t_1 := lv_neT q_1_1 (a := 5) rfl
        have t_2 := lv_neT q_1_2 (a := 6) rfl
        refine lv_lookup (off := 58) (tgt := 59) hx hb dX6_cellOf_1 (by decide) (by rw [lv_osw q_1_0 (by decide), lv_osw q_1_1 (by decide), lv_osw q_1_2 (by decide)] <;> rfl) (by decide) ?_
        refine lv_aload_n hx hb dX6_cellOf_59 rfl (lv_at hl 0 rfl) ?_
        refine lv_iload_n hx hb dX6_cellOf_60 rfl (lv_at hl 1 rfl) ?_
        refine lv_iload_n hx hb dX6_cellOf_61 rfl (lv_at hl 2 rfl) ?_
        refine lv_iconst (v := 1) hx hb dX6_cellOf_62 (by decide) ?_
        refine lv_isub hx hb dX6_cellOf_63 ?_
        obtain ⟨k_7, h⟩ := h
        refine cv_i (As := [.int v1, .int (v2 - 1)]) (rest := []) S.1 hw (k_X6_isCut l E Z M a0 v1 (v2 - 1) _ h) wv_X6_90 yc_X6_isCut ⟨rfl, rfl⟩ ⟨Nat.le_of_ble_eq_true rfl, Nat.le_of_ble_eq_true rfl⟩ rfl hl.1 (Nat.le_of_ble_eq_true rfl) (ci := 6) (q := (RX6, TX6, 12)) rfl rfl (by rw [k_7]; decide) (cell_6 k_7) ⟨Nat.le_of_ble_eq_true rfl, Nat.le_of_ble_eq_true rfl⟩ dX6_cellOf_64 (fun r64 M64 H locs h hw => ?_)
        refine lv_if_eq (tgt := 74) hx hb dX6_cellOf_67 (by decide) (fun q_67 => ?_) (fun q_67 => ?_)
        · have h := h.1 q_67
          refine lv_iconst (v := 0) hx hb dX6_cellOf_74 (by decide) ?_
          exact we_i S hw h dX6_cellOf_75
        · have h := h.2 q_67
          refine lv_iconst (v := 1) hx hb dX6_cellOf_70 (by decide) ?_
          refine lv_goto (tgt := 75) hx hb dX6_cellOf_71 (by decide) ?_
          exact we_i S hw h dX6_cellOf_75
set_option maxRecDepth 100000 in
set_option maxHeartbeats 4000000 in
theorem k_X6_cellOf (l : Launch) (E : EE) (Z : ZZ) (M : MM) (a0 : Nat) (v1 : Int32) (v2 : Int32) (Q : Int32 → MM → Prop) (h : P_X6_cellOf Z M a0 v1 v2 Q) : Ct_i l yX6_cellOf cX6_cellOf 3 (some .int) rm_X6_cellOf E Z M [.ref a0, .int v1, .int v2] Q := by
  refine Met.ofW (cc := cX6_cellOf) (maxL := 3) (ret := some .int) (by decide) rfl ?_
  intro p e s m args below meth c s₁ B hml hv
  obtain ⟨rfl, hK, hP, hD, hZ⟩ := hv
  have S : Cx p m c meth cX6_cellOf 3 s _ RX6 (some .int) := ⟨⟨B.exec, B.bytes, hml, findClass_of_methodNamed B.named, fun w hw => atoms_spec (ws := ws_ yX6_cellOf cX6_cellOf 3 (some .int)) B.pre w (List.mem_cons_of_mem _ hw)⟩, B.returns, B.notSynchronized⟩
  have hl := lv_entry ([.ref a0, .int v1, .int v2]) (n := 3) (Nat.le_of_ble_eq_true rfl)
  rw [lg_entry_eq]
  generalize (lg_sl ([.ref a0, .int v1, .int v2]) ++ List.replicate (3 - (lg_sl ([.ref a0, .int v1, .int v2])).length) Slot.unset).toArray = ls at hl ⊢
  exact (wB_X6_cellOf_0 S  M a0 v1 v2 h) s.heap [] ls ⟨hK, hP, hD, va_S.rf, hZ⟩ hl
set_option maxRecDepth 100000 in
set_option maxHeartbeats 4000000 in
theorem wB_X6_cell_0 (S : Cx p m c meth cX6_cell 3 s args RX6 (some .int)) {Q : Int32 → MM → Prop}   (M : MM) (a0 : Nat) (v1 : Int32) (v2 : Int32) (h : B_X6_cell_0 Z Q  M a0 v1 v2) : WG p l e rm_X6_cell s m args below meth c 0 0 (MQi below E Z args s Q) E Z M 0 3 [(0, .ref a0), (1, .int v1), (2, .int v2)] [] := by
  intro H locs ls hw hl
  have hx := S.1.1
  have hb := S.1.2.1
  have hown := S.1.2.2.2.1
  have hts := S.1.2.2.2.2
  refine lv_aload_n hx hb dX6_cell_0 rfl (lv_at hl 0 rfl) ?_
  refine lv_iload_n hx hb dX6_cell_1 rfl (lv_at hl 1 rfl) ?_
  obtain ⟨k_0, h⟩ := h
  refine cv_i (As := [.int v1]) (rest := []) S.1 hw (k_X6_isCell l E Z M a0 v1 _ h) wv_X6_69 yc_X6_isCell ⟨rfl, rfl⟩ ⟨Nat.le_of_ble_eq_true rfl, Nat.le_of_ble_eq_true rfl⟩ rfl hl.1 (Nat.le_of_ble_eq_true rfl) (ci := 6) (q := (RX6, TX6, 12)) rfl rfl (by rw [k_0]; decide) (cell_6 k_0) ⟨Nat.le_of_ble_eq_true rfl, Nat.le_of_ble_eq_true rfl⟩ dX6_cell_2 (fun r2 M2 H locs h hw => ?_)
  refine lv_if_ne (tgt := 14) hx hb dX6_cell_5 (by decide) (fun q_5 => ?_) (fun q_5 => ?_)
  · have h := h.1 q_5
    refine lv_iload_n hx hb dX6_cell_14 rfl (lv_at hl 2 rfl) ?_
    refine lv_i2l (v := v2.toInt64) hx hb dX6_cell_15 rfl ?_
    refine lv_lconst (v := 0) hx hb dX6_cell_16 (by decide) ?_
    refine lv_ldc2 (v := 6) hx hb hown (hts _ wq_X6_166) dX6_cell_17 ?_
    refine cs_i (As := [.long v2.toInt64, .long 0, .long 6]) (rest := []) S.1 hw (k_X6_in l E Z M2 v2.toInt64 0 6 _ h) wv_X6_49 yc_X6_in ⟨rfl, rfl⟩ ⟨Nat.le_of_ble_eq_true rfl, Nat.le_of_ble_eq_true rfl⟩ rfl hl.1 (Nat.le_of_ble_eq_true rfl) ⟨Nat.le_of_ble_eq_true rfl, Nat.le_of_ble_eq_true rfl⟩ dX6_cell_20 (fun r20 M20 H locs h hw => ?_)
    refine lv_if_ne (tgt := 32) hx hb dX6_cell_23 (by decide) (fun q_23 => ?_) (fun q_23 => ?_)
    · have h := h.1 q_23
      refine lv_aload_n hx hb dX6_cell_32 rfl (lv_at hl 0 rfl) ?_
      refine cv_v (As := []) (rest := []) S.1 hw (k_X6_findsBlocks l E Z M20 a0  _ h) wv_X6_146 yc_X6_findsBlocks ⟨rfl, rfl⟩ ⟨Nat.le_of_ble_eq_true rfl, Nat.le_of_ble_eq_true rfl⟩ rfl hl.1 (Nat.le_of_ble_eq_true rfl) (ci := 6) (q := (RX6, TX6, 12)) rfl rfl (by rw [k_0]; decide) (cell_6 k_0) ⟨Nat.le_of_ble_eq_true rfl, Nat.le_of_ble_eq_true rfl⟩ dX6_cell_33 (fun M33 H locs h hw => ?_)
      refine lv_aload_n hx hb dX6_cell_36 rfl (lv_at hl 0 rfl) ?_
      refine lv_aload_n hx hb dX6_cell_37 rfl (lv_at hl 0 rfl) ?_
      refine lv_iload_n hx hb dX6_cell_38 rfl (lv_at hl 1 rfl) ?_
      refine lv_iload_n hx hb dX6_cell_39 rfl (lv_at hl 2 rfl) ?_
      refine cv_i (As := [.int v1, .int v2]) (rest := [.ref a0]) S.1 hw (k_X6_cellOf l E Z M33 a0 v1 v2 _ h) wv_X6_168 yc_X6_cellOf ⟨rfl, rfl⟩ ⟨Nat.le_of_ble_eq_true rfl, Nat.le_of_ble_eq_true rfl⟩ rfl hl.1 (Nat.le_of_ble_eq_true rfl) (ci := 6) (q := (RX6, TX6, 12)) rfl rfl (by rw [k_0]; decide) (cell_6 k_0) ⟨Nat.le_of_ble_eq_true rfl, Nat.le_of_ble_eq_true rfl⟩ dX6_cell_40 (fun r40 M40 H locs h hw => ?_)
      refine cv_i (As := [.int r40]) (rest := []) S.1 hw (k_X6_fine l E Z M40 a0 r40 _ h) wv_X6_66 yc_X6_fine ⟨rfl, rfl⟩ ⟨Nat.le_of_ble_eq_true rfl, Nat.le_of_ble_eq_true rfl⟩ rfl hl.1 (Nat.le_of_ble_eq_true rfl) (ci := 6) (q := (RX6, TX6, 12)) rfl rfl (by rw [k_0]; decide) (cell_6 k_0) ⟨Nat.le_of_ble_eq_true rfl, Nat.le_of_ble_eq_true rfl⟩ dX6_cell_43 (fun r43 M43 H locs h hw => ?_)
      exact we_i S hw h dX6_cell_46
    · have h := h.2 q_23
      refine lv_aload_n hx hb dX6_cell_26 rfl (lv_at hl 0 rfl) ?_
      refine lv_iconst (v := 2) hx hb dX6_cell_27 (by decide) ?_
      refine cv_i (As := [.int 2]) (rest := []) S.1 hw (k_X6_throwing l E Z M20 a0 2 _ h) wv_X6_59 yc_X6_throwing ⟨rfl, rfl⟩ ⟨Nat.le_of_ble_eq_true rfl, Nat.le_of_ble_eq_true rfl⟩ rfl hl.1 (Nat.le_of_ble_eq_true rfl) (ci := 6) (q := (RX6, TX6, 12)) rfl rfl (by rw [k_0]; decide) (cell_6 k_0) ⟨Nat.le_of_ble_eq_true rfl, Nat.le_of_ble_eq_true rfl⟩ dX6_cell_28 (fun r28 M28 H locs h hw => ?_)
      exact we_i S hw h dX6_cell_31
  · have h := h.2 q_5
    refine lv_aload_n hx hb dX6_cell_8 rfl (lv_at hl 0 rfl) ?_
    refine lv_iconst (v := 1) hx hb dX6_cell_9 (by decide) ?_
    refine cv_i (As := [.int 1]) (rest := []) S.1 hw (k_X6_throwing l E Z M2 a0 1 _ h) wv_X6_59 yc_X6_throwing ⟨rfl, rfl⟩ ⟨Nat.le_of_ble_eq_true rfl, Nat.le_of_ble_eq_true rfl⟩ rfl hl.1 (Nat.le_of_ble_eq_true rfl) (ci := 6) (q := (RX6, TX6, 12)) rfl rfl (by rw [k_0]; decide) (cell_6 k_0) ⟨Nat.le_of_ble_eq_true rfl, Nat.le_of_ble_eq_true rfl⟩ dX6_cell_10 (fun r10 M10 H locs h hw => ?_)
    exact we_i S hw h dX6_cell_13
set_option maxRecDepth 100000 in
set_option maxHeartbeats 4000000 in
theorem k_X6_cell (l : Launch) (E : EE) (Z : ZZ) (M : MM) (a0 : Nat) (v1 : Int32) (v2 : Int32) (Q : Int32 → MM → Prop) (h : P_X6_cell Z M a0 v1 v2 Q) : Ct_i l yX6_cell cX6_cell 3 (some .int) rm_X6_cell E Z M [.ref a0, .int v1, .int v2] Q := by
  refine Met.ofW (cc := cX6_cell) (maxL := 3) (ret := some .int) (by decide) rfl ?_
  intro p e s m args below meth c s₁ B hml hv
  obtain ⟨rfl, hK, hP, hD, hZ⟩ := hv
  have S : Cx p m c meth cX6_cell 3 s _ RX6 (some .int) := ⟨⟨B.exec, B.bytes, hml, findClass_of_methodNamed B.named, fun w hw => atoms_spec (ws := ws_ yX6_cell cX6_cell 3 (some .int)) B.pre w (List.mem_cons_of_mem _ hw)⟩, B.returns, B.notSynchronized⟩
  have hl := lv_entry ([.ref a0, .int v1, .int v2]) (n := 3) (Nat.le_of_ble_eq_true rfl)
  rw [lg_entry_eq]
  generalize (lg_sl ([.ref a0, .int v1, .int v2]) ++ List.replicate (3 - (lg_sl ([.ref a0, .int v1, .int v2])).length) Slot.unset).toArray = ls at hl ⊢
  exact (wB_X6_cell_0 S  M a0 v1 v2 h) s.heap [] ls ⟨hK, hP, hD, va_S.rf, hZ⟩ hl
set_option maxRecDepth 100000 in
set_option maxHeartbeats 4000000 in
theorem wB_X6_blockOf_58 (S : Cx p m c meth cX6_blockOf 4 s args RX6 (some .int)) {Q : Int32 → MM → Prop}   (M : MM) (t0 : Int32) (t1 : Int32) (t2 : Nat) (h : B_X6_blockOf_58 Z Q  M t0 t1 t2) : WG p l e rm_X6_blockOf s m args below meth c 0 0 (MQi below E Z args s Q) E Z M 58 4 [] [.int t0, .int t1, .ref t2] := by
  intro H locs ls hw hl
  have hx := S.1.1
  have hb := S.1.2.1
  obtain ⟨k_0, h⟩ := h
  refine cv_i (As := [.int t1, .int t0]) (rest := []) S.1 hw (k_X6_sizeOf l E Z M t2 t1 t0 _ h) wv_X6_142 yc_X6_sizeOf ⟨rfl, rfl⟩ ⟨Nat.le_of_ble_eq_true rfl, Nat.le_of_ble_eq_true rfl⟩ rfl hl.1 (Nat.le_of_ble_eq_true rfl) (ci := 6) (q := (RX6, TX6, 12)) rfl rfl (by rw [k_0]; decide) (cell_6 k_0) ⟨Nat.le_of_ble_eq_true rfl, Nat.le_of_ble_eq_true rfl⟩ dX6_blockOf_58 (fun r58 M58 H locs h hw => ?_)
  exact we_i S hw h dX6_blockOf_61
set_option maxRecDepth 100000 in
set_option maxHeartbeats 4000000 in
theorem wB_X6_blockOf_0 (S : Cx p m c meth cX6_blockOf 4 s args RX6 (some .int)) {Q : Int32 → MM → Prop}   (M : MM) (a0 : Nat) (v1 : Int32) (v2 : Int32) (h : B_X6_blockOf_0 Z Q  M a0 v1 v2) : WG p l e rm_X6_blockOf s m args below meth c 0 0 (MQi below E Z args s Q) E Z M 0 4 [(0, .ref a0), (1, .int v1), (2, .int v2)] [] := by
  intro H locs ls hw hl
  have hx := S.1.1
  have hb := S.1.2.1
  refine lv_aload_n hx hb dX6_blockOf_0 rfl (lv_at hl 0 rfl) ?_
  obtain ⟨k_0, h⟩ := h
  obtain ⟨y1_1, hy_1, h⟩ := h
  refine gf_X6_19 S.1 hw k_0 hy_1 dX6_blockOf_1 ?_
  refine lv_iload_n hx hb dX6_blockOf_4 rfl (lv_at hl 1 rfl) ?_
  obtain ⟨k_2, h⟩ := h
  obtain ⟨i_5, h⟩ := h
  refine wo_iald S.1 hw k_2 i_5 dX6_blockOf_5 ?_
  refine lv_istore_n (lv' := [(3, .int (mA M y1_1 v1.toNatClampNeg)), (0, .ref a0), (1, .int v1), (2, .int v2)]) hx hb dX6_blockOf_6 rfl hl (by decide) rfl (fun ls hl => ?_)
  refine lv_iload_n hx hb dX6_blockOf_7 rfl (lv_at hl 0 rfl) ?_
  refine lv_iconst (v := (-1)) hx hb dX6_blockOf_8 (by decide) ?_
  refine lv_icmp_ne (tgt := 14) hx hb dX6_blockOf_9 (by decide) (fun q_9 => ?_) (fun q_9 => ?_)
  · have h := h.1 q_9
    refine lv_iload_n hx hb dX6_blockOf_14 rfl (lv_at hl 3 rfl) ?_
    by_cases q_15_0 : v2 = 0
    · have h := h.1 q_15_0
      refine lv_tableIn (tgt := 44) hx hb dX6_blockOf_15 (by rw [q_15_0]; decide) (by rw [q_15_0]; decide) (by rw [q_15_0]; rfl) (by decide) ?_
      refine lv_iload_n hx hb dX6_blockOf_44 rfl (lv_at hl 0 rfl) ?_
      exact we_i S hw h dX6_blockOf_45
    · have h := h.2 q_15_0
      by_cases q_15_1 : v2 = 1
      · have h := h.1 q_15_1
        refine lv_tableIn (tgt := 46) hx hb dX6_blockOf_15 (by rw [q_15_1]; decide) (by rw [q_15_1]; decide) (by rw [q_15_1]; rfl) (by decide) ?_
        refine lv_aload_n hx hb dX6_blockOf_46 rfl (lv_at hl 1 rfl) ?_
        refine lv_iload_n hx hb dX6_blockOf_47 rfl (lv_at hl 0 rfl) ?_
        refine lv_iload_n hx hb dX6_blockOf_48 rfl (lv_at hl 3 rfl) ?_
        refine lv_iconst (v := 2) hx hb dX6_blockOf_49 (by decide) ?_
        refine lv_icmp_ne (tgt := 57) hx hb dX6_blockOf_50 (by decide) (fun q_50 => ?_) (fun q_50 => ?_)
        · have h := h.1 q_50
          refine lv_iconst (v := 0) hx hb dX6_blockOf_57 (by decide) ?_
          exact ((wB_X6_blockOf_58 S   _ _ _ _ h)) H locs ls hw (lv_sub hl [] rfl)
        · have h := h.2 q_50
          refine lv_iconst (v := 1) hx hb dX6_blockOf_53 (by decide) ?_
          refine lv_goto (tgt := 58) hx hb dX6_blockOf_54 (by decide) ?_
          exact ((wB_X6_blockOf_58 S   _ _ _ _ h)) H locs ls hw (lv_sub hl [] rfl)
      · have h := h.2 q_15_1
        by_cases q_15_2 : v2 = 2
        · have h := h.1 q_15_2
          refine lv_tableIn (tgt := 46) hx hb dX6_blockOf_15 (by rw [q_15_2]; decide) (by rw [q_15_2]; decide) (by rw [q_15_2]; rfl) (by decide) ?_
          refine lv_aload_n hx hb dX6_blockOf_46 rfl (lv_at hl 1 rfl) ?_
          refine lv_iload_n hx hb dX6_blockOf_47 rfl (lv_at hl 0 rfl) ?_
          refine lv_iload_n hx hb dX6_blockOf_48 rfl (lv_at hl 3 rfl) ?_
          refine lv_iconst (v := 2) hx hb dX6_blockOf_49 (by decide) ?_
          refine lv_icmp_ne (tgt := 57) hx hb dX6_blockOf_50 (by decide) (fun q_50 => ?_) (fun q_50 => ?_)
          · have h := h.1 q_50
            refine lv_iconst (v := 0) hx hb dX6_blockOf_57 (by decide) ?_
            exact ((wB_X6_blockOf_58 S   _ _ _ _ h)) H locs ls hw (lv_sub hl [] rfl)
          · have h := h.2 q_50
            refine lv_iconst (v := 1) hx hb dX6_blockOf_53 (by decide) ?_
            refine lv_goto (tgt := 58) hx hb dX6_blockOf_54 (by decide) ?_
            exact ((wB_X6_blockOf_58 S   _ _ _ _ h)) H locs ls hw (lv_sub hl [] rfl)
        · have h := h.2 q_15_2
          by_cases q_15_3 : v2 = 3
          · have h := h.1 q_15_3
            refine lv_tableIn (tgt := 62) hx hb dX6_blockOf_15 (by rw [q_15_3]; decide) (by rw [q_15_3]; decide) (by rw [q_15_3]; rfl) (by decide) ?_
            refine lv_aload_n hx hb dX6_blockOf_62 rfl (lv_at hl 1 rfl) ?_
            refine lv_iload_n hx hb dX6_blockOf_63 rfl (lv_at hl 0 rfl) ?_
            refine cv_i (As := [.int (mA M y1_1 v1.toNatClampNeg)]) (rest := []) S.1 hw (k_X6_isHeld l E Z M a0 (mA M y1_1 v1.toNatClampNeg) _ h) wv_X6_132 yc_X6_isHeld ⟨rfl, rfl⟩ ⟨Nat.le_of_ble_eq_true rfl, Nat.le_of_ble_eq_true rfl⟩ rfl hl.1 (Nat.le_of_ble_eq_true rfl) (ci := 6) (q := (RX6, TX6, 12)) rfl rfl (by rw [k_0]; decide) (cell_6 k_0) ⟨Nat.le_of_ble_eq_true rfl, Nat.le_of_ble_eq_true rfl⟩ dX6_blockOf_64 (fun r64 M64 H locs h hw => ?_)
            refine lv_if_eq (tgt := 74) hx hb dX6_blockOf_67 (by decide) (fun q_67 => ?_) (fun q_67 => ?_)
            · have h := h.1 q_67
              refine lv_iconst (v := 0) hx hb dX6_blockOf_74 (by decide) ?_
              exact we_i S hw h dX6_blockOf_75
            · have h := h.2 q_67
              refine lv_iconst (v := 1) hx hb dX6_blockOf_70 (by decide) ?_
              refine lv_goto (tgt := 75) hx hb dX6_blockOf_71 (by decide) ?_
              exact we_i S hw h dX6_blockOf_75
          · have h := h.2 q_15_3
            have t_0 := lv_neT q_15_0 (a := 0) rfl
            have t_1 := lv_neT q_15_1 (a := 1) rfl
            have t_2 := lv_neT q_15_2 (a := 2) rfl
            have t_3 := lv_neT q_15_3 (a := 3) rfl
            refine lv_tableOut (tgt := 76) hx hb dX6_blockOf_15 (by omega) (by decide) ?_
            refine lv_aload_n hx hb dX6_blockOf_76 rfl (lv_at hl 1 rfl) ?_
            refine lv_iload_n hx hb dX6_blockOf_77 rfl (lv_at hl 0 rfl) ?_
            refine cv_i (As := [.int (mA M y1_1 v1.toNatClampNeg)]) (rest := []) S.1 hw (k_X6_way l E Z M a0 (mA M y1_1 v1.toNatClampNeg) _ h) wv_X6_139 yc_X6_way ⟨rfl, rfl⟩ ⟨Nat.le_of_ble_eq_true rfl, Nat.le_of_ble_eq_true rfl⟩ rfl hl.1 (Nat.le_of_ble_eq_true rfl) (ci := 6) (q := (RX6, TX6, 12)) rfl rfl (by rw [k_0]; decide) (cell_6 k_0) ⟨Nat.le_of_ble_eq_true rfl, Nat.le_of_ble_eq_true rfl⟩ dX6_blockOf_78 (fun r78 M78 H locs h hw => ?_)
            exact we_i S hw h dX6_blockOf_81
  · have h := h.2 q_9
    refine lv_iconst (v := (-1)) hx hb dX6_blockOf_12 (by decide) ?_
    exact we_i S hw h dX6_blockOf_13
set_option maxRecDepth 100000 in
set_option maxHeartbeats 4000000 in
theorem k_X6_blockOf (l : Launch) (E : EE) (Z : ZZ) (M : MM) (a0 : Nat) (v1 : Int32) (v2 : Int32) (Q : Int32 → MM → Prop) (h : P_X6_blockOf Z M a0 v1 v2 Q) : Ct_i l yX6_blockOf cX6_blockOf 4 (some .int) rm_X6_blockOf E Z M [.ref a0, .int v1, .int v2] Q := by
  refine Met.ofW (cc := cX6_blockOf) (maxL := 4) (ret := some .int) (by decide) rfl ?_
  intro p e s m args below meth c s₁ B hml hv
  obtain ⟨rfl, hK, hP, hD, hZ⟩ := hv
  have S : Cx p m c meth cX6_blockOf 4 s _ RX6 (some .int) := ⟨⟨B.exec, B.bytes, hml, findClass_of_methodNamed B.named, fun w hw => atoms_spec (ws := ws_ yX6_blockOf cX6_blockOf 4 (some .int)) B.pre w (List.mem_cons_of_mem _ hw)⟩, B.returns, B.notSynchronized⟩
  have hl := lv_entry ([.ref a0, .int v1, .int v2]) (n := 4) (Nat.le_of_ble_eq_true rfl)
  rw [lg_entry_eq]
  generalize (lg_sl ([.ref a0, .int v1, .int v2]) ++ List.replicate (4 - (lg_sl ([.ref a0, .int v1, .int v2])).length) Slot.unset).toArray = ls at hl ⊢
  exact (wB_X6_blockOf_0 S  M a0 v1 v2 h) s.heap [] ls ⟨hK, hP, hD, va_S.rf, hZ⟩ hl
set_option maxRecDepth 100000 in
set_option maxHeartbeats 4000000 in
theorem wB_X6_block_0 (S : Cx p m c meth cX6_block 3 s args RX6 (some .int)) {Q : Int32 → MM → Prop}   (M : MM) (a0 : Nat) (v1 : Int32) (v2 : Int32) (h : B_X6_block_0 Z Q  M a0 v1 v2) : WG p l e rm_X6_block s m args below meth c 0 0 (MQi below E Z args s Q) E Z M 0 3 [(0, .ref a0), (1, .int v1), (2, .int v2)] [] := by
  intro H locs ls hw hl
  have hx := S.1.1
  have hb := S.1.2.1
  have hown := S.1.2.2.2.1
  have hts := S.1.2.2.2.2
  refine lv_aload_n hx hb dX6_block_0 rfl (lv_at hl 0 rfl) ?_
  refine lv_iload_n hx hb dX6_block_1 rfl (lv_at hl 1 rfl) ?_
  obtain ⟨k_0, h⟩ := h
  refine cv_i (As := [.int v1]) (rest := []) S.1 hw (k_X6_isCell l E Z M a0 v1 _ h) wv_X6_69 yc_X6_isCell ⟨rfl, rfl⟩ ⟨Nat.le_of_ble_eq_true rfl, Nat.le_of_ble_eq_true rfl⟩ rfl hl.1 (Nat.le_of_ble_eq_true rfl) (ci := 6) (q := (RX6, TX6, 12)) rfl rfl (by rw [k_0]; decide) (cell_6 k_0) ⟨Nat.le_of_ble_eq_true rfl, Nat.le_of_ble_eq_true rfl⟩ dX6_block_2 (fun r2 M2 H locs h hw => ?_)
  refine lv_if_ne (tgt := 14) hx hb dX6_block_5 (by decide) (fun q_5 => ?_) (fun q_5 => ?_)
  · have h := h.1 q_5
    refine lv_iload_n hx hb dX6_block_14 rfl (lv_at hl 2 rfl) ?_
    refine lv_i2l (v := v2.toInt64) hx hb dX6_block_15 rfl ?_
    refine lv_lconst (v := 0) hx hb dX6_block_16 (by decide) ?_
    refine lv_ldc2 (v := 4) hx hb hown (hts _ wq_X6_171) dX6_block_17 ?_
    refine cs_i (As := [.long v2.toInt64, .long 0, .long 4]) (rest := []) S.1 hw (k_X6_in l E Z M2 v2.toInt64 0 4 _ h) wv_X6_49 yc_X6_in ⟨rfl, rfl⟩ ⟨Nat.le_of_ble_eq_true rfl, Nat.le_of_ble_eq_true rfl⟩ rfl hl.1 (Nat.le_of_ble_eq_true rfl) ⟨Nat.le_of_ble_eq_true rfl, Nat.le_of_ble_eq_true rfl⟩ dX6_block_20 (fun r20 M20 H locs h hw => ?_)
    refine lv_if_ne (tgt := 32) hx hb dX6_block_23 (by decide) (fun q_23 => ?_) (fun q_23 => ?_)
    · have h := h.1 q_23
      refine lv_aload_n hx hb dX6_block_32 rfl (lv_at hl 0 rfl) ?_
      refine cv_v (As := []) (rest := []) S.1 hw (k_X6_findsBlocks l E Z M20 a0  _ h) wv_X6_146 yc_X6_findsBlocks ⟨rfl, rfl⟩ ⟨Nat.le_of_ble_eq_true rfl, Nat.le_of_ble_eq_true rfl⟩ rfl hl.1 (Nat.le_of_ble_eq_true rfl) (ci := 6) (q := (RX6, TX6, 12)) rfl rfl (by rw [k_0]; decide) (cell_6 k_0) ⟨Nat.le_of_ble_eq_true rfl, Nat.le_of_ble_eq_true rfl⟩ dX6_block_33 (fun M33 H locs h hw => ?_)
      refine lv_aload_n hx hb dX6_block_36 rfl (lv_at hl 0 rfl) ?_
      refine lv_aload_n hx hb dX6_block_37 rfl (lv_at hl 0 rfl) ?_
      refine lv_iload_n hx hb dX6_block_38 rfl (lv_at hl 1 rfl) ?_
      refine lv_iload_n hx hb dX6_block_39 rfl (lv_at hl 2 rfl) ?_
      refine cv_i (As := [.int v1, .int v2]) (rest := [.ref a0]) S.1 hw (k_X6_blockOf l E Z M33 a0 v1 v2 _ h) wv_X6_173 yc_X6_blockOf ⟨rfl, rfl⟩ ⟨Nat.le_of_ble_eq_true rfl, Nat.le_of_ble_eq_true rfl⟩ rfl hl.1 (Nat.le_of_ble_eq_true rfl) (ci := 6) (q := (RX6, TX6, 12)) rfl rfl (by rw [k_0]; decide) (cell_6 k_0) ⟨Nat.le_of_ble_eq_true rfl, Nat.le_of_ble_eq_true rfl⟩ dX6_block_40 (fun r40 M40 H locs h hw => ?_)
      refine cv_i (As := [.int r40]) (rest := []) S.1 hw (k_X6_fine l E Z M40 a0 r40 _ h) wv_X6_66 yc_X6_fine ⟨rfl, rfl⟩ ⟨Nat.le_of_ble_eq_true rfl, Nat.le_of_ble_eq_true rfl⟩ rfl hl.1 (Nat.le_of_ble_eq_true rfl) (ci := 6) (q := (RX6, TX6, 12)) rfl rfl (by rw [k_0]; decide) (cell_6 k_0) ⟨Nat.le_of_ble_eq_true rfl, Nat.le_of_ble_eq_true rfl⟩ dX6_block_43 (fun r43 M43 H locs h hw => ?_)
      exact we_i S hw h dX6_block_46
    · have h := h.2 q_23
      refine lv_aload_n hx hb dX6_block_26 rfl (lv_at hl 0 rfl) ?_
      refine lv_iconst (v := 2) hx hb dX6_block_27 (by decide) ?_
      refine cv_i (As := [.int 2]) (rest := []) S.1 hw (k_X6_throwing l E Z M20 a0 2 _ h) wv_X6_59 yc_X6_throwing ⟨rfl, rfl⟩ ⟨Nat.le_of_ble_eq_true rfl, Nat.le_of_ble_eq_true rfl⟩ rfl hl.1 (Nat.le_of_ble_eq_true rfl) (ci := 6) (q := (RX6, TX6, 12)) rfl rfl (by rw [k_0]; decide) (cell_6 k_0) ⟨Nat.le_of_ble_eq_true rfl, Nat.le_of_ble_eq_true rfl⟩ dX6_block_28 (fun r28 M28 H locs h hw => ?_)
      exact we_i S hw h dX6_block_31
  · have h := h.2 q_5
    refine lv_aload_n hx hb dX6_block_8 rfl (lv_at hl 0 rfl) ?_
    refine lv_iconst (v := 1) hx hb dX6_block_9 (by decide) ?_
    refine cv_i (As := [.int 1]) (rest := []) S.1 hw (k_X6_throwing l E Z M2 a0 1 _ h) wv_X6_59 yc_X6_throwing ⟨rfl, rfl⟩ ⟨Nat.le_of_ble_eq_true rfl, Nat.le_of_ble_eq_true rfl⟩ rfl hl.1 (Nat.le_of_ble_eq_true rfl) (ci := 6) (q := (RX6, TX6, 12)) rfl rfl (by rw [k_0]; decide) (cell_6 k_0) ⟨Nat.le_of_ble_eq_true rfl, Nat.le_of_ble_eq_true rfl⟩ dX6_block_10 (fun r10 M10 H locs h hw => ?_)
    exact we_i S hw h dX6_block_13
set_option maxRecDepth 100000 in
set_option maxHeartbeats 4000000 in
theorem k_X6_block (l : Launch) (E : EE) (Z : ZZ) (M : MM) (a0 : Nat) (v1 : Int32) (v2 : Int32) (Q : Int32 → MM → Prop) (h : P_X6_block Z M a0 v1 v2 Q) : Ct_i l yX6_block cX6_block 3 (some .int) rm_X6_block E Z M [.ref a0, .int v1, .int v2] Q := by
  refine Met.ofW (cc := cX6_block) (maxL := 3) (ret := some .int) (by decide) rfl ?_
  intro p e s m args below meth c s₁ B hml hv
  obtain ⟨rfl, hK, hP, hD, hZ⟩ := hv
  have S : Cx p m c meth cX6_block 3 s _ RX6 (some .int) := ⟨⟨B.exec, B.bytes, hml, findClass_of_methodNamed B.named, fun w hw => atoms_spec (ws := ws_ yX6_block cX6_block 3 (some .int)) B.pre w (List.mem_cons_of_mem _ hw)⟩, B.returns, B.notSynchronized⟩
  have hl := lv_entry ([.ref a0, .int v1, .int v2]) (n := 3) (Nat.le_of_ble_eq_true rfl)
  rw [lg_entry_eq]
  generalize (lg_sl ([.ref a0, .int v1, .int v2]) ++ List.replicate (3 - (lg_sl ([.ref a0, .int v1, .int v2])).length) Slot.unset).toArray = ls at hl ⊢
  exact (wB_X6_block_0 S  M a0 v1 v2 h) s.heap [] ls ⟨hK, hP, hD, va_S.rf, hZ⟩ hl
set_option maxRecDepth 100000 in
set_option maxHeartbeats 4000000 in
theorem wB_X6_move_12 (S : Cx p m c meth cX6_move 7 s args RX6 (some .int)) {Q : Int32 → MM → Prop}   (M : MM) (a0 : Nat) (h : B_X6_move_12 Z Q  M a0) : WG p l e rm_X6_move s m args below meth c 0 0 (MQi below E Z args s Q) E Z M 12 7 [(0, .ref a0)] [] := by
  intro H locs ls hw hl
  have hx := S.1.1
  have hb := S.1.2.1
  refine lv_aload_n hx hb dX6_move_12 rfl (lv_at hl 0 rfl) ?_
  refine lv_iconst (v := 1) hx hb dX6_move_13 (by decide) ?_
  obtain ⟨k_0, h⟩ := h
  refine cv_i (As := [.int 1]) (rest := []) S.1 hw (k_X6_throwing l E Z M a0 1 _ h) wv_X6_59 yc_X6_throwing ⟨rfl, rfl⟩ ⟨Nat.le_of_ble_eq_true rfl, Nat.le_of_ble_eq_true rfl⟩ rfl hl.1 (Nat.le_of_ble_eq_true rfl) (ci := 6) (q := (RX6, TX6, 12)) rfl rfl (by rw [k_0]; decide) (cell_6 k_0) ⟨Nat.le_of_ble_eq_true rfl, Nat.le_of_ble_eq_true rfl⟩ dX6_move_14 (fun r14 M14 H locs h hw => ?_)
  exact we_i S hw h dX6_move_17
set_option maxRecDepth 100000 in
set_option maxHeartbeats 4000000 in
theorem wB_X6_move_111 (S : Cx p m c meth cX6_move 7 s args RX6 (some .int)) {Q : Int32 → MM → Prop} {K72 : MM → Nat → Int32 → Int32 → Int32 → Int32 → Int32 → Prop} (hK72 : ∀ (M : MM) (a0 : Nat) (v2 : Int32) (v3 : Int32) (v4 : Int32) (v5 : Int32) (v6 : Int32), K72 M a0 v2 v3 v4 v5 v6 → WG p l e rm_X6_move s m args below meth c 0 0 (MQi below E Z args s Q) E Z M 72 7 [(0, .ref a0), (2, .int v2), (3, .int v3), (4, .int v4), (5, .int v5), (6, .int v6)] []) (M : MM) (a0 : Nat) (v2 : Int32) (v3 : Int32) (v4 : Int32) (v5 : Int32) (v6 : Int32) (h : B_X6_move_111 Z Q K72 M a0 v2 v3 v4 v5 v6) : WG p l e rm_X6_move s m args below meth c 0 0 (MQi below E Z args s Q) E Z M 111 7 [(0, .ref a0), (2, .int v2), (3, .int v3), (4, .int v4), (5, .int v5), (6, .int v6)] [] := by
  intro H locs ls hw hl
  have hx := S.1.1
  have hb := S.1.2.1
  refine lv_iinc (v := (v5 + 1)) (lv' := [(5, .int (v5 + 1)), (0, .ref a0), (2, .int v2), (3, .int v3), (4, .int v4), (6, .int v6)]) hx hb dX6_move_111 hl (k := 4) rfl rfl (by decide) rfl (fun ls hl => ?_)
  refine lv_goto (tgt := 72) hx hb dX6_move_114 (by decide) ?_
  exact (hK72 _ _ _ _ _ _ _ h) H locs ls hw (lv_sub hl [1, 2, 3, 4, 0, 5] rfl)
set_option maxRecDepth 100000 in
set_option maxHeartbeats 4000000 in
theorem wB_X6_move_72 (S : Cx p m c meth cX6_move 7 s args RX6 (some .int)) {Q : Int32 → MM → Prop} {K57 : MM → Nat → Int32 → Int32 → Int32 → Int32 → Int32 → Prop} {K72 : MM → Nat → Int32 → Int32 → Int32 → Int32 → Int32 → Prop} (hK57 : ∀ (M : MM) (a0 : Nat) (v2 : Int32) (v3 : Int32) (v4 : Int32) (v5 : Int32) (v6 : Int32), K57 M a0 v2 v3 v4 v5 v6 → WG p l e rm_X6_move s m args below meth c 0 0 (MQi below E Z args s Q) E Z M 57 7 [(0, .ref a0), (2, .int v2), (3, .int v3), (4, .int v4), (5, .int v5), (6, .int v6)] []) (hK72 : ∀ (M : MM) (a0 : Nat) (v2 : Int32) (v3 : Int32) (v4 : Int32) (v5 : Int32) (v6 : Int32), K72 M a0 v2 v3 v4 v5 v6 → WG p l e rm_X6_move s m args below meth c 0 0 (MQi below E Z args s Q) E Z M 72 7 [(0, .ref a0), (2, .int v2), (3, .int v3), (4, .int v4), (5, .int v5), (6, .int v6)] []) (M : MM) (a0 : Nat) (v2 : Int32) (v3 : Int32) (v4 : Int32) (v5 : Int32) (v6 : Int32) (h : B_X6_move_72 Z Q K57 K72 M a0 v2 v3 v4 v5 v6) : WG p l e rm_X6_move s m args below meth c 0 0 (MQi below E Z args s Q) E Z M 72 7 [(0, .ref a0), (2, .int v2), (3, .int v3), (4, .int v4), (5, .int v5), (6, .int v6)] [] := by
  intro H locs ls hw hl
  have hx := S.1.1
  have hb := S.1.2.1
  have hown := S.1.2.2.2.1
  have hts := S.1.2.2.2.2
  refine lv_iload hx hb dX6_move_72 (lv_at hl 3 rfl) ?_
  refine lv_iload hx hb dX6_move_74 (lv_at hl 4 rfl) ?_
  refine cs_i (As := [.int v4, .int v5]) (rest := []) S.1 hw (k_X6_moved l E Z M v4 v5 _ h) wv_X6_127 yc_X6_moved ⟨rfl, rfl⟩ ⟨Nat.le_of_ble_eq_true rfl, Nat.le_of_ble_eq_true rfl⟩ rfl hl.1 (Nat.le_of_ble_eq_true rfl) ⟨Nat.le_of_ble_eq_true rfl, Nat.le_of_ble_eq_true rfl⟩ dX6_move_76 (fun r76 M76 H locs h hw => ?_)
  refine lv_i2l (v := r76.toInt64) hx hb dX6_move_79 rfl ?_
  refine lv_lconst (v := 0) hx hb dX6_move_80 (by decide) ?_
  refine lv_ldc2 (v := 224) hx hb hown (hts _ wq_X6_130) dX6_move_81 ?_
  refine cs_i (As := [.long r76.toInt64, .long 0, .long 224]) (rest := []) S.1 hw (k_X6_in l E Z M76 r76.toInt64 0 224 _ h) wv_X6_49 yc_X6_in ⟨rfl, rfl⟩ ⟨Nat.le_of_ble_eq_true rfl, Nat.le_of_ble_eq_true rfl⟩ rfl hl.1 (Nat.le_of_ble_eq_true rfl) ⟨Nat.le_of_ble_eq_true rfl, Nat.le_of_ble_eq_true rfl⟩ dX6_move_84 (fun r84 M84 H locs h hw => ?_)
  refine lv_if_eq (tgt := 111) hx hb dX6_move_87 (by decide) (fun q_87 => ?_) (fun q_87 => ?_)
  · have h := h.1 q_87
    exact ((wB_X6_move_111 S  hK72 _ _ _ _ _ _ _ h)) H locs ls hw (lv_sub hl [0, 1, 2, 3, 4, 5] rfl)
  · have h := h.2 q_87
    refine lv_aload_n hx hb dX6_move_90 rfl (lv_at hl 0 rfl) ?_
    obtain ⟨k_0, h⟩ := h
    obtain ⟨y91_1, hy_1, h⟩ := h
    refine gf_X6_22 S.1 hw k_0 hy_1 dX6_move_91 ?_
    refine lv_iload hx hb dX6_move_94 (lv_at hl 3 rfl) ?_
    refine lv_iload hx hb dX6_move_96 (lv_at hl 4 rfl) ?_
    refine cs_i (As := [.int v4, .int v5]) (rest := [.ref y91_1]) S.1 hw (k_X6_moved l E Z M84 v4 v5 _ h) wv_X6_127 yc_X6_moved ⟨rfl, rfl⟩ ⟨Nat.le_of_ble_eq_true rfl, Nat.le_of_ble_eq_true rfl⟩ rfl hl.1 (Nat.le_of_ble_eq_true rfl) ⟨Nat.le_of_ble_eq_true rfl, Nat.le_of_ble_eq_true rfl⟩ dX6_move_98 (fun r98 M98 H locs h hw => ?_)
    obtain ⟨k_2, h⟩ := h
    obtain ⟨i_101, h⟩ := h
    refine wo_iald S.1 hw k_2 i_101 dX6_move_101 ?_
    refine lv_iload_n hx hb dX6_move_102 rfl (lv_at hl 2 rfl) ?_
    refine lv_iload hx hb dX6_move_103 (lv_at hl 5 rfl) ?_
    refine lv_isub hx hb dX6_move_105 ?_
    refine lv_iconst (v := 1) hx hb dX6_move_106 (by decide) ?_
    refine lv_isub hx hb dX6_move_107 ?_
    refine lv_icmp_eq (tgt := 117) hx hb dX6_move_108 (by decide) (fun q_108 => ?_) (fun q_108 => ?_)
    · have h := h.1 q_108
      refine lv_iload hx hb dX6_move_117 (lv_at hl 3 rfl) ?_
      refine lv_iload hx hb dX6_move_119 (lv_at hl 4 rfl) ?_
      refine cs_i (As := [.int v4, .int v5]) (rest := []) S.1 hw (k_X6_moved l E Z M98 v4 v5 _ h) wv_X6_127 yc_X6_moved ⟨rfl, rfl⟩ ⟨Nat.le_of_ble_eq_true rfl, Nat.le_of_ble_eq_true rfl⟩ rfl hl.1 (Nat.le_of_ble_eq_true rfl) ⟨Nat.le_of_ble_eq_true rfl, Nat.le_of_ble_eq_true rfl⟩ dX6_move_121 (fun r121 M121 H locs h hw => ?_)
      refine lv_istore (lv' := [(4, .int r121), (0, .ref a0), (2, .int v2), (3, .int v3), (5, .int v5), (6, .int v6)]) hx hb dX6_move_124 hl (by decide) rfl (fun ls hl => ?_)
      refine lv_iinc (v := (v6 + 1)) (lv' := [(6, .int (v6 + 1)), (4, .int r121), (0, .ref a0), (2, .int v2), (3, .int v3), (5, .int v5)]) hx hb dX6_move_126 hl (k := 5) rfl rfl (by decide) rfl (fun ls hl => ?_)
      refine lv_goto (tgt := 57) hx hb dX6_move_129 (by decide) ?_
      exact (hK57 _ _ _ _ _ _ _ h) H locs ls hw (lv_sub hl [2, 3, 4, 1, 5, 0] rfl)
    · have h := h.2 q_108
      exact ((wB_X6_move_111 S  hK72 _ _ _ _ _ _ _ h)) H locs ls hw (lv_sub hl [0, 1, 2, 3, 4, 5] rfl)
theorem wL_X6_move_72 (S : Cx p m c meth cX6_move 7 s args RX6 (some .int)) {Q : Int32 → MM → Prop} {K57 : MM → Nat → Int32 → Int32 → Int32 → Int32 → Int32 → Prop} (hK57 : ∀ (M : MM) (a0 : Nat) (v2 : Int32) (v3 : Int32) (v4 : Int32) (v5 : Int32) (v6 : Int32), K57 M a0 v2 v3 v4 v5 v6 → WG p l e rm_X6_move s m args below meth c 0 0 (MQi below E Z args s Q) E Z M 57 7 [(0, .ref a0), (2, .int v2), (3, .int v3), (4, .int v4), (5, .int v5), (6, .int v6)] []) : ∀ (n : Nat) (M : MM) (a0 : Nat) (v2 : Int32) (v3 : Int32) (v4 : Int32) (v5 : Int32) (v6 : Int32), L_X6_move_72 Z Q  K57 n M a0 v2 v3 v4 v5 v6 → WG p l e rm_X6_move s m args below meth c 0 0 (MQi below E Z args s Q) E Z M 72 7 [(0, .ref a0), (2, .int v2), (3, .int v3), (4, .int v4), (5, .int v5), (6, .int v6)] []
  | 0, _, _, _, _, _, _, _, h => False.elim h
  | n + 1, M, a0, v2, v3, v4, v5, v6, h => wB_X6_move_72 S  hK57 (wL_X6_move_72 S  hK57 n) M a0 v2 v3 v4 v5 v6 h
set_option maxRecDepth 100000 in
set_option maxHeartbeats 4000000 in
theorem wB_X6_move_144 (S : Cx p m c meth cX6_move 7 s args RX6 (some .int)) {Q : Int32 → MM → Prop}   (M : MM) (t0 : Int32) (t1 : Nat) (h : B_X6_move_144 Z Q  M t0 t1) : WG p l e rm_X6_move s m args below meth c 0 0 (MQi below E Z args s Q) E Z M 144 7 [] [.int t0, .ref t1] := by
  intro H locs ls hw hl
  have hx := S.1.1
  have hb := S.1.2.1
  obtain ⟨k_0, h⟩ := h
  refine cv_i (As := [.int t0]) (rest := []) S.1 hw (k_X6_fine l E Z M t1 t0 _ h) wv_X6_66 yc_X6_fine ⟨rfl, rfl⟩ ⟨Nat.le_of_ble_eq_true rfl, Nat.le_of_ble_eq_true rfl⟩ rfl hl.1 (Nat.le_of_ble_eq_true rfl) (ci := 6) (q := (RX6, TX6, 12)) rfl rfl (by rw [k_0]; decide) (cell_6 k_0) ⟨Nat.le_of_ble_eq_true rfl, Nat.le_of_ble_eq_true rfl⟩ dX6_move_144 (fun r144 M144 H locs h hw => ?_)
  exact we_i S hw h dX6_move_147
set_option maxRecDepth 100000 in
set_option maxHeartbeats 4000000 in
theorem wB_X6_move_132 (S : Cx p m c meth cX6_move 7 s args RX6 (some .int)) {Q : Int32 → MM → Prop}   (M : MM) (a0 : Nat) (v2 : Int32) (v3 : Int32) (v5 : Int32) (h : B_X6_move_132 Z Q  M a0 v2 v3 v5) : WG p l e rm_X6_move s m args below meth c 0 0 (MQi below E Z args s Q) E Z M 132 7 [(0, .ref a0), (2, .int v2), (3, .int v3), (5, .int v5)] [] := by
  intro H locs ls hw hl
  have hx := S.1.1
  have hb := S.1.2.1
  refine lv_aload_n hx hb dX6_move_132 rfl (lv_at hl 0 rfl) ?_
  refine lv_iload_n hx hb dX6_move_133 rfl (lv_at hl 1 rfl) ?_
  refine lv_iload_n hx hb dX6_move_134 rfl (lv_at hl 2 rfl) ?_
  refine lv_icmp_ge (tgt := 143) hx hb dX6_move_135 (by decide) (fun q_135 => ?_) (fun q_135 => ?_)
  · have h := h.1 q_135
    refine lv_iconst (v := (-1)) hx hb dX6_move_143 (by decide) ?_
    exact ((wB_X6_move_144 S   _ _ _ h)) H locs ls hw (lv_sub hl [] rfl)
  · have h := h.2 q_135
    refine lv_iload hx hb dX6_move_138 (lv_at hl 3 rfl) ?_
    refine lv_goto (tgt := 144) hx hb dX6_move_140 (by decide) ?_
    exact ((wB_X6_move_144 S   _ _ _ h)) H locs ls hw (lv_sub hl [] rfl)
set_option maxRecDepth 100000 in
set_option maxHeartbeats 4000000 in
theorem wB_X6_move_57 (S : Cx p m c meth cX6_move 7 s args RX6 (some .int)) {Q : Int32 → MM → Prop} {K57 : MM → Nat → Int32 → Int32 → Int32 → Int32 → Int32 → Prop} (hK57 : ∀ (M : MM) (a0 : Nat) (v2 : Int32) (v3 : Int32) (v4 : Int32) (v5 : Int32) (v6 : Int32), K57 M a0 v2 v3 v4 v5 v6 → WG p l e rm_X6_move s m args below meth c 0 0 (MQi below E Z args s Q) E Z M 57 7 [(0, .ref a0), (2, .int v2), (3, .int v3), (4, .int v4), (5, .int v5), (6, .int v6)] []) (M : MM) (a0 : Nat) (v2 : Int32) (v3 : Int32) (v4 : Int32) (v5 : Int32) (v6 : Int32) (h : B_X6_move_57 Z Q K57 M a0 v2 v3 v4 v5 v6) : WG p l e rm_X6_move s m args below meth c 0 0 (MQi below E Z args s Q) E Z M 57 7 [(0, .ref a0), (2, .int v2), (3, .int v3), (4, .int v4), (5, .int v5), (6, .int v6)] [] := by
  intro H locs ls hw hl
  have hx := S.1.1
  have hb := S.1.2.1
  refine lv_iload hx hb dX6_move_57 (lv_at hl 5 rfl) ?_
  refine lv_iload_n hx hb dX6_move_59 rfl (lv_at hl 1 rfl) ?_
  refine lv_icmp_gt (tgt := 132) hx hb dX6_move_60 (by decide) (fun q_60 => ?_) (fun q_60 => ?_)
  · have h := h.1 q_60
    exact ((wB_X6_move_132 S   _ _ _ _ _ h)) H locs ls hw (lv_sub hl [0, 1, 2, 4] rfl)
  · have h := h.2 q_60
    refine lv_iload hx hb dX6_move_63 (lv_at hl 5 rfl) ?_
    refine lv_iload_n hx hb dX6_move_65 rfl (lv_at hl 2 rfl) ?_
    refine lv_icmp_ge (tgt := 132) hx hb dX6_move_66 (by decide) (fun q_66 => ?_) (fun q_66 => ?_)
    · have h := h.1 q_66
      exact ((wB_X6_move_132 S   _ _ _ _ _ h)) H locs ls hw (lv_sub hl [0, 1, 2, 4] rfl)
    · have h := h.2 q_66
      refine lv_iconst (v := 0) hx hb dX6_move_69 (by decide) ?_
      refine lv_istore (lv' := [(5, .int 0), (0, .ref a0), (2, .int v2), (3, .int v3), (4, .int v4), (6, .int v6)]) hx hb dX6_move_70 hl (by decide) rfl (fun ls hl => ?_)
      exact ((Exists.elim h (fun n h => wL_X6_move_72 S  hK57 n _ _ _ _ _ _ _ h))) H locs ls hw (lv_sub hl [1, 2, 3, 4, 0, 5] rfl)
theorem wL_X6_move_57 (S : Cx p m c meth cX6_move 7 s args RX6 (some .int)) {Q : Int32 → MM → Prop}   : ∀ (n : Nat) (M : MM) (a0 : Nat) (v2 : Int32) (v3 : Int32) (v4 : Int32) (v5 : Int32) (v6 : Int32), L_X6_move_57 Z Q   n M a0 v2 v3 v4 v5 v6 → WG p l e rm_X6_move s m args below meth c 0 0 (MQi below E Z args s Q) E Z M 57 7 [(0, .ref a0), (2, .int v2), (3, .int v3), (4, .int v4), (5, .int v5), (6, .int v6)] []
  | 0, _, _, _, _, _, _, _, h => False.elim h
  | n + 1, M, a0, v2, v3, v4, v5, v6, h => wB_X6_move_57 S  (wL_X6_move_57 S   n) M a0 v2 v3 v4 v5 v6 h
set_option maxRecDepth 100000 in
set_option maxHeartbeats 4000000 in
theorem wB_X6_move_46 (S : Cx p m c meth cX6_move 7 s args RX6 (some .int)) {Q : Int32 → MM → Prop}   (M : MM) (a0 : Nat) (v2 : Int32) (t0 : Int32) (h : B_X6_move_46 Z Q  M a0 v2 t0) : WG p l e rm_X6_move s m args below meth c 0 0 (MQi below E Z args s Q) E Z M 46 7 [(0, .ref a0), (2, .int v2)] [.int t0] := by
  intro H locs ls hw hl
  have hx := S.1.1
  have hb := S.1.2.1
  refine lv_istore_n (lv' := [(3, .int t0), (0, .ref a0), (2, .int v2)]) hx hb dX6_move_46 rfl hl (by decide) rfl (fun ls hl => ?_)
  refine lv_bipush (v := 112) hx hb dX6_move_47 (by decide) ?_
  refine lv_istore (lv' := [(4, .int 112), (3, .int t0), (0, .ref a0), (2, .int v2)]) hx hb dX6_move_49 hl (by decide) rfl (fun ls hl => ?_)
  refine lv_iconst (v := (-1)) hx hb dX6_move_51 (by decide) ?_
  refine lv_istore (lv' := [(5, .int (-1)), (4, .int 112), (3, .int t0), (0, .ref a0), (2, .int v2)]) hx hb dX6_move_52 hl (by decide) rfl (fun ls hl => ?_)
  refine lv_iconst (v := 0) hx hb dX6_move_54 (by decide) ?_
  refine lv_istore (lv' := [(6, .int 0), (5, .int (-1)), (4, .int 112), (3, .int t0), (0, .ref a0), (2, .int v2)]) hx hb dX6_move_55 hl (by decide) rfl (fun ls hl => ?_)
  exact ((Exists.elim h (fun n h => wL_X6_move_57 S   n _ _ _ _ _ _ _ h))) H locs ls hw (lv_sub hl [4, 5, 3, 2, 1, 0] rfl)
set_option maxRecDepth 100000 in
set_option maxHeartbeats 4000000 in
theorem wB_X6_move_0 (S : Cx p m c meth cX6_move 7 s args RX6 (some .int)) {Q : Int32 → MM → Prop}   (M : MM) (a0 : Nat) (v1 : Int32) (v2 : Int32) (h : B_X6_move_0 Z Q  M a0 v1 v2) : WG p l e rm_X6_move s m args below meth c 0 0 (MQi below E Z args s Q) E Z M 0 7 [(0, .ref a0), (1, .int v1), (2, .int v2)] [] := by
  intro H locs ls hw hl
  have hx := S.1.1
  have hb := S.1.2.1
  refine lv_aload_n hx hb dX6_move_0 rfl (lv_at hl 0 rfl) ?_
  refine lv_iload_n hx hb dX6_move_1 rfl (lv_at hl 1 rfl) ?_
  obtain ⟨k_0, h⟩ := h
  refine cv_i (As := [.int v1]) (rest := []) S.1 hw (k_X6_isCell l E Z M a0 v1 _ h) wv_X6_69 yc_X6_isCell ⟨rfl, rfl⟩ ⟨Nat.le_of_ble_eq_true rfl, Nat.le_of_ble_eq_true rfl⟩ rfl hl.1 (Nat.le_of_ble_eq_true rfl) (ci := 6) (q := (RX6, TX6, 12)) rfl rfl (by rw [k_0]; decide) (cell_6 k_0) ⟨Nat.le_of_ble_eq_true rfl, Nat.le_of_ble_eq_true rfl⟩ dX6_move_2 (fun r2 M2 H locs h hw => ?_)
  refine lv_if_eq (tgt := 12) hx hb dX6_move_5 (by decide) (fun q_5 => ?_) (fun q_5 => ?_)
  · have h := h.1 q_5
    exact ((wB_X6_move_12 S   _ _ h)) H locs ls hw (lv_sub hl [0] rfl)
  · have h := h.2 q_5
    refine lv_iload_n hx hb dX6_move_8 rfl (lv_at hl 2 rfl) ?_
    refine lv_if_ge (tgt := 18) hx hb dX6_move_9 (by decide) (fun q_9 => ?_) (fun q_9 => ?_)
    · have h := h.1 q_9
      refine lv_aload_n hx hb dX6_move_18 rfl (lv_at hl 0 rfl) ?_
      refine cv_v (As := []) (rest := []) S.1 hw (k_X6_findsBlocks l E Z M2 a0  _ h) wv_X6_146 yc_X6_findsBlocks ⟨rfl, rfl⟩ ⟨Nat.le_of_ble_eq_true rfl, Nat.le_of_ble_eq_true rfl⟩ rfl hl.1 (Nat.le_of_ble_eq_true rfl) (ci := 6) (q := (RX6, TX6, 12)) rfl rfl (by rw [k_0]; decide) (cell_6 k_0) ⟨Nat.le_of_ble_eq_true rfl, Nat.le_of_ble_eq_true rfl⟩ dX6_move_19 (fun M19 H locs h hw => ?_)
      refine lv_aload_n hx hb dX6_move_22 rfl (lv_at hl 0 rfl) ?_
      obtain ⟨y23_1, hy_1, h⟩ := h
      refine gf_X6_19 S.1 hw k_0 hy_1 dX6_move_23 ?_
      refine lv_iload_n hx hb dX6_move_26 rfl (lv_at hl 1 rfl) ?_
      obtain ⟨k_2, h⟩ := h
      obtain ⟨i_27, h⟩ := h
      refine wo_iald S.1 hw k_2 i_27 dX6_move_27 ?_
      refine lv_iconst (v := (-1)) hx hb dX6_move_28 (by decide) ?_
      refine lv_icmp_ne (tgt := 36) hx hb dX6_move_29 (by decide) (fun q_29 => ?_) (fun q_29 => ?_)
      · have h := h.1 q_29
        refine lv_aload_n hx hb dX6_move_36 rfl (lv_at hl 0 rfl) ?_
        refine lv_aload_n hx hb dX6_move_37 rfl (lv_at hl 0 rfl) ?_
        refine gf_X6_19 S.1 hw k_0 hy_1 dX6_move_38 ?_
        refine lv_iload_n hx hb dX6_move_41 rfl (lv_at hl 1 rfl) ?_
        obtain ⟨i_42, h⟩ := h
        refine wo_iald S.1 hw k_2 i_42 dX6_move_42 ?_
        refine cv_i (As := [.int (mA M19 y23_1 v1.toNatClampNeg)]) (rest := []) S.1 hw (k_X6_way l E Z M19 a0 (mA M19 y23_1 v1.toNatClampNeg) _ h) wv_X6_139 yc_X6_way ⟨rfl, rfl⟩ ⟨Nat.le_of_ble_eq_true rfl, Nat.le_of_ble_eq_true rfl⟩ rfl hl.1 (Nat.le_of_ble_eq_true rfl) (ci := 6) (q := (RX6, TX6, 12)) rfl rfl (by rw [k_0]; decide) (cell_6 k_0) ⟨Nat.le_of_ble_eq_true rfl, Nat.le_of_ble_eq_true rfl⟩ dX6_move_43 (fun r43 M43 H locs h hw => ?_)
        exact ((wB_X6_move_46 S   _ _ _ _ h)) H locs ls hw (lv_sub hl [0, 2] rfl)
      · have h := h.2 q_29
        refine lv_iconst (v := (-1)) hx hb dX6_move_32 (by decide) ?_
        refine lv_goto (tgt := 46) hx hb dX6_move_33 (by decide) ?_
        exact ((wB_X6_move_46 S   _ _ _ _ h)) H locs ls hw (lv_sub hl [0, 2] rfl)
    · have h := h.2 q_9
      exact ((wB_X6_move_12 S   _ _ h)) H locs ls hw (lv_sub hl [0] rfl)
set_option maxRecDepth 100000 in
set_option maxHeartbeats 4000000 in
theorem k_X6_move (l : Launch) (E : EE) (Z : ZZ) (M : MM) (a0 : Nat) (v1 : Int32) (v2 : Int32) (Q : Int32 → MM → Prop) (h : P_X6_move Z M a0 v1 v2 Q) : Ct_i l yX6_move cX6_move 7 (some .int) rm_X6_move E Z M [.ref a0, .int v1, .int v2] Q := by
  refine Met.ofW (cc := cX6_move) (maxL := 7) (ret := some .int) (by decide) rfl ?_
  intro p e s m args below meth c s₁ B hml hv
  obtain ⟨rfl, hK, hP, hD, hZ⟩ := hv
  have S : Cx p m c meth cX6_move 7 s _ RX6 (some .int) := ⟨⟨B.exec, B.bytes, hml, findClass_of_methodNamed B.named, fun w hw => atoms_spec (ws := ws_ yX6_move cX6_move 7 (some .int)) B.pre w (List.mem_cons_of_mem _ hw)⟩, B.returns, B.notSynchronized⟩
  have hl := lv_entry ([.ref a0, .int v1, .int v2]) (n := 7) (Nat.le_of_ble_eq_true rfl)
  rw [lg_entry_eq]
  generalize (lg_sl ([.ref a0, .int v1, .int v2]) ++ List.replicate (7 - (lg_sl ([.ref a0, .int v1, .int v2])).length) Slot.unset).toArray = ls at hl ⊢
  exact (wB_X6_move_0 S  M a0 v1 v2 h) s.heap [] ls ⟨hK, hP, hD, va_S.rf, hZ⟩ hl
set_option maxRecDepth 100000 in
set_option maxHeartbeats 4000000 in
theorem wB_X6_blocks_38 (S : Cx p m c meth cX6_blocks 5 s args RX6 (some .int)) {Q : Int32 → MM → Prop} {K43 : MM → Nat → Int32 → Int32 → Int32 → Int32 → Prop} (hK43 : ∀ (M : MM) (a0 : Nat) (v1 : Int32) (v2 : Int32) (v3 : Int32) (t0 : Int32), K43 M a0 v1 v2 v3 t0 → WG p l e rm_X6_blocks s m args below meth c 0 0 (MQi below E Z args s Q) E Z M 43 5 [(0, .ref a0), (1, .int v1), (2, .int v2), (3, .int v3)] [.int t0]) (M : MM) (a0 : Nat) (v1 : Int32) (v2 : Int32) (v3 : Int32) (h : B_X6_blocks_38 Z Q K43 M a0 v1 v2 v3) : WG p l e rm_X6_blocks s m args below meth c 0 0 (MQi below E Z args s Q) E Z M 38 5 [(0, .ref a0), (1, .int v1), (2, .int v2), (3, .int v3)] [] := by
  intro H locs ls hw hl
  have hx := S.1.1
  have hb := S.1.2.1
  refine lv_iconst (v := 1) hx hb dX6_blocks_38 (by decide) ?_
  refine lv_goto (tgt := 43) hx hb dX6_blocks_39 (by decide) ?_
  exact (hK43 _ _ _ _ _ _ h) H locs ls hw (lv_sub hl [0, 1, 2, 3] rfl)
set_option maxRecDepth 100000 in
set_option maxHeartbeats 4000000 in
theorem wB_X6_blocks_42 (S : Cx p m c meth cX6_blocks 5 s args RX6 (some .int)) {Q : Int32 → MM → Prop} {K43 : MM → Nat → Int32 → Int32 → Int32 → Int32 → Prop} (hK43 : ∀ (M : MM) (a0 : Nat) (v1 : Int32) (v2 : Int32) (v3 : Int32) (t0 : Int32), K43 M a0 v1 v2 v3 t0 → WG p l e rm_X6_blocks s m args below meth c 0 0 (MQi below E Z args s Q) E Z M 43 5 [(0, .ref a0), (1, .int v1), (2, .int v2), (3, .int v3)] [.int t0]) (M : MM) (a0 : Nat) (v1 : Int32) (v2 : Int32) (v3 : Int32) (h : B_X6_blocks_42 Z Q K43 M a0 v1 v2 v3) : WG p l e rm_X6_blocks s m args below meth c 0 0 (MQi below E Z args s Q) E Z M 42 5 [(0, .ref a0), (1, .int v1), (2, .int v2), (3, .int v3)] [] := by
  intro H locs ls hw hl
  have hx := S.1.1
  have hb := S.1.2.1
  refine lv_iconst (v := 0) hx hb dX6_blocks_42 (by decide) ?_
  exact (hK43 _ _ _ _ _ _ h) H locs ls hw (lv_sub hl [0, 1, 2, 3] rfl)
set_option maxRecDepth 100000 in
set_option maxHeartbeats 4000000 in
theorem wB_X6_blocks_65 (S : Cx p m c meth cX6_blocks 5 s args RX6 (some .int)) {Q : Int32 → MM → Prop} {K70 : MM → Nat → Int32 → Int32 → Int32 → Int32 → Prop} (hK70 : ∀ (M : MM) (a0 : Nat) (v1 : Int32) (v3 : Int32) (t0 : Int32) (t1 : Int32), K70 M a0 v1 v3 t0 t1 → WG p l e rm_X6_blocks s m args below meth c 0 0 (MQi below E Z args s Q) E Z M 70 5 [(0, .ref a0), (1, .int v1), (3, .int v3)] [.int t0, .int t1]) (M : MM) (a0 : Nat) (v1 : Int32) (v3 : Int32) (t0 : Int32) (h : B_X6_blocks_65 Z Q K70 M a0 v1 v3 t0) : WG p l e rm_X6_blocks s m args below meth c 0 0 (MQi below E Z args s Q) E Z M 65 5 [(0, .ref a0), (1, .int v1), (3, .int v3)] [.int t0] := by
  intro H locs ls hw hl
  have hx := S.1.1
  have hb := S.1.2.1
  refine lv_iconst (v := 1) hx hb dX6_blocks_65 (by decide) ?_
  refine lv_goto (tgt := 70) hx hb dX6_blocks_66 (by decide) ?_
  exact (hK70 _ _ _ _ _ _ h) H locs ls hw (lv_sub hl [0, 1, 2] rfl)
set_option maxRecDepth 100000 in
set_option maxHeartbeats 4000000 in
theorem wB_X6_blocks_69 (S : Cx p m c meth cX6_blocks 5 s args RX6 (some .int)) {Q : Int32 → MM → Prop} {K70 : MM → Nat → Int32 → Int32 → Int32 → Int32 → Prop} (hK70 : ∀ (M : MM) (a0 : Nat) (v1 : Int32) (v3 : Int32) (t0 : Int32) (t1 : Int32), K70 M a0 v1 v3 t0 t1 → WG p l e rm_X6_blocks s m args below meth c 0 0 (MQi below E Z args s Q) E Z M 70 5 [(0, .ref a0), (1, .int v1), (3, .int v3)] [.int t0, .int t1]) (M : MM) (a0 : Nat) (v1 : Int32) (v3 : Int32) (t0 : Int32) (h : B_X6_blocks_69 Z Q K70 M a0 v1 v3 t0) : WG p l e rm_X6_blocks s m args below meth c 0 0 (MQi below E Z args s Q) E Z M 69 5 [(0, .ref a0), (1, .int v1), (3, .int v3)] [.int t0] := by
  intro H locs ls hw hl
  have hx := S.1.1
  have hb := S.1.2.1
  refine lv_iconst (v := 0) hx hb dX6_blocks_69 (by decide) ?_
  exact (hK70 _ _ _ _ _ _ h) H locs ls hw (lv_sub hl [0, 1, 2] rfl)
set_option maxRecDepth 100000 in
set_option maxHeartbeats 4000000 in
theorem wB_X6_blocks_70 (S : Cx p m c meth cX6_blocks 5 s args RX6 (some .int)) {Q : Int32 → MM → Prop} {K8 : MM → Nat → Int32 → Int32 → Int32 → Prop} (hK8 : ∀ (M : MM) (a0 : Nat) (v1 : Int32) (v2 : Int32) (v3 : Int32), K8 M a0 v1 v2 v3 → WG p l e rm_X6_blocks s m args below meth c 0 0 (MQi below E Z args s Q) E Z M 8 5 [(0, .ref a0), (1, .int v1), (2, .int v2), (3, .int v3)] []) (M : MM) (a0 : Nat) (v1 : Int32) (v3 : Int32) (t0 : Int32) (t1 : Int32) (h : B_X6_blocks_70 Z Q K8 M a0 v1 v3 t0 t1) : WG p l e rm_X6_blocks s m args below meth c 0 0 (MQi below E Z args s Q) E Z M 70 5 [(0, .ref a0), (1, .int v1), (3, .int v3)] [.int t0, .int t1] := by
  intro H locs ls hw hl
  have hx := S.1.1
  have hb := S.1.2.1
  refine lv_iadd hx hb dX6_blocks_70 ?_
  refine lv_istore_n (lv' := [(2, .int (t1 + t0)), (0, .ref a0), (1, .int v1), (3, .int v3)]) hx hb dX6_blocks_71 rfl hl (by decide) rfl (fun ls hl => ?_)
  refine lv_iinc (v := (v3 + 1)) (lv' := [(3, .int (v3 + 1)), (2, .int (t1 + t0)), (0, .ref a0), (1, .int v1)]) hx hb dX6_blocks_72 hl (k := 3) rfl rfl (by decide) rfl (fun ls hl => ?_)
  refine lv_goto (tgt := 8) hx hb dX6_blocks_75 (by decide) ?_
  exact (hK8 _ _ _ _ _ h) H locs ls hw (lv_sub hl [2, 3, 1, 0] rfl)
set_option maxRecDepth 100000 in
set_option maxHeartbeats 4000000 in
theorem wB_X6_blocks_43 (S : Cx p m c meth cX6_blocks 5 s args RX6 (some .int)) {Q : Int32 → MM → Prop} {K8 : MM → Nat → Int32 → Int32 → Int32 → Prop} (hK8 : ∀ (M : MM) (a0 : Nat) (v1 : Int32) (v2 : Int32) (v3 : Int32), K8 M a0 v1 v2 v3 → WG p l e rm_X6_blocks s m args below meth c 0 0 (MQi below E Z args s Q) E Z M 8 5 [(0, .ref a0), (1, .int v1), (2, .int v2), (3, .int v3)] []) (M : MM) (a0 : Nat) (v1 : Int32) (v2 : Int32) (v3 : Int32) (t0 : Int32) (h : B_X6_blocks_43 Z Q K8 M a0 v1 v2 v3 t0) : WG p l e rm_X6_blocks s m args below meth c 0 0 (MQi below E Z args s Q) E Z M 43 5 [(0, .ref a0), (1, .int v1), (2, .int v2), (3, .int v3)] [.int t0] := by
  intro H locs ls hw hl
  have hx := S.1.1
  have hb := S.1.2.1
  refine lv_istore (lv' := [(4, .int t0), (0, .ref a0), (1, .int v1), (2, .int v2), (3, .int v3)]) hx hb dX6_blocks_43 hl (by decide) rfl (fun ls hl => ?_)
  refine lv_iload_n hx hb dX6_blocks_45 rfl (lv_at hl 3 rfl) ?_
  refine lv_iload hx hb dX6_blocks_46 (lv_at hl 0 rfl) ?_
  refine lv_if_eq (tgt := 69) hx hb dX6_blocks_48 (by decide) (fun q_48 => ?_) (fun q_48 => ?_)
  · have h := h.1 q_48
    exact ((wB_X6_blocks_69 S  (fun M1 a0 v1 v3 t0 t1 h => (wB_X6_blocks_70 S  hK8 _ _ _ _ _ _ h)) _ _ _ _ _ h)) H locs ls hw (lv_sub hl [1, 2, 4] rfl)
  · have h := h.2 q_48
    refine lv_iload_n hx hb dX6_blocks_51 rfl (lv_at hl 2 rfl) ?_
    refine lv_iconst (v := 2) hx hb dX6_blocks_52 (by decide) ?_
    refine lv_icmp_lt (tgt := 65) hx hb dX6_blocks_53 (by decide) (fun q_53 => ?_) (fun q_53 => ?_)
    · have h := h.1 q_53
      exact ((wB_X6_blocks_65 S  (fun M1 a0 v1 v3 t0 t1 h => (wB_X6_blocks_70 S  hK8 _ _ _ _ _ _ h)) _ _ _ _ _ h)) H locs ls hw (lv_sub hl [1, 2, 4] rfl)
    · have h := h.2 q_53
      refine lv_aload_n hx hb dX6_blocks_56 rfl (lv_at hl 1 rfl) ?_
      refine lv_iload_n hx hb dX6_blocks_57 rfl (lv_at hl 4 rfl) ?_
      obtain ⟨k_0, h⟩ := h
      refine cv_i (As := [.int v3]) (rest := [.int v2]) S.1 hw (k_X6_way l E Z M a0 v3 _ h) wv_X6_139 yc_X6_way ⟨rfl, rfl⟩ ⟨Nat.le_of_ble_eq_true rfl, Nat.le_of_ble_eq_true rfl⟩ rfl hl.1 (Nat.le_of_ble_eq_true rfl) (ci := 6) (q := (RX6, TX6, 12)) rfl rfl (by rw [k_0]; decide) (cell_6 k_0) ⟨Nat.le_of_ble_eq_true rfl, Nat.le_of_ble_eq_true rfl⟩ dX6_blocks_58 (fun r58 M58 H locs h hw => ?_)
      refine lv_iconst (v := (-1)) hx hb dX6_blocks_61 (by decide) ?_
      refine lv_icmp_ne (tgt := 69) hx hb dX6_blocks_62 (by decide) (fun q_62 => ?_) (fun q_62 => ?_)
      · have h := h.1 q_62
        exact ((wB_X6_blocks_69 S  (fun M1 a0 v1 v3 t0 t1 h => (wB_X6_blocks_70 S  hK8 _ _ _ _ _ _ h)) _ _ _ _ _ h)) H locs ls hw (lv_sub hl [1, 2, 4] rfl)
      · have h := h.2 q_62
        exact ((wB_X6_blocks_65 S  (fun M1 a0 v1 v3 t0 t1 h => (wB_X6_blocks_70 S  hK8 _ _ _ _ _ _ h)) _ _ _ _ _ h)) H locs ls hw (lv_sub hl [1, 2, 4] rfl)
set_option maxRecDepth 100000 in
set_option maxHeartbeats 4000000 in
theorem wB_X6_blocks_8 (S : Cx p m c meth cX6_blocks 5 s args RX6 (some .int)) {Q : Int32 → MM → Prop} {K8 : MM → Nat → Int32 → Int32 → Int32 → Prop} (hK8 : ∀ (M : MM) (a0 : Nat) (v1 : Int32) (v2 : Int32) (v3 : Int32), K8 M a0 v1 v2 v3 → WG p l e rm_X6_blocks s m args below meth c 0 0 (MQi below E Z args s Q) E Z M 8 5 [(0, .ref a0), (1, .int v1), (2, .int v2), (3, .int v3)] []) (M : MM) (a0 : Nat) (v1 : Int32) (v2 : Int32) (v3 : Int32) (h : B_X6_blocks_8 Z Q K8 M a0 v1 v2 v3) : WG p l e rm_X6_blocks s m args below meth c 0 0 (MQi below E Z args s Q) E Z M 8 5 [(0, .ref a0), (1, .int v1), (2, .int v2), (3, .int v3)] [] := by
  intro H locs ls hw hl
  have hx := S.1.1
  have hb := S.1.2.1
  refine lv_iload_n hx hb dX6_blocks_8 rfl (lv_at hl 3 rfl) ?_
  refine lv_aload_n hx hb dX6_blocks_9 rfl (lv_at hl 0 rfl) ?_
  obtain ⟨k_0, h⟩ := h
  refine cv_i (As := []) (rest := [.int v3]) S.1 hw (k_X6_cells l E Z M a0  _ h) wv_X6_45 yc_X6_cells ⟨rfl, rfl⟩ ⟨Nat.le_of_ble_eq_true rfl, Nat.le_of_ble_eq_true rfl⟩ rfl hl.1 (Nat.le_of_ble_eq_true rfl) (ci := 6) (q := (RX6, TX6, 12)) rfl rfl (by rw [k_0]; decide) (cell_6 k_0) ⟨Nat.le_of_ble_eq_true rfl, Nat.le_of_ble_eq_true rfl⟩ dX6_blocks_10 (fun r10 M10 H locs h hw => ?_)
  refine lv_icmp_ge (tgt := 78) hx hb dX6_blocks_13 (by decide) (fun q_13 => ?_) (fun q_13 => ?_)
  · have h := h.1 q_13
    refine lv_iload_n hx hb dX6_blocks_78 rfl (lv_at hl 2 rfl) ?_
    exact we_i S hw h dX6_blocks_79
  · have h := h.2 q_13
    refine lv_aload_n hx hb dX6_blocks_16 rfl (lv_at hl 0 rfl) ?_
    obtain ⟨y17_1, hy_1, h⟩ := h
    refine gf_X6_19 S.1 hw k_0 hy_1 dX6_blocks_17 ?_
    refine lv_iload_n hx hb dX6_blocks_20 rfl (lv_at hl 3 rfl) ?_
    obtain ⟨k_2, h⟩ := h
    obtain ⟨i_21, h⟩ := h
    refine wo_iald S.1 hw k_2 i_21 dX6_blocks_21 ?_
    refine lv_iload_n hx hb dX6_blocks_22 rfl (lv_at hl 3 rfl) ?_
    refine lv_icmp_ne (tgt := 42) hx hb dX6_blocks_23 (by decide) (fun q_23 => ?_) (fun q_23 => ?_)
    · have h := h.1 q_23
      exact ((wB_X6_blocks_42 S  (fun M1 a0 v1 v2 v3 t0 h => (wB_X6_blocks_43 S  hK8 _ _ _ _ _ _ h)) _ _ _ _ _ h)) H locs ls hw (lv_sub hl [0, 1, 2, 3] rfl)
    · have h := h.2 q_23
      refine lv_iload_n hx hb dX6_blocks_26 rfl (lv_at hl 1 rfl) ?_
      refine lv_if_eq (tgt := 38) hx hb dX6_blocks_27 (by decide) (fun q_27 => ?_) (fun q_27 => ?_)
      · have h := h.1 q_27
        exact ((wB_X6_blocks_38 S  (fun M1 a0 v1 v2 v3 t0 h => (wB_X6_blocks_43 S  hK8 _ _ _ _ _ _ h)) _ _ _ _ _ h)) H locs ls hw (lv_sub hl [0, 1, 2, 3] rfl)
      · have h := h.2 q_27
        refine lv_aload_n hx hb dX6_blocks_30 rfl (lv_at hl 0 rfl) ?_
        refine lv_iload_n hx hb dX6_blocks_31 rfl (lv_at hl 3 rfl) ?_
        refine cv_i (As := [.int v3]) (rest := []) S.1 hw (k_X6_isHeld l E Z M10 a0 v3 _ h) wv_X6_132 yc_X6_isHeld ⟨rfl, rfl⟩ ⟨Nat.le_of_ble_eq_true rfl, Nat.le_of_ble_eq_true rfl⟩ rfl hl.1 (Nat.le_of_ble_eq_true rfl) (ci := 6) (q := (RX6, TX6, 12)) rfl rfl (by rw [k_0]; decide) (cell_6 k_0) ⟨Nat.le_of_ble_eq_true rfl, Nat.le_of_ble_eq_true rfl⟩ dX6_blocks_32 (fun r32 M32 H locs h hw => ?_)
        refine lv_if_ne (tgt := 42) hx hb dX6_blocks_35 (by decide) (fun q_35 => ?_) (fun q_35 => ?_)
        · have h := h.1 q_35
          exact ((wB_X6_blocks_42 S  (fun M1 a0 v1 v2 v3 t0 h => (wB_X6_blocks_43 S  hK8 _ _ _ _ _ _ h)) _ _ _ _ _ h)) H locs ls hw (lv_sub hl [0, 1, 2, 3] rfl)
        · have h := h.2 q_35
          exact ((wB_X6_blocks_38 S  (fun M1 a0 v1 v2 v3 t0 h => (wB_X6_blocks_43 S  hK8 _ _ _ _ _ _ h)) _ _ _ _ _ h)) H locs ls hw (lv_sub hl [0, 1, 2, 3] rfl)
theorem wL_X6_blocks_8 (S : Cx p m c meth cX6_blocks 5 s args RX6 (some .int)) {Q : Int32 → MM → Prop}   : ∀ (n : Nat) (M : MM) (a0 : Nat) (v1 : Int32) (v2 : Int32) (v3 : Int32), L_X6_blocks_8 Z Q   n M a0 v1 v2 v3 → WG p l e rm_X6_blocks s m args below meth c 0 0 (MQi below E Z args s Q) E Z M 8 5 [(0, .ref a0), (1, .int v1), (2, .int v2), (3, .int v3)] []
  | 0, _, _, _, _, _, h => False.elim h
  | n + 1, M, a0, v1, v2, v3, h => wB_X6_blocks_8 S  (wL_X6_blocks_8 S   n) M a0 v1 v2 v3 h
set_option maxRecDepth 100000 in
set_option maxHeartbeats 4000000 in
theorem wB_X6_blocks_0 (S : Cx p m c meth cX6_blocks 5 s args RX6 (some .int)) {Q : Int32 → MM → Prop}   (M : MM) (a0 : Nat) (v1 : Int32) (h : B_X6_blocks_0 Z Q  M a0 v1) : WG p l e rm_X6_blocks s m args below meth c 0 0 (MQi below E Z args s Q) E Z M 0 5 [(0, .ref a0), (1, .int v1)] [] := by
  intro H locs ls hw hl
  have hx := S.1.1
  have hb := S.1.2.1
  refine lv_iconst (v := 0) hx hb dX6_blocks_0 (by decide) ?_
  refine lv_istore_n (lv' := [(2, .int 0), (0, .ref a0), (1, .int v1)]) hx hb dX6_blocks_1 rfl hl (by decide) rfl (fun ls hl => ?_)
  refine lv_aload_n hx hb dX6_blocks_2 rfl (lv_at hl 1 rfl) ?_
  obtain ⟨k_0, h⟩ := h
  refine cv_v (As := []) (rest := []) S.1 hw (k_X6_findsBlocks l E Z M a0  _ h) wv_X6_146 yc_X6_findsBlocks ⟨rfl, rfl⟩ ⟨Nat.le_of_ble_eq_true rfl, Nat.le_of_ble_eq_true rfl⟩ rfl hl.1 (Nat.le_of_ble_eq_true rfl) (ci := 6) (q := (RX6, TX6, 12)) rfl rfl (by rw [k_0]; decide) (cell_6 k_0) ⟨Nat.le_of_ble_eq_true rfl, Nat.le_of_ble_eq_true rfl⟩ dX6_blocks_3 (fun M3 H locs h hw => ?_)
  refine lv_iconst (v := 0) hx hb dX6_blocks_6 (by decide) ?_
  refine lv_istore_n (lv' := [(3, .int 0), (2, .int 0), (0, .ref a0), (1, .int v1)]) hx hb dX6_blocks_7 rfl hl (by decide) rfl (fun ls hl => ?_)
  exact ((Exists.elim h (fun n h => wL_X6_blocks_8 S   n _ _ _ _ _ h))) H locs ls hw (lv_sub hl [2, 3, 1, 0] rfl)
set_option maxRecDepth 100000 in
set_option maxHeartbeats 4000000 in
theorem k_X6_blocks (l : Launch) (E : EE) (Z : ZZ) (M : MM) (a0 : Nat) (v1 : Int32) (Q : Int32 → MM → Prop) (h : P_X6_blocks Z M a0 v1 Q) : Ct_i l yX6_blocks cX6_blocks 5 (some .int) rm_X6_blocks E Z M [.ref a0, .int v1] Q := by
  refine Met.ofW (cc := cX6_blocks) (maxL := 5) (ret := some .int) (by decide) rfl ?_
  intro p e s m args below meth c s₁ B hml hv
  obtain ⟨rfl, hK, hP, hD, hZ⟩ := hv
  have S : Cx p m c meth cX6_blocks 5 s _ RX6 (some .int) := ⟨⟨B.exec, B.bytes, hml, findClass_of_methodNamed B.named, fun w hw => atoms_spec (ws := ws_ yX6_blocks cX6_blocks 5 (some .int)) B.pre w (List.mem_cons_of_mem _ hw)⟩, B.returns, B.notSynchronized⟩
  have hl := lv_entry ([.ref a0, .int v1]) (n := 5) (Nat.le_of_ble_eq_true rfl)
  rw [lg_entry_eq]
  generalize (lg_sl ([.ref a0, .int v1]) ++ List.replicate (5 - (lg_sl ([.ref a0, .int v1])).length) Slot.unset).toArray = ls at hl ⊢
  exact (wB_X6_blocks_0 S  M a0 v1 h) s.heap [] ls ⟨hK, hP, hD, va_S.rf, hZ⟩ hl
set_option maxRecDepth 100000 in
set_option maxHeartbeats 4000000 in
theorem wB_X6_sum_81 (S : Cx p m c meth cX6_sum 5 s args RX6 (some .int)) {Q : Int32 → MM → Prop} {K4 : MM → Nat → Int32 → Int32 → Int32 → Prop} (hK4 : ∀ (M : MM) (a0 : Nat) (v1 : Int32) (v2 : Int32) (v3 : Int32), K4 M a0 v1 v2 v3 → WG p l e rm_X6_sum s m args below meth c 0 0 (MQi below E Z args s Q) E Z M 4 5 [(0, .ref a0), (1, .int v1), (2, .int v2), (3, .int v3)] []) (M : MM) (a0 : Nat) (v1 : Int32) (v3 : Int32) (t0 : Int32) (t1 : Int32) (h : B_X6_sum_81 Z Q K4 M a0 v1 v3 t0 t1) : WG p l e rm_X6_sum s m args below meth c 0 0 (MQi below E Z args s Q) E Z M 81 5 [(0, .ref a0), (1, .int v1), (3, .int v3)] [.int t0, .int t1] := by
  intro H locs ls hw hl
  have hx := S.1.1
  have hb := S.1.2.1
  refine lv_iadd hx hb dX6_sum_81 ?_
  refine lv_istore_n (lv' := [(2, .int (t1 + t0)), (0, .ref a0), (1, .int v1), (3, .int v3)]) hx hb dX6_sum_82 rfl hl (by decide) rfl (fun ls hl => ?_)
  refine lv_iinc (v := (v3 + 1)) (lv' := [(3, .int (v3 + 1)), (2, .int (t1 + t0)), (0, .ref a0), (1, .int v1)]) hx hb dX6_sum_83 hl (k := 3) rfl rfl (by decide) rfl (fun ls hl => ?_)
  refine lv_goto (tgt := 4) hx hb dX6_sum_86 (by decide) ?_
  exact (hK4 _ _ _ _ _ h) H locs ls hw (lv_sub hl [2, 3, 1, 0] rfl)
set_option maxRecDepth 100000 in
set_option maxHeartbeats 4000000 in
theorem wB_X6_sum_4 (S : Cx p m c meth cX6_sum 5 s args RX6 (some .int)) {Q : Int32 → MM → Prop} {K4 : MM → Nat → Int32 → Int32 → Int32 → Prop} (hK4 : ∀ (M : MM) (a0 : Nat) (v1 : Int32) (v2 : Int32) (v3 : Int32), K4 M a0 v1 v2 v3 → WG p l e rm_X6_sum s m args below meth c 0 0 (MQi below E Z args s Q) E Z M 4 5 [(0, .ref a0), (1, .int v1), (2, .int v2), (3, .int v3)] []) (M : MM) (a0 : Nat) (v1 : Int32) (v2 : Int32) (v3 : Int32) (h : B_X6_sum_4 Z Q K4 M a0 v1 v2 v3) : WG p l e rm_X6_sum s m args below meth c 0 0 (MQi below E Z args s Q) E Z M 4 5 [(0, .ref a0), (1, .int v1), (2, .int v2), (3, .int v3)] [] := by
  intro H locs ls hw hl
  have hx := S.1.1
  have hb := S.1.2.1
  refine lv_iload_n hx hb dX6_sum_4 rfl (lv_at hl 3 rfl) ?_
  refine lv_aload_n hx hb dX6_sum_5 rfl (lv_at hl 0 rfl) ?_
  obtain ⟨k_0, h⟩ := h
  refine cv_i (As := []) (rest := [.int v3]) S.1 hw (k_X6_cells l E Z M a0  _ h) wv_X6_45 yc_X6_cells ⟨rfl, rfl⟩ ⟨Nat.le_of_ble_eq_true rfl, Nat.le_of_ble_eq_true rfl⟩ rfl hl.1 (Nat.le_of_ble_eq_true rfl) (ci := 6) (q := (RX6, TX6, 12)) rfl rfl (by rw [k_0]; decide) (cell_6 k_0) ⟨Nat.le_of_ble_eq_true rfl, Nat.le_of_ble_eq_true rfl⟩ dX6_sum_6 (fun r6 M6 H locs h hw => ?_)
  refine lv_icmp_ge (tgt := 89) hx hb dX6_sum_9 (by decide) (fun q_9 => ?_) (fun q_9 => ?_)
  · have h := h.1 q_9
    refine lv_iload_n hx hb dX6_sum_89 rfl (lv_at hl 2 rfl) ?_
    exact we_i S hw h dX6_sum_90
  · have h := h.2 q_9
    refine lv_aload_n hx hb dX6_sum_12 rfl (lv_at hl 0 rfl) ?_
    obtain ⟨y13_1, hy_1, h⟩ := h
    refine gf_X6_7 S.1 hw k_0 hy_1 dX6_sum_13 ?_
    refine lv_bipush (v := 57) hx hb dX6_sum_16 (by decide) ?_
    refine lv_iload_n hx hb dX6_sum_18 rfl (lv_at hl 3 rfl) ?_
    refine lv_iadd hx hb dX6_sum_19 ?_
    obtain ⟨k_2, h⟩ := h
    obtain ⟨i_20, h⟩ := h
    refine wo_iald S.1 hw k_2 i_20 dX6_sum_20 ?_
    refine lv_istore (lv' := [(4, .int (mA M6 y13_1 (57 + v3).toNatClampNeg)), (0, .ref a0), (1, .int v1), (2, .int v2), (3, .int v3)]) hx hb dX6_sum_21 hl (by decide) rfl (fun ls hl => ?_)
    refine lv_iload_n hx hb dX6_sum_23 rfl (lv_at hl 3 rfl) ?_
    refine lv_iload_n hx hb dX6_sum_24 rfl (lv_at hl 2 rfl) ?_
    refine lv_bipush (v := 10) hx hb dX6_sum_25 (by decide) ?_
    refine lv_icmp_ne (tgt := 42) hx hb dX6_sum_27 (by decide) (fun q_27 => ?_) (fun q_27 => ?_)
    · have h := h.1 q_27
      refine lv_iload_n hx hb dX6_sum_42 rfl (lv_at hl 2 rfl) ?_
      refine lv_iconst (v := 2) hx hb dX6_sum_43 (by decide) ?_
      refine lv_icmp_ne (tgt := 63) hx hb dX6_sum_44 (by decide) (fun q_44 => ?_) (fun q_44 => ?_)
      · have h := h.1 q_44
        refine lv_iload hx hb dX6_sum_63 (lv_at hl 0 rfl) ?_
        refine lv_iconst (v := 1) hx hb dX6_sum_65 (by decide) ?_
        refine lv_iand hx hb dX6_sum_66 ?_
        refine lv_iload hx hb dX6_sum_67 (lv_at hl 0 rfl) ?_
        refine lv_iconst (v := 1) hx hb dX6_sum_69 (by decide) ?_
        refine lv_ishr hx hb dX6_sum_70 ?_
        refine lv_iconst (v := 1) hx hb dX6_sum_71 (by decide) ?_
        refine lv_iand hx hb dX6_sum_72 ?_
        refine lv_iadd hx hb dX6_sum_73 ?_
        refine lv_iload hx hb dX6_sum_74 (lv_at hl 0 rfl) ?_
        refine lv_iconst (v := 2) hx hb dX6_sum_76 (by decide) ?_
        refine lv_ishr hx hb dX6_sum_77 ?_
        refine lv_iconst (v := 1) hx hb dX6_sum_78 (by decide) ?_
        refine lv_iand hx hb dX6_sum_79 ?_
        refine lv_iadd hx hb dX6_sum_80 ?_
        exact ((wB_X6_sum_81 S  hK4 _ _ _ _ _ _ h)) H locs ls hw (lv_sub hl [1, 2, 4] rfl)
      · have h := h.2 q_44
        refine lv_aload_n hx hb dX6_sum_47 rfl (lv_at hl 1 rfl) ?_
        refine lv_iload_n hx hb dX6_sum_48 rfl (lv_at hl 4 rfl) ?_
        refine cv_i (As := [.int v3]) (rest := [.int v2]) S.1 hw (k_X6_isIce l E Z M6 a0 v3 _ h) wv_X6_112 yc_X6_isIce ⟨rfl, rfl⟩ ⟨Nat.le_of_ble_eq_true rfl, Nat.le_of_ble_eq_true rfl⟩ rfl hl.1 (Nat.le_of_ble_eq_true rfl) (ci := 6) (q := (RX6, TX6, 12)) rfl rfl (by rw [k_0]; decide) (cell_6 k_0) ⟨Nat.le_of_ble_eq_true rfl, Nat.le_of_ble_eq_true rfl⟩ dX6_sum_49 (fun r49 M49 H locs h hw => ?_)
        refine lv_if_eq (tgt := 59) hx hb dX6_sum_52 (by decide) (fun q_52 => ?_) (fun q_52 => ?_)
        · have h := h.1 q_52
          refine lv_iconst (v := 0) hx hb dX6_sum_59 (by decide) ?_
          refine lv_goto (tgt := 81) hx hb dX6_sum_60 (by decide) ?_
          exact ((wB_X6_sum_81 S  hK4 _ _ _ _ _ _ h)) H locs ls hw (lv_sub hl [1, 2, 4] rfl)
        · have h := h.2 q_52
          refine lv_iconst (v := 1) hx hb dX6_sum_55 (by decide) ?_
          refine lv_goto (tgt := 81) hx hb dX6_sum_56 (by decide) ?_
          exact ((wB_X6_sum_81 S  hK4 _ _ _ _ _ _ h)) H locs ls hw (lv_sub hl [1, 2, 4] rfl)
    · have h := h.2 q_27
      refine lv_aload_n hx hb dX6_sum_30 rfl (lv_at hl 1 rfl) ?_
      refine gf_X6_7 S.1 hw k_0 hy_1 dX6_sum_31 ?_
      refine lv_bipush (v := 8) hx hb dX6_sum_34 (by decide) ?_
      refine lv_iload_n hx hb dX6_sum_36 rfl (lv_at hl 4 rfl) ?_
      refine lv_iadd hx hb dX6_sum_37 ?_
      obtain ⟨i_38, h⟩ := h
      refine wo_iald S.1 hw k_2 i_38 dX6_sum_38 ?_
      refine lv_goto (tgt := 81) hx hb dX6_sum_39 (by decide) ?_
      exact ((wB_X6_sum_81 S  hK4 _ _ _ _ _ _ h)) H locs ls hw (lv_sub hl [1, 2, 4] rfl)
theorem wL_X6_sum_4 (S : Cx p m c meth cX6_sum 5 s args RX6 (some .int)) {Q : Int32 → MM → Prop}   : ∀ (n : Nat) (M : MM) (a0 : Nat) (v1 : Int32) (v2 : Int32) (v3 : Int32), L_X6_sum_4 Z Q   n M a0 v1 v2 v3 → WG p l e rm_X6_sum s m args below meth c 0 0 (MQi below E Z args s Q) E Z M 4 5 [(0, .ref a0), (1, .int v1), (2, .int v2), (3, .int v3)] []
  | 0, _, _, _, _, _, h => False.elim h
  | n + 1, M, a0, v1, v2, v3, h => wB_X6_sum_4 S  (wL_X6_sum_4 S   n) M a0 v1 v2 v3 h
set_option maxRecDepth 100000 in
set_option maxHeartbeats 4000000 in
theorem wB_X6_sum_0 (S : Cx p m c meth cX6_sum 5 s args RX6 (some .int)) {Q : Int32 → MM → Prop}   (M : MM) (a0 : Nat) (v1 : Int32) (h : B_X6_sum_0 Z Q  M a0 v1) : WG p l e rm_X6_sum s m args below meth c 0 0 (MQi below E Z args s Q) E Z M 0 5 [(0, .ref a0), (1, .int v1)] [] := by
  intro H locs ls hw hl
  have hx := S.1.1
  have hb := S.1.2.1
  refine lv_iconst (v := 0) hx hb dX6_sum_0 (by decide) ?_
  refine lv_istore_n (lv' := [(2, .int 0), (0, .ref a0), (1, .int v1)]) hx hb dX6_sum_1 rfl hl (by decide) rfl (fun ls hl => ?_)
  refine lv_iconst (v := 0) hx hb dX6_sum_2 (by decide) ?_
  refine lv_istore_n (lv' := [(3, .int 0), (2, .int 0), (0, .ref a0), (1, .int v1)]) hx hb dX6_sum_3 rfl hl (by decide) rfl (fun ls hl => ?_)
  exact ((Exists.elim h (fun n h => wL_X6_sum_4 S   n _ _ _ _ _ h))) H locs ls hw (lv_sub hl [2, 3, 1, 0] rfl)
set_option maxRecDepth 100000 in
set_option maxHeartbeats 4000000 in
theorem k_X6_sum (l : Launch) (E : EE) (Z : ZZ) (M : MM) (a0 : Nat) (v1 : Int32) (Q : Int32 → MM → Prop) (h : P_X6_sum Z M a0 v1 Q) : Ct_i l yX6_sum cX6_sum 5 (some .int) rm_X6_sum E Z M [.ref a0, .int v1] Q := by
  refine Met.ofW (cc := cX6_sum) (maxL := 5) (ret := some .int) (by decide) rfl ?_
  intro p e s m args below meth c s₁ B hml hv
  obtain ⟨rfl, hK, hP, hD, hZ⟩ := hv
  have S : Cx p m c meth cX6_sum 5 s _ RX6 (some .int) := ⟨⟨B.exec, B.bytes, hml, findClass_of_methodNamed B.named, fun w hw => atoms_spec (ws := ws_ yX6_sum cX6_sum 5 (some .int)) B.pre w (List.mem_cons_of_mem _ hw)⟩, B.returns, B.notSynchronized⟩
  have hl := lv_entry ([.ref a0, .int v1]) (n := 5) (Nat.le_of_ble_eq_true rfl)
  rw [lg_entry_eq]
  generalize (lg_sl ([.ref a0, .int v1]) ++ List.replicate (5 - (lg_sl ([.ref a0, .int v1])).length) Slot.unset).toArray = ls at hl ⊢
  exact (wB_X6_sum_0 S  M a0 v1 h) s.heap [] ls ⟨hK, hP, hD, va_S.rf, hZ⟩ hl
set_option maxRecDepth 100000 in
set_option maxHeartbeats 4000000 in
theorem wB_X6_valueOf_0 (S : Cx p m c meth cX6_valueOf 2 s args RX6 (some .int)) {Q : Int32 → MM → Prop}   (M : MM) (a0 : Nat) (v1 : Int32) (h : B_X6_valueOf_0 Z Q  M a0 v1) : WG p l e rm_X6_valueOf s m args below meth c 0 0 (MQi below E Z args s Q) E Z M 0 2 [(0, .ref a0), (1, .int v1)] [] := by
  intro H locs ls hw hl
  have hx := S.1.1
  have hb := S.1.2.1
  refine lv_iload_n hx hb dX6_valueOf_0 rfl (lv_at hl 1 rfl) ?_
  by_cases q_1_0 : v1 = 0
  · have h := h.1 q_1_0
    refine lv_tableIn (tgt := 72) hx hb dX6_valueOf_1 (by rw [q_1_0]; decide) (by rw [q_1_0]; decide) (by rw [q_1_0]; rfl) (by decide) ?_
    refine lv_aload_n hx hb dX6_valueOf_72 rfl (lv_at hl 0 rfl) ?_
    obtain ⟨k_0, h⟩ := h
    obtain ⟨y73_1, hy_1, h⟩ := h
    refine gf_X6_7 S.1 hw k_0 hy_1 dX6_valueOf_73 ?_
    refine lv_iload_n hx hb dX6_valueOf_76 rfl (lv_at hl 1 rfl) ?_
    obtain ⟨k_2, h⟩ := h
    obtain ⟨i_77, h⟩ := h
    refine wo_iald S.1 hw k_2 i_77 dX6_valueOf_77 ?_
    exact we_i S hw h dX6_valueOf_78
  · have h := h.2 q_1_0
    by_cases q_1_1 : v1 = 1
    · have h := h.1 q_1_1
      refine lv_tableIn (tgt := 72) hx hb dX6_valueOf_1 (by rw [q_1_1]; decide) (by rw [q_1_1]; decide) (by rw [q_1_1]; rfl) (by decide) ?_
      refine lv_aload_n hx hb dX6_valueOf_72 rfl (lv_at hl 0 rfl) ?_
      obtain ⟨k_3, h⟩ := h
      obtain ⟨y73_4, hy_4, h⟩ := h
      refine gf_X6_7 S.1 hw k_3 hy_4 dX6_valueOf_73 ?_
      refine lv_iload_n hx hb dX6_valueOf_76 rfl (lv_at hl 1 rfl) ?_
      obtain ⟨k_5, h⟩ := h
      obtain ⟨i_77, h⟩ := h
      refine wo_iald S.1 hw k_5 i_77 dX6_valueOf_77 ?_
      exact we_i S hw h dX6_valueOf_78
    · have h := h.2 q_1_1
      by_cases q_1_2 : v1 = 2
      · have h := h.1 q_1_2
        refine lv_tableIn (tgt := 131) hx hb dX6_valueOf_1 (by rw [q_1_2]; decide) (by rw [q_1_2]; decide) (by rw [q_1_2]; rfl) (by decide) ?_
        refine lv_aload_n hx hb dX6_valueOf_131 rfl (lv_at hl 0 rfl) ?_
        refine lv_iload_n hx hb dX6_valueOf_132 rfl (lv_at hl 1 rfl) ?_
        obtain ⟨k_6, h⟩ := h
        refine cv_i (As := [.int v1]) (rest := []) S.1 hw (k_X6_sum l E Z M a0 v1 _ h) wv_X6_179 yc_X6_sum ⟨rfl, rfl⟩ ⟨Nat.le_of_ble_eq_true rfl, Nat.le_of_ble_eq_true rfl⟩ rfl hl.1 (Nat.le_of_ble_eq_true rfl) (ci := 6) (q := (RX6, TX6, 12)) rfl rfl (by rw [k_6]; decide) (cell_6 k_6) ⟨Nat.le_of_ble_eq_true rfl, Nat.le_of_ble_eq_true rfl⟩ dX6_valueOf_133 (fun r133 M133 H locs h hw => ?_)
        exact we_i S hw h dX6_valueOf_136
      · have h := h.2 q_1_2
        by_cases q_1_3 : v1 = 3
        · have h := h.1 q_1_3
          refine lv_tableIn (tgt := 79) hx hb dX6_valueOf_1 (by rw [q_1_3]; decide) (by rw [q_1_3]; decide) (by rw [q_1_3]; rfl) (by decide) ?_
          refine lv_aload_n hx hb dX6_valueOf_79 rfl (lv_at hl 0 rfl) ?_
          refine lv_iload_n hx hb dX6_valueOf_80 rfl (lv_at hl 1 rfl) ?_
          refine lv_iconst (v := 3) hx hb dX6_valueOf_81 (by decide) ?_
          refine lv_isub hx hb dX6_valueOf_82 ?_
          obtain ⟨k_7, h⟩ := h
          refine cv_i (As := [.int (v1 - 3)]) (rest := []) S.1 hw (k_X6_blocks l E Z M a0 (v1 - 3) _ h) wv_X6_176 yc_X6_blocks ⟨rfl, rfl⟩ ⟨Nat.le_of_ble_eq_true rfl, Nat.le_of_ble_eq_true rfl⟩ rfl hl.1 (Nat.le_of_ble_eq_true rfl) (ci := 6) (q := (RX6, TX6, 12)) rfl rfl (by rw [k_7]; decide) (cell_6 k_7) ⟨Nat.le_of_ble_eq_true rfl, Nat.le_of_ble_eq_true rfl⟩ dX6_valueOf_83 (fun r83 M83 H locs h hw => ?_)
          exact we_i S hw h dX6_valueOf_86
        · have h := h.2 q_1_3
          by_cases q_1_4 : v1 = 4
          · have h := h.1 q_1_4
            refine lv_tableIn (tgt := 79) hx hb dX6_valueOf_1 (by rw [q_1_4]; decide) (by rw [q_1_4]; decide) (by rw [q_1_4]; rfl) (by decide) ?_
            refine lv_aload_n hx hb dX6_valueOf_79 rfl (lv_at hl 0 rfl) ?_
            refine lv_iload_n hx hb dX6_valueOf_80 rfl (lv_at hl 1 rfl) ?_
            refine lv_iconst (v := 3) hx hb dX6_valueOf_81 (by decide) ?_
            refine lv_isub hx hb dX6_valueOf_82 ?_
            obtain ⟨k_8, h⟩ := h
            refine cv_i (As := [.int (v1 - 3)]) (rest := []) S.1 hw (k_X6_blocks l E Z M a0 (v1 - 3) _ h) wv_X6_176 yc_X6_blocks ⟨rfl, rfl⟩ ⟨Nat.le_of_ble_eq_true rfl, Nat.le_of_ble_eq_true rfl⟩ rfl hl.1 (Nat.le_of_ble_eq_true rfl) (ci := 6) (q := (RX6, TX6, 12)) rfl rfl (by rw [k_8]; decide) (cell_6 k_8) ⟨Nat.le_of_ble_eq_true rfl, Nat.le_of_ble_eq_true rfl⟩ dX6_valueOf_83 (fun r83 M83 H locs h hw => ?_)
            exact we_i S hw h dX6_valueOf_86
          · have h := h.2 q_1_4
            by_cases q_1_5 : v1 = 5
            · have h := h.1 q_1_5
              refine lv_tableIn (tgt := 79) hx hb dX6_valueOf_1 (by rw [q_1_5]; decide) (by rw [q_1_5]; decide) (by rw [q_1_5]; rfl) (by decide) ?_
              refine lv_aload_n hx hb dX6_valueOf_79 rfl (lv_at hl 0 rfl) ?_
              refine lv_iload_n hx hb dX6_valueOf_80 rfl (lv_at hl 1 rfl) ?_
              refine lv_iconst (v := 3) hx hb dX6_valueOf_81 (by decide) ?_
              refine lv_isub hx hb dX6_valueOf_82 ?_
              obtain ⟨k_9, h⟩ := h
              refine cv_i (As := [.int (v1 - 3)]) (rest := []) S.1 hw (k_X6_blocks l E Z M a0 (v1 - 3) _ h) wv_X6_176 yc_X6_blocks ⟨rfl, rfl⟩ ⟨Nat.le_of_ble_eq_true rfl, Nat.le_of_ble_eq_true rfl⟩ rfl hl.1 (Nat.le_of_ble_eq_true rfl) (ci := 6) (q := (RX6, TX6, 12)) rfl rfl (by rw [k_9]; decide) (cell_6 k_9) ⟨Nat.le_of_ble_eq_true rfl, Nat.le_of_ble_eq_true rfl⟩ dX6_valueOf_83 (fun r83 M83 H locs h hw => ?_)
              exact we_i S hw h dX6_valueOf_86
            · have h := h.2 q_1_5
              by_cases q_1_6 : v1 = 6
              · have h := h.1 q_1_6
                refine lv_tableIn (tgt := 131) hx hb dX6_valueOf_1 (by rw [q_1_6]; decide) (by rw [q_1_6]; decide) (by rw [q_1_6]; rfl) (by decide) ?_
                refine lv_aload_n hx hb dX6_valueOf_131 rfl (lv_at hl 0 rfl) ?_
                refine lv_iload_n hx hb dX6_valueOf_132 rfl (lv_at hl 1 rfl) ?_
                obtain ⟨k_10, h⟩ := h
                refine cv_i (As := [.int v1]) (rest := []) S.1 hw (k_X6_sum l E Z M a0 v1 _ h) wv_X6_179 yc_X6_sum ⟨rfl, rfl⟩ ⟨Nat.le_of_ble_eq_true rfl, Nat.le_of_ble_eq_true rfl⟩ rfl hl.1 (Nat.le_of_ble_eq_true rfl) (ci := 6) (q := (RX6, TX6, 12)) rfl rfl (by rw [k_10]; decide) (cell_6 k_10) ⟨Nat.le_of_ble_eq_true rfl, Nat.le_of_ble_eq_true rfl⟩ dX6_valueOf_133 (fun r133 M133 H locs h hw => ?_)
                exact we_i S hw h dX6_valueOf_136
              · have h := h.2 q_1_6
                by_cases q_1_7 : v1 = 7
                · have h := h.1 q_1_7
                  refine lv_tableIn (tgt := 87) hx hb dX6_valueOf_1 (by rw [q_1_7]; decide) (by rw [q_1_7]; decide) (by rw [q_1_7]; rfl) (by decide) ?_
                  refine lv_aload_n hx hb dX6_valueOf_87 rfl (lv_at hl 0 rfl) ?_
                  obtain ⟨k_11, h⟩ := h
                  obtain ⟨y88_12, hy_12, h⟩ := h
                  refine gf_X6_7 S.1 hw k_11 hy_12 dX6_valueOf_88 ?_
                  refine lv_iconst (v := 2) hx hb dX6_valueOf_91 (by decide) ?_
                  obtain ⟨k_13, h⟩ := h
                  obtain ⟨i_92, h⟩ := h
                  refine wo_iald S.1 hw k_13 i_92 dX6_valueOf_92 ?_
                  exact we_i S hw h dX6_valueOf_93
                · have h := h.2 q_1_7
                  by_cases q_1_8 : v1 = 8
                  · have h := h.1 q_1_8
                    refine lv_tableIn (tgt := 94) hx hb dX6_valueOf_1 (by rw [q_1_8]; decide) (by rw [q_1_8]; decide) (by rw [q_1_8]; rfl) (by decide) ?_
                    refine lv_aload_n hx hb dX6_valueOf_94 rfl (lv_at hl 0 rfl) ?_
                    obtain ⟨k_14, h⟩ := h
                    obtain ⟨y95_15, hy_15, h⟩ := h
                    refine gf_X6_7 S.1 hw k_14 hy_15 dX6_valueOf_95 ?_
                    refine lv_iconst (v := 3) hx hb dX6_valueOf_98 (by decide) ?_
                    obtain ⟨k_16, h⟩ := h
                    obtain ⟨i_99, h⟩ := h
                    refine wo_iald S.1 hw k_16 i_99 dX6_valueOf_99 ?_
                    exact we_i S hw h dX6_valueOf_100
                  · have h := h.2 q_1_8
                    by_cases q_1_9 : v1 = 9
                    · have h := h.1 q_1_9
                      refine lv_tableIn (tgt := 101) hx hb dX6_valueOf_1 (by rw [q_1_9]; decide) (by rw [q_1_9]; decide) (by rw [q_1_9]; rfl) (by decide) ?_
                      refine lv_aload_n hx hb dX6_valueOf_101 rfl (lv_at hl 0 rfl) ?_
                      obtain ⟨k_17, h⟩ := h
                      obtain ⟨y102_18, hy_18, h⟩ := h
                      refine gf_X6_7 S.1 hw k_17 hy_18 dX6_valueOf_102 ?_
                      refine lv_iconst (v := 4) hx hb dX6_valueOf_105 (by decide) ?_
                      obtain ⟨k_19, h⟩ := h
                      obtain ⟨i_106, h⟩ := h
                      refine wo_iald S.1 hw k_19 i_106 dX6_valueOf_106 ?_
                      exact we_i S hw h dX6_valueOf_107
                    · have h := h.2 q_1_9
                      by_cases q_1_10 : v1 = 10
                      · have h := h.1 q_1_10
                        refine lv_tableIn (tgt := 131) hx hb dX6_valueOf_1 (by rw [q_1_10]; decide) (by rw [q_1_10]; decide) (by rw [q_1_10]; rfl) (by decide) ?_
                        refine lv_aload_n hx hb dX6_valueOf_131 rfl (lv_at hl 0 rfl) ?_
                        refine lv_iload_n hx hb dX6_valueOf_132 rfl (lv_at hl 1 rfl) ?_
                        obtain ⟨k_20, h⟩ := h
                        refine cv_i (As := [.int v1]) (rest := []) S.1 hw (k_X6_sum l E Z M a0 v1 _ h) wv_X6_179 yc_X6_sum ⟨rfl, rfl⟩ ⟨Nat.le_of_ble_eq_true rfl, Nat.le_of_ble_eq_true rfl⟩ rfl hl.1 (Nat.le_of_ble_eq_true rfl) (ci := 6) (q := (RX6, TX6, 12)) rfl rfl (by rw [k_20]; decide) (cell_6 k_20) ⟨Nat.le_of_ble_eq_true rfl, Nat.le_of_ble_eq_true rfl⟩ dX6_valueOf_133 (fun r133 M133 H locs h hw => ?_)
                        exact we_i S hw h dX6_valueOf_136
                      · have h := h.2 q_1_10
                        by_cases q_1_11 : v1 = 11
                        · have h := h.1 q_1_11
                          refine lv_tableIn (tgt := 108) hx hb dX6_valueOf_1 (by rw [q_1_11]; decide) (by rw [q_1_11]; decide) (by rw [q_1_11]; rfl) (by decide) ?_
                          refine lv_aload_n hx hb dX6_valueOf_108 rfl (lv_at hl 0 rfl) ?_
                          obtain ⟨k_21, h⟩ := h
                          obtain ⟨y109_22, hy_22, h⟩ := h
                          refine gf_X6_7 S.1 hw k_21 hy_22 dX6_valueOf_109 ?_
                          refine lv_iconst (v := 5) hx hb dX6_valueOf_112 (by decide) ?_
                          obtain ⟨k_23, h⟩ := h
                          obtain ⟨i_113, h⟩ := h
                          refine wo_iald S.1 hw k_23 i_113 dX6_valueOf_113 ?_
                          exact we_i S hw h dX6_valueOf_114
                        · have h := h.2 q_1_11
                          by_cases q_1_12 : v1 = 12
                          · have h := h.1 q_1_12
                            refine lv_tableIn (tgt := 115) hx hb dX6_valueOf_1 (by rw [q_1_12]; decide) (by rw [q_1_12]; decide) (by rw [q_1_12]; rfl) (by decide) ?_
                            refine lv_aload_n hx hb dX6_valueOf_115 rfl (lv_at hl 0 rfl) ?_
                            obtain ⟨k_24, h⟩ := h
                            obtain ⟨y116_25, hy_25, h⟩ := h
                            refine gf_X6_7 S.1 hw k_24 hy_25 dX6_valueOf_116 ?_
                            refine lv_bipush (v := 6) hx hb dX6_valueOf_119 (by decide) ?_
                            obtain ⟨k_26, h⟩ := h
                            obtain ⟨i_121, h⟩ := h
                            refine wo_iald S.1 hw k_26 i_121 dX6_valueOf_121 ?_
                            exact we_i S hw h dX6_valueOf_122
                          · have h := h.2 q_1_12
                            by_cases q_1_13 : v1 = 13
                            · have h := h.1 q_1_13
                              refine lv_tableIn (tgt := 123) hx hb dX6_valueOf_1 (by rw [q_1_13]; decide) (by rw [q_1_13]; decide) (by rw [q_1_13]; rfl) (by decide) ?_
                              refine lv_aload_n hx hb dX6_valueOf_123 rfl (lv_at hl 0 rfl) ?_
                              obtain ⟨k_27, h⟩ := h
                              obtain ⟨y124_28, hy_28, h⟩ := h
                              refine gf_X6_7 S.1 hw k_27 hy_28 dX6_valueOf_124 ?_
                              refine lv_bipush (v := 7) hx hb dX6_valueOf_127 (by decide) ?_
                              obtain ⟨k_29, h⟩ := h
                              obtain ⟨i_129, h⟩ := h
                              refine wo_iald S.1 hw k_29 i_129 dX6_valueOf_129 ?_
                              exact we_i S hw h dX6_valueOf_130
                            · have h := h.2 q_1_13
                              have t_0 := lv_neT q_1_0 (a := 0) rfl
                              have t_1 := lv_neT q_1_1 (a := 1) rfl
                              have t_2 := lv_neT q_1_2 (a := 2) rfl
                              have t_3 := lv_neT q_1_3 (a := 3) rfl
                              have t_4 := lv_neT q_1_4 (a := 4) rfl
                              have t_5 := lv_neT q_1_5 (a := 5) rfl
                              have t_6 := lv_neT q_1_6 (a := 6) rfl
                              have t_7 := lv_neT q_1_7 (a := 7) rfl
                              have t_8 := lv_neT q_1_8 (a := 8) rfl
                              have t_9 := lv_neT q_1_9 (a := 9) rfl
                              have t_10 := lv_neT q_1_10 (a := 10) rfl
                              have t_11 := lv_neT q_1_11 (a := 11) rfl
                              have t_12 := lv_neT q_1_12 (a := 12) rfl
                              have t_13 := lv_neT q_1_13 (a := 13) rfl
                              refine lv_tableOut (tgt := 131) hx hb dX6_valueOf_1 (by omega) (by decide) ?_
                              refine lv_aload_n hx hb dX6_valueOf_131 rfl (lv_at hl 0 rfl) ?_
                              refine lv_iload_n hx hb dX6_valueOf_132 rfl (lv_at hl 1 rfl) ?_
                              obtain ⟨k_30, h⟩ := h
                              refine cv_i (As := [.int v1]) (rest := []) S.1 hw (k_X6_sum l E Z M a0 v1 _ h) wv_X6_179 yc_X6_sum ⟨rfl, rfl⟩ ⟨Nat.le_of_ble_eq_true rfl, Nat.le_of_ble_eq_true rfl⟩ rfl hl.1 (Nat.le_of_ble_eq_true rfl) (ci := 6) (q := (RX6, TX6, 12)) rfl rfl (by rw [k_30]; decide) (cell_6 k_30) ⟨Nat.le_of_ble_eq_true rfl, Nat.le_of_ble_eq_true rfl⟩ dX6_valueOf_133 (fun r133 M133 H locs h hw => ?_)
                              exact we_i S hw h dX6_valueOf_136
set_option maxRecDepth 100000 in
set_option maxHeartbeats 4000000 in
theorem k_X6_valueOf (l : Launch) (E : EE) (Z : ZZ) (M : MM) (a0 : Nat) (v1 : Int32) (Q : Int32 → MM → Prop) (h : P_X6_valueOf Z M a0 v1 Q) : Ct_i l yX6_valueOf cX6_valueOf 2 (some .int) rm_X6_valueOf E Z M [.ref a0, .int v1] Q := by
  refine Met.ofW (cc := cX6_valueOf) (maxL := 2) (ret := some .int) (by decide) rfl ?_
  intro p e s m args below meth c s₁ B hml hv
  obtain ⟨rfl, hK, hP, hD, hZ⟩ := hv
  have S : Cx p m c meth cX6_valueOf 2 s _ RX6 (some .int) := ⟨⟨B.exec, B.bytes, hml, findClass_of_methodNamed B.named, fun w hw => atoms_spec (ws := ws_ yX6_valueOf cX6_valueOf 2 (some .int)) B.pre w (List.mem_cons_of_mem _ hw)⟩, B.returns, B.notSynchronized⟩
  have hl := lv_entry ([.ref a0, .int v1]) (n := 2) (Nat.le_of_ble_eq_true rfl)
  rw [lg_entry_eq]
  generalize (lg_sl ([.ref a0, .int v1]) ++ List.replicate (2 - (lg_sl ([.ref a0, .int v1])).length) Slot.unset).toArray = ls at hl ⊢
  exact (wB_X6_valueOf_0 S  M a0 v1 h) s.heap [] ls ⟨hK, hP, hD, va_S.rf, hZ⟩ hl
set_option maxRecDepth 100000 in
set_option maxHeartbeats 4000000 in
theorem wB_X6_value_0 (S : Cx p m c meth cX6_value 2 s args RX6 (some .int)) {Q : Int32 → MM → Prop}   (M : MM) (a0 : Nat) (v1 : Int32) (h : B_X6_value_0 Z Q  M a0 v1) : WG p l e rm_X6_value s m args below meth c 0 0 (MQi below E Z args s Q) E Z M 0 2 [(0, .ref a0), (1, .int v1)] [] := by
  intro H locs ls hw hl
  have hx := S.1.1
  have hb := S.1.2.1
  have hown := S.1.2.2.2.1
  have hts := S.1.2.2.2.2
  refine lv_iload_n hx hb dX6_value_0 rfl (lv_at hl 1 rfl) ?_
  refine lv_i2l (v := v1.toInt64) hx hb dX6_value_1 rfl ?_
  refine lv_lconst (v := 0) hx hb dX6_value_2 (by decide) ?_
  refine lv_ldc2 (v := 13) hx hb hown (hts _ wq_X6_182) dX6_value_3 ?_
  refine cs_i (As := [.long v1.toInt64, .long 0, .long 13]) (rest := []) S.1 hw (k_X6_in l E Z M v1.toInt64 0 13 _ h) wv_X6_49 yc_X6_in ⟨rfl, rfl⟩ ⟨Nat.le_of_ble_eq_true rfl, Nat.le_of_ble_eq_true rfl⟩ rfl hl.1 (Nat.le_of_ble_eq_true rfl) ⟨Nat.le_of_ble_eq_true rfl, Nat.le_of_ble_eq_true rfl⟩ dX6_value_6 (fun r6 M6 H locs h hw => ?_)
  refine lv_if_eq (tgt := 24) hx hb dX6_value_9 (by decide) (fun q_9 => ?_) (fun q_9 => ?_)
  · have h := h.1 q_9
    refine lv_aload_n hx hb dX6_value_24 rfl (lv_at hl 0 rfl) ?_
    refine lv_iconst (v := 1) hx hb dX6_value_25 (by decide) ?_
    obtain ⟨k_0, h⟩ := h
    refine cv_i (As := [.int 1]) (rest := []) S.1 hw (k_X6_throwing l E Z M6 a0 1 _ h) wv_X6_59 yc_X6_throwing ⟨rfl, rfl⟩ ⟨Nat.le_of_ble_eq_true rfl, Nat.le_of_ble_eq_true rfl⟩ rfl hl.1 (Nat.le_of_ble_eq_true rfl) (ci := 6) (q := (RX6, TX6, 12)) rfl rfl (by rw [k_0]; decide) (cell_6 k_0) ⟨Nat.le_of_ble_eq_true rfl, Nat.le_of_ble_eq_true rfl⟩ dX6_value_26 (fun r26 M26 H locs h hw => ?_)
    exact we_i S hw h dX6_value_29
  · have h := h.2 q_9
    refine lv_aload_n hx hb dX6_value_12 rfl (lv_at hl 0 rfl) ?_
    refine lv_aload_n hx hb dX6_value_13 rfl (lv_at hl 0 rfl) ?_
    refine lv_iload_n hx hb dX6_value_14 rfl (lv_at hl 1 rfl) ?_
    obtain ⟨k_1, h⟩ := h
    refine cv_i (As := [.int v1]) (rest := [.ref a0]) S.1 hw (k_X6_valueOf l E Z M6 a0 v1 _ h) wv_X6_184 yc_X6_valueOf ⟨rfl, rfl⟩ ⟨Nat.le_of_ble_eq_true rfl, Nat.le_of_ble_eq_true rfl⟩ rfl hl.1 (Nat.le_of_ble_eq_true rfl) (ci := 6) (q := (RX6, TX6, 12)) rfl rfl (by rw [k_1]; decide) (cell_6 k_1) ⟨Nat.le_of_ble_eq_true rfl, Nat.le_of_ble_eq_true rfl⟩ dX6_value_15 (fun r15 M15 H locs h hw => ?_)
    refine cv_i (As := [.int r15]) (rest := []) S.1 hw (k_X6_fine l E Z M15 a0 r15 _ h) wv_X6_66 yc_X6_fine ⟨rfl, rfl⟩ ⟨Nat.le_of_ble_eq_true rfl, Nat.le_of_ble_eq_true rfl⟩ rfl hl.1 (Nat.le_of_ble_eq_true rfl) (ci := 6) (q := (RX6, TX6, 12)) rfl rfl (by rw [k_1]; decide) (cell_6 k_1) ⟨Nat.le_of_ble_eq_true rfl, Nat.le_of_ble_eq_true rfl⟩ dX6_value_18 (fun r18 M18 H locs h hw => ?_)
    refine lv_goto (tgt := 29) hx hb dX6_value_21 (by decide) ?_
    exact we_i S hw h dX6_value_29
set_option maxRecDepth 100000 in
set_option maxHeartbeats 4000000 in
theorem k_X6_value (l : Launch) (E : EE) (Z : ZZ) (M : MM) (a0 : Nat) (v1 : Int32) (Q : Int32 → MM → Prop) (h : P_X6_value Z M a0 v1 Q) : Ct_i l yX6_value cX6_value 2 (some .int) rm_X6_value E Z M [.ref a0, .int v1] Q := by
  refine Met.ofW (cc := cX6_value) (maxL := 2) (ret := some .int) (by decide) rfl ?_
  intro p e s m args below meth c s₁ B hml hv
  obtain ⟨rfl, hK, hP, hD, hZ⟩ := hv
  have S : Cx p m c meth cX6_value 2 s _ RX6 (some .int) := ⟨⟨B.exec, B.bytes, hml, findClass_of_methodNamed B.named, fun w hw => atoms_spec (ws := ws_ yX6_value cX6_value 2 (some .int)) B.pre w (List.mem_cons_of_mem _ hw)⟩, B.returns, B.notSynchronized⟩
  have hl := lv_entry ([.ref a0, .int v1]) (n := 2) (Nat.le_of_ble_eq_true rfl)
  rw [lg_entry_eq]
  generalize (lg_sl ([.ref a0, .int v1]) ++ List.replicate (2 - (lg_sl ([.ref a0, .int v1])).length) Slot.unset).toArray = ls at hl ⊢
  exact (wB_X6_value_0 S  M a0 v1 h) s.heap [] ls ⟨hK, hP, hD, va_S.rf, hZ⟩ hl
set_option maxRecDepth 100000 in
set_option maxHeartbeats 4000000 in
theorem wB_X6_kept_0 (S : Cx p m c meth cX6_kept 1 s args RX6 (some .int)) {Q : Int32 → MM → Prop}   (M : MM) (a0 : Nat) (h : B_X6_kept_0 Z Q  M a0) : WG p l e rm_X6_kept s m args below meth c 0 0 (MQi below E Z args s Q) E Z M 0 1 [(0, .ref a0)] [] := by
  intro H locs ls hw hl
  have hx := S.1.1
  have hb := S.1.2.1
  refine lv_aload_n hx hb dX6_kept_0 rfl (lv_at hl 0 rfl) ?_
  obtain ⟨k_0, h⟩ := h
  obtain ⟨y1_1, hy_1, h⟩ := h
  refine gf_X6_7 S.1 hw k_0 hy_1 dX6_kept_1 ?_
  refine lv_bipush (v := 7) hx hb dX6_kept_4 (by decide) ?_
  obtain ⟨k_2, h⟩ := h
  obtain ⟨i_6, h⟩ := h
  refine wo_iald S.1 hw k_2 i_6 dX6_kept_6 ?_
  refine lv_bipush (v := 40) hx hb dX6_kept_7 (by decide) ?_
  refine lv_icmp_ge (tgt := 22) hx hb dX6_kept_9 (by decide) (fun q_9 => ?_) (fun q_9 => ?_)
  · have h := h.1 q_9
    refine lv_bipush (v := 40) hx hb dX6_kept_22 (by decide) ?_
    exact we_i S hw h dX6_kept_24
  · have h := h.2 q_9
    refine lv_aload_n hx hb dX6_kept_12 rfl (lv_at hl 0 rfl) ?_
    refine gf_X6_7 S.1 hw k_0 hy_1 dX6_kept_13 ?_
    refine lv_bipush (v := 7) hx hb dX6_kept_16 (by decide) ?_
    obtain ⟨i_18, h⟩ := h
    refine wo_iald S.1 hw k_2 i_18 dX6_kept_18 ?_
    refine lv_goto (tgt := 24) hx hb dX6_kept_19 (by decide) ?_
    exact we_i S hw h dX6_kept_24
set_option maxRecDepth 100000 in
set_option maxHeartbeats 4000000 in
theorem k_X6_kept (l : Launch) (E : EE) (Z : ZZ) (M : MM) (a0 : Nat) (Q : Int32 → MM → Prop) (h : P_X6_kept Z M a0 Q) : Ct_i l yX6_kept cX6_kept 1 (some .int) rm_X6_kept E Z M [.ref a0] Q := by
  refine Met.ofW (cc := cX6_kept) (maxL := 1) (ret := some .int) (by decide) rfl ?_
  intro p e s m args below meth c s₁ B hml hv
  obtain ⟨rfl, hK, hP, hD, hZ⟩ := hv
  have S : Cx p m c meth cX6_kept 1 s _ RX6 (some .int) := ⟨⟨B.exec, B.bytes, hml, findClass_of_methodNamed B.named, fun w hw => atoms_spec (ws := ws_ yX6_kept cX6_kept 1 (some .int)) B.pre w (List.mem_cons_of_mem _ hw)⟩, B.returns, B.notSynchronized⟩
  have hl := lv_entry ([.ref a0]) (n := 1) (Nat.le_of_ble_eq_true rfl)
  rw [lg_entry_eq]
  generalize (lg_sl ([.ref a0]) ++ List.replicate (1 - (lg_sl ([.ref a0])).length) Slot.unset).toArray = ls at hl ⊢
  exact (wB_X6_kept_0 S  M a0 h) s.heap [] ls ⟨hK, hP, hD, va_S.rf, hZ⟩ hl
set_option maxRecDepth 100000 in
set_option maxHeartbeats 4000000 in
theorem wB_X6_taken_0 (S : Cx p m c meth cX6_taken 3 s args RX6 (some .int)) {Q : Int32 → MM → Prop}   (M : MM) (a0 : Nat) (v1 : Int32) (v2 : Int32) (h : B_X6_taken_0 Z Q  M a0 v1 v2) : WG p l e rm_X6_taken s m args below meth c 0 0 (MQi below E Z args s Q) E Z M 0 3 [(0, .ref a0), (1, .int v1), (2, .int v2)] [] := by
  intro H locs ls hw hl
  have hx := S.1.1
  have hb := S.1.2.1
  have hown := S.1.2.2.2.1
  have hts := S.1.2.2.2.2
  refine lv_iload_n hx hb dX6_taken_0 rfl (lv_at hl 1 rfl) ?_
  refine lv_i2l (v := v1.toInt64) hx hb dX6_taken_1 rfl ?_
  refine lv_lconst (v := 0) hx hb dX6_taken_2 (by decide) ?_
  refine lv_aload_n hx hb dX6_taken_3 rfl (lv_at hl 0 rfl) ?_
  obtain ⟨k_0, h⟩ := h
  refine cv_i (As := []) (rest := [.long 0, .long v1.toInt64]) S.1 hw (k_X6_kept l E Z M a0  _ h) wv_X6_187 yc_X6_kept ⟨rfl, rfl⟩ ⟨Nat.le_of_ble_eq_true rfl, Nat.le_of_ble_eq_true rfl⟩ rfl hl.1 (Nat.le_of_ble_eq_true rfl) (ci := 6) (q := (RX6, TX6, 12)) rfl rfl (by rw [k_0]; decide) (cell_6 k_0) ⟨Nat.le_of_ble_eq_true rfl, Nat.le_of_ble_eq_true rfl⟩ dX6_taken_4 (fun r4 M4 H locs h hw => ?_)
  refine lv_i2l (v := r4.toInt64) hx hb dX6_taken_7 rfl ?_
  refine lv_lconst (v := 1) hx hb dX6_taken_8 (by decide) ?_
  refine lv_lsub hx hb dX6_taken_9 ?_
  refine cs_i (As := [.long v1.toInt64, .long 0, .long (r4.toInt64 - 1)]) (rest := []) S.1 hw (k_X6_in l E Z M4 v1.toInt64 0 (r4.toInt64 - 1) _ h) wv_X6_49 yc_X6_in ⟨rfl, rfl⟩ ⟨Nat.le_of_ble_eq_true rfl, Nat.le_of_ble_eq_true rfl⟩ rfl hl.1 (Nat.le_of_ble_eq_true rfl) ⟨Nat.le_of_ble_eq_true rfl, Nat.le_of_ble_eq_true rfl⟩ dX6_taken_10 (fun r10 M10 H locs h hw => ?_)
  refine lv_if_ne (tgt := 22) hx hb dX6_taken_13 (by decide) (fun q_13 => ?_) (fun q_13 => ?_)
  · have h := h.1 q_13
    refine lv_iload_n hx hb dX6_taken_22 rfl (lv_at hl 2 rfl) ?_
    refine lv_i2l (v := v2.toInt64) hx hb dX6_taken_23 rfl ?_
    refine lv_lconst (v := 0) hx hb dX6_taken_24 (by decide) ?_
    refine lv_ldc2 (v := 2) hx hb hown (hts _ wq_X6_53) dX6_taken_25 ?_
    refine cs_i (As := [.long v2.toInt64, .long 0, .long 2]) (rest := []) S.1 hw (k_X6_in l E Z M10 v2.toInt64 0 2 _ h) wv_X6_49 yc_X6_in ⟨rfl, rfl⟩ ⟨Nat.le_of_ble_eq_true rfl, Nat.le_of_ble_eq_true rfl⟩ rfl hl.1 (Nat.le_of_ble_eq_true rfl) ⟨Nat.le_of_ble_eq_true rfl, Nat.le_of_ble_eq_true rfl⟩ dX6_taken_28 (fun r28 M28 H locs h hw => ?_)
    refine lv_if_eq (tgt := 54) hx hb dX6_taken_31 (by decide) (fun q_31 => ?_) (fun q_31 => ?_)
    · have h := h.1 q_31
      refine lv_aload_n hx hb dX6_taken_54 rfl (lv_at hl 0 rfl) ?_
      refine lv_iconst (v := 2) hx hb dX6_taken_55 (by decide) ?_
      refine cv_i (As := [.int 2]) (rest := []) S.1 hw (k_X6_throwing l E Z M28 a0 2 _ h) wv_X6_59 yc_X6_throwing ⟨rfl, rfl⟩ ⟨Nat.le_of_ble_eq_true rfl, Nat.le_of_ble_eq_true rfl⟩ rfl hl.1 (Nat.le_of_ble_eq_true rfl) (ci := 6) (q := (RX6, TX6, 12)) rfl rfl (by rw [k_0]; decide) (cell_6 k_0) ⟨Nat.le_of_ble_eq_true rfl, Nat.le_of_ble_eq_true rfl⟩ dX6_taken_56 (fun r56 M56 H locs h hw => ?_)
      exact we_i S hw h dX6_taken_59
    · have h := h.2 q_31
      refine lv_aload_n hx hb dX6_taken_34 rfl (lv_at hl 0 rfl) ?_
      refine lv_aload_n hx hb dX6_taken_35 rfl (lv_at hl 0 rfl) ?_
      obtain ⟨y36_1, hy_1, h⟩ := h
      refine gf_X6_7 S.1 hw k_0 hy_1 dX6_taken_36 ?_
      refine lv_bipush (v := 106) hx hb dX6_taken_39 (by decide) ?_
      refine lv_iconst (v := 3) hx hb dX6_taken_41 (by decide) ?_
      refine lv_iload_n hx hb dX6_taken_42 rfl (lv_at hl 1 rfl) ?_
      refine lv_imul hx hb dX6_taken_43 ?_
      refine lv_iadd hx hb dX6_taken_44 ?_
      refine lv_iload_n hx hb dX6_taken_45 rfl (lv_at hl 2 rfl) ?_
      refine lv_iadd hx hb dX6_taken_46 ?_
      obtain ⟨k_2, h⟩ := h
      obtain ⟨i_47, h⟩ := h
      refine wo_iald S.1 hw k_2 i_47 dX6_taken_47 ?_
      refine cv_i (As := [.int (mA M28 y36_1 ((106 + (3 * v1)) + v2).toNatClampNeg)]) (rest := []) S.1 hw (k_X6_fine l E Z M28 a0 (mA M28 y36_1 ((106 + (3 * v1)) + v2).toNatClampNeg) _ h) wv_X6_66 yc_X6_fine ⟨rfl, rfl⟩ ⟨Nat.le_of_ble_eq_true rfl, Nat.le_of_ble_eq_true rfl⟩ rfl hl.1 (Nat.le_of_ble_eq_true rfl) (ci := 6) (q := (RX6, TX6, 12)) rfl rfl (by rw [k_0]; decide) (cell_6 k_0) ⟨Nat.le_of_ble_eq_true rfl, Nat.le_of_ble_eq_true rfl⟩ dX6_taken_48 (fun r48 M48 H locs h hw => ?_)
      refine lv_goto (tgt := 59) hx hb dX6_taken_51 (by decide) ?_
      exact we_i S hw h dX6_taken_59
  · have h := h.2 q_13
    refine lv_aload_n hx hb dX6_taken_16 rfl (lv_at hl 0 rfl) ?_
    refine lv_iconst (v := 1) hx hb dX6_taken_17 (by decide) ?_
    refine cv_i (As := [.int 1]) (rest := []) S.1 hw (k_X6_throwing l E Z M10 a0 1 _ h) wv_X6_59 yc_X6_throwing ⟨rfl, rfl⟩ ⟨Nat.le_of_ble_eq_true rfl, Nat.le_of_ble_eq_true rfl⟩ rfl hl.1 (Nat.le_of_ble_eq_true rfl) (ci := 6) (q := (RX6, TX6, 12)) rfl rfl (by rw [k_0]; decide) (cell_6 k_0) ⟨Nat.le_of_ble_eq_true rfl, Nat.le_of_ble_eq_true rfl⟩ dX6_taken_18 (fun r18 M18 H locs h hw => ?_)
    exact we_i S hw h dX6_taken_21
set_option maxRecDepth 100000 in
set_option maxHeartbeats 4000000 in
theorem k_X6_taken (l : Launch) (E : EE) (Z : ZZ) (M : MM) (a0 : Nat) (v1 : Int32) (v2 : Int32) (Q : Int32 → MM → Prop) (h : P_X6_taken Z M a0 v1 v2 Q) : Ct_i l yX6_taken cX6_taken 3 (some .int) rm_X6_taken E Z M [.ref a0, .int v1, .int v2] Q := by
  refine Met.ofW (cc := cX6_taken) (maxL := 3) (ret := some .int) (by decide) rfl ?_
  intro p e s m args below meth c s₁ B hml hv
  obtain ⟨rfl, hK, hP, hD, hZ⟩ := hv
  have S : Cx p m c meth cX6_taken 3 s _ RX6 (some .int) := ⟨⟨B.exec, B.bytes, hml, findClass_of_methodNamed B.named, fun w hw => atoms_spec (ws := ws_ yX6_taken cX6_taken 3 (some .int)) B.pre w (List.mem_cons_of_mem _ hw)⟩, B.returns, B.notSynchronized⟩
  have hl := lv_entry ([.ref a0, .int v1, .int v2]) (n := 3) (Nat.le_of_ble_eq_true rfl)
  rw [lg_entry_eq]
  generalize (lg_sl ([.ref a0, .int v1, .int v2]) ++ List.replicate (3 - (lg_sl ([.ref a0, .int v1, .int v2])).length) Slot.unset).toArray = ls at hl ⊢
  exact (wB_X6_taken_0 S  M a0 v1 v2 h) s.heap [] ls ⟨hK, hP, hD, va_S.rf, hZ⟩ hl
set_option maxRecDepth 100000 in
set_option maxHeartbeats 4000000 in
theorem wB_X6_takableNow_0 (S : Cx p m c meth cX6_takableNow 2 s args RX6 (some .int)) {Q : Int32 → MM → Prop}   (M : MM) (a0 : Nat) (h : B_X6_takableNow_0 Z Q  M a0) : WG p l e rm_X6_takableNow s m args below meth c 0 0 (MQi below E Z args s Q) E Z M 0 2 [(0, .ref a0)] [] := by
  intro H locs ls hw hl
  have hx := S.1.1
  have hb := S.1.2.1
  refine lv_aload_n hx hb dX6_takableNow_0 rfl (lv_at hl 0 rfl) ?_
  obtain ⟨k_0, h⟩ := h
  refine cv_v (As := []) (rest := []) S.1 hw (k_X6_laysAside l E Z M a0  _ h) wv_X6_106 yc_X6_laysAside ⟨rfl, rfl⟩ ⟨Nat.le_of_ble_eq_true rfl, Nat.le_of_ble_eq_true rfl⟩ rfl hl.1 (Nat.le_of_ble_eq_true rfl) (ci := 6) (q := (RX6, TX6, 12)) rfl rfl (by rw [k_0]; decide) (cell_6 k_0) ⟨Nat.le_of_ble_eq_true rfl, Nat.le_of_ble_eq_true rfl⟩ dX6_takableNow_1 (fun M1 H locs h hw => ?_)
  refine lv_aload_n hx hb dX6_takableNow_4 rfl (lv_at hl 0 rfl) ?_
  refine cv_i (As := []) (rest := []) S.1 hw (k_X6_takesAll l E Z M1 a0  _ h) wv_X6_155 yc_X6_takesAll ⟨rfl, rfl⟩ ⟨Nat.le_of_ble_eq_true rfl, Nat.le_of_ble_eq_true rfl⟩ rfl hl.1 (Nat.le_of_ble_eq_true rfl) (ci := 6) (q := (RX6, TX6, 12)) rfl rfl (by rw [k_0]; decide) (cell_6 k_0) ⟨Nat.le_of_ble_eq_true rfl, Nat.le_of_ble_eq_true rfl⟩ dX6_takableNow_5 (fun r5 M5 H locs h hw => ?_)
  refine lv_istore_n (lv' := [(1, .int r5), (0, .ref a0)]) hx hb dX6_takableNow_8 rfl hl (by decide) rfl (fun ls hl => ?_)
  refine lv_aload_n hx hb dX6_takableNow_9 rfl (lv_at hl 1 rfl) ?_
  refine cv_v (As := []) (rest := []) S.1 hw (k_X6_takesBack l E Z M5 a0  _ h) wv_X6_109 yc_X6_takesBack ⟨rfl, rfl⟩ ⟨Nat.le_of_ble_eq_true rfl, Nat.le_of_ble_eq_true rfl⟩ rfl hl.1 (Nat.le_of_ble_eq_true rfl) (ci := 6) (q := (RX6, TX6, 12)) rfl rfl (by rw [k_0]; decide) (cell_6 k_0) ⟨Nat.le_of_ble_eq_true rfl, Nat.le_of_ble_eq_true rfl⟩ dX6_takableNow_10 (fun M10 H locs h hw => ?_)
  refine lv_iload_n hx hb dX6_takableNow_13 rfl (lv_at hl 0 rfl) ?_
  exact we_i S hw h dX6_takableNow_14
set_option maxRecDepth 100000 in
set_option maxHeartbeats 4000000 in
theorem k_X6_takableNow (l : Launch) (E : EE) (Z : ZZ) (M : MM) (a0 : Nat) (Q : Int32 → MM → Prop) (h : P_X6_takableNow Z M a0 Q) : Ct_i l yX6_takableNow cX6_takableNow 2 (some .int) rm_X6_takableNow E Z M [.ref a0] Q := by
  refine Met.ofW (cc := cX6_takableNow) (maxL := 2) (ret := some .int) (by decide) rfl ?_
  intro p e s m args below meth c s₁ B hml hv
  obtain ⟨rfl, hK, hP, hD, hZ⟩ := hv
  have S : Cx p m c meth cX6_takableNow 2 s _ RX6 (some .int) := ⟨⟨B.exec, B.bytes, hml, findClass_of_methodNamed B.named, fun w hw => atoms_spec (ws := ws_ yX6_takableNow cX6_takableNow 2 (some .int)) B.pre w (List.mem_cons_of_mem _ hw)⟩, B.returns, B.notSynchronized⟩
  have hl := lv_entry ([.ref a0]) (n := 2) (Nat.le_of_ble_eq_true rfl)
  rw [lg_entry_eq]
  generalize (lg_sl ([.ref a0]) ++ List.replicate (2 - (lg_sl ([.ref a0])).length) Slot.unset).toArray = ls at hl ⊢
  exact (wB_X6_takableNow_0 S  M a0 h) s.heap [] ls ⟨hK, hP, hD, va_S.rf, hZ⟩ hl
set_option maxRecDepth 100000 in
set_option maxHeartbeats 4000000 in
theorem wB_X6_takable_0 (S : Cx p m c meth cX6_takable 1 s args RX6 (some .int)) {Q : Int32 → MM → Prop}   (M : MM) (a0 : Nat) (h : B_X6_takable_0 Z Q  M a0) : WG p l e rm_X6_takable s m args below meth c 0 0 (MQi below E Z args s Q) E Z M 0 1 [(0, .ref a0)] [] := by
  intro H locs ls hw hl
  have hx := S.1.1
  have hb := S.1.2.1
  refine lv_aload_n hx hb dX6_takable_0 rfl (lv_at hl 0 rfl) ?_
  refine lv_aload_n hx hb dX6_takable_1 rfl (lv_at hl 0 rfl) ?_
  obtain ⟨k_0, h⟩ := h
  refine cv_i (As := []) (rest := [.ref a0]) S.1 hw (k_X6_takableNow l E Z M a0  _ h) wv_X6_190 yc_X6_takableNow ⟨rfl, rfl⟩ ⟨Nat.le_of_ble_eq_true rfl, Nat.le_of_ble_eq_true rfl⟩ rfl hl.1 (Nat.le_of_ble_eq_true rfl) (ci := 6) (q := (RX6, TX6, 12)) rfl rfl (by rw [k_0]; decide) (cell_6 k_0) ⟨Nat.le_of_ble_eq_true rfl, Nat.le_of_ble_eq_true rfl⟩ dX6_takable_2 (fun r2 M2 H locs h hw => ?_)
  refine cv_i (As := [.int r2]) (rest := []) S.1 hw (k_X6_fine l E Z M2 a0 r2 _ h) wv_X6_66 yc_X6_fine ⟨rfl, rfl⟩ ⟨Nat.le_of_ble_eq_true rfl, Nat.le_of_ble_eq_true rfl⟩ rfl hl.1 (Nat.le_of_ble_eq_true rfl) (ci := 6) (q := (RX6, TX6, 12)) rfl rfl (by rw [k_0]; decide) (cell_6 k_0) ⟨Nat.le_of_ble_eq_true rfl, Nat.le_of_ble_eq_true rfl⟩ dX6_takable_5 (fun r5 M5 H locs h hw => ?_)
  exact we_i S hw h dX6_takable_8
set_option maxRecDepth 100000 in
set_option maxHeartbeats 4000000 in
theorem k_X6_takable (l : Launch) (E : EE) (Z : ZZ) (M : MM) (a0 : Nat) (Q : Int32 → MM → Prop) (h : P_X6_takable Z M a0 Q) : Ct_i l yX6_takable cX6_takable 1 (some .int) rm_X6_takable E Z M [.ref a0] Q := by
  refine Met.ofW (cc := cX6_takable) (maxL := 1) (ret := some .int) (by decide) rfl ?_
  intro p e s m args below meth c s₁ B hml hv
  obtain ⟨rfl, hK, hP, hD, hZ⟩ := hv
  have S : Cx p m c meth cX6_takable 1 s _ RX6 (some .int) := ⟨⟨B.exec, B.bytes, hml, findClass_of_methodNamed B.named, fun w hw => atoms_spec (ws := ws_ yX6_takable cX6_takable 1 (some .int)) B.pre w (List.mem_cons_of_mem _ hw)⟩, B.returns, B.notSynchronized⟩
  have hl := lv_entry ([.ref a0]) (n := 1) (Nat.le_of_ble_eq_true rfl)
  rw [lg_entry_eq]
  generalize (lg_sl ([.ref a0]) ++ List.replicate (1 - (lg_sl ([.ref a0])).length) Slot.unset).toArray = ls at hl ⊢
  exact (wB_X6_takable_0 S  M a0 h) s.heap [] ls ⟨hK, hP, hD, va_S.rf, hZ⟩ hl
set_option maxRecDepth 100000 in
set_option maxHeartbeats 4000000 in
theorem wB_X6_leftStranded_0 (S : Cx p m c meth cX6_leftStranded 3 s args RX6 (some .int)) {Q : Int32 → MM → Prop}   (M : MM) (a0 : Nat) (h : B_X6_leftStranded_0 Z Q  M a0) : WG p l e rm_X6_leftStranded s m args below meth c 0 0 (MQi below E Z args s Q) E Z M 0 3 [(0, .ref a0)] [] := by
  intro H locs ls hw hl
  have hx := S.1.1
  have hb := S.1.2.1
  refine lv_aload_n hx hb dX6_leftStranded_0 rfl (lv_at hl 0 rfl) ?_
  obtain ⟨k_0, h⟩ := h
  refine cv_v (As := []) (rest := []) S.1 hw (k_X6_laysAside l E Z M a0  _ h) wv_X6_106 yc_X6_laysAside ⟨rfl, rfl⟩ ⟨Nat.le_of_ble_eq_true rfl, Nat.le_of_ble_eq_true rfl⟩ rfl hl.1 (Nat.le_of_ble_eq_true rfl) (ci := 6) (q := (RX6, TX6, 12)) rfl rfl (by rw [k_0]; decide) (cell_6 k_0) ⟨Nat.le_of_ble_eq_true rfl, Nat.le_of_ble_eq_true rfl⟩ dX6_leftStranded_1 (fun M1 H locs h hw => ?_)
  refine lv_aload_n hx hb dX6_leftStranded_4 rfl (lv_at hl 0 rfl) ?_
  refine cv_i (As := []) (rest := []) S.1 hw (k_X6_takesAll l E Z M1 a0  _ h) wv_X6_155 yc_X6_takesAll ⟨rfl, rfl⟩ ⟨Nat.le_of_ble_eq_true rfl, Nat.le_of_ble_eq_true rfl⟩ rfl hl.1 (Nat.le_of_ble_eq_true rfl) (ci := 6) (q := (RX6, TX6, 12)) rfl rfl (by rw [k_0]; decide) (cell_6 k_0) ⟨Nat.le_of_ble_eq_true rfl, Nat.le_of_ble_eq_true rfl⟩ dX6_leftStranded_5 (fun r5 M5 H locs h hw => ?_)
  refine lv_istore_n (lv' := [(1, .int r5), (0, .ref a0)]) hx hb dX6_leftStranded_8 rfl hl (by decide) rfl (fun ls hl => ?_)
  refine lv_aload_n hx hb dX6_leftStranded_9 rfl (lv_at hl 1 rfl) ?_
  refine lv_iconst (v := 1) hx hb dX6_leftStranded_10 (by decide) ?_
  refine cv_i (As := [.int 1]) (rest := []) S.1 hw (k_X6_blocks l E Z M5 a0 1 _ h) wv_X6_176 yc_X6_blocks ⟨rfl, rfl⟩ ⟨Nat.le_of_ble_eq_true rfl, Nat.le_of_ble_eq_true rfl⟩ rfl hl.1 (Nat.le_of_ble_eq_true rfl) (ci := 6) (q := (RX6, TX6, 12)) rfl rfl (by rw [k_0]; decide) (cell_6 k_0) ⟨Nat.le_of_ble_eq_true rfl, Nat.le_of_ble_eq_true rfl⟩ dX6_leftStranded_11 (fun r11 M11 H locs h hw => ?_)
  refine lv_istore_n (lv' := [(2, .int r11), (1, .int r5), (0, .ref a0)]) hx hb dX6_leftStranded_14 rfl hl (by decide) rfl (fun ls hl => ?_)
  refine lv_aload_n hx hb dX6_leftStranded_15 rfl (lv_at hl 2 rfl) ?_
  refine cv_v (As := []) (rest := []) S.1 hw (k_X6_takesBack l E Z M11 a0  _ h) wv_X6_109 yc_X6_takesBack ⟨rfl, rfl⟩ ⟨Nat.le_of_ble_eq_true rfl, Nat.le_of_ble_eq_true rfl⟩ rfl hl.1 (Nat.le_of_ble_eq_true rfl) (ci := 6) (q := (RX6, TX6, 12)) rfl rfl (by rw [k_0]; decide) (cell_6 k_0) ⟨Nat.le_of_ble_eq_true rfl, Nat.le_of_ble_eq_true rfl⟩ dX6_leftStranded_16 (fun M16 H locs h hw => ?_)
  refine lv_aload_n hx hb dX6_leftStranded_19 rfl (lv_at hl 2 rfl) ?_
  refine lv_iload_n hx hb dX6_leftStranded_20 rfl (lv_at hl 0 rfl) ?_
  refine cv_i (As := [.int r11]) (rest := []) S.1 hw (k_X6_fine l E Z M16 a0 r11 _ h) wv_X6_66 yc_X6_fine ⟨rfl, rfl⟩ ⟨Nat.le_of_ble_eq_true rfl, Nat.le_of_ble_eq_true rfl⟩ rfl hl.1 (Nat.le_of_ble_eq_true rfl) (ci := 6) (q := (RX6, TX6, 12)) rfl rfl (by rw [k_0]; decide) (cell_6 k_0) ⟨Nat.le_of_ble_eq_true rfl, Nat.le_of_ble_eq_true rfl⟩ dX6_leftStranded_21 (fun r21 M21 H locs h hw => ?_)
  exact we_i S hw h dX6_leftStranded_24
set_option maxRecDepth 100000 in
set_option maxHeartbeats 4000000 in
theorem k_X6_leftStranded (l : Launch) (E : EE) (Z : ZZ) (M : MM) (a0 : Nat) (Q : Int32 → MM → Prop) (h : P_X6_leftStranded Z M a0 Q) : Ct_i l yX6_leftStranded cX6_leftStranded 3 (some .int) rm_X6_leftStranded E Z M [.ref a0] Q := by
  refine Met.ofW (cc := cX6_leftStranded) (maxL := 3) (ret := some .int) (by decide) rfl ?_
  intro p e s m args below meth c s₁ B hml hv
  obtain ⟨rfl, hK, hP, hD, hZ⟩ := hv
  have S : Cx p m c meth cX6_leftStranded 3 s _ RX6 (some .int) := ⟨⟨B.exec, B.bytes, hml, findClass_of_methodNamed B.named, fun w hw => atoms_spec (ws := ws_ yX6_leftStranded cX6_leftStranded 3 (some .int)) B.pre w (List.mem_cons_of_mem _ hw)⟩, B.returns, B.notSynchronized⟩
  have hl := lv_entry ([.ref a0]) (n := 3) (Nat.le_of_ble_eq_true rfl)
  rw [lg_entry_eq]
  generalize (lg_sl ([.ref a0]) ++ List.replicate (3 - (lg_sl ([.ref a0])).length) Slot.unset).toArray = ls at hl ⊢
  exact (wB_X6_leftStranded_0 S  M a0 h) s.heap [] ls ⟨hK, hP, hD, va_S.rf, hZ⟩ hl
set_option maxRecDepth 100000 in
set_option maxHeartbeats 4000000 in
theorem wB_X6_isWhole_34 (S : Cx p m c meth cX6_isWhole 4 s args RX6 (some .boolean)) {Q : Int32 → MM → Prop} {K39 : MM → Nat → Int32 → Int32 → Int32 → Prop} (hK39 : ∀ (M : MM) (a0 : Nat) (v1 : Int32) (v3 : Int32) (t0 : Int32), K39 M a0 v1 v3 t0 → WG p l e rm_X6_isWhole s m args below meth c 0 0 (MQi below E Z args s Q) E Z M 39 4 [(0, .ref a0), (1, .int v1), (3, .int v3)] [.int t0]) (M : MM) (a0 : Nat) (v1 : Int32) (v3 : Int32) (h : B_X6_isWhole_34 Z Q K39 M a0 v1 v3) : WG p l e rm_X6_isWhole s m args below meth c 0 0 (MQi below E Z args s Q) E Z M 34 4 [(0, .ref a0), (1, .int v1), (3, .int v3)] [] := by
  intro H locs ls hw hl
  have hx := S.1.1
  have hb := S.1.2.1
  refine lv_iconst (v := 1) hx hb dX6_isWhole_34 (by decide) ?_
  refine lv_goto (tgt := 39) hx hb dX6_isWhole_35 (by decide) ?_
  exact (hK39 _ _ _ _ _ h) H locs ls hw (lv_sub hl [0, 1, 2] rfl)
set_option maxRecDepth 100000 in
set_option maxHeartbeats 4000000 in
theorem wB_X6_isWhole_38 (S : Cx p m c meth cX6_isWhole 4 s args RX6 (some .boolean)) {Q : Int32 → MM → Prop} {K39 : MM → Nat → Int32 → Int32 → Int32 → Prop} (hK39 : ∀ (M : MM) (a0 : Nat) (v1 : Int32) (v3 : Int32) (t0 : Int32), K39 M a0 v1 v3 t0 → WG p l e rm_X6_isWhole s m args below meth c 0 0 (MQi below E Z args s Q) E Z M 39 4 [(0, .ref a0), (1, .int v1), (3, .int v3)] [.int t0]) (M : MM) (a0 : Nat) (v1 : Int32) (v3 : Int32) (h : B_X6_isWhole_38 Z Q K39 M a0 v1 v3) : WG p l e rm_X6_isWhole s m args below meth c 0 0 (MQi below E Z args s Q) E Z M 38 4 [(0, .ref a0), (1, .int v1), (3, .int v3)] [] := by
  intro H locs ls hw hl
  have hx := S.1.1
  have hb := S.1.2.1
  refine lv_iconst (v := 0) hx hb dX6_isWhole_38 (by decide) ?_
  exact (hK39 _ _ _ _ _ h) H locs ls hw (lv_sub hl [0, 1, 2] rfl)
set_option maxRecDepth 100000 in
set_option maxHeartbeats 4000000 in
theorem wB_X6_isWhole_39 (S : Cx p m c meth cX6_isWhole 4 s args RX6 (some .boolean)) {Q : Int32 → MM → Prop} {K4 : MM → Nat → Int32 → Int32 → Int32 → Prop} (hK4 : ∀ (M : MM) (a0 : Nat) (v1 : Int32) (v2 : Int32) (v3 : Int32), K4 M a0 v1 v2 v3 → WG p l e rm_X6_isWhole s m args below meth c 0 0 (MQi below E Z args s Q) E Z M 4 4 [(0, .ref a0), (1, .int v1), (2, .int v2), (3, .int v3)] []) (M : MM) (a0 : Nat) (v1 : Int32) (v3 : Int32) (t0 : Int32) (h : B_X6_isWhole_39 Z Q K4 M a0 v1 v3 t0) : WG p l e rm_X6_isWhole s m args below meth c 0 0 (MQi below E Z args s Q) E Z M 39 4 [(0, .ref a0), (1, .int v1), (3, .int v3)] [.int t0] := by
  intro H locs ls hw hl
  have hx := S.1.1
  have hb := S.1.2.1
  refine lv_istore_n (lv' := [(2, .int t0), (0, .ref a0), (1, .int v1), (3, .int v3)]) hx hb dX6_isWhole_39 rfl hl (by decide) rfl (fun ls hl => ?_)
  refine lv_iinc (v := (v3 + 1)) (lv' := [(3, .int (v3 + 1)), (2, .int t0), (0, .ref a0), (1, .int v1)]) hx hb dX6_isWhole_40 hl (k := 3) rfl rfl (by decide) rfl (fun ls hl => ?_)
  refine lv_goto (tgt := 4) hx hb dX6_isWhole_43 (by decide) ?_
  exact (hK4 _ _ _ _ _ h) H locs ls hw (lv_sub hl [2, 3, 1, 0] rfl)
set_option maxRecDepth 100000 in
set_option maxHeartbeats 4000000 in
theorem wB_X6_isWhole_4 (S : Cx p m c meth cX6_isWhole 4 s args RX6 (some .boolean)) {Q : Int32 → MM → Prop} {K4 : MM → Nat → Int32 → Int32 → Int32 → Prop} (hK4 : ∀ (M : MM) (a0 : Nat) (v1 : Int32) (v2 : Int32) (v3 : Int32), K4 M a0 v1 v2 v3 → WG p l e rm_X6_isWhole s m args below meth c 0 0 (MQi below E Z args s Q) E Z M 4 4 [(0, .ref a0), (1, .int v1), (2, .int v2), (3, .int v3)] []) (M : MM) (a0 : Nat) (v1 : Int32) (v2 : Int32) (v3 : Int32) (h : B_X6_isWhole_4 Z Q K4 M a0 v1 v2 v3) : WG p l e rm_X6_isWhole s m args below meth c 0 0 (MQi below E Z args s Q) E Z M 4 4 [(0, .ref a0), (1, .int v1), (2, .int v2), (3, .int v3)] [] := by
  intro H locs ls hw hl
  have hx := S.1.1
  have hb := S.1.2.1
  refine lv_iload_n hx hb dX6_isWhole_4 rfl (lv_at hl 3 rfl) ?_
  refine lv_aload_n hx hb dX6_isWhole_5 rfl (lv_at hl 0 rfl) ?_
  obtain ⟨k_0, h⟩ := h
  refine cv_i (As := []) (rest := [.int v3]) S.1 hw (k_X6_cells l E Z M a0  _ h) wv_X6_45 yc_X6_cells ⟨rfl, rfl⟩ ⟨Nat.le_of_ble_eq_true rfl, Nat.le_of_ble_eq_true rfl⟩ rfl hl.1 (Nat.le_of_ble_eq_true rfl) (ci := 6) (q := (RX6, TX6, 12)) rfl rfl (by rw [k_0]; decide) (cell_6 k_0) ⟨Nat.le_of_ble_eq_true rfl, Nat.le_of_ble_eq_true rfl⟩ dX6_isWhole_6 (fun r6 M6 H locs h hw => ?_)
  refine lv_icmp_ge (tgt := 46) hx hb dX6_isWhole_9 (by decide) (fun q_9 => ?_) (fun q_9 => ?_)
  · have h := h.1 q_9
    refine lv_iload_n hx hb dX6_isWhole_46 rfl (lv_at hl 2 rfl) ?_
    obtain ⟨zz, h⟩ := h
    exact we_b S hw zz h dX6_isWhole_47
  · have h := h.2 q_9
    refine lv_iload_n hx hb dX6_isWhole_12 rfl (lv_at hl 2 rfl) ?_
    refine lv_if_eq (tgt := 38) hx hb dX6_isWhole_13 (by decide) (fun q_13 => ?_) (fun q_13 => ?_)
    · have h := h.1 q_13
      exact ((wB_X6_isWhole_38 S  (fun M1 a0 v1 v3 t0 h => (wB_X6_isWhole_39 S  hK4 _ _ _ _ _ h)) _ _ _ _ h)) H locs ls hw (lv_sub hl [0, 1, 3] rfl)
    · have h := h.2 q_13
      refine lv_aload_n hx hb dX6_isWhole_16 rfl (lv_at hl 0 rfl) ?_
      obtain ⟨y17_1, hy_1, h⟩ := h
      refine gf_X6_19 S.1 hw k_0 hy_1 dX6_isWhole_17 ?_
      refine lv_iload_n hx hb dX6_isWhole_20 rfl (lv_at hl 3 rfl) ?_
      obtain ⟨k_2, h⟩ := h
      obtain ⟨i_21, h⟩ := h
      refine wo_iald S.1 hw k_2 i_21 dX6_isWhole_21 ?_
      refine lv_iload_n hx hb dX6_isWhole_22 rfl (lv_at hl 1 rfl) ?_
      refine lv_icmp_ne (tgt := 34) hx hb dX6_isWhole_23 (by decide) (fun q_23 => ?_) (fun q_23 => ?_)
      · have h := h.1 q_23
        exact ((wB_X6_isWhole_34 S  (fun M1 a0 v1 v3 t0 h => (wB_X6_isWhole_39 S  hK4 _ _ _ _ _ h)) _ _ _ _ h)) H locs ls hw (lv_sub hl [0, 1, 3] rfl)
      · have h := h.2 q_23
        refine lv_aload_n hx hb dX6_isWhole_26 rfl (lv_at hl 0 rfl) ?_
        refine lv_iload_n hx hb dX6_isWhole_27 rfl (lv_at hl 3 rfl) ?_
        refine cv_i (As := [.int v3]) (rest := []) S.1 hw (k_X6_isIce l E Z M6 a0 v3 _ h) wv_X6_112 yc_X6_isIce ⟨rfl, rfl⟩ ⟨Nat.le_of_ble_eq_true rfl, Nat.le_of_ble_eq_true rfl⟩ rfl hl.1 (Nat.le_of_ble_eq_true rfl) (ci := 6) (q := (RX6, TX6, 12)) rfl rfl (by rw [k_0]; decide) (cell_6 k_0) ⟨Nat.le_of_ble_eq_true rfl, Nat.le_of_ble_eq_true rfl⟩ dX6_isWhole_28 (fun r28 M28 H locs h hw => ?_)
        refine lv_if_eq (tgt := 38) hx hb dX6_isWhole_31 (by decide) (fun q_31 => ?_) (fun q_31 => ?_)
        · have h := h.1 q_31
          exact ((wB_X6_isWhole_38 S  (fun M1 a0 v1 v3 t0 h => (wB_X6_isWhole_39 S  hK4 _ _ _ _ _ h)) _ _ _ _ h)) H locs ls hw (lv_sub hl [0, 1, 3] rfl)
        · have h := h.2 q_31
          exact ((wB_X6_isWhole_34 S  (fun M1 a0 v1 v3 t0 h => (wB_X6_isWhole_39 S  hK4 _ _ _ _ _ h)) _ _ _ _ h)) H locs ls hw (lv_sub hl [0, 1, 3] rfl)
theorem wL_X6_isWhole_4 (S : Cx p m c meth cX6_isWhole 4 s args RX6 (some .boolean)) {Q : Int32 → MM → Prop}   : ∀ (n : Nat) (M : MM) (a0 : Nat) (v1 : Int32) (v2 : Int32) (v3 : Int32), L_X6_isWhole_4 Z Q   n M a0 v1 v2 v3 → WG p l e rm_X6_isWhole s m args below meth c 0 0 (MQi below E Z args s Q) E Z M 4 4 [(0, .ref a0), (1, .int v1), (2, .int v2), (3, .int v3)] []
  | 0, _, _, _, _, _, h => False.elim h
  | n + 1, M, a0, v1, v2, v3, h => wB_X6_isWhole_4 S  (wL_X6_isWhole_4 S   n) M a0 v1 v2 v3 h
set_option maxRecDepth 100000 in
set_option maxHeartbeats 4000000 in
theorem wB_X6_isWhole_0 (S : Cx p m c meth cX6_isWhole 4 s args RX6 (some .boolean)) {Q : Int32 → MM → Prop}   (M : MM) (a0 : Nat) (v1 : Int32) (h : B_X6_isWhole_0 Z Q  M a0 v1) : WG p l e rm_X6_isWhole s m args below meth c 0 0 (MQi below E Z args s Q) E Z M 0 4 [(0, .ref a0), (1, .int v1)] [] := by
  intro H locs ls hw hl
  have hx := S.1.1
  have hb := S.1.2.1
  refine lv_iconst (v := 1) hx hb dX6_isWhole_0 (by decide) ?_
  refine lv_istore_n (lv' := [(2, .int 1), (0, .ref a0), (1, .int v1)]) hx hb dX6_isWhole_1 rfl hl (by decide) rfl (fun ls hl => ?_)
  refine lv_iconst (v := 0) hx hb dX6_isWhole_2 (by decide) ?_
  refine lv_istore_n (lv' := [(3, .int 0), (2, .int 1), (0, .ref a0), (1, .int v1)]) hx hb dX6_isWhole_3 rfl hl (by decide) rfl (fun ls hl => ?_)
  exact ((Exists.elim h (fun n h => wL_X6_isWhole_4 S   n _ _ _ _ _ h))) H locs ls hw (lv_sub hl [2, 3, 1, 0] rfl)
set_option maxRecDepth 100000 in
set_option maxHeartbeats 4000000 in
theorem k_X6_isWhole (l : Launch) (E : EE) (Z : ZZ) (M : MM) (a0 : Nat) (v1 : Int32) (Q : Int32 → MM → Prop) (h : P_X6_isWhole Z M a0 v1 Q) : Ct_i l yX6_isWhole cX6_isWhole 4 (some .boolean) rm_X6_isWhole E Z M [.ref a0, .int v1] Q := by
  refine Met.ofW (cc := cX6_isWhole) (maxL := 4) (ret := some .boolean) (by decide) rfl ?_
  intro p e s m args below meth c s₁ B hml hv
  obtain ⟨rfl, hK, hP, hD, hZ⟩ := hv
  have S : Cx p m c meth cX6_isWhole 4 s _ RX6 (some .boolean) := ⟨⟨B.exec, B.bytes, hml, findClass_of_methodNamed B.named, fun w hw => atoms_spec (ws := ws_ yX6_isWhole cX6_isWhole 4 (some .boolean)) B.pre w (List.mem_cons_of_mem _ hw)⟩, B.returns, B.notSynchronized⟩
  have hl := lv_entry ([.ref a0, .int v1]) (n := 4) (Nat.le_of_ble_eq_true rfl)
  rw [lg_entry_eq]
  generalize (lg_sl ([.ref a0, .int v1]) ++ List.replicate (4 - (lg_sl ([.ref a0, .int v1])).length) Slot.unset).toArray = ls at hl ⊢
  exact (wB_X6_isWhole_0 S  M a0 v1 h) s.heap [] ls ⟨hK, hP, hD, va_S.rf, hZ⟩ hl
set_option maxRecDepth 100000 in
set_option maxHeartbeats 4000000 in
theorem wB_X6_daysWhole_38 (S : Cx p m c meth cX6_daysWhole 6 s args RX6 (some .int)) {Q : Int32 → MM → Prop}   (M : MM) (a0 : Nat) (h : B_X6_daysWhole_38 Z Q  M a0) : WG p l e rm_X6_daysWhole s m args below meth c 0 0 (MQi below E Z args s Q) E Z M 38 6 [(0, .ref a0)] [] := by
  intro H locs ls hw hl
  have hx := S.1.1
  have hb := S.1.2.1
  refine lv_aload_n hx hb dX6_daysWhole_38 rfl (lv_at hl 0 rfl) ?_
  refine lv_iconst (v := (-1)) hx hb dX6_daysWhole_39 (by decide) ?_
  obtain ⟨k_0, h⟩ := h
  refine cv_i (As := [.int (-1)]) (rest := []) S.1 hw (k_X6_fine l E Z M a0 (-1) _ h) wv_X6_66 yc_X6_fine ⟨rfl, rfl⟩ ⟨Nat.le_of_ble_eq_true rfl, Nat.le_of_ble_eq_true rfl⟩ rfl hl.1 (Nat.le_of_ble_eq_true rfl) (ci := 6) (q := (RX6, TX6, 12)) rfl rfl (by rw [k_0]; decide) (cell_6 k_0) ⟨Nat.le_of_ble_eq_true rfl, Nat.le_of_ble_eq_true rfl⟩ dX6_daysWhole_40 (fun r40 M40 H locs h hw => ?_)
  exact we_i S hw h dX6_daysWhole_43
set_option maxRecDepth 100000 in
set_option maxHeartbeats 4000000 in
theorem wB_X6_daysWhole_112 (S : Cx p m c meth cX6_daysWhole 6 s args RX6 (some .int)) {Q : Int32 → MM → Prop}   (M : MM) (t0 : Int32) (t1 : Nat) (h : B_X6_daysWhole_112 Z Q  M t0 t1) : WG p l e rm_X6_daysWhole s m args below meth c 0 0 (MQi below E Z args s Q) E Z M 112 6 [] [.int t0, .ref t1] := by
  intro H locs ls hw hl
  have hx := S.1.1
  have hb := S.1.2.1
  obtain ⟨k_0, h⟩ := h
  refine cv_i (As := [.int t0]) (rest := []) S.1 hw (k_X6_fine l E Z M t1 t0 _ h) wv_X6_66 yc_X6_fine ⟨rfl, rfl⟩ ⟨Nat.le_of_ble_eq_true rfl, Nat.le_of_ble_eq_true rfl⟩ rfl hl.1 (Nat.le_of_ble_eq_true rfl) (ci := 6) (q := (RX6, TX6, 12)) rfl rfl (by rw [k_0]; decide) (cell_6 k_0) ⟨Nat.le_of_ble_eq_true rfl, Nat.le_of_ble_eq_true rfl⟩ dX6_daysWhole_112 (fun r112 M112 H locs h hw => ?_)
  exact we_i S hw h dX6_daysWhole_115
set_option maxRecDepth 100000 in
set_option maxHeartbeats 4000000 in
theorem wB_X6_daysWhole_95 (S : Cx p m c meth cX6_daysWhole 6 s args RX6 (some .int)) {Q : Int32 → MM → Prop}   (M : MM) (a0 : Nat) (v3 : Int32) (t0 : Int32) (h : B_X6_daysWhole_95 Z Q  M a0 v3 t0) : WG p l e rm_X6_daysWhole s m args below meth c 0 0 (MQi below E Z args s Q) E Z M 95 6 [(0, .ref a0), (3, .int v3)] [.int t0] := by
  intro H locs ls hw hl
  have hx := S.1.1
  have hb := S.1.2.1
  refine lv_istore (lv' := [(5, .int t0), (0, .ref a0), (3, .int v3)]) hx hb dX6_daysWhole_95 hl (by decide) rfl (fun ls hl => ?_)
  refine lv_aload_n hx hb dX6_daysWhole_97 rfl (lv_at hl 1 rfl) ?_
  obtain ⟨k_0, h⟩ := h
  refine cv_v (As := []) (rest := []) S.1 hw (k_X6_takesBack l E Z M a0  _ h) wv_X6_109 yc_X6_takesBack ⟨rfl, rfl⟩ ⟨Nat.le_of_ble_eq_true rfl, Nat.le_of_ble_eq_true rfl⟩ rfl hl.1 (Nat.le_of_ble_eq_true rfl) (ci := 6) (q := (RX6, TX6, 12)) rfl rfl (by rw [k_0]; decide) (cell_6 k_0) ⟨Nat.le_of_ble_eq_true rfl, Nat.le_of_ble_eq_true rfl⟩ dX6_daysWhole_98 (fun M98 H locs h hw => ?_)
  refine lv_aload_n hx hb dX6_daysWhole_101 rfl (lv_at hl 1 rfl) ?_
  refine lv_iload hx hb dX6_daysWhole_102 (lv_at hl 0 rfl) ?_
  refine lv_if_eq (tgt := 111) hx hb dX6_daysWhole_104 (by decide) (fun q_104 => ?_) (fun q_104 => ?_)
  · have h := h.1 q_104
    refine lv_iconst (v := (-1)) hx hb dX6_daysWhole_111 (by decide) ?_
    exact ((wB_X6_daysWhole_112 S   _ _ _ h)) H locs ls hw (lv_sub hl [] rfl)
  · have h := h.2 q_104
    refine lv_iload_n hx hb dX6_daysWhole_107 rfl (lv_at hl 2 rfl) ?_
    refine lv_goto (tgt := 112) hx hb dX6_daysWhole_108 (by decide) ?_
    exact ((wB_X6_daysWhole_112 S   _ _ _ h)) H locs ls hw (lv_sub hl [] rfl)
set_option maxRecDepth 100000 in
set_option maxHeartbeats 4000000 in
theorem wB_X6_daysWhole_82 (S : Cx p m c meth cX6_daysWhole 6 s args RX6 (some .int)) {Q : Int32 → MM → Prop}   (M : MM) (a0 : Nat) (v2 : Int32) (v3 : Int32) (h : B_X6_daysWhole_82 Z Q  M a0 v2 v3) : WG p l e rm_X6_daysWhole s m args below meth c 0 0 (MQi below E Z args s Q) E Z M 82 6 [(0, .ref a0), (2, .int v2), (3, .int v3)] [] := by
  intro H locs ls hw hl
  have hx := S.1.1
  have hb := S.1.2.1
  refine lv_aload_n hx hb dX6_daysWhole_82 rfl (lv_at hl 0 rfl) ?_
  refine lv_iload_n hx hb dX6_daysWhole_83 rfl (lv_at hl 1 rfl) ?_
  obtain ⟨k_0, h⟩ := h
  refine cv_i (As := [.int v2]) (rest := []) S.1 hw (k_X6_isWhole l E Z M a0 v2 _ h) wv_X6_193 yc_X6_isWhole ⟨rfl, rfl⟩ ⟨Nat.le_of_ble_eq_true rfl, Nat.le_of_ble_eq_true rfl⟩ rfl hl.1 (Nat.le_of_ble_eq_true rfl) (ci := 6) (q := (RX6, TX6, 12)) rfl rfl (by rw [k_0]; decide) (cell_6 k_0) ⟨Nat.le_of_ble_eq_true rfl, Nat.le_of_ble_eq_true rfl⟩ dX6_daysWhole_84 (fun r84 M84 H locs h hw => ?_)
  refine lv_if_ne (tgt := 94) hx hb dX6_daysWhole_87 (by decide) (fun q_87 => ?_) (fun q_87 => ?_)
  · have h := h.1 q_87
    refine lv_iconst (v := 0) hx hb dX6_daysWhole_94 (by decide) ?_
    exact ((wB_X6_daysWhole_95 S   _ _ _ _ h)) H locs ls hw (lv_sub hl [0, 2] rfl)
  · have h := h.2 q_87
    refine lv_iconst (v := 1) hx hb dX6_daysWhole_90 (by decide) ?_
    refine lv_goto (tgt := 95) hx hb dX6_daysWhole_91 (by decide) ?_
    exact ((wB_X6_daysWhole_95 S   _ _ _ _ h)) H locs ls hw (lv_sub hl [0, 2] rfl)
set_option maxRecDepth 100000 in
set_option maxHeartbeats 4000000 in
theorem wB_X6_daysWhole_53 (S : Cx p m c meth cX6_daysWhole 6 s args RX6 (some .int)) {Q : Int32 → MM → Prop} {K53 : MM → Nat → Int32 → Int32 → Int32 → Prop} (hK53 : ∀ (M : MM) (a0 : Nat) (v2 : Int32) (v3 : Int32) (v4 : Int32), K53 M a0 v2 v3 v4 → WG p l e rm_X6_daysWhole s m args below meth c 0 0 (MQi below E Z args s Q) E Z M 53 6 [(0, .ref a0), (2, .int v2), (3, .int v3), (4, .int v4)] []) (M : MM) (a0 : Nat) (v2 : Int32) (v3 : Int32) (v4 : Int32) (h : B_X6_daysWhole_53 Z Q K53 M a0 v2 v3 v4) : WG p l e rm_X6_daysWhole s m args below meth c 0 0 (MQi below E Z args s Q) E Z M 53 6 [(0, .ref a0), (2, .int v2), (3, .int v3), (4, .int v4)] [] := by
  intro H locs ls hw hl
  have hx := S.1.1
  have hb := S.1.2.1
  refine lv_iload_n hx hb dX6_daysWhole_53 rfl (lv_at hl 2 rfl) ?_
  refine lv_bipush (v := 60) hx hb dX6_daysWhole_54 (by decide) ?_
  refine lv_icmp_ge (tgt := 82) hx hb dX6_daysWhole_56 (by decide) (fun q_56 => ?_) (fun q_56 => ?_)
  · have h := h.1 q_56
    exact ((wB_X6_daysWhole_82 S   _ _ _ _ h)) H locs ls hw (lv_sub hl [0, 1, 2] rfl)
  · have h := h.2 q_56
    refine lv_aload_n hx hb dX6_daysWhole_59 rfl (lv_at hl 0 rfl) ?_
    refine lv_iload_n hx hb dX6_daysWhole_60 rfl (lv_at hl 1 rfl) ?_
    obtain ⟨k_0, h⟩ := h
    refine cv_i (As := [.int v2]) (rest := []) S.1 hw (k_X6_isWhole l E Z M a0 v2 _ h) wv_X6_193 yc_X6_isWhole ⟨rfl, rfl⟩ ⟨Nat.le_of_ble_eq_true rfl, Nat.le_of_ble_eq_true rfl⟩ rfl hl.1 (Nat.le_of_ble_eq_true rfl) (ci := 6) (q := (RX6, TX6, 12)) rfl rfl (by rw [k_0]; decide) (cell_6 k_0) ⟨Nat.le_of_ble_eq_true rfl, Nat.le_of_ble_eq_true rfl⟩ dX6_daysWhole_61 (fun r61 M61 H locs h hw => ?_)
    refine lv_if_eq (tgt := 82) hx hb dX6_daysWhole_64 (by decide) (fun q_64 => ?_) (fun q_64 => ?_)
    · have h := h.1 q_64
      exact ((wB_X6_daysWhole_82 S   _ _ _ _ h)) H locs ls hw (lv_sub hl [0, 1, 2] rfl)
    · have h := h.2 q_64
      refine lv_iload hx hb dX6_daysWhole_67 (lv_at hl 3 rfl) ?_
      refine lv_aload_n hx hb dX6_daysWhole_69 rfl (lv_at hl 0 rfl) ?_
      refine cv_i (As := []) (rest := [.int v4]) S.1 hw (k_X6_day l E Z M61 a0  _ h) wv_X6_163 yc_X6_day ⟨rfl, rfl⟩ ⟨Nat.le_of_ble_eq_true rfl, Nat.le_of_ble_eq_true rfl⟩ rfl hl.1 (Nat.le_of_ble_eq_true rfl) (ci := 6) (q := (RX6, TX6, 12)) rfl rfl (by rw [k_0]; decide) (cell_6 k_0) ⟨Nat.le_of_ble_eq_true rfl, Nat.le_of_ble_eq_true rfl⟩ dX6_daysWhole_70 (fun r70 M70 H locs h hw => ?_)
      refine lv_iadd hx hb dX6_daysWhole_73 ?_
      refine lv_istore (lv' := [(4, .int (v4 + r70)), (0, .ref a0), (2, .int v2), (3, .int v3)]) hx hb dX6_daysWhole_74 hl (by decide) rfl (fun ls hl => ?_)
      refine lv_iinc (v := (v3 + 1)) (lv' := [(3, .int (v3 + 1)), (4, .int (v4 + r70)), (0, .ref a0), (2, .int v2)]) hx hb dX6_daysWhole_76 hl (k := 3) rfl rfl (by decide) rfl (fun ls hl => ?_)
      refine lv_goto (tgt := 53) hx hb dX6_daysWhole_79 (by decide) ?_
      exact (hK53 _ _ _ _ _ h) H locs ls hw (lv_sub hl [2, 3, 0, 1] rfl)
theorem wL_X6_daysWhole_53 (S : Cx p m c meth cX6_daysWhole 6 s args RX6 (some .int)) {Q : Int32 → MM → Prop}   : ∀ (n : Nat) (M : MM) (a0 : Nat) (v2 : Int32) (v3 : Int32) (v4 : Int32), L_X6_daysWhole_53 Z Q   n M a0 v2 v3 v4 → WG p l e rm_X6_daysWhole s m args below meth c 0 0 (MQi below E Z args s Q) E Z M 53 6 [(0, .ref a0), (2, .int v2), (3, .int v3), (4, .int v4)] []
  | 0, _, _, _, _, _, h => False.elim h
  | n + 1, M, a0, v2, v3, v4, h => wB_X6_daysWhole_53 S  (wL_X6_daysWhole_53 S   n) M a0 v2 v3 v4 h
set_option maxRecDepth 100000 in
set_option maxHeartbeats 4000000 in
theorem wB_X6_daysWhole_0 (S : Cx p m c meth cX6_daysWhole 6 s args RX6 (some .int)) {Q : Int32 → MM → Prop}   (M : MM) (a0 : Nat) (v1 : Int32) (h : B_X6_daysWhole_0 Z Q  M a0 v1) : WG p l e rm_X6_daysWhole s m args below meth c 0 0 (MQi below E Z args s Q) E Z M 0 6 [(0, .ref a0), (1, .int v1)] [] := by
  intro H locs ls hw hl
  have hx := S.1.1
  have hb := S.1.2.1
  refine lv_aload_n hx hb dX6_daysWhole_0 rfl (lv_at hl 0 rfl) ?_
  refine lv_iload_n hx hb dX6_daysWhole_1 rfl (lv_at hl 1 rfl) ?_
  obtain ⟨k_0, h⟩ := h
  refine cv_i (As := [.int v1]) (rest := []) S.1 hw (k_X6_isCell l E Z M a0 v1 _ h) wv_X6_69 yc_X6_isCell ⟨rfl, rfl⟩ ⟨Nat.le_of_ble_eq_true rfl, Nat.le_of_ble_eq_true rfl⟩ rfl hl.1 (Nat.le_of_ble_eq_true rfl) (ci := 6) (q := (RX6, TX6, 12)) rfl rfl (by rw [k_0]; decide) (cell_6 k_0) ⟨Nat.le_of_ble_eq_true rfl, Nat.le_of_ble_eq_true rfl⟩ dX6_daysWhole_2 (fun r2 M2 H locs h hw => ?_)
  refine lv_if_ne (tgt := 14) hx hb dX6_daysWhole_5 (by decide) (fun q_5 => ?_) (fun q_5 => ?_)
  · have h := h.1 q_5
    refine lv_aload_n hx hb dX6_daysWhole_14 rfl (lv_at hl 0 rfl) ?_
    refine cv_v (As := []) (rest := []) S.1 hw (k_X6_findsBlocks l E Z M2 a0  _ h) wv_X6_146 yc_X6_findsBlocks ⟨rfl, rfl⟩ ⟨Nat.le_of_ble_eq_true rfl, Nat.le_of_ble_eq_true rfl⟩ rfl hl.1 (Nat.le_of_ble_eq_true rfl) (ci := 6) (q := (RX6, TX6, 12)) rfl rfl (by rw [k_0]; decide) (cell_6 k_0) ⟨Nat.le_of_ble_eq_true rfl, Nat.le_of_ble_eq_true rfl⟩ dX6_daysWhole_15 (fun M15 H locs h hw => ?_)
    refine lv_aload_n hx hb dX6_daysWhole_18 rfl (lv_at hl 0 rfl) ?_
    obtain ⟨y19_1, hy_1, h⟩ := h
    refine gf_X6_19 S.1 hw k_0 hy_1 dX6_daysWhole_19 ?_
    refine lv_iload_n hx hb dX6_daysWhole_22 rfl (lv_at hl 1 rfl) ?_
    obtain ⟨k_2, h⟩ := h
    obtain ⟨i_23, h⟩ := h
    refine wo_iald S.1 hw k_2 i_23 dX6_daysWhole_23 ?_
    refine lv_istore_n (lv' := [(2, .int (mA M15 y19_1 v1.toNatClampNeg)), (0, .ref a0), (1, .int v1)]) hx hb dX6_daysWhole_24 rfl hl (by decide) rfl (fun ls hl => ?_)
    refine lv_iload_n hx hb dX6_daysWhole_25 rfl (lv_at hl 0 rfl) ?_
    refine lv_iconst (v := (-1)) hx hb dX6_daysWhole_26 (by decide) ?_
    refine lv_icmp_eq (tgt := 38) hx hb dX6_daysWhole_27 (by decide) (fun q_27 => ?_) (fun q_27 => ?_)
    · have h := h.1 q_27
      exact ((wB_X6_daysWhole_38 S   _ _ h)) H locs ls hw (lv_sub hl [1] rfl)
    · have h := h.2 q_27
      refine lv_aload_n hx hb dX6_daysWhole_30 rfl (lv_at hl 1 rfl) ?_
      refine lv_iload_n hx hb dX6_daysWhole_31 rfl (lv_at hl 0 rfl) ?_
      refine cv_i (As := [.int (mA M15 y19_1 v1.toNatClampNeg)]) (rest := []) S.1 hw (k_X6_isHeld l E Z M15 a0 (mA M15 y19_1 v1.toNatClampNeg) _ h) wv_X6_132 yc_X6_isHeld ⟨rfl, rfl⟩ ⟨Nat.le_of_ble_eq_true rfl, Nat.le_of_ble_eq_true rfl⟩ rfl hl.1 (Nat.le_of_ble_eq_true rfl) (ci := 6) (q := (RX6, TX6, 12)) rfl rfl (by rw [k_0]; decide) (cell_6 k_0) ⟨Nat.le_of_ble_eq_true rfl, Nat.le_of_ble_eq_true rfl⟩ dX6_daysWhole_32 (fun r32 M32 H locs h hw => ?_)
      refine lv_if_eq (tgt := 44) hx hb dX6_daysWhole_35 (by decide) (fun q_35 => ?_) (fun q_35 => ?_)
      · have h := h.1 q_35
        refine lv_aload_n hx hb dX6_daysWhole_44 rfl (lv_at hl 1 rfl) ?_
        refine cv_v (As := []) (rest := []) S.1 hw (k_X6_laysAside l E Z M32 a0  _ h) wv_X6_106 yc_X6_laysAside ⟨rfl, rfl⟩ ⟨Nat.le_of_ble_eq_true rfl, Nat.le_of_ble_eq_true rfl⟩ rfl hl.1 (Nat.le_of_ble_eq_true rfl) (ci := 6) (q := (RX6, TX6, 12)) rfl rfl (by rw [k_0]; decide) (cell_6 k_0) ⟨Nat.le_of_ble_eq_true rfl, Nat.le_of_ble_eq_true rfl⟩ dX6_daysWhole_45 (fun M45 H locs h hw => ?_)
        refine lv_iconst (v := 0) hx hb dX6_daysWhole_48 (by decide) ?_
        refine lv_istore_n (lv' := [(3, .int 0), (2, .int (mA M15 y19_1 v1.toNatClampNeg)), (0, .ref a0), (1, .int v1)]) hx hb dX6_daysWhole_49 rfl hl (by decide) rfl (fun ls hl => ?_)
        refine lv_iconst (v := 0) hx hb dX6_daysWhole_50 (by decide) ?_
        refine lv_istore (lv' := [(4, .int 0), (3, .int 0), (2, .int (mA M15 y19_1 v1.toNatClampNeg)), (0, .ref a0), (1, .int v1)]) hx hb dX6_daysWhole_51 hl (by decide) rfl (fun ls hl => ?_)
        exact ((Exists.elim h (fun n h => wL_X6_daysWhole_53 S   n _ _ _ _ _ h))) H locs ls hw (lv_sub hl [3, 2, 1, 0] rfl)
      · have h := h.2 q_35
        exact ((wB_X6_daysWhole_38 S   _ _ h)) H locs ls hw (lv_sub hl [1] rfl)
  · have h := h.2 q_5
    refine lv_aload_n hx hb dX6_daysWhole_8 rfl (lv_at hl 0 rfl) ?_
    refine lv_iconst (v := 1) hx hb dX6_daysWhole_9 (by decide) ?_
    refine cv_i (As := [.int 1]) (rest := []) S.1 hw (k_X6_throwing l E Z M2 a0 1 _ h) wv_X6_59 yc_X6_throwing ⟨rfl, rfl⟩ ⟨Nat.le_of_ble_eq_true rfl, Nat.le_of_ble_eq_true rfl⟩ rfl hl.1 (Nat.le_of_ble_eq_true rfl) (ci := 6) (q := (RX6, TX6, 12)) rfl rfl (by rw [k_0]; decide) (cell_6 k_0) ⟨Nat.le_of_ble_eq_true rfl, Nat.le_of_ble_eq_true rfl⟩ dX6_daysWhole_10 (fun r10 M10 H locs h hw => ?_)
    exact we_i S hw h dX6_daysWhole_13
set_option maxRecDepth 100000 in
set_option maxHeartbeats 4000000 in
theorem k_X6_daysWhole (l : Launch) (E : EE) (Z : ZZ) (M : MM) (a0 : Nat) (v1 : Int32) (Q : Int32 → MM → Prop) (h : P_X6_daysWhole Z M a0 v1 Q) : Ct_i l yX6_daysWhole cX6_daysWhole 6 (some .int) rm_X6_daysWhole E Z M [.ref a0, .int v1] Q := by
  refine Met.ofW (cc := cX6_daysWhole) (maxL := 6) (ret := some .int) (by decide) rfl ?_
  intro p e s m args below meth c s₁ B hml hv
  obtain ⟨rfl, hK, hP, hD, hZ⟩ := hv
  have S : Cx p m c meth cX6_daysWhole 6 s _ RX6 (some .int) := ⟨⟨B.exec, B.bytes, hml, findClass_of_methodNamed B.named, fun w hw => atoms_spec (ws := ws_ yX6_daysWhole cX6_daysWhole 6 (some .int)) B.pre w (List.mem_cons_of_mem _ hw)⟩, B.returns, B.notSynchronized⟩
  have hl := lv_entry ([.ref a0, .int v1]) (n := 6) (Nat.le_of_ble_eq_true rfl)
  rw [lg_entry_eq]
  generalize (lg_sl ([.ref a0, .int v1]) ++ List.replicate (6 - (lg_sl ([.ref a0, .int v1])).length) Slot.unset).toArray = ls at hl ⊢
  exact (wB_X6_daysWhole_0 S  M a0 v1 h) s.heap [] ls ⟨hK, hP, hD, va_S.rf, hZ⟩ hl
