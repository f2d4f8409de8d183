variable {p : Program} {l : Launch} {e : Env} {s : State} {m : MethodId} {args : Array Value} {below : List Frame} {meth : Method} {c : Code} {E : EE} {Z : ZZ}
set_option maxRecDepth 100000 in
set_option maxHeartbeats 4000000 in
theorem wB_X4_search_156 (S : Cx p m c meth cX4_search 8 s args RX4 (some .int)) {Q : Int32 → MM → Prop} {K58 : MM → Nat → Nat → Nat → Int32 → Int32 → Int32 → Int32 → Prop} (hK58 : ∀ (M : MM) (a0 : Nat) (a1 : Nat) (a2 : Nat) (v3 : Int32) (v4 : Int32) (v5 : Int32) (v6 : Int32), K58 M a0 a1 a2 v3 v4 v5 v6 → WG p l e rm_X4_search s m args below meth c 0 0 (MQi below E Z args s Q) E Z M 58 8 [(0, .ref a0), (1, .ref a1), (2, .ref a2), (3, .int v3), (4, .int v4), (5, .int v5), (6, .int v6)] []) (M : MM) (a0 : Nat) (a1 : Nat) (a2 : Nat) (v3 : Int32) (v4 : Int32) (v5 : Int32) (v6 : Int32) (h : B_X4_search_156 Z Q K58 M a0 a1 a2 v3 v4 v5 v6) : WG p l e rm_X4_search s m args below meth c 0 0 (MQi below E Z args s Q) E Z M 156 8 [(0, .ref a0), (1, .ref a1), (2, .ref a2), (3, .int v3), (4, .int v4), (5, .int v5), (6, .int v6)] [] := by
  intro H locs ls hw hl
  have hx := S.1.1
  have hb := S.1.2.1
  refine lv_iinc (v := (v6 + 1)) (lv' := [(6, .int (v6 + 1)), (0, .ref a0), (1, .ref a1), (2, .ref a2), (3, .int v3), (4, .int v4), (5, .int v5)]) hx hb dX4_search_156 hl (k := 6) rfl rfl (by decide) rfl (fun ls hl => ?_)
  refine lv_goto (tgt := 58) hx hb dX4_search_159 (by decide) ?_
  exact (hK58 _ _ _ _ _ _ _ _ h) H locs ls hw (lv_sub hl [1, 2, 3, 4, 5, 6, 0] rfl)
set_option maxRecDepth 100000 in
set_option maxHeartbeats 4000000 in
theorem wB_X4_search_58 (S : Cx p m c meth cX4_search 8 s args RX4 (some .int)) {Q : Int32 → MM → Prop} {K40 : MM → Nat → Nat → Nat → Int32 → Int32 → Int32 → Prop} {K58 : MM → Nat → Nat → Nat → Int32 → Int32 → Int32 → Int32 → Prop} (hK40 : ∀ (M : MM) (a0 : Nat) (a1 : Nat) (a2 : Nat) (v3 : Int32) (v4 : Int32) (v5 : Int32), K40 M a0 a1 a2 v3 v4 v5 → WG p l e rm_X4_search s m args below meth c 0 0 (MQi below E Z args s Q) E Z M 40 8 [(0, .ref a0), (1, .ref a1), (2, .ref a2), (3, .int v3), (4, .int v4), (5, .int v5)] []) (hK58 : ∀ (M : MM) (a0 : Nat) (a1 : Nat) (a2 : Nat) (v3 : Int32) (v4 : Int32) (v5 : Int32) (v6 : Int32), K58 M a0 a1 a2 v3 v4 v5 v6 → WG p l e rm_X4_search s m args below meth c 0 0 (MQi below E Z args s Q) E Z M 58 8 [(0, .ref a0), (1, .ref a1), (2, .ref a2), (3, .int v3), (4, .int v4), (5, .int v5), (6, .int v6)] []) (M : MM) (a0 : Nat) (a1 : Nat) (a2 : Nat) (v3 : Int32) (v4 : Int32) (v5 : Int32) (v6 : Int32) (h : B_X4_search_58 Z Q K40 K58 M a0 a1 a2 v3 v4 v5 v6) : WG p l e rm_X4_search s m args below meth c 0 0 (MQi below E Z args s Q) E Z M 58 8 [(0, .ref a0), (1, .ref a1), (2, .ref a2), (3, .int v3), (4, .int v4), (5, .int v5), (6, .int v6)] [] := by
  intro H locs ls hw hl
  have hx := S.1.1
  have hb := S.1.2.1
  refine lv_iload hx hb dX4_search_58 (lv_at hl 6 rfl) ?_
  refine lv_iconst (v := 4) hx hb dX4_search_60 (by decide) ?_
  refine lv_icmp_ge (tgt := 162) hx hb dX4_search_61 (by decide) (fun q_61 => ?_) (fun q_61 => ?_)
  · have h := h.1 q_61
    refine lv_iinc (v := (v5 + 1)) (lv' := [(5, .int (v5 + 1)), (0, .ref a0), (1, .ref a1), (2, .ref a2), (3, .int v3), (4, .int v4), (6, .int v6)]) hx hb dX4_search_162 hl (k := 5) rfl rfl (by decide) rfl (fun ls hl => ?_)
    refine lv_goto (tgt := 40) hx hb dX4_search_165 (by decide) ?_
    exact (hK40 _ _ _ _ _ _ _ h) H locs ls hw (lv_sub hl [1, 2, 3, 4, 5, 0] rfl)
  · have h := h.2 q_61
    refine lv_aload_n hx hb dX4_search_64 rfl (lv_at hl 0 rfl) ?_
    obtain ⟨k_0, h⟩ := h
    obtain ⟨y65_1, hy_1, h⟩ := h
    refine gf_X4_30 S.1 hw k_0 hy_1 dX4_search_65 ?_
    refine lv_iload hx hb dX4_search_68 (lv_at hl 5 rfl) ?_
    obtain ⟨k_2, h⟩ := h
    refine cv_i (As := [.int v5]) (rest := []) S.1 hw (k_X2_at l E Z M y65_1 v5 _ h) wv_X4_44 yc_X2_at ⟨rfl, rfl⟩ ⟨Nat.le_of_ble_eq_true rfl, Nat.le_of_ble_eq_true rfl⟩ rfl hl.1 (Nat.le_of_ble_eq_true rfl) (ci := 2) (q := (RX2, TX2, 1)) rfl rfl (by rw [k_2]; decide) (cell_2 k_2) ⟨Nat.le_of_ble_eq_true rfl, Nat.le_of_ble_eq_true rfl⟩ dX4_search_70 (fun r70 M70 H locs h hw => ?_)
    refine lv_iload hx hb dX4_search_73 (lv_at hl 6 rfl) ?_
    refine cs_i (As := [.int v6]) (rest := [.int r70]) S.1 hw (k_X4_stepOf l E Z M70 v6 _ h) wv_X4_48 yc_X4_stepOf ⟨rfl, rfl⟩ ⟨Nat.le_of_ble_eq_true rfl, Nat.le_of_ble_eq_true rfl⟩ rfl hl.1 (Nat.le_of_ble_eq_true rfl) ⟨Nat.le_of_ble_eq_true rfl, Nat.le_of_ble_eq_true rfl⟩ dX4_search_75 (fun r75 M75 H locs h hw => ?_)
    refine lv_iadd hx hb dX4_search_78 ?_
    refine lv_istore (lv' := [(7, .int (r70 + r75)), (0, .ref a0), (1, .ref a1), (2, .ref a2), (3, .int v3), (4, .int v4), (5, .int v5), (6, .int v6)]) hx hb dX4_search_79 hl (by decide) rfl (fun ls hl => ?_)
    refine lv_aload_n hx hb dX4_search_81 rfl (lv_at hl 1 rfl) ?_
    obtain ⟨y82_3, hy_3, h⟩ := h
    refine gf_X4_27 S.1 hw k_0 hy_3 dX4_search_82 ?_
    refine lv_iload hx hb dX4_search_85 (lv_at hl 0 rfl) ?_
    obtain ⟨k_4, h⟩ := h
    refine cv_i (As := [.int (r70 + r75)]) (rest := []) S.1 hw (k_X2_at l E Z M75 y82_3 (r70 + r75) _ h) wv_X4_44 yc_X2_at ⟨rfl, rfl⟩ ⟨Nat.le_of_ble_eq_true rfl, Nat.le_of_ble_eq_true rfl⟩ rfl hl.1 (Nat.le_of_ble_eq_true rfl) (ci := 2) (q := (RX2, TX2, 1)) rfl rfl (by rw [k_4]; decide) (cell_2 k_4) ⟨Nat.le_of_ble_eq_true rfl, Nat.le_of_ble_eq_true rfl⟩ dX4_search_87 (fun r87 M87 H locs h hw => ?_)
    refine lv_iconst (v := (-1)) hx hb dX4_search_90 (by decide) ?_
    refine lv_icmp_ne (tgt := 156) hx hb dX4_search_91 (by decide) (fun q_91 => ?_) (fun q_91 => ?_)
    · have h := h.1 q_91
      exact ((wB_X4_search_156 S  hK58 _ _ _ _ _ _ _ _ h)) H locs ls hw (lv_sub hl [1, 2, 3, 4, 5, 6, 7] rfl)
    · have h := h.2 q_91
      refine lv_aload_n hx hb dX4_search_94 rfl (lv_at hl 1 rfl) ?_
      refine lv_aload_n hx hb dX4_search_95 rfl (lv_at hl 2 rfl) ?_
      refine lv_aload_n hx hb dX4_search_96 rfl (lv_at hl 3 rfl) ?_
      refine lv_iload_n hx hb dX4_search_97 rfl (lv_at hl 4 rfl) ?_
      refine lv_iload hx hb dX4_search_98 (lv_at hl 0 rfl) ?_
      refine cv_i (As := [.ref a1, .ref a2, .int v3, .int (r70 + r75)]) (rest := []) S.1 hw (k_X4_canLie l E Z M87 a0 a1 a2 v3 (r70 + r75) _ h) wv_X4_51 yc_X4_canLie ⟨rfl, rfl⟩ ⟨Nat.le_of_ble_eq_true rfl, Nat.le_of_ble_eq_true rfl⟩ rfl hl.1 (Nat.le_of_ble_eq_true rfl) (ci := 4) (q := (RX4, TX4, 5)) rfl rfl (by rw [k_0]; decide) (cell_4 k_0) ⟨Nat.le_of_ble_eq_true rfl, Nat.le_of_ble_eq_true rfl⟩ dX4_search_100 (fun r100 M100 H locs h hw => ?_)
      refine lv_if_eq (tgt := 156) hx hb dX4_search_103 (by decide) (fun q_103 => ?_) (fun q_103 => ?_)
      · have h := h.1 q_103
        exact ((wB_X4_search_156 S  hK58 _ _ _ _ _ _ _ _ h)) H locs ls hw (lv_sub hl [1, 2, 3, 4, 5, 6, 7] rfl)
      · have h := h.2 q_103
        refine lv_aload_n hx hb dX4_search_106 rfl (lv_at hl 1 rfl) ?_
        refine gf_X4_27 S.1 hw k_0 hy_3 dX4_search_107 ?_
        refine lv_iload hx hb dX4_search_110 (lv_at hl 0 rfl) ?_
        refine lv_iload hx hb dX4_search_112 (lv_at hl 7 rfl) ?_
        refine cv_v (As := [.int (r70 + r75), .int v6]) (rest := []) S.1 hw (k_X2_put l E Z M100 y82_3 (r70 + r75) v6 _ h) wv_X4_40 yc_X2_put ⟨rfl, rfl⟩ ⟨Nat.le_of_ble_eq_true rfl, Nat.le_of_ble_eq_true rfl⟩ rfl hl.1 (Nat.le_of_ble_eq_true rfl) (ci := 2) (q := (RX2, TX2, 1)) rfl rfl (by rw [k_4]; decide) (cell_2 k_4) ⟨Nat.le_of_ble_eq_true rfl, Nat.le_of_ble_eq_true rfl⟩ dX4_search_114 (fun M114 H locs h hw => ?_)
        refine lv_aload_n hx hb dX4_search_117 rfl (lv_at hl 2 rfl) ?_
        refine lv_iload_n hx hb dX4_search_118 rfl (lv_at hl 4 rfl) ?_
        obtain ⟨k_5, h⟩ := h
        refine cv_i (As := [.int v3]) (rest := []) S.1 hw (k_X1_rowOf l E Z M114 a1 v3 _ h) wv_X4_55 yc_X1_rowOf ⟨rfl, rfl⟩ ⟨Nat.le_of_ble_eq_true rfl, Nat.le_of_ble_eq_true rfl⟩ rfl hl.1 (Nat.le_of_ble_eq_true rfl) (ci := 1) (q := (RX1, TX1, 12)) rfl rfl (by rw [k_5]; decide) (cell_1 k_5) ⟨Nat.le_of_ble_eq_true rfl, Nat.le_of_ble_eq_true rfl⟩ dX4_search_119 (fun r119 M119 H locs h hw => ?_)
        refine lv_iload hx hb dX4_search_122 (lv_at hl 0 rfl) ?_
        refine cs_i (As := [.int (r70 + r75)]) (rest := [.int r119]) S.1 hw (k_X4_downAt l E Z M119 (r70 + r75) _ h) wv_X4_60 yc_X4_downAt ⟨rfl, rfl⟩ ⟨Nat.le_of_ble_eq_true rfl, Nat.le_of_ble_eq_true rfl⟩ rfl hl.1 (Nat.le_of_ble_eq_true rfl) ⟨Nat.le_of_ble_eq_true rfl, Nat.le_of_ble_eq_true rfl⟩ dX4_search_124 (fun r124 M124 H locs h hw => ?_)
        refine lv_iadd hx hb dX4_search_127 ?_
        refine lv_aload_n hx hb dX4_search_128 rfl (lv_at hl 2 rfl) ?_
        refine gf_X4_63 S.1 hw k_5 dX4_search_129 ?_
        refine lv_icmp_lt (tgt := 142) hx hb dX4_search_132 (by decide) (fun q_132 => ?_) (fun q_132 => ?_)
        · have h := h.1 q_132
          refine lv_aload_n hx hb dX4_search_142 rfl (lv_at hl 1 rfl) ?_
          refine gf_X4_30 S.1 hw k_0 hy_1 dX4_search_143 ?_
          refine lv_iload hx hb dX4_search_146 (lv_at hl 5 rfl) ?_
          refine lv_iload hx hb dX4_search_148 (lv_at hl 0 rfl) ?_
          refine cv_v (As := [.int v4, .int (r70 + r75)]) (rest := []) S.1 hw (k_X2_put l E Z M124 y65_1 v4 (r70 + r75) _ h) wv_X4_40 yc_X2_put ⟨rfl, rfl⟩ ⟨Nat.le_of_ble_eq_true rfl, Nat.le_of_ble_eq_true rfl⟩ rfl hl.1 (Nat.le_of_ble_eq_true rfl) (ci := 2) (q := (RX2, TX2, 1)) rfl rfl (by rw [k_2]; decide) (cell_2 k_2) ⟨Nat.le_of_ble_eq_true rfl, Nat.le_of_ble_eq_true rfl⟩ dX4_search_150 (fun M150 H locs h hw => ?_)
          refine lv_iinc (v := (v4 + 1)) (lv' := [(4, .int (v4 + 1)), (7, .int (r70 + r75)), (0, .ref a0), (1, .ref a1), (2, .ref a2), (3, .int v3), (5, .int v5), (6, .int v6)]) hx hb dX4_search_153 hl (k := 5) rfl rfl (by decide) rfl (fun ls hl => ?_)
          exact ((wB_X4_search_156 S  hK58 _ _ _ _ _ _ _ _ h)) H locs ls hw (lv_sub hl [2, 3, 4, 5, 0, 6, 7] rfl)
        · have h := h.2 q_132
          refine lv_aload_n hx hb dX4_search_135 rfl (lv_at hl 1 rfl) ?_
          refine lv_iload hx hb dX4_search_136 (lv_at hl 0 rfl) ?_
          refine cv_i (As := [.int (r70 + r75)]) (rest := []) S.1 hw (k_X4_traceBack l E Z M124 a0 (r70 + r75) _ h) wv_X4_66 yc_X4_traceBack ⟨rfl, rfl⟩ ⟨Nat.le_of_ble_eq_true rfl, Nat.le_of_ble_eq_true rfl⟩ rfl hl.1 (Nat.le_of_ble_eq_true rfl) (ci := 4) (q := (RX4, TX4, 5)) rfl rfl (by rw [k_0]; decide) (cell_4 k_0) ⟨Nat.le_of_ble_eq_true rfl, Nat.le_of_ble_eq_true rfl⟩ dX4_search_138 (fun r138 M138 H locs h hw => ?_)
          exact we_i S hw h dX4_search_141
theorem wL_X4_search_58 (S : Cx p m c meth cX4_search 8 s args RX4 (some .int)) {Q : Int32 → MM → Prop} {K40 : MM → Nat → Nat → Nat → Int32 → Int32 → Int32 → Prop} (hK40 : ∀ (M : MM) (a0 : Nat) (a1 : Nat) (a2 : Nat) (v3 : Int32) (v4 : Int32) (v5 : Int32), K40 M a0 a1 a2 v3 v4 v5 → WG p l e rm_X4_search s m args below meth c 0 0 (MQi below E Z args s Q) E Z M 40 8 [(0, .ref a0), (1, .ref a1), (2, .ref a2), (3, .int v3), (4, .int v4), (5, .int v5)] []) : ∀ (n : Nat) (M : MM) (a0 : Nat) (a1 : Nat) (a2 : Nat) (v3 : Int32) (v4 : Int32) (v5 : Int32) (v6 : Int32), L_X4_search_58 Z Q K40 n M a0 a1 a2 v3 v4 v5 v6 → WG p l e rm_X4_search s m args below meth c 0 0 (MQi below E Z args s Q) E Z M 58 8 [(0, .ref a0), (1, .ref a1), (2, .ref a2), (3, .int v3), (4, .int v4), (5, .int v5), (6, .int v6)] []
  | 0, _, _, _, _, _, _, _, _, h => False.elim h
  | n + 1, M, a0, a1, a2, v3, v4, v5, v6, h => wB_X4_search_58 S  hK40 (wL_X4_search_58 S  hK40 n) M a0 a1 a2 v3 v4 v5 v6 h
set_option maxRecDepth 100000 in
set_option maxHeartbeats 4000000 in
theorem wB_X4_search_40 (S : Cx p m c meth cX4_search 8 s args RX4 (some .int)) {Q : Int32 → MM → Prop} {K40 : MM → Nat → Nat → Nat → Int32 → Int32 → Int32 → Prop} (hK40 : ∀ (M : MM) (a0 : Nat) (a1 : Nat) (a2 : Nat) (v3 : Int32) (v4 : Int32) (v5 : Int32), K40 M a0 a1 a2 v3 v4 v5 → WG p l e rm_X4_search s m args below meth c 0 0 (MQi below E Z args s Q) E Z M 40 8 [(0, .ref a0), (1, .ref a1), (2, .ref a2), (3, .int v3), (4, .int v4), (5, .int v5)] []) (M : MM) (a0 : Nat) (a1 : Nat) (a2 : Nat) (v3 : Int32) (v4 : Int32) (v5 : Int32) (h : B_X4_search_40 Z Q K40 M a0 a1 a2 v3 v4 v5) : WG p l e rm_X4_search s m args below meth c 0 0 (MQi below E Z args s Q) E Z M 40 8 [(0, .ref a0), (1, .ref a1), (2, .ref a2), (3, .int v3), (4, .int v4), (5, .int v5)] [] := by
  intro H locs ls hw hl
  have hx := S.1.1
  have hb := S.1.2.1
  refine lv_iload hx hb dX4_search_40 (lv_at hl 5 rfl) ?_
  refine lv_iload hx hb dX4_search_42 (lv_at hl 4 rfl) ?_
  refine lv_icmp_ge (tgt := 168) hx hb dX4_search_44 (by decide) (fun q_44 => ?_) (fun q_44 => ?_)
  · have h := h.1 q_44
    refine lv_iconst (v := (-1)) hx hb dX4_search_168 (by decide) ?_
    exact we_i S hw h dX4_search_169
  · have h := h.2 q_44
    refine lv_iload hx hb dX4_search_47 (lv_at hl 5 rfl) ?_
    refine lv_sipush (v := 240) hx hb dX4_search_49 (by decide) ?_
    refine lv_icmp_ge (tgt := 168) hx hb dX4_search_52 (by decide) (fun q_52 => ?_) (fun q_52 => ?_)
    · have h := h.1 q_52
      refine lv_iconst (v := (-1)) hx hb dX4_search_168 (by decide) ?_
      exact we_i S hw h dX4_search_169
    · have h := h.2 q_52
      refine lv_iconst (v := 0) hx hb dX4_search_55 (by decide) ?_
      refine lv_istore (lv' := [(6, .int 0), (0, .ref a0), (1, .ref a1), (2, .ref a2), (3, .int v3), (4, .int v4), (5, .int v5)]) hx hb dX4_search_56 hl (by decide) rfl (fun ls hl => ?_)
      exact ((Exists.elim h (fun n h => wL_X4_search_58 S  hK40 n _ _ _ _ _ _ _ _ h))) H locs ls hw (lv_sub hl [1, 2, 3, 4, 5, 6, 0] rfl)
theorem wL_X4_search_40 (S : Cx p m c meth cX4_search 8 s args RX4 (some .int)) {Q : Int32 → MM → Prop}   : ∀ (n : Nat) (M : MM) (a0 : Nat) (a1 : Nat) (a2 : Nat) (v3 : Int32) (v4 : Int32) (v5 : Int32), L_X4_search_40 Z Q  n M a0 a1 a2 v3 v4 v5 → WG p l e rm_X4_search s m args below meth c 0 0 (MQi below E Z args s Q) E Z M 40 8 [(0, .ref a0), (1, .ref a1), (2, .ref a2), (3, .int v3), (4, .int v4), (5, .int v5)] []
  | 0, _, _, _, _, _, _, _, h => False.elim h
  | n + 1, M, a0, a1, a2, v3, v4, v5, h => wB_X4_search_40 S  (wL_X4_search_40 S   n) M a0 a1 a2 v3 v4 v5 h
set_option maxRecDepth 100000 in
set_option maxHeartbeats 4000000 in
theorem wB_X4_search_0 (S : Cx p m c meth cX4_search 8 s args RX4 (some .int)) {Q : Int32 → MM → Prop}   (M : MM) (a0 : Nat) (a1 : Nat) (a2 : Nat) (v3 : Int32) (h : B_X4_search_0 Z Q  M a0 a1 a2 v3) : WG p l e rm_X4_search s m args below meth c 0 0 (MQi below E Z args s Q) E Z M 0 8 [(0, .ref a0), (1, .ref a1), (2, .ref a2), (3, .int v3)] [] := by
  intro H locs ls hw hl
  have hx := S.1.1
  have hb := S.1.2.1
  refine lv_aload_n hx hb dX4_search_0 rfl (lv_at hl 0 rfl) ?_
  refine lv_aload_n hx hb dX4_search_1 rfl (lv_at hl 2 rfl) ?_
  refine lv_iload_n hx hb dX4_search_2 rfl (lv_at hl 3 rfl) ?_
  obtain ⟨k_0, h⟩ := h
  refine cv_v (As := [.ref a2, .int v3]) (rest := []) S.1 hw (k_X4_gatherCells l E Z M a0 a2 v3 _ h) wv_X4_33 yc_X4_gatherCells ⟨rfl, rfl⟩ ⟨Nat.le_of_ble_eq_true rfl, Nat.le_of_ble_eq_true rfl⟩ rfl hl.1 (Nat.le_of_ble_eq_true rfl) (ci := 4) (q := (RX4, TX4, 5)) rfl rfl (by rw [k_0]; decide) (cell_4 k_0) ⟨Nat.le_of_ble_eq_true rfl, Nat.le_of_ble_eq_true rfl⟩ dX4_search_3 (fun M3 H locs h hw => ?_)
  refine lv_aload_n hx hb dX4_search_6 rfl (lv_at hl 0 rfl) ?_
  obtain ⟨y7_1, hy_1, h⟩ := h
  refine gf_X4_27 S.1 hw k_0 hy_1 dX4_search_7 ?_
  refine lv_iconst (v := (-1)) hx hb dX4_search_10 (by decide) ?_
  obtain ⟨k_2, h⟩ := h
  refine cv_v (As := [.int (-1)]) (rest := []) S.1 hw (k_X2_fill l E Z M3 y7_1 (-1) _ h) wv_X4_37 yc_X2_fill ⟨rfl, rfl⟩ ⟨Nat.le_of_ble_eq_true rfl, Nat.le_of_ble_eq_true rfl⟩ rfl hl.1 (Nat.le_of_ble_eq_true rfl) (ci := 2) (q := (RX2, TX2, 1)) rfl rfl (by rw [k_2]; decide) (cell_2 k_2) ⟨Nat.le_of_ble_eq_true rfl, Nat.le_of_ble_eq_true rfl⟩ dX4_search_11 (fun M11 H locs h hw => ?_)
  refine lv_aload_n hx hb dX4_search_14 rfl (lv_at hl 0 rfl) ?_
  refine gf_X4_27 S.1 hw k_0 hy_1 dX4_search_15 ?_
  refine lv_bipush (v := 112) hx hb dX4_search_18 (by decide) ?_
  refine lv_iconst (v := 4) hx hb dX4_search_20 (by decide) ?_
  refine cv_v (As := [.int 112, .int 4]) (rest := []) S.1 hw (k_X2_put l E Z M11 y7_1 112 4 _ h) wv_X4_40 yc_X2_put ⟨rfl, rfl⟩ ⟨Nat.le_of_ble_eq_true rfl, Nat.le_of_ble_eq_true rfl⟩ rfl hl.1 (Nat.le_of_ble_eq_true rfl) (ci := 2) (q := (RX2, TX2, 1)) rfl rfl (by rw [k_2]; decide) (cell_2 k_2) ⟨Nat.le_of_ble_eq_true rfl, Nat.le_of_ble_eq_true rfl⟩ dX4_search_21 (fun M21 H locs h hw => ?_)
  refine lv_aload_n hx hb dX4_search_24 rfl (lv_at hl 0 rfl) ?_
  obtain ⟨y25_3, hy_3, h⟩ := h
  refine gf_X4_30 S.1 hw k_0 hy_3 dX4_search_25 ?_
  refine lv_iconst (v := 0) hx hb dX4_search_28 (by decide) ?_
  refine lv_bipush (v := 112) hx hb dX4_search_29 (by decide) ?_
  obtain ⟨k_4, h⟩ := h
  refine cv_v (As := [.int 0, .int 112]) (rest := []) S.1 hw (k_X2_put l E Z M21 y25_3 0 112 _ h) wv_X4_40 yc_X2_put ⟨rfl, rfl⟩ ⟨Nat.le_of_ble_eq_true rfl, Nat.le_of_ble_eq_true rfl⟩ rfl hl.1 (Nat.le_of_ble_eq_true rfl) (ci := 2) (q := (RX2, TX2, 1)) rfl rfl (by rw [k_4]; decide) (cell_2 k_4) ⟨Nat.le_of_ble_eq_true rfl, Nat.le_of_ble_eq_true rfl⟩ dX4_search_31 (fun M31 H locs h hw => ?_)
  refine lv_iconst (v := 1) hx hb dX4_search_34 (by decide) ?_
  refine lv_istore (lv' := [(4, .int 1), (0, .ref a0), (1, .ref a1), (2, .ref a2), (3, .int v3)]) hx hb dX4_search_35 hl (by decide) rfl (fun ls hl => ?_)
  refine lv_iconst (v := 0) hx hb dX4_search_37 (by decide) ?_
  refine lv_istore (lv' := [(5, .int 0), (4, .int 1), (0, .ref a0), (1, .ref a1), (2, .ref a2), (3, .int v3)]) hx hb dX4_search_38 hl (by decide) rfl (fun ls hl => ?_)
  exact ((Exists.elim h (fun n h => wL_X4_search_40 S   n _ _ _ _ _ _ _ h))) H locs ls hw (lv_sub hl [2, 3, 4, 5, 1, 0] rfl)
set_option maxRecDepth 100000 in
set_option maxHeartbeats 4000000 in
theorem k_X4_search (l : Launch) (E : EE) (Z : ZZ) (M : MM) (a0 : Nat) (a1 : Nat) (a2 : Nat) (v3 : Int32) (Q : Int32 → MM → Prop) (h : P_X4_search Z M a0 a1 a2 v3 Q) : Ct_i l yX4_search cX4_search 8 (some .int) rm_X4_search E Z M [.ref a0, .ref a1, .ref a2, .int v3] Q := by
  refine Met.ofW (cc := cX4_search) (maxL := 8) (ret := some .int) (by decide) rfl ?_
  intro p e s m args below meth c s₁ B hml hv
  obtain ⟨rfl, hK, hP, hD, hZ⟩ := hv
  have S : Cx p m c meth cX4_search 8 s _ RX4 (some .int) := ⟨⟨B.exec, B.bytes, hml, findClass_of_methodNamed B.named, fun w hw => atoms_spec (ws := ws_ yX4_search cX4_search 8 (some .int)) B.pre w (List.mem_cons_of_mem _ hw)⟩, B.returns, B.notSynchronized⟩
  have hl := lv_entry ([.ref a0, .ref a1, .ref a2, .int v3]) (n := 8) (Nat.le_of_ble_eq_true rfl)
  rw [lg_entry_eq]
  generalize (lg_sl ([.ref a0, .ref a1, .ref a2, .int v3]) ++ List.replicate (8 - (lg_sl ([.ref a0, .ref a1, .ref a2, .int v3])).length) Slot.unset).toArray = ls at hl ⊢
  exact (wB_X4_search_0 S  M a0 a1 a2 v3 h) s.heap [] ls ⟨hK, hP, hD, va_S.rf, hZ⟩ hl
set_option maxRecDepth 100000 in
set_option maxHeartbeats 4000000 in
theorem wB_X1_volumeOf_36 (S : Cx p m c meth cX1_volumeOf 5 s args RX1 (some .int)) {Q : Int32 → MM → Prop} {K5 : MM → Nat → Nat → Int32 → Int32 → Int32 → Prop} (hK5 : ∀ (M : MM) (a0 : Nat) (a1 : Nat) (v2 : Int32) (v3 : Int32) (v4 : Int32), K5 M a0 a1 v2 v3 v4 → WG p l e rm_X1_volumeOf s m args below meth c 0 0 (MQi below E Z args s Q) E Z M 5 5 [(0, .ref a0), (1, .ref a1), (2, .int v2), (3, .int v3), (4, .int v4)] []) (M : MM) (a0 : Nat) (a1 : Nat) (v2 : Int32) (v3 : Int32) (v4 : Int32) (h : B_X1_volumeOf_36 Z Q K5 M a0 a1 v2 v3 v4) : WG p l e rm_X1_volumeOf s m args below meth c 0 0 (MQi below E Z args s Q) E Z M 36 5 [(0, .ref a0), (1, .ref a1), (2, .int v2), (3, .int v3), (4, .int v4)] [] := by
  intro H locs ls hw hl
  have hx := S.1.1
  have hb := S.1.2.1
  refine lv_iinc (v := (v4 + 1)) (lv' := [(4, .int (v4 + 1)), (0, .ref a0), (1, .ref a1), (2, .int v2), (3, .int v3)]) hx hb dX1_volumeOf_36 hl (k := 4) rfl rfl (by decide) rfl (fun ls hl => ?_)
  refine lv_goto (tgt := 5) hx hb dX1_volumeOf_39 (by decide) ?_
  exact (hK5 _ _ _ _ _ _ h) H locs ls hw (lv_sub hl [1, 2, 3, 4, 0] rfl)
set_option maxRecDepth 100000 in
set_option maxHeartbeats 4000000 in
theorem wB_X1_volumeOf_5 (S : Cx p m c meth cX1_volumeOf 5 s args RX1 (some .int)) {Q : Int32 → MM → Prop} {K5 : MM → Nat → Nat → Int32 → Int32 → Int32 → Prop} (hK5 : ∀ (M : MM) (a0 : Nat) (a1 : Nat) (v2 : Int32) (v3 : Int32) (v4 : Int32), K5 M a0 a1 v2 v3 v4 → WG p l e rm_X1_volumeOf s m args below meth c 0 0 (MQi below E Z args s Q) E Z M 5 5 [(0, .ref a0), (1, .ref a1), (2, .int v2), (3, .int v3), (4, .int v4)] []) (M : MM) (a0 : Nat) (a1 : Nat) (v2 : Int32) (v3 : Int32) (v4 : Int32) (h : B_X1_volumeOf_5 Z Q K5 M a0 a1 v2 v3 v4) : WG p l e rm_X1_volumeOf s m args below meth c 0 0 (MQi below E Z args s Q) E Z M 5 5 [(0, .ref a0), (1, .ref a1), (2, .int v2), (3, .int v3), (4, .int v4)] [] := by
  intro H locs ls hw hl
  have hx := S.1.1
  have hb := S.1.2.1
  refine lv_iload hx hb dX1_volumeOf_5 (lv_at hl 4 rfl) ?_
  refine lv_aload_n hx hb dX1_volumeOf_7 rfl (lv_at hl 0 rfl) ?_
  obtain ⟨k_0, h⟩ := h
  refine cv_i (As := []) (rest := [.int v4]) S.1 hw (k_X1_cellCount l E Z M a0  _ h) wv_X1_69 yc_X1_cellCount ⟨rfl, rfl⟩ ⟨Nat.le_of_ble_eq_true rfl, Nat.le_of_ble_eq_true rfl⟩ rfl hl.1 (Nat.le_of_ble_eq_true rfl) (ci := 1) (q := (RX1, TX1, 12)) rfl rfl (by rw [k_0]; decide) (cell_1 k_0) ⟨Nat.le_of_ble_eq_true rfl, Nat.le_of_ble_eq_true rfl⟩ dX1_volumeOf_8 (fun r8 M8 H locs h hw => ?_)
  refine lv_icmp_ge (tgt := 42) hx hb dX1_volumeOf_11 (by decide) (fun q_11 => ?_) (fun q_11 => ?_)
  · have h := h.1 q_11
    refine lv_iload_n hx hb dX1_volumeOf_42 rfl (lv_at hl 3 rfl) ?_
    exact we_i S hw h dX1_volumeOf_43
  · have h := h.2 q_11
    refine lv_aload_n hx hb dX1_volumeOf_14 rfl (lv_at hl 1 rfl) ?_
    refine lv_iload hx hb dX1_volumeOf_15 (lv_at hl 4 rfl) ?_
    obtain ⟨k_1, h⟩ := h
    refine cv_i (As := [.int v4]) (rest := []) S.1 hw (k_X0_numberAt l E Z M8 a1 v4 _ h) wv_X1_106 yc_X0_numberAt ⟨rfl, rfl⟩ ⟨Nat.le_of_ble_eq_true rfl, Nat.le_of_ble_eq_true rfl⟩ rfl hl.1 (Nat.le_of_ble_eq_true rfl) (ci := 0) (q := (RX0, TX0, 3)) rfl rfl (by rw [k_1]; decide) (cell_0 k_1) ⟨Nat.le_of_ble_eq_true rfl, Nat.le_of_ble_eq_true rfl⟩ dX1_volumeOf_17 (fun r17 M17 H locs h hw => ?_)
    refine lv_iload_n hx hb dX1_volumeOf_20 rfl (lv_at hl 2 rfl) ?_
    refine lv_icmp_ne (tgt := 36) hx hb dX1_volumeOf_21 (by decide) (fun q_21 => ?_) (fun q_21 => ?_)
    · have h := h.1 q_21
      exact ((wB_X1_volumeOf_36 S  hK5 _ _ _ _ _ _ h)) H locs ls hw (lv_sub hl [0, 1, 2, 3, 4] rfl)
    · have h := h.2 q_21
      refine lv_iload_n hx hb dX1_volumeOf_24 rfl (lv_at hl 3 rfl) ?_
      refine lv_aload_n hx hb dX1_volumeOf_25 rfl (lv_at hl 0 rfl) ?_
      obtain ⟨y26_2, hy_2, h⟩ := h
      refine gf_X1_41 S.1 hw k_0 hy_2 dX1_volumeOf_26 ?_
      refine lv_iload hx hb dX1_volumeOf_29 (lv_at hl 4 rfl) ?_
      obtain ⟨k_3, h⟩ := h
      refine cv_i (As := [.int v4]) (rest := [.int v3]) S.1 hw (k_X2_at l E Z M17 y26_2 v4 _ h) wv_X1_61 yc_X2_at ⟨rfl, rfl⟩ ⟨Nat.le_of_ble_eq_true rfl, Nat.le_of_ble_eq_true rfl⟩ rfl hl.1 (Nat.le_of_ble_eq_true rfl) (ci := 2) (q := (RX2, TX2, 1)) rfl rfl (by rw [k_3]; decide) (cell_2 k_3) ⟨Nat.le_of_ble_eq_true rfl, Nat.le_of_ble_eq_true rfl⟩ dX1_volumeOf_31 (fun r31 M31 H locs h hw => ?_)
      refine lv_iadd hx hb dX1_volumeOf_34 ?_
      refine lv_istore_n (lv' := [(3, .int (v3 + r31)), (0, .ref a0), (1, .ref a1), (2, .int v2), (4, .int v4)]) hx hb dX1_volumeOf_35 rfl hl (by decide) rfl (fun ls hl => ?_)
      exact ((wB_X1_volumeOf_36 S  hK5 _ _ _ _ _ _ h)) H locs ls hw (lv_sub hl [1, 2, 3, 0, 4] rfl)
theorem wL_X1_volumeOf_5 (S : Cx p m c meth cX1_volumeOf 5 s args RX1 (some .int)) {Q : Int32 → MM → Prop}   : ∀ (n : Nat) (M : MM) (a0 : Nat) (a1 : Nat) (v2 : Int32) (v3 : Int32) (v4 : Int32), L_X1_volumeOf_5 Z Q  n M a0 a1 v2 v3 v4 → WG p l e rm_X1_volumeOf s m args below meth c 0 0 (MQi below E Z args s Q) E Z M 5 5 [(0, .ref a0), (1, .ref a1), (2, .int v2), (3, .int v3), (4, .int v4)] []
  | 0, _, _, _, _, _, _, h => False.elim h
  | n + 1, M, a0, a1, v2, v3, v4, h => wB_X1_volumeOf_5 S  (wL_X1_volumeOf_5 S   n) M a0 a1 v2 v3 v4 h
set_option maxRecDepth 100000 in
set_option maxHeartbeats 4000000 in
theorem wB_X1_volumeOf_0 (S : Cx p m c meth cX1_volumeOf 5 s args RX1 (some .int)) {Q : Int32 → MM → Prop}   (M : MM) (a0 : Nat) (a1 : Nat) (v2 : Int32) (h : B_X1_volumeOf_0 Z Q  M a0 a1 v2) : WG p l e rm_X1_volumeOf s m args below meth c 0 0 (MQi below E Z args s Q) E Z M 0 5 [(0, .ref a0), (1, .ref a1), (2, .int v2)] [] := by
  intro H locs ls hw hl
  have hx := S.1.1
  have hb := S.1.2.1
  refine lv_iconst (v := 0) hx hb dX1_volumeOf_0 (by decide) ?_
  refine lv_istore_n (lv' := [(3, .int 0), (0, .ref a0), (1, .ref a1), (2, .int v2)]) hx hb dX1_volumeOf_1 rfl hl (by decide) rfl (fun ls hl => ?_)
  refine lv_iconst (v := 0) hx hb dX1_volumeOf_2 (by decide) ?_
  refine lv_istore (lv' := [(4, .int 0), (3, .int 0), (0, .ref a0), (1, .ref a1), (2, .int v2)]) hx hb dX1_volumeOf_3 hl (by decide) rfl (fun ls hl => ?_)
  exact ((Exists.elim h (fun n h => wL_X1_volumeOf_5 S   n _ _ _ _ _ _ h))) H locs ls hw (lv_sub hl [2, 3, 4, 1, 0] rfl)
set_option maxRecDepth 100000 in
set_option maxHeartbeats 4000000 in
theorem k_X1_volumeOf (l : Launch) (E : EE) (Z : ZZ) (M : MM) (a0 : Nat) (a1 : Nat) (v2 : Int32) (Q : Int32 → MM → Prop) (h : P_X1_volumeOf Z M a0 a1 v2 Q) : Ct_i l yX1_volumeOf cX1_volumeOf 5 (some .int) rm_X1_volumeOf E Z M [.ref a0, .ref a1, .int v2] Q := by
  refine Met.ofW (cc := cX1_volumeOf) (maxL := 5) (ret := some .int) (by decide) rfl ?_
  intro p e s m args below meth c s₁ B hml hv
  obtain ⟨rfl, hK, hP, hD, hZ⟩ := hv
  have S : Cx p m c meth cX1_volumeOf 5 s _ RX1 (some .int) := ⟨⟨B.exec, B.bytes, hml, findClass_of_methodNamed B.named, fun w hw => atoms_spec (ws := ws_ yX1_volumeOf cX1_volumeOf 5 (some .int)) B.pre w (List.mem_cons_of_mem _ hw)⟩, B.returns, B.notSynchronized⟩
  have hl := lv_entry ([.ref a0, .ref a1, .int v2]) (n := 5) (Nat.le_of_ble_eq_true rfl)
  rw [lg_entry_eq]
  generalize (lg_sl ([.ref a0, .ref a1, .int v2]) ++ List.replicate (5 - (lg_sl ([.ref a0, .ref a1, .int v2])).length) Slot.unset).toArray = ls at hl ⊢
  exact (wB_X1_volumeOf_0 S  M a0 a1 v2 h) s.heap [] ls ⟨hK, hP, hD, va_S.rf, hZ⟩ hl
set_option maxRecDepth 100000 in
set_option maxHeartbeats 4000000 in
theorem wB_X1_removeBlock_39 (S : Cx p m c meth cX1_removeBlock 5 s args RX1 (some .int)) {Q : Int32 → MM → Prop} {K10 : MM → Nat → Nat → Int32 → Int32 → Int32 → Prop} (hK10 : ∀ (M : MM) (a0 : Nat) (a1 : Nat) (v2 : Int32) (v3 : Int32) (v4 : Int32), K10 M a0 a1 v2 v3 v4 → WG p l e rm_X1_removeBlock s m args below meth c 0 0 (MQi below E Z args s Q) E Z M 10 5 [(0, .ref a0), (1, .ref a1), (2, .int v2), (3, .int v3), (4, .int v4)] []) (M : MM) (a0 : Nat) (a1 : Nat) (v2 : Int32) (v3 : Int32) (v4 : Int32) (h : B_X1_removeBlock_39 Z Q K10 M a0 a1 v2 v3 v4) : WG p l e rm_X1_removeBlock s m args below meth c 0 0 (MQi below E Z args s Q) E Z M 39 5 [(0, .ref a0), (1, .ref a1), (2, .int v2), (3, .int v3), (4, .int v4)] [] := by
  intro H locs ls hw hl
  have hx := S.1.1
  have hb := S.1.2.1
  refine lv_iinc (v := (v4 + 1)) (lv' := [(4, .int (v4 + 1)), (0, .ref a0), (1, .ref a1), (2, .int v2), (3, .int v3)]) hx hb dX1_removeBlock_39 hl (k := 4) rfl rfl (by decide) rfl (fun ls hl => ?_)
  refine lv_goto (tgt := 10) hx hb dX1_removeBlock_42 (by decide) ?_
  exact (hK10 _ _ _ _ _ _ h) H locs ls hw (lv_sub hl [1, 2, 3, 4, 0] rfl)
set_option maxRecDepth 100000 in
set_option maxHeartbeats 4000000 in
theorem wB_X1_removeBlock_103 (S : Cx p m c meth cX1_removeBlock 5 s args RX1 (some .int)) {Q : Int32 → MM → Prop}   (M : MM) (a0 : Nat) (v3 : Int32) (h : B_X1_removeBlock_103 Z Q  M a0 v3) : WG p l e rm_X1_removeBlock s m args below meth c 0 0 (MQi below E Z args s Q) E Z M 103 5 [(0, .ref a0), (3, .int v3)] [] := by
  intro H locs ls hw hl
  have hx := S.1.1
  have hb := S.1.2.1
  refine lv_aload_n hx hb dX1_removeBlock_103 rfl (lv_at hl 0 rfl) ?_
  refine lv_dup hx hb dX1_removeBlock_104 rfl ?_
  obtain ⟨k_0, h⟩ := h
  refine gf_X1_33 S.1 hw k_0 dX1_removeBlock_105 ?_
  refine lv_iconst (v := 1) hx hb dX1_removeBlock_108 (by decide) ?_
  refine lv_iadd hx hb dX1_removeBlock_109 ?_
  refine pf_X1_33 S.1 hw k_0 dX1_removeBlock_110 (fun H locs hw => ?_)
  refine lv_aload_n hx hb dX1_removeBlock_113 rfl (lv_at hl 0 rfl) ?_
  refine lv_dup hx hb dX1_removeBlock_114 rfl ?_
  refine gf_X1_30 S.1 hw k_0 dX1_removeBlock_115 ?_
  refine lv_iload_n hx hb dX1_removeBlock_118 rfl (lv_at hl 1 rfl) ?_
  refine lv_iadd hx hb dX1_removeBlock_119 ?_
  refine pf_X1_30 S.1 hw k_0 dX1_removeBlock_120 (fun H locs hw => ?_)
  refine lv_iload_n hx hb dX1_removeBlock_123 rfl (lv_at hl 1 rfl) ?_
  exact we_i S hw h dX1_removeBlock_124
set_option maxRecDepth 100000 in
set_option maxHeartbeats 4000000 in
theorem wB_X1_removeBlock_10 (S : Cx p m c meth cX1_removeBlock 5 s args RX1 (some .int)) {Q : Int32 → MM → Prop} {K10 : MM → Nat → Nat → Int32 → Int32 → Int32 → Prop} (hK10 : ∀ (M : MM) (a0 : Nat) (a1 : Nat) (v2 : Int32) (v3 : Int32) (v4 : Int32), K10 M a0 a1 v2 v3 v4 → WG p l e rm_X1_removeBlock s m args below meth c 0 0 (MQi below E Z args s Q) E Z M 10 5 [(0, .ref a0), (1, .ref a1), (2, .int v2), (3, .int v3), (4, .int v4)] []) (M : MM) (a0 : Nat) (a1 : Nat) (v2 : Int32) (v3 : Int32) (v4 : Int32) (h : B_X1_removeBlock_10 Z Q K10 M a0 a1 v2 v3 v4) : WG p l e rm_X1_removeBlock s m args below meth c 0 0 (MQi below E Z args s Q) E Z M 10 5 [(0, .ref a0), (1, .ref a1), (2, .int v2), (3, .int v3), (4, .int v4)] [] := by
  intro H locs ls hw hl
  have hx := S.1.1
  have hb := S.1.2.1
  refine lv_iload hx hb dX1_removeBlock_10 (lv_at hl 4 rfl) ?_
  refine lv_aload_n hx hb dX1_removeBlock_12 rfl (lv_at hl 0 rfl) ?_
  obtain ⟨k_0, h⟩ := h
  refine cv_i (As := []) (rest := [.int v4]) S.1 hw (k_X1_cellCount l E Z M a0  _ h) wv_X1_69 yc_X1_cellCount ⟨rfl, rfl⟩ ⟨Nat.le_of_ble_eq_true rfl, Nat.le_of_ble_eq_true rfl⟩ rfl hl.1 (Nat.le_of_ble_eq_true rfl) (ci := 1) (q := (RX1, TX1, 12)) rfl rfl (by rw [k_0]; decide) (cell_1 k_0) ⟨Nat.le_of_ble_eq_true rfl, Nat.le_of_ble_eq_true rfl⟩ dX1_removeBlock_13 (fun r13 M13 H locs h hw => ?_)
  refine lv_icmp_ge (tgt := 45) hx hb dX1_removeBlock_16 (by decide) (fun q_16 => ?_) (fun q_16 => ?_)
  · have h := h.1 q_16
    refine lv_aload_n hx hb dX1_removeBlock_45 rfl (lv_at hl 0 rfl) ?_
    refine gf_X1_33 S.1 hw k_0 dX1_removeBlock_46 ?_
    refine lv_bipush (v := 40) hx hb dX1_removeBlock_49 (by decide) ?_
    refine lv_icmp_ge (tgt := 103) hx hb dX1_removeBlock_51 (by decide) (fun q_51 => ?_) (fun q_51 => ?_)
    · have h := h.1 q_51
      exact ((wB_X1_removeBlock_103 S   _ _ _ h)) H locs ls hw (lv_sub hl [0, 3] rfl)
    · have h := h.2 q_51
      refine lv_aload_n hx hb dX1_removeBlock_54 rfl (lv_at hl 0 rfl) ?_
      obtain ⟨y55_1, hy_1, h⟩ := h
      refine gf_X1_48 S.1 hw k_0 hy_1 dX1_removeBlock_55 ?_
      refine lv_iconst (v := 3) hx hb dX1_removeBlock_58 (by decide) ?_
      refine lv_aload_n hx hb dX1_removeBlock_59 rfl (lv_at hl 0 rfl) ?_
      refine gf_X1_33 S.1 hw k_0 dX1_removeBlock_60 ?_
      refine lv_imul hx hb dX1_removeBlock_63 ?_
      refine lv_iload_n hx hb dX1_removeBlock_64 rfl (lv_at hl 2 rfl) ?_
      obtain ⟨k_2, h⟩ := h
      refine cv_v (As := [.int (3 * (mI M13 7 a0)), .int v2]) (rest := []) S.1 hw (k_X2_put l E Z M13 y55_1 (3 * (mI M13 7 a0)) v2 _ h) wv_X1_65 yc_X2_put ⟨rfl, rfl⟩ ⟨Nat.le_of_ble_eq_true rfl, Nat.le_of_ble_eq_true rfl⟩ rfl hl.1 (Nat.le_of_ble_eq_true rfl) (ci := 2) (q := (RX2, TX2, 1)) rfl rfl (by rw [k_2]; decide) (cell_2 k_2) ⟨Nat.le_of_ble_eq_true rfl, Nat.le_of_ble_eq_true rfl⟩ dX1_removeBlock_65 (fun M65 H locs h hw => ?_)
      refine lv_aload_n hx hb dX1_removeBlock_68 rfl (lv_at hl 0 rfl) ?_
      refine gf_X1_48 S.1 hw k_0 hy_1 dX1_removeBlock_69 ?_
      refine lv_iconst (v := 3) hx hb dX1_removeBlock_72 (by decide) ?_
      refine lv_aload_n hx hb dX1_removeBlock_73 rfl (lv_at hl 0 rfl) ?_
      refine gf_X1_33 S.1 hw k_0 dX1_removeBlock_74 ?_
      refine lv_imul hx hb dX1_removeBlock_77 ?_
      refine lv_iconst (v := 1) hx hb dX1_removeBlock_78 (by decide) ?_
      refine lv_iadd hx hb dX1_removeBlock_79 ?_
      refine lv_iload_n hx hb dX1_removeBlock_80 rfl (lv_at hl 3 rfl) ?_
      refine cv_v (As := [.int ((3 * (mI M65 7 a0)) + 1), .int v3]) (rest := []) S.1 hw (k_X2_put l E Z M65 y55_1 ((3 * (mI M65 7 a0)) + 1) v3 _ h) wv_X1_65 yc_X2_put ⟨rfl, rfl⟩ ⟨Nat.le_of_ble_eq_true rfl, Nat.le_of_ble_eq_true rfl⟩ rfl hl.1 (Nat.le_of_ble_eq_true rfl) (ci := 2) (q := (RX2, TX2, 1)) rfl rfl (by rw [k_2]; decide) (cell_2 k_2) ⟨Nat.le_of_ble_eq_true rfl, Nat.le_of_ble_eq_true rfl⟩ dX1_removeBlock_81 (fun M81 H locs h hw => ?_)
      refine lv_aload_n hx hb dX1_removeBlock_84 rfl (lv_at hl 0 rfl) ?_
      refine gf_X1_48 S.1 hw k_0 hy_1 dX1_removeBlock_85 ?_
      refine lv_iconst (v := 3) hx hb dX1_removeBlock_88 (by decide) ?_
      refine lv_aload_n hx hb dX1_removeBlock_89 rfl (lv_at hl 0 rfl) ?_
      refine gf_X1_33 S.1 hw k_0 dX1_removeBlock_90 ?_
      refine lv_imul hx hb dX1_removeBlock_93 ?_
      refine lv_iconst (v := 2) hx hb dX1_removeBlock_94 (by decide) ?_
      refine lv_iadd hx hb dX1_removeBlock_95 ?_
      refine lv_aload_n hx hb dX1_removeBlock_96 rfl (lv_at hl 0 rfl) ?_
      refine gf_X1_21 S.1 hw k_0 dX1_removeBlock_97 ?_
      refine cv_v (As := [.int ((3 * (mI M81 7 a0)) + 2), .int (mI M81 3 a0)]) (rest := []) S.1 hw (k_X2_put l E Z M81 y55_1 ((3 * (mI M81 7 a0)) + 2) (mI M81 3 a0) _ h) wv_X1_65 yc_X2_put ⟨rfl, rfl⟩ ⟨Nat.le_of_ble_eq_true rfl, Nat.le_of_ble_eq_true rfl⟩ rfl hl.1 (Nat.le_of_ble_eq_true rfl) (ci := 2) (q := (RX2, TX2, 1)) rfl rfl (by rw [k_2]; decide) (cell_2 k_2) ⟨Nat.le_of_ble_eq_true rfl, Nat.le_of_ble_eq_true rfl⟩ dX1_removeBlock_100 (fun M100 H locs h hw => ?_)
      exact ((wB_X1_removeBlock_103 S   _ _ _ h)) H locs ls hw (lv_sub hl [0, 3] rfl)
  · have h := h.2 q_16
    refine lv_aload_n hx hb dX1_removeBlock_19 rfl (lv_at hl 1 rfl) ?_
    refine lv_iload hx hb dX1_removeBlock_20 (lv_at hl 4 rfl) ?_
    obtain ⟨k_3, h⟩ := h
    refine cv_i (As := [.int v4]) (rest := []) S.1 hw (k_X0_numberAt l E Z M13 a1 v4 _ h) wv_X1_106 yc_X0_numberAt ⟨rfl, rfl⟩ ⟨Nat.le_of_ble_eq_true rfl, Nat.le_of_ble_eq_true rfl⟩ rfl hl.1 (Nat.le_of_ble_eq_true rfl) (ci := 0) (q := (RX0, TX0, 3)) rfl rfl (by rw [k_3]; decide) (cell_0 k_3) ⟨Nat.le_of_ble_eq_true rfl, Nat.le_of_ble_eq_true rfl⟩ dX1_removeBlock_22 (fun r22 M22 H locs h hw => ?_)
    refine lv_iload_n hx hb dX1_removeBlock_25 rfl (lv_at hl 2 rfl) ?_
    refine lv_icmp_ne (tgt := 39) hx hb dX1_removeBlock_26 (by decide) (fun q_26 => ?_) (fun q_26 => ?_)
    · have h := h.1 q_26
      exact ((wB_X1_removeBlock_39 S  hK10 _ _ _ _ _ _ h)) H locs ls hw (lv_sub hl [0, 1, 2, 3, 4] rfl)
    · have h := h.2 q_26
      refine lv_aload_n hx hb dX1_removeBlock_29 rfl (lv_at hl 0 rfl) ?_
      obtain ⟨y30_4, hy_4, h⟩ := h
      refine gf_X1_41 S.1 hw k_0 hy_4 dX1_removeBlock_30 ?_
      refine lv_iload hx hb dX1_removeBlock_33 (lv_at hl 4 rfl) ?_
      refine lv_iconst (v := 0) hx hb dX1_removeBlock_35 (by decide) ?_
      obtain ⟨k_5, h⟩ := h
      refine cv_v (As := [.int v4, .int 0]) (rest := []) S.1 hw (k_X2_put l E Z M22 y30_4 v4 0 _ h) wv_X1_65 yc_X2_put ⟨rfl, rfl⟩ ⟨Nat.le_of_ble_eq_true rfl, Nat.le_of_ble_eq_true rfl⟩ rfl hl.1 (Nat.le_of_ble_eq_true rfl) (ci := 2) (q := (RX2, TX2, 1)) rfl rfl (by rw [k_5]; decide) (cell_2 k_5) ⟨Nat.le_of_ble_eq_true rfl, Nat.le_of_ble_eq_true rfl⟩ dX1_removeBlock_36 (fun M36 H locs h hw => ?_)
      exact ((wB_X1_removeBlock_39 S  hK10 _ _ _ _ _ _ h)) H locs ls hw (lv_sub hl [0, 1, 2, 3, 4] rfl)
theorem wL_X1_removeBlock_10 (S : Cx p m c meth cX1_removeBlock 5 s args RX1 (some .int)) {Q : Int32 → MM → Prop}   : ∀ (n : Nat) (M : MM) (a0 : Nat) (a1 : Nat) (v2 : Int32) (v3 : Int32) (v4 : Int32), L_X1_removeBlock_10 Z Q  n M a0 a1 v2 v3 v4 → WG p l e rm_X1_removeBlock s m args below meth c 0 0 (MQi below E Z args s Q) E Z M 10 5 [(0, .ref a0), (1, .ref a1), (2, .int v2), (3, .int v3), (4, .int v4)] []
  | 0, _, _, _, _, _, _, h => False.elim h
  | n + 1, M, a0, a1, v2, v3, v4, h => wB_X1_removeBlock_10 S  (wL_X1_removeBlock_10 S   n) M a0 a1 v2 v3 v4 h
set_option maxRecDepth 100000 in
set_option maxHeartbeats 4000000 in
theorem wB_X1_removeBlock_0 (S : Cx p m c meth cX1_removeBlock 5 s args RX1 (some .int)) {Q : Int32 → MM → Prop}   (M : MM) (a0 : Nat) (a1 : Nat) (v2 : Int32) (h : B_X1_removeBlock_0 Z Q  M a0 a1 v2) : WG p l e rm_X1_removeBlock s m args below meth c 0 0 (MQi below E Z args s Q) E Z M 0 5 [(0, .ref a0), (1, .ref a1), (2, .int v2)] [] := by
  intro H locs ls hw hl
  have hx := S.1.1
  have hb := S.1.2.1
  refine lv_aload_n hx hb dX1_removeBlock_0 rfl (lv_at hl 0 rfl) ?_
  refine lv_aload_n hx hb dX1_removeBlock_1 rfl (lv_at hl 1 rfl) ?_
  refine lv_iload_n hx hb dX1_removeBlock_2 rfl (lv_at hl 2 rfl) ?_
  obtain ⟨k_0, h⟩ := h
  refine cv_i (As := [.ref a1, .int v2]) (rest := []) S.1 hw (k_X1_volumeOf l E Z M a0 a1 v2 _ h) wv_X1_111 yc_X1_volumeOf ⟨rfl, rfl⟩ ⟨Nat.le_of_ble_eq_true rfl, Nat.le_of_ble_eq_true rfl⟩ rfl hl.1 (Nat.le_of_ble_eq_true rfl) (ci := 1) (q := (RX1, TX1, 12)) rfl rfl (by rw [k_0]; decide) (cell_1 k_0) ⟨Nat.le_of_ble_eq_true rfl, Nat.le_of_ble_eq_true rfl⟩ dX1_removeBlock_3 (fun r3 M3 H locs h hw => ?_)
  refine lv_istore_n (lv' := [(3, .int r3), (0, .ref a0), (1, .ref a1), (2, .int v2)]) hx hb dX1_removeBlock_6 rfl hl (by decide) rfl (fun ls hl => ?_)
  refine lv_iconst (v := 0) hx hb dX1_removeBlock_7 (by decide) ?_
  refine lv_istore (lv' := [(4, .int 0), (3, .int r3), (0, .ref a0), (1, .ref a1), (2, .int v2)]) hx hb dX1_removeBlock_8 hl (by decide) rfl (fun ls hl => ?_)
  exact ((Exists.elim h (fun n h => wL_X1_removeBlock_10 S   n _ _ _ _ _ _ h))) H locs ls hw (lv_sub hl [2, 3, 4, 1, 0] rfl)
set_option maxRecDepth 100000 in
set_option maxHeartbeats 4000000 in
theorem k_X1_removeBlock (l : Launch) (E : EE) (Z : ZZ) (M : MM) (a0 : Nat) (a1 : Nat) (v2 : Int32) (Q : Int32 → MM → Prop) (h : P_X1_removeBlock Z M a0 a1 v2 Q) : Ct_i l yX1_removeBlock cX1_removeBlock 5 (some .int) rm_X1_removeBlock E Z M [.ref a0, .ref a1, .int v2] Q := by
  refine Met.ofW (cc := cX1_removeBlock) (maxL := 5) (ret := some .int) (by decide) rfl ?_
  intro p e s m args below meth c s₁ B hml hv
  obtain ⟨rfl, hK, hP, hD, hZ⟩ := hv
  have S : Cx p m c meth cX1_removeBlock 5 s _ RX1 (some .int) := ⟨⟨B.exec, B.bytes, hml, findClass_of_methodNamed B.named, fun w hw => atoms_spec (ws := ws_ yX1_removeBlock cX1_removeBlock 5 (some .int)) B.pre w (List.mem_cons_of_mem _ hw)⟩, B.returns, B.notSynchronized⟩
  have hl := lv_entry ([.ref a0, .ref a1, .int v2]) (n := 5) (Nat.le_of_ble_eq_true rfl)
  rw [lg_entry_eq]
  generalize (lg_sl ([.ref a0, .ref a1, .int v2]) ++ List.replicate (5 - (lg_sl ([.ref a0, .ref a1, .int v2])).length) Slot.unset).toArray = ls at hl ⊢
  exact (wB_X1_removeBlock_0 S  M a0 a1 v2 h) s.heap [] ls ⟨hK, hP, hD, va_S.rf, hZ⟩ hl
set_option maxRecDepth 100000 in
set_option maxHeartbeats 4000000 in
theorem wB_X0_forget_29 (S : Cx p m c meth cX0_forget 3 s args RX0 (none)) {Q : MM → Prop} {K2 : MM → Nat → Int32 → Int32 → Prop} (hK2 : ∀ (M : MM) (a0 : Nat) (v1 : Int32) (v2 : Int32), K2 M a0 v1 v2 → WG p l e rm_X0_forget s m args below meth c 0 0 (MQv below E Z args s Q) E Z M 2 3 [(0, .ref a0), (1, .int v1), (2, .int v2)] []) (M : MM) (a0 : Nat) (v1 : Int32) (v2 : Int32) (h : B_X0_forget_29 Z Q K2 M a0 v1 v2) : WG p l e rm_X0_forget s m args below meth c 0 0 (MQv below E Z args s Q) E Z M 29 3 [(0, .ref a0), (1, .int v1), (2, .int v2)] [] := by
  intro H locs ls hw hl
  have hx := S.1.1
  have hb := S.1.2.1
  refine lv_iinc (v := (v2 + 1)) (lv' := [(2, .int (v2 + 1)), (0, .ref a0), (1, .int v1)]) hx hb dX0_forget_29 hl (k := 2) rfl rfl (by decide) rfl (fun ls hl => ?_)
  refine lv_goto (tgt := 2) hx hb dX0_forget_32 (by decide) ?_
  exact (hK2 _ _ _ _ h) H locs ls hw (lv_sub hl [1, 2, 0] rfl)
set_option maxRecDepth 100000 in
set_option maxHeartbeats 4000000 in
theorem wB_X0_forget_2 (S : Cx p m c meth cX0_forget 3 s args RX0 (none)) {Q : MM → Prop} {K2 : MM → Nat → Int32 → Int32 → Prop} (hK2 : ∀ (M : MM) (a0 : Nat) (v1 : Int32) (v2 : Int32), K2 M a0 v1 v2 → WG p l e rm_X0_forget s m args below meth c 0 0 (MQv below E Z args s Q) E Z M 2 3 [(0, .ref a0), (1, .int v1), (2, .int v2)] []) (M : MM) (a0 : Nat) (v1 : Int32) (v2 : Int32) (h : B_X0_forget_2 Z Q K2 M a0 v1 v2) : WG p l e rm_X0_forget s m args below meth c 0 0 (MQv below E Z args s Q) E Z M 2 3 [(0, .ref a0), (1, .int v1), (2, .int v2)] [] := by
  intro H locs ls hw hl
  have hx := S.1.1
  have hb := S.1.2.1
  refine lv_iload_n hx hb dX0_forget_2 rfl (lv_at hl 2 rfl) ?_
  refine lv_bipush (v := 49) hx hb dX0_forget_3 (by decide) ?_
  refine lv_icmp_ge (tgt := 35) hx hb dX0_forget_5 (by decide) (fun q_5 => ?_) (fun q_5 => ?_)
  · have h := h.1 q_5
    exact we_v S hw h dX0_forget_35
  · have h := h.2 q_5
    refine lv_aload_n hx hb dX0_forget_8 rfl (lv_at hl 0 rfl) ?_
    obtain ⟨k_0, h⟩ := h
    obtain ⟨y9_1, hy_1, h⟩ := h
    refine gf_X0_14 S.1 hw k_0 hy_1 dX0_forget_9 ?_
    refine lv_iload_n hx hb dX0_forget_12 rfl (lv_at hl 2 rfl) ?_
    obtain ⟨k_2, h⟩ := h
    refine cv_i (As := [.int v2]) (rest := []) S.1 hw (k_X2_at l E Z M y9_1 v2 _ h) wv_X0_39 yc_X2_at ⟨rfl, rfl⟩ ⟨Nat.le_of_ble_eq_true rfl, Nat.le_of_ble_eq_true rfl⟩ rfl hl.1 (Nat.le_of_ble_eq_true rfl) (ci := 2) (q := (RX2, TX2, 1)) rfl rfl (by rw [k_2]; decide) (cell_2 k_2) ⟨Nat.le_of_ble_eq_true rfl, Nat.le_of_ble_eq_true rfl⟩ dX0_forget_13 (fun r13 M13 H locs h hw => ?_)
    refine lv_iload_n hx hb dX0_forget_16 rfl (lv_at hl 1 rfl) ?_
    refine lv_icmp_ne (tgt := 29) hx hb dX0_forget_17 (by decide) (fun q_17 => ?_) (fun q_17 => ?_)
    · have h := h.1 q_17
      exact ((wB_X0_forget_29 S  hK2 _ _ _ _ h)) H locs ls hw (lv_sub hl [0, 1, 2] rfl)
    · have h := h.2 q_17
      refine lv_aload_n hx hb dX0_forget_20 rfl (lv_at hl 0 rfl) ?_
      refine gf_X0_14 S.1 hw k_0 hy_1 dX0_forget_21 ?_
      refine lv_iload_n hx hb dX0_forget_24 rfl (lv_at hl 2 rfl) ?_
      refine lv_iconst (v := (-1)) hx hb dX0_forget_25 (by decide) ?_
      refine cv_v (As := [.int v2, .int (-1)]) (rest := []) S.1 hw (k_X2_put l E Z M13 y9_1 v2 (-1) _ h) wv_X0_47 yc_X2_put ⟨rfl, rfl⟩ ⟨Nat.le_of_ble_eq_true rfl, Nat.le_of_ble_eq_true rfl⟩ rfl hl.1 (Nat.le_of_ble_eq_true rfl) (ci := 2) (q := (RX2, TX2, 1)) rfl rfl (by rw [k_2]; decide) (cell_2 k_2) ⟨Nat.le_of_ble_eq_true rfl, Nat.le_of_ble_eq_true rfl⟩ dX0_forget_26 (fun M26 H locs h hw => ?_)
      exact ((wB_X0_forget_29 S  hK2 _ _ _ _ h)) H locs ls hw (lv_sub hl [0, 1, 2] rfl)
theorem wL_X0_forget_2 (S : Cx p m c meth cX0_forget 3 s args RX0 (none)) {Q : MM → Prop}   : ∀ (n : Nat) (M : MM) (a0 : Nat) (v1 : Int32) (v2 : Int32), L_X0_forget_2 Z Q  n M a0 v1 v2 → WG p l e rm_X0_forget s m args below meth c 0 0 (MQv below E Z args s Q) E Z M 2 3 [(0, .ref a0), (1, .int v1), (2, .int v2)] []
  | 0, _, _, _, _, h => False.elim h
  | n + 1, M, a0, v1, v2, h => wB_X0_forget_2 S  (wL_X0_forget_2 S   n) M a0 v1 v2 h
set_option maxRecDepth 100000 in
set_option maxHeartbeats 4000000 in
theorem wB_X0_forget_0 (S : Cx p m c meth cX0_forget 3 s args RX0 (none)) {Q : MM → Prop}   (M : MM) (a0 : Nat) (v1 : Int32) (h : B_X0_forget_0 Z Q  M a0 v1) : WG p l e rm_X0_forget s m args below meth c 0 0 (MQv below E Z args s Q) E Z M 0 3 [(0, .ref a0), (1, .int v1)] [] := by
  intro H locs ls hw hl
  have hx := S.1.1
  have hb := S.1.2.1
  refine lv_iconst (v := 0) hx hb dX0_forget_0 (by decide) ?_
  refine lv_istore_n (lv' := [(2, .int 0), (0, .ref a0), (1, .int v1)]) hx hb dX0_forget_1 rfl hl (by decide) rfl (fun ls hl => ?_)
  exact ((Exists.elim h (fun n h => wL_X0_forget_2 S   n _ _ _ _ h))) H locs ls hw (lv_sub hl [1, 2, 0] rfl)
set_option maxRecDepth 100000 in
set_option maxHeartbeats 4000000 in
theorem k_X0_forget (l : Launch) (E : EE) (Z : ZZ) (M : MM) (a0 : Nat) (v1 : Int32) (Q : MM → Prop) (h : P_X0_forget Z M a0 v1 Q) : Ct_v l yX0_forget cX0_forget 3 (none) rm_X0_forget E Z M [.ref a0, .int v1] Q := by
  refine Met.ofW (cc := cX0_forget) (maxL := 3) (ret := none) (by decide) rfl ?_
  intro p e s m args below meth c s₁ B hml hv
  obtain ⟨rfl, hK, hP, hD, hZ⟩ := hv
  have S : Cx p m c meth cX0_forget 3 s _ RX0 (none) := ⟨⟨B.exec, B.bytes, hml, findClass_of_methodNamed B.named, fun w hw => atoms_spec (ws := ws_ yX0_forget cX0_forget 3 (none)) B.pre w (List.mem_cons_of_mem _ hw)⟩, B.returns, B.notSynchronized⟩
  have hl := lv_entry ([.ref a0, .int v1]) (n := 3) (Nat.le_of_ble_eq_true rfl)
  rw [lg_entry_eq]
  generalize (lg_sl ([.ref a0, .int v1]) ++ List.replicate (3 - (lg_sl ([.ref a0, .int v1])).length) Slot.unset).toArray = ls at hl ⊢
  exact (wB_X0_forget_0 S  M a0 v1 h) s.heap [] ls ⟨hK, hP, hD, va_S.rf, hZ⟩ hl
set_option maxRecDepth 100000 in
set_option maxHeartbeats 4000000 in
theorem wB_X1_waterBeside_40 (S : Cx p m c meth cX1_waterBeside 5 s args RX1 (some .int)) {Q : Int32 → MM → Prop} {K43 : MM → Nat → Int32 → Int32 → Int32 → Prop} (hK43 : ∀ (M : MM) (a0 : Nat) (v1 : Int32) (v2 : Int32) (v3 : Int32), K43 M a0 v1 v2 v3 → WG p l e rm_X1_waterBeside s m args below meth c 0 0 (MQi below E Z args s Q) E Z M 43 5 [(0, .ref a0), (1, .int v1), (2, .int v2), (3, .int v3)] []) (M : MM) (a0 : Nat) (v1 : Int32) (v2 : Int32) (v3 : Int32) (h : B_X1_waterBeside_40 Z Q K43 M a0 v1 v2 v3) : WG p l e rm_X1_waterBeside s m args below meth c 0 0 (MQi below E Z args s Q) E Z M 40 5 [(0, .ref a0), (1, .int v1), (2, .int v2), (3, .int v3)] [] := by
  intro H locs ls hw hl
  have hx := S.1.1
  have hb := S.1.2.1
  refine lv_iinc (v := (v2 + 1)) (lv' := [(2, .int (v2 + 1)), (0, .ref a0), (1, .int v1), (3, .int v3)]) hx hb dX1_waterBeside_40 hl (k := 2) rfl rfl (by decide) rfl (fun ls hl => ?_)
  exact (hK43 _ _ _ _ _ h) H locs ls hw (lv_sub hl [1, 2, 0, 3] rfl)
set_option maxRecDepth 100000 in
set_option maxHeartbeats 4000000 in
theorem wB_X1_waterBeside_43 (S : Cx p m c meth cX1_waterBeside 5 s args RX1 (some .int)) {Q : Int32 → MM → Prop} {K4 : MM → Nat → Int32 → Int32 → Int32 → Prop} (hK4 : ∀ (M : MM) (a0 : Nat) (v1 : Int32) (v2 : Int32) (v3 : Int32), K4 M a0 v1 v2 v3 → WG p l e rm_X1_waterBeside s m args below meth c 0 0 (MQi below E Z args s Q) E Z M 4 5 [(0, .ref a0), (1, .int v1), (2, .int v2), (3, .int v3)] []) (M : MM) (a0 : Nat) (v1 : Int32) (v2 : Int32) (v3 : Int32) (h : B_X1_waterBeside_43 Z Q K4 M a0 v1 v2 v3) : WG p l e rm_X1_waterBeside s m args below meth c 0 0 (MQi below E Z args s Q) E Z M 43 5 [(0, .ref a0), (1, .int v1), (2, .int v2), (3, .int v3)] [] := by
  intro H locs ls hw hl
  have hx := S.1.1
  have hb := S.1.2.1
  refine lv_iinc (v := (v3 + 1)) (lv' := [(3, .int (v3 + 1)), (0, .ref a0), (1, .int v1), (2, .int v2)]) hx hb dX1_waterBeside_43 hl (k := 3) rfl rfl (by decide) rfl (fun ls hl => ?_)
  refine lv_goto (tgt := 4) hx hb dX1_waterBeside_46 (by decide) ?_
  exact (hK4 _ _ _ _ _ h) H locs ls hw (lv_sub hl [1, 2, 3, 0] rfl)
set_option maxRecDepth 100000 in
set_option maxHeartbeats 4000000 in
theorem wB_X1_waterBeside_4 (S : Cx p m c meth cX1_waterBeside 5 s args RX1 (some .int)) {Q : Int32 → MM → Prop} {K4 : MM → Nat → Int32 → Int32 → Int32 → Prop} (hK4 : ∀ (M : MM) (a0 : Nat) (v1 : Int32) (v2 : Int32) (v3 : Int32), K4 M a0 v1 v2 v3 → WG p l e rm_X1_waterBeside s m args below meth c 0 0 (MQi below E Z args s Q) E Z M 4 5 [(0, .ref a0), (1, .int v1), (2, .int v2), (3, .int v3)] []) (M : MM) (a0 : Nat) (v1 : Int32) (v2 : Int32) (v3 : Int32) (h : B_X1_waterBeside_4 Z Q K4 M a0 v1 v2 v3) : WG p l e rm_X1_waterBeside s m args below meth c 0 0 (MQi below E Z args s Q) E Z M 4 5 [(0, .ref a0), (1, .int v1), (2, .int v2), (3, .int v3)] [] := by
  intro H locs ls hw hl
  have hx := S.1.1
  have hb := S.1.2.1
  refine lv_iload_n hx hb dX1_waterBeside_4 rfl (lv_at hl 3 rfl) ?_
  refine lv_iconst (v := 4) hx hb dX1_waterBeside_5 (by decide) ?_
  refine lv_icmp_ge (tgt := 49) hx hb dX1_waterBeside_6 (by decide) (fun q_6 => ?_) (fun q_6 => ?_)
  · have h := h.1 q_6
    refine lv_iload_n hx hb dX1_waterBeside_49 rfl (lv_at hl 2 rfl) ?_
    exact we_i S hw h dX1_waterBeside_50
  · have h := h.2 q_6
    refine lv_aload_n hx hb dX1_waterBeside_9 rfl (lv_at hl 0 rfl) ?_
    refine lv_iload_n hx hb dX1_waterBeside_10 rfl (lv_at hl 1 rfl) ?_
    refine lv_iload_n hx hb dX1_waterBeside_11 rfl (lv_at hl 3 rfl) ?_
    obtain ⟨k_0, h⟩ := h
    refine cv_i (As := [.int v1, .int v3]) (rest := []) S.1 hw (k_X1_beside l E Z M a0 v1 v3 _ h) wv_X1_83 yc_X1_beside ⟨rfl, rfl⟩ ⟨Nat.le_of_ble_eq_true rfl, Nat.le_of_ble_eq_true rfl⟩ rfl hl.1 (Nat.le_of_ble_eq_true rfl) (ci := 1) (q := (RX1, TX1, 12)) rfl rfl (by rw [k_0]; decide) (cell_1 k_0) ⟨Nat.le_of_ble_eq_true rfl, Nat.le_of_ble_eq_true rfl⟩ dX1_waterBeside_12 (fun r12 M12 H locs h hw => ?_)
    refine lv_istore (lv' := [(4, .int r12), (0, .ref a0), (1, .int v1), (2, .int v2), (3, .int v3)]) hx hb dX1_waterBeside_15 hl (by decide) rfl (fun ls hl => ?_)
    refine lv_iload hx hb dX1_waterBeside_17 (lv_at hl 0 rfl) ?_
    refine lv_iconst (v := (-1)) hx hb dX1_waterBeside_19 (by decide) ?_
    refine lv_icmp_ne (tgt := 31) hx hb dX1_waterBeside_20 (by decide) (fun q_20 => ?_) (fun q_20 => ?_)
    · have h := h.1 q_20
      refine lv_aload_n hx hb dX1_waterBeside_31 rfl (lv_at hl 1 rfl) ?_
      refine lv_iload hx hb dX1_waterBeside_32 (lv_at hl 0 rfl) ?_
      refine cv_i (As := [.int r12]) (rest := []) S.1 hw (k_X1_isIce l E Z M12 a0 r12 _ h) wv_X1_76 yc_X1_isIce ⟨rfl, rfl⟩ ⟨Nat.le_of_ble_eq_true rfl, Nat.le_of_ble_eq_true rfl⟩ rfl hl.1 (Nat.le_of_ble_eq_true rfl) (ci := 1) (q := (RX1, TX1, 12)) rfl rfl (by rw [k_0]; decide) (cell_1 k_0) ⟨Nat.le_of_ble_eq_true rfl, Nat.le_of_ble_eq_true rfl⟩ dX1_waterBeside_34 (fun r34 M34 H locs h hw => ?_)
      refine lv_if_ne (tgt := 43) hx hb dX1_waterBeside_37 (by decide) (fun q_37 => ?_) (fun q_37 => ?_)
      · have h := h.1 q_37
        exact ((wB_X1_waterBeside_43 S  hK4 _ _ _ _ _ h)) H locs ls hw (lv_sub hl [1, 2, 3, 4] rfl)
      · have h := h.2 q_37
        exact ((wB_X1_waterBeside_40 S  (fun M1 a0 v1 v2 v3 h => (wB_X1_waterBeside_43 S  hK4 _ _ _ _ _ h)) _ _ _ _ _ h)) H locs ls hw (lv_sub hl [1, 2, 3, 4] rfl)
    · have h := h.2 q_20
      refine lv_iload_n hx hb dX1_waterBeside_23 rfl (lv_at hl 4 rfl) ?_
      refine lv_iconst (v := 1) hx hb dX1_waterBeside_24 (by decide) ?_
      refine lv_icmp_ne (tgt := 43) hx hb dX1_waterBeside_25 (by decide) (fun q_25 => ?_) (fun q_25 => ?_)
      · have h := h.1 q_25
        exact ((wB_X1_waterBeside_43 S  hK4 _ _ _ _ _ h)) H locs ls hw (lv_sub hl [1, 2, 3, 4] rfl)
      · have h := h.2 q_25
        refine lv_goto (tgt := 40) hx hb dX1_waterBeside_28 (by decide) ?_
        exact ((wB_X1_waterBeside_40 S  (fun M1 a0 v1 v2 v3 h => (wB_X1_waterBeside_43 S  hK4 _ _ _ _ _ h)) _ _ _ _ _ h)) H locs ls hw (lv_sub hl [1, 2, 3, 4] rfl)
theorem wL_X1_waterBeside_4 (S : Cx p m c meth cX1_waterBeside 5 s args RX1 (some .int)) {Q : Int32 → MM → Prop}   : ∀ (n : Nat) (M : MM) (a0 : Nat) (v1 : Int32) (v2 : Int32) (v3 : Int32), L_X1_waterBeside_4 Z Q  n M a0 v1 v2 v3 → WG p l e rm_X1_waterBeside s m args below meth c 0 0 (MQi below E Z args s Q) E Z M 4 5 [(0, .ref a0), (1, .int v1), (2, .int v2), (3, .int v3)] []
  | 0, _, _, _, _, _, h => False.elim h
  | n + 1, M, a0, v1, v2, v3, h => wB_X1_waterBeside_4 S  (wL_X1_waterBeside_4 S   n) M a0 v1 v2 v3 h
set_option maxRecDepth 100000 in
set_option maxHeartbeats 4000000 in
theorem wB_X1_waterBeside_0 (S : Cx p m c meth cX1_waterBeside 5 s args RX1 (some .int)) {Q : Int32 → MM → Prop}   (M : MM) (a0 : Nat) (v1 : Int32) (h : B_X1_waterBeside_0 Z Q  M a0 v1) : WG p l e rm_X1_waterBeside s m args below meth c 0 0 (MQi below E Z args s Q) E Z M 0 5 [(0, .ref a0), (1, .int v1)] [] := by
  intro H locs ls hw hl
  have hx := S.1.1
  have hb := S.1.2.1
  refine lv_iconst (v := 0) hx hb dX1_waterBeside_0 (by decide) ?_
  refine lv_istore_n (lv' := [(2, .int 0), (0, .ref a0), (1, .int v1)]) hx hb dX1_waterBeside_1 rfl hl (by decide) rfl (fun ls hl => ?_)
  refine lv_iconst (v := 0) hx hb dX1_waterBeside_2 (by decide) ?_
  refine lv_istore_n (lv' := [(3, .int 0), (2, .int 0), (0, .ref a0), (1, .int v1)]) hx hb dX1_waterBeside_3 rfl hl (by decide) rfl (fun ls hl => ?_)
  exact ((Exists.elim h (fun n h => wL_X1_waterBeside_4 S   n _ _ _ _ _ h))) H locs ls hw (lv_sub hl [2, 3, 1, 0] rfl)
set_option maxRecDepth 100000 in
set_option maxHeartbeats 4000000 in
theorem k_X1_waterBeside (l : Launch) (E : EE) (Z : ZZ) (M : MM) (a0 : Nat) (v1 : Int32) (Q : Int32 → MM → Prop) (h : P_X1_waterBeside Z M a0 v1 Q) : Ct_i l yX1_waterBeside cX1_waterBeside 5 (some .int) rm_X1_waterBeside E Z M [.ref a0, .int v1] Q := by
  refine Met.ofW (cc := cX1_waterBeside) (maxL := 5) (ret := some .int) (by decide) rfl ?_
  intro p e s m args below meth c s₁ B hml hv
  obtain ⟨rfl, hK, hP, hD, hZ⟩ := hv
  have S : Cx p m c meth cX1_waterBeside 5 s _ RX1 (some .int) := ⟨⟨B.exec, B.bytes, hml, findClass_of_methodNamed B.named, fun w hw => atoms_spec (ws := ws_ yX1_waterBeside cX1_waterBeside 5 (some .int)) B.pre w (List.mem_cons_of_mem _ hw)⟩, B.returns, B.notSynchronized⟩
  have hl := lv_entry ([.ref a0, .int v1]) (n := 5) (Nat.le_of_ble_eq_true rfl)
  rw [lg_entry_eq]
  generalize (lg_sl ([.ref a0, .int v1]) ++ List.replicate (5 - (lg_sl ([.ref a0, .int v1])).length) Slot.unset).toArray = ls at hl ⊢
  exact (wB_X1_waterBeside_0 S  M a0 v1 h) s.heap [] ls ⟨hK, hP, hD, va_S.rf, hZ⟩ hl
set_option maxRecDepth 100000 in
set_option maxHeartbeats 4000000 in
theorem wB_X1_lossOf_22 (S : Cx p m c meth cX1_lossOf 4 s args RX1 (some .int)) {Q : Int32 → MM → Prop}   (M : MM) (a0 : Nat) (v1 : Int32) (t0 : Int32) (h : B_X1_lossOf_22 Z Q  M a0 v1 t0) : WG p l e rm_X1_lossOf s m args below meth c 0 0 (MQi below E Z args s Q) E Z M 22 4 [(0, .ref a0), (1, .int v1)] [.int t0] := by
  intro H locs ls hw hl
  have hx := S.1.1
  have hb := S.1.2.1
  refine lv_istore_n (lv' := [(2, .int t0), (0, .ref a0), (1, .int v1)]) hx hb dX1_lossOf_22 rfl hl (by decide) rfl (fun ls hl => ?_)
  refine lv_aload_n hx hb dX1_lossOf_23 rfl (lv_at hl 1 rfl) ?_
  obtain ⟨k_0, h⟩ := h
  obtain ⟨y24_1, hy_1, h⟩ := h
  refine gf_X1_41 S.1 hw k_0 hy_1 dX1_lossOf_24 ?_
  refine lv_iload_n hx hb dX1_lossOf_27 rfl (lv_at hl 2 rfl) ?_
  obtain ⟨k_2, h⟩ := h
  refine cv_i (As := [.int v1]) (rest := []) S.1 hw (k_X2_at l E Z M y24_1 v1 _ h) wv_X1_61 yc_X2_at ⟨rfl, rfl⟩ ⟨Nat.le_of_ble_eq_true rfl, Nat.le_of_ble_eq_true rfl⟩ rfl hl.1 (Nat.le_of_ble_eq_true rfl) (ci := 2) (q := (RX2, TX2, 1)) rfl rfl (by rw [k_2]; decide) (cell_2 k_2) ⟨Nat.le_of_ble_eq_true rfl, Nat.le_of_ble_eq_true rfl⟩ dX1_lossOf_28 (fun r28 M28 H locs h hw => ?_)
  refine lv_istore_n (lv' := [(3, .int r28), (2, .int t0), (0, .ref a0), (1, .int v1)]) hx hb dX1_lossOf_31 rfl hl (by decide) rfl (fun ls hl => ?_)
  refine lv_iload_n hx hb dX1_lossOf_32 rfl (lv_at hl 1 rfl) ?_
  refine lv_iload_n hx hb dX1_lossOf_33 rfl (lv_at hl 0 rfl) ?_
  refine lv_icmp_ge (tgt := 41) hx hb dX1_lossOf_34 (by decide) (fun q_34 => ?_) (fun q_34 => ?_)
  · have h := h.1 q_34
    refine lv_iload_n hx hb dX1_lossOf_41 rfl (lv_at hl 0 rfl) ?_
    exact we_i S hw h dX1_lossOf_42
  · have h := h.2 q_34
    refine lv_iload_n hx hb dX1_lossOf_37 rfl (lv_at hl 1 rfl) ?_
    refine lv_goto (tgt := 42) hx hb dX1_lossOf_38 (by decide) ?_
    exact we_i S hw h dX1_lossOf_42
set_option maxRecDepth 100000 in
set_option maxHeartbeats 4000000 in
theorem wB_X1_lossOf_0 (S : Cx p m c meth cX1_lossOf 4 s args RX1 (some .int)) {Q : Int32 → MM → Prop}   (M : MM) (a0 : Nat) (v1 : Int32) (h : B_X1_lossOf_0 Z Q  M a0 v1) : WG p l e rm_X1_lossOf s m args below meth c 0 0 (MQi below E Z args s Q) E Z M 0 4 [(0, .ref a0), (1, .int v1)] [] := by
  intro H locs ls hw hl
  have hx := S.1.1
  have hb := S.1.2.1
  refine lv_aload_n hx hb dX1_lossOf_0 rfl (lv_at hl 0 rfl) ?_
  refine lv_iload_n hx hb dX1_lossOf_1 rfl (lv_at hl 1 rfl) ?_
  obtain ⟨k_0, h⟩ := h
  refine cv_i (As := [.int v1]) (rest := []) S.1 hw (k_X1_waterBeside l E Z M a0 v1 _ h) wv_X1_100 yc_X1_waterBeside ⟨rfl, rfl⟩ ⟨Nat.le_of_ble_eq_true rfl, Nat.le_of_ble_eq_true rfl⟩ rfl hl.1 (Nat.le_of_ble_eq_true rfl) (ci := 1) (q := (RX1, TX1, 12)) rfl rfl (by rw [k_0]; decide) (cell_1 k_0) ⟨Nat.le_of_ble_eq_true rfl, Nat.le_of_ble_eq_true rfl⟩ dX1_lossOf_2 (fun r2 M2 H locs h hw => ?_)
  refine lv_iconst (v := 2) hx hb dX1_lossOf_5 (by decide) ?_
  refine lv_icmp_lt (tgt := 18) hx hb dX1_lossOf_6 (by decide) (fun q_6 => ?_) (fun q_6 => ?_)
  · have h := h.1 q_6
    refine lv_aload_n hx hb dX1_lossOf_18 rfl (lv_at hl 0 rfl) ?_
    refine gf_X1_18 S.1 hw k_0 dX1_lossOf_19 ?_
    exact ((wB_X1_lossOf_22 S   _ _ _ _ h)) H locs ls hw (lv_sub hl [0, 1] rfl)
  · have h := h.2 q_6
    refine lv_aload_n hx hb dX1_lossOf_9 rfl (lv_at hl 0 rfl) ?_
    refine gf_X1_18 S.1 hw k_0 dX1_lossOf_10 ?_
    refine lv_iconst (v := 1) hx hb dX1_lossOf_13 (by decide) ?_
    refine lv_iadd hx hb dX1_lossOf_14 ?_
    refine lv_goto (tgt := 22) hx hb dX1_lossOf_15 (by decide) ?_
    exact ((wB_X1_lossOf_22 S   _ _ _ _ h)) H locs ls hw (lv_sub hl [0, 1] rfl)
set_option maxRecDepth 100000 in
set_option maxHeartbeats 4000000 in
theorem k_X1_lossOf (l : Launch) (E : EE) (Z : ZZ) (M : MM) (a0 : Nat) (v1 : Int32) (Q : Int32 → MM → Prop) (h : P_X1_lossOf Z M a0 v1 Q) : Ct_i l yX1_lossOf cX1_lossOf 4 (some .int) rm_X1_lossOf E Z M [.ref a0, .int v1] Q := by
  refine Met.ofW (cc := cX1_lossOf) (maxL := 4) (ret := some .int) (by decide) rfl ?_
  intro p e s m args below meth c s₁ B hml hv
  obtain ⟨rfl, hK, hP, hD, hZ⟩ := hv
  have S : Cx p m c meth cX1_lossOf 4 s _ RX1 (some .int) := ⟨⟨B.exec, B.bytes, hml, findClass_of_methodNamed B.named, fun w hw => atoms_spec (ws := ws_ yX1_lossOf cX1_lossOf 4 (some .int)) B.pre w (List.mem_cons_of_mem _ hw)⟩, B.returns, B.notSynchronized⟩
  have hl := lv_entry ([.ref a0, .int v1]) (n := 4) (Nat.le_of_ble_eq_true rfl)
  rw [lg_entry_eq]
  generalize (lg_sl ([.ref a0, .int v1]) ++ List.replicate (4 - (lg_sl ([.ref a0, .int v1])).length) Slot.unset).toArray = ls at hl ⊢
  exact (wB_X1_lossOf_0 S  M a0 v1 h) s.heap [] ls ⟨hK, hP, hD, va_S.rf, hZ⟩ hl
set_option maxRecDepth 100000 in
set_option maxHeartbeats 4000000 in
theorem wB_X1_meltOneDay_31 (S : Cx p m c meth cX1_meltOneDay 2 s args RX1 (none)) {Q : MM → Prop} {K31 : MM → Nat → Int32 → Prop} (hK31 : ∀ (M : MM) (a0 : Nat) (v1 : Int32), K31 M a0 v1 → WG p l e rm_X1_meltOneDay s m args below meth c 0 0 (MQv below E Z args s Q) E Z M 31 2 [(0, .ref a0), (1, .int v1)] []) (M : MM) (a0 : Nat) (v1 : Int32) (h : B_X1_meltOneDay_31 Z Q K31 M a0 v1) : WG p l e rm_X1_meltOneDay s m args below meth c 0 0 (MQv below E Z args s Q) E Z M 31 2 [(0, .ref a0), (1, .int v1)] [] := by
  intro H locs ls hw hl
  have hx := S.1.1
  have hb := S.1.2.1
  refine lv_iload_n hx hb dX1_meltOneDay_31 rfl (lv_at hl 1 rfl) ?_
  refine lv_aload_n hx hb dX1_meltOneDay_32 rfl (lv_at hl 0 rfl) ?_
  obtain ⟨k_0, h⟩ := h
  refine cv_i (As := []) (rest := [.int v1]) S.1 hw (k_X1_cellCount l E Z M a0  _ h) wv_X1_69 yc_X1_cellCount ⟨rfl, rfl⟩ ⟨Nat.le_of_ble_eq_true rfl, Nat.le_of_ble_eq_true rfl⟩ rfl hl.1 (Nat.le_of_ble_eq_true rfl) (ci := 1) (q := (RX1, TX1, 12)) rfl rfl (by rw [k_0]; decide) (cell_1 k_0) ⟨Nat.le_of_ble_eq_true rfl, Nat.le_of_ble_eq_true rfl⟩ dX1_meltOneDay_33 (fun r33 M33 H locs h hw => ?_)
  refine lv_icmp_ge (tgt := 87) hx hb dX1_meltOneDay_36 (by decide) (fun q_36 => ?_) (fun q_36 => ?_)
  · have h := h.1 q_36
    refine lv_aload_n hx hb dX1_meltOneDay_87 rfl (lv_at hl 0 rfl) ?_
    refine lv_dup hx hb dX1_meltOneDay_88 rfl ?_
    refine gf_X1_21 S.1 hw k_0 dX1_meltOneDay_89 ?_
    refine lv_iconst (v := 1) hx hb dX1_meltOneDay_92 (by decide) ?_
    refine lv_iadd hx hb dX1_meltOneDay_93 ?_
    refine pf_X1_21 S.1 hw k_0 dX1_meltOneDay_94 (fun H locs hw => ?_)
    exact we_v S hw h dX1_meltOneDay_97
  · have h := h.2 q_36
    refine lv_aload_n hx hb dX1_meltOneDay_39 rfl (lv_at hl 0 rfl) ?_
    obtain ⟨y40_1, hy_1, h⟩ := h
    refine gf_X1_41 S.1 hw k_0 hy_1 dX1_meltOneDay_40 ?_
    refine lv_iload_n hx hb dX1_meltOneDay_43 rfl (lv_at hl 1 rfl) ?_
    refine lv_aload_n hx hb dX1_meltOneDay_44 rfl (lv_at hl 0 rfl) ?_
    refine gf_X1_41 S.1 hw k_0 hy_1 dX1_meltOneDay_45 ?_
    refine lv_iload_n hx hb dX1_meltOneDay_48 rfl (lv_at hl 1 rfl) ?_
    obtain ⟨k_2, h⟩ := h
    refine cv_i (As := [.int v1]) (rest := [.int v1, .ref y40_1]) S.1 hw (k_X2_at l E Z M33 y40_1 v1 _ h) wv_X1_61 yc_X2_at ⟨rfl, rfl⟩ ⟨Nat.le_of_ble_eq_true rfl, Nat.le_of_ble_eq_true rfl⟩ rfl hl.1 (Nat.le_of_ble_eq_true rfl) (ci := 2) (q := (RX2, TX2, 1)) rfl rfl (by rw [k_2]; decide) (cell_2 k_2) ⟨Nat.le_of_ble_eq_true rfl, Nat.le_of_ble_eq_true rfl⟩ dX1_meltOneDay_49 (fun r49 M49 H locs h hw => ?_)
    refine lv_aload_n hx hb dX1_meltOneDay_52 rfl (lv_at hl 0 rfl) ?_
    obtain ⟨y53_3, hy_3, h⟩ := h
    refine gf_X1_51 S.1 hw k_0 hy_3 dX1_meltOneDay_53 ?_
    refine lv_iload_n hx hb dX1_meltOneDay_56 rfl (lv_at hl 1 rfl) ?_
    obtain ⟨k_4, h⟩ := h
    refine cv_i (As := [.int v1]) (rest := [.int r49, .int v1, .ref y40_1]) S.1 hw (k_X2_at l E Z M49 y53_3 v1 _ h) wv_X1_61 yc_X2_at ⟨rfl, rfl⟩ ⟨Nat.le_of_ble_eq_true rfl, Nat.le_of_ble_eq_true rfl⟩ rfl hl.1 (Nat.le_of_ble_eq_true rfl) (ci := 2) (q := (RX2, TX2, 1)) rfl rfl (by rw [k_4]; decide) (cell_2 k_4) ⟨Nat.le_of_ble_eq_true rfl, Nat.le_of_ble_eq_true rfl⟩ dX1_meltOneDay_57 (fun r57 M57 H locs h hw => ?_)
    refine lv_isub hx hb dX1_meltOneDay_60 ?_
    refine cv_v (As := [.int v1, .int (r49 - r57)]) (rest := []) S.1 hw (k_X2_put l E Z M57 y40_1 v1 (r49 - r57) _ h) wv_X1_65 yc_X2_put ⟨rfl, rfl⟩ ⟨Nat.le_of_ble_eq_true rfl, Nat.le_of_ble_eq_true rfl⟩ rfl hl.1 (Nat.le_of_ble_eq_true rfl) (ci := 2) (q := (RX2, TX2, 1)) rfl rfl (by rw [k_2]; decide) (cell_2 k_2) ⟨Nat.le_of_ble_eq_true rfl, Nat.le_of_ble_eq_true rfl⟩ dX1_meltOneDay_61 (fun M61 H locs h hw => ?_)
    refine lv_aload_n hx hb dX1_meltOneDay_64 rfl (lv_at hl 0 rfl) ?_
    refine lv_dup hx hb dX1_meltOneDay_65 rfl ?_
    refine gf_X1_27 S.1 hw k_0 dX1_meltOneDay_66 ?_
    refine lv_aload_n hx hb dX1_meltOneDay_69 rfl (lv_at hl 0 rfl) ?_
    refine gf_X1_51 S.1 hw k_0 hy_3 dX1_meltOneDay_70 ?_
    refine lv_iload_n hx hb dX1_meltOneDay_73 rfl (lv_at hl 1 rfl) ?_
    refine cv_i (As := [.int v1]) (rest := [.int (mI M61 5 a0), .ref a0]) S.1 hw (k_X2_at l E Z M61 y53_3 v1 _ h) wv_X1_61 yc_X2_at ⟨rfl, rfl⟩ ⟨Nat.le_of_ble_eq_true rfl, Nat.le_of_ble_eq_true rfl⟩ rfl hl.1 (Nat.le_of_ble_eq_true rfl) (ci := 2) (q := (RX2, TX2, 1)) rfl rfl (by rw [k_4]; decide) (cell_2 k_4) ⟨Nat.le_of_ble_eq_true rfl, Nat.le_of_ble_eq_true rfl⟩ dX1_meltOneDay_74 (fun r74 M74 H locs h hw => ?_)
    refine lv_iadd hx hb dX1_meltOneDay_77 ?_
    refine pf_X1_27 S.1 hw k_0 dX1_meltOneDay_78 (fun H locs hw => ?_)
    refine lv_iinc (v := (v1 + 1)) (lv' := [(1, .int (v1 + 1)), (0, .ref a0)]) hx hb dX1_meltOneDay_81 hl (k := 1) rfl rfl (by decide) rfl (fun ls hl => ?_)
    refine lv_goto (tgt := 31) hx hb dX1_meltOneDay_84 (by decide) ?_
    exact (hK31 _ _ _ h) H locs ls hw (lv_sub hl [1, 0] rfl)
theorem wL_X1_meltOneDay_31 (S : Cx p m c meth cX1_meltOneDay 2 s args RX1 (none)) {Q : MM → Prop}   : ∀ (n : Nat) (M : MM) (a0 : Nat) (v1 : Int32), L_X1_meltOneDay_31 Z Q  n M a0 v1 → WG p l e rm_X1_meltOneDay s m args below meth c 0 0 (MQv below E Z args s Q) E Z M 31 2 [(0, .ref a0), (1, .int v1)] []
  | 0, _, _, _, h => False.elim h
  | n + 1, M, a0, v1, h => wB_X1_meltOneDay_31 S  (wL_X1_meltOneDay_31 S   n) M a0 v1 h
set_option maxRecDepth 100000 in
set_option maxHeartbeats 4000000 in
theorem wB_X1_meltOneDay_2 (S : Cx p m c meth cX1_meltOneDay 2 s args RX1 (none)) {Q : MM → Prop} {K2 : MM → Nat → Int32 → Prop} (hK2 : ∀ (M : MM) (a0 : Nat) (v1 : Int32), K2 M a0 v1 → WG p l e rm_X1_meltOneDay s m args below meth c 0 0 (MQv below E Z args s Q) E Z M 2 2 [(0, .ref a0), (1, .int v1)] []) (M : MM) (a0 : Nat) (v1 : Int32) (h : B_X1_meltOneDay_2 Z Q K2 M a0 v1) : WG p l e rm_X1_meltOneDay s m args below meth c 0 0 (MQv below E Z args s Q) E Z M 2 2 [(0, .ref a0), (1, .int v1)] [] := by
  intro H locs ls hw hl
  have hx := S.1.1
  have hb := S.1.2.1
  refine lv_iload_n hx hb dX1_meltOneDay_2 rfl (lv_at hl 1 rfl) ?_
  refine lv_aload_n hx hb dX1_meltOneDay_3 rfl (lv_at hl 0 rfl) ?_
  obtain ⟨k_0, h⟩ := h
  refine cv_i (As := []) (rest := [.int v1]) S.1 hw (k_X1_cellCount l E Z M a0  _ h) wv_X1_69 yc_X1_cellCount ⟨rfl, rfl⟩ ⟨Nat.le_of_ble_eq_true rfl, Nat.le_of_ble_eq_true rfl⟩ rfl hl.1 (Nat.le_of_ble_eq_true rfl) (ci := 1) (q := (RX1, TX1, 12)) rfl rfl (by rw [k_0]; decide) (cell_1 k_0) ⟨Nat.le_of_ble_eq_true rfl, Nat.le_of_ble_eq_true rfl⟩ dX1_meltOneDay_4 (fun r4 M4 H locs h hw => ?_)
  refine lv_icmp_ge (tgt := 29) hx hb dX1_meltOneDay_7 (by decide) (fun q_7 => ?_) (fun q_7 => ?_)
  · have h := h.1 q_7
    refine lv_iconst (v := 0) hx hb dX1_meltOneDay_29 (by decide) ?_
    refine lv_istore_n (lv' := [(1, .int 0), (0, .ref a0)]) hx hb dX1_meltOneDay_30 rfl hl (by decide) rfl (fun ls hl => ?_)
    exact ((Exists.elim h (fun n h => wL_X1_meltOneDay_31 S   n _ _ _ h))) H locs ls hw (lv_sub hl [1, 0] rfl)
  · have h := h.2 q_7
    refine lv_aload_n hx hb dX1_meltOneDay_10 rfl (lv_at hl 0 rfl) ?_
    obtain ⟨y11_1, hy_1, h⟩ := h
    refine gf_X1_51 S.1 hw k_0 hy_1 dX1_meltOneDay_11 ?_
    refine lv_iload_n hx hb dX1_meltOneDay_14 rfl (lv_at hl 1 rfl) ?_
    refine lv_aload_n hx hb dX1_meltOneDay_15 rfl (lv_at hl 0 rfl) ?_
    refine lv_iload_n hx hb dX1_meltOneDay_16 rfl (lv_at hl 1 rfl) ?_
    refine cv_i (As := [.int v1]) (rest := [.int v1, .ref y11_1]) S.1 hw (k_X1_lossOf l E Z M4 a0 v1 _ h) wv_X1_103 yc_X1_lossOf ⟨rfl, rfl⟩ ⟨Nat.le_of_ble_eq_true rfl, Nat.le_of_ble_eq_true rfl⟩ rfl hl.1 (Nat.le_of_ble_eq_true rfl) (ci := 1) (q := (RX1, TX1, 12)) rfl rfl (by rw [k_0]; decide) (cell_1 k_0) ⟨Nat.le_of_ble_eq_true rfl, Nat.le_of_ble_eq_true rfl⟩ dX1_meltOneDay_17 (fun r17 M17 H locs h hw => ?_)
    obtain ⟨k_2, h⟩ := h
    refine cv_v (As := [.int v1, .int r17]) (rest := []) S.1 hw (k_X2_put l E Z M17 y11_1 v1 r17 _ h) wv_X1_65 yc_X2_put ⟨rfl, rfl⟩ ⟨Nat.le_of_ble_eq_true rfl, Nat.le_of_ble_eq_true rfl⟩ rfl hl.1 (Nat.le_of_ble_eq_true rfl) (ci := 2) (q := (RX2, TX2, 1)) rfl rfl (by rw [k_2]; decide) (cell_2 k_2) ⟨Nat.le_of_ble_eq_true rfl, Nat.le_of_ble_eq_true rfl⟩ dX1_meltOneDay_20 (fun M20 H locs h hw => ?_)
    refine lv_iinc (v := (v1 + 1)) (lv' := [(1, .int (v1 + 1)), (0, .ref a0)]) hx hb dX1_meltOneDay_23 hl (k := 1) rfl rfl (by decide) rfl (fun ls hl => ?_)
    refine lv_goto (tgt := 2) hx hb dX1_meltOneDay_26 (by decide) ?_
    exact (hK2 _ _ _ h) H locs ls hw (lv_sub hl [1, 0] rfl)
theorem wL_X1_meltOneDay_2 (S : Cx p m c meth cX1_meltOneDay 2 s args RX1 (none)) {Q : MM → Prop}   : ∀ (n : Nat) (M : MM) (a0 : Nat) (v1 : Int32), L_X1_meltOneDay_2 Z Q  n M a0 v1 → WG p l e rm_X1_meltOneDay s m args below meth c 0 0 (MQv below E Z args s Q) E Z M 2 2 [(0, .ref a0), (1, .int v1)] []
  | 0, _, _, _, h => False.elim h
  | n + 1, M, a0, v1, h => wB_X1_meltOneDay_2 S  (wL_X1_meltOneDay_2 S   n) M a0 v1 h
set_option maxRecDepth 100000 in
set_option maxHeartbeats 4000000 in
theorem wB_X1_meltOneDay_0 (S : Cx p m c meth cX1_meltOneDay 2 s args RX1 (none)) {Q : MM → Prop}   (M : MM) (a0 : Nat) (h : B_X1_meltOneDay_0 Z Q  M a0) : WG p l e rm_X1_meltOneDay s m args below meth c 0 0 (MQv below E Z args s Q) E Z M 0 2 [(0, .ref a0)] [] := by
  intro H locs ls hw hl
  have hx := S.1.1
  have hb := S.1.2.1
  refine lv_iconst (v := 0) hx hb dX1_meltOneDay_0 (by decide) ?_
  refine lv_istore_n (lv' := [(1, .int 0), (0, .ref a0)]) hx hb dX1_meltOneDay_1 rfl hl (by decide) rfl (fun ls hl => ?_)
  exact ((Exists.elim h (fun n h => wL_X1_meltOneDay_2 S   n _ _ _ h))) H locs ls hw (lv_sub hl [1, 0] rfl)
set_option maxRecDepth 100000 in
set_option maxHeartbeats 4000000 in
theorem k_X1_meltOneDay (l : Launch) (E : EE) (Z : ZZ) (M : MM) (a0 : Nat) (Q : MM → Prop) (h : P_X1_meltOneDay Z M a0 Q) : Ct_v l yX1_meltOneDay cX1_meltOneDay 2 (none) rm_X1_meltOneDay E Z M [.ref a0] Q := by
  refine Met.ofW (cc := cX1_meltOneDay) (maxL := 2) (ret := none) (by decide) rfl ?_
  intro p e s m args below meth c s₁ B hml hv
  obtain ⟨rfl, hK, hP, hD, hZ⟩ := hv
  have S : Cx p m c meth cX1_meltOneDay 2 s _ RX1 (none) := ⟨⟨B.exec, B.bytes, hml, findClass_of_methodNamed B.named, fun w hw => atoms_spec (ws := ws_ yX1_meltOneDay cX1_meltOneDay 2 (none)) B.pre w (List.mem_cons_of_mem _ hw)⟩, B.returns, B.notSynchronized⟩
  have hl := lv_entry ([.ref a0]) (n := 2) (Nat.le_of_ble_eq_true rfl)
  rw [lg_entry_eq]
  generalize (lg_sl ([.ref a0]) ++ List.replicate (2 - (lg_sl ([.ref a0])).length) Slot.unset).toArray = ls at hl ⊢
  exact (wB_X1_meltOneDay_0 S  M a0 h) s.heap [] ls ⟨hK, hP, hD, va_S.rf, hZ⟩ hl
set_option maxRecDepth 100000 in
set_option maxHeartbeats 4000000 in
theorem wB_X0_sizeOf_25 (S : Cx p m c meth cX0_sizeOf 4 s args RX0 (some .int)) {Q : Int32 → MM → Prop} {K4 : MM → Nat → Int32 → Int32 → Int32 → Prop} (hK4 : ∀ (M : MM) (a0 : Nat) (v1 : Int32) (v2 : Int32) (v3 : Int32), K4 M a0 v1 v2 v3 → WG p l e rm_X0_sizeOf s m args below meth c 0 0 (MQi below E Z args s Q) E Z M 4 4 [(0, .ref a0), (1, .int v1), (2, .int v2), (3, .int v3)] []) (M : MM) (a0 : Nat) (v1 : Int32) (v2 : Int32) (v3 : Int32) (h : B_X0_sizeOf_25 Z Q K4 M a0 v1 v2 v3) : WG p l e rm_X0_sizeOf s m args below meth c 0 0 (MQi below E Z args s Q) E Z M 25 4 [(0, .ref a0), (1, .int v1), (2, .int v2), (3, .int v3)] [] := by
  intro H locs ls hw hl
  have hx := S.1.1
  have hb := S.1.2.1
  refine lv_iinc (v := (v3 + 1)) (lv' := [(3, .int (v3 + 1)), (0, .ref a0), (1, .int v1), (2, .int v2)]) hx hb dX0_sizeOf_25 hl (k := 3) rfl rfl (by decide) rfl (fun ls hl => ?_)
  refine lv_goto (tgt := 4) hx hb dX0_sizeOf_28 (by decide) ?_
  exact (hK4 _ _ _ _ _ h) H locs ls hw (lv_sub hl [1, 2, 3, 0] rfl)
set_option maxRecDepth 100000 in
set_option maxHeartbeats 4000000 in
theorem wB_X0_sizeOf_4 (S : Cx p m c meth cX0_sizeOf 4 s args RX0 (some .int)) {Q : Int32 → MM → Prop} {K4 : MM → Nat → Int32 → Int32 → Int32 → Prop} (hK4 : ∀ (M : MM) (a0 : Nat) (v1 : Int32) (v2 : Int32) (v3 : Int32), K4 M a0 v1 v2 v3 → WG p l e rm_X0_sizeOf s m args below meth c 0 0 (MQi below E Z args s Q) E Z M 4 4 [(0, .ref a0), (1, .int v1), (2, .int v2), (3, .int v3)] []) (M : MM) (a0 : Nat) (v1 : Int32) (v2 : Int32) (v3 : Int32) (h : B_X0_sizeOf_4 Z Q K4 M a0 v1 v2 v3) : WG p l e rm_X0_sizeOf s m args below meth c 0 0 (MQi below E Z args s Q) E Z M 4 4 [(0, .ref a0), (1, .int v1), (2, .int v2), (3, .int v3)] [] := by
  intro H locs ls hw hl
  have hx := S.1.1
  have hb := S.1.2.1
  refine lv_iload_n hx hb dX0_sizeOf_4 rfl (lv_at hl 3 rfl) ?_
  refine lv_bipush (v := 49) hx hb dX0_sizeOf_5 (by decide) ?_
  refine lv_icmp_ge (tgt := 31) hx hb dX0_sizeOf_7 (by decide) (fun q_7 => ?_) (fun q_7 => ?_)
  · have h := h.1 q_7
    refine lv_iload_n hx hb dX0_sizeOf_31 rfl (lv_at hl 2 rfl) ?_
    exact we_i S hw h dX0_sizeOf_32
  · have h := h.2 q_7
    refine lv_aload_n hx hb dX0_sizeOf_10 rfl (lv_at hl 0 rfl) ?_
    obtain ⟨k_0, h⟩ := h
    obtain ⟨y11_1, hy_1, h⟩ := h
    refine gf_X0_14 S.1 hw k_0 hy_1 dX0_sizeOf_11 ?_
    refine lv_iload_n hx hb dX0_sizeOf_14 rfl (lv_at hl 3 rfl) ?_
    obtain ⟨k_2, h⟩ := h
    refine cv_i (As := [.int v3]) (rest := []) S.1 hw (k_X2_at l E Z M y11_1 v3 _ h) wv_X0_39 yc_X2_at ⟨rfl, rfl⟩ ⟨Nat.le_of_ble_eq_true rfl, Nat.le_of_ble_eq_true rfl⟩ rfl hl.1 (Nat.le_of_ble_eq_true rfl) (ci := 2) (q := (RX2, TX2, 1)) rfl rfl (by rw [k_2]; decide) (cell_2 k_2) ⟨Nat.le_of_ble_eq_true rfl, Nat.le_of_ble_eq_true rfl⟩ dX0_sizeOf_15 (fun r15 M15 H locs h hw => ?_)
    refine lv_iload_n hx hb dX0_sizeOf_18 rfl (lv_at hl 1 rfl) ?_
    refine lv_icmp_ne (tgt := 25) hx hb dX0_sizeOf_19 (by decide) (fun q_19 => ?_) (fun q_19 => ?_)
    · have h := h.1 q_19
      exact ((wB_X0_sizeOf_25 S  hK4 _ _ _ _ _ h)) H locs ls hw (lv_sub hl [0, 1, 2, 3] rfl)
    · have h := h.2 q_19
      refine lv_iinc (v := (v2 + 1)) (lv' := [(2, .int (v2 + 1)), (0, .ref a0), (1, .int v1), (3, .int v3)]) hx hb dX0_sizeOf_22 hl (k := 2) rfl rfl (by decide) rfl (fun ls hl => ?_)
      exact ((wB_X0_sizeOf_25 S  hK4 _ _ _ _ _ h)) H locs ls hw (lv_sub hl [1, 2, 0, 3] rfl)
theorem wL_X0_sizeOf_4 (S : Cx p m c meth cX0_sizeOf 4 s args RX0 (some .int)) {Q : Int32 → MM → Prop}   : ∀ (n : Nat) (M : MM) (a0 : Nat) (v1 : Int32) (v2 : Int32) (v3 : Int32), L_X0_sizeOf_4 Z Q  n M a0 v1 v2 v3 → WG p l e rm_X0_sizeOf s m args below meth c 0 0 (MQi below E Z args s Q) E Z M 4 4 [(0, .ref a0), (1, .int v1), (2, .int v2), (3, .int v3)] []
  | 0, _, _, _, _, _, h => False.elim h
  | n + 1, M, a0, v1, v2, v3, h => wB_X0_sizeOf_4 S  (wL_X0_sizeOf_4 S   n) M a0 v1 v2 v3 h
set_option maxRecDepth 100000 in
set_option maxHeartbeats 4000000 in
theorem wB_X0_sizeOf_0 (S : Cx p m c meth cX0_sizeOf 4 s args RX0 (some .int)) {Q : Int32 → MM → Prop}   (M : MM) (a0 : Nat) (v1 : Int32) (h : B_X0_sizeOf_0 Z Q  M a0 v1) : WG p l e rm_X0_sizeOf s m args below meth c 0 0 (MQi below E Z args s Q) E Z M 0 4 [(0, .ref a0), (1, .int v1)] [] := by
  intro H locs ls hw hl
  have hx := S.1.1
  have hb := S.1.2.1
  refine lv_iconst (v := 0) hx hb dX0_sizeOf_0 (by decide) ?_
  refine lv_istore_n (lv' := [(2, .int 0), (0, .ref a0), (1, .int v1)]) hx hb dX0_sizeOf_1 rfl hl (by decide) rfl (fun ls hl => ?_)
  refine lv_iconst (v := 0) hx hb dX0_sizeOf_2 (by decide) ?_
  refine lv_istore_n (lv' := [(3, .int 0), (2, .int 0), (0, .ref a0), (1, .int v1)]) hx hb dX0_sizeOf_3 rfl hl (by decide) rfl (fun ls hl => ?_)
  exact ((Exists.elim h (fun n h => wL_X0_sizeOf_4 S   n _ _ _ _ _ h))) H locs ls hw (lv_sub hl [2, 3, 1, 0] rfl)
set_option maxRecDepth 100000 in
set_option maxHeartbeats 4000000 in
theorem k_X0_sizeOf (l : Launch) (E : EE) (Z : ZZ) (M : MM) (a0 : Nat) (v1 : Int32) (Q : Int32 → MM → Prop) (h : P_X0_sizeOf Z M a0 v1 Q) : Ct_i l yX0_sizeOf cX0_sizeOf 4 (some .int) rm_X0_sizeOf E Z M [.ref a0, .int v1] Q := by
  refine Met.ofW (cc := cX0_sizeOf) (maxL := 4) (ret := some .int) (by decide) rfl ?_
  intro p e s m args below meth c s₁ B hml hv
  obtain ⟨rfl, hK, hP, hD, hZ⟩ := hv
  have S : Cx p m c meth cX0_sizeOf 4 s _ RX0 (some .int) := ⟨⟨B.exec, B.bytes, hml, findClass_of_methodNamed B.named, fun w hw => atoms_spec (ws := ws_ yX0_sizeOf cX0_sizeOf 4 (some .int)) B.pre w (List.mem_cons_of_mem _ hw)⟩, B.returns, B.notSynchronized⟩
  have hl := lv_entry ([.ref a0, .int v1]) (n := 4) (Nat.le_of_ble_eq_true rfl)
  rw [lg_entry_eq]
  generalize (lg_sl ([.ref a0, .int v1]) ++ List.replicate (4 - (lg_sl ([.ref a0, .int v1])).length) Slot.unset).toArray = ls at hl ⊢
  exact (wB_X0_sizeOf_0 S  M a0 v1 h) s.heap [] ls ⟨hK, hP, hD, va_S.rf, hZ⟩ hl
set_option maxRecDepth 100000 in
set_option maxHeartbeats 4000000 in
theorem wB_X1_iceCells_23 (S : Cx p m c meth cX1_iceCells 3 s args RX1 (some .int)) {Q : Int32 → MM → Prop} {K4 : MM → Nat → Int32 → Int32 → Prop} (hK4 : ∀ (M : MM) (a0 : Nat) (v1 : Int32) (v2 : Int32), K4 M a0 v1 v2 → WG p l e rm_X1_iceCells s m args below meth c 0 0 (MQi below E Z args s Q) E Z M 4 3 [(0, .ref a0), (1, .int v1), (2, .int v2)] []) (M : MM) (a0 : Nat) (v1 : Int32) (v2 : Int32) (h : B_X1_iceCells_23 Z Q K4 M a0 v1 v2) : WG p l e rm_X1_iceCells s m args below meth c 0 0 (MQi below E Z args s Q) E Z M 23 3 [(0, .ref a0), (1, .int v1), (2, .int v2)] [] := by
  intro H locs ls hw hl
  have hx := S.1.1
  have hb := S.1.2.1
  refine lv_iinc (v := (v2 + 1)) (lv' := [(2, .int (v2 + 1)), (0, .ref a0), (1, .int v1)]) hx hb dX1_iceCells_23 hl (k := 2) rfl rfl (by decide) rfl (fun ls hl => ?_)
  refine lv_goto (tgt := 4) hx hb dX1_iceCells_26 (by decide) ?_
  exact (hK4 _ _ _ _ h) H locs ls hw (lv_sub hl [1, 2, 0] rfl)
set_option maxRecDepth 100000 in
set_option maxHeartbeats 4000000 in
theorem wB_X1_iceCells_4 (S : Cx p m c meth cX1_iceCells 3 s args RX1 (some .int)) {Q : Int32 → MM → Prop} {K4 : MM → Nat → Int32 → Int32 → Prop} (hK4 : ∀ (M : MM) (a0 : Nat) (v1 : Int32) (v2 : Int32), K4 M a0 v1 v2 → WG p l e rm_X1_iceCells s m args below meth c 0 0 (MQi below E Z args s Q) E Z M 4 3 [(0, .ref a0), (1, .int v1), (2, .int v2)] []) (M : MM) (a0 : Nat) (v1 : Int32) (v2 : Int32) (h : B_X1_iceCells_4 Z Q K4 M a0 v1 v2) : WG p l e rm_X1_iceCells s m args below meth c 0 0 (MQi below E Z args s Q) E Z M 4 3 [(0, .ref a0), (1, .int v1), (2, .int v2)] [] := by
  intro H locs ls hw hl
  have hx := S.1.1
  have hb := S.1.2.1
  refine lv_iload_n hx hb dX1_iceCells_4 rfl (lv_at hl 2 rfl) ?_
  refine lv_aload_n hx hb dX1_iceCells_5 rfl (lv_at hl 0 rfl) ?_
  obtain ⟨k_0, h⟩ := h
  refine cv_i (As := []) (rest := [.int v2]) S.1 hw (k_X1_cellCount l E Z M a0  _ h) wv_X1_69 yc_X1_cellCount ⟨rfl, rfl⟩ ⟨Nat.le_of_ble_eq_true rfl, Nat.le_of_ble_eq_true rfl⟩ rfl hl.1 (Nat.le_of_ble_eq_true rfl) (ci := 1) (q := (RX1, TX1, 12)) rfl rfl (by rw [k_0]; decide) (cell_1 k_0) ⟨Nat.le_of_ble_eq_true rfl, Nat.le_of_ble_eq_true rfl⟩ dX1_iceCells_6 (fun r6 M6 H locs h hw => ?_)
  refine lv_icmp_ge (tgt := 29) hx hb dX1_iceCells_9 (by decide) (fun q_9 => ?_) (fun q_9 => ?_)
  · have h := h.1 q_9
    refine lv_iload_n hx hb dX1_iceCells_29 rfl (lv_at hl 1 rfl) ?_
    exact we_i S hw h dX1_iceCells_30
  · have h := h.2 q_9
    refine lv_aload_n hx hb dX1_iceCells_12 rfl (lv_at hl 0 rfl) ?_
    refine lv_iload_n hx hb dX1_iceCells_13 rfl (lv_at hl 2 rfl) ?_
    refine cv_i (As := [.int v2]) (rest := []) S.1 hw (k_X1_isIce l E Z M6 a0 v2 _ h) wv_X1_76 yc_X1_isIce ⟨rfl, rfl⟩ ⟨Nat.le_of_ble_eq_true rfl, Nat.le_of_ble_eq_true rfl⟩ rfl hl.1 (Nat.le_of_ble_eq_true rfl) (ci := 1) (q := (RX1, TX1, 12)) rfl rfl (by rw [k_0]; decide) (cell_1 k_0) ⟨Nat.le_of_ble_eq_true rfl, Nat.le_of_ble_eq_true rfl⟩ dX1_iceCells_14 (fun r14 M14 H locs h hw => ?_)
    refine lv_if_eq (tgt := 23) hx hb dX1_iceCells_17 (by decide) (fun q_17 => ?_) (fun q_17 => ?_)
    · have h := h.1 q_17
      exact ((wB_X1_iceCells_23 S  hK4 _ _ _ _ h)) H locs ls hw (lv_sub hl [0, 1, 2] rfl)
    · have h := h.2 q_17
      refine lv_iinc (v := (v1 + 1)) (lv' := [(1, .int (v1 + 1)), (0, .ref a0), (2, .int v2)]) hx hb dX1_iceCells_20 hl (k := 1) rfl rfl (by decide) rfl (fun ls hl => ?_)
      exact ((wB_X1_iceCells_23 S  hK4 _ _ _ _ h)) H locs ls hw (lv_sub hl [1, 0, 2] rfl)
theorem wL_X1_iceCells_4 (S : Cx p m c meth cX1_iceCells 3 s args RX1 (some .int)) {Q : Int32 → MM → Prop}   : ∀ (n : Nat) (M : MM) (a0 : Nat) (v1 : Int32) (v2 : Int32), L_X1_iceCells_4 Z Q  n M a0 v1 v2 → WG p l e rm_X1_iceCells s m args below meth c 0 0 (MQi below E Z args s Q) E Z M 4 3 [(0, .ref a0), (1, .int v1), (2, .int v2)] []
  | 0, _, _, _, _, h => False.elim h
  | n + 1, M, a0, v1, v2, h => wB_X1_iceCells_4 S  (wL_X1_iceCells_4 S   n) M a0 v1 v2 h
set_option maxRecDepth 100000 in
set_option maxHeartbeats 4000000 in
theorem wB_X1_iceCells_0 (S : Cx p m c meth cX1_iceCells 3 s args RX1 (some .int)) {Q : Int32 → MM → Prop}   (M : MM) (a0 : Nat) (h : B_X1_iceCells_0 Z Q  M a0) : WG p l e rm_X1_iceCells s m args below meth c 0 0 (MQi below E Z args s Q) E Z M 0 3 [(0, .ref a0)] [] := by
  intro H locs ls hw hl
  have hx := S.1.1
  have hb := S.1.2.1
  refine lv_iconst (v := 0) hx hb dX1_iceCells_0 (by decide) ?_
  refine lv_istore_n (lv' := [(1, .int 0), (0, .ref a0)]) hx hb dX1_iceCells_1 rfl hl (by decide) rfl (fun ls hl => ?_)
  refine lv_iconst (v := 0) hx hb dX1_iceCells_2 (by decide) ?_
  refine lv_istore_n (lv' := [(2, .int 0), (1, .int 0), (0, .ref a0)]) hx hb dX1_iceCells_3 rfl hl (by decide) rfl (fun ls hl => ?_)
  exact ((Exists.elim h (fun n h => wL_X1_iceCells_4 S   n _ _ _ _ h))) H locs ls hw (lv_sub hl [2, 1, 0] rfl)
set_option maxRecDepth 100000 in
set_option maxHeartbeats 4000000 in
theorem k_X1_iceCells (l : Launch) (E : EE) (Z : ZZ) (M : MM) (a0 : Nat) (Q : Int32 → MM → Prop) (h : P_X1_iceCells Z M a0 Q) : Ct_i l yX1_iceCells cX1_iceCells 3 (some .int) rm_X1_iceCells E Z M [.ref a0] Q := by
  refine Met.ofW (cc := cX1_iceCells) (maxL := 3) (ret := some .int) (by decide) rfl ?_
  intro p e s m args below meth c s₁ B hml hv
  obtain ⟨rfl, hK, hP, hD, hZ⟩ := hv
  have S : Cx p m c meth cX1_iceCells 3 s _ RX1 (some .int) := ⟨⟨B.exec, B.bytes, hml, findClass_of_methodNamed B.named, fun w hw => atoms_spec (ws := ws_ yX1_iceCells cX1_iceCells 3 (some .int)) B.pre w (List.mem_cons_of_mem _ hw)⟩, B.returns, B.notSynchronized⟩
  have hl := lv_entry ([.ref a0]) (n := 3) (Nat.le_of_ble_eq_true rfl)
  rw [lg_entry_eq]
  generalize (lg_sl ([.ref a0]) ++ List.replicate (3 - (lg_sl ([.ref a0])).length) Slot.unset).toArray = ls at hl ⊢
  exact (wB_X1_iceCells_0 S  M a0 h) s.heap [] ls ⟨hK, hP, hD, va_S.rf, hZ⟩ hl
set_option maxRecDepth 100000 in
set_option maxHeartbeats 4000000 in
theorem wB_X0_countAll_21 (S : Cx p m c meth cX0_countAll 3 s args RX0 (some .int)) {Q : Int32 → MM → Prop} {K4 : MM → Nat → Int32 → Int32 → Prop} (hK4 : ∀ (M : MM) (a0 : Nat) (v1 : Int32) (v2 : Int32), K4 M a0 v1 v2 → WG p l e rm_X0_countAll s m args below meth c 0 0 (MQi below E Z args s Q) E Z M 4 3 [(0, .ref a0), (1, .int v1), (2, .int v2)] []) (M : MM) (a0 : Nat) (v1 : Int32) (v2 : Int32) (h : B_X0_countAll_21 Z Q K4 M a0 v1 v2) : WG p l e rm_X0_countAll s m args below meth c 0 0 (MQi below E Z args s Q) E Z M 21 3 [(0, .ref a0), (1, .int v1), (2, .int v2)] [] := by
  intro H locs ls hw hl
  have hx := S.1.1
  have hb := S.1.2.1
  refine lv_iinc (v := (v2 + 1)) (lv' := [(2, .int (v2 + 1)), (0, .ref a0), (1, .int v1)]) hx hb dX0_countAll_21 hl (k := 2) rfl rfl (by decide) rfl (fun ls hl => ?_)
  refine lv_goto (tgt := 4) hx hb dX0_countAll_24 (by decide) ?_
  exact (hK4 _ _ _ _ h) H locs ls hw (lv_sub hl [1, 2, 0] rfl)
set_option maxRecDepth 100000 in
set_option maxHeartbeats 4000000 in
theorem wB_X0_countAll_4 (S : Cx p m c meth cX0_countAll 3 s args RX0 (some .int)) {Q : Int32 → MM → Prop} {K4 : MM → Nat → Int32 → Int32 → Prop} (hK4 : ∀ (M : MM) (a0 : Nat) (v1 : Int32) (v2 : Int32), K4 M a0 v1 v2 → WG p l e rm_X0_countAll s m args below meth c 0 0 (MQi below E Z args s Q) E Z M 4 3 [(0, .ref a0), (1, .int v1), (2, .int v2)] []) (M : MM) (a0 : Nat) (v1 : Int32) (v2 : Int32) (h : B_X0_countAll_4 Z Q K4 M a0 v1 v2) : WG p l e rm_X0_countAll s m args below meth c 0 0 (MQi below E Z args s Q) E Z M 4 3 [(0, .ref a0), (1, .int v1), (2, .int v2)] [] := by
  intro H locs ls hw hl
  have hx := S.1.1
  have hb := S.1.2.1
  refine lv_iload_n hx hb dX0_countAll_4 rfl (lv_at hl 2 rfl) ?_
  refine lv_bipush (v := 49) hx hb dX0_countAll_5 (by decide) ?_
  refine lv_icmp_ge (tgt := 27) hx hb dX0_countAll_7 (by decide) (fun q_7 => ?_) (fun q_7 => ?_)
  · have h := h.1 q_7
    refine lv_iload_n hx hb dX0_countAll_27 rfl (lv_at hl 1 rfl) ?_
    exact we_i S hw h dX0_countAll_28
  · have h := h.2 q_7
    refine lv_aload_n hx hb dX0_countAll_10 rfl (lv_at hl 0 rfl) ?_
    refine lv_iload_n hx hb dX0_countAll_11 rfl (lv_at hl 2 rfl) ?_
    obtain ⟨k_0, h⟩ := h
    refine cv_i (As := [.int v2]) (rest := []) S.1 hw (k_X0_isBlock l E Z M a0 v2 _ h) wv_X0_61 yc_X0_isBlock ⟨rfl, rfl⟩ ⟨Nat.le_of_ble_eq_true rfl, Nat.le_of_ble_eq_true rfl⟩ rfl hl.1 (Nat.le_of_ble_eq_true rfl) (ci := 0) (q := (RX0, TX0, 3)) rfl rfl (by rw [k_0]; decide) (cell_0 k_0) ⟨Nat.le_of_ble_eq_true rfl, Nat.le_of_ble_eq_true rfl⟩ dX0_countAll_12 (fun r12 M12 H locs h hw => ?_)
    refine lv_if_eq (tgt := 21) hx hb dX0_countAll_15 (by decide) (fun q_15 => ?_) (fun q_15 => ?_)
    · have h := h.1 q_15
      exact ((wB_X0_countAll_21 S  hK4 _ _ _ _ h)) H locs ls hw (lv_sub hl [0, 1, 2] rfl)
    · have h := h.2 q_15
      refine lv_iinc (v := (v1 + 1)) (lv' := [(1, .int (v1 + 1)), (0, .ref a0), (2, .int v2)]) hx hb dX0_countAll_18 hl (k := 1) rfl rfl (by decide) rfl (fun ls hl => ?_)
      exact ((wB_X0_countAll_21 S  hK4 _ _ _ _ h)) H locs ls hw (lv_sub hl [1, 0, 2] rfl)
theorem wL_X0_countAll_4 (S : Cx p m c meth cX0_countAll 3 s args RX0 (some .int)) {Q : Int32 → MM → Prop}   : ∀ (n : Nat) (M : MM) (a0 : Nat) (v1 : Int32) (v2 : Int32), L_X0_countAll_4 Z Q  n M a0 v1 v2 → WG p l e rm_X0_countAll s m args below meth c 0 0 (MQi below E Z args s Q) E Z M 4 3 [(0, .ref a0), (1, .int v1), (2, .int v2)] []
  | 0, _, _, _, _, h => False.elim h
  | n + 1, M, a0, v1, v2, h => wB_X0_countAll_4 S  (wL_X0_countAll_4 S   n) M a0 v1 v2 h
set_option maxRecDepth 100000 in
set_option maxHeartbeats 4000000 in
theorem wB_X0_countAll_0 (S : Cx p m c meth cX0_countAll 3 s args RX0 (some .int)) {Q : Int32 → MM → Prop}   (M : MM) (a0 : Nat) (h : B_X0_countAll_0 Z Q  M a0) : WG p l e rm_X0_countAll s m args below meth c 0 0 (MQi below E Z args s Q) E Z M 0 3 [(0, .ref a0)] [] := by
  intro H locs ls hw hl
  have hx := S.1.1
  have hb := S.1.2.1
  refine lv_iconst (v := 0) hx hb dX0_countAll_0 (by decide) ?_
  refine lv_istore_n (lv' := [(1, .int 0), (0, .ref a0)]) hx hb dX0_countAll_1 rfl hl (by decide) rfl (fun ls hl => ?_)
  refine lv_iconst (v := 0) hx hb dX0_countAll_2 (by decide) ?_
  refine lv_istore_n (lv' := [(2, .int 0), (1, .int 0), (0, .ref a0)]) hx hb dX0_countAll_3 rfl hl (by decide) rfl (fun ls hl => ?_)
  exact ((Exists.elim h (fun n h => wL_X0_countAll_4 S   n _ _ _ _ h))) H locs ls hw (lv_sub hl [2, 1, 0] rfl)
set_option maxRecDepth 100000 in
set_option maxHeartbeats 4000000 in
theorem k_X0_countAll (l : Launch) (E : EE) (Z : ZZ) (M : MM) (a0 : Nat) (Q : Int32 → MM → Prop) (h : P_X0_countAll Z M a0 Q) : Ct_i l yX0_countAll cX0_countAll 3 (some .int) rm_X0_countAll E Z M [.ref a0] Q := by
  refine Met.ofW (cc := cX0_countAll) (maxL := 3) (ret := some .int) (by decide) rfl ?_
  intro p e s m args below meth c s₁ B hml hv
  obtain ⟨rfl, hK, hP, hD, hZ⟩ := hv
  have S : Cx p m c meth cX0_countAll 3 s _ RX0 (some .int) := ⟨⟨B.exec, B.bytes, hml, findClass_of_methodNamed B.named, fun w hw => atoms_spec (ws := ws_ yX0_countAll cX0_countAll 3 (some .int)) B.pre w (List.mem_cons_of_mem _ hw)⟩, B.returns, B.notSynchronized⟩
  have hl := lv_entry ([.ref a0]) (n := 3) (Nat.le_of_ble_eq_true rfl)
  rw [lg_entry_eq]
  generalize (lg_sl ([.ref a0]) ++ List.replicate (3 - (lg_sl ([.ref a0])).length) Slot.unset).toArray = ls at hl ⊢
  exact (wB_X0_countAll_0 S  M a0 h) s.heap [] ls ⟨hK, hP, hD, va_S.rf, hZ⟩ hl
set_option maxRecDepth 100000 in
set_option maxHeartbeats 4000000 in
theorem wB_X0_countLoose_21 (S : Cx p m c meth cX0_countLoose 3 s args RX0 (some .int)) {Q : Int32 → MM → Prop} {K4 : MM → Nat → Int32 → Int32 → Prop} (hK4 : ∀ (M : MM) (a0 : Nat) (v1 : Int32) (v2 : Int32), K4 M a0 v1 v2 → WG p l e rm_X0_countLoose s m args below meth c 0 0 (MQi below E Z args s Q) E Z M 4 3 [(0, .ref a0), (1, .int v1), (2, .int v2)] []) (M : MM) (a0 : Nat) (v1 : Int32) (v2 : Int32) (h : B_X0_countLoose_21 Z Q K4 M a0 v1 v2) : WG p l e rm_X0_countLoose s m args below meth c 0 0 (MQi below E Z args s Q) E Z M 21 3 [(0, .ref a0), (1, .int v1), (2, .int v2)] [] := by
  intro H locs ls hw hl
  have hx := S.1.1
  have hb := S.1.2.1
  refine lv_iinc (v := (v2 + 1)) (lv' := [(2, .int (v2 + 1)), (0, .ref a0), (1, .int v1)]) hx hb dX0_countLoose_21 hl (k := 2) rfl rfl (by decide) rfl (fun ls hl => ?_)
  refine lv_goto (tgt := 4) hx hb dX0_countLoose_24 (by decide) ?_
  exact (hK4 _ _ _ _ h) H locs ls hw (lv_sub hl [1, 2, 0] rfl)
set_option maxRecDepth 100000 in
set_option maxHeartbeats 4000000 in
theorem wB_X0_countLoose_4 (S : Cx p m c meth cX0_countLoose 3 s args RX0 (some .int)) {Q : Int32 → MM → Prop} {K4 : MM → Nat → Int32 → Int32 → Prop} (hK4 : ∀ (M : MM) (a0 : Nat) (v1 : Int32) (v2 : Int32), K4 M a0 v1 v2 → WG p l e rm_X0_countLoose s m args below meth c 0 0 (MQi below E Z args s Q) E Z M 4 3 [(0, .ref a0), (1, .int v1), (2, .int v2)] []) (M : MM) (a0 : Nat) (v1 : Int32) (v2 : Int32) (h : B_X0_countLoose_4 Z Q K4 M a0 v1 v2) : WG p l e rm_X0_countLoose s m args below meth c 0 0 (MQi below E Z args s Q) E Z M 4 3 [(0, .ref a0), (1, .int v1), (2, .int v2)] [] := by
  intro H locs ls hw hl
  have hx := S.1.1
  have hb := S.1.2.1
  refine lv_iload_n hx hb dX0_countLoose_4 rfl (lv_at hl 2 rfl) ?_
  refine lv_bipush (v := 49) hx hb dX0_countLoose_5 (by decide) ?_
  refine lv_icmp_ge (tgt := 27) hx hb dX0_countLoose_7 (by decide) (fun q_7 => ?_) (fun q_7 => ?_)
  · have h := h.1 q_7
    refine lv_iload_n hx hb dX0_countLoose_27 rfl (lv_at hl 1 rfl) ?_
    exact we_i S hw h dX0_countLoose_28
  · have h := h.2 q_7
    refine lv_aload_n hx hb dX0_countLoose_10 rfl (lv_at hl 0 rfl) ?_
    refine lv_iload_n hx hb dX0_countLoose_11 rfl (lv_at hl 2 rfl) ?_
    obtain ⟨k_0, h⟩ := h
    refine cv_i (As := [.int v2]) (rest := []) S.1 hw (k_X0_isLoose l E Z M a0 v2 _ h) wv_X0_64 yc_X0_isLoose ⟨rfl, rfl⟩ ⟨Nat.le_of_ble_eq_true rfl, Nat.le_of_ble_eq_true rfl⟩ rfl hl.1 (Nat.le_of_ble_eq_true rfl) (ci := 0) (q := (RX0, TX0, 3)) rfl rfl (by rw [k_0]; decide) (cell_0 k_0) ⟨Nat.le_of_ble_eq_true rfl, Nat.le_of_ble_eq_true rfl⟩ dX0_countLoose_12 (fun r12 M12 H locs h hw => ?_)
    refine lv_if_eq (tgt := 21) hx hb dX0_countLoose_15 (by decide) (fun q_15 => ?_) (fun q_15 => ?_)
    · have h := h.1 q_15
      exact ((wB_X0_countLoose_21 S  hK4 _ _ _ _ h)) H locs ls hw (lv_sub hl [0, 1, 2] rfl)
    · have h := h.2 q_15
      refine lv_iinc (v := (v1 + 1)) (lv' := [(1, .int (v1 + 1)), (0, .ref a0), (2, .int v2)]) hx hb dX0_countLoose_18 hl (k := 1) rfl rfl (by decide) rfl (fun ls hl => ?_)
      exact ((wB_X0_countLoose_21 S  hK4 _ _ _ _ h)) H locs ls hw (lv_sub hl [1, 0, 2] rfl)
theorem wL_X0_countLoose_4 (S : Cx p m c meth cX0_countLoose 3 s args RX0 (some .int)) {Q : Int32 → MM → Prop}   : ∀ (n : Nat) (M : MM) (a0 : Nat) (v1 : Int32) (v2 : Int32), L_X0_countLoose_4 Z Q  n M a0 v1 v2 → WG p l e rm_X0_countLoose s m args below meth c 0 0 (MQi below E Z args s Q) E Z M 4 3 [(0, .ref a0), (1, .int v1), (2, .int v2)] []
  | 0, _, _, _, _, h => False.elim h
  | n + 1, M, a0, v1, v2, h => wB_X0_countLoose_4 S  (wL_X0_countLoose_4 S   n) M a0 v1 v2 h
set_option maxRecDepth 100000 in
set_option maxHeartbeats 4000000 in
theorem wB_X0_countLoose_0 (S : Cx p m c meth cX0_countLoose 3 s args RX0 (some .int)) {Q : Int32 → MM → Prop}   (M : MM) (a0 : Nat) (h : B_X0_countLoose_0 Z Q  M a0) : WG p l e rm_X0_countLoose s m args below meth c 0 0 (MQi below E Z args s Q) E Z M 0 3 [(0, .ref a0)] [] := by
  intro H locs ls hw hl
  have hx := S.1.1
  have hb := S.1.2.1
  refine lv_iconst (v := 0) hx hb dX0_countLoose_0 (by decide) ?_
  refine lv_istore_n (lv' := [(1, .int 0), (0, .ref a0)]) hx hb dX0_countLoose_1 rfl hl (by decide) rfl (fun ls hl => ?_)
  refine lv_iconst (v := 0) hx hb dX0_countLoose_2 (by decide) ?_
  refine lv_istore_n (lv' := [(2, .int 0), (1, .int 0), (0, .ref a0)]) hx hb dX0_countLoose_3 rfl hl (by decide) rfl (fun ls hl => ?_)
  exact ((Exists.elim h (fun n h => wL_X0_countLoose_4 S   n _ _ _ _ h))) H locs ls hw (lv_sub hl [2, 1, 0] rfl)
set_option maxRecDepth 100000 in
set_option maxHeartbeats 4000000 in
theorem k_X0_countLoose (l : Launch) (E : EE) (Z : ZZ) (M : MM) (a0 : Nat) (Q : Int32 → MM → Prop) (h : P_X0_countLoose Z M a0 Q) : Ct_i l yX0_countLoose cX0_countLoose 3 (some .int) rm_X0_countLoose E Z M [.ref a0] Q := by
  refine Met.ofW (cc := cX0_countLoose) (maxL := 3) (ret := some .int) (by decide) rfl ?_
  intro p e s m args below meth c s₁ B hml hv
  obtain ⟨rfl, hK, hP, hD, hZ⟩ := hv
  have S : Cx p m c meth cX0_countLoose 3 s _ RX0 (some .int) := ⟨⟨B.exec, B.bytes, hml, findClass_of_methodNamed B.named, fun w hw => atoms_spec (ws := ws_ yX0_countLoose cX0_countLoose 3 (some .int)) B.pre w (List.mem_cons_of_mem _ hw)⟩, B.returns, B.notSynchronized⟩
  have hl := lv_entry ([.ref a0]) (n := 3) (Nat.le_of_ble_eq_true rfl)
  rw [lg_entry_eq]
  generalize (lg_sl ([.ref a0]) ++ List.replicate (3 - (lg_sl ([.ref a0])).length) Slot.unset).toArray = ls at hl ⊢
  exact (wB_X0_countLoose_0 S  M a0 h) s.heap [] ls ⟨hK, hP, hD, va_S.rf, hZ⟩ hl
