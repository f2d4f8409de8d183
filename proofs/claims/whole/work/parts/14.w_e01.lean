variable {p : Program} {l : Launch} {e : Env} {s : State} {m : MethodId} {args : Array Value} {below : List Frame} {meth : Method} {c : Code} {E : EE} {Z : ZZ}
set_option maxRecDepth 100000 in
set_option maxHeartbeats 4000000 in
theorem wB_X6_findsBlocks_28 (S : Cx p m c meth cX6_findsBlocks 3 s args RX6 (none)) {Q : MM → Prop} {K2 : MM → Nat → Int32 → Prop} (hK2 : ∀ (M : MM) (a0 : Nat) (v1 : Int32), K2 M a0 v1 → WG p l e rm_X6_findsBlocks s m args below meth c 0 0 (MQv below E Z args s Q) E Z M 2 3 [(0, .ref a0), (1, .int v1)] []) (M : MM) (a0 : Nat) (v1 : Int32) (t0 : Int32) (t1 : Int32) (t2 : Nat) (h : B_X6_findsBlocks_28 Z Q K2 M a0 v1 t0 t1 t2) : WG p l e rm_X6_findsBlocks s m args below meth c 0 0 (MQv below E Z args s Q) E Z M 28 3 [(0, .ref a0), (1, .int v1)] [.int t0, .int t1, .ref t2] := by
  intro H locs ls hw hl
  have hx := S.1.1
  have hb := S.1.2.1
  obtain ⟨k_0, h⟩ := h
  obtain ⟨i_28, h⟩ := h
  refine wo_iast S.1 hw k_0 i_28 dX6_findsBlocks_28 (fun H locs hw => ?_)
  refine lv_iinc (v := (v1 + 1)) (lv' := [(1, .int (v1 + 1)), (0, .ref a0)]) hx hb dX6_findsBlocks_29 hl (k := 1) rfl rfl (by decide) rfl (fun ls hl => ?_)
  refine lv_goto (tgt := 2) hx hb dX6_findsBlocks_32 (by decide) ?_
  exact (hK2 _ _ _ h) H locs ls hw (lv_sub hl [1, 0] rfl)
set_option maxRecDepth 100000 in
set_option maxHeartbeats 4000000 in
theorem wB_X6_findsBlocks_89 (S : Cx p m c meth cX6_findsBlocks 3 s args RX6 (none)) {Q : MM → Prop} {K94 : MM → Nat → Int32 → Int32 → Prop} (hK94 : ∀ (M : MM) (a0 : Nat) (v2 : Int32) (t0 : Int32), K94 M a0 v2 t0 → WG p l e rm_X6_findsBlocks s m args below meth c 0 0 (MQv below E Z args s Q) E Z M 94 3 [(0, .ref a0), (2, .int v2)] [.int t0]) (M : MM) (a0 : Nat) (v2 : Int32) (h : B_X6_findsBlocks_89 Z Q K94 M a0 v2) : WG p l e rm_X6_findsBlocks s m args below meth c 0 0 (MQv below E Z args s Q) E Z M 89 3 [(0, .ref a0), (2, .int v2)] [] := by
  intro H locs ls hw hl
  have hx := S.1.1
  have hb := S.1.2.1
  refine lv_iconst (v := 1) hx hb dX6_findsBlocks_89 (by decide) ?_
  refine lv_goto (tgt := 94) hx hb dX6_findsBlocks_90 (by decide) ?_
  exact (hK94 _ _ _ _ h) H locs ls hw (lv_sub hl [0, 1] rfl)
set_option maxRecDepth 100000 in
set_option maxHeartbeats 4000000 in
theorem wB_X6_findsBlocks_94 (S : Cx p m c meth cX6_findsBlocks 3 s args RX6 (none)) {Q : MM → Prop} {K95 : MM → Nat → Int32 → Int32 → Prop} (hK95 : ∀ (M : MM) (a0 : Nat) (v1 : Int32) (v2 : Int32), K95 M a0 v1 v2 → WG p l e rm_X6_findsBlocks s m args below meth c 0 0 (MQv below E Z args s Q) E Z M 95 3 [(0, .ref a0), (1, .int v1), (2, .int v2)] []) (M : MM) (a0 : Nat) (v2 : Int32) (t0 : Int32) (h : B_X6_findsBlocks_94 Z Q K95 M a0 v2 t0) : WG p l e rm_X6_findsBlocks s m args below meth c 0 0 (MQv below E Z args s Q) E Z M 94 3 [(0, .ref a0), (2, .int v2)] [.int t0] := by
  intro H locs ls hw hl
  have hx := S.1.1
  have hb := S.1.2.1
  refine lv_istore_n (lv' := [(1, .int t0), (0, .ref a0), (2, .int v2)]) hx hb dX6_findsBlocks_94 rfl hl (by decide) rfl (fun ls hl => ?_)
  exact (hK95 _ _ _ _ h) H locs ls hw (lv_sub hl [1, 0, 2] rfl)
set_option maxRecDepth 100000 in
set_option maxHeartbeats 4000000 in
theorem wB_X6_findsBlocks_141 (S : Cx p m c meth cX6_findsBlocks 3 s args RX6 (none)) {Q : MM → Prop} {K146 : MM → Nat → Int32 → Int32 → Prop} (hK146 : ∀ (M : MM) (a0 : Nat) (v2 : Int32) (t0 : Int32), K146 M a0 v2 t0 → WG p l e rm_X6_findsBlocks s m args below meth c 0 0 (MQv below E Z args s Q) E Z M 146 3 [(0, .ref a0), (2, .int v2)] [.int t0]) (M : MM) (a0 : Nat) (v2 : Int32) (h : B_X6_findsBlocks_141 Z Q K146 M a0 v2) : WG p l e rm_X6_findsBlocks s m args below meth c 0 0 (MQv below E Z args s Q) E Z M 141 3 [(0, .ref a0), (2, .int v2)] [] := by
  intro H locs ls hw hl
  have hx := S.1.1
  have hb := S.1.2.1
  refine lv_iconst (v := 1) hx hb dX6_findsBlocks_141 (by decide) ?_
  refine lv_goto (tgt := 146) hx hb dX6_findsBlocks_142 (by decide) ?_
  exact (hK146 _ _ _ _ h) H locs ls hw (lv_sub hl [0, 1] rfl)
set_option maxRecDepth 100000 in
set_option maxHeartbeats 4000000 in
theorem wB_X6_findsBlocks_146 (S : Cx p m c meth cX6_findsBlocks 3 s args RX6 (none)) {Q : MM → Prop} {K147 : MM → Nat → Int32 → Int32 → Prop} (hK147 : ∀ (M : MM) (a0 : Nat) (v1 : Int32) (v2 : Int32), K147 M a0 v1 v2 → WG p l e rm_X6_findsBlocks s m args below meth c 0 0 (MQv below E Z args s Q) E Z M 147 3 [(0, .ref a0), (1, .int v1), (2, .int v2)] []) (M : MM) (a0 : Nat) (v2 : Int32) (t0 : Int32) (h : B_X6_findsBlocks_146 Z Q K147 M a0 v2 t0) : WG p l e rm_X6_findsBlocks s m args below meth c 0 0 (MQv below E Z args s Q) E Z M 146 3 [(0, .ref a0), (2, .int v2)] [.int t0] := by
  intro H locs ls hw hl
  have hx := S.1.1
  have hb := S.1.2.1
  refine lv_istore_n (lv' := [(1, .int t0), (0, .ref a0), (2, .int v2)]) hx hb dX6_findsBlocks_146 rfl hl (by decide) rfl (fun ls hl => ?_)
  exact (hK147 _ _ _ _ h) H locs ls hw (lv_sub hl [1, 0, 2] rfl)
set_option maxRecDepth 100000 in
set_option maxHeartbeats 4000000 in
theorem wB_X6_findsBlocks_147 (S : Cx p m c meth cX6_findsBlocks 3 s args RX6 (none)) {Q : MM → Prop} {K45 : MM → Nat → Int32 → Int32 → Prop} (hK45 : ∀ (M : MM) (a0 : Nat) (v1 : Int32) (v2 : Int32), K45 M a0 v1 v2 → WG p l e rm_X6_findsBlocks s m args below meth c 0 0 (MQv below E Z args s Q) E Z M 45 3 [(0, .ref a0), (1, .int v1), (2, .int v2)] []) (M : MM) (a0 : Nat) (v1 : Int32) (v2 : Int32) (h : B_X6_findsBlocks_147 Z Q K45 M a0 v1 v2) : WG p l e rm_X6_findsBlocks s m args below meth c 0 0 (MQv below E Z args s Q) E Z M 147 3 [(0, .ref a0), (1, .int v1), (2, .int v2)] [] := by
  intro H locs ls hw hl
  have hx := S.1.1
  have hb := S.1.2.1
  refine lv_iinc (v := (v2 + 1)) (lv' := [(2, .int (v2 + 1)), (0, .ref a0), (1, .int v1)]) hx hb dX6_findsBlocks_147 hl (k := 2) rfl rfl (by decide) rfl (fun ls hl => ?_)
  refine lv_goto (tgt := 45) hx hb dX6_findsBlocks_150 (by decide) ?_
  exact (hK45 _ _ _ _ h) H locs ls hw (lv_sub hl [1, 2, 0] rfl)
set_option maxRecDepth 100000 in
set_option maxHeartbeats 4000000 in
theorem wB_X6_findsBlocks_95 (S : Cx p m c meth cX6_findsBlocks 3 s args RX6 (none)) {Q : MM → Prop} {K45 : MM → Nat → Int32 → Int32 → Prop} (hK45 : ∀ (M : MM) (a0 : Nat) (v1 : Int32) (v2 : Int32), K45 M a0 v1 v2 → WG p l e rm_X6_findsBlocks s m args below meth c 0 0 (MQv below E Z args s Q) E Z M 45 3 [(0, .ref a0), (1, .int v1), (2, .int v2)] []) (M : MM) (a0 : Nat) (v1 : Int32) (v2 : Int32) (h : B_X6_findsBlocks_95 Z Q K45 M a0 v1 v2) : WG p l e rm_X6_findsBlocks s m args below meth c 0 0 (MQv below E Z args s Q) E Z M 95 3 [(0, .ref a0), (1, .int v1), (2, .int v2)] [] := by
  intro H locs ls hw hl
  have hx := S.1.1
  have hb := S.1.2.1
  refine lv_aload_n hx hb dX6_findsBlocks_95 rfl (lv_at hl 0 rfl) ?_
  refine lv_iload_n hx hb dX6_findsBlocks_96 rfl (lv_at hl 2 rfl) ?_
  refine lv_iconst (v := 1) hx hb dX6_findsBlocks_97 (by decide) ?_
  obtain ⟨k_0, h⟩ := h
  refine cv_i (As := [.int v2, .int 1]) (rest := []) S.1 hw (k_X6_canSaw l E Z M a0 v2 1 _ h) wv_X6_79 yc_X6_canSaw ⟨rfl, rfl⟩ ⟨Nat.le_of_ble_eq_true rfl, Nat.le_of_ble_eq_true rfl⟩ rfl hl.1 (Nat.le_of_ble_eq_true rfl) (ci := 6) (q := (RX6, TX6, 12)) rfl rfl (by rw [k_0]; decide) (cell_6 k_0) ⟨Nat.le_of_ble_eq_true rfl, Nat.le_of_ble_eq_true rfl⟩ dX6_findsBlocks_98 (fun r98 M98 H locs h hw => ?_)
  refine lv_if_eq (tgt := 147) hx hb dX6_findsBlocks_101 (by decide) (fun q_101 => ?_) (fun q_101 => ?_)
  · have h := h.1 q_101
    exact ((wB_X6_findsBlocks_147 S  hK45 _ _ _ _ h)) H locs ls hw (lv_sub hl [0, 1, 2] rfl)
  · have h := h.2 q_101
    refine lv_aload_n hx hb dX6_findsBlocks_104 rfl (lv_at hl 0 rfl) ?_
    refine lv_iload_n hx hb dX6_findsBlocks_105 rfl (lv_at hl 2 rfl) ?_
    refine lv_iload_n hx hb dX6_findsBlocks_106 rfl (lv_at hl 2 rfl) ?_
    refine lv_aload_n hx hb dX6_findsBlocks_107 rfl (lv_at hl 0 rfl) ?_
    obtain ⟨y108_1, hy_1, h⟩ := h
    refine gf_X6_7 S.1 hw k_0 hy_1 dX6_findsBlocks_108 ?_
    refine lv_iconst (v := 0) hx hb dX6_findsBlocks_111 (by decide) ?_
    obtain ⟨k_2, h⟩ := h
    obtain ⟨i_112, h⟩ := h
    refine wo_iald S.1 hw k_2 i_112 dX6_findsBlocks_112 ?_
    refine lv_iadd hx hb dX6_findsBlocks_113 ?_
    refine lv_iconst (v := 1) hx hb dX6_findsBlocks_114 (by decide) ?_
    refine cv_i (As := [.int v2, .int (v2 + (mA M98 y108_1 (0 : Int32).toNatClampNeg)), .int 1]) (rest := []) S.1 hw (k_X6_hang l E Z M98 a0 v2 (v2 + (mA M98 y108_1 (0 : Int32).toNatClampNeg)) 1 _ h) wv_X6_115 yc_X6_hang ⟨rfl, rfl⟩ ⟨Nat.le_of_ble_eq_true rfl, Nat.le_of_ble_eq_true rfl⟩ rfl hl.1 (Nat.le_of_ble_eq_true rfl) (ci := 6) (q := (RX6, TX6, 12)) rfl rfl (by rw [k_0]; decide) (cell_6 k_0) ⟨Nat.le_of_ble_eq_true rfl, Nat.le_of_ble_eq_true rfl⟩ dX6_findsBlocks_115 (fun r115 M115 H locs h hw => ?_)
    refine lv_if_eq (tgt := 147) hx hb dX6_findsBlocks_118 (by decide) (fun q_118 => ?_) (fun q_118 => ?_)
    · have h := h.1 q_118
      exact ((wB_X6_findsBlocks_147 S  hK45 _ _ _ _ h)) H locs ls hw (lv_sub hl [0, 1, 2] rfl)
    · have h := h.2 q_118
      refine lv_aload_n hx hb dX6_findsBlocks_121 rfl (lv_at hl 0 rfl) ?_
      refine lv_iload_n hx hb dX6_findsBlocks_122 rfl (lv_at hl 2 rfl) ?_
      refine lv_iload_n hx hb dX6_findsBlocks_123 rfl (lv_at hl 2 rfl) ?_
      refine lv_aload_n hx hb dX6_findsBlocks_124 rfl (lv_at hl 0 rfl) ?_
      refine gf_X6_7 S.1 hw k_0 hy_1 dX6_findsBlocks_125 ?_
      refine lv_iconst (v := 0) hx hb dX6_findsBlocks_128 (by decide) ?_
      obtain ⟨i_129, h⟩ := h
      refine wo_iald S.1 hw k_2 i_129 dX6_findsBlocks_129 ?_
      refine lv_iadd hx hb dX6_findsBlocks_130 ?_
      refine cv_i (As := [.int v2, .int (v2 + (mA M115 y108_1 (0 : Int32).toNatClampNeg))]) (rest := []) S.1 hw (k_X6_joins l E Z M115 a0 v2 (v2 + (mA M115 y108_1 (0 : Int32).toNatClampNeg)) _ h) wv_X6_118 yc_X6_joins ⟨rfl, rfl⟩ ⟨Nat.le_of_ble_eq_true rfl, Nat.le_of_ble_eq_true rfl⟩ rfl hl.1 (Nat.le_of_ble_eq_true rfl) (ci := 6) (q := (RX6, TX6, 12)) rfl rfl (by rw [k_0]; decide) (cell_6 k_0) ⟨Nat.le_of_ble_eq_true rfl, Nat.le_of_ble_eq_true rfl⟩ dX6_findsBlocks_131 (fun r131 M131 H locs h hw => ?_)
      refine lv_if_ne (tgt := 141) hx hb dX6_findsBlocks_134 (by decide) (fun q_134 => ?_) (fun q_134 => ?_)
      · have h := h.1 q_134
        exact ((wB_X6_findsBlocks_141 S  (fun M1 a0 v2 t0 h => (wB_X6_findsBlocks_146 S  (fun M1 a0 v1 v2 h => (wB_X6_findsBlocks_147 S  hK45 _ _ _ _ h)) _ _ _ _ h)) _ _ _ h)) H locs ls hw (lv_sub hl [0, 2] rfl)
      · have h := h.2 q_134
        refine lv_iload_n hx hb dX6_findsBlocks_137 rfl (lv_at hl 1 rfl) ?_
        refine lv_if_eq (tgt := 145) hx hb dX6_findsBlocks_138 (by decide) (fun q_138 => ?_) (fun q_138 => ?_)
        · have h := h.1 q_138
          refine lv_iconst (v := 0) hx hb dX6_findsBlocks_145 (by decide) ?_
          exact ((wB_X6_findsBlocks_146 S  (fun M1 a0 v1 v2 h => (wB_X6_findsBlocks_147 S  hK45 _ _ _ _ h)) _ _ _ _ h)) H locs ls hw (lv_sub hl [0, 2] rfl)
        · have h := h.2 q_138
          exact ((wB_X6_findsBlocks_141 S  (fun M1 a0 v2 t0 h => (wB_X6_findsBlocks_146 S  (fun M1 a0 v1 v2 h => (wB_X6_findsBlocks_147 S  hK45 _ _ _ _ h)) _ _ _ _ h)) _ _ _ h)) H locs ls hw (lv_sub hl [0, 2] rfl)
set_option maxRecDepth 100000 in
set_option maxHeartbeats 4000000 in
theorem wB_X6_findsBlocks_45 (S : Cx p m c meth cX6_findsBlocks 3 s args RX6 (none)) {Q : MM → Prop} {K37 : MM → Nat → Int32 → Prop} {K45 : MM → Nat → Int32 → Int32 → Prop} (hK37 : ∀ (M : MM) (a0 : Nat) (v1 : Int32), K37 M a0 v1 → WG p l e rm_X6_findsBlocks s m args below meth c 0 0 (MQv below E Z args s Q) E Z M 37 3 [(0, .ref a0), (1, .int v1)] []) (hK45 : ∀ (M : MM) (a0 : Nat) (v1 : Int32) (v2 : Int32), K45 M a0 v1 v2 → WG p l e rm_X6_findsBlocks s m args below meth c 0 0 (MQv below E Z args s Q) E Z M 45 3 [(0, .ref a0), (1, .int v1), (2, .int v2)] []) (M : MM) (a0 : Nat) (v1 : Int32) (v2 : Int32) (h : B_X6_findsBlocks_45 Z Q K37 K45 M a0 v1 v2) : WG p l e rm_X6_findsBlocks s m args below meth c 0 0 (MQv below E Z args s Q) E Z M 45 3 [(0, .ref a0), (1, .int v1), (2, .int v2)] [] := by
  intro H locs ls hw hl
  have hx := S.1.1
  have hb := S.1.2.1
  refine lv_iload_n hx hb dX6_findsBlocks_45 rfl (lv_at hl 2 rfl) ?_
  refine lv_aload_n hx hb dX6_findsBlocks_46 rfl (lv_at hl 0 rfl) ?_
  obtain ⟨k_0, h⟩ := h
  refine cv_i (As := []) (rest := [.int v2]) S.1 hw (k_X6_cells l E Z M a0  _ h) wv_X6_45 yc_X6_cells ⟨rfl, rfl⟩ ⟨Nat.le_of_ble_eq_true rfl, Nat.le_of_ble_eq_true rfl⟩ rfl hl.1 (Nat.le_of_ble_eq_true rfl) (ci := 6) (q := (RX6, TX6, 12)) rfl rfl (by rw [k_0]; decide) (cell_6 k_0) ⟨Nat.le_of_ble_eq_true rfl, Nat.le_of_ble_eq_true rfl⟩ dX6_findsBlocks_47 (fun r47 M47 H locs h hw => ?_)
  refine lv_icmp_ge (tgt := 153) hx hb dX6_findsBlocks_50 (by decide) (fun q_50 => ?_) (fun q_50 => ?_)
  · have h := h.1 q_50
    refine lv_goto (tgt := 37) hx hb dX6_findsBlocks_153 (by decide) ?_
    exact (hK37 _ _ _ h) H locs ls hw (lv_sub hl [0, 1] rfl)
  · have h := h.2 q_50
    refine lv_aload_n hx hb dX6_findsBlocks_53 rfl (lv_at hl 0 rfl) ?_
    refine lv_iload_n hx hb dX6_findsBlocks_54 rfl (lv_at hl 2 rfl) ?_
    refine lv_iconst (v := 0) hx hb dX6_findsBlocks_55 (by decide) ?_
    refine cv_i (As := [.int v2, .int 0]) (rest := []) S.1 hw (k_X6_canSaw l E Z M47 a0 v2 0 _ h) wv_X6_79 yc_X6_canSaw ⟨rfl, rfl⟩ ⟨Nat.le_of_ble_eq_true rfl, Nat.le_of_ble_eq_true rfl⟩ rfl hl.1 (Nat.le_of_ble_eq_true rfl) (ci := 6) (q := (RX6, TX6, 12)) rfl rfl (by rw [k_0]; decide) (cell_6 k_0) ⟨Nat.le_of_ble_eq_true rfl, Nat.le_of_ble_eq_true rfl⟩ dX6_findsBlocks_56 (fun r56 M56 H locs h hw => ?_)
    refine lv_if_eq (tgt := 95) hx hb dX6_findsBlocks_59 (by decide) (fun q_59 => ?_) (fun q_59 => ?_)
    · have h := h.1 q_59
      exact ((wB_X6_findsBlocks_95 S  hK45 _ _ _ _ h)) H locs ls hw (lv_sub hl [0, 1, 2] rfl)
    · have h := h.2 q_59
      refine lv_aload_n hx hb dX6_findsBlocks_62 rfl (lv_at hl 0 rfl) ?_
      refine lv_iload_n hx hb dX6_findsBlocks_63 rfl (lv_at hl 2 rfl) ?_
      refine lv_iload_n hx hb dX6_findsBlocks_64 rfl (lv_at hl 2 rfl) ?_
      refine lv_iconst (v := 1) hx hb dX6_findsBlocks_65 (by decide) ?_
      refine lv_iadd hx hb dX6_findsBlocks_66 ?_
      refine lv_iconst (v := 0) hx hb dX6_findsBlocks_67 (by decide) ?_
      refine cv_i (As := [.int v2, .int (v2 + 1), .int 0]) (rest := []) S.1 hw (k_X6_hang l E Z M56 a0 v2 (v2 + 1) 0 _ h) wv_X6_115 yc_X6_hang ⟨rfl, rfl⟩ ⟨Nat.le_of_ble_eq_true rfl, Nat.le_of_ble_eq_true rfl⟩ rfl hl.1 (Nat.le_of_ble_eq_true rfl) (ci := 6) (q := (RX6, TX6, 12)) rfl rfl (by rw [k_0]; decide) (cell_6 k_0) ⟨Nat.le_of_ble_eq_true rfl, Nat.le_of_ble_eq_true rfl⟩ dX6_findsBlocks_68 (fun r68 M68 H locs h hw => ?_)
      refine lv_if_eq (tgt := 95) hx hb dX6_findsBlocks_71 (by decide) (fun q_71 => ?_) (fun q_71 => ?_)
      · have h := h.1 q_71
        exact ((wB_X6_findsBlocks_95 S  hK45 _ _ _ _ h)) H locs ls hw (lv_sub hl [0, 1, 2] rfl)
      · have h := h.2 q_71
        refine lv_aload_n hx hb dX6_findsBlocks_74 rfl (lv_at hl 0 rfl) ?_
        refine lv_iload_n hx hb dX6_findsBlocks_75 rfl (lv_at hl 2 rfl) ?_
        refine lv_iload_n hx hb dX6_findsBlocks_76 rfl (lv_at hl 2 rfl) ?_
        refine lv_iconst (v := 1) hx hb dX6_findsBlocks_77 (by decide) ?_
        refine lv_iadd hx hb dX6_findsBlocks_78 ?_
        refine cv_i (As := [.int v2, .int (v2 + 1)]) (rest := []) S.1 hw (k_X6_joins l E Z M68 a0 v2 (v2 + 1) _ h) wv_X6_118 yc_X6_joins ⟨rfl, rfl⟩ ⟨Nat.le_of_ble_eq_true rfl, Nat.le_of_ble_eq_true rfl⟩ rfl hl.1 (Nat.le_of_ble_eq_true rfl) (ci := 6) (q := (RX6, TX6, 12)) rfl rfl (by rw [k_0]; decide) (cell_6 k_0) ⟨Nat.le_of_ble_eq_true rfl, Nat.le_of_ble_eq_true rfl⟩ dX6_findsBlocks_79 (fun r79 M79 H locs h hw => ?_)
        refine lv_if_ne (tgt := 89) hx hb dX6_findsBlocks_82 (by decide) (fun q_82 => ?_) (fun q_82 => ?_)
        · have h := h.1 q_82
          exact ((wB_X6_findsBlocks_89 S  (fun M1 a0 v2 t0 h => (wB_X6_findsBlocks_94 S  (fun M1 a0 v1 v2 h => (wB_X6_findsBlocks_95 S  hK45 _ _ _ _ h)) _ _ _ _ h)) _ _ _ h)) H locs ls hw (lv_sub hl [0, 2] rfl)
        · have h := h.2 q_82
          refine lv_iload_n hx hb dX6_findsBlocks_85 rfl (lv_at hl 1 rfl) ?_
          refine lv_if_eq (tgt := 93) hx hb dX6_findsBlocks_86 (by decide) (fun q_86 => ?_) (fun q_86 => ?_)
          · have h := h.1 q_86
            refine lv_iconst (v := 0) hx hb dX6_findsBlocks_93 (by decide) ?_
            exact ((wB_X6_findsBlocks_94 S  (fun M1 a0 v1 v2 h => (wB_X6_findsBlocks_95 S  hK45 _ _ _ _ h)) _ _ _ _ h)) H locs ls hw (lv_sub hl [0, 2] rfl)
          · have h := h.2 q_86
            exact ((wB_X6_findsBlocks_89 S  (fun M1 a0 v2 t0 h => (wB_X6_findsBlocks_94 S  (fun M1 a0 v1 v2 h => (wB_X6_findsBlocks_95 S  hK45 _ _ _ _ h)) _ _ _ _ h)) _ _ _ h)) H locs ls hw (lv_sub hl [0, 2] rfl)
theorem wL_X6_findsBlocks_45 (S : Cx p m c meth cX6_findsBlocks 3 s args RX6 (none)) {Q : MM → Prop} {K37 : MM → Nat → Int32 → Prop} (hK37 : ∀ (M : MM) (a0 : Nat) (v1 : Int32), K37 M a0 v1 → WG p l e rm_X6_findsBlocks s m args below meth c 0 0 (MQv below E Z args s Q) E Z M 37 3 [(0, .ref a0), (1, .int v1)] []) : ∀ (n : Nat) (M : MM) (a0 : Nat) (v1 : Int32) (v2 : Int32), L_X6_findsBlocks_45 Z Q  K37 n M a0 v1 v2 → WG p l e rm_X6_findsBlocks s m args below meth c 0 0 (MQv below E Z args s Q) E Z M 45 3 [(0, .ref a0), (1, .int v1), (2, .int v2)] []
  | 0, _, _, _, _, h => False.elim h
  | n + 1, M, a0, v1, v2, h => wB_X6_findsBlocks_45 S  hK37 (wL_X6_findsBlocks_45 S  hK37 n) M a0 v1 v2 h
set_option maxRecDepth 100000 in
set_option maxHeartbeats 4000000 in
theorem wB_X6_findsBlocks_37 (S : Cx p m c meth cX6_findsBlocks 3 s args RX6 (none)) {Q : MM → Prop} {K37 : MM → Nat → Int32 → Prop} (hK37 : ∀ (M : MM) (a0 : Nat) (v1 : Int32), K37 M a0 v1 → WG p l e rm_X6_findsBlocks s m args below meth c 0 0 (MQv below E Z args s Q) E Z M 37 3 [(0, .ref a0), (1, .int v1)] []) (M : MM) (a0 : Nat) (v1 : Int32) (h : B_X6_findsBlocks_37 Z Q K37 M a0 v1) : WG p l e rm_X6_findsBlocks s m args below meth c 0 0 (MQv below E Z args s Q) E Z M 37 3 [(0, .ref a0), (1, .int v1)] [] := by
  intro H locs ls hw hl
  have hx := S.1.1
  have hb := S.1.2.1
  refine lv_iload_n hx hb dX6_findsBlocks_37 rfl (lv_at hl 1 rfl) ?_
  refine lv_if_eq (tgt := 156) hx hb dX6_findsBlocks_38 (by decide) (fun q_38 => ?_) (fun q_38 => ?_)
  · have h := h.1 q_38
    exact we_v S hw h dX6_findsBlocks_156
  · have h := h.2 q_38
    refine lv_iconst (v := 0) hx hb dX6_findsBlocks_41 (by decide) ?_
    refine lv_istore_n (lv' := [(1, .int 0), (0, .ref a0)]) hx hb dX6_findsBlocks_42 rfl hl (by decide) rfl (fun ls hl => ?_)
    refine lv_iconst (v := 0) hx hb dX6_findsBlocks_43 (by decide) ?_
    refine lv_istore_n (lv' := [(2, .int 0), (1, .int 0), (0, .ref a0)]) hx hb dX6_findsBlocks_44 rfl hl (by decide) rfl (fun ls hl => ?_)
    exact ((Exists.elim h (fun n h => wL_X6_findsBlocks_45 S  hK37 n _ _ _ _ h))) H locs ls hw (lv_sub hl [2, 1, 0] rfl)
theorem wL_X6_findsBlocks_37 (S : Cx p m c meth cX6_findsBlocks 3 s args RX6 (none)) {Q : MM → Prop}   : ∀ (n : Nat) (M : MM) (a0 : Nat) (v1 : Int32), L_X6_findsBlocks_37 Z Q   n M a0 v1 → WG p l e rm_X6_findsBlocks s m args below meth c 0 0 (MQv below E Z args s Q) E Z M 37 3 [(0, .ref a0), (1, .int v1)] []
  | 0, _, _, _, h => False.elim h
  | n + 1, M, a0, v1, h => wB_X6_findsBlocks_37 S  (wL_X6_findsBlocks_37 S   n) M a0 v1 h
set_option maxRecDepth 100000 in
set_option maxHeartbeats 4000000 in
theorem wB_X6_findsBlocks_2 (S : Cx p m c meth cX6_findsBlocks 3 s args RX6 (none)) {Q : MM → Prop} {K2 : MM → Nat → Int32 → Prop} (hK2 : ∀ (M : MM) (a0 : Nat) (v1 : Int32), K2 M a0 v1 → WG p l e rm_X6_findsBlocks s m args below meth c 0 0 (MQv below E Z args s Q) E Z M 2 3 [(0, .ref a0), (1, .int v1)] []) (M : MM) (a0 : Nat) (v1 : Int32) (h : B_X6_findsBlocks_2 Z Q K2 M a0 v1) : WG p l e rm_X6_findsBlocks s m args below meth c 0 0 (MQv below E Z args s Q) E Z M 2 3 [(0, .ref a0), (1, .int v1)] [] := by
  intro H locs ls hw hl
  have hx := S.1.1
  have hb := S.1.2.1
  refine lv_iload_n hx hb dX6_findsBlocks_2 rfl (lv_at hl 1 rfl) ?_
  refine lv_aload_n hx hb dX6_findsBlocks_3 rfl (lv_at hl 0 rfl) ?_
  obtain ⟨k_0, h⟩ := h
  refine cv_i (As := []) (rest := [.int v1]) S.1 hw (k_X6_cells l E Z M a0  _ h) wv_X6_45 yc_X6_cells ⟨rfl, rfl⟩ ⟨Nat.le_of_ble_eq_true rfl, Nat.le_of_ble_eq_true rfl⟩ rfl hl.1 (Nat.le_of_ble_eq_true rfl) (ci := 6) (q := (RX6, TX6, 12)) rfl rfl (by rw [k_0]; decide) (cell_6 k_0) ⟨Nat.le_of_ble_eq_true rfl, Nat.le_of_ble_eq_true rfl⟩ dX6_findsBlocks_4 (fun r4 M4 H locs h hw => ?_)
  refine lv_icmp_ge (tgt := 35) hx hb dX6_findsBlocks_7 (by decide) (fun q_7 => ?_) (fun q_7 => ?_)
  · have h := h.1 q_7
    refine lv_iconst (v := 1) hx hb dX6_findsBlocks_35 (by decide) ?_
    refine lv_istore_n (lv' := [(1, .int 1), (0, .ref a0)]) hx hb dX6_findsBlocks_36 rfl hl (by decide) rfl (fun ls hl => ?_)
    exact ((Exists.elim h (fun n h => wL_X6_findsBlocks_37 S   n _ _ _ h))) H locs ls hw (lv_sub hl [1, 0] rfl)
  · have h := h.2 q_7
    refine lv_aload_n hx hb dX6_findsBlocks_10 rfl (lv_at hl 0 rfl) ?_
    obtain ⟨y11_1, hy_1, h⟩ := h
    refine gf_X6_19 S.1 hw k_0 hy_1 dX6_findsBlocks_11 ?_
    refine lv_iload_n hx hb dX6_findsBlocks_14 rfl (lv_at hl 1 rfl) ?_
    refine lv_aload_n hx hb dX6_findsBlocks_15 rfl (lv_at hl 0 rfl) ?_
    refine lv_iload_n hx hb dX6_findsBlocks_16 rfl (lv_at hl 1 rfl) ?_
    refine cv_i (As := [.int v1]) (rest := [.int v1, .ref y11_1]) S.1 hw (k_X6_isIce l E Z M4 a0 v1 _ h) wv_X6_112 yc_X6_isIce ⟨rfl, rfl⟩ ⟨Nat.le_of_ble_eq_true rfl, Nat.le_of_ble_eq_true rfl⟩ rfl hl.1 (Nat.le_of_ble_eq_true rfl) (ci := 6) (q := (RX6, TX6, 12)) rfl rfl (by rw [k_0]; decide) (cell_6 k_0) ⟨Nat.le_of_ble_eq_true rfl, Nat.le_of_ble_eq_true rfl⟩ dX6_findsBlocks_17 (fun r17 M17 H locs h hw => ?_)
    refine lv_if_eq (tgt := 27) hx hb dX6_findsBlocks_20 (by decide) (fun q_20 => ?_) (fun q_20 => ?_)
    · have h := h.1 q_20
      refine lv_iconst (v := (-1)) hx hb dX6_findsBlocks_27 (by decide) ?_
      exact ((wB_X6_findsBlocks_28 S  hK2 _ _ _ _ _ _ h)) H locs ls hw (lv_sub hl [0, 1] rfl)
    · have h := h.2 q_20
      refine lv_iload_n hx hb dX6_findsBlocks_23 rfl (lv_at hl 1 rfl) ?_
      refine lv_goto (tgt := 28) hx hb dX6_findsBlocks_24 (by decide) ?_
      exact ((wB_X6_findsBlocks_28 S  hK2 _ _ _ _ _ _ h)) H locs ls hw (lv_sub hl [0, 1] rfl)
theorem wL_X6_findsBlocks_2 (S : Cx p m c meth cX6_findsBlocks 3 s args RX6 (none)) {Q : MM → Prop}   : ∀ (n : Nat) (M : MM) (a0 : Nat) (v1 : Int32), L_X6_findsBlocks_2 Z Q   n M a0 v1 → WG p l e rm_X6_findsBlocks s m args below meth c 0 0 (MQv below E Z args s Q) E Z M 2 3 [(0, .ref a0), (1, .int v1)] []
  | 0, _, _, _, h => False.elim h
  | n + 1, M, a0, v1, h => wB_X6_findsBlocks_2 S  (wL_X6_findsBlocks_2 S   n) M a0 v1 h
set_option maxRecDepth 100000 in
set_option maxHeartbeats 4000000 in
theorem wB_X6_findsBlocks_0 (S : Cx p m c meth cX6_findsBlocks 3 s args RX6 (none)) {Q : MM → Prop}   (M : MM) (a0 : Nat) (h : B_X6_findsBlocks_0 Z Q  M a0) : WG p l e rm_X6_findsBlocks s m args below meth c 0 0 (MQv below E Z args s Q) E Z M 0 3 [(0, .ref a0)] [] := by
  intro H locs ls hw hl
  have hx := S.1.1
  have hb := S.1.2.1
  refine lv_iconst (v := 0) hx hb dX6_findsBlocks_0 (by decide) ?_
  refine lv_istore_n (lv' := [(1, .int 0), (0, .ref a0)]) hx hb dX6_findsBlocks_1 rfl hl (by decide) rfl (fun ls hl => ?_)
  exact ((Exists.elim h (fun n h => wL_X6_findsBlocks_2 S   n _ _ _ h))) H locs ls hw (lv_sub hl [1, 0] rfl)
set_option maxRecDepth 100000 in
set_option maxHeartbeats 4000000 in
theorem k_X6_findsBlocks (l : Launch) (E : EE) (Z : ZZ) (M : MM) (a0 : Nat) (Q : MM → Prop) (h : P_X6_findsBlocks Z M a0 Q) : Ct_v l yX6_findsBlocks cX6_findsBlocks 3 (none) rm_X6_findsBlocks E Z M [.ref a0] Q := by
  refine Met.ofW (cc := cX6_findsBlocks) (maxL := 3) (ret := none) (by decide) rfl ?_
  intro p e s m args below meth c s₁ B hml hv
  obtain ⟨rfl, hK, hP, hD, hZ⟩ := hv
  have S : Cx p m c meth cX6_findsBlocks 3 s _ RX6 (none) := ⟨⟨B.exec, B.bytes, hml, findClass_of_methodNamed B.named, fun w hw => atoms_spec (ws := ws_ yX6_findsBlocks cX6_findsBlocks 3 (none)) B.pre w (List.mem_cons_of_mem _ hw)⟩, B.returns, B.notSynchronized⟩
  have hl := lv_entry ([.ref a0]) (n := 3) (Nat.le_of_ble_eq_true rfl)
  rw [lg_entry_eq]
  generalize (lg_sl ([.ref a0]) ++ List.replicate (3 - (lg_sl ([.ref a0])).length) Slot.unset).toArray = ls at hl ⊢
  exact (wB_X6_findsBlocks_0 S  M a0 h) s.heap [] ls ⟨hK, hP, hD, va_S.rf, hZ⟩ hl
set_option maxRecDepth 100000 in
set_option maxHeartbeats 4000000 in
theorem wB_X6_isHeld_37 (S : Cx p m c meth cX6_isHeld 4 s args RX6 (some .boolean)) {Q : Int32 → MM → Prop} {K42 : MM → Nat → Int32 → Int32 → Int32 → Prop} (hK42 : ∀ (M : MM) (a0 : Nat) (v1 : Int32) (v3 : Int32) (t0 : Int32), K42 M a0 v1 v3 t0 → WG p l e rm_X6_isHeld s m args below meth c 0 0 (MQi below E Z args s Q) E Z M 42 4 [(0, .ref a0), (1, .int v1), (3, .int v3)] [.int t0]) (M : MM) (a0 : Nat) (v1 : Int32) (v3 : Int32) (h : B_X6_isHeld_37 Z Q K42 M a0 v1 v3) : WG p l e rm_X6_isHeld s m args below meth c 0 0 (MQi below E Z args s Q) E Z M 37 4 [(0, .ref a0), (1, .int v1), (3, .int v3)] [] := by
  intro H locs ls hw hl
  have hx := S.1.1
  have hb := S.1.2.1
  refine lv_iconst (v := 1) hx hb dX6_isHeld_37 (by decide) ?_
  refine lv_goto (tgt := 42) hx hb dX6_isHeld_38 (by decide) ?_
  exact (hK42 _ _ _ _ _ h) H locs ls hw (lv_sub hl [0, 1, 2] rfl)
set_option maxRecDepth 100000 in
set_option maxHeartbeats 4000000 in
theorem wB_X6_isHeld_41 (S : Cx p m c meth cX6_isHeld 4 s args RX6 (some .boolean)) {Q : Int32 → MM → Prop} {K42 : MM → Nat → Int32 → Int32 → Int32 → Prop} (hK42 : ∀ (M : MM) (a0 : Nat) (v1 : Int32) (v3 : Int32) (t0 : Int32), K42 M a0 v1 v3 t0 → WG p l e rm_X6_isHeld s m args below meth c 0 0 (MQi below E Z args s Q) E Z M 42 4 [(0, .ref a0), (1, .int v1), (3, .int v3)] [.int t0]) (M : MM) (a0 : Nat) (v1 : Int32) (v3 : Int32) (h : B_X6_isHeld_41 Z Q K42 M a0 v1 v3) : WG p l e rm_X6_isHeld s m args below meth c 0 0 (MQi below E Z args s Q) E Z M 41 4 [(0, .ref a0), (1, .int v1), (3, .int v3)] [] := by
  intro H locs ls hw hl
  have hx := S.1.1
  have hb := S.1.2.1
  refine lv_iconst (v := 0) hx hb dX6_isHeld_41 (by decide) ?_
  exact (hK42 _ _ _ _ _ h) H locs ls hw (lv_sub hl [0, 1, 2] rfl)
set_option maxRecDepth 100000 in
set_option maxHeartbeats 4000000 in
theorem wB_X6_isHeld_42 (S : Cx p m c meth cX6_isHeld 4 s args RX6 (some .boolean)) {Q : Int32 → MM → Prop} {K4 : MM → Nat → Int32 → Int32 → Int32 → Prop} (hK4 : ∀ (M : MM) (a0 : Nat) (v1 : Int32) (v2 : Int32) (v3 : Int32), K4 M a0 v1 v2 v3 → WG p l e rm_X6_isHeld s m args below meth c 0 0 (MQi below E Z args s Q) E Z M 4 4 [(0, .ref a0), (1, .int v1), (2, .int v2), (3, .int v3)] []) (M : MM) (a0 : Nat) (v1 : Int32) (v3 : Int32) (t0 : Int32) (h : B_X6_isHeld_42 Z Q K4 M a0 v1 v3 t0) : WG p l e rm_X6_isHeld s m args below meth c 0 0 (MQi below E Z args s Q) E Z M 42 4 [(0, .ref a0), (1, .int v1), (3, .int v3)] [.int t0] := by
  intro H locs ls hw hl
  have hx := S.1.1
  have hb := S.1.2.1
  refine lv_istore_n (lv' := [(2, .int t0), (0, .ref a0), (1, .int v1), (3, .int v3)]) hx hb dX6_isHeld_42 rfl hl (by decide) rfl (fun ls hl => ?_)
  refine lv_iinc (v := (v3 + 1)) (lv' := [(3, .int (v3 + 1)), (2, .int t0), (0, .ref a0), (1, .int v1)]) hx hb dX6_isHeld_43 hl (k := 3) rfl rfl (by decide) rfl (fun ls hl => ?_)
  refine lv_goto (tgt := 4) hx hb dX6_isHeld_46 (by decide) ?_
  exact (hK4 _ _ _ _ _ h) H locs ls hw (lv_sub hl [2, 3, 1, 0] rfl)
set_option maxRecDepth 100000 in
set_option maxHeartbeats 4000000 in
theorem wB_X6_isHeld_4 (S : Cx p m c meth cX6_isHeld 4 s args RX6 (some .boolean)) {Q : Int32 → MM → Prop} {K4 : MM → Nat → Int32 → Int32 → Int32 → Prop} (hK4 : ∀ (M : MM) (a0 : Nat) (v1 : Int32) (v2 : Int32) (v3 : Int32), K4 M a0 v1 v2 v3 → WG p l e rm_X6_isHeld s m args below meth c 0 0 (MQi below E Z args s Q) E Z M 4 4 [(0, .ref a0), (1, .int v1), (2, .int v2), (3, .int v3)] []) (M : MM) (a0 : Nat) (v1 : Int32) (v2 : Int32) (v3 : Int32) (h : B_X6_isHeld_4 Z Q K4 M a0 v1 v2 v3) : WG p l e rm_X6_isHeld s m args below meth c 0 0 (MQi below E Z args s Q) E Z M 4 4 [(0, .ref a0), (1, .int v1), (2, .int v2), (3, .int v3)] [] := by
  intro H locs ls hw hl
  have hx := S.1.1
  have hb := S.1.2.1
  refine lv_iload_n hx hb dX6_isHeld_4 rfl (lv_at hl 3 rfl) ?_
  refine lv_aload_n hx hb dX6_isHeld_5 rfl (lv_at hl 0 rfl) ?_
  obtain ⟨k_0, h⟩ := h
  obtain ⟨y6_1, hy_1, h⟩ := h
  refine gf_X6_7 S.1 hw k_0 hy_1 dX6_isHeld_6 ?_
  refine lv_iconst (v := 0) hx hb dX6_isHeld_9 (by decide) ?_
  obtain ⟨k_2, h⟩ := h
  obtain ⟨i_10, h⟩ := h
  refine wo_iald S.1 hw k_2 i_10 dX6_isHeld_10 ?_
  refine lv_icmp_ge (tgt := 49) hx hb dX6_isHeld_11 (by decide) (fun q_11 => ?_) (fun q_11 => ?_)
  · have h := h.1 q_11
    refine lv_iload_n hx hb dX6_isHeld_49 rfl (lv_at hl 2 rfl) ?_
    obtain ⟨zz, h⟩ := h
    exact we_b S hw zz h dX6_isHeld_50
  · have h := h.2 q_11
    refine lv_iload_n hx hb dX6_isHeld_14 rfl (lv_at hl 2 rfl) ?_
    refine lv_if_ne (tgt := 37) hx hb dX6_isHeld_15 (by decide) (fun q_15 => ?_) (fun q_15 => ?_)
    · have h := h.1 q_15
      exact ((wB_X6_isHeld_37 S  (fun M1 a0 v1 v3 t0 h => (wB_X6_isHeld_42 S  hK4 _ _ _ _ _ h)) _ _ _ _ h)) H locs ls hw (lv_sub hl [0, 1, 3] rfl)
    · have h := h.2 q_15
      refine lv_aload_n hx hb dX6_isHeld_18 rfl (lv_at hl 0 rfl) ?_
      obtain ⟨y19_3, hy_3, h⟩ := h
      refine gf_X6_19 S.1 hw k_0 hy_3 dX6_isHeld_19 ?_
      refine lv_iload_n hx hb dX6_isHeld_22 rfl (lv_at hl 3 rfl) ?_
      obtain ⟨k_4, h⟩ := h
      obtain ⟨i_23, h⟩ := h
      refine wo_iald S.1 hw k_4 i_23 dX6_isHeld_23 ?_
      refine lv_iload_n hx hb dX6_isHeld_24 rfl (lv_at hl 1 rfl) ?_
      refine lv_icmp_ne (tgt := 41) hx hb dX6_isHeld_25 (by decide) (fun q_25 => ?_) (fun q_25 => ?_)
      · have h := h.1 q_25
        exact ((wB_X6_isHeld_41 S  (fun M1 a0 v1 v3 t0 h => (wB_X6_isHeld_42 S  hK4 _ _ _ _ _ h)) _ _ _ _ h)) H locs ls hw (lv_sub hl [0, 1, 3] rfl)
      · have h := h.2 q_25
        refine lv_aload_n hx hb dX6_isHeld_28 rfl (lv_at hl 0 rfl) ?_
        refine lv_iload_n hx hb dX6_isHeld_29 rfl (lv_at hl 3 rfl) ?_
        refine lv_iconst (v := 2) hx hb dX6_isHeld_30 (by decide) ?_
        refine cv_i (As := [.int v3, .int 2]) (rest := []) S.1 hw (k_X6_isCut l E Z M a0 v3 2 _ h) wv_X6_90 yc_X6_isCut ⟨rfl, rfl⟩ ⟨Nat.le_of_ble_eq_true rfl, Nat.le_of_ble_eq_true rfl⟩ rfl hl.1 (Nat.le_of_ble_eq_true rfl) (ci := 6) (q := (RX6, TX6, 12)) rfl rfl (by rw [k_0]; decide) (cell_6 k_0) ⟨Nat.le_of_ble_eq_true rfl, Nat.le_of_ble_eq_true rfl⟩ dX6_isHeld_31 (fun r31 M31 H locs h hw => ?_)
        refine lv_if_ne (tgt := 41) hx hb dX6_isHeld_34 (by decide) (fun q_34 => ?_) (fun q_34 => ?_)
        · have h := h.1 q_34
          exact ((wB_X6_isHeld_41 S  (fun M1 a0 v1 v3 t0 h => (wB_X6_isHeld_42 S  hK4 _ _ _ _ _ h)) _ _ _ _ h)) H locs ls hw (lv_sub hl [0, 1, 3] rfl)
        · have h := h.2 q_34
          exact ((wB_X6_isHeld_37 S  (fun M1 a0 v1 v3 t0 h => (wB_X6_isHeld_42 S  hK4 _ _ _ _ _ h)) _ _ _ _ h)) H locs ls hw (lv_sub hl [0, 1, 3] rfl)
theorem wL_X6_isHeld_4 (S : Cx p m c meth cX6_isHeld 4 s args RX6 (some .boolean)) {Q : Int32 → MM → Prop}   : ∀ (n : Nat) (M : MM) (a0 : Nat) (v1 : Int32) (v2 : Int32) (v3 : Int32), L_X6_isHeld_4 Z Q   n M a0 v1 v2 v3 → WG p l e rm_X6_isHeld s m args below meth c 0 0 (MQi below E Z args s Q) E Z M 4 4 [(0, .ref a0), (1, .int v1), (2, .int v2), (3, .int v3)] []
  | 0, _, _, _, _, _, h => False.elim h
  | n + 1, M, a0, v1, v2, v3, h => wB_X6_isHeld_4 S  (wL_X6_isHeld_4 S   n) M a0 v1 v2 v3 h
set_option maxRecDepth 100000 in
set_option maxHeartbeats 4000000 in
theorem wB_X6_isHeld_0 (S : Cx p m c meth cX6_isHeld 4 s args RX6 (some .boolean)) {Q : Int32 → MM → Prop}   (M : MM) (a0 : Nat) (v1 : Int32) (h : B_X6_isHeld_0 Z Q  M a0 v1) : WG p l e rm_X6_isHeld s m args below meth c 0 0 (MQi below E Z args s Q) E Z M 0 4 [(0, .ref a0), (1, .int v1)] [] := by
  intro H locs ls hw hl
  have hx := S.1.1
  have hb := S.1.2.1
  refine lv_iconst (v := 0) hx hb dX6_isHeld_0 (by decide) ?_
  refine lv_istore_n (lv' := [(2, .int 0), (0, .ref a0), (1, .int v1)]) hx hb dX6_isHeld_1 rfl hl (by decide) rfl (fun ls hl => ?_)
  refine lv_iconst (v := 0) hx hb dX6_isHeld_2 (by decide) ?_
  refine lv_istore_n (lv' := [(3, .int 0), (2, .int 0), (0, .ref a0), (1, .int v1)]) hx hb dX6_isHeld_3 rfl hl (by decide) rfl (fun ls hl => ?_)
  exact ((Exists.elim h (fun n h => wL_X6_isHeld_4 S   n _ _ _ _ _ h))) H locs ls hw (lv_sub hl [2, 3, 1, 0] rfl)
set_option maxRecDepth 100000 in
set_option maxHeartbeats 4000000 in
theorem k_X6_isHeld (l : Launch) (E : EE) (Z : ZZ) (M : MM) (a0 : Nat) (v1 : Int32) (Q : Int32 → MM → Prop) (h : P_X6_isHeld Z M a0 v1 Q) : Ct_i l yX6_isHeld cX6_isHeld 4 (some .boolean) rm_X6_isHeld E Z M [.ref a0, .int v1] Q := by
  refine Met.ofW (cc := cX6_isHeld) (maxL := 4) (ret := some .boolean) (by decide) rfl ?_
  intro p e s m args below meth c s₁ B hml hv
  obtain ⟨rfl, hK, hP, hD, hZ⟩ := hv
  have S : Cx p m c meth cX6_isHeld 4 s _ RX6 (some .boolean) := ⟨⟨B.exec, B.bytes, hml, findClass_of_methodNamed B.named, fun w hw => atoms_spec (ws := ws_ yX6_isHeld cX6_isHeld 4 (some .boolean)) B.pre w (List.mem_cons_of_mem _ hw)⟩, B.returns, B.notSynchronized⟩
  have hl := lv_entry ([.ref a0, .int v1]) (n := 4) (Nat.le_of_ble_eq_true rfl)
  rw [lg_entry_eq]
  generalize (lg_sl ([.ref a0, .int v1]) ++ List.replicate (4 - (lg_sl ([.ref a0, .int v1])).length) Slot.unset).toArray = ls at hl ⊢
  exact (wB_X6_isHeld_0 S  M a0 v1 h) s.heap [] ls ⟨hK, hP, hD, va_S.rf, hZ⟩ hl
set_option maxRecDepth 100000 in
set_option maxHeartbeats 4000000 in
theorem wB_X6_sizeOf_48 (S : Cx p m c meth cX6_sizeOf 5 s args RX6 (some .int)) {Q : Int32 → MM → Prop} {K5 : MM → Nat → Int32 → Int32 → Int32 → Int32 → Prop} (hK5 : ∀ (M : MM) (a0 : Nat) (v1 : Int32) (v2 : Int32) (v3 : Int32) (v4 : Int32), K5 M a0 v1 v2 v3 v4 → WG p l e rm_X6_sizeOf s m args below meth c 0 0 (MQi below E Z args s Q) E Z M 5 5 [(0, .ref a0), (1, .int v1), (2, .int v2), (3, .int v3), (4, .int v4)] []) (M : MM) (a0 : Nat) (v1 : Int32) (v2 : Int32) (v4 : Int32) (t0 : Int32) (t1 : Int32) (h : B_X6_sizeOf_48 Z Q K5 M a0 v1 v2 v4 t0 t1) : WG p l e rm_X6_sizeOf s m args below meth c 0 0 (MQi below E Z args s Q) E Z M 48 5 [(0, .ref a0), (1, .int v1), (2, .int v2), (4, .int v4)] [.int t0, .int t1] := by
  intro H locs ls hw hl
  have hx := S.1.1
  have hb := S.1.2.1
  refine lv_iadd hx hb dX6_sizeOf_48 ?_
  refine lv_istore_n (lv' := [(3, .int (t1 + t0)), (0, .ref a0), (1, .int v1), (2, .int v2), (4, .int v4)]) hx hb dX6_sizeOf_49 rfl hl (by decide) rfl (fun ls hl => ?_)
  refine lv_iinc (v := (v4 + 1)) (lv' := [(4, .int (v4 + 1)), (3, .int (t1 + t0)), (0, .ref a0), (1, .int v1), (2, .int v2)]) hx hb dX6_sizeOf_50 hl (k := 4) rfl rfl (by decide) rfl (fun ls hl => ?_)
  refine lv_goto (tgt := 5) hx hb dX6_sizeOf_53 (by decide) ?_
  exact (hK5 _ _ _ _ _ _ h) H locs ls hw (lv_sub hl [2, 3, 4, 1, 0] rfl)
set_option maxRecDepth 100000 in
set_option maxHeartbeats 4000000 in
theorem wB_X6_sizeOf_5 (S : Cx p m c meth cX6_sizeOf 5 s args RX6 (some .int)) {Q : Int32 → MM → Prop} {K5 : MM → Nat → Int32 → Int32 → Int32 → Int32 → Prop} (hK5 : ∀ (M : MM) (a0 : Nat) (v1 : Int32) (v2 : Int32) (v3 : Int32) (v4 : Int32), K5 M a0 v1 v2 v3 v4 → WG p l e rm_X6_sizeOf s m args below meth c 0 0 (MQi below E Z args s Q) E Z M 5 5 [(0, .ref a0), (1, .int v1), (2, .int v2), (3, .int v3), (4, .int v4)] []) (M : MM) (a0 : Nat) (v1 : Int32) (v2 : Int32) (v3 : Int32) (v4 : Int32) (h : B_X6_sizeOf_5 Z Q K5 M a0 v1 v2 v3 v4) : WG p l e rm_X6_sizeOf s m args below meth c 0 0 (MQi below E Z args s Q) E Z M 5 5 [(0, .ref a0), (1, .int v1), (2, .int v2), (3, .int v3), (4, .int v4)] [] := by
  intro H locs ls hw hl
  have hx := S.1.1
  have hb := S.1.2.1
  refine lv_iload hx hb dX6_sizeOf_5 (lv_at hl 4 rfl) ?_
  refine lv_aload_n hx hb dX6_sizeOf_7 rfl (lv_at hl 0 rfl) ?_
  obtain ⟨k_0, h⟩ := h
  refine cv_i (As := []) (rest := [.int v4]) S.1 hw (k_X6_cells l E Z M a0  _ h) wv_X6_45 yc_X6_cells ⟨rfl, rfl⟩ ⟨Nat.le_of_ble_eq_true rfl, Nat.le_of_ble_eq_true rfl⟩ rfl hl.1 (Nat.le_of_ble_eq_true rfl) (ci := 6) (q := (RX6, TX6, 12)) rfl rfl (by rw [k_0]; decide) (cell_6 k_0) ⟨Nat.le_of_ble_eq_true rfl, Nat.le_of_ble_eq_true rfl⟩ dX6_sizeOf_8 (fun r8 M8 H locs h hw => ?_)
  refine lv_icmp_ge (tgt := 56) hx hb dX6_sizeOf_11 (by decide) (fun q_11 => ?_) (fun q_11 => ?_)
  · have h := h.1 q_11
    refine lv_iload_n hx hb dX6_sizeOf_56 rfl (lv_at hl 3 rfl) ?_
    exact we_i S hw h dX6_sizeOf_57
  · have h := h.2 q_11
    refine lv_iload_n hx hb dX6_sizeOf_14 rfl (lv_at hl 3 rfl) ?_
    refine lv_aload_n hx hb dX6_sizeOf_15 rfl (lv_at hl 0 rfl) ?_
    obtain ⟨y16_1, hy_1, h⟩ := h
    refine gf_X6_19 S.1 hw k_0 hy_1 dX6_sizeOf_16 ?_
    refine lv_iload hx hb dX6_sizeOf_19 (lv_at hl 4 rfl) ?_
    obtain ⟨k_2, h⟩ := h
    obtain ⟨i_21, h⟩ := h
    refine wo_iald S.1 hw k_2 i_21 dX6_sizeOf_21 ?_
    refine lv_iload_n hx hb dX6_sizeOf_22 rfl (lv_at hl 1 rfl) ?_
    refine lv_icmp_ne (tgt := 47) hx hb dX6_sizeOf_23 (by decide) (fun q_23 => ?_) (fun q_23 => ?_)
    · have h := h.1 q_23
      refine lv_iconst (v := 0) hx hb dX6_sizeOf_47 (by decide) ?_
      exact ((wB_X6_sizeOf_48 S  hK5 _ _ _ _ _ _ _ h)) H locs ls hw (lv_sub hl [0, 1, 2, 4] rfl)
    · have h := h.2 q_23
      refine lv_iload_n hx hb dX6_sizeOf_26 rfl (lv_at hl 2 rfl) ?_
      refine lv_if_eq (tgt := 43) hx hb dX6_sizeOf_27 (by decide) (fun q_27 => ?_) (fun q_27 => ?_)
      · have h := h.1 q_27
        refine lv_iconst (v := 1) hx hb dX6_sizeOf_43 (by decide) ?_
        refine lv_goto (tgt := 48) hx hb dX6_sizeOf_44 (by decide) ?_
        exact ((wB_X6_sizeOf_48 S  hK5 _ _ _ _ _ _ _ h)) H locs ls hw (lv_sub hl [0, 1, 2, 4] rfl)
      · have h := h.2 q_27
        refine lv_aload_n hx hb dX6_sizeOf_30 rfl (lv_at hl 0 rfl) ?_
        obtain ⟨y31_3, hy_3, h⟩ := h
        refine gf_X6_7 S.1 hw k_0 hy_3 dX6_sizeOf_31 ?_
        refine lv_bipush (v := 8) hx hb dX6_sizeOf_34 (by decide) ?_
        refine lv_iload hx hb dX6_sizeOf_36 (lv_at hl 4 rfl) ?_
        refine lv_iadd hx hb dX6_sizeOf_38 ?_
        obtain ⟨k_4, h⟩ := h
        obtain ⟨i_39, h⟩ := h
        refine wo_iald S.1 hw k_4 i_39 dX6_sizeOf_39 ?_
        refine lv_goto (tgt := 48) hx hb dX6_sizeOf_40 (by decide) ?_
        exact ((wB_X6_sizeOf_48 S  hK5 _ _ _ _ _ _ _ h)) H locs ls hw (lv_sub hl [0, 1, 2, 4] rfl)
theorem wL_X6_sizeOf_5 (S : Cx p m c meth cX6_sizeOf 5 s args RX6 (some .int)) {Q : Int32 → MM → Prop}   : ∀ (n : Nat) (M : MM) (a0 : Nat) (v1 : Int32) (v2 : Int32) (v3 : Int32) (v4 : Int32), L_X6_sizeOf_5 Z Q   n M a0 v1 v2 v3 v4 → WG p l e rm_X6_sizeOf s m args below meth c 0 0 (MQi below E Z args s Q) E Z M 5 5 [(0, .ref a0), (1, .int v1), (2, .int v2), (3, .int v3), (4, .int v4)] []
  | 0, _, _, _, _, _, _, h => False.elim h
  | n + 1, M, a0, v1, v2, v3, v4, h => wB_X6_sizeOf_5 S  (wL_X6_sizeOf_5 S   n) M a0 v1 v2 v3 v4 h
set_option maxRecDepth 100000 in
set_option maxHeartbeats 4000000 in
theorem wB_X6_sizeOf_0 (S : Cx p m c meth cX6_sizeOf 5 s args RX6 (some .int)) {Q : Int32 → MM → Prop}   (M : MM) (a0 : Nat) (v1 : Int32) (v2 : Int32) (h : B_X6_sizeOf_0 Z Q  M a0 v1 v2) : WG p l e rm_X6_sizeOf s m args below meth c 0 0 (MQi below E Z args s Q) E Z M 0 5 [(0, .ref a0), (1, .int v1), (2, .int v2)] [] := by
  intro H locs ls hw hl
  have hx := S.1.1
  have hb := S.1.2.1
  refine lv_iconst (v := 0) hx hb dX6_sizeOf_0 (by decide) ?_
  refine lv_istore_n (lv' := [(3, .int 0), (0, .ref a0), (1, .int v1), (2, .int v2)]) hx hb dX6_sizeOf_1 rfl hl (by decide) rfl (fun ls hl => ?_)
  refine lv_iconst (v := 0) hx hb dX6_sizeOf_2 (by decide) ?_
  refine lv_istore (lv' := [(4, .int 0), (3, .int 0), (0, .ref a0), (1, .int v1), (2, .int v2)]) hx hb dX6_sizeOf_3 hl (by decide) rfl (fun ls hl => ?_)
  exact ((Exists.elim h (fun n h => wL_X6_sizeOf_5 S   n _ _ _ _ _ _ h))) H locs ls hw (lv_sub hl [2, 3, 4, 1, 0] rfl)
set_option maxRecDepth 100000 in
set_option maxHeartbeats 4000000 in
theorem k_X6_sizeOf (l : Launch) (E : EE) (Z : ZZ) (M : MM) (a0 : Nat) (v1 : Int32) (v2 : Int32) (Q : Int32 → MM → Prop) (h : P_X6_sizeOf Z M a0 v1 v2 Q) : Ct_i l yX6_sizeOf cX6_sizeOf 5 (some .int) rm_X6_sizeOf E Z M [.ref a0, .int v1, .int v2] Q := by
  refine Met.ofW (cc := cX6_sizeOf) (maxL := 5) (ret := some .int) (by decide) rfl ?_
  intro p e s m args below meth c s₁ B hml hv
  obtain ⟨rfl, hK, hP, hD, hZ⟩ := hv
  have S : Cx p m c meth cX6_sizeOf 5 s _ RX6 (some .int) := ⟨⟨B.exec, B.bytes, hml, findClass_of_methodNamed B.named, fun w hw => atoms_spec (ws := ws_ yX6_sizeOf cX6_sizeOf 5 (some .int)) B.pre w (List.mem_cons_of_mem _ hw)⟩, B.returns, B.notSynchronized⟩
  have hl := lv_entry ([.ref a0, .int v1, .int v2]) (n := 5) (Nat.le_of_ble_eq_true rfl)
  rw [lg_entry_eq]
  generalize (lg_sl ([.ref a0, .int v1, .int v2]) ++ List.replicate (5 - (lg_sl ([.ref a0, .int v1, .int v2])).length) Slot.unset).toArray = ls at hl ⊢
  exact (wB_X6_sizeOf_0 S  M a0 v1 v2 h) s.heap [] ls ⟨hK, hP, hD, va_S.rf, hZ⟩ hl
set_option maxRecDepth 100000 in
set_option maxHeartbeats 4000000 in
theorem wB_X6_mayLie_126 (S : Cx p m c meth cX6_mayLie 8 s args RX6 (some .boolean)) {Q : Int32 → MM → Prop} {K131 : MM → Nat → Int32 → Int32 → Int32 → Int32 → Int32 → Prop} (hK131 : ∀ (M : MM) (a0 : Nat) (v1 : Int32) (v2 : Int32) (v3 : Int32) (v5 : Int32) (t0 : Int32), K131 M a0 v1 v2 v3 v5 t0 → WG p l e rm_X6_mayLie s m args below meth c 0 0 (MQi below E Z args s Q) E Z M 131 8 [(0, .ref a0), (1, .int v1), (2, .int v2), (3, .int v3), (5, .int v5)] [.int t0]) (M : MM) (a0 : Nat) (v1 : Int32) (v2 : Int32) (v3 : Int32) (v5 : Int32) (h : B_X6_mayLie_126 Z Q K131 M a0 v1 v2 v3 v5) : WG p l e rm_X6_mayLie s m args below meth c 0 0 (MQi below E Z args s Q) E Z M 126 8 [(0, .ref a0), (1, .int v1), (2, .int v2), (3, .int v3), (5, .int v5)] [] := by
  intro H locs ls hw hl
  have hx := S.1.1
  have hb := S.1.2.1
  refine lv_iconst (v := 1) hx hb dX6_mayLie_126 (by decide) ?_
  refine lv_goto (tgt := 131) hx hb dX6_mayLie_127 (by decide) ?_
  exact (hK131 _ _ _ _ _ _ _ h) H locs ls hw (lv_sub hl [0, 1, 2, 3, 4] rfl)
set_option maxRecDepth 100000 in
set_option maxHeartbeats 4000000 in
theorem wB_X6_mayLie_130 (S : Cx p m c meth cX6_mayLie 8 s args RX6 (some .boolean)) {Q : Int32 → MM → Prop} {K131 : MM → Nat → Int32 → Int32 → Int32 → Int32 → Int32 → Prop} (hK131 : ∀ (M : MM) (a0 : Nat) (v1 : Int32) (v2 : Int32) (v3 : Int32) (v5 : Int32) (t0 : Int32), K131 M a0 v1 v2 v3 v5 t0 → WG p l e rm_X6_mayLie s m args below meth c 0 0 (MQi below E Z args s Q) E Z M 131 8 [(0, .ref a0), (1, .int v1), (2, .int v2), (3, .int v3), (5, .int v5)] [.int t0]) (M : MM) (a0 : Nat) (v1 : Int32) (v2 : Int32) (v3 : Int32) (v5 : Int32) (h : B_X6_mayLie_130 Z Q K131 M a0 v1 v2 v3 v5) : WG p l e rm_X6_mayLie s m args below meth c 0 0 (MQi below E Z args s Q) E Z M 130 8 [(0, .ref a0), (1, .int v1), (2, .int v2), (3, .int v3), (5, .int v5)] [] := by
  intro H locs ls hw hl
  have hx := S.1.1
  have hb := S.1.2.1
  refine lv_iconst (v := 0) hx hb dX6_mayLie_130 (by decide) ?_
  exact (hK131 _ _ _ _ _ _ _ h) H locs ls hw (lv_sub hl [0, 1, 2, 3, 4] rfl)
set_option maxRecDepth 100000 in
set_option maxHeartbeats 4000000 in
theorem wB_X6_mayLie_131 (S : Cx p m c meth cX6_mayLie 8 s args RX6 (some .boolean)) {Q : Int32 → MM → Prop} {K133 : MM → Nat → Int32 → Int32 → Int32 → Int32 → Int32 → Prop} (hK133 : ∀ (M : MM) (a0 : Nat) (v1 : Int32) (v2 : Int32) (v3 : Int32) (v4 : Int32) (v5 : Int32), K133 M a0 v1 v2 v3 v4 v5 → WG p l e rm_X6_mayLie s m args below meth c 0 0 (MQi below E Z args s Q) E Z M 133 8 [(0, .ref a0), (1, .int v1), (2, .int v2), (3, .int v3), (4, .int v4), (5, .int v5)] []) (M : MM) (a0 : Nat) (v1 : Int32) (v2 : Int32) (v3 : Int32) (v5 : Int32) (t0 : Int32) (h : B_X6_mayLie_131 Z Q K133 M a0 v1 v2 v3 v5 t0) : WG p l e rm_X6_mayLie s m args below meth c 0 0 (MQi below E Z args s Q) E Z M 131 8 [(0, .ref a0), (1, .int v1), (2, .int v2), (3, .int v3), (5, .int v5)] [.int t0] := by
  intro H locs ls hw hl
  have hx := S.1.1
  have hb := S.1.2.1
  refine lv_istore (lv' := [(4, .int t0), (0, .ref a0), (1, .int v1), (2, .int v2), (3, .int v3), (5, .int v5)]) hx hb dX6_mayLie_131 hl (by decide) rfl (fun ls hl => ?_)
  exact (hK133 _ _ _ _ _ _ _ h) H locs ls hw (lv_sub hl [1, 2, 3, 4, 0, 5] rfl)
set_option maxRecDepth 100000 in
set_option maxHeartbeats 4000000 in
theorem wB_X6_mayLie_133 (S : Cx p m c meth cX6_mayLie 8 s args RX6 (some .boolean)) {Q : Int32 → MM → Prop} {K6 : MM → Nat → Int32 → Int32 → Int32 → Int32 → Int32 → Prop} (hK6 : ∀ (M : MM) (a0 : Nat) (v1 : Int32) (v2 : Int32) (v3 : Int32) (v4 : Int32) (v5 : Int32), K6 M a0 v1 v2 v3 v4 v5 → WG p l e rm_X6_mayLie s m args below meth c 0 0 (MQi below E Z args s Q) E Z M 6 8 [(0, .ref a0), (1, .int v1), (2, .int v2), (3, .int v3), (4, .int v4), (5, .int v5)] []) (M : MM) (a0 : Nat) (v1 : Int32) (v2 : Int32) (v3 : Int32) (v4 : Int32) (v5 : Int32) (h : B_X6_mayLie_133 Z Q K6 M a0 v1 v2 v3 v4 v5) : WG p l e rm_X6_mayLie s m args below meth c 0 0 (MQi below E Z args s Q) E Z M 133 8 [(0, .ref a0), (1, .int v1), (2, .int v2), (3, .int v3), (4, .int v4), (5, .int v5)] [] := by
  intro H locs ls hw hl
  have hx := S.1.1
  have hb := S.1.2.1
  refine lv_iinc (v := (v5 + 1)) (lv' := [(5, .int (v5 + 1)), (0, .ref a0), (1, .int v1), (2, .int v2), (3, .int v3), (4, .int v4)]) hx hb dX6_mayLie_133 hl (k := 5) rfl rfl (by decide) rfl (fun ls hl => ?_)
  refine lv_goto (tgt := 6) hx hb dX6_mayLie_136 (by decide) ?_
  exact (hK6 _ _ _ _ _ _ _ h) H locs ls hw (lv_sub hl [1, 2, 3, 4, 5, 0] rfl)
set_option maxRecDepth 100000 in
set_option maxHeartbeats 4000000 in
theorem wB_X6_mayLie_6 (S : Cx p m c meth cX6_mayLie 8 s args RX6 (some .boolean)) {Q : Int32 → MM → Prop} {K6 : MM → Nat → Int32 → Int32 → Int32 → Int32 → Int32 → Prop} (hK6 : ∀ (M : MM) (a0 : Nat) (v1 : Int32) (v2 : Int32) (v3 : Int32) (v4 : Int32) (v5 : Int32), K6 M a0 v1 v2 v3 v4 v5 → WG p l e rm_X6_mayLie s m args below meth c 0 0 (MQi below E Z args s Q) E Z M 6 8 [(0, .ref a0), (1, .int v1), (2, .int v2), (3, .int v3), (4, .int v4), (5, .int v5)] []) (M : MM) (a0 : Nat) (v1 : Int32) (v2 : Int32) (v3 : Int32) (v4 : Int32) (v5 : Int32) (h : B_X6_mayLie_6 Z Q K6 M a0 v1 v2 v3 v4 v5) : WG p l e rm_X6_mayLie s m args below meth c 0 0 (MQi below E Z args s Q) E Z M 6 8 [(0, .ref a0), (1, .int v1), (2, .int v2), (3, .int v3), (4, .int v4), (5, .int v5)] [] := by
  intro H locs ls hw hl
  have hx := S.1.1
  have hb := S.1.2.1
  refine lv_iload hx hb dX6_mayLie_6 (lv_at hl 5 rfl) ?_
  refine lv_aload_n hx hb dX6_mayLie_8 rfl (lv_at hl 0 rfl) ?_
  obtain ⟨k_0, h⟩ := h
  refine cv_i (As := []) (rest := [.int v5]) S.1 hw (k_X6_cells l E Z M a0  _ h) wv_X6_45 yc_X6_cells ⟨rfl, rfl⟩ ⟨Nat.le_of_ble_eq_true rfl, Nat.le_of_ble_eq_true rfl⟩ rfl hl.1 (Nat.le_of_ble_eq_true rfl) (ci := 6) (q := (RX6, TX6, 12)) rfl rfl (by rw [k_0]; decide) (cell_6 k_0) ⟨Nat.le_of_ble_eq_true rfl, Nat.le_of_ble_eq_true rfl⟩ dX6_mayLie_9 (fun r9 M9 H locs h hw => ?_)
  refine lv_icmp_ge (tgt := 139) hx hb dX6_mayLie_12 (by decide) (fun q_12 => ?_) (fun q_12 => ?_)
  · have h := h.1 q_12
    refine lv_iload hx hb dX6_mayLie_139 (lv_at hl 4 rfl) ?_
    obtain ⟨zz, h⟩ := h
    exact we_b S hw zz h dX6_mayLie_141
  · have h := h.2 q_12
    refine lv_iload hx hb dX6_mayLie_15 (lv_at hl 4 rfl) ?_
    refine lv_if_eq (tgt := 139) hx hb dX6_mayLie_17 (by decide) (fun q_17 => ?_) (fun q_17 => ?_)
    · have h := h.1 q_17
      refine lv_iload hx hb dX6_mayLie_139 (lv_at hl 4 rfl) ?_
      obtain ⟨zz, h⟩ := h
      exact we_b S hw zz h dX6_mayLie_141
    · have h := h.2 q_17
      refine lv_aload_n hx hb dX6_mayLie_20 rfl (lv_at hl 0 rfl) ?_
      obtain ⟨y21_1, hy_1, h⟩ := h
      refine gf_X6_19 S.1 hw k_0 hy_1 dX6_mayLie_21 ?_
      refine lv_iload hx hb dX6_mayLie_24 (lv_at hl 5 rfl) ?_
      obtain ⟨k_2, h⟩ := h
      obtain ⟨i_26, h⟩ := h
      refine wo_iald S.1 hw k_2 i_26 dX6_mayLie_26 ?_
      refine lv_iload_n hx hb dX6_mayLie_27 rfl (lv_at hl 1 rfl) ?_
      refine lv_icmp_ne (tgt := 133) hx hb dX6_mayLie_28 (by decide) (fun q_28 => ?_) (fun q_28 => ?_)
      · have h := h.1 q_28
        exact ((wB_X6_mayLie_133 S  hK6 _ _ _ _ _ _ _ h)) H locs ls hw (lv_sub hl [0, 1, 2, 3, 4, 5] rfl)
      · have h := h.2 q_28
        refine lv_aload_n hx hb dX6_mayLie_31 rfl (lv_at hl 0 rfl) ?_
        refine lv_iload hx hb dX6_mayLie_32 (lv_at hl 5 rfl) ?_
        refine cv_i (As := [.int v5]) (rest := []) S.1 hw (k_X6_row l E Z M9 a0 v5 _ h) wv_X6_76 yc_X6_row ⟨rfl, rfl⟩ ⟨Nat.le_of_ble_eq_true rfl, Nat.le_of_ble_eq_true rfl⟩ rfl hl.1 (Nat.le_of_ble_eq_true rfl) (ci := 6) (q := (RX6, TX6, 12)) rfl rfl (by rw [k_0]; decide) (cell_6 k_0) ⟨Nat.le_of_ble_eq_true rfl, Nat.le_of_ble_eq_true rfl⟩ dX6_mayLie_34 (fun r34 M34 H locs h hw => ?_)
        refine lv_iload_n hx hb dX6_mayLie_37 rfl (lv_at hl 3 rfl) ?_
        refine lv_iadd hx hb dX6_mayLie_38 ?_
        refine lv_istore (lv' := [(6, .int (r34 + v3)), (0, .ref a0), (1, .int v1), (2, .int v2), (3, .int v3), (4, .int v4), (5, .int v5)]) hx hb dX6_mayLie_39 hl (by decide) rfl (fun ls hl => ?_)
        refine lv_aload_n hx hb dX6_mayLie_41 rfl (lv_at hl 1 rfl) ?_
        refine lv_iload hx hb dX6_mayLie_42 (lv_at hl 6 rfl) ?_
        refine cv_i (As := [.int v5]) (rest := []) S.1 hw (k_X6_column l E Z M34 a0 v5 _ h) wv_X6_73 yc_X6_column ⟨rfl, rfl⟩ ⟨Nat.le_of_ble_eq_true rfl, Nat.le_of_ble_eq_true rfl⟩ rfl hl.1 (Nat.le_of_ble_eq_true rfl) (ci := 6) (q := (RX6, TX6, 12)) rfl rfl (by rw [k_0]; decide) (cell_6 k_0) ⟨Nat.le_of_ble_eq_true rfl, Nat.le_of_ble_eq_true rfl⟩ dX6_mayLie_44 (fun r44 M44 H locs h hw => ?_)
        refine lv_iload_n hx hb dX6_mayLie_47 rfl (lv_at hl 3 rfl) ?_
        refine lv_iadd hx hb dX6_mayLie_48 ?_
        refine lv_istore (lv' := [(7, .int (r44 + v2)), (6, .int (r34 + v3)), (0, .ref a0), (1, .int v1), (2, .int v2), (3, .int v3), (4, .int v4), (5, .int v5)]) hx hb dX6_mayLie_49 hl (by decide) rfl (fun ls hl => ?_)
        refine lv_iload hx hb dX6_mayLie_51 (lv_at hl 1 rfl) ?_
        refine lv_if_lt (tgt := 130) hx hb dX6_mayLie_53 (by decide) (fun q_53 => ?_) (fun q_53 => ?_)
        · have h := h.1 q_53
          exact ((wB_X6_mayLie_130 S  (fun M1 a0 v1 v2 v3 v5 t0 h => (wB_X6_mayLie_131 S  (fun M1 a0 v1 v2 v3 v4 v5 h => (wB_X6_mayLie_133 S  hK6 _ _ _ _ _ _ _ h)) _ _ _ _ _ _ _ h)) _ _ _ _ _ _ h)) H locs ls hw (lv_sub hl [2, 3, 4, 5, 7] rfl)
        · have h := h.2 q_53
          refine lv_iload hx hb dX6_mayLie_56 (lv_at hl 0 rfl) ?_
          refine lv_i2l (v := (r44 + v2).toInt64) hx hb dX6_mayLie_58 rfl ?_
          refine lv_lconst (v := 0) hx hb dX6_mayLie_59 (by decide) ?_
          refine lv_aload_n hx hb dX6_mayLie_60 rfl (lv_at hl 2 rfl) ?_
          obtain ⟨y61_3, hy_3, h⟩ := h
          refine gf_X6_7 S.1 hw k_0 hy_3 dX6_mayLie_61 ?_
          refine lv_iconst (v := 0) hx hb dX6_mayLie_64 (by decide) ?_
          obtain ⟨k_4, h⟩ := h
          obtain ⟨i_65, h⟩ := h
          refine wo_iald S.1 hw k_4 i_65 dX6_mayLie_65 ?_
          refine lv_i2l (v := (mA M44 y61_3 (0 : Int32).toNatClampNeg).toInt64) hx hb dX6_mayLie_66 rfl ?_
          refine lv_lconst (v := 1) hx hb dX6_mayLie_67 (by decide) ?_
          refine lv_lsub hx hb dX6_mayLie_68 ?_
          refine cs_i (As := [.long ((r44 + v2).toInt64), .long 0, .long (((mA M44 y61_3 (0 : Int32).toNatClampNeg).toInt64) - 1)]) (rest := []) S.1 hw (k_X6_in l E Z M44 ((r44 + v2).toInt64) 0 (((mA M44 y61_3 (0 : Int32).toNatClampNeg).toInt64) - 1) _ h) wv_X6_49 yc_X6_in ⟨rfl, rfl⟩ ⟨Nat.le_of_ble_eq_true rfl, Nat.le_of_ble_eq_true rfl⟩ rfl hl.1 (Nat.le_of_ble_eq_true rfl) ⟨Nat.le_of_ble_eq_true rfl, Nat.le_of_ble_eq_true rfl⟩ dX6_mayLie_69 (fun r69 M69 H locs h hw => ?_)
          refine lv_if_eq (tgt := 130) hx hb dX6_mayLie_72 (by decide) (fun q_72 => ?_) (fun q_72 => ?_)
          · have h := h.1 q_72
            exact ((wB_X6_mayLie_130 S  (fun M1 a0 v1 v2 v3 v5 t0 h => (wB_X6_mayLie_131 S  (fun M1 a0 v1 v2 v3 v4 v5 h => (wB_X6_mayLie_133 S  hK6 _ _ _ _ _ _ _ h)) _ _ _ _ _ _ _ h)) _ _ _ _ _ _ h)) H locs ls hw (lv_sub hl [2, 3, 4, 5, 7] rfl)
          · have h := h.2 q_72
            refine lv_iload hx hb dX6_mayLie_75 (lv_at hl 1 rfl) ?_
            refine lv_aload_n hx hb dX6_mayLie_77 rfl (lv_at hl 2 rfl) ?_
            refine gf_X6_7 S.1 hw k_0 hy_3 dX6_mayLie_78 ?_
            refine lv_iconst (v := 1) hx hb dX6_mayLie_81 (by decide) ?_
            obtain ⟨i_82, h⟩ := h
            refine wo_iald S.1 hw k_4 i_82 dX6_mayLie_82 ?_
            refine lv_icmp_ge (tgt := 126) hx hb dX6_mayLie_83 (by decide) (fun q_83 => ?_) (fun q_83 => ?_)
            · have h := h.1 q_83
              exact ((wB_X6_mayLie_126 S  (fun M1 a0 v1 v2 v3 v5 t0 h => (wB_X6_mayLie_131 S  (fun M1 a0 v1 v2 v3 v4 v5 h => (wB_X6_mayLie_133 S  hK6 _ _ _ _ _ _ _ h)) _ _ _ _ _ _ _ h)) _ _ _ _ _ _ h)) H locs ls hw (lv_sub hl [2, 3, 4, 5, 7] rfl)
            · have h := h.2 q_83
              refine lv_aload_n hx hb dX6_mayLie_86 rfl (lv_at hl 2 rfl) ?_
              refine lv_iload hx hb dX6_mayLie_87 (lv_at hl 1 rfl) ?_
              refine lv_aload_n hx hb dX6_mayLie_89 rfl (lv_at hl 2 rfl) ?_
              refine gf_X6_7 S.1 hw k_0 hy_3 dX6_mayLie_90 ?_
              refine lv_iconst (v := 0) hx hb dX6_mayLie_93 (by decide) ?_
              obtain ⟨i_94, h⟩ := h
              refine wo_iald S.1 hw k_4 i_94 dX6_mayLie_94 ?_
              refine lv_imul hx hb dX6_mayLie_95 ?_
              refine lv_iload hx hb dX6_mayLie_96 (lv_at hl 0 rfl) ?_
              refine lv_iadd hx hb dX6_mayLie_98 ?_
              refine cv_i (As := [.int (((r34 + v3) * (mA M69 y61_3 (0 : Int32).toNatClampNeg)) + (r44 + v2))]) (rest := []) S.1 hw (k_X6_isIce l E Z M69 a0 (((r34 + v3) * (mA M69 y61_3 (0 : Int32).toNatClampNeg)) + (r44 + v2)) _ h) wv_X6_112 yc_X6_isIce ⟨rfl, rfl⟩ ⟨Nat.le_of_ble_eq_true rfl, Nat.le_of_ble_eq_true rfl⟩ rfl hl.1 (Nat.le_of_ble_eq_true rfl) (ci := 6) (q := (RX6, TX6, 12)) rfl rfl (by rw [k_0]; decide) (cell_6 k_0) ⟨Nat.le_of_ble_eq_true rfl, Nat.le_of_ble_eq_true rfl⟩ dX6_mayLie_99 (fun r99 M99 H locs h hw => ?_)
              refine lv_if_eq (tgt := 126) hx hb dX6_mayLie_102 (by decide) (fun q_102 => ?_) (fun q_102 => ?_)
              · have h := h.1 q_102
                exact ((wB_X6_mayLie_126 S  (fun M1 a0 v1 v2 v3 v5 t0 h => (wB_X6_mayLie_131 S  (fun M1 a0 v1 v2 v3 v4 v5 h => (wB_X6_mayLie_133 S  hK6 _ _ _ _ _ _ _ h)) _ _ _ _ _ _ _ h)) _ _ _ _ _ _ h)) H locs ls hw (lv_sub hl [2, 3, 4, 5, 7] rfl)
              · have h := h.2 q_102
                refine lv_aload_n hx hb dX6_mayLie_105 rfl (lv_at hl 2 rfl) ?_
                refine gf_X6_19 S.1 hw k_0 hy_1 dX6_mayLie_106 ?_
                refine lv_iload hx hb dX6_mayLie_109 (lv_at hl 1 rfl) ?_
                refine lv_aload_n hx hb dX6_mayLie_111 rfl (lv_at hl 2 rfl) ?_
                refine gf_X6_7 S.1 hw k_0 hy_3 dX6_mayLie_112 ?_
                refine lv_iconst (v := 0) hx hb dX6_mayLie_115 (by decide) ?_
                obtain ⟨i_116, h⟩ := h
                refine wo_iald S.1 hw k_4 i_116 dX6_mayLie_116 ?_
                refine lv_imul hx hb dX6_mayLie_117 ?_
                refine lv_iload hx hb dX6_mayLie_118 (lv_at hl 0 rfl) ?_
                refine lv_iadd hx hb dX6_mayLie_120 ?_
                obtain ⟨i_121, h⟩ := h
                refine wo_iald S.1 hw k_2 i_121 dX6_mayLie_121 ?_
                refine lv_iload_n hx hb dX6_mayLie_122 rfl (lv_at hl 3 rfl) ?_
                refine lv_icmp_ne (tgt := 130) hx hb dX6_mayLie_123 (by decide) (fun q_123 => ?_) (fun q_123 => ?_)
                · have h := h.1 q_123
                  exact ((wB_X6_mayLie_130 S  (fun M1 a0 v1 v2 v3 v5 t0 h => (wB_X6_mayLie_131 S  (fun M1 a0 v1 v2 v3 v4 v5 h => (wB_X6_mayLie_133 S  hK6 _ _ _ _ _ _ _ h)) _ _ _ _ _ _ _ h)) _ _ _ _ _ _ h)) H locs ls hw (lv_sub hl [2, 3, 4, 5, 7] rfl)
                · have h := h.2 q_123
                  exact ((wB_X6_mayLie_126 S  (fun M1 a0 v1 v2 v3 v5 t0 h => (wB_X6_mayLie_131 S  (fun M1 a0 v1 v2 v3 v4 v5 h => (wB_X6_mayLie_133 S  hK6 _ _ _ _ _ _ _ h)) _ _ _ _ _ _ _ h)) _ _ _ _ _ _ h)) H locs ls hw (lv_sub hl [2, 3, 4, 5, 7] rfl)
theorem wL_X6_mayLie_6 (S : Cx p m c meth cX6_mayLie 8 s args RX6 (some .boolean)) {Q : Int32 → MM → Prop}   : ∀ (n : Nat) (M : MM) (a0 : Nat) (v1 : Int32) (v2 : Int32) (v3 : Int32) (v4 : Int32) (v5 : Int32), L_X6_mayLie_6 Z Q   n M a0 v1 v2 v3 v4 v5 → WG p l e rm_X6_mayLie s m args below meth c 0 0 (MQi below E Z args s Q) E Z M 6 8 [(0, .ref a0), (1, .int v1), (2, .int v2), (3, .int v3), (4, .int v4), (5, .int v5)] []
  | 0, _, _, _, _, _, _, _, h => False.elim h
  | n + 1, M, a0, v1, v2, v3, v4, v5, h => wB_X6_mayLie_6 S  (wL_X6_mayLie_6 S   n) M a0 v1 v2 v3 v4 v5 h
set_option maxRecDepth 100000 in
set_option maxHeartbeats 4000000 in
theorem wB_X6_mayLie_0 (S : Cx p m c meth cX6_mayLie 8 s args RX6 (some .boolean)) {Q : Int32 → MM → Prop}   (M : MM) (a0 : Nat) (v1 : Int32) (v2 : Int32) (v3 : Int32) (h : B_X6_mayLie_0 Z Q  M a0 v1 v2 v3) : WG p l e rm_X6_mayLie s m args below meth c 0 0 (MQi below E Z args s Q) E Z M 0 8 [(0, .ref a0), (1, .int v1), (2, .int v2), (3, .int v3)] [] := by
  intro H locs ls hw hl
  have hx := S.1.1
  have hb := S.1.2.1
  refine lv_iconst (v := 1) hx hb dX6_mayLie_0 (by decide) ?_
  refine lv_istore (lv' := [(4, .int 1), (0, .ref a0), (1, .int v1), (2, .int v2), (3, .int v3)]) hx hb dX6_mayLie_1 hl (by decide) rfl (fun ls hl => ?_)
  refine lv_iconst (v := 0) hx hb dX6_mayLie_3 (by decide) ?_
  refine lv_istore (lv' := [(5, .int 0), (4, .int 1), (0, .ref a0), (1, .int v1), (2, .int v2), (3, .int v3)]) hx hb dX6_mayLie_4 hl (by decide) rfl (fun ls hl => ?_)
  exact ((Exists.elim h (fun n h => wL_X6_mayLie_6 S   n _ _ _ _ _ _ _ h))) H locs ls hw (lv_sub hl [2, 3, 4, 5, 1, 0] rfl)
set_option maxRecDepth 100000 in
set_option maxHeartbeats 4000000 in
theorem k_X6_mayLie (l : Launch) (E : EE) (Z : ZZ) (M : MM) (a0 : Nat) (v1 : Int32) (v2 : Int32) (v3 : Int32) (Q : Int32 → MM → Prop) (h : P_X6_mayLie Z M a0 v1 v2 v3 Q) : Ct_i l yX6_mayLie cX6_mayLie 8 (some .boolean) rm_X6_mayLie E Z M [.ref a0, .int v1, .int v2, .int v3] Q := by
  refine Met.ofW (cc := cX6_mayLie) (maxL := 8) (ret := some .boolean) (by decide) rfl ?_
  intro p e s m args below meth c s₁ B hml hv
  obtain ⟨rfl, hK, hP, hD, hZ⟩ := hv
  have S : Cx p m c meth cX6_mayLie 8 s _ RX6 (some .boolean) := ⟨⟨B.exec, B.bytes, hml, findClass_of_methodNamed B.named, fun w hw => atoms_spec (ws := ws_ yX6_mayLie cX6_mayLie 8 (some .boolean)) B.pre w (List.mem_cons_of_mem _ hw)⟩, B.returns, B.notSynchronized⟩
  have hl := lv_entry ([.ref a0, .int v1, .int v2, .int v3]) (n := 8) (Nat.le_of_ble_eq_true rfl)
  rw [lg_entry_eq]
  generalize (lg_sl ([.ref a0, .int v1, .int v2, .int v3]) ++ List.replicate (8 - (lg_sl ([.ref a0, .int v1, .int v2, .int v3])).length) Slot.unset).toArray = ls at hl ⊢
  exact (wB_X6_mayLie_0 S  M a0 v1 v2 v3 h) s.heap [] ls ⟨hK, hP, hD, va_S.rf, hZ⟩ hl
set_option maxRecDepth 100000 in
set_option maxHeartbeats 4000000 in
theorem wB_X6_moved_0 (S : Cx p m c meth cX6_moved 2 s args RX6 (some .int)) {Q : Int32 → MM → Prop}   (M : MM) (v0 : Int32) (v1 : Int32) (h : B_X6_moved_0 Z Q  M v0 v1) : WG p l e rm_X6_moved s m args below meth c 0 0 (MQi below E Z args s Q) E Z M 0 2 [(0, .int v0), (1, .int v1)] [] := by
  intro H locs ls hw hl
  have hx := S.1.1
  have hb := S.1.2.1
  refine lv_iload_n hx hb dX6_moved_0 rfl (lv_at hl 1 rfl) ?_
  refine lv_if_ne (tgt := 10) hx hb dX6_moved_1 (by decide) (fun q_1 => ?_) (fun q_1 => ?_)
  · have h := h.1 q_1
    refine lv_iload_n hx hb dX6_moved_10 rfl (lv_at hl 1 rfl) ?_
    refine lv_iconst (v := 1) hx hb dX6_moved_11 (by decide) ?_
    refine lv_icmp_ne (tgt := 21) hx hb dX6_moved_12 (by decide) (fun q_12 => ?_) (fun q_12 => ?_)
    · have h := h.1 q_12
      refine lv_iload_n hx hb dX6_moved_21 rfl (lv_at hl 1 rfl) ?_
      refine lv_iconst (v := 2) hx hb dX6_moved_22 (by decide) ?_
      refine lv_icmp_ne (tgt := 33) hx hb dX6_moved_23 (by decide) (fun q_23 => ?_) (fun q_23 => ?_)
      · have h := h.1 q_23
        refine lv_iload_n hx hb dX6_moved_33 rfl (lv_at hl 0 rfl) ?_
        refine lv_bipush (v := 15) hx hb dX6_moved_34 (by decide) ?_
        refine lv_iadd hx hb dX6_moved_36 ?_
        exact we_i S hw h dX6_moved_37
      · have h := h.2 q_23
        refine lv_iload_n hx hb dX6_moved_26 rfl (lv_at hl 0 rfl) ?_
        refine lv_bipush (v := 15) hx hb dX6_moved_27 (by decide) ?_
        refine lv_isub hx hb dX6_moved_29 ?_
        refine lv_goto (tgt := 37) hx hb dX6_moved_30 (by decide) ?_
        exact we_i S hw h dX6_moved_37
    · have h := h.2 q_12
      refine lv_iload_n hx hb dX6_moved_15 rfl (lv_at hl 0 rfl) ?_
      refine lv_iconst (v := 1) hx hb dX6_moved_16 (by decide) ?_
      refine lv_iadd hx hb dX6_moved_17 ?_
      refine lv_goto (tgt := 37) hx hb dX6_moved_18 (by decide) ?_
      exact we_i S hw h dX6_moved_37
  · have h := h.2 q_1
    refine lv_iload_n hx hb dX6_moved_4 rfl (lv_at hl 0 rfl) ?_
    refine lv_iconst (v := 1) hx hb dX6_moved_5 (by decide) ?_
    refine lv_isub hx hb dX6_moved_6 ?_
    refine lv_goto (tgt := 37) hx hb dX6_moved_7 (by decide) ?_
    exact we_i S hw h dX6_moved_37
set_option maxRecDepth 100000 in
set_option maxHeartbeats 4000000 in
theorem k_X6_moved (l : Launch) (E : EE) (Z : ZZ) (M : MM) (v0 : Int32) (v1 : Int32) (Q : Int32 → MM → Prop) (h : P_X6_moved Z M v0 v1 Q) : Ct_i l yX6_moved cX6_moved 2 (some .int) rm_X6_moved E Z M [.int v0, .int v1] Q := by
  refine Met.ofW (cc := cX6_moved) (maxL := 2) (ret := some .int) (by decide) rfl ?_
  intro p e s m args below meth c s₁ B hml hv
  obtain ⟨rfl, hK, hP, hD, hZ⟩ := hv
  have S : Cx p m c meth cX6_moved 2 s _ RX6 (some .int) := ⟨⟨B.exec, B.bytes, hml, findClass_of_methodNamed B.named, fun w hw => atoms_spec (ws := ws_ yX6_moved cX6_moved 2 (some .int)) B.pre w (List.mem_cons_of_mem _ hw)⟩, B.returns, B.notSynchronized⟩
  have hl := lv_entry ([.int v0, .int v1]) (n := 2) (Nat.le_of_ble_eq_true rfl)
  rw [lg_entry_eq]
  generalize (lg_sl ([.int v0, .int v1]) ++ List.replicate (2 - (lg_sl ([.int v0, .int v1])).length) Slot.unset).toArray = ls at hl ⊢
  exact (wB_X6_moved_0 S  M v0 v1 h) s.heap [] ls ⟨hK, hP, hD, va_S.rf, hZ⟩ hl
set_option maxRecDepth 100000 in
set_option maxHeartbeats 4000000 in
theorem wB_X6_isBeside_47 (S : Cx p m c meth cX6_isBeside 6 s args RX6 (some .boolean)) {Q : Int32 → MM → Prop} {K52 : MM → Nat → Int32 → Int32 → Int32 → Int32 → Prop} (hK52 : ∀ (M : MM) (a0 : Nat) (v1 : Int32) (v2 : Int32) (v4 : Int32) (t0 : Int32), K52 M a0 v1 v2 v4 t0 → WG p l e rm_X6_isBeside s m args below meth c 0 0 (MQi below E Z args s Q) E Z M 52 6 [(0, .ref a0), (1, .int v1), (2, .int v2), (4, .int v4)] [.int t0]) (M : MM) (a0 : Nat) (v1 : Int32) (v2 : Int32) (v4 : Int32) (h : B_X6_isBeside_47 Z Q K52 M a0 v1 v2 v4) : WG p l e rm_X6_isBeside s m args below meth c 0 0 (MQi below E Z args s Q) E Z M 47 6 [(0, .ref a0), (1, .int v1), (2, .int v2), (4, .int v4)] [] := by
  intro H locs ls hw hl
  have hx := S.1.1
  have hb := S.1.2.1
  refine lv_iconst (v := 1) hx hb dX6_isBeside_47 (by decide) ?_
  refine lv_goto (tgt := 52) hx hb dX6_isBeside_48 (by decide) ?_
  exact (hK52 _ _ _ _ _ _ h) H locs ls hw (lv_sub hl [0, 1, 2, 3] rfl)
set_option maxRecDepth 100000 in
set_option maxHeartbeats 4000000 in
theorem wB_X6_isBeside_51 (S : Cx p m c meth cX6_isBeside 6 s args RX6 (some .boolean)) {Q : Int32 → MM → Prop} {K52 : MM → Nat → Int32 → Int32 → Int32 → Int32 → Prop} (hK52 : ∀ (M : MM) (a0 : Nat) (v1 : Int32) (v2 : Int32) (v4 : Int32) (t0 : Int32), K52 M a0 v1 v2 v4 t0 → WG p l e rm_X6_isBeside s m args below meth c 0 0 (MQi below E Z args s Q) E Z M 52 6 [(0, .ref a0), (1, .int v1), (2, .int v2), (4, .int v4)] [.int t0]) (M : MM) (a0 : Nat) (v1 : Int32) (v2 : Int32) (v4 : Int32) (h : B_X6_isBeside_51 Z Q K52 M a0 v1 v2 v4) : WG p l e rm_X6_isBeside s m args below meth c 0 0 (MQi below E Z args s Q) E Z M 51 6 [(0, .ref a0), (1, .int v1), (2, .int v2), (4, .int v4)] [] := by
  intro H locs ls hw hl
  have hx := S.1.1
  have hb := S.1.2.1
  refine lv_iconst (v := 0) hx hb dX6_isBeside_51 (by decide) ?_
  exact (hK52 _ _ _ _ _ _ h) H locs ls hw (lv_sub hl [0, 1, 2, 3] rfl)
set_option maxRecDepth 100000 in
set_option maxHeartbeats 4000000 in
theorem wB_X6_isBeside_52 (S : Cx p m c meth cX6_isBeside 6 s args RX6 (some .boolean)) {Q : Int32 → MM → Prop} {K5 : MM → Nat → Int32 → Int32 → Int32 → Int32 → Prop} (hK5 : ∀ (M : MM) (a0 : Nat) (v1 : Int32) (v2 : Int32) (v3 : Int32) (v4 : Int32), K5 M a0 v1 v2 v3 v4 → WG p l e rm_X6_isBeside s m args below meth c 0 0 (MQi below E Z args s Q) E Z M 5 6 [(0, .ref a0), (1, .int v1), (2, .int v2), (3, .int v3), (4, .int v4)] []) (M : MM) (a0 : Nat) (v1 : Int32) (v2 : Int32) (v4 : Int32) (t0 : Int32) (h : B_X6_isBeside_52 Z Q K5 M a0 v1 v2 v4 t0) : WG p l e rm_X6_isBeside s m args below meth c 0 0 (MQi below E Z args s Q) E Z M 52 6 [(0, .ref a0), (1, .int v1), (2, .int v2), (4, .int v4)] [.int t0] := by
  intro H locs ls hw hl
  have hx := S.1.1
  have hb := S.1.2.1
  refine lv_istore_n (lv' := [(3, .int t0), (0, .ref a0), (1, .int v1), (2, .int v2), (4, .int v4)]) hx hb dX6_isBeside_52 rfl hl (by decide) rfl (fun ls hl => ?_)
  refine lv_iinc (v := (v4 + 1)) (lv' := [(4, .int (v4 + 1)), (3, .int t0), (0, .ref a0), (1, .int v1), (2, .int v2)]) hx hb dX6_isBeside_53 hl (k := 4) rfl rfl (by decide) rfl (fun ls hl => ?_)
  refine lv_goto (tgt := 5) hx hb dX6_isBeside_56 (by decide) ?_
  exact (hK5 _ _ _ _ _ _ h) H locs ls hw (lv_sub hl [2, 3, 4, 1, 0] rfl)
set_option maxRecDepth 100000 in
set_option maxHeartbeats 4000000 in
theorem wB_X6_isBeside_5 (S : Cx p m c meth cX6_isBeside 6 s args RX6 (some .boolean)) {Q : Int32 → MM → Prop} {K5 : MM → Nat → Int32 → Int32 → Int32 → Int32 → Prop} (hK5 : ∀ (M : MM) (a0 : Nat) (v1 : Int32) (v2 : Int32) (v3 : Int32) (v4 : Int32), K5 M a0 v1 v2 v3 v4 → WG p l e rm_X6_isBeside s m args below meth c 0 0 (MQi below E Z args s Q) E Z M 5 6 [(0, .ref a0), (1, .int v1), (2, .int v2), (3, .int v3), (4, .int v4)] []) (M : MM) (a0 : Nat) (v1 : Int32) (v2 : Int32) (v3 : Int32) (v4 : Int32) (h : B_X6_isBeside_5 Z Q K5 M a0 v1 v2 v3 v4) : WG p l e rm_X6_isBeside s m args below meth c 0 0 (MQi below E Z args s Q) E Z M 5 6 [(0, .ref a0), (1, .int v1), (2, .int v2), (3, .int v3), (4, .int v4)] [] := by
  intro H locs ls hw hl
  have hx := S.1.1
  have hb := S.1.2.1
  have hown := S.1.2.2.2.1
  have hts := S.1.2.2.2.2
  refine lv_iload hx hb dX6_isBeside_5 (lv_at hl 4 rfl) ?_
  refine lv_iconst (v := 4) hx hb dX6_isBeside_7 (by decide) ?_
  refine lv_icmp_ge (tgt := 59) hx hb dX6_isBeside_8 (by decide) (fun q_8 => ?_) (fun q_8 => ?_)
  · have h := h.1 q_8
    refine lv_iload_n hx hb dX6_isBeside_59 rfl (lv_at hl 3 rfl) ?_
    obtain ⟨zz, h⟩ := h
    exact we_b S hw zz h dX6_isBeside_60
  · have h := h.2 q_8
    refine lv_iload_n hx hb dX6_isBeside_11 rfl (lv_at hl 1 rfl) ?_
    refine lv_iload hx hb dX6_isBeside_12 (lv_at hl 4 rfl) ?_
    refine cs_i (As := [.int v1, .int v4]) (rest := []) S.1 hw (k_X6_moved l E Z M v1 v4 _ h) wv_X6_127 yc_X6_moved ⟨rfl, rfl⟩ ⟨Nat.le_of_ble_eq_true rfl, Nat.le_of_ble_eq_true rfl⟩ rfl hl.1 (Nat.le_of_ble_eq_true rfl) ⟨Nat.le_of_ble_eq_true rfl, Nat.le_of_ble_eq_true rfl⟩ dX6_isBeside_14 (fun r14 M14 H locs h hw => ?_)
    refine lv_istore (lv' := [(5, .int r14), (0, .ref a0), (1, .int v1), (2, .int v2), (3, .int v3), (4, .int v4)]) hx hb dX6_isBeside_17 hl (by decide) rfl (fun ls hl => ?_)
    refine lv_iload_n hx hb dX6_isBeside_19 rfl (lv_at hl 4 rfl) ?_
    refine lv_if_ne (tgt := 47) hx hb dX6_isBeside_20 (by decide) (fun q_20 => ?_) (fun q_20 => ?_)
    · have h := h.1 q_20
      exact ((wB_X6_isBeside_47 S  (fun M1 a0 v1 v2 v4 t0 h => (wB_X6_isBeside_52 S  hK5 _ _ _ _ _ _ h)) _ _ _ _ _ h)) H locs ls hw (lv_sub hl [1, 2, 3, 5] rfl)
    · have h := h.2 q_20
      refine lv_iload hx hb dX6_isBeside_23 (lv_at hl 0 rfl) ?_
      refine lv_i2l (v := r14.toInt64) hx hb dX6_isBeside_25 rfl ?_
      refine lv_lconst (v := 0) hx hb dX6_isBeside_26 (by decide) ?_
      refine lv_ldc2 (v := 224) hx hb hown (hts _ wq_X6_130) dX6_isBeside_27 ?_
      refine cs_i (As := [.long r14.toInt64, .long 0, .long 224]) (rest := []) S.1 hw (k_X6_in l E Z M14 r14.toInt64 0 224 _ h) wv_X6_49 yc_X6_in ⟨rfl, rfl⟩ ⟨Nat.le_of_ble_eq_true rfl, Nat.le_of_ble_eq_true rfl⟩ rfl hl.1 (Nat.le_of_ble_eq_true rfl) ⟨Nat.le_of_ble_eq_true rfl, Nat.le_of_ble_eq_true rfl⟩ dX6_isBeside_30 (fun r30 M30 H locs h hw => ?_)
      refine lv_if_eq (tgt := 51) hx hb dX6_isBeside_33 (by decide) (fun q_33 => ?_) (fun q_33 => ?_)
      · have h := h.1 q_33
        exact ((wB_X6_isBeside_51 S  (fun M1 a0 v1 v2 v4 t0 h => (wB_X6_isBeside_52 S  hK5 _ _ _ _ _ _ h)) _ _ _ _ _ h)) H locs ls hw (lv_sub hl [1, 2, 3, 5] rfl)
      · have h := h.2 q_33
        refine lv_aload_n hx hb dX6_isBeside_36 rfl (lv_at hl 1 rfl) ?_
        obtain ⟨k_0, h⟩ := h
        obtain ⟨y37_1, hy_1, h⟩ := h
        refine gf_X6_22 S.1 hw k_0 hy_1 dX6_isBeside_37 ?_
        refine lv_iload hx hb dX6_isBeside_40 (lv_at hl 0 rfl) ?_
        obtain ⟨k_2, h⟩ := h
        obtain ⟨i_42, h⟩ := h
        refine wo_iald S.1 hw k_2 i_42 dX6_isBeside_42 ?_
        refine lv_iload_n hx hb dX6_isBeside_43 rfl (lv_at hl 3 rfl) ?_
        refine lv_icmp_ne (tgt := 51) hx hb dX6_isBeside_44 (by decide) (fun q_44 => ?_) (fun q_44 => ?_)
        · have h := h.1 q_44
          exact ((wB_X6_isBeside_51 S  (fun M1 a0 v1 v2 v4 t0 h => (wB_X6_isBeside_52 S  hK5 _ _ _ _ _ _ h)) _ _ _ _ _ h)) H locs ls hw (lv_sub hl [1, 2, 3, 5] rfl)
        · have h := h.2 q_44
          exact ((wB_X6_isBeside_47 S  (fun M1 a0 v1 v2 v4 t0 h => (wB_X6_isBeside_52 S  hK5 _ _ _ _ _ _ h)) _ _ _ _ _ h)) H locs ls hw (lv_sub hl [1, 2, 3, 5] rfl)
theorem wL_X6_isBeside_5 (S : Cx p m c meth cX6_isBeside 6 s args RX6 (some .boolean)) {Q : Int32 → MM → Prop}   : ∀ (n : Nat) (M : MM) (a0 : Nat) (v1 : Int32) (v2 : Int32) (v3 : Int32) (v4 : Int32), L_X6_isBeside_5 Z Q   n M a0 v1 v2 v3 v4 → WG p l e rm_X6_isBeside s m args below meth c 0 0 (MQi below E Z args s Q) E Z M 5 6 [(0, .ref a0), (1, .int v1), (2, .int v2), (3, .int v3), (4, .int v4)] []
  | 0, _, _, _, _, _, _, h => False.elim h
  | n + 1, M, a0, v1, v2, v3, v4, h => wB_X6_isBeside_5 S  (wL_X6_isBeside_5 S   n) M a0 v1 v2 v3 v4 h
set_option maxRecDepth 100000 in
set_option maxHeartbeats 4000000 in
theorem wB_X6_isBeside_0 (S : Cx p m c meth cX6_isBeside 6 s args RX6 (some .boolean)) {Q : Int32 → MM → Prop}   (M : MM) (a0 : Nat) (v1 : Int32) (v2 : Int32) (h : B_X6_isBeside_0 Z Q  M a0 v1 v2) : WG p l e rm_X6_isBeside s m args below meth c 0 0 (MQi below E Z args s Q) E Z M 0 6 [(0, .ref a0), (1, .int v1), (2, .int v2)] [] := by
  intro H locs ls hw hl
  have hx := S.1.1
  have hb := S.1.2.1
  refine lv_iconst (v := 0) hx hb dX6_isBeside_0 (by decide) ?_
  refine lv_istore_n (lv' := [(3, .int 0), (0, .ref a0), (1, .int v1), (2, .int v2)]) hx hb dX6_isBeside_1 rfl hl (by decide) rfl (fun ls hl => ?_)
  refine lv_iconst (v := 0) hx hb dX6_isBeside_2 (by decide) ?_
  refine lv_istore (lv' := [(4, .int 0), (3, .int 0), (0, .ref a0), (1, .int v1), (2, .int v2)]) hx hb dX6_isBeside_3 hl (by decide) rfl (fun ls hl => ?_)
  exact ((Exists.elim h (fun n h => wL_X6_isBeside_5 S   n _ _ _ _ _ _ h))) H locs ls hw (lv_sub hl [2, 3, 4, 1, 0] rfl)
set_option maxRecDepth 100000 in
set_option maxHeartbeats 4000000 in
theorem k_X6_isBeside (l : Launch) (E : EE) (Z : ZZ) (M : MM) (a0 : Nat) (v1 : Int32) (v2 : Int32) (Q : Int32 → MM → Prop) (h : P_X6_isBeside Z M a0 v1 v2 Q) : Ct_i l yX6_isBeside cX6_isBeside 6 (some .boolean) rm_X6_isBeside E Z M [.ref a0, .int v1, .int v2] Q := by
  refine Met.ofW (cc := cX6_isBeside) (maxL := 6) (ret := some .boolean) (by decide) rfl ?_
  intro p e s m args below meth c s₁ B hml hv
  obtain ⟨rfl, hK, hP, hD, hZ⟩ := hv
  have S : Cx p m c meth cX6_isBeside 6 s _ RX6 (some .boolean) := ⟨⟨B.exec, B.bytes, hml, findClass_of_methodNamed B.named, fun w hw => atoms_spec (ws := ws_ yX6_isBeside cX6_isBeside 6 (some .boolean)) B.pre w (List.mem_cons_of_mem _ hw)⟩, B.returns, B.notSynchronized⟩
  have hl := lv_entry ([.ref a0, .int v1, .int v2]) (n := 6) (Nat.le_of_ble_eq_true rfl)
  rw [lg_entry_eq]
  generalize (lg_sl ([.ref a0, .int v1, .int v2]) ++ List.replicate (6 - (lg_sl ([.ref a0, .int v1, .int v2])).length) Slot.unset).toArray = ls at hl ⊢
  exact (wB_X6_isBeside_0 S  M a0 v1 v2 h) s.heap [] ls ⟨hK, hP, hD, va_S.rf, hZ⟩ hl
set_option maxRecDepth 100000 in
set_option maxHeartbeats 4000000 in
theorem wB_X6_findsWays_66 (S : Cx p m c meth cX6_findsWays 6 s args RX6 (none)) {Q : MM → Prop} {K82 : MM → Nat → Int32 → Int32 → Int32 → Int32 → Int32 → Nat → Prop} (hK82 : ∀ (M : MM) (a0 : Nat) (v1 : Int32) (v2 : Int32) (v3 : Int32) (t0 : Int32) (t1 : Int32) (t2 : Nat), K82 M a0 v1 v2 v3 t0 t1 t2 → WG p l e rm_X6_findsWays s m args below meth c 0 0 (MQv below E Z args s Q) E Z M 82 6 [(0, .ref a0), (1, .int v1), (2, .int v2), (3, .int v3)] [.int t0, .int t1, .ref t2]) (M : MM) (a0 : Nat) (v1 : Int32) (v2 : Int32) (v3 : Int32) (t0 : Int32) (t1 : Nat) (h : B_X6_findsWays_66 Z Q K82 M a0 v1 v2 v3 t0 t1) : WG p l e rm_X6_findsWays s m args below meth c 0 0 (MQv below E Z args s Q) E Z M 66 6 [(0, .ref a0), (1, .int v1), (2, .int v2), (3, .int v3)] [.int t0, .ref t1] := by
  intro H locs ls hw hl
  have hx := S.1.1
  have hb := S.1.2.1
  refine lv_bipush (v := (-2)) hx hb dX6_findsWays_66 (by decide) ?_
  refine lv_goto (tgt := 82) hx hb dX6_findsWays_68 (by decide) ?_
  exact (hK82 _ _ _ _ _ _ _ _ h) H locs ls hw (lv_sub hl [0, 1, 2, 3] rfl)
set_option maxRecDepth 100000 in
set_option maxHeartbeats 4000000 in
theorem wB_X6_findsWays_82 (S : Cx p m c meth cX6_findsWays 6 s args RX6 (none)) {Q : MM → Prop} {K18 : MM → Nat → Int32 → Int32 → Int32 → Prop} (hK18 : ∀ (M : MM) (a0 : Nat) (v1 : Int32) (v2 : Int32) (v3 : Int32), K18 M a0 v1 v2 v3 → WG p l e rm_X6_findsWays s m args below meth c 0 0 (MQv below E Z args s Q) E Z M 18 6 [(0, .ref a0), (1, .int v1), (2, .int v2), (3, .int v3)] []) (M : MM) (a0 : Nat) (v1 : Int32) (v2 : Int32) (v3 : Int32) (t0 : Int32) (t1 : Int32) (t2 : Nat) (h : B_X6_findsWays_82 Z Q K18 M a0 v1 v2 v3 t0 t1 t2) : WG p l e rm_X6_findsWays s m args below meth c 0 0 (MQv below E Z args s Q) E Z M 82 6 [(0, .ref a0), (1, .int v1), (2, .int v2), (3, .int v3)] [.int t0, .int t1, .ref t2] := by
  intro H locs ls hw hl
  have hx := S.1.1
  have hb := S.1.2.1
  obtain ⟨k_0, h⟩ := h
  obtain ⟨i_82, h⟩ := h
  refine wo_iast S.1 hw k_0 i_82 dX6_findsWays_82 (fun H locs hw => ?_)
  refine lv_iinc (v := (v3 + 1)) (lv' := [(3, .int (v3 + 1)), (0, .ref a0), (1, .int v1), (2, .int v2)]) hx hb dX6_findsWays_83 hl (k := 3) rfl rfl (by decide) rfl (fun ls hl => ?_)
  refine lv_goto (tgt := 18) hx hb dX6_findsWays_86 (by decide) ?_
  exact (hK18 _ _ _ _ _ h) H locs ls hw (lv_sub hl [1, 2, 3, 0] rfl)
set_option maxRecDepth 100000 in
set_option maxHeartbeats 4000000 in
theorem wB_X6_findsWays_146 (S : Cx p m c meth cX6_findsWays 6 s args RX6 (none)) {Q : MM → Prop} {K103 : MM → Nat → Int32 → Int32 → Int32 → Prop} (hK103 : ∀ (M : MM) (a0 : Nat) (v3 : Int32) (v4 : Int32) (v5 : Int32), K103 M a0 v3 v4 v5 → WG p l e rm_X6_findsWays s m args below meth c 0 0 (MQv below E Z args s Q) E Z M 103 6 [(0, .ref a0), (3, .int v3), (4, .int v4), (5, .int v5)] []) (M : MM) (a0 : Nat) (v3 : Int32) (v4 : Int32) (v5 : Int32) (h : B_X6_findsWays_146 Z Q K103 M a0 v3 v4 v5) : WG p l e rm_X6_findsWays s m args below meth c 0 0 (MQv below E Z args s Q) E Z M 146 6 [(0, .ref a0), (3, .int v3), (4, .int v4), (5, .int v5)] [] := by
  intro H locs ls hw hl
  have hx := S.1.1
  have hb := S.1.2.1
  refine lv_iinc (v := (v5 + 1)) (lv' := [(5, .int (v5 + 1)), (0, .ref a0), (3, .int v3), (4, .int v4)]) hx hb dX6_findsWays_146 hl (k := 3) rfl rfl (by decide) rfl (fun ls hl => ?_)
  refine lv_goto (tgt := 103) hx hb dX6_findsWays_149 (by decide) ?_
  exact (hK103 _ _ _ _ _ h) H locs ls hw (lv_sub hl [1, 2, 3, 0] rfl)
set_option maxRecDepth 100000 in
set_option maxHeartbeats 4000000 in
theorem wB_X6_findsWays_103 (S : Cx p m c meth cX6_findsWays 6 s args RX6 (none)) {Q : MM → Prop} {K94 : MM → Nat → Int32 → Int32 → Prop} {K103 : MM → Nat → Int32 → Int32 → Int32 → Prop} (hK94 : ∀ (M : MM) (a0 : Nat) (v3 : Int32) (v4 : Int32), K94 M a0 v3 v4 → WG p l e rm_X6_findsWays s m args below meth c 0 0 (MQv below E Z args s Q) E Z M 94 6 [(0, .ref a0), (3, .int v3), (4, .int v4)] []) (hK103 : ∀ (M : MM) (a0 : Nat) (v3 : Int32) (v4 : Int32) (v5 : Int32), K103 M a0 v3 v4 v5 → WG p l e rm_X6_findsWays s m args below meth c 0 0 (MQv below E Z args s Q) E Z M 103 6 [(0, .ref a0), (3, .int v3), (4, .int v4), (5, .int v5)] []) (M : MM) (a0 : Nat) (v3 : Int32) (v4 : Int32) (v5 : Int32) (h : B_X6_findsWays_103 Z Q K94 K103 M a0 v3 v4 v5) : WG p l e rm_X6_findsWays s m args below meth c 0 0 (MQv below E Z args s Q) E Z M 103 6 [(0, .ref a0), (3, .int v3), (4, .int v4), (5, .int v5)] [] := by
  intro H locs ls hw hl
  have hx := S.1.1
  have hb := S.1.2.1
  refine lv_iload hx hb dX6_findsWays_103 (lv_at hl 3 rfl) ?_
  refine lv_sipush (v := 225) hx hb dX6_findsWays_105 (by decide) ?_
  refine lv_icmp_ge (tgt := 152) hx hb dX6_findsWays_108 (by decide) (fun q_108 => ?_) (fun q_108 => ?_)
  · have h := h.1 q_108
    refine lv_iinc (v := (v4 + 1)) (lv' := [(4, .int (v4 + 1)), (0, .ref a0), (3, .int v3), (5, .int v5)]) hx hb dX6_findsWays_152 hl (k := 2) rfl rfl (by decide) rfl (fun ls hl => ?_)
    refine lv_goto (tgt := 94) hx hb dX6_findsWays_155 (by decide) ?_
    exact (hK94 _ _ _ _ h) H locs ls hw (lv_sub hl [1, 2, 0] rfl)
  · have h := h.2 q_108
    refine lv_aload_n hx hb dX6_findsWays_111 rfl (lv_at hl 0 rfl) ?_
    obtain ⟨k_0, h⟩ := h
    obtain ⟨y112_1, hy_1, h⟩ := h
    refine gf_X6_22 S.1 hw k_0 hy_1 dX6_findsWays_112 ?_
    refine lv_iload hx hb dX6_findsWays_115 (lv_at hl 3 rfl) ?_
    obtain ⟨k_2, h⟩ := h
    obtain ⟨i_117, h⟩ := h
    refine wo_iald S.1 hw k_2 i_117 dX6_findsWays_117 ?_
    refine lv_iconst (v := (-1)) hx hb dX6_findsWays_118 (by decide) ?_
    refine lv_icmp_ne (tgt := 146) hx hb dX6_findsWays_119 (by decide) (fun q_119 => ?_) (fun q_119 => ?_)
    · have h := h.1 q_119
      exact ((wB_X6_findsWays_146 S  hK103 _ _ _ _ _ h)) H locs ls hw (lv_sub hl [0, 1, 2, 3] rfl)
    · have h := h.2 q_119
      refine lv_aload_n hx hb dX6_findsWays_122 rfl (lv_at hl 0 rfl) ?_
      refine lv_iload hx hb dX6_findsWays_123 (lv_at hl 3 rfl) ?_
      refine lv_iload hx hb dX6_findsWays_125 (lv_at hl 2 rfl) ?_
      refine cv_i (As := [.int v5, .int v4]) (rest := []) S.1 hw (k_X6_isBeside l E Z M a0 v5 v4 _ h) wv_X6_124 yc_X6_isBeside ⟨rfl, rfl⟩ ⟨Nat.le_of_ble_eq_true rfl, Nat.le_of_ble_eq_true rfl⟩ rfl hl.1 (Nat.le_of_ble_eq_true rfl) (ci := 6) (q := (RX6, TX6, 12)) rfl rfl (by rw [k_0]; decide) (cell_6 k_0) ⟨Nat.le_of_ble_eq_true rfl, Nat.le_of_ble_eq_true rfl⟩ dX6_findsWays_127 (fun r127 M127 H locs h hw => ?_)
      refine lv_if_eq (tgt := 146) hx hb dX6_findsWays_130 (by decide) (fun q_130 => ?_) (fun q_130 => ?_)
      · have h := h.1 q_130
        exact ((wB_X6_findsWays_146 S  hK103 _ _ _ _ _ h)) H locs ls hw (lv_sub hl [0, 1, 2, 3] rfl)
      · have h := h.2 q_130
        refine lv_aload_n hx hb dX6_findsWays_133 rfl (lv_at hl 0 rfl) ?_
        refine gf_X6_22 S.1 hw k_0 hy_1 dX6_findsWays_134 ?_
        refine lv_iload hx hb dX6_findsWays_137 (lv_at hl 3 rfl) ?_
        refine lv_iload hx hb dX6_findsWays_139 (lv_at hl 2 rfl) ?_
        refine lv_iconst (v := 1) hx hb dX6_findsWays_141 (by decide) ?_
        refine lv_iadd hx hb dX6_findsWays_142 ?_
        obtain ⟨i_143, h⟩ := h
        refine wo_iast S.1 hw k_2 i_143 dX6_findsWays_143 (fun H locs hw => ?_)
        refine lv_iconst (v := 1) hx hb dX6_findsWays_144 (by decide) ?_
        refine lv_istore_n (lv' := [(3, .int 1), (0, .ref a0), (4, .int v4), (5, .int v5)]) hx hb dX6_findsWays_145 rfl hl (by decide) rfl (fun ls hl => ?_)
        exact ((wB_X6_findsWays_146 S  hK103 _ _ _ _ _ h)) H locs ls hw (lv_sub hl [1, 0, 2, 3] rfl)
theorem wL_X6_findsWays_103 (S : Cx p m c meth cX6_findsWays 6 s args RX6 (none)) {Q : MM → Prop} {K94 : MM → Nat → Int32 → Int32 → Prop} (hK94 : ∀ (M : MM) (a0 : Nat) (v3 : Int32) (v4 : Int32), K94 M a0 v3 v4 → WG p l e rm_X6_findsWays s m args below meth c 0 0 (MQv below E Z args s Q) E Z M 94 6 [(0, .ref a0), (3, .int v3), (4, .int v4)] []) : ∀ (n : Nat) (M : MM) (a0 : Nat) (v3 : Int32) (v4 : Int32) (v5 : Int32), L_X6_findsWays_103 Z Q  K94 n M a0 v3 v4 v5 → WG p l e rm_X6_findsWays s m args below meth c 0 0 (MQv below E Z args s Q) E Z M 103 6 [(0, .ref a0), (3, .int v3), (4, .int v4), (5, .int v5)] []
  | 0, _, _, _, _, _, h => False.elim h
  | n + 1, M, a0, v3, v4, v5, h => wB_X6_findsWays_103 S  hK94 (wL_X6_findsWays_103 S  hK94 n) M a0 v3 v4 v5 h
set_option maxRecDepth 100000 in
set_option maxHeartbeats 4000000 in
theorem wB_X6_findsWays_94 (S : Cx p m c meth cX6_findsWays 6 s args RX6 (none)) {Q : MM → Prop} {K94 : MM → Nat → Int32 → Int32 → Prop} (hK94 : ∀ (M : MM) (a0 : Nat) (v3 : Int32) (v4 : Int32), K94 M a0 v3 v4 → WG p l e rm_X6_findsWays s m args below meth c 0 0 (MQv below E Z args s Q) E Z M 94 6 [(0, .ref a0), (3, .int v3), (4, .int v4)] []) (M : MM) (a0 : Nat) (v3 : Int32) (v4 : Int32) (h : B_X6_findsWays_94 Z Q K94 M a0 v3 v4) : WG p l e rm_X6_findsWays s m args below meth c 0 0 (MQv below E Z args s Q) E Z M 94 6 [(0, .ref a0), (3, .int v3), (4, .int v4)] [] := by
  intro H locs ls hw hl
  have hx := S.1.1
  have hb := S.1.2.1
  refine lv_iload_n hx hb dX6_findsWays_94 rfl (lv_at hl 1 rfl) ?_
  refine lv_if_eq (tgt := 158) hx hb dX6_findsWays_95 (by decide) (fun q_95 => ?_) (fun q_95 => ?_)
  · have h := h.1 q_95
    exact we_v S hw h dX6_findsWays_158
  · have h := h.2 q_95
    refine lv_iconst (v := 0) hx hb dX6_findsWays_98 (by decide) ?_
    refine lv_istore_n (lv' := [(3, .int 0), (0, .ref a0), (4, .int v4)]) hx hb dX6_findsWays_99 rfl hl (by decide) rfl (fun ls hl => ?_)
    refine lv_iconst (v := 0) hx hb dX6_findsWays_100 (by decide) ?_
    refine lv_istore (lv' := [(5, .int 0), (3, .int 0), (0, .ref a0), (4, .int v4)]) hx hb dX6_findsWays_101 hl (by decide) rfl (fun ls hl => ?_)
    exact ((Exists.elim h (fun n h => wL_X6_findsWays_103 S  hK94 n _ _ _ _ _ h))) H locs ls hw (lv_sub hl [2, 1, 3, 0] rfl)
theorem wL_X6_findsWays_94 (S : Cx p m c meth cX6_findsWays 6 s args RX6 (none)) {Q : MM → Prop}   : ∀ (n : Nat) (M : MM) (a0 : Nat) (v3 : Int32) (v4 : Int32), L_X6_findsWays_94 Z Q   n M a0 v3 v4 → WG p l e rm_X6_findsWays s m args below meth c 0 0 (MQv below E Z args s Q) E Z M 94 6 [(0, .ref a0), (3, .int v3), (4, .int v4)] []
  | 0, _, _, _, _, h => False.elim h
  | n + 1, M, a0, v3, v4, h => wB_X6_findsWays_94 S  (wL_X6_findsWays_94 S   n) M a0 v3 v4 h
set_option maxRecDepth 100000 in
set_option maxHeartbeats 4000000 in
theorem wB_X6_findsWays_18 (S : Cx p m c meth cX6_findsWays 6 s args RX6 (none)) {Q : MM → Prop} {K18 : MM → Nat → Int32 → Int32 → Int32 → Prop} (hK18 : ∀ (M : MM) (a0 : Nat) (v1 : Int32) (v2 : Int32) (v3 : Int32), K18 M a0 v1 v2 v3 → WG p l e rm_X6_findsWays s m args below meth c 0 0 (MQv below E Z args s Q) E Z M 18 6 [(0, .ref a0), (1, .int v1), (2, .int v2), (3, .int v3)] []) (M : MM) (a0 : Nat) (v1 : Int32) (v2 : Int32) (v3 : Int32) (h : B_X6_findsWays_18 Z Q K18 M a0 v1 v2 v3) : WG p l e rm_X6_findsWays s m args below meth c 0 0 (MQv below E Z args s Q) E Z M 18 6 [(0, .ref a0), (1, .int v1), (2, .int v2), (3, .int v3)] [] := by
  intro H locs ls hw hl
  have hx := S.1.1
  have hb := S.1.2.1
  refine lv_iload_n hx hb dX6_findsWays_18 rfl (lv_at hl 3 rfl) ?_
  refine lv_sipush (v := 225) hx hb dX6_findsWays_19 (by decide) ?_
  refine lv_icmp_ge (tgt := 89) hx hb dX6_findsWays_22 (by decide) (fun q_22 => ?_) (fun q_22 => ?_)
  · have h := h.1 q_22
    refine lv_iconst (v := 1) hx hb dX6_findsWays_89 (by decide) ?_
    refine lv_istore_n (lv' := [(3, .int 1), (0, .ref a0), (1, .int v1), (2, .int v2)]) hx hb dX6_findsWays_90 rfl hl (by decide) rfl (fun ls hl => ?_)
    refine lv_iconst (v := 0) hx hb dX6_findsWays_91 (by decide) ?_
    refine lv_istore (lv' := [(4, .int 0), (3, .int 1), (0, .ref a0), (1, .int v1), (2, .int v2)]) hx hb dX6_findsWays_92 hl (by decide) rfl (fun ls hl => ?_)
    exact ((Exists.elim h (fun n h => wL_X6_findsWays_94 S   n _ _ _ _ h))) H locs ls hw (lv_sub hl [2, 1, 0] rfl)
  · have h := h.2 q_22
    refine lv_iload_n hx hb dX6_findsWays_25 rfl (lv_at hl 3 rfl) ?_
    refine lv_bipush (v := 15) hx hb dX6_findsWays_26 (by decide) ?_
    refine lv_idiv hx hb dX6_findsWays_28 (by decide) ?_
    refine lv_bipush (v := 7) hx hb dX6_findsWays_29 (by decide) ?_
    refine lv_isub hx hb dX6_findsWays_31 ?_
    refine lv_istore (lv' := [(4, .int ((v3 / 15) - 7)), (0, .ref a0), (1, .int v1), (2, .int v2), (3, .int v3)]) hx hb dX6_findsWays_32 hl (by decide) rfl (fun ls hl => ?_)
    refine lv_iload_n hx hb dX6_findsWays_34 rfl (lv_at hl 4 rfl) ?_
    refine lv_bipush (v := 15) hx hb dX6_findsWays_35 (by decide) ?_
    refine lv_irem hx hb dX6_findsWays_37 (by decide) ?_
    refine lv_bipush (v := 7) hx hb dX6_findsWays_38 (by decide) ?_
    refine lv_isub hx hb dX6_findsWays_40 ?_
    refine lv_istore (lv' := [(5, .int ((v3 - v3 / 15 * 15) - 7)), (4, .int ((v3 / 15) - 7)), (0, .ref a0), (1, .int v1), (2, .int v2), (3, .int v3)]) hx hb dX6_findsWays_41 hl (by decide) rfl (fun ls hl => ?_)
    refine lv_aload_n hx hb dX6_findsWays_43 rfl (lv_at hl 2 rfl) ?_
    obtain ⟨k_0, h⟩ := h
    obtain ⟨y44_1, hy_1, h⟩ := h
    refine gf_X6_22 S.1 hw k_0 hy_1 dX6_findsWays_44 ?_
    refine lv_iload_n hx hb dX6_findsWays_47 rfl (lv_at hl 5 rfl) ?_
    refine lv_iload hx hb dX6_findsWays_48 (lv_at hl 1 rfl) ?_
    refine lv_iload_n hx hb dX6_findsWays_50 rfl (lv_at hl 4 rfl) ?_
    refine lv_icmp_gt (tgt := 66) hx hb dX6_findsWays_51 (by decide) (fun q_51 => ?_) (fun q_51 => ?_)
    · have h := h.1 q_51
      exact ((wB_X6_findsWays_66 S  (fun M1 a0 v1 v2 v3 t0 t1 t2 h => (wB_X6_findsWays_82 S  hK18 _ _ _ _ _ _ _ _ h)) _ _ _ _ _ _ _ h)) H locs ls hw (lv_sub hl [2, 3, 4, 5] rfl)
    · have h := h.2 q_51
      refine lv_aload_n hx hb dX6_findsWays_54 rfl (lv_at hl 2 rfl) ?_
      refine lv_iload_n hx hb dX6_findsWays_55 rfl (lv_at hl 3 rfl) ?_
      refine lv_iload hx hb dX6_findsWays_56 (lv_at hl 0 rfl) ?_
      refine lv_iload hx hb dX6_findsWays_58 (lv_at hl 1 rfl) ?_
      refine cv_i (As := [.int v1, .int ((v3 - v3 / 15 * 15) - 7), .int ((v3 / 15) - 7)]) (rest := [.int v3, .ref y44_1]) S.1 hw (k_X6_mayLie l E Z M a0 v1 ((v3 - v3 / 15 * 15) - 7) ((v3 / 15) - 7) _ h) wv_X6_121 yc_X6_mayLie ⟨rfl, rfl⟩ ⟨Nat.le_of_ble_eq_true rfl, Nat.le_of_ble_eq_true rfl⟩ rfl hl.1 (Nat.le_of_ble_eq_true rfl) (ci := 6) (q := (RX6, TX6, 12)) rfl rfl (by rw [k_0]; decide) (cell_6 k_0) ⟨Nat.le_of_ble_eq_true rfl, Nat.le_of_ble_eq_true rfl⟩ dX6_findsWays_60 (fun r60 M60 H locs h hw => ?_)
      refine lv_if_ne (tgt := 71) hx hb dX6_findsWays_63 (by decide) (fun q_63 => ?_) (fun q_63 => ?_)
      · have h := h.1 q_63
        refine lv_iload hx hb dX6_findsWays_71 (lv_at hl 1 rfl) ?_
        refine lv_iload_n hx hb dX6_findsWays_73 rfl (lv_at hl 4 rfl) ?_
        refine lv_icmp_ne (tgt := 81) hx hb dX6_findsWays_74 (by decide) (fun q_74 => ?_) (fun q_74 => ?_)
        · have h := h.1 q_74
          refine lv_iconst (v := (-1)) hx hb dX6_findsWays_81 (by decide) ?_
          exact ((wB_X6_findsWays_82 S  hK18 _ _ _ _ _ _ _ _ h)) H locs ls hw (lv_sub hl [2, 3, 4, 5] rfl)
        · have h := h.2 q_74
          refine lv_iconst (v := 0) hx hb dX6_findsWays_77 (by decide) ?_
          refine lv_goto (tgt := 82) hx hb dX6_findsWays_78 (by decide) ?_
          exact ((wB_X6_findsWays_82 S  hK18 _ _ _ _ _ _ _ _ h)) H locs ls hw (lv_sub hl [2, 3, 4, 5] rfl)
      · have h := h.2 q_63
        exact ((wB_X6_findsWays_66 S  (fun M1 a0 v1 v2 v3 t0 t1 t2 h => (wB_X6_findsWays_82 S  hK18 _ _ _ _ _ _ _ _ h)) _ _ _ _ _ _ _ h)) H locs ls hw (lv_sub hl [2, 3, 4, 5] rfl)
theorem wL_X6_findsWays_18 (S : Cx p m c meth cX6_findsWays 6 s args RX6 (none)) {Q : MM → Prop}   : ∀ (n : Nat) (M : MM) (a0 : Nat) (v1 : Int32) (v2 : Int32) (v3 : Int32), L_X6_findsWays_18 Z Q   n M a0 v1 v2 v3 → WG p l e rm_X6_findsWays s m args below meth c 0 0 (MQv below E Z args s Q) E Z M 18 6 [(0, .ref a0), (1, .int v1), (2, .int v2), (3, .int v3)] []
  | 0, _, _, _, _, _, h => False.elim h
  | n + 1, M, a0, v1, v2, v3, h => wB_X6_findsWays_18 S  (wL_X6_findsWays_18 S   n) M a0 v1 v2 v3 h
set_option maxRecDepth 100000 in
set_option maxHeartbeats 4000000 in
theorem wB_X6_findsWays_0 (S : Cx p m c meth cX6_findsWays 6 s args RX6 (none)) {Q : MM → Prop}   (M : MM) (a0 : Nat) (v1 : Int32) (h : B_X6_findsWays_0 Z Q  M a0 v1) : WG p l e rm_X6_findsWays s m args below meth c 0 0 (MQv below E Z args s Q) E Z M 0 6 [(0, .ref a0), (1, .int v1)] [] := by
  intro H locs ls hw hl
  have hx := S.1.1
  have hb := S.1.2.1
  refine lv_aload_n hx hb dX6_findsWays_0 rfl (lv_at hl 0 rfl) ?_
  obtain ⟨k_0, h⟩ := h
  obtain ⟨y1_1, hy_1, h⟩ := h
  refine gf_X6_7 S.1 hw k_0 hy_1 dX6_findsWays_1 ?_
  refine lv_iconst (v := 1) hx hb dX6_findsWays_4 (by decide) ?_
  obtain ⟨k_2, h⟩ := h
  obtain ⟨i_5, h⟩ := h
  refine wo_iald S.1 hw k_2 i_5 dX6_findsWays_5 ?_
  refine lv_iload_n hx hb dX6_findsWays_6 rfl (lv_at hl 1 rfl) ?_
  refine lv_aload_n hx hb dX6_findsWays_7 rfl (lv_at hl 0 rfl) ?_
  refine gf_X6_7 S.1 hw k_0 hy_1 dX6_findsWays_8 ?_
  refine lv_iconst (v := 0) hx hb dX6_findsWays_11 (by decide) ?_
  obtain ⟨i_12, h⟩ := h
  refine wo_iald S.1 hw k_2 i_12 dX6_findsWays_12 ?_
  obtain ⟨z_13, h⟩ := h
  refine lv_idiv hx hb dX6_findsWays_13 z_13 ?_
  refine lv_isub hx hb dX6_findsWays_14 ?_
  refine lv_istore_n (lv' := [(2, .int ((mA M y1_1 (1 : Int32).toNatClampNeg) - (v1 / (mA M y1_1 (0 : Int32).toNatClampNeg)))), (0, .ref a0), (1, .int v1)]) hx hb dX6_findsWays_15 rfl hl (by decide) rfl (fun ls hl => ?_)
  refine lv_iconst (v := 0) hx hb dX6_findsWays_16 (by decide) ?_
  refine lv_istore_n (lv' := [(3, .int 0), (2, .int ((mA M y1_1 (1 : Int32).toNatClampNeg) - (v1 / (mA M y1_1 (0 : Int32).toNatClampNeg)))), (0, .ref a0), (1, .int v1)]) hx hb dX6_findsWays_17 rfl hl (by decide) rfl (fun ls hl => ?_)
  exact ((Exists.elim h (fun n h => wL_X6_findsWays_18 S   n _ _ _ _ _ h))) H locs ls hw (lv_sub hl [2, 3, 1, 0] rfl)
set_option maxRecDepth 100000 in
set_option maxHeartbeats 4000000 in
theorem k_X6_findsWays (l : Launch) (E : EE) (Z : ZZ) (M : MM) (a0 : Nat) (v1 : Int32) (Q : MM → Prop) (h : P_X6_findsWays Z M a0 v1 Q) : Ct_v l yX6_findsWays cX6_findsWays 6 (none) rm_X6_findsWays E Z M [.ref a0, .int v1] Q := by
  refine Met.ofW (cc := cX6_findsWays) (maxL := 6) (ret := none) (by decide) rfl ?_
  intro p e s m args below meth c s₁ B hml hv
  obtain ⟨rfl, hK, hP, hD, hZ⟩ := hv
  have S : Cx p m c meth cX6_findsWays 6 s _ RX6 (none) := ⟨⟨B.exec, B.bytes, hml, findClass_of_methodNamed B.named, fun w hw => atoms_spec (ws := ws_ yX6_findsWays cX6_findsWays 6 (none)) B.pre w (List.mem_cons_of_mem _ hw)⟩, B.returns, B.notSynchronized⟩
  have hl := lv_entry ([.ref a0, .int v1]) (n := 6) (Nat.le_of_ble_eq_true rfl)
  rw [lg_entry_eq]
  generalize (lg_sl ([.ref a0, .int v1]) ++ List.replicate (6 - (lg_sl ([.ref a0, .int v1])).length) Slot.unset).toArray = ls at hl ⊢
  exact (wB_X6_findsWays_0 S  M a0 v1 h) s.heap [] ls ⟨hK, hP, hD, va_S.rf, hZ⟩ hl
set_option maxRecDepth 100000 in
set_option maxHeartbeats 4000000 in
theorem wB_X6_way_0 (S : Cx p m c meth cX6_way 2 s args RX6 (some .int)) {Q : Int32 → MM → Prop}   (M : MM) (a0 : Nat) (v1 : Int32) (h : B_X6_way_0 Z Q  M a0 v1) : WG p l e rm_X6_way s m args below meth c 0 0 (MQi below E Z args s Q) E Z M 0 2 [(0, .ref a0), (1, .int v1)] [] := by
  intro H locs ls hw hl
  have hx := S.1.1
  have hb := S.1.2.1
  refine lv_aload_n hx hb dX6_way_0 rfl (lv_at hl 0 rfl) ?_
  refine lv_iload_n hx hb dX6_way_1 rfl (lv_at hl 1 rfl) ?_
  obtain ⟨k_0, h⟩ := h
  refine cv_i (As := [.int v1]) (rest := []) S.1 hw (k_X6_isHeld l E Z M a0 v1 _ h) wv_X6_132 yc_X6_isHeld ⟨rfl, rfl⟩ ⟨Nat.le_of_ble_eq_true rfl, Nat.le_of_ble_eq_true rfl⟩ rfl hl.1 (Nat.le_of_ble_eq_true rfl) (ci := 6) (q := (RX6, TX6, 12)) rfl rfl (by rw [k_0]; decide) (cell_6 k_0) ⟨Nat.le_of_ble_eq_true rfl, Nat.le_of_ble_eq_true rfl⟩ dX6_way_2 (fun r2 M2 H locs h hw => ?_)
  refine lv_if_eq (tgt := 10) hx hb dX6_way_5 (by decide) (fun q_5 => ?_) (fun q_5 => ?_)
  · have h := h.1 q_5
    refine lv_aload_n hx hb dX6_way_10 rfl (lv_at hl 0 rfl) ?_
    refine lv_iload_n hx hb dX6_way_11 rfl (lv_at hl 1 rfl) ?_
    refine cv_v (As := [.int v1]) (rest := []) S.1 hw (k_X6_findsWays l E Z M2 a0 v1 _ h) wv_X6_135 yc_X6_findsWays ⟨rfl, rfl⟩ ⟨Nat.le_of_ble_eq_true rfl, Nat.le_of_ble_eq_true rfl⟩ rfl hl.1 (Nat.le_of_ble_eq_true rfl) (ci := 6) (q := (RX6, TX6, 12)) rfl rfl (by rw [k_0]; decide) (cell_6 k_0) ⟨Nat.le_of_ble_eq_true rfl, Nat.le_of_ble_eq_true rfl⟩ dX6_way_12 (fun M12 H locs h hw => ?_)
    refine lv_aload_n hx hb dX6_way_15 rfl (lv_at hl 0 rfl) ?_
    obtain ⟨y16_1, hy_1, h⟩ := h
    refine gf_X6_22 S.1 hw k_0 hy_1 dX6_way_16 ?_
    refine lv_bipush (v := 112) hx hb dX6_way_19 (by decide) ?_
    obtain ⟨k_2, h⟩ := h
    obtain ⟨i_21, h⟩ := h
    refine wo_iald S.1 hw k_2 i_21 dX6_way_21 ?_
    refine lv_if_ge (tgt := 29) hx hb dX6_way_22 (by decide) (fun q_22 => ?_) (fun q_22 => ?_)
    · have h := h.1 q_22
      refine lv_aload_n hx hb dX6_way_29 rfl (lv_at hl 0 rfl) ?_
      refine gf_X6_22 S.1 hw k_0 hy_1 dX6_way_30 ?_
      refine lv_bipush (v := 112) hx hb dX6_way_33 (by decide) ?_
      obtain ⟨i_35, h⟩ := h
      refine wo_iald S.1 hw k_2 i_35 dX6_way_35 ?_
      exact we_i S hw h dX6_way_36
    · have h := h.2 q_22
      refine lv_iconst (v := (-1)) hx hb dX6_way_25 (by decide) ?_
      refine lv_goto (tgt := 36) hx hb dX6_way_26 (by decide) ?_
      exact we_i S hw h dX6_way_36
  · have h := h.2 q_5
    refine lv_iconst (v := (-1)) hx hb dX6_way_8 (by decide) ?_
    exact we_i S hw h dX6_way_9
set_option maxRecDepth 100000 in
set_option maxHeartbeats 4000000 in
theorem k_X6_way (l : Launch) (E : EE) (Z : ZZ) (M : MM) (a0 : Nat) (v1 : Int32) (Q : Int32 → MM → Prop) (h : P_X6_way Z M a0 v1 Q) : Ct_i l yX6_way cX6_way 2 (some .int) rm_X6_way E Z M [.ref a0, .int v1] Q := by
  refine Met.ofW (cc := cX6_way) (maxL := 2) (ret := some .int) (by decide) rfl ?_
  intro p e s m args below meth c s₁ B hml hv
  obtain ⟨rfl, hK, hP, hD, hZ⟩ := hv
  have S : Cx p m c meth cX6_way 2 s _ RX6 (some .int) := ⟨⟨B.exec, B.bytes, hml, findClass_of_methodNamed B.named, fun w hw => atoms_spec (ws := ws_ yX6_way cX6_way 2 (some .int)) B.pre w (List.mem_cons_of_mem _ hw)⟩, B.returns, B.notSynchronized⟩
  have hl := lv_entry ([.ref a0, .int v1]) (n := 2) (Nat.le_of_ble_eq_true rfl)
  rw [lg_entry_eq]
  generalize (lg_sl ([.ref a0, .int v1]) ++ List.replicate (2 - (lg_sl ([.ref a0, .int v1])).length) Slot.unset).toArray = ls at hl ⊢
  exact (wB_X6_way_0 S  M a0 v1 h) s.heap [] ls ⟨hK, hP, hD, va_S.rf, hZ⟩ hl
set_option maxRecDepth 100000 in
set_option maxHeartbeats 4000000 in
theorem wB_X6_nextLoose_32 (S : Cx p m c meth cX6_nextLoose 5 s args RX6 (some .int)) {Q : Int32 → MM → Prop} {K33 : MM → Nat → Int32 → Int32 → Int32 → Prop} (hK33 : ∀ (M : MM) (a0 : Nat) (v2 : Int32) (v3 : Int32) (t0 : Int32), K33 M a0 v2 v3 t0 → WG p l e rm_X6_nextLoose s m args below meth c 0 0 (MQi below E Z args s Q) E Z M 33 5 [(0, .ref a0), (2, .int v2), (3, .int v3)] [.int t0]) (M : MM) (a0 : Nat) (v2 : Int32) (v3 : Int32) (h : B_X6_nextLoose_32 Z Q K33 M a0 v2 v3) : WG p l e rm_X6_nextLoose s m args below meth c 0 0 (MQi below E Z args s Q) E Z M 32 5 [(0, .ref a0), (2, .int v2), (3, .int v3)] [] := by
  intro H locs ls hw hl
  have hx := S.1.1
  have hb := S.1.2.1
  refine lv_iconst (v := 0) hx hb dX6_nextLoose_32 (by decide) ?_
  exact (hK33 _ _ _ _ _ h) H locs ls hw (lv_sub hl [0, 1, 2] rfl)
set_option maxRecDepth 100000 in
set_option maxHeartbeats 4000000 in
theorem wB_X6_nextLoose_54 (S : Cx p m c meth cX6_nextLoose 5 s args RX6 (some .int)) {Q : Int32 → MM → Prop} {K60 : MM → Nat → Int32 → Int32 → Prop} (hK60 : ∀ (M : MM) (a0 : Nat) (v2 : Int32) (v3 : Int32), K60 M a0 v2 v3 → WG p l e rm_X6_nextLoose s m args below meth c 0 0 (MQi below E Z args s Q) E Z M 60 5 [(0, .ref a0), (2, .int v2), (3, .int v3)] []) (M : MM) (a0 : Nat) (v2 : Int32) (v3 : Int32) (t0 : Int32) (h : B_X6_nextLoose_54 Z Q K60 M a0 v2 v3 t0) : WG p l e rm_X6_nextLoose s m args below meth c 0 0 (MQi below E Z args s Q) E Z M 54 5 [(0, .ref a0), (2, .int v2), (3, .int v3)] [.int t0] := by
  intro H locs ls hw hl
  have hx := S.1.1
  have hb := S.1.2.1
  refine lv_iload_n hx hb dX6_nextLoose_54 rfl (lv_at hl 1 rfl) ?_
  refine lv_icmp_ne (tgt := 60) hx hb dX6_nextLoose_55 (by decide) (fun q_55 => ?_) (fun q_55 => ?_)
  · have h := h.1 q_55
    exact (hK60 _ _ _ _ h) H locs ls hw (lv_sub hl [0, 1, 2] rfl)
  · have h := h.2 q_55
    refine lv_iload_n hx hb dX6_nextLoose_58 rfl (lv_at hl 2 rfl) ?_
    exact we_i S hw h dX6_nextLoose_59
set_option maxRecDepth 100000 in
set_option maxHeartbeats 4000000 in
theorem wB_X6_nextLoose_60 (S : Cx p m c meth cX6_nextLoose 5 s args RX6 (some .int)) {Q : Int32 → MM → Prop} {K2 : MM → Nat → Int32 → Int32 → Prop} (hK2 : ∀ (M : MM) (a0 : Nat) (v2 : Int32) (v3 : Int32), K2 M a0 v2 v3 → WG p l e rm_X6_nextLoose s m args below meth c 0 0 (MQi below E Z args s Q) E Z M 2 5 [(0, .ref a0), (2, .int v2), (3, .int v3)] []) (M : MM) (a0 : Nat) (v2 : Int32) (v3 : Int32) (h : B_X6_nextLoose_60 Z Q K2 M a0 v2 v3) : WG p l e rm_X6_nextLoose s m args below meth c 0 0 (MQi below E Z args s Q) E Z M 60 5 [(0, .ref a0), (2, .int v2), (3, .int v3)] [] := by
  intro H locs ls hw hl
  have hx := S.1.1
  have hb := S.1.2.1
  refine lv_iinc (v := (v3 + 1)) (lv' := [(3, .int (v3 + 1)), (0, .ref a0), (2, .int v2)]) hx hb dX6_nextLoose_60 hl (k := 2) rfl rfl (by decide) rfl (fun ls hl => ?_)
  refine lv_goto (tgt := 2) hx hb dX6_nextLoose_63 (by decide) ?_
  exact (hK2 _ _ _ _ h) H locs ls hw (lv_sub hl [1, 2, 0] rfl)
set_option maxRecDepth 100000 in
set_option maxHeartbeats 4000000 in
theorem wB_X6_nextLoose_33 (S : Cx p m c meth cX6_nextLoose 5 s args RX6 (some .int)) {Q : Int32 → MM → Prop} {K2 : MM → Nat → Int32 → Int32 → Prop} (hK2 : ∀ (M : MM) (a0 : Nat) (v2 : Int32) (v3 : Int32), K2 M a0 v2 v3 → WG p l e rm_X6_nextLoose s m args below meth c 0 0 (MQi below E Z args s Q) E Z M 2 5 [(0, .ref a0), (2, .int v2), (3, .int v3)] []) (M : MM) (a0 : Nat) (v2 : Int32) (v3 : Int32) (t0 : Int32) (h : B_X6_nextLoose_33 Z Q K2 M a0 v2 v3 t0) : WG p l e rm_X6_nextLoose s m args below meth c 0 0 (MQi below E Z args s Q) E Z M 33 5 [(0, .ref a0), (2, .int v2), (3, .int v3)] [.int t0] := by
  intro H locs ls hw hl
  have hx := S.1.1
  have hb := S.1.2.1
  refine lv_istore (lv' := [(4, .int t0), (0, .ref a0), (2, .int v2), (3, .int v3)]) hx hb dX6_nextLoose_33 hl (by decide) rfl (fun ls hl => ?_)
  refine lv_iload hx hb dX6_nextLoose_35 (lv_at hl 0 rfl) ?_
  refine lv_if_eq (tgt := 60) hx hb dX6_nextLoose_37 (by decide) (fun q_37 => ?_) (fun q_37 => ?_)
  · have h := h.1 q_37
    exact ((wB_X6_nextLoose_60 S  hK2 _ _ _ _ h)) H locs ls hw (lv_sub hl [1, 2, 3] rfl)
  · have h := h.2 q_37
    refine lv_aload_n hx hb dX6_nextLoose_40 rfl (lv_at hl 1 rfl) ?_
    refine lv_iload_n hx hb dX6_nextLoose_41 rfl (lv_at hl 3 rfl) ?_
    obtain ⟨k_0, h⟩ := h
    refine cv_i (As := [.int v3]) (rest := []) S.1 hw (k_X6_way l E Z M a0 v3 _ h) wv_X6_139 yc_X6_way ⟨rfl, rfl⟩ ⟨Nat.le_of_ble_eq_true rfl, Nat.le_of_ble_eq_true rfl⟩ rfl hl.1 (Nat.le_of_ble_eq_true rfl) (ci := 6) (q := (RX6, TX6, 12)) rfl rfl (by rw [k_0]; decide) (cell_6 k_0) ⟨Nat.le_of_ble_eq_true rfl, Nat.le_of_ble_eq_true rfl⟩ dX6_nextLoose_42 (fun r42 M42 H locs h hw => ?_)
    refine lv_iconst (v := (-1)) hx hb dX6_nextLoose_45 (by decide) ?_
    refine lv_icmp_eq (tgt := 53) hx hb dX6_nextLoose_46 (by decide) (fun q_46 => ?_) (fun q_46 => ?_)
    · have h := h.1 q_46
      refine lv_iconst (v := 0) hx hb dX6_nextLoose_53 (by decide) ?_
      exact ((wB_X6_nextLoose_54 S  (fun M1 a0 v2 v3 h => (wB_X6_nextLoose_60 S  hK2 _ _ _ _ h)) _ _ _ _ _ h)) H locs ls hw (lv_sub hl [1, 2, 3] rfl)
    · have h := h.2 q_46
      refine lv_iconst (v := 1) hx hb dX6_nextLoose_49 (by decide) ?_
      refine lv_goto (tgt := 54) hx hb dX6_nextLoose_50 (by decide) ?_
      exact ((wB_X6_nextLoose_54 S  (fun M1 a0 v2 v3 h => (wB_X6_nextLoose_60 S  hK2 _ _ _ _ h)) _ _ _ _ _ h)) H locs ls hw (lv_sub hl [1, 2, 3] rfl)
set_option maxRecDepth 100000 in
set_option maxHeartbeats 4000000 in
theorem wB_X6_nextLoose_2 (S : Cx p m c meth cX6_nextLoose 5 s args RX6 (some .int)) {Q : Int32 → MM → Prop} {K2 : MM → Nat → Int32 → Int32 → Prop} (hK2 : ∀ (M : MM) (a0 : Nat) (v2 : Int32) (v3 : Int32), K2 M a0 v2 v3 → WG p l e rm_X6_nextLoose s m args below meth c 0 0 (MQi below E Z args s Q) E Z M 2 5 [(0, .ref a0), (2, .int v2), (3, .int v3)] []) (M : MM) (a0 : Nat) (v2 : Int32) (v3 : Int32) (h : B_X6_nextLoose_2 Z Q K2 M a0 v2 v3) : WG p l e rm_X6_nextLoose s m args below meth c 0 0 (MQi below E Z args s Q) E Z M 2 5 [(0, .ref a0), (2, .int v2), (3, .int v3)] [] := by
  intro H locs ls hw hl
  have hx := S.1.1
  have hb := S.1.2.1
  refine lv_iload_n hx hb dX6_nextLoose_2 rfl (lv_at hl 2 rfl) ?_
  refine lv_aload_n hx hb dX6_nextLoose_3 rfl (lv_at hl 0 rfl) ?_
  obtain ⟨k_0, h⟩ := h
  refine cv_i (As := []) (rest := [.int v3]) S.1 hw (k_X6_cells l E Z M a0  _ h) wv_X6_45 yc_X6_cells ⟨rfl, rfl⟩ ⟨Nat.le_of_ble_eq_true rfl, Nat.le_of_ble_eq_true rfl⟩ rfl hl.1 (Nat.le_of_ble_eq_true rfl) (ci := 6) (q := (RX6, TX6, 12)) rfl rfl (by rw [k_0]; decide) (cell_6 k_0) ⟨Nat.le_of_ble_eq_true rfl, Nat.le_of_ble_eq_true rfl⟩ dX6_nextLoose_4 (fun r4 M4 H locs h hw => ?_)
  refine lv_icmp_ge (tgt := 66) hx hb dX6_nextLoose_7 (by decide) (fun q_7 => ?_) (fun q_7 => ?_)
  · have h := h.1 q_7
    refine lv_iconst (v := (-1)) hx hb dX6_nextLoose_66 (by decide) ?_
    exact we_i S hw h dX6_nextLoose_67
  · have h := h.2 q_7
    refine lv_aload_n hx hb dX6_nextLoose_10 rfl (lv_at hl 0 rfl) ?_
    obtain ⟨y11_1, hy_1, h⟩ := h
    refine gf_X6_19 S.1 hw k_0 hy_1 dX6_nextLoose_11 ?_
    refine lv_iload_n hx hb dX6_nextLoose_14 rfl (lv_at hl 2 rfl) ?_
    obtain ⟨k_2, h⟩ := h
    obtain ⟨i_15, h⟩ := h
    refine wo_iald S.1 hw k_2 i_15 dX6_nextLoose_15 ?_
    refine lv_iload_n hx hb dX6_nextLoose_16 rfl (lv_at hl 2 rfl) ?_
    refine lv_icmp_ne (tgt := 32) hx hb dX6_nextLoose_17 (by decide) (fun q_17 => ?_) (fun q_17 => ?_)
    · have h := h.1 q_17
      exact ((wB_X6_nextLoose_32 S  (fun M1 a0 v2 v3 t0 h => (wB_X6_nextLoose_33 S  hK2 _ _ _ _ _ h)) _ _ _ _ h)) H locs ls hw (lv_sub hl [0, 1, 2] rfl)
    · have h := h.2 q_17
      refine lv_aload_n hx hb dX6_nextLoose_20 rfl (lv_at hl 0 rfl) ?_
      refine lv_iload_n hx hb dX6_nextLoose_21 rfl (lv_at hl 2 rfl) ?_
      refine cv_i (As := [.int v3]) (rest := []) S.1 hw (k_X6_isHeld l E Z M4 a0 v3 _ h) wv_X6_132 yc_X6_isHeld ⟨rfl, rfl⟩ ⟨Nat.le_of_ble_eq_true rfl, Nat.le_of_ble_eq_true rfl⟩ rfl hl.1 (Nat.le_of_ble_eq_true rfl) (ci := 6) (q := (RX6, TX6, 12)) rfl rfl (by rw [k_0]; decide) (cell_6 k_0) ⟨Nat.le_of_ble_eq_true rfl, Nat.le_of_ble_eq_true rfl⟩ dX6_nextLoose_22 (fun r22 M22 H locs h hw => ?_)
      refine lv_if_ne (tgt := 32) hx hb dX6_nextLoose_25 (by decide) (fun q_25 => ?_) (fun q_25 => ?_)
      · have h := h.1 q_25
        exact ((wB_X6_nextLoose_32 S  (fun M1 a0 v2 v3 t0 h => (wB_X6_nextLoose_33 S  hK2 _ _ _ _ _ h)) _ _ _ _ h)) H locs ls hw (lv_sub hl [0, 1, 2] rfl)
      · have h := h.2 q_25
        refine lv_iconst (v := 1) hx hb dX6_nextLoose_28 (by decide) ?_
        refine lv_goto (tgt := 33) hx hb dX6_nextLoose_29 (by decide) ?_
        exact ((wB_X6_nextLoose_33 S  hK2 _ _ _ _ _ h)) H locs ls hw (lv_sub hl [0, 1, 2] rfl)
theorem wL_X6_nextLoose_2 (S : Cx p m c meth cX6_nextLoose 5 s args RX6 (some .int)) {Q : Int32 → MM → Prop}   : ∀ (n : Nat) (M : MM) (a0 : Nat) (v2 : Int32) (v3 : Int32), L_X6_nextLoose_2 Z Q   n M a0 v2 v3 → WG p l e rm_X6_nextLoose s m args below meth c 0 0 (MQi below E Z args s Q) E Z M 2 5 [(0, .ref a0), (2, .int v2), (3, .int v3)] []
  | 0, _, _, _, _, h => False.elim h
  | n + 1, M, a0, v2, v3, h => wB_X6_nextLoose_2 S  (wL_X6_nextLoose_2 S   n) M a0 v2 v3 h
set_option maxRecDepth 100000 in
set_option maxHeartbeats 4000000 in
theorem wB_X6_nextLoose_0 (S : Cx p m c meth cX6_nextLoose 5 s args RX6 (some .int)) {Q : Int32 → MM → Prop}   (M : MM) (a0 : Nat) (v1 : Int32) (v2 : Int32) (h : B_X6_nextLoose_0 Z Q  M a0 v1 v2) : WG p l e rm_X6_nextLoose s m args below meth c 0 0 (MQi below E Z args s Q) E Z M 0 5 [(0, .ref a0), (1, .int v1), (2, .int v2)] [] := by
  intro H locs ls hw hl
  have hx := S.1.1
  have hb := S.1.2.1
  refine lv_iload_n hx hb dX6_nextLoose_0 rfl (lv_at hl 1 rfl) ?_
  refine lv_istore_n (lv' := [(3, .int v1), (0, .ref a0), (1, .int v1), (2, .int v2)]) hx hb dX6_nextLoose_1 rfl hl (by decide) rfl (fun ls hl => ?_)
  exact ((Exists.elim h (fun n h => wL_X6_nextLoose_2 S   n _ _ _ _ h))) H locs ls hw (lv_sub hl [1, 3, 0] rfl)
set_option maxRecDepth 100000 in
set_option maxHeartbeats 4000000 in
theorem k_X6_nextLoose (l : Launch) (E : EE) (Z : ZZ) (M : MM) (a0 : Nat) (v1 : Int32) (v2 : Int32) (Q : Int32 → MM → Prop) (h : P_X6_nextLoose Z M a0 v1 v2 Q) : Ct_i l yX6_nextLoose cX6_nextLoose 5 (some .int) rm_X6_nextLoose E Z M [.ref a0, .int v1, .int v2] Q := by
  refine Met.ofW (cc := cX6_nextLoose) (maxL := 5) (ret := some .int) (by decide) rfl ?_
  intro p e s m args below meth c s₁ B hml hv
  obtain ⟨rfl, hK, hP, hD, hZ⟩ := hv
  have S : Cx p m c meth cX6_nextLoose 5 s _ RX6 (some .int) := ⟨⟨B.exec, B.bytes, hml, findClass_of_methodNamed B.named, fun w hw => atoms_spec (ws := ws_ yX6_nextLoose cX6_nextLoose 5 (some .int)) B.pre w (List.mem_cons_of_mem _ hw)⟩, B.returns, B.notSynchronized⟩
  have hl := lv_entry ([.ref a0, .int v1, .int v2]) (n := 5) (Nat.le_of_ble_eq_true rfl)
  rw [lg_entry_eq]
  generalize (lg_sl ([.ref a0, .int v1, .int v2]) ++ List.replicate (5 - (lg_sl ([.ref a0, .int v1, .int v2])).length) Slot.unset).toArray = ls at hl ⊢
  exact (wB_X6_nextLoose_0 S  M a0 v1 v2 h) s.heap [] ls ⟨hK, hP, hD, va_S.rf, hZ⟩ hl
set_option maxRecDepth 100000 in
set_option maxHeartbeats 4000000 in
theorem wB_X6_takes_144 (S : Cx p m c meth cX6_takes 4 s args RX6 (none)) {Q : MM → Prop} {K105 : MM → Nat → Int32 → Int32 → Prop} (hK105 : ∀ (M : MM) (a0 : Nat) (v1 : Int32) (v3 : Int32), K105 M a0 v1 v3 → WG p l e rm_X6_takes s m args below meth c 0 0 (MQv below E Z args s Q) E Z M 105 4 [(0, .ref a0), (1, .int v1), (3, .int v3)] []) (M : MM) (a0 : Nat) (v1 : Int32) (v3 : Int32) (t0 : Int32) (t1 : Int32) (t2 : Nat) (h : B_X6_takes_144 Z Q K105 M a0 v1 v3 t0 t1 t2) : WG p l e rm_X6_takes s m args below meth c 0 0 (MQv below E Z args s Q) E Z M 144 4 [(0, .ref a0), (1, .int v1), (3, .int v3)] [.int t0, .int t1, .ref t2] := by
  intro H locs ls hw hl
  have hx := S.1.1
  have hb := S.1.2.1
  obtain ⟨k_0, h⟩ := h
  obtain ⟨i_144, h⟩ := h
  refine wo_iast S.1 hw k_0 i_144 dX6_takes_144 (fun H locs hw => ?_)
  refine lv_iinc (v := (v3 + 1)) (lv' := [(3, .int (v3 + 1)), (0, .ref a0), (1, .int v1)]) hx hb dX6_takes_145 hl (k := 2) rfl rfl (by decide) rfl (fun ls hl => ?_)
  refine lv_goto (tgt := 105) hx hb dX6_takes_148 (by decide) ?_
  exact (hK105 _ _ _ _ h) H locs ls hw (lv_sub hl [1, 2, 0] rfl)
set_option maxRecDepth 100000 in
set_option maxHeartbeats 4000000 in
theorem wB_X6_takes_105 (S : Cx p m c meth cX6_takes 4 s args RX6 (none)) {Q : MM → Prop} {K105 : MM → Nat → Int32 → Int32 → Prop} (hK105 : ∀ (M : MM) (a0 : Nat) (v1 : Int32) (v3 : Int32), K105 M a0 v1 v3 → WG p l e rm_X6_takes s m args below meth c 0 0 (MQv below E Z args s Q) E Z M 105 4 [(0, .ref a0), (1, .int v1), (3, .int v3)] []) (M : MM) (a0 : Nat) (v1 : Int32) (v3 : Int32) (h : B_X6_takes_105 Z Q K105 M a0 v1 v3) : WG p l e rm_X6_takes s m args below meth c 0 0 (MQv below E Z args s Q) E Z M 105 4 [(0, .ref a0), (1, .int v1), (3, .int v3)] [] := by
  intro H locs ls hw hl
  have hx := S.1.1
  have hb := S.1.2.1
  refine lv_iload_n hx hb dX6_takes_105 rfl (lv_at hl 2 rfl) ?_
  refine lv_aload_n hx hb dX6_takes_106 rfl (lv_at hl 0 rfl) ?_
  obtain ⟨k_0, h⟩ := h
  refine cv_i (As := []) (rest := [.int v3]) S.1 hw (k_X6_cells l E Z M a0  _ h) wv_X6_45 yc_X6_cells ⟨rfl, rfl⟩ ⟨Nat.le_of_ble_eq_true rfl, Nat.le_of_ble_eq_true rfl⟩ rfl hl.1 (Nat.le_of_ble_eq_true rfl) (ci := 6) (q := (RX6, TX6, 12)) rfl rfl (by rw [k_0]; decide) (cell_6 k_0) ⟨Nat.le_of_ble_eq_true rfl, Nat.le_of_ble_eq_true rfl⟩ dX6_takes_107 (fun r107 M107 H locs h hw => ?_)
  refine lv_icmp_ge (tgt := 151) hx hb dX6_takes_110 (by decide) (fun q_110 => ?_) (fun q_110 => ?_)
  · have h := h.1 q_110
    exact we_v S hw h dX6_takes_151
  · have h := h.2 q_110
    refine lv_aload_n hx hb dX6_takes_113 rfl (lv_at hl 0 rfl) ?_
    obtain ⟨y114_1, hy_1, h⟩ := h
    refine gf_X6_7 S.1 hw k_0 hy_1 dX6_takes_114 ?_
    refine lv_bipush (v := 8) hx hb dX6_takes_117 (by decide) ?_
    refine lv_iload_n hx hb dX6_takes_119 rfl (lv_at hl 2 rfl) ?_
    refine lv_iadd hx hb dX6_takes_120 ?_
    refine lv_aload_n hx hb dX6_takes_121 rfl (lv_at hl 0 rfl) ?_
    obtain ⟨y122_2, hy_2, h⟩ := h
    refine gf_X6_19 S.1 hw k_0 hy_2 dX6_takes_122 ?_
    refine lv_iload_n hx hb dX6_takes_125 rfl (lv_at hl 2 rfl) ?_
    obtain ⟨k_3, h⟩ := h
    obtain ⟨i_126, h⟩ := h
    refine wo_iald S.1 hw k_3 i_126 dX6_takes_126 ?_
    refine lv_iload_n hx hb dX6_takes_127 rfl (lv_at hl 1 rfl) ?_
    refine lv_icmp_ne (tgt := 135) hx hb dX6_takes_128 (by decide) (fun q_128 => ?_) (fun q_128 => ?_)
    · have h := h.1 q_128
      refine lv_aload_n hx hb dX6_takes_135 rfl (lv_at hl 0 rfl) ?_
      refine gf_X6_7 S.1 hw k_0 hy_1 dX6_takes_136 ?_
      refine lv_bipush (v := 8) hx hb dX6_takes_139 (by decide) ?_
      refine lv_iload_n hx hb dX6_takes_141 rfl (lv_at hl 2 rfl) ?_
      refine lv_iadd hx hb dX6_takes_142 ?_
      obtain ⟨k_4, h⟩ := h
      obtain ⟨i_143, h⟩ := h
      refine wo_iald S.1 hw k_4 i_143 dX6_takes_143 ?_
      exact ((wB_X6_takes_144 S  hK105 _ _ _ _ _ _ _ h)) H locs ls hw (lv_sub hl [0, 1, 2] rfl)
    · have h := h.2 q_128
      refine lv_iconst (v := 0) hx hb dX6_takes_131 (by decide) ?_
      refine lv_goto (tgt := 144) hx hb dX6_takes_132 (by decide) ?_
      exact ((wB_X6_takes_144 S  hK105 _ _ _ _ _ _ _ h)) H locs ls hw (lv_sub hl [0, 1, 2] rfl)
theorem wL_X6_takes_105 (S : Cx p m c meth cX6_takes 4 s args RX6 (none)) {Q : MM → Prop}   : ∀ (n : Nat) (M : MM) (a0 : Nat) (v1 : Int32) (v3 : Int32), L_X6_takes_105 Z Q   n M a0 v1 v3 → WG p l e rm_X6_takes s m args below meth c 0 0 (MQv below E Z args s Q) E Z M 105 4 [(0, .ref a0), (1, .int v1), (3, .int v3)] []
  | 0, _, _, _, _, h => False.elim h
  | n + 1, M, a0, v1, v3, h => wB_X6_takes_105 S  (wL_X6_takes_105 S   n) M a0 v1 v3 h
set_option maxRecDepth 100000 in
set_option maxHeartbeats 4000000 in
theorem wB_X6_takes_82 (S : Cx p m c meth cX6_takes 4 s args RX6 (none)) {Q : MM → Prop}   (M : MM) (a0 : Nat) (v1 : Int32) (v2 : Int32) (h : B_X6_takes_82 Z Q  M a0 v1 v2) : WG p l e rm_X6_takes s m args below meth c 0 0 (MQv below E Z args s Q) E Z M 82 4 [(0, .ref a0), (1, .int v1), (2, .int v2)] [] := by
  intro H locs ls hw hl
  have hx := S.1.1
  have hb := S.1.2.1
  refine lv_aload_n hx hb dX6_takes_82 rfl (lv_at hl 0 rfl) ?_
  obtain ⟨k_0, h⟩ := h
  obtain ⟨y83_1, hy_1, h⟩ := h
  refine gf_X6_7 S.1 hw k_0 hy_1 dX6_takes_83 ?_
  refine lv_bipush (v := 7) hx hb dX6_takes_86 (by decide) ?_
  refine lv_dup2_11 hx hb dX6_takes_88 rfl rfl ?_
  obtain ⟨k_2, h⟩ := h
  obtain ⟨i_89, h⟩ := h
  refine wo_iald S.1 hw k_2 i_89 dX6_takes_89 ?_
  refine lv_iconst (v := 1) hx hb dX6_takes_90 (by decide) ?_
  refine lv_iadd hx hb dX6_takes_91 ?_
  obtain ⟨i_92, h⟩ := h
  refine wo_iast S.1 hw k_2 i_92 dX6_takes_92 (fun H locs hw => ?_)
  refine lv_aload_n hx hb dX6_takes_93 rfl (lv_at hl 0 rfl) ?_
  refine gf_X6_7 S.1 hw k_0 hy_1 dX6_takes_94 ?_
  refine lv_iconst (v := 5) hx hb dX6_takes_97 (by decide) ?_
  refine lv_dup2_11 hx hb dX6_takes_98 rfl rfl ?_
  obtain ⟨i_99, h⟩ := h
  refine wo_iald S.1 hw k_2 i_99 dX6_takes_99 ?_
  refine lv_iload_n hx hb dX6_takes_100 rfl (lv_at hl 2 rfl) ?_
  refine lv_iadd hx hb dX6_takes_101 ?_
  obtain ⟨i_102, h⟩ := h
  refine wo_iast S.1 hw k_2 i_102 dX6_takes_102 (fun H locs hw => ?_)
  refine lv_iconst (v := 0) hx hb dX6_takes_103 (by decide) ?_
  refine lv_istore_n (lv' := [(3, .int 0), (0, .ref a0), (1, .int v1), (2, .int v2)]) hx hb dX6_takes_104 rfl hl (by decide) rfl (fun ls hl => ?_)
  exact ((Exists.elim h (fun n h => wL_X6_takes_105 S   n _ _ _ _ h))) H locs ls hw (lv_sub hl [1, 2, 0] rfl)
set_option maxRecDepth 100000 in
set_option maxHeartbeats 4000000 in
theorem wB_X6_takes_0 (S : Cx p m c meth cX6_takes 4 s args RX6 (none)) {Q : MM → Prop}   (M : MM) (a0 : Nat) (v1 : Int32) (h : B_X6_takes_0 Z Q  M a0 v1) : WG p l e rm_X6_takes s m args below meth c 0 0 (MQv below E Z args s Q) E Z M 0 4 [(0, .ref a0), (1, .int v1)] [] := by
  intro H locs ls hw hl
  have hx := S.1.1
  have hb := S.1.2.1
  refine lv_aload_n hx hb dX6_takes_0 rfl (lv_at hl 0 rfl) ?_
  refine lv_iload_n hx hb dX6_takes_1 rfl (lv_at hl 1 rfl) ?_
  refine lv_iconst (v := 1) hx hb dX6_takes_2 (by decide) ?_
  obtain ⟨k_0, h⟩ := h
  refine cv_i (As := [.int v1, .int 1]) (rest := []) S.1 hw (k_X6_sizeOf l E Z M a0 v1 1 _ h) wv_X6_142 yc_X6_sizeOf ⟨rfl, rfl⟩ ⟨Nat.le_of_ble_eq_true rfl, Nat.le_of_ble_eq_true rfl⟩ rfl hl.1 (Nat.le_of_ble_eq_true rfl) (ci := 6) (q := (RX6, TX6, 12)) rfl rfl (by rw [k_0]; decide) (cell_6 k_0) ⟨Nat.le_of_ble_eq_true rfl, Nat.le_of_ble_eq_true rfl⟩ dX6_takes_3 (fun r3 M3 H locs h hw => ?_)
  refine lv_istore_n (lv' := [(2, .int r3), (0, .ref a0), (1, .int v1)]) hx hb dX6_takes_6 rfl hl (by decide) rfl (fun ls hl => ?_)
  refine lv_aload_n hx hb dX6_takes_7 rfl (lv_at hl 1 rfl) ?_
  obtain ⟨y8_1, hy_1, h⟩ := h
  refine gf_X6_7 S.1 hw k_0 hy_1 dX6_takes_8 ?_
  refine lv_bipush (v := 7) hx hb dX6_takes_11 (by decide) ?_
  obtain ⟨k_2, h⟩ := h
  obtain ⟨i_13, h⟩ := h
  refine wo_iald S.1 hw k_2 i_13 dX6_takes_13 ?_
  refine lv_bipush (v := 40) hx hb dX6_takes_14 (by decide) ?_
  refine lv_icmp_ge (tgt := 82) hx hb dX6_takes_16 (by decide) (fun q_16 => ?_) (fun q_16 => ?_)
  · have h := h.1 q_16
    exact ((wB_X6_takes_82 S   _ _ _ _ h)) H locs ls hw (lv_sub hl [1, 2, 0] rfl)
  · have h := h.2 q_16
    refine lv_aload_n hx hb dX6_takes_19 rfl (lv_at hl 1 rfl) ?_
    refine gf_X6_7 S.1 hw k_0 hy_1 dX6_takes_20 ?_
    refine lv_bipush (v := 106) hx hb dX6_takes_23 (by decide) ?_
    refine lv_iconst (v := 3) hx hb dX6_takes_25 (by decide) ?_
    refine lv_aload_n hx hb dX6_takes_26 rfl (lv_at hl 1 rfl) ?_
    refine gf_X6_7 S.1 hw k_0 hy_1 dX6_takes_27 ?_
    refine lv_bipush (v := 7) hx hb dX6_takes_30 (by decide) ?_
    obtain ⟨i_32, h⟩ := h
    refine wo_iald S.1 hw k_2 i_32 dX6_takes_32 ?_
    refine lv_imul hx hb dX6_takes_33 ?_
    refine lv_iadd hx hb dX6_takes_34 ?_
    refine lv_iload_n hx hb dX6_takes_35 rfl (lv_at hl 2 rfl) ?_
    obtain ⟨i_36, h⟩ := h
    refine wo_iast S.1 hw k_2 i_36 dX6_takes_36 (fun H locs hw => ?_)
    refine lv_aload_n hx hb dX6_takes_37 rfl (lv_at hl 1 rfl) ?_
    refine gf_X6_7 S.1 hw k_0 hy_1 dX6_takes_38 ?_
    refine lv_bipush (v := 106) hx hb dX6_takes_41 (by decide) ?_
    refine lv_iconst (v := 3) hx hb dX6_takes_43 (by decide) ?_
    refine lv_aload_n hx hb dX6_takes_44 rfl (lv_at hl 1 rfl) ?_
    refine gf_X6_7 S.1 hw k_0 hy_1 dX6_takes_45 ?_
    refine lv_bipush (v := 7) hx hb dX6_takes_48 (by decide) ?_
    obtain ⟨i_50, h⟩ := h
    refine wo_iald S.1 hw k_2 i_50 dX6_takes_50 ?_
    refine lv_imul hx hb dX6_takes_51 ?_
    refine lv_iadd hx hb dX6_takes_52 ?_
    refine lv_iconst (v := 1) hx hb dX6_takes_53 (by decide) ?_
    refine lv_iadd hx hb dX6_takes_54 ?_
    refine lv_iload_n hx hb dX6_takes_55 rfl (lv_at hl 0 rfl) ?_
    obtain ⟨i_56, h⟩ := h
    refine wo_iast S.1 hw k_2 i_56 dX6_takes_56 (fun H locs hw => ?_)
    refine lv_aload_n hx hb dX6_takes_57 rfl (lv_at hl 1 rfl) ?_
    refine gf_X6_7 S.1 hw k_0 hy_1 dX6_takes_58 ?_
    refine lv_bipush (v := 106) hx hb dX6_takes_61 (by decide) ?_
    refine lv_iconst (v := 3) hx hb dX6_takes_63 (by decide) ?_
    refine lv_aload_n hx hb dX6_takes_64 rfl (lv_at hl 1 rfl) ?_
    refine gf_X6_7 S.1 hw k_0 hy_1 dX6_takes_65 ?_
    refine lv_bipush (v := 7) hx hb dX6_takes_68 (by decide) ?_
    obtain ⟨i_70, h⟩ := h
    refine wo_iald S.1 hw k_2 i_70 dX6_takes_70 ?_
    refine lv_imul hx hb dX6_takes_71 ?_
    refine lv_iadd hx hb dX6_takes_72 ?_
    refine lv_iconst (v := 2) hx hb dX6_takes_73 (by decide) ?_
    refine lv_iadd hx hb dX6_takes_74 ?_
    refine lv_aload_n hx hb dX6_takes_75 rfl (lv_at hl 1 rfl) ?_
    refine gf_X6_7 S.1 hw k_0 hy_1 dX6_takes_76 ?_
    refine lv_iconst (v := 3) hx hb dX6_takes_79 (by decide) ?_
    obtain ⟨i_80, h⟩ := h
    refine wo_iald S.1 hw k_2 i_80 dX6_takes_80 ?_
    obtain ⟨i_81, h⟩ := h
    refine wo_iast S.1 hw k_2 i_81 dX6_takes_81 (fun H locs hw => ?_)
    exact ((wB_X6_takes_82 S   _ _ _ _ h)) H locs ls hw (lv_sub hl [1, 2, 0] rfl)
set_option maxRecDepth 100000 in
set_option maxHeartbeats 4000000 in
theorem k_X6_takes (l : Launch) (E : EE) (Z : ZZ) (M : MM) (a0 : Nat) (v1 : Int32) (Q : MM → Prop) (h : P_X6_takes Z M a0 v1 Q) : Ct_v l yX6_takes cX6_takes 4 (none) rm_X6_takes E Z M [.ref a0, .int v1] Q := by
  refine Met.ofW (cc := cX6_takes) (maxL := 4) (ret := none) (by decide) rfl ?_
  intro p e s m args below meth c s₁ B hml hv
  obtain ⟨rfl, hK, hP, hD, hZ⟩ := hv
  have S : Cx p m c meth cX6_takes 4 s _ RX6 (none) := ⟨⟨B.exec, B.bytes, hml, findClass_of_methodNamed B.named, fun w hw => atoms_spec (ws := ws_ yX6_takes cX6_takes 4 (none)) B.pre w (List.mem_cons_of_mem _ hw)⟩, B.returns, B.notSynchronized⟩
  have hl := lv_entry ([.ref a0, .int v1]) (n := 4) (Nat.le_of_ble_eq_true rfl)
  rw [lg_entry_eq]
  generalize (lg_sl ([.ref a0, .int v1]) ++ List.replicate (4 - (lg_sl ([.ref a0, .int v1])).length) Slot.unset).toArray = ls at hl ⊢
  exact (wB_X6_takes_0 S  M a0 v1 h) s.heap [] ls ⟨hK, hP, hD, va_S.rf, hZ⟩ hl
set_option maxRecDepth 100000 in
set_option maxHeartbeats 4000000 in
theorem wB_X6_takeOut_39 (S : Cx p m c meth cX6_takeOut 4 s args RX6 (some .int)) {Q : Int32 → MM → Prop}   (M : MM) (a0 : Nat) (h : B_X6_takeOut_39 Z Q  M a0) : WG p l e rm_X6_takeOut s m args below meth c 0 0 (MQi below E Z args s Q) E Z M 39 4 [(0, .ref a0)] [] := by
  intro H locs ls hw hl
  have hx := S.1.1
  have hb := S.1.2.1
  refine lv_aload_n hx hb dX6_takeOut_39 rfl (lv_at hl 0 rfl) ?_
  refine lv_iconst (v := 2) hx hb dX6_takeOut_40 (by decide) ?_
  obtain ⟨k_0, h⟩ := h
  refine cv_i (As := [.int 2]) (rest := []) S.1 hw (k_X6_throwing l E Z M a0 2 _ h) wv_X6_59 yc_X6_throwing ⟨rfl, rfl⟩ ⟨Nat.le_of_ble_eq_true rfl, Nat.le_of_ble_eq_true rfl⟩ rfl hl.1 (Nat.le_of_ble_eq_true rfl) (ci := 6) (q := (RX6, TX6, 12)) rfl rfl (by rw [k_0]; decide) (cell_6 k_0) ⟨Nat.le_of_ble_eq_true rfl, Nat.le_of_ble_eq_true rfl⟩ dX6_takeOut_41 (fun r41 M41 H locs h hw => ?_)
  exact we_i S hw h dX6_takeOut_44
set_option maxRecDepth 100000 in
set_option maxHeartbeats 4000000 in
theorem wB_X6_takeOut_0 (S : Cx p m c meth cX6_takeOut 4 s args RX6 (some .int)) {Q : Int32 → MM → Prop}   (M : MM) (a0 : Nat) (v1 : Int32) (h : B_X6_takeOut_0 Z Q  M a0 v1) : WG p l e rm_X6_takeOut s m args below meth c 0 0 (MQi below E Z args s Q) E Z M 0 4 [(0, .ref a0), (1, .int v1)] [] := by
  intro H locs ls hw hl
  have hx := S.1.1
  have hb := S.1.2.1
  refine lv_aload_n hx hb dX6_takeOut_0 rfl (lv_at hl 0 rfl) ?_
  refine lv_iload_n hx hb dX6_takeOut_1 rfl (lv_at hl 1 rfl) ?_
  obtain ⟨k_0, h⟩ := h
  refine cv_i (As := [.int v1]) (rest := []) S.1 hw (k_X6_isCell l E Z M a0 v1 _ h) wv_X6_69 yc_X6_isCell ⟨rfl, rfl⟩ ⟨Nat.le_of_ble_eq_true rfl, Nat.le_of_ble_eq_true rfl⟩ rfl hl.1 (Nat.le_of_ble_eq_true rfl) (ci := 6) (q := (RX6, TX6, 12)) rfl rfl (by rw [k_0]; decide) (cell_6 k_0) ⟨Nat.le_of_ble_eq_true rfl, Nat.le_of_ble_eq_true rfl⟩ dX6_takeOut_2 (fun r2 M2 H locs h hw => ?_)
  refine lv_if_ne (tgt := 14) hx hb dX6_takeOut_5 (by decide) (fun q_5 => ?_) (fun q_5 => ?_)
  · have h := h.1 q_5
    refine lv_aload_n hx hb dX6_takeOut_14 rfl (lv_at hl 0 rfl) ?_
    refine cv_v (As := []) (rest := []) S.1 hw (k_X6_findsBlocks l E Z M2 a0  _ h) wv_X6_146 yc_X6_findsBlocks ⟨rfl, rfl⟩ ⟨Nat.le_of_ble_eq_true rfl, Nat.le_of_ble_eq_true rfl⟩ rfl hl.1 (Nat.le_of_ble_eq_true rfl) (ci := 6) (q := (RX6, TX6, 12)) rfl rfl (by rw [k_0]; decide) (cell_6 k_0) ⟨Nat.le_of_ble_eq_true rfl, Nat.le_of_ble_eq_true rfl⟩ dX6_takeOut_15 (fun M15 H locs h hw => ?_)
    refine lv_aload_n hx hb dX6_takeOut_18 rfl (lv_at hl 0 rfl) ?_
    obtain ⟨y19_1, hy_1, h⟩ := h
    refine gf_X6_19 S.1 hw k_0 hy_1 dX6_takeOut_19 ?_
    refine lv_iload_n hx hb dX6_takeOut_22 rfl (lv_at hl 1 rfl) ?_
    obtain ⟨k_2, h⟩ := h
    obtain ⟨i_23, h⟩ := h
    refine wo_iald S.1 hw k_2 i_23 dX6_takeOut_23 ?_
    refine lv_istore_n (lv' := [(2, .int (mA M15 y19_1 v1.toNatClampNeg)), (0, .ref a0), (1, .int v1)]) hx hb dX6_takeOut_24 rfl hl (by decide) rfl (fun ls hl => ?_)
    refine lv_iload_n hx hb dX6_takeOut_25 rfl (lv_at hl 0 rfl) ?_
    refine lv_iconst (v := (-1)) hx hb dX6_takeOut_26 (by decide) ?_
    refine lv_icmp_eq (tgt := 39) hx hb dX6_takeOut_27 (by decide) (fun q_27 => ?_) (fun q_27 => ?_)
    · have h := h.1 q_27
      exact ((wB_X6_takeOut_39 S   _ _ h)) H locs ls hw (lv_sub hl [1] rfl)
    · have h := h.2 q_27
      refine lv_aload_n hx hb dX6_takeOut_30 rfl (lv_at hl 1 rfl) ?_
      refine lv_iload_n hx hb dX6_takeOut_31 rfl (lv_at hl 0 rfl) ?_
      refine cv_i (As := [.int (mA M15 y19_1 v1.toNatClampNeg)]) (rest := []) S.1 hw (k_X6_way l E Z M15 a0 (mA M15 y19_1 v1.toNatClampNeg) _ h) wv_X6_139 yc_X6_way ⟨rfl, rfl⟩ ⟨Nat.le_of_ble_eq_true rfl, Nat.le_of_ble_eq_true rfl⟩ rfl hl.1 (Nat.le_of_ble_eq_true rfl) (ci := 6) (q := (RX6, TX6, 12)) rfl rfl (by rw [k_0]; decide) (cell_6 k_0) ⟨Nat.le_of_ble_eq_true rfl, Nat.le_of_ble_eq_true rfl⟩ dX6_takeOut_32 (fun r32 M32 H locs h hw => ?_)
      refine lv_iconst (v := (-1)) hx hb dX6_takeOut_35 (by decide) ?_
      refine lv_icmp_ne (tgt := 45) hx hb dX6_takeOut_36 (by decide) (fun q_36 => ?_) (fun q_36 => ?_)
      · have h := h.1 q_36
        refine lv_aload_n hx hb dX6_takeOut_45 rfl (lv_at hl 1 rfl) ?_
        refine cv_v (As := []) (rest := []) S.1 hw (k_X6_save l E Z M32 a0  _ h) wv_X6_63 yc_X6_save ⟨rfl, rfl⟩ ⟨Nat.le_of_ble_eq_true rfl, Nat.le_of_ble_eq_true rfl⟩ rfl hl.1 (Nat.le_of_ble_eq_true rfl) (ci := 6) (q := (RX6, TX6, 12)) rfl rfl (by rw [k_0]; decide) (cell_6 k_0) ⟨Nat.le_of_ble_eq_true rfl, Nat.le_of_ble_eq_true rfl⟩ dX6_takeOut_46 (fun M46 H locs h hw => ?_)
        refine lv_aload_n hx hb dX6_takeOut_49 rfl (lv_at hl 1 rfl) ?_
        refine lv_iload_n hx hb dX6_takeOut_50 rfl (lv_at hl 0 rfl) ?_
        refine lv_iconst (v := 1) hx hb dX6_takeOut_51 (by decide) ?_
        refine cv_i (As := [.int (mA M15 y19_1 v1.toNatClampNeg), .int 1]) (rest := []) S.1 hw (k_X6_sizeOf l E Z M46 a0 (mA M15 y19_1 v1.toNatClampNeg) 1 _ h) wv_X6_142 yc_X6_sizeOf ⟨rfl, rfl⟩ ⟨Nat.le_of_ble_eq_true rfl, Nat.le_of_ble_eq_true rfl⟩ rfl hl.1 (Nat.le_of_ble_eq_true rfl) (ci := 6) (q := (RX6, TX6, 12)) rfl rfl (by rw [k_0]; decide) (cell_6 k_0) ⟨Nat.le_of_ble_eq_true rfl, Nat.le_of_ble_eq_true rfl⟩ dX6_takeOut_52 (fun r52 M52 H locs h hw => ?_)
        refine lv_istore_n (lv' := [(3, .int r52), (2, .int (mA M15 y19_1 v1.toNatClampNeg)), (0, .ref a0), (1, .int v1)]) hx hb dX6_takeOut_55 rfl hl (by decide) rfl (fun ls hl => ?_)
        refine lv_aload_n hx hb dX6_takeOut_56 rfl (lv_at hl 2 rfl) ?_
        refine lv_iload_n hx hb dX6_takeOut_57 rfl (lv_at hl 1 rfl) ?_
        refine cv_v (As := [.int (mA M15 y19_1 v1.toNatClampNeg)]) (rest := []) S.1 hw (k_X6_takes l E Z M52 a0 (mA M15 y19_1 v1.toNatClampNeg) _ h) wv_X6_149 yc_X6_takes ⟨rfl, rfl⟩ ⟨Nat.le_of_ble_eq_true rfl, Nat.le_of_ble_eq_true rfl⟩ rfl hl.1 (Nat.le_of_ble_eq_true rfl) (ci := 6) (q := (RX6, TX6, 12)) rfl rfl (by rw [k_0]; decide) (cell_6 k_0) ⟨Nat.le_of_ble_eq_true rfl, Nat.le_of_ble_eq_true rfl⟩ dX6_takeOut_58 (fun M58 H locs h hw => ?_)
        refine lv_aload_n hx hb dX6_takeOut_61 rfl (lv_at hl 2 rfl) ?_
        refine lv_iload_n hx hb dX6_takeOut_62 rfl (lv_at hl 0 rfl) ?_
        refine cv_i (As := [.int r52]) (rest := []) S.1 hw (k_X6_fine l E Z M58 a0 r52 _ h) wv_X6_66 yc_X6_fine ⟨rfl, rfl⟩ ⟨Nat.le_of_ble_eq_true rfl, Nat.le_of_ble_eq_true rfl⟩ rfl hl.1 (Nat.le_of_ble_eq_true rfl) (ci := 6) (q := (RX6, TX6, 12)) rfl rfl (by rw [k_0]; decide) (cell_6 k_0) ⟨Nat.le_of_ble_eq_true rfl, Nat.le_of_ble_eq_true rfl⟩ dX6_takeOut_63 (fun r63 M63 H locs h hw => ?_)
        exact we_i S hw h dX6_takeOut_66
      · have h := h.2 q_36
        exact ((wB_X6_takeOut_39 S   _ _ h)) H locs ls hw (lv_sub hl [1] rfl)
  · have h := h.2 q_5
    refine lv_aload_n hx hb dX6_takeOut_8 rfl (lv_at hl 0 rfl) ?_
    refine lv_iconst (v := 1) hx hb dX6_takeOut_9 (by decide) ?_
    refine cv_i (As := [.int 1]) (rest := []) S.1 hw (k_X6_throwing l E Z M2 a0 1 _ h) wv_X6_59 yc_X6_throwing ⟨rfl, rfl⟩ ⟨Nat.le_of_ble_eq_true rfl, Nat.le_of_ble_eq_true rfl⟩ rfl hl.1 (Nat.le_of_ble_eq_true rfl) (ci := 6) (q := (RX6, TX6, 12)) rfl rfl (by rw [k_0]; decide) (cell_6 k_0) ⟨Nat.le_of_ble_eq_true rfl, Nat.le_of_ble_eq_true rfl⟩ dX6_takeOut_10 (fun r10 M10 H locs h hw => ?_)
    exact we_i S hw h dX6_takeOut_13
set_option maxRecDepth 100000 in
set_option maxHeartbeats 4000000 in
theorem k_X6_takeOut (l : Launch) (E : EE) (Z : ZZ) (M : MM) (a0 : Nat) (v1 : Int32) (Q : Int32 → MM → Prop) (h : P_X6_takeOut Z M a0 v1 Q) : Ct_i l yX6_takeOut cX6_takeOut 4 (some .int) rm_X6_takeOut E Z M [.ref a0, .int v1] Q := by
  refine Met.ofW (cc := cX6_takeOut) (maxL := 4) (ret := some .int) (by decide) rfl ?_
  intro p e s m args below meth c s₁ B hml hv
  obtain ⟨rfl, hK, hP, hD, hZ⟩ := hv
  have S : Cx p m c meth cX6_takeOut 4 s _ RX6 (some .int) := ⟨⟨B.exec, B.bytes, hml, findClass_of_methodNamed B.named, fun w hw => atoms_spec (ws := ws_ yX6_takeOut cX6_takeOut 4 (some .int)) B.pre w (List.mem_cons_of_mem _ hw)⟩, B.returns, B.notSynchronized⟩
  have hl := lv_entry ([.ref a0, .int v1]) (n := 4) (Nat.le_of_ble_eq_true rfl)
  rw [lg_entry_eq]
  generalize (lg_sl ([.ref a0, .int v1]) ++ List.replicate (4 - (lg_sl ([.ref a0, .int v1])).length) Slot.unset).toArray = ls at hl ⊢
  exact (wB_X6_takeOut_0 S  M a0 v1 h) s.heap [] ls ⟨hK, hP, hD, va_S.rf, hZ⟩ hl
set_option maxRecDepth 100000 in
set_option maxHeartbeats 4000000 in
theorem wB_X6_takesAll_4 (S : Cx p m c meth cX6_takesAll 3 s args RX6 (some .int)) {Q : Int32 → MM → Prop} {K4 : MM → Nat → Int32 → Int32 → Prop} (hK4 : ∀ (M : MM) (a0 : Nat) (v1 : Int32) (v2 : Int32), K4 M a0 v1 v2 → WG p l e rm_X6_takesAll s m args below meth c 0 0 (MQi below E Z args s Q) E Z M 4 3 [(0, .ref a0), (1, .int v1), (2, .int v2)] []) (M : MM) (a0 : Nat) (v1 : Int32) (v2 : Int32) (h : B_X6_takesAll_4 Z Q K4 M a0 v1 v2) : WG p l e rm_X6_takesAll s m args below meth c 0 0 (MQi below E Z args s Q) E Z M 4 3 [(0, .ref a0), (1, .int v1), (2, .int v2)] [] := by
  intro H locs ls hw hl
  have hx := S.1.1
  have hb := S.1.2.1
  refine lv_iload_n hx hb dX6_takesAll_4 rfl (lv_at hl 2 rfl) ?_
  refine lv_iconst (v := (-1)) hx hb dX6_takesAll_5 (by decide) ?_
  refine lv_icmp_eq (tgt := 36) hx hb dX6_takesAll_6 (by decide) (fun q_6 => ?_) (fun q_6 => ?_)
  · have h := h.1 q_6
    refine lv_iload_n hx hb dX6_takesAll_36 rfl (lv_at hl 1 rfl) ?_
    exact we_i S hw h dX6_takesAll_37
  · have h := h.2 q_6
    refine lv_aload_n hx hb dX6_takesAll_9 rfl (lv_at hl 0 rfl) ?_
    obtain ⟨k_0, h⟩ := h
    refine cv_v (As := []) (rest := []) S.1 hw (k_X6_findsBlocks l E Z M a0  _ h) wv_X6_146 yc_X6_findsBlocks ⟨rfl, rfl⟩ ⟨Nat.le_of_ble_eq_true rfl, Nat.le_of_ble_eq_true rfl⟩ rfl hl.1 (Nat.le_of_ble_eq_true rfl) (ci := 6) (q := (RX6, TX6, 12)) rfl rfl (by rw [k_0]; decide) (cell_6 k_0) ⟨Nat.le_of_ble_eq_true rfl, Nat.le_of_ble_eq_true rfl⟩ dX6_takesAll_10 (fun M10 H locs h hw => ?_)
    refine lv_aload_n hx hb dX6_takesAll_13 rfl (lv_at hl 0 rfl) ?_
    refine lv_iconst (v := 0) hx hb dX6_takesAll_14 (by decide) ?_
    refine lv_iconst (v := 1) hx hb dX6_takesAll_15 (by decide) ?_
    refine cv_i (As := [.int 0, .int 1]) (rest := []) S.1 hw (k_X6_nextLoose l E Z M10 a0 0 1 _ h) wv_X6_152 yc_X6_nextLoose ⟨rfl, rfl⟩ ⟨Nat.le_of_ble_eq_true rfl, Nat.le_of_ble_eq_true rfl⟩ rfl hl.1 (Nat.le_of_ble_eq_true rfl) (ci := 6) (q := (RX6, TX6, 12)) rfl rfl (by rw [k_0]; decide) (cell_6 k_0) ⟨Nat.le_of_ble_eq_true rfl, Nat.le_of_ble_eq_true rfl⟩ dX6_takesAll_16 (fun r16 M16 H locs h hw => ?_)
    refine lv_istore_n (lv' := [(2, .int r16), (0, .ref a0), (1, .int v1)]) hx hb dX6_takesAll_19 rfl hl (by decide) rfl (fun ls hl => ?_)
    refine lv_iload_n hx hb dX6_takesAll_20 rfl (lv_at hl 0 rfl) ?_
    refine lv_iconst (v := (-1)) hx hb dX6_takesAll_21 (by decide) ?_
    refine lv_icmp_eq (tgt := 4) hx hb dX6_takesAll_22 (by decide) (fun q_22 => ?_) (fun q_22 => ?_)
    · have h := h.1 q_22
      exact (hK4 _ _ _ _ h) H locs ls hw (lv_sub hl [1, 2, 0] rfl)
    · have h := h.2 q_22
      refine lv_aload_n hx hb dX6_takesAll_25 rfl (lv_at hl 1 rfl) ?_
      refine lv_iload_n hx hb dX6_takesAll_26 rfl (lv_at hl 0 rfl) ?_
      refine cv_v (As := [.int r16]) (rest := []) S.1 hw (k_X6_takes l E Z M16 a0 r16 _ h) wv_X6_149 yc_X6_takes ⟨rfl, rfl⟩ ⟨Nat.le_of_ble_eq_true rfl, Nat.le_of_ble_eq_true rfl⟩ rfl hl.1 (Nat.le_of_ble_eq_true rfl) (ci := 6) (q := (RX6, TX6, 12)) rfl rfl (by rw [k_0]; decide) (cell_6 k_0) ⟨Nat.le_of_ble_eq_true rfl, Nat.le_of_ble_eq_true rfl⟩ dX6_takesAll_27 (fun M27 H locs h hw => ?_)
      refine lv_iinc (v := (v1 + 1)) (lv' := [(1, .int (v1 + 1)), (2, .int r16), (0, .ref a0)]) hx hb dX6_takesAll_30 hl (k := 2) rfl rfl (by decide) rfl (fun ls hl => ?_)
      refine lv_goto (tgt := 4) hx hb dX6_takesAll_33 (by decide) ?_
      exact (hK4 _ _ _ _ h) H locs ls hw (lv_sub hl [2, 0, 1] rfl)
theorem wL_X6_takesAll_4 (S : Cx p m c meth cX6_takesAll 3 s args RX6 (some .int)) {Q : Int32 → MM → Prop}   : ∀ (n : Nat) (M : MM) (a0 : Nat) (v1 : Int32) (v2 : Int32), L_X6_takesAll_4 Z Q   n M a0 v1 v2 → WG p l e rm_X6_takesAll s m args below meth c 0 0 (MQi below E Z args s Q) E Z M 4 3 [(0, .ref a0), (1, .int v1), (2, .int v2)] []
  | 0, _, _, _, _, h => False.elim h
  | n + 1, M, a0, v1, v2, h => wB_X6_takesAll_4 S  (wL_X6_takesAll_4 S   n) M a0 v1 v2 h
set_option maxRecDepth 100000 in
set_option maxHeartbeats 4000000 in
theorem wB_X6_takesAll_0 (S : Cx p m c meth cX6_takesAll 3 s args RX6 (some .int)) {Q : Int32 → MM → Prop}   (M : MM) (a0 : Nat) (h : B_X6_takesAll_0 Z Q  M a0) : WG p l e rm_X6_takesAll s m args below meth c 0 0 (MQi below E Z args s Q) E Z M 0 3 [(0, .ref a0)] [] := by
  intro H locs ls hw hl
  have hx := S.1.1
  have hb := S.1.2.1
  refine lv_iconst (v := 0) hx hb dX6_takesAll_0 (by decide) ?_
  refine lv_istore_n (lv' := [(1, .int 0), (0, .ref a0)]) hx hb dX6_takesAll_1 rfl hl (by decide) rfl (fun ls hl => ?_)
  refine lv_iconst (v := 0) hx hb dX6_takesAll_2 (by decide) ?_
  refine lv_istore_n (lv' := [(2, .int 0), (1, .int 0), (0, .ref a0)]) hx hb dX6_takesAll_3 rfl hl (by decide) rfl (fun ls hl => ?_)
  exact ((Exists.elim h (fun n h => wL_X6_takesAll_4 S   n _ _ _ _ h))) H locs ls hw (lv_sub hl [2, 1, 0] rfl)
set_option maxRecDepth 100000 in
set_option maxHeartbeats 4000000 in
theorem k_X6_takesAll (l : Launch) (E : EE) (Z : ZZ) (M : MM) (a0 : Nat) (Q : Int32 → MM → Prop) (h : P_X6_takesAll Z M a0 Q) : Ct_i l yX6_takesAll cX6_takesAll 3 (some .int) rm_X6_takesAll E Z M [.ref a0] Q := by
  refine Met.ofW (cc := cX6_takesAll) (maxL := 3) (ret := some .int) (by decide) rfl ?_
  intro p e s m args below meth c s₁ B hml hv
  obtain ⟨rfl, hK, hP, hD, hZ⟩ := hv
  have S : Cx p m c meth cX6_takesAll 3 s _ RX6 (some .int) := ⟨⟨B.exec, B.bytes, hml, findClass_of_methodNamed B.named, fun w hw => atoms_spec (ws := ws_ yX6_takesAll cX6_takesAll 3 (some .int)) B.pre w (List.mem_cons_of_mem _ hw)⟩, B.returns, B.notSynchronized⟩
  have hl := lv_entry ([.ref a0]) (n := 3) (Nat.le_of_ble_eq_true rfl)
  rw [lg_entry_eq]
  generalize (lg_sl ([.ref a0]) ++ List.replicate (3 - (lg_sl ([.ref a0])).length) Slot.unset).toArray = ls at hl ⊢
  exact (wB_X6_takesAll_0 S  M a0 h) s.heap [] ls ⟨hK, hP, hD, va_S.rf, hZ⟩ hl
set_option maxRecDepth 100000 in
set_option maxHeartbeats 4000000 in
theorem wB_X6_takeAll_0 (S : Cx p m c meth cX6_takeAll 1 s args RX6 (some .int)) {Q : Int32 → MM → Prop}   (M : MM) (a0 : Nat) (h : B_X6_takeAll_0 Z Q  M a0) : WG p l e rm_X6_takeAll s m args below meth c 0 0 (MQi below E Z args s Q) E Z M 0 1 [(0, .ref a0)] [] := by
  intro H locs ls hw hl
  have hx := S.1.1
  have hb := S.1.2.1
  refine lv_aload_n hx hb dX6_takeAll_0 rfl (lv_at hl 0 rfl) ?_
  obtain ⟨k_0, h⟩ := h
  refine cv_v (As := []) (rest := []) S.1 hw (k_X6_save l E Z M a0  _ h) wv_X6_63 yc_X6_save ⟨rfl, rfl⟩ ⟨Nat.le_of_ble_eq_true rfl, Nat.le_of_ble_eq_true rfl⟩ rfl hl.1 (Nat.le_of_ble_eq_true rfl) (ci := 6) (q := (RX6, TX6, 12)) rfl rfl (by rw [k_0]; decide) (cell_6 k_0) ⟨Nat.le_of_ble_eq_true rfl, Nat.le_of_ble_eq_true rfl⟩ dX6_takeAll_1 (fun M1 H locs h hw => ?_)
  refine lv_aload_n hx hb dX6_takeAll_4 rfl (lv_at hl 0 rfl) ?_
  refine lv_aload_n hx hb dX6_takeAll_5 rfl (lv_at hl 0 rfl) ?_
  refine cv_i (As := []) (rest := [.ref a0]) S.1 hw (k_X6_takesAll l E Z M1 a0  _ h) wv_X6_155 yc_X6_takesAll ⟨rfl, rfl⟩ ⟨Nat.le_of_ble_eq_true rfl, Nat.le_of_ble_eq_true rfl⟩ rfl hl.1 (Nat.le_of_ble_eq_true rfl) (ci := 6) (q := (RX6, TX6, 12)) rfl rfl (by rw [k_0]; decide) (cell_6 k_0) ⟨Nat.le_of_ble_eq_true rfl, Nat.le_of_ble_eq_true rfl⟩ dX6_takeAll_6 (fun r6 M6 H locs h hw => ?_)
  refine cv_i (As := [.int r6]) (rest := []) S.1 hw (k_X6_fine l E Z M6 a0 r6 _ h) wv_X6_66 yc_X6_fine ⟨rfl, rfl⟩ ⟨Nat.le_of_ble_eq_true rfl, Nat.le_of_ble_eq_true rfl⟩ rfl hl.1 (Nat.le_of_ble_eq_true rfl) (ci := 6) (q := (RX6, TX6, 12)) rfl rfl (by rw [k_0]; decide) (cell_6 k_0) ⟨Nat.le_of_ble_eq_true rfl, Nat.le_of_ble_eq_true rfl⟩ dX6_takeAll_9 (fun r9 M9 H locs h hw => ?_)
  exact we_i S hw h dX6_takeAll_12
set_option maxRecDepth 100000 in
set_option maxHeartbeats 4000000 in
theorem k_X6_takeAll (l : Launch) (E : EE) (Z : ZZ) (M : MM) (a0 : Nat) (Q : Int32 → MM → Prop) (h : P_X6_takeAll Z M a0 Q) : Ct_i l yX6_takeAll cX6_takeAll 1 (some .int) rm_X6_takeAll E Z M [.ref a0] Q := by
  refine Met.ofW (cc := cX6_takeAll) (maxL := 1) (ret := some .int) (by decide) rfl ?_
  intro p e s m args below meth c s₁ B hml hv
  obtain ⟨rfl, hK, hP, hD, hZ⟩ := hv
  have S : Cx p m c meth cX6_takeAll 1 s _ RX6 (some .int) := ⟨⟨B.exec, B.bytes, hml, findClass_of_methodNamed B.named, fun w hw => atoms_spec (ws := ws_ yX6_takeAll cX6_takeAll 1 (some .int)) B.pre w (List.mem_cons_of_mem _ hw)⟩, B.returns, B.notSynchronized⟩
  have hl := lv_entry ([.ref a0]) (n := 1) (Nat.le_of_ble_eq_true rfl)
  rw [lg_entry_eq]
  generalize (lg_sl ([.ref a0]) ++ List.replicate (1 - (lg_sl ([.ref a0])).length) Slot.unset).toArray = ls at hl ⊢
  exact (wB_X6_takeAll_0 S  M a0 h) s.heap [] ls ⟨hK, hP, hD, va_S.rf, hZ⟩ hl
set_option maxRecDepth 100000 in
set_option maxHeartbeats 4000000 in
theorem wB_X6_setMelt_0 (S : Cx p m c meth cX6_setMelt 3 s args RX6 (some .int)) {Q : Int32 → MM → Prop}   (M : MM) (a0 : Nat) (v1 : Int32) (h : B_X6_setMelt_0 Z Q  M a0 v1) : WG p l e rm_X6_setMelt s m args below meth c 0 0 (MQi below E Z args s Q) E Z M 0 3 [(0, .ref a0), (1, .int v1)] [] := by
  intro H locs ls hw hl
  have hx := S.1.1
  have hb := S.1.2.1
  have hown := S.1.2.2.2.1
  have hts := S.1.2.2.2.2
  refine lv_iload_n hx hb dX6_setMelt_0 rfl (lv_at hl 1 rfl) ?_
  refine lv_i2l (v := v1.toInt64) hx hb dX6_setMelt_1 rfl ?_
  refine lv_lconst (v := 0) hx hb dX6_setMelt_2 (by decide) ?_
  refine lv_ldc2 (v := 9) hx hb hown (hts _ wq_X6_158) dX6_setMelt_3 ?_
  refine cs_i (As := [.long v1.toInt64, .long 0, .long 9]) (rest := []) S.1 hw (k_X6_in l E Z M v1.toInt64 0 9 _ h) wv_X6_49 yc_X6_in ⟨rfl, rfl⟩ ⟨Nat.le_of_ble_eq_true rfl, Nat.le_of_ble_eq_true rfl⟩ rfl hl.1 (Nat.le_of_ble_eq_true rfl) ⟨Nat.le_of_ble_eq_true rfl, Nat.le_of_ble_eq_true rfl⟩ dX6_setMelt_6 (fun r6 M6 H locs h hw => ?_)
  refine lv_if_ne (tgt := 18) hx hb dX6_setMelt_9 (by decide) (fun q_9 => ?_) (fun q_9 => ?_)
  · have h := h.1 q_9
    refine lv_aload_n hx hb dX6_setMelt_18 rfl (lv_at hl 0 rfl) ?_
    obtain ⟨k_0, h⟩ := h
    refine cv_v (As := []) (rest := []) S.1 hw (k_X6_save l E Z M6 a0  _ h) wv_X6_63 yc_X6_save ⟨rfl, rfl⟩ ⟨Nat.le_of_ble_eq_true rfl, Nat.le_of_ble_eq_true rfl⟩ rfl hl.1 (Nat.le_of_ble_eq_true rfl) (ci := 6) (q := (RX6, TX6, 12)) rfl rfl (by rw [k_0]; decide) (cell_6 k_0) ⟨Nat.le_of_ble_eq_true rfl, Nat.le_of_ble_eq_true rfl⟩ dX6_setMelt_19 (fun M19 H locs h hw => ?_)
    refine lv_aload_n hx hb dX6_setMelt_22 rfl (lv_at hl 0 rfl) ?_
    obtain ⟨y23_1, hy_1, h⟩ := h
    refine gf_X6_7 S.1 hw k_0 hy_1 dX6_setMelt_23 ?_
    refine lv_iconst (v := 2) hx hb dX6_setMelt_26 (by decide) ?_
    obtain ⟨k_2, h⟩ := h
    obtain ⟨i_27, h⟩ := h
    refine wo_iald S.1 hw k_2 i_27 dX6_setMelt_27 ?_
    refine lv_istore_n (lv' := [(2, .int (mA M19 y23_1 (2 : Int32).toNatClampNeg)), (0, .ref a0), (1, .int v1)]) hx hb dX6_setMelt_28 rfl hl (by decide) rfl (fun ls hl => ?_)
    refine lv_aload_n hx hb dX6_setMelt_29 rfl (lv_at hl 1 rfl) ?_
    refine gf_X6_7 S.1 hw k_0 hy_1 dX6_setMelt_30 ?_
    refine lv_iconst (v := 2) hx hb dX6_setMelt_33 (by decide) ?_
    refine lv_iload_n hx hb dX6_setMelt_34 rfl (lv_at hl 2 rfl) ?_
    obtain ⟨i_35, h⟩ := h
    refine wo_iast S.1 hw k_2 i_35 dX6_setMelt_35 (fun H locs hw => ?_)
    refine lv_aload_n hx hb dX6_setMelt_36 rfl (lv_at hl 1 rfl) ?_
    refine lv_iload_n hx hb dX6_setMelt_37 rfl (lv_at hl 0 rfl) ?_
    refine cv_i (As := [.int (mA M19 y23_1 (2 : Int32).toNatClampNeg)]) (rest := []) S.1 hw (k_X6_fine l E Z (setA M19 y23_1 (upd (mA M19 y23_1) (2 : Int32).toNatClampNeg v1)) a0 (mA M19 y23_1 (2 : Int32).toNatClampNeg) _ h) wv_X6_66 yc_X6_fine ⟨rfl, rfl⟩ ⟨Nat.le_of_ble_eq_true rfl, Nat.le_of_ble_eq_true rfl⟩ rfl hl.1 (Nat.le_of_ble_eq_true rfl) (ci := 6) (q := (RX6, TX6, 12)) rfl rfl (by rw [k_0]; decide) (cell_6 k_0) ⟨Nat.le_of_ble_eq_true rfl, Nat.le_of_ble_eq_true rfl⟩ dX6_setMelt_38 (fun r38 M38 H locs h hw => ?_)
    exact we_i S hw h dX6_setMelt_41
  · have h := h.2 q_9
    refine lv_aload_n hx hb dX6_setMelt_12 rfl (lv_at hl 0 rfl) ?_
    refine lv_iconst (v := 1) hx hb dX6_setMelt_13 (by decide) ?_
    obtain ⟨k_3, h⟩ := h
    refine cv_i (As := [.int 1]) (rest := []) S.1 hw (k_X6_throwing l E Z M6 a0 1 _ h) wv_X6_59 yc_X6_throwing ⟨rfl, rfl⟩ ⟨Nat.le_of_ble_eq_true rfl, Nat.le_of_ble_eq_true rfl⟩ rfl hl.1 (Nat.le_of_ble_eq_true rfl) (ci := 6) (q := (RX6, TX6, 12)) rfl rfl (by rw [k_3]; decide) (cell_6 k_3) ⟨Nat.le_of_ble_eq_true rfl, Nat.le_of_ble_eq_true rfl⟩ dX6_setMelt_14 (fun r14 M14 H locs h hw => ?_)
    exact we_i S hw h dX6_setMelt_17
set_option maxRecDepth 100000 in
set_option maxHeartbeats 4000000 in
theorem k_X6_setMelt (l : Launch) (E : EE) (Z : ZZ) (M : MM) (a0 : Nat) (v1 : Int32) (Q : Int32 → MM → Prop) (h : P_X6_setMelt Z M a0 v1 Q) : Ct_i l yX6_setMelt cX6_setMelt 3 (some .int) rm_X6_setMelt E Z M [.ref a0, .int v1] Q := by
  refine Met.ofW (cc := cX6_setMelt) (maxL := 3) (ret := some .int) (by decide) rfl ?_
  intro p e s m args below meth c s₁ B hml hv
  obtain ⟨rfl, hK, hP, hD, hZ⟩ := hv
  have S : Cx p m c meth cX6_setMelt 3 s _ RX6 (some .int) := ⟨⟨B.exec, B.bytes, hml, findClass_of_methodNamed B.named, fun w hw => atoms_spec (ws := ws_ yX6_setMelt cX6_setMelt 3 (some .int)) B.pre w (List.mem_cons_of_mem _ hw)⟩, B.returns, B.notSynchronized⟩
  have hl := lv_entry ([.ref a0, .int v1]) (n := 3) (Nat.le_of_ble_eq_true rfl)
  rw [lg_entry_eq]
  generalize (lg_sl ([.ref a0, .int v1]) ++ List.replicate (3 - (lg_sl ([.ref a0, .int v1])).length) Slot.unset).toArray = ls at hl ⊢
  exact (wB_X6_setMelt_0 S  M a0 v1 h) s.heap [] ls ⟨hK, hP, hD, va_S.rf, hZ⟩ hl
set_option maxRecDepth 100000 in
set_option maxHeartbeats 4000000 in
theorem wB_X6_waterBeside_33 (S : Cx p m c meth cX6_waterBeside 4 s args RX6 (some .int)) {Q : Int32 → MM → Prop} {K38 : MM → Nat → Int32 → Int32 → Int32 → Prop} (hK38 : ∀ (M : MM) (a0 : Nat) (v1 : Int32) (v2 : Int32) (t0 : Int32), K38 M a0 v1 v2 t0 → WG p l e rm_X6_waterBeside s m args below meth c 0 0 (MQi below E Z args s Q) E Z M 38 4 [(0, .ref a0), (1, .int v1), (2, .int v2)] [.int t0]) (M : MM) (a0 : Nat) (v1 : Int32) (v2 : Int32) (h : B_X6_waterBeside_33 Z Q K38 M a0 v1 v2) : WG p l e rm_X6_waterBeside s m args below meth c 0 0 (MQi below E Z args s Q) E Z M 33 4 [(0, .ref a0), (1, .int v1), (2, .int v2)] [] := by
  intro H locs ls hw hl
  have hx := S.1.1
  have hb := S.1.2.1
  refine lv_iconst (v := 1) hx hb dX6_waterBeside_33 (by decide) ?_
  refine lv_goto (tgt := 38) hx hb dX6_waterBeside_34 (by decide) ?_
  exact (hK38 _ _ _ _ _ h) H locs ls hw (lv_sub hl [0, 1, 2] rfl)
set_option maxRecDepth 100000 in
set_option maxHeartbeats 4000000 in
theorem wB_X6_waterBeside_62 (S : Cx p m c meth cX6_waterBeside 4 s args RX6 (some .int)) {Q : Int32 → MM → Prop} {K63 : MM → Nat → Int32 → Int32 → Int32 → Int32 → Prop} (hK63 : ∀ (M : MM) (a0 : Nat) (v1 : Int32) (v2 : Int32) (t0 : Int32) (t1 : Int32), K63 M a0 v1 v2 t0 t1 → WG p l e rm_X6_waterBeside s m args below meth c 0 0 (MQi below E Z args s Q) E Z M 63 4 [(0, .ref a0), (1, .int v1), (2, .int v2)] [.int t0, .int t1]) (M : MM) (a0 : Nat) (v1 : Int32) (v2 : Int32) (t0 : Int32) (h : B_X6_waterBeside_62 Z Q K63 M a0 v1 v2 t0) : WG p l e rm_X6_waterBeside s m args below meth c 0 0 (MQi below E Z args s Q) E Z M 62 4 [(0, .ref a0), (1, .int v1), (2, .int v2)] [.int t0] := by
  intro H locs ls hw hl
  have hx := S.1.1
  have hb := S.1.2.1
  refine lv_iconst (v := 0) hx hb dX6_waterBeside_62 (by decide) ?_
  exact (hK63 _ _ _ _ _ _ h) H locs ls hw (lv_sub hl [0, 1, 2] rfl)
set_option maxRecDepth 100000 in
set_option maxHeartbeats 4000000 in
theorem wB_X6_waterBeside_88 (S : Cx p m c meth cX6_waterBeside 4 s args RX6 (some .int)) {Q : Int32 → MM → Prop} {K89 : MM → Nat → Int32 → Int32 → Int32 → Int32 → Prop} (hK89 : ∀ (M : MM) (a0 : Nat) (v1 : Int32) (v2 : Int32) (t0 : Int32) (t1 : Int32), K89 M a0 v1 v2 t0 t1 → WG p l e rm_X6_waterBeside s m args below meth c 0 0 (MQi below E Z args s Q) E Z M 89 4 [(0, .ref a0), (1, .int v1), (2, .int v2)] [.int t0, .int t1]) (M : MM) (a0 : Nat) (v1 : Int32) (v2 : Int32) (t0 : Int32) (h : B_X6_waterBeside_88 Z Q K89 M a0 v1 v2 t0) : WG p l e rm_X6_waterBeside s m args below meth c 0 0 (MQi below E Z args s Q) E Z M 88 4 [(0, .ref a0), (1, .int v1), (2, .int v2)] [.int t0] := by
  intro H locs ls hw hl
  have hx := S.1.1
  have hb := S.1.2.1
  refine lv_iconst (v := 0) hx hb dX6_waterBeside_88 (by decide) ?_
  exact (hK89 _ _ _ _ _ _ h) H locs ls hw (lv_sub hl [0, 1, 2] rfl)
set_option maxRecDepth 100000 in
set_option maxHeartbeats 4000000 in
theorem wB_X6_waterBeside_89 (S : Cx p m c meth cX6_waterBeside 4 s args RX6 (some .int)) {Q : Int32 → MM → Prop}   (M : MM) (a0 : Nat) (v1 : Int32) (v2 : Int32) (t0 : Int32) (t1 : Int32) (h : B_X6_waterBeside_89 Z Q  M a0 v1 v2 t0 t1) : WG p l e rm_X6_waterBeside s m args below meth c 0 0 (MQi below E Z args s Q) E Z M 89 4 [(0, .ref a0), (1, .int v1), (2, .int v2)] [.int t0, .int t1] := by
  intro H locs ls hw hl
  have hx := S.1.1
  have hb := S.1.2.1
  refine lv_iadd hx hb dX6_waterBeside_89 ?_
  refine lv_istore_n (lv' := [(3, .int (t1 + t0)), (0, .ref a0), (1, .int v1), (2, .int v2)]) hx hb dX6_waterBeside_90 rfl hl (by decide) rfl (fun ls hl => ?_)
  refine lv_iload_n hx hb dX6_waterBeside_91 rfl (lv_at hl 0 rfl) ?_
  refine lv_aload_n hx hb dX6_waterBeside_92 rfl (lv_at hl 1 rfl) ?_
  refine lv_iload_n hx hb dX6_waterBeside_93 rfl (lv_at hl 2 rfl) ?_
  obtain ⟨k_0, h⟩ := h
  refine cv_i (As := [.int v1]) (rest := [.int (t1 + t0)]) S.1 hw (k_X6_column l E Z M a0 v1 _ h) wv_X6_73 yc_X6_column ⟨rfl, rfl⟩ ⟨Nat.le_of_ble_eq_true rfl, Nat.le_of_ble_eq_true rfl⟩ rfl hl.1 (Nat.le_of_ble_eq_true rfl) (ci := 6) (q := (RX6, TX6, 12)) rfl rfl (by rw [k_0]; decide) (cell_6 k_0) ⟨Nat.le_of_ble_eq_true rfl, Nat.le_of_ble_eq_true rfl⟩ dX6_waterBeside_94 (fun r94 M94 H locs h hw => ?_)
  refine lv_iload_n hx hb dX6_waterBeside_97 rfl (lv_at hl 3 rfl) ?_
  refine lv_iconst (v := 1) hx hb dX6_waterBeside_98 (by decide) ?_
  refine lv_isub hx hb dX6_waterBeside_99 ?_
  refine lv_icmp_ge (tgt := 117) hx hb dX6_waterBeside_100 (by decide) (fun q_100 => ?_) (fun q_100 => ?_)
  · have h := h.1 q_100
    refine lv_iconst (v := 0) hx hb dX6_waterBeside_117 (by decide) ?_
    refine lv_iadd hx hb dX6_waterBeside_118 ?_
    exact we_i S hw h dX6_waterBeside_119
  · have h := h.2 q_100
    refine lv_aload_n hx hb dX6_waterBeside_103 rfl (lv_at hl 1 rfl) ?_
    refine lv_iload_n hx hb dX6_waterBeside_104 rfl (lv_at hl 2 rfl) ?_
    refine lv_iconst (v := 1) hx hb dX6_waterBeside_105 (by decide) ?_
    refine lv_iadd hx hb dX6_waterBeside_106 ?_
    refine cv_i (As := [.int (v1 + 1)]) (rest := [.int (t1 + t0)]) S.1 hw (k_X6_isIce l E Z M94 a0 (v1 + 1) _ h) wv_X6_112 yc_X6_isIce ⟨rfl, rfl⟩ ⟨Nat.le_of_ble_eq_true rfl, Nat.le_of_ble_eq_true rfl⟩ rfl hl.1 (Nat.le_of_ble_eq_true rfl) (ci := 6) (q := (RX6, TX6, 12)) rfl rfl (by rw [k_0]; decide) (cell_6 k_0) ⟨Nat.le_of_ble_eq_true rfl, Nat.le_of_ble_eq_true rfl⟩ dX6_waterBeside_107 (fun r107 M107 H locs h hw => ?_)
    refine lv_if_ne (tgt := 117) hx hb dX6_waterBeside_110 (by decide) (fun q_110 => ?_) (fun q_110 => ?_)
    · have h := h.1 q_110
      refine lv_iconst (v := 0) hx hb dX6_waterBeside_117 (by decide) ?_
      refine lv_iadd hx hb dX6_waterBeside_118 ?_
      exact we_i S hw h dX6_waterBeside_119
    · have h := h.2 q_110
      refine lv_iconst (v := 1) hx hb dX6_waterBeside_113 (by decide) ?_
      refine lv_goto (tgt := 118) hx hb dX6_waterBeside_114 (by decide) ?_
      refine lv_iadd hx hb dX6_waterBeside_118 ?_
      exact we_i S hw h dX6_waterBeside_119
set_option maxRecDepth 100000 in
set_option maxHeartbeats 4000000 in
theorem wB_X6_waterBeside_63 (S : Cx p m c meth cX6_waterBeside 4 s args RX6 (some .int)) {Q : Int32 → MM → Prop}   (M : MM) (a0 : Nat) (v1 : Int32) (v2 : Int32) (t0 : Int32) (t1 : Int32) (h : B_X6_waterBeside_63 Z Q  M a0 v1 v2 t0 t1) : WG p l e rm_X6_waterBeside s m args below meth c 0 0 (MQi below E Z args s Q) E Z M 63 4 [(0, .ref a0), (1, .int v1), (2, .int v2)] [.int t0, .int t1] := by
  intro H locs ls hw hl
  have hx := S.1.1
  have hb := S.1.2.1
  refine lv_iadd hx hb dX6_waterBeside_63 ?_
  refine lv_istore_n (lv' := [(3, .int (t1 + t0)), (0, .ref a0), (1, .int v1), (2, .int v2)]) hx hb dX6_waterBeside_64 rfl hl (by decide) rfl (fun ls hl => ?_)
  refine lv_iload_n hx hb dX6_waterBeside_65 rfl (lv_at hl 0 rfl) ?_
  refine lv_aload_n hx hb dX6_waterBeside_66 rfl (lv_at hl 1 rfl) ?_
  refine lv_iload_n hx hb dX6_waterBeside_67 rfl (lv_at hl 2 rfl) ?_
  obtain ⟨k_0, h⟩ := h
  refine cv_i (As := [.int v1]) (rest := [.int (t1 + t0)]) S.1 hw (k_X6_column l E Z M a0 v1 _ h) wv_X6_73 yc_X6_column ⟨rfl, rfl⟩ ⟨Nat.le_of_ble_eq_true rfl, Nat.le_of_ble_eq_true rfl⟩ rfl hl.1 (Nat.le_of_ble_eq_true rfl) (ci := 6) (q := (RX6, TX6, 12)) rfl rfl (by rw [k_0]; decide) (cell_6 k_0) ⟨Nat.le_of_ble_eq_true rfl, Nat.le_of_ble_eq_true rfl⟩ dX6_waterBeside_68 (fun r68 M68 H locs h hw => ?_)
  refine lv_if_le (tgt := 88) hx hb dX6_waterBeside_71 (by decide) (fun q_71 => ?_) (fun q_71 => ?_)
  · have h := h.1 q_71
    exact ((wB_X6_waterBeside_88 S  (fun M1 a0 v1 v2 t0 t1 h => (wB_X6_waterBeside_89 S   _ _ _ _ _ _ h)) _ _ _ _ _ h)) H locs ls hw (lv_sub hl [1, 2, 3] rfl)
  · have h := h.2 q_71
    refine lv_aload_n hx hb dX6_waterBeside_74 rfl (lv_at hl 1 rfl) ?_
    refine lv_iload_n hx hb dX6_waterBeside_75 rfl (lv_at hl 2 rfl) ?_
    refine lv_iconst (v := 1) hx hb dX6_waterBeside_76 (by decide) ?_
    refine lv_isub hx hb dX6_waterBeside_77 ?_
    refine cv_i (As := [.int (v1 - 1)]) (rest := [.int (t1 + t0)]) S.1 hw (k_X6_isIce l E Z M68 a0 (v1 - 1) _ h) wv_X6_112 yc_X6_isIce ⟨rfl, rfl⟩ ⟨Nat.le_of_ble_eq_true rfl, Nat.le_of_ble_eq_true rfl⟩ rfl hl.1 (Nat.le_of_ble_eq_true rfl) (ci := 6) (q := (RX6, TX6, 12)) rfl rfl (by rw [k_0]; decide) (cell_6 k_0) ⟨Nat.le_of_ble_eq_true rfl, Nat.le_of_ble_eq_true rfl⟩ dX6_waterBeside_78 (fun r78 M78 H locs h hw => ?_)
    refine lv_if_ne (tgt := 88) hx hb dX6_waterBeside_81 (by decide) (fun q_81 => ?_) (fun q_81 => ?_)
    · have h := h.1 q_81
      exact ((wB_X6_waterBeside_88 S  (fun M1 a0 v1 v2 t0 t1 h => (wB_X6_waterBeside_89 S   _ _ _ _ _ _ h)) _ _ _ _ _ h)) H locs ls hw (lv_sub hl [1, 2, 3] rfl)
    · have h := h.2 q_81
      refine lv_iconst (v := 1) hx hb dX6_waterBeside_84 (by decide) ?_
      refine lv_goto (tgt := 89) hx hb dX6_waterBeside_85 (by decide) ?_
      exact ((wB_X6_waterBeside_89 S   _ _ _ _ _ _ h)) H locs ls hw (lv_sub hl [1, 2, 3] rfl)
set_option maxRecDepth 100000 in
set_option maxHeartbeats 4000000 in
theorem wB_X6_waterBeside_38 (S : Cx p m c meth cX6_waterBeside 4 s args RX6 (some .int)) {Q : Int32 → MM → Prop}   (M : MM) (a0 : Nat) (v1 : Int32) (v2 : Int32) (t0 : Int32) (h : B_X6_waterBeside_38 Z Q  M a0 v1 v2 t0) : WG p l e rm_X6_waterBeside s m args below meth c 0 0 (MQi below E Z args s Q) E Z M 38 4 [(0, .ref a0), (1, .int v1), (2, .int v2)] [.int t0] := by
  intro H locs ls hw hl
  have hx := S.1.1
  have hb := S.1.2.1
  refine lv_istore_n (lv' := [(3, .int t0), (0, .ref a0), (1, .int v1), (2, .int v2)]) hx hb dX6_waterBeside_38 rfl hl (by decide) rfl (fun ls hl => ?_)
  refine lv_iload_n hx hb dX6_waterBeside_39 rfl (lv_at hl 0 rfl) ?_
  refine lv_aload_n hx hb dX6_waterBeside_40 rfl (lv_at hl 1 rfl) ?_
  refine lv_iload_n hx hb dX6_waterBeside_41 rfl (lv_at hl 2 rfl) ?_
  obtain ⟨k_0, h⟩ := h
  refine cv_i (As := [.int v1]) (rest := [.int t0]) S.1 hw (k_X6_row l E Z M a0 v1 _ h) wv_X6_76 yc_X6_row ⟨rfl, rfl⟩ ⟨Nat.le_of_ble_eq_true rfl, Nat.le_of_ble_eq_true rfl⟩ rfl hl.1 (Nat.le_of_ble_eq_true rfl) (ci := 6) (q := (RX6, TX6, 12)) rfl rfl (by rw [k_0]; decide) (cell_6 k_0) ⟨Nat.le_of_ble_eq_true rfl, Nat.le_of_ble_eq_true rfl⟩ dX6_waterBeside_42 (fun r42 M42 H locs h hw => ?_)
  refine lv_if_le (tgt := 62) hx hb dX6_waterBeside_45 (by decide) (fun q_45 => ?_) (fun q_45 => ?_)
  · have h := h.1 q_45
    exact ((wB_X6_waterBeside_62 S  (fun M1 a0 v1 v2 t0 t1 h => (wB_X6_waterBeside_63 S   _ _ _ _ _ _ h)) _ _ _ _ _ h)) H locs ls hw (lv_sub hl [1, 2, 3] rfl)
  · have h := h.2 q_45
    refine lv_aload_n hx hb dX6_waterBeside_48 rfl (lv_at hl 1 rfl) ?_
    refine lv_iload_n hx hb dX6_waterBeside_49 rfl (lv_at hl 2 rfl) ?_
    refine lv_iload_n hx hb dX6_waterBeside_50 rfl (lv_at hl 3 rfl) ?_
    refine lv_isub hx hb dX6_waterBeside_51 ?_
    refine cv_i (As := [.int (v1 - v2)]) (rest := [.int t0]) S.1 hw (k_X6_isIce l E Z M42 a0 (v1 - v2) _ h) wv_X6_112 yc_X6_isIce ⟨rfl, rfl⟩ ⟨Nat.le_of_ble_eq_true rfl, Nat.le_of_ble_eq_true rfl⟩ rfl hl.1 (Nat.le_of_ble_eq_true rfl) (ci := 6) (q := (RX6, TX6, 12)) rfl rfl (by rw [k_0]; decide) (cell_6 k_0) ⟨Nat.le_of_ble_eq_true rfl, Nat.le_of_ble_eq_true rfl⟩ dX6_waterBeside_52 (fun r52 M52 H locs h hw => ?_)
    refine lv_if_ne (tgt := 62) hx hb dX6_waterBeside_55 (by decide) (fun q_55 => ?_) (fun q_55 => ?_)
    · have h := h.1 q_55
      exact ((wB_X6_waterBeside_62 S  (fun M1 a0 v1 v2 t0 t1 h => (wB_X6_waterBeside_63 S   _ _ _ _ _ _ h)) _ _ _ _ _ h)) H locs ls hw (lv_sub hl [1, 2, 3] rfl)
    · have h := h.2 q_55
      refine lv_iconst (v := 1) hx hb dX6_waterBeside_58 (by decide) ?_
      refine lv_goto (tgt := 63) hx hb dX6_waterBeside_59 (by decide) ?_
      exact ((wB_X6_waterBeside_63 S   _ _ _ _ _ _ h)) H locs ls hw (lv_sub hl [1, 2, 3] rfl)
set_option maxRecDepth 100000 in
set_option maxHeartbeats 4000000 in
theorem wB_X6_waterBeside_0 (S : Cx p m c meth cX6_waterBeside 4 s args RX6 (some .int)) {Q : Int32 → MM → Prop}   (M : MM) (a0 : Nat) (v1 : Int32) (h : B_X6_waterBeside_0 Z Q  M a0 v1) : WG p l e rm_X6_waterBeside s m args below meth c 0 0 (MQi below E Z args s Q) E Z M 0 4 [(0, .ref a0), (1, .int v1)] [] := by
  intro H locs ls hw hl
  have hx := S.1.1
  have hb := S.1.2.1
  refine lv_aload_n hx hb dX6_waterBeside_0 rfl (lv_at hl 0 rfl) ?_
  obtain ⟨k_0, h⟩ := h
  obtain ⟨y1_1, hy_1, h⟩ := h
  refine gf_X6_7 S.1 hw k_0 hy_1 dX6_waterBeside_1 ?_
  refine lv_iconst (v := 0) hx hb dX6_waterBeside_4 (by decide) ?_
  obtain ⟨k_2, h⟩ := h
  obtain ⟨i_5, h⟩ := h
  refine wo_iald S.1 hw k_2 i_5 dX6_waterBeside_5 ?_
  refine lv_istore_n (lv' := [(2, .int (mA M y1_1 (0 : Int32).toNatClampNeg)), (0, .ref a0), (1, .int v1)]) hx hb dX6_waterBeside_6 rfl hl (by decide) rfl (fun ls hl => ?_)
  refine lv_aload_n hx hb dX6_waterBeside_7 rfl (lv_at hl 1 rfl) ?_
  refine lv_iload_n hx hb dX6_waterBeside_8 rfl (lv_at hl 2 rfl) ?_
  refine cv_i (As := [.int v1]) (rest := []) S.1 hw (k_X6_row l E Z M a0 v1 _ h) wv_X6_76 yc_X6_row ⟨rfl, rfl⟩ ⟨Nat.le_of_ble_eq_true rfl, Nat.le_of_ble_eq_true rfl⟩ rfl hl.1 (Nat.le_of_ble_eq_true rfl) (ci := 6) (q := (RX6, TX6, 12)) rfl rfl (by rw [k_0]; decide) (cell_6 k_0) ⟨Nat.le_of_ble_eq_true rfl, Nat.le_of_ble_eq_true rfl⟩ dX6_waterBeside_9 (fun r9 M9 H locs h hw => ?_)
  refine lv_aload_n hx hb dX6_waterBeside_12 rfl (lv_at hl 1 rfl) ?_
  refine gf_X6_7 S.1 hw k_0 hy_1 dX6_waterBeside_13 ?_
  refine lv_iconst (v := 1) hx hb dX6_waterBeside_16 (by decide) ?_
  obtain ⟨i_17, h⟩ := h
  refine wo_iald S.1 hw k_2 i_17 dX6_waterBeside_17 ?_
  refine lv_iconst (v := 1) hx hb dX6_waterBeside_18 (by decide) ?_
  refine lv_isub hx hb dX6_waterBeside_19 ?_
  refine lv_icmp_eq (tgt := 33) hx hb dX6_waterBeside_20 (by decide) (fun q_20 => ?_) (fun q_20 => ?_)
  · have h := h.1 q_20
    exact ((wB_X6_waterBeside_33 S  (fun M1 a0 v1 v2 t0 h => (wB_X6_waterBeside_38 S   _ _ _ _ _ h)) _ _ _ _ h)) H locs ls hw (lv_sub hl [1, 2, 0] rfl)
  · have h := h.2 q_20
    refine lv_aload_n hx hb dX6_waterBeside_23 rfl (lv_at hl 1 rfl) ?_
    refine lv_iload_n hx hb dX6_waterBeside_24 rfl (lv_at hl 2 rfl) ?_
    refine lv_iload_n hx hb dX6_waterBeside_25 rfl (lv_at hl 0 rfl) ?_
    refine lv_iadd hx hb dX6_waterBeside_26 ?_
    refine cv_i (As := [.int (v1 + (mA M y1_1 (0 : Int32).toNatClampNeg))]) (rest := []) S.1 hw (k_X6_isIce l E Z M9 a0 (v1 + (mA M y1_1 (0 : Int32).toNatClampNeg)) _ h) wv_X6_112 yc_X6_isIce ⟨rfl, rfl⟩ ⟨Nat.le_of_ble_eq_true rfl, Nat.le_of_ble_eq_true rfl⟩ rfl hl.1 (Nat.le_of_ble_eq_true rfl) (ci := 6) (q := (RX6, TX6, 12)) rfl rfl (by rw [k_0]; decide) (cell_6 k_0) ⟨Nat.le_of_ble_eq_true rfl, Nat.le_of_ble_eq_true rfl⟩ dX6_waterBeside_27 (fun r27 M27 H locs h hw => ?_)
    refine lv_if_ne (tgt := 37) hx hb dX6_waterBeside_30 (by decide) (fun q_30 => ?_) (fun q_30 => ?_)
    · have h := h.1 q_30
      refine lv_iconst (v := 0) hx hb dX6_waterBeside_37 (by decide) ?_
      exact ((wB_X6_waterBeside_38 S   _ _ _ _ _ h)) H locs ls hw (lv_sub hl [1, 2, 0] rfl)
    · have h := h.2 q_30
      exact ((wB_X6_waterBeside_33 S  (fun M1 a0 v1 v2 t0 h => (wB_X6_waterBeside_38 S   _ _ _ _ _ h)) _ _ _ _ h)) H locs ls hw (lv_sub hl [1, 2, 0] rfl)
set_option maxRecDepth 100000 in
set_option maxHeartbeats 4000000 in
theorem k_X6_waterBeside (l : Launch) (E : EE) (Z : ZZ) (M : MM) (a0 : Nat) (v1 : Int32) (Q : Int32 → MM → Prop) (h : P_X6_waterBeside Z M a0 v1 Q) : Ct_i l yX6_waterBeside cX6_waterBeside 4 (some .int) rm_X6_waterBeside E Z M [.ref a0, .int v1] Q := by
  refine Met.ofW (cc := cX6_waterBeside) (maxL := 4) (ret := some .int) (by decide) rfl ?_
  intro p e s m args below meth c s₁ B hml hv
  obtain ⟨rfl, hK, hP, hD, hZ⟩ := hv
  have S : Cx p m c meth cX6_waterBeside 4 s _ RX6 (some .int) := ⟨⟨B.exec, B.bytes, hml, findClass_of_methodNamed B.named, fun w hw => atoms_spec (ws := ws_ yX6_waterBeside cX6_waterBeside 4 (some .int)) B.pre w (List.mem_cons_of_mem _ hw)⟩, B.returns, B.notSynchronized⟩
  have hl := lv_entry ([.ref a0, .int v1]) (n := 4) (Nat.le_of_ble_eq_true rfl)
  rw [lg_entry_eq]
  generalize (lg_sl ([.ref a0, .int v1]) ++ List.replicate (4 - (lg_sl ([.ref a0, .int v1])).length) Slot.unset).toArray = ls at hl ⊢
  exact (wB_X6_waterBeside_0 S  M a0 v1 h) s.heap [] ls ⟨hK, hP, hD, va_S.rf, hZ⟩ hl
