variable {p : Program} {l : Launch} {e : Env} {s : State} {m : MethodId} {args : Array Value} {below : List Frame} {meth : Method} {c : Code} {E : EE} {Z : ZZ}
set_option maxRecDepth 100000 in
set_option maxHeartbeats 4000000 in
theorem wB_X6_daysToWater_63 (S : Cx p m c meth cX6_daysToWater 4 s args RX6 (some .int)) {Q : Int32 → MM → Prop}   (M : MM) (t0 : Int32) (t1 : Nat) (h : B_X6_daysToWater_63 Z Q  M t0 t1) : WG p l e rm_X6_daysToWater s m args below meth c 0 0 (MQi below E Z args s Q) E Z M 63 4 [] [.int t0, .ref t1] := by
  intro H locs ls hw hl
  have hx := S.1.1
  have hb := S.1.2.1
  obtain ⟨k_0, h⟩ := h
  refine cv_i (As := [.int t0]) (rest := []) S.1 hw (k_X6_fine l E Z M t1 t0 _ h) wv_X6_66 yc_X6_fine ⟨rfl, rfl⟩ ⟨Nat.le_of_ble_eq_true rfl, Nat.le_of_ble_eq_true rfl⟩ rfl hl.1 (Nat.le_of_ble_eq_true rfl) (ci := 6) (q := (RX6, TX6, 12)) rfl rfl (by rw [k_0]; decide) (cell_6 k_0) ⟨Nat.le_of_ble_eq_true rfl, Nat.le_of_ble_eq_true rfl⟩ dX6_daysToWater_63 (fun r63 M63 H locs h hw => ?_)
  exact we_i S hw h dX6_daysToWater_66
set_option maxRecDepth 100000 in
set_option maxHeartbeats 4000000 in
theorem wB_X6_daysToWater_48 (S : Cx p m c meth cX6_daysToWater 4 s args RX6 (some .int)) {Q : Int32 → MM → Prop}   (M : MM) (a0 : Nat) (v1 : Int32) (t0 : Int32) (h : B_X6_daysToWater_48 Z Q  M a0 v1 t0) : WG p l e rm_X6_daysToWater s m args below meth c 0 0 (MQi below E Z args s Q) E Z M 48 4 [(0, .ref a0), (1, .int v1)] [.int t0] := by
  intro H locs ls hw hl
  have hx := S.1.1
  have hb := S.1.2.1
  refine lv_istore_n (lv' := [(3, .int t0), (0, .ref a0), (1, .int v1)]) hx hb dX6_daysToWater_48 rfl hl (by decide) rfl (fun ls hl => ?_)
  refine lv_aload_n hx hb dX6_daysToWater_49 rfl (lv_at hl 1 rfl) ?_
  obtain ⟨k_0, h⟩ := h
  refine cv_v (As := []) (rest := []) S.1 hw (k_X6_takesBack l E Z M a0  _ h) wv_X6_109 yc_X6_takesBack ⟨rfl, rfl⟩ ⟨Nat.le_of_ble_eq_true rfl, Nat.le_of_ble_eq_true rfl⟩ rfl hl.1 (Nat.le_of_ble_eq_true rfl) (ci := 6) (q := (RX6, TX6, 12)) rfl rfl (by rw [k_0]; decide) (cell_6 k_0) ⟨Nat.le_of_ble_eq_true rfl, Nat.le_of_ble_eq_true rfl⟩ dX6_daysToWater_50 (fun M50 H locs h hw => ?_)
  refine lv_aload_n hx hb dX6_daysToWater_53 rfl (lv_at hl 1 rfl) ?_
  refine lv_iload_n hx hb dX6_daysToWater_54 rfl (lv_at hl 0 rfl) ?_
  refine lv_if_eq (tgt := 62) hx hb dX6_daysToWater_55 (by decide) (fun q_55 => ?_) (fun q_55 => ?_)
  · have h := h.1 q_55
    refine lv_iconst (v := (-1)) hx hb dX6_daysToWater_62 (by decide) ?_
    exact ((wB_X6_daysToWater_63 S   _ _ _ h)) H locs ls hw (lv_sub hl [] rfl)
  · have h := h.2 q_55
    refine lv_iload_n hx hb dX6_daysToWater_58 rfl (lv_at hl 2 rfl) ?_
    refine lv_goto (tgt := 63) hx hb dX6_daysToWater_59 (by decide) ?_
    exact ((wB_X6_daysToWater_63 S   _ _ _ h)) H locs ls hw (lv_sub hl [] rfl)
set_option maxRecDepth 100000 in
set_option maxHeartbeats 4000000 in
theorem wB_X6_daysToWater_35 (S : Cx p m c meth cX6_daysToWater 4 s args RX6 (some .int)) {Q : Int32 → MM → Prop}   (M : MM) (a0 : Nat) (v1 : Int32) (h : B_X6_daysToWater_35 Z Q  M a0 v1) : WG p l e rm_X6_daysToWater s m args below meth c 0 0 (MQi below E Z args s Q) E Z M 35 4 [(0, .ref a0), (1, .int v1)] [] := by
  intro H locs ls hw hl
  have hx := S.1.1
  have hb := S.1.2.1
  refine lv_aload_n hx hb dX6_daysToWater_35 rfl (lv_at hl 0 rfl) ?_
  refine lv_iconst (v := 2) hx hb dX6_daysToWater_36 (by decide) ?_
  obtain ⟨k_0, h⟩ := h
  refine cv_i (As := [.int 2]) (rest := []) S.1 hw (k_X6_sum l E Z M a0 2 _ h) wv_X6_179 yc_X6_sum ⟨rfl, rfl⟩ ⟨Nat.le_of_ble_eq_true rfl, Nat.le_of_ble_eq_true rfl⟩ rfl hl.1 (Nat.le_of_ble_eq_true rfl) (ci := 6) (q := (RX6, TX6, 12)) rfl rfl (by rw [k_0]; decide) (cell_6 k_0) ⟨Nat.le_of_ble_eq_true rfl, Nat.le_of_ble_eq_true rfl⟩ dX6_daysToWater_37 (fun r37 M37 H locs h hw => ?_)
  refine lv_if_ne (tgt := 47) hx hb dX6_daysToWater_40 (by decide) (fun q_40 => ?_) (fun q_40 => ?_)
  · have h := h.1 q_40
    refine lv_iconst (v := 0) hx hb dX6_daysToWater_47 (by decide) ?_
    exact ((wB_X6_daysToWater_48 S   _ _ _ _ h)) H locs ls hw (lv_sub hl [0, 1] rfl)
  · have h := h.2 q_40
    refine lv_iconst (v := 1) hx hb dX6_daysToWater_43 (by decide) ?_
    refine lv_goto (tgt := 48) hx hb dX6_daysToWater_44 (by decide) ?_
    exact ((wB_X6_daysToWater_48 S   _ _ _ _ h)) H locs ls hw (lv_sub hl [0, 1] rfl)
set_option maxRecDepth 100000 in
set_option maxHeartbeats 4000000 in
theorem wB_X6_daysToWater_8 (S : Cx p m c meth cX6_daysToWater 4 s args RX6 (some .int)) {Q : Int32 → MM → Prop} {K8 : MM → Nat → Int32 → Int32 → Prop} (hK8 : ∀ (M : MM) (a0 : Nat) (v1 : Int32) (v2 : Int32), K8 M a0 v1 v2 → WG p l e rm_X6_daysToWater s m args below meth c 0 0 (MQi below E Z args s Q) E Z M 8 4 [(0, .ref a0), (1, .int v1), (2, .int v2)] []) (M : MM) (a0 : Nat) (v1 : Int32) (v2 : Int32) (h : B_X6_daysToWater_8 Z Q K8 M a0 v1 v2) : WG p l e rm_X6_daysToWater s m args below meth c 0 0 (MQi below E Z args s Q) E Z M 8 4 [(0, .ref a0), (1, .int v1), (2, .int v2)] [] := by
  intro H locs ls hw hl
  have hx := S.1.1
  have hb := S.1.2.1
  refine lv_iload_n hx hb dX6_daysToWater_8 rfl (lv_at hl 1 rfl) ?_
  refine lv_bipush (v := 60) hx hb dX6_daysToWater_9 (by decide) ?_
  refine lv_icmp_ge (tgt := 35) hx hb dX6_daysToWater_11 (by decide) (fun q_11 => ?_) (fun q_11 => ?_)
  · have h := h.1 q_11
    exact ((wB_X6_daysToWater_35 S   _ _ _ h)) H locs ls hw (lv_sub hl [0, 1] rfl)
  · have h := h.2 q_11
    refine lv_aload_n hx hb dX6_daysToWater_14 rfl (lv_at hl 0 rfl) ?_
    refine lv_iconst (v := 2) hx hb dX6_daysToWater_15 (by decide) ?_
    obtain ⟨k_0, h⟩ := h
    refine cv_i (As := [.int 2]) (rest := []) S.1 hw (k_X6_sum l E Z M a0 2 _ h) wv_X6_179 yc_X6_sum ⟨rfl, rfl⟩ ⟨Nat.le_of_ble_eq_true rfl, Nat.le_of_ble_eq_true rfl⟩ rfl hl.1 (Nat.le_of_ble_eq_true rfl) (ci := 6) (q := (RX6, TX6, 12)) rfl rfl (by rw [k_0]; decide) (cell_6 k_0) ⟨Nat.le_of_ble_eq_true rfl, Nat.le_of_ble_eq_true rfl⟩ dX6_daysToWater_16 (fun r16 M16 H locs h hw => ?_)
    refine lv_if_le (tgt := 35) hx hb dX6_daysToWater_19 (by decide) (fun q_19 => ?_) (fun q_19 => ?_)
    · have h := h.1 q_19
      exact ((wB_X6_daysToWater_35 S   _ _ _ h)) H locs ls hw (lv_sub hl [0, 1] rfl)
    · have h := h.2 q_19
      refine lv_iload_n hx hb dX6_daysToWater_22 rfl (lv_at hl 2 rfl) ?_
      refine lv_aload_n hx hb dX6_daysToWater_23 rfl (lv_at hl 0 rfl) ?_
      refine cv_i (As := []) (rest := [.int v2]) S.1 hw (k_X6_day l E Z M16 a0  _ h) wv_X6_163 yc_X6_day ⟨rfl, rfl⟩ ⟨Nat.le_of_ble_eq_true rfl, Nat.le_of_ble_eq_true rfl⟩ rfl hl.1 (Nat.le_of_ble_eq_true rfl) (ci := 6) (q := (RX6, TX6, 12)) rfl rfl (by rw [k_0]; decide) (cell_6 k_0) ⟨Nat.le_of_ble_eq_true rfl, Nat.le_of_ble_eq_true rfl⟩ dX6_daysToWater_24 (fun r24 M24 H locs h hw => ?_)
      refine lv_iadd hx hb dX6_daysToWater_27 ?_
      refine lv_istore_n (lv' := [(2, .int (v2 + r24)), (0, .ref a0), (1, .int v1)]) hx hb dX6_daysToWater_28 rfl hl (by decide) rfl (fun ls hl => ?_)
      refine lv_iinc (v := (v1 + 1)) (lv' := [(1, .int (v1 + 1)), (2, .int (v2 + r24)), (0, .ref a0)]) hx hb dX6_daysToWater_29 hl (k := 2) rfl rfl (by decide) rfl (fun ls hl => ?_)
      refine lv_goto (tgt := 8) hx hb dX6_daysToWater_32 (by decide) ?_
      exact (hK8 _ _ _ _ h) H locs ls hw (lv_sub hl [2, 0, 1] rfl)
theorem wL_X6_daysToWater_8 (S : Cx p m c meth cX6_daysToWater 4 s args RX6 (some .int)) {Q : Int32 → MM → Prop}   : ∀ (n : Nat) (M : MM) (a0 : Nat) (v1 : Int32) (v2 : Int32), L_X6_daysToWater_8 Z Q   n M a0 v1 v2 → WG p l e rm_X6_daysToWater s m args below meth c 0 0 (MQi below E Z args s Q) E Z M 8 4 [(0, .ref a0), (1, .int v1), (2, .int v2)] []
  | 0, _, _, _, _, h => False.elim h
  | n + 1, M, a0, v1, v2, h => wB_X6_daysToWater_8 S  (wL_X6_daysToWater_8 S   n) M a0 v1 v2 h
set_option maxRecDepth 100000 in
set_option maxHeartbeats 4000000 in
theorem wB_X6_daysToWater_0 (S : Cx p m c meth cX6_daysToWater 4 s args RX6 (some .int)) {Q : Int32 → MM → Prop}   (M : MM) (a0 : Nat) (h : B_X6_daysToWater_0 Z Q  M a0) : WG p l e rm_X6_daysToWater s m args below meth c 0 0 (MQi below E Z args s Q) E Z M 0 4 [(0, .ref a0)] [] := by
  intro H locs ls hw hl
  have hx := S.1.1
  have hb := S.1.2.1
  refine lv_aload_n hx hb dX6_daysToWater_0 rfl (lv_at hl 0 rfl) ?_
  obtain ⟨k_0, h⟩ := h
  refine cv_v (As := []) (rest := []) S.1 hw (k_X6_laysAside l E Z M a0  _ h) wv_X6_106 yc_X6_laysAside ⟨rfl, rfl⟩ ⟨Nat.le_of_ble_eq_true rfl, Nat.le_of_ble_eq_true rfl⟩ rfl hl.1 (Nat.le_of_ble_eq_true rfl) (ci := 6) (q := (RX6, TX6, 12)) rfl rfl (by rw [k_0]; decide) (cell_6 k_0) ⟨Nat.le_of_ble_eq_true rfl, Nat.le_of_ble_eq_true rfl⟩ dX6_daysToWater_1 (fun M1 H locs h hw => ?_)
  refine lv_iconst (v := 0) hx hb dX6_daysToWater_4 (by decide) ?_
  refine lv_istore_n (lv' := [(1, .int 0), (0, .ref a0)]) hx hb dX6_daysToWater_5 rfl hl (by decide) rfl (fun ls hl => ?_)
  refine lv_iconst (v := 0) hx hb dX6_daysToWater_6 (by decide) ?_
  refine lv_istore_n (lv' := [(2, .int 0), (1, .int 0), (0, .ref a0)]) hx hb dX6_daysToWater_7 rfl hl (by decide) rfl (fun ls hl => ?_)
  exact ((Exists.elim h (fun n h => wL_X6_daysToWater_8 S   n _ _ _ _ h))) H locs ls hw (lv_sub hl [2, 1, 0] rfl)
set_option maxRecDepth 100000 in
set_option maxHeartbeats 4000000 in
theorem k_X6_daysToWater (l : Launch) (E : EE) (Z : ZZ) (M : MM) (a0 : Nat) (Q : Int32 → MM → Prop) (h : P_X6_daysToWater Z M a0 Q) : Ct_i l yX6_daysToWater cX6_daysToWater 4 (some .int) rm_X6_daysToWater E Z M [.ref a0] Q := by
  refine Met.ofW (cc := cX6_daysToWater) (maxL := 4) (ret := some .int) (by decide) rfl ?_
  intro p e s m args below meth c s₁ B hml hv
  obtain ⟨rfl, hK, hP, hD, hZ⟩ := hv
  have S : Cx p m c meth cX6_daysToWater 4 s _ RX6 (some .int) := ⟨⟨B.exec, B.bytes, hml, findClass_of_methodNamed B.named, fun w hw => atoms_spec (ws := ws_ yX6_daysToWater cX6_daysToWater 4 (some .int)) B.pre w (List.mem_cons_of_mem _ hw)⟩, B.returns, B.notSynchronized⟩
  have hl := lv_entry ([.ref a0]) (n := 4) (Nat.le_of_ble_eq_true rfl)
  rw [lg_entry_eq]
  generalize (lg_sl ([.ref a0]) ++ List.replicate (4 - (lg_sl ([.ref a0])).length) Slot.unset).toArray = ls at hl ⊢
  exact (wB_X6_daysToWater_0 S  M a0 h) s.heap [] ls ⟨hK, hP, hD, va_S.rf, hZ⟩ hl
set_option maxRecDepth 100000 in
set_option maxHeartbeats 4000000 in
theorem wB_X6_barredBy_83 (S : Cx p m c meth cX6_barredBy 5 s args RX6 (some .int)) {Q : Int32 → MM → Prop} {K95 : MM → Nat → Int32 → Int32 → Int32 → Prop} (hK95 : ∀ (M : MM) (a0 : Nat) (v1 : Int32) (v2 : Int32) (v3 : Int32), K95 M a0 v1 v2 v3 → WG p l e rm_X6_barredBy s m args below meth c 0 0 (MQi below E Z args s Q) E Z M 95 5 [(0, .ref a0), (1, .int v1), (2, .int v2), (3, .int v3)] []) (M : MM) (a0 : Nat) (v1 : Int32) (v3 : Int32) (v4 : Int32) (t0 : Int32) (h : B_X6_barredBy_83 Z Q K95 M a0 v1 v3 v4 t0) : WG p l e rm_X6_barredBy s m args below meth c 0 0 (MQi below E Z args s Q) E Z M 83 5 [(0, .ref a0), (1, .int v1), (3, .int v3), (4, .int v4)] [.int t0] := by
  intro H locs ls hw hl
  have hx := S.1.1
  have hb := S.1.2.1
  refine lv_istore_n (lv' := [(2, .int t0), (0, .ref a0), (1, .int v1), (3, .int v3), (4, .int v4)]) hx hb dX6_barredBy_83 rfl hl (by decide) rfl (fun ls hl => ?_)
  refine lv_aload_n hx hb dX6_barredBy_84 rfl (lv_at hl 1 rfl) ?_
  obtain ⟨k_0, h⟩ := h
  obtain ⟨y85_1, hy_1, h⟩ := h
  refine gf_X6_7 S.1 hw k_0 hy_1 dX6_barredBy_85 ?_
  refine lv_bipush (v := 8) hx hb dX6_barredBy_88 (by decide) ?_
  refine lv_iload_n hx hb dX6_barredBy_90 rfl (lv_at hl 3 rfl) ?_
  refine lv_iadd hx hb dX6_barredBy_91 ?_
  refine lv_iload hx hb dX6_barredBy_92 (lv_at hl 4 rfl) ?_
  obtain ⟨k_2, h⟩ := h
  obtain ⟨i_94, h⟩ := h
  refine wo_iast S.1 hw k_2 i_94 dX6_barredBy_94 (fun H locs hw => ?_)
  exact (hK95 _ _ _ _ _ h) H locs ls hw (lv_sub hl [1, 2, 0, 3] rfl)
set_option maxRecDepth 100000 in
set_option maxHeartbeats 4000000 in
theorem wB_X6_barredBy_95 (S : Cx p m c meth cX6_barredBy 5 s args RX6 (some .int)) {Q : Int32 → MM → Prop} {K15 : MM → Nat → Int32 → Int32 → Int32 → Prop} (hK15 : ∀ (M : MM) (a0 : Nat) (v1 : Int32) (v2 : Int32) (v3 : Int32), K15 M a0 v1 v2 v3 → WG p l e rm_X6_barredBy s m args below meth c 0 0 (MQi below E Z args s Q) E Z M 15 5 [(0, .ref a0), (1, .int v1), (2, .int v2), (3, .int v3)] []) (M : MM) (a0 : Nat) (v1 : Int32) (v2 : Int32) (v3 : Int32) (h : B_X6_barredBy_95 Z Q K15 M a0 v1 v2 v3) : WG p l e rm_X6_barredBy s m args below meth c 0 0 (MQi below E Z args s Q) E Z M 95 5 [(0, .ref a0), (1, .int v1), (2, .int v2), (3, .int v3)] [] := by
  intro H locs ls hw hl
  have hx := S.1.1
  have hb := S.1.2.1
  refine lv_iinc (v := (v3 + 1)) (lv' := [(3, .int (v3 + 1)), (0, .ref a0), (1, .int v1), (2, .int v2)]) hx hb dX6_barredBy_95 hl (k := 3) rfl rfl (by decide) rfl (fun ls hl => ?_)
  refine lv_goto (tgt := 15) hx hb dX6_barredBy_98 (by decide) ?_
  exact (hK15 _ _ _ _ _ h) H locs ls hw (lv_sub hl [1, 2, 3, 0] rfl)
set_option maxRecDepth 100000 in
set_option maxHeartbeats 4000000 in
theorem wB_X6_barredBy_101 (S : Cx p m c meth cX6_barredBy 5 s args RX6 (some .int)) {Q : Int32 → MM → Prop}   (M : MM) (a0 : Nat) (v2 : Int32) (h : B_X6_barredBy_101 Z Q  M a0 v2) : WG p l e rm_X6_barredBy s m args below meth c 0 0 (MQi below E Z args s Q) E Z M 101 5 [(0, .ref a0), (2, .int v2)] [] := by
  intro H locs ls hw hl
  have hx := S.1.1
  have hb := S.1.2.1
  refine lv_aload_n hx hb dX6_barredBy_101 rfl (lv_at hl 0 rfl) ?_
  refine lv_iload_n hx hb dX6_barredBy_102 rfl (lv_at hl 1 rfl) ?_
  obtain ⟨k_0, h⟩ := h
  refine cv_i (As := [.int v2]) (rest := []) S.1 hw (k_X6_fine l E Z M a0 v2 _ h) wv_X6_66 yc_X6_fine ⟨rfl, rfl⟩ ⟨Nat.le_of_ble_eq_true rfl, Nat.le_of_ble_eq_true rfl⟩ rfl hl.1 (Nat.le_of_ble_eq_true rfl) (ci := 6) (q := (RX6, TX6, 12)) rfl rfl (by rw [k_0]; decide) (cell_6 k_0) ⟨Nat.le_of_ble_eq_true rfl, Nat.le_of_ble_eq_true rfl⟩ dX6_barredBy_103 (fun r103 M103 H locs h hw => ?_)
  exact we_i S hw h dX6_barredBy_106
set_option maxRecDepth 100000 in
set_option maxHeartbeats 4000000 in
theorem wB_X6_barredBy_15 (S : Cx p m c meth cX6_barredBy 5 s args RX6 (some .int)) {Q : Int32 → MM → Prop} {K15 : MM → Nat → Int32 → Int32 → Int32 → Prop} (hK15 : ∀ (M : MM) (a0 : Nat) (v1 : Int32) (v2 : Int32) (v3 : Int32), K15 M a0 v1 v2 v3 → WG p l e rm_X6_barredBy s m args below meth c 0 0 (MQi below E Z args s Q) E Z M 15 5 [(0, .ref a0), (1, .int v1), (2, .int v2), (3, .int v3)] []) (M : MM) (a0 : Nat) (v1 : Int32) (v2 : Int32) (v3 : Int32) (h : B_X6_barredBy_15 Z Q K15 M a0 v1 v2 v3) : WG p l e rm_X6_barredBy s m args below meth c 0 0 (MQi below E Z args s Q) E Z M 15 5 [(0, .ref a0), (1, .int v1), (2, .int v2), (3, .int v3)] [] := by
  intro H locs ls hw hl
  have hx := S.1.1
  have hb := S.1.2.1
  refine lv_iload_n hx hb dX6_barredBy_15 rfl (lv_at hl 3 rfl) ?_
  refine lv_aload_n hx hb dX6_barredBy_16 rfl (lv_at hl 0 rfl) ?_
  obtain ⟨k_0, h⟩ := h
  refine cv_i (As := []) (rest := [.int v3]) S.1 hw (k_X6_cells l E Z M a0  _ h) wv_X6_45 yc_X6_cells ⟨rfl, rfl⟩ ⟨Nat.le_of_ble_eq_true rfl, Nat.le_of_ble_eq_true rfl⟩ rfl hl.1 (Nat.le_of_ble_eq_true rfl) (ci := 6) (q := (RX6, TX6, 12)) rfl rfl (by rw [k_0]; decide) (cell_6 k_0) ⟨Nat.le_of_ble_eq_true rfl, Nat.le_of_ble_eq_true rfl⟩ dX6_barredBy_17 (fun r17 M17 H locs h hw => ?_)
  refine lv_icmp_ge (tgt := 101) hx hb dX6_barredBy_20 (by decide) (fun q_20 => ?_) (fun q_20 => ?_)
  · have h := h.1 q_20
    exact ((wB_X6_barredBy_101 S   _ _ _ h)) H locs ls hw (lv_sub hl [0, 2] rfl)
  · have h := h.2 q_20
    refine lv_iload_n hx hb dX6_barredBy_23 rfl (lv_at hl 1 rfl) ?_
    refine lv_iconst (v := (-1)) hx hb dX6_barredBy_24 (by decide) ?_
    refine lv_icmp_eq (tgt := 101) hx hb dX6_barredBy_25 (by decide) (fun q_25 => ?_) (fun q_25 => ?_)
    · have h := h.1 q_25
      exact ((wB_X6_barredBy_101 S   _ _ _ h)) H locs ls hw (lv_sub hl [0, 2] rfl)
    · have h := h.2 q_25
      refine lv_iload_n hx hb dX6_barredBy_28 rfl (lv_at hl 2 rfl) ?_
      refine lv_iconst (v := (-1)) hx hb dX6_barredBy_29 (by decide) ?_
      refine lv_icmp_ne (tgt := 101) hx hb dX6_barredBy_30 (by decide) (fun q_30 => ?_) (fun q_30 => ?_)
      · have h := h.1 q_30
        exact ((wB_X6_barredBy_101 S   _ _ _ h)) H locs ls hw (lv_sub hl [0, 2] rfl)
      · have h := h.2 q_30
        refine lv_aload_n hx hb dX6_barredBy_33 rfl (lv_at hl 0 rfl) ?_
        obtain ⟨y34_1, hy_1, h⟩ := h
        refine gf_X6_7 S.1 hw k_0 hy_1 dX6_barredBy_34 ?_
        refine lv_bipush (v := 8) hx hb dX6_barredBy_37 (by decide) ?_
        refine lv_iload_n hx hb dX6_barredBy_39 rfl (lv_at hl 3 rfl) ?_
        refine lv_iadd hx hb dX6_barredBy_40 ?_
        obtain ⟨k_2, h⟩ := h
        obtain ⟨i_41, h⟩ := h
        refine wo_iald S.1 hw k_2 i_41 dX6_barredBy_41 ?_
        refine lv_istore (lv' := [(4, .int (mA M17 y34_1 (8 + v3).toNatClampNeg)), (0, .ref a0), (1, .int v1), (2, .int v2), (3, .int v3)]) hx hb dX6_barredBy_42 hl (by decide) rfl (fun ls hl => ?_)
        refine lv_iload hx hb dX6_barredBy_44 (lv_at hl 0 rfl) ?_
        refine lv_if_le (tgt := 95) hx hb dX6_barredBy_46 (by decide) (fun q_46 => ?_) (fun q_46 => ?_)
        · have h := h.1 q_46
          exact ((wB_X6_barredBy_95 S  hK15 _ _ _ _ _ h)) H locs ls hw (lv_sub hl [1, 2, 3, 4] rfl)
        · have h := h.2 q_46
          refine lv_aload_n hx hb dX6_barredBy_49 rfl (lv_at hl 1 rfl) ?_
          obtain ⟨y50_3, hy_3, h⟩ := h
          refine gf_X6_19 S.1 hw k_0 hy_3 dX6_barredBy_50 ?_
          refine lv_iload_n hx hb dX6_barredBy_53 rfl (lv_at hl 4 rfl) ?_
          obtain ⟨k_4, h⟩ := h
          obtain ⟨i_54, h⟩ := h
          refine wo_iald S.1 hw k_4 i_54 dX6_barredBy_54 ?_
          refine lv_iload_n hx hb dX6_barredBy_55 rfl (lv_at hl 2 rfl) ?_
          refine lv_icmp_eq (tgt := 95) hx hb dX6_barredBy_56 (by decide) (fun q_56 => ?_) (fun q_56 => ?_)
          · have h := h.1 q_56
            exact ((wB_X6_barredBy_95 S  hK15 _ _ _ _ _ h)) H locs ls hw (lv_sub hl [1, 2, 3, 4] rfl)
          · have h := h.2 q_56
            refine lv_aload_n hx hb dX6_barredBy_59 rfl (lv_at hl 1 rfl) ?_
            refine gf_X6_7 S.1 hw k_0 hy_1 dX6_barredBy_60 ?_
            refine lv_bipush (v := 8) hx hb dX6_barredBy_63 (by decide) ?_
            refine lv_iload_n hx hb dX6_barredBy_65 rfl (lv_at hl 4 rfl) ?_
            refine lv_iadd hx hb dX6_barredBy_66 ?_
            refine lv_iconst (v := 0) hx hb dX6_barredBy_67 (by decide) ?_
            obtain ⟨i_68, h⟩ := h
            refine wo_iast S.1 hw k_2 i_68 dX6_barredBy_68 (fun H locs hw => ?_)
            refine lv_aload_n hx hb dX6_barredBy_69 rfl (lv_at hl 1 rfl) ?_
            refine lv_iload_n hx hb dX6_barredBy_70 rfl (lv_at hl 2 rfl) ?_
            refine cv_i (As := [.int v1]) (rest := []) S.1 hw (k_X6_way l E Z (setA M17 y34_1 (upd (mA M17 y34_1) (8 + v3).toNatClampNeg 0)) a0 v1 _ h) wv_X6_139 yc_X6_way ⟨rfl, rfl⟩ ⟨Nat.le_of_ble_eq_true rfl, Nat.le_of_ble_eq_true rfl⟩ rfl hl.1 (Nat.le_of_ble_eq_true rfl) (ci := 6) (q := (RX6, TX6, 12)) rfl rfl (by rw [k_0]; decide) (cell_6 k_0) ⟨Nat.le_of_ble_eq_true rfl, Nat.le_of_ble_eq_true rfl⟩ dX6_barredBy_71 (fun r71 M71 H locs h hw => ?_)
            refine lv_iconst (v := (-1)) hx hb dX6_barredBy_74 (by decide) ?_
            refine lv_icmp_ne (tgt := 82) hx hb dX6_barredBy_75 (by decide) (fun q_75 => ?_) (fun q_75 => ?_)
            · have h := h.1 q_75
              refine lv_iload_n hx hb dX6_barredBy_82 rfl (lv_at hl 4 rfl) ?_
              exact ((wB_X6_barredBy_83 S  (fun M1 a0 v1 v2 v3 h => (wB_X6_barredBy_95 S  hK15 _ _ _ _ _ h)) _ _ _ _ _ _ h)) H locs ls hw (lv_sub hl [1, 2, 4, 0] rfl)
            · have h := h.2 q_75
              refine lv_iconst (v := (-1)) hx hb dX6_barredBy_78 (by decide) ?_
              refine lv_goto (tgt := 83) hx hb dX6_barredBy_79 (by decide) ?_
              exact ((wB_X6_barredBy_83 S  (fun M1 a0 v1 v2 v3 h => (wB_X6_barredBy_95 S  hK15 _ _ _ _ _ h)) _ _ _ _ _ _ h)) H locs ls hw (lv_sub hl [1, 2, 4, 0] rfl)
theorem wL_X6_barredBy_15 (S : Cx p m c meth cX6_barredBy 5 s args RX6 (some .int)) {Q : Int32 → MM → Prop}   : ∀ (n : Nat) (M : MM) (a0 : Nat) (v1 : Int32) (v2 : Int32) (v3 : Int32), L_X6_barredBy_15 Z Q   n M a0 v1 v2 v3 → WG p l e rm_X6_barredBy s m args below meth c 0 0 (MQi below E Z args s Q) E Z M 15 5 [(0, .ref a0), (1, .int v1), (2, .int v2), (3, .int v3)] []
  | 0, _, _, _, _, _, h => False.elim h
  | n + 1, M, a0, v1, v2, v3, h => wB_X6_barredBy_15 S  (wL_X6_barredBy_15 S   n) M a0 v1 v2 v3 h
set_option maxRecDepth 100000 in
set_option maxHeartbeats 4000000 in
theorem wB_X6_barredBy_0 (S : Cx p m c meth cX6_barredBy 5 s args RX6 (some .int)) {Q : Int32 → MM → Prop}   (M : MM) (a0 : Nat) (h : B_X6_barredBy_0 Z Q  M a0) : WG p l e rm_X6_barredBy s m args below meth c 0 0 (MQi below E Z args s Q) E Z M 0 5 [(0, .ref a0)] [] := by
  intro H locs ls hw hl
  have hx := S.1.1
  have hb := S.1.2.1
  refine lv_aload_n hx hb dX6_barredBy_0 rfl (lv_at hl 0 rfl) ?_
  obtain ⟨k_0, h⟩ := h
  refine cv_v (As := []) (rest := []) S.1 hw (k_X6_findsBlocks l E Z M a0  _ h) wv_X6_146 yc_X6_findsBlocks ⟨rfl, rfl⟩ ⟨Nat.le_of_ble_eq_true rfl, Nat.le_of_ble_eq_true rfl⟩ rfl hl.1 (Nat.le_of_ble_eq_true rfl) (ci := 6) (q := (RX6, TX6, 12)) rfl rfl (by rw [k_0]; decide) (cell_6 k_0) ⟨Nat.le_of_ble_eq_true rfl, Nat.le_of_ble_eq_true rfl⟩ dX6_barredBy_1 (fun M1 H locs h hw => ?_)
  refine lv_aload_n hx hb dX6_barredBy_4 rfl (lv_at hl 0 rfl) ?_
  refine lv_iconst (v := 0) hx hb dX6_barredBy_5 (by decide) ?_
  refine lv_iconst (v := 0) hx hb dX6_barredBy_6 (by decide) ?_
  refine cv_i (As := [.int 0, .int 0]) (rest := []) S.1 hw (k_X6_nextLoose l E Z M1 a0 0 0 _ h) wv_X6_152 yc_X6_nextLoose ⟨rfl, rfl⟩ ⟨Nat.le_of_ble_eq_true rfl, Nat.le_of_ble_eq_true rfl⟩ rfl hl.1 (Nat.le_of_ble_eq_true rfl) (ci := 6) (q := (RX6, TX6, 12)) rfl rfl (by rw [k_0]; decide) (cell_6 k_0) ⟨Nat.le_of_ble_eq_true rfl, Nat.le_of_ble_eq_true rfl⟩ dX6_barredBy_7 (fun r7 M7 H locs h hw => ?_)
  refine lv_istore_n (lv' := [(1, .int r7), (0, .ref a0)]) hx hb dX6_barredBy_10 rfl hl (by decide) rfl (fun ls hl => ?_)
  refine lv_iconst (v := (-1)) hx hb dX6_barredBy_11 (by decide) ?_
  refine lv_istore_n (lv' := [(2, .int (-1)), (1, .int r7), (0, .ref a0)]) hx hb dX6_barredBy_12 rfl hl (by decide) rfl (fun ls hl => ?_)
  refine lv_iconst (v := 0) hx hb dX6_barredBy_13 (by decide) ?_
  refine lv_istore_n (lv' := [(3, .int 0), (2, .int (-1)), (1, .int r7), (0, .ref a0)]) hx hb dX6_barredBy_14 rfl hl (by decide) rfl (fun ls hl => ?_)
  exact ((Exists.elim h (fun n h => wL_X6_barredBy_15 S   n _ _ _ _ _ h))) H locs ls hw (lv_sub hl [3, 2, 1, 0] rfl)
set_option maxRecDepth 100000 in
set_option maxHeartbeats 4000000 in
theorem k_X6_barredBy (l : Launch) (E : EE) (Z : ZZ) (M : MM) (a0 : Nat) (Q : Int32 → MM → Prop) (h : P_X6_barredBy Z M a0 Q) : Ct_i l yX6_barredBy cX6_barredBy 5 (some .int) rm_X6_barredBy E Z M [.ref a0] Q := by
  refine Met.ofW (cc := cX6_barredBy) (maxL := 5) (ret := some .int) (by decide) rfl ?_
  intro p e s m args below meth c s₁ B hml hv
  obtain ⟨rfl, hK, hP, hD, hZ⟩ := hv
  have S : Cx p m c meth cX6_barredBy 5 s _ RX6 (some .int) := ⟨⟨B.exec, B.bytes, hml, findClass_of_methodNamed B.named, fun w hw => atoms_spec (ws := ws_ yX6_barredBy cX6_barredBy 5 (some .int)) B.pre w (List.mem_cons_of_mem _ hw)⟩, B.returns, B.notSynchronized⟩
  have hl := lv_entry ([.ref a0]) (n := 5) (Nat.le_of_ble_eq_true rfl)
  rw [lg_entry_eq]
  generalize (lg_sl ([.ref a0]) ++ List.replicate (5 - (lg_sl ([.ref a0])).length) Slot.unset).toArray = ls at hl ⊢
  exact (wB_X6_barredBy_0 S  M a0 h) s.heap [] ls ⟨hK, hP, hD, va_S.rf, hZ⟩ hl
set_option maxRecDepth 100000 in
set_option maxHeartbeats 4000000 in
theorem wB_X6_append_0 (S : Cx p m c meth cX6_append 2 s args RX6 (some .int)) {Q : Int32 → MM → Prop}   (M : MM) (a0 : Nat) (v1 : Int32) (h : B_X6_append_0 Z Q  M a0 v1) : WG p l e rm_X6_append s m args below meth c 0 0 (MQi below E Z args s Q) E Z M 0 2 [(0, .ref a0), (1, .int v1)] [] := by
  intro H locs ls hw hl
  have hx := S.1.1
  have hb := S.1.2.1
  have hown := S.1.2.2.2.1
  have hts := S.1.2.2.2.2
  refine lv_iload_n hx hb dX6_append_0 rfl (lv_at hl 1 rfl) ?_
  refine lv_i2l (v := v1.toInt64) hx hb dX6_append_1 rfl ?_
  refine lv_lconst (v := 0) hx hb dX6_append_2 (by decide) ?_
  refine lv_ldc2 (v := 127) hx hb hown (hts _ wq_X6_196) dX6_append_3 ?_
  refine cs_i (As := [.long v1.toInt64, .long 0, .long 127]) (rest := []) S.1 hw (k_X6_in l E Z M v1.toInt64 0 127 _ h) wv_X6_49 yc_X6_in ⟨rfl, rfl⟩ ⟨Nat.le_of_ble_eq_true rfl, Nat.le_of_ble_eq_true rfl⟩ rfl hl.1 (Nat.le_of_ble_eq_true rfl) ⟨Nat.le_of_ble_eq_true rfl, Nat.le_of_ble_eq_true rfl⟩ dX6_append_6 (fun r6 M6 H locs h hw => ?_)
  refine lv_if_ne (tgt := 18) hx hb dX6_append_9 (by decide) (fun q_9 => ?_) (fun q_9 => ?_)
  · have h := h.1 q_9
    refine lv_aload_n hx hb dX6_append_18 rfl (lv_at hl 0 rfl) ?_
    obtain ⟨k_0, h⟩ := h
    refine gf_X6_198 S.1 hw k_0 dX6_append_19 ?_
    refine lv_bipush (v := 60) hx hb dX6_append_22 (by decide) ?_
    refine lv_icmp_ne (tgt := 33) hx hb dX6_append_24 (by decide) (fun q_24 => ?_) (fun q_24 => ?_)
    · have h := h.1 q_24
      refine lv_aload_n hx hb dX6_append_33 rfl (lv_at hl 0 rfl) ?_
      obtain ⟨y34_1, hy_1, h⟩ := h
      refine gf_X6_28 S.1 hw k_0 hy_1 dX6_append_34 ?_
      refine lv_aload_n hx hb dX6_append_37 rfl (lv_at hl 0 rfl) ?_
      refine gf_X6_198 S.1 hw k_0 dX6_append_38 ?_
      refine lv_iload_n hx hb dX6_append_41 rfl (lv_at hl 1 rfl) ?_
      obtain ⟨k_2, h⟩ := h
      obtain ⟨i_42, h⟩ := h
      refine wo_iast S.1 hw k_2 i_42 dX6_append_42 (fun H locs hw => ?_)
      refine lv_aload_n hx hb dX6_append_43 rfl (lv_at hl 0 rfl) ?_
      refine lv_dup hx hb dX6_append_44 rfl ?_
      refine gf_X6_198 S.1 hw k_0 dX6_append_45 ?_
      refine lv_iconst (v := 1) hx hb dX6_append_48 (by decide) ?_
      refine lv_iadd hx hb dX6_append_49 ?_
      refine pf_X6_198 S.1 hw k_0 dX6_append_50 (fun H locs hw => ?_)
      refine lv_aload_n hx hb dX6_append_53 rfl (lv_at hl 0 rfl) ?_
      refine lv_aload_n hx hb dX6_append_54 rfl (lv_at hl 0 rfl) ?_
      refine gf_X6_198 S.1 hw k_0 dX6_append_55 ?_
      refine cv_i (As := [.int (mI (setI (setA M6 y34_1 (upd (mA M6 y34_1) (mI M6 16 a0).toNatClampNeg v1)) 16 a0 ((mI (setA M6 y34_1 (upd (mA M6 y34_1) (mI M6 16 a0).toNatClampNeg v1)) 16 a0) + 1)) 16 a0)]) (rest := []) S.1 hw (k_X6_fine l E Z (setI (setA M6 y34_1 (upd (mA M6 y34_1) (mI M6 16 a0).toNatClampNeg v1)) 16 a0 ((mI (setA M6 y34_1 (upd (mA M6 y34_1) (mI M6 16 a0).toNatClampNeg v1)) 16 a0) + 1)) a0 (mI (setI (setA M6 y34_1 (upd (mA M6 y34_1) (mI M6 16 a0).toNatClampNeg v1)) 16 a0 ((mI (setA M6 y34_1 (upd (mA M6 y34_1) (mI M6 16 a0).toNatClampNeg v1)) 16 a0) + 1)) 16 a0) _ h) wv_X6_66 yc_X6_fine ⟨rfl, rfl⟩ ⟨Nat.le_of_ble_eq_true rfl, Nat.le_of_ble_eq_true rfl⟩ rfl hl.1 (Nat.le_of_ble_eq_true rfl) (ci := 6) (q := (RX6, TX6, 12)) rfl rfl (by rw [k_0]; decide) (cell_6 k_0) ⟨Nat.le_of_ble_eq_true rfl, Nat.le_of_ble_eq_true rfl⟩ dX6_append_58 (fun r58 M58 H locs h hw => ?_)
      exact we_i S hw h dX6_append_61
    · have h := h.2 q_24
      refine lv_aload_n hx hb dX6_append_27 rfl (lv_at hl 0 rfl) ?_
      refine lv_iconst (v := 2) hx hb dX6_append_28 (by decide) ?_
      refine cv_i (As := [.int 2]) (rest := []) S.1 hw (k_X6_throwing l E Z M6 a0 2 _ h) wv_X6_59 yc_X6_throwing ⟨rfl, rfl⟩ ⟨Nat.le_of_ble_eq_true rfl, Nat.le_of_ble_eq_true rfl⟩ rfl hl.1 (Nat.le_of_ble_eq_true rfl) (ci := 6) (q := (RX6, TX6, 12)) rfl rfl (by rw [k_0]; decide) (cell_6 k_0) ⟨Nat.le_of_ble_eq_true rfl, Nat.le_of_ble_eq_true rfl⟩ dX6_append_29 (fun r29 M29 H locs h hw => ?_)
      exact we_i S hw h dX6_append_32
  · have h := h.2 q_9
    refine lv_aload_n hx hb dX6_append_12 rfl (lv_at hl 0 rfl) ?_
    refine lv_iconst (v := 1) hx hb dX6_append_13 (by decide) ?_
    obtain ⟨k_3, h⟩ := h
    refine cv_i (As := [.int 1]) (rest := []) S.1 hw (k_X6_throwing l E Z M6 a0 1 _ h) wv_X6_59 yc_X6_throwing ⟨rfl, rfl⟩ ⟨Nat.le_of_ble_eq_true rfl, Nat.le_of_ble_eq_true rfl⟩ rfl hl.1 (Nat.le_of_ble_eq_true rfl) (ci := 6) (q := (RX6, TX6, 12)) rfl rfl (by rw [k_3]; decide) (cell_6 k_3) ⟨Nat.le_of_ble_eq_true rfl, Nat.le_of_ble_eq_true rfl⟩ dX6_append_14 (fun r14 M14 H locs h hw => ?_)
    exact we_i S hw h dX6_append_17
set_option maxRecDepth 100000 in
set_option maxHeartbeats 4000000 in
theorem k_X6_append (l : Launch) (E : EE) (Z : ZZ) (M : MM) (a0 : Nat) (v1 : Int32) (Q : Int32 → MM → Prop) (h : P_X6_append Z M a0 v1 Q) : Ct_i l yX6_append cX6_append 2 (some .int) rm_X6_append E Z M [.ref a0, .int v1] Q := by
  refine Met.ofW (cc := cX6_append) (maxL := 2) (ret := some .int) (by decide) rfl ?_
  intro p e s m args below meth c s₁ B hml hv
  obtain ⟨rfl, hK, hP, hD, hZ⟩ := hv
  have S : Cx p m c meth cX6_append 2 s _ RX6 (some .int) := ⟨⟨B.exec, B.bytes, hml, findClass_of_methodNamed B.named, fun w hw => atoms_spec (ws := ws_ yX6_append cX6_append 2 (some .int)) B.pre w (List.mem_cons_of_mem _ hw)⟩, B.returns, B.notSynchronized⟩
  have hl := lv_entry ([.ref a0, .int v1]) (n := 2) (Nat.le_of_ble_eq_true rfl)
  rw [lg_entry_eq]
  generalize (lg_sl ([.ref a0, .int v1]) ++ List.replicate (2 - (lg_sl ([.ref a0, .int v1])).length) Slot.unset).toArray = ls at hl ⊢
  exact (wB_X6_append_0 S  M a0 v1 h) s.heap [] ls ⟨hK, hP, hD, va_S.rf, hZ⟩ hl
set_option maxRecDepth 100000 in
set_option maxHeartbeats 4000000 in
theorem wB_X6_clearText_0 (S : Cx p m c meth cX6_clearText 2 s args RX6 (some .int)) {Q : Int32 → MM → Prop}   (M : MM) (a0 : Nat) (h : B_X6_clearText_0 Z Q  M a0) : WG p l e rm_X6_clearText s m args below meth c 0 0 (MQi below E Z args s Q) E Z M 0 2 [(0, .ref a0)] [] := by
  intro H locs ls hw hl
  have hx := S.1.1
  have hb := S.1.2.1
  refine lv_aload_n hx hb dX6_clearText_0 rfl (lv_at hl 0 rfl) ?_
  obtain ⟨k_0, h⟩ := h
  refine gf_X6_198 S.1 hw k_0 dX6_clearText_1 ?_
  refine lv_istore_n (lv' := [(1, .int (mI M 16 a0)), (0, .ref a0)]) hx hb dX6_clearText_4 rfl hl (by decide) rfl (fun ls hl => ?_)
  refine lv_aload_n hx hb dX6_clearText_5 rfl (lv_at hl 1 rfl) ?_
  refine lv_iconst (v := 0) hx hb dX6_clearText_6 (by decide) ?_
  refine pf_X6_198 S.1 hw k_0 dX6_clearText_7 (fun H locs hw => ?_)
  refine lv_aload_n hx hb dX6_clearText_10 rfl (lv_at hl 1 rfl) ?_
  refine lv_iload_n hx hb dX6_clearText_11 rfl (lv_at hl 0 rfl) ?_
  refine cv_i (As := [.int (mI M 16 a0)]) (rest := []) S.1 hw (k_X6_fine l E Z (setI M 16 a0 0) a0 (mI M 16 a0) _ h) wv_X6_66 yc_X6_fine ⟨rfl, rfl⟩ ⟨Nat.le_of_ble_eq_true rfl, Nat.le_of_ble_eq_true rfl⟩ rfl hl.1 (Nat.le_of_ble_eq_true rfl) (ci := 6) (q := (RX6, TX6, 12)) rfl rfl (by rw [k_0]; decide) (cell_6 k_0) ⟨Nat.le_of_ble_eq_true rfl, Nat.le_of_ble_eq_true rfl⟩ dX6_clearText_12 (fun r12 M12 H locs h hw => ?_)
  exact we_i S hw h dX6_clearText_15
set_option maxRecDepth 100000 in
set_option maxHeartbeats 4000000 in
theorem k_X6_clearText (l : Launch) (E : EE) (Z : ZZ) (M : MM) (a0 : Nat) (Q : Int32 → MM → Prop) (h : P_X6_clearText Z M a0 Q) : Ct_i l yX6_clearText cX6_clearText 2 (some .int) rm_X6_clearText E Z M [.ref a0] Q := by
  refine Met.ofW (cc := cX6_clearText) (maxL := 2) (ret := some .int) (by decide) rfl ?_
  intro p e s m args below meth c s₁ B hml hv
  obtain ⟨rfl, hK, hP, hD, hZ⟩ := hv
  have S : Cx p m c meth cX6_clearText 2 s _ RX6 (some .int) := ⟨⟨B.exec, B.bytes, hml, findClass_of_methodNamed B.named, fun w hw => atoms_spec (ws := ws_ yX6_clearText cX6_clearText 2 (some .int)) B.pre w (List.mem_cons_of_mem _ hw)⟩, B.returns, B.notSynchronized⟩
  have hl := lv_entry ([.ref a0]) (n := 2) (Nat.le_of_ble_eq_true rfl)
  rw [lg_entry_eq]
  generalize (lg_sl ([.ref a0]) ++ List.replicate (2 - (lg_sl ([.ref a0])).length) Slot.unset).toArray = ls at hl ⊢
  exact (wB_X6_clearText_0 S  M a0 h) s.heap [] ls ⟨hK, hP, hD, va_S.rf, hZ⟩ hl
set_option maxRecDepth 100000 in
set_option maxHeartbeats 4000000 in
theorem wB_X6_here_0 (S : Cx p m c meth cX6_here 2 s args RX6 (some .int)) {Q : Int32 → MM → Prop}   (M : MM) (a0 : Nat) (v1 : Int32) (h : B_X6_here_0 Z Q  M a0 v1) : WG p l e rm_X6_here s m args below meth c 0 0 (MQi below E Z args s Q) E Z M 0 2 [(0, .ref a0), (1, .int v1)] [] := by
  intro H locs ls hw hl
  have hx := S.1.1
  have hb := S.1.2.1
  refine lv_iload_n hx hb dX6_here_0 rfl (lv_at hl 1 rfl) ?_
  refine lv_aload_n hx hb dX6_here_1 rfl (lv_at hl 0 rfl) ?_
  obtain ⟨k_0, h⟩ := h
  refine gf_X6_198 S.1 hw k_0 dX6_here_2 ?_
  refine lv_icmp_ge (tgt := 17) hx hb dX6_here_5 (by decide) (fun q_5 => ?_) (fun q_5 => ?_)
  · have h := h.1 q_5
    refine lv_iconst (v := (-1)) hx hb dX6_here_17 (by decide) ?_
    exact we_i S hw h dX6_here_18
  · have h := h.2 q_5
    refine lv_aload_n hx hb dX6_here_8 rfl (lv_at hl 0 rfl) ?_
    obtain ⟨y9_1, hy_1, h⟩ := h
    refine gf_X6_28 S.1 hw k_0 hy_1 dX6_here_9 ?_
    refine lv_iload_n hx hb dX6_here_12 rfl (lv_at hl 1 rfl) ?_
    obtain ⟨k_2, h⟩ := h
    obtain ⟨i_13, h⟩ := h
    refine wo_iald S.1 hw k_2 i_13 dX6_here_13 ?_
    refine lv_goto (tgt := 18) hx hb dX6_here_14 (by decide) ?_
    exact we_i S hw h dX6_here_18
set_option maxRecDepth 100000 in
set_option maxHeartbeats 4000000 in
theorem k_X6_here (l : Launch) (E : EE) (Z : ZZ) (M : MM) (a0 : Nat) (v1 : Int32) (Q : Int32 → MM → Prop) (h : P_X6_here Z M a0 v1 Q) : Ct_i l yX6_here cX6_here 2 (some .int) rm_X6_here E Z M [.ref a0, .int v1] Q := by
  refine Met.ofW (cc := cX6_here) (maxL := 2) (ret := some .int) (by decide) rfl ?_
  intro p e s m args below meth c s₁ B hml hv
  obtain ⟨rfl, hK, hP, hD, hZ⟩ := hv
  have S : Cx p m c meth cX6_here 2 s _ RX6 (some .int) := ⟨⟨B.exec, B.bytes, hml, findClass_of_methodNamed B.named, fun w hw => atoms_spec (ws := ws_ yX6_here cX6_here 2 (some .int)) B.pre w (List.mem_cons_of_mem _ hw)⟩, B.returns, B.notSynchronized⟩
  have hl := lv_entry ([.ref a0, .int v1]) (n := 2) (Nat.le_of_ble_eq_true rfl)
  rw [lg_entry_eq]
  generalize (lg_sl ([.ref a0, .int v1]) ++ List.replicate (2 - (lg_sl ([.ref a0, .int v1])).length) Slot.unset).toArray = ls at hl ⊢
  exact (wB_X6_here_0 S  M a0 v1 h) s.heap [] ls ⟨hK, hP, hD, va_S.rf, hZ⟩ hl
set_option maxRecDepth 100000 in
set_option maxHeartbeats 4000000 in
theorem wB_X6_behindDigits_2 (S : Cx p m c meth cX6_behindDigits 4 s args RX6 (some .int)) {Q : Int32 → MM → Prop} {K2 : MM → Nat → Int32 → Int32 → Int32 → Prop} (hK2 : ∀ (M : MM) (a0 : Nat) (v1 : Int32) (v2 : Int32) (v3 : Int32), K2 M a0 v1 v2 v3 → WG p l e rm_X6_behindDigits s m args below meth c 0 0 (MQi below E Z args s Q) E Z M 2 4 [(0, .ref a0), (1, .int v1), (2, .int v2), (3, .int v3)] []) (M : MM) (a0 : Nat) (v1 : Int32) (v2 : Int32) (v3 : Int32) (h : B_X6_behindDigits_2 Z Q K2 M a0 v1 v2 v3) : WG p l e rm_X6_behindDigits s m args below meth c 0 0 (MQi below E Z args s Q) E Z M 2 4 [(0, .ref a0), (1, .int v1), (2, .int v2), (3, .int v3)] [] := by
  intro H locs ls hw hl
  have hx := S.1.1
  have hb := S.1.2.1
  have hown := S.1.2.2.2.1
  have hts := S.1.2.2.2.2
  refine lv_aload_n hx hb dX6_behindDigits_2 rfl (lv_at hl 0 rfl) ?_
  refine lv_iload_n hx hb dX6_behindDigits_3 rfl (lv_at hl 3 rfl) ?_
  obtain ⟨k_0, h⟩ := h
  refine cv_i (As := [.int v3]) (rest := []) S.1 hw (k_X6_here l E Z M a0 v3 _ h) wv_X6_201 yc_X6_here ⟨rfl, rfl⟩ ⟨Nat.le_of_ble_eq_true rfl, Nat.le_of_ble_eq_true rfl⟩ rfl hl.1 (Nat.le_of_ble_eq_true rfl) (ci := 6) (q := (RX6, TX6, 12)) rfl rfl (by rw [k_0]; decide) (cell_6 k_0) ⟨Nat.le_of_ble_eq_true rfl, Nat.le_of_ble_eq_true rfl⟩ dX6_behindDigits_4 (fun r4 M4 H locs h hw => ?_)
  refine lv_i2l (v := r4.toInt64) hx hb dX6_behindDigits_7 rfl ?_
  refine lv_ldc2 (v := 48) hx hb hown (hts _ wq_X6_204) dX6_behindDigits_8 ?_
  refine lv_ldc2 (v := 57) hx hb hown (hts _ wq_X6_206) dX6_behindDigits_11 ?_
  refine cs_i (As := [.long r4.toInt64, .long 48, .long 57]) (rest := []) S.1 hw (k_X6_in l E Z M4 r4.toInt64 48 57 _ h) wv_X6_49 yc_X6_in ⟨rfl, rfl⟩ ⟨Nat.le_of_ble_eq_true rfl, Nat.le_of_ble_eq_true rfl⟩ rfl hl.1 (Nat.le_of_ble_eq_true rfl) ⟨Nat.le_of_ble_eq_true rfl, Nat.le_of_ble_eq_true rfl⟩ dX6_behindDigits_14 (fun r14 M14 H locs h hw => ?_)
  refine lv_if_eq (tgt := 33) hx hb dX6_behindDigits_17 (by decide) (fun q_17 => ?_) (fun q_17 => ?_)
  · have h := h.1 q_17
    refine lv_iload_n hx hb dX6_behindDigits_33 rfl (lv_at hl 3 rfl) ?_
    exact we_i S hw h dX6_behindDigits_34
  · have h := h.2 q_17
    refine lv_iload_n hx hb dX6_behindDigits_20 rfl (lv_at hl 3 rfl) ?_
    refine lv_iload_n hx hb dX6_behindDigits_21 rfl (lv_at hl 1 rfl) ?_
    refine lv_isub hx hb dX6_behindDigits_22 ?_
    refine lv_iload_n hx hb dX6_behindDigits_23 rfl (lv_at hl 2 rfl) ?_
    refine lv_icmp_ge (tgt := 33) hx hb dX6_behindDigits_24 (by decide) (fun q_24 => ?_) (fun q_24 => ?_)
    · have h := h.1 q_24
      refine lv_iload_n hx hb dX6_behindDigits_33 rfl (lv_at hl 3 rfl) ?_
      exact we_i S hw h dX6_behindDigits_34
    · have h := h.2 q_24
      refine lv_iinc (v := (v3 + 1)) (lv' := [(3, .int (v3 + 1)), (0, .ref a0), (1, .int v1), (2, .int v2)]) hx hb dX6_behindDigits_27 hl (k := 3) rfl rfl (by decide) rfl (fun ls hl => ?_)
      refine lv_goto (tgt := 2) hx hb dX6_behindDigits_30 (by decide) ?_
      exact (hK2 _ _ _ _ _ h) H locs ls hw (lv_sub hl [1, 2, 3, 0] rfl)
theorem wL_X6_behindDigits_2 (S : Cx p m c meth cX6_behindDigits 4 s args RX6 (some .int)) {Q : Int32 → MM → Prop}   : ∀ (n : Nat) (M : MM) (a0 : Nat) (v1 : Int32) (v2 : Int32) (v3 : Int32), L_X6_behindDigits_2 Z Q   n M a0 v1 v2 v3 → WG p l e rm_X6_behindDigits s m args below meth c 0 0 (MQi below E Z args s Q) E Z M 2 4 [(0, .ref a0), (1, .int v1), (2, .int v2), (3, .int v3)] []
  | 0, _, _, _, _, _, h => False.elim h
  | n + 1, M, a0, v1, v2, v3, h => wB_X6_behindDigits_2 S  (wL_X6_behindDigits_2 S   n) M a0 v1 v2 v3 h
set_option maxRecDepth 100000 in
set_option maxHeartbeats 4000000 in
theorem wB_X6_behindDigits_0 (S : Cx p m c meth cX6_behindDigits 4 s args RX6 (some .int)) {Q : Int32 → MM → Prop}   (M : MM) (a0 : Nat) (v1 : Int32) (v2 : Int32) (h : B_X6_behindDigits_0 Z Q  M a0 v1 v2) : WG p l e rm_X6_behindDigits s m args below meth c 0 0 (MQi below E Z args s Q) E Z M 0 4 [(0, .ref a0), (1, .int v1), (2, .int v2)] [] := by
  intro H locs ls hw hl
  have hx := S.1.1
  have hb := S.1.2.1
  refine lv_iload_n hx hb dX6_behindDigits_0 rfl (lv_at hl 1 rfl) ?_
  refine lv_istore_n (lv' := [(3, .int v1), (0, .ref a0), (1, .int v1), (2, .int v2)]) hx hb dX6_behindDigits_1 rfl hl (by decide) rfl (fun ls hl => ?_)
  exact ((Exists.elim h (fun n h => wL_X6_behindDigits_2 S   n _ _ _ _ _ h))) H locs ls hw (lv_sub hl [1, 2, 3, 0] rfl)
set_option maxRecDepth 100000 in
set_option maxHeartbeats 4000000 in
theorem k_X6_behindDigits (l : Launch) (E : EE) (Z : ZZ) (M : MM) (a0 : Nat) (v1 : Int32) (v2 : Int32) (Q : Int32 → MM → Prop) (h : P_X6_behindDigits Z M a0 v1 v2 Q) : Ct_i l yX6_behindDigits cX6_behindDigits 4 (some .int) rm_X6_behindDigits E Z M [.ref a0, .int v1, .int v2] Q := by
  refine Met.ofW (cc := cX6_behindDigits) (maxL := 4) (ret := some .int) (by decide) rfl ?_
  intro p e s m args below meth c s₁ B hml hv
  obtain ⟨rfl, hK, hP, hD, hZ⟩ := hv
  have S : Cx p m c meth cX6_behindDigits 4 s _ RX6 (some .int) := ⟨⟨B.exec, B.bytes, hml, findClass_of_methodNamed B.named, fun w hw => atoms_spec (ws := ws_ yX6_behindDigits cX6_behindDigits 4 (some .int)) B.pre w (List.mem_cons_of_mem _ hw)⟩, B.returns, B.notSynchronized⟩
  have hl := lv_entry ([.ref a0, .int v1, .int v2]) (n := 4) (Nat.le_of_ble_eq_true rfl)
  rw [lg_entry_eq]
  generalize (lg_sl ([.ref a0, .int v1, .int v2]) ++ List.replicate (4 - (lg_sl ([.ref a0, .int v1, .int v2])).length) Slot.unset).toArray = ls at hl ⊢
  exact (wB_X6_behindDigits_0 S  M a0 v1 v2 h) s.heap [] ls ⟨hK, hP, hD, va_S.rf, hZ⟩ hl
set_option maxRecDepth 100000 in
set_option maxHeartbeats 4000000 in
theorem wB_X6_fault_28 (S : Cx p m c meth cX6_fault 3 s args RX6 (some .int)) {Q : Int32 → MM → Prop} {K28 : MM → Nat → Int32 → Prop} (hK28 : ∀ (M : MM) (a0 : Nat) (v1 : Int32), K28 M a0 v1 → WG p l e rm_X6_fault s m args below meth c 0 0 (MQi below E Z args s Q) E Z M 28 3 [(0, .ref a0), (1, .int v1)] []) (M : MM) (a0 : Nat) (v1 : Int32) (h : B_X6_fault_28 Z Q K28 M a0 v1) : WG p l e rm_X6_fault s m args below meth c 0 0 (MQi below E Z args s Q) E Z M 28 3 [(0, .ref a0), (1, .int v1)] [] := by
  intro H locs ls hw hl
  have hx := S.1.1
  have hb := S.1.2.1
  refine lv_iload_n hx hb dX6_fault_28 rfl (lv_at hl 1 rfl) ?_
  refine lv_aload_n hx hb dX6_fault_29 rfl (lv_at hl 0 rfl) ?_
  obtain ⟨k_0, h⟩ := h
  refine gf_X6_198 S.1 hw k_0 dX6_fault_30 ?_
  refine lv_icmp_ge (tgt := 98) hx hb dX6_fault_33 (by decide) (fun q_33 => ?_) (fun q_33 => ?_)
  · have h := h.1 q_33
    refine lv_aload_n hx hb dX6_fault_98 rfl (lv_at hl 0 rfl) ?_
    refine gf_X6_214 S.1 hw k_0 dX6_fault_99 ?_
    refine lv_iconst (v := 2) hx hb dX6_fault_102 (by decide) ?_
    refine lv_icmp_ge (tgt := 110) hx hb dX6_fault_103 (by decide) (fun q_103 => ?_) (fun q_103 => ?_)
    · have h := h.1 q_103
      refine lv_iconst (v := (-1)) hx hb dX6_fault_110 (by decide) ?_
      exact we_i S hw h dX6_fault_111
    · have h := h.2 q_103
      refine lv_iload_n hx hb dX6_fault_106 rfl (lv_at hl 1 rfl) ?_
      refine lv_goto (tgt := 111) hx hb dX6_fault_107 (by decide) ?_
      exact we_i S hw h dX6_fault_111
  · have h := h.2 q_33
    refine lv_aload_n hx hb dX6_fault_36 rfl (lv_at hl 0 rfl) ?_
    refine lv_iload_n hx hb dX6_fault_37 rfl (lv_at hl 1 rfl) ?_
    refine cv_i (As := [.int v1]) (rest := []) S.1 hw (k_X6_here l E Z M a0 v1 _ h) wv_X6_201 yc_X6_here ⟨rfl, rfl⟩ ⟨Nat.le_of_ble_eq_true rfl, Nat.le_of_ble_eq_true rfl⟩ rfl hl.1 (Nat.le_of_ble_eq_true rfl) (ci := 6) (q := (RX6, TX6, 12)) rfl rfl (by rw [k_0]; decide) (cell_6 k_0) ⟨Nat.le_of_ble_eq_true rfl, Nat.le_of_ble_eq_true rfl⟩ dX6_fault_38 (fun r38 M38 H locs h hw => ?_)
    refine lv_bipush (v := 47) hx hb dX6_fault_41 (by decide) ?_
    refine lv_icmp_ne (tgt := 55) hx hb dX6_fault_43 (by decide) (fun q_43 => ?_) (fun q_43 => ?_)
    · have h := h.1 q_43
      refine lv_iload_n hx hb dX6_fault_55 rfl (lv_at hl 1 rfl) ?_
      exact we_i S hw h dX6_fault_56
    · have h := h.2 q_43
      refine lv_aload_n hx hb dX6_fault_46 rfl (lv_at hl 0 rfl) ?_
      refine gf_X6_214 S.1 hw k_0 dX6_fault_47 ?_
      refine lv_bipush (v := 7) hx hb dX6_fault_50 (by decide) ?_
      refine lv_icmp_ne (tgt := 57) hx hb dX6_fault_52 (by decide) (fun q_52 => ?_) (fun q_52 => ?_)
      · have h := h.1 q_52
        refine lv_aload_n hx hb dX6_fault_57 rfl (lv_at hl 0 rfl) ?_
        refine lv_iload_n hx hb dX6_fault_58 rfl (lv_at hl 1 rfl) ?_
        refine lv_iconst (v := 1) hx hb dX6_fault_59 (by decide) ?_
        refine lv_iadd hx hb dX6_fault_60 ?_
        refine lv_aload_n hx hb dX6_fault_61 rfl (lv_at hl 0 rfl) ?_
        refine gf_X6_211 S.1 hw k_0 dX6_fault_62 ?_
        refine cv_i (As := [.int (v1 + 1), .int (mI M38 17 a0)]) (rest := []) S.1 hw (k_X6_behindDigits l E Z M38 a0 (v1 + 1) (mI M38 17 a0) _ h) wv_X6_208 yc_X6_behindDigits ⟨rfl, rfl⟩ ⟨Nat.le_of_ble_eq_true rfl, Nat.le_of_ble_eq_true rfl⟩ rfl hl.1 (Nat.le_of_ble_eq_true rfl) (ci := 6) (q := (RX6, TX6, 12)) rfl rfl (by rw [k_0]; decide) (cell_6 k_0) ⟨Nat.le_of_ble_eq_true rfl, Nat.le_of_ble_eq_true rfl⟩ dX6_fault_65 (fun r65 M65 H locs h hw => ?_)
        refine lv_istore_n (lv' := [(2, .int r65), (0, .ref a0), (1, .int v1)]) hx hb dX6_fault_68 rfl hl (by decide) rfl (fun ls hl => ?_)
        refine lv_iload_n hx hb dX6_fault_69 rfl (lv_at hl 0 rfl) ?_
        refine lv_iload_n hx hb dX6_fault_70 rfl (lv_at hl 2 rfl) ?_
        refine lv_isub hx hb dX6_fault_71 ?_
        refine lv_iconst (v := 1) hx hb dX6_fault_72 (by decide) ?_
        refine lv_isub hx hb dX6_fault_73 ?_
        refine lv_aload_n hx hb dX6_fault_74 rfl (lv_at hl 1 rfl) ?_
        refine gf_X6_211 S.1 hw k_0 dX6_fault_75 ?_
        refine lv_icmp_ge (tgt := 83) hx hb dX6_fault_78 (by decide) (fun q_78 => ?_) (fun q_78 => ?_)
        · have h := h.1 q_78
          refine lv_aload_n hx hb dX6_fault_83 rfl (lv_at hl 1 rfl) ?_
          refine lv_dup hx hb dX6_fault_84 rfl ?_
          refine gf_X6_214 S.1 hw k_0 dX6_fault_85 ?_
          refine lv_iconst (v := 1) hx hb dX6_fault_88 (by decide) ?_
          refine lv_iadd hx hb dX6_fault_89 ?_
          refine pf_X6_214 S.1 hw k_0 dX6_fault_90 (fun H locs hw => ?_)
          refine lv_iload_n hx hb dX6_fault_93 rfl (lv_at hl 0 rfl) ?_
          refine lv_istore_n (lv' := [(1, .int r65), (2, .int r65), (0, .ref a0)]) hx hb dX6_fault_94 rfl hl (by decide) rfl (fun ls hl => ?_)
          refine lv_goto (tgt := 28) hx hb dX6_fault_95 (by decide) ?_
          exact (hK28 _ _ _ h) H locs ls hw (lv_sub hl [2, 0] rfl)
        · have h := h.2 q_78
          refine lv_iload_n hx hb dX6_fault_81 rfl (lv_at hl 0 rfl) ?_
          exact we_i S hw h dX6_fault_82
      · have h := h.2 q_52
        refine lv_iload_n hx hb dX6_fault_55 rfl (lv_at hl 1 rfl) ?_
        exact we_i S hw h dX6_fault_56
theorem wL_X6_fault_28 (S : Cx p m c meth cX6_fault 3 s args RX6 (some .int)) {Q : Int32 → MM → Prop}   : ∀ (n : Nat) (M : MM) (a0 : Nat) (v1 : Int32), L_X6_fault_28 Z Q   n M a0 v1 → WG p l e rm_X6_fault s m args below meth c 0 0 (MQi below E Z args s Q) E Z M 28 3 [(0, .ref a0), (1, .int v1)] []
  | 0, _, _, _, h => False.elim h
  | n + 1, M, a0, v1, h => wB_X6_fault_28 S  (wL_X6_fault_28 S   n) M a0 v1 h
set_option maxRecDepth 100000 in
set_option maxHeartbeats 4000000 in
theorem wB_X6_fault_0 (S : Cx p m c meth cX6_fault 3 s args RX6 (some .int)) {Q : Int32 → MM → Prop}   (M : MM) (a0 : Nat) (h : B_X6_fault_0 Z Q  M a0) : WG p l e rm_X6_fault s m args below meth c 0 0 (MQi below E Z args s Q) E Z M 0 3 [(0, .ref a0)] [] := by
  intro H locs ls hw hl
  have hx := S.1.1
  have hb := S.1.2.1
  refine lv_aload_n hx hb dX6_fault_0 rfl (lv_at hl 0 rfl) ?_
  refine lv_iconst (v := 0) hx hb dX6_fault_1 (by decide) ?_
  refine lv_bipush (v := 7) hx hb dX6_fault_2 (by decide) ?_
  obtain ⟨k_0, h⟩ := h
  refine cv_i (As := [.int 0, .int 7]) (rest := []) S.1 hw (k_X6_behindDigits l E Z M a0 0 7 _ h) wv_X6_208 yc_X6_behindDigits ⟨rfl, rfl⟩ ⟨Nat.le_of_ble_eq_true rfl, Nat.le_of_ble_eq_true rfl⟩ rfl hl.1 (Nat.le_of_ble_eq_true rfl) (ci := 6) (q := (RX6, TX6, 12)) rfl rfl (by rw [k_0]; decide) (cell_6 k_0) ⟨Nat.le_of_ble_eq_true rfl, Nat.le_of_ble_eq_true rfl⟩ dX6_fault_4 (fun r4 M4 H locs h hw => ?_)
  refine lv_istore_n (lv' := [(1, .int r4), (0, .ref a0)]) hx hb dX6_fault_7 rfl hl (by decide) rfl (fun ls hl => ?_)
  refine lv_aload_n hx hb dX6_fault_8 rfl (lv_at hl 1 rfl) ?_
  refine lv_iload_n hx hb dX6_fault_9 rfl (lv_at hl 0 rfl) ?_
  refine pf_X6_211 S.1 hw k_0 dX6_fault_10 (fun H locs hw => ?_)
  refine lv_aload_n hx hb dX6_fault_13 rfl (lv_at hl 1 rfl) ?_
  refine lv_iconst (v := 1) hx hb dX6_fault_14 (by decide) ?_
  refine pf_X6_214 S.1 hw k_0 dX6_fault_15 (fun H locs hw => ?_)
  refine lv_aload_n hx hb dX6_fault_18 rfl (lv_at hl 1 rfl) ?_
  refine gf_X6_211 S.1 hw k_0 dX6_fault_19 ?_
  refine lv_iconst (v := 2) hx hb dX6_fault_22 (by decide) ?_
  refine lv_icmp_ge (tgt := 28) hx hb dX6_fault_23 (by decide) (fun q_23 => ?_) (fun q_23 => ?_)
  · have h := h.1 q_23
    exact ((Exists.elim h (fun n h => wL_X6_fault_28 S   n _ _ _ h))) H locs ls hw (lv_sub hl [1, 0] rfl)
  · have h := h.2 q_23
    refine lv_iload_n hx hb dX6_fault_26 rfl (lv_at hl 0 rfl) ?_
    exact we_i S hw h dX6_fault_27
set_option maxRecDepth 100000 in
set_option maxHeartbeats 4000000 in
theorem k_X6_fault (l : Launch) (E : EE) (Z : ZZ) (M : MM) (a0 : Nat) (Q : Int32 → MM → Prop) (h : P_X6_fault Z M a0 Q) : Ct_i l yX6_fault cX6_fault 3 (some .int) rm_X6_fault E Z M [.ref a0] Q := by
  refine Met.ofW (cc := cX6_fault) (maxL := 3) (ret := some .int) (by decide) rfl ?_
  intro p e s m args below meth c s₁ B hml hv
  obtain ⟨rfl, hK, hP, hD, hZ⟩ := hv
  have S : Cx p m c meth cX6_fault 3 s _ RX6 (some .int) := ⟨⟨B.exec, B.bytes, hml, findClass_of_methodNamed B.named, fun w hw => atoms_spec (ws := ws_ yX6_fault cX6_fault 3 (some .int)) B.pre w (List.mem_cons_of_mem _ hw)⟩, B.returns, B.notSynchronized⟩
  have hl := lv_entry ([.ref a0]) (n := 3) (Nat.le_of_ble_eq_true rfl)
  rw [lg_entry_eq]
  generalize (lg_sl ([.ref a0]) ++ List.replicate (3 - (lg_sl ([.ref a0])).length) Slot.unset).toArray = ls at hl ⊢
  exact (wB_X6_fault_0 S  M a0 h) s.heap [] ls ⟨hK, hP, hD, va_S.rf, hZ⟩ hl
set_option maxRecDepth 100000 in
set_option maxHeartbeats 4000000 in
theorem wB_X6_parse_37 (S : Cx p m c meth cX6_parse 3 s args RX6 (some .int)) {Q : Int32 → MM → Prop} {K37 : MM → Nat → Int32 → Prop} (hK37 : ∀ (M : MM) (a0 : Nat) (v2 : Int32), K37 M a0 v2 → WG p l e rm_X6_parse s m args below meth c 0 0 (MQi below E Z args s Q) E Z M 37 3 [(0, .ref a0), (2, .int v2)] []) (M : MM) (a0 : Nat) (v2 : Int32) (h : B_X6_parse_37 Z Q K37 M a0 v2) : WG p l e rm_X6_parse s m args below meth c 0 0 (MQi below E Z args s Q) E Z M 37 3 [(0, .ref a0), (2, .int v2)] [] := by
  intro H locs ls hw hl
  have hx := S.1.1
  have hb := S.1.2.1
  refine lv_iload_n hx hb dX6_parse_37 rfl (lv_at hl 1 rfl) ?_
  refine lv_aload_n hx hb dX6_parse_38 rfl (lv_at hl 0 rfl) ?_
  obtain ⟨k_0, h⟩ := h
  refine cv_i (As := []) (rest := [.int v2]) S.1 hw (k_X6_cells l E Z M a0  _ h) wv_X6_45 yc_X6_cells ⟨rfl, rfl⟩ ⟨Nat.le_of_ble_eq_true rfl, Nat.le_of_ble_eq_true rfl⟩ rfl hl.1 (Nat.le_of_ble_eq_true rfl) (ci := 6) (q := (RX6, TX6, 12)) rfl rfl (by rw [k_0]; decide) (cell_6 k_0) ⟨Nat.le_of_ble_eq_true rfl, Nat.le_of_ble_eq_true rfl⟩ dX6_parse_39 (fun r39 M39 H locs h hw => ?_)
  refine lv_icmp_ge (tgt := 72) hx hb dX6_parse_42 (by decide) (fun q_42 => ?_) (fun q_42 => ?_)
  · have h := h.1 q_42
    refine lv_aload_n hx hb dX6_parse_72 rfl (lv_at hl 0 rfl) ?_
    refine lv_aload_n hx hb dX6_parse_73 rfl (lv_at hl 0 rfl) ?_
    obtain ⟨y74_1, hy_1, h⟩ := h
    refine gf_X6_7 S.1 hw k_0 hy_1 dX6_parse_74 ?_
    refine lv_iconst (v := 4) hx hb dX6_parse_77 (by decide) ?_
    obtain ⟨k_2, h⟩ := h
    obtain ⟨i_78, h⟩ := h
    refine wo_iald S.1 hw k_2 i_78 dX6_parse_78 ?_
    refine cv_i (As := [.int (mA M39 y74_1 (4 : Int32).toNatClampNeg)]) (rest := []) S.1 hw (k_X6_fine l E Z M39 a0 (mA M39 y74_1 (4 : Int32).toNatClampNeg) _ h) wv_X6_66 yc_X6_fine ⟨rfl, rfl⟩ ⟨Nat.le_of_ble_eq_true rfl, Nat.le_of_ble_eq_true rfl⟩ rfl hl.1 (Nat.le_of_ble_eq_true rfl) (ci := 6) (q := (RX6, TX6, 12)) rfl rfl (by rw [k_0]; decide) (cell_6 k_0) ⟨Nat.le_of_ble_eq_true rfl, Nat.le_of_ble_eq_true rfl⟩ dX6_parse_79 (fun r79 M79 H locs h hw => ?_)
    exact we_i S hw h dX6_parse_82
  · have h := h.2 q_42
    refine lv_aload_n hx hb dX6_parse_45 rfl (lv_at hl 0 rfl) ?_
    refine lv_iload_n hx hb dX6_parse_46 rfl (lv_at hl 1 rfl) ?_
    refine lv_aload_n hx hb dX6_parse_47 rfl (lv_at hl 0 rfl) ?_
    obtain ⟨y48_3, hy_3, h⟩ := h
    refine gf_X6_28 S.1 hw k_0 hy_3 dX6_parse_48 ?_
    refine lv_iload_n hx hb dX6_parse_51 rfl (lv_at hl 1 rfl) ?_
    refine lv_iload_n hx hb dX6_parse_52 rfl (lv_at hl 1 rfl) ?_
    refine lv_aload_n hx hb dX6_parse_53 rfl (lv_at hl 0 rfl) ?_
    refine gf_X6_211 S.1 hw k_0 dX6_parse_54 ?_
    obtain ⟨z_57, h⟩ := h
    refine lv_idiv hx hb dX6_parse_57 z_57 ?_
    refine lv_iadd hx hb dX6_parse_58 ?_
    obtain ⟨k_4, h⟩ := h
    obtain ⟨i_59, h⟩ := h
    refine wo_iald S.1 hw k_4 i_59 dX6_parse_59 ?_
    refine lv_bipush (v := 48) hx hb dX6_parse_60 (by decide) ?_
    refine lv_isub hx hb dX6_parse_62 ?_
    refine cv_v (As := [.int v2, .int ((mA M39 y48_3 (v2 + (v2 / (mI M39 17 a0))).toNatClampNeg) - 48)]) (rest := []) S.1 hw (k_X6_puts l E Z M39 a0 v2 ((mA M39 y48_3 (v2 + (v2 / (mI M39 17 a0))).toNatClampNeg) - 48) _ h) wv_X6_35 yc_X6_puts ⟨rfl, rfl⟩ ⟨Nat.le_of_ble_eq_true rfl, Nat.le_of_ble_eq_true rfl⟩ rfl hl.1 (Nat.le_of_ble_eq_true rfl) (ci := 6) (q := (RX6, TX6, 12)) rfl rfl (by rw [k_0]; decide) (cell_6 k_0) ⟨Nat.le_of_ble_eq_true rfl, Nat.le_of_ble_eq_true rfl⟩ dX6_parse_63 (fun M63 H locs h hw => ?_)
    refine lv_iinc (v := (v2 + 1)) (lv' := [(2, .int (v2 + 1)), (0, .ref a0)]) hx hb dX6_parse_66 hl (k := 1) rfl rfl (by decide) rfl (fun ls hl => ?_)
    refine lv_goto (tgt := 37) hx hb dX6_parse_69 (by decide) ?_
    exact (hK37 _ _ _ h) H locs ls hw (lv_sub hl [1, 0] rfl)
theorem wL_X6_parse_37 (S : Cx p m c meth cX6_parse 3 s args RX6 (some .int)) {Q : Int32 → MM → Prop}   : ∀ (n : Nat) (M : MM) (a0 : Nat) (v2 : Int32), L_X6_parse_37 Z Q   n M a0 v2 → WG p l e rm_X6_parse s m args below meth c 0 0 (MQi below E Z args s Q) E Z M 37 3 [(0, .ref a0), (2, .int v2)] []
  | 0, _, _, _, h => False.elim h
  | n + 1, M, a0, v2, h => wB_X6_parse_37 S  (wL_X6_parse_37 S   n) M a0 v2 h
set_option maxRecDepth 100000 in
set_option maxHeartbeats 4000000 in
theorem wB_X6_parse_0 (S : Cx p m c meth cX6_parse 3 s args RX6 (some .int)) {Q : Int32 → MM → Prop}   (M : MM) (a0 : Nat) (h : B_X6_parse_0 Z Q  M a0) : WG p l e rm_X6_parse s m args below meth c 0 0 (MQi below E Z args s Q) E Z M 0 3 [(0, .ref a0)] [] := by
  intro H locs ls hw hl
  have hx := S.1.1
  have hb := S.1.2.1
  refine lv_aload_n hx hb dX6_parse_0 rfl (lv_at hl 0 rfl) ?_
  obtain ⟨k_0, h⟩ := h
  refine cv_i (As := []) (rest := []) S.1 hw (k_X6_fault l E Z M a0  _ h) wv_X6_217 yc_X6_fault ⟨rfl, rfl⟩ ⟨Nat.le_of_ble_eq_true rfl, Nat.le_of_ble_eq_true rfl⟩ rfl hl.1 (Nat.le_of_ble_eq_true rfl) (ci := 6) (q := (RX6, TX6, 12)) rfl rfl (by rw [k_0]; decide) (cell_6 k_0) ⟨Nat.le_of_ble_eq_true rfl, Nat.le_of_ble_eq_true rfl⟩ dX6_parse_1 (fun r1 M1 H locs h hw => ?_)
  refine lv_istore_n (lv' := [(1, .int r1), (0, .ref a0)]) hx hb dX6_parse_4 rfl hl (by decide) rfl (fun ls hl => ?_)
  refine lv_iload_n hx hb dX6_parse_5 rfl (lv_at hl 0 rfl) ?_
  refine lv_iconst (v := (-1)) hx hb dX6_parse_6 (by decide) ?_
  refine lv_icmp_eq (tgt := 19) hx hb dX6_parse_7 (by decide) (fun q_7 => ?_) (fun q_7 => ?_)
  · have h := h.1 q_7
    refine lv_aload_n hx hb dX6_parse_19 rfl (lv_at hl 1 rfl) ?_
    refine cv_v (As := []) (rest := []) S.1 hw (k_X6_save l E Z M1 a0  _ h) wv_X6_63 yc_X6_save ⟨rfl, rfl⟩ ⟨Nat.le_of_ble_eq_true rfl, Nat.le_of_ble_eq_true rfl⟩ rfl hl.1 (Nat.le_of_ble_eq_true rfl) (ci := 6) (q := (RX6, TX6, 12)) rfl rfl (by rw [k_0]; decide) (cell_6 k_0) ⟨Nat.le_of_ble_eq_true rfl, Nat.le_of_ble_eq_true rfl⟩ dX6_parse_20 (fun M20 H locs h hw => ?_)
    refine lv_aload_n hx hb dX6_parse_23 rfl (lv_at hl 1 rfl) ?_
    refine lv_aload_n hx hb dX6_parse_24 rfl (lv_at hl 1 rfl) ?_
    refine gf_X6_211 S.1 hw k_0 dX6_parse_25 ?_
    refine lv_aload_n hx hb dX6_parse_28 rfl (lv_at hl 1 rfl) ?_
    refine gf_X6_214 S.1 hw k_0 dX6_parse_29 ?_
    refine cv_v (As := [.int (mI M20 17 a0), .int (mI M20 18 a0)]) (rest := []) S.1 hw (k_X6_makes l E Z M20 a0 (mI M20 17 a0) (mI M20 18 a0) _ h) wv_X6_31 yc_X6_makes ⟨rfl, rfl⟩ ⟨Nat.le_of_ble_eq_true rfl, Nat.le_of_ble_eq_true rfl⟩ rfl hl.1 (Nat.le_of_ble_eq_true rfl) (ci := 6) (q := (RX6, TX6, 12)) rfl rfl (by rw [k_0]; decide) (cell_6 k_0) ⟨Nat.le_of_ble_eq_true rfl, Nat.le_of_ble_eq_true rfl⟩ dX6_parse_32 (fun M32 H locs h hw => ?_)
    refine lv_iconst (v := 0) hx hb dX6_parse_35 (by decide) ?_
    refine lv_istore_n (lv' := [(2, .int 0), (1, .int r1), (0, .ref a0)]) hx hb dX6_parse_36 rfl hl (by decide) rfl (fun ls hl => ?_)
    exact ((Exists.elim h (fun n h => wL_X6_parse_37 S   n _ _ _ h))) H locs ls hw (lv_sub hl [2, 0] rfl)
  · have h := h.2 q_7
    refine lv_aload_n hx hb dX6_parse_10 rfl (lv_at hl 1 rfl) ?_
    refine lv_bipush (v := (-10)) hx hb dX6_parse_11 (by decide) ?_
    refine lv_iload_n hx hb dX6_parse_13 rfl (lv_at hl 0 rfl) ?_
    refine lv_isub hx hb dX6_parse_14 ?_
    refine cv_i (As := [.int ((-10) - r1)]) (rest := []) S.1 hw (k_X6_fine l E Z M1 a0 ((-10) - r1) _ h) wv_X6_66 yc_X6_fine ⟨rfl, rfl⟩ ⟨Nat.le_of_ble_eq_true rfl, Nat.le_of_ble_eq_true rfl⟩ rfl hl.1 (Nat.le_of_ble_eq_true rfl) (ci := 6) (q := (RX6, TX6, 12)) rfl rfl (by rw [k_0]; decide) (cell_6 k_0) ⟨Nat.le_of_ble_eq_true rfl, Nat.le_of_ble_eq_true rfl⟩ dX6_parse_15 (fun r15 M15 H locs h hw => ?_)
    exact we_i S hw h dX6_parse_18
set_option maxRecDepth 100000 in
set_option maxHeartbeats 4000000 in
theorem k_X6_parse (l : Launch) (E : EE) (Z : ZZ) (M : MM) (a0 : Nat) (Q : Int32 → MM → Prop) (h : P_X6_parse Z M a0 Q) : Ct_i l yX6_parse cX6_parse 3 (some .int) rm_X6_parse E Z M [.ref a0] Q := by
  refine Met.ofW (cc := cX6_parse) (maxL := 3) (ret := some .int) (by decide) rfl ?_
  intro p e s m args below meth c s₁ B hml hv
  obtain ⟨rfl, hK, hP, hD, hZ⟩ := hv
  have S : Cx p m c meth cX6_parse 3 s _ RX6 (some .int) := ⟨⟨B.exec, B.bytes, hml, findClass_of_methodNamed B.named, fun w hw => atoms_spec (ws := ws_ yX6_parse cX6_parse 3 (some .int)) B.pre w (List.mem_cons_of_mem _ hw)⟩, B.returns, B.notSynchronized⟩
  have hl := lv_entry ([.ref a0]) (n := 3) (Nat.le_of_ble_eq_true rfl)
  rw [lg_entry_eq]
  generalize (lg_sl ([.ref a0]) ++ List.replicate (3 - (lg_sl ([.ref a0])).length) Slot.unset).toArray = ls at hl ⊢
  exact (wB_X6_parse_0 S  M a0 h) s.heap [] ls ⟨hK, hP, hD, va_S.rf, hZ⟩ hl
set_option maxRecDepth 100000 in
set_option maxHeartbeats 4000000 in
theorem wB_X6_undo_25 (S : Cx p m c meth cX6_undo 2 s args RX6 (some .int)) {Q : Int32 → MM → Prop} {K25 : MM → Nat → Int32 → Prop} (hK25 : ∀ (M : MM) (a0 : Nat) (v1 : Int32), K25 M a0 v1 → WG p l e rm_X6_undo s m args below meth c 0 0 (MQi below E Z args s Q) E Z M 25 2 [(0, .ref a0), (1, .int v1)] []) (M : MM) (a0 : Nat) (v1 : Int32) (h : B_X6_undo_25 Z Q K25 M a0 v1) : WG p l e rm_X6_undo s m args below meth c 0 0 (MQi below E Z args s Q) E Z M 25 2 [(0, .ref a0), (1, .int v1)] [] := by
  intro H locs ls hw hl
  have hx := S.1.1
  have hb := S.1.2.1
  refine lv_iload_n hx hb dX6_undo_25 rfl (lv_at hl 1 rfl) ?_
  refine lv_sipush (v := 226) hx hb dX6_undo_26 (by decide) ?_
  refine lv_icmp_ge (tgt := 59) hx hb dX6_undo_29 (by decide) (fun q_29 => ?_) (fun q_29 => ?_)
  · have h := h.1 q_29
    refine lv_aload_n hx hb dX6_undo_59 rfl (lv_at hl 0 rfl) ?_
    refine lv_aload_n hx hb dX6_undo_60 rfl (lv_at hl 0 rfl) ?_
    obtain ⟨k_0, h⟩ := h
    refine gf_X6_42 S.1 hw k_0 dX6_undo_61 ?_
    refine cv_i (As := [.int (mI M 14 a0)]) (rest := []) S.1 hw (k_X6_fine l E Z M a0 (mI M 14 a0) _ h) wv_X6_66 yc_X6_fine ⟨rfl, rfl⟩ ⟨Nat.le_of_ble_eq_true rfl, Nat.le_of_ble_eq_true rfl⟩ rfl hl.1 (Nat.le_of_ble_eq_true rfl) (ci := 6) (q := (RX6, TX6, 12)) rfl rfl (by rw [k_0]; decide) (cell_6 k_0) ⟨Nat.le_of_ble_eq_true rfl, Nat.le_of_ble_eq_true rfl⟩ dX6_undo_64 (fun r64 M64 H locs h hw => ?_)
    exact we_i S hw h dX6_undo_67
  · have h := h.2 q_29
    refine lv_aload_n hx hb dX6_undo_32 rfl (lv_at hl 0 rfl) ?_
    obtain ⟨k_1, h⟩ := h
    obtain ⟨y33_2, hy_2, h⟩ := h
    refine gf_X6_7 S.1 hw k_1 hy_2 dX6_undo_33 ?_
    refine lv_iload_n hx hb dX6_undo_36 rfl (lv_at hl 1 rfl) ?_
    refine lv_aload_n hx hb dX6_undo_37 rfl (lv_at hl 0 rfl) ?_
    obtain ⟨y38_3, hy_3, h⟩ := h
    refine gf_X6_13 S.1 hw k_1 hy_3 dX6_undo_38 ?_
    refine lv_sipush (v := 226) hx hb dX6_undo_41 (by decide) ?_
    refine lv_aload_n hx hb dX6_undo_44 rfl (lv_at hl 0 rfl) ?_
    refine gf_X6_42 S.1 hw k_1 dX6_undo_45 ?_
    refine lv_imul hx hb dX6_undo_48 ?_
    refine lv_iload_n hx hb dX6_undo_49 rfl (lv_at hl 1 rfl) ?_
    refine lv_iadd hx hb dX6_undo_50 ?_
    obtain ⟨k_4, h⟩ := h
    obtain ⟨i_51, h⟩ := h
    refine wo_iald S.1 hw k_4 i_51 dX6_undo_51 ?_
    obtain ⟨k_5, h⟩ := h
    obtain ⟨i_52, h⟩ := h
    refine wo_iast S.1 hw k_5 i_52 dX6_undo_52 (fun H locs hw => ?_)
    refine lv_iinc (v := (v1 + 1)) (lv' := [(1, .int (v1 + 1)), (0, .ref a0)]) hx hb dX6_undo_53 hl (k := 1) rfl rfl (by decide) rfl (fun ls hl => ?_)
    refine lv_goto (tgt := 25) hx hb dX6_undo_56 (by decide) ?_
    exact (hK25 _ _ _ h) H locs ls hw (lv_sub hl [1, 0] rfl)
theorem wL_X6_undo_25 (S : Cx p m c meth cX6_undo 2 s args RX6 (some .int)) {Q : Int32 → MM → Prop}   : ∀ (n : Nat) (M : MM) (a0 : Nat) (v1 : Int32), L_X6_undo_25 Z Q   n M a0 v1 → WG p l e rm_X6_undo s m args below meth c 0 0 (MQi below E Z args s Q) E Z M 25 2 [(0, .ref a0), (1, .int v1)] []
  | 0, _, _, _, h => False.elim h
  | n + 1, M, a0, v1, h => wB_X6_undo_25 S  (wL_X6_undo_25 S   n) M a0 v1 h
set_option maxRecDepth 100000 in
set_option maxHeartbeats 4000000 in
theorem wB_X6_undo_0 (S : Cx p m c meth cX6_undo 2 s args RX6 (some .int)) {Q : Int32 → MM → Prop}   (M : MM) (a0 : Nat) (h : B_X6_undo_0 Z Q  M a0) : WG p l e rm_X6_undo s m args below meth c 0 0 (MQi below E Z args s Q) E Z M 0 2 [(0, .ref a0)] [] := by
  intro H locs ls hw hl
  have hx := S.1.1
  have hb := S.1.2.1
  refine lv_aload_n hx hb dX6_undo_0 rfl (lv_at hl 0 rfl) ?_
  obtain ⟨k_0, h⟩ := h
  refine gf_X6_42 S.1 hw k_0 dX6_undo_1 ?_
  refine lv_if_ne (tgt := 13) hx hb dX6_undo_4 (by decide) (fun q_4 => ?_) (fun q_4 => ?_)
  · have h := h.1 q_4
    refine lv_aload_n hx hb dX6_undo_13 rfl (lv_at hl 0 rfl) ?_
    refine lv_dup hx hb dX6_undo_14 rfl ?_
    refine gf_X6_42 S.1 hw k_0 dX6_undo_15 ?_
    refine lv_iconst (v := 1) hx hb dX6_undo_18 (by decide) ?_
    refine lv_isub hx hb dX6_undo_19 ?_
    refine pf_X6_42 S.1 hw k_0 dX6_undo_20 (fun H locs hw => ?_)
    refine lv_iconst (v := 0) hx hb dX6_undo_23 (by decide) ?_
    refine lv_istore_n (lv' := [(1, .int 0), (0, .ref a0)]) hx hb dX6_undo_24 rfl hl (by decide) rfl (fun ls hl => ?_)
    exact ((Exists.elim h (fun n h => wL_X6_undo_25 S   n _ _ _ h))) H locs ls hw (lv_sub hl [1, 0] rfl)
  · have h := h.2 q_4
    refine lv_aload_n hx hb dX6_undo_7 rfl (lv_at hl 0 rfl) ?_
    refine lv_iconst (v := 1) hx hb dX6_undo_8 (by decide) ?_
    refine cv_i (As := [.int 1]) (rest := []) S.1 hw (k_X6_throwing l E Z M a0 1 _ h) wv_X6_59 yc_X6_throwing ⟨rfl, rfl⟩ ⟨Nat.le_of_ble_eq_true rfl, Nat.le_of_ble_eq_true rfl⟩ rfl hl.1 (Nat.le_of_ble_eq_true rfl) (ci := 6) (q := (RX6, TX6, 12)) rfl rfl (by rw [k_0]; decide) (cell_6 k_0) ⟨Nat.le_of_ble_eq_true rfl, Nat.le_of_ble_eq_true rfl⟩ dX6_undo_9 (fun r9 M9 H locs h hw => ?_)
    exact we_i S hw h dX6_undo_12
set_option maxRecDepth 100000 in
set_option maxHeartbeats 4000000 in
theorem k_X6_undo (l : Launch) (E : EE) (Z : ZZ) (M : MM) (a0 : Nat) (Q : Int32 → MM → Prop) (h : P_X6_undo Z M a0 Q) : Ct_i l yX6_undo cX6_undo 2 (some .int) rm_X6_undo E Z M [.ref a0] Q := by
  refine Met.ofW (cc := cX6_undo) (maxL := 2) (ret := some .int) (by decide) rfl ?_
  intro p e s m args below meth c s₁ B hml hv
  obtain ⟨rfl, hK, hP, hD, hZ⟩ := hv
  have S : Cx p m c meth cX6_undo 2 s _ RX6 (some .int) := ⟨⟨B.exec, B.bytes, hml, findClass_of_methodNamed B.named, fun w hw => atoms_spec (ws := ws_ yX6_undo cX6_undo 2 (some .int)) B.pre w (List.mem_cons_of_mem _ hw)⟩, B.returns, B.notSynchronized⟩
  have hl := lv_entry ([.ref a0]) (n := 2) (Nat.le_of_ble_eq_true rfl)
  rw [lg_entry_eq]
  generalize (lg_sl ([.ref a0]) ++ List.replicate (2 - (lg_sl ([.ref a0])).length) Slot.unset).toArray = ls at hl ⊢
  exact (wB_X6_undo_0 S  M a0 h) s.heap [] ls ⟨hK, hP, hD, va_S.rf, hZ⟩ hl
set_option maxRecDepth 100000 in
set_option maxHeartbeats 4000000 in
theorem wB_X6_digest_59 (S : Cx p m c meth cX6_digest 5 s args RX6 (some .long)) {Q : Int64 → MM → Prop} {K48 : MM → Nat → Int64 → Int32 → Prop} {K59 : MM → Nat → Int64 → Int32 → Int32 → Prop} (hK48 : ∀ (M : MM) (a0 : Nat) (v1 : Int64) (v3 : Int32), K48 M a0 v1 v3 → WG p l e rm_X6_digest s m args below meth c 0 0 (MQl below E Z args s Q) E Z M 48 5 [(0, .ref a0), (1, .long v1), (3, .int v3)] []) (hK59 : ∀ (M : MM) (a0 : Nat) (v1 : Int64) (v3 : Int32) (v4 : Int32), K59 M a0 v1 v3 v4 → WG p l e rm_X6_digest s m args below meth c 0 0 (MQl below E Z args s Q) E Z M 59 5 [(0, .ref a0), (1, .long v1), (3, .int v3), (4, .int v4)] []) (M : MM) (a0 : Nat) (v1 : Int64) (v3 : Int32) (v4 : Int32) (h : B_X6_digest_59 Z Q K48 K59 M a0 v1 v3 v4) : WG p l e rm_X6_digest s m args below meth c 0 0 (MQl below E Z args s Q) E Z M 59 5 [(0, .ref a0), (1, .long v1), (3, .int v3), (4, .int v4)] [] := by
  intro H locs ls hw hl
  have hx := S.1.1
  have hb := S.1.2.1
  have hown := S.1.2.2.2.1
  have hts := S.1.2.2.2.2
  refine lv_iload hx hb dX6_digest_59 (lv_at hl 3 rfl) ?_
  refine lv_bipush (v := 7) hx hb dX6_digest_61 (by decide) ?_
  refine lv_icmp_ge (tgt := 87) hx hb dX6_digest_63 (by decide) (fun q_63 => ?_) (fun q_63 => ?_)
  · have h := h.1 q_63
    refine lv_ldc2 (v := 31) hx hb hown (hts _ wq_X6_222) dX6_digest_87 ?_
    refine lv_ldc2 (v := 31) hx hb hown (hts _ wq_X6_222) dX6_digest_90 ?_
    refine lv_lload_n hx hb dX6_digest_93 rfl (lv_at hl 1 rfl) ?_
    refine lv_lmul hx hb dX6_digest_94 ?_
    refine lv_aload_n hx hb dX6_digest_95 rfl (lv_at hl 0 rfl) ?_
    refine lv_iload_n hx hb dX6_digest_96 rfl (lv_at hl 2 rfl) ?_
    refine lv_iconst (v := 3) hx hb dX6_digest_97 (by decide) ?_
    obtain ⟨k_0, h⟩ := h
    refine cv_i (As := [.int v3, .int 3]) (rest := [.long (31 * v1), .long 31]) S.1 hw (k_X6_blockOf l E Z M a0 v3 3 _ h) wv_X6_173 yc_X6_blockOf ⟨rfl, rfl⟩ ⟨Nat.le_of_ble_eq_true rfl, Nat.le_of_ble_eq_true rfl⟩ rfl hl.1 (Nat.le_of_ble_eq_true rfl) (ci := 6) (q := (RX6, TX6, 12)) rfl rfl (by rw [k_0]; decide) (cell_6 k_0) ⟨Nat.le_of_ble_eq_true rfl, Nat.le_of_ble_eq_true rfl⟩ dX6_digest_98 (fun r98 M98 H locs h hw => ?_)
    refine lv_i2l (v := r98.toInt64) hx hb dX6_digest_101 rfl ?_
    refine lv_ladd hx hb dX6_digest_102 ?_
    refine lv_lmul hx hb dX6_digest_103 ?_
    refine lv_aload_n hx hb dX6_digest_104 rfl (lv_at hl 0 rfl) ?_
    refine lv_iload_n hx hb dX6_digest_105 rfl (lv_at hl 2 rfl) ?_
    refine lv_iconst (v := 4) hx hb dX6_digest_106 (by decide) ?_
    refine cv_i (As := [.int v3, .int 4]) (rest := [.long (31 * ((31 * v1) + r98.toInt64))]) S.1 hw (k_X6_blockOf l E Z M98 a0 v3 4 _ h) wv_X6_173 yc_X6_blockOf ⟨rfl, rfl⟩ ⟨Nat.le_of_ble_eq_true rfl, Nat.le_of_ble_eq_true rfl⟩ rfl hl.1 (Nat.le_of_ble_eq_true rfl) (ci := 6) (q := (RX6, TX6, 12)) rfl rfl (by rw [k_0]; decide) (cell_6 k_0) ⟨Nat.le_of_ble_eq_true rfl, Nat.le_of_ble_eq_true rfl⟩ dX6_digest_107 (fun r107 M107 H locs h hw => ?_)
    refine lv_i2l (v := r107.toInt64) hx hb dX6_digest_110 rfl ?_
    refine lv_ladd hx hb dX6_digest_111 ?_
    refine lv_lstore_n (lv' := [(1, .long ((31 * ((31 * v1) + r98.toInt64)) + r107.toInt64)), (0, .ref a0), (3, .int v3), (4, .int v4)]) hx hb dX6_digest_112 rfl hl (by decide) rfl (fun ls hl => ?_)
    refine lv_iinc (v := (v3 + 1)) (lv' := [(3, .int (v3 + 1)), (1, .long ((31 * ((31 * v1) + r98.toInt64)) + r107.toInt64)), (0, .ref a0), (4, .int v4)]) hx hb dX6_digest_113 hl (k := 2) rfl rfl (by decide) rfl (fun ls hl => ?_)
    refine lv_goto (tgt := 48) hx hb dX6_digest_116 (by decide) ?_
    exact (hK48 _ _ _ _ h) H locs ls hw (lv_sub hl [2, 1, 0] rfl)
  · have h := h.2 q_63
    refine lv_ldc2 (v := 31) hx hb hown (hts _ wq_X6_222) dX6_digest_66 ?_
    refine lv_lload_n hx hb dX6_digest_69 rfl (lv_at hl 1 rfl) ?_
    refine lv_lmul hx hb dX6_digest_70 ?_
    refine lv_aload_n hx hb dX6_digest_71 rfl (lv_at hl 0 rfl) ?_
    refine lv_iload_n hx hb dX6_digest_72 rfl (lv_at hl 2 rfl) ?_
    refine lv_iload hx hb dX6_digest_73 (lv_at hl 3 rfl) ?_
    obtain ⟨k_1, h⟩ := h
    refine cv_i (As := [.int v3, .int v4]) (rest := [.long (31 * v1)]) S.1 hw (k_X6_cellOf l E Z M a0 v3 v4 _ h) wv_X6_168 yc_X6_cellOf ⟨rfl, rfl⟩ ⟨Nat.le_of_ble_eq_true rfl, Nat.le_of_ble_eq_true rfl⟩ rfl hl.1 (Nat.le_of_ble_eq_true rfl) (ci := 6) (q := (RX6, TX6, 12)) rfl rfl (by rw [k_1]; decide) (cell_6 k_1) ⟨Nat.le_of_ble_eq_true rfl, Nat.le_of_ble_eq_true rfl⟩ dX6_digest_75 (fun r75 M75 H locs h hw => ?_)
    refine lv_i2l (v := r75.toInt64) hx hb dX6_digest_78 rfl ?_
    refine lv_ladd hx hb dX6_digest_79 ?_
    refine lv_lstore_n (lv' := [(1, .long ((31 * v1) + r75.toInt64)), (0, .ref a0), (3, .int v3), (4, .int v4)]) hx hb dX6_digest_80 rfl hl (by decide) rfl (fun ls hl => ?_)
    refine lv_iinc (v := (v4 + 1)) (lv' := [(4, .int (v4 + 1)), (1, .long ((31 * v1) + r75.toInt64)), (0, .ref a0), (3, .int v3)]) hx hb dX6_digest_81 hl (k := 3) rfl rfl (by decide) rfl (fun ls hl => ?_)
    refine lv_goto (tgt := 59) hx hb dX6_digest_84 (by decide) ?_
    exact (hK59 _ _ _ _ _ h) H locs ls hw (lv_sub hl [2, 1, 3, 0] rfl)
theorem wL_X6_digest_59 (S : Cx p m c meth cX6_digest 5 s args RX6 (some .long)) {Q : Int64 → MM → Prop} {K48 : MM → Nat → Int64 → Int32 → Prop} (hK48 : ∀ (M : MM) (a0 : Nat) (v1 : Int64) (v3 : Int32), K48 M a0 v1 v3 → WG p l e rm_X6_digest s m args below meth c 0 0 (MQl below E Z args s Q) E Z M 48 5 [(0, .ref a0), (1, .long v1), (3, .int v3)] []) : ∀ (n : Nat) (M : MM) (a0 : Nat) (v1 : Int64) (v3 : Int32) (v4 : Int32), L_X6_digest_59 Z Q  K48 n M a0 v1 v3 v4 → WG p l e rm_X6_digest s m args below meth c 0 0 (MQl below E Z args s Q) E Z M 59 5 [(0, .ref a0), (1, .long v1), (3, .int v3), (4, .int v4)] []
  | 0, _, _, _, _, _, h => False.elim h
  | n + 1, M, a0, v1, v3, v4, h => wB_X6_digest_59 S  hK48 (wL_X6_digest_59 S  hK48 n) M a0 v1 v3 v4 h
set_option maxRecDepth 100000 in
set_option maxHeartbeats 4000000 in
theorem wB_X6_digest_121 (S : Cx p m c meth cX6_digest 5 s args RX6 (some .long)) {Q : Int64 → MM → Prop} {K121 : MM → Nat → Int64 → Int32 → Prop} (hK121 : ∀ (M : MM) (a0 : Nat) (v1 : Int64) (v3 : Int32), K121 M a0 v1 v3 → WG p l e rm_X6_digest s m args below meth c 0 0 (MQl below E Z args s Q) E Z M 121 5 [(0, .ref a0), (1, .long v1), (3, .int v3)] []) (M : MM) (a0 : Nat) (v1 : Int64) (v3 : Int32) (h : B_X6_digest_121 Z Q K121 M a0 v1 v3) : WG p l e rm_X6_digest s m args below meth c 0 0 (MQl below E Z args s Q) E Z M 121 5 [(0, .ref a0), (1, .long v1), (3, .int v3)] [] := by
  intro H locs ls hw hl
  have hx := S.1.1
  have hb := S.1.2.1
  have hown := S.1.2.2.2.1
  have hts := S.1.2.2.2.2
  refine lv_iload_n hx hb dX6_digest_121 rfl (lv_at hl 2 rfl) ?_
  refine lv_iconst (v := 3) hx hb dX6_digest_122 (by decide) ?_
  refine lv_aload_n hx hb dX6_digest_123 rfl (lv_at hl 0 rfl) ?_
  obtain ⟨k_0, h⟩ := h
  refine cv_i (As := []) (rest := [.int 3, .int v3]) S.1 hw (k_X6_kept l E Z M a0  _ h) wv_X6_187 yc_X6_kept ⟨rfl, rfl⟩ ⟨Nat.le_of_ble_eq_true rfl, Nat.le_of_ble_eq_true rfl⟩ rfl hl.1 (Nat.le_of_ble_eq_true rfl) (ci := 6) (q := (RX6, TX6, 12)) rfl rfl (by rw [k_0]; decide) (cell_6 k_0) ⟨Nat.le_of_ble_eq_true rfl, Nat.le_of_ble_eq_true rfl⟩ dX6_digest_124 (fun r124 M124 H locs h hw => ?_)
  refine lv_imul hx hb dX6_digest_127 ?_
  refine lv_icmp_ge (tgt := 154) hx hb dX6_digest_128 (by decide) (fun q_128 => ?_) (fun q_128 => ?_)
  · have h := h.1 q_128
    refine lv_ldc2 (v := 31) hx hb hown (hts _ wq_X6_222) dX6_digest_154 ?_
    refine lv_ldc2 (v := 31) hx hb hown (hts _ wq_X6_222) dX6_digest_157 ?_
    refine lv_lload_n hx hb dX6_digest_160 rfl (lv_at hl 1 rfl) ?_
    refine lv_lmul hx hb dX6_digest_161 ?_
    refine lv_aload_n hx hb dX6_digest_162 rfl (lv_at hl 0 rfl) ?_
    refine cv_i (As := []) (rest := [.long (31 * v1), .long 31]) S.1 hw (k_X6_takableNow l E Z M124 a0  _ h) wv_X6_190 yc_X6_takableNow ⟨rfl, rfl⟩ ⟨Nat.le_of_ble_eq_true rfl, Nat.le_of_ble_eq_true rfl⟩ rfl hl.1 (Nat.le_of_ble_eq_true rfl) (ci := 6) (q := (RX6, TX6, 12)) rfl rfl (by rw [k_0]; decide) (cell_6 k_0) ⟨Nat.le_of_ble_eq_true rfl, Nat.le_of_ble_eq_true rfl⟩ dX6_digest_163 (fun r163 M163 H locs h hw => ?_)
    refine lv_i2l (v := r163.toInt64) hx hb dX6_digest_166 rfl ?_
    refine lv_ladd hx hb dX6_digest_167 ?_
    refine lv_lmul hx hb dX6_digest_168 ?_
    refine lv_aload_n hx hb dX6_digest_169 rfl (lv_at hl 0 rfl) ?_
    refine gf_X6_42 S.1 hw k_0 dX6_digest_170 ?_
    refine lv_i2l (v := (mI M163 14 a0).toInt64) hx hb dX6_digest_173 rfl ?_
    refine lv_ladd hx hb dX6_digest_174 ?_
    exact we_l S hw h dX6_digest_175
  · have h := h.2 q_128
    refine lv_ldc2 (v := 31) hx hb hown (hts _ wq_X6_222) dX6_digest_131 ?_
    refine lv_lload_n hx hb dX6_digest_134 rfl (lv_at hl 1 rfl) ?_
    refine lv_lmul hx hb dX6_digest_135 ?_
    refine lv_aload_n hx hb dX6_digest_136 rfl (lv_at hl 0 rfl) ?_
    obtain ⟨y137_1, hy_1, h⟩ := h
    refine gf_X6_7 S.1 hw k_0 hy_1 dX6_digest_137 ?_
    refine lv_bipush (v := 106) hx hb dX6_digest_140 (by decide) ?_
    refine lv_iload_n hx hb dX6_digest_142 rfl (lv_at hl 2 rfl) ?_
    refine lv_iadd hx hb dX6_digest_143 ?_
    obtain ⟨k_2, h⟩ := h
    obtain ⟨i_144, h⟩ := h
    refine wo_iald S.1 hw k_2 i_144 dX6_digest_144 ?_
    refine lv_i2l (v := (mA M124 y137_1 (106 + v3).toNatClampNeg).toInt64) hx hb dX6_digest_145 rfl ?_
    refine lv_ladd hx hb dX6_digest_146 ?_
    refine lv_lstore_n (lv' := [(1, .long ((31 * v1) + ((mA M124 y137_1 (106 + v3).toNatClampNeg).toInt64))), (0, .ref a0), (3, .int v3)]) hx hb dX6_digest_147 rfl hl (by decide) rfl (fun ls hl => ?_)
    refine lv_iinc (v := (v3 + 1)) (lv' := [(3, .int (v3 + 1)), (1, .long ((31 * v1) + ((mA M124 y137_1 (106 + v3).toNatClampNeg).toInt64))), (0, .ref a0)]) hx hb dX6_digest_148 hl (k := 2) rfl rfl (by decide) rfl (fun ls hl => ?_)
    refine lv_goto (tgt := 121) hx hb dX6_digest_151 (by decide) ?_
    exact (hK121 _ _ _ _ h) H locs ls hw (lv_sub hl [2, 1, 0] rfl)
theorem wL_X6_digest_121 (S : Cx p m c meth cX6_digest 5 s args RX6 (some .long)) {Q : Int64 → MM → Prop}   : ∀ (n : Nat) (M : MM) (a0 : Nat) (v1 : Int64) (v3 : Int32), L_X6_digest_121 Z Q   n M a0 v1 v3 → WG p l e rm_X6_digest s m args below meth c 0 0 (MQl below E Z args s Q) E Z M 121 5 [(0, .ref a0), (1, .long v1), (3, .int v3)] []
  | 0, _, _, _, _, h => False.elim h
  | n + 1, M, a0, v1, v3, h => wB_X6_digest_121 S  (wL_X6_digest_121 S   n) M a0 v1 v3 h
set_option maxRecDepth 100000 in
set_option maxHeartbeats 4000000 in
theorem wB_X6_digest_48 (S : Cx p m c meth cX6_digest 5 s args RX6 (some .long)) {Q : Int64 → MM → Prop} {K48 : MM → Nat → Int64 → Int32 → Prop} (hK48 : ∀ (M : MM) (a0 : Nat) (v1 : Int64) (v3 : Int32), K48 M a0 v1 v3 → WG p l e rm_X6_digest s m args below meth c 0 0 (MQl below E Z args s Q) E Z M 48 5 [(0, .ref a0), (1, .long v1), (3, .int v3)] []) (M : MM) (a0 : Nat) (v1 : Int64) (v3 : Int32) (h : B_X6_digest_48 Z Q K48 M a0 v1 v3) : WG p l e rm_X6_digest s m args below meth c 0 0 (MQl below E Z args s Q) E Z M 48 5 [(0, .ref a0), (1, .long v1), (3, .int v3)] [] := by
  intro H locs ls hw hl
  have hx := S.1.1
  have hb := S.1.2.1
  refine lv_iload_n hx hb dX6_digest_48 rfl (lv_at hl 2 rfl) ?_
  refine lv_aload_n hx hb dX6_digest_49 rfl (lv_at hl 0 rfl) ?_
  obtain ⟨k_0, h⟩ := h
  refine cv_i (As := []) (rest := [.int v3]) S.1 hw (k_X6_cells l E Z M a0  _ h) wv_X6_45 yc_X6_cells ⟨rfl, rfl⟩ ⟨Nat.le_of_ble_eq_true rfl, Nat.le_of_ble_eq_true rfl⟩ rfl hl.1 (Nat.le_of_ble_eq_true rfl) (ci := 6) (q := (RX6, TX6, 12)) rfl rfl (by rw [k_0]; decide) (cell_6 k_0) ⟨Nat.le_of_ble_eq_true rfl, Nat.le_of_ble_eq_true rfl⟩ dX6_digest_50 (fun r50 M50 H locs h hw => ?_)
  refine lv_icmp_ge (tgt := 119) hx hb dX6_digest_53 (by decide) (fun q_53 => ?_) (fun q_53 => ?_)
  · have h := h.1 q_53
    refine lv_iconst (v := 0) hx hb dX6_digest_119 (by decide) ?_
    refine lv_istore_n (lv' := [(3, .int 0), (0, .ref a0), (1, .long v1)]) hx hb dX6_digest_120 rfl hl (by decide) rfl (fun ls hl => ?_)
    exact ((Exists.elim h (fun n h => wL_X6_digest_121 S   n _ _ _ _ h))) H locs ls hw (lv_sub hl [1, 2, 0] rfl)
  · have h := h.2 q_53
    refine lv_iconst (v := 0) hx hb dX6_digest_56 (by decide) ?_
    refine lv_istore (lv' := [(4, .int 0), (0, .ref a0), (1, .long v1), (3, .int v3)]) hx hb dX6_digest_57 hl (by decide) rfl (fun ls hl => ?_)
    exact ((Exists.elim h (fun n h => wL_X6_digest_59 S  hK48 n _ _ _ _ _ h))) H locs ls hw (lv_sub hl [1, 2, 3, 0] rfl)
theorem wL_X6_digest_48 (S : Cx p m c meth cX6_digest 5 s args RX6 (some .long)) {Q : Int64 → MM → Prop}   : ∀ (n : Nat) (M : MM) (a0 : Nat) (v1 : Int64) (v3 : Int32), L_X6_digest_48 Z Q   n M a0 v1 v3 → WG p l e rm_X6_digest s m args below meth c 0 0 (MQl below E Z args s Q) E Z M 48 5 [(0, .ref a0), (1, .long v1), (3, .int v3)] []
  | 0, _, _, _, _, h => False.elim h
  | n + 1, M, a0, v1, v3, h => wB_X6_digest_48 S  (wL_X6_digest_48 S   n) M a0 v1 v3 h
set_option maxRecDepth 100000 in
set_option maxHeartbeats 4000000 in
theorem wB_X6_digest_17 (S : Cx p m c meth cX6_digest 5 s args RX6 (some .long)) {Q : Int64 → MM → Prop} {K17 : MM → Nat → Int64 → Int32 → Prop} (hK17 : ∀ (M : MM) (a0 : Nat) (v1 : Int64) (v3 : Int32), K17 M a0 v1 v3 → WG p l e rm_X6_digest s m args below meth c 0 0 (MQl below E Z args s Q) E Z M 17 5 [(0, .ref a0), (1, .long v1), (3, .int v3)] []) (M : MM) (a0 : Nat) (v1 : Int64) (v3 : Int32) (h : B_X6_digest_17 Z Q K17 M a0 v1 v3) : WG p l e rm_X6_digest s m args below meth c 0 0 (MQl below E Z args s Q) E Z M 17 5 [(0, .ref a0), (1, .long v1), (3, .int v3)] [] := by
  intro H locs ls hw hl
  have hx := S.1.1
  have hb := S.1.2.1
  have hown := S.1.2.2.2.1
  have hts := S.1.2.2.2.2
  refine lv_iload_n hx hb dX6_digest_17 rfl (lv_at hl 2 rfl) ?_
  refine lv_bipush (v := 14) hx hb dX6_digest_18 (by decide) ?_
  refine lv_icmp_ge (tgt := 42) hx hb dX6_digest_20 (by decide) (fun q_20 => ?_) (fun q_20 => ?_)
  · have h := h.1 q_20
    refine lv_aload_n hx hb dX6_digest_42 rfl (lv_at hl 0 rfl) ?_
    obtain ⟨k_0, h⟩ := h
    refine cv_v (As := []) (rest := []) S.1 hw (k_X6_findsBlocks l E Z M a0  _ h) wv_X6_146 yc_X6_findsBlocks ⟨rfl, rfl⟩ ⟨Nat.le_of_ble_eq_true rfl, Nat.le_of_ble_eq_true rfl⟩ rfl hl.1 (Nat.le_of_ble_eq_true rfl) (ci := 6) (q := (RX6, TX6, 12)) rfl rfl (by rw [k_0]; decide) (cell_6 k_0) ⟨Nat.le_of_ble_eq_true rfl, Nat.le_of_ble_eq_true rfl⟩ dX6_digest_43 (fun M43 H locs h hw => ?_)
    refine lv_iconst (v := 0) hx hb dX6_digest_46 (by decide) ?_
    refine lv_istore_n (lv' := [(3, .int 0), (0, .ref a0), (1, .long v1)]) hx hb dX6_digest_47 rfl hl (by decide) rfl (fun ls hl => ?_)
    exact ((Exists.elim h (fun n h => wL_X6_digest_48 S   n _ _ _ _ h))) H locs ls hw (lv_sub hl [1, 2, 0] rfl)
  · have h := h.2 q_20
    refine lv_ldc2 (v := 31) hx hb hown (hts _ wq_X6_222) dX6_digest_23 ?_
    refine lv_lload_n hx hb dX6_digest_26 rfl (lv_at hl 1 rfl) ?_
    refine lv_lmul hx hb dX6_digest_27 ?_
    refine lv_aload_n hx hb dX6_digest_28 rfl (lv_at hl 0 rfl) ?_
    refine lv_iload_n hx hb dX6_digest_29 rfl (lv_at hl 2 rfl) ?_
    obtain ⟨k_1, h⟩ := h
    refine cv_i (As := [.int v3]) (rest := [.long (31 * v1)]) S.1 hw (k_X6_valueOf l E Z M a0 v3 _ h) wv_X6_184 yc_X6_valueOf ⟨rfl, rfl⟩ ⟨Nat.le_of_ble_eq_true rfl, Nat.le_of_ble_eq_true rfl⟩ rfl hl.1 (Nat.le_of_ble_eq_true rfl) (ci := 6) (q := (RX6, TX6, 12)) rfl rfl (by rw [k_1]; decide) (cell_6 k_1) ⟨Nat.le_of_ble_eq_true rfl, Nat.le_of_ble_eq_true rfl⟩ dX6_digest_30 (fun r30 M30 H locs h hw => ?_)
    refine lv_i2l (v := r30.toInt64) hx hb dX6_digest_33 rfl ?_
    refine lv_ladd hx hb dX6_digest_34 ?_
    refine lv_lstore_n (lv' := [(1, .long ((31 * v1) + r30.toInt64)), (0, .ref a0), (3, .int v3)]) hx hb dX6_digest_35 rfl hl (by decide) rfl (fun ls hl => ?_)
    refine lv_iinc (v := (v3 + 1)) (lv' := [(3, .int (v3 + 1)), (1, .long ((31 * v1) + r30.toInt64)), (0, .ref a0)]) hx hb dX6_digest_36 hl (k := 2) rfl rfl (by decide) rfl (fun ls hl => ?_)
    refine lv_goto (tgt := 17) hx hb dX6_digest_39 (by decide) ?_
    exact (hK17 _ _ _ _ h) H locs ls hw (lv_sub hl [2, 1, 0] rfl)
theorem wL_X6_digest_17 (S : Cx p m c meth cX6_digest 5 s args RX6 (some .long)) {Q : Int64 → MM → Prop}   : ∀ (n : Nat) (M : MM) (a0 : Nat) (v1 : Int64) (v3 : Int32), L_X6_digest_17 Z Q   n M a0 v1 v3 → WG p l e rm_X6_digest s m args below meth c 0 0 (MQl below E Z args s Q) E Z M 17 5 [(0, .ref a0), (1, .long v1), (3, .int v3)] []
  | 0, _, _, _, _, h => False.elim h
  | n + 1, M, a0, v1, v3, h => wB_X6_digest_17 S  (wL_X6_digest_17 S   n) M a0 v1 v3 h
set_option maxRecDepth 100000 in
set_option maxHeartbeats 4000000 in
theorem wB_X6_digest_0 (S : Cx p m c meth cX6_digest 5 s args RX6 (some .long)) {Q : Int64 → MM → Prop}   (M : MM) (a0 : Nat) (h : B_X6_digest_0 Z Q  M a0) : WG p l e rm_X6_digest s m args below meth c 0 0 (MQl below E Z args s Q) E Z M 0 5 [(0, .ref a0)] [] := by
  intro H locs ls hw hl
  have hx := S.1.1
  have hb := S.1.2.1
  have hown := S.1.2.2.2.1
  have hts := S.1.2.2.2.2
  refine lv_aload_n hx hb dX6_digest_0 rfl (lv_at hl 0 rfl) ?_
  refine lv_iconst (v := 0) hx hb dX6_digest_1 (by decide) ?_
  obtain ⟨k_0, h⟩ := h
  refine pf_X6_38 S.1 hw k_0 dX6_digest_2 (fun H locs hw => ?_)
  refine lv_ldc2 (v := 110267) hx hb hown (hts _ wq_X6_220) dX6_digest_5 ?_
  refine lv_aload_n hx hb dX6_digest_8 rfl (lv_at hl 0 rfl) ?_
  refine gf_X6_198 S.1 hw k_0 dX6_digest_9 ?_
  refine lv_i2l (v := (mI (setI M 15 a0 0) 16 a0).toInt64) hx hb dX6_digest_12 rfl ?_
  refine lv_ladd hx hb dX6_digest_13 ?_
  refine lv_lstore_n (lv' := [(1, .long (110267 + ((mI (setI M 15 a0 0) 16 a0).toInt64))), (0, .ref a0)]) hx hb dX6_digest_14 rfl hl (by decide) rfl (fun ls hl => ?_)
  refine lv_iconst (v := 0) hx hb dX6_digest_15 (by decide) ?_
  refine lv_istore_n (lv' := [(3, .int 0), (1, .long (110267 + ((mI (setI M 15 a0 0) 16 a0).toInt64))), (0, .ref a0)]) hx hb dX6_digest_16 rfl hl (by decide) rfl (fun ls hl => ?_)
  exact ((Exists.elim h (fun n h => wL_X6_digest_17 S   n _ _ _ _ h))) H locs ls hw (lv_sub hl [2, 1, 0] rfl)
set_option maxRecDepth 100000 in
set_option maxHeartbeats 4000000 in
theorem k_X6_digest (l : Launch) (E : EE) (Z : ZZ) (M : MM) (a0 : Nat) (Q : Int64 → MM → Prop) (h : P_X6_digest Z M a0 Q) : Ct_l l yX6_digest cX6_digest 5 (some .long) rm_X6_digest E Z M [.ref a0] Q := by
  refine Met.ofW (cc := cX6_digest) (maxL := 5) (ret := some .long) (by decide) rfl ?_
  intro p e s m args below meth c s₁ B hml hv
  obtain ⟨rfl, hK, hP, hD, hZ⟩ := hv
  have S : Cx p m c meth cX6_digest 5 s _ RX6 (some .long) := ⟨⟨B.exec, B.bytes, hml, findClass_of_methodNamed B.named, fun w hw => atoms_spec (ws := ws_ yX6_digest cX6_digest 5 (some .long)) B.pre w (List.mem_cons_of_mem _ hw)⟩, B.returns, B.notSynchronized⟩
  have hl := lv_entry ([.ref a0]) (n := 5) (Nat.le_of_ble_eq_true rfl)
  rw [lg_entry_eq]
  generalize (lg_sl ([.ref a0]) ++ List.replicate (5 - (lg_sl ([.ref a0])).length) Slot.unset).toArray = ls at hl ⊢
  exact (wB_X6_digest_0 S  M a0 h) s.heap [] ls ⟨hK, hP, hD, va_S.rf, hZ⟩ hl
