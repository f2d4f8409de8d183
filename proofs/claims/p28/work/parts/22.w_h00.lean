variable {p : Program} {l : Launch} {e : Env} {s : State} {m : MethodId} {args : Array Value} {below : List Frame} {meth : Method} {c : Code} {E : EE} {Z : ZZ}
set_option maxRecDepth 100000 in
set_option maxHeartbeats 4000000 in
theorem wB_L_law_65 {b L : Nat} {xs : Nat → Int32} (S : Cx p m c meth cL_law 7 s #[Value.ref b] RL (some .boolean)) (T : Lx l s b L xs Z) {K66 : MM → Nat → Nat → Int32 → Int32 → Prop} (hK66 : ∀ (M : MM) (a1 : Nat) (a2 : Nat) (v4 : Int32) (t0 : Int32), K66 M a1 a2 v4 t0 → WG p l e room_1 s m #[Value.ref b] below meth c 172 6878 (lw_Z below #[Value.ref b] s) E Z M 66 7 [(0, .ref b), (1, .ref a1), (2, .ref a2), (4, .int v4)] [.int t0]) (M : MM) (a1 : Nat) (a2 : Nat) (v4 : Int32) (h : B_L_law_65 Z L xs K66 M a1 a2 v4) : WG p l e room_1 s m #[Value.ref b] below meth c 172 6878 (lw_Z below #[Value.ref b] s) E Z M 65 7 [(0, .ref b), (1, .ref a1), (2, .ref a2), (4, .int v4)] [] := by
  have hX := T.1
  have hbl := T.2.1
  have hbA := T.2.2.1
  intro H locs ls hw hl
  have hx := S.1.1
  have hb := S.1.2.1
  refine lv_iconst (v := 0) hx hb dL_law_65 (by decide) ?_
  exact (hK66 _ _ _ _ _ h) H locs ls hw (lv_sub hl [0, 1, 2, 3] rfl)
set_option maxRecDepth 100000 in
set_option maxHeartbeats 4000000 in
theorem wB_L_law_66 {b L : Nat} {xs : Nat → Int32} (S : Cx p m c meth cL_law 7 s #[Value.ref b] RL (some .boolean)) (T : Lx l s b L xs Z) {K21 : MM → Nat → Nat → Int32 → Int32 → Prop} (hK21 : ∀ (M : MM) (a1 : Nat) (a2 : Nat) (v3 : Int32) (v4 : Int32), K21 M a1 a2 v3 v4 → WG p l e room_1 s m #[Value.ref b] below meth c 172 6878 (lw_Z below #[Value.ref b] s) E Z M 21 7 [(0, .ref b), (1, .ref a1), (2, .ref a2), (3, .int v3), (4, .int v4)] []) (M : MM) (a1 : Nat) (a2 : Nat) (v4 : Int32) (t0 : Int32) (h : B_L_law_66 Z L xs K21 M a1 a2 v4 t0) : WG p l e room_1 s m #[Value.ref b] below meth c 172 6878 (lw_Z below #[Value.ref b] s) E Z M 66 7 [(0, .ref b), (1, .ref a1), (2, .ref a2), (4, .int v4)] [.int t0] := by
  have hX := T.1
  have hbl := T.2.1
  have hbA := T.2.2.1
  intro H locs ls hw hl
  have hx := S.1.1
  have hb := S.1.2.1
  refine lv_istore_n (lv' := [(3, .int t0), (0, .ref b), (1, .ref a1), (2, .ref a2), (4, .int v4)]) hx hb dL_law_66 rfl hl (by decide) rfl (fun ls hl => ?_)
  refine lv_iinc (v := (v4 + 1)) (lv' := [(4, .int (v4 + 1)), (3, .int t0), (0, .ref b), (1, .ref a1), (2, .ref a2)]) hx hb dL_law_67 hl (k := 4) rfl rfl (by decide) rfl (fun ls hl => ?_)
  refine lv_goto (tgt := 21) hx hb dL_law_70 (by decide) ?_
  exact (hK21 _ _ _ _ _ h) H locs ls hw (lv_sub hl [2, 3, 4, 1, 0] rfl)
set_option maxRecDepth 100000 in
set_option maxHeartbeats 4000000 in
theorem wB_L_law_73 {b L : Nat} {xs : Nat → Int32} (S : Cx p m c meth cL_law 7 s #[Value.ref b] RL (some .boolean)) (T : Lx l s b L xs Z)   (M : MM) (a1 : Nat) (v3 : Int32) (h : B_L_law_73 Z L xs  M a1 v3) : WG p l e room_1 s m #[Value.ref b] below meth c 172 6878 (lw_Z below #[Value.ref b] s) E Z M 73 7 [(1, .ref a1), (3, .int v3)] [] := by
  have hX := T.1
  have hbl := T.2.1
  have hbA := T.2.2.1
  intro H locs ls hw hl
  have hx := S.1.1
  have hb := S.1.2.1
  refine lv_aload_n hx hb dL_law_73 rfl (lv_at hl 0 rfl) ?_
  refine lv_bipush (v := 10) hx hb dL_law_74 (by decide) ?_
  obtain ⟨k_0, h⟩ := h
  refine cv_i (As := [.int 10]) (rest := []) S.1 hw (k_X5_value l E Z M a1 10 _ h) wv_L_9 yc_X5_value ⟨rfl, rfl⟩ ⟨Nat.le_of_ble_eq_true rfl, Nat.le_of_ble_eq_true rfl⟩ rfl hl.1 (Nat.le_of_ble_eq_true rfl) (ci := 5) (q := (RX5, TX5, 9)) rfl rfl (by rw [k_0]; decide) (cell_5 k_0) ⟨Nat.le_of_ble_eq_true rfl, Nat.le_of_ble_eq_true rfl⟩ dL_law_76 (fun r76 M76 H locs h hw => ?_)
  refine lv_istore (lv' := [(4, .int r76), (1, .ref a1), (3, .int v3)]) hx hb dL_law_79 hl (by decide) rfl (fun ls hl => ?_)
  refine lv_aload_n hx hb dL_law_81 rfl (lv_at hl 1 rfl) ?_
  refine lv_bipush (v := 11) hx hb dL_law_82 (by decide) ?_
  refine cv_i (As := [.int 11]) (rest := []) S.1 hw (k_X5_value l E Z M76 a1 11 _ h) wv_L_9 yc_X5_value ⟨rfl, rfl⟩ ⟨Nat.le_of_ble_eq_true rfl, Nat.le_of_ble_eq_true rfl⟩ rfl hl.1 (Nat.le_of_ble_eq_true rfl) (ci := 5) (q := (RX5, TX5, 9)) rfl rfl (by rw [k_0]; decide) (cell_5 k_0) ⟨Nat.le_of_ble_eq_true rfl, Nat.le_of_ble_eq_true rfl⟩ dL_law_84 (fun r84 M84 H locs h hw => ?_)
  refine lv_istore (lv' := [(5, .int r84), (4, .int r76), (1, .ref a1), (3, .int v3)]) hx hb dL_law_87 hl (by decide) rfl (fun ls hl => ?_)
  refine lv_aload_n hx hb dL_law_89 rfl (lv_at hl 2 rfl) ?_
  refine cv_i (As := []) (rest := []) S.1 hw (k_X5_takable l E Z M84 a1  _ h) wv_L_59 yc_X5_takable ⟨rfl, rfl⟩ ⟨Nat.le_of_ble_eq_true rfl, Nat.le_of_ble_eq_true rfl⟩ rfl hl.1 (Nat.le_of_ble_eq_true rfl) (ci := 5) (q := (RX5, TX5, 9)) rfl rfl (by rw [k_0]; decide) (cell_5 k_0) ⟨Nat.le_of_ble_eq_true rfl, Nat.le_of_ble_eq_true rfl⟩ dL_law_90 (fun r90 M90 H locs h hw => ?_)
  refine lv_istore (lv' := [(6, .int r90), (5, .int r84), (4, .int r76), (1, .ref a1), (3, .int v3)]) hx hb dL_law_93 hl (by decide) rfl (fun ls hl => ?_)
  refine lv_iload_n hx hb dL_law_95 rfl (lv_at hl 4 rfl) ?_
  refine lv_if_eq (tgt := 163) hx hb dL_law_96 (by decide) (fun q_96 => ?_) (fun q_96 => ?_)
  · have h := h.1 q_96
    refine lv_iconst (v := 0) hx hb dL_law_163 (by decide) ?_
    exact h.elim
  · have h := h.2 q_96
    refine lv_aload_n hx hb dL_law_99 rfl (lv_at hl 3 rfl) ?_
    refine cv_i (As := []) (rest := []) S.1 hw (k_X5_takeAll l E Z M90 a1  _ h) wv_L_46 yc_X5_takeAll ⟨rfl, rfl⟩ ⟨Nat.le_of_ble_eq_true rfl, Nat.le_of_ble_eq_true rfl⟩ rfl hl.1 (Nat.le_of_ble_eq_true rfl) (ci := 5) (q := (RX5, TX5, 9)) rfl rfl (by rw [k_0]; decide) (cell_5 k_0) ⟨Nat.le_of_ble_eq_true rfl, Nat.le_of_ble_eq_true rfl⟩ dL_law_100 (fun r100 M100 H locs h hw => ?_)
    refine lv_iload hx hb dL_law_103 (lv_at hl 0 rfl) ?_
    refine lv_icmp_ne (tgt := 163) hx hb dL_law_105 (by decide) (fun q_105 => ?_) (fun q_105 => ?_)
    · have h := h.1 q_105
      refine lv_iconst (v := 0) hx hb dL_law_163 (by decide) ?_
      exact h.elim
    · have h := h.2 q_105
      refine lv_aload_n hx hb dL_law_108 rfl (lv_at hl 3 rfl) ?_
      refine lv_iconst (v := 4) hx hb dL_law_109 (by decide) ?_
      refine cv_i (As := [.int 4]) (rest := []) S.1 hw (k_X5_value l E Z M100 a1 4 _ h) wv_L_9 yc_X5_value ⟨rfl, rfl⟩ ⟨Nat.le_of_ble_eq_true rfl, Nat.le_of_ble_eq_true rfl⟩ rfl hl.1 (Nat.le_of_ble_eq_true rfl) (ci := 5) (q := (RX5, TX5, 9)) rfl rfl (by rw [k_0]; decide) (cell_5 k_0) ⟨Nat.le_of_ble_eq_true rfl, Nat.le_of_ble_eq_true rfl⟩ dL_law_110 (fun r110 M110 H locs h hw => ?_)
      refine lv_aload_n hx hb dL_law_113 rfl (lv_at hl 3 rfl) ?_
      refine lv_iconst (v := 5) hx hb dL_law_114 (by decide) ?_
      refine cv_i (As := [.int 5]) (rest := [.int r110]) S.1 hw (k_X5_value l E Z M110 a1 5 _ h) wv_L_9 yc_X5_value ⟨rfl, rfl⟩ ⟨Nat.le_of_ble_eq_true rfl, Nat.le_of_ble_eq_true rfl⟩ rfl hl.1 (Nat.le_of_ble_eq_true rfl) (ci := 5) (q := (RX5, TX5, 9)) rfl rfl (by rw [k_0]; decide) (cell_5 k_0) ⟨Nat.le_of_ble_eq_true rfl, Nat.le_of_ble_eq_true rfl⟩ dL_law_115 (fun r115 M115 H locs h hw => ?_)
      refine lv_icmp_ne (tgt := 163) hx hb dL_law_118 (by decide) (fun q_118 => ?_) (fun q_118 => ?_)
      · have h := h.1 q_118
        refine lv_iconst (v := 0) hx hb dL_law_163 (by decide) ?_
        exact h.elim
      · have h := h.2 q_118
        refine lv_aload_n hx hb dL_law_121 rfl (lv_at hl 3 rfl) ?_
        refine cv_i (As := []) (rest := []) S.1 hw (k_X5_undo l E Z M115 a1  _ h) wv_L_91 yc_X5_undo ⟨rfl, rfl⟩ ⟨Nat.le_of_ble_eq_true rfl, Nat.le_of_ble_eq_true rfl⟩ rfl hl.1 (Nat.le_of_ble_eq_true rfl) (ci := 5) (q := (RX5, TX5, 9)) rfl rfl (by rw [k_0]; decide) (cell_5 k_0) ⟨Nat.le_of_ble_eq_true rfl, Nat.le_of_ble_eq_true rfl⟩ dL_law_122 (fun r122 M122 H locs h hw => ?_)
        refine lv_if_lt (tgt := 163) hx hb dL_law_125 (by decide) (fun q_125 => ?_) (fun q_125 => ?_)
        · have h := h.1 q_125
          refine lv_iconst (v := 0) hx hb dL_law_163 (by decide) ?_
          exact h.elim
        · have h := h.2 q_125
          refine lv_aload_n hx hb dL_law_128 rfl (lv_at hl 3 rfl) ?_
          refine lv_bipush (v := 10) hx hb dL_law_129 (by decide) ?_
          refine cv_i (As := [.int 10]) (rest := []) S.1 hw (k_X5_value l E Z M122 a1 10 _ h) wv_L_9 yc_X5_value ⟨rfl, rfl⟩ ⟨Nat.le_of_ble_eq_true rfl, Nat.le_of_ble_eq_true rfl⟩ rfl hl.1 (Nat.le_of_ble_eq_true rfl) (ci := 5) (q := (RX5, TX5, 9)) rfl rfl (by rw [k_0]; decide) (cell_5 k_0) ⟨Nat.le_of_ble_eq_true rfl, Nat.le_of_ble_eq_true rfl⟩ dL_law_131 (fun r131 M131 H locs h hw => ?_)
          refine lv_iload hx hb dL_law_134 (lv_at hl 2 rfl) ?_
          refine lv_icmp_ne (tgt := 163) hx hb dL_law_136 (by decide) (fun q_136 => ?_) (fun q_136 => ?_)
          · have h := h.1 q_136
            refine lv_iconst (v := 0) hx hb dL_law_163 (by decide) ?_
            exact h.elim
          · have h := h.2 q_136
            refine lv_aload_n hx hb dL_law_139 rfl (lv_at hl 3 rfl) ?_
            refine lv_bipush (v := 11) hx hb dL_law_140 (by decide) ?_
            refine cv_i (As := [.int 11]) (rest := []) S.1 hw (k_X5_value l E Z M131 a1 11 _ h) wv_L_9 yc_X5_value ⟨rfl, rfl⟩ ⟨Nat.le_of_ble_eq_true rfl, Nat.le_of_ble_eq_true rfl⟩ rfl hl.1 (Nat.le_of_ble_eq_true rfl) (ci := 5) (q := (RX5, TX5, 9)) rfl rfl (by rw [k_0]; decide) (cell_5 k_0) ⟨Nat.le_of_ble_eq_true rfl, Nat.le_of_ble_eq_true rfl⟩ dL_law_142 (fun r142 M142 H locs h hw => ?_)
            refine lv_iload hx hb dL_law_145 (lv_at hl 1 rfl) ?_
            refine lv_icmp_ne (tgt := 163) hx hb dL_law_147 (by decide) (fun q_147 => ?_) (fun q_147 => ?_)
            · have h := h.1 q_147
              refine lv_iconst (v := 0) hx hb dL_law_163 (by decide) ?_
              exact h.elim
            · have h := h.2 q_147
              refine lv_aload_n hx hb dL_law_150 rfl (lv_at hl 3 rfl) ?_
              refine cv_i (As := []) (rest := []) S.1 hw (k_X5_takable l E Z M142 a1  _ h) wv_L_59 yc_X5_takable ⟨rfl, rfl⟩ ⟨Nat.le_of_ble_eq_true rfl, Nat.le_of_ble_eq_true rfl⟩ rfl hl.1 (Nat.le_of_ble_eq_true rfl) (ci := 5) (q := (RX5, TX5, 9)) rfl rfl (by rw [k_0]; decide) (cell_5 k_0) ⟨Nat.le_of_ble_eq_true rfl, Nat.le_of_ble_eq_true rfl⟩ dL_law_151 (fun r151 M151 H locs h hw => ?_)
              refine lv_iload hx hb dL_law_154 (lv_at hl 0 rfl) ?_
              refine lv_icmp_ne (tgt := 163) hx hb dL_law_156 (by decide) (fun q_156 => ?_) (fun q_156 => ?_)
              · have h := h.1 q_156
                refine lv_iconst (v := 0) hx hb dL_law_163 (by decide) ?_
                exact h.elim
              · have h := h.2 q_156
                refine lv_iconst (v := 1) hx hb dL_law_159 (by decide) ?_
                refine lv_goto (tgt := 164) hx hb dL_law_160 (by decide) ?_
                refine va_forget (fun q hq => T.2.2.2 _ (hw.2.2.2.1.2.2 q hq)) ?_
                refine W.widen (k := 600130) (n := 7301080) (Nat.le_of_ble_eq_true rfl) (Nat.le_of_ble_eq_true rfl) ?_
                exact lw_ret (d0 := s.drawn) (Drawn.sameBut.refl s.drawn lw_cs) hx hb S.2.1 S.2.2 dL_law_164
set_option maxRecDepth 100000 in
set_option maxHeartbeats 4000000 in
theorem wB_L_law_21 {b L : Nat} {xs : Nat → Int32} (S : Cx p m c meth cL_law 7 s #[Value.ref b] RL (some .boolean)) (T : Lx l s b L xs Z) {K21 : MM → Nat → Nat → Int32 → Int32 → Prop} (hK21 : ∀ (M : MM) (a1 : Nat) (a2 : Nat) (v3 : Int32) (v4 : Int32), K21 M a1 a2 v3 v4 → WG p l e room_1 s m #[Value.ref b] below meth c 172 6878 (lw_Z below #[Value.ref b] s) E Z M 21 7 [(0, .ref b), (1, .ref a1), (2, .ref a2), (3, .int v3), (4, .int v4)] []) (M : MM) (a1 : Nat) (a2 : Nat) (v3 : Int32) (v4 : Int32) (h : B_L_law_21 Z L xs K21 M a1 a2 v3 v4) : WG p l e room_1 s m #[Value.ref b] below meth c 172 6878 (lw_Z below #[Value.ref b] s) E Z M 21 7 [(0, .ref b), (1, .ref a1), (2, .ref a2), (3, .int v3), (4, .int v4)] [] := by
  have hX := T.1
  have hbl := T.2.1
  have hbA := T.2.2.1
  intro H locs ls hw hl
  have hx := S.1.1
  have hb := S.1.2.1
  refine lv_iload hx hb dL_law_21 (lv_at hl 4 rfl) ?_
  refine lv_bipush (v := 34) hx hb dL_law_23 (by decide) ?_
  refine lv_icmp_ge (tgt := 73) hx hb dL_law_25 (by decide) (fun q_25 => ?_) (fun q_25 => ?_)
  · have h := h.1 q_25
    exact ((wB_L_law_73 S T  _ _ _ h)) H locs ls hw (lv_sub hl [1, 3] rfl)
  · have h := h.2 q_25
    refine lv_iload_n hx hb dL_law_28 rfl (lv_at hl 3 rfl) ?_
    refine lv_if_eq (tgt := 73) hx hb dL_law_29 (by decide) (fun q_29 => ?_) (fun q_29 => ?_)
    · have h := h.1 q_29
      exact ((wB_L_law_73 S T  _ _ _ h)) H locs ls hw (lv_sub hl [1, 3] rfl)
    · have h := h.2 q_29
      refine lv_aload_n hx hb dL_law_32 rfl (lv_at hl 1 rfl) ?_
      refine lv_aload_n hx hb dL_law_33 rfl (lv_at hl 2 rfl) ?_
      refine lv_aload_n hx hb dL_law_34 rfl (lv_at hl 0 rfl) ?_
      refine lv_iload hx hb dL_law_35 (lv_at hl 4 rfl) ?_
      refine css_i (As := [.ref b, .int v4]) (rest := [.ref a2, .ref a1]) S.1 T.1 T.2.1 T.2.2.1 hw (k_L_cell l E Z b L xs M v4 _ h) wv_L_76 yc_L_cell ⟨rfl, rfl⟩ ⟨Nat.le_of_ble_eq_true rfl, Nat.le_of_ble_eq_true rfl⟩ rfl hl.1 (Nat.le_of_ble_eq_true rfl) ⟨Nat.le_of_ble_eq_true rfl, Nat.le_of_ble_eq_true rfl⟩ dL_law_37 (fun r37 M37 H locs h hw => ?_)
      refine cs_i (As := [.ref a1, .ref a2, .int r37]) (rest := []) S.1 hw (k_L_isStep l E Z M37 a1 a2 r37 _ h) wv_L_79 yc_L_isStep ⟨rfl, rfl⟩ ⟨Nat.le_of_ble_eq_true rfl, Nat.le_of_ble_eq_true rfl⟩ rfl hl.1 (Nat.le_of_ble_eq_true rfl) ⟨Nat.le_of_ble_eq_true rfl, Nat.le_of_ble_eq_true rfl⟩ dL_law_40 (fun r40 M40 H locs h hw => ?_)
      refine lv_if_eq (tgt := 65) hx hb dL_law_43 (by decide) (fun q_43 => ?_) (fun q_43 => ?_)
      · have h := h.1 q_43
        exact ((wB_L_law_65 S T (fun M1 a1 a2 v4 t0 h => (wB_L_law_66 S T hK21 _ _ _ _ _ h)) _ _ _ _ h)) H locs ls hw (lv_sub hl [0, 1, 2, 4] rfl)
      · have h := h.2 q_43
        refine lv_aload_n hx hb dL_law_46 rfl (lv_at hl 1 rfl) ?_
        refine lv_aload_n hx hb dL_law_47 rfl (lv_at hl 2 rfl) ?_
        refine cs_i (As := [.ref a1, .ref a2]) (rest := []) S.1 hw (k_L_areAlike l E Z M40 a1 a2 _ h) wv_L_83 yc_L_areAlike ⟨rfl, rfl⟩ ⟨Nat.le_of_ble_eq_true rfl, Nat.le_of_ble_eq_true rfl⟩ rfl hl.1 (Nat.le_of_ble_eq_true rfl) ⟨Nat.le_of_ble_eq_true rfl, Nat.le_of_ble_eq_true rfl⟩ dL_law_48 (fun r48 M48 H locs h hw => ?_)
        refine lv_if_eq (tgt := 65) hx hb dL_law_51 (by decide) (fun q_51 => ?_) (fun q_51 => ?_)
        · have h := h.1 q_51
          exact ((wB_L_law_65 S T (fun M1 a1 a2 v4 t0 h => (wB_L_law_66 S T hK21 _ _ _ _ _ h)) _ _ _ _ h)) H locs ls hw (lv_sub hl [0, 1, 2, 4] rfl)
        · have h := h.2 q_51
          refine lv_aload_n hx hb dL_law_54 rfl (lv_at hl 1 rfl) ?_
          refine cs_i (As := [.ref a1]) (rest := []) S.1 hw (k_L_isSound l E Z M48 a1 _ h) wv_L_87 yc_L_isSound ⟨rfl, rfl⟩ ⟨Nat.le_of_ble_eq_true rfl, Nat.le_of_ble_eq_true rfl⟩ rfl hl.1 (Nat.le_of_ble_eq_true rfl) ⟨Nat.le_of_ble_eq_true rfl, Nat.le_of_ble_eq_true rfl⟩ dL_law_55 (fun r55 M55 H locs h hw => ?_)
          refine lv_if_eq (tgt := 65) hx hb dL_law_58 (by decide) (fun q_58 => ?_) (fun q_58 => ?_)
          · have h := h.1 q_58
            exact ((wB_L_law_65 S T (fun M1 a1 a2 v4 t0 h => (wB_L_law_66 S T hK21 _ _ _ _ _ h)) _ _ _ _ h)) H locs ls hw (lv_sub hl [0, 1, 2, 4] rfl)
          · have h := h.2 q_58
            refine lv_iconst (v := 1) hx hb dL_law_61 (by decide) ?_
            refine lv_goto (tgt := 66) hx hb dL_law_62 (by decide) ?_
            exact ((wB_L_law_66 S T hK21 _ _ _ _ _ h)) H locs ls hw (lv_sub hl [0, 1, 2, 4] rfl)
theorem wL_L_law_21 {b L : Nat} {xs : Nat → Int32} (S : Cx p m c meth cL_law 7 s #[Value.ref b] RL (some .boolean)) (T : Lx l s b L xs Z)   : ∀ (n : Nat) (M : MM) (a1 : Nat) (a2 : Nat) (v3 : Int32) (v4 : Int32), L_L_law_21 Z L xs  n M a1 a2 v3 v4 → WG p l e room_1 s m #[Value.ref b] below meth c 172 6878 (lw_Z below #[Value.ref b] s) E Z M 21 7 [(0, .ref b), (1, .ref a1), (2, .ref a2), (3, .int v3), (4, .int v4)] []
  | 0, _, _, _, _, _, h => False.elim h
  | n + 1, M, a1, a2, v3, v4, h => wB_L_law_21 S T (wL_L_law_21 S T  n) M a1 a2 v3 v4 h
