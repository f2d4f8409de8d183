variable {p : Program} {l : Launch} {e : Env} {s : State} {m : MethodId} {args : Array Value} {below : List Frame} {meth : Method} {c : Code} {E : EE} {Z : ZZ}
set_option maxRecDepth 100000 in
set_option maxHeartbeats 4000000 in
theorem wB_L_law_1326 {b L ce sl : Nat} {xs : Nat → Int32} (S : Cx p m c meth cL_law 9 s #[Value.ref b] RL (some .boolean)) (T : Lx l s b L xs Z) (hce : ce + 4 ≤ 601024) (hsl : sl + 24 ≤ 7293034) {K23 : MM → Nat → Nat → Nat → Int32 → Prop} (hK23 : ∀ (M : MM) (a1 : Nat) (a2 : Nat) (a3 : Nat) (v4 : Int32), K23 M a1 a2 a3 v4 → WG p l e room_1 s m #[Value.ref b] below meth c (ce + 4) (sl + 24) (lw_Z below #[Value.ref b] s) E Z M 23 9 [(0, .ref b), (1, .ref a1), (2, .ref a2), (3, .ref a3), (4, .int v4)] []) (M : MM) (a1 : Nat) (a2 : Nat) (a3 : Nat) (v4 : Int32) (h : B_L_law_1326 Z L xs K23 M a1 a2 a3 v4) : WG p l e room_1 s m #[Value.ref b] below meth c (ce + 4) (sl + 24) (lw_Z below #[Value.ref b] s) E Z M 1326 9 [(0, .ref b), (1, .ref a1), (2, .ref a2), (3, .ref a3), (4, .int v4)] [] := by
  have hrc : 601024 ≤ room_1.cells := Nat.le_refl _
  have hrs : 7293034 ≤ room_1.slots := Nat.le_refl _
  have hX := T.1
  have hbl := T.2.1
  have hbA := T.2.2.1
  intro H locs ls hw hl
  have hx := S.1.1
  have hb := S.1.2.1
  refine lv_iinc (v := (v4 + 4)) (lv' := [(4, .int (v4 + 4)), (0, .ref b), (1, .ref a1), (2, .ref a2), (3, .ref a3)]) hx hb dL_law_1326 hl (k := 4) rfl rfl (by decide) rfl (fun ls hl => ?_)
  refine lv_goto (tgt := 23) hx hb dL_law_1329 (by decide) ?_
  exact (hK23 _ _ _ _ _ h) H locs ls hw (lv_sub hl [1, 2, 3, 4, 0] rfl)
set_option maxRecDepth 100000 in
set_option maxHeartbeats 4000000 in
theorem wB_L_law_23 {b L ce sl : Nat} {xs : Nat → Int32} (S : Cx p m c meth cL_law 9 s #[Value.ref b] RL (some .boolean)) (T : Lx l s b L xs Z) (hce : ce + 4 ≤ 601024) (hsl : sl + 24 ≤ 7293034) {K23 : MM → Nat → Nat → Nat → Int32 → Prop} (hK23 : ∀ (M : MM) (a1 : Nat) (a2 : Nat) (a3 : Nat) (v4 : Int32), K23 M a1 a2 a3 v4 → WG p l e room_1 s m #[Value.ref b] below meth c (ce + 4) (sl + 24) (lw_Z below #[Value.ref b] s) E Z M 23 9 [(0, .ref b), (1, .ref a1), (2, .ref a2), (3, .ref a3), (4, .int v4)] []) (M : MM) (a1 : Nat) (a2 : Nat) (a3 : Nat) (v4 : Int32) (h : B_L_law_23 Z L xs K23 M a1 a2 a3 v4) : WG p l e room_1 s m #[Value.ref b] below meth c ce sl (lw_Z below #[Value.ref b] s) E Z M 23 9 [(0, .ref b), (1, .ref a1), (2, .ref a2), (3, .ref a3), (4, .int v4)] [] := by
  have hrc : 601024 ≤ room_1.cells := Nat.le_refl _
  have hrs : 7293034 ≤ room_1.slots := Nat.le_refl _
  have hX := T.1
  have hbl := T.2.1
  have hbA := T.2.2.1
  intro H locs ls hw hl
  have hx := S.1.1
  have hb := S.1.2.1
  refine lv_iload hx hb dL_law_23 (lv_at hl 4 rfl) ?_
  refine lv_aload_n hx hb dL_law_25 rfl (lv_at hl 0 rfl) ?_
  refine va_slen hx hb hX hbl hbA hw.2.2.2.1 dL_law_26 ?_
  refine lv_iconst (v := 4) hx hb dL_law_27 (by decide) ?_
  refine lv_isub hx hb dL_law_28 ?_
  refine lv_icmp_gt (tgt := 1332) hx hb dL_law_29 (by decide) (fun q_29 => ?_) (fun q_29 => ?_)
  · have h := h.1 q_29
    refine lv_iconst (v := 1) hx hb dL_law_1332 (by decide) ?_
    refine va_forget (fun q hq => T.2.2.2.2.2 _ (hw.2.2.2.1.2.2 q hq)) ?_
    refine W.widen (k := 601024) (n := 7293034) (by omega) (by omega) ?_
    exact lw_ret (d0 := s.drawn) (Drawn.sameBut.refl s.drawn lw_cs) hx hb S.2.1 S.2.2 dL_law_1333
  · have h := h.2 q_29
    refine lv_aload_n hx hb dL_law_32 rfl (lv_at hl 0 rfl) ?_
    refine lv_iload hx hb dL_law_33 (lv_at hl 4 rfl) ?_
    obtain ⟨i_35, h⟩ := h
    refine va_sld hx hb hX hbl hbA hw.2.2.2.1 i_35 dL_law_35 ?_
    refine lv_bipush (v := 31) hx hb dL_law_36 (by decide) ?_
    refine lv_iand hx hb dL_law_38 ?_
    by_cases q_39_0 : ((xs v4.toNatClampNeg) &&& 31) = 0
    · have h := h.1 q_39_0
      refine lv_tableIn (tgt := 152) hx hb dL_law_39 (by rw [q_39_0]; decide) (by rw [q_39_0]; decide) (by rw [q_39_0]; rfl) (by decide) ?_
      refine lv_aload_n hx hb dL_law_152 rfl (lv_at hl 1 rfl) ?_
      refine lv_aload_n hx hb dL_law_153 rfl (lv_at hl 0 rfl) ?_
      refine lv_iload hx hb dL_law_154 (lv_at hl 4 rfl) ?_
      refine lv_iconst (v := 1) hx hb dL_law_156 (by decide) ?_
      refine lv_iadd hx hb dL_law_157 ?_
      obtain ⟨i_158, h⟩ := h
      refine va_sld hx hb hX hbl hbA hw.2.2.2.1 i_158 dL_law_158 ?_
      refine lv_aload_n hx hb dL_law_159 rfl (lv_at hl 0 rfl) ?_
      refine lv_iload hx hb dL_law_160 (lv_at hl 4 rfl) ?_
      refine lv_iconst (v := 2) hx hb dL_law_162 (by decide) ?_
      refine lv_iadd hx hb dL_law_163 ?_
      obtain ⟨i_164, h⟩ := h
      refine va_sld hx hb hX hbl hbA hw.2.2.2.1 i_164 dL_law_164 ?_
      refine lv_aload_n hx hb dL_law_165 rfl (lv_at hl 0 rfl) ?_
      refine lv_iload hx hb dL_law_166 (lv_at hl 4 rfl) ?_
      refine lv_iconst (v := 3) hx hb dL_law_168 (by decide) ?_
      refine lv_iadd hx hb dL_law_169 ?_
      obtain ⟨i_170, h⟩ := h
      refine va_sld hx hb hX hbl hbA hw.2.2.2.1 i_170 dL_law_170 ?_
      refine lv_aload_n hx hb dL_law_171 rfl (lv_at hl 3 rfl) ?_
      refine csw_i (As := [.ref a1, .int (xs (v4 + 1).toNatClampNeg), .int (xs (v4 + 2).toNatClampNeg), .int (xs (v4 + 3).toNatClampNeg), .ref a3]) (rest := []) S.1 T.2.2.2.1 hw (k_L_make l T.2.2.2.2.1 E Z M a1 (xs (v4 + 1).toNatClampNeg) (xs (v4 + 2).toNatClampNeg) (xs (v4 + 3).toNatClampNeg) a3 _ h) wv_L_71 yc_L_make ⟨rfl, rfl⟩ ⟨Nat.le_of_ble_eq_true rfl, Nat.le_of_ble_eq_true rfl⟩ rfl hl.1 (Nat.le_of_ble_eq_true rfl) ⟨Nat.le_trans (by omega) hrc, Nat.le_trans (by omega) hrs⟩ dL_law_172 (fun r172 M172 H locs h hw => ?_)
      refine lv_istore (lv' := [(5, .int r172), (0, .ref b), (1, .ref a1), (2, .ref a2), (3, .ref a3), (4, .int v4)]) hx hb dL_law_175 hl (by decide) rfl (fun ls hl => ?_)
      refine lv_aload_n hx hb dL_law_177 rfl (lv_at hl 3 rfl) ?_
      refine lv_aload_n hx hb dL_law_178 rfl (lv_at hl 1 rfl) ?_
      refine lv_iload hx hb dL_law_179 (lv_at hl 5 rfl) ?_
      refine lv_iconst (v := 1) hx hb dL_law_181 (by decide) ?_
      refine lv_iadd hx hb dL_law_182 ?_
      obtain ⟨i_183, h⟩ := h
      refine va_sld hx hb hX hbl hbA hw.2.2.2.1 i_183 dL_law_183 ?_
      refine lv_aload_n hx hb dL_law_184 rfl (lv_at hl 1 rfl) ?_
      refine lv_iload hx hb dL_law_185 (lv_at hl 5 rfl) ?_
      refine lv_iconst (v := 2) hx hb dL_law_187 (by decide) ?_
      refine lv_iadd hx hb dL_law_188 ?_
      obtain ⟨i_189, h⟩ := h
      refine va_sld hx hb hX hbl hbA hw.2.2.2.1 i_189 dL_law_189 ?_
      refine lv_aload_n hx hb dL_law_190 rfl (lv_at hl 1 rfl) ?_
      refine lv_iload hx hb dL_law_191 (lv_at hl 5 rfl) ?_
      refine lv_iconst (v := 3) hx hb dL_law_193 (by decide) ?_
      refine lv_iadd hx hb dL_law_194 ?_
      obtain ⟨i_195, h⟩ := h
      refine va_sld hx hb hX hbl hbA hw.2.2.2.1 i_195 dL_law_195 ?_
      obtain ⟨k_0, h⟩ := h
      refine cv_i (As := [.int (xs (v4 + 1).toNatClampNeg), .int (xs (v4 + 2).toNatClampNeg), .int (xs (v4 + 3).toNatClampNeg)]) (rest := []) S.1 hw (k_X6_make l E Z M172 a2 (xs (v4 + 1).toNatClampNeg) (xs (v4 + 2).toNatClampNeg) (xs (v4 + 3).toNatClampNeg) _ h) wv_L_76 yc_X6_make ⟨rfl, rfl⟩ ⟨Nat.le_of_ble_eq_true rfl, Nat.le_of_ble_eq_true rfl⟩ rfl hl.1 (Nat.le_of_ble_eq_true rfl) (ci := 6) (q := (RX6, TX6, 12)) rfl rfl (by rw [k_0]; decide) (cell_6 k_0) ⟨Nat.le_trans (by omega) hrc, Nat.le_trans (by omega) hrs⟩ dL_law_196 (fun r196 M196 H locs h hw => ?_)
      refine lv_istore (lv' := [(6, .int r196), (5, .int r172), (0, .ref b), (1, .ref a1), (2, .ref a2), (3, .ref a3), (4, .int v4)]) hx hb dL_law_199 hl (by decide) rfl (fun ls hl => ?_)
      refine lv_aload_n hx hb dL_law_201 rfl (lv_at hl 4 rfl) ?_
      refine cv_i (As := []) (rest := []) S.1 hw (k_X6_thrown l E Z M196 a2  _ h) wv_L_77 yc_X6_thrown ⟨rfl, rfl⟩ ⟨Nat.le_of_ble_eq_true rfl, Nat.le_of_ble_eq_true rfl⟩ rfl hl.1 (Nat.le_of_ble_eq_true rfl) (ci := 6) (q := (RX6, TX6, 12)) rfl rfl (by rw [k_0]; decide) (cell_6 k_0) ⟨Nat.le_trans (by omega) hrc, Nat.le_trans (by omega) hrs⟩ dL_law_202 (fun r202 M202 H locs h hw => ?_)
      refine lv_iload hx hb dL_law_205 (lv_at hl 1 rfl) ?_
      refine lv_icmp_eq (tgt := 212) hx hb dL_law_207 (by decide) (fun q_207 => ?_) (fun q_207 => ?_)
      · have h := h.1 q_207
        refine lv_iload hx hb dL_law_212 (lv_at hl 1 rfl) ?_
        refine lv_if_ne (tgt := 229) hx hb dL_law_214 (by decide) (fun q_214 => ?_) (fun q_214 => ?_)
        · have h := h.1 q_214
          refine lv_goto (tgt := 1326) hx hb dL_law_229 (by decide) ?_
          refine W.widen (k := ce + 4) (n := sl + 24) (by omega) (by omega) ?_
          exact ((wB_L_law_1326 S T hce hsl hK23 _ _ _ _ _ h)) H locs ls hw (lv_sub hl [2, 3, 4, 5, 6] rfl)
        · have h := h.2 q_214
          refine lv_aload_n hx hb dL_law_217 rfl (lv_at hl 5 rfl) ?_
          refine lv_iconst (v := 0) hx hb dL_law_218 (by decide) ?_
          obtain ⟨k_1, h⟩ := h
          obtain ⟨i_219, h⟩ := h
          refine wo_lald S.1 hw k_1 i_219 dL_law_219 ?_
          refine lv_iload hx hb dL_law_220 (lv_at hl 0 rfl) ?_
          refine lv_i2l (v := r196.toInt64) hx hb dL_law_222 rfl ?_
          refine W.lcmp hx hb dL_law_223 ?_
          refine lv_if_eq (tgt := 229) hx hb dL_law_224 (by decide) (fun q_224 => ?_) (fun q_224 => ?_)
          · have h := h.1 q_224
            refine lv_goto (tgt := 1326) hx hb dL_law_229 (by decide) ?_
            refine W.widen (k := ce + 4) (n := sl + 24) (by omega) (by omega) ?_
            exact ((wB_L_law_1326 S T hce hsl hK23 _ _ _ _ _ h)) H locs ls hw (lv_sub hl [2, 3, 4, 5, 6] rfl)
          · have h := h.2 q_224
            refine lv_iconst (v := 0) hx hb dL_law_227 (by decide) ?_
            exact h.elim
      · have h := h.2 q_207
        refine lv_iconst (v := 0) hx hb dL_law_210 (by decide) ?_
        exact h.elim
    · have h := h.2 q_39_0
      by_cases q_39_1 : ((xs v4.toNatClampNeg) &&& 31) = 1
      · have h := h.1 q_39_1
        refine lv_tableIn (tgt := 232) hx hb dL_law_39 (by rw [q_39_1]; decide) (by rw [q_39_1]; decide) (by rw [q_39_1]; rfl) (by decide) ?_
        refine lv_aload_n hx hb dL_law_232 rfl (lv_at hl 1 rfl) ?_
        refine lv_aload_n hx hb dL_law_233 rfl (lv_at hl 0 rfl) ?_
        refine lv_iload hx hb dL_law_234 (lv_at hl 4 rfl) ?_
        refine lv_iconst (v := 1) hx hb dL_law_236 (by decide) ?_
        refine lv_iadd hx hb dL_law_237 ?_
        obtain ⟨i_238, h⟩ := h
        refine va_sld hx hb hX hbl hbA hw.2.2.2.1 i_238 dL_law_238 ?_
        refine lv_aload_n hx hb dL_law_239 rfl (lv_at hl 0 rfl) ?_
        refine lv_iload hx hb dL_law_240 (lv_at hl 4 rfl) ?_
        refine lv_iconst (v := 2) hx hb dL_law_242 (by decide) ?_
        refine lv_iadd hx hb dL_law_243 ?_
        obtain ⟨i_244, h⟩ := h
        refine va_sld hx hb hX hbl hbA hw.2.2.2.1 i_244 dL_law_244 ?_
        refine lv_aload_n hx hb dL_law_245 rfl (lv_at hl 3 rfl) ?_
        refine csw_i (As := [.ref a1, .int (xs (v4 + 1).toNatClampNeg), .int (xs (v4 + 2).toNatClampNeg), .ref a3]) (rest := []) S.1 T.2.2.2.1 hw (k_L_lay l T.2.2.2.2.1 E Z M a1 (xs (v4 + 1).toNatClampNeg) (xs (v4 + 2).toNatClampNeg) a3 _ h) wv_L_80 yc_L_lay ⟨rfl, rfl⟩ ⟨Nat.le_of_ble_eq_true rfl, Nat.le_of_ble_eq_true rfl⟩ rfl hl.1 (Nat.le_of_ble_eq_true rfl) ⟨Nat.le_trans (by omega) hrc, Nat.le_trans (by omega) hrs⟩ dL_law_246 (fun r246 M246 H locs h hw => ?_)
        refine lv_istore (lv' := [(5, .int r246), (0, .ref b), (1, .ref a1), (2, .ref a2), (3, .ref a3), (4, .int v4)]) hx hb dL_law_249 hl (by decide) rfl (fun ls hl => ?_)
        refine lv_aload_n hx hb dL_law_251 rfl (lv_at hl 3 rfl) ?_
        refine lv_aload_n hx hb dL_law_252 rfl (lv_at hl 1 rfl) ?_
        refine lv_iload hx hb dL_law_253 (lv_at hl 5 rfl) ?_
        refine lv_iconst (v := 1) hx hb dL_law_255 (by decide) ?_
        refine lv_iadd hx hb dL_law_256 ?_
        obtain ⟨i_257, h⟩ := h
        refine va_sld hx hb hX hbl hbA hw.2.2.2.1 i_257 dL_law_257 ?_
        refine lv_aload_n hx hb dL_law_258 rfl (lv_at hl 1 rfl) ?_
        refine lv_iload hx hb dL_law_259 (lv_at hl 5 rfl) ?_
        refine lv_iconst (v := 2) hx hb dL_law_261 (by decide) ?_
        refine lv_iadd hx hb dL_law_262 ?_
        obtain ⟨i_263, h⟩ := h
        refine va_sld hx hb hX hbl hbA hw.2.2.2.1 i_263 dL_law_263 ?_
        obtain ⟨k_2, h⟩ := h
        refine cv_i (As := [.int (xs (v4 + 1).toNatClampNeg), .int (xs (v4 + 2).toNatClampNeg)]) (rest := []) S.1 hw (k_X6_lay l E Z M246 a2 (xs (v4 + 1).toNatClampNeg) (xs (v4 + 2).toNatClampNeg) _ h) wv_L_83 yc_X6_lay ⟨rfl, rfl⟩ ⟨Nat.le_of_ble_eq_true rfl, Nat.le_of_ble_eq_true rfl⟩ rfl hl.1 (Nat.le_of_ble_eq_true rfl) (ci := 6) (q := (RX6, TX6, 12)) rfl rfl (by rw [k_2]; decide) (cell_6 k_2) ⟨Nat.le_trans (by omega) hrc, Nat.le_trans (by omega) hrs⟩ dL_law_264 (fun r264 M264 H locs h hw => ?_)
        refine lv_istore (lv' := [(6, .int r264), (5, .int r246), (0, .ref b), (1, .ref a1), (2, .ref a2), (3, .ref a3), (4, .int v4)]) hx hb dL_law_267 hl (by decide) rfl (fun ls hl => ?_)
        refine lv_aload_n hx hb dL_law_269 rfl (lv_at hl 4 rfl) ?_
        refine cv_i (As := []) (rest := []) S.1 hw (k_X6_thrown l E Z M264 a2  _ h) wv_L_77 yc_X6_thrown ⟨rfl, rfl⟩ ⟨Nat.le_of_ble_eq_true rfl, Nat.le_of_ble_eq_true rfl⟩ rfl hl.1 (Nat.le_of_ble_eq_true rfl) (ci := 6) (q := (RX6, TX6, 12)) rfl rfl (by rw [k_2]; decide) (cell_6 k_2) ⟨Nat.le_trans (by omega) hrc, Nat.le_trans (by omega) hrs⟩ dL_law_270 (fun r270 M270 H locs h hw => ?_)
        refine lv_iload hx hb dL_law_273 (lv_at hl 1 rfl) ?_
        refine lv_icmp_eq (tgt := 280) hx hb dL_law_275 (by decide) (fun q_275 => ?_) (fun q_275 => ?_)
        · have h := h.1 q_275
          refine lv_iload hx hb dL_law_280 (lv_at hl 1 rfl) ?_
          refine lv_if_ne (tgt := 297) hx hb dL_law_282 (by decide) (fun q_282 => ?_) (fun q_282 => ?_)
          · have h := h.1 q_282
            refine lv_goto (tgt := 1326) hx hb dL_law_297 (by decide) ?_
            refine W.widen (k := ce + 4) (n := sl + 24) (by omega) (by omega) ?_
            exact ((wB_L_law_1326 S T hce hsl hK23 _ _ _ _ _ h)) H locs ls hw (lv_sub hl [2, 3, 4, 5, 6] rfl)
          · have h := h.2 q_282
            refine lv_aload_n hx hb dL_law_285 rfl (lv_at hl 5 rfl) ?_
            refine lv_iconst (v := 0) hx hb dL_law_286 (by decide) ?_
            obtain ⟨k_3, h⟩ := h
            obtain ⟨i_287, h⟩ := h
            refine wo_lald S.1 hw k_3 i_287 dL_law_287 ?_
            refine lv_iload hx hb dL_law_288 (lv_at hl 0 rfl) ?_
            refine lv_i2l (v := r264.toInt64) hx hb dL_law_290 rfl ?_
            refine W.lcmp hx hb dL_law_291 ?_
            refine lv_if_eq (tgt := 297) hx hb dL_law_292 (by decide) (fun q_292 => ?_) (fun q_292 => ?_)
            · have h := h.1 q_292
              refine lv_goto (tgt := 1326) hx hb dL_law_297 (by decide) ?_
              refine W.widen (k := ce + 4) (n := sl + 24) (by omega) (by omega) ?_
              exact ((wB_L_law_1326 S T hce hsl hK23 _ _ _ _ _ h)) H locs ls hw (lv_sub hl [2, 3, 4, 5, 6] rfl)
            · have h := h.2 q_292
              refine lv_iconst (v := 0) hx hb dL_law_295 (by decide) ?_
              exact h.elim
        · have h := h.2 q_275
          refine lv_iconst (v := 0) hx hb dL_law_278 (by decide) ?_
          exact h.elim
      · have h := h.2 q_39_1
        by_cases q_39_2 : ((xs v4.toNatClampNeg) &&& 31) = 2
        · have h := h.1 q_39_2
          refine lv_tableIn (tgt := 300) hx hb dL_law_39 (by rw [q_39_2]; decide) (by rw [q_39_2]; decide) (by rw [q_39_2]; rfl) (by decide) ?_
          refine lv_aload_n hx hb dL_law_300 rfl (lv_at hl 1 rfl) ?_
          refine lv_aload_n hx hb dL_law_301 rfl (lv_at hl 0 rfl) ?_
          refine lv_iload hx hb dL_law_302 (lv_at hl 4 rfl) ?_
          refine lv_iconst (v := 1) hx hb dL_law_304 (by decide) ?_
          refine lv_iadd hx hb dL_law_305 ?_
          obtain ⟨i_306, h⟩ := h
          refine va_sld hx hb hX hbl hbA hw.2.2.2.1 i_306 dL_law_306 ?_
          refine lv_aload_n hx hb dL_law_307 rfl (lv_at hl 0 rfl) ?_
          refine lv_iload hx hb dL_law_308 (lv_at hl 4 rfl) ?_
          refine lv_iconst (v := 2) hx hb dL_law_310 (by decide) ?_
          refine lv_iadd hx hb dL_law_311 ?_
          obtain ⟨i_312, h⟩ := h
          refine va_sld hx hb hX hbl hbA hw.2.2.2.1 i_312 dL_law_312 ?_
          refine lv_aload_n hx hb dL_law_313 rfl (lv_at hl 3 rfl) ?_
          refine csw_i (As := [.ref a1, .int (xs (v4 + 1).toNatClampNeg), .int (xs (v4 + 2).toNatClampNeg), .ref a3]) (rest := []) S.1 T.2.2.2.1 hw (k_L_saw l T.2.2.2.2.1 E Z M a1 (xs (v4 + 1).toNatClampNeg) (xs (v4 + 2).toNatClampNeg) a3 _ h) wv_L_84 yc_L_saw ⟨rfl, rfl⟩ ⟨Nat.le_of_ble_eq_true rfl, Nat.le_of_ble_eq_true rfl⟩ rfl hl.1 (Nat.le_of_ble_eq_true rfl) ⟨Nat.le_trans (by omega) hrc, Nat.le_trans (by omega) hrs⟩ dL_law_314 (fun r314 M314 H locs h hw => ?_)
          refine lv_istore (lv' := [(5, .int r314), (0, .ref b), (1, .ref a1), (2, .ref a2), (3, .ref a3), (4, .int v4)]) hx hb dL_law_317 hl (by decide) rfl (fun ls hl => ?_)
          refine lv_aload_n hx hb dL_law_319 rfl (lv_at hl 3 rfl) ?_
          refine lv_aload_n hx hb dL_law_320 rfl (lv_at hl 1 rfl) ?_
          refine lv_iload hx hb dL_law_321 (lv_at hl 5 rfl) ?_
          refine lv_iconst (v := 1) hx hb dL_law_323 (by decide) ?_
          refine lv_iadd hx hb dL_law_324 ?_
          obtain ⟨i_325, h⟩ := h
          refine va_sld hx hb hX hbl hbA hw.2.2.2.1 i_325 dL_law_325 ?_
          refine lv_aload_n hx hb dL_law_326 rfl (lv_at hl 1 rfl) ?_
          refine lv_iload hx hb dL_law_327 (lv_at hl 5 rfl) ?_
          refine lv_iconst (v := 2) hx hb dL_law_329 (by decide) ?_
          refine lv_iadd hx hb dL_law_330 ?_
          obtain ⟨i_331, h⟩ := h
          refine va_sld hx hb hX hbl hbA hw.2.2.2.1 i_331 dL_law_331 ?_
          obtain ⟨k_4, h⟩ := h
          refine cv_i (As := [.int (xs (v4 + 1).toNatClampNeg), .int (xs (v4 + 2).toNatClampNeg)]) (rest := []) S.1 hw (k_X6_saw l E Z M314 a2 (xs (v4 + 1).toNatClampNeg) (xs (v4 + 2).toNatClampNeg) _ h) wv_L_86 yc_X6_saw ⟨rfl, rfl⟩ ⟨Nat.le_of_ble_eq_true rfl, Nat.le_of_ble_eq_true rfl⟩ rfl hl.1 (Nat.le_of_ble_eq_true rfl) (ci := 6) (q := (RX6, TX6, 12)) rfl rfl (by rw [k_4]; decide) (cell_6 k_4) ⟨Nat.le_trans (by omega) hrc, Nat.le_trans (by omega) hrs⟩ dL_law_332 (fun r332 M332 H locs h hw => ?_)
          refine lv_istore (lv' := [(6, .int r332), (5, .int r314), (0, .ref b), (1, .ref a1), (2, .ref a2), (3, .ref a3), (4, .int v4)]) hx hb dL_law_335 hl (by decide) rfl (fun ls hl => ?_)
          refine lv_aload_n hx hb dL_law_337 rfl (lv_at hl 4 rfl) ?_
          refine cv_i (As := []) (rest := []) S.1 hw (k_X6_thrown l E Z M332 a2  _ h) wv_L_77 yc_X6_thrown ⟨rfl, rfl⟩ ⟨Nat.le_of_ble_eq_true rfl, Nat.le_of_ble_eq_true rfl⟩ rfl hl.1 (Nat.le_of_ble_eq_true rfl) (ci := 6) (q := (RX6, TX6, 12)) rfl rfl (by rw [k_4]; decide) (cell_6 k_4) ⟨Nat.le_trans (by omega) hrc, Nat.le_trans (by omega) hrs⟩ dL_law_338 (fun r338 M338 H locs h hw => ?_)
          refine lv_iload hx hb dL_law_341 (lv_at hl 1 rfl) ?_
          refine lv_icmp_eq (tgt := 348) hx hb dL_law_343 (by decide) (fun q_343 => ?_) (fun q_343 => ?_)
          · have h := h.1 q_343
            refine lv_iload hx hb dL_law_348 (lv_at hl 1 rfl) ?_
            refine lv_if_ne (tgt := 365) hx hb dL_law_350 (by decide) (fun q_350 => ?_) (fun q_350 => ?_)
            · have h := h.1 q_350
              refine lv_goto (tgt := 1326) hx hb dL_law_365 (by decide) ?_
              refine W.widen (k := ce + 4) (n := sl + 24) (by omega) (by omega) ?_
              exact ((wB_L_law_1326 S T hce hsl hK23 _ _ _ _ _ h)) H locs ls hw (lv_sub hl [2, 3, 4, 5, 6] rfl)
            · have h := h.2 q_350
              refine lv_aload_n hx hb dL_law_353 rfl (lv_at hl 5 rfl) ?_
              refine lv_iconst (v := 0) hx hb dL_law_354 (by decide) ?_
              obtain ⟨k_5, h⟩ := h
              obtain ⟨i_355, h⟩ := h
              refine wo_lald S.1 hw k_5 i_355 dL_law_355 ?_
              refine lv_iload hx hb dL_law_356 (lv_at hl 0 rfl) ?_
              refine lv_i2l (v := r332.toInt64) hx hb dL_law_358 rfl ?_
              refine W.lcmp hx hb dL_law_359 ?_
              refine lv_if_eq (tgt := 365) hx hb dL_law_360 (by decide) (fun q_360 => ?_) (fun q_360 => ?_)
              · have h := h.1 q_360
                refine lv_goto (tgt := 1326) hx hb dL_law_365 (by decide) ?_
                refine W.widen (k := ce + 4) (n := sl + 24) (by omega) (by omega) ?_
                exact ((wB_L_law_1326 S T hce hsl hK23 _ _ _ _ _ h)) H locs ls hw (lv_sub hl [2, 3, 4, 5, 6] rfl)
              · have h := h.2 q_360
                refine lv_iconst (v := 0) hx hb dL_law_363 (by decide) ?_
                exact h.elim
          · have h := h.2 q_343
            refine lv_iconst (v := 0) hx hb dL_law_346 (by decide) ?_
            exact h.elim
        · have h := h.2 q_39_2
          by_cases q_39_3 : ((xs v4.toNatClampNeg) &&& 31) = 3
          · have h := h.1 q_39_3
            refine lv_tableIn (tgt := 368) hx hb dL_law_39 (by rw [q_39_3]; decide) (by rw [q_39_3]; decide) (by rw [q_39_3]; rfl) (by decide) ?_
            refine lv_aload_n hx hb dL_law_368 rfl (lv_at hl 1 rfl) ?_
            refine lv_aload_n hx hb dL_law_369 rfl (lv_at hl 0 rfl) ?_
            refine lv_iload hx hb dL_law_370 (lv_at hl 4 rfl) ?_
            refine lv_iconst (v := 1) hx hb dL_law_372 (by decide) ?_
            refine lv_iadd hx hb dL_law_373 ?_
            obtain ⟨i_374, h⟩ := h
            refine va_sld hx hb hX hbl hbA hw.2.2.2.1 i_374 dL_law_374 ?_
            refine lv_aload_n hx hb dL_law_375 rfl (lv_at hl 0 rfl) ?_
            refine lv_iload hx hb dL_law_376 (lv_at hl 4 rfl) ?_
            refine lv_iconst (v := 2) hx hb dL_law_378 (by decide) ?_
            refine lv_iadd hx hb dL_law_379 ?_
            obtain ⟨i_380, h⟩ := h
            refine va_sld hx hb hX hbl hbA hw.2.2.2.1 i_380 dL_law_380 ?_
            refine lv_aload_n hx hb dL_law_381 rfl (lv_at hl 0 rfl) ?_
            refine lv_iload hx hb dL_law_382 (lv_at hl 4 rfl) ?_
            refine lv_iconst (v := 3) hx hb dL_law_384 (by decide) ?_
            refine lv_iadd hx hb dL_law_385 ?_
            obtain ⟨i_386, h⟩ := h
            refine va_sld hx hb hX hbl hbA hw.2.2.2.1 i_386 dL_law_386 ?_
            refine lv_aload_n hx hb dL_law_387 rfl (lv_at hl 3 rfl) ?_
            refine csw_i (As := [.ref a1, .int (xs (v4 + 1).toNatClampNeg), .int (xs (v4 + 2).toNatClampNeg), .int (xs (v4 + 3).toNatClampNeg), .ref a3]) (rest := []) S.1 T.2.2.2.1 hw (k_L_sawAround l T.2.2.2.2.1 E Z M a1 (xs (v4 + 1).toNatClampNeg) (xs (v4 + 2).toNatClampNeg) (xs (v4 + 3).toNatClampNeg) a3 _ h) wv_L_87 yc_L_sawAround ⟨rfl, rfl⟩ ⟨Nat.le_of_ble_eq_true rfl, Nat.le_of_ble_eq_true rfl⟩ rfl hl.1 (Nat.le_of_ble_eq_true rfl) ⟨Nat.le_trans (by omega) hrc, Nat.le_trans (by omega) hrs⟩ dL_law_388 (fun r388 M388 H locs h hw => ?_)
            refine lv_istore (lv' := [(5, .int r388), (0, .ref b), (1, .ref a1), (2, .ref a2), (3, .ref a3), (4, .int v4)]) hx hb dL_law_391 hl (by decide) rfl (fun ls hl => ?_)
            refine lv_aload_n hx hb dL_law_393 rfl (lv_at hl 3 rfl) ?_
            refine lv_aload_n hx hb dL_law_394 rfl (lv_at hl 1 rfl) ?_
            refine lv_iload hx hb dL_law_395 (lv_at hl 5 rfl) ?_
            refine lv_iconst (v := 1) hx hb dL_law_397 (by decide) ?_
            refine lv_iadd hx hb dL_law_398 ?_
            obtain ⟨i_399, h⟩ := h
            refine va_sld hx hb hX hbl hbA hw.2.2.2.1 i_399 dL_law_399 ?_
            refine lv_aload_n hx hb dL_law_400 rfl (lv_at hl 1 rfl) ?_
            refine lv_iload hx hb dL_law_401 (lv_at hl 5 rfl) ?_
            refine lv_iconst (v := 2) hx hb dL_law_403 (by decide) ?_
            refine lv_iadd hx hb dL_law_404 ?_
            obtain ⟨i_405, h⟩ := h
            refine va_sld hx hb hX hbl hbA hw.2.2.2.1 i_405 dL_law_405 ?_
            refine lv_aload_n hx hb dL_law_406 rfl (lv_at hl 1 rfl) ?_
            refine lv_iload hx hb dL_law_407 (lv_at hl 5 rfl) ?_
            refine lv_iconst (v := 3) hx hb dL_law_409 (by decide) ?_
            refine lv_iadd hx hb dL_law_410 ?_
            obtain ⟨i_411, h⟩ := h
            refine va_sld hx hb hX hbl hbA hw.2.2.2.1 i_411 dL_law_411 ?_
            obtain ⟨k_6, h⟩ := h
            refine cv_i (As := [.int (xs (v4 + 1).toNatClampNeg), .int (xs (v4 + 2).toNatClampNeg), .int (xs (v4 + 3).toNatClampNeg)]) (rest := []) S.1 hw (k_X6_sawAround l E Z M388 a2 (xs (v4 + 1).toNatClampNeg) (xs (v4 + 2).toNatClampNeg) (xs (v4 + 3).toNatClampNeg) _ h) wv_L_89 yc_X6_sawAround ⟨rfl, rfl⟩ ⟨Nat.le_of_ble_eq_true rfl, Nat.le_of_ble_eq_true rfl⟩ rfl hl.1 (Nat.le_of_ble_eq_true rfl) (ci := 6) (q := (RX6, TX6, 12)) rfl rfl (by rw [k_6]; decide) (cell_6 k_6) ⟨Nat.le_trans (by omega) hrc, Nat.le_trans (by omega) hrs⟩ dL_law_412 (fun r412 M412 H locs h hw => ?_)
            refine lv_istore (lv' := [(6, .int r412), (5, .int r388), (0, .ref b), (1, .ref a1), (2, .ref a2), (3, .ref a3), (4, .int v4)]) hx hb dL_law_415 hl (by decide) rfl (fun ls hl => ?_)
            refine lv_aload_n hx hb dL_law_417 rfl (lv_at hl 4 rfl) ?_
            refine cv_i (As := []) (rest := []) S.1 hw (k_X6_thrown l E Z M412 a2  _ h) wv_L_77 yc_X6_thrown ⟨rfl, rfl⟩ ⟨Nat.le_of_ble_eq_true rfl, Nat.le_of_ble_eq_true rfl⟩ rfl hl.1 (Nat.le_of_ble_eq_true rfl) (ci := 6) (q := (RX6, TX6, 12)) rfl rfl (by rw [k_6]; decide) (cell_6 k_6) ⟨Nat.le_trans (by omega) hrc, Nat.le_trans (by omega) hrs⟩ dL_law_418 (fun r418 M418 H locs h hw => ?_)
            refine lv_iload hx hb dL_law_421 (lv_at hl 1 rfl) ?_
            refine lv_icmp_eq (tgt := 428) hx hb dL_law_423 (by decide) (fun q_423 => ?_) (fun q_423 => ?_)
            · have h := h.1 q_423
              refine lv_iload hx hb dL_law_428 (lv_at hl 1 rfl) ?_
              refine lv_if_ne (tgt := 445) hx hb dL_law_430 (by decide) (fun q_430 => ?_) (fun q_430 => ?_)
              · have h := h.1 q_430
                refine lv_goto (tgt := 1326) hx hb dL_law_445 (by decide) ?_
                refine W.widen (k := ce + 4) (n := sl + 24) (by omega) (by omega) ?_
                exact ((wB_L_law_1326 S T hce hsl hK23 _ _ _ _ _ h)) H locs ls hw (lv_sub hl [2, 3, 4, 5, 6] rfl)
              · have h := h.2 q_430
                refine lv_aload_n hx hb dL_law_433 rfl (lv_at hl 5 rfl) ?_
                refine lv_iconst (v := 0) hx hb dL_law_434 (by decide) ?_
                obtain ⟨k_7, h⟩ := h
                obtain ⟨i_435, h⟩ := h
                refine wo_lald S.1 hw k_7 i_435 dL_law_435 ?_
                refine lv_iload hx hb dL_law_436 (lv_at hl 0 rfl) ?_
                refine lv_i2l (v := r412.toInt64) hx hb dL_law_438 rfl ?_
                refine W.lcmp hx hb dL_law_439 ?_
                refine lv_if_eq (tgt := 445) hx hb dL_law_440 (by decide) (fun q_440 => ?_) (fun q_440 => ?_)
                · have h := h.1 q_440
                  refine lv_goto (tgt := 1326) hx hb dL_law_445 (by decide) ?_
                  refine W.widen (k := ce + 4) (n := sl + 24) (by omega) (by omega) ?_
                  exact ((wB_L_law_1326 S T hce hsl hK23 _ _ _ _ _ h)) H locs ls hw (lv_sub hl [2, 3, 4, 5, 6] rfl)
                · have h := h.2 q_440
                  refine lv_iconst (v := 0) hx hb dL_law_443 (by decide) ?_
                  exact h.elim
            · have h := h.2 q_423
              refine lv_iconst (v := 0) hx hb dL_law_426 (by decide) ?_
              exact h.elim
          · have h := h.2 q_39_3
            by_cases q_39_4 : ((xs v4.toNatClampNeg) &&& 31) = 4
            · have h := h.1 q_39_4
              refine lv_tableIn (tgt := 448) hx hb dL_law_39 (by rw [q_39_4]; decide) (by rw [q_39_4]; decide) (by rw [q_39_4]; rfl) (by decide) ?_
              refine lv_aload_n hx hb dL_law_448 rfl (lv_at hl 1 rfl) ?_
              refine lv_aload_n hx hb dL_law_449 rfl (lv_at hl 0 rfl) ?_
              refine lv_iload hx hb dL_law_450 (lv_at hl 4 rfl) ?_
              refine lv_iconst (v := 1) hx hb dL_law_452 (by decide) ?_
              refine lv_iadd hx hb dL_law_453 ?_
              obtain ⟨i_454, h⟩ := h
              refine va_sld hx hb hX hbl hbA hw.2.2.2.1 i_454 dL_law_454 ?_
              refine lv_aload_n hx hb dL_law_455 rfl (lv_at hl 3 rfl) ?_
              refine csw_i (As := [.ref a1, .int (xs (v4 + 1).toNatClampNeg), .ref a3]) (rest := []) S.1 T.2.2.2.1 hw (k_L_takeOut l T.2.2.2.2.1 E Z M a1 (xs (v4 + 1).toNatClampNeg) a3 _ h) wv_L_90 yc_L_takeOut ⟨rfl, rfl⟩ ⟨Nat.le_of_ble_eq_true rfl, Nat.le_of_ble_eq_true rfl⟩ rfl hl.1 (Nat.le_of_ble_eq_true rfl) ⟨Nat.le_trans (by omega) hrc, Nat.le_trans (by omega) hrs⟩ dL_law_456 (fun r456 M456 H locs h hw => ?_)
              refine lv_istore (lv' := [(5, .int r456), (0, .ref b), (1, .ref a1), (2, .ref a2), (3, .ref a3), (4, .int v4)]) hx hb dL_law_459 hl (by decide) rfl (fun ls hl => ?_)
              refine lv_aload_n hx hb dL_law_461 rfl (lv_at hl 3 rfl) ?_
              refine lv_aload_n hx hb dL_law_462 rfl (lv_at hl 1 rfl) ?_
              refine lv_iload hx hb dL_law_463 (lv_at hl 5 rfl) ?_
              refine lv_iconst (v := 1) hx hb dL_law_465 (by decide) ?_
              refine lv_iadd hx hb dL_law_466 ?_
              obtain ⟨i_467, h⟩ := h
              refine va_sld hx hb hX hbl hbA hw.2.2.2.1 i_467 dL_law_467 ?_
              obtain ⟨k_8, h⟩ := h
              refine cv_i (As := [.int (xs (v4 + 1).toNatClampNeg)]) (rest := []) S.1 hw (k_X6_takeOut l E Z M456 a2 (xs (v4 + 1).toNatClampNeg) _ h) wv_L_93 yc_X6_takeOut ⟨rfl, rfl⟩ ⟨Nat.le_of_ble_eq_true rfl, Nat.le_of_ble_eq_true rfl⟩ rfl hl.1 (Nat.le_of_ble_eq_true rfl) (ci := 6) (q := (RX6, TX6, 12)) rfl rfl (by rw [k_8]; decide) (cell_6 k_8) ⟨Nat.le_trans (by omega) hrc, Nat.le_trans (by omega) hrs⟩ dL_law_468 (fun r468 M468 H locs h hw => ?_)
              refine lv_istore (lv' := [(6, .int r468), (5, .int r456), (0, .ref b), (1, .ref a1), (2, .ref a2), (3, .ref a3), (4, .int v4)]) hx hb dL_law_471 hl (by decide) rfl (fun ls hl => ?_)
              refine lv_aload_n hx hb dL_law_473 rfl (lv_at hl 4 rfl) ?_
              refine cv_i (As := []) (rest := []) S.1 hw (k_X6_thrown l E Z M468 a2  _ h) wv_L_77 yc_X6_thrown ⟨rfl, rfl⟩ ⟨Nat.le_of_ble_eq_true rfl, Nat.le_of_ble_eq_true rfl⟩ rfl hl.1 (Nat.le_of_ble_eq_true rfl) (ci := 6) (q := (RX6, TX6, 12)) rfl rfl (by rw [k_8]; decide) (cell_6 k_8) ⟨Nat.le_trans (by omega) hrc, Nat.le_trans (by omega) hrs⟩ dL_law_474 (fun r474 M474 H locs h hw => ?_)
              refine lv_iload hx hb dL_law_477 (lv_at hl 1 rfl) ?_
              refine lv_icmp_eq (tgt := 484) hx hb dL_law_479 (by decide) (fun q_479 => ?_) (fun q_479 => ?_)
              · have h := h.1 q_479
                refine lv_iload hx hb dL_law_484 (lv_at hl 1 rfl) ?_
                refine lv_if_ne (tgt := 501) hx hb dL_law_486 (by decide) (fun q_486 => ?_) (fun q_486 => ?_)
                · have h := h.1 q_486
                  refine lv_goto (tgt := 1326) hx hb dL_law_501 (by decide) ?_
                  refine W.widen (k := ce + 4) (n := sl + 24) (by omega) (by omega) ?_
                  exact ((wB_L_law_1326 S T hce hsl hK23 _ _ _ _ _ h)) H locs ls hw (lv_sub hl [2, 3, 4, 5, 6] rfl)
                · have h := h.2 q_486
                  refine lv_aload_n hx hb dL_law_489 rfl (lv_at hl 5 rfl) ?_
                  refine lv_iconst (v := 0) hx hb dL_law_490 (by decide) ?_
                  obtain ⟨k_9, h⟩ := h
                  obtain ⟨i_491, h⟩ := h
                  refine wo_lald S.1 hw k_9 i_491 dL_law_491 ?_
                  refine lv_iload hx hb dL_law_492 (lv_at hl 0 rfl) ?_
                  refine lv_i2l (v := r468.toInt64) hx hb dL_law_494 rfl ?_
                  refine W.lcmp hx hb dL_law_495 ?_
                  refine lv_if_eq (tgt := 501) hx hb dL_law_496 (by decide) (fun q_496 => ?_) (fun q_496 => ?_)
                  · have h := h.1 q_496
                    refine lv_goto (tgt := 1326) hx hb dL_law_501 (by decide) ?_
                    refine W.widen (k := ce + 4) (n := sl + 24) (by omega) (by omega) ?_
                    exact ((wB_L_law_1326 S T hce hsl hK23 _ _ _ _ _ h)) H locs ls hw (lv_sub hl [2, 3, 4, 5, 6] rfl)
                  · have h := h.2 q_496
                    refine lv_iconst (v := 0) hx hb dL_law_499 (by decide) ?_
                    exact h.elim
              · have h := h.2 q_479
                refine lv_iconst (v := 0) hx hb dL_law_482 (by decide) ?_
                exact h.elim
            · have h := h.2 q_39_4
              by_cases q_39_5 : ((xs v4.toNatClampNeg) &&& 31) = 5
              · have h := h.1 q_39_5
                refine lv_tableIn (tgt := 504) hx hb dL_law_39 (by rw [q_39_5]; decide) (by rw [q_39_5]; decide) (by rw [q_39_5]; rfl) (by decide) ?_
                refine lv_aload_n hx hb dL_law_504 rfl (lv_at hl 1 rfl) ?_
                obtain ⟨k_10, h⟩ := h
                refine cv_i (As := []) (rest := []) S.1 hw (k_X5_takeAll l E Z M a1  _ h) wv_L_94 yc_X5_takeAll ⟨rfl, rfl⟩ ⟨Nat.le_of_ble_eq_true rfl, Nat.le_of_ble_eq_true rfl⟩ rfl hl.1 (Nat.le_of_ble_eq_true rfl) (ci := 5) (q := (RX5, TX5, 9)) rfl rfl (by rw [k_10]; decide) (cell_5 k_10) ⟨Nat.le_trans (by omega) hrc, Nat.le_trans (by omega) hrs⟩ dL_law_505 (fun r505 M505 H locs h hw => ?_)
                refine lv_aload_n hx hb dL_law_508 rfl (lv_at hl 2 rfl) ?_
                obtain ⟨k_11, h⟩ := h
                refine cv_i (As := []) (rest := [.int r505]) S.1 hw (k_X6_takeAll l E Z M505 a2  _ h) wv_L_97 yc_X6_takeAll ⟨rfl, rfl⟩ ⟨Nat.le_of_ble_eq_true rfl, Nat.le_of_ble_eq_true rfl⟩ rfl hl.1 (Nat.le_of_ble_eq_true rfl) (ci := 6) (q := (RX6, TX6, 12)) rfl rfl (by rw [k_11]; decide) (cell_6 k_11) ⟨Nat.le_trans (by omega) hrc, Nat.le_trans (by omega) hrs⟩ dL_law_509 (fun r509 M509 H locs h hw => ?_)
                refine lv_icmp_eq (tgt := 1326) hx hb dL_law_512 (by decide) (fun q_512 => ?_) (fun q_512 => ?_)
                · have h := h.1 q_512
                  refine W.widen (k := ce + 4) (n := sl + 24) (by omega) (by omega) ?_
                  exact ((wB_L_law_1326 S T hce hsl hK23 _ _ _ _ _ h)) H locs ls hw (lv_sub hl [0, 1, 2, 3, 4] rfl)
                · have h := h.2 q_512
                  refine lv_iconst (v := 0) hx hb dL_law_515 (by decide) ?_
                  exact h.elim
              · have h := h.2 q_39_5
                by_cases q_39_6 : ((xs v4.toNatClampNeg) &&& 31) = 6
                · have h := h.1 q_39_6
                  refine lv_tableIn (tgt := 517) hx hb dL_law_39 (by rw [q_39_6]; decide) (by rw [q_39_6]; decide) (by rw [q_39_6]; rfl) (by decide) ?_
                  refine lv_aload_n hx hb dL_law_517 rfl (lv_at hl 1 rfl) ?_
                  refine lv_aload_n hx hb dL_law_518 rfl (lv_at hl 0 rfl) ?_
                  refine lv_iload hx hb dL_law_519 (lv_at hl 4 rfl) ?_
                  refine lv_iconst (v := 1) hx hb dL_law_521 (by decide) ?_
                  refine lv_iadd hx hb dL_law_522 ?_
                  obtain ⟨i_523, h⟩ := h
                  refine va_sld hx hb hX hbl hbA hw.2.2.2.1 i_523 dL_law_523 ?_
                  refine lv_aload_n hx hb dL_law_524 rfl (lv_at hl 3 rfl) ?_
                  refine csw_i (As := [.ref a1, .int (xs (v4 + 1).toNatClampNeg), .ref a3]) (rest := []) S.1 T.2.2.2.1 hw (k_L_setMelt l T.2.2.2.2.1 E Z M a1 (xs (v4 + 1).toNatClampNeg) a3 _ h) wv_L_98 yc_L_setMelt ⟨rfl, rfl⟩ ⟨Nat.le_of_ble_eq_true rfl, Nat.le_of_ble_eq_true rfl⟩ rfl hl.1 (Nat.le_of_ble_eq_true rfl) ⟨Nat.le_trans (by omega) hrc, Nat.le_trans (by omega) hrs⟩ dL_law_525 (fun r525 M525 H locs h hw => ?_)
                  refine lv_istore (lv' := [(5, .int r525), (0, .ref b), (1, .ref a1), (2, .ref a2), (3, .ref a3), (4, .int v4)]) hx hb dL_law_528 hl (by decide) rfl (fun ls hl => ?_)
                  refine lv_aload_n hx hb dL_law_530 rfl (lv_at hl 3 rfl) ?_
                  refine lv_aload_n hx hb dL_law_531 rfl (lv_at hl 1 rfl) ?_
                  refine lv_iload hx hb dL_law_532 (lv_at hl 5 rfl) ?_
                  refine lv_iconst (v := 1) hx hb dL_law_534 (by decide) ?_
                  refine lv_iadd hx hb dL_law_535 ?_
                  obtain ⟨i_536, h⟩ := h
                  refine va_sld hx hb hX hbl hbA hw.2.2.2.1 i_536 dL_law_536 ?_
                  obtain ⟨k_12, h⟩ := h
                  refine cv_i (As := [.int (xs (v4 + 1).toNatClampNeg)]) (rest := []) S.1 hw (k_X6_setMelt l E Z M525 a2 (xs (v4 + 1).toNatClampNeg) _ h) wv_L_100 yc_X6_setMelt ⟨rfl, rfl⟩ ⟨Nat.le_of_ble_eq_true rfl, Nat.le_of_ble_eq_true rfl⟩ rfl hl.1 (Nat.le_of_ble_eq_true rfl) (ci := 6) (q := (RX6, TX6, 12)) rfl rfl (by rw [k_12]; decide) (cell_6 k_12) ⟨Nat.le_trans (by omega) hrc, Nat.le_trans (by omega) hrs⟩ dL_law_537 (fun r537 M537 H locs h hw => ?_)
                  refine lv_istore (lv' := [(6, .int r537), (5, .int r525), (0, .ref b), (1, .ref a1), (2, .ref a2), (3, .ref a3), (4, .int v4)]) hx hb dL_law_540 hl (by decide) rfl (fun ls hl => ?_)
                  refine lv_aload_n hx hb dL_law_542 rfl (lv_at hl 4 rfl) ?_
                  refine cv_i (As := []) (rest := []) S.1 hw (k_X6_thrown l E Z M537 a2  _ h) wv_L_77 yc_X6_thrown ⟨rfl, rfl⟩ ⟨Nat.le_of_ble_eq_true rfl, Nat.le_of_ble_eq_true rfl⟩ rfl hl.1 (Nat.le_of_ble_eq_true rfl) (ci := 6) (q := (RX6, TX6, 12)) rfl rfl (by rw [k_12]; decide) (cell_6 k_12) ⟨Nat.le_trans (by omega) hrc, Nat.le_trans (by omega) hrs⟩ dL_law_543 (fun r543 M543 H locs h hw => ?_)
                  refine lv_iload hx hb dL_law_546 (lv_at hl 1 rfl) ?_
                  refine lv_icmp_eq (tgt := 553) hx hb dL_law_548 (by decide) (fun q_548 => ?_) (fun q_548 => ?_)
                  · have h := h.1 q_548
                    refine lv_iload hx hb dL_law_553 (lv_at hl 1 rfl) ?_
                    refine lv_if_ne (tgt := 570) hx hb dL_law_555 (by decide) (fun q_555 => ?_) (fun q_555 => ?_)
                    · have h := h.1 q_555
                      refine lv_goto (tgt := 1326) hx hb dL_law_570 (by decide) ?_
                      refine W.widen (k := ce + 4) (n := sl + 24) (by omega) (by omega) ?_
                      exact ((wB_L_law_1326 S T hce hsl hK23 _ _ _ _ _ h)) H locs ls hw (lv_sub hl [2, 3, 4, 5, 6] rfl)
                    · have h := h.2 q_555
                      refine lv_aload_n hx hb dL_law_558 rfl (lv_at hl 5 rfl) ?_
                      refine lv_iconst (v := 0) hx hb dL_law_559 (by decide) ?_
                      obtain ⟨k_13, h⟩ := h
                      obtain ⟨i_560, h⟩ := h
                      refine wo_lald S.1 hw k_13 i_560 dL_law_560 ?_
                      refine lv_iload hx hb dL_law_561 (lv_at hl 0 rfl) ?_
                      refine lv_i2l (v := r537.toInt64) hx hb dL_law_563 rfl ?_
                      refine W.lcmp hx hb dL_law_564 ?_
                      refine lv_if_eq (tgt := 570) hx hb dL_law_565 (by decide) (fun q_565 => ?_) (fun q_565 => ?_)
                      · have h := h.1 q_565
                        refine lv_goto (tgt := 1326) hx hb dL_law_570 (by decide) ?_
                        refine W.widen (k := ce + 4) (n := sl + 24) (by omega) (by omega) ?_
                        exact ((wB_L_law_1326 S T hce hsl hK23 _ _ _ _ _ h)) H locs ls hw (lv_sub hl [2, 3, 4, 5, 6] rfl)
                      · have h := h.2 q_565
                        refine lv_iconst (v := 0) hx hb dL_law_568 (by decide) ?_
                        exact h.elim
                  · have h := h.2 q_548
                    refine lv_iconst (v := 0) hx hb dL_law_551 (by decide) ?_
                    exact h.elim
                · have h := h.2 q_39_6
                  by_cases q_39_7 : ((xs v4.toNatClampNeg) &&& 31) = 7
                  · have h := h.1 q_39_7
                    refine lv_tableIn (tgt := 573) hx hb dL_law_39 (by rw [q_39_7]; decide) (by rw [q_39_7]; decide) (by rw [q_39_7]; rfl) (by decide) ?_
                    refine lv_aload_n hx hb dL_law_573 rfl (lv_at hl 1 rfl) ?_
                    refine lv_aload_n hx hb dL_law_574 rfl (lv_at hl 0 rfl) ?_
                    refine lv_iload hx hb dL_law_575 (lv_at hl 4 rfl) ?_
                    refine lv_iconst (v := 1) hx hb dL_law_577 (by decide) ?_
                    refine lv_iadd hx hb dL_law_578 ?_
                    obtain ⟨i_579, h⟩ := h
                    refine va_sld hx hb hX hbl hbA hw.2.2.2.1 i_579 dL_law_579 ?_
                    refine lv_aload_n hx hb dL_law_580 rfl (lv_at hl 3 rfl) ?_
                    refine csw_i (As := [.ref a1, .int (xs (v4 + 1).toNatClampNeg), .ref a3]) (rest := []) S.1 T.2.2.2.1 hw (k_L_pass l T.2.2.2.2.1 E Z M a1 (xs (v4 + 1).toNatClampNeg) a3 _ h) wv_L_101 yc_L_pass ⟨rfl, rfl⟩ ⟨Nat.le_of_ble_eq_true rfl, Nat.le_of_ble_eq_true rfl⟩ rfl hl.1 (Nat.le_of_ble_eq_true rfl) ⟨Nat.le_trans (by omega) hrc, Nat.le_trans (by omega) hrs⟩ dL_law_581 (fun r581 M581 H locs h hw => ?_)
                    refine lv_istore (lv' := [(5, .int r581), (0, .ref b), (1, .ref a1), (2, .ref a2), (3, .ref a3), (4, .int v4)]) hx hb dL_law_584 hl (by decide) rfl (fun ls hl => ?_)
                    refine lv_aload_n hx hb dL_law_586 rfl (lv_at hl 3 rfl) ?_
                    refine lv_aload_n hx hb dL_law_587 rfl (lv_at hl 1 rfl) ?_
                    refine lv_iload hx hb dL_law_588 (lv_at hl 5 rfl) ?_
                    refine lv_iconst (v := 1) hx hb dL_law_590 (by decide) ?_
                    refine lv_iadd hx hb dL_law_591 ?_
                    obtain ⟨i_592, h⟩ := h
                    refine va_sld hx hb hX hbl hbA hw.2.2.2.1 i_592 dL_law_592 ?_
                    obtain ⟨k_14, h⟩ := h
                    refine cv_i (As := [.int (xs (v4 + 1).toNatClampNeg)]) (rest := []) S.1 hw (k_X6_pass l E Z M581 a2 (xs (v4 + 1).toNatClampNeg) _ h) wv_L_103 yc_X6_pass ⟨rfl, rfl⟩ ⟨Nat.le_of_ble_eq_true rfl, Nat.le_of_ble_eq_true rfl⟩ rfl hl.1 (Nat.le_of_ble_eq_true rfl) (ci := 6) (q := (RX6, TX6, 12)) rfl rfl (by rw [k_14]; decide) (cell_6 k_14) ⟨Nat.le_trans (by omega) hrc, Nat.le_trans (by omega) hrs⟩ dL_law_593 (fun r593 M593 H locs h hw => ?_)
                    refine lv_istore (lv' := [(6, .int r593), (5, .int r581), (0, .ref b), (1, .ref a1), (2, .ref a2), (3, .ref a3), (4, .int v4)]) hx hb dL_law_596 hl (by decide) rfl (fun ls hl => ?_)
                    refine lv_aload_n hx hb dL_law_598 rfl (lv_at hl 4 rfl) ?_
                    refine cv_i (As := []) (rest := []) S.1 hw (k_X6_thrown l E Z M593 a2  _ h) wv_L_77 yc_X6_thrown ⟨rfl, rfl⟩ ⟨Nat.le_of_ble_eq_true rfl, Nat.le_of_ble_eq_true rfl⟩ rfl hl.1 (Nat.le_of_ble_eq_true rfl) (ci := 6) (q := (RX6, TX6, 12)) rfl rfl (by rw [k_14]; decide) (cell_6 k_14) ⟨Nat.le_trans (by omega) hrc, Nat.le_trans (by omega) hrs⟩ dL_law_599 (fun r599 M599 H locs h hw => ?_)
                    refine lv_iload hx hb dL_law_602 (lv_at hl 1 rfl) ?_
                    refine lv_icmp_eq (tgt := 609) hx hb dL_law_604 (by decide) (fun q_604 => ?_) (fun q_604 => ?_)
                    · have h := h.1 q_604
                      refine lv_iload hx hb dL_law_609 (lv_at hl 1 rfl) ?_
                      refine lv_if_ne (tgt := 626) hx hb dL_law_611 (by decide) (fun q_611 => ?_) (fun q_611 => ?_)
                      · have h := h.1 q_611
                        refine lv_goto (tgt := 1326) hx hb dL_law_626 (by decide) ?_
                        refine W.widen (k := ce + 4) (n := sl + 24) (by omega) (by omega) ?_
                        exact ((wB_L_law_1326 S T hce hsl hK23 _ _ _ _ _ h)) H locs ls hw (lv_sub hl [2, 3, 4, 5, 6] rfl)
                      · have h := h.2 q_611
                        refine lv_aload_n hx hb dL_law_614 rfl (lv_at hl 5 rfl) ?_
                        refine lv_iconst (v := 0) hx hb dL_law_615 (by decide) ?_
                        obtain ⟨k_15, h⟩ := h
                        obtain ⟨i_616, h⟩ := h
                        refine wo_lald S.1 hw k_15 i_616 dL_law_616 ?_
                        refine lv_iload hx hb dL_law_617 (lv_at hl 0 rfl) ?_
                        refine lv_i2l (v := r593.toInt64) hx hb dL_law_619 rfl ?_
                        refine W.lcmp hx hb dL_law_620 ?_
                        refine lv_if_eq (tgt := 626) hx hb dL_law_621 (by decide) (fun q_621 => ?_) (fun q_621 => ?_)
                        · have h := h.1 q_621
                          refine lv_goto (tgt := 1326) hx hb dL_law_626 (by decide) ?_
                          refine W.widen (k := ce + 4) (n := sl + 24) (by omega) (by omega) ?_
                          exact ((wB_L_law_1326 S T hce hsl hK23 _ _ _ _ _ h)) H locs ls hw (lv_sub hl [2, 3, 4, 5, 6] rfl)
                        · have h := h.2 q_621
                          refine lv_iconst (v := 0) hx hb dL_law_624 (by decide) ?_
                          exact h.elim
                    · have h := h.2 q_604
                      refine lv_iconst (v := 0) hx hb dL_law_607 (by decide) ?_
                      exact h.elim
                  · have h := h.2 q_39_7
                    by_cases q_39_8 : ((xs v4.toNatClampNeg) &&& 31) = 8
                    · have h := h.1 q_39_8
                      refine lv_tableIn (tgt := 629) hx hb dL_law_39 (by rw [q_39_8]; decide) (by rw [q_39_8]; decide) (by rw [q_39_8]; rfl) (by decide) ?_
                      refine lv_aload_n hx hb dL_law_629 rfl (lv_at hl 1 rfl) ?_
                      refine lv_aload_n hx hb dL_law_630 rfl (lv_at hl 0 rfl) ?_
                      refine lv_iload hx hb dL_law_631 (lv_at hl 4 rfl) ?_
                      refine lv_iconst (v := 1) hx hb dL_law_633 (by decide) ?_
                      refine lv_iadd hx hb dL_law_634 ?_
                      obtain ⟨i_635, h⟩ := h
                      refine va_sld hx hb hX hbl hbA hw.2.2.2.1 i_635 dL_law_635 ?_
                      refine lv_aload_n hx hb dL_law_636 rfl (lv_at hl 0 rfl) ?_
                      refine lv_iload hx hb dL_law_637 (lv_at hl 4 rfl) ?_
                      refine lv_iconst (v := 2) hx hb dL_law_639 (by decide) ?_
                      refine lv_iadd hx hb dL_law_640 ?_
                      obtain ⟨i_641, h⟩ := h
                      refine va_sld hx hb hX hbl hbA hw.2.2.2.1 i_641 dL_law_641 ?_
                      refine lv_aload_n hx hb dL_law_642 rfl (lv_at hl 3 rfl) ?_
                      refine csw_i (As := [.ref a1, .int (xs (v4 + 1).toNatClampNeg), .int (xs (v4 + 2).toNatClampNeg), .ref a3]) (rest := []) S.1 T.2.2.2.1 hw (k_L_cell l T.2.2.2.2.1 E Z M a1 (xs (v4 + 1).toNatClampNeg) (xs (v4 + 2).toNatClampNeg) a3 _ h) wv_L_104 yc_L_cell ⟨rfl, rfl⟩ ⟨Nat.le_of_ble_eq_true rfl, Nat.le_of_ble_eq_true rfl⟩ rfl hl.1 (Nat.le_of_ble_eq_true rfl) ⟨Nat.le_trans (by omega) hrc, Nat.le_trans (by omega) hrs⟩ dL_law_643 (fun r643 M643 H locs h hw => ?_)
                      refine lv_istore (lv' := [(5, .int r643), (0, .ref b), (1, .ref a1), (2, .ref a2), (3, .ref a3), (4, .int v4)]) hx hb dL_law_646 hl (by decide) rfl (fun ls hl => ?_)
                      refine lv_aload_n hx hb dL_law_648 rfl (lv_at hl 3 rfl) ?_
                      refine lv_aload_n hx hb dL_law_649 rfl (lv_at hl 1 rfl) ?_
                      refine lv_iload hx hb dL_law_650 (lv_at hl 5 rfl) ?_
                      refine lv_iconst (v := 1) hx hb dL_law_652 (by decide) ?_
                      refine lv_iadd hx hb dL_law_653 ?_
                      obtain ⟨i_654, h⟩ := h
                      refine va_sld hx hb hX hbl hbA hw.2.2.2.1 i_654 dL_law_654 ?_
                      refine lv_aload_n hx hb dL_law_655 rfl (lv_at hl 1 rfl) ?_
                      refine lv_iload hx hb dL_law_656 (lv_at hl 5 rfl) ?_
                      refine lv_iconst (v := 2) hx hb dL_law_658 (by decide) ?_
                      refine lv_iadd hx hb dL_law_659 ?_
                      obtain ⟨i_660, h⟩ := h
                      refine va_sld hx hb hX hbl hbA hw.2.2.2.1 i_660 dL_law_660 ?_
                      obtain ⟨k_16, h⟩ := h
                      refine cv_i (As := [.int (xs (v4 + 1).toNatClampNeg), .int (xs (v4 + 2).toNatClampNeg)]) (rest := []) S.1 hw (k_X6_cell l E Z M643 a2 (xs (v4 + 1).toNatClampNeg) (xs (v4 + 2).toNatClampNeg) _ h) wv_L_106 yc_X6_cell ⟨rfl, rfl⟩ ⟨Nat.le_of_ble_eq_true rfl, Nat.le_of_ble_eq_true rfl⟩ rfl hl.1 (Nat.le_of_ble_eq_true rfl) (ci := 6) (q := (RX6, TX6, 12)) rfl rfl (by rw [k_16]; decide) (cell_6 k_16) ⟨Nat.le_trans (by omega) hrc, Nat.le_trans (by omega) hrs⟩ dL_law_661 (fun r661 M661 H locs h hw => ?_)
                      refine lv_istore (lv' := [(6, .int r661), (5, .int r643), (0, .ref b), (1, .ref a1), (2, .ref a2), (3, .ref a3), (4, .int v4)]) hx hb dL_law_664 hl (by decide) rfl (fun ls hl => ?_)
                      refine lv_aload_n hx hb dL_law_666 rfl (lv_at hl 4 rfl) ?_
                      refine cv_i (As := []) (rest := []) S.1 hw (k_X6_thrown l E Z M661 a2  _ h) wv_L_77 yc_X6_thrown ⟨rfl, rfl⟩ ⟨Nat.le_of_ble_eq_true rfl, Nat.le_of_ble_eq_true rfl⟩ rfl hl.1 (Nat.le_of_ble_eq_true rfl) (ci := 6) (q := (RX6, TX6, 12)) rfl rfl (by rw [k_16]; decide) (cell_6 k_16) ⟨Nat.le_trans (by omega) hrc, Nat.le_trans (by omega) hrs⟩ dL_law_667 (fun r667 M667 H locs h hw => ?_)
                      refine lv_iload hx hb dL_law_670 (lv_at hl 1 rfl) ?_
                      refine lv_icmp_eq (tgt := 677) hx hb dL_law_672 (by decide) (fun q_672 => ?_) (fun q_672 => ?_)
                      · have h := h.1 q_672
                        refine lv_iload hx hb dL_law_677 (lv_at hl 1 rfl) ?_
                        refine lv_if_ne (tgt := 694) hx hb dL_law_679 (by decide) (fun q_679 => ?_) (fun q_679 => ?_)
                        · have h := h.1 q_679
                          refine lv_goto (tgt := 1326) hx hb dL_law_694 (by decide) ?_
                          refine W.widen (k := ce + 4) (n := sl + 24) (by omega) (by omega) ?_
                          exact ((wB_L_law_1326 S T hce hsl hK23 _ _ _ _ _ h)) H locs ls hw (lv_sub hl [2, 3, 4, 5, 6] rfl)
                        · have h := h.2 q_679
                          refine lv_aload_n hx hb dL_law_682 rfl (lv_at hl 5 rfl) ?_
                          refine lv_iconst (v := 0) hx hb dL_law_683 (by decide) ?_
                          obtain ⟨k_17, h⟩ := h
                          obtain ⟨i_684, h⟩ := h
                          refine wo_lald S.1 hw k_17 i_684 dL_law_684 ?_
                          refine lv_iload hx hb dL_law_685 (lv_at hl 0 rfl) ?_
                          refine lv_i2l (v := r661.toInt64) hx hb dL_law_687 rfl ?_
                          refine W.lcmp hx hb dL_law_688 ?_
                          refine lv_if_eq (tgt := 694) hx hb dL_law_689 (by decide) (fun q_689 => ?_) (fun q_689 => ?_)
                          · have h := h.1 q_689
                            refine lv_goto (tgt := 1326) hx hb dL_law_694 (by decide) ?_
                            refine W.widen (k := ce + 4) (n := sl + 24) (by omega) (by omega) ?_
                            exact ((wB_L_law_1326 S T hce hsl hK23 _ _ _ _ _ h)) H locs ls hw (lv_sub hl [2, 3, 4, 5, 6] rfl)
                          · have h := h.2 q_689
                            refine lv_iconst (v := 0) hx hb dL_law_692 (by decide) ?_
                            exact h.elim
                      · have h := h.2 q_672
                        refine lv_iconst (v := 0) hx hb dL_law_675 (by decide) ?_
                        exact h.elim
                    · have h := h.2 q_39_8
                      by_cases q_39_9 : ((xs v4.toNatClampNeg) &&& 31) = 9
                      · have h := h.1 q_39_9
                        refine lv_tableIn (tgt := 697) hx hb dL_law_39 (by rw [q_39_9]; decide) (by rw [q_39_9]; decide) (by rw [q_39_9]; rfl) (by decide) ?_
                        refine lv_aload_n hx hb dL_law_697 rfl (lv_at hl 1 rfl) ?_
                        refine lv_aload_n hx hb dL_law_698 rfl (lv_at hl 0 rfl) ?_
                        refine lv_iload hx hb dL_law_699 (lv_at hl 4 rfl) ?_
                        refine lv_iconst (v := 1) hx hb dL_law_701 (by decide) ?_
                        refine lv_iadd hx hb dL_law_702 ?_
                        obtain ⟨i_703, h⟩ := h
                        refine va_sld hx hb hX hbl hbA hw.2.2.2.1 i_703 dL_law_703 ?_
                        refine lv_aload_n hx hb dL_law_704 rfl (lv_at hl 0 rfl) ?_
                        refine lv_iload hx hb dL_law_705 (lv_at hl 4 rfl) ?_
                        refine lv_iconst (v := 2) hx hb dL_law_707 (by decide) ?_
                        refine lv_iadd hx hb dL_law_708 ?_
                        obtain ⟨i_709, h⟩ := h
                        refine va_sld hx hb hX hbl hbA hw.2.2.2.1 i_709 dL_law_709 ?_
                        refine lv_aload_n hx hb dL_law_710 rfl (lv_at hl 3 rfl) ?_
                        refine csw_i (As := [.ref a1, .int (xs (v4 + 1).toNatClampNeg), .int (xs (v4 + 2).toNatClampNeg), .ref a3]) (rest := []) S.1 T.2.2.2.1 hw (k_L_block l T.2.2.2.2.1 E Z M a1 (xs (v4 + 1).toNatClampNeg) (xs (v4 + 2).toNatClampNeg) a3 _ h) wv_L_107 yc_L_block ⟨rfl, rfl⟩ ⟨Nat.le_of_ble_eq_true rfl, Nat.le_of_ble_eq_true rfl⟩ rfl hl.1 (Nat.le_of_ble_eq_true rfl) ⟨Nat.le_trans (by omega) hrc, Nat.le_trans (by omega) hrs⟩ dL_law_711 (fun r711 M711 H locs h hw => ?_)
                        refine lv_istore (lv' := [(5, .int r711), (0, .ref b), (1, .ref a1), (2, .ref a2), (3, .ref a3), (4, .int v4)]) hx hb dL_law_714 hl (by decide) rfl (fun ls hl => ?_)
                        refine lv_aload_n hx hb dL_law_716 rfl (lv_at hl 3 rfl) ?_
                        refine lv_aload_n hx hb dL_law_717 rfl (lv_at hl 1 rfl) ?_
                        refine lv_iload hx hb dL_law_718 (lv_at hl 5 rfl) ?_
                        refine lv_iconst (v := 1) hx hb dL_law_720 (by decide) ?_
                        refine lv_iadd hx hb dL_law_721 ?_
                        obtain ⟨i_722, h⟩ := h
                        refine va_sld hx hb hX hbl hbA hw.2.2.2.1 i_722 dL_law_722 ?_
                        refine lv_aload_n hx hb dL_law_723 rfl (lv_at hl 1 rfl) ?_
                        refine lv_iload hx hb dL_law_724 (lv_at hl 5 rfl) ?_
                        refine lv_iconst (v := 2) hx hb dL_law_726 (by decide) ?_
                        refine lv_iadd hx hb dL_law_727 ?_
                        obtain ⟨i_728, h⟩ := h
                        refine va_sld hx hb hX hbl hbA hw.2.2.2.1 i_728 dL_law_728 ?_
                        obtain ⟨k_18, h⟩ := h
                        refine cv_i (As := [.int (xs (v4 + 1).toNatClampNeg), .int (xs (v4 + 2).toNatClampNeg)]) (rest := []) S.1 hw (k_X6_block l E Z M711 a2 (xs (v4 + 1).toNatClampNeg) (xs (v4 + 2).toNatClampNeg) _ h) wv_L_109 yc_X6_block ⟨rfl, rfl⟩ ⟨Nat.le_of_ble_eq_true rfl, Nat.le_of_ble_eq_true rfl⟩ rfl hl.1 (Nat.le_of_ble_eq_true rfl) (ci := 6) (q := (RX6, TX6, 12)) rfl rfl (by rw [k_18]; decide) (cell_6 k_18) ⟨Nat.le_trans (by omega) hrc, Nat.le_trans (by omega) hrs⟩ dL_law_729 (fun r729 M729 H locs h hw => ?_)
                        refine lv_istore (lv' := [(6, .int r729), (5, .int r711), (0, .ref b), (1, .ref a1), (2, .ref a2), (3, .ref a3), (4, .int v4)]) hx hb dL_law_732 hl (by decide) rfl (fun ls hl => ?_)
                        refine lv_aload_n hx hb dL_law_734 rfl (lv_at hl 4 rfl) ?_
                        refine cv_i (As := []) (rest := []) S.1 hw (k_X6_thrown l E Z M729 a2  _ h) wv_L_77 yc_X6_thrown ⟨rfl, rfl⟩ ⟨Nat.le_of_ble_eq_true rfl, Nat.le_of_ble_eq_true rfl⟩ rfl hl.1 (Nat.le_of_ble_eq_true rfl) (ci := 6) (q := (RX6, TX6, 12)) rfl rfl (by rw [k_18]; decide) (cell_6 k_18) ⟨Nat.le_trans (by omega) hrc, Nat.le_trans (by omega) hrs⟩ dL_law_735 (fun r735 M735 H locs h hw => ?_)
                        refine lv_iload hx hb dL_law_738 (lv_at hl 1 rfl) ?_
                        refine lv_icmp_eq (tgt := 745) hx hb dL_law_740 (by decide) (fun q_740 => ?_) (fun q_740 => ?_)
                        · have h := h.1 q_740
                          refine lv_iload hx hb dL_law_745 (lv_at hl 1 rfl) ?_
                          refine lv_if_ne (tgt := 762) hx hb dL_law_747 (by decide) (fun q_747 => ?_) (fun q_747 => ?_)
                          · have h := h.1 q_747
                            refine lv_goto (tgt := 1326) hx hb dL_law_762 (by decide) ?_
                            refine W.widen (k := ce + 4) (n := sl + 24) (by omega) (by omega) ?_
                            exact ((wB_L_law_1326 S T hce hsl hK23 _ _ _ _ _ h)) H locs ls hw (lv_sub hl [2, 3, 4, 5, 6] rfl)
                          · have h := h.2 q_747
                            refine lv_aload_n hx hb dL_law_750 rfl (lv_at hl 5 rfl) ?_
                            refine lv_iconst (v := 0) hx hb dL_law_751 (by decide) ?_
                            obtain ⟨k_19, h⟩ := h
                            obtain ⟨i_752, h⟩ := h
                            refine wo_lald S.1 hw k_19 i_752 dL_law_752 ?_
                            refine lv_iload hx hb dL_law_753 (lv_at hl 0 rfl) ?_
                            refine lv_i2l (v := r729.toInt64) hx hb dL_law_755 rfl ?_
                            refine W.lcmp hx hb dL_law_756 ?_
                            refine lv_if_eq (tgt := 762) hx hb dL_law_757 (by decide) (fun q_757 => ?_) (fun q_757 => ?_)
                            · have h := h.1 q_757
                              refine lv_goto (tgt := 1326) hx hb dL_law_762 (by decide) ?_
                              refine W.widen (k := ce + 4) (n := sl + 24) (by omega) (by omega) ?_
                              exact ((wB_L_law_1326 S T hce hsl hK23 _ _ _ _ _ h)) H locs ls hw (lv_sub hl [2, 3, 4, 5, 6] rfl)
                            · have h := h.2 q_757
                              refine lv_iconst (v := 0) hx hb dL_law_760 (by decide) ?_
                              exact h.elim
                        · have h := h.2 q_740
                          refine lv_iconst (v := 0) hx hb dL_law_743 (by decide) ?_
                          exact h.elim
                      · have h := h.2 q_39_9
                        by_cases q_39_10 : ((xs v4.toNatClampNeg) &&& 31) = 10
                        · have h := h.1 q_39_10
                          refine lv_tableIn (tgt := 765) hx hb dL_law_39 (by rw [q_39_10]; decide) (by rw [q_39_10]; decide) (by rw [q_39_10]; rfl) (by decide) ?_
                          refine lv_aload_n hx hb dL_law_765 rfl (lv_at hl 1 rfl) ?_
                          refine lv_aload_n hx hb dL_law_766 rfl (lv_at hl 0 rfl) ?_
                          refine lv_iload hx hb dL_law_767 (lv_at hl 4 rfl) ?_
                          refine lv_iconst (v := 1) hx hb dL_law_769 (by decide) ?_
                          refine lv_iadd hx hb dL_law_770 ?_
                          obtain ⟨i_771, h⟩ := h
                          refine va_sld hx hb hX hbl hbA hw.2.2.2.1 i_771 dL_law_771 ?_
                          refine lv_aload_n hx hb dL_law_772 rfl (lv_at hl 0 rfl) ?_
                          refine lv_iload hx hb dL_law_773 (lv_at hl 4 rfl) ?_
                          refine lv_iconst (v := 2) hx hb dL_law_775 (by decide) ?_
                          refine lv_iadd hx hb dL_law_776 ?_
                          obtain ⟨i_777, h⟩ := h
                          refine va_sld hx hb hX hbl hbA hw.2.2.2.1 i_777 dL_law_777 ?_
                          refine lv_aload_n hx hb dL_law_778 rfl (lv_at hl 3 rfl) ?_
                          refine csw_i (As := [.ref a1, .int (xs (v4 + 1).toNatClampNeg), .int (xs (v4 + 2).toNatClampNeg), .ref a3]) (rest := []) S.1 T.2.2.2.1 hw (k_L_move l T.2.2.2.2.1 E Z M a1 (xs (v4 + 1).toNatClampNeg) (xs (v4 + 2).toNatClampNeg) a3 _ h) wv_L_110 yc_L_move ⟨rfl, rfl⟩ ⟨Nat.le_of_ble_eq_true rfl, Nat.le_of_ble_eq_true rfl⟩ rfl hl.1 (Nat.le_of_ble_eq_true rfl) ⟨Nat.le_trans (by omega) hrc, Nat.le_trans (by omega) hrs⟩ dL_law_779 (fun r779 M779 H locs h hw => ?_)
                          refine lv_istore (lv' := [(5, .int r779), (0, .ref b), (1, .ref a1), (2, .ref a2), (3, .ref a3), (4, .int v4)]) hx hb dL_law_782 hl (by decide) rfl (fun ls hl => ?_)
                          refine lv_aload_n hx hb dL_law_784 rfl (lv_at hl 3 rfl) ?_
                          refine lv_aload_n hx hb dL_law_785 rfl (lv_at hl 1 rfl) ?_
                          refine lv_iload hx hb dL_law_786 (lv_at hl 5 rfl) ?_
                          refine lv_iconst (v := 1) hx hb dL_law_788 (by decide) ?_
                          refine lv_iadd hx hb dL_law_789 ?_
                          obtain ⟨i_790, h⟩ := h
                          refine va_sld hx hb hX hbl hbA hw.2.2.2.1 i_790 dL_law_790 ?_
                          refine lv_aload_n hx hb dL_law_791 rfl (lv_at hl 1 rfl) ?_
                          refine lv_iload hx hb dL_law_792 (lv_at hl 5 rfl) ?_
                          refine lv_iconst (v := 2) hx hb dL_law_794 (by decide) ?_
                          refine lv_iadd hx hb dL_law_795 ?_
                          obtain ⟨i_796, h⟩ := h
                          refine va_sld hx hb hX hbl hbA hw.2.2.2.1 i_796 dL_law_796 ?_
                          obtain ⟨k_20, h⟩ := h
                          refine cv_i (As := [.int (xs (v4 + 1).toNatClampNeg), .int (xs (v4 + 2).toNatClampNeg)]) (rest := []) S.1 hw (k_X6_move l E Z M779 a2 (xs (v4 + 1).toNatClampNeg) (xs (v4 + 2).toNatClampNeg) _ h) wv_L_112 yc_X6_move ⟨rfl, rfl⟩ ⟨Nat.le_of_ble_eq_true rfl, Nat.le_of_ble_eq_true rfl⟩ rfl hl.1 (Nat.le_of_ble_eq_true rfl) (ci := 6) (q := (RX6, TX6, 12)) rfl rfl (by rw [k_20]; decide) (cell_6 k_20) ⟨Nat.le_trans (by omega) hrc, Nat.le_trans (by omega) hrs⟩ dL_law_797 (fun r797 M797 H locs h hw => ?_)
                          refine lv_istore (lv' := [(6, .int r797), (5, .int r779), (0, .ref b), (1, .ref a1), (2, .ref a2), (3, .ref a3), (4, .int v4)]) hx hb dL_law_800 hl (by decide) rfl (fun ls hl => ?_)
                          refine lv_aload_n hx hb dL_law_802 rfl (lv_at hl 4 rfl) ?_
                          refine cv_i (As := []) (rest := []) S.1 hw (k_X6_thrown l E Z M797 a2  _ h) wv_L_77 yc_X6_thrown ⟨rfl, rfl⟩ ⟨Nat.le_of_ble_eq_true rfl, Nat.le_of_ble_eq_true rfl⟩ rfl hl.1 (Nat.le_of_ble_eq_true rfl) (ci := 6) (q := (RX6, TX6, 12)) rfl rfl (by rw [k_20]; decide) (cell_6 k_20) ⟨Nat.le_trans (by omega) hrc, Nat.le_trans (by omega) hrs⟩ dL_law_803 (fun r803 M803 H locs h hw => ?_)
                          refine lv_iload hx hb dL_law_806 (lv_at hl 1 rfl) ?_
                          refine lv_icmp_eq (tgt := 813) hx hb dL_law_808 (by decide) (fun q_808 => ?_) (fun q_808 => ?_)
                          · have h := h.1 q_808
                            refine lv_iload hx hb dL_law_813 (lv_at hl 1 rfl) ?_
                            refine lv_if_ne (tgt := 830) hx hb dL_law_815 (by decide) (fun q_815 => ?_) (fun q_815 => ?_)
                            · have h := h.1 q_815
                              refine lv_goto (tgt := 1326) hx hb dL_law_830 (by decide) ?_
                              refine W.widen (k := ce + 4) (n := sl + 24) (by omega) (by omega) ?_
                              exact ((wB_L_law_1326 S T hce hsl hK23 _ _ _ _ _ h)) H locs ls hw (lv_sub hl [2, 3, 4, 5, 6] rfl)
                            · have h := h.2 q_815
                              refine lv_aload_n hx hb dL_law_818 rfl (lv_at hl 5 rfl) ?_
                              refine lv_iconst (v := 0) hx hb dL_law_819 (by decide) ?_
                              obtain ⟨k_21, h⟩ := h
                              obtain ⟨i_820, h⟩ := h
                              refine wo_lald S.1 hw k_21 i_820 dL_law_820 ?_
                              refine lv_iload hx hb dL_law_821 (lv_at hl 0 rfl) ?_
                              refine lv_i2l (v := r797.toInt64) hx hb dL_law_823 rfl ?_
                              refine W.lcmp hx hb dL_law_824 ?_
                              refine lv_if_eq (tgt := 830) hx hb dL_law_825 (by decide) (fun q_825 => ?_) (fun q_825 => ?_)
                              · have h := h.1 q_825
                                refine lv_goto (tgt := 1326) hx hb dL_law_830 (by decide) ?_
                                refine W.widen (k := ce + 4) (n := sl + 24) (by omega) (by omega) ?_
                                exact ((wB_L_law_1326 S T hce hsl hK23 _ _ _ _ _ h)) H locs ls hw (lv_sub hl [2, 3, 4, 5, 6] rfl)
                              · have h := h.2 q_825
                                refine lv_iconst (v := 0) hx hb dL_law_828 (by decide) ?_
                                exact h.elim
                          · have h := h.2 q_808
                            refine lv_iconst (v := 0) hx hb dL_law_811 (by decide) ?_
                            exact h.elim
                        · have h := h.2 q_39_10
                          by_cases q_39_11 : ((xs v4.toNatClampNeg) &&& 31) = 11
                          · have h := h.1 q_39_11
                            refine lv_tableIn (tgt := 833) hx hb dL_law_39 (by rw [q_39_11]; decide) (by rw [q_39_11]; decide) (by rw [q_39_11]; rfl) (by decide) ?_
                            refine lv_aload_n hx hb dL_law_833 rfl (lv_at hl 1 rfl) ?_
                            refine lv_aload_n hx hb dL_law_834 rfl (lv_at hl 0 rfl) ?_
                            refine lv_iload hx hb dL_law_835 (lv_at hl 4 rfl) ?_
                            refine lv_iconst (v := 1) hx hb dL_law_837 (by decide) ?_
                            refine lv_iadd hx hb dL_law_838 ?_
                            obtain ⟨i_839, h⟩ := h
                            refine va_sld hx hb hX hbl hbA hw.2.2.2.1 i_839 dL_law_839 ?_
                            refine lv_aload_n hx hb dL_law_840 rfl (lv_at hl 3 rfl) ?_
                            refine csw_i (As := [.ref a1, .int (xs (v4 + 1).toNatClampNeg), .ref a3]) (rest := []) S.1 T.2.2.2.1 hw (k_L_value l T.2.2.2.2.1 E Z M a1 (xs (v4 + 1).toNatClampNeg) a3 _ h) wv_L_113 yc_L_value ⟨rfl, rfl⟩ ⟨Nat.le_of_ble_eq_true rfl, Nat.le_of_ble_eq_true rfl⟩ rfl hl.1 (Nat.le_of_ble_eq_true rfl) ⟨Nat.le_trans (by omega) hrc, Nat.le_trans (by omega) hrs⟩ dL_law_841 (fun r841 M841 H locs h hw => ?_)
                            refine lv_istore (lv' := [(5, .int r841), (0, .ref b), (1, .ref a1), (2, .ref a2), (3, .ref a3), (4, .int v4)]) hx hb dL_law_844 hl (by decide) rfl (fun ls hl => ?_)
                            refine lv_aload_n hx hb dL_law_846 rfl (lv_at hl 3 rfl) ?_
                            refine lv_aload_n hx hb dL_law_847 rfl (lv_at hl 1 rfl) ?_
                            refine lv_iload hx hb dL_law_848 (lv_at hl 5 rfl) ?_
                            refine lv_iconst (v := 1) hx hb dL_law_850 (by decide) ?_
                            refine lv_iadd hx hb dL_law_851 ?_
                            obtain ⟨i_852, h⟩ := h
                            refine va_sld hx hb hX hbl hbA hw.2.2.2.1 i_852 dL_law_852 ?_
                            obtain ⟨k_22, h⟩ := h
                            refine cv_i (As := [.int (xs (v4 + 1).toNatClampNeg)]) (rest := []) S.1 hw (k_X6_value l E Z M841 a2 (xs (v4 + 1).toNatClampNeg) _ h) wv_L_115 yc_X6_value ⟨rfl, rfl⟩ ⟨Nat.le_of_ble_eq_true rfl, Nat.le_of_ble_eq_true rfl⟩ rfl hl.1 (Nat.le_of_ble_eq_true rfl) (ci := 6) (q := (RX6, TX6, 12)) rfl rfl (by rw [k_22]; decide) (cell_6 k_22) ⟨Nat.le_trans (by omega) hrc, Nat.le_trans (by omega) hrs⟩ dL_law_853 (fun r853 M853 H locs h hw => ?_)
                            refine lv_istore (lv' := [(6, .int r853), (5, .int r841), (0, .ref b), (1, .ref a1), (2, .ref a2), (3, .ref a3), (4, .int v4)]) hx hb dL_law_856 hl (by decide) rfl (fun ls hl => ?_)
                            refine lv_aload_n hx hb dL_law_858 rfl (lv_at hl 4 rfl) ?_
                            refine cv_i (As := []) (rest := []) S.1 hw (k_X6_thrown l E Z M853 a2  _ h) wv_L_77 yc_X6_thrown ⟨rfl, rfl⟩ ⟨Nat.le_of_ble_eq_true rfl, Nat.le_of_ble_eq_true rfl⟩ rfl hl.1 (Nat.le_of_ble_eq_true rfl) (ci := 6) (q := (RX6, TX6, 12)) rfl rfl (by rw [k_22]; decide) (cell_6 k_22) ⟨Nat.le_trans (by omega) hrc, Nat.le_trans (by omega) hrs⟩ dL_law_859 (fun r859 M859 H locs h hw => ?_)
                            refine lv_iload hx hb dL_law_862 (lv_at hl 1 rfl) ?_
                            refine lv_icmp_eq (tgt := 869) hx hb dL_law_864 (by decide) (fun q_864 => ?_) (fun q_864 => ?_)
                            · have h := h.1 q_864
                              refine lv_iload hx hb dL_law_869 (lv_at hl 1 rfl) ?_
                              refine lv_if_ne (tgt := 886) hx hb dL_law_871 (by decide) (fun q_871 => ?_) (fun q_871 => ?_)
                              · have h := h.1 q_871
                                refine lv_goto (tgt := 1326) hx hb dL_law_886 (by decide) ?_
                                refine W.widen (k := ce + 4) (n := sl + 24) (by omega) (by omega) ?_
                                exact ((wB_L_law_1326 S T hce hsl hK23 _ _ _ _ _ h)) H locs ls hw (lv_sub hl [2, 3, 4, 5, 6] rfl)
                              · have h := h.2 q_871
                                refine lv_aload_n hx hb dL_law_874 rfl (lv_at hl 5 rfl) ?_
                                refine lv_iconst (v := 0) hx hb dL_law_875 (by decide) ?_
                                obtain ⟨k_23, h⟩ := h
                                obtain ⟨i_876, h⟩ := h
                                refine wo_lald S.1 hw k_23 i_876 dL_law_876 ?_
                                refine lv_iload hx hb dL_law_877 (lv_at hl 0 rfl) ?_
                                refine lv_i2l (v := r853.toInt64) hx hb dL_law_879 rfl ?_
                                refine W.lcmp hx hb dL_law_880 ?_
                                refine lv_if_eq (tgt := 886) hx hb dL_law_881 (by decide) (fun q_881 => ?_) (fun q_881 => ?_)
                                · have h := h.1 q_881
                                  refine lv_goto (tgt := 1326) hx hb dL_law_886 (by decide) ?_
                                  refine W.widen (k := ce + 4) (n := sl + 24) (by omega) (by omega) ?_
                                  exact ((wB_L_law_1326 S T hce hsl hK23 _ _ _ _ _ h)) H locs ls hw (lv_sub hl [2, 3, 4, 5, 6] rfl)
                                · have h := h.2 q_881
                                  refine lv_iconst (v := 0) hx hb dL_law_884 (by decide) ?_
                                  exact h.elim
                            · have h := h.2 q_864
                              refine lv_iconst (v := 0) hx hb dL_law_867 (by decide) ?_
                              exact h.elim
                          · have h := h.2 q_39_11
                            by_cases q_39_12 : ((xs v4.toNatClampNeg) &&& 31) = 12
                            · have h := h.1 q_39_12
                              refine lv_tableIn (tgt := 889) hx hb dL_law_39 (by rw [q_39_12]; decide) (by rw [q_39_12]; decide) (by rw [q_39_12]; rfl) (by decide) ?_
                              refine lv_aload_n hx hb dL_law_889 rfl (lv_at hl 1 rfl) ?_
                              refine lv_aload_n hx hb dL_law_890 rfl (lv_at hl 0 rfl) ?_
                              refine lv_iload hx hb dL_law_891 (lv_at hl 4 rfl) ?_
                              refine lv_iconst (v := 1) hx hb dL_law_893 (by decide) ?_
                              refine lv_iadd hx hb dL_law_894 ?_
                              obtain ⟨i_895, h⟩ := h
                              refine va_sld hx hb hX hbl hbA hw.2.2.2.1 i_895 dL_law_895 ?_
                              refine lv_aload_n hx hb dL_law_896 rfl (lv_at hl 0 rfl) ?_
                              refine lv_iload hx hb dL_law_897 (lv_at hl 4 rfl) ?_
                              refine lv_iconst (v := 2) hx hb dL_law_899 (by decide) ?_
                              refine lv_iadd hx hb dL_law_900 ?_
                              obtain ⟨i_901, h⟩ := h
                              refine va_sld hx hb hX hbl hbA hw.2.2.2.1 i_901 dL_law_901 ?_
                              refine lv_aload_n hx hb dL_law_902 rfl (lv_at hl 3 rfl) ?_
                              refine csw_i (As := [.ref a1, .int (xs (v4 + 1).toNatClampNeg), .int (xs (v4 + 2).toNatClampNeg), .ref a3]) (rest := []) S.1 T.2.2.2.1 hw (k_L_taken l T.2.2.2.2.1 E Z M a1 (xs (v4 + 1).toNatClampNeg) (xs (v4 + 2).toNatClampNeg) a3 _ h) wv_L_116 yc_L_taken ⟨rfl, rfl⟩ ⟨Nat.le_of_ble_eq_true rfl, Nat.le_of_ble_eq_true rfl⟩ rfl hl.1 (Nat.le_of_ble_eq_true rfl) ⟨Nat.le_trans (by omega) hrc, Nat.le_trans (by omega) hrs⟩ dL_law_903 (fun r903 M903 H locs h hw => ?_)
                              refine lv_istore (lv' := [(5, .int r903), (0, .ref b), (1, .ref a1), (2, .ref a2), (3, .ref a3), (4, .int v4)]) hx hb dL_law_906 hl (by decide) rfl (fun ls hl => ?_)
                              refine lv_aload_n hx hb dL_law_908 rfl (lv_at hl 3 rfl) ?_
                              refine lv_aload_n hx hb dL_law_909 rfl (lv_at hl 1 rfl) ?_
                              refine lv_iload hx hb dL_law_910 (lv_at hl 5 rfl) ?_
                              refine lv_iconst (v := 1) hx hb dL_law_912 (by decide) ?_
                              refine lv_iadd hx hb dL_law_913 ?_
                              obtain ⟨i_914, h⟩ := h
                              refine va_sld hx hb hX hbl hbA hw.2.2.2.1 i_914 dL_law_914 ?_
                              refine lv_aload_n hx hb dL_law_915 rfl (lv_at hl 1 rfl) ?_
                              refine lv_iload hx hb dL_law_916 (lv_at hl 5 rfl) ?_
                              refine lv_iconst (v := 2) hx hb dL_law_918 (by decide) ?_
                              refine lv_iadd hx hb dL_law_919 ?_
                              obtain ⟨i_920, h⟩ := h
                              refine va_sld hx hb hX hbl hbA hw.2.2.2.1 i_920 dL_law_920 ?_
                              obtain ⟨k_24, h⟩ := h
                              refine cv_i (As := [.int (xs (v4 + 1).toNatClampNeg), .int (xs (v4 + 2).toNatClampNeg)]) (rest := []) S.1 hw (k_X6_taken l E Z M903 a2 (xs (v4 + 1).toNatClampNeg) (xs (v4 + 2).toNatClampNeg) _ h) wv_L_118 yc_X6_taken ⟨rfl, rfl⟩ ⟨Nat.le_of_ble_eq_true rfl, Nat.le_of_ble_eq_true rfl⟩ rfl hl.1 (Nat.le_of_ble_eq_true rfl) (ci := 6) (q := (RX6, TX6, 12)) rfl rfl (by rw [k_24]; decide) (cell_6 k_24) ⟨Nat.le_trans (by omega) hrc, Nat.le_trans (by omega) hrs⟩ dL_law_921 (fun r921 M921 H locs h hw => ?_)
                              refine lv_istore (lv' := [(6, .int r921), (5, .int r903), (0, .ref b), (1, .ref a1), (2, .ref a2), (3, .ref a3), (4, .int v4)]) hx hb dL_law_924 hl (by decide) rfl (fun ls hl => ?_)
                              refine lv_aload_n hx hb dL_law_926 rfl (lv_at hl 4 rfl) ?_
                              refine cv_i (As := []) (rest := []) S.1 hw (k_X6_thrown l E Z M921 a2  _ h) wv_L_77 yc_X6_thrown ⟨rfl, rfl⟩ ⟨Nat.le_of_ble_eq_true rfl, Nat.le_of_ble_eq_true rfl⟩ rfl hl.1 (Nat.le_of_ble_eq_true rfl) (ci := 6) (q := (RX6, TX6, 12)) rfl rfl (by rw [k_24]; decide) (cell_6 k_24) ⟨Nat.le_trans (by omega) hrc, Nat.le_trans (by omega) hrs⟩ dL_law_927 (fun r927 M927 H locs h hw => ?_)
                              refine lv_iload hx hb dL_law_930 (lv_at hl 1 rfl) ?_
                              refine lv_icmp_eq (tgt := 937) hx hb dL_law_932 (by decide) (fun q_932 => ?_) (fun q_932 => ?_)
                              · have h := h.1 q_932
                                refine lv_iload hx hb dL_law_937 (lv_at hl 1 rfl) ?_
                                refine lv_if_ne (tgt := 954) hx hb dL_law_939 (by decide) (fun q_939 => ?_) (fun q_939 => ?_)
                                · have h := h.1 q_939
                                  refine lv_goto (tgt := 1326) hx hb dL_law_954 (by decide) ?_
                                  refine W.widen (k := ce + 4) (n := sl + 24) (by omega) (by omega) ?_
                                  exact ((wB_L_law_1326 S T hce hsl hK23 _ _ _ _ _ h)) H locs ls hw (lv_sub hl [2, 3, 4, 5, 6] rfl)
                                · have h := h.2 q_939
                                  refine lv_aload_n hx hb dL_law_942 rfl (lv_at hl 5 rfl) ?_
                                  refine lv_iconst (v := 0) hx hb dL_law_943 (by decide) ?_
                                  obtain ⟨k_25, h⟩ := h
                                  obtain ⟨i_944, h⟩ := h
                                  refine wo_lald S.1 hw k_25 i_944 dL_law_944 ?_
                                  refine lv_iload hx hb dL_law_945 (lv_at hl 0 rfl) ?_
                                  refine lv_i2l (v := r921.toInt64) hx hb dL_law_947 rfl ?_
                                  refine W.lcmp hx hb dL_law_948 ?_
                                  refine lv_if_eq (tgt := 954) hx hb dL_law_949 (by decide) (fun q_949 => ?_) (fun q_949 => ?_)
                                  · have h := h.1 q_949
                                    refine lv_goto (tgt := 1326) hx hb dL_law_954 (by decide) ?_
                                    refine W.widen (k := ce + 4) (n := sl + 24) (by omega) (by omega) ?_
                                    exact ((wB_L_law_1326 S T hce hsl hK23 _ _ _ _ _ h)) H locs ls hw (lv_sub hl [2, 3, 4, 5, 6] rfl)
                                  · have h := h.2 q_949
                                    refine lv_iconst (v := 0) hx hb dL_law_952 (by decide) ?_
                                    exact h.elim
                              · have h := h.2 q_932
                                refine lv_iconst (v := 0) hx hb dL_law_935 (by decide) ?_
                                exact h.elim
                            · have h := h.2 q_39_12
                              by_cases q_39_13 : ((xs v4.toNatClampNeg) &&& 31) = 13
                              · have h := h.1 q_39_13
                                refine lv_tableIn (tgt := 957) hx hb dL_law_39 (by rw [q_39_13]; decide) (by rw [q_39_13]; decide) (by rw [q_39_13]; rfl) (by decide) ?_
                                refine lv_aload_n hx hb dL_law_957 rfl (lv_at hl 1 rfl) ?_
                                refine lv_aload_n hx hb dL_law_958 rfl (lv_at hl 0 rfl) ?_
                                refine lv_iload hx hb dL_law_959 (lv_at hl 4 rfl) ?_
                                refine lv_iconst (v := 1) hx hb dL_law_961 (by decide) ?_
                                refine lv_iadd hx hb dL_law_962 ?_
                                obtain ⟨i_963, h⟩ := h
                                refine va_sld hx hb hX hbl hbA hw.2.2.2.1 i_963 dL_law_963 ?_
                                refine lv_aload_n hx hb dL_law_964 rfl (lv_at hl 0 rfl) ?_
                                refine lv_iload hx hb dL_law_965 (lv_at hl 4 rfl) ?_
                                refine lv_iconst (v := 2) hx hb dL_law_967 (by decide) ?_
                                refine lv_iadd hx hb dL_law_968 ?_
                                obtain ⟨i_969, h⟩ := h
                                refine va_sld hx hb hX hbl hbA hw.2.2.2.1 i_969 dL_law_969 ?_
                                refine lv_aload_n hx hb dL_law_970 rfl (lv_at hl 0 rfl) ?_
                                refine lv_iload hx hb dL_law_971 (lv_at hl 4 rfl) ?_
                                refine lv_iconst (v := 3) hx hb dL_law_973 (by decide) ?_
                                refine lv_iadd hx hb dL_law_974 ?_
                                obtain ⟨i_975, h⟩ := h
                                refine va_sld hx hb hX hbl hbA hw.2.2.2.1 i_975 dL_law_975 ?_
                                refine lv_aload_n hx hb dL_law_976 rfl (lv_at hl 3 rfl) ?_
                                refine csw_i (As := [.ref a1, .int (xs (v4 + 1).toNatClampNeg), .int (xs (v4 + 2).toNatClampNeg), .int (xs (v4 + 3).toNatClampNeg), .ref a3]) (rest := []) S.1 T.2.2.2.1 hw (k_L_cutsAround l T.2.2.2.2.1 E Z M a1 (xs (v4 + 1).toNatClampNeg) (xs (v4 + 2).toNatClampNeg) (xs (v4 + 3).toNatClampNeg) a3 _ h) wv_L_119 yc_L_cutsAround ⟨rfl, rfl⟩ ⟨Nat.le_of_ble_eq_true rfl, Nat.le_of_ble_eq_true rfl⟩ rfl hl.1 (Nat.le_of_ble_eq_true rfl) ⟨Nat.le_trans (by omega) hrc, Nat.le_trans (by omega) hrs⟩ dL_law_977 (fun r977 M977 H locs h hw => ?_)
                                refine lv_istore (lv' := [(5, .int r977), (0, .ref b), (1, .ref a1), (2, .ref a2), (3, .ref a3), (4, .int v4)]) hx hb dL_law_980 hl (by decide) rfl (fun ls hl => ?_)
                                refine lv_aload_n hx hb dL_law_982 rfl (lv_at hl 3 rfl) ?_
                                refine lv_aload_n hx hb dL_law_983 rfl (lv_at hl 1 rfl) ?_
                                refine lv_iload hx hb dL_law_984 (lv_at hl 5 rfl) ?_
                                refine lv_iconst (v := 1) hx hb dL_law_986 (by decide) ?_
                                refine lv_iadd hx hb dL_law_987 ?_
                                obtain ⟨i_988, h⟩ := h
                                refine va_sld hx hb hX hbl hbA hw.2.2.2.1 i_988 dL_law_988 ?_
                                refine lv_aload_n hx hb dL_law_989 rfl (lv_at hl 1 rfl) ?_
                                refine lv_iload hx hb dL_law_990 (lv_at hl 5 rfl) ?_
                                refine lv_iconst (v := 2) hx hb dL_law_992 (by decide) ?_
                                refine lv_iadd hx hb dL_law_993 ?_
                                obtain ⟨i_994, h⟩ := h
                                refine va_sld hx hb hX hbl hbA hw.2.2.2.1 i_994 dL_law_994 ?_
                                refine lv_aload_n hx hb dL_law_995 rfl (lv_at hl 1 rfl) ?_
                                refine lv_iload hx hb dL_law_996 (lv_at hl 5 rfl) ?_
                                refine lv_iconst (v := 3) hx hb dL_law_998 (by decide) ?_
                                refine lv_iadd hx hb dL_law_999 ?_
                                obtain ⟨i_1000, h⟩ := h
                                refine va_sld hx hb hX hbl hbA hw.2.2.2.1 i_1000 dL_law_1000 ?_
                                obtain ⟨k_26, h⟩ := h
                                refine cv_i (As := [.int (xs (v4 + 1).toNatClampNeg), .int (xs (v4 + 2).toNatClampNeg), .int (xs (v4 + 3).toNatClampNeg)]) (rest := []) S.1 hw (k_X6_cutsAround l E Z M977 a2 (xs (v4 + 1).toNatClampNeg) (xs (v4 + 2).toNatClampNeg) (xs (v4 + 3).toNatClampNeg) _ h) wv_L_121 yc_X6_cutsAround ⟨rfl, rfl⟩ ⟨Nat.le_of_ble_eq_true rfl, Nat.le_of_ble_eq_true rfl⟩ rfl hl.1 (Nat.le_of_ble_eq_true rfl) (ci := 6) (q := (RX6, TX6, 12)) rfl rfl (by rw [k_26]; decide) (cell_6 k_26) ⟨Nat.le_trans (by omega) hrc, Nat.le_trans (by omega) hrs⟩ dL_law_1001 (fun r1001 M1001 H locs h hw => ?_)
                                refine lv_istore (lv' := [(6, .int r1001), (5, .int r977), (0, .ref b), (1, .ref a1), (2, .ref a2), (3, .ref a3), (4, .int v4)]) hx hb dL_law_1004 hl (by decide) rfl (fun ls hl => ?_)
                                refine lv_aload_n hx hb dL_law_1006 rfl (lv_at hl 4 rfl) ?_
                                refine cv_i (As := []) (rest := []) S.1 hw (k_X6_thrown l E Z M1001 a2  _ h) wv_L_77 yc_X6_thrown ⟨rfl, rfl⟩ ⟨Nat.le_of_ble_eq_true rfl, Nat.le_of_ble_eq_true rfl⟩ rfl hl.1 (Nat.le_of_ble_eq_true rfl) (ci := 6) (q := (RX6, TX6, 12)) rfl rfl (by rw [k_26]; decide) (cell_6 k_26) ⟨Nat.le_trans (by omega) hrc, Nat.le_trans (by omega) hrs⟩ dL_law_1007 (fun r1007 M1007 H locs h hw => ?_)
                                refine lv_iload hx hb dL_law_1010 (lv_at hl 1 rfl) ?_
                                refine lv_icmp_eq (tgt := 1017) hx hb dL_law_1012 (by decide) (fun q_1012 => ?_) (fun q_1012 => ?_)
                                · have h := h.1 q_1012
                                  refine lv_iload hx hb dL_law_1017 (lv_at hl 1 rfl) ?_
                                  refine lv_if_ne (tgt := 1034) hx hb dL_law_1019 (by decide) (fun q_1019 => ?_) (fun q_1019 => ?_)
                                  · have h := h.1 q_1019
                                    refine lv_goto (tgt := 1326) hx hb dL_law_1034 (by decide) ?_
                                    refine W.widen (k := ce + 4) (n := sl + 24) (by omega) (by omega) ?_
                                    exact ((wB_L_law_1326 S T hce hsl hK23 _ _ _ _ _ h)) H locs ls hw (lv_sub hl [2, 3, 4, 5, 6] rfl)
                                  · have h := h.2 q_1019
                                    refine lv_aload_n hx hb dL_law_1022 rfl (lv_at hl 5 rfl) ?_
                                    refine lv_iconst (v := 0) hx hb dL_law_1023 (by decide) ?_
                                    obtain ⟨k_27, h⟩ := h
                                    obtain ⟨i_1024, h⟩ := h
                                    refine wo_lald S.1 hw k_27 i_1024 dL_law_1024 ?_
                                    refine lv_iload hx hb dL_law_1025 (lv_at hl 0 rfl) ?_
                                    refine lv_i2l (v := r1001.toInt64) hx hb dL_law_1027 rfl ?_
                                    refine W.lcmp hx hb dL_law_1028 ?_
                                    refine lv_if_eq (tgt := 1034) hx hb dL_law_1029 (by decide) (fun q_1029 => ?_) (fun q_1029 => ?_)
                                    · have h := h.1 q_1029
                                      refine lv_goto (tgt := 1326) hx hb dL_law_1034 (by decide) ?_
                                      refine W.widen (k := ce + 4) (n := sl + 24) (by omega) (by omega) ?_
                                      exact ((wB_L_law_1326 S T hce hsl hK23 _ _ _ _ _ h)) H locs ls hw (lv_sub hl [2, 3, 4, 5, 6] rfl)
                                    · have h := h.2 q_1029
                                      refine lv_iconst (v := 0) hx hb dL_law_1032 (by decide) ?_
                                      exact h.elim
                                · have h := h.2 q_1012
                                  refine lv_iconst (v := 0) hx hb dL_law_1015 (by decide) ?_
                                  exact h.elim
                              · have h := h.2 q_39_13
                                by_cases q_39_14 : ((xs v4.toNatClampNeg) &&& 31) = 14
                                · have h := h.1 q_39_14
                                  refine lv_tableIn (tgt := 1037) hx hb dL_law_39 (by rw [q_39_14]; decide) (by rw [q_39_14]; decide) (by rw [q_39_14]; rfl) (by decide) ?_
                                  refine lv_aload_n hx hb dL_law_1037 rfl (lv_at hl 1 rfl) ?_
                                  obtain ⟨k_28, h⟩ := h
                                  refine cv_i (As := []) (rest := []) S.1 hw (k_X5_takable l E Z M a1  _ h) wv_L_122 yc_X5_takable ⟨rfl, rfl⟩ ⟨Nat.le_of_ble_eq_true rfl, Nat.le_of_ble_eq_true rfl⟩ rfl hl.1 (Nat.le_of_ble_eq_true rfl) (ci := 5) (q := (RX5, TX5, 9)) rfl rfl (by rw [k_28]; decide) (cell_5 k_28) ⟨Nat.le_trans (by omega) hrc, Nat.le_trans (by omega) hrs⟩ dL_law_1038 (fun r1038 M1038 H locs h hw => ?_)
                                  refine lv_aload_n hx hb dL_law_1041 rfl (lv_at hl 2 rfl) ?_
                                  obtain ⟨k_29, h⟩ := h
                                  refine cv_i (As := []) (rest := [.int r1038]) S.1 hw (k_X6_takable l E Z M1038 a2  _ h) wv_L_125 yc_X6_takable ⟨rfl, rfl⟩ ⟨Nat.le_of_ble_eq_true rfl, Nat.le_of_ble_eq_true rfl⟩ rfl hl.1 (Nat.le_of_ble_eq_true rfl) (ci := 6) (q := (RX6, TX6, 12)) rfl rfl (by rw [k_29]; decide) (cell_6 k_29) ⟨Nat.le_trans (by omega) hrc, Nat.le_trans (by omega) hrs⟩ dL_law_1042 (fun r1042 M1042 H locs h hw => ?_)
                                  refine lv_icmp_eq (tgt := 1326) hx hb dL_law_1045 (by decide) (fun q_1045 => ?_) (fun q_1045 => ?_)
                                  · have h := h.1 q_1045
                                    refine W.widen (k := ce + 4) (n := sl + 24) (by omega) (by omega) ?_
                                    exact ((wB_L_law_1326 S T hce hsl hK23 _ _ _ _ _ h)) H locs ls hw (lv_sub hl [0, 1, 2, 3, 4] rfl)
                                  · have h := h.2 q_1045
                                    refine lv_iconst (v := 0) hx hb dL_law_1048 (by decide) ?_
                                    exact h.elim
                                · have h := h.2 q_39_14
                                  by_cases q_39_15 : ((xs v4.toNatClampNeg) &&& 31) = 15
                                  · have h := h.1 q_39_15
                                    refine lv_tableIn (tgt := 1050) hx hb dL_law_39 (by rw [q_39_15]; decide) (by rw [q_39_15]; decide) (by rw [q_39_15]; rfl) (by decide) ?_
                                    refine lv_aload_n hx hb dL_law_1050 rfl (lv_at hl 1 rfl) ?_
                                    obtain ⟨k_30, h⟩ := h
                                    refine cv_i (As := []) (rest := []) S.1 hw (k_X5_leftStranded l E Z M a1  _ h) wv_L_126 yc_X5_leftStranded ⟨rfl, rfl⟩ ⟨Nat.le_of_ble_eq_true rfl, Nat.le_of_ble_eq_true rfl⟩ rfl hl.1 (Nat.le_of_ble_eq_true rfl) (ci := 5) (q := (RX5, TX5, 9)) rfl rfl (by rw [k_30]; decide) (cell_5 k_30) ⟨Nat.le_trans (by omega) hrc, Nat.le_trans (by omega) hrs⟩ dL_law_1051 (fun r1051 M1051 H locs h hw => ?_)
                                    refine lv_aload_n hx hb dL_law_1054 rfl (lv_at hl 2 rfl) ?_
                                    obtain ⟨k_31, h⟩ := h
                                    refine cv_i (As := []) (rest := [.int r1051]) S.1 hw (k_X6_leftStranded l E Z M1051 a2  _ h) wv_L_129 yc_X6_leftStranded ⟨rfl, rfl⟩ ⟨Nat.le_of_ble_eq_true rfl, Nat.le_of_ble_eq_true rfl⟩ rfl hl.1 (Nat.le_of_ble_eq_true rfl) (ci := 6) (q := (RX6, TX6, 12)) rfl rfl (by rw [k_31]; decide) (cell_6 k_31) ⟨Nat.le_trans (by omega) hrc, Nat.le_trans (by omega) hrs⟩ dL_law_1055 (fun r1055 M1055 H locs h hw => ?_)
                                    refine lv_icmp_eq (tgt := 1326) hx hb dL_law_1058 (by decide) (fun q_1058 => ?_) (fun q_1058 => ?_)
                                    · have h := h.1 q_1058
                                      refine W.widen (k := ce + 4) (n := sl + 24) (by omega) (by omega) ?_
                                      exact ((wB_L_law_1326 S T hce hsl hK23 _ _ _ _ _ h)) H locs ls hw (lv_sub hl [0, 1, 2, 3, 4] rfl)
                                    · have h := h.2 q_1058
                                      refine lv_iconst (v := 0) hx hb dL_law_1061 (by decide) ?_
                                      exact h.elim
                                  · have h := h.2 q_39_15
                                    by_cases q_39_16 : ((xs v4.toNatClampNeg) &&& 31) = 16
                                    · have h := h.1 q_39_16
                                      refine lv_tableIn (tgt := 1063) hx hb dL_law_39 (by rw [q_39_16]; decide) (by rw [q_39_16]; decide) (by rw [q_39_16]; rfl) (by decide) ?_
                                      refine lv_aload_n hx hb dL_law_1063 rfl (lv_at hl 1 rfl) ?_
                                      refine lv_aload_n hx hb dL_law_1064 rfl (lv_at hl 0 rfl) ?_
                                      refine lv_iload hx hb dL_law_1065 (lv_at hl 4 rfl) ?_
                                      refine lv_iconst (v := 1) hx hb dL_law_1067 (by decide) ?_
                                      refine lv_iadd hx hb dL_law_1068 ?_
                                      obtain ⟨i_1069, h⟩ := h
                                      refine va_sld hx hb hX hbl hbA hw.2.2.2.1 i_1069 dL_law_1069 ?_
                                      refine lv_aload_n hx hb dL_law_1070 rfl (lv_at hl 3 rfl) ?_
                                      refine csw_i (As := [.ref a1, .int (xs (v4 + 1).toNatClampNeg), .ref a3]) (rest := []) S.1 T.2.2.2.1 hw (k_L_daysWhole l T.2.2.2.2.1 E Z M a1 (xs (v4 + 1).toNatClampNeg) a3 _ h) wv_L_130 yc_L_daysWhole ⟨rfl, rfl⟩ ⟨Nat.le_of_ble_eq_true rfl, Nat.le_of_ble_eq_true rfl⟩ rfl hl.1 (Nat.le_of_ble_eq_true rfl) ⟨Nat.le_trans (by omega) hrc, Nat.le_trans (by omega) hrs⟩ dL_law_1071 (fun r1071 M1071 H locs h hw => ?_)
                                      refine lv_istore (lv' := [(5, .int r1071), (0, .ref b), (1, .ref a1), (2, .ref a2), (3, .ref a3), (4, .int v4)]) hx hb dL_law_1074 hl (by decide) rfl (fun ls hl => ?_)
                                      refine lv_aload_n hx hb dL_law_1076 rfl (lv_at hl 3 rfl) ?_
                                      refine lv_aload_n hx hb dL_law_1077 rfl (lv_at hl 1 rfl) ?_
                                      refine lv_iload hx hb dL_law_1078 (lv_at hl 5 rfl) ?_
                                      refine lv_iconst (v := 1) hx hb dL_law_1080 (by decide) ?_
                                      refine lv_iadd hx hb dL_law_1081 ?_
                                      obtain ⟨i_1082, h⟩ := h
                                      refine va_sld hx hb hX hbl hbA hw.2.2.2.1 i_1082 dL_law_1082 ?_
                                      obtain ⟨k_32, h⟩ := h
                                      refine cv_i (As := [.int (xs (v4 + 1).toNatClampNeg)]) (rest := []) S.1 hw (k_X6_daysWhole l E Z M1071 a2 (xs (v4 + 1).toNatClampNeg) _ h) wv_L_132 yc_X6_daysWhole ⟨rfl, rfl⟩ ⟨Nat.le_of_ble_eq_true rfl, Nat.le_of_ble_eq_true rfl⟩ rfl hl.1 (Nat.le_of_ble_eq_true rfl) (ci := 6) (q := (RX6, TX6, 12)) rfl rfl (by rw [k_32]; decide) (cell_6 k_32) ⟨Nat.le_trans (by omega) hrc, Nat.le_trans (by omega) hrs⟩ dL_law_1083 (fun r1083 M1083 H locs h hw => ?_)
                                      refine lv_istore (lv' := [(6, .int r1083), (5, .int r1071), (0, .ref b), (1, .ref a1), (2, .ref a2), (3, .ref a3), (4, .int v4)]) hx hb dL_law_1086 hl (by decide) rfl (fun ls hl => ?_)
                                      refine lv_aload_n hx hb dL_law_1088 rfl (lv_at hl 4 rfl) ?_
                                      refine cv_i (As := []) (rest := []) S.1 hw (k_X6_thrown l E Z M1083 a2  _ h) wv_L_77 yc_X6_thrown ⟨rfl, rfl⟩ ⟨Nat.le_of_ble_eq_true rfl, Nat.le_of_ble_eq_true rfl⟩ rfl hl.1 (Nat.le_of_ble_eq_true rfl) (ci := 6) (q := (RX6, TX6, 12)) rfl rfl (by rw [k_32]; decide) (cell_6 k_32) ⟨Nat.le_trans (by omega) hrc, Nat.le_trans (by omega) hrs⟩ dL_law_1089 (fun r1089 M1089 H locs h hw => ?_)
                                      refine lv_iload hx hb dL_law_1092 (lv_at hl 1 rfl) ?_
                                      refine lv_icmp_eq (tgt := 1099) hx hb dL_law_1094 (by decide) (fun q_1094 => ?_) (fun q_1094 => ?_)
                                      · have h := h.1 q_1094
                                        refine lv_iload hx hb dL_law_1099 (lv_at hl 1 rfl) ?_
                                        refine lv_if_ne (tgt := 1116) hx hb dL_law_1101 (by decide) (fun q_1101 => ?_) (fun q_1101 => ?_)
                                        · have h := h.1 q_1101
                                          refine lv_goto (tgt := 1326) hx hb dL_law_1116 (by decide) ?_
                                          refine W.widen (k := ce + 4) (n := sl + 24) (by omega) (by omega) ?_
                                          exact ((wB_L_law_1326 S T hce hsl hK23 _ _ _ _ _ h)) H locs ls hw (lv_sub hl [2, 3, 4, 5, 6] rfl)
                                        · have h := h.2 q_1101
                                          refine lv_aload_n hx hb dL_law_1104 rfl (lv_at hl 5 rfl) ?_
                                          refine lv_iconst (v := 0) hx hb dL_law_1105 (by decide) ?_
                                          obtain ⟨k_33, h⟩ := h
                                          obtain ⟨i_1106, h⟩ := h
                                          refine wo_lald S.1 hw k_33 i_1106 dL_law_1106 ?_
                                          refine lv_iload hx hb dL_law_1107 (lv_at hl 0 rfl) ?_
                                          refine lv_i2l (v := r1083.toInt64) hx hb dL_law_1109 rfl ?_
                                          refine W.lcmp hx hb dL_law_1110 ?_
                                          refine lv_if_eq (tgt := 1116) hx hb dL_law_1111 (by decide) (fun q_1111 => ?_) (fun q_1111 => ?_)
                                          · have h := h.1 q_1111
                                            refine lv_goto (tgt := 1326) hx hb dL_law_1116 (by decide) ?_
                                            refine W.widen (k := ce + 4) (n := sl + 24) (by omega) (by omega) ?_
                                            exact ((wB_L_law_1326 S T hce hsl hK23 _ _ _ _ _ h)) H locs ls hw (lv_sub hl [2, 3, 4, 5, 6] rfl)
                                          · have h := h.2 q_1111
                                            refine lv_iconst (v := 0) hx hb dL_law_1114 (by decide) ?_
                                            exact h.elim
                                      · have h := h.2 q_1094
                                        refine lv_iconst (v := 0) hx hb dL_law_1097 (by decide) ?_
                                        exact h.elim
                                    · have h := h.2 q_39_16
                                      by_cases q_39_17 : ((xs v4.toNatClampNeg) &&& 31) = 17
                                      · have h := h.1 q_39_17
                                        refine lv_tableIn (tgt := 1119) hx hb dL_law_39 (by rw [q_39_17]; decide) (by rw [q_39_17]; decide) (by rw [q_39_17]; rfl) (by decide) ?_
                                        refine lv_aload_n hx hb dL_law_1119 rfl (lv_at hl 1 rfl) ?_
                                        obtain ⟨k_34, h⟩ := h
                                        refine cv_i (As := []) (rest := []) S.1 hw (k_X5_daysToWater l E Z M a1  _ h) wv_L_133 yc_X5_daysToWater ⟨rfl, rfl⟩ ⟨Nat.le_of_ble_eq_true rfl, Nat.le_of_ble_eq_true rfl⟩ rfl hl.1 (Nat.le_of_ble_eq_true rfl) (ci := 5) (q := (RX5, TX5, 9)) rfl rfl (by rw [k_34]; decide) (cell_5 k_34) ⟨Nat.le_trans (by omega) hrc, Nat.le_trans (by omega) hrs⟩ dL_law_1120 (fun r1120 M1120 H locs h hw => ?_)
                                        refine lv_aload_n hx hb dL_law_1123 rfl (lv_at hl 2 rfl) ?_
                                        obtain ⟨k_35, h⟩ := h
                                        refine cv_i (As := []) (rest := [.int r1120]) S.1 hw (k_X6_daysToWater l E Z M1120 a2  _ h) wv_L_136 yc_X6_daysToWater ⟨rfl, rfl⟩ ⟨Nat.le_of_ble_eq_true rfl, Nat.le_of_ble_eq_true rfl⟩ rfl hl.1 (Nat.le_of_ble_eq_true rfl) (ci := 6) (q := (RX6, TX6, 12)) rfl rfl (by rw [k_35]; decide) (cell_6 k_35) ⟨Nat.le_trans (by omega) hrc, Nat.le_trans (by omega) hrs⟩ dL_law_1124 (fun r1124 M1124 H locs h hw => ?_)
                                        refine lv_icmp_eq (tgt := 1326) hx hb dL_law_1127 (by decide) (fun q_1127 => ?_) (fun q_1127 => ?_)
                                        · have h := h.1 q_1127
                                          refine W.widen (k := ce + 4) (n := sl + 24) (by omega) (by omega) ?_
                                          exact ((wB_L_law_1326 S T hce hsl hK23 _ _ _ _ _ h)) H locs ls hw (lv_sub hl [0, 1, 2, 3, 4] rfl)
                                        · have h := h.2 q_1127
                                          refine lv_iconst (v := 0) hx hb dL_law_1130 (by decide) ?_
                                          exact h.elim
                                      · have h := h.2 q_39_17
                                        by_cases q_39_18 : ((xs v4.toNatClampNeg) &&& 31) = 18
                                        · have h := h.1 q_39_18
                                          refine lv_tableIn (tgt := 1132) hx hb dL_law_39 (by rw [q_39_18]; decide) (by rw [q_39_18]; decide) (by rw [q_39_18]; rfl) (by decide) ?_
                                          refine lv_aload_n hx hb dL_law_1132 rfl (lv_at hl 1 rfl) ?_
                                          obtain ⟨k_36, h⟩ := h
                                          refine cv_i (As := []) (rest := []) S.1 hw (k_X5_barredBy l E Z M a1  _ h) wv_L_137 yc_X5_barredBy ⟨rfl, rfl⟩ ⟨Nat.le_of_ble_eq_true rfl, Nat.le_of_ble_eq_true rfl⟩ rfl hl.1 (Nat.le_of_ble_eq_true rfl) (ci := 5) (q := (RX5, TX5, 9)) rfl rfl (by rw [k_36]; decide) (cell_5 k_36) ⟨Nat.le_trans (by omega) hrc, Nat.le_trans (by omega) hrs⟩ dL_law_1133 (fun r1133 M1133 H locs h hw => ?_)
                                          refine lv_aload_n hx hb dL_law_1136 rfl (lv_at hl 2 rfl) ?_
                                          obtain ⟨k_37, h⟩ := h
                                          refine cv_i (As := []) (rest := [.int r1133]) S.1 hw (k_X6_barredBy l E Z M1133 a2  _ h) wv_L_140 yc_X6_barredBy ⟨rfl, rfl⟩ ⟨Nat.le_of_ble_eq_true rfl, Nat.le_of_ble_eq_true rfl⟩ rfl hl.1 (Nat.le_of_ble_eq_true rfl) (ci := 6) (q := (RX6, TX6, 12)) rfl rfl (by rw [k_37]; decide) (cell_6 k_37) ⟨Nat.le_trans (by omega) hrc, Nat.le_trans (by omega) hrs⟩ dL_law_1137 (fun r1137 M1137 H locs h hw => ?_)
                                          refine lv_icmp_eq (tgt := 1326) hx hb dL_law_1140 (by decide) (fun q_1140 => ?_) (fun q_1140 => ?_)
                                          · have h := h.1 q_1140
                                            refine W.widen (k := ce + 4) (n := sl + 24) (by omega) (by omega) ?_
                                            exact ((wB_L_law_1326 S T hce hsl hK23 _ _ _ _ _ h)) H locs ls hw (lv_sub hl [0, 1, 2, 3, 4] rfl)
                                          · have h := h.2 q_1140
                                            refine lv_iconst (v := 0) hx hb dL_law_1143 (by decide) ?_
                                            exact h.elim
                                        · have h := h.2 q_39_18
                                          by_cases q_39_19 : ((xs v4.toNatClampNeg) &&& 31) = 19
                                          · have h := h.1 q_39_19
                                            refine lv_tableIn (tgt := 1145) hx hb dL_law_39 (by rw [q_39_19]; decide) (by rw [q_39_19]; decide) (by rw [q_39_19]; rfl) (by decide) ?_
                                            refine lv_aload_n hx hb dL_law_1145 rfl (lv_at hl 1 rfl) ?_
                                            obtain ⟨k_38, h⟩ := h
                                            refine cv_d (As := []) (rest := []) S.1 hw (k_X5_harvest l E Z M a1  _ h) wv_L_141 yc_X5_harvest ⟨rfl, rfl⟩ ⟨Nat.le_of_ble_eq_true rfl, Nat.le_of_ble_eq_true rfl⟩ rfl hl.1 (Nat.le_of_ble_eq_true rfl) (ci := 5) (q := (RX5, TX5, 9)) rfl rfl (by rw [k_38]; decide) (cell_5 k_38) ⟨Nat.le_trans (by omega) hrc, Nat.le_trans (by omega) hrs⟩ dL_law_1146 (fun r1146 M1146 H locs h hw => ?_)
                                            refine lv_dstore (lv' := [(5, .double r1146), (0, .ref b), (1, .ref a1), (2, .ref a2), (3, .ref a3), (4, .int v4)]) hx hb dL_law_1149 hl (by decide) rfl (fun ls hl => ?_)
                                            refine lv_aload_n hx hb dL_law_1151 rfl (lv_at hl 3 rfl) ?_
                                            obtain ⟨k_39, h⟩ := h
                                            refine cv_d (As := []) (rest := []) S.1 hw (k_X6_harvest l E Z M1146 a2  _ h) wv_L_145 yc_X6_harvest ⟨rfl, rfl⟩ ⟨Nat.le_of_ble_eq_true rfl, Nat.le_of_ble_eq_true rfl⟩ rfl hl.1 (Nat.le_of_ble_eq_true rfl) (ci := 6) (q := (RX6, TX6, 12)) rfl rfl (by rw [k_39]; decide) (cell_6 k_39) ⟨Nat.le_trans (by omega) hrc, Nat.le_trans (by omega) hrs⟩ dL_law_1152 (fun r1152 M1152 H locs h hw => ?_)
                                            refine lv_dstore (lv' := [(7, .double r1152), (5, .double r1146), (0, .ref b), (1, .ref a1), (2, .ref a2), (3, .ref a3), (4, .int v4)]) hx hb dL_law_1155 hl (by decide) rfl (fun ls hl => ?_)
                                            refine lv_dload hx hb dL_law_1157 (lv_at hl 1 rfl) ?_
                                            refine lv_dload hx hb dL_law_1159 (lv_at hl 0 rfl) ?_
                                            refine lv_dcmp hx hb dL_law_1161 ?_
                                            refine lv_if_eq (tgt := 1183) hx hb dL_law_1162 (by decide) (fun q_1162 => ?_) (fun q_1162 => ?_)
                                            · have h := h.1 q_1162
                                              refine lv_goto (tgt := 1326) hx hb dL_law_1183 (by decide) ?_
                                              refine W.widen (k := ce + 4) (n := sl + 24) (by omega) (by omega) ?_
                                              exact ((wB_L_law_1326 S T hce hsl hK23 _ _ _ _ _ h)) H locs ls hw (lv_sub hl [2, 3, 4, 5, 6] rfl)
                                            · have h := h.2 q_1162
                                              refine lv_dload hx hb dL_law_1165 (lv_at hl 1 rfl) ?_
                                              refine lv_dload hx hb dL_law_1167 (lv_at hl 1 rfl) ?_
                                              refine lv_dcmp hx hb dL_law_1169 ?_
                                              refine lv_if_eq (tgt := 1181) hx hb dL_law_1170 (by decide) (fun q_1170 => ?_) (fun q_1170 => ?_)
                                              · have h := h.1 q_1170
                                                refine lv_iconst (v := 0) hx hb dL_law_1181 (by decide) ?_
                                                exact h.elim
                                              · have h := h.2 q_1170
                                                refine lv_dload hx hb dL_law_1173 (lv_at hl 0 rfl) ?_
                                                refine lv_dload hx hb dL_law_1175 (lv_at hl 0 rfl) ?_
                                                refine lv_dcmp hx hb dL_law_1177 ?_
                                                refine lv_if_ne (tgt := 1183) hx hb dL_law_1178 (by decide) (fun q_1178 => ?_) (fun q_1178 => ?_)
                                                · have h := h.1 q_1178
                                                  refine lv_goto (tgt := 1326) hx hb dL_law_1183 (by decide) ?_
                                                  refine W.widen (k := ce + 4) (n := sl + 24) (by omega) (by omega) ?_
                                                  exact ((wB_L_law_1326 S T hce hsl hK23 _ _ _ _ _ h)) H locs ls hw (lv_sub hl [2, 3, 4, 5, 6] rfl)
                                                · have h := h.2 q_1178
                                                  refine lv_iconst (v := 0) hx hb dL_law_1181 (by decide) ?_
                                                  exact h.elim
                                          · have h := h.2 q_39_19
                                            by_cases q_39_20 : ((xs v4.toNatClampNeg) &&& 31) = 20
                                            · have h := h.1 q_39_20
                                              refine lv_tableIn (tgt := 1186) hx hb dL_law_39 (by rw [q_39_20]; decide) (by rw [q_39_20]; decide) (by rw [q_39_20]; rfl) (by decide) ?_
                                              refine lv_aload_n hx hb dL_law_1186 rfl (lv_at hl 1 rfl) ?_
                                              refine lv_aload_n hx hb dL_law_1187 rfl (lv_at hl 0 rfl) ?_
                                              refine lv_iload hx hb dL_law_1188 (lv_at hl 4 rfl) ?_
                                              refine lv_iconst (v := 1) hx hb dL_law_1190 (by decide) ?_
                                              refine lv_iadd hx hb dL_law_1191 ?_
                                              obtain ⟨i_1192, h⟩ := h
                                              refine va_sld hx hb hX hbl hbA hw.2.2.2.1 i_1192 dL_law_1192 ?_
                                              refine lv_aload_n hx hb dL_law_1193 rfl (lv_at hl 3 rfl) ?_
                                              refine csw_i (As := [.ref a1, .int (xs (v4 + 1).toNatClampNeg), .ref a3]) (rest := []) S.1 T.2.2.2.1 hw (k_L_append l T.2.2.2.2.1 E Z M a1 (xs (v4 + 1).toNatClampNeg) a3 _ h) wv_L_146 yc_L_append ⟨rfl, rfl⟩ ⟨Nat.le_of_ble_eq_true rfl, Nat.le_of_ble_eq_true rfl⟩ rfl hl.1 (Nat.le_of_ble_eq_true rfl) ⟨Nat.le_trans (by omega) hrc, Nat.le_trans (by omega) hrs⟩ dL_law_1194 (fun r1194 M1194 H locs h hw => ?_)
                                              refine lv_istore (lv' := [(5, .int r1194), (0, .ref b), (1, .ref a1), (2, .ref a2), (3, .ref a3), (4, .int v4)]) hx hb dL_law_1197 hl (by decide) rfl (fun ls hl => ?_)
                                              refine lv_aload_n hx hb dL_law_1199 rfl (lv_at hl 3 rfl) ?_
                                              refine lv_aload_n hx hb dL_law_1200 rfl (lv_at hl 1 rfl) ?_
                                              refine lv_iload hx hb dL_law_1201 (lv_at hl 5 rfl) ?_
                                              refine lv_iconst (v := 1) hx hb dL_law_1203 (by decide) ?_
                                              refine lv_iadd hx hb dL_law_1204 ?_
                                              obtain ⟨i_1205, h⟩ := h
                                              refine va_sld hx hb hX hbl hbA hw.2.2.2.1 i_1205 dL_law_1205 ?_
                                              obtain ⟨k_40, h⟩ := h
                                              refine cv_i (As := [.int (xs (v4 + 1).toNatClampNeg)]) (rest := []) S.1 hw (k_X6_append l E Z M1194 a2 (xs (v4 + 1).toNatClampNeg) _ h) wv_L_148 yc_X6_append ⟨rfl, rfl⟩ ⟨Nat.le_of_ble_eq_true rfl, Nat.le_of_ble_eq_true rfl⟩ rfl hl.1 (Nat.le_of_ble_eq_true rfl) (ci := 6) (q := (RX6, TX6, 12)) rfl rfl (by rw [k_40]; decide) (cell_6 k_40) ⟨Nat.le_trans (by omega) hrc, Nat.le_trans (by omega) hrs⟩ dL_law_1206 (fun r1206 M1206 H locs h hw => ?_)
                                              refine lv_istore (lv' := [(6, .int r1206), (5, .int r1194), (0, .ref b), (1, .ref a1), (2, .ref a2), (3, .ref a3), (4, .int v4)]) hx hb dL_law_1209 hl (by decide) rfl (fun ls hl => ?_)
                                              refine lv_aload_n hx hb dL_law_1211 rfl (lv_at hl 4 rfl) ?_
                                              refine cv_i (As := []) (rest := []) S.1 hw (k_X6_thrown l E Z M1206 a2  _ h) wv_L_77 yc_X6_thrown ⟨rfl, rfl⟩ ⟨Nat.le_of_ble_eq_true rfl, Nat.le_of_ble_eq_true rfl⟩ rfl hl.1 (Nat.le_of_ble_eq_true rfl) (ci := 6) (q := (RX6, TX6, 12)) rfl rfl (by rw [k_40]; decide) (cell_6 k_40) ⟨Nat.le_trans (by omega) hrc, Nat.le_trans (by omega) hrs⟩ dL_law_1212 (fun r1212 M1212 H locs h hw => ?_)
                                              refine lv_iload hx hb dL_law_1215 (lv_at hl 1 rfl) ?_
                                              refine lv_icmp_eq (tgt := 1222) hx hb dL_law_1217 (by decide) (fun q_1217 => ?_) (fun q_1217 => ?_)
                                              · have h := h.1 q_1217
                                                refine lv_iload hx hb dL_law_1222 (lv_at hl 1 rfl) ?_
                                                refine lv_if_ne (tgt := 1239) hx hb dL_law_1224 (by decide) (fun q_1224 => ?_) (fun q_1224 => ?_)
                                                · have h := h.1 q_1224
                                                  refine lv_goto (tgt := 1326) hx hb dL_law_1239 (by decide) ?_
                                                  refine W.widen (k := ce + 4) (n := sl + 24) (by omega) (by omega) ?_
                                                  exact ((wB_L_law_1326 S T hce hsl hK23 _ _ _ _ _ h)) H locs ls hw (lv_sub hl [2, 3, 4, 5, 6] rfl)
                                                · have h := h.2 q_1224
                                                  refine lv_aload_n hx hb dL_law_1227 rfl (lv_at hl 5 rfl) ?_
                                                  refine lv_iconst (v := 0) hx hb dL_law_1228 (by decide) ?_
                                                  obtain ⟨k_41, h⟩ := h
                                                  obtain ⟨i_1229, h⟩ := h
                                                  refine wo_lald S.1 hw k_41 i_1229 dL_law_1229 ?_
                                                  refine lv_iload hx hb dL_law_1230 (lv_at hl 0 rfl) ?_
                                                  refine lv_i2l (v := r1206.toInt64) hx hb dL_law_1232 rfl ?_
                                                  refine W.lcmp hx hb dL_law_1233 ?_
                                                  refine lv_if_eq (tgt := 1239) hx hb dL_law_1234 (by decide) (fun q_1234 => ?_) (fun q_1234 => ?_)
                                                  · have h := h.1 q_1234
                                                    refine lv_goto (tgt := 1326) hx hb dL_law_1239 (by decide) ?_
                                                    refine W.widen (k := ce + 4) (n := sl + 24) (by omega) (by omega) ?_
                                                    exact ((wB_L_law_1326 S T hce hsl hK23 _ _ _ _ _ h)) H locs ls hw (lv_sub hl [2, 3, 4, 5, 6] rfl)
                                                  · have h := h.2 q_1234
                                                    refine lv_iconst (v := 0) hx hb dL_law_1237 (by decide) ?_
                                                    exact h.elim
                                              · have h := h.2 q_1217
                                                refine lv_iconst (v := 0) hx hb dL_law_1220 (by decide) ?_
                                                exact h.elim
                                            · have h := h.2 q_39_20
                                              by_cases q_39_21 : ((xs v4.toNatClampNeg) &&& 31) = 21
                                              · have h := h.1 q_39_21
                                                refine lv_tableIn (tgt := 1242) hx hb dL_law_39 (by rw [q_39_21]; decide) (by rw [q_39_21]; decide) (by rw [q_39_21]; rfl) (by decide) ?_
                                                refine lv_aload_n hx hb dL_law_1242 rfl (lv_at hl 1 rfl) ?_
                                                obtain ⟨k_42, h⟩ := h
                                                refine cv_i (As := []) (rest := []) S.1 hw (k_X5_clearText l E Z M a1  _ h) wv_L_149 yc_X5_clearText ⟨rfl, rfl⟩ ⟨Nat.le_of_ble_eq_true rfl, Nat.le_of_ble_eq_true rfl⟩ rfl hl.1 (Nat.le_of_ble_eq_true rfl) (ci := 5) (q := (RX5, TX5, 9)) rfl rfl (by rw [k_42]; decide) (cell_5 k_42) ⟨Nat.le_trans (by omega) hrc, Nat.le_trans (by omega) hrs⟩ dL_law_1243 (fun r1243 M1243 H locs h hw => ?_)
                                                refine lv_aload_n hx hb dL_law_1246 rfl (lv_at hl 2 rfl) ?_
                                                obtain ⟨k_43, h⟩ := h
                                                refine cv_i (As := []) (rest := [.int r1243]) S.1 hw (k_X6_clearText l E Z M1243 a2  _ h) wv_L_152 yc_X6_clearText ⟨rfl, rfl⟩ ⟨Nat.le_of_ble_eq_true rfl, Nat.le_of_ble_eq_true rfl⟩ rfl hl.1 (Nat.le_of_ble_eq_true rfl) (ci := 6) (q := (RX6, TX6, 12)) rfl rfl (by rw [k_43]; decide) (cell_6 k_43) ⟨Nat.le_trans (by omega) hrc, Nat.le_trans (by omega) hrs⟩ dL_law_1247 (fun r1247 M1247 H locs h hw => ?_)
                                                refine lv_icmp_eq (tgt := 1326) hx hb dL_law_1250 (by decide) (fun q_1250 => ?_) (fun q_1250 => ?_)
                                                · have h := h.1 q_1250
                                                  refine W.widen (k := ce + 4) (n := sl + 24) (by omega) (by omega) ?_
                                                  exact ((wB_L_law_1326 S T hce hsl hK23 _ _ _ _ _ h)) H locs ls hw (lv_sub hl [0, 1, 2, 3, 4] rfl)
                                                · have h := h.2 q_1250
                                                  refine lv_iconst (v := 0) hx hb dL_law_1253 (by decide) ?_
                                                  exact h.elim
                                              · have h := h.2 q_39_21
                                                by_cases q_39_22 : ((xs v4.toNatClampNeg) &&& 31) = 22
                                                · have h := h.1 q_39_22
                                                  refine lv_tableIn (tgt := 1255) hx hb dL_law_39 (by rw [q_39_22]; decide) (by rw [q_39_22]; decide) (by rw [q_39_22]; rfl) (by decide) ?_
                                                  refine lv_aload_n hx hb dL_law_1255 rfl (lv_at hl 1 rfl) ?_
                                                  obtain ⟨k_44, h⟩ := h
                                                  refine cv_i (As := []) (rest := []) S.1 hw (k_X5_parse l E Z M a1  _ h) wv_L_153 yc_X5_parse ⟨rfl, rfl⟩ ⟨Nat.le_of_ble_eq_true rfl, Nat.le_of_ble_eq_true rfl⟩ rfl hl.1 (Nat.le_of_ble_eq_true rfl) (ci := 5) (q := (RX5, TX5, 9)) rfl rfl (by rw [k_44]; decide) (cell_5 k_44) ⟨Nat.le_trans (by omega) hrc, Nat.le_trans (by omega) hrs⟩ dL_law_1256 (fun r1256 M1256 H locs h hw => ?_)
                                                  refine lv_aload_n hx hb dL_law_1259 rfl (lv_at hl 2 rfl) ?_
                                                  obtain ⟨k_45, h⟩ := h
                                                  refine cv_i (As := []) (rest := [.int r1256]) S.1 hw (k_X6_parse l E Z M1256 a2  _ h) wv_L_156 yc_X6_parse ⟨rfl, rfl⟩ ⟨Nat.le_of_ble_eq_true rfl, Nat.le_of_ble_eq_true rfl⟩ rfl hl.1 (Nat.le_of_ble_eq_true rfl) (ci := 6) (q := (RX6, TX6, 12)) rfl rfl (by rw [k_45]; decide) (cell_6 k_45) ⟨Nat.le_trans (by omega) hrc, Nat.le_trans (by omega) hrs⟩ dL_law_1260 (fun r1260 M1260 H locs h hw => ?_)
                                                  refine lv_icmp_eq (tgt := 1326) hx hb dL_law_1263 (by decide) (fun q_1263 => ?_) (fun q_1263 => ?_)
                                                  · have h := h.1 q_1263
                                                    refine W.widen (k := ce + 4) (n := sl + 24) (by omega) (by omega) ?_
                                                    exact ((wB_L_law_1326 S T hce hsl hK23 _ _ _ _ _ h)) H locs ls hw (lv_sub hl [0, 1, 2, 3, 4] rfl)
                                                  · have h := h.2 q_1263
                                                    refine lv_iconst (v := 0) hx hb dL_law_1266 (by decide) ?_
                                                    exact h.elim
                                                · have h := h.2 q_39_22
                                                  by_cases q_39_23 : ((xs v4.toNatClampNeg) &&& 31) = 23
                                                  · have h := h.1 q_39_23
                                                    refine lv_tableIn (tgt := 1268) hx hb dL_law_39 (by rw [q_39_23]; decide) (by rw [q_39_23]; decide) (by rw [q_39_23]; rfl) (by decide) ?_
                                                    refine lv_aload_n hx hb dL_law_1268 rfl (lv_at hl 1 rfl) ?_
                                                    refine lv_aload_n hx hb dL_law_1269 rfl (lv_at hl 3 rfl) ?_
                                                    refine csw_i (As := [.ref a1, .ref a3]) (rest := []) S.1 T.2.2.2.1 hw (k_L_undo l T.2.2.2.2.1 E Z M a1 a3 _ h) wv_L_157 yc_L_undo ⟨rfl, rfl⟩ ⟨Nat.le_of_ble_eq_true rfl, Nat.le_of_ble_eq_true rfl⟩ rfl hl.1 (Nat.le_of_ble_eq_true rfl) ⟨Nat.le_trans (by omega) hrc, Nat.le_trans (by omega) hrs⟩ dL_law_1270 (fun r1270 M1270 H locs h hw => ?_)
                                                    refine lv_istore (lv' := [(5, .int r1270), (0, .ref b), (1, .ref a1), (2, .ref a2), (3, .ref a3), (4, .int v4)]) hx hb dL_law_1273 hl (by decide) rfl (fun ls hl => ?_)
                                                    refine lv_aload_n hx hb dL_law_1275 rfl (lv_at hl 3 rfl) ?_
                                                    obtain ⟨k_46, h⟩ := h
                                                    refine cv_i (As := []) (rest := []) S.1 hw (k_X6_undo l E Z M1270 a2  _ h) wv_L_160 yc_X6_undo ⟨rfl, rfl⟩ ⟨Nat.le_of_ble_eq_true rfl, Nat.le_of_ble_eq_true rfl⟩ rfl hl.1 (Nat.le_of_ble_eq_true rfl) (ci := 6) (q := (RX6, TX6, 12)) rfl rfl (by rw [k_46]; decide) (cell_6 k_46) ⟨Nat.le_trans (by omega) hrc, Nat.le_trans (by omega) hrs⟩ dL_law_1276 (fun r1276 M1276 H locs h hw => ?_)
                                                    refine lv_istore (lv' := [(6, .int r1276), (5, .int r1270), (0, .ref b), (1, .ref a1), (2, .ref a2), (3, .ref a3), (4, .int v4)]) hx hb dL_law_1279 hl (by decide) rfl (fun ls hl => ?_)
                                                    refine lv_aload_n hx hb dL_law_1281 rfl (lv_at hl 4 rfl) ?_
                                                    refine cv_i (As := []) (rest := []) S.1 hw (k_X6_thrown l E Z M1276 a2  _ h) wv_L_77 yc_X6_thrown ⟨rfl, rfl⟩ ⟨Nat.le_of_ble_eq_true rfl, Nat.le_of_ble_eq_true rfl⟩ rfl hl.1 (Nat.le_of_ble_eq_true rfl) (ci := 6) (q := (RX6, TX6, 12)) rfl rfl (by rw [k_46]; decide) (cell_6 k_46) ⟨Nat.le_trans (by omega) hrc, Nat.le_trans (by omega) hrs⟩ dL_law_1282 (fun r1282 M1282 H locs h hw => ?_)
                                                    refine lv_iload hx hb dL_law_1285 (lv_at hl 1 rfl) ?_
                                                    refine lv_icmp_eq (tgt := 1292) hx hb dL_law_1287 (by decide) (fun q_1287 => ?_) (fun q_1287 => ?_)
                                                    · have h := h.1 q_1287
                                                      refine lv_iload hx hb dL_law_1292 (lv_at hl 1 rfl) ?_
                                                      refine lv_if_ne (tgt := 1309) hx hb dL_law_1294 (by decide) (fun q_1294 => ?_) (fun q_1294 => ?_)
                                                      · have h := h.1 q_1294
                                                        refine lv_goto (tgt := 1326) hx hb dL_law_1309 (by decide) ?_
                                                        refine W.widen (k := ce + 4) (n := sl + 24) (by omega) (by omega) ?_
                                                        exact ((wB_L_law_1326 S T hce hsl hK23 _ _ _ _ _ h)) H locs ls hw (lv_sub hl [2, 3, 4, 5, 6] rfl)
                                                      · have h := h.2 q_1294
                                                        refine lv_aload_n hx hb dL_law_1297 rfl (lv_at hl 5 rfl) ?_
                                                        refine lv_iconst (v := 0) hx hb dL_law_1298 (by decide) ?_
                                                        obtain ⟨k_47, h⟩ := h
                                                        obtain ⟨i_1299, h⟩ := h
                                                        refine wo_lald S.1 hw k_47 i_1299 dL_law_1299 ?_
                                                        refine lv_iload hx hb dL_law_1300 (lv_at hl 0 rfl) ?_
                                                        refine lv_i2l (v := r1276.toInt64) hx hb dL_law_1302 rfl ?_
                                                        refine W.lcmp hx hb dL_law_1303 ?_
                                                        refine lv_if_eq (tgt := 1309) hx hb dL_law_1304 (by decide) (fun q_1304 => ?_) (fun q_1304 => ?_)
                                                        · have h := h.1 q_1304
                                                          refine lv_goto (tgt := 1326) hx hb dL_law_1309 (by decide) ?_
                                                          refine W.widen (k := ce + 4) (n := sl + 24) (by omega) (by omega) ?_
                                                          exact ((wB_L_law_1326 S T hce hsl hK23 _ _ _ _ _ h)) H locs ls hw (lv_sub hl [2, 3, 4, 5, 6] rfl)
                                                        · have h := h.2 q_1304
                                                          refine lv_iconst (v := 0) hx hb dL_law_1307 (by decide) ?_
                                                          exact h.elim
                                                    · have h := h.2 q_1287
                                                      refine lv_iconst (v := 0) hx hb dL_law_1290 (by decide) ?_
                                                      exact h.elim
                                                  · have h := h.2 q_39_23
                                                    by_cases q_39_24 : ((xs v4.toNatClampNeg) &&& 31) = 24
                                                    · have h := h.1 q_39_24
                                                      refine lv_tableIn (tgt := 1312) hx hb dL_law_39 (by rw [q_39_24]; decide) (by rw [q_39_24]; decide) (by rw [q_39_24]; rfl) (by decide) ?_
                                                      refine lv_aload_n hx hb dL_law_1312 rfl (lv_at hl 1 rfl) ?_
                                                      obtain ⟨k_48, h⟩ := h
                                                      refine cv_l (As := []) (rest := []) S.1 hw (k_X5_digest l E Z M a1  _ h) wv_L_161 yc_X5_digest ⟨rfl, rfl⟩ ⟨Nat.le_of_ble_eq_true rfl, Nat.le_of_ble_eq_true rfl⟩ rfl hl.1 (Nat.le_of_ble_eq_true rfl) (ci := 5) (q := (RX5, TX5, 9)) rfl rfl (by rw [k_48]; decide) (cell_5 k_48) ⟨Nat.le_trans (by omega) hrc, Nat.le_trans (by omega) hrs⟩ dL_law_1313 (fun r1313 M1313 H locs h hw => ?_)
                                                      refine lv_aload_n hx hb dL_law_1316 rfl (lv_at hl 2 rfl) ?_
                                                      obtain ⟨k_49, h⟩ := h
                                                      refine cv_l (As := []) (rest := [.long r1313]) S.1 hw (k_X6_digest l E Z M1313 a2  _ h) wv_L_165 yc_X6_digest ⟨rfl, rfl⟩ ⟨Nat.le_of_ble_eq_true rfl, Nat.le_of_ble_eq_true rfl⟩ rfl hl.1 (Nat.le_of_ble_eq_true rfl) (ci := 6) (q := (RX6, TX6, 12)) rfl rfl (by rw [k_49]; decide) (cell_6 k_49) ⟨Nat.le_trans (by omega) hrc, Nat.le_trans (by omega) hrs⟩ dL_law_1317 (fun r1317 M1317 H locs h hw => ?_)
                                                      refine W.lcmp hx hb dL_law_1320 ?_
                                                      refine lv_if_eq (tgt := 1326) hx hb dL_law_1321 (by decide) (fun q_1321 => ?_) (fun q_1321 => ?_)
                                                      · have h := h.1 q_1321
                                                        refine W.widen (k := ce + 4) (n := sl + 24) (by omega) (by omega) ?_
                                                        exact ((wB_L_law_1326 S T hce hsl hK23 _ _ _ _ _ h)) H locs ls hw (lv_sub hl [0, 1, 2, 3, 4] rfl)
                                                      · have h := h.2 q_1321
                                                        refine lv_iconst (v := 0) hx hb dL_law_1324 (by decide) ?_
                                                        exact h.elim
                                                    · have h := h.2 q_39_24
                                                      have t_0 := lv_neT q_39_0 (a := 0) rfl
                                                      have t_1 := lv_neT q_39_1 (a := 1) rfl
                                                      have t_2 := lv_neT q_39_2 (a := 2) rfl
                                                      have t_3 := lv_neT q_39_3 (a := 3) rfl
                                                      have t_4 := lv_neT q_39_4 (a := 4) rfl
                                                      have t_5 := lv_neT q_39_5 (a := 5) rfl
                                                      have t_6 := lv_neT q_39_6 (a := 6) rfl
                                                      have t_7 := lv_neT q_39_7 (a := 7) rfl
                                                      have t_8 := lv_neT q_39_8 (a := 8) rfl
                                                      have t_9 := lv_neT q_39_9 (a := 9) rfl
                                                      have t_10 := lv_neT q_39_10 (a := 10) rfl
                                                      have t_11 := lv_neT q_39_11 (a := 11) rfl
                                                      have t_12 := lv_neT q_39_12 (a := 12) rfl
                                                      have t_13 := lv_neT q_39_13 (a := 13) rfl
                                                      have t_14 := lv_neT q_39_14 (a := 14) rfl
                                                      have t_15 := lv_neT q_39_15 (a := 15) rfl
                                                      have t_16 := lv_neT q_39_16 (a := 16) rfl
                                                      have t_17 := lv_neT q_39_17 (a := 17) rfl
                                                      have t_18 := lv_neT q_39_18 (a := 18) rfl
                                                      have t_19 := lv_neT q_39_19 (a := 19) rfl
                                                      have t_20 := lv_neT q_39_20 (a := 20) rfl
                                                      have t_21 := lv_neT q_39_21 (a := 21) rfl
                                                      have t_22 := lv_neT q_39_22 (a := 22) rfl
                                                      have t_23 := lv_neT q_39_23 (a := 23) rfl
                                                      have t_24 := lv_neT q_39_24 (a := 24) rfl
                                                      refine lv_tableOut (tgt := 1326) hx hb dL_law_39 (by omega) (by decide) ?_
                                                      refine W.widen (k := ce + 4) (n := sl + 24) (by omega) (by omega) ?_
                                                      exact ((wB_L_law_1326 S T hce hsl hK23 _ _ _ _ _ h)) H locs ls hw (lv_sub hl [0, 1, 2, 3, 4] rfl)
theorem wL_L_law_23 {b L : Nat} {xs : Nat → Int32} (S : Cx p m c meth cL_law 9 s #[Value.ref b] RL (some .boolean)) (T : Lx l s b L xs Z) : ∀ (n ce sl : Nat) (hce : ce + 4 * n ≤ 601024) (hsl : sl + 24 * n ≤ 7293034) (M : MM) (a1 : Nat) (a2 : Nat) (a3 : Nat) (v4 : Int32), L_L_law_23 Z L xs n M a1 a2 a3 v4 → WG p l e room_1 s m #[Value.ref b] below meth c ce sl (lw_Z below #[Value.ref b] s) E Z M 23 9 [(0, .ref b), (1, .ref a1), (2, .ref a2), (3, .ref a3), (4, .int v4)] []
  | 0, _, _, _, _, _, _, _, _, _, h => False.elim h
  | n + 1, ce, sl, hce, hsl, M, a1, a2, a3, v4, h => wB_L_law_23 S T (by omega) (by omega) (fun M a1 a2 a3 v4 h => wL_L_law_23 S T n (ce + 4) (sl + 24) (by omega) (by omega) M a1 a2 a3 v4 h) M a1 a2 a3 v4 h
