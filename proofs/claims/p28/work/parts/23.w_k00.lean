theorem sr_0_0 (E : EE) (Z : ZZ) (M : MM) (a y : Nat) (h : zK Z a = 0) : va_up (cellOf E Z M) a (.inr (0, [.ref y, va_rf (zR Z 1 a), va_rf (zR Z 2 a)])) = cellOf E (setR Z 0 a (some y)) M := by
  funext b
  by_cases hb : b = a
  · subst hb
    rw [va_up_self, cell_0 (by exact h)]
    simp [setR_at, va_rf, zR]
  · rw [va_up_ne _ _ hb, cell_setR E Z M 0 a _ hb]
theorem sr_0_1 (E : EE) (Z : ZZ) (M : MM) (a y : Nat) (h : zK Z a = 0) : va_up (cellOf E Z M) a (.inr (0, [va_rf (zR Z 0 a), .ref y, va_rf (zR Z 2 a)])) = cellOf E (setR Z 1 a (some y)) M := by
  funext b
  by_cases hb : b = a
  · subst hb
    rw [va_up_self, cell_0 (by exact h)]
    simp [setR_at, va_rf, zR]
  · rw [va_up_ne _ _ hb, cell_setR E Z M 1 a _ hb]
theorem sr_0_2 (E : EE) (Z : ZZ) (M : MM) (a y : Nat) (h : zK Z a = 0) : va_up (cellOf E Z M) a (.inr (0, [va_rf (zR Z 0 a), va_rf (zR Z 1 a), .ref y])) = cellOf E (setR Z 2 a (some y)) M := by
  funext b
  by_cases hb : b = a
  · subst hb
    rw [va_up_self, cell_0 (by exact h)]
    simp [setR_at, va_rf, zR]
  · rw [va_up_ne _ _ hb, cell_setR E Z M 2 a _ hb]
theorem sr_1_8 (E : EE) (Z : ZZ) (M : MM) (a y : Nat) (h : zK Z a = 1) : va_up (cellOf E Z M) a (.inr (1, [.int (mI M 0 a), .int (mI M 1 a), .int (mI M 2 a), .int (mI M 3 a), .int (mI M 4 a), .int (mI M 5 a), .int (mI M 6 a), .int (mI M 7 a), .ref y, va_rf (zR Z 4 a), va_rf (zR Z 5 a), va_rf (zR Z 6 a)])) = cellOf E (setR Z 3 a (some y)) M := by
  funext b
  by_cases hb : b = a
  · subst hb
    rw [va_up_self, cell_1 (by exact h)]
    simp [setR_at, va_rf, zR]
  · rw [va_up_ne _ _ hb, cell_setR E Z M 3 a _ hb]
theorem sr_1_9 (E : EE) (Z : ZZ) (M : MM) (a y : Nat) (h : zK Z a = 1) : va_up (cellOf E Z M) a (.inr (1, [.int (mI M 0 a), .int (mI M 1 a), .int (mI M 2 a), .int (mI M 3 a), .int (mI M 4 a), .int (mI M 5 a), .int (mI M 6 a), .int (mI M 7 a), va_rf (zR Z 3 a), .ref y, va_rf (zR Z 5 a), va_rf (zR Z 6 a)])) = cellOf E (setR Z 4 a (some y)) M := by
  funext b
  by_cases hb : b = a
  · subst hb
    rw [va_up_self, cell_1 (by exact h)]
    simp [setR_at, va_rf, zR]
  · rw [va_up_ne _ _ hb, cell_setR E Z M 4 a _ hb]
theorem sr_1_10 (E : EE) (Z : ZZ) (M : MM) (a y : Nat) (h : zK Z a = 1) : va_up (cellOf E Z M) a (.inr (1, [.int (mI M 0 a), .int (mI M 1 a), .int (mI M 2 a), .int (mI M 3 a), .int (mI M 4 a), .int (mI M 5 a), .int (mI M 6 a), .int (mI M 7 a), va_rf (zR Z 3 a), va_rf (zR Z 4 a), .ref y, va_rf (zR Z 6 a)])) = cellOf E (setR Z 5 a (some y)) M := by
  funext b
  by_cases hb : b = a
  · subst hb
    rw [va_up_self, cell_1 (by exact h)]
    simp [setR_at, va_rf, zR]
  · rw [va_up_ne _ _ hb, cell_setR E Z M 5 a _ hb]
theorem sr_1_11 (E : EE) (Z : ZZ) (M : MM) (a y : Nat) (h : zK Z a = 1) : va_up (cellOf E Z M) a (.inr (1, [.int (mI M 0 a), .int (mI M 1 a), .int (mI M 2 a), .int (mI M 3 a), .int (mI M 4 a), .int (mI M 5 a), .int (mI M 6 a), .int (mI M 7 a), va_rf (zR Z 3 a), va_rf (zR Z 4 a), va_rf (zR Z 5 a), .ref y])) = cellOf E (setR Z 6 a (some y)) M := by
  funext b
  by_cases hb : b = a
  · subst hb
    rw [va_up_self, cell_1 (by exact h)]
    simp [setR_at, va_rf, zR]
  · rw [va_up_ne _ _ hb, cell_setR E Z M 6 a _ hb]
theorem sr_2_0 (E : EE) (Z : ZZ) (M : MM) (a y : Nat) (h : zK Z a = 2) : va_up (cellOf E Z M) a (.inr (2, [.ref y])) = cellOf E (setR Z 7 a (some y)) M := by
  funext b
  by_cases hb : b = a
  · subst hb
    rw [va_up_self, cell_2 (by exact h)]
    simp [setR_at, va_rf, zR]
  · rw [va_up_ne _ _ hb, cell_setR E Z M 7 a _ hb]
theorem sr_3_0 (E : EE) (Z : ZZ) (M : MM) (a y : Nat) (h : zK Z a = 3) : va_up (cellOf E Z M) a (.inr (3, [.ref y, .int (mI M 8 a), .int (mI M 9 a), .int (mI M 10 a)])) = cellOf E (setR Z 8 a (some y)) M := by
  funext b
  by_cases hb : b = a
  · subst hb
    rw [va_up_self, cell_3 (by exact h)]
    simp [setR_at, va_rf, zR]
  · rw [va_up_ne _ _ hb, cell_setR E Z M 8 a _ hb]
theorem sr_4_0 (E : EE) (Z : ZZ) (M : MM) (a y : Nat) (h : zK Z a = 4) : va_up (cellOf E Z M) a (.inr (4, [.ref y, va_rf (zR Z 10 a), .int (mI M 11 a), va_rf (zR Z 11 a), va_rf (zR Z 12 a)])) = cellOf E (setR Z 9 a (some y)) M := by
  funext b
  by_cases hb : b = a
  · subst hb
    rw [va_up_self, cell_4 (by exact h)]
    simp [setR_at, va_rf, zR]
  · rw [va_up_ne _ _ hb, cell_setR E Z M 9 a _ hb]
theorem sr_4_1 (E : EE) (Z : ZZ) (M : MM) (a y : Nat) (h : zK Z a = 4) : va_up (cellOf E Z M) a (.inr (4, [va_rf (zR Z 9 a), .ref y, .int (mI M 11 a), va_rf (zR Z 11 a), va_rf (zR Z 12 a)])) = cellOf E (setR Z 10 a (some y)) M := by
  funext b
  by_cases hb : b = a
  · subst hb
    rw [va_up_self, cell_4 (by exact h)]
    simp [setR_at, va_rf, zR]
  · rw [va_up_ne _ _ hb, cell_setR E Z M 10 a _ hb]
theorem sr_4_3 (E : EE) (Z : ZZ) (M : MM) (a y : Nat) (h : zK Z a = 4) : va_up (cellOf E Z M) a (.inr (4, [va_rf (zR Z 9 a), va_rf (zR Z 10 a), .int (mI M 11 a), .ref y, va_rf (zR Z 12 a)])) = cellOf E (setR Z 11 a (some y)) M := by
  funext b
  by_cases hb : b = a
  · subst hb
    rw [va_up_self, cell_4 (by exact h)]
    simp [setR_at, va_rf, zR]
  · rw [va_up_ne _ _ hb, cell_setR E Z M 11 a _ hb]
theorem sr_4_4 (E : EE) (Z : ZZ) (M : MM) (a y : Nat) (h : zK Z a = 4) : va_up (cellOf E Z M) a (.inr (4, [va_rf (zR Z 9 a), va_rf (zR Z 10 a), .int (mI M 11 a), va_rf (zR Z 11 a), .ref y])) = cellOf E (setR Z 12 a (some y)) M := by
  funext b
  by_cases hb : b = a
  · subst hb
    rw [va_up_self, cell_4 (by exact h)]
    simp [setR_at, va_rf, zR]
  · rw [va_up_ne _ _ hb, cell_setR E Z M 12 a _ hb]
theorem sr_5_0 (E : EE) (Z : ZZ) (M : MM) (a y : Nat) (h : zK Z a = 5) : va_up (cellOf E Z M) a (.inr (5, [.ref y, va_rf (zR Z 14 a), va_rf (zR Z 15 a), .int (mI M 12 a), .int (mI M 13 a), va_rf (zR Z 16 a), va_rf (zR Z 17 a), va_rf (zR Z 18 a), va_rf (zR Z 19 a)])) = cellOf E (setR Z 13 a (some y)) M := by
  funext b
  by_cases hb : b = a
  · subst hb
    rw [va_up_self, cell_5 (by exact h)]
    simp [setR_at, va_rf, zR]
  · rw [va_up_ne _ _ hb, cell_setR E Z M 13 a _ hb]
theorem sr_5_1 (E : EE) (Z : ZZ) (M : MM) (a y : Nat) (h : zK Z a = 5) : va_up (cellOf E Z M) a (.inr (5, [va_rf (zR Z 13 a), .ref y, va_rf (zR Z 15 a), .int (mI M 12 a), .int (mI M 13 a), va_rf (zR Z 16 a), va_rf (zR Z 17 a), va_rf (zR Z 18 a), va_rf (zR Z 19 a)])) = cellOf E (setR Z 14 a (some y)) M := by
  funext b
  by_cases hb : b = a
  · subst hb
    rw [va_up_self, cell_5 (by exact h)]
    simp [setR_at, va_rf, zR]
  · rw [va_up_ne _ _ hb, cell_setR E Z M 14 a _ hb]
theorem sr_5_2 (E : EE) (Z : ZZ) (M : MM) (a y : Nat) (h : zK Z a = 5) : va_up (cellOf E Z M) a (.inr (5, [va_rf (zR Z 13 a), va_rf (zR Z 14 a), .ref y, .int (mI M 12 a), .int (mI M 13 a), va_rf (zR Z 16 a), va_rf (zR Z 17 a), va_rf (zR Z 18 a), va_rf (zR Z 19 a)])) = cellOf E (setR Z 15 a (some y)) M := by
  funext b
  by_cases hb : b = a
  · subst hb
    rw [va_up_self, cell_5 (by exact h)]
    simp [setR_at, va_rf, zR]
  · rw [va_up_ne _ _ hb, cell_setR E Z M 15 a _ hb]
theorem sr_5_5 (E : EE) (Z : ZZ) (M : MM) (a y : Nat) (h : zK Z a = 5) : va_up (cellOf E Z M) a (.inr (5, [va_rf (zR Z 13 a), va_rf (zR Z 14 a), va_rf (zR Z 15 a), .int (mI M 12 a), .int (mI M 13 a), .ref y, va_rf (zR Z 17 a), va_rf (zR Z 18 a), va_rf (zR Z 19 a)])) = cellOf E (setR Z 16 a (some y)) M := by
  funext b
  by_cases hb : b = a
  · subst hb
    rw [va_up_self, cell_5 (by exact h)]
    simp [setR_at, va_rf, zR]
  · rw [va_up_ne _ _ hb, cell_setR E Z M 16 a _ hb]
theorem sr_5_6 (E : EE) (Z : ZZ) (M : MM) (a y : Nat) (h : zK Z a = 5) : va_up (cellOf E Z M) a (.inr (5, [va_rf (zR Z 13 a), va_rf (zR Z 14 a), va_rf (zR Z 15 a), .int (mI M 12 a), .int (mI M 13 a), va_rf (zR Z 16 a), .ref y, va_rf (zR Z 18 a), va_rf (zR Z 19 a)])) = cellOf E (setR Z 17 a (some y)) M := by
  funext b
  by_cases hb : b = a
  · subst hb
    rw [va_up_self, cell_5 (by exact h)]
    simp [setR_at, va_rf, zR]
  · rw [va_up_ne _ _ hb, cell_setR E Z M 17 a _ hb]
theorem sr_5_7 (E : EE) (Z : ZZ) (M : MM) (a y : Nat) (h : zK Z a = 5) : va_up (cellOf E Z M) a (.inr (5, [va_rf (zR Z 13 a), va_rf (zR Z 14 a), va_rf (zR Z 15 a), .int (mI M 12 a), .int (mI M 13 a), va_rf (zR Z 16 a), va_rf (zR Z 17 a), .ref y, va_rf (zR Z 19 a)])) = cellOf E (setR Z 18 a (some y)) M := by
  funext b
  by_cases hb : b = a
  · subst hb
    rw [va_up_self, cell_5 (by exact h)]
    simp [setR_at, va_rf, zR]
  · rw [va_up_ne _ _ hb, cell_setR E Z M 18 a _ hb]
theorem sr_5_8 (E : EE) (Z : ZZ) (M : MM) (a y : Nat) (h : zK Z a = 5) : va_up (cellOf E Z M) a (.inr (5, [va_rf (zR Z 13 a), va_rf (zR Z 14 a), va_rf (zR Z 15 a), .int (mI M 12 a), .int (mI M 13 a), va_rf (zR Z 16 a), va_rf (zR Z 17 a), va_rf (zR Z 18 a), .ref y])) = cellOf E (setR Z 19 a (some y)) M := by
  funext b
  by_cases hb : b = a
  · subst hb
    rw [va_up_self, cell_5 (by exact h)]
    simp [setR_at, va_rf, zR]
  · rw [va_up_ne _ _ hb, cell_setR E Z M 19 a _ hb]
theorem zf_X0 : ∀ j, j < 3 → defaultValue (tyX0 j) = vp_V [.null, .null, .null] j := fun j hj => by
  rcases (show j = 0 ∨ j = 1 ∨ j = 2 by omega) with rfl | rfl | rfl <;> rfl
theorem zf_X1 : ∀ j, j < 12 → defaultValue (tyX1 j) = vp_V [.int 0, .int 0, .int 0, .int 0, .int 0, .int 0, .int 0, .int 0, .null, .null, .null, .null] j := fun j hj => by
  rcases (show j = 0 ∨ j = 1 ∨ j = 2 ∨ j = 3 ∨ j = 4 ∨ j = 5 ∨ j = 6 ∨ j = 7 ∨ j = 8 ∨ j = 9 ∨ j = 10 ∨ j = 11 by omega) with rfl | rfl | rfl | rfl | rfl | rfl | rfl | rfl | rfl | rfl | rfl | rfl <;> rfl
theorem zf_X2 : ∀ j, j < 1 → defaultValue (tyX2 j) = vp_V [.null] j := fun j hj => by
  rcases (show j = 0 by omega) with rfl <;> rfl
theorem zf_X3 : ∀ j, j < 4 → defaultValue (tyX3 j) = vp_V [.null, .int 0, .int 0, .int 0] j := fun j hj => by
  rcases (show j = 0 ∨ j = 1 ∨ j = 2 ∨ j = 3 by omega) with rfl | rfl | rfl | rfl <;> rfl
theorem zf_X4 : ∀ j, j < 5 → defaultValue (tyX4 j) = vp_V [.null, .null, .int 0, .null, .null] j := fun j hj => by
  rcases (show j = 0 ∨ j = 1 ∨ j = 2 ∨ j = 3 ∨ j = 4 by omega) with rfl | rfl | rfl | rfl | rfl <;> rfl
theorem zf_X5 : ∀ j, j < 9 → defaultValue (tyX5 j) = vp_V [.null, .null, .null, .int 0, .int 0, .null, .null, .null, .null] j := fun j hj => by
  rcases (show j = 0 ∨ j = 1 ∨ j = 2 ∨ j = 3 ∨ j = 4 ∨ j = 5 ∨ j = 6 ∨ j = 7 ∨ j = 8 by omega) with rfl | rfl | rfl | rfl | rfl | rfl | rfl | rfl | rfl <;> rfl
set_option maxRecDepth 100000 in
set_option maxHeartbeats 4000000 in
theorem k_X2_init (l : Launch) (E : EE) (sz : Nat) (Z : ZZ) (M : MM) (a0 : Nat) (v1 : Int32) (Q : Nat → ZZ → MM → Prop) (N : Nat) (hN : v1.toNatClampNeg = N) (h : P_X2_init sz Z M a0 v1 Q) : Ck_v l yX2_init cX2_init 2 none { frames := 1, cells := 1, slots := N, locals := 20 } E Z M sz [.ref a0, .int v1] Q 1 N := by
  refine Met.ofW (cc := cX2_init) (maxL := 2) (ret := none) (by decide) rfl ?_
  intro p e s m args below meth c s₁ B hml hv
  obtain ⟨rfl, hV⟩ := hv
  have S : Cx p m c meth cX2_init 2 s _ RX2 (none) := ⟨⟨B.exec, B.bytes, hml, findClass_of_methodNamed B.named, fun w hw => atoms_spec (ws := ws_ yX2_init cX2_init 2 none) B.pre w (List.mem_cons_of_mem _ hw)⟩, B.returns, B.notSynchronized⟩
  have hin2 : meth.name = "<init>" := (name_of_methodNamed B.named B.method).1
  have hl := lv_entry ([.ref a0, .int v1]) (n := 2) (Nat.le_of_ble_eq_true rfl)
  rw [lg_entry_eq]
  generalize (lg_sl ([.ref a0, .int v1]) ++ List.replicate (2 - (lg_sl ([.ref a0, .int v1])).length) Slot.unset).toArray = ls at hl ⊢
  have hl : lv_has ls 2 [(0, .ref a0), (1, .int v1)] := hl
  have hw := wq_start hV
  have hx := S.1.1
  have hb := S.1.2.1
  have hown := S.1.2.2.2.1
  have hts := S.1.2.2.2.2
  obtain ⟨h0, h1, h2, h⟩ := h
  subst hN
  have h2' : zK (addA Z sz 7 v1.toNatClampNeg) a0 < 10 := by rw [h2]; decide
  refine lv_aload_n hx hb dX2_init_0 rfl (lv_at hl 0 rfl) ?_
  refine W.objInit hx hb hown (hts _ wl_X2_1) (hts _ wi_obj) (hts _ wc_obj) rfl (by rw [S.1.2.2.1]; exact hl.1) rfl dX2_init_1 (Nat.le_of_ble_eq_true rfl) (Nat.le_of_ble_eq_true rfl) ?_
  refine W.eq (g2 := F0 m 4 ls []) rfl ?_
  refine lv_aload_n hx hb dX2_init_4 rfl (lv_at hl 0 rfl) ?_
  refine lv_iload_n hx hb dX2_init_5 rfl (lv_at hl 1 rfl) ?_
  refine lv_if_ge (tgt := 13) hx hb dX2_init_6 (by decide) (fun q => ?_) (fun q => absurd h0 q)
  refine lv_iload_n hx hb dX2_init_13 rfl (lv_at hl 1 rfl) ?_
  refine wq_newi (N := v1.toNatClampNeg) S.1 hw wa_int (Int32.not_lt.mpr h0) rfl (by show v1.toNatClampNeg * 4 ≤ 536870912; omega) (Nat.le_refl _) (by show 0 + v1.toNatClampNeg ≤ v1.toNatClampNeg; omega) dX2_init_14 (fun H hw => ?_)
  refine wq_putF S.1 hw (C := RX2) (T := TX2) (N := 1) (ci := 2) rfl wu_X2 tyX2 tyX2_ok nmX2 0 (by decide) wf_X2_7 rfl rfl hin2 rfl (ty := tyX2 0) (by decide +kernel) rfl rfl h2' (cell_2 h2) (Nat.le_of_ble_eq_true rfl) (r := 7) (sr_2_0 E _ _ _ _ h2) dX2_init_16 (fun H locs hw => ?_)
  refine W.widen (k := 1) (n := v1.toNatClampNeg) (by omega) (by omega) ?_
  exact we_k S hw h dX2_init_19
variable {p : Program} {l : Launch} {e : Env} {s : State} {m : MethodId} {args : Array Value} {below : List Frame} {meth : Method} {c : Code} {E : EE} {Z : ZZ}
variable {A : Nat → Prop}
set_option maxRecDepth 100000 in
set_option maxHeartbeats 4000000 in
theorem wB_X3_init_0 (S : Cx p m c meth cX3_init 1 s args RX3 (none)) (hin2 : meth.name = "<init>") {Q : Nat → ZZ → MM → Prop} (sz : Nat) (Z : ZZ) (M : MM) (a0 : Nat) (h : P_X3_init sz Z M a0 Q) : WK p l e rm_X3_init s m args below meth c 0 0 (MQ below (va_Qv (fun u : Nat × ZZ × MM => Q u.1 u.2.1 u.2.2) (fun u t => wV E u.2.1 u.2.2 u.1 A t) A) args s 2 61 A) E A Z M sz 0 1 [(0, .ref a0)] [] := by
  intro H locs ls hw hl
  have hx := S.1.1
  have hb := S.1.2.1
  have hown := S.1.2.2.2.1
  have hts := S.1.2.2.2.2
  refine lv_aload_n hx hb dX3_init_0 rfl (lv_at hl 0 rfl) ?_
  refine W.objInit hx hb hown (hts _ wl_X3_3) (hts _ wi_obj) (hts _ wc_obj) rfl (by rw [S.1.2.2.1]; exact hl.1) rfl dX3_init_1 (Nat.le_of_ble_eq_true rfl) (Nat.le_of_ble_eq_true rfl) ?_
  refine W.eq (g2 := F0 m 4 ls []) rfl ?_
  refine lv_aload_n hx hb dX3_init_4 rfl (lv_at hl 0 rfl) ?_
  refine wq_new (ci := 2) (fs := [.null]) (C := RX2) (T := TX2) (N := 1) S.1 hw rfl wu_X2 tyX2 tyX2_ok wk_X3_9 wm_X2 wn_X2 (zf_X2) (by rw [cell_2 (by simp [addO, va_up, zK])]; simp [addO, zeroI, va_rf, zR, mI]) (Nat.le_of_ble_eq_true rfl) (Nat.le_of_ble_eq_true rfl) dX3_init_5 (fun H hw => ?_)
  refine lv_dup hx hb dX3_init_8 rfl ?_
  refine lv_bipush (v := 60) hx hb dX3_init_9 (by decide) ?_
  refine ck_v (mc0 := 1) (ms0 := 60) (As := [.int 60]) (rest := [.ref sz, .ref a0]) S.1 hw (k_X2_init l E (sz + 1) (addO Z sz 2) (zeroI M sz) sz 60 _ 60 (by decide) h) wl_X3_11 wi_X2_init wn_X2 wc_X2_init yc_X2_init rfl ⟨rfl, rfl⟩ ⟨Nat.le_of_ble_eq_true rfl, Nat.le_of_ble_eq_true rfl⟩ rfl hl.1 (Nat.le_of_ble_eq_true rfl) ⟨(Nat.le_of_ble_eq_true rfl), (Nat.le_of_ble_eq_true rfl)⟩ dX3_init_11 (fun s11 Z11 M11 H locs h hw => ?_)
  obtain ⟨k1, h⟩ := h
  refine wq_putF S.1 hw (C := RX3) (T := TX3) (N := 4) (ci := 3) rfl wu_X3 tyX3 tyX3_ok nmX3 0 (by decide) wf_X3_14 rfl rfl hin2 rfl (ty := tyX3 0) (by decide +kernel) rfl rfl (by rw [k1]; decide) (cell_3 k1) (Nat.le_of_ble_eq_true rfl) (r := 8) (sr_3_0 E _ _ _ _ k1) dX3_init_14 (fun H locs hw => ?_)
  refine lv_aload_n hx hb dX3_init_17 rfl (lv_at hl 0 rfl) ?_
  refine lv_iconst (v := 0) hx hb dX3_init_18 (by decide) ?_
  obtain ⟨k2, h⟩ := h
  refine wq_put S.1 hw (C := RX3) (T := TX3) (N := 4) (ci := 3) rfl wu_X3 tyX3 tyX3_ok nmX3 1 (by decide) wf_X3_20 rfl rfl rfl (by rw [k2]; decide) (cell_3 k2) (Nat.le_of_ble_eq_true rfl) (st_3_1 E _ _ _ _ k2) dX3_init_19 (fun H locs hw => ?_)
  refine lv_aload_n hx hb dX3_init_22 rfl (lv_at hl 0 rfl) ?_
  refine lv_iconst (v := 0) hx hb dX3_init_23 (by decide) ?_
  obtain ⟨k3, h⟩ := h
  refine wq_put S.1 hw (C := RX3) (T := TX3) (N := 4) (ci := 3) rfl wu_X3 tyX3 tyX3_ok nmX3 2 (by decide) wf_X3_24 rfl rfl rfl (by rw [k3]; decide) (cell_3 k3) (Nat.le_of_ble_eq_true rfl) (st_3_2 E _ _ _ _ k3) dX3_init_24 (fun H locs hw => ?_)
  refine lv_aload_n hx hb dX3_init_27 rfl (lv_at hl 0 rfl) ?_
  refine lv_iconst (v := 0) hx hb dX3_init_28 (by decide) ?_
  obtain ⟨k4, h⟩ := h
  refine wq_put S.1 hw (C := RX3) (T := TX3) (N := 4) (ci := 3) rfl wu_X3 tyX3 tyX3_ok nmX3 3 (by decide) wf_X3_27 rfl rfl rfl (by rw [k4]; decide) (cell_3 k4) (Nat.le_of_ble_eq_true rfl) (st_3_3 E _ _ _ _ k4) dX3_init_29 (fun H locs hw => ?_)
  refine W.widen (k := 2) (n := 61) (by omega) (by omega) ?_
  exact we_k S hw h dX3_init_32
set_option maxRecDepth 100000 in
set_option maxHeartbeats 4000000 in
theorem k_X3_init (l : Launch) (E : EE) (sz : Nat) (Z : ZZ) (M : MM) (a0 : Nat) (Q : Nat → ZZ → MM → Prop) (h : P_X3_init sz Z M a0 Q) : Ck_v l yX3_init cX3_init 1 none rm_X3_init E Z M sz [.ref a0] Q 2 61 := by
  refine Met.ofW (cc := cX3_init) (maxL := 1) (ret := none) (by decide) rfl ?_
  intro p e s m args below meth c s₁ B hml hv
  obtain ⟨rfl, hV⟩ := hv
  have S : Cx p m c meth cX3_init 1 s _ RX3 (none) := ⟨⟨B.exec, B.bytes, hml, findClass_of_methodNamed B.named, fun w hw => atoms_spec (ws := ws_ yX3_init cX3_init 1 none) B.pre w (List.mem_cons_of_mem _ hw)⟩, B.returns, B.notSynchronized⟩
  have hin2 : meth.name = "<init>" := (name_of_methodNamed B.named B.method).1
  have hl := lv_entry ([.ref a0]) (n := 1) (Nat.le_of_ble_eq_true rfl)
  rw [lg_entry_eq]
  generalize (lg_sl ([.ref a0]) ++ List.replicate (1 - (lg_sl ([.ref a0])).length) Slot.unset).toArray = ls at hl ⊢
  exact (wB_X3_init_0 (A := aA Z sz) S hin2  sz Z M a0 h) s.heap [] ls (wq_start hV) hl
set_option maxRecDepth 100000 in
set_option maxHeartbeats 4000000 in
theorem wB_X0_init_0 (S : Cx p m c meth cX0_init 1 s args RX0 (none)) (hin2 : meth.name = "<init>") {Q : Nat → ZZ → MM → Prop} (sz : Nat) (Z : ZZ) (M : MM) (a0 : Nat) (h : P_X0_init sz Z M a0 Q) : WK p l e rm_X0_init s m args below meth c 0 0 (MQ below (va_Qv (fun u : Nat × ZZ × MM => Q u.1 u.2.1 u.2.2) (fun u t => wV E u.2.1 u.2.2 u.1 A t) A) args s 6 150 A) E A Z M sz 0 1 [(0, .ref a0)] [] := by
  intro H locs ls hw hl
  have hx := S.1.1
  have hb := S.1.2.1
  have hown := S.1.2.2.2.1
  have hts := S.1.2.2.2.2
  refine lv_aload_n hx hb dX0_init_0 rfl (lv_at hl 0 rfl) ?_
  refine W.objInit hx hb hown (hts _ wl_X0_3) (hts _ wi_obj) (hts _ wc_obj) rfl (by rw [S.1.2.2.1]; exact hl.1) rfl dX0_init_1 (Nat.le_of_ble_eq_true rfl) (Nat.le_of_ble_eq_true rfl) ?_
  refine W.eq (g2 := F0 m 4 ls []) rfl ?_
  refine lv_aload_n hx hb dX0_init_4 rfl (lv_at hl 0 rfl) ?_
  refine wq_new (ci := 2) (fs := [.null]) (C := RX2) (T := TX2) (N := 1) S.1 hw rfl wu_X2 tyX2 tyX2_ok wk_X0_9 wm_X2 wn_X2 (zf_X2) (by rw [cell_2 (by simp [addO, va_up, zK])]; simp [addO, zeroI, va_rf, zR, mI]) (Nat.le_of_ble_eq_true rfl) (Nat.le_of_ble_eq_true rfl) dX0_init_5 (fun H hw => ?_)
  refine lv_dup hx hb dX0_init_8 rfl ?_
  refine lv_bipush (v := 49) hx hb dX0_init_9 (by decide) ?_
  refine ck_v (mc0 := 1) (ms0 := 49) (As := [.int 49]) (rest := [.ref sz, .ref a0]) S.1 hw (k_X2_init l E (sz + 1) (addO Z sz 2) (zeroI M sz) sz 49 _ 49 (by decide) h) wl_X0_11 wi_X2_init wn_X2 wc_X2_init yc_X2_init rfl ⟨rfl, rfl⟩ ⟨Nat.le_of_ble_eq_true rfl, Nat.le_of_ble_eq_true rfl⟩ rfl hl.1 (Nat.le_of_ble_eq_true rfl) ⟨(Nat.le_of_ble_eq_true rfl), (Nat.le_of_ble_eq_true rfl)⟩ dX0_init_11 (fun s11 Z11 M11 H locs h hw => ?_)
  obtain ⟨k1, h⟩ := h
  refine wq_putF S.1 hw (C := RX0) (T := TX0) (N := 3) (ci := 0) rfl wu_X0 tyX0 tyX0_ok nmX0 0 (by decide) wf_X0_14 rfl rfl hin2 rfl (ty := tyX0 0) (by decide +kernel) rfl rfl (by rw [k1]; decide) (cell_0 k1) (Nat.le_of_ble_eq_true rfl) (r := 0) (sr_0_0 E _ _ _ _ k1) dX0_init_14 (fun H locs hw => ?_)
  refine lv_aload_n hx hb dX0_init_17 rfl (lv_at hl 0 rfl) ?_
  refine wq_new (ci := 2) (fs := [.null]) (C := RX2) (T := TX2) (N := 1) S.1 hw rfl wu_X2 tyX2 tyX2_ok wk_X0_9 wm_X2 wn_X2 (zf_X2) (by rw [cell_2 (by simp [addO, va_up, zK])]; simp [addO, zeroI, va_rf, zR, mI]) (Nat.le_of_ble_eq_true rfl) (Nat.le_of_ble_eq_true rfl) dX0_init_18 (fun H hw => ?_)
  refine lv_dup hx hb dX0_init_21 rfl ?_
  refine lv_bipush (v := 49) hx hb dX0_init_22 (by decide) ?_
  refine ck_v (mc0 := 1) (ms0 := 49) (As := [.int 49]) (rest := [.ref s11, .ref a0]) S.1 hw (k_X2_init l E (s11 + 1) (addO (setR Z11 0 a0 (some sz)) s11 2) (zeroI M11 s11) s11 49 _ 49 (by decide) h) wl_X0_11 wi_X2_init wn_X2 wc_X2_init yc_X2_init rfl ⟨rfl, rfl⟩ ⟨Nat.le_of_ble_eq_true rfl, Nat.le_of_ble_eq_true rfl⟩ rfl hl.1 (Nat.le_of_ble_eq_true rfl) ⟨(Nat.le_of_ble_eq_true rfl), (Nat.le_of_ble_eq_true rfl)⟩ dX0_init_24 (fun s24 Z24 M24 H locs h hw => ?_)
  obtain ⟨k2, h⟩ := h
  refine wq_putF S.1 hw (C := RX0) (T := TX0) (N := 3) (ci := 0) rfl wu_X0 tyX0 tyX0_ok nmX0 1 (by decide) wf_X0_20 rfl rfl hin2 rfl (ty := tyX0 1) (by decide +kernel) rfl rfl (by rw [k2]; decide) (cell_0 k2) (Nat.le_of_ble_eq_true rfl) (r := 1) (sr_0_1 E _ _ _ _ k2) dX0_init_27 (fun H locs hw => ?_)
  refine lv_aload_n hx hb dX0_init_30 rfl (lv_at hl 0 rfl) ?_
  refine wq_new (ci := 2) (fs := [.null]) (C := RX2) (T := TX2) (N := 1) S.1 hw rfl wu_X2 tyX2 tyX2_ok wk_X0_9 wm_X2 wn_X2 (zf_X2) (by rw [cell_2 (by simp [addO, va_up, zK])]; simp [addO, zeroI, va_rf, zR, mI]) (Nat.le_of_ble_eq_true rfl) (Nat.le_of_ble_eq_true rfl) dX0_init_31 (fun H hw => ?_)
  refine lv_dup hx hb dX0_init_34 rfl ?_
  refine lv_bipush (v := 49) hx hb dX0_init_35 (by decide) ?_
  refine ck_v (mc0 := 1) (ms0 := 49) (As := [.int 49]) (rest := [.ref s24, .ref a0]) S.1 hw (k_X2_init l E (s24 + 1) (addO (setR Z24 1 a0 (some s11)) s24 2) (zeroI M24 s24) s24 49 _ 49 (by decide) h) wl_X0_11 wi_X2_init wn_X2 wc_X2_init yc_X2_init rfl ⟨rfl, rfl⟩ ⟨Nat.le_of_ble_eq_true rfl, Nat.le_of_ble_eq_true rfl⟩ rfl hl.1 (Nat.le_of_ble_eq_true rfl) ⟨(Nat.le_of_ble_eq_true rfl), (Nat.le_of_ble_eq_true rfl)⟩ dX0_init_37 (fun s37 Z37 M37 H locs h hw => ?_)
  obtain ⟨k3, h⟩ := h
  refine wq_putF S.1 hw (C := RX0) (T := TX0) (N := 3) (ci := 0) rfl wu_X0 tyX0 tyX0_ok nmX0 2 (by decide) wf_X0_23 rfl rfl hin2 rfl (ty := tyX0 2) (by decide +kernel) rfl rfl (by rw [k3]; decide) (cell_0 k3) (Nat.le_of_ble_eq_true rfl) (r := 2) (sr_0_2 E _ _ _ _ k3) dX0_init_40 (fun H locs hw => ?_)
  refine W.widen (k := 6) (n := 150) (by omega) (by omega) ?_
  exact we_k S hw h dX0_init_43
set_option maxRecDepth 100000 in
set_option maxHeartbeats 4000000 in
theorem k_X0_init (l : Launch) (E : EE) (sz : Nat) (Z : ZZ) (M : MM) (a0 : Nat) (Q : Nat → ZZ → MM → Prop) (h : P_X0_init sz Z M a0 Q) : Ck_v l yX0_init cX0_init 1 none rm_X0_init E Z M sz [.ref a0] Q 6 150 := by
  refine Met.ofW (cc := cX0_init) (maxL := 1) (ret := none) (by decide) rfl ?_
  intro p e s m args below meth c s₁ B hml hv
  obtain ⟨rfl, hV⟩ := hv
  have S : Cx p m c meth cX0_init 1 s _ RX0 (none) := ⟨⟨B.exec, B.bytes, hml, findClass_of_methodNamed B.named, fun w hw => atoms_spec (ws := ws_ yX0_init cX0_init 1 none) B.pre w (List.mem_cons_of_mem _ hw)⟩, B.returns, B.notSynchronized⟩
  have hin2 : meth.name = "<init>" := (name_of_methodNamed B.named B.method).1
  have hl := lv_entry ([.ref a0]) (n := 1) (Nat.le_of_ble_eq_true rfl)
  rw [lg_entry_eq]
  generalize (lg_sl ([.ref a0]) ++ List.replicate (1 - (lg_sl ([.ref a0])).length) Slot.unset).toArray = ls at hl ⊢
  exact (wB_X0_init_0 (A := aA Z sz) S hin2  sz Z M a0 h) s.heap [] ls (wq_start hV) hl
set_option maxRecDepth 100000 in
set_option maxHeartbeats 4000000 in
theorem wB_X1_init_0 (S : Cx p m c meth cX1_init 1 s args RX1 (none)) (hin2 : meth.name = "<init>") {Q : Nat → ZZ → MM → Prop} (sz : Nat) (Z : ZZ) (M : MM) (a0 : Nat) (h : P_X1_init sz Z M a0 Q) : WK p l e rm_X1_init s m args below meth c 0 0 (MQ below (va_Qv (fun u : Nat × ZZ × MM => Q u.1 u.2.1 u.2.2) (fun u t => wV E u.2.1 u.2.2 u.1 A t) A) args s 8 328 A) E A Z M sz 0 1 [(0, .ref a0)] [] := by
  intro H locs ls hw hl
  have hx := S.1.1
  have hb := S.1.2.1
  have hown := S.1.2.2.2.1
  have hts := S.1.2.2.2.2
  refine lv_aload_n hx hb dX1_init_0 rfl (lv_at hl 0 rfl) ?_
  refine W.objInit hx hb hown (hts _ wl_X1_5) (hts _ wi_obj) (hts _ wc_obj) rfl (by rw [S.1.2.2.1]; exact hl.1) rfl dX1_init_1 (Nat.le_of_ble_eq_true rfl) (Nat.le_of_ble_eq_true rfl) ?_
  refine W.eq (g2 := F0 m 4 ls []) rfl ?_
  refine lv_aload_n hx hb dX1_init_4 rfl (lv_at hl 0 rfl) ?_
  refine lv_iconst (v := 2) hx hb dX1_init_5 (by decide) ?_
  obtain ⟨k1, h⟩ := h
  refine wq_put S.1 hw (C := RX1) (T := TX1) (N := 12) (ci := 1) rfl wu_X1 tyX1 tyX1_ok nmX1 0 (by decide) wf_X1_11 rfl rfl rfl (by rw [k1]; decide) (cell_1 k1) (Nat.le_of_ble_eq_true rfl) (st_1_0 E _ _ _ _ k1) dX1_init_6 (fun H locs hw => ?_)
  refine lv_aload_n hx hb dX1_init_9 rfl (lv_at hl 0 rfl) ?_
  refine lv_iconst (v := 2) hx hb dX1_init_10 (by decide) ?_
  obtain ⟨k2, h⟩ := h
  refine wq_put S.1 hw (C := RX1) (T := TX1) (N := 12) (ci := 1) rfl wu_X1 tyX1 tyX1_ok nmX1 1 (by decide) wf_X1_15 rfl rfl rfl (by rw [k2]; decide) (cell_1 k2) (Nat.le_of_ble_eq_true rfl) (st_1_1 E _ _ _ _ k2) dX1_init_11 (fun H locs hw => ?_)
  refine lv_aload_n hx hb dX1_init_14 rfl (lv_at hl 0 rfl) ?_
  refine lv_iconst (v := 0) hx hb dX1_init_15 (by decide) ?_
  obtain ⟨k3, h⟩ := h
  refine wq_put S.1 hw (C := RX1) (T := TX1) (N := 12) (ci := 1) rfl wu_X1 tyX1 tyX1_ok nmX1 2 (by decide) wf_X1_18 rfl rfl rfl (by rw [k3]; decide) (cell_1 k3) (Nat.le_of_ble_eq_true rfl) (st_1_2 E _ _ _ _ k3) dX1_init_16 (fun H locs hw => ?_)
  refine lv_aload_n hx hb dX1_init_19 rfl (lv_at hl 0 rfl) ?_
  refine lv_iconst (v := 0) hx hb dX1_init_20 (by decide) ?_
  obtain ⟨k4, h⟩ := h
  refine wq_put S.1 hw (C := RX1) (T := TX1) (N := 12) (ci := 1) rfl wu_X1 tyX1 tyX1_ok nmX1 3 (by decide) wf_X1_21 rfl rfl rfl (by rw [k4]; decide) (cell_1 k4) (Nat.le_of_ble_eq_true rfl) (st_1_3 E _ _ _ _ k4) dX1_init_21 (fun H locs hw => ?_)
  refine lv_aload_n hx hb dX1_init_24 rfl (lv_at hl 0 rfl) ?_
  refine lv_iconst (v := 0) hx hb dX1_init_25 (by decide) ?_
  obtain ⟨k5, h⟩ := h
  refine wq_put S.1 hw (C := RX1) (T := TX1) (N := 12) (ci := 1) rfl wu_X1 tyX1 tyX1_ok nmX1 4 (by decide) wf_X1_24 rfl rfl rfl (by rw [k5]; decide) (cell_1 k5) (Nat.le_of_ble_eq_true rfl) (st_1_4 E _ _ _ _ k5) dX1_init_26 (fun H locs hw => ?_)
  refine lv_aload_n hx hb dX1_init_29 rfl (lv_at hl 0 rfl) ?_
  refine lv_iconst (v := 0) hx hb dX1_init_30 (by decide) ?_
  obtain ⟨k6, h⟩ := h
  refine wq_put S.1 hw (C := RX1) (T := TX1) (N := 12) (ci := 1) rfl wu_X1 tyX1 tyX1_ok nmX1 5 (by decide) wf_X1_27 rfl rfl rfl (by rw [k6]; decide) (cell_1 k6) (Nat.le_of_ble_eq_true rfl) (st_1_5 E _ _ _ _ k6) dX1_init_31 (fun H locs hw => ?_)
  refine lv_aload_n hx hb dX1_init_34 rfl (lv_at hl 0 rfl) ?_
  refine lv_iconst (v := 0) hx hb dX1_init_35 (by decide) ?_
  obtain ⟨k7, h⟩ := h
  refine wq_put S.1 hw (C := RX1) (T := TX1) (N := 12) (ci := 1) rfl wu_X1 tyX1 tyX1_ok nmX1 6 (by decide) wf_X1_30 rfl rfl rfl (by rw [k7]; decide) (cell_1 k7) (Nat.le_of_ble_eq_true rfl) (st_1_6 E _ _ _ _ k7) dX1_init_36 (fun H locs hw => ?_)
  refine lv_aload_n hx hb dX1_init_39 rfl (lv_at hl 0 rfl) ?_
  refine lv_iconst (v := 0) hx hb dX1_init_40 (by decide) ?_
  obtain ⟨k8, h⟩ := h
  refine wq_put S.1 hw (C := RX1) (T := TX1) (N := 12) (ci := 1) rfl wu_X1 tyX1 tyX1_ok nmX1 7 (by decide) wf_X1_33 rfl rfl rfl (by rw [k8]; decide) (cell_1 k8) (Nat.le_of_ble_eq_true rfl) (st_1_7 E _ _ _ _ k8) dX1_init_41 (fun H locs hw => ?_)
  refine lv_aload_n hx hb dX1_init_44 rfl (lv_at hl 0 rfl) ?_
  refine wq_new (ci := 2) (fs := [.null]) (C := RX2) (T := TX2) (N := 1) S.1 hw rfl wu_X2 tyX2 tyX2_ok wk_X1_36 wm_X2 wn_X2 (zf_X2) (by rw [cell_2 (by simp [addO, va_up, zK])]; simp [addO, zeroI, va_rf, zR, mI]) (Nat.le_of_ble_eq_true rfl) (Nat.le_of_ble_eq_true rfl) dX1_init_45 (fun H hw => ?_)
  refine lv_dup hx hb dX1_init_48 rfl ?_
  refine lv_bipush (v := 49) hx hb dX1_init_49 (by decide) ?_
  refine ck_v (mc0 := 1) (ms0 := 49) (As := [.int 49]) (rest := [.ref sz, .ref a0]) S.1 hw (k_X2_init l E (sz + 1) (addO Z sz 2) (zeroI (setI (setI (setI (setI (setI (setI (setI (setI M 0 a0 2) 1 a0 2) 2 a0 0) 3 a0 0) 4 a0 0) 5 a0 0) 6 a0 0) 7 a0 0) sz) sz 49 _ 49 (by decide) h) wl_X1_38 wi_X2_init wn_X2 wc_X2_init yc_X2_init rfl ⟨rfl, rfl⟩ ⟨Nat.le_of_ble_eq_true rfl, Nat.le_of_ble_eq_true rfl⟩ rfl hl.1 (Nat.le_of_ble_eq_true rfl) ⟨(Nat.le_of_ble_eq_true rfl), (Nat.le_of_ble_eq_true rfl)⟩ dX1_init_51 (fun s51 Z51 M51 H locs h hw => ?_)
  obtain ⟨k9, h⟩ := h
  refine wq_putF S.1 hw (C := RX1) (T := TX1) (N := 12) (ci := 1) rfl wu_X1 tyX1 tyX1_ok nmX1 8 (by decide) wf_X1_41 rfl rfl hin2 rfl (ty := tyX1 8) (by decide +kernel) rfl rfl (by rw [k9]; decide) (cell_1 k9) (Nat.le_of_ble_eq_true rfl) (r := 3) (sr_1_8 E _ _ _ _ k9) dX1_init_54 (fun H locs hw => ?_)
  refine lv_aload_n hx hb dX1_init_57 rfl (lv_at hl 0 rfl) ?_
  refine wq_new (ci := 2) (fs := [.null]) (C := RX2) (T := TX2) (N := 1) S.1 hw rfl wu_X2 tyX2 tyX2_ok wk_X1_36 wm_X2 wn_X2 (zf_X2) (by rw [cell_2 (by simp [addO, va_up, zK])]; simp [addO, zeroI, va_rf, zR, mI]) (Nat.le_of_ble_eq_true rfl) (Nat.le_of_ble_eq_true rfl) dX1_init_58 (fun H hw => ?_)
  refine lv_dup hx hb dX1_init_61 rfl ?_
  refine lv_bipush (v := 106) hx hb dX1_init_62 (by decide) ?_
  refine ck_v (mc0 := 1) (ms0 := 106) (As := [.int 106]) (rest := [.ref s51, .ref a0]) S.1 hw (k_X2_init l E (s51 + 1) (addO (setR Z51 3 a0 (some sz)) s51 2) (zeroI M51 s51) s51 106 _ 106 (by decide) h) wl_X1_38 wi_X2_init wn_X2 wc_X2_init yc_X2_init rfl ⟨rfl, rfl⟩ ⟨Nat.le_of_ble_eq_true rfl, Nat.le_of_ble_eq_true rfl⟩ rfl hl.1 (Nat.le_of_ble_eq_true rfl) ⟨(Nat.le_of_ble_eq_true rfl), (Nat.le_of_ble_eq_true rfl)⟩ dX1_init_64 (fun s64 Z64 M64 H locs h hw => ?_)
  obtain ⟨k10, h⟩ := h
  refine wq_putF S.1 hw (C := RX1) (T := TX1) (N := 12) (ci := 1) rfl wu_X1 tyX1 tyX1_ok nmX1 9 (by decide) wf_X1_45 rfl rfl hin2 rfl (ty := tyX1 9) (by decide +kernel) rfl rfl (by rw [k10]; decide) (cell_1 k10) (Nat.le_of_ble_eq_true rfl) (r := 4) (sr_1_9 E _ _ _ _ k10) dX1_init_67 (fun H locs hw => ?_)
  refine lv_aload_n hx hb dX1_init_70 rfl (lv_at hl 0 rfl) ?_
  refine wq_new (ci := 2) (fs := [.null]) (C := RX2) (T := TX2) (N := 1) S.1 hw rfl wu_X2 tyX2 tyX2_ok wk_X1_36 wm_X2 wn_X2 (zf_X2) (by rw [cell_2 (by simp [addO, va_up, zK])]; simp [addO, zeroI, va_rf, zR, mI]) (Nat.le_of_ble_eq_true rfl) (Nat.le_of_ble_eq_true rfl) dX1_init_71 (fun H hw => ?_)
  refine lv_dup hx hb dX1_init_74 rfl ?_
  refine lv_bipush (v := 120) hx hb dX1_init_75 (by decide) ?_
  refine ck_v (mc0 := 1) (ms0 := 120) (As := [.int 120]) (rest := [.ref s64, .ref a0]) S.1 hw (k_X2_init l E (s64 + 1) (addO (setR Z64 4 a0 (some s51)) s64 2) (zeroI M64 s64) s64 120 _ 120 (by decide) h) wl_X1_38 wi_X2_init wn_X2 wc_X2_init yc_X2_init rfl ⟨rfl, rfl⟩ ⟨Nat.le_of_ble_eq_true rfl, Nat.le_of_ble_eq_true rfl⟩ rfl hl.1 (Nat.le_of_ble_eq_true rfl) ⟨(Nat.le_of_ble_eq_true rfl), (Nat.le_of_ble_eq_true rfl)⟩ dX1_init_77 (fun s77 Z77 M77 H locs h hw => ?_)
  obtain ⟨k11, h⟩ := h
  refine wq_putF S.1 hw (C := RX1) (T := TX1) (N := 12) (ci := 1) rfl wu_X1 tyX1 tyX1_ok nmX1 10 (by decide) wf_X1_48 rfl rfl hin2 rfl (ty := tyX1 10) (by decide +kernel) rfl rfl (by rw [k11]; decide) (cell_1 k11) (Nat.le_of_ble_eq_true rfl) (r := 5) (sr_1_10 E _ _ _ _ k11) dX1_init_80 (fun H locs hw => ?_)
  refine lv_aload_n hx hb dX1_init_83 rfl (lv_at hl 0 rfl) ?_
  refine wq_new (ci := 2) (fs := [.null]) (C := RX2) (T := TX2) (N := 1) S.1 hw rfl wu_X2 tyX2 tyX2_ok wk_X1_36 wm_X2 wn_X2 (zf_X2) (by rw [cell_2 (by simp [addO, va_up, zK])]; simp [addO, zeroI, va_rf, zR, mI]) (Nat.le_of_ble_eq_true rfl) (Nat.le_of_ble_eq_true rfl) dX1_init_84 (fun H hw => ?_)
  refine lv_dup hx hb dX1_init_87 rfl ?_
  refine lv_bipush (v := 49) hx hb dX1_init_88 (by decide) ?_
  refine ck_v (mc0 := 1) (ms0 := 49) (As := [.int 49]) (rest := [.ref s77, .ref a0]) S.1 hw (k_X2_init l E (s77 + 1) (addO (setR Z77 5 a0 (some s64)) s77 2) (zeroI M77 s77) s77 49 _ 49 (by decide) h) wl_X1_38 wi_X2_init wn_X2 wc_X2_init yc_X2_init rfl ⟨rfl, rfl⟩ ⟨Nat.le_of_ble_eq_true rfl, Nat.le_of_ble_eq_true rfl⟩ rfl hl.1 (Nat.le_of_ble_eq_true rfl) ⟨(Nat.le_of_ble_eq_true rfl), (Nat.le_of_ble_eq_true rfl)⟩ dX1_init_90 (fun s90 Z90 M90 H locs h hw => ?_)
  obtain ⟨k12, h⟩ := h
  refine wq_putF S.1 hw (C := RX1) (T := TX1) (N := 12) (ci := 1) rfl wu_X1 tyX1 tyX1_ok nmX1 11 (by decide) wf_X1_51 rfl rfl hin2 rfl (ty := tyX1 11) (by decide +kernel) rfl rfl (by rw [k12]; decide) (cell_1 k12) (Nat.le_of_ble_eq_true rfl) (r := 6) (sr_1_11 E _ _ _ _ k12) dX1_init_93 (fun H locs hw => ?_)
  refine W.widen (k := 8) (n := 328) (by omega) (by omega) ?_
  exact we_k S hw h dX1_init_96
set_option maxRecDepth 100000 in
set_option maxHeartbeats 4000000 in
theorem k_X1_init (l : Launch) (E : EE) (sz : Nat) (Z : ZZ) (M : MM) (a0 : Nat) (Q : Nat → ZZ → MM → Prop) (h : P_X1_init sz Z M a0 Q) : Ck_v l yX1_init cX1_init 1 none rm_X1_init E Z M sz [.ref a0] Q 8 328 := by
  refine Met.ofW (cc := cX1_init) (maxL := 1) (ret := none) (by decide) rfl ?_
  intro p e s m args below meth c s₁ B hml hv
  obtain ⟨rfl, hV⟩ := hv
  have S : Cx p m c meth cX1_init 1 s _ RX1 (none) := ⟨⟨B.exec, B.bytes, hml, findClass_of_methodNamed B.named, fun w hw => atoms_spec (ws := ws_ yX1_init cX1_init 1 none) B.pre w (List.mem_cons_of_mem _ hw)⟩, B.returns, B.notSynchronized⟩
  have hin2 : meth.name = "<init>" := (name_of_methodNamed B.named B.method).1
  have hl := lv_entry ([.ref a0]) (n := 1) (Nat.le_of_ble_eq_true rfl)
  rw [lg_entry_eq]
  generalize (lg_sl ([.ref a0]) ++ List.replicate (1 - (lg_sl ([.ref a0])).length) Slot.unset).toArray = ls at hl ⊢
  exact (wB_X1_init_0 (A := aA Z sz) S hin2  sz Z M a0 h) s.heap [] ls (wq_start hV) hl
set_option maxRecDepth 100000 in
set_option maxHeartbeats 4000000 in
theorem wB_X4_init_0 (S : Cx p m c meth cX4_init 1 s args RX4 (none)) (hin2 : meth.name = "<init>") {Q : Nat → ZZ → MM → Prop} (sz : Nat) (Z : ZZ) (M : MM) (a0 : Nat) (h : P_X4_init sz Z M a0 Q) : WK p l e rm_X4_init s m args below meth c 0 0 (MQ below (va_Qv (fun u : Nat × ZZ × MM => Q u.1 u.2.1 u.2.2) (fun u t => wV E u.2.1 u.2.2 u.1 A t) A) args s 8 773 A) E A Z M sz 0 1 [(0, .ref a0)] [] := by
  intro H locs ls hw hl
  have hx := S.1.1
  have hb := S.1.2.1
  have hown := S.1.2.2.2.1
  have hts := S.1.2.2.2.2
  refine lv_aload_n hx hb dX4_init_0 rfl (lv_at hl 0 rfl) ?_
  refine W.objInit hx hb hown (hts _ wl_X4_5) (hts _ wi_obj) (hts _ wc_obj) rfl (by rw [S.1.2.2.1]; exact hl.1) rfl dX4_init_1 (Nat.le_of_ble_eq_true rfl) (Nat.le_of_ble_eq_true rfl) ?_
  refine W.eq (g2 := F0 m 4 ls []) rfl ?_
  refine lv_aload_n hx hb dX4_init_4 rfl (lv_at hl 0 rfl) ?_
  refine wq_new (ci := 2) (fs := [.null]) (C := RX2) (T := TX2) (N := 1) S.1 hw rfl wu_X2 tyX2 tyX2_ok wk_X4_11 wm_X2 wn_X2 (zf_X2) (by rw [cell_2 (by simp [addO, va_up, zK])]; simp [addO, zeroI, va_rf, zR, mI]) (Nat.le_of_ble_eq_true rfl) (Nat.le_of_ble_eq_true rfl) dX4_init_5 (fun H hw => ?_)
  refine lv_dup hx hb dX4_init_8 rfl ?_
  refine lv_sipush (v := 240) hx hb dX4_init_9 (by decide) ?_
  refine ck_v (mc0 := 1) (ms0 := 240) (As := [.int 240]) (rest := [.ref sz, .ref a0]) S.1 hw (k_X2_init l E (sz + 1) (addO Z sz 2) (zeroI M sz) sz 240 _ 240 (by decide) h) wl_X4_13 wi_X2_init wn_X2 wc_X2_init yc_X2_init rfl ⟨rfl, rfl⟩ ⟨Nat.le_of_ble_eq_true rfl, Nat.le_of_ble_eq_true rfl⟩ rfl hl.1 (Nat.le_of_ble_eq_true rfl) ⟨(Nat.le_of_ble_eq_true rfl), (Nat.le_of_ble_eq_true rfl)⟩ dX4_init_12 (fun s12 Z12 M12 H locs h hw => ?_)
  obtain ⟨k1, h⟩ := h
  refine wq_putF S.1 hw (C := RX4) (T := TX4) (N := 5) (ci := 4) rfl wu_X4 tyX4 tyX4_ok nmX4 0 (by decide) wf_X4_16 rfl rfl hin2 rfl (ty := tyX4 0) (by decide +kernel) rfl rfl (by rw [k1]; decide) (cell_4 k1) (Nat.le_of_ble_eq_true rfl) (r := 9) (sr_4_0 E _ _ _ _ k1) dX4_init_15 (fun H locs hw => ?_)
  refine lv_aload_n hx hb dX4_init_18 rfl (lv_at hl 0 rfl) ?_
  refine wq_new (ci := 2) (fs := [.null]) (C := RX2) (T := TX2) (N := 1) S.1 hw rfl wu_X2 tyX2 tyX2_ok wk_X4_11 wm_X2 wn_X2 (zf_X2) (by rw [cell_2 (by simp [addO, va_up, zK])]; simp [addO, zeroI, va_rf, zR, mI]) (Nat.le_of_ble_eq_true rfl) (Nat.le_of_ble_eq_true rfl) dX4_init_19 (fun H hw => ?_)
  refine lv_dup hx hb dX4_init_22 rfl ?_
  refine lv_bipush (v := 49) hx hb dX4_init_23 (by decide) ?_
  refine ck_v (mc0 := 1) (ms0 := 49) (As := [.int 49]) (rest := [.ref s12, .ref a0]) S.1 hw (k_X2_init l E (s12 + 1) (addO (setR Z12 9 a0 (some sz)) s12 2) (zeroI M12 s12) s12 49 _ 49 (by decide) h) wl_X4_13 wi_X2_init wn_X2 wc_X2_init yc_X2_init rfl ⟨rfl, rfl⟩ ⟨Nat.le_of_ble_eq_true rfl, Nat.le_of_ble_eq_true rfl⟩ rfl hl.1 (Nat.le_of_ble_eq_true rfl) ⟨(Nat.le_of_ble_eq_true rfl), (Nat.le_of_ble_eq_true rfl)⟩ dX4_init_25 (fun s25 Z25 M25 H locs h hw => ?_)
  obtain ⟨k2, h⟩ := h
  refine wq_putF S.1 hw (C := RX4) (T := TX4) (N := 5) (ci := 4) rfl wu_X4 tyX4 tyX4_ok nmX4 1 (by decide) wf_X4_20 rfl rfl hin2 rfl (ty := tyX4 1) (by decide +kernel) rfl rfl (by rw [k2]; decide) (cell_4 k2) (Nat.le_of_ble_eq_true rfl) (r := 10) (sr_4_1 E _ _ _ _ k2) dX4_init_28 (fun H locs hw => ?_)
  refine lv_aload_n hx hb dX4_init_31 rfl (lv_at hl 0 rfl) ?_
  refine lv_iconst (v := 0) hx hb dX4_init_32 (by decide) ?_
  obtain ⟨k3, h⟩ := h
  refine wq_put S.1 hw (C := RX4) (T := TX4) (N := 5) (ci := 4) rfl wu_X4 tyX4 tyX4_ok nmX4 2 (by decide) wf_X4_23 rfl rfl rfl (by rw [k3]; decide) (cell_4 k3) (Nat.le_of_ble_eq_true rfl) (st_4_2 E _ _ _ _ k3) dX4_init_33 (fun H locs hw => ?_)
  refine lv_aload_n hx hb dX4_init_36 rfl (lv_at hl 0 rfl) ?_
  refine wq_new (ci := 2) (fs := [.null]) (C := RX2) (T := TX2) (N := 1) S.1 hw rfl wu_X2 tyX2 tyX2_ok wk_X4_11 wm_X2 wn_X2 (zf_X2) (by rw [cell_2 (by simp [addO, va_up, zK])]; simp [addO, zeroI, va_rf, zR, mI]) (Nat.le_of_ble_eq_true rfl) (Nat.le_of_ble_eq_true rfl) dX4_init_37 (fun H hw => ?_)
  refine lv_dup hx hb dX4_init_40 rfl ?_
  refine lv_sipush (v := 240) hx hb dX4_init_41 (by decide) ?_
  refine ck_v (mc0 := 1) (ms0 := 240) (As := [.int 240]) (rest := [.ref s25, .ref a0]) S.1 hw (k_X2_init l E (s25 + 1) (addO (setR Z25 10 a0 (some s12)) s25 2) (zeroI (setI M25 11 a0 0) s25) s25 240 _ 240 (by decide) h) wl_X4_13 wi_X2_init wn_X2 wc_X2_init yc_X2_init rfl ⟨rfl, rfl⟩ ⟨Nat.le_of_ble_eq_true rfl, Nat.le_of_ble_eq_true rfl⟩ rfl hl.1 (Nat.le_of_ble_eq_true rfl) ⟨(Nat.le_of_ble_eq_true rfl), (Nat.le_of_ble_eq_true rfl)⟩ dX4_init_44 (fun s44 Z44 M44 H locs h hw => ?_)
  obtain ⟨k4, h⟩ := h
  refine wq_putF S.1 hw (C := RX4) (T := TX4) (N := 5) (ci := 4) rfl wu_X4 tyX4 tyX4_ok nmX4 3 (by decide) wf_X4_27 rfl rfl hin2 rfl (ty := tyX4 3) (by decide +kernel) rfl rfl (by rw [k4]; decide) (cell_4 k4) (Nat.le_of_ble_eq_true rfl) (r := 11) (sr_4_3 E _ _ _ _ k4) dX4_init_47 (fun H locs hw => ?_)
  refine lv_aload_n hx hb dX4_init_50 rfl (lv_at hl 0 rfl) ?_
  refine wq_new (ci := 2) (fs := [.null]) (C := RX2) (T := TX2) (N := 1) S.1 hw rfl wu_X2 tyX2 tyX2_ok wk_X4_11 wm_X2 wn_X2 (zf_X2) (by rw [cell_2 (by simp [addO, va_up, zK])]; simp [addO, zeroI, va_rf, zR, mI]) (Nat.le_of_ble_eq_true rfl) (Nat.le_of_ble_eq_true rfl) dX4_init_51 (fun H hw => ?_)
  refine lv_dup hx hb dX4_init_54 rfl ?_
  refine lv_sipush (v := 240) hx hb dX4_init_55 (by decide) ?_
  refine ck_v (mc0 := 1) (ms0 := 240) (As := [.int 240]) (rest := [.ref s44, .ref a0]) S.1 hw (k_X2_init l E (s44 + 1) (addO (setR Z44 11 a0 (some s25)) s44 2) (zeroI M44 s44) s44 240 _ 240 (by decide) h) wl_X4_13 wi_X2_init wn_X2 wc_X2_init yc_X2_init rfl ⟨rfl, rfl⟩ ⟨Nat.le_of_ble_eq_true rfl, Nat.le_of_ble_eq_true rfl⟩ rfl hl.1 (Nat.le_of_ble_eq_true rfl) ⟨(Nat.le_of_ble_eq_true rfl), (Nat.le_of_ble_eq_true rfl)⟩ dX4_init_58 (fun s58 Z58 M58 H locs h hw => ?_)
  obtain ⟨k5, h⟩ := h
  refine wq_putF S.1 hw (C := RX4) (T := TX4) (N := 5) (ci := 4) rfl wu_X4 tyX4 tyX4_ok nmX4 4 (by decide) wf_X4_30 rfl rfl hin2 rfl (ty := tyX4 4) (by decide +kernel) rfl rfl (by rw [k5]; decide) (cell_4 k5) (Nat.le_of_ble_eq_true rfl) (r := 12) (sr_4_4 E _ _ _ _ k5) dX4_init_61 (fun H locs hw => ?_)
  refine W.widen (k := 8) (n := 773) (by omega) (by omega) ?_
  exact we_k S hw h dX4_init_64
set_option maxRecDepth 100000 in
set_option maxHeartbeats 4000000 in
theorem k_X4_init (l : Launch) (E : EE) (sz : Nat) (Z : ZZ) (M : MM) (a0 : Nat) (Q : Nat → ZZ → MM → Prop) (h : P_X4_init sz Z M a0 Q) : Ck_v l yX4_init cX4_init 1 none rm_X4_init E Z M sz [.ref a0] Q 8 773 := by
  refine Met.ofW (cc := cX4_init) (maxL := 1) (ret := none) (by decide) rfl ?_
  intro p e s m args below meth c s₁ B hml hv
  obtain ⟨rfl, hV⟩ := hv
  have S : Cx p m c meth cX4_init 1 s _ RX4 (none) := ⟨⟨B.exec, B.bytes, hml, findClass_of_methodNamed B.named, fun w hw => atoms_spec (ws := ws_ yX4_init cX4_init 1 none) B.pre w (List.mem_cons_of_mem _ hw)⟩, B.returns, B.notSynchronized⟩
  have hin2 : meth.name = "<init>" := (name_of_methodNamed B.named B.method).1
  have hl := lv_entry ([.ref a0]) (n := 1) (Nat.le_of_ble_eq_true rfl)
  rw [lg_entry_eq]
  generalize (lg_sl ([.ref a0]) ++ List.replicate (1 - (lg_sl ([.ref a0])).length) Slot.unset).toArray = ls at hl ⊢
  exact (wB_X4_init_0 (A := aA Z sz) S hin2  sz Z M a0 h) s.heap [] ls (wq_start hV) hl
set_option maxRecDepth 100000 in
set_option maxHeartbeats 4000000 in
theorem wB_X5_init (S : Cx p m c meth cX5_init 2 s args RX5 (none)) (hin2 : meth.name = "<init>") (hov : OV s) {Q : Nat → ZZ → MM → Prop} {ce sl : Nat} (hce : ce + 9 ≤ 85) (hsl : sl + 340 ≤ 3430) {K : Nat → ZZ → MM → Nat → Int32 → Prop} (hK : ∀ (sz : Nat) (Z : ZZ) (M : MM) (a0 : Nat) (v1 : Int32), K sz Z M a0 v1 → WK p l e rm_X5_init s m args below meth c (ce + 9) (sl + 340) (MQ below (va_Qv (fun u : Nat × ZZ × MM => Q u.1 u.2.1 u.2.2) (fun u t => wV E u.2.1 u.2.2 u.1 A t) A) args s 85 3430 A) E A Z M sz 92 2 [(0, .ref a0), (1, .int v1)] []) (sz : Nat) (Z : ZZ) (M : MM) (a0 : Nat) (v1 : Int32) (h : B_X5_init Q K sz Z M a0 v1) : WK p l e rm_X5_init s m args below meth c ce sl (MQ below (va_Qv (fun u : Nat × ZZ × MM => Q u.1 u.2.1 u.2.2) (fun u t => wV E u.2.1 u.2.2 u.1 A t) A) args s 85 3430 A) E A Z M sz 92 2 [(0, .ref a0), (1, .int v1)] [] := by
  have hrc : 85 ≤ rm_X5_init.cells := Nat.le_refl _
  have hrs : 3430 ≤ rm_X5_init.slots := Nat.le_refl _
  intro H locs ls hw hl
  have hx := S.1.1
  have hb := S.1.2.1
  have hown := S.1.2.2.2.1
  have hts := S.1.2.2.2.2
  refine lv_iload_n hx hb dX5_init_92 rfl (lv_at hl 1 rfl) ?_
  refine lv_aload_n hx hb dX5_init_93 rfl (lv_at hl 0 rfl) ?_
  obtain ⟨k1, h⟩ := h
  obtain ⟨y2, hy2, h⟩ := h
  refine wq_get S.1 hw (C := RX5) (T := TX5) (N := 9) (ci := 5) rfl wu_X5 2 (by decide) wf_X5_19 rfl (by rw [k1]; decide) (cell_5 k1) (r := zR Z 15 a0) rfl hy2 dX5_init_94 ?_
  obtain ⟨k3, h⟩ := h
  refine wq_alen8 S.1 hw k3 dX5_init_97 ?_
  refine lv_icmp_ge (tgt := 120) hx hb dX5_init_98 (by decide) (fun q_98 => ?_) (fun q_98 => ?_)
  · have h := h.1 q_98
    refine lv_aload_n hx hb dX5_init_120 rfl (lv_at hl 0 rfl) ?_
    obtain ⟨k4, h⟩ := h
    obtain ⟨y5, hy5, h⟩ := h
    refine wq_get S.1 hw (C := RX5) (T := TX5) (N := 9) (ci := 5) rfl wu_X5 0 (by decide) wf_X5_10 rfl (by rw [k4]; decide) (cell_5 k4) (r := zR Z 13 a0) rfl hy5 dX5_init_121 ?_
    refine lv_iconst (v := 1) hx hb dX5_init_124 (by decide) ?_
    obtain ⟨k6, h⟩ := h
    refine wq_put S.1 hw (C := RX1) (T := TX1) (N := 12) (ci := 1) rfl wu_X1 tyX1 tyX1_ok nmX1 2 (by decide) wf_X5_60 rfl rfl rfl (by rw [k6]; decide) (cell_1 k6) (Nat.le_of_ble_eq_true rfl) (st_1_2 E _ _ _ _ k6) dX5_init_125 (fun H locs hw => ?_)
    refine lv_aload_n hx hb dX5_init_128 rfl (lv_at hl 0 rfl) ?_
    obtain ⟨k7, h⟩ := h
    obtain ⟨y8, hy8, h⟩ := h
    refine wq_get S.1 hw (C := RX5) (T := TX5) (N := 9) (ci := 5) rfl wu_X5 0 (by decide) wf_X5_10 rfl (by rw [k7]; decide) (cell_5 k7) (r := zR Z 13 a0) rfl hy8 dX5_init_129 ?_
    refine lv_iconst (v := 4) hx hb dX5_init_132 (by decide) ?_
    refine lv_iconst (v := 4) hx hb dX5_init_133 (by decide) ?_
    obtain ⟨k9, h⟩ := h
    refine cq_v (As := [.int 4, .int 4]) (rest := []) S.1 hw (k_X1_beginAnew l E Z (setI M 2 y5 1) y8 4 4 _ h) wv_X5_63 yc_X1_beginAnew ⟨rfl, rfl⟩ ⟨Nat.le_of_ble_eq_true rfl, Nat.le_of_ble_eq_true rfl⟩ rfl hl.1 (Nat.le_of_ble_eq_true rfl) (ci := 1) (q := (RX1, TX1, 12)) rfl rfl (by rw [k9]; decide) (cell_1 k9) ⟨Nat.le_trans (by omega) hrc, Nat.le_trans (by omega) hrs⟩ dX5_init_134 (fun M134 s134 H locs q_134 h hw => ?_)
    have h := h s134 q_134
    refine lv_aload_n hx hb dX5_init_137 rfl (lv_at hl 0 rfl) ?_
    obtain ⟨k10, h⟩ := h
    obtain ⟨y11, hy11, h⟩ := h
    refine wq_get S.1 hw (C := RX5) (T := TX5) (N := 9) (ci := 5) rfl wu_X5 0 (by decide) wf_X5_10 rfl (by rw [k10]; decide) (cell_5 k10) (r := zR Z 13 a0) rfl hy11 dX5_init_138 ?_
    refine lv_bipush (v := 10) hx hb dX5_init_141 (by decide) ?_
    obtain ⟨k12, h⟩ := h
    refine cq_v (As := [.int 10]) (rest := []) S.1 hw (k_X1_addEverywhere l E Z M134 y11 10 _ h) wv_X5_67 yc_X1_addEverywhere ⟨rfl, rfl⟩ ⟨Nat.le_of_ble_eq_true rfl, Nat.le_of_ble_eq_true rfl⟩ rfl hl.1 (Nat.le_of_ble_eq_true rfl) (ci := 1) (q := (RX1, TX1, 12)) rfl rfl (by rw [k12]; decide) (cell_1 k12) ⟨Nat.le_trans (by omega) hrc, Nat.le_trans (by omega) hrs⟩ dX5_init_143 (fun M143 s143 H locs q_143 h hw => ?_)
    have h := h s143 q_143
    refine W.widen (k := 85) (n := 3430) (by omega) (by omega) ?_
    exact we_k S hw h dX5_init_146
  · have h := h.2 q_98
    refine lv_aload_n hx hb dX5_init_101 rfl (lv_at hl 0 rfl) ?_
    obtain ⟨k13, h⟩ := h
    obtain ⟨y14, hy14, h⟩ := h
    refine wq_get S.1 hw (C := RX5) (T := TX5) (N := 9) (ci := 5) rfl wu_X5 2 (by decide) wf_X5_19 rfl (by rw [k13]; decide) (cell_5 k13) (r := zR Z 15 a0) rfl hy14 dX5_init_102 ?_
    refine lv_iload_n hx hb dX5_init_105 rfl (lv_at hl 1 rfl) ?_
    refine wq_new (ci := 1) (fs := [.int 0, .int 0, .int 0, .int 0, .int 0, .int 0, .int 0, .int 0, .null, .null, .null, .null]) (C := RX1) (T := TX1) (N := 12) S.1 hw rfl wu_X1 tyX1 tyX1_ok wk_X5_7 wm_X1 wn_X1 (zf_X1) (by rw [cell_1 (by simp [addO, va_up, zK])]; simp [addO, zeroI, va_rf, zR, mI]) (Nat.le_trans (by omega) hrc) (Nat.le_trans (by omega) hrs) dX5_init_106 (fun H hw => ?_)
    refine lv_dup hx hb dX5_init_109 rfl ?_
    refine ckn_v (mc0 := 8) (ms0 := 328) (As := []) (rest := [.ref sz, .int v1, .ref y14]) S.1 hov hw (k_X1_init l E (sz + 1) (addO Z sz 1) (zeroI M sz) sz _ h) (by decide) wi_X1_init wn_X1 wc_X1_init yc_X1_init rfl ⟨rfl, rfl⟩ ⟨Nat.le_of_ble_eq_true rfl, Nat.le_of_ble_eq_true rfl⟩ rfl hl.1 (Nat.le_of_ble_eq_true rfl) ⟨Nat.le_trans (by omega) hrc, Nat.le_trans (by omega) hrs⟩ dX5_init_110 (fun s110 Z110 M110 H locs h hw => ?_)
    obtain ⟨k15, h⟩ := h
    obtain ⟨k16, h⟩ := h
    obtain ⟨i_113, h⟩ := h
    refine wq_astq S.1 hw k15 k16 i_113 dX5_init_113 (fun H locs hw => ?_)
    refine lv_iinc (v := (v1 + 1)) (lv' := [(1, .int (v1 + 1)), (0, .ref a0)]) hx hb dX5_init_114 hl (k := 1) rfl rfl (by decide) rfl (fun ls hl => ?_)
    refine lv_goto (tgt := 92) hx hb dX5_init_117 (by decide) ?_
    exact (hK _ _ _ _ _ h) H locs ls hw (lv_sub hl [1, 0] rfl)
set_option maxRecDepth 100000 in
set_option maxHeartbeats 4000000 in
theorem wL_X5_init (S : Cx p m c meth cX5_init 2 s args RX5 (none)) (hin2 : meth.name = "<init>") (hov : OV s) {Q : Nat → ZZ → MM → Prop} : ∀ (n : Nat) (ce sl : Nat) (hce : ce + 9 * n ≤ 85) (hsl : sl + 340 * n ≤ 3430) (sz : Nat) (Z : ZZ) (M : MM) (a0 : Nat) (v1 : Int32), L_X5_init Q n sz Z M a0 v1 → WK p l e rm_X5_init s m args below meth c ce sl (MQ below (va_Qv (fun u : Nat × ZZ × MM => Q u.1 u.2.1 u.2.2) (fun u t => wV E u.2.1 u.2.2 u.1 A t) A) args s 85 3430 A) E A Z M sz 92 2 [(0, .ref a0), (1, .int v1)] []
  | 0, _, _, _, _, _, _, _, _, _, h => False.elim h
  | n + 1, ce, sl, hce, hsl, sz, Z, M, a0, v1, h => wB_X5_init S hin2 hov (by omega) (by omega) (fun sz Z M a0 v1 h => wL_X5_init S hin2 hov n (ce + 9) (sl + 340) (by omega) (by omega) sz Z M a0 v1 h) sz Z M a0 v1 h
set_option maxRecDepth 100000 in
set_option maxHeartbeats 4000000 in
theorem wB_X5_init_0 (S : Cx p m c meth cX5_init 2 s args RX5 (none)) (hin2 : meth.name = "<init>") (hov : OV s) {Q : Nat → ZZ → MM → Prop} (sz : Nat) (Z : ZZ) (M : MM) (a0 : Nat) (h : P_X5_init sz Z M a0 Q) : WK p l e rm_X5_init s m args below meth c 0 0 (MQ below (va_Qv (fun u : Nat × ZZ × MM => Q u.1 u.2.1 u.2.2) (fun u t => wV E u.2.1 u.2.2 u.1 A t) A) args s 85 3430 A) E A Z M sz 0 2 [(0, .ref a0)] [] := by
  intro H locs ls hw hl
  have hx := S.1.1
  have hb := S.1.2.1
  have hown := S.1.2.2.2.1
  have hts := S.1.2.2.2.2
  refine lv_aload_n hx hb dX5_init_0 rfl (lv_at hl 0 rfl) ?_
  refine W.objInit hx hb hown (hts _ wl_X5_1) (hts _ wi_obj) (hts _ wc_obj) rfl (by rw [S.1.2.2.1]; exact hl.1) rfl dX5_init_1 (Nat.le_of_ble_eq_true rfl) (Nat.le_of_ble_eq_true rfl) ?_
  refine W.eq (g2 := F0 m 4 ls []) rfl ?_
  refine lv_aload_n hx hb dX5_init_4 rfl (lv_at hl 0 rfl) ?_
  refine wq_new (ci := 1) (fs := [.int 0, .int 0, .int 0, .int 0, .int 0, .int 0, .int 0, .int 0, .null, .null, .null, .null]) (C := RX1) (T := TX1) (N := 12) S.1 hw rfl wu_X1 tyX1 tyX1_ok wk_X5_7 wm_X1 wn_X1 (zf_X1) (by rw [cell_1 (by simp [addO, va_up, zK])]; simp [addO, zeroI, va_rf, zR, mI]) (Nat.le_of_ble_eq_true rfl) (Nat.le_of_ble_eq_true rfl) dX5_init_5 (fun H hw => ?_)
  refine lv_dup hx hb dX5_init_8 rfl ?_
  refine ckn_v (mc0 := 8) (ms0 := 328) (As := []) (rest := [.ref sz, .ref a0]) S.1 hov hw (k_X1_init l E (sz + 1) (addO Z sz 1) (zeroI M sz) sz _ h) (by decide) wi_X1_init wn_X1 wc_X1_init yc_X1_init rfl ⟨rfl, rfl⟩ ⟨Nat.le_of_ble_eq_true rfl, Nat.le_of_ble_eq_true rfl⟩ rfl hl.1 (Nat.le_of_ble_eq_true rfl) ⟨(Nat.le_of_ble_eq_true rfl), (Nat.le_of_ble_eq_true rfl)⟩ dX5_init_9 (fun s9 Z9 M9 H locs h hw => ?_)
  obtain ⟨k17, h⟩ := h
  refine wq_putF S.1 hw (C := RX5) (T := TX5) (N := 9) (ci := 5) rfl wu_X5 tyX5 tyX5_ok nmX5 0 (by decide) wf_X5_10 rfl rfl hin2 rfl (ty := tyX5 0) (by decide +kernel) rfl rfl (by rw [k17]; decide) (cell_5 k17) (Nat.le_of_ble_eq_true rfl) (r := 13) (sr_5_0 E _ _ _ _ k17) dX5_init_12 (fun H locs hw => ?_)
  refine lv_aload_n hx hb dX5_init_15 rfl (lv_at hl 0 rfl) ?_
  refine wq_new (ci := 1) (fs := [.int 0, .int 0, .int 0, .int 0, .int 0, .int 0, .int 0, .int 0, .null, .null, .null, .null]) (C := RX1) (T := TX1) (N := 12) S.1 hw rfl wu_X1 tyX1 tyX1_ok wk_X5_7 wm_X1 wn_X1 (zf_X1) (by rw [cell_1 (by simp [addO, va_up, zK])]; simp [addO, zeroI, va_rf, zR, mI]) (Nat.le_of_ble_eq_true rfl) (Nat.le_of_ble_eq_true rfl) dX5_init_16 (fun H hw => ?_)
  refine lv_dup hx hb dX5_init_19 rfl ?_
  refine ckn_v (mc0 := 8) (ms0 := 328) (As := []) (rest := [.ref s9, .ref a0]) S.1 hov hw (k_X1_init l E (s9 + 1) (addO (setR Z9 13 a0 (some sz)) s9 1) (zeroI M9 s9) s9 _ h) (by decide) wi_X1_init wn_X1 wc_X1_init yc_X1_init rfl ⟨rfl, rfl⟩ ⟨Nat.le_of_ble_eq_true rfl, Nat.le_of_ble_eq_true rfl⟩ rfl hl.1 (Nat.le_of_ble_eq_true rfl) ⟨(Nat.le_of_ble_eq_true rfl), (Nat.le_of_ble_eq_true rfl)⟩ dX5_init_20 (fun s20 Z20 M20 H locs h hw => ?_)
  obtain ⟨k18, h⟩ := h
  refine wq_putF S.1 hw (C := RX5) (T := TX5) (N := 9) (ci := 5) rfl wu_X5 tyX5 tyX5_ok nmX5 1 (by decide) wf_X5_16 rfl rfl hin2 rfl (ty := tyX5 1) (by decide +kernel) rfl rfl (by rw [k18]; decide) (cell_5 k18) (Nat.le_of_ble_eq_true rfl) (r := 14) (sr_5_1 E _ _ _ _ k18) dX5_init_23 (fun H locs hw => ?_)
  refine lv_aload_n hx hb dX5_init_26 rfl (lv_at hl 0 rfl) ?_
  refine lv_iconst (v := 4) hx hb dX5_init_27 (by decide) ?_
  refine wq_newq (N := 4) S.1 hw hov.1 wk_X5_7 (by decide) (by decide) (by decide) (Nat.le_of_ble_eq_true rfl) (Nat.le_of_ble_eq_true rfl) dX5_init_28 (fun H hw => ?_)
  obtain ⟨k19, h⟩ := h
  refine wq_putF S.1 hw (C := RX5) (T := TX5) (N := 9) (ci := 5) rfl wu_X5 tyX5 tyX5_ok nmX5 2 (by decide) wf_X5_19 rfl rfl hin2 rfl (ty := tyX5 2) (by decide +kernel) rfl rfl (by rw [k19]; decide) (cell_5 k19) (Nat.le_of_ble_eq_true rfl) (r := 15) (sr_5_2 E _ _ _ _ k19) dX5_init_31 (fun H locs hw => ?_)
  refine lv_aload_n hx hb dX5_init_34 rfl (lv_at hl 0 rfl) ?_
  refine lv_iconst (v := 0) hx hb dX5_init_35 (by decide) ?_
  obtain ⟨k20, h⟩ := h
  refine wq_put S.1 hw (C := RX5) (T := TX5) (N := 9) (ci := 5) rfl wu_X5 tyX5 tyX5_ok nmX5 3 (by decide) wf_X5_23 rfl rfl rfl (by rw [k20]; decide) (cell_5 k20) (Nat.le_of_ble_eq_true rfl) (st_5_3 E _ _ _ _ k20) dX5_init_36 (fun H locs hw => ?_)
  refine lv_aload_n hx hb dX5_init_39 rfl (lv_at hl 0 rfl) ?_
  refine lv_iconst (v := 0) hx hb dX5_init_40 (by decide) ?_
  obtain ⟨k21, h⟩ := h
  refine wq_put S.1 hw (C := RX5) (T := TX5) (N := 9) (ci := 5) rfl wu_X5 tyX5 tyX5_ok nmX5 4 (by decide) wf_X5_27 rfl rfl rfl (by rw [k21]; decide) (cell_5 k21) (Nat.le_of_ble_eq_true rfl) (st_5_4 E _ _ _ _ k21) dX5_init_41 (fun H locs hw => ?_)
  refine lv_aload_n hx hb dX5_init_44 rfl (lv_at hl 0 rfl) ?_
  refine wq_new (ci := 3) (fs := [.null, .int 0, .int 0, .int 0]) (C := RX3) (T := TX3) (N := 4) S.1 hw rfl wu_X3 tyX3 tyX3_ok wk_X5_30 wm_X3 wn_X3 (zf_X3) (by rw [cell_3 (by simp [addO, va_up, zK])]; simp [addO, zeroI, va_rf, zR, mI]) (Nat.le_of_ble_eq_true rfl) (Nat.le_of_ble_eq_true rfl) dX5_init_45 (fun H hw => ?_)
  refine lv_dup hx hb dX5_init_48 rfl ?_
  refine ckn_v (mc0 := 2) (ms0 := 61) (As := []) (rest := [.ref (s20 + 1), .ref a0]) S.1 hov hw (k_X3_init l E ((s20 + 1) + 1) (addO (setR (addA (setR Z20 14 a0 (some s9)) s20 8 4) 15 a0 (some s20)) (s20 + 1) 3) (zeroI (setI (setI M20 12 a0 0) 13 a0 0) (s20 + 1)) (s20 + 1) _ h) (by decide) wi_X3_init wn_X3 wc_X3_init yc_X3_init rfl ⟨rfl, rfl⟩ ⟨Nat.le_of_ble_eq_true rfl, Nat.le_of_ble_eq_true rfl⟩ rfl hl.1 (Nat.le_of_ble_eq_true rfl) ⟨(Nat.le_of_ble_eq_true rfl), (Nat.le_of_ble_eq_true rfl)⟩ dX5_init_49 (fun s49 Z49 M49 H locs h hw => ?_)
  obtain ⟨k22, h⟩ := h
  refine wq_putF S.1 hw (C := RX5) (T := TX5) (N := 9) (ci := 5) rfl wu_X5 tyX5 tyX5_ok nmX5 5 (by decide) wf_X5_33 rfl rfl hin2 rfl (ty := tyX5 5) (by decide +kernel) rfl rfl (by rw [k22]; decide) (cell_5 k22) (Nat.le_of_ble_eq_true rfl) (r := 16) (sr_5_5 E _ _ _ _ k22) dX5_init_52 (fun H locs hw => ?_)
  refine lv_aload_n hx hb dX5_init_55 rfl (lv_at hl 0 rfl) ?_
  refine wq_new (ci := 0) (fs := [.null, .null, .null]) (C := RX0) (T := TX0) (N := 3) S.1 hw rfl wu_X0 tyX0 tyX0_ok wk_X5_37 wm_X0 wn_X0 (zf_X0) (by rw [cell_0 (by simp [addO, va_up, zK])]; simp [addO, zeroI, va_rf, zR, mI]) (Nat.le_of_ble_eq_true rfl) (Nat.le_of_ble_eq_true rfl) dX5_init_56 (fun H hw => ?_)
  refine lv_dup hx hb dX5_init_59 rfl ?_
  refine ckn_v (mc0 := 6) (ms0 := 150) (As := []) (rest := [.ref s49, .ref a0]) S.1 hov hw (k_X0_init l E (s49 + 1) (addO (setR Z49 16 a0 (some (s20 + 1))) s49 0) (zeroI M49 s49) s49 _ h) (by decide) wi_X0_init wn_X0 wc_X0_init yc_X0_init rfl ⟨rfl, rfl⟩ ⟨Nat.le_of_ble_eq_true rfl, Nat.le_of_ble_eq_true rfl⟩ rfl hl.1 (Nat.le_of_ble_eq_true rfl) ⟨(Nat.le_of_ble_eq_true rfl), (Nat.le_of_ble_eq_true rfl)⟩ dX5_init_60 (fun s60 Z60 M60 H locs h hw => ?_)
  obtain ⟨k23, h⟩ := h
  refine wq_putF S.1 hw (C := RX5) (T := TX5) (N := 9) (ci := 5) rfl wu_X5 tyX5 tyX5_ok nmX5 6 (by decide) wf_X5_40 rfl rfl hin2 rfl (ty := tyX5 6) (by decide +kernel) rfl rfl (by rw [k23]; decide) (cell_5 k23) (Nat.le_of_ble_eq_true rfl) (r := 17) (sr_5_6 E _ _ _ _ k23) dX5_init_63 (fun H locs hw => ?_)
  refine lv_aload_n hx hb dX5_init_66 rfl (lv_at hl 0 rfl) ?_
  refine wq_new (ci := 4) (fs := [.null, .null, .int 0, .null, .null]) (C := RX4) (T := TX4) (N := 5) S.1 hw rfl wu_X4 tyX4 tyX4_ok wk_X5_44 wm_X4 wn_X4 (zf_X4) (by rw [cell_4 (by simp [addO, va_up, zK])]; simp [addO, zeroI, va_rf, zR, mI]) (Nat.le_of_ble_eq_true rfl) (Nat.le_of_ble_eq_true rfl) dX5_init_67 (fun H hw => ?_)
  refine lv_dup hx hb dX5_init_70 rfl ?_
  refine ckn_v (mc0 := 8) (ms0 := 773) (As := []) (rest := [.ref s60, .ref a0]) S.1 hov hw (k_X4_init l E (s60 + 1) (addO (setR Z60 17 a0 (some s49)) s60 4) (zeroI M60 s60) s60 _ h) (by decide) wi_X4_init wn_X4 wc_X4_init yc_X4_init rfl ⟨rfl, rfl⟩ ⟨Nat.le_of_ble_eq_true rfl, Nat.le_of_ble_eq_true rfl⟩ rfl hl.1 (Nat.le_of_ble_eq_true rfl) ⟨(Nat.le_of_ble_eq_true rfl), (Nat.le_of_ble_eq_true rfl)⟩ dX5_init_71 (fun s71 Z71 M71 H locs h hw => ?_)
  obtain ⟨k24, h⟩ := h
  refine wq_putF S.1 hw (C := RX5) (T := TX5) (N := 9) (ci := 5) rfl wu_X5 tyX5 tyX5_ok nmX5 7 (by decide) wf_X5_47 rfl rfl hin2 rfl (ty := tyX5 7) (by decide +kernel) rfl rfl (by rw [k24]; decide) (cell_5 k24) (Nat.le_of_ble_eq_true rfl) (r := 18) (sr_5_7 E _ _ _ _ k24) dX5_init_74 (fun H locs hw => ?_)
  refine lv_aload_n hx hb dX5_init_77 rfl (lv_at hl 0 rfl) ?_
  refine wq_new (ci := 2) (fs := [.null]) (C := RX2) (T := TX2) (N := 1) S.1 hw rfl wu_X2 tyX2 tyX2_ok wk_X5_51 wm_X2 wn_X2 (zf_X2) (by rw [cell_2 (by simp [addO, va_up, zK])]; simp [addO, zeroI, va_rf, zR, mI]) (Nat.le_of_ble_eq_true rfl) (Nat.le_of_ble_eq_true rfl) dX5_init_78 (fun H hw => ?_)
  refine lv_dup hx hb dX5_init_81 rfl ?_
  refine lv_bipush (v := 49) hx hb dX5_init_82 (by decide) ?_
  refine ck_v (mc0 := 1) (ms0 := 49) (As := [.int 49]) (rest := [.ref s71, .ref a0]) S.1 hw (k_X2_init l E (s71 + 1) (addO (setR Z71 18 a0 (some s60)) s71 2) (zeroI M71 s71) s71 49 _ 49 (by decide) h) wl_X5_53 wi_X2_init wn_X2 wc_X2_init yc_X2_init rfl ⟨rfl, rfl⟩ ⟨Nat.le_of_ble_eq_true rfl, Nat.le_of_ble_eq_true rfl⟩ rfl hl.1 (Nat.le_of_ble_eq_true rfl) ⟨(Nat.le_of_ble_eq_true rfl), (Nat.le_of_ble_eq_true rfl)⟩ dX5_init_84 (fun s84 Z84 M84 H locs h hw => ?_)
  obtain ⟨k25, h⟩ := h
  refine wq_putF S.1 hw (C := RX5) (T := TX5) (N := 9) (ci := 5) rfl wu_X5 tyX5 tyX5_ok nmX5 8 (by decide) wf_X5_56 rfl rfl hin2 rfl (ty := tyX5 8) (by decide +kernel) rfl rfl (by rw [k25]; decide) (cell_5 k25) (Nat.le_of_ble_eq_true rfl) (r := 19) (sr_5_8 E _ _ _ _ k25) dX5_init_87 (fun H locs hw => ?_)
  refine lv_iconst (v := 0) hx hb dX5_init_90 (by decide) ?_
  refine lv_istore_n (lv' := [(1, .int 0), (0, .ref a0)]) hx hb dX5_init_91 rfl hl (by decide) rfl (fun ls hl => ?_)
  refine W.widen (k := 40) (n := 1730) (by omega) (by omega) ?_
  exact (wL_X5_init S hin2 hov 5 _ _ (by decide) (by decide) _ _ _ _ _ h) H locs ls hw (lv_sub hl [1, 0] rfl)
set_option maxRecDepth 100000 in
set_option maxHeartbeats 4000000 in
theorem k_X5_init (l : Launch) (E : EE) (sz : Nat) (Z : ZZ) (M : MM) (a0 : Nat) (Q : Nat → ZZ → MM → Prop) (h : P_X5_init sz Z M a0 Q) : Ckq_v l yX5_init cX5_init 2 none rm_X5_init E Z M sz [.ref a0] Q 85 3430 := by
  refine Met.ofW (cc := cX5_init) (maxL := 2) (ret := none) (by decide) rfl ?_
  intro p e s m args below meth c s₁ B hml hv
  obtain ⟨rfl, hov, hV⟩ := hv
  have S : Cx p m c meth cX5_init 2 s _ RX5 (none) := ⟨⟨B.exec, B.bytes, hml, findClass_of_methodNamed B.named, fun w hw => atoms_spec (ws := ws_ yX5_init cX5_init 2 none) B.pre w (List.mem_cons_of_mem _ hw)⟩, B.returns, B.notSynchronized⟩
  have hin2 : meth.name = "<init>" := (name_of_methodNamed B.named B.method).1
  have hl := lv_entry ([.ref a0]) (n := 2) (Nat.le_of_ble_eq_true rfl)
  rw [lg_entry_eq]
  generalize (lg_sl ([.ref a0]) ++ List.replicate (2 - (lg_sl ([.ref a0])).length) Slot.unset).toArray = ls at hl ⊢
  exact (wB_X5_init_0 (A := aA Z sz) S hin2 hov sz Z M a0 h) s.heap [] ls (wq_start hV) hl
