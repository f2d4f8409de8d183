def Z00 : ZZ := ([], fun _ => 100, fun _ _ => none, fun _ => 0, fun _ _ => none)
def M00 : MM := (fun _ _ => 0, fun _ _ => 0, fun _ _ => 0)
/-- what is left when the machine is walked: no machine in it -/
def pure_goal (L : Nat) (xs : Nat → Int32) (sz : Nat) : Prop := P_X5_init (sz + 1) (addO Z00 sz 5) (zeroI M00 sz) sz (fun s1 Z1 M1 => P_X5_init (s1 + 1) (addO Z1 s1 5) (zeroI M1 s1) s1 (fun s2 Z2 M2 => L_L_law_21 Z2 L xs 35 M2 sz s1 1 0))
section ST
variable {p : Program} {l : Launch} {e : Env} {R : Room} {s : State} {m : MethodId} {args : Array Value} {below : List Frame} {meth : Method} {c : Code} {H H0 : Heap} {locs : List Loc} {cells slots : Nat} {Q : State → Prop}
variable {cc : ByteArray} {pc nL : Nat} {ls : Array Slot} {rest : List Value} {E : EE} {A : Nat → Prop} {Z : ZZ} {M : MM} {a sz : Nat} {own : String}
theorem ckq_v {y : MethodName} {C : String} {bytes : ByteArray} {maxL n idx mc0 ms0 : Nat} {rm : Room} {As : List Value} {b : Nat} (S : CallFix p m c cc nL s args W0 own) (hov : OV s) (h : wq E A Z M sz s H H0 locs) {Qm : Nat → ZZ → MM → Prop} (hM : Ckq_v l y bytes maxL none rm E Z M sz (.ref b :: As) Qm mc0 ms0) (hl : Cond.methodLink own idx y ∈ W0) (hi : Cond.instanceMethod y ∈ W0) (hini : Cond.initialized C ∈ W0) (hcw : Cond.code y bytes maxL none ∈ W0) (hd : cyd y C n) (hy1 : y.name = "<init>") (hrm : rm.cells = mc0 ∧ rm.slots = ms0) (hR : crm rm R maxL) (hn : As.length = n) (hls : ls.size = nL) (hrest : (rest.map fun v => v.category).sum ≤ 8) (hf : cells + mc0 ≤ R.cells ∧ slots + ms0 ≤ R.slots) (hdg : decode cc pc = .ok (.invokespecial idx, 3))
    (kk : ∀ (sz1 : Nat) (Z1 : ZZ) (M1 : MM) (H1 : Heap) (locs1 : List Loc), Qm sz1 Z1 M1 → wq E A Z1 M1 sz1 s H1 H0 locs1 → W p l e R s m args below meth c H1 locs1 (cells + mc0) (slots + ms0) Q (F0 m (pc + 3) ls rest)) : W p l e R s m args below meth c H locs cells slots Q (F0 m pc ls (As.reverse ++ .ref b :: rest)) := by
  have hsub := wq_sub h
  refine va_callv (va_runI (As := As) (rest := rest) S hM (cwI n S.2.2.2.2 (W0_cons hcw) rfl hrm.1 hrm.2 (by rw [hd.1]; exact S.2.2.2.2 _ hini) (S.2.2.2.2 _ hl) (S.2.2.2.2 _ hi) hy1 hd.2 hR) ⟨fun a U g mk q => ⟨q.1, OV_same U g mk a q.2.1, va_K.moved (Vm.Alike.refl U.vm) q.2.2.1, q.2.2.2⟩, fun U hU hW => ⟨rfl, OV_warm hW hov, va_K.moved hW.alike h.1.1, by rw [hU]; exact h.1.2.1, wq_D h, h.1.2.2.2.2, by rw [hU]; exact h.2.1⟩⟩ rfl hn hls rfl (lv_room hrest) hdg hf) h.1.2.2.2.1 (fun q _ hq => hsub q hq) (fun q hq => hsub q hq) (fun u t H1 locs1 ht hvm hw hB hz hk hS => ?_)
  obtain ⟨sz1, Z1, M1⟩ := u
  refine kk sz1 Z1 M1 H1 locs1 hw ⟨⟨h.1.1, by rw [← ht]; exact hB.2.1, hB.2.2.1.weaken (fun k q _ hq => hsub _ hq), hS, hB.2.2.2.1⟩, by rw [← ht]; exact hB.2.2.2.2, h.2.2⟩
end ST
theorem wz_over : Cond.arrayOver (.object "IceField$Ice") ∈ lw_tbl := List.mem_append_right _ (List.mem_of_getElem? (i := 87) (by decide +kernel))
theorem wz_n9 : Cond.methodLinkNest RX5 9 yX1_init RX5 ∈ lw_tbl := List.mem_append_right _ (List.mem_of_getElem? (i := 23) (by decide +kernel))
theorem wz_n32 : Cond.methodLinkNest RX5 32 yX3_init RX5 ∈ lw_tbl := List.mem_append_right _ (List.mem_of_getElem? (i := 90) (by decide +kernel))
theorem wz_n39 : Cond.methodLinkNest RX5 39 yX0_init RX5 ∈ lw_tbl := List.mem_append_right _ (List.mem_of_getElem? (i := 111) (by decide +kernel))
theorem wz_n46 : Cond.methodLinkNest RX5 46 yX4_init RX5 ∈ lw_tbl := List.mem_append_right _ (List.mem_of_getElem? (i := 129) (by decide +kernel))
theorem wk_L_10 : Cond.classLink RL 10 RX5 ∈ W0 := W0_at (i := 13) (by decide +kernel) (by decide +kernel)
theorem wl_L_75 : Cond.methodLink RL 75 yX5_init ∈ W0 := W0_at (i := 15) (by decide +kernel) (by decide +kernel)
theorem wi_X5_init : Cond.instanceMethod yX5_init ∈ W0 := W0_at (i := 16) (by decide +kernel) (by decide +kernel)
theorem wm_X5 : Cond.instantiable RX5 9 ∈ W0 := W0_at (i := 14) (by decide +kernel) (by decide +kernel)
theorem wc_X5_init : Cond.code yX5_init cX5_init 2 none ∈ W0 := W0_at (i := 17) (by decide +kernel) (by decide +kernel)
theorem yc_X5_init : cyd yX5_init RX5 0 := ⟨rfl, by decide +kernel, by decide +kernel, by decide +kernel⟩
set_option maxRecDepth 100000 in
set_option maxHeartbeats 4000000 in
theorem start_of {p : Program} {e : Env} {s : State} {m : MethodId} {below : List Frame} {meth : Method} {c : Code} (l : Launch) (hflags : l.flags = flags0) {b L : Nat} {xs : Nat → Int32} (C0 : lw_At p s m meth c b L xs) (hpure : pure_goal L xs s.heap.size) : W p l e room_1 s m #[Value.ref b] below meth c s.heap [] 0 0 (lw_Z below #[Value.ref b] s) (entryFrame m ([Value.ref b] : List Value).toArray 7) := by
  obtain ⟨hx, hb, hr, hml, hown, hts0, hX, hbl, hlocks, hgv⟩ := id C0
  have S : Cx p m c meth cL_law 7 s #[Value.ref b] RL (some .boolean) := ⟨⟨hx, hb, hml, hown, fun w hw => hts0 w (W0_tbl hw)⟩, hr, hlocks⟩
  obtain ⟨c0, i0, k0⟩ := u_known (C := RX0) (T := TX0) (N := 3) (n := 3) hts0 (fun w h => W0_tbl (wu_X0 w h)) (hts0 (.instantiable RX0 3) (W0_tbl wm_X0))
  obtain ⟨c1, i1, k1⟩ := u_known (C := RX1) (T := TX1) (N := 12) (n := 12) hts0 (fun w h => W0_tbl (wu_X1 w h)) (hts0 (.instantiable RX1 12) (W0_tbl wm_X1))
  obtain ⟨c2, i2, k2⟩ := u_known (C := RX2) (T := TX2) (N := 1) (n := 1) hts0 (fun w h => W0_tbl (wu_X2 w h)) (hts0 (.instantiable RX2 1) (W0_tbl wm_X2))
  obtain ⟨c3, i3, k3⟩ := u_known (C := RX3) (T := TX3) (N := 4) (n := 4) hts0 (fun w h => W0_tbl (wu_X3 w h)) (hts0 (.instantiable RX3 4) (W0_tbl wm_X3))
  obtain ⟨c4, i4, k4⟩ := u_known (C := RX4) (T := TX4) (N := 5) (n := 5) hts0 (fun w h => W0_tbl (wu_X4 w h)) (hts0 (.instantiable RX4 5) (W0_tbl wm_X4))
  obtain ⟨c5, i5, k5⟩ := u_known (C := RX5) (T := TX5) (N := 9) (n := 9) hts0 (fun w h => W0_tbl (wu_X5 w h)) (hts0 (.instantiable RX5 9) (W0_tbl wm_X5))
  obtain ⟨dC, dI, hKc⟩ : ∃ (dC : Nat → ClassId) (dI : Nat → Nat → Nat), ∀ (k : Nat) (q : vw_C), vwCl[k]? = some q → u_Kn s q.1 q.2.1 q.2.2 (dC k) (dI k) := by
    refine ⟨fun k => match k with | 0 => c0 | 1 => c1 | 2 => c2 | 3 => c3 | 4 => c4 | _ => c5, fun k => match k with | 0 => i0 | 1 => i1 | 2 => i2 | 3 => i3 | 4 => i4 | _ => i5, ?_⟩
    intro k q hq
    match k, hq with
    | 0, hq => cases hq; exact k0
    | 1, hq => cases hq; exact k1
    | 2, hq => cases hq; exact k2
    | 3, hq => cases hq; exact k3
    | 4, hq => cases hq; exact k4
    | 5, hq => cases hq; exact k5
    | k + 6, hq => simp [vwCl] at hq
  obtain ⟨cI, kI, compI, a1, a2, a3⟩ := Cond.arrayClass_spec (hts0 (.arrayClass .int) (W0_tbl wa_int))
  obtain ⟨comp, cO, kO, o1, o2, o3, o4, o5⟩ := Cond.arrayOver_spec (hts0 _ wz_over)
  obtain ⟨E, hE⟩ : ∃ E : EE, E = ((dC, dI), cI, cO, cO) := ⟨_, rfl⟩
  have hK : va_K E.1 vwCl (tyE E) s := by
    subst hE
    refine ⟨hKc, fun k q hq => ?_⟩
    match k, hq with
    | 0, hq => cases hq; exact ⟨fun n z => ⟨fun k h => (by cases h), kI, a2, compI, a3⟩, a1⟩
    | 1, hq => cases hq; exact ⟨fun n z => ⟨fun k h => (by cases h), kO, o3, comp, o4⟩, kO, comp, o3, o4, o1, o5⟩
    | k + 2, hq => simp at hq
  have hov : OV s := by
    refine ⟨va_AO.of (hts0 _ wz_over), fun q hq => ?_⟩
    simp only [nst, List.mem_cons, List.not_mem_nil, or_false] at hq
    rcases hq with rfl | rfl | rfl | rfl
    · exact va_Nw.of rfl (hts0 _ wz_n9)
    · exact va_Nw.of rfl (hts0 _ wz_n32)
    · exact va_Nw.of rfl (hts0 _ wz_n39)
    · exact va_Nw.of rfl (hts0 _ wz_n46)
  have hw : wq E (fun q => s.heap.size ≤ q) Z00 M00 s.heap.size s s.heap s.heap [] := ⟨⟨hK, fun k q h => by simp [ww, va_pl, Z00] at h, ⟨fun i j p q h => by simp [ww, va_pl, Z00] at h, fun k q h => by simp [ww, va_pl, Z00] at h⟩, va_S.rf, fun a h => absurd h (by simp [zK, Z00])⟩, rfl, fun q h => h⟩
  have h := hpure
  unfold pure_goal at h
  have hl := lv_entry ([.ref b]) (n := 7) (Nat.le_of_ble_eq_true rfl)
  rw [lg_entry_eq]
  generalize (lg_sl ([.ref b]) ++ List.replicate (7 - (lg_sl ([.ref b])).length) Slot.unset).toArray = ls at hl ⊢
  have hl : lv_has ls 7 [(0, .ref b)] := hl
  generalize hz0 : s.heap.size = sz0 at hw h
  refine wq_new (ci := 5) (fs := [.null, .null, .null, .int 0, .int 0, .null, .null, .null, .null]) (C := RX5) (T := TX5) (N := 9) S.1 hw rfl wu_X5 tyX5 tyX5_ok wk_L_10 wm_X5 wn_X5 zf_X5 (by rw [cell_5 (by simp [addO, va_up, zK])]; simp [addO, zeroI, va_rf, zR, mI]) (Nat.le_of_ble_eq_true rfl) (Nat.le_of_ble_eq_true rfl) dL_law_0 (fun H hw => ?_)
  refine lv_dup hx hb dL_law_3 rfl ?_
  refine ckq_v (mc0 := 85) (ms0 := 3430) (As := []) (rest := [.ref sz0]) S.1 hov hw (k_X5_init l E _ _ _ _ _ h) wl_L_75 wi_X5_init wn_X5 wc_X5_init yc_X5_init rfl ⟨rfl, rfl⟩ ⟨Nat.le_of_ble_eq_true rfl, Nat.le_of_ble_eq_true rfl⟩ rfl hl.1 (Nat.le_of_ble_eq_true rfl) ⟨Nat.le_of_ble_eq_true rfl, Nat.le_of_ble_eq_true rfl⟩ dL_law_4 (fun s1 Z1 M1 H locs h hw => ?_)
  refine lv_astore_n (lv' := [(1, .ref sz0), (0, .ref b)]) hx hb dL_law_7 rfl hl (by decide) rfl (fun ls hl => ?_)
  refine wq_new (ci := 5) (fs := [.null, .null, .null, .int 0, .int 0, .null, .null, .null, .null]) (C := RX5) (T := TX5) (N := 9) S.1 hw rfl wu_X5 tyX5 tyX5_ok wk_L_10 wm_X5 wn_X5 zf_X5 (by rw [cell_5 (by simp [addO, va_up, zK])]; simp [addO, zeroI, va_rf, zR, mI]) (Nat.le_of_ble_eq_true rfl) (Nat.le_of_ble_eq_true rfl) dL_law_8 (fun H hw => ?_)
  refine lv_dup hx hb dL_law_11 rfl ?_
  refine ckq_v (mc0 := 85) (ms0 := 3430) (As := []) (rest := [.ref s1]) S.1 hov hw (k_X5_init l E _ _ _ _ _ h) wl_L_75 wi_X5_init wn_X5 wc_X5_init yc_X5_init rfl ⟨rfl, rfl⟩ ⟨Nat.le_of_ble_eq_true rfl, Nat.le_of_ble_eq_true rfl⟩ rfl hl.1 (Nat.le_of_ble_eq_true rfl) ⟨Nat.le_of_ble_eq_true rfl, Nat.le_of_ble_eq_true rfl⟩ dL_law_12 (fun s2 Z2 M2 H locs h hw => ?_)
  refine lv_astore_n (lv' := [(2, .ref s1), (1, .ref sz0), (0, .ref b)]) hx hb dL_law_15 rfl hl (by decide) rfl (fun ls hl => ?_)
  refine lv_iconst (v := 1) hx hb dL_law_16 (by decide) ?_
  refine lv_istore_n (lv' := [(3, .int 1), (2, .ref s1), (1, .ref sz0), (0, .ref b)]) hx hb dL_law_17 rfl hl (by decide) rfl (fun ls hl => ?_)
  refine lv_iconst (v := 0) hx hb dL_law_18 (by decide) ?_
  refine lv_istore (lv' := [(4, .int 0), (3, .int 1), (2, .ref s1), (1, .ref sz0), (0, .ref b)]) hx hb dL_law_19 hl (by decide) rfl (fun ls hl => ?_)
  refine va_forget (fun q hq => by rw [hz0]; exact hw.1.2.2.2.1.2.2 q hq) ?_
  have hin : ∀ q, inL Z2 q → s.heap.size ≤ q := fun q hq => by rw [hz0]; exact wq_sub hw q (Or.inl hq)
  have hnA : ∀ q : Nat, q < s.heap.size → ¬ inL Z2 q := fun q h1 h2 => absurd (hin q h2) (Nat.not_le.mpr h1)
  have T : Lx l s b L xs Z2 := ⟨hX, hbl, hnA b hbl, hin⟩
  have hD : va_D (inL Z2) (ww E Z2 M2) := hw.1.2.2.1.weaken (fun k q hk _ => by
    have h1 : q ∈ ww E Z2 M2 := List.mem_of_getElem? hk
    obtain ⟨b, hb, rfl⟩ := List.mem_map.mp h1
    exact hb)
  have hS : va_S (inL Z2) s.heap H [] := ⟨hw.1.2.2.2.1.1, fun q h1 _ => hw.1.2.2.2.1.2.1 q h1 (by rw [← hz0]; exact Nat.not_le.mpr h1), fun _ h => nomatch h⟩
  exact wL_L_law_21 S T 35 M2 sz0 s1 1 0 h H [] ls ⟨hw.1.1, hw.1.2.1, hD, hS, hw.1.2.2.2.2⟩ (lv_sub hl [4, 3, 2, 1, 0] rfl)
