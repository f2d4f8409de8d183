/-! methods with handlers, their calls; calls by a name whose throws are caught here -/
abbrev Ch_i (l : Launch) (y : MethodName) (cc : ByteArray) (n : Nat) (ret : Option FieldType) (hh : List (Nat × Nat × Nat × Nat)) (rm : Room) (E : EE) (Z : ZZ) (M : MM) (av : List Value) (Q : Int32 → MM → Prop) (mc ms : Nat) : Prop := Met l y (wsW_ y cc n ret hh) rm (va_Pc av (wUx E Z M)) (va_Qi Q (fun M1 t => wU E Z M1 t) (inL Z)) mc ms (inL Z)
abbrev MQh (below : List Frame) (E : EE) (Z : ZZ) (args : Array Value) (s : State) (Q : Int32 → MM → Prop) (mc ms : Nat) : State → Prop := MQ below (va_Qi Q (fun M1 t => wU E Z M1 t) (inL Z)) args s mc ms (inL Z)
abbrev Hx (l : Launch) (c : Code) (Z : ZZ) (s : State) (hh : List (Nat × Nat × Nat × Nat)) : Prop := l.stackTraces = false ∧ c.exceptionTable.toList = tableOf hh ∧ sx Z s
section CATCH
variable {p : Program} {l : Launch} {e : Env} {R : Room} {s : State} {m : MethodId} {args : Array Value} {below : List Frame} {meth : Method} {c : Code} {H H0 : Heap} {locs : List Loc} {cells slots : Nat} {Qs : State → Prop}
variable {cc : ByteArray} {pc nL : Nat} {ls : Array Slot} {rest : List Value} {E : EE} {Z : ZZ} {M : MM} {own : String} {ret : Option FieldType}
theorem ch_i {y : MethodName} {C : String} {bytes : ByteArray} {maxL n idx mc0 ms0 : Nat} {rt : Option FieldType} {rm : Room} {As : List Value} {b : Nat} (S : Cx p m c meth cc nL s args own ret) (hsx : sx Z s) (h : wo E Z M s H s.heap locs) {Qm : Int32 → MM → Prop} {X : String → MM → Prop} (hM : Cxi l y bytes maxL rt rm E Z M (.ref b :: As) Qm X mc0 ms0) (hw : cwd own C idx y bytes maxL rt) (hd : cyd y C n) (hrm : rm.cells = mc0 ∧ rm.slots = ms0) (hR : crm rm R maxL) (hn : As.length = n) (hls : ls.size = nL) (hrest : (rest.map fun v => v.category).sum ≤ 8) {ci : Nat} {fs : List Value} {q : vw_C} (hc : vwCl[ci]? = some q) (hqC : q.1 = C) (ha : zK Z b < 10) (hcell : cellOf E Z M b = .inr (ci, fs)) (hf : cells + mc0 ≤ R.cells ∧ slots + ms0 ≤ R.slots) (hdg : decode cc pc = .ok (.invokevirtual idx, 3))
    (kx : ∀ (E1 : String) (ce : Cell) (q9 : Addr) (M1 : MM) (H1 : Heap) (locs1 : List Loc), X E1 M1 → wo E Z M1 s H1 s.heap locs1 → H1[q9]? = some ce → ce.vm = .none → s.vm.findClass E1 = some ce.cls → vx_W p l e R s m args below meth c H1 locs1 (cells + mc0) (slots + ms0) Qs (F0 m pc ls rest) q9)
    (kk : ∀ (r : Int32) (M1 : MM) (H1 : Heap) (locs1 : List Loc), Qm r M1 → wo E Z M1 s H1 s.heap locs1 → W p l e R s m args below meth c H1 locs1 (cells + mc0) (slots + ms0) Qs (F0 m (pc + 3) ls (.int r :: rest))) : W p l e R s m args below meth c H locs cells slots Qs (F0 m pc ls (As.reverse ++ .ref b :: rest)) := by
  obtain ⟨k0, hq⟩ := wo_place h ha
  rw [hcell] at hq
  subst hqC
  exact vx_calli (vx_runV (As := As) (rest := rest) S.1 hM (cwV n S.1.2.2.2.2 (cwd_good hw) rfl hrm.1 hrm.2 hd hR) ⟨wUx_blind E Z M _, va_recv h.1 h.2.1 (ci := ci) (q0 := k0) hc hq, fun U hU hW => ⟨rfl, wo_wU h hU hW, sx_moved (A := inL Z) hsx hW (fun q h1 h2 => by rw [hU]; exact h.2.2.2.1.2.1 q h1 h2)⟩⟩ rfl hn hls rfl (lv_room hrest) hdg hf) h.2.2.2.1 (fun q _ h => h) (fun q h => h) (fun q _ h => h)
    (fun E1 ce q9 u t H1 locs1 ht hvm _ hB hz hk hS hce hcv hcl => kx E1 ce q9 u H1 locs1 hB.1 (wo_back h.1 ht hB.2 hS) hce hcv hcl)
    (fun r u t H1 locs1 ht hvm hw hB hz hk hS => kk r u H1 locs1 hw (wo_back h.1 ht hB hS))
abbrev cwsw (own : String) (idx : Nat) (y : MethodName) (bytes : ByteArray) (maxL : Nat) (ret : Option FieldType) (hh : List (Nat × Nat × Nat × Nat)) : Prop := (Cond.methodLink own idx y ∈ W0 ∧ Cond.static y ∈ W0 ∧ Cond.initialized own ∈ W0) ∧ Cond.codeWith y bytes maxL ret hh ∈ W0
theorem cwsw_good {own : String} {idx : Nat} {y : MethodName} {bytes : ByteArray} {maxL : Nat} {ret : Option FieldType} {hh : List (Nat × Nat × Nat × Nat)} (h : cwsw own idx y bytes maxL ret hh) (hy : y.cls = own) : GoodIn W0 (va_wsS own idx y (wsW_ y bytes maxL ret hh)) := by
  subst hy
  refine W0_app ?_ (W0_cons h.2)
  intro w hw
  simp only [List.mem_cons, List.not_mem_nil, or_false] at hw
  rcases hw with rfl | rfl | rfl
  · exact h.1.1
  · exact h.1.2.1
  · exact h.1.2.2
theorem csw_i {y : MethodName} {bytes : ByteArray} {maxL n idx mc0 ms0 : Nat} {rt : Option FieldType} {hh : List (Nat × Nat × Nat × Nat)} {rm : Room} {As : List Value} (S : CallFix p m c cc nL s args W0 own) (hsx : sx Z s) (h : wo E Z M s H s.heap locs) {Qm : Int32 → MM → Prop} (hM : Ch_i l y bytes maxL rt hh rm E Z M As Qm mc0 ms0) (hw : cwsw own idx y bytes maxL rt hh) (hd : cyd y own n) (hrm : rm.cells = mc0 ∧ rm.slots = ms0) (hR : crm rm R maxL) (hn : As.length = n) (hls : ls.size = nL) (hrest : (rest.map fun v => v.category).sum ≤ 8) (hf : cells + mc0 ≤ R.cells ∧ slots + ms0 ≤ R.slots) (hdg : decode cc pc = .ok (.invokestatic idx, 3))
    (kk : ∀ (r : Int32) (M1 : MM) (H1 : Heap) (locs1 : List Loc), Qm r M1 → wo E Z M1 s H1 s.heap locs1 → W p l e R s m args below meth c H1 locs1 (cells + mc0) (slots + ms0) Qs (F0 m (pc + 3) ls (.int r :: rest))) : W p l e R s m args below meth c H locs cells slots Qs (F0 m pc ls (As.reverse ++ rest)) := by
  exact va_calli (vx_runSW (As := As) (rest := rest) S hM (vx_cwSW n S.2.2.2.2 (cwsw_good hw hd.1) rfl hrm.1 hrm.2 hd.2 hR) ⟨wUx_blind E Z M _, fun U hU hW => ⟨rfl, wo_wU h hU hW, sx_moved (A := inL Z) hsx hW (fun q h1 h2 => by rw [hU]; exact h.2.2.2.1.2.1 q h1 h2)⟩⟩ rfl hn hls rfl (lv_room hrest) hdg hf) h.2.2.2.1 (fun q _ h => h) (fun q h => h) (fun r u t H1 locs1 ht hvm hw hB hz hk hS => kk r u H1 locs1 hw (wo_back h.1 ht hB hS))
end CATCH
abbrev Ct_d (l : Launch) (y : MethodName) (cc : ByteArray) (n : Nat) (ret : Option FieldType) (rm : Room) (E : EE) (Z : ZZ) (M : MM) (av : List Value) (Qm : UInt64 → MM → Prop) : Prop := Met l y (ws_ y cc n ret) rm (va_Pc av (wU E Z M)) (va_Qd Qm (fun M1 t => wU E Z M1 t) (inL Z)) 0 0 (inL Z)
abbrev MQd (below : List Frame) (E : EE) (Z : ZZ) (args : Array Value) (s : State) (Q : UInt64 → MM → Prop) : State → Prop := MQ below (va_Qd Q (fun M1 t => wU E Z M1 t) (inL Z)) args s 0 0 (inL Z)
abbrev Lx (l : Launch) (s : State) (b L : Nat) (xs : Nat → Int32) (Z : ZZ) : Prop := va_X b L xs s s.heap ∧ b < s.heap.size ∧ (¬ inL Z b) ∧ sx Z s ∧ l.stackTraces = false ∧ ∀ q, inL Z q → s.heap.size ≤ q
section DBL
variable {p : Program} {l : Launch} {e : Env} {R : Room} {s : State} {m : MethodId} {args : Array Value} {below : List Frame} {meth : Method} {c : Code} {H H0 : Heap} {locs : List Loc} {cells slots : Nat} {Q : State → Prop}
variable {cc : ByteArray} {pc nL : Nat} {ls : Array Slot} {rest : List Value} {E : EE} {Z : ZZ} {M : MM} {b : Nat} {own : String}
theorem cv_d {y : MethodName} {C : String} {bytes : ByteArray} {maxL n idx : Nat} {ret : Option FieldType} {rm : Room} {As : List Value} (S : CallFix p m c cc nL s args W0 own) (h : wo E Z M s H H0 locs) {Qm : UInt64 → MM → Prop} (hM : Ct_d l y bytes maxL ret rm E Z M (.ref b :: As) Qm) (hw : cwd own C idx y bytes maxL ret) (hd : cyd y C n) (hrm : rm.cells = 0 ∧ rm.slots = 0) (hR : crm rm R maxL) (hn : As.length = n) (hls : ls.size = nL) (hrest : (rest.map fun v => v.category).sum ≤ 8) {ci : Nat} {fs : List Value} {q : vw_C} (hc : vwCl[ci]? = some q) (hqC : q.1 = C) (ha : zK Z b < 10) (hcell : cellOf E Z M b = .inr (ci, fs)) (hf : cells ≤ R.cells ∧ slots ≤ R.slots) (hdg : decode cc pc = .ok (.invokevirtual idx, 3))
    (kk : ∀ (r : UInt64) (M1 : MM) (H1 : Heap) (locs1 : List Loc), Qm r M1 → wo E Z M1 s H1 H0 locs1 → W p l e R s m args below meth c H1 locs1 cells slots Q (F0 m (pc + 3) ls (.double r :: rest))) : W p l e R s m args below meth c H locs cells slots Q (F0 m pc ls (As.reverse ++ .ref b :: rest)) := by
  obtain ⟨k0, hq⟩ := wo_place h ha
  rw [hcell] at hq
  subst hqC
  exact va_calld (va_runV (As := As) (rest := rest) S hM (cwV n S.2.2.2.2 (cwd_good hw) rfl hrm.1 hrm.2 hd hR) ⟨wU_blind E Z M _, va_recv h.1 h.2.1 (ci := ci) (q0 := k0) hc hq, fun U hU hW => ⟨rfl, wo_wU h hU hW⟩⟩ rfl hn hls rfl (lv_room hrest) hdg hf) h.2.2.2.1 (fun q _ h => h) (fun q h => h) (fun r u t H1 locs1 ht hvm hw hB hz hk hS => kk r u H1 locs1 hw (wo_back h.1 ht hB hS))
theorem we_d (S : Cx p m c meth cc nL s args own (some .double)) (h : wo E Z M s H s.heap locs) {r : UInt64} {Q : UInt64 → MM → Prop} (hq : Q r M) (hdg : decode cc pc = .ok (.dreturn, 1)) : W p l e R s m args below meth c H locs cells slots (MQ below (va_Qd Q (fun M1 t => wU E Z M1 t) (inL Z)) args s cells slots (inL Z)) (F0 m pc ls [.double r]) :=
  W.dret S.1.1 S.1.2.1 S.2.1 (fun t ht hW => ⟨⟨r, M, rfl, hq, wo_end h ht hW⟩, h.2.2.2.1.F ht⟩) h.2.2.2.1.2.2 hdg S.2.2
end DBL
