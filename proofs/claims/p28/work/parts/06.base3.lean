abbrev Ct_d (l : Launch) (y : MethodName) (cc : ByteArray) (n : Nat) (ret : Option FieldType) (rm : Room) (E : EE) (Z : ZZ) (M : MM) (av : List Value) (Qm : UInt64 → MM → Prop) : Prop := Met l y (ws_ y cc n ret) rm (va_Pc av (wU E Z M)) (va_Qd Qm (fun M1 t => wU E Z M1 t) (inL Z)) 0 0 (inL Z)
abbrev MQd (below : List Frame) (E : EE) (Z : ZZ) (args : Array Value) (s : State) (Q : UInt64 → MM → Prop) : State → Prop := MQ below (va_Qd Q (fun M1 t => wU E Z M1 t) (inL Z)) args s 0 0 (inL Z)
abbrev Lx (l : Launch) (s : State) (b L : Nat) (xs : Nat → Int32) (Z : ZZ) : Prop := va_X b L xs s s.heap ∧ b < s.heap.size ∧ (¬ inL Z b) ∧ ∀ q, inL Z q → s.heap.size ≤ q
section DBL
variable {p : Program} {l : Launch} {e : Env} {R : Room} {s : State} {m : MethodId} {args : Array Value} {below : List Frame} {meth : Method} {c : Code} {H H0 : Heap} {locs : List Loc} {cells slots : Nat} {Q : State → Prop}
variable {cc : ByteArray} {pc nL : Nat} {ls : Array Slot} {rest : List Value} {E : EE} {Z : ZZ} {M : MM} {b : Nat} {own : String}
theorem cv_d {y : MethodName} {C : String} {bytes : ByteArray} {maxL n idx : Nat} {ret : Option FieldType} {rm : Room} {As : List Value} (S : CallFix p m c cc nL s args W0 own) (h : wo E Z M s H H0 locs) {Qm : UInt64 → MM → Prop} (hM : Ct_d l y bytes maxL ret rm E Z M (.ref b :: As) Qm) (hw : cwd own C idx y bytes maxL ret) (hd : cyd y C n) (hrm : rm.cells = 0 ∧ rm.slots = 0) (hR : crm rm R maxL) (hn : As.length = n) (hls : ls.size = nL) (hrest : (rest.map fun v => v.category).sum ≤ 8) {ci : Nat} {fs : List Value} {q : vw_C} (hc : vwCl[ci]? = some q) (hqC : q.1 = C) (ha : zK Z b < 10) (hcell : cellOf E Z M b = .inr (ci, fs)) (hf : cells ≤ R.cells ∧ slots ≤ R.slots) (hdg : decode cc pc = .ok (.invokevirtual idx, 3))
    (kk : ∀ (r : UInt64) (M1 : MM) (H1 : Heap) (locs1 : List Loc), Qm r M1 → wo E Z M1 s H1 H0 locs1 → W p l e R s m args below meth c H1 locs1 cells slots Q (F0 m (pc + 3) ls (.double r :: rest))) : W p l e R s m args below meth c H locs cells slots Q (F0 m pc ls (As.reverse ++ .ref b :: rest)) := by
  obtain ⟨k0, hq⟩ := wo_place h ha
  rw [hcell] at hq
  subst hqC
  exact va_calld (va_runV (As := As) (rest := rest) S hM (cwV n S.2.2.2.2 (cwd_good hw) rfl hrm.1 hrm.2 hd hR) ⟨wU_blind E Z M _, va_recv h.1 h.2.1 (ci := ci) (q0 := k0) hc hq, fun U hU hW => ⟨rfl, wo_wU h hU hW⟩⟩ rfl hn hls rfl (lv_room hrest) hdg hf) h.2.2.2.1 (fun q _ h => h) (fun q h => h) (fun r u t H1 locs1 ht hvm hw hB hz hk hS => kk r u H1 locs1 hw (wo_back h.1 ht hB hS))
theorem we_d (S : Cx p m c meth cc nL s args own (some .double)) (h : wo E Z M s H s.heap locs) {r : UInt64} {Q : UInt64 → MM → Prop} (hq : Q r M) (hdg : decode cc pc = .ok (.dreturn, 1)) : W p l e R s m args below meth c H locs cells slots (MQ below (va_Qd Q (fun M1 t => wU E Z M1 t) (inL Z)) args s cells slots (inL Z)) (F0 m pc ls [.double r]) :=
  W.dret S.1.1 S.1.2.1 S.2.1 (fun t ht hW => ⟨⟨r, M, rfl, hq, wo_end h ht hW⟩, h.2.2.2.1.F ht⟩) h.2.2.2.1.2.2 hdg S.2.2
end DBL
