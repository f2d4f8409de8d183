abbrev strs : List (String × Nat × String) := [(RX5, 76, "an argument is out of range"), (RX5, 90, "more is out of range"), (RX5, 101, "the thickness would be more than 50"), (RX5, 107, "side is out of range"), (RX5, 113, "there is nothing to saw on this side"), (RX5, 142, "there is no block here that can float out"), (RX5, 152, "melt is out of range"), (RX5, 154, "days is out of range"), (RX5, 162, "what is out of range"), (RX5, 175, "index is negative"), (RX5, 191, "not so many are kept"), (RX5, 224, "value is out of range"), (RX5, 229, "the text is full"), (RX5, 251, "there is no saved state"), (RX5, 261, "there is no such cell"), (RX5, 265, "the rectangle is not within the field")]
/-! a method's standing facts, its ends, calls and throws that may leave by an exception -/
abbrev nms : List String := ["java/lang/RuntimeException", "java/lang/Exception"]
abbrev Cx (p : Program) (m : MethodId) (c : Code) (meth : Method) (cc : ByteArray) (nL : Nat) (s : State) (args : Array Value) (own : String) (ret : Option FieldType) : Prop := CallFix p m c cc nL s args W0 own ∧ meth.sig.returnType = ret ∧ meth.locks = false
abbrev dxs : List MethodName := [Bundle.initS "java/lang/RuntimeException", Bundle.initS "java/lang/Exception", Bundle.initS Bundle.tN]
abbrev exs : List String := ["java/lang/IndexOutOfBoundsException", "java/lang/IllegalArgumentException", "java/lang/IllegalStateException"]
def WX : List Cond := W0 ++ (dxs.map Cond.declares ++ exs.map (fun q => Cond.castable q q))
def sx (Z : ZZ) (U : State) : Prop := ((∀ y ∈ dxs, va_Nw (.declares y) U) ∧ (∀ q ∈ exs, va_Nw (.castable q q) U) ∧ (∀ q ∈ exs, ∀ r ∈ exs, q ≠ r → va_Nc q r U)) ∧ vx_Zq Bundle.tN "UNASSIGNED_STACK" Bundle.steD (inL Z) U U.heap ∧ vx_Zq Bundle.tN "SUPPRESSED_SENTINEL" Bundle.listD (inL Z) U U.heap ∧ ∀ q ∈ strs, ∃ sa : Nat, vk_R q.1 q.2.1 q.2.2 sa U
abbrev Tx (l : Launch) (c : Code) (Z : ZZ) (s : State) : Prop := l.stackTraces = false ∧ (∀ x ∈ c.exceptionTable.toList, False) ∧ sx Z s
abbrev WG (p : Program) (l : Launch) (e : Env) (R : Room) (s : State) (m : MethodId) (args : Array Value) (below : List Frame) (meth : Method) (c : Code) (cells slots : Nat) (Qs : State → Prop) (E : EE) (Z : ZZ) (M : MM) (pc nL : Nat) (lv : List (Nat × Value)) (st : List Value) : Prop := ∀ (H : Heap) (locs : List Loc) (ls : Array Slot), wo E Z M s H s.heap locs → lv_has ls nL lv → W p l e R s m args below meth c H locs cells slots Qs (F0 m pc ls st)
abbrev XCm (E : EE) (Z : ZZ) (X : String → MM → Prop) : String → State → State → Prop := vx_X (fun _ : MM => True) (fun E1 M1 t => X E1 M1 ∧ wU E Z M1 t) (inL Z)
abbrev MQi (below : List Frame) (E : EE) (Z : ZZ) (args : Array Value) (s : State) (Q : Int32 → MM → Prop) : State → Prop := MQ below (va_Qi Q (fun M1 t => wU E Z M1 t) (inL Z)) args s 0 0 (inL Z)
abbrev MQl (below : List Frame) (E : EE) (Z : ZZ) (args : Array Value) (s : State) (Q : Int64 → MM → Prop) : State → Prop := MQ below (va_Ql Q (fun M1 t => wU E Z M1 t) (inL Z)) args s 0 0 (inL Z)
abbrev MQv (below : List Frame) (E : EE) (Z : ZZ) (args : Array Value) (s : State) (Q : MM → Prop) : State → Prop := MQ below (va_Qv Q (fun M1 t => wU E Z M1 t) (inL Z)) args s 0 0 (inL Z)
abbrev MQq (below : List Frame) (E : EE) (Z : ZZ) (args : Array Value) (s : State) (Q : Option Nat → MM → Prop) : State → Prop := MQ below (va_Qq Q (fun M1 t => wU E Z M1 t) (inL Z)) args s 0 0 (inL Z)
abbrev MQxi (below : List Frame) (E : EE) (Z : ZZ) (args : Array Value) (s : State) (Q : Int32 → MM → Prop) (X : String → MM → Prop) (mc ms : Nat) : State → Prop := vx_MQ below (va_Qi Q (fun M1 t => wU E Z M1 t) (inL Z)) (XCm E Z X) args s mc ms (inL Z)
abbrev MQxv (below : List Frame) (E : EE) (Z : ZZ) (args : Array Value) (s : State) (Q : MM → Prop) (X : String → MM → Prop) (mc ms : Nat) : State → Prop := vx_MQ below (va_Qv Q (fun M1 t => wU E Z M1 t) (inL Z)) (XCm E Z X) args s mc ms (inL Z)
abbrev wUx (E : EE) (Z : ZZ) (M : MM) (U : State) : Prop := wU E Z M U ∧ sx Z U
abbrev Cxi (l : Launch) (y : MethodName) (cc : ByteArray) (n : Nat) (ret : Option FieldType) (rm : Room) (E : EE) (Z : ZZ) (M : MM) (av : List Value) (Q : Int32 → MM → Prop) (X : String → MM → Prop) (mc ms : Nat) : Prop := vx_Met l y (ws_ y cc n ret) rm (va_Pc av (wUx E Z M)) (va_Qi Q (fun M1 t => wU E Z M1 t) (inL Z)) (XCm E Z X) mc ms (inL Z)
abbrev Cxv (l : Launch) (y : MethodName) (cc : ByteArray) (n : Nat) (ret : Option FieldType) (rm : Room) (E : EE) (Z : ZZ) (M : MM) (av : List Value) (Q : MM → Prop) (X : String → MM → Prop) (mc ms : Nat) : Prop := vx_Met l y (ws_ y cc n ret) rm (va_Pc av (wUx E Z M)) (va_Qv Q (fun M1 t => wU E Z M1 t) (inL Z)) (XCm E Z X) mc ms (inL Z)
theorem sx_moved {Z : ZZ} {u U : State} {A : Nat → Prop} (h : sx Z u) (hW : u.WarmedH U.vm) (hk : ∀ q : Nat, q < u.heap.size → ¬ inL Z q → U.heap[q]? = u.heap[q]?) : sx Z U := ⟨⟨fun y hy => va_Nw.warmD hW (h.1.1 y hy), fun q hq => va_Nw.warmC hW (h.1.2.1 q hq), fun q hq r hr n => va_Nc.moved hW.alike (h.1.2.2 q hq r hr n)⟩, vx_Zq.moved hW.alike (h.2.1.kept hk), vx_Zq.moved hW.alike (h.2.2.1.kept hk), fun q hq => by obtain ⟨sa, h1⟩ := h.2.2.2 q hq; exact ⟨sa, vk_R.warm hW h1⟩⟩
theorem wUx_blind (E : EE) (Z : ZZ) (M : MM) (av : List Value) : FrameBlind (va_Pc av (wUx E Z M)) := fun a U g mk h => ⟨h.1, wU_moved h.2.1 (Vm.Alike.refl U.vm) rfl, ⟨fun y hy => va_Nw.same rfl rfl (h.2.2.1.1 y hy), fun q hq => va_Nw.same rfl rfl (h.2.2.1.2.1 q hq), fun q hq r hr n => va_Nc.moved (Vm.Alike.refl U.vm) (h.2.2.1.2.2 q hq r hr n)⟩, vx_Zq.moved (Vm.Alike.refl U.vm) h.2.2.2.1, vx_Zq.moved (Vm.Alike.refl U.vm) h.2.2.2.2.1, fun q hq => by obtain ⟨sa, h1⟩ := h.2.2.2.2.2 q hq; exact ⟨sa, vk_R.same rfl h1⟩⟩
def zb (v : Int32) : Prop := v = 0 ∨ v = 1
theorem zb_n {v : Int32} (h : zb v) : narrow .boolean (.int v) = .int v := by rcases h with rfl | rfl <;> rfl
section ENDS
variable {p : Program} {l : Launch} {e : Env} {R : Room} {s : State} {m : MethodId} {args : Array Value} {below : List Frame} {meth : Method} {c : Code} {H : Heap} {locs : List Loc} {cells slots : Nat}
variable {cc : ByteArray} {pc nL : Nat} {ls : Array Slot} {rest : List Value} {E : EE} {Z : ZZ} {M : MM} {own : String} {ret : Option FieldType}
theorem wo_end (h : wo E Z M s H s.heap locs) {t : State} (ht : t.heap = H) (hW : s.WarmedH t.vm) : wU E Z M t := ⟨va_K.moved hW.alike h.1, by rw [ht]; exact h.2.1, h.2.2.1, h.2.2.2.2⟩
theorem we_z (S : Cx p m c meth cc nL s args own ret) (h : wo E Z M s H s.heap locs) {r : Int32} {ty : FieldType} (hr : ret = some ty) (hn : narrow ty (.int r) = .int r) {Q : Int32 → MM → Prop} (hq : Q r M) (hdg : decode cc pc = .ok (.ireturn, 1)) : W p l e R s m args below meth c H locs cells slots (MQ below (va_Qi Q (fun M1 t => wU E Z M1 t) (inL Z)) args s cells slots (inL Z)) (F0 m pc ls [.int r]) :=
  W.zret S.1.1 S.1.2.1 (S.2.1.trans hr) hn (fun t ht hW => ⟨⟨r, M, rfl, hq, wo_end h ht hW⟩, h.2.2.2.1.F ht⟩) h.2.2.2.1.2.2 hdg S.2.2
theorem we_i (S : Cx p m c meth cc nL s args own (some .int)) (h : wo E Z M s H s.heap locs) {r : Int32} {Q : Int32 → MM → Prop} (hq : Q r M) (hdg : decode cc pc = .ok (.ireturn, 1)) : W p l e R s m args below meth c H locs cells slots (MQ below (va_Qi Q (fun M1 t => wU E Z M1 t) (inL Z)) args s cells slots (inL Z)) (F0 m pc ls [.int r]) := we_z S h rfl rfl hq hdg
theorem we_b (S : Cx p m c meth cc nL s args own (some .boolean)) (h : wo E Z M s H s.heap locs) {r : Int32} {Q : Int32 → MM → Prop} (hz : zb r) (hq : Q r M) (hdg : decode cc pc = .ok (.ireturn, 1)) : W p l e R s m args below meth c H locs cells slots (MQ below (va_Qi Q (fun M1 t => wU E Z M1 t) (inL Z)) args s cells slots (inL Z)) (F0 m pc ls [.int r]) := we_z S h rfl (zb_n hz) hq hdg
theorem we_l (S : Cx p m c meth cc nL s args own (some .long)) (h : wo E Z M s H s.heap locs) {r : Int64} {Q : Int64 → MM → Prop} (hq : Q r M) (hdg : decode cc pc = .ok (.lreturn, 1)) : W p l e R s m args below meth c H locs cells slots (MQ below (va_Ql Q (fun M1 t => wU E Z M1 t) (inL Z)) args s cells slots (inL Z)) (F0 m pc ls [.long r]) :=
  W.lret S.1.1 S.1.2.1 S.2.1 (fun t ht hW => ⟨⟨r, M, rfl, hq, wo_end h ht hW⟩, h.2.2.2.1.F ht⟩) h.2.2.2.1.2.2 hdg S.2.2
theorem we_v (S : Cx p m c meth cc nL s args own none) (h : wo E Z M s H s.heap locs) {Q : MM → Prop} (hq : Q M) (hdg : decode cc pc = .ok (.return_, 1)) : W p l e R s m args below meth c H locs cells slots (MQ below (va_Qv Q (fun M1 t => wU E Z M1 t) (inL Z)) args s cells slots (inL Z)) (F0 m pc ls []) :=
  W.vret S.1.1 S.1.2.1 S.2.1 (fun t ht hW => ⟨⟨M, rfl, hq, wo_end h ht hW⟩, h.2.2.2.1.F ht⟩) h.2.2.2.1.2.2 hdg S.2.2
theorem we_q {C : String} (S : Cx p m c meth cc nL s args own (some (.object C))) (h : wo E Z M s H s.heap locs) {r : Option Nat} {Q : Option Nat → MM → Prop} (hq : Q r M) (hdg : decode cc pc = .ok (.areturn, 1)) : W p l e R s m args below meth c H locs cells slots (MQ below (va_Qq Q (fun M1 t => wU E Z M1 t) (inL Z)) args s cells slots (inL Z)) (F0 m pc ls [va_rf r]) :=
  W.aret S.1.1 S.1.2.1 S.2.1 (Or.inl ⟨C, rfl⟩) (va_rf_or r) (fun t ht hW => ⟨⟨r, M, rfl, hq, wo_end h ht hW⟩, h.2.2.2.1.F ht⟩) h.2.2.2.1.2.2 hdg S.2.2
/-- an end of a method that may throw: its room widened to what its contract says -/
theorem wx_end {Qc : Array Value → State → Outcome → State → Prop} {XC : String → State → State → Prop} {mc ms : Nat} {free : Nat → Prop} {g : JFrame} (hc : cells ≤ mc) (hs : slots ≤ ms) (k : W p l e R s m args below meth c H locs mc ms (MQ below Qc args s mc ms free) g) : W p l e R s m args below meth c H locs cells slots (vx_MQ below Qc XC args s mc ms free) g := W.widen hc hs (vx_ret k)
theorem wx_word {Z : ZZ} {args : Array Value} {s : State} (hts : ∀ w ∈ W0, w.before args s = true) (h : sx Z s) {w : Cond} (hw : w ∈ WX) : w.before args s = true := by
  rcases List.mem_append.mp hw with hw | hw
  · exact hts w hw
  · rcases List.mem_append.mp hw with hw | hw
    · obtain ⟨y, hy, rfl⟩ := List.mem_map.mp hw
      exact va_Nw.use rfl (h.1.1 y hy)
    · obtain ⟨y, hy, rfl⟩ := List.mem_map.mp hw
      exact va_Nw.use rfl (h.1.2.1 y hy)
theorem wx_ot {w : Cond} (hw : w ∈ WX) : (w.onTables || goodWord w) = true := by
  rcases List.mem_append.mp hw with hw | hw
  · rw [W0_good hw, Bool.or_true]
  · rcases List.mem_append.mp hw with hw | hw
    · obtain ⟨y, hy, rfl⟩ := List.mem_map.mp hw
      rfl
    · obtain ⟨y, hy, rfl⟩ := List.mem_map.mp hw
      rfl
/-- 'throw new E("..")' -/
theorem wx_thS (S : Cx p m c meth cc nL s args own ret) (T : Tx l c Z s) (h : wo E Z M s H s.heap locs) {cls text : String} {ik is ic mc ms : Nat} (hcls : Bundle.fit cls = true) (hk : Cond.classLink own ik cls ∈ W0) (hini : Cond.initialized cls ∈ W0) (hstr : (own, is, text) ∈ strs) (hat : ∀ w ∈ vx_atS own ic cls nms, w ∈ WX) {Qc : Array Value → State → Outcome → State → Prop} {X : String → MM → Prop} (hX : X cls M) (hls : ls.size = nL)
    (d0 : decode cc pc = .ok (.new ik, 3)) (d3 : decode cc (pc + 3) = .ok (.dup, 1)) (d4 : decode cc (pc + 4) = .ok (.ldc is, 2)) (d6 : decode cc (pc + 6) = .ok (.invokespecial ic, 3)) (d9 : decode cc (pc + 9) = .ok (.athrow, 1))
    (hRf : nms.length + 3 < R.frames) (hRl : (rest.map fun v => v.category).sum + (13 * (nms.length + 1) + 43) ≤ R.locals) (hRc : cells + 1 ≤ R.cells) (hRs : slots + 6 ≤ R.slots) (hc : cells + 1 ≤ mc) (hs : slots + 6 ≤ ms) : W p l e R s m args below meth c H locs cells slots (vx_MQ below Qc (XCm E Z X) args s mc ms (inL Z)) (F0 m pc ls rest) := by
  have hts := S.1.2.2.2.2
  obtain ⟨sa, hsa⟩ := T.2.2.2.2.2 _ hstr
  refine vx_throwS S.1.1 S.1.2.1 T.1 S.1.2.2.2.1 hcls (names := nms) (by decide +kernel) (hts _ hk) (hts _ hini) hsa (fun w hw => wx_word hts T.2.2 (hat w hw)) ?_ T.2.2.2.1 T.2.2.2.2.1 h.2.2.2.1 (hls.trans S.1.2.2.1.symm) d0 d3 d4 d6 d9 (fun x hx => (T.2.1 x hx).elim) hRf hRl hRc hRs S.2.2 ?_ h.2.2.2.1.2.2 hc hs
  · intro w hw
    unfold vx_ot
    rcases List.mem_cons.mp hw with rfl | hw
    · rfl
    · rcases List.mem_cons.mp hw with rfl | hw
      · rfl
      · exact wx_ot (hat w hw)
  · intro t hvm hz hq
    refine ⟨M, trivial, ⟨hX, va_K.moved hvm h.1, h.2.1.kept (fun k q hk => hq q.1 (h.2.1 k q hk).lt), h.2.2.1, h.2.2.2.2⟩, Nat.le_trans h.2.2.2.1.1 hz, fun q h1 h2 => ?_⟩
    rw [hq q (Nat.lt_of_lt_of_le h1 h.2.2.2.1.1)]
    exact h.2.2.2.1.2.1 q h1 h2
theorem wx_thW (S : Cx p m c meth cc nL s args own ret) (T : Tx l c Z s) (h : wo E Z M s H s.heap locs) {cls text : String} {ik is ic mc ms : Nat} (hcls : Bundle.fit cls = true) (hk : Cond.classLink own ik cls ∈ W0) (hini : Cond.initialized cls ∈ W0) (hstr : (own, is, text) ∈ strs) (hat : ∀ w ∈ vx_atS own ic cls nms, w ∈ WX) {Qc : Array Value → State → Outcome → State → Prop} {X : String → MM → Prop} (hX : X cls M) (hls : ls.size = nL)
    (d0 : decode cc pc = .ok (.new ik, 3)) (d3 : decode cc (pc + 3) = .ok (.dup, 1)) (d4 : decode cc (pc + 4) = .ok (.ldc_w is, 3)) (d7 : decode cc (pc + 7) = .ok (.invokespecial ic, 3)) (d10 : decode cc (pc + 10) = .ok (.athrow, 1))
    (hRf : nms.length + 3 < R.frames) (hRl : (rest.map fun v => v.category).sum + (13 * (nms.length + 1) + 43) ≤ R.locals) (hRc : cells + 1 ≤ R.cells) (hRs : slots + 6 ≤ R.slots) (hc : cells + 1 ≤ mc) (hs : slots + 6 ≤ ms) : W p l e R s m args below meth c H locs cells slots (vx_MQ below Qc (XCm E Z X) args s mc ms (inL Z)) (F0 m pc ls rest) := by
  have hts := S.1.2.2.2.2
  obtain ⟨sa, hsa⟩ := T.2.2.2.2.2 _ hstr
  refine vx_throwSW S.1.1 S.1.2.1 T.1 S.1.2.2.2.1 hcls (names := nms) (by decide +kernel) (hts _ hk) (hts _ hini) hsa (fun w hw => wx_word hts T.2.2 (hat w hw)) ?_ T.2.2.2.1 T.2.2.2.2.1 h.2.2.2.1 (hls.trans S.1.2.2.1.symm) d0 d3 d4 d7 d10 (fun x hx => (T.2.1 x hx).elim) hRf hRl hRc hRs S.2.2 ?_ h.2.2.2.1.2.2 hc hs
  · intro w hw
    unfold vx_ot
    rcases List.mem_cons.mp hw with rfl | hw
    · rfl
    · rcases List.mem_cons.mp hw with rfl | hw
      · rfl
      · exact wx_ot (hat w hw)
  · intro t hvm hz hq
    refine ⟨M, trivial, ⟨hX, va_K.moved hvm h.1, h.2.1.kept (fun k q hk => hq q.1 (h.2.1 k q hk).lt), h.2.2.1, h.2.2.2.2⟩, Nat.le_trans h.2.2.2.1.1 hz, fun q h1 h2 => ?_⟩
    rw [hq q (Nat.lt_of_lt_of_le h1 h.2.2.2.1.1)]
    exact h.2.2.2.1.2.1 q h1 h2
/-- calls that may throw, from a method that lets it go on -/
theorem cx_v {y : MethodName} {C : String} {bytes : ByteArray} {maxL n idx mc0 ms0 mc ms : Nat} {rt : Option FieldType} {rm : Room} {As : List Value} {b : Nat} (S : Cx p m c meth cc nL s args own ret) (T : Tx l c Z s) (h : wo E Z M s H s.heap locs) {Qm : MM → Prop} {X : String → MM → Prop} (hM : Cxv l y bytes maxL rt rm E Z M (.ref b :: As) Qm X mc0 ms0) (hw : cwd own C idx y bytes maxL rt) (hd : cyd y C n) (hrm : rm.cells = mc0 ∧ rm.slots = ms0) (hR : crm rm R maxL) (hn : As.length = n) (hls : ls.size = nL) (hrest : (rest.map fun v => v.category).sum ≤ 8) {ci : Nat} {fs : List Value} {q : vw_C} (hc : vwCl[ci]? = some q) (hqC : q.1 = C) (ha : zK Z b < 10) (hcell : cellOf E Z M b = .inr (ci, fs)) (hf : cells + mc0 ≤ R.cells ∧ slots + ms0 ≤ R.slots) (hdg : decode cc pc = .ok (.invokevirtual idx, 3)) (hmc : cells + mc0 ≤ mc) (hms : slots + ms0 ≤ ms) {Qc : Array Value → State → Outcome → State → Prop}
    (kk : ∀ (M1 : MM) (H1 : Heap) (locs1 : List Loc), Qm M1 → wo E Z M1 s H1 s.heap locs1 → W p l e R s m args below meth c H1 locs1 (cells + mc0) (slots + ms0) (vx_MQ below Qc (XCm E Z X) args s mc ms (inL Z)) (F0 m (pc + 3) ls rest)) : W p l e R s m args below meth c H locs cells slots (vx_MQ below Qc (XCm E Z X) args s mc ms (inL Z)) (F0 m pc ls (As.reverse ++ .ref b :: rest)) := by
  obtain ⟨k0, hq⟩ := wo_place h ha
  rw [hcell] at hq
  subst hqC
  refine vx_callv (vx_runV (As := As) (rest := rest) S.1 hM (cwV n S.1.2.2.2.2 (cwd_good hw) rfl hrm.1 hrm.2 hd hR) ⟨wUx_blind E Z M _, va_recv h.1 h.2.1 (ci := ci) (q0 := k0) hc hq, fun U hU hW => ⟨rfl, wo_wU h hU hW, sx_moved (A := inL Z) T.2.2 hW (fun q h1 h2 => by rw [hU]; exact h.2.2.2.1.2.1 q h1 h2)⟩⟩ rfl hn hls rfl (lv_room hrest) hdg hf) h.2.2.2.1 (fun q _ h => h) (fun q h => h) (fun q _ h => h) ?_ (fun u t H1 locs1 ht hvm hw hB hz hk hS => kk u H1 locs1 hw (wo_back h.1 ht hB hS))
  intro E1 ce q9 u t H1 locs1 ht hvm _ hB hz hk hS hce hcv hcl
  refine vx_out (fun x hx => (T.2.1 x hx).elim) S.2.2 hce hcv hcl (fun t2 ht2 hvm2 => ⟨u, trivial, ⟨hB.1, va_K.moved hvm2 h.1, by rw [ht2, ← ht]; exact hB.2.2.1, hB.2.2.2.1, hB.2.2.2.2⟩, hS.F ht2⟩) hS.2.2 hmc hms
end ENDS
theorem wat_X5_78 : ∀ w ∈ vx_atS RX5 78 "java/lang/IllegalArgumentException" nms, w ∈ WX := by decide +kernel
theorem wat_X5_103 : ∀ w ∈ vx_atS RX5 103 "java/lang/IllegalStateException" nms, w ∈ WX := by decide +kernel
theorem wat_X5_177 : ∀ w ∈ vx_atS RX5 177 "java/lang/IndexOutOfBoundsException" nms, w ∈ WX := by decide +kernel
