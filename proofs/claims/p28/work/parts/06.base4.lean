/-! constructors: the pool grows; its next address is the heap's size -/
def addO (Z : ZZ) (a ci : Nat) : ZZ := (Z.1 ++ [a], va_up Z.2.1 a ci, fun r b => if b = a then none else Z.2.2.1 r b, Z.2.2.2.1, Z.2.2.2.2)
def addA (Z : ZZ) (a k n : Nat) : ZZ := (Z.1 ++ [a], va_up Z.2.1 a k, Z.2.2.1, va_up Z.2.2.2.1 a n, va_up Z.2.2.2.2 a (fun _ => none))
def setR (Z : ZZ) (r a : Nat) (y : Option Nat) : ZZ := (Z.1, Z.2.1, va_up Z.2.2.1 r (va_up (Z.2.2.1 r) a y), Z.2.2.2.1, Z.2.2.2.2)
def setG (Z : ZZ) (a : Nat) (g : Nat → Option Nat) : ZZ := (Z.1, Z.2.1, Z.2.2.1, Z.2.2.2.1, va_up Z.2.2.2.2 a g)
def zeroI (M : MM) (a : Nat) : MM := (fun f b => if b = a then 0 else M.1 f b, M.2)
theorem setR_at (Z : ZZ) (r a q : Nat) (y : Option Nat) : (setR Z r a y).2.2.1 q a = if q = r then y else Z.2.2.1 q a := by
  by_cases h : q = r
  · subst h; simp [setR, va_up]
  · simp [setR, va_up, h]
theorem setR_ne (Z : ZZ) (r a q : Nat) (y : Option Nat) {b : Nat} (h : b ≠ a) : (setR Z r a y).2.2.1 q b = Z.2.2.1 q b := by
  by_cases h2 : q = r
  · subst h2; simp [setR, va_up, h]
  · simp [setR, va_up, h2]
theorem okZ_addO {Z : ZZ} (h : okZ Z) (a ci : Nat) : okZ (addO Z a ci) := fun b hb => by
  by_cases e : b = a
  · subst e; simp [addO]
  · have : zK Z b < 10 := by simpa [addO, va_up, e, zK] using hb
    simp [addO, h b this]
theorem okZ_addA {Z : ZZ} (h : okZ Z) (a k n : Nat) : okZ (addA Z a k n) := fun b hb => by
  by_cases e : b = a
  · subst e; simp [addA]
  · have : zK Z b < 10 := by simpa [addA, va_up, e, zK] using hb
    simp [addA, h b this]
theorem cell_addO (E : EE) (Z : ZZ) (M : MM) (a ci : Nat) {b : Nat} (h : b ≠ a) : cellOf E (addO Z a ci) (zeroI M a) b = cellOf E Z M b := by
  simp only [cellOf, addO, zeroI, zK, zR, zN, zG, mI, mA, mJ, va_up_ne _ _ h, if_neg h]
theorem cell_addA (E : EE) (Z : ZZ) (M : MM) (a k n : Nat) (f : Nat → Int32) {b : Nat} (h : b ≠ a) : cellOf E (addA Z a k n) (setA M a f) b = cellOf E Z M b := by
  simp only [cellOf, addA, setA, zK, zR, zN, zG, mI, mA, mJ, va_up_ne _ _ h]
theorem cell_addJ (E : EE) (Z : ZZ) (M : MM) (a k n : Nat) (f : Nat → Int64) {b : Nat} (h : b ≠ a) : cellOf E (addA Z a k n) (setJ M a f) b = cellOf E Z M b := by
  simp only [cellOf, addA, setJ, zK, zR, zN, zG, mI, mA, mJ, va_up_ne _ _ h]
theorem cell_addQ (E : EE) (Z : ZZ) (M : MM) (a k n : Nat) {b : Nat} (h : b ≠ a) : cellOf E (addA Z a k n) M b = cellOf E Z M b := by
  simp only [cellOf, addA, zK, zR, zN, zG, mI, mA, mJ, va_up_ne _ _ h]
theorem cell_setR (E : EE) (Z : ZZ) (M : MM) (r a : Nat) (y : Option Nat) {b : Nat} (h : b ≠ a) : cellOf E (setR Z r a y) M b = cellOf E Z M b := by
  have e : (setR Z r a y).2.1 = Z.2.1 := rfl
  have e2 : (setR Z r a y).2.2.2 = Z.2.2.2 := rfl
  simp only [cellOf, zK, zR, zN, zG, mI, mA, mJ, setR_ne Z r a _ y h, e, e2]
theorem cell_setG (E : EE) (Z : ZZ) (M : MM) (a : Nat) (g : Nat → Option Nat) {b : Nat} (h : b ≠ a) : cellOf E (setG Z a g) M b = cellOf E Z M b := by
  simp only [cellOf, setG, zK, zR, zN, zG, mI, mA, mJ, va_up_ne _ _ h]
theorem ww_push {E : EE} {Z Z1 : ZZ} {M M1 : MM} {a : Nat} {e : va_E} (ha : a ∉ Z.1) (hL : Z1.1 = Z.1 ++ [a]) (h0 : cellOf E Z1 M1 a = e) (hn : ∀ b, b ≠ a → cellOf E Z1 M1 b = cellOf E Z M b) : ww E Z M ++ [(a, e)] = ww E Z1 M1 := by
  have h := va_pl_push (f := cellOf E Z M) (e := e) ha
  have hf : va_up (cellOf E Z M) a e = cellOf E Z1 M1 := by
    funext b
    by_cases hb : b = a
    · subst hb; rw [va_up_self, h0]
    · rw [va_up_ne _ _ hb, hn b hb]
  show va_pl Z.1 (cellOf E Z M) ++ [(a, e)] = va_pl Z1.1 (cellOf E Z1 M1)
  rw [h, hf, hL]
abbrev aA (Z : ZZ) (sz : Nat) : Nat → Prop := fun q => q ∈ Z.1 ∨ sz ≤ q
abbrev wV (E : EE) (Z : ZZ) (M : MM) (sz : Nat) (A : Nat → Prop) (U : State) : Prop := va_K E.1 vwCl (tyE E) U ∧ va_P E.1 vwCl (ww E Z M) U.heap ∧ va_D A (ww E Z M) ∧ okZ Z ∧ U.heap.size = sz
abbrev wq (E : EE) (A : Nat → Prop) (Z : ZZ) (M : MM) (sz : Nat) (s : State) (H H0 : Heap) (locs : List Loc) : Prop := (va_K E.1 vwCl (tyE E) s ∧ va_P E.1 vwCl (ww E Z M) H ∧ va_D A (ww E Z M) ∧ va_S A H0 H locs ∧ okZ Z) ∧ H.size = sz ∧ ∀ q, H0.size ≤ q → A q
abbrev Ck_v (l : Launch) (y : MethodName) (cc : ByteArray) (n : Nat) (ret : Option FieldType) (rm : Room) (E : EE) (Z : ZZ) (M : MM) (sz : Nat) (av : List Value) (Q : Nat → ZZ → MM → Prop) (mc ms : Nat) : Prop := Met l y (ws_ y cc n ret) rm (va_Pc av (wV E Z M sz (aA Z sz))) (va_Qv (fun u : Nat × ZZ × MM => Q u.1 u.2.1 u.2.2) (fun u t => wV E u.2.1 u.2.2 u.1 (aA Z sz) t) (aA Z sz)) mc ms (aA Z sz)
section KR
variable {p : Program} {l : Launch} {e : Env} {R : Room} {s : State} {m : MethodId} {args : Array Value} {below : List Frame} {meth : Method} {c : Code} {H H0 : Heap} {locs : List Loc} {cells slots : Nat} {Q : State → Prop}
variable {cc : ByteArray} {pc nL : Nat} {ls : Array Slot} {rest : List Value} {E : EE} {A : Nat → Prop} {Z : ZZ} {M : MM} {a sz : Nat} {own : String}
theorem wq_place (h : wq E A Z M sz s H H0 locs) (ha : zK Z a < 10) : ∃ k : Nat, (ww E Z M)[k]? = some (a, cellOf E Z M a) := va_pl_get (X := []) (f := cellOf E Z M) (h.1.2.2.2.2 a ha)
theorem wq_fresh (h : wq E A Z M sz s H H0 locs) : sz ∉ Z.1 := va_pl_fresh (X := []) (f := cellOf E Z M) h.1.2.1 (Nat.le_of_eq h.2.1)
theorem wq_set (h : wq E A Z M sz s H H0 locs) (ha : zK Z a < 10) {k0 : Nat} (hq : (ww E Z M)[k0]? = some (a, cellOf E Z M a)) {ce : va_E} {Z1 : ZZ} {M1 : MM} (hL : Z1.1 = Z.1) (hM : va_up (cellOf E Z M) a ce = cellOf E Z1 M1) : (ww E Z M).set k0 (a, ce) = ww E Z1 M1 := by
  have e1 := va_pl_set (X := []) (L := Z.1) (f := cellOf E Z M) (e := ce) h.1.2.2.1 (h.1.2.2.2.2 a ha) hq
  rw [hM] at e1
  show (va_pl Z.1 (cellOf E Z M)).set k0 (a, ce) = va_pl Z1.1 (cellOf E Z1 M1)
  rw [hL]
  exact e1
theorem wq_get (S : CallFix p m c cc nL s args W0 own) (h : wq E A Z M sz s H H0 locs) {ref C : String} {T : u_T} {N ci index : Nat} (hc : vwCl[ci]? = some (C, T, N)) (hin : ∀ w ∈ u_ws C T N, w ∈ W0) (k : Nat) (hk : k < N) (hlink : Cond.fieldLink own index ref (T k).2.1 (T k).2.2.1 ∈ W0) (hsame : (T k).1 = ref) {fs : List Value} (ha : zK Z a < 10) (hcell : cellOf E Z M a = .inr (ci, fs)) {r : Option Nat} {y : Nat} (hv : fs[k]? = some (va_rf r)) (hy : r = some y) (hdg : decode cc pc = .ok (.getfield index, 3))
    (kk : W p l e R s m args below meth c H locs cells slots Q (F0 m (pc + 3) ls (.ref y :: rest))) : W p l e R s m args below meth c H locs cells slots Q (F0 m pc ls (.ref a :: rest)) := by
  obtain ⟨k0, hq⟩ := wq_place h ha
  obtain ⟨hx, hb, hml, hown, hts⟩ := S
  obtain ⟨⟨hK, hP, hD, hS, hZ⟩, -⟩ := h
  rw [hcell] at hq
  subst hy
  exact va_get hx hb hts hin hown hK hP k0 hq hc k hk (hts _ hlink) (fun x hx => by rw [← hsame]; exact hx) hv hdg kk
theorem wq_put (S : CallFix p m c cc nL s args W0 own) (h : wq E A Z M sz s H H0 locs) {ref C : String} {T : u_T} {N ci index : Nat} (hc : vwCl[ci]? = some (C, T, N)) (hin : ∀ w ∈ u_ws C T N, w ∈ W0) (ty0 : Nat → FieldType) (hty : ∀ k, k < N → parseFieldDescriptor (T k).2.2.1 = some (ty0 k)) (hnm : ∀ a, a < N → ∀ b, b < N → a ≠ b → (T a).2.1 ≠ (T b).2.1) (k : Nat) (hk : k < N) (hlink : Cond.fieldLink own index ref (T k).2.1 (T k).2.2.1 ∈ W0) (hsame : (T k).1 = ref) (hfin : (T k).2.2.2 = false) (hd : parseFieldDescriptor (T k).2.2.1 = some .int) {fs : List Value} {x : Int32} (ha : zK Z a < 10) (hcell : cellOf E Z M a = .inr (ci, fs)) (hl : k < fs.length) {M1 : MM} (hM : va_up (cellOf E Z M) a (.inr (ci, fs.set k (.int x))) = cellOf E Z M1) (hdg : decode cc pc = .ok (.putfield index, 3))
    (kk : ∀ (H1 : Heap) (locs1 : List Loc), wq E A Z M1 sz s H1 H0 locs1 → W p l e R s m args below meth c H1 locs1 cells slots Q (F0 m (pc + 3) ls rest)) : W p l e R s m args below meth c H locs cells slots Q (F0 m pc ls (.int x :: .ref a :: rest)) := by
  obtain ⟨k0, hq⟩ := wq_place h ha
  have e1 := wq_set h ha hq (Z1 := Z) rfl hM
  obtain ⟨hx, hb, hml, hown, hts⟩ := S
  obtain ⟨⟨hK, hP, hD, hS, hZ⟩, hz, hA⟩ := h
  rw [hcell] at hq
  obtain ⟨r, h1, cell, q1, q2, q3, q4⟩ := hP k0 _ hq
  have hr : r = (C, T, N) := Option.some.inj (h1.symm.trans hc)
  subst hr
  obtain ⟨hS9, hfc, kC, hkC, hkind⟩ := hK.1 ci _ hc
  have hap := va_apart (own := own) hts hin ty0 hty hnm hK hc
  obtain ⟨cf, kf, fi, f, hi, hsl⟩ := hS9 k hk
  have hlay := hts _ (hin _ (u_in_lay hk))
  unfold u_lay at hlay
  rw [if_neg (by rw [hfin]; decide)] at hlay
  have hst := (u_facts hfc hkC (u_lays hts hin hk) hi).1
  have h6 := u_store hfc hkC hkind hlay hi hd (v := .int x) rfl rfl
  refine W.putK hx hb (f := f) ⟨hown, hts _ hlink, ⟨_, _, _, by rw [← hsame]; exact hi⟩, hst⟩ (by rw [q2]; exact h6) q1 q3 (by rw [hsl]; exact k2_hasslot (q4 k hk)) rfl rfl hdg fun H' e1' e2 e3 => ?_
  rw [hsl] at e1' ⊢
  have hP1 : va_P E.1 vwCl ((ww E Z M).set k0 (a, .inr (ci, fs.set k (.int x)))) H' := hP.set hD hq ⟨_, hc, t_OB.to (V := updV (vp_V fs) k (.int x)) ⟨_, e1', q2, q3, t_set q4 hap hk (.int x)⟩ (fun j _ => vp_updV_set hl (.int x) j)⟩ e3
  have hD1 := hD.set (e := .inr (ci, fs.set k (.int x))) hq
  rw [e1] at hP1 hD1
  exact kk H' _ ⟨⟨hK, hP1, hD1, hS.put e2 e3 (hD.2 k0 _ hq), hZ⟩, e2.trans hz, hA⟩
theorem wq_putF (S : CallFix p m c cc nL s args W0 own) (h : wq E A Z M sz s H H0 locs) {ref C : String} {T : u_T} {N ci index : Nat} (hc : vwCl[ci]? = some (C, T, N)) (hin : ∀ w ∈ u_ws C T N, w ∈ W0) (ty0 : Nat → FieldType) (hty : ∀ k, k < N → parseFieldDescriptor (T k).2.2.1 = some (ty0 k)) (hnm : ∀ a, a < N → ∀ b, b < N → a ≠ b → (T a).2.1 ≠ (T b).2.1) (k : Nat) (hk : k < N) (hlink : Cond.fieldLink own index ref (T k).2.1 (T k).2.2.1 ∈ W0) (hsame : (T k).1 = ref) (hfin : (T k).2.2.2 = true) (hin2 : meth.name = "<init>") (hdecl : (T k).1 = own) {ty : FieldType} {y : Nat} (hd : parseFieldDescriptor (T k).2.2.1 = some ty) (hn : narrow ty (.ref y) = .ref y) (hfit : fits ty (.ref y) = true) {fs : List Value} (ha : zK Z a < 10) (hcell : cellOf E Z M a = .inr (ci, fs)) (hl : k < fs.length) {r : Nat} (hM : va_up (cellOf E Z M) a (.inr (ci, fs.set k (.ref y))) = cellOf E (setR Z r a (some y)) M) (hdg : decode cc pc = .ok (.putfield index, 3))
    (kk : ∀ (H1 : Heap) (locs1 : List Loc), wq E A (setR Z r a (some y)) M sz s H1 H0 locs1 → W p l e R s m args below meth c H1 locs1 cells slots Q (F0 m (pc + 3) ls rest)) : W p l e R s m args below meth c H locs cells slots Q (F0 m pc ls (.ref y :: .ref a :: rest)) := by
  obtain ⟨k0, hq⟩ := wq_place h ha
  have e1 := wq_set h ha hq (Z1 := setR Z r a (some y)) rfl hM
  obtain ⟨hx, hb, hml, hown, hts⟩ := S
  obtain ⟨⟨hK, hP, hD, hS, hZ⟩, hz, hA⟩ := h
  rw [hcell] at hq
  obtain ⟨r9, h1, cell, q1, q2, q3, q4⟩ := hP k0 _ hq
  have hr : r9 = (C, T, N) := Option.some.inj (h1.symm.trans hc)
  subst hr
  obtain ⟨hS9, hfc, kC, hkC, hkind⟩ := hK.1 ci _ hc
  have hap := va_apart (own := own) hts hin ty0 hty hnm hK hc
  obtain ⟨cf, kf, fi, f, hi, hsl⟩ := hS9 k hk
  have hlay := hts _ (hin _ (u_in_lay hk))
  unfold u_lay at hlay
  rw [if_pos hfin] at hlay
  have hst := (u_facts hfc hkC (u_lays hts hin hk) hi).1
  have hcf : m.cls = cf := by
    obtain ⟨_, _, c', _, _, _, -, -, hf', -, -, -, hown2, -⟩ := Cond.laysFinal_spec hlay
    have e9 : c' = cf := by have := hi.symm.trans hf'; simp at this; exact this.1.symm
    rw [hdecl] at hown2
    rw [← e9]; exact Option.some.inj (hown.symm.trans hown2)
  have h6 := u_fits hfc hkC hkind (Or.inr hlay) hi hd hn hfit
  refine W.putFinK hx hb hown (hts _ hlink) (by rw [← hsame]; exact hi) hst hcf hin2 (by rw [q2]; exact h6) q1 q3 (by rw [hsl]; exact k2_hasslot (q4 k hk)) rfl rfl hdg fun H' e1' e2 e3 => ?_
  rw [hsl] at e1' ⊢
  have hP1 : va_P E.1 vwCl ((ww E Z M).set k0 (a, .inr (ci, fs.set k (.ref y)))) H' := hP.set hD hq ⟨_, hc, t_OB.to (V := updV (vp_V fs) k (.ref y)) ⟨_, e1', q2, q3, t_set q4 hap hk (.ref y)⟩ (fun j _ => vp_updV_set hl (.ref y) j)⟩ e3
  have hD1 := hD.set (e := .inr (ci, fs.set k (.ref y))) hq
  rw [e1] at hP1 hD1
  exact kk H' _ ⟨⟨hK, hP1, hD1, hS.put e2 e3 (hD.2 k0 _ hq), hZ⟩, e2.trans hz, hA⟩
theorem wq_iast (S : CallFix p m c cc nL s args W0 own) (h : wq E A Z M sz s H H0 locs) (ha : zK Z a = 7) {i x : Int32} (hin : vp_in i (zN Z a)) (hdg : decode cc pc = .ok (.iastore, 1))
    (kk : ∀ (H1 : Heap) (locs1 : List Loc), wq E A Z (setA M a (upd (mA M a) i.toNatClampNeg x)) sz s H1 H0 locs1 → W p l e R s m args below meth c H1 locs1 cells slots Q (F0 m (pc + 1) ls rest)) : W p l e R s m args below meth c H locs cells slots Q (F0 m pc ls (.int x :: .int i :: .ref a :: rest)) := by
  have hlt : zK Z a < 10 := by rw [ha]; decide
  obtain ⟨k0, hq⟩ := wq_place h hlt
  have e1 := wq_set h hlt hq (Z1 := Z) rfl (st_7 (f := upd (mA M a) i.toNatClampNeg x) ha)
  obtain ⟨⟨hK, hP, hD, hS, hZ⟩, hz, hA⟩ := h
  rw [cell_7 ha] at hq
  refine W.iast S.1 S.2.1 (hP k0 _ hq) ((hK.2 0 _ rfl).1 _ (fun j => .int (mA M a j))) (fun q => by cases q) (by show ¬ (i < 0 ∨ (arrV _ _ _).slots.size ≤ _); rw [arrV_size]; exact hin) rfl rfl hdg fun H1 e z oq => ?_
  have hP1 := hP.set (e := .inl (E.2.1, zN Z a, .inl (upd (mA M a) i.toNatClampNeg x))) hD hq (by
    show H1[a]? = some (vp_cell _ _)
    rw [e, vp_cell_i, vp_cell_i, arrV_store]
    congr 2
    funext q
    by_cases hq : q = i.toNatClampNeg
    · subst hq; simp [updV, upd]
    · simp [updV, upd, hq]) oq
  have hD1 := hD.set (e := .inl (E.2.1, zN Z a, .inl (upd (mA M a) i.toNatClampNeg x))) hq
  rw [e1] at hP1 hD1
  exact kk H1 _ ⟨⟨hK, hP1, hD1, hS.put z oq (hD.2 k0 _ hq), hZ⟩, z.trans hz, hA⟩
theorem wq_alen8 (S : CallFix p m c cc nL s args W0 own) (h : wq E A Z M sz s H H0 locs) (ha : zK Z a = 8) (hdg : decode cc pc = .ok (.arraylength, 1))
    (kk : W p l e R s m args below meth c H locs cells slots Q (F0 m (pc + 1) ls (.int (nI (zN Z a)) :: rest))) : W p l e R s m args below meth c H locs cells slots Q (F0 m pc ls (.ref a :: rest)) := by
  obtain ⟨k0, hq⟩ := wq_place h (by rw [ha]; decide)
  rw [cell_8 ha] at hq
  exact va_alen S.1 S.2.1 h.1.1 h.1.2.1 k0 1 hq (ty := .object "IceField$Ice") rfl rfl hdg kk
end KR
section KN
variable {p : Program} {l : Launch} {e : Env} {R : Room} {s : State} {m : MethodId} {args : Array Value} {below : List Frame} {meth : Method} {c : Code} {H H0 : Heap} {locs : List Loc} {cells slots : Nat} {Q : State → Prop}
variable {cc : ByteArray} {pc nL : Nat} {ls : Array Slot} {rest : List Value} {E : EE} {A : Nat → Prop} {Z : ZZ} {M : MM} {a sz : Nat} {own : String}
theorem wq_grow (h : wq E A Z M sz s H H0 locs) {ce : va_E} {H1 : Heap} {Z1 : ZZ} {M1 : MM} (z1 : H1.size = H.size + 1) (o1 : ∀ q : Nat, q < H.size → H1[q]? = H[q]?) (hat : va_at E.1 vwCl (sz, ce) H1) (hpush : ww E Z M ++ [(sz, ce)] = ww E Z1 M1) (hok : okZ Z1) : wq E A Z1 M1 (sz + 1) s H1 H0 locs := by
  obtain ⟨⟨hK, hP, hD, hS, hZ⟩, hz, hA⟩ := h
  subst hz
  have hk : ∀ (k : Nat) (x : Nat × va_E), (ww E Z M)[k]? = some x → H1[x.1]? = H[x.1]? := fun k x hx => o1 x.1 ((hP k x hx).lt)
  have hP1 : va_P E.1 vwCl (ww E Z M ++ [(H.size, ce)]) H1 := (hP.kept hk).app (fun k x hx => by
    have hz : k < 1 := (List.getElem?_eq_some_iff.mp hx).1
    rw [show k = 0 by omega] at hx
    cases hx
    exact hat)
  have hD1 := hD.push (e := ce) hP rfl (hA _ hS.1)
  rw [hpush] at hP1 hD1
  exact ⟨⟨hK, hP1, hD1, ⟨Nat.le_trans hS.1 (by omega), fun x h1 h2 => (o1 x (Nat.lt_of_lt_of_le h1 hS.1)).trans (hS.2.1 x h1 h2), hS.2.2⟩, hok⟩, z1, hA⟩
theorem wq_new (S : CallFix p m c cc nL s args W0 own) (h : wq E A Z M sz s H H0 locs) {C : String} {T : u_T} {N ci index : Nat} (hc : vwCl[ci]? = some (C, T, N)) (hin : ∀ w ∈ u_ws C T N, w ∈ W0) (ty : Nat → FieldType) (hty : ∀ k, k < N → parseFieldDescriptor (T k).2.2.1 = some (ty k)) (hcl : Cond.classLink own index C ∈ W0) (hinst : Cond.instantiable C N ∈ W0) (hini : Cond.initialized C ∈ W0) {fs : List Value} (hfs : ∀ j, j < N → defaultValue (ty j) = vp_V fs j) (hcell : cellOf E (addO Z sz ci) (zeroI M sz) sz = .inr (ci, fs)) (hcells : cells + 1 ≤ R.cells) (hslots : slots + N ≤ R.slots) (hdg : decode cc pc = .ok (.new index, 3))
    (kk : ∀ (H1 : Heap), wq E A (addO Z sz ci) (zeroI M sz) (sz + 1) s H1 H0 locs → W p l e R s m args below meth c H1 locs (cells + 1) (slots + N) Q (F0 m (pc + 3) ls (.ref sz :: rest))) : W p l e R s m args below meth c H locs cells slots Q (F0 m pc ls rest) := by
  have hpush := ww_push (E := E) (Z1 := addO Z sz ci) (M1 := zeroI M sz) (wq_fresh h) rfl hcell (fun b hb => cell_addO E Z M sz ci hb)
  obtain ⟨hx, hb, hml, hown, hts⟩ := S
  have hKn := h.1.1.1 ci _ hc
  have hz := h.2.1
  refine W.newcK hx hb hown (hts _ hcl) (hts _ hinst) (hts _ hini) rfl hdg hcells hslots hKn.2.1 rfl fun H1 kC hkC e1 z1 o1 => ?_
  rw [hz] at e1 z1 o1 ⊢
  refine kk H1 (wq_grow (ce := .inr (ci, fs)) h (by omega) (fun q hq => o1 q (by omega)) ⟨_, hc, (u_born ty hts hin hKn hkC e1 hty).to hfs⟩ hpush (okZ_addO h.1.2.2.2.2 _ _))
theorem wq_newi (S : CallFix p m c cc nL s args W0 own) (h : wq E A Z M sz s H H0 locs) (harr : Cond.arrayClass .int ∈ W0) {n : Int32} {N : Nat} (hn : ¬ n < 0) (hN : n.toNatClampNeg = N) (hbytes : N * componentBytes .int ≤ 536870912) (hcells : cells + 1 ≤ R.cells) (hslots : slots + N ≤ R.slots) (hdg : decode cc pc = .ok (.newarray .int, 2))
    (kk : ∀ (H1 : Heap), wq E A (addA Z sz 7 N) (setA M sz (fun _ => 0)) (sz + 1) s H1 H0 locs → W p l e R s m args below meth c H1 locs (cells + 1) (slots + N) Q (F0 m (pc + 2) ls (.ref sz :: rest))) : W p l e R s m args below meth c H locs cells slots Q (F0 m pc ls (.int n :: rest)) := by
  have hcell : cellOf E (addA Z sz 7 N) (setA M sz (fun _ => 0)) sz = .inl (E.2.1, N, .inl (fun _ => 0)) := by
    rw [cell_7 (by simp [addA, va_up, zK])]
    simp [addA, setA, va_up, mA, zN]
  have hpush := ww_push (E := E) (Z1 := addA Z sz 7 N) (M1 := setA M sz (fun _ => 0)) (wq_fresh h) rfl hcell (fun b hb => cell_addA E Z M sz 7 N _ hb)
  obtain ⟨hx, hb, hml, hown, hts⟩ := S
  refine va_newaK (atype := .int) hx hb (hts _ harr) rfl hdg rfl hn hN hbytes hcells hslots h.2.1 fun H1 cA e1 z1 o1 hAr hNm => ?_
  have hcA : cA = E.2.1 := Option.some.inj (hNm.symm.trans (h.1.1.2 0 _ rfl).2)
  subst hcA
  refine kk H1 (wq_grow h (by rw [z1, h.2.1]) (fun q hq => o1 q (by rw [← h.2.1]; exact hq)) ?_ hpush (okZ_addA h.1.2.2.2.2 _ _ _))
  show H1[sz]? = some (vp_cell _ _)
  rw [vp_cell_i]
  exact e1
theorem wq_newq (S : CallFix p m c cc nL s args W0 own) (h : wq E A Z M sz s H H0 locs) (hover : va_AO "IceField$Ice" s) {index : Nat} (hclink : Cond.classLink own index "IceField$Ice" ∈ W0) {n : Int32} {N : Nat} (hn : ¬ n < 0) (hN : n.toNatClampNeg = N) (hbytes : N * 4 ≤ 536870912) (hcells : cells + 1 ≤ R.cells) (hslots : slots + N ≤ R.slots) (hdg : decode cc pc = .ok (.anewarray index, 3))
    (kk : ∀ (H1 : Heap), wq E A (addA Z sz 8 N) M (sz + 1) s H1 H0 locs → W p l e R s m args below meth c H1 locs (cells + 1) (slots + N) Q (F0 m (pc + 3) ls (.ref sz :: rest))) : W p l e R s m args below meth c H locs cells slots Q (F0 m pc ls (.int n :: rest)) := by
  have hcell : cellOf E (addA Z sz 8 N) M sz = .inl (E.2.2.1, N, .inr (.inr (.inr (.inr (fun _ => none))))) := by
    rw [cell_8 (by simp [addA, va_up, zK])]
    simp [addA, va_up, zN, zG]
  have hpush := ww_push (E := E) (Z1 := addA Z sz 8 N) (M1 := M) (wq_fresh h) rfl hcell (fun b hb => cell_addQ E Z M sz 8 N hb)
  obtain ⟨hx, hb, hml, hown, hts⟩ := S
  subst hN
  refine W.anew hx hb hown (hts _ hclink) (va_AO.use hover) rfl hdg rfl hn hbytes hcells hslots fun cA kA comp f1 f2 f3 f4 => ?_
  generalize hH1 : H.push ({ cls := cA, slots := Array.replicate n.toNatClampNeg .null, vm := .none } : Cell) = H1
  have z1 : H1.size = H.size + 1 := by rw [← hH1, Array.size_push]
  have e1 : H1[H.size]? = some (arrV cA n.toNatClampNeg (fun _ => .null)) := by rw [← hH1, Array.getElem?_push_size, ← arrV_new]
  have o1 : ∀ q : Nat, q < H.size → H1[q]? = H[q]? := fun q hq => by rw [← hH1, Array.getElem?_push, if_neg (Nat.ne_of_lt hq)]
  have hcA : cA = E.2.2.1 := by
    obtain ⟨_, _, _, _, _, h9⟩ := (h.1.1.2 1 _ rfl).2
    exact Option.some.inj (f1.symm.trans h9)
  subst hcA
  have hz := h.2.1
  rw [hz] at e1 ⊢
  refine kk H1 (wq_grow h (by rw [z1, hz]) o1 ?_ hpush (okZ_addA h.1.2.2.2.2 _ _ _))
  show H1[sz]? = some (vp_cell _ _)
  rw [vp_cell_q]
  exact e1
theorem wq_astq (S : CallFix p m c cc nL s args W0 own) (h : wq E A Z M sz s H H0 locs) (ha : zK Z a = 8) {y : Nat} (hy : zK Z y = 1) {i : Int32} (hin : vp_in i (zN Z a)) (hdg : decode cc pc = .ok (.aastore, 1))
    (kk : ∀ (H1 : Heap) (locs1 : List Loc), wq E A (setG Z a (va_up (zG Z a) i.toNatClampNeg (some y))) M sz s H1 H0 locs1 → W p l e R s m args below meth c H1 locs1 cells slots Q (F0 m (pc + 1) ls rest)) : W p l e R s m args below meth c H locs cells slots Q (F0 m pc ls (.ref y :: .int i :: .ref a :: rest)) := by
  have hlt : zK Z a < 10 := by rw [ha]; decide
  obtain ⟨k0, hq⟩ := wq_place h hlt
  obtain ⟨k1, hq1⟩ := wq_place h (a := y) (by rw [hy]; decide)
  have e1 := wq_set h hlt hq (Z1 := setG Z a (va_up (zG Z a) i.toNatClampNeg (some y))) (M1 := M) (ce := .inl (E.2.2.1, zN Z a, .inr (.inr (.inr (.inr (va_up (zG Z a) i.toNatClampNeg (some y))))))) rfl (by
    funext b
    by_cases hb : b = a
    · subst hb
      rw [va_up_self, cell_8 (by exact ha)]
      simp [setG, va_up, zN, zG]
    · rw [va_up_ne _ _ hb, cell_setG E Z M a _ hb])
  obtain ⟨⟨hK, hP, hD, hS, hZ⟩, hz, hA⟩ := h
  rw [cell_8 ha] at hq
  rw [cell_1 hy] at hq1
  have hlt : i.toNatClampNeg < zN Z a := Nat.not_le.mp fun q => hin (Or.inr q)
  have h0 : ¬ i < 0 := fun q => hin (Or.inl q)
  obtain ⟨r', hr', cellV, g1, g2, g3, -⟩ := hP k1 _ hq1
  have hcls := (hK.1 1 (RX1, TX1, 12) rfl).2
  obtain ⟨kA, comp, q1, q2, q3, -⟩ := (hK.2 1 _ rfl).2
  have hcomp : comp = E.1.1 1 := Option.some.inj (q3.symm.trans hcls.1)
  subst hcomp
  obtain ⟨kC, hkC, -⟩ := hcls.2
  refine W.aast S.1 S.2.1 (hP k0 _ hq) (fun q h => by cases h) (fun h => by cases h) q1 q2 rfl hkC ⟨h0, by show _ < (arrV _ _ _).slots.size; rw [arrV_size]; exact hlt⟩ g1 (fun q h => by rw [g3] at h; cases h) (by rw [g2]; exact hkC) (by rw [g2]; exact va_assign hcls) rfl rfl hdg fun H1 e z oq => ?_
  have hP1 := hP.set (e := .inl (E.2.2.1, zN Z a, .inr (.inr (.inr (.inr (va_up (zG Z a) i.toNatClampNeg (some y))))))) hD hq (by
    show H1[a]? = some (vp_cell _ _)
    rw [e, vp_cell_q, vp_cell_q, arrV_store]
    congr 2
    funext q
    by_cases hq : q = i.toNatClampNeg
    · subst hq; simp [updV, va_up, va_rf]
    · simp [updV, va_up, hq]) oq
  have hD1 := hD.set (e := .inl (E.2.2.1, zN Z a, .inr (.inr (.inr (.inr (va_up (zG Z a) i.toNatClampNeg (some y))))))) hq
  rw [e1] at hP1 hD1
  exact kk H1 _ ⟨⟨hK, hP1, hD1, hS.put z oq (hD.2 k0 _ hq), hZ⟩, z.trans hz, hA⟩
theorem wV_blind (E : EE) (Z : ZZ) (M : MM) (sz : Nat) (A : Nat → Prop) (av : List Value) : FrameBlind (va_Pc av (wV E Z M sz A)) := fun a U g mk h => ⟨h.1, va_K.moved (Vm.Alike.refl U.vm) h.2.1, h.2.2.1, h.2.2.2.1, h.2.2.2.2.1, h.2.2.2.2.2⟩
theorem wq_sub (h : wq E A Z M sz s H H0 locs) : ∀ q, aA Z sz q → A q := fun q hq => by
  rcases hq with hq | hq
  · obtain ⟨k, hk⟩ := va_pl_get (X := []) (f := cellOf E Z M) hq
    exact h.1.2.2.1.2 k _ hk
  · exact h.2.2 q (Nat.le_trans h.1.2.2.2.1.1 (by rw [h.2.1]; exact hq))
theorem wq_D (h : wq E A Z M sz s H H0 locs) : va_D (aA Z sz) (ww E Z M) := h.1.2.2.1.weaken (fun k q hk _ => by
    obtain ⟨i, hi⟩ : ∃ i : Nat, (ww E Z M)[i]? = some q := ⟨k, hk⟩
    have h1 : q ∈ ww E Z M := List.mem_of_getElem? hi
    obtain ⟨b, hb, rfl⟩ := List.mem_map.mp h1
    exact Or.inl hb)
/-- a constructor's call -/
theorem ck_v {y : MethodName} {C : String} {bytes : ByteArray} {maxL n idx mc0 ms0 : Nat} {rm : Room} {As : List Value} {b : Nat} (S : CallFix p m c cc nL s args W0 own) (h : wq E A Z M sz s H H0 locs) {Qm : Nat → ZZ → MM → Prop} (hM : Ck_v l y bytes maxL none rm E Z M sz (.ref b :: As) Qm mc0 ms0) (hl : Cond.methodLink own idx y ∈ W0) (hi : Cond.instanceMethod y ∈ W0) (hini : Cond.initialized C ∈ W0) (hcw : Cond.code y bytes maxL none ∈ W0) (hd : cyd y C n) (hy1 : y.name = "<init>") (hrm : rm.cells = mc0 ∧ rm.slots = ms0) (hR : crm rm R maxL) (hn : As.length = n) (hls : ls.size = nL) (hrest : (rest.map fun v => v.category).sum ≤ 8) (hf : cells + mc0 ≤ R.cells ∧ slots + ms0 ≤ R.slots) (hdg : decode cc pc = .ok (.invokespecial idx, 3))
    (kk : ∀ (sz1 : Nat) (Z1 : ZZ) (M1 : MM) (H1 : Heap) (locs1 : List Loc), Qm sz1 Z1 M1 → wq E A Z1 M1 sz1 s H1 H0 locs1 → W p l e R s m args below meth c H1 locs1 (cells + mc0) (slots + ms0) Q (F0 m (pc + 3) ls rest)) : W p l e R s m args below meth c H locs cells slots Q (F0 m pc ls (As.reverse ++ .ref b :: rest)) := by
  have hsub := wq_sub h
  refine va_callv (va_runI (As := As) (rest := rest) S hM (cwI n S.2.2.2.2 (W0_cons hcw) rfl hrm.1 hrm.2 (by rw [hd.1]; exact S.2.2.2.2 _ hini) (S.2.2.2.2 _ hl) (S.2.2.2.2 _ hi) hy1 hd.2 hR) ⟨wV_blind E Z M sz _ _, fun U hU hW => ⟨rfl, va_K.moved hW.alike h.1.1, by rw [hU]; exact h.1.2.1, wq_D h, h.1.2.2.2.2, by rw [hU]; exact h.2.1⟩⟩ rfl hn hls rfl (lv_room hrest) hdg hf) h.1.2.2.2.1 (fun q _ hq => hsub q hq) (fun q hq => hsub q hq) (fun u t H1 locs1 ht hvm hw hB hz hk hS => ?_)
  obtain ⟨sz1, Z1, M1⟩ := u
  refine kk sz1 Z1 M1 H1 locs1 hw ⟨⟨h.1.1, by rw [← ht]; exact hB.2.1, hB.2.2.1.weaken (fun k q _ hq => hsub _ hq), hS, hB.2.2.2.1⟩, by rw [← ht]; exact hB.2.2.2.2, h.2.2⟩
abbrev nst : List (Nat × MethodName) := [(9, yX1_init), (32, yX3_init), (39, yX0_init), (46, yX4_init)]
def OV (U : State) : Prop := va_AO "IceField$Ice" U ∧ ∀ q ∈ nst, va_Nw (.methodLinkNest RX5 q.1 q.2 RX5) U
theorem OV_warm {u U : State} (hW : u.WarmedH U.vm) (h : OV u) : OV U := ⟨va_AO.moved hW.alike h.1, fun q hq => va_Nw.warmM hW (h.2 q hq)⟩
theorem OV_same (U : State) (g : JFrame) (mk : MethodId) (a : Array Value) (h : OV U) : OV (U.calling g mk a) := ⟨va_AO.moved (Vm.Alike.refl U.vm) h.1, fun q hq => va_Nw.same rfl rfl (h.2 q hq)⟩
/-- the same, by a link that the nest lets -/
theorem ckn_v {y : MethodName} {C : String} {bytes : ByteArray} {maxL n idx mc0 ms0 : Nat} {rm : Room} {As : List Value} {b : Nat} (S : CallFix p m c cc nL s args W0 RX5) (hov : OV s) (h : wq E A Z M sz s H H0 locs) {Qm : Nat → ZZ → MM → Prop} (hM : Ck_v l y bytes maxL none rm E Z M sz (.ref b :: As) Qm mc0 ms0) (hl : (idx, y) ∈ nst) (hi : Cond.instanceMethod y ∈ W0) (hini : Cond.initialized C ∈ W0) (hcw : Cond.code y bytes maxL none ∈ W0) (hd : cyd y C n) (hy1 : y.name = "<init>") (hrm : rm.cells = mc0 ∧ rm.slots = ms0) (hR : crm rm R maxL) (hn : As.length = n) (hls : ls.size = nL) (hrest : (rest.map fun v => v.category).sum ≤ 8) (hf : cells + mc0 ≤ R.cells ∧ slots + ms0 ≤ R.slots) (hdg : decode cc pc = .ok (.invokespecial idx, 3))
    (kk : ∀ (sz1 : Nat) (Z1 : ZZ) (M1 : MM) (H1 : Heap) (locs1 : List Loc), Qm sz1 Z1 M1 → wq E A Z1 M1 sz1 s H1 H0 locs1 → W p l e R s m args below meth c H1 locs1 (cells + mc0) (slots + ms0) Q (F0 m (pc + 3) ls rest)) : W p l e R s m args below meth c H locs cells slots Q (F0 m pc ls (As.reverse ++ .ref b :: rest)) := by
  have hsub := wq_sub h
  refine va_callv (va_runIN (As := As) (rest := rest) S hM ⟨va_cnB n S.2.2.2.2 (W0_cons hcw) rfl hrm.1 hrm.2 (hov.2 _ hl) (by rw [hd.1]; exact S.2.2.2.2 _ hini) hd.2 hR, hy1, S.2.2.2.2 _ hi⟩ ⟨wV_blind E Z M sz _ _, fun U hU hW => ⟨rfl, va_K.moved hW.alike h.1.1, by rw [hU]; exact h.1.2.1, wq_D h, h.1.2.2.2.2, by rw [hU]; exact h.2.1⟩⟩ rfl hn hls rfl (lv_room hrest) hdg hf) h.1.2.2.2.1 (fun q _ hq => hsub q hq) (fun q hq => hsub q hq) (fun u t H1 locs1 ht hvm hw hB hz hk hS => ?_)
  obtain ⟨sz1, Z1, M1⟩ := u
  refine kk sz1 Z1 M1 H1 locs1 hw ⟨⟨h.1.1, by rw [← ht]; exact hB.2.1, hB.2.2.1.weaken (fun k q _ hq => hsub _ hq), hS, hB.2.2.2.1⟩, by rw [← ht]; exact hB.2.2.2.2, h.2.2⟩
/-- a call of a method that makes nothing, from a constructor -/
theorem cq_v {y : MethodName} {C : String} {bytes : ByteArray} {maxL n idx : Nat} {ret : Option FieldType} {rm : Room} {As : List Value} {b : Nat} (S : CallFix p m c cc nL s args W0 own) (h : wq E A Z M sz s H H0 locs) {Qm : MM → Prop} (hM : Ct_v l y bytes maxL ret rm E Z M (.ref b :: As) Qm) (hw : cwd own C idx y bytes maxL ret) (hd : cyd y C n) (hrm : rm.cells = 0 ∧ rm.slots = 0) (hR : crm rm R maxL) (hn : As.length = n) (hls : ls.size = nL) (hrest : (rest.map fun v => v.category).sum ≤ 8) {ci : Nat} {fs : List Value} {q : vw_C} (hc : vwCl[ci]? = some q) (hqC : q.1 = C) (ha : zK Z b < 10) (hcell : cellOf E Z M b = .inr (ci, fs)) (hf : cells ≤ R.cells ∧ slots ≤ R.slots) (hdg : decode cc pc = .ok (.invokevirtual idx, 3))
    (kk : ∀ (M1 : MM) (sz1 : Nat) (H1 : Heap) (locs1 : List Loc), sz ≤ sz1 → Qm M1 → wq E A Z M1 sz1 s H1 H0 locs1 → W p l e R s m args below meth c H1 locs1 cells slots Q (F0 m (pc + 3) ls rest)) : W p l e R s m args below meth c H locs cells slots Q (F0 m pc ls (As.reverse ++ .ref b :: rest)) := by
  have hsub := wq_sub h
  have hin : ∀ q, inL Z q → A q := fun q hq => hsub q (Or.inl hq)
  have hDL : va_D (inL Z) (ww E Z M) := h.1.2.2.1.weaken (fun k q hk _ => by
    have h1 : q ∈ ww E Z M := List.mem_of_getElem? hk
    obtain ⟨b, hb, rfl⟩ := List.mem_map.mp h1
    exact hb)
  obtain ⟨k0, hq⟩ := wq_place h ha
  rw [hcell] at hq
  subst hqC
  refine va_callv (va_runV (As := As) (rest := rest) S hM (cwV n S.2.2.2.2 (cwd_good hw) rfl hrm.1 hrm.2 hd hR) ⟨wU_blind E Z M _, va_recv h.1.1 h.1.2.1 (ci := ci) (q0 := k0) hc hq, fun U hU hW => ⟨rfl, va_K.moved hW.alike h.1.1, by rw [hU]; exact h.1.2.1, hDL, h.1.2.2.2.2⟩⟩ rfl hn hls rfl (lv_room hrest) hdg hf) h.1.2.2.2.1 (fun q _ hq => hin q hq) (fun q hq => hin q hq) (fun u t H1 locs1 ht hvm hw hB hz hk hS => ?_)
  exact kk u H1.size H1 locs1 (by rw [← h.2.1]; exact hz) hw ⟨⟨h.1.1, by rw [← ht]; exact hB.2.1, hB.2.2.1.weaken (fun k q _ hq => hin _ hq), hS, hB.2.2.2⟩, rfl, h.2.2⟩
end KN
abbrev WK (p : Program) (l : Launch) (e : Env) (R : Room) (s : State) (m : MethodId) (args : Array Value) (below : List Frame) (meth : Method) (c : Code) (cells slots : Nat) (Qs : State → Prop) (E : EE) (A : Nat → Prop) (Z : ZZ) (M : MM) (sz : Nat) (pc nL : Nat) (lv : List (Nat × Value)) (st : List Value) : Prop := ∀ (H : Heap) (locs : List Loc) (ls : Array Slot), wq E A Z M sz s H s.heap locs → lv_has ls nL lv → W p l e R s m args below meth c H locs cells slots Qs (F0 m pc ls st)
abbrev Ckq_v (l : Launch) (y : MethodName) (cc : ByteArray) (n : Nat) (ret : Option FieldType) (rm : Room) (E : EE) (Z : ZZ) (M : MM) (sz : Nat) (av : List Value) (Q : Nat → ZZ → MM → Prop) (mc ms : Nat) : Prop := Met l y (ws_ y cc n ret) rm (va_Pc av (fun U => OV U ∧ wV E Z M sz (aA Z sz) U)) (va_Qv (fun u : Nat × ZZ × MM => Q u.1 u.2.1 u.2.2) (fun u t => wV E u.2.1 u.2.2 u.1 (aA Z sz) t) (aA Z sz)) mc ms (aA Z sz)
theorem wq_start {E : EE} {Z : ZZ} {M : MM} {sz : Nat} {s : State} (h : wV E Z M sz (aA Z sz) s) : wq E (aA Z sz) Z M sz s s.heap s.heap [] := ⟨⟨h.1, h.2.1, h.2.2.1, va_S.rf, h.2.2.2.1⟩, h.2.2.2.2, fun q hq => Or.inr (by rw [← h.2.2.2.2]; exact hq)⟩
theorem we_k {p : Program} {l : Launch} {e : Env} {R : Room} {s : State} {m : MethodId} {args : Array Value} {below : List Frame} {meth : Method} {c : Code} {H : Heap} {locs : List Loc} {cells slots : Nat} {cc : ByteArray} {pc nL : Nat} {ls : Array Slot} {E : EE} {A : Nat → Prop} {Z : ZZ} {M : MM} {sz : Nat} {own : String} (S : Cx p m c meth cc nL s args own none) (h : wq E A Z M sz s H s.heap locs) {Q : Nat → ZZ → MM → Prop} (hq : Q sz Z M) (hdg : decode cc pc = .ok (.return_, 1)) : W p l e R s m args below meth c H locs cells slots (MQ below (va_Qv (fun u : Nat × ZZ × MM => Q u.1 u.2.1 u.2.2) (fun u t => wV E u.2.1 u.2.2 u.1 A t) A) args s cells slots A) (F0 m pc ls []) :=
  W.vret S.1.1 S.1.2.1 S.2.1 (fun t ht hW => ⟨⟨(sz, Z, M), rfl, hq, va_K.moved hW.alike h.1.1, by rw [ht]; exact h.1.2.1, h.1.2.2.1, h.1.2.2.2.2, by rw [ht]; exact h.2.1⟩, h.1.2.2.2.1.F ht⟩) h.1.2.2.2.1.2.2 hdg S.2.2
