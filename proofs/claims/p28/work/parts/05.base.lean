/-! the words of every method: those of the tables that keep -/
def W0 : List Cond := lw_tbl.filter goodWord
theorem W0_in {w : Cond} (h : w ∈ lw_tbl) (g : goodWord w = true) : w ∈ W0 := List.mem_filter.mpr ⟨h, g⟩
theorem W0_tbl {w : Cond} (h : w ∈ W0) : w ∈ lw_tbl := (List.mem_filter.mp h).1
theorem W0_good {w : Cond} (h : w ∈ W0) : goodWord w = true := (List.mem_filter.mp h).2
theorem W0_at {i : Nat} {w : Cond} (h : tables_1[i]? = some w) (g : goodWord w = true) : w ∈ W0 := W0_in (List.mem_append_right _ (List.mem_of_getElem? h)) g
theorem W0_se {i : Nat} {w : Cond} (h : (k2_sels lw_privs)[i]? = some w) (g : goodWord w = true) : w ∈ W0 := W0_in (List.mem_append_left _ (List.mem_of_getElem? h)) g
abbrev ws_ (y : MethodName) (cc : ByteArray) (n : Nat) (ret : Option FieldType) : List Cond := Cond.code y cc n ret :: W0
abbrev wsW_ (y : MethodName) (cc : ByteArray) (n : Nat) (ret : Option FieldType) (hh : List (Nat × Nat × Nat × Nat)) : List Cond := Cond.codeWith y cc n ret hh :: W0
theorem W0_cons {x : Cond} (h : x ∈ W0) : GoodIn W0 (x :: W0) := fun w hw => by
  rcases List.mem_cons.mp hw with e | hw
  · rw [e]; exact ⟨h, good_of_word (W0_good h)⟩
  · exact ⟨hw, good_of_word (W0_good hw)⟩
theorem W0_app {a : List Cond} (h : ∀ w ∈ a, w ∈ W0) {b : List Cond} (hb : GoodIn W0 b) : GoodIn W0 (a ++ b) := fun w hw => by
  rcases List.mem_append.mp hw with hw | hw
  · exact ⟨h w hw, good_of_word (W0_good (h w hw))⟩
  · exact hb w hw
/-! the pool: its skeleton Z (addresses, kinds, references, lengths, arrays of references) and what moves M (ints of objects by field and address, int arrays, long arrays) -/
abbrev EE : Type := va_G × ClassId × ClassId × ClassId
abbrev ZZ : Type := List Nat × (Nat → Nat) × (Nat → Nat → Option Nat) × (Nat → Nat) × (Nat → Nat → Option Nat)
abbrev MM : Type := (Nat → Nat → Int32) × (Nat → Nat → Int32) × (Nat → Nat → Int64)
abbrev zK (Z : ZZ) : Nat → Nat := Z.2.1
abbrev zR (Z : ZZ) : Nat → Nat → Option Nat := Z.2.2.1
abbrev zN (Z : ZZ) : Nat → Nat := Z.2.2.2.1
abbrev zG (Z : ZZ) : Nat → Nat → Option Nat := Z.2.2.2.2
abbrev mI (M : MM) : Nat → Nat → Int32 := M.1
abbrev mA (M : MM) : Nat → Nat → Int32 := M.2.1
abbrev mJ (M : MM) : Nat → Nat → Int64 := M.2.2
def setI (M : MM) (f a : Nat) (x : Int32) : MM := (va_up M.1 f (va_up (M.1 f) a x), M.2)
def setA (M : MM) (a : Nat) (f : Nat → Int32) : MM := (M.1, va_up M.2.1 a f, M.2.2)
def setJ (M : MM) (a : Nat) (f : Nat → Int64) : MM := (M.1, M.2.1, va_up M.2.2 a f)
theorem setI_at (M : MM) (f a g : Nat) (x : Int32) : (setI M f a x).1 g a = if g = f then x else M.1 g a := by
  by_cases h : g = f
  · subst h; simp [setI, va_up]
  · simp [setI, va_up, h]
theorem setI_ne (M : MM) (f a g : Nat) (x : Int32) {b : Nat} (h : b ≠ a) : (setI M f a x).1 g b = M.1 g b := by
  by_cases h2 : g = f
  · subst h2; simp [setI, va_up, h]
  · simp [setI, va_up, h2]
theorem setI_2 (M : MM) (f a : Nat) (x : Int32) : (setI M f a x).2 = M.2 := rfl
def cellOf (E : EE) (Z : ZZ) (M : MM) (a : Nat) : va_E := match zK Z a with
  | 0 => .inr (0, [va_rf (zR Z 0 a), va_rf (zR Z 1 a), va_rf (zR Z 2 a)])
  | 1 => .inr (1, [.int (mI M 0 a), .int (mI M 1 a), .int (mI M 2 a), .int (mI M 3 a), .int (mI M 4 a), .int (mI M 5 a), .int (mI M 6 a), .int (mI M 7 a), va_rf (zR Z 3 a), va_rf (zR Z 4 a), va_rf (zR Z 5 a), va_rf (zR Z 6 a)])
  | 2 => .inr (2, [va_rf (zR Z 7 a)])
  | 3 => .inr (3, [va_rf (zR Z 8 a), .int (mI M 8 a), .int (mI M 9 a), .int (mI M 10 a)])
  | 4 => .inr (4, [va_rf (zR Z 9 a), va_rf (zR Z 10 a), .int (mI M 11 a), va_rf (zR Z 11 a), va_rf (zR Z 12 a)])
  | 5 => .inr (5, [va_rf (zR Z 13 a), va_rf (zR Z 14 a), va_rf (zR Z 15 a), .int (mI M 12 a), .int (mI M 13 a), va_rf (zR Z 16 a), va_rf (zR Z 17 a), va_rf (zR Z 18 a), va_rf (zR Z 19 a)])
  | 7 => .inl (E.2.1, zN Z a, .inl (mA M a))
  | 8 => .inl (E.2.2.1, zN Z a, .inr (.inr (.inr (.inr (zG Z a)))))
  | 9 => .inl (E.2.2.2, zN Z a, .inr (.inl (mJ M a)))
  | _ => .inl (E.2.1, 0, .inl (fun _ => 0))
theorem cell_0 {E : EE} {Z : ZZ} {M : MM} {a : Nat} (h : zK Z a = 0) : cellOf E Z M a = .inr (0, [va_rf (zR Z 0 a), va_rf (zR Z 1 a), va_rf (zR Z 2 a)]) := by simp only [cellOf, h]
theorem cell_1 {E : EE} {Z : ZZ} {M : MM} {a : Nat} (h : zK Z a = 1) : cellOf E Z M a = .inr (1, [.int (mI M 0 a), .int (mI M 1 a), .int (mI M 2 a), .int (mI M 3 a), .int (mI M 4 a), .int (mI M 5 a), .int (mI M 6 a), .int (mI M 7 a), va_rf (zR Z 3 a), va_rf (zR Z 4 a), va_rf (zR Z 5 a), va_rf (zR Z 6 a)]) := by simp only [cellOf, h]
theorem cell_2 {E : EE} {Z : ZZ} {M : MM} {a : Nat} (h : zK Z a = 2) : cellOf E Z M a = .inr (2, [va_rf (zR Z 7 a)]) := by simp only [cellOf, h]
theorem cell_3 {E : EE} {Z : ZZ} {M : MM} {a : Nat} (h : zK Z a = 3) : cellOf E Z M a = .inr (3, [va_rf (zR Z 8 a), .int (mI M 8 a), .int (mI M 9 a), .int (mI M 10 a)]) := by simp only [cellOf, h]
theorem cell_4 {E : EE} {Z : ZZ} {M : MM} {a : Nat} (h : zK Z a = 4) : cellOf E Z M a = .inr (4, [va_rf (zR Z 9 a), va_rf (zR Z 10 a), .int (mI M 11 a), va_rf (zR Z 11 a), va_rf (zR Z 12 a)]) := by simp only [cellOf, h]
theorem cell_5 {E : EE} {Z : ZZ} {M : MM} {a : Nat} (h : zK Z a = 5) : cellOf E Z M a = .inr (5, [va_rf (zR Z 13 a), va_rf (zR Z 14 a), va_rf (zR Z 15 a), .int (mI M 12 a), .int (mI M 13 a), va_rf (zR Z 16 a), va_rf (zR Z 17 a), va_rf (zR Z 18 a), va_rf (zR Z 19 a)]) := by simp only [cellOf, h]
theorem cell_7 {E : EE} {Z : ZZ} {M : MM} {a : Nat} (h : zK Z a = 7) : cellOf E Z M a = .inl (E.2.1, zN Z a, .inl (mA M a)) := by simp only [cellOf, h]
theorem cell_8 {E : EE} {Z : ZZ} {M : MM} {a : Nat} (h : zK Z a = 8) : cellOf E Z M a = .inl (E.2.2.1, zN Z a, .inr (.inr (.inr (.inr (zG Z a))))) := by simp only [cellOf, h]
theorem cell_9 {E : EE} {Z : ZZ} {M : MM} {a : Nat} (h : zK Z a = 9) : cellOf E Z M a = .inl (E.2.2.2, zN Z a, .inr (.inl (mJ M a))) := by simp only [cellOf, h]
theorem cell_ne (E : EE) (Z : ZZ) (M : MM) (f a : Nat) (x : Int32) {b : Nat} (h : b ≠ a) : cellOf E Z (setI M f a x) b = cellOf E Z M b := by
  simp only [cellOf, mI, mA, mJ, setI_ne M f a _ x h, setI_2]
theorem st_1_0 (E : EE) (Z : ZZ) (M : MM) (a : Nat) (x : Int32) (h : zK Z a = 1) : va_up (cellOf E Z M) a (.inr (1, [.int x, .int (mI M 1 a), .int (mI M 2 a), .int (mI M 3 a), .int (mI M 4 a), .int (mI M 5 a), .int (mI M 6 a), .int (mI M 7 a), va_rf (zR Z 3 a), va_rf (zR Z 4 a), va_rf (zR Z 5 a), va_rf (zR Z 6 a)])) = cellOf E Z (setI M 0 a x) := by
  funext b
  by_cases hb : b = a
  · subst hb
    rw [va_up_self, cell_1 h]
    simp [setI_at]
  · rw [va_up_ne _ _ hb, cell_ne E Z M 0 a x hb]
theorem st_1_1 (E : EE) (Z : ZZ) (M : MM) (a : Nat) (x : Int32) (h : zK Z a = 1) : va_up (cellOf E Z M) a (.inr (1, [.int (mI M 0 a), .int x, .int (mI M 2 a), .int (mI M 3 a), .int (mI M 4 a), .int (mI M 5 a), .int (mI M 6 a), .int (mI M 7 a), va_rf (zR Z 3 a), va_rf (zR Z 4 a), va_rf (zR Z 5 a), va_rf (zR Z 6 a)])) = cellOf E Z (setI M 1 a x) := by
  funext b
  by_cases hb : b = a
  · subst hb
    rw [va_up_self, cell_1 h]
    simp [setI_at]
  · rw [va_up_ne _ _ hb, cell_ne E Z M 1 a x hb]
theorem st_1_2 (E : EE) (Z : ZZ) (M : MM) (a : Nat) (x : Int32) (h : zK Z a = 1) : va_up (cellOf E Z M) a (.inr (1, [.int (mI M 0 a), .int (mI M 1 a), .int x, .int (mI M 3 a), .int (mI M 4 a), .int (mI M 5 a), .int (mI M 6 a), .int (mI M 7 a), va_rf (zR Z 3 a), va_rf (zR Z 4 a), va_rf (zR Z 5 a), va_rf (zR Z 6 a)])) = cellOf E Z (setI M 2 a x) := by
  funext b
  by_cases hb : b = a
  · subst hb
    rw [va_up_self, cell_1 h]
    simp [setI_at]
  · rw [va_up_ne _ _ hb, cell_ne E Z M 2 a x hb]
theorem st_1_3 (E : EE) (Z : ZZ) (M : MM) (a : Nat) (x : Int32) (h : zK Z a = 1) : va_up (cellOf E Z M) a (.inr (1, [.int (mI M 0 a), .int (mI M 1 a), .int (mI M 2 a), .int x, .int (mI M 4 a), .int (mI M 5 a), .int (mI M 6 a), .int (mI M 7 a), va_rf (zR Z 3 a), va_rf (zR Z 4 a), va_rf (zR Z 5 a), va_rf (zR Z 6 a)])) = cellOf E Z (setI M 3 a x) := by
  funext b
  by_cases hb : b = a
  · subst hb
    rw [va_up_self, cell_1 h]
    simp [setI_at]
  · rw [va_up_ne _ _ hb, cell_ne E Z M 3 a x hb]
theorem st_1_4 (E : EE) (Z : ZZ) (M : MM) (a : Nat) (x : Int32) (h : zK Z a = 1) : va_up (cellOf E Z M) a (.inr (1, [.int (mI M 0 a), .int (mI M 1 a), .int (mI M 2 a), .int (mI M 3 a), .int x, .int (mI M 5 a), .int (mI M 6 a), .int (mI M 7 a), va_rf (zR Z 3 a), va_rf (zR Z 4 a), va_rf (zR Z 5 a), va_rf (zR Z 6 a)])) = cellOf E Z (setI M 4 a x) := by
  funext b
  by_cases hb : b = a
  · subst hb
    rw [va_up_self, cell_1 h]
    simp [setI_at]
  · rw [va_up_ne _ _ hb, cell_ne E Z M 4 a x hb]
theorem st_1_5 (E : EE) (Z : ZZ) (M : MM) (a : Nat) (x : Int32) (h : zK Z a = 1) : va_up (cellOf E Z M) a (.inr (1, [.int (mI M 0 a), .int (mI M 1 a), .int (mI M 2 a), .int (mI M 3 a), .int (mI M 4 a), .int x, .int (mI M 6 a), .int (mI M 7 a), va_rf (zR Z 3 a), va_rf (zR Z 4 a), va_rf (zR Z 5 a), va_rf (zR Z 6 a)])) = cellOf E Z (setI M 5 a x) := by
  funext b
  by_cases hb : b = a
  · subst hb
    rw [va_up_self, cell_1 h]
    simp [setI_at]
  · rw [va_up_ne _ _ hb, cell_ne E Z M 5 a x hb]
theorem st_1_6 (E : EE) (Z : ZZ) (M : MM) (a : Nat) (x : Int32) (h : zK Z a = 1) : va_up (cellOf E Z M) a (.inr (1, [.int (mI M 0 a), .int (mI M 1 a), .int (mI M 2 a), .int (mI M 3 a), .int (mI M 4 a), .int (mI M 5 a), .int x, .int (mI M 7 a), va_rf (zR Z 3 a), va_rf (zR Z 4 a), va_rf (zR Z 5 a), va_rf (zR Z 6 a)])) = cellOf E Z (setI M 6 a x) := by
  funext b
  by_cases hb : b = a
  · subst hb
    rw [va_up_self, cell_1 h]
    simp [setI_at]
  · rw [va_up_ne _ _ hb, cell_ne E Z M 6 a x hb]
theorem st_1_7 (E : EE) (Z : ZZ) (M : MM) (a : Nat) (x : Int32) (h : zK Z a = 1) : va_up (cellOf E Z M) a (.inr (1, [.int (mI M 0 a), .int (mI M 1 a), .int (mI M 2 a), .int (mI M 3 a), .int (mI M 4 a), .int (mI M 5 a), .int (mI M 6 a), .int x, va_rf (zR Z 3 a), va_rf (zR Z 4 a), va_rf (zR Z 5 a), va_rf (zR Z 6 a)])) = cellOf E Z (setI M 7 a x) := by
  funext b
  by_cases hb : b = a
  · subst hb
    rw [va_up_self, cell_1 h]
    simp [setI_at]
  · rw [va_up_ne _ _ hb, cell_ne E Z M 7 a x hb]
theorem st_3_1 (E : EE) (Z : ZZ) (M : MM) (a : Nat) (x : Int32) (h : zK Z a = 3) : va_up (cellOf E Z M) a (.inr (3, [va_rf (zR Z 8 a), .int x, .int (mI M 9 a), .int (mI M 10 a)])) = cellOf E Z (setI M 8 a x) := by
  funext b
  by_cases hb : b = a
  · subst hb
    rw [va_up_self, cell_3 h]
    simp [setI_at]
  · rw [va_up_ne _ _ hb, cell_ne E Z M 8 a x hb]
theorem st_3_2 (E : EE) (Z : ZZ) (M : MM) (a : Nat) (x : Int32) (h : zK Z a = 3) : va_up (cellOf E Z M) a (.inr (3, [va_rf (zR Z 8 a), .int (mI M 8 a), .int x, .int (mI M 10 a)])) = cellOf E Z (setI M 9 a x) := by
  funext b
  by_cases hb : b = a
  · subst hb
    rw [va_up_self, cell_3 h]
    simp [setI_at]
  · rw [va_up_ne _ _ hb, cell_ne E Z M 9 a x hb]
theorem st_3_3 (E : EE) (Z : ZZ) (M : MM) (a : Nat) (x : Int32) (h : zK Z a = 3) : va_up (cellOf E Z M) a (.inr (3, [va_rf (zR Z 8 a), .int (mI M 8 a), .int (mI M 9 a), .int x])) = cellOf E Z (setI M 10 a x) := by
  funext b
  by_cases hb : b = a
  · subst hb
    rw [va_up_self, cell_3 h]
    simp [setI_at]
  · rw [va_up_ne _ _ hb, cell_ne E Z M 10 a x hb]
theorem st_4_2 (E : EE) (Z : ZZ) (M : MM) (a : Nat) (x : Int32) (h : zK Z a = 4) : va_up (cellOf E Z M) a (.inr (4, [va_rf (zR Z 9 a), va_rf (zR Z 10 a), .int x, va_rf (zR Z 11 a), va_rf (zR Z 12 a)])) = cellOf E Z (setI M 11 a x) := by
  funext b
  by_cases hb : b = a
  · subst hb
    rw [va_up_self, cell_4 h]
    simp [setI_at]
  · rw [va_up_ne _ _ hb, cell_ne E Z M 11 a x hb]
theorem st_5_3 (E : EE) (Z : ZZ) (M : MM) (a : Nat) (x : Int32) (h : zK Z a = 5) : va_up (cellOf E Z M) a (.inr (5, [va_rf (zR Z 13 a), va_rf (zR Z 14 a), va_rf (zR Z 15 a), .int x, .int (mI M 13 a), va_rf (zR Z 16 a), va_rf (zR Z 17 a), va_rf (zR Z 18 a), va_rf (zR Z 19 a)])) = cellOf E Z (setI M 12 a x) := by
  funext b
  by_cases hb : b = a
  · subst hb
    rw [va_up_self, cell_5 h]
    simp [setI_at]
  · rw [va_up_ne _ _ hb, cell_ne E Z M 12 a x hb]
theorem st_5_4 (E : EE) (Z : ZZ) (M : MM) (a : Nat) (x : Int32) (h : zK Z a = 5) : va_up (cellOf E Z M) a (.inr (5, [va_rf (zR Z 13 a), va_rf (zR Z 14 a), va_rf (zR Z 15 a), .int (mI M 12 a), .int x, va_rf (zR Z 16 a), va_rf (zR Z 17 a), va_rf (zR Z 18 a), va_rf (zR Z 19 a)])) = cellOf E Z (setI M 13 a x) := by
  funext b
  by_cases hb : b = a
  · subst hb
    rw [va_up_self, cell_5 h]
    simp [setI_at]
  · rw [va_up_ne _ _ hb, cell_ne E Z M 13 a x hb]
theorem st_7 {E : EE} {Z : ZZ} {M : MM} {a : Nat} {f : Nat → Int32} (h : zK Z a = 7) : va_up (cellOf E Z M) a (.inl (E.2.1, zN Z a, .inl f)) = cellOf E Z (setA M a f) := by
  funext b
  by_cases hb : b = a
  · subst hb
    rw [va_up_self, cell_7 h]
    simp [setA, mA, va_up]
  · rw [va_up_ne _ _ hb]
    simp only [cellOf, setA, mI, mA, mJ, va_up_ne _ _ hb]
theorem st_9 {E : EE} {Z : ZZ} {M : MM} {a : Nat} {f : Nat → Int64} (h : zK Z a = 9) : va_up (cellOf E Z M) a (.inl (E.2.2.2, zN Z a, .inr (.inl f))) = cellOf E Z (setJ M a f) := by
  funext b
  by_cases hb : b = a
  · subst hb
    rw [va_up_self, cell_9 h]
    simp [setJ, mJ, va_up]
  · rw [va_up_ne _ _ hb]
    simp only [cellOf, setJ, mI, mA, mJ, va_up_ne _ _ hb]
abbrev ww (E : EE) (Z : ZZ) (M : MM) : va_W := va_pl Z.1 (cellOf E Z M)
abbrev tyE (E : EE) : List (ClassId × FieldType) := [(E.2.1, .int), (E.2.2.1, .object "IceField$Ice")]
abbrev inL (Z : ZZ) : Nat → Prop := fun q => q ∈ Z.1
abbrev okZ (Z : ZZ) : Prop := ∀ a, zK Z a < 10 → a ∈ Z.1
abbrev wU (E : EE) (Z : ZZ) (M : MM) (U : State) : Prop := va_K E.1 vwCl (tyE E) U ∧ va_P E.1 vwCl (ww E Z M) U.heap ∧ va_D (inL Z) (ww E Z M) ∧ okZ Z
abbrev wo (E : EE) (Z : ZZ) (M : MM) (s : State) (H H0 : Heap) (locs : List Loc) : Prop := va_K E.1 vwCl (tyE E) s ∧ va_P E.1 vwCl (ww E Z M) H ∧ va_D (inL Z) (ww E Z M) ∧ va_S (inL Z) H0 H locs ∧ okZ Z
section RW
variable {p : Program} {l : Launch} {e : Env} {R : Room} {s : State} {m : MethodId} {args : Array Value} {below : List Frame} {meth : Method} {c : Code} {H H0 : Heap} {locs : List Loc} {cells slots : Nat} {Q : State → Prop}
variable {cc : ByteArray} {pc nL : Nat} {ls : Array Slot} {rest : List Value} {E : EE} {Z : ZZ} {M : MM} {a : Nat} {own : String}
theorem wo_place (h : wo E Z M s H H0 locs) (ha : zK Z a < 10) : ∃ k : Nat, (ww E Z M)[k]? = some (a, cellOf E Z M a) := va_pl_get (X := []) (f := cellOf E Z M) (h.2.2.2.2 a ha)
theorem wo_get (S : CallFix p m c cc nL s args W0 own) (h : wo E Z M s H H0 locs) {ref C : String} {T : u_T} {N ci index : Nat} (hc : vwCl[ci]? = some (C, T, N)) (hin : ∀ w ∈ u_ws C T N, w ∈ W0) (k : Nat) (hk : k < N) (hlink : Cond.fieldLink own index ref (T k).2.1 (T k).2.2.1 ∈ W0) (hsame : (T k).1 = ref) {fs : List Value} (ha : zK Z a < 10) (hcell : cellOf E Z M a = .inr (ci, fs)) {v : Value} (hv : fs[k]? = some v) (hdg : decode cc pc = .ok (.getfield index, 3))
    (kk : W p l e R s m args below meth c H locs cells slots Q (F0 m (pc + 3) ls (v :: rest))) : W p l e R s m args below meth c H locs cells slots Q (F0 m pc ls (.ref a :: rest)) := by
  obtain ⟨k0, hq⟩ := wo_place h ha
  obtain ⟨hx, hb, hml, hown, hts⟩ := S
  obtain ⟨hK, hP, hD, hS, hZ⟩ := h
  rw [hcell] at hq
  exact va_get hx hb hts hin hown hK hP k0 hq hc k hk (hts _ hlink) (fun x hx => by rw [← hsame]; exact hx) hv hdg kk
theorem wo_put (S : CallFix p m c cc nL s args W0 own) (h : wo E Z M s H H0 locs) {ref C : String} {T : u_T} {N ci index : Nat} (hc : vwCl[ci]? = some (C, T, N)) (hin : ∀ w ∈ u_ws C T N, w ∈ W0) (ty0 : Nat → FieldType) (hty : ∀ k, k < N → parseFieldDescriptor (T k).2.2.1 = some (ty0 k)) (hnm : ∀ a, a < N → ∀ b, b < N → a ≠ b → (T a).2.1 ≠ (T b).2.1) (k : Nat) (hk : k < N) (hlink : Cond.fieldLink own index ref (T k).2.1 (T k).2.2.1 ∈ W0) (hsame : (T k).1 = ref) (hfin : (T k).2.2.2 = false) (hd : parseFieldDescriptor (T k).2.2.1 = some .int) {fs : List Value} {x : Int32} (ha : zK Z a < 10) (hcell : cellOf E Z M a = .inr (ci, fs)) (hl : k < fs.length) {M1 : MM} (hM : va_up (cellOf E Z M) a (.inr (ci, fs.set k (.int x))) = cellOf E Z M1) (hdg : decode cc pc = .ok (.putfield index, 3))
    (kk : ∀ (H1 : Heap) (locs1 : List Loc), wo E Z M1 s H1 H0 locs1 → W p l e R s m args below meth c H1 locs1 cells slots Q (F0 m (pc + 3) ls rest)) : W p l e R s m args below meth c H locs cells slots Q (F0 m pc ls (.int x :: .ref a :: rest)) := by
  obtain ⟨k0, hq⟩ := wo_place h ha
  obtain ⟨hx, hb, hml, hown, hts⟩ := S
  obtain ⟨hK, hP, hD, hS, hZ⟩ := h
  have e1 := va_pl_set (X := []) (L := Z.1) (f := cellOf E Z M) (e := .inr (ci, fs.set k (.int x))) hD (hZ a ha) hq
  rw [hM] at e1
  have e1 : (ww E Z M).set k0 (a, .inr (ci, fs.set k (.int x))) = ww E Z M1 := e1
  rw [hcell] at hq
  refine va_put hx hb hts hin ty0 hty hnm hown hK hP hD hS k0 hq hc k hk (hts _ hlink) (fun x hx => by rw [← hsame]; exact hx) hfin hd rfl rfl hl hdg (fun H1 locs1 hP1 hD1 hS1 => ?_)
  rw [e1] at hP1 hD1
  exact kk H1 locs1 ⟨hK, hP1, hD1, hS1, hZ⟩
theorem wo_iald (S : CallFix p m c cc nL s args W0 own) (h : wo E Z M s H H0 locs) (ha : zK Z a = 7) {i : Int32} (hin : vp_in i (zN Z a)) (hdg : decode cc pc = .ok (.iaload, 1))
    (kk : W p l e R s m args below meth c H locs cells slots Q (F0 m (pc + 1) ls (.int (mA M a i.toNatClampNeg) :: rest))) : W p l e R s m args below meth c H locs cells slots Q (F0 m pc ls (.int i :: .ref a :: rest)) := by
  obtain ⟨k0, hq⟩ := wo_place h (by rw [ha]; decide)
  rw [cell_7 ha] at hq
  exact va_iald S.1 S.2.1 h.1 h.2.1 k0 0 hq rfl hin hdg kk
theorem wo_iast (S : CallFix p m c cc nL s args W0 own) (h : wo E Z M s H H0 locs) (ha : zK Z a = 7) {i x : Int32} (hin : vp_in i (zN Z a)) (hdg : decode cc pc = .ok (.iastore, 1))
    (kk : ∀ (H1 : Heap) (locs1 : List Loc), wo E Z (setA M a (upd (mA M a) i.toNatClampNeg x)) s H1 H0 locs1 → W p l e R s m args below meth c H1 locs1 cells slots Q (F0 m (pc + 1) ls rest)) : W p l e R s m args below meth c H locs cells slots Q (F0 m pc ls (.int x :: .int i :: .ref a :: rest)) := by
  have hlt : zK Z a < 10 := by rw [ha]; decide
  obtain ⟨k0, hq⟩ := wo_place h hlt
  obtain ⟨hK, hP, hD, hS, hZ⟩ := h
  have e1 := va_pl_set (X := []) (L := Z.1) (f := cellOf E Z M) (e := .inl (E.2.1, zN Z a, .inl (upd (mA M a) i.toNatClampNeg x))) hD (hZ a hlt) hq
  rw [st_7 ha] at e1
  have e1 : (ww E Z M).set k0 (a, .inl (E.2.1, zN Z a, .inl (upd (mA M a) i.toNatClampNeg x))) = ww E Z (setA M a (upd (mA M a) i.toNatClampNeg x)) := e1
  rw [cell_7 ha] at hq
  refine va_iast S.1 S.2.1 hK hP hD hS k0 0 hq rfl hin hdg (fun H1 locs1 hP1 hD1 hS1 => ?_)
  rw [e1] at hP1 hD1
  exact kk H1 locs1 ⟨hK, hP1, hD1, hS1, hZ⟩
theorem wo_alen7 (S : CallFix p m c cc nL s args W0 own) (h : wo E Z M s H H0 locs) (ha : zK Z a = 7) (hdg : decode cc pc = .ok (.arraylength, 1))
    (kk : W p l e R s m args below meth c H locs cells slots Q (F0 m (pc + 1) ls (.int (nI (zN Z a)) :: rest))) : W p l e R s m args below meth c H locs cells slots Q (F0 m pc ls (.ref a :: rest)) := by
  obtain ⟨k0, hq⟩ := wo_place h (by rw [ha]; decide)
  rw [cell_7 ha] at hq
  exact va_alen S.1 S.2.1 h.1 h.2.1 k0 0 hq (ty := .int) rfl rfl hdg kk
theorem wo_alen8 (S : CallFix p m c cc nL s args W0 own) (h : wo E Z M s H H0 locs) (ha : zK Z a = 8) (hdg : decode cc pc = .ok (.arraylength, 1))
    (kk : W p l e R s m args below meth c H locs cells slots Q (F0 m (pc + 1) ls (.int (nI (zN Z a)) :: rest))) : W p l e R s m args below meth c H locs cells slots Q (F0 m pc ls (.ref a :: rest)) := by
  obtain ⟨k0, hq⟩ := wo_place h (by rw [ha]; decide)
  rw [cell_8 ha] at hq
  exact va_alen S.1 S.2.1 h.1 h.2.1 k0 1 hq (ty := .object "IceField$Ice") rfl rfl hdg kk
theorem wo_aldq (S : CallFix p m c cc nL s args W0 own) (h : wo E Z M s H H0 locs) (ha : zK Z a = 8) {i : Int32} {y : Nat} (hin : vp_in i (zN Z a)) (hy : zG Z a i.toNatClampNeg = some y) (hdg : decode cc pc = .ok (.aaload, 1))
    (kk : W p l e R s m args below meth c H locs cells slots Q (F0 m (pc + 1) ls (.ref y :: rest))) : W p l e R s m args below meth c H locs cells slots Q (F0 m pc ls (.int i :: .ref a :: rest)) := by
  obtain ⟨k0, hq⟩ := wo_place h (by rw [ha]; decide)
  rw [cell_8 ha] at hq
  refine va_aldq S.1 S.2.1 h.1 h.2.1 k0 1 (C := "IceField$Ice") hq rfl hin hdg ?_
  rw [hy]
  exact kk
end RW
/-! contracts: what a method answers and does to M, said of any post-condition -/
abbrev Ct_i (l : Launch) (y : MethodName) (cc : ByteArray) (n : Nat) (ret : Option FieldType) (rm : Room) (E : EE) (Z : ZZ) (M : MM) (av : List Value) (Qm : Int32 → MM → Prop) : Prop := Met l y (ws_ y cc n ret) rm (va_Pc av (wU E Z M)) (va_Qi Qm (fun M1 t => wU E Z M1 t) (inL Z)) 0 0 (inL Z)
abbrev Ct_l (l : Launch) (y : MethodName) (cc : ByteArray) (n : Nat) (ret : Option FieldType) (rm : Room) (E : EE) (Z : ZZ) (M : MM) (av : List Value) (Qm : Int64 → MM → Prop) : Prop := Met l y (ws_ y cc n ret) rm (va_Pc av (wU E Z M)) (va_Ql Qm (fun M1 t => wU E Z M1 t) (inL Z)) 0 0 (inL Z)
abbrev Ct_v (l : Launch) (y : MethodName) (cc : ByteArray) (n : Nat) (ret : Option FieldType) (rm : Room) (E : EE) (Z : ZZ) (M : MM) (av : List Value) (Qm : MM → Prop) : Prop := Met l y (ws_ y cc n ret) rm (va_Pc av (wU E Z M)) (va_Qv Qm (fun M1 t => wU E Z M1 t) (inL Z)) 0 0 (inL Z)
abbrev Ct_q (l : Launch) (y : MethodName) (cc : ByteArray) (n : Nat) (ret : Option FieldType) (rm : Room) (E : EE) (Z : ZZ) (M : MM) (av : List Value) (Qm : Option Nat → MM → Prop) : Prop := Met l y (ws_ y cc n ret) rm (va_Pc av (wU E Z M)) (va_Qq Qm (fun M1 t => wU E Z M1 t) (inL Z)) 0 0 (inL Z)
theorem wU_moved {E : EE} {Z : ZZ} {M : MM} {u U : State} (h : wU E Z M u) (hvm : u.vm.Alike U.vm) (hh : U.heap = u.heap) : wU E Z M U := ⟨va_K.moved hvm h.1, by rw [hh]; exact h.2.1, h.2.2.1, h.2.2.2⟩
theorem wU_blind (E : EE) (Z : ZZ) (M : MM) (av : List Value) : FrameBlind (va_Pc av (wU E Z M)) := fun a U g mk h => ⟨h.1, wU_moved h.2 (Vm.Alike.refl U.vm) rfl⟩
section CALLS
variable {p : Program} {l : Launch} {e : Env} {R : Room} {s : State} {m : MethodId} {args : Array Value} {below : List Frame} {meth : Method} {c : Code} {H H0 : Heap} {locs : List Loc} {cells slots : Nat} {Q : State → Prop}
variable {cc : ByteArray} {pc nL : Nat} {ls : Array Slot} {rest : List Value} {E : EE} {Z : ZZ} {M : MM} {b : Nat} {own : String}
theorem wo_wU (h : wo E Z M s H H0 locs) {U : State} (hU : U.heap = H) (hW : s.WarmedH U.vm) : wU E Z M U := ⟨va_K.moved hW.alike h.1, by rw [hU]; exact h.2.1, h.2.2.1, h.2.2.2.2⟩
theorem wo_back (hK : va_K E.1 vwCl (tyE E) s) {t : State} {H1 : Heap} {locs1 : List Loc} {M1 : MM} (ht : t.heap = H1) (hB : wU E Z M1 t) (hS : va_S (inL Z) H0 H1 locs1) : wo E Z M1 s H1 H0 locs1 := ⟨hK, by rw [← ht]; exact hB.2.1, hB.2.2.1, hS, hB.2.2.2⟩
/-- the words of a call by a receiver's class, in W0 -/
abbrev cwd (own C : String) (idx : Nat) (y : MethodName) (bytes : ByteArray) (maxL : Nat) (ret : Option FieldType) : Prop := (Cond.methodLink own idx y ∈ W0 ∧ Cond.instanceMethod y ∈ W0 ∧ Cond.selects C y y ∈ W0 ∧ Cond.initialized C ∈ W0) ∧ Cond.code y bytes maxL ret ∈ W0
abbrev cws (own : String) (idx : Nat) (y : MethodName) (bytes : ByteArray) (maxL : Nat) (ret : Option FieldType) : Prop := (Cond.methodLink own idx y ∈ W0 ∧ Cond.static y ∈ W0 ∧ Cond.initialized own ∈ W0) ∧ Cond.code y bytes maxL ret ∈ W0
theorem cwd_good {own C : String} {idx : Nat} {y : MethodName} {bytes : ByteArray} {maxL : Nat} {ret : Option FieldType} (h : cwd own C idx y bytes maxL ret) : GoodIn W0 (wsV own idx C y (ws_ y bytes maxL ret)) := by
  refine W0_app ?_ (W0_cons h.2)
  intro w hw
  simp only [List.mem_cons, List.not_mem_nil, or_false] at hw
  rcases hw with rfl | rfl | rfl | rfl
  · exact h.1.1
  · exact h.1.2.1
  · exact h.1.2.2.1
  · exact h.1.2.2.2
theorem cws_good {own : String} {idx : Nat} {y : MethodName} {bytes : ByteArray} {maxL : Nat} {ret : Option FieldType} (h : cws own idx y bytes maxL ret) : GoodIn W0 (wsS own idx y (ws_ y bytes maxL ret)) := by
  refine W0_app ?_ (W0_cons h.2)
  intro w hw
  simp only [List.mem_cons, List.not_mem_nil, or_false] at hw
  rcases hw with rfl | rfl | rfl
  · exact h.1.1
  · exact h.1.2.1
  · exact h.1.2.2
/-- what a descriptor says of the callee: its class, no handle, so many arguments -/
abbrev cyd (y : MethodName) (C : String) (n : Nat) : Prop := y.cls = C ∧ y.cls ≠ "java/lang/invoke/MethodHandle" ∧ y.cls ≠ "java/lang/invoke/VarHandle" ∧ (parseMethodDescriptor y.desc).map (fun d => d.parameters.length) = some n
abbrev crm (rm R : Room) (maxL : Nat) : Prop := rm.frames + 1 ≤ R.frames ∧ 8 + (maxL + 11) + rm.locals ≤ R.locals
theorem cv_i {y : MethodName} {C : String} {bytes : ByteArray} {maxL n idx : Nat} {ret : Option FieldType} {rm : Room} {As : List Value} (S : CallFix p m c cc nL s args W0 own) (h : wo E Z M s H H0 locs) {Qm : Int32 → MM → Prop} (hM : Ct_i l y bytes maxL ret rm E Z M (.ref b :: As) Qm) (hw : cwd own C idx y bytes maxL ret) (hd : cyd y C n) (hrm : rm.cells = 0 ∧ rm.slots = 0) (hR : crm rm R maxL) (hn : As.length = n) (hls : ls.size = nL) (hrest : (rest.map fun v => v.category).sum ≤ 8) {ci : Nat} {fs : List Value} {q : vw_C} (hc : vwCl[ci]? = some q) (hqC : q.1 = C) (ha : zK Z b < 10) (hcell : cellOf E Z M b = .inr (ci, fs)) (hf : cells ≤ R.cells ∧ slots ≤ R.slots) (hdg : decode cc pc = .ok (.invokevirtual idx, 3))
    (kk : ∀ (r : Int32) (M1 : MM) (H1 : Heap) (locs1 : List Loc), Qm r M1 → wo E Z M1 s H1 H0 locs1 → W p l e R s m args below meth c H1 locs1 cells slots Q (F0 m (pc + 3) ls (.int r :: rest))) : W p l e R s m args below meth c H locs cells slots Q (F0 m pc ls (As.reverse ++ .ref b :: rest)) := by
  obtain ⟨k0, hq⟩ := wo_place h ha
  rw [hcell] at hq
  subst hqC
  exact va_calli (va_runV (As := As) (rest := rest) S hM (cwV n S.2.2.2.2 (cwd_good hw) rfl hrm.1 hrm.2 hd hR) ⟨wU_blind E Z M _, va_recv h.1 h.2.1 (ci := ci) (q0 := k0) hc hq, fun U hU hW => ⟨rfl, wo_wU h hU hW⟩⟩ rfl hn hls rfl (lv_room hrest) hdg hf) h.2.2.2.1 (fun q _ h => h) (fun q h => h) (fun r u t H1 locs1 ht hvm hw hB hz hk hS => kk r u H1 locs1 hw (wo_back h.1 ht hB hS))
theorem cs_i {y : MethodName} {bytes : ByteArray} {maxL n idx : Nat} {ret : Option FieldType} {rm : Room} {As : List Value} (S : CallFix p m c cc nL s args W0 own) (h : wo E Z M s H H0 locs) {Qm : Int32 → MM → Prop} (hM : Ct_i l y bytes maxL ret rm E Z M As Qm) (hw : cws own idx y bytes maxL ret) (hd : cyd y own n) (hrm : rm.cells = 0 ∧ rm.slots = 0) (hR : crm rm R maxL) (hn : As.length = n) (hls : ls.size = nL) (hrest : (rest.map fun v => v.category).sum ≤ 8) (hf : cells ≤ R.cells ∧ slots ≤ R.slots) (hdg : decode cc pc = .ok (.invokestatic idx, 3))
    (kk : ∀ (r : Int32) (M1 : MM) (H1 : Heap) (locs1 : List Loc), Qm r M1 → wo E Z M1 s H1 H0 locs1 → W p l e R s m args below meth c H1 locs1 cells slots Q (F0 m (pc + 3) ls (.int r :: rest))) : W p l e R s m args below meth c H locs cells slots Q (F0 m pc ls (As.reverse ++ rest)) := by
  exact va_calli (va_runS (As := As) (rest := rest) S hM (cwS n S.2.2.2.2 (cws_good hw) rfl hrm.1 hrm.2 hd hR) ⟨wU_blind E Z M _, fun U hU hW => ⟨rfl, wo_wU h hU hW⟩⟩ rfl hn hls rfl (lv_room hrest) hdg hf) h.2.2.2.1 (fun q _ h => h) (fun q h => h) (fun r u t H1 locs1 ht hvm hw hB hz hk hS => kk r u H1 locs1 hw (wo_back h.1 ht hB hS))
theorem cv_l {y : MethodName} {C : String} {bytes : ByteArray} {maxL n idx : Nat} {ret : Option FieldType} {rm : Room} {As : List Value} (S : CallFix p m c cc nL s args W0 own) (h : wo E Z M s H H0 locs) {Qm : Int64 → MM → Prop} (hM : Ct_l l y bytes maxL ret rm E Z M (.ref b :: As) Qm) (hw : cwd own C idx y bytes maxL ret) (hd : cyd y C n) (hrm : rm.cells = 0 ∧ rm.slots = 0) (hR : crm rm R maxL) (hn : As.length = n) (hls : ls.size = nL) (hrest : (rest.map fun v => v.category).sum ≤ 8) {ci : Nat} {fs : List Value} {q : vw_C} (hc : vwCl[ci]? = some q) (hqC : q.1 = C) (ha : zK Z b < 10) (hcell : cellOf E Z M b = .inr (ci, fs)) (hf : cells ≤ R.cells ∧ slots ≤ R.slots) (hdg : decode cc pc = .ok (.invokevirtual idx, 3))
    (kk : ∀ (r : Int64) (M1 : MM) (H1 : Heap) (locs1 : List Loc), Qm r M1 → wo E Z M1 s H1 H0 locs1 → W p l e R s m args below meth c H1 locs1 cells slots Q (F0 m (pc + 3) ls (.long r :: rest))) : W p l e R s m args below meth c H locs cells slots Q (F0 m pc ls (As.reverse ++ .ref b :: rest)) := by
  obtain ⟨k0, hq⟩ := wo_place h ha
  rw [hcell] at hq
  subst hqC
  exact va_calll (va_runV (As := As) (rest := rest) S hM (cwV n S.2.2.2.2 (cwd_good hw) rfl hrm.1 hrm.2 hd hR) ⟨wU_blind E Z M _, va_recv h.1 h.2.1 (ci := ci) (q0 := k0) hc hq, fun U hU hW => ⟨rfl, wo_wU h hU hW⟩⟩ rfl hn hls rfl (lv_room hrest) hdg hf) h.2.2.2.1 (fun q _ h => h) (fun q h => h) (fun r u t H1 locs1 ht hvm hw hB hz hk hS => kk r u H1 locs1 hw (wo_back h.1 ht hB hS))
theorem cs_l {y : MethodName} {bytes : ByteArray} {maxL n idx : Nat} {ret : Option FieldType} {rm : Room} {As : List Value} (S : CallFix p m c cc nL s args W0 own) (h : wo E Z M s H H0 locs) {Qm : Int64 → MM → Prop} (hM : Ct_l l y bytes maxL ret rm E Z M As Qm) (hw : cws own idx y bytes maxL ret) (hd : cyd y own n) (hrm : rm.cells = 0 ∧ rm.slots = 0) (hR : crm rm R maxL) (hn : As.length = n) (hls : ls.size = nL) (hrest : (rest.map fun v => v.category).sum ≤ 8) (hf : cells ≤ R.cells ∧ slots ≤ R.slots) (hdg : decode cc pc = .ok (.invokestatic idx, 3))
    (kk : ∀ (r : Int64) (M1 : MM) (H1 : Heap) (locs1 : List Loc), Qm r M1 → wo E Z M1 s H1 H0 locs1 → W p l e R s m args below meth c H1 locs1 cells slots Q (F0 m (pc + 3) ls (.long r :: rest))) : W p l e R s m args below meth c H locs cells slots Q (F0 m pc ls (As.reverse ++ rest)) := by
  exact va_calll (va_runS (As := As) (rest := rest) S hM (cwS n S.2.2.2.2 (cws_good hw) rfl hrm.1 hrm.2 hd hR) ⟨wU_blind E Z M _, fun U hU hW => ⟨rfl, wo_wU h hU hW⟩⟩ rfl hn hls rfl (lv_room hrest) hdg hf) h.2.2.2.1 (fun q _ h => h) (fun q h => h) (fun r u t H1 locs1 ht hvm hw hB hz hk hS => kk r u H1 locs1 hw (wo_back h.1 ht hB hS))
theorem cv_v {y : MethodName} {C : String} {bytes : ByteArray} {maxL n idx : Nat} {ret : Option FieldType} {rm : Room} {As : List Value} (S : CallFix p m c cc nL s args W0 own) (h : wo E Z M s H H0 locs) {Qm : MM → Prop} (hM : Ct_v l y bytes maxL ret rm E Z M (.ref b :: As) Qm) (hw : cwd own C idx y bytes maxL ret) (hd : cyd y C n) (hrm : rm.cells = 0 ∧ rm.slots = 0) (hR : crm rm R maxL) (hn : As.length = n) (hls : ls.size = nL) (hrest : (rest.map fun v => v.category).sum ≤ 8) {ci : Nat} {fs : List Value} {q : vw_C} (hc : vwCl[ci]? = some q) (hqC : q.1 = C) (ha : zK Z b < 10) (hcell : cellOf E Z M b = .inr (ci, fs)) (hf : cells ≤ R.cells ∧ slots ≤ R.slots) (hdg : decode cc pc = .ok (.invokevirtual idx, 3))
    (kk : ∀ (M1 : MM) (H1 : Heap) (locs1 : List Loc), Qm M1 → wo E Z M1 s H1 H0 locs1 → W p l e R s m args below meth c H1 locs1 cells slots Q (F0 m (pc + 3) ls (rest))) : W p l e R s m args below meth c H locs cells slots Q (F0 m pc ls (As.reverse ++ .ref b :: rest)) := by
  obtain ⟨k0, hq⟩ := wo_place h ha
  rw [hcell] at hq
  subst hqC
  exact va_callv (va_runV (As := As) (rest := rest) S hM (cwV n S.2.2.2.2 (cwd_good hw) rfl hrm.1 hrm.2 hd hR) ⟨wU_blind E Z M _, va_recv h.1 h.2.1 (ci := ci) (q0 := k0) hc hq, fun U hU hW => ⟨rfl, wo_wU h hU hW⟩⟩ rfl hn hls rfl (lv_room hrest) hdg hf) h.2.2.2.1 (fun q _ h => h) (fun q h => h) (fun u t H1 locs1 ht hvm hw hB hz hk hS => kk u H1 locs1 hw (wo_back h.1 ht hB hS))
theorem cs_v {y : MethodName} {bytes : ByteArray} {maxL n idx : Nat} {ret : Option FieldType} {rm : Room} {As : List Value} (S : CallFix p m c cc nL s args W0 own) (h : wo E Z M s H H0 locs) {Qm : MM → Prop} (hM : Ct_v l y bytes maxL ret rm E Z M As Qm) (hw : cws own idx y bytes maxL ret) (hd : cyd y own n) (hrm : rm.cells = 0 ∧ rm.slots = 0) (hR : crm rm R maxL) (hn : As.length = n) (hls : ls.size = nL) (hrest : (rest.map fun v => v.category).sum ≤ 8) (hf : cells ≤ R.cells ∧ slots ≤ R.slots) (hdg : decode cc pc = .ok (.invokestatic idx, 3))
    (kk : ∀ (M1 : MM) (H1 : Heap) (locs1 : List Loc), Qm M1 → wo E Z M1 s H1 H0 locs1 → W p l e R s m args below meth c H1 locs1 cells slots Q (F0 m (pc + 3) ls (rest))) : W p l e R s m args below meth c H locs cells slots Q (F0 m pc ls (As.reverse ++ rest)) := by
  exact va_callv (va_runS (As := As) (rest := rest) S hM (cwS n S.2.2.2.2 (cws_good hw) rfl hrm.1 hrm.2 hd hR) ⟨wU_blind E Z M _, fun U hU hW => ⟨rfl, wo_wU h hU hW⟩⟩ rfl hn hls rfl (lv_room hrest) hdg hf) h.2.2.2.1 (fun q _ h => h) (fun q h => h) (fun u t H1 locs1 ht hvm hw hB hz hk hS => kk u H1 locs1 hw (wo_back h.1 ht hB hS))
theorem cv_q {y : MethodName} {C : String} {bytes : ByteArray} {maxL n idx : Nat} {ret : Option FieldType} {rm : Room} {As : List Value} (S : CallFix p m c cc nL s args W0 own) (h : wo E Z M s H H0 locs) {Qm : Option Nat → MM → Prop} (hM : Ct_q l y bytes maxL ret rm E Z M (.ref b :: As) Qm) (hw : cwd own C idx y bytes maxL ret) (hd : cyd y C n) (hrm : rm.cells = 0 ∧ rm.slots = 0) (hR : crm rm R maxL) (hn : As.length = n) (hls : ls.size = nL) (hrest : (rest.map fun v => v.category).sum ≤ 8) {ci : Nat} {fs : List Value} {q : vw_C} (hc : vwCl[ci]? = some q) (hqC : q.1 = C) (ha : zK Z b < 10) (hcell : cellOf E Z M b = .inr (ci, fs)) (hf : cells ≤ R.cells ∧ slots ≤ R.slots) (hdg : decode cc pc = .ok (.invokevirtual idx, 3))
    (kk : ∀ (r : Option Nat) (M1 : MM) (H1 : Heap) (locs1 : List Loc), Qm r M1 → wo E Z M1 s H1 H0 locs1 → W p l e R s m args below meth c H1 locs1 cells slots Q (F0 m (pc + 3) ls (va_rf r :: rest))) : W p l e R s m args below meth c H locs cells slots Q (F0 m pc ls (As.reverse ++ .ref b :: rest)) := by
  obtain ⟨k0, hq⟩ := wo_place h ha
  rw [hcell] at hq
  subst hqC
  exact va_callq (va_runV (As := As) (rest := rest) S hM (cwV n S.2.2.2.2 (cwd_good hw) rfl hrm.1 hrm.2 hd hR) ⟨wU_blind E Z M _, va_recv h.1 h.2.1 (ci := ci) (q0 := k0) hc hq, fun U hU hW => ⟨rfl, wo_wU h hU hW⟩⟩ rfl hn hls rfl (lv_room hrest) hdg hf) h.2.2.2.1 (fun q _ h => h) (fun q h => h) (fun r u t H1 locs1 ht hvm hw hB hz hk hS => kk r u H1 locs1 hw (wo_back h.1 ht hB hS))
theorem cs_q {y : MethodName} {bytes : ByteArray} {maxL n idx : Nat} {ret : Option FieldType} {rm : Room} {As : List Value} (S : CallFix p m c cc nL s args W0 own) (h : wo E Z M s H H0 locs) {Qm : Option Nat → MM → Prop} (hM : Ct_q l y bytes maxL ret rm E Z M As Qm) (hw : cws own idx y bytes maxL ret) (hd : cyd y own n) (hrm : rm.cells = 0 ∧ rm.slots = 0) (hR : crm rm R maxL) (hn : As.length = n) (hls : ls.size = nL) (hrest : (rest.map fun v => v.category).sum ≤ 8) (hf : cells ≤ R.cells ∧ slots ≤ R.slots) (hdg : decode cc pc = .ok (.invokestatic idx, 3))
    (kk : ∀ (r : Option Nat) (M1 : MM) (H1 : Heap) (locs1 : List Loc), Qm r M1 → wo E Z M1 s H1 H0 locs1 → W p l e R s m args below meth c H1 locs1 cells slots Q (F0 m (pc + 3) ls (va_rf r :: rest))) : W p l e R s m args below meth c H locs cells slots Q (F0 m pc ls (As.reverse ++ rest)) := by
  exact va_callq (va_runS (As := As) (rest := rest) S hM (cwS n S.2.2.2.2 (cws_good hw) rfl hrm.1 hrm.2 hd hR) ⟨wU_blind E Z M _, fun U hU hW => ⟨rfl, wo_wU h hU hW⟩⟩ rfl hn hls rfl (lv_room hrest) hdg hf) h.2.2.2.1 (fun q _ h => h) (fun q h => h) (fun r u t H1 locs1 ht hvm hw hB hz hk hS => kk r u H1 locs1 hw (wo_back h.1 ht hB hS))
end CALLS
