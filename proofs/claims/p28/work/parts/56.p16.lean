/-! PURE: the model finds its blocks -/
def su (f : Nat → Int32) : Nat → Nat
  | 0 => 0
  | n + 1 => su f n + (f n).toNatClampNeg
theorem su_ext {f g : Nat → Int32} {n : Nat} (h : ∀ i, i < n → f i = g i) : su f n = su g n := by
  induction n with
  | zero => rfl
  | succ n ih => simp only [su]; rw [ih (fun i hi => h i (by omega)), h n (by omega)]
theorem su_upd {f : Nat → Int32} {c n : Nat} {v : Int32} (hc : c < n) : su (upd f c v) n + (f c).toNatClampNeg = su f n + v.toNatClampNeg := by
  induction n with
  | zero => omega
  | succ n ih =>
    simp only [su]
    by_cases e : c = n
    · subst e
      rw [upd_same, su_ext (g := f) (fun i hi => upd_ne _ _ (by omega))]
      omega
    · rw [upd_ne _ _ (by omega : n ≠ c)]
      have := ih (by omega)
      omega
def BlM (M : MM) (m W H : Nat) (g : GG) : Prop := ∀ c, c < W * H → mA M (m + 4) c = lbG W H g c
theorem BlM.frame {M M1 : MM} {m W H : Nat} {g : GG} {rs os : List Nat} (t : BlM M m W H g) (f : Fr rs os M M1) (h : m + 4 ∉ rs) : BlM M1 m W H g := fun k hk => by rw [f.1 _ h]; exact t k hk
/-- a model's labels on their way -/
def FbI (W H : Nat) (th ct bl : Nat → Int32) : Prop := ∀ c, c < W * H → (th c ≤ 0 → bl c = -1) ∧ (¬ th c ≤ 0 → ∃ k, k ≤ c ∧ bl c = nI k ∧ Conn W H th ct k c)
def doneP (W H : Nat) (th ct : Nat → Int32) (i s : Nat) (c d : Nat) : Prop := Hang W H th ct c d ∧ ∃ s', s' < 2 ∧ bs W H c s' = some d ∧ (c < i ∨ (c = i ∧ s' < s))
def JI (W H : Nat) (th ct bl0 : Nat → Int32) (i s : Nat) (ch : Int32) (bl : Nat → Int32) : Prop := FbI W H th ct bl ∧ su bl (W * H) ≤ su bl0 (W * H) ∧ (ch = 0 → (∀ c, c < W * H → bl c = bl0 c) ∧ ∀ c d, doneP W H th ct i s c d → bl c = bl d) ∧ (ch ≠ 0 → su bl (W * H) < su bl0 (W * H)) ∧ (ch = 0 ∨ ch = 1)
theorem JI.skip {W H : Nat} {th ct bl0 bl : Nat → Int32} {i s : Nat} {ch : Int32} (J : JI W H th ct bl0 i s ch bl) (h : ∀ d, bs W H i s = some d → ¬ Hang W H th ct i d ∨ bl i = bl d) : JI W H th ct bl0 i (s + 1) ch bl := by
  obtain ⟨j1, j2, j3, j4⟩ := J
  refine ⟨j1, j2, fun z => ⟨(j3 z).1, fun c d ⟨q1, s', q2, q3, q4⟩ => ?_⟩, j4⟩
  by_cases e : c < i ∨ (c = i ∧ s' < s)
  · exact (j3 z).2 c d ⟨q1, s', q2, q3, e⟩
  · have : c = i ∧ s' = s := by omega
    obtain ⟨rfl, rfl⟩ := this
    rcases h d q3 with h | h
    · exact absurd q1 h
    · exact h
theorem JI.next {W H : Nat} {th ct bl0 bl : Nat → Int32} {i : Nat} {ch : Int32} (J : JI W H th ct bl0 i 2 ch bl) : JI W H th ct bl0 (i + 1) 0 ch bl := by
  obtain ⟨j1, j2, j3, j4⟩ := J
  exact ⟨j1, j2, fun z => ⟨(j3 z).1, fun c d ⟨q1, s', q2, q3, q4⟩ => (j3 z).2 c d ⟨q1, s', q2, q3, by omega⟩⟩, j4⟩
/-- two labels made equal -/
theorem JI.join {W H : Nat} {th ct bl0 bl : Nat → Int32} {i s d : Nat} {ch : Int32} (J : JI W H th ct bl0 i s ch bl) (hW : 0 < W) (h49 : W * H ≤ 49) (h : Hang W H th ct i d) (hne : bl i ≠ bl d) (hid : i ≠ d) : JI W H th ct bl0 i (s + 1) 1 (upd (upd bl i (if bl d ≤ bl i then bl d else bl i)) d (if bl d ≤ bl i then bl d else bl i)) := by
  obtain ⟨j1, j2, j3, j4⟩ := J
  have hd := h.lt hW
  have hi := h.1
  obtain ⟨k, k1, k2, k3⟩ := (j1 i hi).2 h.2.1
  obtain ⟨l, l1, l2, l3⟩ := (j1 d hd).2 h.2.2.1
  have hkl : k ≠ l := fun z => hne (by rw [k2, l2, z])
  have hle : bl d ≤ bl i ↔ l ≤ k := by rw [k2, l2, n_le (by omega) (by omega)]
  have hex : ∃ n, (if bl d ≤ bl i then bl d else bl i) = nI n ∧ n ≤ k ∧ n ≤ l ∧ Conn W H th ct n i ∧ Conn W H th ct n d ∧ (n < k ∨ n < l) := by
    by_cases e : bl d ≤ bl i
    · rw [if_pos e, l2]
      rw [hle] at e
      exact ⟨l, rfl, e, Nat.le_refl _, l3.step (h.symm hW), l3, by omega⟩
    · rw [if_neg e, k2]
      rw [hle] at e
      exact ⟨k, rfl, Nat.le_refl _, by omega, k3, k3.step h, by omega⟩
  obtain ⟨n, n1, n2, n3, n4, n5, n6⟩ := hex
  rw [n1]
  have hsu : su (upd (upd bl i (nI n)) d (nI n)) (W * H) < su bl (W * H) := by
    have a := su_upd (f := upd bl i (nI n)) (v := nI n) hd
    have b := su_upd (f := bl) (v := nI n) hi
    rw [upd_ne _ _ (fun z => hid z.symm), l2, i_cl l (by omega), i_cl n (by omega)] at a
    rw [k2, i_cl k (by omega), i_cl n (by omega)] at b
    omega
  refine ⟨fun c hc => ⟨fun z => ?_, fun z => ?_⟩, by omega, fun z => absurd z (by decide), fun _ => by omega, Or.inr rfl⟩
  · have e1 : c ≠ d := fun q => by subst q; exact h.2.2.1 z
    have e2 : c ≠ i := fun q => by subst q; exact h.2.1 z
    rw [upd_ne _ _ e1, upd_ne _ _ e2]; exact (j1 c hc).1 z
  · by_cases e1 : c = d
    · subst e1; rw [upd_same]; exact ⟨n, by omega, rfl, n5⟩
    · rw [upd_ne _ _ e1]
      by_cases e2 : c = i
      · subst e2; rw [upd_same]; exact ⟨n, by omega, rfl, n4⟩
      · rw [upd_ne _ _ e2]; exact (j1 c hc).2 z
section
variable {Z : ZZ} {M : MM} {m : Nat} {g : GG} {W H : Nat}
theorem ct_ne1 {ct : Nat → Int32} (ok : CtOk W H ct) {p : Nat} (hp : p < 106) : ct p ≠ 1 ↔ ct p = 0 := by
  rcases (ok p hp).1 with z | z
  · rw [z]; exact ⟨fun _ => rfl, fun _ => by decide⟩
  · rw [z]; exact ⟨fun q => absurd rfl q, fun q => absurd q (by decide)⟩
theorem bs_ne {c s d : Nat} (hW : 0 < W) (h : bs W H c s = some d) : c ≠ d := by
  intro z
  subst z
  unfold bs at h
  by_cases e0 : s = 0
  · rw [if_pos e0] at h
    by_cases e : c % W + 1 < W
    · rw [if_pos e] at h; injection h with h; omega
    · rw [if_neg e] at h; cases h
  · rw [if_neg e0] at h
    by_cases e1 : s = 1
    · rw [if_pos e1] at h
      by_cases e : c + W < W * H
      · rw [if_pos e] at h; injection h with h; omega
      · rw [if_neg e] at h; cases h
    · rw [if_neg e1] at h
      by_cases e2 : s = 2
      · rw [if_pos e2] at h
        by_cases e : W ≤ c
        · rw [if_pos e] at h; injection h with h; omega
        · rw [if_neg e] at h; cases h
      · rw [if_neg e2] at h
        by_cases e : 0 < c % W
        · rw [if_pos e] at h; injection h with h
          have := Nat.mod_le c W
          omega
        · rw [if_neg e] at h; cases h
end
