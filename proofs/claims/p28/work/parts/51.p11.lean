/-! PURE: the search for a way -/
def lgX (W H : Nat) (th lb : Nat → Int32) (n p : Nat) : Prop := p < 225 ∧ n / W + p / 15 ≤ H + 7 ∧ ∀ c, c < W * H → lb c = nI n → okC W H th lb (nI n) p c
def ouX (W H n p : Nat) : Prop := n / W + p / 15 = H + 7
noncomputable def f0X (W H : Nat) (th lb : Nat → Int32) (n p : Nat) : Int32 := @ite Int32 (lgX W H th lb n p) (Classical.propDecidable _) (if n / W + p / 15 = H + 7 then 0 else -1) (-2)
theorem f0X_is (W H : Nat) (th lb : Nat → Int32) (n : Nat) : Fz0 (lgX W H th lb n) (ouX W H n) (f0X W H th lb n) := by
  intro p
  refine ⟨fun a => ?_, fun a b => ?_, fun a b => ?_⟩
  · unfold f0X; rw [if_neg a]
  · unfold f0X; rw [if_pos a]; exact if_pos b
  · unfold f0X; rw [if_pos a]; exact if_neg b
/-- distances from being out -/
noncomputable def farX (W H : Nat) (th lb : Nat → Int32) (n : Nat) : Nat → Int32 := fz (f0X W H th lb n) 300
theorem farX_is (W H : Nat) (th lb : Nat → Int32) (n : Nat) : IsFar (lgX W H th lb n) (ouX W H n) (farX W H th lb n) := fz_far (f0X_is W H th lb n) (fun _ h => h.1)
def wayI (f : Nat → Int32) : Int32 := if f 112 < 0 then -1 else f 112
def gp (f : Nat → Int32) (D : Nat) : Nat → Nat
  | 0 => 112
  | k + 1 => Em (gp f D k) (gmv f (gp f D k) (D - k - 1))
theorem BfI.dle {lg ou : Nat → Prop} {rb q : Nat → Int32} {qp pr mv dp : Nat → Nat} {e nx sd : Nat} (B : BfI lg ou rb q qp pr mv dp e nx sd) : ∀ j, j < e → dp j ≤ j := by
  intro j
  induction j using Nat.strongRecOn with
  | ind j ih =>
    intro hj
    rcases Nat.eq_zero_or_pos j with z | z
    · rw [z, B.2.1.2.1]; exact Nat.le_refl _
    · obtain ⟨_, _, p3, _, _, _, p7⟩ := B.2.2.2.2.1 j z hj
      have := ih (pr j) p3 (by omega)
      omega
theorem start_lg {W H : Nat} {th lb : Nat → Int32} {n : Nat} (hn : n < W * H) (hW : 0 < W) : lgX W H th lb n 112 ∧ ¬ ouX W H n 112 := by
  have h1 : n / W < H := Nat.div_lt_of_lt_mul hn
  refine ⟨⟨by omega, by omega, fun c hc z => ⟨by have := Nat.zero_le (c / W); omega, by omega, ?_, fun _ _ => ?_⟩⟩, ?_⟩
  · have := Nat.mod_lt c hW; omega
  · have e : (c / W + 112 / 15 - 7) * W + (c % W + 112 % 15 - 7) = c := by
      have e1 : c / W + 112 / 15 - 7 = c / W := by have := Nat.zero_le (c / W); omega
      have e2 : c % W + 112 % 15 - 7 = c % W := by omega
      rw [e1, e2, Nat.mul_comm]; exact Nat.div_add_mod c W
    rw [e]; exact z
  · unfold ouX; omega
theorem Em_lt {p m : Nat} (hp : 15 ≤ p) (hp2 : p < 210) (hm : m < 4) : Em p m < 225 ∧ Em p m / 15 ≤ p / 15 + 1 := by
  obtain rfl | rfl | rfl | rfl : m = 0 ∨ m = 1 ∨ m = 2 ∨ m = 3 := by omega
  · show p - 1 < 225 ∧ (p - 1) / 15 ≤ p / 15 + 1; omega
  · show p + 1 < 225 ∧ (p + 1) / 15 ≤ p / 15 + 1; omega
  · show p - 15 < 225 ∧ (p - 15) / 15 ≤ p / 15 + 1; omega
  · show p + 15 < 225 ∧ (p + 15) / 15 ≤ p / 15 + 1; omega
theorem lg_in {W H : Nat} {th lb : Nat → Int32} {n p : Nat} (hn : n < W * H) (hH : H ≤ 7) (hl : lb n = nI n) (h : lgX W H th lb n p) : 15 ≤ p ∧ (¬ ouX W H n p → p < 210) := by
  have h1 : n / W < H := Nat.div_lt_of_lt_mul hn
  have h2 := (h.2.2 n hn hl).1
  have h3 := h.2.1
  refine ⟨by omega, fun z => ?_⟩
  unfold ouX at z
  have := Nat.zero_le (n / W)
  omega
theorem sp_search {Z : ZZ} {M : MM} {x y b : Nat} {g : GG} {W H n : Nat} {lb : Nat → Int32} {Q : Int32 → MM → Prop} (h : IceAt Z x) (hy : WayAt Z y) (hb : BlkAt Z b) (hxy : x + 9 ≤ y ∨ y + 9 ≤ x) (hyb : y + 9 ≤ b ∨ b + 7 ≤ y) (t : IceS M x g) (w : WH g W H) (hlb : ∀ c, c < 49 → mA M (b + 2) c = lb c) (hcl : ∀ c, c < 49 → lb c = nI n → c < W * H) (hn : n < W * H) (hln : lb n = nI n)
    (hQ : ∀ M1, Fr [y + 2, y + 4, y + 6, y + 8] [y] M M1 → (∀ D, D < 1000 → farX W H (gt g) lb n 112 = nI D → D < 240 ∧ ∀ j, j < D → mA M1 (y + 2) j = nI (gmv (farX W H (gt g) lb n) (gp (farX W H (gt g) lb n) D j) (D - j - 1))) → Q (wayI (farX W H (gt g) lb n)) M1) : P_X4_search Z M y x b (nI n) Q := by
  have hW : 0 < W := by have := w.2.2.1; omega
  have hW7 : W ≤ 7 := w.2.2.2.1
  have hH7 : H ≤ 7 := w.2.2.2.2.2
  have h49 : W * H ≤ 49 := wh_lt hW7 hH7
  have hm : NumAt Z (y + 1) (y + 2) 240 := hy.2.2.2.2.2.1
  have hr : NumAt Z (y + 5) (y + 6) 240 := hy.2.2.2.2.2.2.2.1
  have hq : NumAt Z (y + 7) (y + 8) 240 := hy.2.2.2.2.2.2.2.2
  have F := farX_is W H (gt g) lb n
  have hs0 := start_lg (th := gt g) (lb := lb) hn hW
  unfold P_X4_search B_X4_search_0
  refine ⟨hy.1, sp_gather hy hb hyb hlb (fun M1 f1 G1 => ⟨y + 5, hy.2.2.2.1, hr.1, sp_fill hr ?_⟩)⟩
  rw [show (112 : Int32) = nI 112 from rfl, show (0 : Int32) = nI 0 from rfl]
  refine (sp_put hr).mpr ⟨y + 7, hy.2.2.2.2.1, hq.1, (sp_put hq).mpr ⟨241, ?_⟩⟩
  rw [pput_n (by omega) (by omega), pput_n (by omega) (by omega), setA_twice, mA_same, mA_ne _ _ _ (by omega : y + 8 ≠ y + 6)]
  -- the loop over the queue
  refine for_up2 240 (fun k i e M' => L_X4_search_40 Z Q k M' y x b (nI n) (nI e) (nI i)) (fun i e M' => Fr [y + 4, y + 6, y + 8] [y] M M' ∧ GatS M' y lb (nI n) 49 ∧ ∃ qp pr mv dp, BfI (lgX W H (gt g) lb n) (ouX W H n) (mA M' (y + 6)) (mA M' (y + 8)) qp pr mv dp e i 0) ?_ ?_ 240 0 1 _ rfl ⟨?_, ?_, fun _ => 112, fun _ => 0, fun _ => 0, fun _ => 0, ?_⟩
  · intro k i e M' hi ⟨f, G, qp0, pr0, mv0, dp0, B0⟩ kk
    have he : e ≤ 225 := by have := B0.2.2.2.2.2.2.2.2; omega
    show B_X4_search_40 Z Q (L_X4_search_40 Z Q k) M' y x b (nI n) (nI e) (nI i)
    unfold B_X4_search_40
    refine ⟨fun z => ?_, fun z => ⟨fun z2 => ?_, fun _ => ⟨5, ?_⟩⟩⟩
    · rw [n_le (by omega) (by omega)] at z
      have hf := B0.lost F z
      have e2 : wayI (farX W H (gt g) lb n) = -1 := by unfold wayI; rw [hf]; rfl
      rw [e2] at hQ
      refine hQ M' (f.mono (by simp) (by simp)) (fun D hD z2 => ?_)
      rw [hf] at z2
      exact absurd z2.symm (i_n1 D (by omega))
    · rw [show (240 : Int32) = nI 240 from rfl, n_le (by omega) (by omega)] at z2
      omega
    · rw [n_le (by omega) (by omega)] at z
      refine for_up2 4 (fun k2 m e M' => L_X4_search_58 Z Q (L_X4_search_40 Z Q k) k2 M' y x b (nI n) (nI e) (nI i) (nI m)) (fun m e M' => Fr [y + 4, y + 6, y + 8] [y] M M' ∧ GatS M' y lb (nI n) 49 ∧ i < e ∧ ∃ qp pr mv dp, BfI (lgX W H (gt g) lb n) (ouX W H n) (mA M' (y + 6)) (mA M' (y + 8)) qp pr mv dp e i m) ?_ ?_ 4 0 e M' rfl ⟨f, G, by omega, qp0, pr0, mv0, dp0, B0⟩
      · intro k2 m e M' hm4 ⟨f, G, hie, qp, pr, mv, dp, B⟩ k3
        have he : e ≤ 225 := by have := B.2.2.2.2.2.2.2.2; omega
        have t1 : IceS M' x g := t.frame f (by simp; omega) (by simp; omega) (by simp; omega) (by simp; omega)
        have hlb1 : ∀ c, c < 49 → mA M' (b + 2) c = lb c := by
          rw [f.1 _ (by simp; omega)]; exact hlb
        have hqi := B.1 i hie
        have hli := B.2.2.1 i hie
        have hin := lg_in hn hH7 hln hli.1
        have hp210 := hin.2 hli.2
        obtain ⟨hE1, hE2⟩ := Em_lt hin.1 hp210 hm4
        show B_X4_search_58 Z Q (L_X4_search_40 Z Q k) (L_X4_search_58 Z Q (L_X4_search_40 Z Q k) k2) M' y x b (nI n) (nI e) (nI i) (nI m)
        unfold B_X4_search_58 B_X4_search_156
        have e4 : ¬ (4 : Int32) ≤ nI m := by rw [show (4 : Int32) = nI 4 from rfl, n_le (by omega) (by omega)]; omega
        simp only [nI_1]
        refine ⟨fun z => absurd z e4, fun _ => ⟨hy.1, y + 7, hy.2.2.2.2.1, hq.1, (sp_at hq).mpr ?_⟩⟩
        rw [gat_n (by omega) (by omega), hqi]
        refine (sp_step hm4).mpr ⟨y + 5, hy.2.2.2.1, hr.1, ?_⟩
        rw [st_add hin.1 hm4]
        refine (sp_at hr).mpr ?_
        rw [gat_n (by omega) (by omega)]
        refine ⟨fun z2 => k3 e M' ⟨f, G, hie, qp, pr, mv, dp, B.skip hie (fun _ => ⟨hE1, z2⟩)⟩, fun z2 => ?_⟩
        refine sp_canLie h hy hb t1 w hlb1 hcl G (by omega) (fun ok => ⟨fun z3 => absurd z3 (by decide), fun _ => ?_⟩) (fun ⟨c, c1, c2, c3⟩ => ⟨fun _ => ?_, fun z3 => absurd rfl z3⟩)
        · have hrow : n / W + Em (qp i) m / 15 ≤ H + 7 := by
            have a1 := hli.1.2.1
            have a2 : ¬ n / W + qp i / 15 = H + 7 := hli.2
            omega
          have hlg : lgX W H (gt g) lb n (Em (qp i) m) := ⟨hE1, hrow, ok⟩
          refine (sp_put hr).mpr ?_
          rw [pput_n (by omega) (by omega)]
          have f2 : Fr [y + 6] [] M' (setA M' (y + 6) (upd (mA M' (y + 6)) (Em (qp i) m) (nI m))) := Fr.setA _ _ _
          have t2 := t1.frame f2 (by simp) (by simp; omega) (by simp; omega) (by simp; omega)
          refine ⟨h.1, (sp_row h t2 w (by omega)).mpr ?_⟩
          unfold P_X4_downAt B_X4_downAt_0
          have h1 : n / W < H := Nat.div_lt_of_lt_mul hn
          have hdown : (nI (n / W) + (nI (Em (qp i) m) / 15 - 7) < mI (setA M' (y + 6) (upd (mA M' (y + 6)) (Em (qp i) m) (nI m))) 1 x) ↔ ¬ ouX W H n (Em (qp i) m) := by
            rw [t2.1 1 (by omega), w.2.1, (p15 (Em (qp i) m) (by omega)).1]
            have hp16 : Em (qp i) m / 15 < 16 := by omega
            obtain ⟨a1, a2⟩ := sh_all (n / W) (by omega) (Em (qp i) m / 15) hp16
            have h7 : 7 ≤ n / W + Em (qp i) m / 15 := (hlg.2.2 n hn hln).1
            rw [a2 h7, n_lt (by omega) (by omega)]
            unfold ouX
            omega
          dsimp only
          rw [hdown]
          refine ⟨fun ho => ?_, fun ho => ?_⟩
          · refine (sp_put hq).mpr ?_
            rw [pput_n (by omega) (by omega), mA_ne _ _ _ (by omega : y + 8 ≠ y + 6)]
            refine k3 (e + 1) _ ⟨?_, ?_, by omega, un qp e (Em (qp i) m), un pr e i, un mv e m, un dp e (dp i + 1), ?_⟩
            · exact (f.trans (f2.mono (by simp) (by simp))).trans ((Fr.setA _ _ _).mono (by simp) (by simp))
            · obtain ⟨sz, s1, s2, s3, s4⟩ := G
              refine ⟨sz, s1, s2, ?_, ?_⟩
              · rw [mA_ne _ _ _ (by omega), mA_ne _ _ _ (by omega)]; exact s3
              · rw [mA_ne _ _ _ (by omega), mA_ne _ _ _ (by omega)]; exact s4
            · rw [mA_same, mA_ne _ _ _ (by omega : y + 6 ≠ y + 8), mA_same]
              exact B.push hie hm4 hE1 hlg ho z2
          · have ho : ouX W H n (Em (qp i) m) := Classical.not_not.mp ho
            have hdn := B.dle i hie
            have hfd := B.found F hie (by omega : dp i < 300) hm4 hlg ho
            have hA := B.anc hie
            have h0 : ance pr i (dp i) = 0 := by
              obtain ⟨q1, q2, q3⟩ := hA (dp i) (Nat.le_refl _)
              rcases Nat.eq_zero_or_pos (ance pr i (dp i)) with z3 | z3
              · exact z3
              · have := B.dep (by omega : ance pr i (dp i) < e) z3
                omega
            have hv112 : Em (qp i) m ≠ 112 := fun z3 => by
              rw [z3, B.2.1.2.2.2] at z2; exact absurd z2 (by decide)
            have hpos0 : (fun k => if k = 0 then Em (qp i) m else qp (ance pr i (k - 1))) 0 = Em (qp i) m := rfl
            refine sp_trace (D := dp i + 1) (pos := fun k => if k = 0 then Em (qp i) m else qp (ance pr i (k - 1))) (mvs := nxm pr mv i m) hy (by omega) ?_ (fun k hk => ?_) (fun M2 f3 hmv => ?_)
            · simp [h0, B.2.1.1]
            · obtain ⟨q1, q2, q3, q4⟩ := hfd k (by omega)
              obtain ⟨r1, r2, r3⟩ := hA k (by omega)
              have hnm : nxm pr mv i m k < 4 := by
                unfold nxm
                by_cases z3 : k = 0
                · rw [if_pos z3]; exact hm4
                · rw [if_neg z3]
                  obtain ⟨u1, u2, u3⟩ := hA (k - 1) (by omega)
                  exact (B.2.2.2.2.1 _ (u3 (by omega)) (by omega)).2.1
              have hb15 := (lg_in hn hH7 hln (B.2.2.1 (ance pr i k) (by omega)).1).1
              have e1 : (if k + 1 = 0 then Em (qp i) m else qp (ance pr i (k + 1 - 1))) = qp (ance pr i k) := by
                rw [if_neg (by omega)]; rfl
              show (if k = 0 then Em (qp i) m else qp (ance pr i (k - 1))) < 240 ∧ _
              rw [mA_same]
              simp only [e1]
              by_cases z3 : k = 0
              · subst z3
                simp only [if_true]
                exact ⟨by omega, hv112, upd_same _ _ _, hnm, (q3 rfl).symm, hb15⟩
              · simp only [if_neg z3]
                obtain ⟨u1, u2, u3⟩ := hA (k - 1) (by omega)
                have u3 := u3 (by omega)
                obtain ⟨v1, v2, _⟩ := B.2.2.2.2.1 _ u3 (by omega : ance pr i (k - 1) < e)
                have hl2 := (B.2.2.1 (ance pr i (k - 1)) (by omega)).1
                have hne : qp (ance pr i (k - 1)) ≠ Em (qp i) m := fun z4 => by
                  rw [z4, z2] at v1; exact absurd v1.symm (i_n1 _ (by omega))
                have hn112 : qp (ance pr i (k - 1)) ≠ 112 := fun z4 => by
                  rw [z4, B.2.1.2.2.2, n_eq (by omega) (by omega)] at v1; omega
                refine ⟨by have := hl2.1; omega, hn112, ?_, hnm, (q4 (by omega)).symm, hb15⟩
                rw [upd_ne _ _ hne, v1]
                unfold nxm; rw [if_neg z3]
            · have hD : farX W H (gt g) lb n 112 = nI (dp i + 1) := by
                have := (hfd (dp i) (Nat.le_refl _)).1
                rw [h0, B.2.1.1] at this
                exact this
              have ew : wayI (farX W H (gt g) lb n) = nI (dp i + 1) := by
                unfold wayI; rw [hD, if_neg (i_nn _ (by omega))]
              rw [ew] at hQ
              refine hQ M2 ((f.trans (f2.mono (by simp) (by simp))).mono (by simp) (by simp) |>.trans (f3.mono (by simp) (by simp))) (fun D hDs z3 => ?_)
              have hDe : D = dp i + 1 := by
                have := z3.symm.trans hD
                rwa [n_eq (by omega) (by omega)] at this
              subst hDe
              have hgp : ∀ j, j ≤ dp i + 1 → gp (farX W H (gt g) lb n) (dp i + 1) j = (if dp i + 1 - j = 0 then Em (qp i) m else qp (ance pr i (dp i + 1 - j - 1))) := by
                intro j
                induction j with
                | zero =>
                  intro _
                  rw [if_neg (by omega)]
                  show 112 = _
                  rw [show dp i + 1 - 0 - 1 = dp i by omega, h0, B.2.1.1]
                | succ j ih =>
                  intro hj
                  have ih := ih (by omega)
                  rw [if_neg (by omega)] at ih
                  obtain ⟨q1, q2, q3, q4⟩ := hfd (dp i + 1 - j - 1) (by omega)
                  show Em (gp _ _ j) (gmv _ (gp _ _ j) (dp i + 1 - j - 1)) = _
                  rw [ih, q2]
                  by_cases z4 : dp i + 1 - j - 1 = 0
                  · rw [q3 z4, if_pos (by omega)]
                  · rw [q4 (by omega), if_neg (by omega)]
                    congr 2
              refine ⟨by omega, fun j hj => ?_⟩
              have hj1 := hmv (dp i + 1 - 1 - j) (by omega)
              rw [show dp i + 1 - 1 - (dp i + 1 - 1 - j) = j by omega] at hj1
              rw [hj1, hgp j (by omega), if_neg (by omega)]
              have := (hfd (dp i + 1 - j - 1) (by omega)).2.1
              rw [this, show dp i + 1 - 1 - j = dp i + 1 - j - 1 by omega]
        · refine k3 e M' ⟨f, G, hie, qp, pr, mv, dp, B.skip hie (fun hl => ?_)⟩
          exact absurd (hl.2.2 c c1 c2) c3
      · intro k2 e M' ⟨f, G, hie, qp, pr, mv, dp, B⟩
        show B_X4_search_58 Z Q (L_X4_search_40 Z Q k) (L_X4_search_58 Z Q (L_X4_search_40 Z Q k) k2) M' y x b (nI n) (nI e) (nI i) (nI 4)
        unfold B_X4_search_58
        refine ⟨fun _ => ?_, fun z => absurd (by decide) z⟩
        rw [nI_1]
        exact kk e M' ⟨f, G, qp, pr, mv, dp, B.next⟩
  · intro k e M' ⟨f, G, qp0, pr0, mv0, dp0, B0⟩
    have he : e ≤ 225 := by have := B0.2.2.2.2.2.2.2.2; omega
    show B_X4_search_40 Z Q (L_X4_search_40 Z Q k) M' y x b (nI n) (nI e) (nI 240)
    unfold B_X4_search_40
    refine ⟨fun z => ?_, fun z => absurd ?_ z⟩
    · have hf := B0.lost F (by omega)
      have e2 : wayI (farX W H (gt g) lb n) = -1 := by unfold wayI; rw [hf]; rfl
      rw [e2] at hQ
      refine hQ M' (f.mono (by simp) (by simp)) (fun D hD z2 => ?_)
      rw [hf] at z2
      exact absurd z2.symm (i_n1 D (by omega))
    · rw [n_le (by omega) (by omega)]; omega
  · exact ((f1.mono (by simp) (by simp)).trans ((Fr.setA _ _ _).mono (by simp) (by simp))).trans ((Fr.setA _ _ _).mono (by simp) (by simp))
  · obtain ⟨sz, s1, s2, s3, s4⟩ := G1
    refine ⟨sz, s1, s2, ?_, ?_⟩
    · rw [mA_ne _ _ _ (by omega), mA_ne _ _ _ (by omega)]; exact s3
    · rw [mA_ne _ _ _ (by omega), mA_ne _ _ _ (by omega)]; exact s4
  · rw [mA_same, mA_ne _ _ _ (by omega : y + 6 ≠ y + 8), mA_same]
    refine ⟨fun j hj => ?_, ⟨rfl, rfl, by omega, upd_same _ _ _⟩, fun _ _ => hs0, fun p hp => ?_, fun j h1 h2 => by omega, fun i j h1 h2 h3 => by omega, fun _ _ _ _ => Nat.le_refl _, fun a m ha hm hor _ => by omega, ?_⟩
    · have : j = 0 := by omega
      subst this
      exact upd_same _ _ _
    · rw [upd_at]
      by_cases z : p = 112
      · rw [if_pos z]
        exact ⟨fun _ => ⟨0, by omega, z.symm⟩, fun _ => by decide⟩
      · rw [if_neg z]
        exact ⟨fun z2 => absurd (if_pos (by omega)) z2, fun ⟨j, _, j2⟩ => absurd j2.symm z⟩
    · have hall : ∀ (f : Nat → Int32) (k : Nat), (∀ p, p < k → f p = -1) → cnE f (-1) k = k := by
        intro f k
        induction k with
        | zero => intro _; rfl
        | succ k ih =>
          intro hh
          simp only [cnE]
          rw [ih (fun p hp => hh p (by omega)), if_pos (hh k (by omega))]
      have e1 := cnE_upd (f := fun j => if j < 240 then (-1 : Int32) else mA M1 (y + 6) j) (v2 := (4 : Int32)) (by omega : 112 < 225) (if_pos (by omega)) (by decide)
      have e2 := hall (fun j => if j < 240 then (-1 : Int32) else mA M1 (y + 6) j) 225 (fun p hp => if_pos (by omega))
      omega
