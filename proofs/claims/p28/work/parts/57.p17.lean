/-! PURE: the model's blocks, found and asked -/
section
variable {Z : ZZ} {M : MM} {m : Nat} {g : GG} {W H : Nat}
theorem FbI.lab {th ct bl : Nat → Int32} (f : FbI W H th ct bl) (hW : 0 < W) (h : ∀ c d s, s < 2 → Hang W H th ct c d → bs W H c s = some d → bl c = bl d) : IsLab W H th ct bl := by
  intro c hc
  refine ⟨(f c hc).1, (f c hc).2, fun d hd => ?_⟩
  obtain ⟨q1, q2, q3, s, q4, q5, q6⟩ := hd
  by_cases e : s < 2
  · exact h c d s e ⟨q1, q2, q3, s, q4, q5, q6⟩ q5
  · have hb := (bs_back hW q1 q4 q5).1
    have hh : Hang W H th ct c d := ⟨q1, q2, q3, s, q4, q5, q6⟩
    exact (h d c (3 - s) (by omega) (hh.symm hW) hb).symm
end
