/-! PURE: the digests -/
noncomputable def dg (f : Nat → Int32) (s : Int64) : Nat → Int64
  | 0 => s
  | n + 1 => 31 * dg f s n + (f n).toInt64
noncomputable def dcell (W H : Nat) (g : GG) (s : Int64) (c : Nat) : Int64 := 31 * (31 * dg (cfS W H g c) s 7 + (bfS W H g (lbG W H g c) 3).toInt64) + (bfS W H g (lbG W H g c) 4).toInt64
noncomputable def dcs (W H : Nat) (g : GG) (s : Int64) : Nat → Int64
  | 0 => s
  | n + 1 => dcell W H g (dcs W H g s n) n
noncomputable def dgA (W H : Nat) (g : GG) (len : Nat) : Int64 := dg (ffS W H g) (110267 + (nI len).toInt64) 14
noncomputable def dgC (W H : Nat) (g : GG) (len : Nat) : Int64 := dcs W H g (dgA W H g len) (W * H)
noncomputable def dgT (W H : Nat) (g : GG) (len kp k n : Nat) : Int64 := 31 * (31 * dg (gk g) (dgC W H g len) (3 * kp) + (nI k).toInt64) + (nI n).toInt64
section
variable {Z : ZZ} {M : MM} {a m : Nat} {g : GG} {W H : Nat} {sk : Nat → GG} {n ns len : Nat} {tx : Nat → Int32}
end
