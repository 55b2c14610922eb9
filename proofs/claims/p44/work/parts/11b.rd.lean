/-! reads and writes at a place, by a whole number -/
abbrev rd (h : Hp) (p : Nat) (i : Int) : Int := h p (Int.toNat i)
abbrev wr (h : Hp) (p : Nat) (i z : Int) : Hp := hu h p (Int.toNat i) z
abbrev rcp (h : Hp) (p : Nat) (sp : Int) (q : Nat) (dp n : Int) : Hp := hcp h p (Int.toNat sp) q (Int.toNat dp) (Int.toNat n)
