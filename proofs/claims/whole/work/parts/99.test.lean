def tfc (n m : Nat) : Bool := (List.range n).all fun a => (List.range m).all fun b => decide (vf_n32 (FP.fdiv (FP.i2f (Int32.ofInt (a : Int))) (FP.i2f (Int32.ofInt ((b : Int) + 1)))))
set_option maxRecDepth 100000 in
theorem tfc_ok : tfc 41 40 = true := by decide +kernel
def tdc (n m : Nat) : Bool := (List.range n).all fun a => (List.range m).all fun b => decide (vf_n64 (FP.ddiv (FP.i2d (Int32.ofInt (a : Int))) (FP.i2d (Int32.ofInt ((b : Int) + 1)))))
set_option maxRecDepth 100000 in
theorem tdc_ok : tdc 100 40 = true := by decide +kernel
