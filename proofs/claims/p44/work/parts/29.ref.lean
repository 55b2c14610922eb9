/-! the reference's changes: what fails, copies, history, the next wave and the way back -/
theorem rd_hu {h : Hp} {p q k : Nat} {z : Int} (hn : q ≠ p) : rd (hu h p k z) q = rd h q := rd_ne (hu_q hn)
