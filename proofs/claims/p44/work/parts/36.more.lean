/-! letters, means and shares, when the bridge can be opened -/
theorem let_r {r : Rw} {i k : Int} (ho : okH r i) (hk : 0 ≤ k ∧ k < 8) : 0 ≤ fl r i (6 + k) ∧ fl r i (6 + k) ≤ 122 := by
  obtain ⟨-, -, -, -, -, -, -, h, -⟩ := ho
  have := h k hk.1 hk.2
  by_cases c : k < fl r i 5
  · have := this.1 c; omega
  · have := this.2 (by omega); omega
theorem nml_r {r : Rw} {i : Int} (ho : okH r i) : 0 ≤ nm r i ∧ nm r i < 9223372036854775808 := by
  have a0 := let_r ho (k := 0) (by omega)
  have a1 := let_r ho (k := 1) (by omega)
  have a2 := let_r ho (k := 2) (by omega)
  have a3 := let_r ho (k := 3) (by omega)
  have a4 := let_r ho (k := 4) (by omega)
  have a5 := let_r ho (k := 5) (by omega)
  have a6 := let_r ho (k := 6) (by omega)
  have a7 := let_r ho (k := 7) (by omega)
  simp only [show (6 : Int) + 0 = 6 from rfl, show (6 : Int) + 1 = 7 from rfl, show (6 : Int) + 2 = 8 from rfl, show (6 : Int) + 3 = 9 from rfl, show (6 : Int) + 4 = 10 from rfl, show (6 : Int) + 5 = 11 from rfl, show (6 : Int) + 6 = 12 from rfl, show (6 : Int) + 7 = 13 from rfl] at a0 a1 a2 a3 a4 a5 a6 a7
  unfold nm
  omega
theorem nm_let {r : Rw} {i k : Int} (ho : okH r i) (hk : 0 ≤ k ∧ k < 8) : ((nm r i).toNat / 2 ^ (8 * k).toNat : Nat) % 256 = (fl r i (6 + k)).toNat := by
  have hr := nml_r ho
  have a0 := let_r ho (k := 0) (by omega)
  have a1 := let_r ho (k := 1) (by omega)
  have a2 := let_r ho (k := 2) (by omega)
  have a3 := let_r ho (k := 3) (by omega)
  have a4 := let_r ho (k := 4) (by omega)
  have a5 := let_r ho (k := 5) (by omega)
  have a6 := let_r ho (k := 6) (by omega)
  have a7 := let_r ho (k := 7) (by omega)
  simp only [show (6 : Int) + 0 = 6 from rfl, show (6 : Int) + 1 = 7 from rfl, show (6 : Int) + 2 = 8 from rfl, show (6 : Int) + 3 = 9 from rfl, show (6 : Int) + 4 = 10 from rfl, show (6 : Int) + 5 = 11 from rfl, show (6 : Int) + 6 = 12 from rfl, show (6 : Int) + 7 = 13 from rfl] at a0 a1 a2 a3 a4 a5 a6 a7
  have hn : nm r i = fl r i 6 + 256 * (fl r i 7 + 256 * (fl r i 8 + 256 * (fl r i 9 + 256 * (fl r i 10 + 256 * (fl r i 11 + 256 * (fl r i 12 + 256 * fl r i 13)))))) := rfl
  have hk8 : k = 0 ∨ k = 1 ∨ k = 2 ∨ k = 3 ∨ k = 4 ∨ k = 5 ∨ k = 6 ∨ k = 7 := by omega
  rcases hk8 with c | c | c | c | c | c | c | c <;> subst c
  · show (nm r i).toNat / 1 % 256 = (fl r i 6).toNat
    omega
  · show (nm r i).toNat / 256 % 256 = (fl r i 7).toNat
    omega
  · show (nm r i).toNat / 65536 % 256 = (fl r i 8).toNat
    omega
  · show (nm r i).toNat / 16777216 % 256 = (fl r i 9).toNat
    omega
  · show (nm r i).toNat / 4294967296 % 256 = (fl r i 10).toNat
    omega
  · show (nm r i).toNat / 1099511627776 % 256 = (fl r i 11).toNat
    omega
  · show (nm r i).toNat / 281474976710656 % 256 = (fl r i 12).toNat
    omega
  · show (nm r i).toNat / 72057594037927936 % 256 = (fl r i 13).toNat
    omega
theorem wv_2 {r : Rw} : wv r 2 = r 2 + 1 := (mk_h (by omega)).trans wvH_2
