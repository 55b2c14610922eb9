/-! a row an instruction, of the light layer -/
theorem zI_toInt {z : Int} (h : zr z) : (Int32.ofInt z).toInt = z := by
  obtain ⟨h1, h2⟩ := h
  rw [Int32.toInt_ofInt]
  exact Int.bmod_eq_of_le (by show (-((4294967296 : Nat) : Int) / 2 ≤ z); omega) (by show (z < (((4294967296 : Nat) : Int) + 1) / 2); omega)
theorem zL_toInt {z : Int} (h : zr6 z) : (Int64.ofInt z).toInt = z := by
  obtain ⟨h1, h2⟩ := h
  rw [Int64.toInt_ofInt]
  exact Int.bmod_eq_of_le (by show (-((18446744073709551616 : Nat) : Int) / 2 ≤ z); omega) (by show (z < (((18446744073709551616 : Nat) : Int) + 1) / 2); omega)
theorem zI_eq {x y : Int} (hx : zr x) (hy : zr y) : Int32.ofInt x = Int32.ofInt y ↔ x = y := by
  rw [← Int32.toInt_inj, zI_toInt hx, zI_toInt hy]
theorem zI_lt {x y : Int} (hx : zr x) (hy : zr y) : Int32.ofInt x < Int32.ofInt y ↔ x < y := by
  rw [Int32.lt_iff_toInt_lt, zI_toInt hx, zI_toInt hy]
theorem zI_le {x y : Int} (hx : zr x) (hy : zr y) : Int32.ofInt x ≤ Int32.ofInt y ↔ x ≤ y := by
  rw [Int32.le_iff_toInt_le, zI_toInt hx, zI_toInt hy]
theorem zI_in {x : Int} {n : Nat} (hx : zr x) (h : 0 ≤ x ∧ x < n) : vp_in (Int32.ofInt x) n := by
  rw [vp_in_iff, zI_toInt hx]
  exact h
theorem zI_cl {x : Int} (hx : zr x) (h0 : 0 ≤ x) : (Int32.ofInt x).toNatClampNeg = x.toNat := by
  rw [Int32.toNatClampNeg, zI_toInt hx]
theorem zr0 : zr 0 := ⟨by omega, by omega⟩
theorem zr_I (x : Int32) : zr x.toInt := ⟨by have := Int32.le_toInt x; omega, by have := Int32.toInt_lt x; omega⟩
theorem zr_L (x : Int64) : zr6 x.toInt := ⟨by have := Int64.le_toInt x; omega, by have := Int64.toInt_lt x; omega⟩
def zand (x y : Int) : Int := (Int32.ofInt x &&& Int32.ofInt y).toInt
def zishr (x y : Int) : Int := (Int32.ofInt x >>> (Int32.ofInt y &&& 31)).toInt
def ziushr (x y : Int) : Int := ((Int32.ofInt x).toUInt32 >>> ((Int32.ofInt y).toUInt32 &&& Int32.toUInt32 31)).toInt32.toInt
def zi2b (x : Int) : Int := (Int32.ofInt x).toInt8.toInt32.toInt
def zl2i (x : Int) : Int := (Int64.ofInt x).toInt32.toInt
def zland (x y : Int) : Int := (Int64.ofInt x &&& Int64.ofInt y).toInt
def zlor (x y : Int) : Int := (Int64.ofInt x ||| Int64.ofInt y).toInt
def zlxor (x y : Int) : Int := (Int64.ofInt x ^^^ Int64.ofInt y).toInt
def zlshl (x y : Int) : Int := (Int64.ofInt x <<< ((Int32.ofInt y).toInt64 &&& 63)).toInt
def zlushr (x y : Int) : Int := ((Int64.ofInt x).toUInt64 >>> ((Int32.ofInt y).toInt64.toUInt64 &&& Int64.toUInt64 63)).toInt64.toInt
def zlcmp (x y : Int) : Int := if y < x then 1 else if x = y then 0 else -1
theorem zlcmp_r (x y : Int) : zr (zlcmp x y) := by
  unfold zlcmp zr
  by_cases q : y < x
  · rw [if_pos q]; omega
  · rw [if_neg q]
    by_cases q2 : x = y
    · rw [if_pos q2]; omega
    · rw [if_neg q2]; omega
section ZR
variable {l0 : Launch} {a : ZC} {M : ZM} {cc : ByteArray} {own : String} {mL : Nat} {ret : Option FieldType} {mn : Nat} {tb : List (Nat × Nat × Nat × Nat)} {k n pc : Nat} {ls : List (Option AV)} {st : List AV} {h : Hp}
theorem zV_iconst (O : zOk l0 a cc own mL ret mn tb) {z : Int} (hz : zr z)
    (hd : decode cc pc = .ok (.iconst z, 1)) (kk : zV a M k n (pc + 1) ls (aI z :: st) h) : zV a M k n pc ls st h := by
  obtain ⟨⟨p, l, e, s, m, args, below, meth, c⟩, G, E, N⟩ := a
  obtain ⟨hx, hb, hml, hr, ho, hlk, hK, hAD, hN, hex, hl0, hG⟩ := O
  intro cs cl hh H locs la hP hS hL
  exact lv_iconst hx hb hd rfl (kk (fun v hv => (List.mem_cons.mp hv).elim (fun e => e ▸ hz) (cs v)) cl hh H locs la hP hS hL)

theorem zV_bipush (O : zOk l0 a cc own mL ret mn tb) {z : Int} (hz : zr z) (he : (Int8.ofInt z).toInt32 = Int32.ofInt z)
    (hd : decode cc pc = .ok (.bipush z, 2)) (kk : zV a M k n (pc + 2) ls (aI z :: st) h) : zV a M k n pc ls st h := by
  obtain ⟨⟨p, l, e, s, m, args, below, meth, c⟩, G, E, N⟩ := a
  obtain ⟨hx, hb, hml, hr, ho, hlk, hK, hAD, hN, hex, hl0, hG⟩ := O
  intro cs cl hh H locs la hP hS hL
  exact lv_bipush hx hb hd he (kk (fun v hv => (List.mem_cons.mp hv).elim (fun e => e ▸ hz) (cs v)) cl hh H locs la hP hS hL)

theorem zV_sipush (O : zOk l0 a cc own mL ret mn tb) {z : Int} (hz : zr z) (he : (Int16.ofInt z).toInt32 = Int32.ofInt z)
    (hd : decode cc pc = .ok (.sipush z, 3)) (kk : zV a M k n (pc + 3) ls (aI z :: st) h) : zV a M k n pc ls st h := by
  obtain ⟨⟨p, l, e, s, m, args, below, meth, c⟩, G, E, N⟩ := a
  obtain ⟨hx, hb, hml, hr, ho, hlk, hK, hAD, hN, hex, hl0, hG⟩ := O
  intro cs cl hh H locs la hP hS hL
  exact lv_sipush hx hb hd he (kk (fun v hv => (List.mem_cons.mp hv).elim (fun e => e ▸ hz) (cs v)) cl hh H locs la hP hS hL)

theorem zV_lconst (O : zOk l0 a cc own mL ret mn tb) {j : Fin 2} {z : Int} (hz : zr6 z) (he : Int64.ofNat (j : Nat) = Int64.ofInt z)
    (hd : decode cc pc = .ok (.lconst j, 1)) (kk : zV a M k n (pc + 1) ls (aL z :: st) h) : zV a M k n pc ls st h := by
  obtain ⟨⟨p, l, e, s, m, args, below, meth, c⟩, G, E, N⟩ := a
  obtain ⟨hx, hb, hml, hr, ho, hlk, hK, hAD, hN, hex, hl0, hG⟩ := O
  intro cs cl hh H locs la hP hS hL
  exact lv_lconst hx hb hd he (kk (fun v hv => (List.mem_cons.mp hv).elim (fun e => e ▸ hz) (cs v)) cl hh H locs la hP hS hL)

theorem zV_ldc (O : zOk l0 a cc own mL ret mn tb) {i : Nat} {z : Int} (hz : zr z) (hw : Cond.constant own i (Int32.ofInt z) ∈ lw_tbl) (hg : zok (Cond.constant own i (Int32.ofInt z)) = true)
    (hd : decode cc pc = .ok (.ldc i, 2)) (kk : zV a M k n (pc + 2) ls (aI z :: st) h) : zV a M k n pc ls st h := by
  obtain ⟨⟨p, l, e, s, m, args, below, meth, c⟩, G, E, N⟩ := a
  obtain ⟨hx, hb, hml, hr, ho, hlk, hK, hAD, hN, hex, hl0, hG⟩ := O
  intro cs cl hh H locs la hP hS hL
  exact lv_ldc hx hb ho (zKW_use hK.2.1 hw hg) hd (kk (fun v hv => (List.mem_cons.mp hv).elim (fun e => e ▸ hz) (cs v)) cl hh H locs la hP hS hL)

theorem zV_ldcw (O : zOk l0 a cc own mL ret mn tb) {i : Nat} {z : Int} (hz : zr z) (hw : Cond.constant own i (Int32.ofInt z) ∈ lw_tbl) (hg : zok (Cond.constant own i (Int32.ofInt z)) = true)
    (hd : decode cc pc = .ok (.ldc_w i, 3)) (kk : zV a M k n (pc + 3) ls (aI z :: st) h) : zV a M k n pc ls st h := by
  obtain ⟨⟨p, l, e, s, m, args, below, meth, c⟩, G, E, N⟩ := a
  obtain ⟨hx, hb, hml, hr, ho, hlk, hK, hAD, hN, hex, hl0, hG⟩ := O
  intro cs cl hh H locs la hP hS hL
  exact lv_ldcw hx hb ho (zKW_use hK.2.1 hw hg) hd (kk (fun v hv => (List.mem_cons.mp hv).elim (fun e => e ▸ hz) (cs v)) cl hh H locs la hP hS hL)

theorem zV_ldc2 (O : zOk l0 a cc own mL ret mn tb) {i : Nat} {z : Int} (hz : zr6 z) (hw : Cond.constantLong own i (Int64.ofInt z) ∈ lw_tbl) (hg : zok (Cond.constantLong own i (Int64.ofInt z)) = true)
    (hd : decode cc pc = .ok (.ldc2_w i, 3)) (kk : zV a M k n (pc + 3) ls (aL z :: st) h) : zV a M k n pc ls st h := by
  obtain ⟨⟨p, l, e, s, m, args, below, meth, c⟩, G, E, N⟩ := a
  obtain ⟨hx, hb, hml, hr, ho, hlk, hK, hAD, hN, hex, hl0, hG⟩ := O
  intro cs cl hh H locs la hP hS hL
  exact lv_ldc2 hx hb ho (zKW_use hK.2.1 hw hg) hd (kk (fun v hv => (List.mem_cons.mp hv).elim (fun e => e ▸ hz) (cs v)) cl hh H locs la hP hS hL)

theorem zV_fconst0 (O : zOk l0 a cc own mL ret mn tb) 
    (hd : decode cc pc = .ok (.fconst 0, 1)) (kk : zV a M k n (pc + 1) ls (aF FP.fconst0 :: st) h) : zV a M k n pc ls st h := by
  obtain ⟨⟨p, l, e, s, m, args, below, meth, c⟩, G, E, N⟩ := a
  obtain ⟨hx, hb, hml, hr, ho, hlk, hK, hAD, hN, hex, hl0, hG⟩ := O
  intro cs cl hh H locs la hP hS hL
  exact lv_fconst0 hx hb hd (kk (fun v hv => (List.mem_cons.mp hv).elim (fun e => e ▸ trivial) (cs v)) cl hh H locs la hP hS hL)

theorem zV_dconst0 (O : zOk l0 a cc own mL ret mn tb) 
    (hd : decode cc pc = .ok (.dconst 0, 1)) (kk : zV a M k n (pc + 1) ls (aD FP.dconst0 :: st) h) : zV a M k n pc ls st h := by
  obtain ⟨⟨p, l, e, s, m, args, below, meth, c⟩, G, E, N⟩ := a
  obtain ⟨hx, hb, hml, hr, ho, hlk, hK, hAD, hN, hex, hl0, hG⟩ := O
  intro cs cl hh H locs la hP hS hL
  exact lv_dconst0 hx hb hd (kk (fun v hv => (List.mem_cons.mp hv).elim (fun e => e ▸ trivial) (cs v)) cl hh H locs la hP hS hL)

theorem zV_iload_n (O : zOk l0 a cc own mL ret mn tb) {j : Fin 4} {i : Nat} {z : Int}
    (hd : decode cc pc = .ok (.iload_n j, 1)) (hi : (j : Nat) = i) (hl : ls[i]? = some (some (aI z))) (kk : zV a M k n (pc + 1) ls (aI z :: st) h) : zV a M k n pc ls st h := by
  obtain ⟨⟨p, l, e, s, m, args, below, meth, c⟩, G, E, N⟩ := a
  obtain ⟨hx, hb, hml, hr, ho, hlk, hK, hAD, hN, hex, hl0, hG⟩ := O
  intro cs cl hh H locs la hP hS hL
  exact lv_iload_n hx hb hd hi (zL_get hL hl) (kk (fun v hv => (List.mem_cons.mp hv).elim (fun e => e ▸ cl _ (List.mem_of_getElem? hl)) (cs v)) cl hh H locs la hP hS hL)

theorem zV_iload (O : zOk l0 a cc own mL ret mn tb) {i : Nat} {z : Int}
    (hd : decode cc pc = .ok (.iload i, 2)) (hl : ls[i]? = some (some (aI z))) (kk : zV a M k n (pc + 2) ls (aI z :: st) h) : zV a M k n pc ls st h := by
  obtain ⟨⟨p, l, e, s, m, args, below, meth, c⟩, G, E, N⟩ := a
  obtain ⟨hx, hb, hml, hr, ho, hlk, hK, hAD, hN, hex, hl0, hG⟩ := O
  intro cs cl hh H locs la hP hS hL
  exact lv_iload hx hb hd (zL_get hL hl) (kk (fun v hv => (List.mem_cons.mp hv).elim (fun e => e ▸ cl _ (List.mem_of_getElem? hl)) (cs v)) cl hh H locs la hP hS hL)

theorem zV_lload_n (O : zOk l0 a cc own mL ret mn tb) {j : Fin 4} {i : Nat} {z : Int}
    (hd : decode cc pc = .ok (.lload_n j, 1)) (hi : (j : Nat) = i) (hl : ls[i]? = some (some (aL z))) (kk : zV a M k n (pc + 1) ls (aL z :: st) h) : zV a M k n pc ls st h := by
  obtain ⟨⟨p, l, e, s, m, args, below, meth, c⟩, G, E, N⟩ := a
  obtain ⟨hx, hb, hml, hr, ho, hlk, hK, hAD, hN, hex, hl0, hG⟩ := O
  intro cs cl hh H locs la hP hS hL
  exact lv_lload_n hx hb hd hi (zL_get hL hl) (kk (fun v hv => (List.mem_cons.mp hv).elim (fun e => e ▸ cl _ (List.mem_of_getElem? hl)) (cs v)) cl hh H locs la hP hS hL)

theorem zV_lload (O : zOk l0 a cc own mL ret mn tb) {i : Nat} {z : Int}
    (hd : decode cc pc = .ok (.lload i, 2)) (hl : ls[i]? = some (some (aL z))) (kk : zV a M k n (pc + 2) ls (aL z :: st) h) : zV a M k n pc ls st h := by
  obtain ⟨⟨p, l, e, s, m, args, below, meth, c⟩, G, E, N⟩ := a
  obtain ⟨hx, hb, hml, hr, ho, hlk, hK, hAD, hN, hex, hl0, hG⟩ := O
  intro cs cl hh H locs la hP hS hL
  exact lv_lload hx hb hd (zL_get hL hl) (kk (fun v hv => (List.mem_cons.mp hv).elim (fun e => e ▸ cl _ (List.mem_of_getElem? hl)) (cs v)) cl hh H locs la hP hS hL)

theorem zV_aload_n (O : zOk l0 a cc own mL ret mn tb) {j : Fin 4} {i : Nat} {z : Nat}
    (hd : decode cc pc = .ok (.aload_n j, 1)) (hi : (j : Nat) = i) (hl : ls[i]? = some (some (aR z))) (kk : zV a M k n (pc + 1) ls (aR z :: st) h) : zV a M k n pc ls st h := by
  obtain ⟨⟨p, l, e, s, m, args, below, meth, c⟩, G, E, N⟩ := a
  obtain ⟨hx, hb, hml, hr, ho, hlk, hK, hAD, hN, hex, hl0, hG⟩ := O
  intro cs cl hh H locs la hP hS hL
  exact lv_aload_n hx hb hd hi (zL_get hL hl) (kk (fun v hv => (List.mem_cons.mp hv).elim (fun e => e ▸ cl _ (List.mem_of_getElem? hl)) (cs v)) cl hh H locs la hP hS hL)

theorem zV_aload (O : zOk l0 a cc own mL ret mn tb) {i : Nat} {z : Nat}
    (hd : decode cc pc = .ok (.aload i, 2)) (hl : ls[i]? = some (some (aR z))) (kk : zV a M k n (pc + 2) ls (aR z :: st) h) : zV a M k n pc ls st h := by
  obtain ⟨⟨p, l, e, s, m, args, below, meth, c⟩, G, E, N⟩ := a
  obtain ⟨hx, hb, hml, hr, ho, hlk, hK, hAD, hN, hex, hl0, hG⟩ := O
  intro cs cl hh H locs la hP hS hL
  exact lv_aload hx hb hd (zL_get hL hl) (kk (fun v hv => (List.mem_cons.mp hv).elim (fun e => e ▸ cl _ (List.mem_of_getElem? hl)) (cs v)) cl hh H locs la hP hS hL)

theorem zV_dload (O : zOk l0 a cc own mL ret mn tb) {i : Nat} {z : UInt64}
    (hd : decode cc pc = .ok (.dload i, 2)) (hl : ls[i]? = some (some (aD z))) (kk : zV a M k n (pc + 2) ls (aD z :: st) h) : zV a M k n pc ls st h := by
  obtain ⟨⟨p, l, e, s, m, args, below, meth, c⟩, G, E, N⟩ := a
  obtain ⟨hx, hb, hml, hr, ho, hlk, hK, hAD, hN, hex, hl0, hG⟩ := O
  intro cs cl hh H locs la hP hS hL
  exact lv_dload hx hb hd (zL_get hL hl) (kk (fun v hv => (List.mem_cons.mp hv).elim (fun e => e ▸ cl _ (List.mem_of_getElem? hl)) (cs v)) cl hh H locs la hP hS hL)

theorem zV_istore_n (O : zOk l0 a cc own mL ret mn tb) {j : Fin 4} {i : Nat} {z : Int}
    (hd : decode cc pc = .ok (.istore_n j, 1)) (hi : (j : Nat) = i) (hlt : i < mL) (hc : zcut ls i = true) (kk : zV a M k n (pc + 1) (ls.set i (some (aI z))) st h) : zV a M k n pc ls (aI z :: st) h := by
  obtain ⟨⟨p, l, e, s, m, args, below, meth, c⟩, G, E, N⟩ := a
  obtain ⟨hx, hb, hml, hr, ho, hlk, hK, hAD, hN, hex, hl0, hG⟩ := O
  intro cs cl hh H locs la hP hS hL
  exact lv_istore_n hx hb hd hi (nL := mL) (lv := zpr E 0 ls) (by rw [← hml]; exact hL) hlt rfl (fun la2 hL2 => kk (fun v hv => cs v (List.mem_cons_of_mem _ hv)) (zset_can cl (cs _ List.mem_cons_self)) hh H locs la2 hP hS (by rw [hml]; exact zL_set1 hL2 hc))

theorem zV_istore (O : zOk l0 a cc own mL ret mn tb) {i : Nat} {z : Int}
    (hd : decode cc pc = .ok (.istore i, 2)) (hlt : i < mL) (hc : zcut ls i = true) (kk : zV a M k n (pc + 2) (ls.set i (some (aI z))) st h) : zV a M k n pc ls (aI z :: st) h := by
  obtain ⟨⟨p, l, e, s, m, args, below, meth, c⟩, G, E, N⟩ := a
  obtain ⟨hx, hb, hml, hr, ho, hlk, hK, hAD, hN, hex, hl0, hG⟩ := O
  intro cs cl hh H locs la hP hS hL
  exact lv_istore hx hb hd (nL := mL) (lv := zpr E 0 ls) (by rw [← hml]; exact hL) hlt rfl (fun la2 hL2 => kk (fun v hv => cs v (List.mem_cons_of_mem _ hv)) (zset_can cl (cs _ List.mem_cons_self)) hh H locs la2 hP hS (by rw [hml]; exact zL_set1 hL2 hc))

theorem zV_lstore_n (O : zOk l0 a cc own mL ret mn tb) {j : Fin 4} {i : Nat} {z : Int}
    (hd : decode cc pc = .ok (.lstore_n j, 1)) (hi : (j : Nat) = i) (hlt : i + 1 < mL) (hc : zcut ls i = true) (kk : zV a M k n (pc + 1) ((ls.set i (some (aL z))).set (i + 1) none) st h) : zV a M k n pc ls (aL z :: st) h := by
  obtain ⟨⟨p, l, e, s, m, args, below, meth, c⟩, G, E, N⟩ := a
  obtain ⟨hx, hb, hml, hr, ho, hlk, hK, hAD, hN, hex, hl0, hG⟩ := O
  intro cs cl hh H locs la hP hS hL
  exact lv_lstore_n hx hb hd hi (nL := mL) (lv := zpr E 0 ls) (by rw [← hml]; exact hL) hlt rfl (fun la2 hL2 => kk (fun v hv => cs v (List.mem_cons_of_mem _ hv)) (zset_canN (zset_can cl (cs _ List.mem_cons_self))) hh H locs la2 hP hS (by rw [hml]; exact zL_set2 hL2 hc))

theorem zV_lstore (O : zOk l0 a cc own mL ret mn tb) {i : Nat} {z : Int}
    (hd : decode cc pc = .ok (.lstore i, 2)) (hlt : i + 1 < mL) (hc : zcut ls i = true) (kk : zV a M k n (pc + 2) ((ls.set i (some (aL z))).set (i + 1) none) st h) : zV a M k n pc ls (aL z :: st) h := by
  obtain ⟨⟨p, l, e, s, m, args, below, meth, c⟩, G, E, N⟩ := a
  obtain ⟨hx, hb, hml, hr, ho, hlk, hK, hAD, hN, hex, hl0, hG⟩ := O
  intro cs cl hh H locs la hP hS hL
  exact lv_lstore hx hb hd (nL := mL) (lv := zpr E 0 ls) (by rw [← hml]; exact hL) hlt rfl (fun la2 hL2 => kk (fun v hv => cs v (List.mem_cons_of_mem _ hv)) (zset_canN (zset_can cl (cs _ List.mem_cons_self))) hh H locs la2 hP hS (by rw [hml]; exact zL_set2 hL2 hc))

theorem zV_dstore (O : zOk l0 a cc own mL ret mn tb) {i : Nat} {z : UInt64}
    (hd : decode cc pc = .ok (.dstore i, 2)) (hlt : i + 1 < mL) (hc : zcut ls i = true) (kk : zV a M k n (pc + 2) ((ls.set i (some (aD z))).set (i + 1) none) st h) : zV a M k n pc ls (aD z :: st) h := by
  obtain ⟨⟨p, l, e, s, m, args, below, meth, c⟩, G, E, N⟩ := a
  obtain ⟨hx, hb, hml, hr, ho, hlk, hK, hAD, hN, hex, hl0, hG⟩ := O
  intro cs cl hh H locs la hP hS hL
  exact lv_dstore hx hb hd (nL := mL) (lv := zpr E 0 ls) (by rw [← hml]; exact hL) hlt rfl (fun la2 hL2 => kk (fun v hv => cs v (List.mem_cons_of_mem _ hv)) (zset_canN (zset_can cl (cs _ List.mem_cons_self))) hh H locs la2 hP hS (by rw [hml]; exact zL_set2 hL2 hc))

theorem zV_astore_n (O : zOk l0 a cc own mL ret mn tb) {j : Fin 4} {i : Nat} {z : Nat}
    (hd : decode cc pc = .ok (.astore_n j, 1)) (hi : (j : Nat) = i) (hlt : i < mL) (hc : zcut ls i = true) (kk : zV a M k n (pc + 1) (ls.set i (some (aR z))) st h) : zV a M k n pc ls (aR z :: st) h := by
  obtain ⟨⟨p, l, e, s, m, args, below, meth, c⟩, G, E, N⟩ := a
  obtain ⟨hx, hb, hml, hr, ho, hlk, hK, hAD, hN, hex, hl0, hG⟩ := O
  intro cs cl hh H locs la hP hS hL
  exact lv_astore_n hx hb hd hi (nL := mL) (lv := zpr E 0 ls) (by rw [← hml]; exact hL) hlt rfl (fun la2 hL2 => kk (fun v hv => cs v (List.mem_cons_of_mem _ hv)) (zset_can cl (cs _ List.mem_cons_self)) hh H locs la2 hP hS (by rw [hml]; exact zL_set1 hL2 hc))

theorem zV_astore (O : zOk l0 a cc own mL ret mn tb) {i : Nat} {z : Nat}
    (hd : decode cc pc = .ok (.astore i, 2)) (hlt : i < mL) (hc : zcut ls i = true) (kk : zV a M k n (pc + 2) (ls.set i (some (aR z))) st h) : zV a M k n pc ls (aR z :: st) h := by
  obtain ⟨⟨p, l, e, s, m, args, below, meth, c⟩, G, E, N⟩ := a
  obtain ⟨hx, hb, hml, hr, ho, hlk, hK, hAD, hN, hex, hl0, hG⟩ := O
  intro cs cl hh H locs la hP hS hL
  exact lv_astore hx hb hd (nL := mL) (lv := zpr E 0 ls) (by rw [← hml]; exact hL) hlt rfl (fun la2 hL2 => kk (fun v hv => cs v (List.mem_cons_of_mem _ hv)) (zset_can cl (cs _ List.mem_cons_self)) hh H locs la2 hP hS (by rw [hml]; exact zL_set1 hL2 hc))

theorem zV_astoreA_n (O : zOk l0 a cc own mL ret mn tb) {j : Fin 4} {i : Nat} {z : Nat}
    (hd : decode cc pc = .ok (.astore_n j, 1)) (hi : (j : Nat) = i) (hlt : i < mL) (hc : zcut ls i = true) (kk : zV a M k n (pc + 1) (ls.set i (some (aA z))) st h) : zV a M k n pc ls (aA z :: st) h := by
  obtain ⟨⟨p, l, e, s, m, args, below, meth, c⟩, G, E, N⟩ := a
  obtain ⟨hx, hb, hml, hr, ho, hlk, hK, hAD, hN, hex, hl0, hG⟩ := O
  intro cs cl hh H locs la hP hS hL
  cases z with
  | zero => exact lv_astore_nN hx hb hd hi (nL := mL) (lv := zpr E 0 ls) (by rw [← hml]; exact hL) hlt rfl (fun la2 hL2 => kk (fun v hv => cs v (List.mem_cons_of_mem _ hv)) (zset_can cl (cs _ List.mem_cons_self)) hh H locs la2 hP hS (by rw [hml]; exact zL_set1 hL2 hc))
  | succ z => exact lv_astore_n hx hb hd hi (nL := mL) (lv := zpr E 0 ls) (by rw [← hml]; exact hL) hlt rfl (fun la2 hL2 => kk (fun v hv => cs v (List.mem_cons_of_mem _ hv)) (zset_can cl (cs _ List.mem_cons_self)) hh H locs la2 hP hS (by rw [hml]; exact zL_set1 hL2 hc))

theorem zV_astoreA (O : zOk l0 a cc own mL ret mn tb) {i : Nat} {z : Nat}
    (hd : decode cc pc = .ok (.astore i, 2)) (hlt : i < mL) (hc : zcut ls i = true) (kk : zV a M k n (pc + 2) (ls.set i (some (aA z))) st h) : zV a M k n pc ls (aA z :: st) h := by
  obtain ⟨⟨p, l, e, s, m, args, below, meth, c⟩, G, E, N⟩ := a
  obtain ⟨hx, hb, hml, hr, ho, hlk, hK, hAD, hN, hex, hl0, hG⟩ := O
  intro cs cl hh H locs la hP hS hL
  cases z with
  | zero => exact lv_astoreN hx hb hd (nL := mL) (lv := zpr E 0 ls) (by rw [← hml]; exact hL) hlt rfl (fun la2 hL2 => kk (fun v hv => cs v (List.mem_cons_of_mem _ hv)) (zset_can cl (cs _ List.mem_cons_self)) hh H locs la2 hP hS (by rw [hml]; exact zL_set1 hL2 hc))
  | succ z => exact lv_astore hx hb hd (nL := mL) (lv := zpr E 0 ls) (by rw [← hml]; exact hL) hlt rfl (fun la2 hL2 => kk (fun v hv => cs v (List.mem_cons_of_mem _ hv)) (zset_can cl (cs _ List.mem_cons_self)) hh H locs la2 hP hS (by rw [hml]; exact zL_set1 hL2 hc))

theorem zV_iinc (O : zOk l0 a cc own mL ret mn tb) {i : Nat} {d x : Int}
    (hd : decode cc pc = .ok (.iinc i d, 3)) (hl : ls[i]? = some (some (aI x))) (hlt : i < mL) (hc : zcut ls i = true) (hz : zr (x + d)) (kk : zV a M k n (pc + 3) (ls.set i (some (aI (x + d)))) st h) : zV a M k n pc ls st h := by
  obtain ⟨⟨p, l, e, s, m, args, below, meth, c⟩, G, E, N⟩ := a
  obtain ⟨hx, hb, hml, hr, ho, hlk, hK, hAD, hN, hex, hl0, hG⟩ := O
  intro cs cl hh H locs la hP hS hL
  obtain ⟨q, hq⟩ := List.getElem?_of_mem ((zpr_mem E ls 0 (i, cv E (aI x))).mpr ⟨i, aI x, by rw [Nat.zero_add], hl⟩)
  exact lv_iinc hx hb hd (nL := mL) (lv := zpr E 0 ls) (by rw [← hml]; exact hL) hq (by rw [← Int32.ofInt_add]) hlt rfl (fun la2 hL2 => kk cs (zset_can cl hz) hh H locs la2 hP hS (by rw [hml]; exact zL_set1 (v := aI (x + d)) hL2 hc))

theorem zV_iadd (O : zOk l0 a cc own mL ret mn tb) {x y : Int}
    (hd : decode cc pc = .ok (.iadd, 1)) (hz : zr (x + y)) (kk : zV a M k n (pc + 1) ls (aI (x + y) :: st) h) : zV a M k n pc ls (aI y :: aI x :: st) h := by
  obtain ⟨⟨p, l, e, s, m, args, below, meth, c⟩, G, E, N⟩ := a
  obtain ⟨hx, hb, hml, hr, ho, hlk, hK, hAD, hN, hex, hl0, hG⟩ := O
  intro cs cl hh H locs la hP hS hL
  refine lv_iadd hx hb hd ?_
  rw [← Int32.ofInt_add]
  exact kk (fun v hv => (List.mem_cons.mp hv).elim (fun e => e ▸ hz) (fun q => cs v (List.mem_cons_of_mem _ (List.mem_cons_of_mem _ q)))) cl hh H locs la hP hS hL

theorem zV_isub (O : zOk l0 a cc own mL ret mn tb) {x y : Int}
    (hd : decode cc pc = .ok (.isub, 1)) (hz : zr (x - y)) (kk : zV a M k n (pc + 1) ls (aI (x - y) :: st) h) : zV a M k n pc ls (aI y :: aI x :: st) h := by
  obtain ⟨⟨p, l, e, s, m, args, below, meth, c⟩, G, E, N⟩ := a
  obtain ⟨hx, hb, hml, hr, ho, hlk, hK, hAD, hN, hex, hl0, hG⟩ := O
  intro cs cl hh H locs la hP hS hL
  refine lv_isub hx hb hd ?_
  rw [← Int32.ofInt_sub]
  exact kk (fun v hv => (List.mem_cons.mp hv).elim (fun e => e ▸ hz) (fun q => cs v (List.mem_cons_of_mem _ (List.mem_cons_of_mem _ q)))) cl hh H locs la hP hS hL

theorem zV_imul (O : zOk l0 a cc own mL ret mn tb) {x y : Int}
    (hd : decode cc pc = .ok (.imul, 1)) (hz : zr (x * y)) (kk : zV a M k n (pc + 1) ls (aI (x * y) :: st) h) : zV a M k n pc ls (aI y :: aI x :: st) h := by
  obtain ⟨⟨p, l, e, s, m, args, below, meth, c⟩, G, E, N⟩ := a
  obtain ⟨hx, hb, hml, hr, ho, hlk, hK, hAD, hN, hex, hl0, hG⟩ := O
  intro cs cl hh H locs la hP hS hL
  refine lv_imul hx hb hd ?_
  rw [← Int32.ofInt_mul]
  exact kk (fun v hv => (List.mem_cons.mp hv).elim (fun e => e ▸ hz) (fun q => cs v (List.mem_cons_of_mem _ (List.mem_cons_of_mem _ q)))) cl hh H locs la hP hS hL

theorem zV_ladd (O : zOk l0 a cc own mL ret mn tb) {x y : Int}
    (hd : decode cc pc = .ok (.ladd, 1)) (hz : zr6 (x + y)) (kk : zV a M k n (pc + 1) ls (aL (x + y) :: st) h) : zV a M k n pc ls (aL y :: aL x :: st) h := by
  obtain ⟨⟨p, l, e, s, m, args, below, meth, c⟩, G, E, N⟩ := a
  obtain ⟨hx, hb, hml, hr, ho, hlk, hK, hAD, hN, hex, hl0, hG⟩ := O
  intro cs cl hh H locs la hP hS hL
  refine lv_ladd hx hb hd ?_
  rw [← Int64.ofInt_add]
  exact kk (fun v hv => (List.mem_cons.mp hv).elim (fun e => e ▸ hz) (fun q => cs v (List.mem_cons_of_mem _ (List.mem_cons_of_mem _ q)))) cl hh H locs la hP hS hL

theorem zV_lsub (O : zOk l0 a cc own mL ret mn tb) {x y : Int}
    (hd : decode cc pc = .ok (.lsub, 1)) (hz : zr6 (x - y)) (kk : zV a M k n (pc + 1) ls (aL (x - y) :: st) h) : zV a M k n pc ls (aL y :: aL x :: st) h := by
  obtain ⟨⟨p, l, e, s, m, args, below, meth, c⟩, G, E, N⟩ := a
  obtain ⟨hx, hb, hml, hr, ho, hlk, hK, hAD, hN, hex, hl0, hG⟩ := O
  intro cs cl hh H locs la hP hS hL
  refine lv_lsub hx hb hd ?_
  rw [← Int64.ofInt_sub]
  exact kk (fun v hv => (List.mem_cons.mp hv).elim (fun e => e ▸ hz) (fun q => cs v (List.mem_cons_of_mem _ (List.mem_cons_of_mem _ q)))) cl hh H locs la hP hS hL

theorem zV_lmul (O : zOk l0 a cc own mL ret mn tb) {x y : Int}
    (hd : decode cc pc = .ok (.lmul, 1)) (hz : zr6 (x * y)) (kk : zV a M k n (pc + 1) ls (aL (x * y) :: st) h) : zV a M k n pc ls (aL y :: aL x :: st) h := by
  obtain ⟨⟨p, l, e, s, m, args, below, meth, c⟩, G, E, N⟩ := a
  obtain ⟨hx, hb, hml, hr, ho, hlk, hK, hAD, hN, hex, hl0, hG⟩ := O
  intro cs cl hh H locs la hP hS hL
  refine lv_lmul hx hb hd ?_
  rw [← Int64.ofInt_mul]
  exact kk (fun v hv => (List.mem_cons.mp hv).elim (fun e => e ▸ hz) (fun q => cs v (List.mem_cons_of_mem _ (List.mem_cons_of_mem _ q)))) cl hh H locs la hP hS hL

def zw (x : Int) : Int := (Int32.ofInt x).toInt
theorem zV_isubW (O : zOk l0 a cc own mL ret mn tb) {x y : Int}
    (hd : decode cc pc = .ok (.isub, 1)) (kk : zV a M k n (pc + 1) ls (aI (zw (x - y)) :: st) h) : zV a M k n pc ls (aI y :: aI x :: st) h := by
  obtain ⟨⟨p, l, e, s, m, args, below, meth, c⟩, G, E, N⟩ := a
  obtain ⟨hx, hb, hml, hr, ho, hlk, hK, hAD, hN, hex, hl0, hG⟩ := O
  intro cs cl hh H locs la hP hS hL
  refine lv_isub hx hb hd ?_
  rw [← Int32.ofInt_sub, show Int32.ofInt (x - y) = Int32.ofInt (zw (x - y)) from (Int32.ofInt_toInt _).symm]
  exact kk (fun v hv => (List.mem_cons.mp hv).elim (fun e => e ▸ zr_I _) (fun q => cs v (List.mem_cons_of_mem _ (List.mem_cons_of_mem _ q)))) cl hh H locs la hP hS hL

theorem zV_iincW (O : zOk l0 a cc own mL ret mn tb) {i : Nat} {d x : Int}
    (hd : decode cc pc = .ok (.iinc i d, 3)) (hl : ls[i]? = some (some (aI x))) (hlt : i < mL) (hc : zcut ls i = true) (kk : zV a M k n (pc + 3) (ls.set i (some (aI (zw (x + d))))) st h) : zV a M k n pc ls st h := by
  obtain ⟨⟨p, l, e, s, m, args, below, meth, c⟩, G, E, N⟩ := a
  obtain ⟨hx, hb, hml, hr, ho, hlk, hK, hAD, hN, hex, hl0, hG⟩ := O
  intro cs cl hh H locs la hP hS hL
  obtain ⟨q, hq⟩ := List.getElem?_of_mem ((zpr_mem E ls 0 (i, cv E (aI x))).mpr ⟨i, aI x, by rw [Nat.zero_add], hl⟩)
  exact lv_iinc hx hb hd (nL := mL) (lv := zpr E 0 ls) (v := Int32.ofInt (zw (x + d))) (by rw [← hml]; exact hL) hq (by rw [← Int32.ofInt_add]; exact (Int32.ofInt_toInt _).symm) hlt rfl (fun la2 hL2 => kk cs (zset_can cl (zr_I _)) hh H locs la2 hP hS (by rw [hml]; exact zL_set1 (v := aI (zw (x + d))) hL2 hc))

theorem zV_idiv (O : zOk l0 a cc own mL ret mn tb) {x y : Int}
    (hd : decode cc pc = .ok (.idiv, 1)) (h0 : 0 ≤ x ∧ 0 < y) (kk : zV a M k n (pc + 1) ls (aI (x / y) :: st) h) : zV a M k n pc ls (aI y :: aI x :: st) h := by
  obtain ⟨⟨p, l, e, s, m, args, below, meth, c⟩, G, E, N⟩ := a
  obtain ⟨hx, hb, hml, hr, ho, hlk, hK, hAD, hN, hex, hl0, hG⟩ := O
  intro cs cl hh H locs la hP hS hL
  have cx : zr x := cs (aI x) (by simp)
  have cy : zr y := cs (aI y) (by simp)
  refine lv_idiv hx hb hd (fun q => ?_) ?_
  · have := (zI_eq cy zr0).mp (q.trans (by rfl))
    omega
  · have e : Int32.ofInt x / Int32.ofInt y = Int32.ofInt (x / y) := by
      apply Int32.toInt_inj.mp
      have hd1 : x / y ≤ x := Int.ediv_le_self _ h0.1
      have hd0 : 0 ≤ x / y := Int.ediv_nonneg h0.1 (by omega)
      obtain ⟨c1, c2⟩ := cx
      rw [lg_idiv_nonneg (by rw [zI_toInt ⟨c1, c2⟩]; exact h0.1) (by rw [zI_toInt cy]; exact h0.2), zI_toInt ⟨c1, c2⟩, zI_toInt cy, zI_toInt ⟨by omega, by omega⟩]
    rw [e]
    have hd1 : x / y ≤ x := Int.ediv_le_self _ h0.1
    have hd0 : 0 ≤ x / y := Int.ediv_nonneg h0.1 (by omega)
    obtain ⟨c1, c2⟩ := cx
    exact kk (fun v hv => (List.mem_cons.mp hv).elim (fun e => e ▸ (⟨by omega, by omega⟩ : zr (x / y))) (fun q => cs v (List.mem_cons_of_mem _ (List.mem_cons_of_mem _ q)))) cl hh H locs la hP hS hL

theorem zV_irem (O : zOk l0 a cc own mL ret mn tb) {x y : Int}
    (hd : decode cc pc = .ok (.irem, 1)) (h0 : 0 ≤ x ∧ 0 < y) (kk : zV a M k n (pc + 1) ls (aI (x % y) :: st) h) : zV a M k n pc ls (aI y :: aI x :: st) h := by
  obtain ⟨⟨p, l, e, s, m, args, below, meth, c⟩, G, E, N⟩ := a
  obtain ⟨hx, hb, hml, hr, ho, hlk, hK, hAD, hN, hex, hl0, hG⟩ := O
  intro cs cl hh H locs la hP hS hL
  have cx : zr x := cs (aI x) (by simp)
  have cy : zr y := cs (aI y) (by simp)
  refine lv_irem hx hb hd (fun q => ?_) ?_
  · have := (zI_eq cy zr0).mp (q.trans (by rfl))
    omega
  · have hm0 : 0 ≤ x % y := Int.emod_nonneg _ (by omega)
    have hm1 : x % y < y := Int.emod_lt_of_pos _ h0.2
    have cz : zr (x % y) := by obtain ⟨c1, c2⟩ := cy; exact ⟨by omega, by omega⟩
    have e : Int32.ofInt x - Int32.ofInt x / Int32.ofInt y * Int32.ofInt y = Int32.ofInt (x % y) := by
      apply Int32.toInt_inj.mp
      rw [rem_toInt, zI_toInt cx, zI_toInt cy, zI_toInt cz, Int.tmod_eq_emod_of_nonneg h0.1]
    rw [e]
    exact kk (fun v hv => (List.mem_cons.mp hv).elim (fun e => e ▸ cz) (fun q => cs v (List.mem_cons_of_mem _ (List.mem_cons_of_mem _ q)))) cl hh H locs la hP hS hL

theorem zV_iand (O : zOk l0 a cc own mL ret mn tb) {x y : Int}
    (hd : decode cc pc = .ok (.iand, 1)) (kk : zV a M k n (pc + 1) ls (aI (zand x y) :: st) h) : zV a M k n pc ls (aI y :: aI x :: st) h := by
  obtain ⟨⟨p, l, e, s, m, args, below, meth, c⟩, G, E, N⟩ := a
  obtain ⟨hx, hb, hml, hr, ho, hlk, hK, hAD, hN, hex, hl0, hG⟩ := O
  intro cs cl hh H locs la hP hS hL
  refine lv_iand hx hb hd ?_
  have k2 := kk (fun v hv => (List.mem_cons.mp hv).elim (fun e => e ▸ zr_I _) (fun q => cs v (List.mem_cons_of_mem _ (List.mem_cons_of_mem _ q)))) cl hh H locs la hP hS hL
  rw [List.map_cons, show cv E (aI (zand x y)) = .int (Int32.ofInt (zand x y)) from rfl, show Int32.ofInt (zand x y) = _ from Int32.ofInt_toInt _] at k2
  exact k2

theorem zV_ishr (O : zOk l0 a cc own mL ret mn tb) {x y : Int}
    (hd : decode cc pc = .ok (.ishr, 1)) (kk : zV a M k n (pc + 1) ls (aI (zishr x y) :: st) h) : zV a M k n pc ls (aI y :: aI x :: st) h := by
  obtain ⟨⟨p, l, e, s, m, args, below, meth, c⟩, G, E, N⟩ := a
  obtain ⟨hx, hb, hml, hr, ho, hlk, hK, hAD, hN, hex, hl0, hG⟩ := O
  intro cs cl hh H locs la hP hS hL
  refine lv_ishr hx hb hd ?_
  have k2 := kk (fun v hv => (List.mem_cons.mp hv).elim (fun e => e ▸ zr_I _) (fun q => cs v (List.mem_cons_of_mem _ (List.mem_cons_of_mem _ q)))) cl hh H locs la hP hS hL
  rw [List.map_cons, show cv E (aI (zishr x y)) = .int (Int32.ofInt (zishr x y)) from rfl, show Int32.ofInt (zishr x y) = _ from Int32.ofInt_toInt _] at k2
  exact k2

theorem zV_iushr (O : zOk l0 a cc own mL ret mn tb) {x y : Int}
    (hd : decode cc pc = .ok (.iushr, 1)) (kk : zV a M k n (pc + 1) ls (aI (ziushr x y) :: st) h) : zV a M k n pc ls (aI y :: aI x :: st) h := by
  obtain ⟨⟨p, l, e, s, m, args, below, meth, c⟩, G, E, N⟩ := a
  obtain ⟨hx, hb, hml, hr, ho, hlk, hK, hAD, hN, hex, hl0, hG⟩ := O
  intro cs cl hh H locs la hP hS hL
  refine lv_iushr hx hb hd rfl ?_
  have k2 := kk (fun v hv => (List.mem_cons.mp hv).elim (fun e => e ▸ zr_I _) (fun q => cs v (List.mem_cons_of_mem _ (List.mem_cons_of_mem _ q)))) cl hh H locs la hP hS hL
  rw [List.map_cons, show cv E (aI (ziushr x y)) = .int (Int32.ofInt (ziushr x y)) from rfl, show Int32.ofInt (ziushr x y) = _ from Int32.ofInt_toInt _] at k2
  exact k2

theorem zV_land (O : zOk l0 a cc own mL ret mn tb) {x y : Int}
    (hd : decode cc pc = .ok (.land, 1)) (kk : zV a M k n (pc + 1) ls (aL (zland x y) :: st) h) : zV a M k n pc ls (aL y :: aL x :: st) h := by
  obtain ⟨⟨p, l, e, s, m, args, below, meth, c⟩, G, E, N⟩ := a
  obtain ⟨hx, hb, hml, hr, ho, hlk, hK, hAD, hN, hex, hl0, hG⟩ := O
  intro cs cl hh H locs la hP hS hL
  refine lv_land hx hb hd ?_
  have k2 := kk (fun v hv => (List.mem_cons.mp hv).elim (fun e => e ▸ zr_L _) (fun q => cs v (List.mem_cons_of_mem _ (List.mem_cons_of_mem _ q)))) cl hh H locs la hP hS hL
  rw [List.map_cons, show cv E (aL (zland x y)) = .long (Int64.ofInt (zland x y)) from rfl, show Int64.ofInt (zland x y) = _ from Int64.ofInt_toInt _] at k2
  exact k2

theorem zV_lor (O : zOk l0 a cc own mL ret mn tb) {x y : Int}
    (hd : decode cc pc = .ok (.lor, 1)) (kk : zV a M k n (pc + 1) ls (aL (zlor x y) :: st) h) : zV a M k n pc ls (aL y :: aL x :: st) h := by
  obtain ⟨⟨p, l, e, s, m, args, below, meth, c⟩, G, E, N⟩ := a
  obtain ⟨hx, hb, hml, hr, ho, hlk, hK, hAD, hN, hex, hl0, hG⟩ := O
  intro cs cl hh H locs la hP hS hL
  refine lv_lor hx hb hd ?_
  have k2 := kk (fun v hv => (List.mem_cons.mp hv).elim (fun e => e ▸ zr_L _) (fun q => cs v (List.mem_cons_of_mem _ (List.mem_cons_of_mem _ q)))) cl hh H locs la hP hS hL
  rw [List.map_cons, show cv E (aL (zlor x y)) = .long (Int64.ofInt (zlor x y)) from rfl, show Int64.ofInt (zlor x y) = _ from Int64.ofInt_toInt _] at k2
  exact k2

theorem zV_lxor (O : zOk l0 a cc own mL ret mn tb) {x y : Int}
    (hd : decode cc pc = .ok (.lxor, 1)) (kk : zV a M k n (pc + 1) ls (aL (zlxor x y) :: st) h) : zV a M k n pc ls (aL y :: aL x :: st) h := by
  obtain ⟨⟨p, l, e, s, m, args, below, meth, c⟩, G, E, N⟩ := a
  obtain ⟨hx, hb, hml, hr, ho, hlk, hK, hAD, hN, hex, hl0, hG⟩ := O
  intro cs cl hh H locs la hP hS hL
  refine lv_lxor hx hb hd ?_
  have k2 := kk (fun v hv => (List.mem_cons.mp hv).elim (fun e => e ▸ zr_L _) (fun q => cs v (List.mem_cons_of_mem _ (List.mem_cons_of_mem _ q)))) cl hh H locs la hP hS hL
  rw [List.map_cons, show cv E (aL (zlxor x y)) = .long (Int64.ofInt (zlxor x y)) from rfl, show Int64.ofInt (zlxor x y) = _ from Int64.ofInt_toInt _] at k2
  exact k2

theorem zV_lshl (O : zOk l0 a cc own mL ret mn tb) {x y : Int}
    (hd : decode cc pc = .ok (.lshl, 1)) (kk : zV a M k n (pc + 1) ls (aL (zlshl x y) :: st) h) : zV a M k n pc ls (aI y :: aL x :: st) h := by
  obtain ⟨⟨p, l, e, s, m, args, below, meth, c⟩, G, E, N⟩ := a
  obtain ⟨hx, hb, hml, hr, ho, hlk, hK, hAD, hN, hex, hl0, hG⟩ := O
  intro cs cl hh H locs la hP hS hL
  refine lv_lshl hx hb hd rfl ?_
  have k2 := kk (fun v hv => (List.mem_cons.mp hv).elim (fun e => e ▸ zr_L _) (fun q => cs v (List.mem_cons_of_mem _ (List.mem_cons_of_mem _ q)))) cl hh H locs la hP hS hL
  rw [List.map_cons, show cv E (aL (zlshl x y)) = .long (Int64.ofInt (zlshl x y)) from rfl, show Int64.ofInt (zlshl x y) = _ from Int64.ofInt_toInt _] at k2
  exact k2

theorem zV_lushr (O : zOk l0 a cc own mL ret mn tb) {x y : Int}
    (hd : decode cc pc = .ok (.lushr, 1)) (kk : zV a M k n (pc + 1) ls (aL (zlushr x y) :: st) h) : zV a M k n pc ls (aI y :: aL x :: st) h := by
  obtain ⟨⟨p, l, e, s, m, args, below, meth, c⟩, G, E, N⟩ := a
  obtain ⟨hx, hb, hml, hr, ho, hlk, hK, hAD, hN, hex, hl0, hG⟩ := O
  intro cs cl hh H locs la hP hS hL
  refine lv_lushr hx hb hd rfl ?_
  have k2 := kk (fun v hv => (List.mem_cons.mp hv).elim (fun e => e ▸ zr_L _) (fun q => cs v (List.mem_cons_of_mem _ (List.mem_cons_of_mem _ q)))) cl hh H locs la hP hS hL
  rw [List.map_cons, show cv E (aL (zlushr x y)) = .long (Int64.ofInt (zlushr x y)) from rfl, show Int64.ofInt (zlushr x y) = _ from Int64.ofInt_toInt _] at k2
  exact k2

theorem zV_i2b (O : zOk l0 a cc own mL ret mn tb) {x : Int}
    (hd : decode cc pc = .ok (.i2b, 1)) (kk : zV a M k n (pc + 1) ls (aI (zi2b x) :: st) h) : zV a M k n pc ls (aI x :: st) h := by
  obtain ⟨⟨p, l, e, s, m, args, below, meth, c⟩, G, E, N⟩ := a
  obtain ⟨hx, hb, hml, hr, ho, hlk, hK, hAD, hN, hex, hl0, hG⟩ := O
  intro cs cl hh H locs la hP hS hL
  refine lv_i2b hx hb hd rfl ?_
  have k2 := kk (fun v hv => (List.mem_cons.mp hv).elim (fun e => e ▸ zr_I _) (fun q => cs v (List.mem_cons_of_mem _ q))) cl hh H locs la hP hS hL
  rw [List.map_cons, show cv E (aI (zi2b x)) = .int (Int32.ofInt (zi2b x)) from rfl, show Int32.ofInt (zi2b x) = _ from Int32.ofInt_toInt _] at k2
  exact k2

theorem zV_l2i (O : zOk l0 a cc own mL ret mn tb) {x : Int}
    (hd : decode cc pc = .ok (.l2i, 1)) (kk : zV a M k n (pc + 1) ls (aI (zl2i x) :: st) h) : zV a M k n pc ls (aL x :: st) h := by
  obtain ⟨⟨p, l, e, s, m, args, below, meth, c⟩, G, E, N⟩ := a
  obtain ⟨hx, hb, hml, hr, ho, hlk, hK, hAD, hN, hex, hl0, hG⟩ := O
  intro cs cl hh H locs la hP hS hL
  refine lv_l2i hx hb hd rfl ?_
  have k2 := kk (fun v hv => (List.mem_cons.mp hv).elim (fun e => e ▸ zr_I _) (fun q => cs v (List.mem_cons_of_mem _ q))) cl hh H locs la hP hS hL
  rw [List.map_cons, show cv E (aI (zl2i x)) = .int (Int32.ofInt (zl2i x)) from rfl, show Int32.ofInt (zl2i x) = _ from Int32.ofInt_toInt _] at k2
  exact k2

theorem zV_i2l (O : zOk l0 a cc own mL ret mn tb) {x : Int}
    (hd : decode cc pc = .ok (.i2l, 1)) (kk : zV a M k n (pc + 1) ls (aL x :: st) h) : zV a M k n pc ls (aI x :: st) h := by
  obtain ⟨⟨p, l, e, s, m, args, below, meth, c⟩, G, E, N⟩ := a
  obtain ⟨hx, hb, hml, hr, ho, hlk, hK, hAD, hN, hex, hl0, hG⟩ := O
  intro cs cl hh H locs la hP hS hL
  have cx : zr x := cs (aI x) (by simp)
  have c6 : zr6 x := by obtain ⟨c1, c2⟩ := cx; exact ⟨by omega, by omega⟩
  refine lv_i2l hx hb hd (v := Int64.ofInt x) ?_ (kk (fun v hv => (List.mem_cons.mp hv).elim (fun e => e ▸ c6) (fun q => cs v (List.mem_cons_of_mem _ q))) cl hh H locs la hP hS hL)
  apply Int64.toInt_inj.mp
  rw [Int32.toInt_toInt64, zI_toInt cx, zL_toInt c6]

theorem zV_lcmp (O : zOk l0 a cc own mL ret mn tb) {x y : Int}
    (hd : decode cc pc = .ok (.lcmp, 1)) (kk : zV a M k n (pc + 1) ls (aI (zlcmp x y) :: st) h) : zV a M k n pc ls (aL y :: aL x :: st) h := by
  obtain ⟨⟨p, l, e, s, m, args, below, meth, c⟩, G, E, N⟩ := a
  obtain ⟨hx, hb, hml, hr, ho, hlk, hK, hAD, hN, hex, hl0, hG⟩ := O
  intro cs cl hh H locs la hP hS hL
  have cx : zr6 x := cs (aL x) (by simp)
  have cy : zr6 y := cs (aL y) (by simp)
  refine W.lcmp hx hb hd ?_
  have e : lg_cmp (Int64.ofInt x) (Int64.ofInt y) = Int32.ofInt (zlcmp x y) := by
    have h1 : Int64.ofInt y < Int64.ofInt x ↔ y < x := by rw [Int64.lt_iff_toInt_lt, zL_toInt cx, zL_toInt cy]
    have h2 : Int64.ofInt x = Int64.ofInt y ↔ x = y := by rw [← Int64.toInt_inj, zL_toInt cx, zL_toInt cy]
    unfold lg_cmp zlcmp
    by_cases q : y < x
    · rw [if_pos q, if_pos (h1.mpr q)]; rfl
    · rw [if_neg q, if_neg (fun w => q (h1.mp w))]
      by_cases q2 : x = y
      · rw [if_pos q2, if_pos (h2.mpr q2)]; rfl
      · rw [if_neg q2, if_neg (fun w => q2 (h2.mp w))]; rfl
  rw [e]
  exact kk (fun v hv => (List.mem_cons.mp hv).elim (fun e => e ▸ (zlcmp_r x y)) (fun q => cs v (List.mem_cons_of_mem _ (List.mem_cons_of_mem _ q)))) cl hh H locs la hP hS hL

theorem zV_i2f (O : zOk l0 a cc own mL ret mn tb) {x : Int}
    (hd : decode cc pc = .ok (.i2f, 1)) (kk : zV a M k n (pc + 1) ls (aF (FP.i2f (Int32.ofInt x)) :: st) h) : zV a M k n pc ls (aI x :: st) h := by
  obtain ⟨⟨p, l, e, s, m, args, below, meth, c⟩, G, E, N⟩ := a
  obtain ⟨hx, hb, hml, hr, ho, hlk, hK, hAD, hN, hex, hl0, hG⟩ := O
  intro cs cl hh H locs la hP hS hL
  exact lv_i2f hx hb hd (kk (fun v hv => (List.mem_cons.mp hv).elim (fun e => e ▸ trivial) (fun q => cs v (List.mem_cons_of_mem _ q))) cl hh H locs la hP hS hL)

theorem zV_i2d (O : zOk l0 a cc own mL ret mn tb) {x : Int}
    (hd : decode cc pc = .ok (.i2d, 1)) (kk : zV a M k n (pc + 1) ls (aD (FP.i2d (Int32.ofInt x)) :: st) h) : zV a M k n pc ls (aI x :: st) h := by
  obtain ⟨⟨p, l, e, s, m, args, below, meth, c⟩, G, E, N⟩ := a
  obtain ⟨hx, hb, hml, hr, ho, hlk, hK, hAD, hN, hex, hl0, hG⟩ := O
  intro cs cl hh H locs la hP hS hL
  exact lv_i2d hx hb hd (kk (fun v hv => (List.mem_cons.mp hv).elim (fun e => e ▸ trivial) (fun q => cs v (List.mem_cons_of_mem _ q))) cl hh H locs la hP hS hL)

theorem zV_fdiv (O : zOk l0 a cc own mL ret mn tb) {x y : UInt32}
    (hd : decode cc pc = .ok (.fdiv, 1)) (hn : vf_n32 (FP.fdiv x y)) (kk : zV a M k n (pc + 1) ls (aF (FP.fdiv x y) :: st) h) : zV a M k n pc ls (aF y :: aF x :: st) h := by
  obtain ⟨⟨p, l, e, s, m, args, below, meth, c⟩, G, E, N⟩ := a
  obtain ⟨hx, hb, hml, hr, ho, hlk, hK, hAD, hN, hex, hl0, hG⟩ := O
  intro cs cl hh H locs la hP hS hL
  exact lv_fdiv hx hb hd hn (kk (fun v hv => (List.mem_cons.mp hv).elim (fun e => e ▸ trivial) (fun q => cs v (List.mem_cons_of_mem _ (List.mem_cons_of_mem _ q)))) cl hh H locs la hP hS hL)

theorem zV_ddiv (O : zOk l0 a cc own mL ret mn tb) {x y : UInt64}
    (hd : decode cc pc = .ok (.ddiv, 1)) (hn : vf_n64 (FP.ddiv x y)) (kk : zV a M k n (pc + 1) ls (aD (FP.ddiv x y) :: st) h) : zV a M k n pc ls (aD y :: aD x :: st) h := by
  obtain ⟨⟨p, l, e, s, m, args, below, meth, c⟩, G, E, N⟩ := a
  obtain ⟨hx, hb, hml, hr, ho, hlk, hK, hAD, hN, hex, hl0, hG⟩ := O
  intro cs cl hh H locs la hP hS hL
  exact lv_ddiv hx hb hd hn (kk (fun v hv => (List.mem_cons.mp hv).elim (fun e => e ▸ trivial) (fun q => cs v (List.mem_cons_of_mem _ (List.mem_cons_of_mem _ q)))) cl hh H locs la hP hS hL)

theorem zV_f2d (O : zOk l0 a cc own mL ret mn tb) {x : UInt32}
    (hd : decode cc pc = .ok (.f2d, 1)) (hn : vf_n64 (FP.f2d x)) (kk : zV a M k n (pc + 1) ls (aD (FP.f2d x) :: st) h) : zV a M k n pc ls (aF x :: st) h := by
  obtain ⟨⟨p, l, e, s, m, args, below, meth, c⟩, G, E, N⟩ := a
  obtain ⟨hx, hb, hml, hr, ho, hlk, hK, hAD, hN, hex, hl0, hG⟩ := O
  intro cs cl hh H locs la hP hS hL
  exact lv_f2d hx hb hd hn (kk (fun v hv => (List.mem_cons.mp hv).elim (fun e => e ▸ trivial) (fun q => cs v (List.mem_cons_of_mem _ q))) cl hh H locs la hP hS hL)

def zdcmp (x y : UInt64) (op : CmpOp) : Int := (Op.cmpValue (FP.dcmp x y) op).toInt
theorem zV_dcmp (O : zOk l0 a cc own mL ret mn tb) {x y : UInt64} {op : CmpOp}
    (hd : decode cc pc = .ok (.dcmp op, 1)) (kk : zV a M k n (pc + 1) ls (aI (zdcmp x y op) :: st) h) : zV a M k n pc ls (aD y :: aD x :: st) h := by
  obtain ⟨⟨p, l, e, s, m, args, below, meth, c⟩, G, E, N⟩ := a
  obtain ⟨hx, hb, hml, hr, ho, hlk, hK, hAD, hN, hex, hl0, hG⟩ := O
  intro cs cl hh H locs la hP hS hL
  refine lv_dcmp hx hb hd ?_
  have k2 := kk (fun v hv => (List.mem_cons.mp hv).elim (fun e => e ▸ zr_I _) (fun q => cs v (List.mem_cons_of_mem _ (List.mem_cons_of_mem _ q)))) cl hh H locs la hP hS hL
  rw [List.map_cons, show cv E (aI (zdcmp x y op)) = .int (Int32.ofInt (zdcmp x y op)) from rfl, show Int32.ofInt (zdcmp x y op) = _ from Int32.ofInt_toInt _] at k2
  exact k2

theorem zV_dup (O : zOk l0 a cc own mL ret mn tb) {v0 : AV} (hw : zwide v0 = false)
    (hd : decode cc pc = .ok (.dup, 1)) (kk : zV a M k n (pc + 1) ls (v0 :: v0 :: st) h) : zV a M k n pc ls (v0 :: st) h := by
  obtain ⟨⟨p, l, e, s, m, args, below, meth, c⟩, G, E, N⟩ := a
  obtain ⟨hx, hb, hml, hr, ho, hlk, hK, hAD, hN, hex, hl0, hG⟩ := O
  intro cs cl hh H locs la hP hS hL
  exact lv_dup hx hb hd (by rw [zcat, hw]; rfl) (kk (fun v hv => (List.mem_cons.mp hv).elim (fun e => e ▸ cs v0 List.mem_cons_self) (cs v)) cl hh H locs la hP hS hL)

theorem zV_pop (O : zOk l0 a cc own mL ret mn tb) {v0 : AV} (hw : zwide v0 = false)
    (hd : decode cc pc = .ok (.pop, 1)) (kk : zV a M k n (pc + 1) ls st h) : zV a M k n pc ls (v0 :: st) h := by
  obtain ⟨⟨p, l, e, s, m, args, below, meth, c⟩, G, E, N⟩ := a
  obtain ⟨hx, hb, hml, hr, ho, hlk, hK, hAD, hN, hex, hl0, hG⟩ := O
  intro cs cl hh H locs la hP hS hL
  exact lv_pop hx hb hd (by rw [zcat, hw]; rfl) (kk (fun v hv => cs v (List.mem_cons_of_mem _ hv)) cl hh H locs la hP hS hL)

theorem zV_dup2 (O : zOk l0 a cc own mL ret mn tb) {v0 v1 : AV} (hw : zwide v0 = false) (hw1 : zwide v1 = false)
    (hd : decode cc pc = .ok (.dup2, 1)) (kk : zV a M k n (pc + 1) ls (v0 :: v1 :: v0 :: v1 :: st) h) : zV a M k n pc ls (v0 :: v1 :: st) h := by
  obtain ⟨⟨p, l, e, s, m, args, below, meth, c⟩, G, E, N⟩ := a
  obtain ⟨hx, hb, hml, hr, ho, hlk, hK, hAD, hN, hex, hl0, hG⟩ := O
  intro cs cl hh H locs la hP hS hL
  exact lv_dup2_11 hx hb hd (by rw [zcat, hw]; rfl) (by rw [zcat, hw1]; rfl) (kk (fun v hv => (List.mem_cons.mp hv).elim (fun e => e ▸ cs v0 (by simp)) (fun hv => (List.mem_cons.mp hv).elim (fun e => e ▸ cs v1 (by simp)) (cs v))) cl hh H locs la hP hS hL)

theorem zV_if_eq (O : zOk l0 a cc own mL ret mn tb) {x off : Int} {tgt : Nat}
    (hd : decode cc pc = .ok (.ifCond .eq off, 3)) (ht : (pc : Int) + off = (tgt : Int)) (kt : x = 0 → zV a M k n tgt ls st h) (kf : ¬ x = 0 → zV a M k n (pc + 3) ls st h) : zV a M k n pc ls (aI x :: st) h := by
  obtain ⟨⟨p, l, e, s, m, args, below, meth, c⟩, G, E, N⟩ := a
  obtain ⟨hx, hb, hml, hr, ho, hlk, hK, hAD, hN, hex, hl0, hG⟩ := O
  intro cs cl hh H locs la hP hS hL
  have cx : zr x := cs (aI x) (by simp)
  exact lv_if_eq hx hb hd ht (fun q => kt ((zI_eq cx zr0).mp q) (fun v hv => cs v (List.mem_cons_of_mem _ hv)) cl hh H locs la hP hS hL) (fun q => kf (fun w => q ((zI_eq cx zr0).mpr w)) (fun v hv => cs v (List.mem_cons_of_mem _ hv)) cl hh H locs la hP hS hL)

theorem zV_icmp_eq (O : zOk l0 a cc own mL ret mn tb) {x y off : Int} {tgt : Nat}
    (hd : decode cc pc = .ok (.if_icmp .eq off, 3)) (ht : (pc : Int) + off = (tgt : Int)) (kt : x = y → zV a M k n tgt ls st h) (kf : ¬ x = y → zV a M k n (pc + 3) ls st h) : zV a M k n pc ls (aI y :: aI x :: st) h := by
  obtain ⟨⟨p, l, e, s, m, args, below, meth, c⟩, G, E, N⟩ := a
  obtain ⟨hx, hb, hml, hr, ho, hlk, hK, hAD, hN, hex, hl0, hG⟩ := O
  intro cs cl hh H locs la hP hS hL
  have cx : zr x := cs (aI x) (by simp)
  have cy : zr y := cs (aI y) (by simp)
  exact lv_icmp_eq hx hb hd ht (fun q => kt ((zI_eq cx cy).mp q) (fun v hv => cs v (List.mem_cons_of_mem _ (List.mem_cons_of_mem _ hv))) cl hh H locs la hP hS hL) (fun q => kf (fun w => q ((zI_eq cx cy).mpr w)) (fun v hv => cs v (List.mem_cons_of_mem _ (List.mem_cons_of_mem _ hv))) cl hh H locs la hP hS hL)

theorem zV_if_ne (O : zOk l0 a cc own mL ret mn tb) {x off : Int} {tgt : Nat}
    (hd : decode cc pc = .ok (.ifCond .ne off, 3)) (ht : (pc : Int) + off = (tgt : Int)) (kt : ¬ x = 0 → zV a M k n tgt ls st h) (kf : x = 0 → zV a M k n (pc + 3) ls st h) : zV a M k n pc ls (aI x :: st) h := by
  obtain ⟨⟨p, l, e, s, m, args, below, meth, c⟩, G, E, N⟩ := a
  obtain ⟨hx, hb, hml, hr, ho, hlk, hK, hAD, hN, hex, hl0, hG⟩ := O
  intro cs cl hh H locs la hP hS hL
  have cx : zr x := cs (aI x) (by simp)
  exact lv_if_ne hx hb hd ht (fun q => kt (fun w => q ((zI_eq cx zr0).mpr w)) (fun v hv => cs v (List.mem_cons_of_mem _ hv)) cl hh H locs la hP hS hL) (fun q => kf ((zI_eq cx zr0).mp q) (fun v hv => cs v (List.mem_cons_of_mem _ hv)) cl hh H locs la hP hS hL)

theorem zV_icmp_ne (O : zOk l0 a cc own mL ret mn tb) {x y off : Int} {tgt : Nat}
    (hd : decode cc pc = .ok (.if_icmp .ne off, 3)) (ht : (pc : Int) + off = (tgt : Int)) (kt : ¬ x = y → zV a M k n tgt ls st h) (kf : x = y → zV a M k n (pc + 3) ls st h) : zV a M k n pc ls (aI y :: aI x :: st) h := by
  obtain ⟨⟨p, l, e, s, m, args, below, meth, c⟩, G, E, N⟩ := a
  obtain ⟨hx, hb, hml, hr, ho, hlk, hK, hAD, hN, hex, hl0, hG⟩ := O
  intro cs cl hh H locs la hP hS hL
  have cx : zr x := cs (aI x) (by simp)
  have cy : zr y := cs (aI y) (by simp)
  exact lv_icmp_ne hx hb hd ht (fun q => kt (fun w => q ((zI_eq cx cy).mpr w)) (fun v hv => cs v (List.mem_cons_of_mem _ (List.mem_cons_of_mem _ hv))) cl hh H locs la hP hS hL) (fun q => kf ((zI_eq cx cy).mp q) (fun v hv => cs v (List.mem_cons_of_mem _ (List.mem_cons_of_mem _ hv))) cl hh H locs la hP hS hL)

theorem zV_if_lt (O : zOk l0 a cc own mL ret mn tb) {x off : Int} {tgt : Nat}
    (hd : decode cc pc = .ok (.ifCond .lt off, 3)) (ht : (pc : Int) + off = (tgt : Int)) (kt : x < 0 → zV a M k n tgt ls st h) (kf : ¬ x < 0 → zV a M k n (pc + 3) ls st h) : zV a M k n pc ls (aI x :: st) h := by
  obtain ⟨⟨p, l, e, s, m, args, below, meth, c⟩, G, E, N⟩ := a
  obtain ⟨hx, hb, hml, hr, ho, hlk, hK, hAD, hN, hex, hl0, hG⟩ := O
  intro cs cl hh H locs la hP hS hL
  have cx : zr x := cs (aI x) (by simp)
  exact lv_if_lt hx hb hd ht (fun q => kt ((zI_lt cx zr0).mp q) (fun v hv => cs v (List.mem_cons_of_mem _ hv)) cl hh H locs la hP hS hL) (fun q => kf (fun w => q ((zI_lt cx zr0).mpr w)) (fun v hv => cs v (List.mem_cons_of_mem _ hv)) cl hh H locs la hP hS hL)

theorem zV_icmp_lt (O : zOk l0 a cc own mL ret mn tb) {x y off : Int} {tgt : Nat}
    (hd : decode cc pc = .ok (.if_icmp .lt off, 3)) (ht : (pc : Int) + off = (tgt : Int)) (kt : x < y → zV a M k n tgt ls st h) (kf : ¬ x < y → zV a M k n (pc + 3) ls st h) : zV a M k n pc ls (aI y :: aI x :: st) h := by
  obtain ⟨⟨p, l, e, s, m, args, below, meth, c⟩, G, E, N⟩ := a
  obtain ⟨hx, hb, hml, hr, ho, hlk, hK, hAD, hN, hex, hl0, hG⟩ := O
  intro cs cl hh H locs la hP hS hL
  have cx : zr x := cs (aI x) (by simp)
  have cy : zr y := cs (aI y) (by simp)
  exact lv_icmp_lt hx hb hd ht (fun q => kt ((zI_lt cx cy).mp q) (fun v hv => cs v (List.mem_cons_of_mem _ (List.mem_cons_of_mem _ hv))) cl hh H locs la hP hS hL) (fun q => kf (fun w => q ((zI_lt cx cy).mpr w)) (fun v hv => cs v (List.mem_cons_of_mem _ (List.mem_cons_of_mem _ hv))) cl hh H locs la hP hS hL)

theorem zV_if_ge (O : zOk l0 a cc own mL ret mn tb) {x off : Int} {tgt : Nat}
    (hd : decode cc pc = .ok (.ifCond .ge off, 3)) (ht : (pc : Int) + off = (tgt : Int)) (kt : 0 ≤ x → zV a M k n tgt ls st h) (kf : ¬ 0 ≤ x → zV a M k n (pc + 3) ls st h) : zV a M k n pc ls (aI x :: st) h := by
  obtain ⟨⟨p, l, e, s, m, args, below, meth, c⟩, G, E, N⟩ := a
  obtain ⟨hx, hb, hml, hr, ho, hlk, hK, hAD, hN, hex, hl0, hG⟩ := O
  intro cs cl hh H locs la hP hS hL
  have cx : zr x := cs (aI x) (by simp)
  exact lv_if_ge hx hb hd ht (fun q => kt ((zI_le zr0 cx).mp q) (fun v hv => cs v (List.mem_cons_of_mem _ hv)) cl hh H locs la hP hS hL) (fun q => kf (fun w => q ((zI_le zr0 cx).mpr w)) (fun v hv => cs v (List.mem_cons_of_mem _ hv)) cl hh H locs la hP hS hL)

theorem zV_icmp_ge (O : zOk l0 a cc own mL ret mn tb) {x y off : Int} {tgt : Nat}
    (hd : decode cc pc = .ok (.if_icmp .ge off, 3)) (ht : (pc : Int) + off = (tgt : Int)) (kt : y ≤ x → zV a M k n tgt ls st h) (kf : ¬ y ≤ x → zV a M k n (pc + 3) ls st h) : zV a M k n pc ls (aI y :: aI x :: st) h := by
  obtain ⟨⟨p, l, e, s, m, args, below, meth, c⟩, G, E, N⟩ := a
  obtain ⟨hx, hb, hml, hr, ho, hlk, hK, hAD, hN, hex, hl0, hG⟩ := O
  intro cs cl hh H locs la hP hS hL
  have cx : zr x := cs (aI x) (by simp)
  have cy : zr y := cs (aI y) (by simp)
  exact lv_icmp_ge hx hb hd ht (fun q => kt ((zI_le cy cx).mp q) (fun v hv => cs v (List.mem_cons_of_mem _ (List.mem_cons_of_mem _ hv))) cl hh H locs la hP hS hL) (fun q => kf (fun w => q ((zI_le cy cx).mpr w)) (fun v hv => cs v (List.mem_cons_of_mem _ (List.mem_cons_of_mem _ hv))) cl hh H locs la hP hS hL)

theorem zV_if_gt (O : zOk l0 a cc own mL ret mn tb) {x off : Int} {tgt : Nat}
    (hd : decode cc pc = .ok (.ifCond .gt off, 3)) (ht : (pc : Int) + off = (tgt : Int)) (kt : 0 < x → zV a M k n tgt ls st h) (kf : ¬ 0 < x → zV a M k n (pc + 3) ls st h) : zV a M k n pc ls (aI x :: st) h := by
  obtain ⟨⟨p, l, e, s, m, args, below, meth, c⟩, G, E, N⟩ := a
  obtain ⟨hx, hb, hml, hr, ho, hlk, hK, hAD, hN, hex, hl0, hG⟩ := O
  intro cs cl hh H locs la hP hS hL
  have cx : zr x := cs (aI x) (by simp)
  exact lv_if_gt hx hb hd ht (fun q => kt ((zI_lt zr0 cx).mp q) (fun v hv => cs v (List.mem_cons_of_mem _ hv)) cl hh H locs la hP hS hL) (fun q => kf (fun w => q ((zI_lt zr0 cx).mpr w)) (fun v hv => cs v (List.mem_cons_of_mem _ hv)) cl hh H locs la hP hS hL)

theorem zV_icmp_gt (O : zOk l0 a cc own mL ret mn tb) {x y off : Int} {tgt : Nat}
    (hd : decode cc pc = .ok (.if_icmp .gt off, 3)) (ht : (pc : Int) + off = (tgt : Int)) (kt : y < x → zV a M k n tgt ls st h) (kf : ¬ y < x → zV a M k n (pc + 3) ls st h) : zV a M k n pc ls (aI y :: aI x :: st) h := by
  obtain ⟨⟨p, l, e, s, m, args, below, meth, c⟩, G, E, N⟩ := a
  obtain ⟨hx, hb, hml, hr, ho, hlk, hK, hAD, hN, hex, hl0, hG⟩ := O
  intro cs cl hh H locs la hP hS hL
  have cx : zr x := cs (aI x) (by simp)
  have cy : zr y := cs (aI y) (by simp)
  exact lv_icmp_gt hx hb hd ht (fun q => kt ((zI_lt cy cx).mp q) (fun v hv => cs v (List.mem_cons_of_mem _ (List.mem_cons_of_mem _ hv))) cl hh H locs la hP hS hL) (fun q => kf (fun w => q ((zI_lt cy cx).mpr w)) (fun v hv => cs v (List.mem_cons_of_mem _ (List.mem_cons_of_mem _ hv))) cl hh H locs la hP hS hL)

theorem zV_if_le (O : zOk l0 a cc own mL ret mn tb) {x off : Int} {tgt : Nat}
    (hd : decode cc pc = .ok (.ifCond .le off, 3)) (ht : (pc : Int) + off = (tgt : Int)) (kt : x ≤ 0 → zV a M k n tgt ls st h) (kf : ¬ x ≤ 0 → zV a M k n (pc + 3) ls st h) : zV a M k n pc ls (aI x :: st) h := by
  obtain ⟨⟨p, l, e, s, m, args, below, meth, c⟩, G, E, N⟩ := a
  obtain ⟨hx, hb, hml, hr, ho, hlk, hK, hAD, hN, hex, hl0, hG⟩ := O
  intro cs cl hh H locs la hP hS hL
  have cx : zr x := cs (aI x) (by simp)
  exact lv_if_le hx hb hd ht (fun q => kt ((zI_le cx zr0).mp q) (fun v hv => cs v (List.mem_cons_of_mem _ hv)) cl hh H locs la hP hS hL) (fun q => kf (fun w => q ((zI_le cx zr0).mpr w)) (fun v hv => cs v (List.mem_cons_of_mem _ hv)) cl hh H locs la hP hS hL)

theorem zV_icmp_le (O : zOk l0 a cc own mL ret mn tb) {x y off : Int} {tgt : Nat}
    (hd : decode cc pc = .ok (.if_icmp .le off, 3)) (ht : (pc : Int) + off = (tgt : Int)) (kt : x ≤ y → zV a M k n tgt ls st h) (kf : ¬ x ≤ y → zV a M k n (pc + 3) ls st h) : zV a M k n pc ls (aI y :: aI x :: st) h := by
  obtain ⟨⟨p, l, e, s, m, args, below, meth, c⟩, G, E, N⟩ := a
  obtain ⟨hx, hb, hml, hr, ho, hlk, hK, hAD, hN, hex, hl0, hG⟩ := O
  intro cs cl hh H locs la hP hS hL
  have cx : zr x := cs (aI x) (by simp)
  have cy : zr y := cs (aI y) (by simp)
  exact lv_icmp_le hx hb hd ht (fun q => kt ((zI_le cx cy).mp q) (fun v hv => cs v (List.mem_cons_of_mem _ (List.mem_cons_of_mem _ hv))) cl hh H locs la hP hS hL) (fun q => kf (fun w => q ((zI_le cx cy).mpr w)) (fun v hv => cs v (List.mem_cons_of_mem _ (List.mem_cons_of_mem _ hv))) cl hh H locs la hP hS hL)

theorem zV_goto (O : zOk l0 a cc own mL ret mn tb) {off : Int} {tgt : Nat}
    (hd : decode cc pc = .ok (.goto off, 3)) (ht : (pc : Int) + off = (tgt : Int)) (kk : zV a M k n tgt ls st h) : zV a M k n pc ls st h := by
  obtain ⟨⟨p, l, e, s, m, args, below, meth, c⟩, G, E, N⟩ := a
  obtain ⟨hx, hb, hml, hr, ho, hlk, hK, hAD, hN, hex, hl0, hG⟩ := O
  intro cs cl hh H locs la hP hS hL
  exact lv_goto hx hb hd ht (kk cs cl hh H locs la hP hS hL)

theorem zV_ifnull (O : zOk l0 a cc own mL ret mn tb) {q : Nat} {off : Int}
    (hd : decode cc pc = .ok (.ifnull off, 3)) (kk : zV a M k n (pc + 3) ls st h) : zV a M k n pc ls (aR q :: st) h := by
  obtain ⟨⟨p, l, e, s, m, args, below, meth, c⟩, G, E, N⟩ := a
  obtain ⟨hx, hb, hml, hr, ho, hlk, hK, hAD, hN, hex, hl0, hG⟩ := O
  intro cs cl hh H locs la hP hS hL
  exact lv_ifnull hx hb hd (kk (fun v hv => cs v (List.mem_cons_of_mem _ hv)) cl hh H locs la hP hS hL)

theorem zV_tableIn (O : zOk l0 a cc own mL ret mn tb) {x dflt lo hi off : Int} {offs : Array Int} {len tgt : Nat}
    (hd : decode cc pc = .ok (.tableswitch dflt lo hi offs, len)) (h1 : lo ≤ x) (h2 : x ≤ hi) (ho2 : offs[(x - lo).toNat]? = some off) (ht : (pc : Int) + off = (tgt : Int)) (kk : zV a M k n tgt ls st h) : zV a M k n pc ls (aI x :: st) h := by
  obtain ⟨⟨p, l, e, s, m, args, below, meth, c⟩, G, E, N⟩ := a
  obtain ⟨hx, hb, hml, hr, ho, hlk, hK, hAD, hN, hex, hl0, hG⟩ := O
  intro cs cl hh H locs la hP hS hL
  have cx : zr x := cs (aI x) (by simp)
  exact lv_tableIn hx hb hd (by rw [zI_toInt cx]; omega) (by rw [zI_toInt cx]; omega) (by rw [zI_toInt cx]; exact ho2) ht (kk (fun v hv => cs v (List.mem_cons_of_mem _ hv)) cl hh H locs la hP hS hL)

theorem zV_tableOut (O : zOk l0 a cc own mL ret mn tb) {x dflt lo hi : Int} {offs : Array Int} {len tgt : Nat}
    (hd : decode cc pc = .ok (.tableswitch dflt lo hi offs, len)) (h1 : x < lo ∨ hi < x) (ht : (pc : Int) + dflt = (tgt : Int)) (kk : zV a M k n tgt ls st h) : zV a M k n pc ls (aI x :: st) h := by
  obtain ⟨⟨p, l, e, s, m, args, below, meth, c⟩, G, E, N⟩ := a
  obtain ⟨hx, hb, hml, hr, ho, hlk, hK, hAD, hN, hex, hl0, hG⟩ := O
  intro cs cl hh H locs la hP hS hL
  have cx : zr x := cs (aI x) (by simp)
  exact lv_tableOut hx hb hd (by rw [zI_toInt cx]; exact h1) ht (kk (fun v hv => cs v (List.mem_cons_of_mem _ hv)) cl hh H locs la hP hS hL)

theorem zV_less {ls2 : List (Option AV)} (hs : ∀ i : Nat, i < ls2.length → ls2[i]? = some none ∨ ls2[i]? = ls[i]?) (kk : zV a M k n pc ls2 st h) : zV a M k n pc ls st h := by
  obtain ⟨⟨p, l, e, s, m, args, below, meth, c⟩, G, E, N⟩ := a
  intro cs cl hh H locs la hP hS hL
  have key : ∀ (i : Nat) (v : AV), ls2[i]? = some (some v) → ls[i]? = some (some v) := fun i v hv => by
    rcases hs i (List.getElem?_eq_some_iff.mp hv).1 with q | q
    · rw [q] at hv; cases hv
    · rw [← q]; exact hv
  refine kk cs (fun v hv => ?_) hh H locs la hP hS (lv_less hL fun q hq => ?_)
  · obtain ⟨i, hi⟩ := List.getElem?_of_mem hv
    exact cl v (List.mem_of_getElem? (key i v hi))
  · rw [zpr_mem] at hq ⊢
    obtain ⟨j, v, h1, h2⟩ := hq
    exact ⟨j, v, h1, key j v h2⟩
theorem zV_widen {k2 n2 : Nat} (h1 : k ≤ k2) (h2 : n ≤ n2) (kk : zV a M k2 n2 pc ls st h) : zV a M k n pc ls st h := by
  obtain ⟨⟨p, l, e, s, m, args, below, meth, c⟩, G, E, N⟩ := a
  intro cs cl hh H locs la hP hS hL
  exact W.widen h1 h2 (kk cs cl hh H locs la hP hS hL)
end ZR
