/-! sets as longs: how many bits, the smallest bit, the others -/
def pc8 (u : Nat) : Nat := u % 2 + u / 2 % 2 + u / 4 % 2 + u / 8 % 2 + u / 16 % 2 + u / 32 % 2 + u / 64 % 2 + u / 128 % 2
def mkn (v : Nat) : Nat → Nat
  | 0 => 0
  | n + 1 => 256 * mkn v n + v
def bm (g : Nat → Nat) : Nat → Nat → Nat
  | 0, _ => 0
  | n + 1, p => 256 * bm g n (p / 256) + g (p % 256)
theorem and_split {p q u v : Nat} (hu : u < 256) (hv : v < 256) : (256 * p + u) &&& (256 * q + v) = 256 * (p &&& q) + (u &&& v) := by
  apply Nat.eq_of_testBit_eq
  intro i
  have huv : u &&& v < 2 ^ 8 := Nat.and_lt_two_pow (n := 8) u hv
  rw [Nat.testBit_and, show 256 * p + u = 2 ^ 8 * p + u by rfl, show 256 * q + v = 2 ^ 8 * q + v by rfl, show 256 * (p &&& q) + (u &&& v) = 2 ^ 8 * (p &&& q) + (u &&& v) by rfl, Nat.testBit_two_pow_mul_add _ (show u < 2 ^ 8 from hu), Nat.testBit_two_pow_mul_add _ (show v < 2 ^ 8 from hv), Nat.testBit_two_pow_mul_add _ huv]
  split
  · rw [Nat.testBit_and]
  · rw [Nat.testBit_and]
theorem by_5 : ∀ u : Fin 256, ∀ t : Fin 2, (128 * t.val + u.val / 2) &&& 85 = (u.val / 2) &&& 85 := by decide +kernel
theorem by_3 : ∀ u : Fin 256, ∀ t : Fin 4, (64 * t.val + u.val / 4) &&& 51 = (u.val / 4) &&& 51 := by decide +kernel
def gA (u : Nat) : Nat := u - ((u / 2) &&& 85)
def gB (u : Nat) : Nat := (u &&& 51) + ((u / 4) &&& 51)
def gC (u : Nat) : Nat := u % 16 + u / 16
theorem gABC : ∀ u : Fin 256, gA u.val < 256 ∧ gB (gA u.val) < 256 ∧ (gB (gA u.val) % 16 ≤ 4 ∧ gB (gA u.val) / 16 ≤ 4) ∧ gC (gB (gA u.val)) = pc8 u.val := by decide +kernel
theorem gB_lt : ∀ u : Fin 256, gB u.val < 256 := by decide +kernel
theorem and_15 (x : Nat) : x &&& 15 = x % 16 := Nat.and_two_pow_sub_one_eq_mod x 4
theorem st_A : ∀ (n p : Nat), p < 256 ^ n → p - ((p / 2) &&& mkn 85 n) = bm gA n p := by
  intro n
  induction n with
  | zero =>
    intro p h
    have : p = 0 := by simpa using h
    subst this
    rfl
  | succ n ih =>
    intro p h
    have hq : p / 256 < 256 ^ n := Nat.div_lt_of_lt_mul (by rw [Nat.pow_succ] at h; omega)
    have e := ih (p / 256) hq
    show p - ((p / 2) &&& (256 * mkn 85 n + 85)) = 256 * bm gA n (p / 256) + gA (p % 256)
    have hp : p / 2 = 256 * (p / 256 / 2) + (128 * (p / 256 % 2) + p % 256 / 2) := by omega
    rw [hp, and_split (by omega) (by omega), by_5 ⟨p % 256, by omega⟩ ⟨p / 256 % 2, by omega⟩, ← e]
    unfold gA
    have l1 : (p / 256 / 2) &&& mkn 85 n ≤ p / 256 / 2 := Nat.and_le_left
    have l2 : (p % 256 / 2) &&& 85 ≤ p % 256 / 2 := Nat.and_le_left
    simp only
    omega
theorem st_B : ∀ (n p : Nat), p < 256 ^ n → (p &&& mkn 51 n) + ((p / 4) &&& mkn 51 n) = bm gB n p := by
  intro n
  induction n with
  | zero =>
    intro p h
    have : p = 0 := by simpa using h
    subst this
    rfl
  | succ n ih =>
    intro p h
    have hq : p / 256 < 256 ^ n := Nat.div_lt_of_lt_mul (by rw [Nat.pow_succ] at h; omega)
    have e := ih (p / 256) hq
    show (p &&& (256 * mkn 51 n + 51)) + ((p / 4) &&& (256 * mkn 51 n + 51)) = 256 * bm gB n (p / 256) + gB (p % 256)
    have hp : p / 4 = 256 * (p / 256 / 4) + (64 * (p / 256 % 4) + p % 256 / 4) := by omega
    have hp0 : p &&& (256 * mkn 51 n + 51) = 256 * ((p / 256) &&& mkn 51 n) + ((p % 256) &&& 51) := by
      have : p = 256 * (p / 256) + p % 256 := by omega
      conv => lhs; rw [this]
      exact and_split (by omega) (by omega)
    rw [hp0, hp, and_split (by omega) (by omega), by_3 ⟨p % 256, by omega⟩ ⟨p / 256 % 4, by omega⟩, ← e]
    unfold gB
    simp only
    omega
def nib (n p : Nat) : Prop := ∀ k, k < n → p / 256 ^ k % 16 ≤ 4 ∧ p / 256 ^ k / 16 % 16 ≤ 4
theorem nib_s {n p : Nat} (h : nib (n + 1) p) : (p % 16 ≤ 4 ∧ p / 16 % 16 ≤ 4) ∧ nib n (p / 256) := by
  refine ⟨by simpa using h 0 (by omega), fun k hk => ?_⟩
  have := h (k + 1) (by omega)
  rw [Nat.pow_succ, Nat.mul_comm, ← Nat.div_div_eq_div_mul] at this
  exact this
theorem st_C : ∀ (n p : Nat), p < 256 ^ n → nib n p → (p + p / 16) &&& mkn 15 n = bm gC n p := by
  intro n
  induction n with
  | zero => intro p h _; exact Nat.and_zero _
  | succ n ih =>
    intro p h hb
    obtain ⟨hb0, hb1⟩ := nib_s hb
    have hq : p / 256 < 256 ^ n := Nat.div_lt_of_lt_mul (by rw [Nat.pow_succ] at h; omega)
    have e := ih (p / 256) hq hb1
    show (p + p / 16) &&& (256 * mkn 15 n + 15) = 256 * bm gC n (p / 256) + gC (p % 256)
    have hn : p / 256 % 16 ≤ 4 := by
      cases n with
      | zero =>
        have : p / 256 = 0 := by simpa using hq
        omega
      | succ n => exact (nib_s hb1).1.1
    have hp : p + p / 16 = 256 * (p / 256 + p / 256 / 16) + (p % 256 + p % 256 / 16 + 16 * (p / 256 % 16)) := by omega
    have eg : gC (p % 256) = p % 256 % 16 + p % 256 / 16 := rfl
    have g4 : p % 256 / 16 ≤ 4 := by
      have : p / 16 % 16 = p % 256 / 16 := by omega
      omega
    rw [hp, and_split (by omega) (by omega), e, and_15, eg]
    have w4 : p % 256 % 16 ≤ 4 := by omega
    have : (p % 256 + p % 256 / 16 + 16 * (p / 256 % 16)) % 16 = p % 256 % 16 + p % 256 / 16 := by
      clear hp eg e ih h hb hq
      generalize p % 256 = u at *
      generalize p / 256 % 16 = v at *
      omega
    omega
theorem bm_lt {g : Nat → Nat} (hg : ∀ u, u < 256 → g u < 256) : ∀ (n p : Nat), bm g n p < 256 ^ n := by
  intro n
  induction n with
  | zero => intro p; exact Nat.one_pos
  | succ n ih =>
    intro p
    have a := ih (p / 256)
    have c := hg (p % 256) (by omega)
    show 256 * bm g n (p / 256) + g (p % 256) < 256 ^ (n + 1)
    rw [Nat.pow_succ]
    omega
theorem bm_bm {f g : Nat → Nat} (hf : ∀ u, u < 256 → f u < 256) : ∀ (n p : Nat), bm g n (bm f n p) = bm (fun u => g (f u)) n p := by
  intro n
  induction n with
  | zero => intro p; rfl
  | succ n ih =>
    intro p
    have c := hf (p % 256) (by omega)
    show 256 * bm g n ((256 * bm f n (p / 256) + f (p % 256)) / 256) + g ((256 * bm f n (p / 256) + f (p % 256)) % 256) = 256 * bm (fun u => g (f u)) n (p / 256) + g (f (p % 256))
    rw [show (256 * bm f n (p / 256) + f (p % 256)) / 256 = bm f n (p / 256) by omega, show (256 * bm f n (p / 256) + f (p % 256)) % 256 = f (p % 256) by omega, ih]
theorem bm_congr {f g : Nat → Nat} (h : ∀ u, u < 256 → f u = g u) : ∀ (n p : Nat), bm f n p = bm g n p := by
  intro n
  induction n with
  | zero => intro p; rfl
  | succ n ih =>
    intro p
    show 256 * bm f n (p / 256) + f (p % 256) = 256 * bm g n (p / 256) + g (p % 256)
    rw [ih, h _ (by omega)]
theorem nib_bm {g : Nat → Nat} (h : ∀ u, u < 256 → g u < 256 ∧ g u % 16 ≤ 4 ∧ g u / 16 ≤ 4) : ∀ (n p : Nat), nib n (bm g n p) := by
  intro n
  induction n with
  | zero => intro p k hk; omega
  | succ n ih =>
    intro p k hk
    have c := h (p % 256) (by omega)
    show (256 * bm g n (p / 256) + g (p % 256)) / 256 ^ k % 16 ≤ 4 ∧ (256 * bm g n (p / 256) + g (p % 256)) / 256 ^ k / 16 % 16 ≤ 4
    cases k with
    | zero => rw [Nat.pow_zero, Nat.div_one]; omega
    | succ k =>
      rw [Nat.pow_succ, Nat.mul_comm (256 ^ k), ← Nat.div_div_eq_div_mul, show (256 * bm g n (p / 256) + g (p % 256)) / 256 = bm g n (p / 256) by omega]
      exact ih (p / 256) k (by omega)
def bc : Nat → Nat → Nat
  | 0, _ => 0
  | m + 1, N => N % 2 + bc m (N / 2)
theorem bc_8 {m N : Nat} : bc (m + 8) N = pc8 (N % 256) + bc m (N / 256) := by
  show N % 2 + (N / 2 % 2 + (N / 2 / 2 % 2 + (N / 2 / 2 / 2 % 2 + (N / 2 / 2 / 2 / 2 % 2 + (N / 2 / 2 / 2 / 2 / 2 % 2 + (N / 2 / 2 / 2 / 2 / 2 / 2 % 2 + (N / 2 / 2 / 2 / 2 / 2 / 2 / 2 % 2 + bc m (N / 2 / 2 / 2 / 2 / 2 / 2 / 2 / 2)))))))) = _
  rw [show N / 2 / 2 / 2 / 2 / 2 / 2 / 2 / 2 = N / 256 by omega]
  unfold pc8
  omega
theorem pc8_le : ∀ u : Fin 256, pc8 u.val ≤ 8 := by decide +kernel
theorem sm_bits {N : Nat} (e f g : Nat) (he : e = bm pc8 8 N + bm pc8 8 N / 256) (hf : f = e + e / 65536) (hg : g = f + f / 4294967296) : g % 128 = bc 64 N ∧ g < 9223372036854775808 ∧ bc 64 N ≤ 64 := by
  have c0 := pc8_le ⟨N % 256, by omega⟩
  have c1 := pc8_le ⟨N / 256 % 256, by omega⟩
  have c2 := pc8_le ⟨N / 256 / 256 % 256, by omega⟩
  have c3 := pc8_le ⟨N / 256 / 256 / 256 % 256, by omega⟩
  have c4 := pc8_le ⟨N / 256 / 256 / 256 / 256 % 256, by omega⟩
  have c5 := pc8_le ⟨N / 256 / 256 / 256 / 256 / 256 % 256, by omega⟩
  have c6 := pc8_le ⟨N / 256 / 256 / 256 / 256 / 256 / 256 % 256, by omega⟩
  have c7 := pc8_le ⟨N / 256 / 256 / 256 / 256 / 256 / 256 / 256 % 256, by omega⟩
  have eb : bc 64 N = pc8 (N % 256) + (pc8 (N / 256 % 256) + (pc8 (N / 256 / 256 % 256) + (pc8 (N / 256 / 256 / 256 % 256) + (pc8 (N / 256 / 256 / 256 / 256 % 256) + (pc8 (N / 256 / 256 / 256 / 256 / 256 % 256) + (pc8 (N / 256 / 256 / 256 / 256 / 256 / 256 % 256) + (pc8 (N / 256 / 256 / 256 / 256 / 256 / 256 / 256 % 256) + 0))))))) := by
    rw [show (64 : Nat) = 56 + 8 from rfl, bc_8, show (56 : Nat) = 48 + 8 from rfl, bc_8, show (48 : Nat) = 40 + 8 from rfl, bc_8, show (40 : Nat) = 32 + 8 from rfl, bc_8, show (32 : Nat) = 24 + 8 from rfl, bc_8, show (24 : Nat) = 16 + 8 from rfl, bc_8, show (16 : Nat) = 8 + 8 from rfl, bc_8, show (8 : Nat) = 0 + 8 from rfl, bc_8]
    rfl
  have ed : bm pc8 8 N = 256 * (256 * (256 * (256 * (256 * (256 * (256 * (256 * 0 + pc8 (N / 256 / 256 / 256 / 256 / 256 / 256 / 256 % 256)) + pc8 (N / 256 / 256 / 256 / 256 / 256 / 256 % 256)) + pc8 (N / 256 / 256 / 256 / 256 / 256 % 256)) + pc8 (N / 256 / 256 / 256 / 256 % 256)) + pc8 (N / 256 / 256 / 256 % 256)) + pc8 (N / 256 / 256 % 256)) + pc8 (N / 256 % 256)) + pc8 (N % 256) := rfl
  rw [ed] at he
  rw [eb]
  simp only at c0 c1 c2 c3 c4 c5 c6 c7
  generalize pc8 (N % 256) = d0 at *
  generalize pc8 (N / 256 % 256) = d1 at *
  generalize pc8 (N / 256 / 256 % 256) = d2 at *
  generalize pc8 (N / 256 / 256 / 256 % 256) = d3 at *
  generalize pc8 (N / 256 / 256 / 256 / 256 % 256) = d4 at *
  generalize pc8 (N / 256 / 256 / 256 / 256 / 256 % 256) = d5 at *
  generalize pc8 (N / 256 / 256 / 256 / 256 / 256 / 256 % 256) = d6 at *
  generalize pc8 (N / 256 / 256 / 256 / 256 / 256 / 256 / 256 % 256) = d7 at *
  clear eb ed
  have e1 : e = 256 * (256 * (256 * (256 * (256 * (256 * (256 * d7 + (d6 + d7)) + (d5 + d6)) + (d4 + d5)) + (d3 + d4)) + (d2 + d3)) + (d1 + d2)) + (d0 + d1) := by omega
  have f1 : f = 256 * (256 * (256 * (256 * (256 * (256 * (256 * d7 + (d6 + d7)) + (d5 + d6 + d7)) + (d4 + d5 + d6 + d7)) + (d3 + d4 + d5 + d6)) + (d2 + d3 + d4 + d5)) + (d1 + d2 + d3 + d4)) + (d0 + d1 + d2 + d3) := by
    rw [e1] at hf
    clear he e1
    omega
  rw [f1] at hg
  clear he e1 hf f1
  have g1 : (256 * (256 * (256 * (256 * (256 * (256 * (256 * d7 + (d6 + d7)) + (d5 + d6 + d7)) + (d4 + d5 + d6 + d7)) + (d3 + d4 + d5 + d6)) + (d2 + d3 + d4 + d5)) + (d1 + d2 + d3 + d4)) + (d0 + d1 + d2 + d3)) / 4294967296 = 256 * (256 * (256 * d7 + (d6 + d7)) + (d5 + d6 + d7)) + (d4 + d5 + d6 + d7) := by omega
  rw [g1] at hg
  clear g1
  omega
theorem zbyte7 {x : Int} (hx : 0 ≤ x ∧ x < 9223372036854775808) : zand (zl2i x) 127 = x % 128 := by
  unfold zand zl2i
  have e1 : Int32.ofInt (Int64.ofInt x).toInt32.toInt = (Int64.ofInt x).toInt32 := Int32.ofInt_toInt _
  rw [e1]
  have e2 : ((Int64.ofInt x).toInt32 &&& Int32.ofInt 127).toBitVec.toNat = x.toNat % 128 := by
    rw [Int32.toBitVec_and, BitVec.toNat_and]
    rw [show (Int32.ofInt 127).toBitVec.toNat = 2 ^ 7 - 1 from by decide, Nat.and_two_pow_sub_one_eq_mod]
    rw [Int64.toBitVec_toInt32]
    show ((Int64.ofInt x).toBitVec.signExtend 32).toNat % 128 = _
    rw [BitVec.signExtend_eq_setWidth_of_le _ (by omega), BitVec.toNat_setWidth, b_bv _ (by omega)]
    omega
  show ((Int64.ofInt x).toInt32 &&& Int32.ofInt 127).toBitVec.toInt = _
  rw [BitVec.toInt_eq_toNat_cond, e2, if_pos (by omega)]
  omega
theorem zus {N : Nat} {y : Int} {k : Nat} (h : N < 9223372036854775808) (hy : 0 ≤ y ∧ y < 64) (hk : 2 ^ y.toNat = k) : zlushr (N : Int) y = ((N / k : Nat) : Int) := by
  rw [zlushr_n ⟨by omega, by omega⟩ hy, hk]
  rfl
theorem mkn_v : mkn 85 8 = 6148914691236517205 ∧ mkn 51 8 = 3689348814741910323 ∧ mkn 15 8 = 1085102592571150095 := by decide
theorem zad {a c m : Nat} {z : Int} (hz : z = (m : Int)) (ha : a < 9223372036854775808) (hm : m < 9223372036854775808) (hc : a &&& m = c) : zland (a : Int) z = (c : Int) := by rw [hz, zland_n ha hm, hc]
theorem p13_count {N : Nat} {h : Hp} {Q : Int → Prop} (hN : N < 9223372036854775808) (hQ : Q (bc 64 N : Nat)) : mJ13_bitCount_95d88 (N : Int) h Q := by
  have hA := st_A 8 N (by show N < 18446744073709551616; omega)
  rw [mkn_v.1] at hA
  have hA2 : (N / 2) &&& 6148914691236517205 ≤ N / 2 := Nat.and_le_left
  have gA' : ∀ u, u < 256 → gA u < 256 := fun u hu => (gABC ⟨u, hu⟩).1
  have hB := st_B 8 (bm gA 8 N) (bm_lt gA' 8 N)
  rw [mkn_v.2.1, bm_bm gA'] at hB
  have gB' : ∀ u, u < 256 → gB (gA u) < 256 := fun u hu => (gABC ⟨u, hu⟩).2.1
  have hC := st_C 8 (bm (fun u => gB (gA u)) 8 N) (bm_lt gB' 8 N) (nib_bm (fun u hu => ⟨gB' u hu, (gABC ⟨u, hu⟩).2.2.1⟩) 8 N)
  rw [mkn_v.2.2, bm_bm gB', bm_congr (f := fun u => gC (gB (gA u))) (g := pc8) (fun u hu => (gABC ⟨u, hu⟩).2.2.2)] at hC
  obtain ⟨s1, s2, s3⟩ := sm_bits (N := N) _ _ _ rfl rfl rfl
  have b1 : bm gA 8 N ≤ N := by rw [← hA]; omega
  have m3 : ∀ a : Nat, a &&& 3689348814741910323 ≤ 3689348814741910323 := fun a => Nat.and_le_right
  have b2 : bm (fun u => gB (gA u)) 8 N ≤ 7378697629483820646 := by
    rw [← hB]
    have q1 := m3 (bm gA 8 N)
    have q2 := m3 (bm gA 8 N / 4)
    omega
  have b3 : bm pc8 8 N ≤ 1085102592571150095 := by rw [← hC]; exact Nat.and_le_right
  have E1 : (N : Int) - zland (zlushr (N : Int) 1) 6148914691236517205 = ((bm gA 8 N : Nat) : Int) := by
    rw [zus hN (by omega) (show 2 ^ (1 : Int).toNat = 2 by decide), zad (z := 6148914691236517205) (m := 6148914691236517205) rfl (by omega) (by decide) rfl]
    omega
  have E2 : zland ((bm gA 8 N : Nat) : Int) 3689348814741910323 + zland (zlushr ((bm gA 8 N : Nat) : Int) 2) 3689348814741910323 = ((bm (fun u => gB (gA u)) 8 N : Nat) : Int) := by
    rw [zus (by omega) (by omega) (show 2 ^ (2 : Int).toNat = 4 by decide), zad (z := 3689348814741910323) (m := 3689348814741910323) rfl (by omega) (by decide) rfl, zad (z := 3689348814741910323) (m := 3689348814741910323) rfl (by omega) (by decide) rfl]
    omega
  have E3 : ((bm (fun u => gB (gA u)) 8 N : Nat) : Int) + zlushr ((bm (fun u => gB (gA u)) 8 N : Nat) : Int) 4 = ((bm (fun u => gB (gA u)) 8 N + bm (fun u => gB (gA u)) 8 N / 16 : Nat) : Int) := by
    rw [zus (by omega) (by omega) (show 2 ^ (4 : Int).toNat = 16 by decide)]
    omega
  have E4 : zland ((bm (fun u => gB (gA u)) 8 N + bm (fun u => gB (gA u)) 8 N / 16 : Nat) : Int) 1085102592571150095 = ((bm pc8 8 N : Nat) : Int) := zad (z := 1085102592571150095) (m := 1085102592571150095) rfl (by omega) (by decide) hC
  have E5 : ((bm pc8 8 N : Nat) : Int) + zlushr ((bm pc8 8 N : Nat) : Int) 8 = ((bm pc8 8 N + bm pc8 8 N / 256 : Nat) : Int) := by
    rw [zus (by omega) (by omega) (show 2 ^ (8 : Int).toNat = 256 by decide)]
    omega
  generalize he : bm pc8 8 N + bm pc8 8 N / 256 = e at *
  have E6 : (e : Int) + zlushr (e : Int) 16 = ((e + e / 65536 : Nat) : Int) := by
    rw [zus (by omega) (by omega) (show 2 ^ (16 : Int).toNat = 65536 by decide)]
    omega
  generalize hf : e + e / 65536 = f at *
  have E7 : (f : Int) + zlushr (f : Int) 32 = ((f + f / 4294967296 : Nat) : Int) := by
    rw [zus (by omega) (by omega) (show 2 ^ (32 : Int).toNat = 4294967296 by decide)]
    omega
  generalize hg : f + f / 4294967296 = g at *
  unfold mJ13_bitCount_95d88
  rw [E1, E2, E3, E4, E5, E6, E7, zbyte7 ⟨by omega, by omega⟩]
  have er : (g : Int) % 128 = ((bc 64 N : Nat) : Int) := by omega
  rw [er]
  unfold zr6
  exact ⟨by omega, by omega, by omega, by omega, by omega, by omega, hQ⟩
