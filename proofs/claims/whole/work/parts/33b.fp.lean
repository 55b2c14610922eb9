/-! shares and means are numbers -/
theorem nn_64 {s : Bool} {c d : Nat} {e : Int} : vf_n64 (.ofNat (FP.Core.encode FP.Core.b64 (FP.Core.roundRatio FP.Core.b64 s c d e))) := by
  unfold vf_n64
  rw [UInt64.le_iff_toNat_le, UInt64.toNat_and, UInt64.toNat_ofNat']
  rw [show (0x7fffffffffffffff : UInt64).toNat = 2 ^ 63 - 1 from rfl, Nat.and_two_pow_sub_one_eq_mod, show (0x7ff0000000000000 : UInt64).toNat = 9218868437227405312 from rfl]
  have fin : ∀ (k : Nat) (q : Int), k < 2 ^ 53 → q ≤ 971 → FP.Core.encode FP.Core.b64 (.fin s k q) % 2 ^ 64 % 2 ^ 63 ≤ 9218868437227405312 := by
    intro k q hk hq
    show (if k < 4503599627370496 then (s.toNat * 2048 + 0) * 4503599627370496 + k else (s.toNat * 2048 + ((q - (-1074)).toNat + 1)) * 4503599627370496 + (k - 4503599627370496)) % 2 ^ 64 % 2 ^ 63 ≤ 9218868437227405312
    cases s <;> simp only [Bool.toNat_true, Bool.toNat_false] <;> split <;> omega
  have inf : FP.Core.encode FP.Core.b64 (.inf s) % 2 ^ 64 % 2 ^ 63 ≤ 9218868437227405312 := by cases s <;> decide
  unfold FP.Core.roundRatio FP.Core.roundAt FP.Core.settle FP.Core.bound
  split
  · exact fin 0 _ (by decide) (by decide)
  · split
    · split
      · exact fin _ _ (by assumption) (by assumption)
      · exact inf
    · split
      · exact fin _ _ (by decide) (by assumption)
      · exact inf
theorem nn_32 {s : Bool} {c d : Nat} {e : Int} : vf_n32 (.ofNat (FP.Core.encode FP.Core.b32 (FP.Core.roundRatio FP.Core.b32 s c d e))) := by
  unfold vf_n32
  rw [UInt32.le_iff_toNat_le, UInt32.toNat_and, UInt32.toNat_ofNat']
  rw [show (0x7fffffff : UInt32).toNat = 2 ^ 31 - 1 from rfl, Nat.and_two_pow_sub_one_eq_mod, show (0x7f800000 : UInt32).toNat = 2139095040 from rfl]
  have fin : ∀ (k : Nat) (q : Int), k < 2 ^ 24 → q ≤ 104 → FP.Core.encode FP.Core.b32 (.fin s k q) % 2 ^ 32 % 2 ^ 31 ≤ 2139095040 := by
    intro k q hk hq
    show (if k < 8388608 then (s.toNat * 256 + 0) * 8388608 + k else (s.toNat * 256 + ((q - (-149)).toNat + 1)) * 8388608 + (k - 8388608)) % 2 ^ 32 % 2 ^ 31 ≤ 2139095040
    cases s <;> simp only [Bool.toNat_true, Bool.toNat_false] <;> split <;> omega
  have inf : FP.Core.encode FP.Core.b32 (.inf s) % 2 ^ 32 % 2 ^ 31 ≤ 2139095040 := by cases s <;> decide
  unfold FP.Core.roundRatio FP.Core.roundAt FP.Core.settle FP.Core.bound
  split
  · exact fin 0 _ (by decide) (by decide)
  · split
    · split
      · exact fin _ _ (by assumption) (by assumption)
      · exact inf
    · split
      · exact fin _ _ (by decide) (by assumption)
      · exact inf
def isF (x : FP.Core.Datum) (z : Bool) : Bool := match x with
  | .fin _ c _ => z || decide (¬ c = 0)
  | _ => false
def tfc (n : Nat) : Bool := Nat.all n fun a _ => isF (FP.Core.decode FP.Core.b32 (FP.i2f (Int32.ofInt (a : Int))).toNat) (decide (a = 0))
theorem tfc_ok : tfc 41 = true := by decide +kernel
def tdc (n : Nat) : Bool := Nat.all n fun a _ => isF (FP.Core.decode FP.Core.b64 (FP.i2d (Int32.ofInt (a : Int))).toNat) (decide (a = 0))
theorem tdc_ok : tdc 1601 = true := by decide +kernel
theorem natAll {n : Nat} {p : Nat → Bool} (h : (Nat.all n fun a _ => p a) = true) {a : Nat} (ha : a < n) : p a = true := by
  rw [Nat.all_eq_finRange_all, List.all_eq_true] at h
  exact h ⟨a, ha⟩ (List.mem_finRange _)
theorem isF_q {x y : FP.Core.Datum} {z : Bool} (hx : isF x z = true) (hy : isF y false = true) {f : FP.Core.Fmt} : ∃ s c d e, FP.Core.quotient f x y = FP.Core.roundRatio f s c d e := by
  rcases x with _ | s | ⟨s, c, q⟩
  · cases hx
  · cases hx
  rcases y with _ | t | ⟨t, d, e⟩
  · cases hy
  · cases hy
  have hd : ¬ d = 0 := by
    have h2 : decide (¬ d = 0) = true := hy
    exact of_decide_eq_true h2
  exact ⟨_, _, _, _, if_neg hd⟩
theorem nn_d {a b : Int} (ha : 0 ≤ a ∧ a ≤ 1600) (hb : 1 ≤ b ∧ b ≤ 40) : vf_n64 (FP.ddiv (FP.i2d (Int32.ofInt a)) (FP.i2d (Int32.ofInt b))) := by
  have h1 := natAll (p := fun a => isF (FP.Core.decode FP.Core.b64 (FP.i2d (Int32.ofInt (a : Int))).toNat) (decide (a = 0))) tdc_ok (a := a.toNat) (by omega)
  have h2 := natAll (p := fun a => isF (FP.Core.decode FP.Core.b64 (FP.i2d (Int32.ofInt (a : Int))).toNat) (decide (a = 0))) tdc_ok (a := b.toNat) (by omega)
  have e1 : ((a.toNat : Nat) : Int) = a := by omega
  have e2 : ((b.toNat : Nat) : Int) = b := by omega
  have e3 : decide (b.toNat = 0) = false := decide_eq_false (by omega)
  simp only [e1] at h1
  simp only [e2, e3] at h2
  obtain ⟨s, c, d, e, he⟩ := isF_q (f := FP.Core.b64) h1 h2
  show vf_n64 (.ofNat (FP.Core.encode FP.Core.b64 (FP.Core.quotient FP.Core.b64 _ _)))
  rw [he]
  exact nn_64
theorem nn_f {a b : Int} (ha : 0 ≤ a ∧ a ≤ 40) (hb : 1 ≤ b ∧ b ≤ 40) : vf_n32 (FP.fdiv (FP.i2f (Int32.ofInt a)) (FP.i2f (Int32.ofInt b))) := by
  have h1 := natAll (p := fun a => isF (FP.Core.decode FP.Core.b32 (FP.i2f (Int32.ofInt (a : Int))).toNat) (decide (a = 0))) tfc_ok (a := a.toNat) (by omega)
  have h2 := natAll (p := fun a => isF (FP.Core.decode FP.Core.b32 (FP.i2f (Int32.ofInt (a : Int))).toNat) (decide (a = 0))) tfc_ok (a := b.toNat) (by omega)
  have e1 : ((a.toNat : Nat) : Int) = a := by omega
  have e2 : ((b.toNat : Nat) : Int) = b := by omega
  have e3 : decide (b.toNat = 0) = false := decide_eq_false (by omega)
  simp only [e1] at h1
  simp only [e2, e3] at h2
  obtain ⟨s, c, d, e, he⟩ := isF_q (f := FP.Core.b32) h1 h2
  show vf_n32 (.ofNat (FP.Core.encode FP.Core.b32 (FP.Core.quotient FP.Core.b32 _ _)))
  rw [he]
  exact nn_32
