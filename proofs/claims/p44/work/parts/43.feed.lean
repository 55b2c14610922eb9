/-! bytes that are fed -/
theorem b_32 (v : Int) : (Int32.ofInt v).toBitVec.toNat = (v % 4294967296).toNat := by
  rw [Int32.toBitVec_ofInt, BitVec.toNat_ofInt]
  have e : ((2 ^ 32 : Nat) : Int) = 4294967296 := by decide
  rw [e]
theorem fb_cls {v s : Int} (k : Nat) (hk : k ≤ 24) (hs : ((Int32.ofInt s).toUInt32 &&& Int32.toUInt32 31).toNat = k) : zi2b (ziushr v s) = bt (((v % 4294967296).toNat / 2 ^ k % 256 : Nat) : Int) := by
  unfold zi2b ziushr
  rw [Int32.ofInt_toInt]
  have e : ((Int32.ofInt v).toUInt32 >>> ((Int32.ofInt s).toUInt32 &&& Int32.toUInt32 31)).toNat = (v % 4294967296).toNat / 2 ^ k := by
    rw [UInt32.toNat_shiftRight, hs]
    show (Int32.ofInt v).toBitVec.toNat >>> (k % 32) = _
    rw [b_32, Nat.mod_eq_of_lt (by omega), Nat.shiftRight_eq_div_pow]
  generalize (Int32.ofInt v).toUInt32 >>> ((Int32.ofInt s).toUInt32 &&& Int32.toUInt32 31) = u at e
  rw [Int8.toInt_toInt32]
  show (u.toInt32.toInt8).toBitVec.toInt = _
  have e2 : (u.toInt32.toInt8).toBitVec.toNat = (v % 4294967296).toNat / 2 ^ k % 256 := by
    rw [Int32.toBitVec_toInt8, BitVec.signExtend_eq_setWidth_of_le _ (by omega), BitVec.toNat_setWidth]
    show u.toNat % 2 ^ 8 = _
    rw [e]
  rw [BitVec.toInt_eq_toNat_cond, e2]
  unfold bt
  split <;> split <;> omega
theorem fb_ref {v s : Int} (hv : zr v) (k : Nat) (hk : k ≤ 24) (hs : ((Int32.ofInt s &&& 31).toBitVec.smod 32).toNat = k) : zand (zishr v s) 255 = (v / 2 ^ k) % 256 := by
  unfold zand zishr
  rw [Int32.ofInt_toInt]
  unfold zr at hv
  have e : (Int32.ofInt v >>> (Int32.ofInt s &&& 31)).toInt = v / 2 ^ k := by
    show (Int32.ofInt v >>> (Int32.ofInt s &&& 31)).toBitVec.toInt = _
    rw [Int32.toBitVec_shiftRight, BitVec.sshiftRight_eq', hs, BitVec.toInt_sshiftRight, Int.shiftRight_eq_div_pow]
    congr 1
    exact Int32.toInt_ofInt_of_le (by omega) (by omega)
  generalize Int32.ofInt v >>> (Int32.ofInt s &&& 31) = w at e
  have e2 : (w &&& Int32.ofInt 255).toBitVec.toNat = w.toBitVec.toNat % 256 := by
    rw [Int32.toBitVec_and, BitVec.toNat_and]
    rw [show (Int32.ofInt 255).toBitVec.toNat = 2 ^ 8 - 1 from by decide, Nat.and_two_pow_sub_one_eq_mod]
  show (w &&& Int32.ofInt 255).toBitVec.toInt = _
  rw [BitVec.toInt_eq_toNat_cond, e2, if_pos (by omega), ← e]
  show _ = w.toBitVec.toInt % 256
  rw [BitVec.toInt_eq_toNat_cond]
  have := w.toBitVec.isLt
  split <;> omega
theorem fb_eq {v s : Int} (hv : zr v) (hs : s = 24 ∨ s = 16 ∨ s = 8 ∨ s = 0) : zi2b (ziushr v s) = bt (zand (zishr v s) 255) ∧ (0 ≤ zand (zishr v s) 255 ∧ zand (zishr v s) 255 ≤ 255) := by
  unfold zr at hv
  rcases hs with c | c | c | c <;> subst c
  · rw [fb_cls 24 (by omega) (by decide), fb_ref hv 24 (by omega) (by decide)]
    have : (((v % 4294967296).toNat / 2 ^ 24 % 256 : Nat) : Int) = v / 2 ^ 24 % 256 := by omega
    rw [this]
    exact ⟨rfl, by omega⟩
  · rw [fb_cls 16 (by omega) (by decide), fb_ref hv 16 (by omega) (by decide)]
    have : (((v % 4294967296).toNat / 2 ^ 16 % 256 : Nat) : Int) = v / 2 ^ 16 % 256 := by omega
    rw [this]
    exact ⟨rfl, by omega⟩
  · rw [fb_cls 8 (by omega) (by decide), fb_ref hv 8 (by omega) (by decide)]
    have : (((v % 4294967296).toNat / 2 ^ 8 % 256 : Nat) : Int) = v / 2 ^ 8 % 256 := by omega
    rw [this]
    exact ⟨rfl, by omega⟩
  · rw [fb_cls 0 (by omega) (by decide), fb_ref hv 0 (by omega) (by decide)]
    have : (((v % 4294967296).toNat / 2 ^ 0 % 256 : Nat) : Int) = v / 2 ^ 0 % 256 := by omega
    rw [this]
    exact ⟨rfl, by omega⟩
theorem bt_r {z : Int} (h : 0 ≤ z ∧ z ≤ 255) : -128 ≤ bt z ∧ bt z ≤ 127 := by unfold bt; split <;> omega
def byA (v : Int) : List Int := [zand (zishr v 24) 255, zand (zishr v 16) 255, zand (zishr v 8) 255, zand (zishr v 0) 255]
/-- the buffers: how many bytes, and the bytes (the reference's, unsigned) -/
def bfC (h : Hp) (n : Int) (b : Int → Int) : Prop := h 176 1 = n ∧ ∀ i, 0 ≤ i → i < n → rd h 177 i = bt (b i)
def bup (b : Int → Int) (n z : Int) : Int → Int := fun i => if i = n then z else b i
theorem p6_append {v : Int} {h : Hp} {Q : Hp → Prop} {n : Int} {b : Int → Int} (hv : zr v) (hb : bfC h n b) (hn : 0 ≤ n ∧ n + 4 ≤ 900) (hQ : ∀ h', bfC h' (n + 4) (bup (bup (bup (bup b n (zand (zishr v 24) 255)) (n + 1) (zand (zishr v 16) 255)) (n + 2) (zand (zishr v 8) 255)) (n + 3) (zand (zishr v 0) 255)) → (∀ p, p ≠ 176 → p ≠ 177 → h' p = h p) → Q h') : mX6_append v h Q := by
  have step : ∀ (f : Nat) (s m : Int) (c : Int → Int) (g : Hp), (s = 24 ∨ s = 16 ∨ s = 8 ∨ s = 0) → bfC g m c → 0 ≤ m ∧ m < 900 → (∀ g2, bfC g2 (m + 1) (bup c m (zand (zishr v s) 255)) → (∀ p, p ≠ 176 → p ≠ 177 → g2 p = g p) → mX6_append_b3 Q f v (s + (-8)) g2) → mX6_append_b3 Q (f + 1) v s g := by
    intro f s m c g hs hg hm hk
    unfold mX6_append_b3
    obtain ⟨e1, e2⟩ := fb_eq hv hs
    have e3 := bt_r e2
    obtain ⟨g1, g2⟩ := hg
    rw [g1, e1]
    refine ⟨fun w => by omega, fun _ => ⟨fun w => by omega, fun _ => ⟨⟨by omega, by omega⟩, ⟨by omega, by omega⟩, fun a w => ?_⟩⟩⟩
    have fa : ∀ p, p ≠ 177 → a p = g p := fun p hp => by rw [w, wr_q hp]
    rw [fa 176 (by omega), g1]
    refine ⟨zri (by omega) (by omega), fun a2 w2 => ⟨zri (by omega) (by omega), hk a2 ⟨by rw [w2]; exact hu_same, fun i i0 i1 => ?_⟩ (fun p p1 p2 => by rw [w2, hu_q p1, fa p p2])⟩⟩
    rw [rd_same (show a2 177 = a 177 by rw [w2, hu_q (by omega)]), w, rw_if (by omega) i0]
    unfold bup
    by_cases q : i = m
    · rw [if_pos ⟨rfl, q⟩, if_pos q]
    · rw [if_neg (fun w => q w.2), if_neg q]; exact g2 i i0 (by omega)
  unfold mX6_append
  refine ⟨5, step 4 24 n b h (by omega) hb (by omega) fun g1 b1 f1 => ?_⟩
  refine step 3 _ (n + 1) _ g1 (by omega) b1 (by omega) fun g2 b2 f2 => ?_
  rw [show n + 1 + 1 = n + 2 by omega] at b2
  refine step 2 _ (n + 2) _ g2 (by omega) b2 (by omega) fun g3 b3 f3 => ?_
  rw [show n + 2 + 1 = n + 3 by omega] at b3
  refine step 1 _ (n + 3) _ g3 (by omega) b3 (by omega) fun g4 b4 f4 => ?_
  rw [show n + 3 + 1 = n + 4 by omega] at b4
  unfold mX6_append_b3
  exact ⟨fun _ => hQ g4 b4 (fun p p1 p2 => by rw [f4 p p1 p2, f3 p p1 p2, f2 p p1 p2, f1 p p1 p2]), fun w => absurd (by decide) w⟩
def bfv (b : Int → Int) (n v : Int) : Int → Int := bup (bup (bup (bup b n (zand (zishr v 24) 255)) (n + 1) (zand (zishr v 16) 255)) (n + 2) (zand (zishr v 8) 255)) (n + 3) (zand (zishr v 0) 255)
theorem bfv_r {b : Int → Int} {n v : Int} (hv : zr v) (hb : ∀ i, 0 ≤ i → i < n → 0 ≤ b i ∧ b i ≤ 255) : ∀ i, 0 ≤ i → i < n + 4 → 0 ≤ bfv b n v i ∧ bfv b n v i ≤ 255 := by
  intro i i0 i1
  have a1 := (fb_eq hv (s := 24) (by omega)).2
  have a2 := (fb_eq hv (s := 16) (by omega)).2
  have a3 := (fb_eq hv (s := 8) (by omega)).2
  have a4 := (fb_eq hv (s := 0) (by omega)).2
  unfold bfv bup
  by_cases c3 : i = n + 3
  · rw [if_pos c3]; exact a4
  · rw [if_neg c3]
    by_cases c2 : i = n + 2
    · rw [if_pos c2]; exact a3
    · rw [if_neg c2]
      by_cases c1 : i = n + 1
      · rw [if_pos c1]; exact a2
      · rw [if_neg c1]
        by_cases c0 : i = n
        · rw [if_pos c0]; exact a1
        · rw [if_neg c0]; exact hb i i0 (by omega)
