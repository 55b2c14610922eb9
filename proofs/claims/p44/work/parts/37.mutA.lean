/-! calls that change the row: what both sides owe -/
theorem kp_ext2 {r s : Rw} {i i2 c : Int} (h3 : s 3 = r 3) (hv : ∀ v, 1 ≤ v → v ≤ 9 → fl s i2 ((14 + v) - 1) = fl r i ((14 + v) - 1)) : kp s i2 c = kp r i c := by
  have e := lat_ext (r := r) (s := s) (i := i) (i2 := i2) hv
  have hl := lat_r (r := r) (i := i)
  unfold kp
  rw [e, h3]
  by_cases c1 : lat r i ≤ 0
  · rw [if_pos c1, if_pos c1]
  · rw [hv _ (by omega) (by omega)]
theorem hds_ext2 {r s : Rw} {i i2 v : Int} (h3 : s 3 = r 3) (h2 : s 2 = r 2) (h1 : fl s i2 1 = fl r i 1) (hv : ∀ v, 1 ≤ v → v ≤ 9 → fl s i2 ((14 + v) - 1) = fl r i ((14 + v) - 1)) : hds s i2 v = hds r i v := by
  unfold hds kept
  rw [h1, h2, kp_ext2 h3 hv]
theorem twice_map {r s : Rw} (f : Int → Int) (hr : ∀ i, 0 ≤ i → i < s 0 → 0 ≤ f i ∧ f i < r 0) (hm : ∀ i j, 0 ≤ j → j < i → i < s 0 → f j < f i) (hh : ∀ i v, 0 ≤ i → i < s 0 → hds s i v = true → hds r (f i) v = true) (hn : ∀ i j, 0 ≤ i → i < s 0 → 0 ≤ j → j < s 0 → net s i j = true → net r (f i) (f j) = true) (ht : twice r = -1) : twice s = -1 :=
  twice_mk fun v j i v1 v2 j1 j2 i2 h4 h5 h6 => twice_no ht ⟨v1, v2⟩ (hr j j1 (by omega)).1 (hm i j j1 j2 i2) (hr i (by omega) i2).2 (hn i j (by omega) i2 j1 (by omega) h4) (hh i v (by omega) i2 h5) (hh j v j1 (by omega) h6)
/-- a plan set or dropped -/
def plR (r : Rw) (x a b : Int) : Rw := sf (sf r x 3 a) x 4 b
theorem plR_h {r : Rw} {x a b k : Int} (hx : 0 ≤ x) (hk : 0 ≤ k ∧ k < 16) : plR r x a b k = r k := by unfold plR; rw [hd_sf hx (by omega) hk, hd_sf hx (by omega) hk]
theorem plR_f {r : Rw} {x a b i j : Int} (hx : 0 ≤ x) (hi : 0 ≤ i) (hj : 0 ≤ j ∧ j < 24) : fl (plR r x a b) i j = if i = x ∧ j = 4 then b else if i = x ∧ j = 3 then a else fl r i j := by unfold plR; rw [fl_sf hx (by omega) hi hj, fl_sf hx (by omega) hi hj]
theorem plR_r {r : Rw} {x a b i j : Int} (hx : 0 ≤ x ∧ x < 40) (hi : 0 ≤ i) (hj : 0 ≤ j) : rl (plR r x a b) i j = rl r i j := by unfold plR; rw [rl_sf hx (by omega) hi hj, rl_sf hx (by omega) hi hj]
theorem plR_n {r : Rw} {x a b i j : Int} (hx : 0 ≤ x) (hi : 0 ≤ i) (hj : 0 ≤ j ∧ j < 24) (hn : j ≠ 3 ∧ j ≠ 4) : fl (plR r x a b) i j = fl r i j := by rw [plR_f hx hi hj, if_neg (by omega), if_neg (by omega)]
theorem plR_okS {r : Rw} {x a b : Int} (ho : okS r) (hx : 0 ≤ x ∧ x < r 0) (hb : 0 ≤ b ∧ b ≤ 9) (ha : (b = 0 ∧ a = 0) ∨ (1 ≤ a ∧ a ≤ 250)) : okS (plR r x a b) ∨ (b = 0 ∧ ¬ a = 0) := by
  by_cases hab : b = 0 ∧ ¬ a = 0
  · exact Or.inr hab
  refine Or.inl ?_
  have o1 := ho.1.1
  unfold okR at o1
  have hh : ∀ k, 0 ≤ k → k < 16 → plR r x a b k = r k := fun k k1 k2 => plR_h hx.1 ⟨k1, k2⟩
  have e0 := hh 0 (by omega) (by omega)
  have e1 := hh 1 (by omega) (by omega)
  have e2 := hh 2 (by omega) (by omega)
  have e3 := hh 3 (by omega) (by omega)
  have e4 := hh 4 (by omega) (by omega)
  have e5 := hh 5 (by omega) (by omega)
  have e6 := hh 6 (by omega) (by omega)
  have e7 := hh 7 (by omega) (by omega)
  obtain ⟨⟨a1, a2, a3, a4, a5, a6⟩, ht, hP⟩ := ho
  have f3 : ∀ i, 0 ≤ i → fl (plR r x a b) i 3 = if i = x then a else fl r i 3 := fun i i1 => by
    rw [plR_f hx.1 i1 (by omega), if_neg (by omega)]
    by_cases c : i = x
    · rw [if_pos ⟨c, rfl⟩, if_pos c]
    · rw [if_neg (fun w => c w.1), if_neg c]
  have f4 : ∀ i, 0 ≤ i → fl (plR r x a b) i 4 = if i = x then b else fl r i 4 := fun i i1 => by
    rw [plR_f hx.1 i1 (by omega)]
    by_cases c : i = x
    · rw [if_pos ⟨c, rfl⟩, if_pos c]
    · rw [if_neg (fun w => c w.1), if_neg (by omega), if_neg c]
  refine ⟨⟨by unfold okR; omega, by omega, by omega, by omega, fun i i1 i2 => ?_, fun k k1 k2 => ?_⟩, ?_, fun i i1 i2 h4 => ?_⟩
  · rw [e0] at i2
    obtain ⟨c1, c2, c3, c4, c5, c6, c7, c8, c9⟩ := a5 i i1 i2
    unfold okH
    rw [f3 i i1, f4 i i1, plR_n hx.1 i1 (by omega) (by omega), plR_n hx.1 i1 (by omega) (by omega), plR_n hx.1 i1 (by omega) (by omega), plR_n hx.1 i1 (by omega) (by omega), e2]
    refine ⟨c1, c2, c3, ?_, ?_, ?_, c7, fun k k1 k2 => ?_, fun w w1 w2 => ?_⟩
    · split <;> omega
    · split <;> omega
    · split <;> omega
    · rw [plR_n hx.1 i1 (by omega) (by omega)]; exact c8 k k1 k2
    · rw [plR_n hx.1 i1 (by omega) (by omega)]; exact c9 w w1 w2
  · rw [e1] at k2
    exact okU_ext (a6 k k1 k2) (fun j j1 j2 => plR_r ⟨hx.1, by omega⟩ k1 j1)
  · refine twice_map (fun i => i) (fun i i1 i2 => ⟨i1, by omega⟩) (fun i j _ q _ => q) (fun i v i1 i2 q => ?_) (fun i j i1 i2 j1 j2 q => ?_) ht
    · rw [hds_ext2 (r := r) (i := i) e3 e2 (plR_n hx.1 i1 (by omega) (by omega)) (fun v v1 v2 => plR_n hx.1 i1 (by omega) (by omega))] at q
      exact q
    · unfold net at q ⊢
      rw [e7, plR_n hx.1 i1 (by omega) (by omega), plR_n hx.1 j1 (by omega) (by omega)] at q
      exact q
  · rw [f4 i i1] at h4
    rw [f3 i i1]
    by_cases c : i = x
    · rw [if_pos c] at h4 ⊢; omega
    · rw [if_neg c] at h4 ⊢; exact hP i i1 (by omega) h4
theorem cn_upd {p q : Int → Bool} {x b : Int} : ∀ a, a ≤ x → x < b → (∀ i, a ≤ i → i < b → i ≠ x → p i = q i) → cn q a b = cn p a b - b2i (p x) + b2i (q x) := by
  refine upI (b := b) (fun a h h1 h2 => by omega) (fun a h ih h1 h2 hc => ?_)
  rw [cn_step h, cn_step h]
  have b1 : ∀ c : Bool, (if c = true then (1 : Int) else 0) = b2i c := fun c => by cases c <;> rfl
  rw [b1, b1]
  by_cases e : a = x
  · subst e
    rw [cn_congr (p := q) (q := p) (a + 1) (fun i i1 i2 => (hc i (by omega) i2 (by omega)).symm)]
    omega
  · rw [ih (by omega) h2 (fun i i1 i2 => hc i (by omega) i2), hc a (Int.le_refl a) h e]
    omega
