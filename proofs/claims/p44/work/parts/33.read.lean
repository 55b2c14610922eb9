/-! class and reference say the same: rules, what reaches what, free numbers, clashes by their place -/
theorem uniq2 {r : Rw} (ho : okS r) {i j o v : Int} (hv : 1 ≤ v ∧ v ≤ 250) (hi : 0 ≤ i ∧ i < r 0) (hj : 0 ≤ j ∧ j < r 0) (h1 : onet r i o = true) (h2 : onet r j o = true) (a : hds r i v = true) (b : hds r j v = true) : i = j := by
  have key : ∀ i j, 0 ≤ j → j < i → i < r 0 → onet r i o = true → onet r j o = true → hds r i v = true → hds r j v = true → False := by
    intro i j h1 h2 h3 h4 h5 h6 h7
    refine twice_no ho.2.1 hv h1 h2 h3 ?_ h6 h7
    unfold net onet at *
    simp only [Bool.or_eq_true, decide_eq_true_eq] at *
    omega
  rcases Int.lt_trichotomy i j with c | c | c
  · exact (key j i hi.1 c hj.2 h2 h1 b a).elim
  · exact c
  · exact (key i j hj.1 c hi.2 h1 h2 a b).elim
theorem hds_own {r : Rw} {i : Int} : hds r i (fl r i 1) = true := by unfold hds; simp
theorem fre_5 {r : Rw} (ho : okW r) {v : Int} : fre5 r v = fre r v := by
  unfold fre5 fre hc pcn
  rw [Bool.eq_iff_iff]
  simp only [Bool.and_eq_true, decide_eq_true_eq]
  rw [fs_none (Int.le_refl 0)]
  have z : ∀ p : Int → Bool, cn p 0 (r 0) = 0 ↔ ∀ i, 0 ≤ i → i < r 0 → p i = false := fun p => by
    have h0 := (cn_r p (b := r 0) 0 ho.1.1.1).1
    have hp := cn_pos (p := p) (b := r 0) 0
    constructor
    · intro h i i1 i2
      cases e : p i with
      | false => rfl
      | true => have := hp.mpr ⟨i, i1, i2, e⟩; omega
    · intro h
      rcases Int.lt_or_eq_of_le h0 with c | c
      · obtain ⟨i, i1, i2, i3⟩ := hp.mp c
        rw [h i i1 i2] at i3; cases i3
      · exact c.symm
  rw [z, z, z]
  constructor
  · rintro ⟨h0, h1, h2⟩ i i1 i2
    have a0 := h0 i i1 i2
    have a1 := h1 i i1 i2
    have a2 := h2 i i1 i2
    rcases (ho.2.2.2.2.1 i i1 i2).1 with c | c
    · rw [decide_eq_true c, Bool.true_and] at a0
      rw [a0, a2]; rfl
    · rw [decide_eq_true c, Bool.true_and] at a1
      rw [a1, a2]; rfl
  · intro h
    refine ⟨fun i i1 i2 => ?_, fun i i1 i2 => ?_, fun i i1 i2 => ?_⟩
    · have := h i i1 i2
      rw [Bool.or_eq_false_iff] at this
      rw [this.1, Bool.and_false]
    · have := h i i1 i2
      rw [Bool.or_eq_false_iff] at this
      rw [this.1, Bool.and_false]
    · have := h i i1 i2
      rw [Bool.or_eq_false_iff] at this
      exact this.2
theorem ffr_5 {r : Rw} (ho : okW r) : fs (fre5 r) (r 5) (r 6 + 1) = ffr r := fs_congr fun v _ _ => fre_5 ho
theorem ffr_r {r : Rw} (ho : okW r) : ffr r = -1 ∨ (1 ≤ ffr r ∧ ffr r ≤ 250) := by
  have h := fs_r (p := fre r) (a := r 5) (b := r 6 + 1) (by have := ho.2.2.1; omega)
  have := ho.2.2.1
  unfold ffr
  omega
