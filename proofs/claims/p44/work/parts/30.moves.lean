/-! the reference's next wave and way back; both say the same -/
theorem fs_snoc {p : Int → Bool} {i : Int} (hi : 0 ≤ i) : fs p 0 (i + 1) = if fs p 0 i = -1 then (if p i = true then i else -1) else fs p 0 i := by
  rcases fs_spec p 0 i with ⟨e, hh⟩ | ⟨e1, e2, e3, e4⟩
  · rw [if_pos e]
    by_cases c : p i = true
    · rw [if_pos c]
      exact fs_is hi (by omega) c (fun x x1 x2 => hh x x1 x2)
    · rw [if_neg c]
      rw [fs_none (by omega)]
      intro x x1 x2
      by_cases d : x = i
      · rw [d]; simpa using c
      · exact hh x x1 (by omega)
  · rw [if_neg (by omega)]
    exact fs_is e1 (by omega) e3 e4
/-- two hosts of an office's net don't have one number -/
theorem uniq {r : Rw} (ho : okS r) {i j o : Int} (hi : 0 ≤ i ∧ i < r 0) (hj : 0 ≤ j ∧ j < r 0) (h1 : onet r i o = true) (h2 : onet r j o = true) (he : fl r i 1 = fl r j 1) : i = j := by
  have key : ∀ i j, 0 ≤ j → j < i → i < r 0 → onet r i o = true → onet r j o = true → fl r i 1 = fl r j 1 → False := by
    intro i j h1 h2 h3 h4 h5 h6
    have hO := ho.1.2.2.2.2.1 i (by omega) h3
    refine twice_no ho.2.1 (v := fl r i 1) hO.2.1 h1 h2 h3 ?_ ?_ ?_
    · unfold net onet at *
      simp only [Bool.or_eq_true, decide_eq_true_eq] at *
      omega
    · unfold hds; simp
    · unfold hds; simp [h6]
  rcases Int.lt_trichotomy i j with c | c | c
  · exact (key j i hi.1 c hj.2 h2 h1 he.symm).elim
  · exact c
  · exact (key i j hj.1 c hi.2 h1 h2 he).elim
