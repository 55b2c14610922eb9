/-! pins, the bridge, KEEP, waves and ways back -/
theorem nets_u3 {h : Hp} {o : Nat} {r : Rw} {z : Int} (hn : nets h o r) (ho : okR r) : nets (hu h o 3 z) o (up r 3 z) := by
  unfold okR at ho
  have f : ∀ p, p ≠ o → (hu h o 3 z) p = h p := fun p hp => hu_q hp
  obtain ⟨g0, g1, g2, g3, g4, g5, g6, g7⟩ := hn.1
  have u : ∀ j, 0 ≤ j → j ≠ 3 → up r 3 z j = r j := fun j j1 j2 => up_ne (by omega) j1 j2
  refine ⟨⟨by rw [hu_ne (by omega), u 0 (by omega) (by omega)]; exact g0, by rw [hu_ne (by omega), u 1 (by omega) (by omega)]; exact g1, by rw [hu_ne (by omega), u 2 (by omega) (by omega)]; exact g2, by rw [hu_same, up_same], by rw [hu_ne (by omega), u 4 (by omega) (by omega)]; exact g4, by rw [hu_ne (by omega), u 5 (by omega) (by omega)]; exact g5, by rw [hu_ne (by omega), u 6 (by omega) (by omega)]; exact g6, by rw [hu_ne (by omega), u 7 (by omega) (by omega)]; exact g7⟩, fun i i1 i2 => ?_, fun q q1 q2 => ?_⟩
  · rw [u 0 (by omega) (by omega)] at i2
    exact netH_ext (hn.2.1 i i1 i2) (fun j j1 j2 => fl_up (by omega) i1 j1 (by omega) (by omega) j2) (rd_same (f _ (by omega))) (rd_same (f _ (by omega))) (rd_same (f _ (by omega))) (rd_same (f _ (by omega))) (rd_same (f _ (by omega))) (rd_same (f _ (by omega))) (rd_same (f _ (by omega))) (fun w w1 w2 => rd_same (f _ (by omega)))
  · rw [u 1 (by omega) (by omega)] at q2
    exact netR_ext (hn.2.2 q q1 q2) (fun j j1 j2 => rl_up (by omega) q1 j1 (by omega)) (rd_same (f _ (by omega))) (rd_same (f _ (by omega))) (rd_same (f _ (by omega))) (rd_same (f _ (by omega)))
theorem nets_u7 {h : Hp} {o : Nat} {r : Rw} {z : Int} (hn : nets h o r) (ho : okR r) : nets (hu h o 7 z) o (up r 7 z) := by
  unfold okR at ho
  have f : ∀ p, p ≠ o → (hu h o 7 z) p = h p := fun p hp => hu_q hp
  obtain ⟨g0, g1, g2, g3, g4, g5, g6, g7⟩ := hn.1
  have u : ∀ j, 0 ≤ j → j ≠ 7 → up r 7 z j = r j := fun j j1 j2 => up_ne (by omega) j1 j2
  refine ⟨⟨by rw [hu_ne (by omega), u 0 (by omega) (by omega)]; exact g0, by rw [hu_ne (by omega), u 1 (by omega) (by omega)]; exact g1, by rw [hu_ne (by omega), u 2 (by omega) (by omega)]; exact g2, by rw [hu_ne (by omega), u 3 (by omega) (by omega)]; exact g3, by rw [hu_ne (by omega), u 4 (by omega) (by omega)]; exact g4, by rw [hu_ne (by omega), u 5 (by omega) (by omega)]; exact g5, by rw [hu_ne (by omega), u 6 (by omega) (by omega)]; exact g6, by rw [hu_same, up_same]⟩, fun i i1 i2 => ?_, fun q q1 q2 => ?_⟩
  · rw [u 0 (by omega) (by omega)] at i2
    exact netH_ext (hn.2.1 i i1 i2) (fun j j1 j2 => fl_up (by omega) i1 j1 (by omega) (by omega) j2) (rd_same (f _ (by omega))) (rd_same (f _ (by omega))) (rd_same (f _ (by omega))) (rd_same (f _ (by omega))) (rd_same (f _ (by omega))) (rd_same (f _ (by omega))) (rd_same (f _ (by omega))) (fun w w1 w2 => rd_same (f _ (by omega)))
  · rw [u 1 (by omega) (by omega)] at q2
    exact netR_ext (hn.2.2 q q1 q2) (fun j j1 j2 => rl_up (by omega) q1 j1 (by omega)) (rd_same (f _ (by omega))) (rd_same (f _ (by omega))) (rd_same (f _ (by omega))) (rd_same (f _ (by omega)))
theorem okW_u3 {r : Rw} {z : Int} (ho : okW r) (hz : 0 ≤ z ∧ z ≤ 3) : okW (up r 3 z) := by
  obtain ⟨a1, a2, a3, a4, a5, a6⟩ := ho
  have u : ∀ j, 0 ≤ j → j ≠ 3 → up r 3 z j = r j := fun j j1 j2 => up_ne (by omega) j1 j2
  unfold okR at a1
  refine ⟨by unfold okR; rw [u 0 (by omega) (by omega), u 1 (by omega) (by omega), u 2 (by omega) (by omega), up_same]; omega, by rw [u 4 (by omega) (by omega)]; exact a2, by rw [u 5 (by omega) (by omega), u 6 (by omega) (by omega)]; exact a3, by rw [u 7 (by omega) (by omega)]; exact a4, fun i i1 i2 => ?_, fun k k1 k2 => ?_⟩
  · rw [u 0 (by omega) (by omega)] at i2
    exact okH_ext (a5 i i1 i2) (u 2 (by omega) (by omega)) (fun j j1 j2 => fl_up (by omega) i1 j1 (by omega) (by omega) j2)
  · rw [u 1 (by omega) (by omega)] at k2
    exact okU_ext (a6 k k1 k2) (fun j j1 j2 => rl_up (by omega) k1 j1 (by omega))
theorem okW_u7 {r : Rw} {z : Int} (ho : okW r) (hz : z = 0 ∨ z = 1) : okW (up r 7 z) := by
  obtain ⟨a1, a2, a3, a4, a5, a6⟩ := ho
  have u : ∀ j, 0 ≤ j → j ≠ 7 → up r 7 z j = r j := fun j j1 j2 => up_ne (by omega) j1 j2
  unfold okR at a1
  refine ⟨by unfold okR; rw [u 0 (by omega) (by omega), u 1 (by omega) (by omega), u 2 (by omega) (by omega), u 3 (by omega) (by omega)]; exact a1, by rw [u 4 (by omega) (by omega)]; exact a2, by rw [u 5 (by omega) (by omega), u 6 (by omega) (by omega)]; exact a3, by rw [up_same]; exact hz, fun i i1 i2 => ?_, fun k k1 k2 => ?_⟩
  · rw [u 0 (by omega) (by omega)] at i2
    exact okH_ext (a5 i i1 i2) (u 2 (by omega) (by omega)) (fun j j1 j2 => fl_up (by omega) i1 j1 (by omega) (by omega) j2)
  · rw [u 1 (by omega) (by omega)] at k2
    exact okU_ext (a6 k k1 k2) (fun j j1 j2 => rl_up (by omega) k1 j1 (by omega))
theorem okP_up {r : Rw} {k z : Int} (ho : okP r) (h0 : r 0 ≤ 40) (hk : 1 ≤ k ∧ k < 16) : okP (up r k z) := by
  intro i i1 i2 h4
  rw [up_ne (by omega) (by omega) (by omega)] at i2
  rw [fl_up (by omega) i1 (by omega) (by omega) (by omega) (by omega)] at h4 ⊢
  exact ho i i1 i2 h4
theorem hds_u7 {r : Rw} {z i v : Int} (hi : 0 ≤ i ∧ i < 40) : hds (up r 7 z) i v = hds r i v :=
  hds_ext2 (up_ne (by omega) (by omega) (by omega)) (up_ne (by omega) (by omega) (by omega)) (fl_up (by omega) hi.1 (by omega) (by omega) hi.2 (by omega)) (fun w w1 w2 => fl_up (by omega) hi.1 (by omega) (by omega) hi.2 (by omega))
theorem okS_close {r : Rw} (ho : okS r) : okS (up r 7 0) := by
  have o1 := ho.1.1
  unfold okR at o1
  refine ⟨okW_u7 ho.1 (Or.inl rfl), twice_map (fun i => i) (fun i i1 i2 => ⟨i1, by rw [up_ne (by omega) (by omega) (by omega)] at i2; exact i2⟩) (fun i j _ q _ => q) (fun i v i1 i2 q => ?_) (fun i j i1 i2 j1 j2 q => ?_) ho.2.1, okP_up ho.2.2 (by omega) (by omega)⟩
  · rw [up_ne (by omega) (by omega) (by omega)] at i2
    rw [hds_u7 ⟨i1, by omega⟩] at q
    exact q
  · rw [up_ne (by omega) (by omega) (by omega)] at i2 j2
    unfold net at q ⊢
    rw [up_same, fl_up (by omega) i1 (by omega) (by omega) (by omega) (by omega), fl_up (by omega) j1 (by omega) (by omega) (by omega) (by omega)] at q
    simp only [Bool.or_eq_true, decide_eq_true_eq] at q ⊢
    omega
theorem okS_open {r : Rw} (ho : okS r) (hcl : clashes r ≤ 0) : okS (up r 7 1) := by
  have o1 := ho.1.1
  unfold okR at o1
  refine ⟨okW_u7 ho.1 (Or.inr rfl), twice_mk fun v j i v1 v2 j1 j2 i2 _ h5 h6 => ?_, okP_up ho.2.2 (by omega) (by omega)⟩
  rw [up_ne (by omega) (by omega) (by omega)] at i2
  rw [hds_u7 ⟨by omega, by omega⟩] at h5 h6
  by_cases e : fl r i 0 = fl r j 0
  · exact twice_no ho.2.1 ⟨v1, v2⟩ j1 j2 i2 (by unfold net; simp [e]) h5 h6
  · have hp : clash r v = true := by
      rw [clash_hc, Bool.and_eq_true, decide_eq_true_eq, decide_eq_true_eq]
      unfold hc
      rw [cn_pos, cn_pos]
      have oi := (ho.1.2.2.2.2.1 i (by omega) i2).1
      have oj := (ho.1.2.2.2.2.1 j j1 (by omega)).1
      rcases oi with c | c
      · exact ⟨⟨i, by omega, i2, by simp [c, h5]⟩, ⟨j, j1, by omega, by simp [show fl r j 0 = 1 by omega, h6]⟩⟩
      · exact ⟨⟨j, j1, by omega, by simp [show fl r j 0 = 0 by omega, h6]⟩, ⟨i, by omega, i2, by simp [c, h5]⟩⟩
    have := (cn_pos (p := clash r) (b := 251) 1).mpr ⟨v, v1, by omega, hp⟩
    unfold clashes at hcl
    omega
theorem nets_pin {h : Hp} {o : Nat} {r : Rw} {x z : Int} (hn : nets h o r) (ho : okR r) (hx : 0 ≤ x ∧ x < r 0) : nets (wr h (o + 4) x z) o (sf r x 2 z) := by
  unfold okR at ho
  have f : ∀ p, p ≠ o + 4 → (wr h (o + 4) x z) p = h p := fun p hp => wr_q hp
  have hhd : ∀ k, 0 ≤ k → k < 16 → sf r x 2 z k = r k := fun k h1 h2 => hd_sf hx.1 (by omega) ⟨h1, h2⟩
  have hfl : ∀ i j, 0 ≤ i → 0 ≤ j → j < 24 → fl (sf r x 2 z) i j = if i = x ∧ j = 2 then z else fl r i j := fun i j h1 h2 h3 => fl_sf hx.1 (by omega) h1 ⟨h2, h3⟩
  have hrl : ∀ i j, 0 ≤ i → 0 ≤ j → j < 4 → rl (sf r x 2 z) i j = rl r i j := fun i j h1 h2 h3 => rl_sf ⟨hx.1, by omega⟩ (by omega) h1 h2
  have e0 := hhd 0 (by omega) (by omega)
  have e1 := hhd 1 (by omega) (by omega)
  refine ⟨?_, fun i i1 i2 => ?_, fun q q1 q2 => ?_⟩
  · rw [f o (by omega), e0, e1, hhd 2 (by omega) (by omega), hhd 3 (by omega) (by omega), hhd 4 (by omega) (by omega), hhd 5 (by omega) (by omega), hhd 6 (by omega) (by omega), hhd 7 (by omega) (by omega)]
    exact hn.1
  · obtain ⟨c1, c2, c3, c4, c5, c6, c7, c8⟩ := hn.2.1 i i1 (by omega)
    refine ⟨?_, ?_, ?_, ?_, ?_, ?_, ?_, fun w w1 w2 => ?_⟩
    · rw [rd_same (f (o + 1) (by omega)), c1]
      exact (nm_ext (fun j j1 j2 => by rw [hfl i j i1 (by omega) (by omega), if_neg (by omega)])).symm
    · rw [rd_same (f (o + 2) (by omega)), c2, hfl i 0 i1 (by omega) (by omega), if_neg (by omega)]
    · rw [rd_same (f (o + 3) (by omega)), c3, hfl i 1 i1 (by omega) (by omega), if_neg (by omega)]
    · rw [rw_if hx.1 i1, hfl i 2 i1 (by omega) (by omega)]
      by_cases c : i = x
      · rw [if_pos ⟨rfl, c⟩, if_pos ⟨c, rfl⟩]
      · rw [if_neg (fun w => c w.2), if_neg (fun w => c w.1)]; exact c4
    · rw [rd_same (f (o + 5) (by omega)), c5, hfl i 3 i1 (by omega) (by omega), if_neg (by omega)]
    · rw [rd_same (f (o + 6) (by omega)), c6, hfl i 4 i1 (by omega) (by omega), if_neg (by omega)]
    · rw [rd_same (f (o + 7) (by omega)), c7]
      exact (lat_ext (fun j j1 j2 => by rw [hfl i _ i1 (by omega) (by omega), if_neg (by omega)])).symm
    · rw [rd_same (f (o + 8) (by omega)), c8 w w1 w2]
      exact (mv_ext ⟨w1, w2⟩ (fun j j1 j2 => by rw [hfl i _ i1 (by omega) (by omega), if_neg (by omega)])).symm
  · exact netR_ext (hn.2.2 q q1 (by omega)) (fun j j1 j2 => hrl q j q1 j1 j2) (rd_same (f _ (by omega))) (rd_same (f _ (by omega))) (rd_same (f _ (by omega))) (rd_same (f _ (by omega)))
theorem pin_okS {r : Rw} {x b : Int} (ho : okS r) (hx : 0 ≤ x ∧ x < r 0) (hb : b = 0 ∨ b = 1) : okS (sf r x 2 b) := by
  have o1 := ho.1.1
  unfold okR at o1
  have hh : ∀ k, 0 ≤ k → k < 16 → sf r x 2 b k = r k := fun k k1 k2 => hd_sf hx.1 (by omega) ⟨k1, k2⟩
  have e0 := hh 0 (by omega) (by omega)
  have e1 := hh 1 (by omega) (by omega)
  have e2 := hh 2 (by omega) (by omega)
  have e3 := hh 3 (by omega) (by omega)
  have e4 := hh 4 (by omega) (by omega)
  have e5 := hh 5 (by omega) (by omega)
  have e6 := hh 6 (by omega) (by omega)
  have e7 := hh 7 (by omega) (by omega)
  obtain ⟨⟨a1, a2, a3, a4, a5, a6⟩, ht, hP⟩ := ho
  have fn : ∀ i j, 0 ≤ i → 0 ≤ j → j < 24 → j ≠ 2 → fl (sf r x 2 b) i j = fl r i j := fun i j i1 j1 j2 j3 => by rw [fl_sf hx.1 (by omega) i1 ⟨j1, j2⟩, if_neg (by omega)]
  have f2 : ∀ i, 0 ≤ i → fl (sf r x 2 b) i 2 = if i = x then b else fl r i 2 := fun i i1 => by
    rw [fl_sf hx.1 (by omega) i1 (by omega)]
    by_cases c : i = x
    · rw [if_pos ⟨c, rfl⟩, if_pos c]
    · rw [if_neg (fun w => c w.1), if_neg c]
  refine ⟨⟨by unfold okR; omega, by omega, by omega, by omega, fun i i1 i2 => ?_, fun k k1 k2 => ?_⟩, ?_, fun i i1 i2 h4 => ?_⟩
  · rw [e0] at i2
    obtain ⟨c1, c2, c3, c4, c5, c6, c7, c8, c9⟩ := a5 i i1 i2
    unfold okH
    rw [f2 i i1, fn i 0 i1 (by omega) (by omega) (by omega), fn i 1 i1 (by omega) (by omega) (by omega), fn i 3 i1 (by omega) (by omega) (by omega), fn i 4 i1 (by omega) (by omega) (by omega), fn i 5 i1 (by omega) (by omega) (by omega), e2]
    refine ⟨c1, c2, ?_, c4, c5, c6, c7, fun k k1 k2 => ?_, fun w w1 w2 => ?_⟩
    · split <;> omega
    · rw [fn i _ i1 (by omega) (by omega) (by omega)]; exact c8 k k1 k2
    · rw [fn i _ i1 (by omega) (by omega) (by omega)]; exact c9 w w1 w2
  · rw [e1] at k2
    exact okU_ext (a6 k k1 k2) (fun j j1 j2 => rl_sf ⟨hx.1, by omega⟩ (by omega) k1 j1)
  · refine twice_map (fun i => i) (fun i i1 i2 => ⟨i1, by omega⟩) (fun i j _ q _ => q) (fun i v i1 i2 q => ?_) (fun i j i1 i2 j1 j2 q => ?_) ht
    · rw [hds_ext2 (r := r) (i := i) e3 e2 (fn i 1 i1 (by omega) (by omega) (by omega)) (fun v v1 v2 => fn i _ i1 (by omega) (by omega) (by omega))] at q
      exact q
    · unfold net at q ⊢
      rw [e7, fn i 0 i1 (by omega) (by omega) (by omega), fn j 0 j1 (by omega) (by omega) (by omega)] at q
      exact q
  · rw [e0] at i2
    rw [fn i 4 i1 (by omega) (by omega) (by omega)] at h4
    rw [fn i 3 i1 (by omega) (by omega) (by omega)]
    exact hP i i1 i2 h4
theorem drop_okS {r : Rw} {x : Int} (ho : okS r) (hx : 0 ≤ x ∧ x < r 0) : okS (plR r x 0 0) := by
  rcases plR_okS (a := 0) (b := 0) ho hx (by omega) (by omega) with q | q
  · exact q
  · omega
