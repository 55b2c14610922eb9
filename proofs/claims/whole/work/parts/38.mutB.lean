/-! pins, the bridge, KEEP, waves and ways back -/
theorem nets_u3 {h : Hp} {o : Nat} {r : Rw} {z : Int} (hn : nets h o r) (ho : okR r) : nets (hu h o 3 z) o (up r 3 z) := by
  unfold okR at ho
  have f : ∀ p, p ≠ o → (hu h o 3 z) p = h p := fun p hp => hu_q hp
  obtain ⟨g0, g1, g2, g3, g4, g5, g6, g7⟩ := hn.1
  have u : ∀ j, 0 ≤ j → j ≠ 3 → up r 3 z j = r j := fun j j1 j2 => up_ne (by omega) j1 j2
  refine ⟨⟨by rw [hu_ne (by omega), u 0 (by omega) (by omega)]; exact g0, by rw [hu_ne (by omega), u 1 (by omega) (by omega)]; exact g1, by rw [hu_ne (by omega), u 2 (by omega) (by omega)]; exact g2, by rw [hu_same, up_same], by rw [hu_ne (by omega), u 4 (by omega) (by omega)]; exact g4, by rw [hu_ne (by omega), u 5 (by omega) (by omega)]; exact g5, by rw [hu_ne (by omega), u 6 (by omega) (by omega)]; exact g6, by rw [hu_ne (by omega), u 7 (by omega) (by omega)]; exact g7⟩, fun i i1 i2 => ?_, fun q q1 q2 => ?_⟩
  · rw [u 0 (by omega) (by omega)] at i2
    exact netH_ext (hn.2.1 i i1 i2) (fun j j1 j2 => fl_up (by omega) i1 j1 (by omega) (by omega) j2) (rd_same (f _ (by omega))) (rd_same (f _ (by omega))) (rd_same (f _ (by omega))) (rd_same (f _ (by omega))) (rd_same (f _ (by omega))) (rd_same (f _ (by omega))) (rd_same (f _ (by omega))) (fun w w1 w2 => rd_same (f _ (by omega)))
  · rw [u 1 (by omega) (by omega)] at q2
    exact netR_ext (hn.2.2 q q1 q2) (fun j j1 j2 => rl_up (by omega) q1 j1 (by omega)) (rd_same (f _ (by omega))) (rd_same (f _ (by omega))) (rd_same (f _ (by omega))) (rd_same (f _ (by omega)))
theorem nets_u7 {h : Hp} {o : Nat} {r : Rw} {z : Int} (hn : nets h o r) (ho : okR r) : nets (hu h o 7 z) o (up r 7 z) := by
  unfold okR at ho
  have f : ∀ p, p ≠ o → (hu h o 7 z) p = h p := fun p hp => hu_q hp
  obtain ⟨g0, g1, g2, g3, g4, g5, g6, g7⟩ := hn.1
  have u : ∀ j, 0 ≤ j → j ≠ 7 → up r 7 z j = r j := fun j j1 j2 => up_ne (by omega) j1 j2
  refine ⟨⟨by rw [hu_ne (by omega), u 0 (by omega) (by omega)]; exact g0, by rw [hu_ne (by omega), u 1 (by omega) (by omega)]; exact g1, by rw [hu_ne (by omega), u 2 (by omega) (by omega)]; exact g2, by rw [hu_ne (by omega), u 3 (by omega) (by omega)]; exact g3, by rw [hu_ne (by omega), u 4 (by omega) (by omega)]; exact g4, by rw [hu_ne (by omega), u 5 (by omega) (by omega)]; exact g5, by rw [hu_ne (by omega), u 6 (by omega) (by omega)]; exact g6, by rw [hu_same, up_same]⟩, fun i i1 i2 => ?_, fun q q1 q2 => ?_⟩
  · rw [u 0 (by omega) (by omega)] at i2
    exact netH_ext (hn.2.1 i i1 i2) (fun j j1 j2 => fl_up (by omega) i1 j1 (by omega) (by omega) j2) (rd_same (f _ (by omega))) (rd_same (f _ (by omega))) (rd_same (f _ (by omega))) (rd_same (f _ (by omega))) (rd_same (f _ (by omega))) (rd_same (f _ (by omega))) (rd_same (f _ (by omega))) (fun w w1 w2 => rd_same (f _ (by omega)))
  · rw [u 1 (by omega) (by omega)] at q2
    exact netR_ext (hn.2.2 q q1 q2) (fun j j1 j2 => rl_up (by omega) q1 j1 (by omega)) (rd_same (f _ (by omega))) (rd_same (f _ (by omega))) (rd_same (f _ (by omega))) (rd_same (f _ (by omega)))
theorem okW_u3 {r : Rw} {z : Int} (ho : okW r) (hz : 0 ≤ z ∧ z ≤ 3) : okW (up r 3 z) := by
  obtain ⟨a1, a2, a3, a4, a5, a6⟩ := ho
  have u : ∀ j, 0 ≤ j → j ≠ 3 → up r 3 z j = r j := fun j j1 j2 => up_ne (by omega) j1 j2
  unfold okR at a1
  refine ⟨by unfold okR; rw [u 0 (by omega) (by omega), u 1 (by omega) (by omega), u 2 (by omega) (by omega), up_same]; omega, by rw [u 4 (by omega) (by omega)]; exact a2, by rw [u 5 (by omega) (by omega), u 6 (by omega) (by omega)]; exact a3, by rw [u 7 (by omega) (by omega)]; exact a4, fun i i1 i2 => ?_, fun k k1 k2 => ?_⟩
  · rw [u 0 (by omega) (by omega)] at i2
    exact okH_ext (a5 i i1 i2) (u 2 (by omega) (by omega)) (fun j j1 j2 => fl_up (by omega) i1 j1 (by omega) (by omega) j2)
  · rw [u 1 (by omega) (by omega)] at k2
    exact okU_ext (a6 k k1 k2) (fun j j1 j2 => rl_up (by omega) k1 j1 (by omega))
theorem okW_u7 {r : Rw} {z : Int} (ho : okW r) (hz : z = 0 ∨ z = 1) : okW (up r 7 z) := by
  obtain ⟨a1, a2, a3, a4, a5, a6⟩ := ho
  have u : ∀ j, 0 ≤ j → j ≠ 7 → up r 7 z j = r j := fun j j1 j2 => up_ne (by omega) j1 j2
  unfold okR at a1
  refine ⟨by unfold okR; rw [u 0 (by omega) (by omega), u 1 (by omega) (by omega), u 2 (by omega) (by omega), u 3 (by omega) (by omega)]; exact a1, by rw [u 4 (by omega) (by omega)]; exact a2, by rw [u 5 (by omega) (by omega), u 6 (by omega) (by omega)]; exact a3, by rw [up_same]; exact hz, fun i i1 i2 => ?_, fun k k1 k2 => ?_⟩
  · rw [u 0 (by omega) (by omega)] at i2
    exact okH_ext (a5 i i1 i2) (u 2 (by omega) (by omega)) (fun j j1 j2 => fl_up (by omega) i1 j1 (by omega) (by omega) j2)
  · rw [u 1 (by omega) (by omega)] at k2
    exact okU_ext (a6 k k1 k2) (fun j j1 j2 => rl_up (by omega) k1 j1 (by omega))
theorem okP_up {r : Rw} {k z : Int} (ho : okP r) (h0 : r 0 ≤ 40) (hk : 1 ≤ k ∧ k < 16) : okP (up r k z) := by
  intro i i1 i2 h4
  rw [up_ne (by omega) (by omega) (by omega)] at i2
  rw [fl_up (by omega) i1 (by omega) (by omega) (by omega) (by omega)] at h4 ⊢
  exact ho i i1 i2 h4
theorem hds_u7 {r : Rw} {z i v : Int} (hi : 0 ≤ i ∧ i < 40) : hds (up r 7 z) i v = hds r i v :=
  hds_ext2 (up_ne (by omega) (by omega) (by omega)) (up_ne (by omega) (by omega) (by omega)) (fl_up (by omega) hi.1 (by omega) (by omega) hi.2 (by omega)) (fun w w1 w2 => fl_up (by omega) hi.1 (by omega) (by omega) hi.2 (by omega))
theorem okS_close {r : Rw} (ho : okS r) : okS (up r 7 0) := by
  have o1 := ho.1.1
  unfold okR at o1
  refine ⟨okW_u7 ho.1 (Or.inl rfl), twice_map (fun i => i) (fun i i1 i2 => ⟨i1, by rw [up_ne (by omega) (by omega) (by omega)] at i2; exact i2⟩) (fun i j _ q _ => q) (fun i v i1 i2 q => ?_) (fun i j i1 i2 j1 j2 q => ?_) ho.2.1, okP_up ho.2.2 (by omega) (by omega)⟩
  · rw [up_ne (by omega) (by omega) (by omega)] at i2
    rw [hds_u7 ⟨i1, by omega⟩] at q
    exact q
  · rw [up_ne (by omega) (by omega) (by omega)] at i2 j2
    unfold net at q ⊢
    rw [up_same, fl_up (by omega) i1 (by omega) (by omega) (by omega) (by omega), fl_up (by omega) j1 (by omega) (by omega) (by omega) (by omega)] at q
    simp only [Bool.or_eq_true, decide_eq_true_eq] at q ⊢
    omega
theorem okS_open {r : Rw} (ho : okS r) (hcl : clashes r ≤ 0) : okS (up r 7 1) := by
  have o1 := ho.1.1
  unfold okR at o1
  refine ⟨okW_u7 ho.1 (Or.inr rfl), twice_mk fun v j i v1 v2 j1 j2 i2 _ h5 h6 => ?_, okP_up ho.2.2 (by omega) (by omega)⟩
  rw [up_ne (by omega) (by omega) (by omega)] at i2
  rw [hds_u7 ⟨by omega, by omega⟩] at h5 h6
  by_cases e : fl r i 0 = fl r j 0
  · exact twice_no ho.2.1 ⟨v1, v2⟩ j1 j2 i2 (by unfold net; simp [e]) h5 h6
  · have hp : clash r v = true := by
      rw [clash_hc, Bool.and_eq_true, decide_eq_true_eq, decide_eq_true_eq]
      unfold hc
      rw [cn_pos, cn_pos]
      have oi := (ho.1.2.2.2.2.1 i (by omega) i2).1
      have oj := (ho.1.2.2.2.2.1 j j1 (by omega)).1
      rcases oi with c | c
      · exact ⟨⟨i, by omega, i2, by simp [c, h5]⟩, ⟨j, j1, by omega, by simp [show fl r j 0 = 1 by omega, h6]⟩⟩
      · exact ⟨⟨j, j1, by omega, by simp [show fl r j 0 = 0 by omega, h6]⟩, ⟨i, by omega, i2, by simp [c, h5]⟩⟩
    have := (cn_pos (p := clash r) (b := 251) 1).mpr ⟨v, v1, by omega, hp⟩
    unfold clashes at hcl
    omega
theorem nets_pin {h : Hp} {o : Nat} {r : Rw} {x z : Int} (hn : nets h o r) (ho : okR r) (hx : 0 ≤ x ∧ x < r 0) : nets (wr h (o + 4) x z) o (sf r x 2 z) := by
  unfold okR at ho
  have f : ∀ p, p ≠ o + 4 → (wr h (o + 4) x z) p = h p := fun p hp => wr_q hp
  have hhd : ∀ k, 0 ≤ k → k < 16 → sf r x 2 z k = r k := fun k h1 h2 => hd_sf hx.1 (by omega) ⟨h1, h2⟩
  have hfl : ∀ i j, 0 ≤ i → 0 ≤ j → j < 24 → fl (sf r x 2 z) i j = if i = x ∧ j = 2 then z else fl r i j := fun i j h1 h2 h3 => fl_sf hx.1 (by omega) h1 ⟨h2, h3⟩
  have hrl : ∀ i j, 0 ≤ i → 0 ≤ j → j < 4 → rl (sf r x 2 z) i j = rl r i j := fun i j h1 h2 h3 => rl_sf ⟨hx.1, by omega⟩ (by omega) h1 h2
  have e0 := hhd 0 (by omega) (by omega)
  have e1 := hhd 1 (by omega) (by omega)
  refine ⟨?_, fun i i1 i2 => ?_, fun q q1 q2 => ?_⟩
  · rw [f o (by omega), e0, e1, hhd 2 (by omega) (by omega), hhd 3 (by omega) (by omega), hhd 4 (by omega) (by omega), hhd 5 (by omega) (by omega), hhd 6 (by omega) (by omega), hhd 7 (by omega) (by omega)]
    exact hn.1
  · obtain ⟨c1, c2, c3, c4, c5, c6, c7, c8⟩ := hn.2.1 i i1 (by omega)
    refine ⟨?_, ?_, ?_, ?_, ?_, ?_, ?_, fun w w1 w2 => ?_⟩
    · rw [rd_same (f (o + 1) (by omega)), c1]
      exact (nm_ext (fun j j1 j2 => by rw [hfl i j i1 (by omega) (by omega), if_neg (by omega)])).symm
    · rw [rd_same (f (o + 2) (by omega)), c2, hfl i 0 i1 (by omega) (by omega), if_neg (by omega)]
    · rw [rd_same (f (o + 3) (by omega)), c3, hfl i 1 i1 (by omega) (by omega), if_neg (by omega)]
    · rw [rw_if hx.1 i1, hfl i 2 i1 (by omega) (by omega)]
      by_cases c : i = x
      · rw [if_pos ⟨rfl, c⟩, if_pos ⟨c, rfl⟩]
      · rw [if_neg (fun w => c w.2), if_neg (fun w => c w.1)]; exact c4
    · rw [rd_same (f (o + 5) (by omega)), c5, hfl i 3 i1 (by omega) (by omega), if_neg (by omega)]
    · rw [rd_same (f (o + 6) (by omega)), c6, hfl i 4 i1 (by omega) (by omega), if_neg (by omega)]
    · rw [rd_same (f (o + 7) (by omega)), c7]
      exact (lat_ext (fun j j1 j2 => by rw [hfl i _ i1 (by omega) (by omega), if_neg (by omega)])).symm
    · rw [rd_same (f (o + 8) (by omega)), c8 w w1 w2]
      exact (mv_ext ⟨w1, w2⟩ (fun j j1 j2 => by rw [hfl i _ i1 (by omega) (by omega), if_neg (by omega)])).symm
  · exact netR_ext (hn.2.2 q q1 (by omega)) (fun j j1 j2 => hrl q j q1 j1 j2) (rd_same (f _ (by omega))) (rd_same (f _ (by omega))) (rd_same (f _ (by omega))) (rd_same (f _ (by omega)))
theorem pin_okS {r : Rw} {x b : Int} (ho : okS r) (hx : 0 ≤ x ∧ x < r 0) (hb : b = 0 ∨ b = 1) : okS (sf r x 2 b) := by
  have o1 := ho.1.1
  unfold okR at o1
  have hh : ∀ k, 0 ≤ k → k < 16 → sf r x 2 b k = r k := fun k k1 k2 => hd_sf hx.1 (by omega) ⟨k1, k2⟩
  have e0 := hh 0 (by omega) (by omega)
  have e1 := hh 1 (by omega) (by omega)
  have e2 := hh 2 (by omega) (by omega)
  have e3 := hh 3 (by omega) (by omega)
  have e4 := hh 4 (by omega) (by omega)
  have e5 := hh 5 (by omega) (by omega)
  have e6 := hh 6 (by omega) (by omega)
  have e7 := hh 7 (by omega) (by omega)
  obtain ⟨⟨a1, a2, a3, a4, a5, a6⟩, ht, hP⟩ := ho
  have fn : ∀ i j, 0 ≤ i → 0 ≤ j → j < 24 → j ≠ 2 → fl (sf r x 2 b) i j = fl r i j := fun i j i1 j1 j2 j3 => by rw [fl_sf hx.1 (by omega) i1 ⟨j1, j2⟩, if_neg (by omega)]
  have f2 : ∀ i, 0 ≤ i → fl (sf r x 2 b) i 2 = if i = x then b else fl r i 2 := fun i i1 => by
    rw [fl_sf hx.1 (by omega) i1 (by omega)]
    by_cases c : i = x
    · rw [if_pos ⟨c, rfl⟩, if_pos c]
    · rw [if_neg (fun w => c w.1), if_neg c]
  refine ⟨⟨by unfold okR; omega, by omega, by omega, by omega, fun i i1 i2 => ?_, fun k k1 k2 => ?_⟩, ?_, fun i i1 i2 h4 => ?_⟩
  · rw [e0] at i2
    obtain ⟨c1, c2, c3, c4, c5, c6, c7, c8, c9⟩ := a5 i i1 i2
    unfold okH
    rw [f2 i i1, fn i 0 i1 (by omega) (by omega) (by omega), fn i 1 i1 (by omega) (by omega) (by omega), fn i 3 i1 (by omega) (by omega) (by omega), fn i 4 i1 (by omega) (by omega) (by omega), fn i 5 i1 (by omega) (by omega) (by omega), e2]
    refine ⟨c1, c2, ?_, c4, c5, c6, c7, fun k k1 k2 => ?_, fun w w1 w2 => ?_⟩
    · split <;> omega
    · rw [fn i _ i1 (by omega) (by omega) (by omega)]; exact c8 k k1 k2
    · rw [fn i _ i1 (by omega) (by omega) (by omega)]; exact c9 w w1 w2
  · rw [e1] at k2
    exact okU_ext (a6 k k1 k2) (fun j j1 j2 => rl_sf ⟨hx.1, by omega⟩ (by omega) k1 j1)
  · refine twice_map (fun i => i) (fun i i1 i2 => ⟨i1, by omega⟩) (fun i j _ q _ => q) (fun i v i1 i2 q => ?_) (fun i j i1 i2 j1 j2 q => ?_) ht
    · rw [hds_ext2 (r := r) (i := i) e3 e2 (fn i 1 i1 (by omega) (by omega) (by omega)) (fun v v1 v2 => fn i _ i1 (by omega) (by omega) (by omega))] at q
      exact q
    · unfold net at q ⊢
      rw [e7, fn i 0 i1 (by omega) (by omega) (by omega), fn j 0 j1 (by omega) (by omega) (by omega)] at q
      exact q
  · rw [e0] at i2
    rw [fn i 4 i1 (by omega) (by omega) (by omega)] at h4
    rw [fn i 3 i1 (by omega) (by omega) (by omega)]
    exact hP i i1 i2 h4
theorem p8_drops {x : Int} {h : Hp} {Q : Hp → Prop} (hx : 0 ≤ x ∧ x < 40) (hQ : ∀ h', rd h' 186 = plR (rd h 186) x 0 0 → (∀ p, p ≠ 186 → h' p = h p) → Q h') : mX8_drops x h Q := by
  unfold mX8_drops
  refine p8_put hx (by omega) fun a ra fa => p8_put hx (by omega) fun b rb fb => hQ b (by rw [rb, ra]; rfl) (fun p hp => by rw [fb p hp, fa p hp])
theorem drop_okS {r : Rw} {x : Int} (ho : okS r) (hx : 0 ≤ x ∧ x < r 0) : okS (plR r x 0 0) := by
  rcases plR_okS (a := 0) (b := 0) ho hx (by omega) (by omega) with q | q
  · exact q
  · omega
theorem c_unplan {x : Int} {h : Hp} (hi : inv h) : mL_unplan x h (fun k h1 => mX8_unplan x h1 (fun b h2 => okA k b h2)) := by
  obtain ⟨⟨n, o⟩, -, ⟨hh, -⟩, -⟩ := id hi
  have o1 := o.1.1
  unfold okR at o1
  unfold mL_unplan mX7_unplan
  refine p7_needHost n.1.1 (fun hx => p0_push hi fun g1 cg fg1 => ⟨⟨by omega, by omega⟩, p3_setPlan cg.2.1 o.1.1 hx fun g2 n2 f2 => ⟨by omega, fun h6 e => ?_⟩⟩) (fun hx => ⟨rfl, ?_⟩)
  · rw [e]
    have cs : cst h g2 (rd h 186) (plR (rd h 186) x 0 0) := cst_n cg n2 (fun p hp => f2 p (by omega) (by omega))
    have r2 : rd g2 186 = rd h 186 := rd_ne (cs.2.2 186 (by omega))
    have e6 : g2 185 6 = h 185 6 := by rw [cs.2.2 185 (by omega)]
    have c6 := (cg.2.1.2.1 x hx.1 hx.2).2.2.2.2.2.1
    rw [c6]
    unfold mX8_unplan
    intro a ea
    rw [ea]
    have hr : ∀ z, rd (hu (wr g2 197 0 z) 185 0 0) 186 = rd h 186 := fun z => by rw [tR, oR, r2]
    refine p8_hostF (by rw [hr]; exact o.1.1) t0 (by omega) (fun _ => ⟨fun _ => p8_push (by rw [wr_q (by omega), e6]; exact hh.2.1) fun a1 m1 ma m0 mo => p8_of ⟨hx.1, by omega⟩ (by omega) (p8_drops ⟨hx.1, by omega⟩ fun a2 ra2 fa2 => ?_), fun c => absurd rfl c⟩) (fun c => absurd (by rw [hr]; exact hx) c)
    have ra1 : rd a1 186 = rd h 186 := by rw [rd_ne ma, oR, r2]
    rw [ra1] at ra2 ⊢
    have m3 := mst_w m1 fa2
    rw [oR, r2] at m3
    exact okA_op hi cs (drop_okS o hx) m3 (by rw [ra2]; exact ev_rfl) (by rw [fa2 185 (by omega)]; exact m0) rfl
  · unfold mX8_unplan
    intro a e
    rw [e]
    exact p8_hostF (by rw [tR]; exact o.1.1) t0 (by omega) (fun c => absurd (by rw [tR] at c; exact c) hx) (fun _ => ⟨fun c => absurd c (by decide), fun _ => okA_x hi (by omega)⟩)
theorem c_setPinned {x y : Int} {h : Hp} (hi : inv h) : mL_setPinned x y h (fun k h1 => mX8_setPinned x y h1 (fun b h2 => okA k b h2)) := by
  obtain ⟨⟨n, o⟩, -, ⟨hh, -⟩, -⟩ := id hi
  have o1 := o.1.1
  unfold okR at o1
  unfold mL_setPinned mX7_setPinned
  refine p7_needHost n.1.1 (fun hx => p0_push hi fun g1 cg fg1 => ⟨⟨by omega, by omega⟩, ?_⟩) (fun hx => ⟨rfl, ?_⟩)
  · rw [(cg.2.1.2.1 x hx.1 hx.2).2.2.2.1]
    -- the reference, from the class's end
    have ref : ∀ (b : Int) (r' : Rw) (g2 : Hp), b = (if y = 0 then 0 else 1) → cst h g2 (rd h 186) r' → okS r' → r' = (if y = 0 then sf (rd h 186) x 2 b else plR (sf (rd h 186) x 2 b) x 0 0) → mX8_setPinned x y (wr g2 197 0 (fl (rd h 186) x 2)) (fun b h2 => okA 0 b h2) := by
      intro b r' g2 hb cs okn hr'
      have r2 : rd g2 186 = rd h 186 := rd_ne (cs.2.2 186 (by omega))
      have e6 : g2 185 6 = h 185 6 := by rw [cs.2.2 185 (by omega)]
      unfold mX8_setPinned
      intro a ea
      rw [ea]
      have hr : ∀ z, rd (hu (wr g2 197 0 z) 185 0 0) 186 = rd h 186 := fun z => by rw [tR, oR, r2]
      refine p8_hostF (by rw [hr]; exact o.1.1) t0 (by omega) (fun _ => ⟨fun _ => p8_push (by rw [wr_q (by omega), e6]; exact hh.2.1) fun a1 m1 ma m0 mo => p8_of ⟨hx.1, by omega⟩ (by omega) ?_, fun c => absurd rfl c⟩) (fun c => absurd (by rw [hr]; exact hx) c)
      have ra1 : rd a1 186 = rd h 186 := by rw [rd_ne ma, oR, r2]
      rw [ra1]
      have body : y = 0 ∨ ¬ y = 0 → mX8_setPinned_b53 (fun b h2 => okA 0 b h2) x y (fl (rd h 186) x 2) b ((16 + (24 * x)) + 2) a1 := by
        intro _
        unfold mX8_setPinned_b53
        refine ⟨⟨by omega, by omega⟩, fun a2 e2 => ?_⟩
        have ra2 : rd a2 186 = sf (rd h 186) x 2 b := by rw [e2, rd_wr, ra1]; rfl
        have fa2 : ∀ p, p ≠ 186 → a2 p = a1 p := fun p hp => by rw [e2, wr_q hp]
        have m2 := mst_w m1 fa2
        rw [oR, r2] at m2
        refine ⟨fun c => ?_, fun c => p8_drops ⟨hx.1, by omega⟩ fun a3 ra3 fa3 => ?_⟩
        · rw [if_pos c] at hr'
          exact okA_op hi cs okn m2 (by rw [ra2, hr']; exact ev_rfl) (by rw [fa2 185 (by omega)]; exact m0) rfl
        · rw [if_neg c] at hr'
          exact okA_op hi cs okn (mst_w m2 fa3) (by rw [ra3, ra2, hr']; exact ev_rfl) (by rw [fa3 185 (by omega), fa2 185 (by omega)]; exact m0) rfl
      refine p8_cell ⟨hx.1, by omega⟩ (by omega) ⟨fun c => ?_, fun c => ?_⟩
      · rw [if_pos c] at hb; subst hb; exact body (Or.inl c)
      · rw [if_neg c] at hb; subst hb; exact body (Or.inr c)
    have cls : ∀ b : Int, b = (if y = 0 then 0 else 1) → mX7_setPinned_b43 (fun z4 h5 => ((0 : Int) ≤ 0 ∧ (0 : Int) < 1) ∧ ∀ h6 : Hp, h6 = wr h5 197 0 z4 → mX8_setPinned x y h6 (fun b h2 => okA 0 b h2)) (fun y_1 h5 => y_1 = 1 ∧ mX8_setPinned x y h5 (fun b h2 => okA 1 b h2)) x y (fl (rd h 186) x 2) b x g1 := by
      intro b hb
      unfold mX7_setPinned_b43
      have hb1 : b = 0 ∨ b = 1 := by rw [hb]; split <;> omega
      have okn := pin_okS (b := b) o hx hb1
      refine ⟨⟨by omega, by omega⟩, fun g2 e2 => ?_⟩
      have n2 : nets g2 0 (sf (rd h 186) x 2 b) := by rw [e2]; exact nets_pin cg.2.1 o.1.1 hx
      have c2 : cst h g2 (rd h 186) (sf (rd h 186) x 2 b) := cst_n cg n2 (fun p hp => by rw [e2, wr_q (by omega)])
      have hx2 : 0 ≤ x ∧ x < sf (rd h 186) x 2 b 0 := by rw [hd_sf hx.1 (by omega) (by omega)]; exact hx
      refine ⟨fun c => ⟨by omega, fun h6 e => ?_⟩, fun c => p3_setPlan n2 okn.1.1 hx2 fun g3 n3 f3 => ⟨by omega, fun h6 e => ?_⟩⟩
      · rw [e]; exact ref b _ g2 hb c2 okn (by rw [if_pos c])
      · rw [e]; exact ref b _ g3 hb (cst_n c2 n3 (fun p hp => f3 p (by omega) (by omega))) (drop_okS okn hx2) (by rw [if_neg c]; rfl)
    exact ⟨fun c => cls 0 (by rw [if_pos c]), fun c => cls 1 (by rw [if_neg c])⟩
  · unfold mX8_setPinned
    intro a e
    rw [e]
    exact p8_hostF (by rw [tR]; exact o.1.1) t0 (by omega) (fun c => absurd (by rw [tR] at c; exact c) hx) (fun _ => ⟨fun c => absurd c (by decide), fun _ => okA_x hi (by omega)⟩)
theorem okB_op {h h1 h2 : Hp} {r' : Rw} {z b : Int} (hi : inv h) (hc : cst h h1 (rd h 186) r') (ho : okS r') (hm : mst h1 h2 (rd h 186)) (he : eqV r' (rd h2 186)) (hz : z = b) : okB z b h2 := ⟨inv_op hi hc ho hm he, hz⟩
theorem c_open {h : Hp} (hi : inv h) : mX7_open h (fun z h1 => mX8_open h1 (fun b h2 => okB z b h2)) := by
  obtain ⟨⟨n, o⟩, -, ⟨hh, -⟩, -⟩ := id hi
  have o1 := o.1.1
  have o7 := o.1.2.2.2.1
  unfold mX7_open
  rw [n.1.2.2.2.2.2.2.2]
  refine ⟨fun c7 => p7_clashCount n o.1 (by omega) fun g f => ?_, fun c7 => ?_⟩
  · have hi2 : inv g := inv_c hi (fun p p1 p2 p3 => f p (by omega) (by omega) (by omega))
    have hg : rd g 186 = rd h 186 := rd_ne (f 186 (by omega) (by omega) (by omega))
    have hh2 := hi2.2.2.1.1
    refine ⟨fun c => p0_push hi2 fun g1 cg fg1 => fun g2 e2 => ?_, fun c => ?_⟩
    · rw [hg] at cg
      have n2 : nets g2 0 (up (rd h 186) 7 1) := by rw [e2]; exact nets_u7 cg.2.1 o1
      have cs : cst g g2 (rd h 186) (up (rd h 186) 7 1) := cst_n cg n2 (fun p hp => by rw [e2, hu_q (by omega)])
      have r2 : rd g2 186 = rd h 186 := by rw [rd_ne (cs.2.2 186 (by omega)), hg]
      have e6 : g2 185 6 = g 185 6 := by rw [cs.2.2 185 (by omega)]
      have e0 : g2 0 0 = rd h 186 0 := by rw [n2.1.1, up_ne (by omega) (by omega) (by omega)]
      rw [e0]
      unfold mX8_open
      intro a ea
      rw [ea]
      have hr : rd (hu g2 185 0 0) 186 = rd h 186 := by rw [tR, r2]
      rw [hr]
      refine ⟨by omega, fun _ => p8_clashes (by rw [hr]; exact o1) ?_, fun d => by omega⟩
      rw [hr]
      refine ⟨fun _ => p8_push (by rw [e6]; exact hh2.2.1) fun a1 m1 ma m0 mo => ⟨by omega, fun a2 w2 => ⟨by omega, ?_⟩⟩, fun d => absurd c d⟩
      have ra2 : rd a2 186 = up (rd h 186) 7 1 := by rw [w2, rd_wr, rd_ne ma, r2]
      have m2 := mst_w m1 (fun p hp => by rw [w2, wr_q hp] : ∀ p, p ≠ 186 → a2 p = a1 p)
      rw [r2, ← hg] at m2
      rw [← hg] at cs
      rw [ra2, up_ne (by omega) (by omega) (by omega)]
      rw [hg] at cs m2
      exact okB_op (h := g) (r' := up (rd h 186) 7 1) hi2 (by rw [hg]; exact cs) (okS_open o c) (by rw [hg]; exact m2) (by rw [ra2]; exact ev_rfl) rfl
    · unfold mX8_open
      intro a ea
      rw [ea]
      have hr : rd (hu g 185 0 0) 186 = rd h 186 := by rw [tR, hg]
      rw [hr]
      refine ⟨by omega, fun _ => p8_clashes (by rw [hr]; exact o1) ?_, fun d => by omega⟩
      rw [hr]
      exact ⟨fun d => absurd d c, fun _ => ⟨inv_t hi2, rfl⟩⟩
  · unfold mX8_open
    intro a ea
    rw [ea]
    have hr : rd (hu h 185 0 0) 186 = rd h 186 := tR
    rw [hr]
    exact ⟨by omega, fun d => by omega, fun _ => ⟨inv_t hi, rfl⟩⟩
theorem c_close {h : Hp} (hi : inv h) : mX7_close h (fun z h1 => mX8_close h1 (fun b h2 => okB z b h2)) := by
  obtain ⟨⟨n, o⟩, -, ⟨hh, -⟩, -⟩ := id hi
  have o1 := o.1.1
  have o1' := o1
  unfold okR at o1'
  have o7 := o.1.2.2.2.1
  unfold mX7_close
  rw [n.1.2.2.2.2.2.2.2]
  refine ⟨fun c7 => p0_push hi fun g1 cg fg1 => fun g2 e2 => ?_, fun c7 => ?_⟩
  · have n2 : nets g2 0 (up (rd h 186) 7 0) := by rw [e2]; exact nets_u7 cg.2.1 o1
    have cs : cst h g2 (rd h 186) (up (rd h 186) 7 0) := cst_n cg n2 (fun p hp => by rw [e2, hu_q (by omega)])
    have okn := okS_close o
    have r2 : rd g2 186 = rd h 186 := rd_ne (cs.2.2 186 (by omega))
    have e6 : g2 185 6 = h 185 6 := by rw [cs.2.2 185 (by omega)]
    refine p3_hostsOfOffice n2 okn.1 ?_
    unfold mX8_close
    intro a ea
    rw [ea]
    have hr : rd (hu g2 185 0 0) 186 = rd h 186 := by rw [tR, r2]
    rw [hr]
    refine ⟨by omega, fun _ => p8_push (by rw [e6]; exact hh.2.1) fun a1 m1 ma m0 mo => ⟨by omega, fun a2 w2 => ?_⟩, fun d => absurd d c7⟩
    have ra2 : rd a2 186 = up (rd h 186) 7 0 := by rw [w2, rd_wr, rd_ne ma, r2]
    have m2 := mst_w m1 (fun p hp => by rw [w2, wr_q hp] : ∀ p, p ≠ 186 → a2 p = a1 p)
    rw [r2] at m2
    have u0 : up (rd h 186) 7 0 0 = rd h 186 0 := up_ne (by omega) (by omega) (by omega)
    rw [u0]
    obtain ⟨f, hf⟩ := forU (fun f i => ∀ s, 0 ≤ s → s ≤ i → s + cn (fun i => decide (fl (up (rd h 186) 7 0) i 0 = 0)) i (rd h 186 0) = cn (fun i => decide (fl (up (rd h 186) 7 0) i 0 = 0)) 0 (rd h 186 0) → mX8_close_b38 (fun b h2 => okB (cn (fun i => decide (fl (up (rd h 186) 7 0) i 0 = 0)) 0 (rd h 186 0)) b h2) f s i a2) 0 (rd h 186 0) o1'.1.1 (fun f s s0 s1 hs => by
        unfold mX8_close_b38
        rw [ra2, u0]
        rw [cn_end (Int.le_refl _), Int.add_zero] at hs
        exact ⟨by omega, fun _ => okB_op hi cs okn m2 (by rw [ra2]; exact ev_rfl) hs.symm, fun w => absurd (Int.le_refl _) w⟩) (fun f i i1 i2 ih s s0 s1 hs => by
        unfold mX8_close_b38 mX8_close_b63
        rw [ra2, u0]
        refine ⟨by omega, fun w => by omega, fun _ => p8_of ⟨i1, by omega⟩ (by omega) ?_⟩
        rw [ra2]
        refine ⟨fun c => ⟨zri (by omega) (by omega), zri (by omega) (by omega), ih _ (by omega) (by omega) ?_⟩, fun c => ⟨zri (by omega) (by omega), zri (by omega) (by omega), ih _ (by omega) (by omega) ?_⟩⟩
        · rw [cn_skip i2 (decide_eq_false c)] at hs; omega
        · rw [cn_hit i2 (decide_eq_true c)] at hs; omega)
    exact ⟨f, hf 0 (by omega) (by omega) (by omega)⟩
  · unfold mX8_close
    intro a ea
    rw [ea]
    have hr : rd (hu h 185 0 0) 186 = rd h 186 := tR
    rw [hr]
    exact ⟨by omega, fun d => absurd c7 d, fun _ => ⟨inv_t hi, rfl⟩⟩
