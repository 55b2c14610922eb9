/-! waves, ways back, KEEP -/
theorem p8_pushA {h1 a b : Hp} {z : Int} {Q : Hp → Prop} (hn : 0 ≤ h1 185 6 ∧ h1 185 6 ≤ 10) (fa : ∀ p, p ≠ 189 → a p = hu h1 185 0 z p) (ea : ∀ j, 0 ≤ j → j < 1096 → rd a 189 j = rd (hu h1 185 0 z) 186 j) (fb : ∀ p, p ≠ 185 → p ≠ 186 → p ≠ 192 → b p = a p) (kb : ∀ k, k ≠ 19 → k ≠ 20 → b 185 k = a 185 k)
    (hQ : ∀ h2, mst h1 h2 (rd h1 186) → h2 186 = b 186 → h2 185 0 = z → h2 185 19 = b 185 19 → h2 197 = h1 197 → Q h2) : mX8_keeps 189 1096 b Q := by
  have e6 : b 185 6 = h1 185 6 := by rw [kb 6 (by omega) (by omega), fa 185 (by omega)]; exact hu_ne (by omega)
  refine p8_keeps (by rw [e6]; exact hn) (by omega) (by omega) fun h2 k1 k2 k3 k4 => hQ h2 (mst_keeps (fun p p1 p2 p3 p4 => ?_) (fun k q1 q2 q3 => ?_) (fun j j1 j2 => ?_) k1 k2 k3 k4) ?_ ?_ ?_ ?_
  · rw [fb p p1 p2 p4, fa p p3]; exact hu_q p1
  · rw [kb k q2 q3, fa 185 (by omega)]; exact hu_ne (by omega)
  · rw [rd_same (fb 189 (by omega) (by omega) (by omega)), ea j j1 j2, tR]
  · exact k1 186 (by omega) (by omega)
  · rw [k2 0 (by omega), kb 0 (by omega) (by omega), fa 185 (by omega)]; exact hu_same
  · exact k2 19 (by omega)
  · rw [k1 197 (by omega) (by omega), fb 197 (by omega) (by omega) (by omega), fa 197 (by omega)]; exact hu_q (by omega)
/-- the class adopts its trial -/
theorem p7_adopt {h g : Hp} {Q : Hp → Prop} {s : Rw} (hi : inv h) (fg : ∀ p, ¬ (13 ≤ p ∧ p ≤ 25) → p ≠ 173 → p ≠ 174 → p ≠ 175 → g p = h p) (ht : nets g 13 s) (hs : okR s) (hQ : ∀ h1, cst h h1 (rd h 186) s → Q h1) : mX7_adoptTrial g Q := by
  obtain ⟨⟨n, o⟩, -, ⟨hh, -⟩, -⟩ := hi
  refine p7_adoptTrial (r := rd h 186) (s := s) (hist_frame hh (fun p hp => fg p (by omega) (by omega) (by omega) (by omega))) (nets_frame n (fun p p1 p2 => fg p (by omega) (by omega) (by omega) (by omega))) o.1.1 ht hs fun h1 hh1 n1 f1 => hQ h1 ⟨hh1, n1, fun p hp => ?_⟩
  rw [f1 p (by omega) (by omega) (by omega), fg p (by omega) (by omega) (by omega) (by omega)]
theorem c_wave {h : Hp} (hi : inv h) : mX7_wave h (fun z h1 => mX8_wave h1 (fun b h2 => okB z b h2)) := by
  obtain ⟨⟨n, o⟩, -, ⟨hh, -⟩, -⟩ := id hi
  unfold mX7_wave
  refine p3_copyFrom n o.1.1 (by omega) fun g1 n1 f1 => p7_tryWave n1 o fun g2 n2 f2 => ?_
  have fg : ∀ p, ¬ (13 ≤ p ∧ p ≤ 25) → p ≠ 173 → p ≠ 174 → p ≠ 175 → g2 p = h p := fun p p1 p2 p3 p4 => by rw [f2 p p1 p2 p3 p4, f1 p (by omega)]
  have hc := cn_r (mvg (rd h 186)) (b := rd h 186 0) 0 o.1.1.1.1
  have ht := tw0_r (r := rd h 186)
  by_cases c : tw0 (rd h 186) = 0
  · rw [if_pos c]
    refine ⟨fun d => by omega, fun _ => p7_adopt hi fg (n2 c) (tw0_ok o c).1.1.1 fun h1 cs => ?_⟩
    have r1 : rd h1 186 = rd h 186 := rd_ne (cs.2.2 186 (by omega))
    have e6 : h1 185 6 = h 185 6 := by rw [cs.2.2 185 (by omega)]
    unfold mX8_wave
    intro a e
    rw [e]
    have hr2 : rd (hu h1 185 0 0) 186 = rd h 186 := by rw [tR, r1]
    refine p8_laysAside fun a1 fa ea => p8_movesIf (r := rd h 186) (by rw [rd_ne (fa 186 (by omega)), hr2]; exact ev_rfl) o fun b1 eb kb fb => ?_
    refine ⟨fun _ => p8_pushA (by rw [e6]; exact hh.2.1) fa ea fb kb fun h2 m2 e186 e0 e19 e197 => ?_, fun d => absurd c d⟩
    rw [r1] at m2
    exact okB_op hi cs (tw0_ok o c).1 m2 (by rw [rd_ne e186]; exact (eb c).1) (by rw [e19, (eb c).2.1])
  · rw [if_neg c]
    refine ⟨fun _ => ?_, fun d => by omega⟩
    have hi2 : inv g2 := inv_c hi (fun p p1 p2 p3 => fg p p1 (by omega) (by omega) (by omega))
    have hr : rd g2 186 = rd h 186 := rd_ne (fg 186 (by omega) (by omega) (by omega) (by omega))
    unfold mX8_wave
    intro a e
    rw [e]
    have hr2 : rd (hu g2 185 0 0) 186 = rd h 186 := by rw [tR, hr]
    refine p8_laysAside fun a1 fa ea => p8_movesIf (r := rd h 186) (by rw [rd_ne (fa 186 (by omega)), hr2]; exact ev_rfl) o fun b1 eb kb fb => ?_
    exact ⟨fun d => absurd d c, fun _ => p8_laysBack fun c1 fc ec => ⟨inv_back (inv_t hi2) fa ea fb kb fc ec, rfl⟩⟩
theorem c_back {h : Hp} (hi : inv h) : mX7_back h (fun z h1 => mX8_back h1 (fun b h2 => okB z b h2)) := by
  obtain ⟨⟨n, o⟩, -, ⟨hh, -⟩, -⟩ := id hi
  have o1 := o.1.1
  unfold okR at o1
  unfold mX7_back
  rw [n.1.2.2.1]
  refine ⟨fun c2 => p3_copyFrom n o.1.1 (by omega) fun g1 n1 f1 => p3_undoWave n1 o.1 (by omega) fun g2 n2 f2 => p7_heldTwice n2 (bk_okW o.1 (by omega)) (by omega) fun g3 f3 => ?_, fun c2 => ?_⟩
  · have fg : ∀ p, ¬ (13 ≤ p ∧ p ≤ 25) → p ≠ 173 → p ≠ 174 → p ≠ 175 → g3 p = h p := fun p p1 p2 p3 p4 => by rw [f3 p p2 p3 p4, f2 p (by omega), f1 p (by omega)]
    have n3 : nets g3 13 (bk (rd h 186)) := nets_frame n2 (fun p p1 p2 => f3 p (by omega) (by omega) (by omega))
    have ht := twice_r (r := bk (rd h 186))
    have okb := bk_okW o.1 (show 1 ≤ rd h 186 2 by omega)
    by_cases c : twice (bk (rd h 186)) = -1
    · rw [if_pos c]
      have okn : okS (bk (rd h 186)) := ⟨okb, c, bk_okP o (by omega)⟩
      refine ⟨fun _ => p7_adopt hi fg n3 okn.1.1 fun h1 cs => ?_, fun d => absurd rfl d⟩
      have r1 : rd h1 186 = rd h 186 := rd_ne (cs.2.2 186 (by omega))
      have e6 : h1 185 6 = h 185 6 := by rw [cs.2.2 185 (by omega)]
      rw [cs.2.1.1.2.2.1]
      unfold mX8_back
      intro a e
      rw [e]
      have hr2 : rd (hu h1 185 0 0) 186 = rd h 186 := by rw [tR, r1]
      rw [hr2]
      refine ⟨by omega, fun _ => p8_laysAside fun a1 fa ea => p8_goesBack (r := rd h 186) (by rw [rd_ne (fa 186 (by omega)), hr2]; exact ev_rfl) o (by omega) fun b1 eb fb => p8_twice (okW_eqV okb eb) ?_, fun d => absurd d c2⟩
      rw [ev_twice eb]
      refine ⟨fun _ => p8_pushA (by rw [e6]; exact hh.2.1) fa ea (fun p _ p2 p3 => fb p p2 p3) (fun k _ _ => by rw [fb 185 (by omega) (by omega)]) fun h2 m2 e186 e0 e19 e197 => ⟨by omega, ?_⟩, fun d => absurd c d⟩
      rw [r1] at m2
      have ev2 : eqV (bk (rd h 186)) (rd h2 186) := by rw [rd_ne e186]; exact eb
      exact okB_op hi cs okn m2 ev2 (ev2.1 2 (by omega) (by omega)).symm
    · rw [if_neg c]
      refine ⟨fun d => by omega, fun _ => ?_⟩
      have hi2 : inv g3 := inv_c hi (fun p p1 p2 p3 => fg p p1 (by omega) (by omega) (by omega))
      have hr : rd g3 186 = rd h 186 := rd_ne (fg 186 (by omega) (by omega) (by omega) (by omega))
      unfold mX8_back
      intro a e
      rw [e]
      have hr2 : rd (hu g3 185 0 0) 186 = rd h 186 := by rw [tR, hr]
      rw [hr2]
      refine ⟨by omega, fun _ => p8_laysAside fun a1 fa ea => p8_goesBack (r := rd h 186) (by rw [rd_ne (fa 186 (by omega)), hr2]; exact ev_rfl) o (by omega) fun b1 eb fb => p8_twice (okW_eqV okb eb) ?_, fun d => absurd d c2⟩
      rw [ev_twice eb]
      exact ⟨fun d => absurd d c, fun _ => p8_laysBack fun c1 fc ec => ⟨inv_back (inv_t hi2) fa ea (fun p _ p2 p3 => fb p p2 p3) (fun k _ _ => by rw [fb 185 (by omega) (by omega)]) fc ec, rfl⟩⟩
  · unfold mX8_back
    intro a e
    rw [e]
    have hr2 : rd (hu h 185 0 0) 186 = rd h 186 := tR
    rw [hr2]
    exact ⟨by omega, fun d => absurd c2 d, fun _ => ⟨inv_t hi, rfl⟩⟩
theorem c_setKeep {x : Int} {h : Hp} (hi : inv h) : mL_setKeep x h (fun k h1 => mX8_setKeep x h1 (fun b h2 => okA k b h2)) := by
  obtain ⟨⟨n, o⟩, -, ⟨hh, -⟩, -⟩ := id hi
  have o1 := o.1.1
  unfold okR at o1
  have bad : ¬ (0 ≤ x ∧ x ≤ 3) → mX8_setKeep x h (fun b h2 => okA 1 b h2) := by
    intro hx
    unfold mX8_setKeep
    intro a e
    rw [e]
    exact p8_inF t0 (by omega) (fun w => absurd w hx) (fun _ => ⟨fun w => absurd w (by decide), fun _ => okA_x hi (by omega)⟩)
  unfold mL_setKeep mX7_setKeep
  refine ⟨fun c => ⟨rfl, bad (by omega)⟩, fun c => ⟨fun d => ?_, fun d => ⟨rfl, bad (by omega)⟩⟩⟩
  have hx : 0 ≤ x ∧ x ≤ 3 := by omega
  have okb := okW_u3 (z := x) o.1 hx
  refine p3_copyFrom n o.1.1 (by omega) fun g1 n1 f1 => fun g2 e2 => ?_
  have n2 : nets g2 13 (up (rd h 186) 3 x) := by rw [e2]; exact nets_u3 n1 o.1.1
  refine p7_heldTwice n2 okb (by omega) fun g3 f3 => ?_
  have fg : ∀ p, ¬ (13 ≤ p ∧ p ≤ 25) → p ≠ 173 → p ≠ 174 → p ≠ 175 → g3 p = h p := fun p p1 p2 p3 p4 => by rw [f3 p p2 p3 p4, e2, hu_q (by omega), f1 p (by omega)]
  have n3 : nets g3 13 (up (rd h 186) 3 x) := nets_frame n2 (fun p p1 p2 => f3 p (by omega) (by omega) (by omega))
  have ht := twice_r (r := up (rd h 186) 3 x)
  have pre : ∀ (g : Hp) (Q : Int → Hp → Prop), rd g 186 = rd h 186 → (∀ a1 b1 : Hp, (∀ p, p ≠ 189 → a1 p = hu g 185 0 0 p) → (∀ j, 0 ≤ j → j < 1096 → rd a1 189 j = rd (hu g 185 0 0) 186 j) → (∀ p, p ≠ 186 → b1 p = a1 p) → rd b1 186 = up (rd h 186) 3 x → ((twice (up (rd h 186) 3 x) = -1 → (mX8_keeps 189 1096 b1 (fun h17 => (Q (rd h 186 3) h17)))) ∧ (¬ twice (up (rd h 186) 3 x) = -1 → (mX8_laysBack b1 (fun h18 => (Q (-2) h18)))))) → mX8_setKeep x g Q := by
    intro g Q hg hq
    unfold mX8_setKeep
    intro a e
    rw [e]
    have hr : rd (hu g 185 0 0) 186 = rd h 186 := by rw [tR, hg]
    refine p8_inF t0 (by omega) (fun _ => ⟨fun _ => p8_laysAside fun a1 fa ea => ⟨by omega, by omega, fun b1 w1 => ?_⟩, fun w => absurd rfl w⟩) (fun w => absurd hx w)
    have ra1 : rd a1 186 = rd h 186 := by rw [rd_ne (fa 186 (by omega)), hr]
    have rb1 : rd b1 186 = up (rd h 186) 3 x := by rw [w1, rd_wr, ra1]
    refine p8_twice (by rw [rb1]; exact okb) ?_
    rw [rb1, ra1]
    exact hq a1 b1 fa ea (fun p hp => by rw [w1, wr_q hp]) rb1
  by_cases c : twice (up (rd h 186) 3 x) = -1
  · rw [if_pos c]
    have okn : okS (up (rd h 186) 3 x) := ⟨okb, c, okP_up o.2.2 (by omega) (by omega)⟩
    refine ⟨fun _ => p7_adopt hi fg n3 okn.1.1 fun h1 cs => ⟨by omega, fun h6 e => ?_⟩, fun w => absurd rfl w⟩
    rw [e, n.1.2.2.2.1]
    have r1 : rd h1 186 = rd h 186 := rd_ne (cs.2.2 186 (by omega))
    have e6 : h1 185 6 = h 185 6 := by rw [cs.2.2 185 (by omega)]
    refine pre _ _ (by rw [oR, r1]) fun a1 b1 fa ea fb rb1 => ⟨fun _ => p8_pushA (by rw [wr_q (by omega), e6]; exact hh.2.1) fa ea (fun p _ p2 _ => fb p p2) (fun k _ _ => by rw [fb 185 (by omega)]) fun h2 m2 e186 e0 e19 e197 => ?_, fun w => absurd c w⟩
    rw [oR, r1] at m2
    exact okA_op hi cs okn m2 (by rw [rd_ne e186, rb1]; exact ev_rfl) e0 rfl
  · rw [if_neg c]
    refine ⟨fun w => by omega, fun _ => ⟨by omega, fun h6 e => ?_⟩⟩
    rw [e]
    have hi2 : inv g3 := inv_c hi (fun p p1 p2 p3 => fg p p1 (by omega) (by omega) (by omega))
    have r3 : rd g3 186 = rd h 186 := rd_ne (fg 186 (by omega) (by omega) (by omega) (by omega))
    refine pre _ _ (by rw [oR, r3]) fun a1 b1 fa ea fb rb1 => ⟨fun w => absurd w c, fun _ => p8_laysBack fun c1 fc ec => ⟨inv_back (inv_t (inv_o hi2)) fa ea (fun p _ p2 _ => fb p p2) (fun k _ _ => by rw [fb 185 (by omega)]) fc ec, ?_, fun _ => ?_⟩⟩
    · rw [fc 185 (by omega), fb 185 (by omega), fa 185 (by omega)]; exact hu_same
    · rw [rd_same (fc 197 (by omega)), rd_same (fb 197 (by omega)), rd_same (fa 197 (by omega)), rd_same (hu_q (show (197 : Nat) ≠ 185 by omega)), rw_same]
theorem c_undo {h : Hp} (hi : inv h) : mX7_undo h (fun z h1 => mX8_undo h1 (fun b h2 => okB z b h2)) := by
  obtain ⟨⟨n, o⟩, ⟨b1, b2, b3⟩, ⟨hh, hk⟩, ⟨d1, d2, d3⟩, e1, l1, l2, l3⟩ := id hi
  have hn := hh.2.1
  unfold mX7_undo
  rw [hh.1]
  refine ⟨fun c => p0_takeNewest hh (hk _ (by omega) (by omega)).1.1 (by omega) (by omega) fun g hg ng fg => ?_, fun c => ?_⟩
  · rw [hg.1]
    have e185 : g 185 = h 185 := fg 185 (by omega) (by omega)
    unfold mX8_undo
    intro a e
    rw [e, hu_ne (show ¬ ((185 : Nat) = 185 ∧ (6 : Nat) = 0) by omega), e185]
    refine ⟨fun _ => ⟨zri (by omega) (by omega), fun a2 w2 => ?_⟩, fun d => absurd d c⟩
    have e6 : a2 185 6 = h 185 6 - 1 := by rw [w2]; exact hu_same
    rw [e6]
    refine ⟨zri (by omega) (by omega), p8_copies (by omega) (by omega) (by omega) (by omega) (by omega) (by omega) (Or.inl (by omega)) fun a3 f3 v3 => ?_⟩
    have ea2 : ∀ p, p ≠ 185 → a2 p = g p := fun p hp => by rw [w2, hu_q hp, hu_q hp]
    have k2 : ∀ k, k ≠ 0 → k ≠ 6 → a2 185 k = h 185 k := fun k k0 k6 => by rw [w2, hu_ne (by omega), hu_ne (by omega), e185]
    have e36 : a3 185 6 = h 185 6 - 1 := by rw [f3 185 (by omega)]; exact e6
    have k3 : ∀ k, k ≠ 0 → k ≠ 6 → a3 185 k = h 185 k := fun k k0 k6 => by rw [f3 185 (by omega)]; exact k2 k k0 k6
    have g3 : ∀ p, p ≠ 185 → p ≠ 186 → a3 p = g p := fun p p1 p2 => by rw [f3 p p2, ea2 p p1]
    have q3 : ∀ p, 12 < p → p ≠ 170 → p ≠ 185 → p ≠ 186 → a3 p = h p := fun p p0 p1 p2 p3 => by rw [g3 p p2 p3, fg p (by omega) p1]
    have eb : bf a3 = bf h := bf_ne (q3 190 (by omega) (by omega) (by omega) (by omega))
    have ev : eqV (bf h (h 185 6 - 1)) (rd a3 186) := eqV_of (hk _ (by omega) (by omega)).1.1 (fun j j1 j2 => by
      rw [v3 j j1, if_pos (by omega)]
      have : a2 190 = h 190 := by rw [ea2 190 (by omega), fg 190 (by omega) (by omega)]
      rw [rd_same this]
      unfold bf
      congr 1
      omega)
    refine ⟨⟨⟨nets_eqV (nets_frame ng (fun p p1 p2 => g3 p (by omega) (by omega))) ev, okS_eqV (hk _ (by omega) (by omega)) ev⟩, ⟨?_, ?_, fun hs => ?_⟩, ⟨?_, fun k q1 q2 => ?_⟩, ⟨?_, ?_, fun i i1 i2 => ?_⟩, ?_, ?_, ?_, fun i i1 i2 => ?_⟩, e36.symm⟩
    · rw [q3 169 (by omega) (by omega) (by omega) (by omega), k3 7 (by omega) (by omega)]; exact b1
    · rw [k3 7 (by omega) (by omega)]; exact b2
    · rw [k3 7 (by omega) (by omega)] at hs
      rw [rd_ne (q3 188 (by omega) (by omega) (by omega) (by omega))]
      exact ⟨nets_frame (b3 hs).1 (fun p p1 p2 => q3 p (by omega) (by omega) (by omega) (by omega)), (b3 hs).2⟩
    · rw [e36, eb]
      exact hist_frame hg (fun p hp => g3 p (by omega) (by omega))
    · rw [e36] at q2; rw [eb]; exact hk k q1 (by omega)
    · rw [q3 176 (by omega) (by omega) (by omega) (by omega), k3 9 (by omega) (by omega)]; exact d1
    · rw [k3 9 (by omega) (by omega)]; exact d2
    · rw [k3 9 (by omega) (by omega)] at i2
      rw [rd_same (q3 191 (by omega) (by omega) (by omega) (by omega)), rd_same (q3 177 (by omega) (by omega) (by omega) (by omega))]
      exact d3 i i1 i2
    · rw [q3 169 (by omega) (by omega) (by omega) (by omega), k3 17 (by omega) (by omega)]; exact e1
    · rw [q3 183 (by omega) (by omega) (by omega) (by omega), k3 22 (by omega) (by omega)]; exact l1
    · rw [k3 22 (by omega) (by omega)]; exact l2
    · rw [k3 22 (by omega) (by omega)] at i2
      rw [rd_same (q3 184 (by omega) (by omega) (by omega) (by omega)), rd_same (q3 193 (by omega) (by omega) (by omega) (by omega))]
      exact l3 i i1 i2
  · unfold mX8_undo
    intro a e
    rw [e, hu_ne (show ¬ ((185 : Nat) = 185 ∧ (6 : Nat) = 0) by omega)]
    exact ⟨fun d => absurd c d, fun _ => ⟨inv_t hi, rfl⟩⟩
theorem c_saveSnapshot {h : Hp} (hi : inv h) : mX7_saveSnapshot h (fun h1 => mX8_saveSnapshot h1 (fun h2 => inv h2)) := by
  obtain ⟨⟨n, o⟩, ⟨b1, b2, b3⟩, ⟨hh, hk⟩, ⟨d1, d2, d3⟩, e1, l1, l2, l3⟩ := id hi
  unfold mX7_saveSnapshot
  refine p3_copyFrom n o.1.1 (by omega) fun g1 n1 f1 => fun g2 w2 => ?_
  have f2 : ∀ p, p ≠ 169 → g2 p = g1 p := fun p hp => by rw [w2, hu_q hp]
  unfold mX8_saveSnapshot
  intro a e
  rw [e]
  refine p8_copies (by omega) (by omega) (by omega) (by omega) (by omega) (by omega) (Or.inl (by omega)) fun a1 fa va => fun a2 wa => ?_
  have fa2 : ∀ p, p ≠ 185 → a2 p = a1 p := fun p hp => by rw [wa, hu_q hp]
  have q : ∀ p, ¬ (26 ≤ p ∧ p ≤ 38) → p ≠ 169 → p ≠ 185 → p ≠ 188 → a2 p = h p := fun p p0 p1 p2 p3 => by rw [fa2 p p2, fa p p3, hu_q p2, f2 p p1, f1 p (by omega)]
  have k : ∀ j, j ≠ 0 → j ≠ 7 → a2 185 j = h 185 j := fun j j0 j7 => by rw [wa, hu_ne (by omega), fa 185 (by omega), hu_ne (by omega), f2 185 (by omega), f1 185 (by omega)]
  have k7 : a2 185 7 = 1 := by rw [wa]; exact hu_same
  have s3 : a2 169 3 = 1 := by rw [fa2 169 (by omega), fa 169 (by omega), hu_q (by omega), w2]; exact hu_same
  have s10 : a2 169 10 = h 169 10 := by rw [fa2 169 (by omega), fa 169 (by omega), hu_q (by omega), w2, hu_ne (by omega), f1 169 (by omega)]
  have r186 : rd a2 186 = rd h 186 := rd_ne (q 186 (by omega) (by omega) (by omega) (by omega))
  have eb : bf a2 = bf h := bf_ne (q 190 (by omega) (by omega) (by omega) (by omega))
  have ev : eqV (rd h 186) (rd a2 188) := eqV_of o.1.1 (fun j j1 j2 => by
    rw [rd_same (fa2 188 (by omega)), va j j1, if_pos (by omega), show (0 : Int) + (j - 0) = j by omega]
    have : (hu g2 185 0 0) 186 = h 186 := by rw [hu_q (by omega), f2 186 (by omega), f1 186 (by omega)]
    exact rd_same this)
  refine ⟨⟨?_, ?_⟩, ⟨?_, ?_, fun hs => ⟨?_, okS_eqV o ev⟩⟩, ⟨?_, fun j q1 q2 => ?_⟩, ⟨?_, ?_, fun i i1 i2 => ?_⟩, ?_, ?_, ?_, fun i i1 i2 => ?_⟩
  · rw [r186]; exact nets_frame n (fun p p1 p2 => q p (by omega) (by omega) (by omega) (by omega))
  · rw [r186]; exact o
  · rw [s3, k7]
  · rw [k7]; exact Or.inr rfl
  · exact nets_eqV (nets_frame n1 (fun p p1 p2 => by rw [fa2 p (by omega), fa p (by omega), hu_q (by omega), f2 p (by omega)])) ev
  · rw [k 6 (by omega) (by omega), eb]; exact hist_frame hh (fun p hp => q p (by omega) (by omega) (by omega) (by omega))
  · rw [k 6 (by omega) (by omega)] at q2; rw [eb]; exact hk j q1 q2
  · rw [q 176 (by omega) (by omega) (by omega) (by omega), k 9 (by omega) (by omega)]; exact d1
  · rw [k 9 (by omega) (by omega)]; exact d2
  · rw [k 9 (by omega) (by omega)] at i2
    rw [rd_same (q 191 (by omega) (by omega) (by omega) (by omega)), rd_same (q 177 (by omega) (by omega) (by omega) (by omega))]
    exact d3 i i1 i2
  · rw [s10, k 17 (by omega) (by omega)]; exact e1
  · rw [q 183 (by omega) (by omega) (by omega) (by omega), k 22 (by omega) (by omega)]; exact l1
  · rw [k 22 (by omega) (by omega)]; exact l2
  · rw [k 22 (by omega) (by omega)] at i2
    rw [rd_same (q 184 (by omega) (by omega) (by omega) (by omega)), rd_same (q 193 (by omega) (by omega) (by omega) (by omega))]
    exact l3 i i1 i2
theorem c_restoreSnapshot {h : Hp} (hi : inv h) : mX7_restoreSnapshot h (fun z h1 => mX8_restoreSnapshot h1 (fun b h2 => okB z b h2 ∧ (b = 0 ∨ b = 1))) := by
  obtain ⟨⟨n, o⟩, ⟨b1, b2, b3⟩, ⟨hh, hk⟩, ⟨d1, d2, d3⟩, e1, l1, l2, l3⟩ := id hi
  unfold mX7_restoreSnapshot
  rw [b1]
  refine ⟨fun c => ?_, fun c => ?_⟩
  · have c7 : h 185 7 = 1 := by omega
    obtain ⟨ns, os⟩ := b3 c7
    refine p3_copyFrom ns os.1.1 (by omega) fun g1 n1 f1 => p0_clear ?_
    have f2 : ∀ p, p ≠ 170 → hu g1 170 2 0 p = g1 p := fun p hp => hu_q hp
    have e185 : hu g1 170 2 0 185 = h 185 := by rw [f2 185 (by omega), f1 185 (by omega)]
    unfold mX8_restoreSnapshot
    intro a e
    rw [e, hu_ne (show ¬ ((185 : Nat) = 185 ∧ (7 : Nat) = 0) by omega), e185]
    refine ⟨fun _ => p8_copies (by omega) (by omega) (by omega) (by omega) (by omega) (by omega) (Or.inl (by omega)) fun a1 fa va => fun a2 wa => ⟨?_, Or.inr rfl⟩, fun d => absurd d c⟩
    have fa2 : ∀ p, p ≠ 185 → a2 p = a1 p := fun p hp => by rw [wa, hu_q hp]
    have q : ∀ p, 12 < p → p ≠ 170 → p ≠ 185 → p ≠ 186 → a2 p = h p := fun p p0 p1 p2 p3 => by rw [fa2 p p2, fa p p3, hu_q p2, f2 p p1, f1 p (by omega)]
    have k : ∀ j, j ≠ 0 → j ≠ 6 → a2 185 j = h 185 j := fun j j0 j7 => by rw [wa, hu_ne (by omega), fa 185 (by omega), hu_ne (by omega), e185]
    have k6 : a2 185 6 = 0 := by rw [wa]; exact hu_same
    have ev : eqV (rd h 188) (rd a2 186) := eqV_of os.1.1 (fun j j1 j2 => by
      rw [rd_same (fa2 186 (by omega)), va j j1, if_pos (by omega), show (0 : Int) + (j - 0) = j by omega]
      have : (hu (hu g1 170 2 0) 185 0 0) 188 = h 188 := by rw [hu_q (by omega), f2 188 (by omega), f1 188 (by omega)]
      exact rd_same this)
    refine ⟨⟨⟨nets_eqV (nets_frame n1 (fun p p1 p2 => ?_)) ev, okS_eqV os ev⟩, ⟨?_, ?_, fun hs => ?_⟩, ⟨?_, fun j q1 q2 => ?_⟩, ⟨?_, ?_, fun i i1 i2 => ?_⟩, ?_, ?_, ?_, fun i i1 i2 => ?_⟩, rfl⟩
    · rw [fa2 p (by omega), fa p (by omega), hu_q (by omega), f2 p (by omega)]
    · rw [q 169 (by omega) (by omega) (by omega) (by omega), k 7 (by omega) (by omega)]; exact b1
    · rw [k 7 (by omega) (by omega)]; exact b2
    · rw [rd_ne (q 188 (by omega) (by omega) (by omega) (by omega))]
      exact ⟨nets_frame ns (fun p p1 p2 => q p (by omega) (by omega) (by omega) (by omega)), os⟩
    · rw [k6]
      have : hist (hu g1 170 2 0) 0 (bf a2) := hist_clear (hist_frame hh (fun p hp => f1 p (by omega)))
      exact hist_frame this (fun p hp => by rw [fa2 p (by omega), fa p (by omega), hu_q (by omega)])
    · rw [k6] at q2; omega
    · rw [q 176 (by omega) (by omega) (by omega) (by omega), k 9 (by omega) (by omega)]; exact d1
    · rw [k 9 (by omega) (by omega)]; exact d2
    · rw [k 9 (by omega) (by omega)] at i2
      rw [rd_same (q 191 (by omega) (by omega) (by omega) (by omega)), rd_same (q 177 (by omega) (by omega) (by omega) (by omega))]
      exact d3 i i1 i2
    · rw [q 169 (by omega) (by omega) (by omega) (by omega), k 17 (by omega) (by omega)]; exact e1
    · rw [q 183 (by omega) (by omega) (by omega) (by omega), k 22 (by omega) (by omega)]; exact l1
    · rw [k 22 (by omega) (by omega)]; exact l2
    · rw [k 22 (by omega) (by omega)] at i2
      rw [rd_same (q 184 (by omega) (by omega) (by omega) (by omega)), rd_same (q 193 (by omega) (by omega) (by omega) (by omega))]
      exact l3 i i1 i2
  · unfold mX8_restoreSnapshot
    intro a e
    rw [e, hu_ne (show ¬ ((185 : Nat) = 185 ∧ (7 : Nat) = 0) by omega)]
    exact ⟨fun d => absurd c d, fun _ => ⟨⟨inv_t hi, rfl⟩, Or.inl rfl⟩⟩
