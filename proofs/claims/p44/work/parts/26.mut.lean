/-! the nets changed: copies, clearing, plans, hosts and rules that come and go -/
theorem rcp_q {h : Hp} {p q q' : Nat} {sp dp n : Int} (hn : q' ≠ q) : rcp h p sp q dp n q' = h q' := by
  funext k
  unfold rcp hcp
  rw [if_neg (fun w => hn w.1)]
theorem rd_rcp {h : Hp} {p q : Nat} {sp dp n j : Int} (h1 : 0 ≤ sp) (h2 : 0 ≤ dp) (h3 : 0 ≤ n) (hj : 0 ≤ j) : rd (rcp h p sp q dp n) q j = if dp ≤ j ∧ j < dp + n then rd h p (sp + (j - dp)) else rd h q j := by
  unfold rd rcp hcp
  by_cases e : dp ≤ j ∧ j < dp + n
  · rw [if_pos ⟨rfl, by omega, by omega⟩, if_pos e, show sp.toNat + (j.toNat - dp.toNat) = (sp + (j - dp)).toNat by omega]
  · rw [if_neg (fun w => e (by omega)), if_neg e]
theorem rd_same {h h' : Hp} {q : Nat} {j : Int} (e : h' q = h q) : rd h' q j = rd h q j := by
  unfold rd
  rw [e]
theorem p3_copyFrom {o o1 : Nat} {h : Hp} {Q : Hp → Prop} {r : Rw} (hn : nets h o1 r) (ho : okR r) (hz : o + 12 < o1 ∨ o1 + 12 < o) (hQ : ∀ h', nets h' o r → (∀ p, p < o ∨ o + 12 < p → h' p = h p) → Q h') : mX3_copyFrom o o1 h Q := by
  unfold mX3_copyFrom
  unfold okR at ho
  refine fun a0 e0 => fun a1 e1 => fun a2 e2 => fun a3 e3 => fun a4 e4 => fun a5 e5 => fun a6 e6 => fun a7 e7 => ⟨⟨by omega, by omega, by omega, by omega, by omega⟩, fun b1 f1 => ⟨⟨by omega, by omega, by omega, by omega, by omega⟩, fun b2 f2 => ⟨⟨by omega, by omega, by omega, by omega, by omega⟩, fun b3 f3 => ⟨⟨by omega, by omega, by omega, by omega, by omega⟩, fun b4 f4 => ⟨⟨by omega, by omega, by omega, by omega, by omega⟩, fun b5 f5 => ⟨⟨by omega, by omega, by omega, by omega, by omega⟩, fun b6 f6 => ⟨⟨by omega, by omega, by omega, by omega, by omega⟩, fun b7 f7 => ⟨⟨by omega, by omega, by omega, by omega, by omega⟩, fun b8 f8 => ⟨⟨by omega, by omega, by omega, by omega, by omega⟩, fun b9 f9 => ⟨⟨by omega, by omega, by omega, by omega, by omega⟩, fun b10 f10 => ⟨⟨by omega, by omega, by omega, by omega, by omega⟩, fun b11 f11 => ⟨⟨by omega, by omega, by omega, by omega, by omega⟩, fun b12 f12 => ?_⟩⟩⟩⟩⟩⟩⟩⟩⟩⟩⟩⟩
  have hne : o1 ≠ o := by omega
  have ka : ∀ p, p ≠ o → a7 p = h p := fun p hp => by rw [e7, hu_q hp, e6, hu_q hp, e5, hu_q hp, e4, hu_q hp, e3, hu_q hp, e2, hu_q hp, e1, hu_q hp, e0, hu_q hp]
  have hd : a7 o 0 = h o1 0 ∧ a7 o 1 = h o1 1 ∧ a7 o 2 = h o1 2 ∧ a7 o 3 = h o1 3 ∧ a7 o 4 = h o1 4 ∧ a7 o 5 = h o1 5 ∧ a7 o 6 = h o1 6 ∧ a7 o 7 = h o1 7 := by
    subst e0 e1 e2 e3 e4 e5 e6 e7
    simp [hu, hne]
  have k1 : ∀ p, p ≠ o + 1 → b1 p = a7 p := fun p hp => by rw [f1]; exact rcp_q hp
  have k2 : ∀ p, p ≠ o + 2 → b2 p = b1 p := fun p hp => by rw [f2]; exact rcp_q hp
  have k3 : ∀ p, p ≠ o + 3 → b3 p = b2 p := fun p hp => by rw [f3]; exact rcp_q hp
  have k4 : ∀ p, p ≠ o + 4 → b4 p = b3 p := fun p hp => by rw [f4]; exact rcp_q hp
  have k5 : ∀ p, p ≠ o + 5 → b5 p = b4 p := fun p hp => by rw [f5]; exact rcp_q hp
  have k6 : ∀ p, p ≠ o + 6 → b6 p = b5 p := fun p hp => by rw [f6]; exact rcp_q hp
  have k7 : ∀ p, p ≠ o + 7 → b7 p = b6 p := fun p hp => by rw [f7]; exact rcp_q hp
  have k8 : ∀ p, p ≠ o + 8 → b8 p = b7 p := fun p hp => by rw [f8]; exact rcp_q hp
  have k9 : ∀ p, p ≠ o + 9 → b9 p = b8 p := fun p hp => by rw [f9]; exact rcp_q hp
  have k10 : ∀ p, p ≠ o + 10 → b10 p = b9 p := fun p hp => by rw [f10]; exact rcp_q hp
  have k11 : ∀ p, p ≠ o + 11 → b11 p = b10 p := fun p hp => by rw [f11]; exact rcp_q hp
  have k12 : ∀ p, p ≠ o + 12 → b12 p = b11 p := fun p hp => by rw [f12]; exact rcp_q hp
  have kb : ∀ p, p < o + 1 ∨ o + 12 < p → b12 p = a7 p := fun p hp => by rw [k12 p (by omega), k11 p (by omega), k10 p (by omega), k9 p (by omega), k8 p (by omega), k7 p (by omega), k6 p (by omega), k5 p (by omega), k4 p (by omega), k3 p (by omega), k2 p (by omega), k1 p (by omega)]
  have c1 : ∀ j, 0 ≤ j → j < 40 → rd b12 (o + 1) j = rd h (o1 + 1) j := fun j j1 j2 => by
    rw [rd_same (show b12 (o + 1) = b1 (o + 1) by rw [k12 _ (by omega), k11 _ (by omega), k10 _ (by omega), k9 _ (by omega), k8 _ (by omega), k7 _ (by omega), k6 _ (by omega), k5 _ (by omega), k4 _ (by omega), k3 _ (by omega), k2 _ (by omega)])]
    rw [f1, rd_rcp (by omega) (by omega) (by omega) j1, if_pos (by omega), show (0 : Int) + (j - 0) = j by omega]
    exact rd_same (by rw [ka _ (by omega)])
  have c2 : ∀ j, 0 ≤ j → j < 40 → rd b12 (o + 2) j = rd h (o1 + 2) j := fun j j1 j2 => by
    rw [rd_same (show b12 (o + 2) = b2 (o + 2) by rw [k12 _ (by omega), k11 _ (by omega), k10 _ (by omega), k9 _ (by omega), k8 _ (by omega), k7 _ (by omega), k6 _ (by omega), k5 _ (by omega), k4 _ (by omega), k3 _ (by omega)])]
    rw [f2, rd_rcp (by omega) (by omega) (by omega) j1, if_pos (by omega), show (0 : Int) + (j - 0) = j by omega]
    exact rd_same (by rw [k1 _ (by omega), ka _ (by omega)])
  have c3 : ∀ j, 0 ≤ j → j < 40 → rd b12 (o + 3) j = rd h (o1 + 3) j := fun j j1 j2 => by
    rw [rd_same (show b12 (o + 3) = b3 (o + 3) by rw [k12 _ (by omega), k11 _ (by omega), k10 _ (by omega), k9 _ (by omega), k8 _ (by omega), k7 _ (by omega), k6 _ (by omega), k5 _ (by omega), k4 _ (by omega)])]
    rw [f3, rd_rcp (by omega) (by omega) (by omega) j1, if_pos (by omega), show (0 : Int) + (j - 0) = j by omega]
    exact rd_same (by rw [k2 _ (by omega), k1 _ (by omega), ka _ (by omega)])
  have c4 : ∀ j, 0 ≤ j → j < 40 → rd b12 (o + 4) j = rd h (o1 + 4) j := fun j j1 j2 => by
    rw [rd_same (show b12 (o + 4) = b4 (o + 4) by rw [k12 _ (by omega), k11 _ (by omega), k10 _ (by omega), k9 _ (by omega), k8 _ (by omega), k7 _ (by omega), k6 _ (by omega), k5 _ (by omega)])]
    rw [f4, rd_rcp (by omega) (by omega) (by omega) j1, if_pos (by omega), show (0 : Int) + (j - 0) = j by omega]
    exact rd_same (by rw [k3 _ (by omega), k2 _ (by omega), k1 _ (by omega), ka _ (by omega)])
  have c5 : ∀ j, 0 ≤ j → j < 40 → rd b12 (o + 5) j = rd h (o1 + 5) j := fun j j1 j2 => by
    rw [rd_same (show b12 (o + 5) = b5 (o + 5) by rw [k12 _ (by omega), k11 _ (by omega), k10 _ (by omega), k9 _ (by omega), k8 _ (by omega), k7 _ (by omega), k6 _ (by omega)])]
    rw [f5, rd_rcp (by omega) (by omega) (by omega) j1, if_pos (by omega), show (0 : Int) + (j - 0) = j by omega]
    exact rd_same (by rw [k4 _ (by omega), k3 _ (by omega), k2 _ (by omega), k1 _ (by omega), ka _ (by omega)])
  have c6 : ∀ j, 0 ≤ j → j < 40 → rd b12 (o + 6) j = rd h (o1 + 6) j := fun j j1 j2 => by
    rw [rd_same (show b12 (o + 6) = b6 (o + 6) by rw [k12 _ (by omega), k11 _ (by omega), k10 _ (by omega), k9 _ (by omega), k8 _ (by omega), k7 _ (by omega)])]
    rw [f6, rd_rcp (by omega) (by omega) (by omega) j1, if_pos (by omega), show (0 : Int) + (j - 0) = j by omega]
    exact rd_same (by rw [k5 _ (by omega), k4 _ (by omega), k3 _ (by omega), k2 _ (by omega), k1 _ (by omega), ka _ (by omega)])
  have c7 : ∀ j, 0 ≤ j → j < 40 → rd b12 (o + 7) j = rd h (o1 + 7) j := fun j j1 j2 => by
    rw [rd_same (show b12 (o + 7) = b7 (o + 7) by rw [k12 _ (by omega), k11 _ (by omega), k10 _ (by omega), k9 _ (by omega), k8 _ (by omega)])]
    rw [f7, rd_rcp (by omega) (by omega) (by omega) j1, if_pos (by omega), show (0 : Int) + (j - 0) = j by omega]
    exact rd_same (by rw [k6 _ (by omega), k5 _ (by omega), k4 _ (by omega), k3 _ (by omega), k2 _ (by omega), k1 _ (by omega), ka _ (by omega)])
  have c8 : ∀ j, 0 ≤ j → j < 400 → rd b12 (o + 8) j = rd h (o1 + 8) j := fun j j1 j2 => by
    rw [rd_same (show b12 (o + 8) = b8 (o + 8) by rw [k12 _ (by omega), k11 _ (by omega), k10 _ (by omega), k9 _ (by omega)])]
    rw [f8, rd_rcp (by omega) (by omega) (by omega) j1, if_pos (by omega), show (0 : Int) + (j - 0) = j by omega]
    exact rd_same (by rw [k7 _ (by omega), k6 _ (by omega), k5 _ (by omega), k4 _ (by omega), k3 _ (by omega), k2 _ (by omega), k1 _ (by omega), ka _ (by omega)])
  have c9 : ∀ j, 0 ≤ j → j < 30 → rd b12 (o + 9) j = rd h (o1 + 9) j := fun j j1 j2 => by
    rw [rd_same (show b12 (o + 9) = b9 (o + 9) by rw [k12 _ (by omega), k11 _ (by omega), k10 _ (by omega)])]
    rw [f9, rd_rcp (by omega) (by omega) (by omega) j1, if_pos (by omega), show (0 : Int) + (j - 0) = j by omega]
    exact rd_same (by rw [k8 _ (by omega), k7 _ (by omega), k6 _ (by omega), k5 _ (by omega), k4 _ (by omega), k3 _ (by omega), k2 _ (by omega), k1 _ (by omega), ka _ (by omega)])
  have c10 : ∀ j, 0 ≤ j → j < 30 → rd b12 (o + 10) j = rd h (o1 + 10) j := fun j j1 j2 => by
    rw [rd_same (show b12 (o + 10) = b10 (o + 10) by rw [k12 _ (by omega), k11 _ (by omega)])]
    rw [f10, rd_rcp (by omega) (by omega) (by omega) j1, if_pos (by omega), show (0 : Int) + (j - 0) = j by omega]
    exact rd_same (by rw [k9 _ (by omega), k8 _ (by omega), k7 _ (by omega), k6 _ (by omega), k5 _ (by omega), k4 _ (by omega), k3 _ (by omega), k2 _ (by omega), k1 _ (by omega), ka _ (by omega)])
  have c11 : ∀ j, 0 ≤ j → j < 30 → rd b12 (o + 11) j = rd h (o1 + 11) j := fun j j1 j2 => by
    rw [rd_same (show b12 (o + 11) = b11 (o + 11) by rw [k12 _ (by omega)])]
    rw [f11, rd_rcp (by omega) (by omega) (by omega) j1, if_pos (by omega), show (0 : Int) + (j - 0) = j by omega]
    exact rd_same (by rw [k10 _ (by omega), k9 _ (by omega), k8 _ (by omega), k7 _ (by omega), k6 _ (by omega), k5 _ (by omega), k4 _ (by omega), k3 _ (by omega), k2 _ (by omega), k1 _ (by omega), ka _ (by omega)])
  have c12 : ∀ j, 0 ≤ j → j < 30 → rd b12 (o + 12) j = rd h (o1 + 12) j := fun j j1 j2 => by
    rw [f12, rd_rcp (by omega) (by omega) (by omega) j1, if_pos (by omega), show (0 : Int) + (j - 0) = j by omega]
    exact rd_same (by rw [k11 _ (by omega), k10 _ (by omega), k9 _ (by omega), k8 _ (by omega), k7 _ (by omega), k6 _ (by omega), k5 _ (by omega), k4 _ (by omega), k3 _ (by omega), k2 _ (by omega), k1 _ (by omega), ka _ (by omega)])
  refine hQ b12 ⟨?_, fun i i1 i2 => ?_, fun k q1 q2 => ?_⟩ (fun p hp => by rw [kb p (by omega), ka p (by omega)])
  · rw [kb o (by omega), hd.1, hd.2.1, hd.2.2.1, hd.2.2.2.1, hd.2.2.2.2.1, hd.2.2.2.2.2.1, hd.2.2.2.2.2.2.1, hd.2.2.2.2.2.2.2]
    exact hn.1
  · exact netH_ext (hn.2.1 i i1 i2) (fun _ _ _ => rfl) (c1 i i1 (by omega)) (c2 i i1 (by omega)) (c3 i i1 (by omega)) (c4 i i1 (by omega)) (c5 i i1 (by omega)) (c6 i i1 (by omega)) (c7 i i1 (by omega)) (fun w w1 w2 => c8 _ (by omega) (by omega))
  · exact netR_ext (hn.2.2 k q1 q2) (fun _ _ _ => rfl) (c9 k q1 (by omega)) (c10 k q1 (by omega)) (c11 k q1 (by omega)) (c12 k q1 (by omega))
def bgR : Rw := mkR (fun k => if k = 3 then 1 else if k = 4 then 3 else if k = 5 then 200 else if k = 6 then 250 else 0) (fun _ _ => 0) (fun _ _ => 0)
theorem bg_h : bgR 0 = 0 ∧ bgR 1 = 0 ∧ bgR 2 = 0 ∧ bgR 3 = 1 ∧ bgR 4 = 3 ∧ bgR 5 = 200 ∧ bgR 6 = 250 ∧ bgR 7 = 0 := by decide
theorem bg_okS : okS bgR := by
  obtain ⟨e0, e1, e2, e3, e4, e5, e6, e7⟩ := bg_h
  refine ⟨⟨?_, by omega, by omega, by omega, fun i i1 i2 => by omega, fun k k1 k2 => by omega⟩, twice_mk fun v j i v1 v2 j1 j2 i2 => by omega, fun i i1 i2 => by omega⟩
  unfold okR
  omega
theorem p3_clear {o : Nat} {h : Hp} {Q : Hp → Prop} (hQ : ∀ h', nets h' o bgR → (∀ p, p ≠ o → h' p = h p) → Q h') : mX3_clear o h Q := by
  unfold mX3_clear
  intro a0 e0 a1 e1 a2 e2 a3 e3 a4 e4 a5 e5 a6 e6 a7 e7
  obtain ⟨g0, g1, g2, g3, g4, g5, g6, g7⟩ := bg_h
  refine hQ a7 ⟨?_, fun i i1 i2 => by omega, fun k k1 k2 => by omega⟩ (fun p hp => by rw [e7, hu_q hp, e6, hu_q hp, e5, hu_q hp, e4, hu_q hp, e3, hu_q hp, e2, hu_q hp, e1, hu_q hp, e0, hu_q hp])
  rw [g0, g1, g2, g3, g4, g5, g6, g7]
  subst e0 e1 e2 e3 e4 e5 e6 e7
  simp [hu]
theorem p3_setPlan {o : Nat} {x a b : Int} {h : Hp} {Q : Hp → Prop} {r : Rw} (hn : nets h o r) (ho : okR r) (hx : 0 ≤ x ∧ x < r 0) (hQ : ∀ h', nets h' o (sf (sf r x 3 a) x 4 b) → (∀ p, p ≠ o + 5 → p ≠ o + 6 → h' p = h p) → Q h') : mX3_setPlan o x a b h Q := by
  unfold mX3_setPlan
  unfold okR at ho
  refine ⟨⟨by omega, by omega⟩, fun a3 e3 => ⟨⟨by omega, by omega⟩, fun a4 e4 => ?_⟩⟩
  have k : ∀ p, p ≠ o + 5 → p ≠ o + 6 → a4 p = h p := fun p h1 h2 => by rw [e4, wr_q h2, e3, wr_q h1]
  have k5 : ∀ j, 0 ≤ j → rd a4 (o + 5) j = if j = x then a else rd h (o + 5) j := fun j hj => by
    rw [e4, e3, rw_if hx.1 hj, if_neg (by omega), rw_if hx.1 hj]
    by_cases c : j = x
    · rw [if_pos ⟨rfl, c⟩, if_pos c]
    · rw [if_neg (fun w => c w.2), if_neg c]
  have k6 : ∀ j, 0 ≤ j → rd a4 (o + 6) j = if j = x then b else rd h (o + 6) j := fun j hj => by
    rw [e4, e3, rw_if hx.1 hj, rw_if hx.1 hj]
    by_cases c : j = x
    · rw [if_pos ⟨rfl, c⟩, if_pos c]
    · rw [if_neg (fun w => c w.2), if_neg (by omega), if_neg c]
  have hhd : ∀ k, 0 ≤ k → k < 16 → sf (sf r x 3 a) x 4 b k = r k := fun k h1 h2 => by rw [hd_sf hx.1 (by omega) ⟨h1, h2⟩, hd_sf hx.1 (by omega) ⟨h1, h2⟩]
  have hfl : ∀ i j, 0 ≤ i → 0 ≤ j → j < 24 → fl (sf (sf r x 3 a) x 4 b) i j = if i = x ∧ j = 4 then b else if i = x ∧ j = 3 then a else fl r i j := fun i j h1 h2 h3 => by rw [fl_sf hx.1 (by omega) h1 ⟨h2, h3⟩, fl_sf hx.1 (by omega) h1 ⟨h2, h3⟩]
  have hrl : ∀ i j, 0 ≤ i → 0 ≤ j → j < 4 → rl (sf (sf r x 3 a) x 4 b) i j = rl r i j := fun i j h1 h2 h3 => by rw [rl_sf ⟨hx.1, by omega⟩ (by omega) h1 h2, rl_sf ⟨hx.1, by omega⟩ (by omega) h1 h2]
  have q0 := hhd 0 (by omega) (by omega)
  have q1 := hhd 1 (by omega) (by omega)
  refine hQ a4 ⟨?_, fun i i1 i2 => ?_, fun q q1 q2 => ?_⟩ k
  · rw [k o (by omega) (by omega), q0, q1, hhd 2 (by omega) (by omega), hhd 3 (by omega) (by omega), hhd 4 (by omega) (by omega), hhd 5 (by omega) (by omega), hhd 6 (by omega) (by omega), hhd 7 (by omega) (by omega)]
    exact hn.1
  · obtain ⟨c1, c2, c3, c4, c5, c6, c7, c8⟩ := hn.2.1 i i1 (by omega)
    refine ⟨?_, ?_, ?_, ?_, ?_, ?_, ?_, fun w w1 w2 => ?_⟩
    · rw [rd_same (k (o + 1) (by omega) (by omega)), c1]
      exact (nm_ext (fun j j1 j2 => by rw [hfl i j i1 (by omega) (by omega), if_neg (by omega), if_neg (by omega)])).symm
    · rw [rd_same (k (o + 2) (by omega) (by omega)), c2, hfl i 0 i1 (by omega) (by omega), if_neg (by omega), if_neg (by omega)]
    · rw [rd_same (k (o + 3) (by omega) (by omega)), c3, hfl i 1 i1 (by omega) (by omega), if_neg (by omega), if_neg (by omega)]
    · rw [rd_same (k (o + 4) (by omega) (by omega)), c4, hfl i 2 i1 (by omega) (by omega), if_neg (by omega), if_neg (by omega)]
    · rw [k5 i i1, hfl i 3 i1 (by omega) (by omega)]
      by_cases c : i = x
      · rw [if_pos c, if_neg (by omega), if_pos ⟨c, rfl⟩]
      · rw [if_neg c, if_neg (by omega), if_neg (by omega)]; exact c5
    · rw [k6 i i1, hfl i 4 i1 (by omega) (by omega)]
      by_cases c : i = x
      · rw [if_pos c, if_pos ⟨c, rfl⟩]
      · rw [if_neg c, if_neg (by omega), if_neg (by omega)]; exact c6
    · rw [rd_same (k (o + 7) (by omega) (by omega)), c7]
      exact (lat_ext (fun j j1 j2 => by rw [hfl i _ i1 (by omega) (by omega), if_neg (by omega), if_neg (by omega)])).symm
    · rw [rd_same (k (o + 8) (by omega) (by omega)), c8 w w1 w2]
      exact (mv_ext ⟨w1, w2⟩ (fun j j1 j2 => by rw [hfl i _ i1 (by omega) (by omega), if_neg (by omega), if_neg (by omega)])).symm
  · exact netR_ext (hn.2.2 q q1 (by omega)) (fun j j1 j2 => hrl q j q1 j1 j2) (rd_same (k _ (by omega) (by omega))) (rd_same (k _ (by omega) (by omega))) (rd_same (k _ (by omega) (by omega))) (rd_same (k _ (by omega) (by omega)))
def drH (r : Rw) (x : Int) : Rw := mkR (fun k => if k = 0 then r 0 - 1 else r k) (fun i j => if x ≤ i then fl r (i + 1) j else fl r i j) (rl r)
def drU (r : Rw) (x : Int) : Rw := mkR (fun k => if k = 1 then r 1 - 1 else r k) (fl r) (fun k j => if x ≤ k then rl r (k + 1) j else rl r k j)
theorem p3_dropHost {o : Nat} {x : Int} {h : Hp} {Q : Hp → Prop} {r : Rw} (hn : nets h o r) (ho : okR r) (hx : 0 ≤ x ∧ x < r 0) (hQ : ∀ h', nets h' o (drH r x) → (∀ p, p < o ∨ o + 8 < p → h' p = h p) → Q h') : mX3_dropHost o x h Q := by
  unfold mX3_dropHost
  unfold okR at ho
  have hn0 := hn.1
  rw [hn0.1]
  refine ⟨zri (by omega) (by omega), zri (by omega) (by omega), fun hc => by omega, fun _ => ⟨fun _ => ?_, fun hc => by omega⟩⟩
  refine ⟨zri (by omega) (by omega), ⟨by omega, by omega, by omega, by omega, by omega⟩, fun b1 f1 => ⟨zri (by omega) (by omega), ⟨by omega, by omega, by omega, by omega, by omega⟩, fun b2 f2 => ⟨zri (by omega) (by omega), ⟨by omega, by omega, by omega, by omega, by omega⟩, fun b3 f3 => ⟨zri (by omega) (by omega), ⟨by omega, by omega, by omega, by omega, by omega⟩, fun b4 f4 => ⟨zri (by omega) (by omega), ⟨by omega, by omega, by omega, by omega, by omega⟩, fun b5 f5 => ⟨zri (by omega) (by omega), ⟨by omega, by omega, by omega, by omega, by omega⟩, fun b6 f6 => ⟨zri (by omega) (by omega), ⟨by omega, by omega, by omega, by omega, by omega⟩, fun b7 f7 => ⟨zri (by omega) (by omega), zri (by omega) (by omega), zri (by omega) (by omega), zri (by omega) (by omega), ⟨by omega, by omega, by omega, by omega, by omega⟩, fun b8 f8 => ?_⟩⟩⟩⟩⟩⟩⟩⟩
  have k1 : ∀ p, p ≠ o + 1 → b1 p = h p := fun p hp => by rw [f1]; exact rcp_q hp
  have k2 : ∀ p, p ≠ o + 2 → b2 p = b1 p := fun p hp => by rw [f2]; exact rcp_q hp
  have k3 : ∀ p, p ≠ o + 3 → b3 p = b2 p := fun p hp => by rw [f3]; exact rcp_q hp
  have k4 : ∀ p, p ≠ o + 4 → b4 p = b3 p := fun p hp => by rw [f4]; exact rcp_q hp
  have k5 : ∀ p, p ≠ o + 5 → b5 p = b4 p := fun p hp => by rw [f5]; exact rcp_q hp
  have k6 : ∀ p, p ≠ o + 6 → b6 p = b5 p := fun p hp => by rw [f6]; exact rcp_q hp
  have k7 : ∀ p, p ≠ o + 7 → b7 p = b6 p := fun p hp => by rw [f7]; exact rcp_q hp
  have k8 : ∀ p, p ≠ o + 8 → b8 p = b7 p := fun p hp => by rw [f8]; exact rcp_q hp
  have kb : ∀ p, p < o + 1 ∨ o + 8 < p → b8 p = h p := fun p hp => by rw [k8 p (by omega), k7 p (by omega), k6 p (by omega), k5 p (by omega), k4 p (by omega), k3 p (by omega), k2 p (by omega), k1 p (by omega)]
  have c1 : ∀ j, 0 ≤ j → j < r 0 - 1 → rd b8 (o + 1) j = if x ≤ j then rd h (o + 1) (j + 1) else rd h (o + 1) j := fun j j1 j2 => by
    rw [rd_same (show b8 (o + 1) = b1 (o + 1) by rw [k8 _ (by omega), k7 _ (by omega), k6 _ (by omega), k5 _ (by omega), k4 _ (by omega), k3 _ (by omega), k2 _ (by omega)])]
    rw [f1, rd_rcp (by omega) (by omega) (by omega) j1]
    by_cases c : x ≤ j
    · rw [if_pos (by omega), if_pos c, show (x + 1) + (j - x) = j + 1 by omega]
    · rw [if_neg (by omega), if_neg c]
  have c2 : ∀ j, 0 ≤ j → j < r 0 - 1 → rd b8 (o + 2) j = if x ≤ j then rd h (o + 2) (j + 1) else rd h (o + 2) j := fun j j1 j2 => by
    rw [rd_same (show b8 (o + 2) = b2 (o + 2) by rw [k8 _ (by omega), k7 _ (by omega), k6 _ (by omega), k5 _ (by omega), k4 _ (by omega), k3 _ (by omega)])]
    rw [f2, rd_rcp (by omega) (by omega) (by omega) j1]
    by_cases c : x ≤ j
    · rw [if_pos (by omega), if_pos c, show (x + 1) + (j - x) = j + 1 by omega]
      exact rd_same (by rw [k1 _ (by omega)])
    · rw [if_neg (by omega), if_neg c]
      exact rd_same (by rw [k1 _ (by omega)])
  have c3 : ∀ j, 0 ≤ j → j < r 0 - 1 → rd b8 (o + 3) j = if x ≤ j then rd h (o + 3) (j + 1) else rd h (o + 3) j := fun j j1 j2 => by
    rw [rd_same (show b8 (o + 3) = b3 (o + 3) by rw [k8 _ (by omega), k7 _ (by omega), k6 _ (by omega), k5 _ (by omega), k4 _ (by omega)])]
    rw [f3, rd_rcp (by omega) (by omega) (by omega) j1]
    by_cases c : x ≤ j
    · rw [if_pos (by omega), if_pos c, show (x + 1) + (j - x) = j + 1 by omega]
      exact rd_same (by rw [k2 _ (by omega), k1 _ (by omega)])
    · rw [if_neg (by omega), if_neg c]
      exact rd_same (by rw [k2 _ (by omega), k1 _ (by omega)])
  have c4 : ∀ j, 0 ≤ j → j < r 0 - 1 → rd b8 (o + 4) j = if x ≤ j then rd h (o + 4) (j + 1) else rd h (o + 4) j := fun j j1 j2 => by
    rw [rd_same (show b8 (o + 4) = b4 (o + 4) by rw [k8 _ (by omega), k7 _ (by omega), k6 _ (by omega), k5 _ (by omega)])]
    rw [f4, rd_rcp (by omega) (by omega) (by omega) j1]
    by_cases c : x ≤ j
    · rw [if_pos (by omega), if_pos c, show (x + 1) + (j - x) = j + 1 by omega]
      exact rd_same (by rw [k3 _ (by omega), k2 _ (by omega), k1 _ (by omega)])
    · rw [if_neg (by omega), if_neg c]
      exact rd_same (by rw [k3 _ (by omega), k2 _ (by omega), k1 _ (by omega)])
  have c5 : ∀ j, 0 ≤ j → j < r 0 - 1 → rd b8 (o + 5) j = if x ≤ j then rd h (o + 5) (j + 1) else rd h (o + 5) j := fun j j1 j2 => by
    rw [rd_same (show b8 (o + 5) = b5 (o + 5) by rw [k8 _ (by omega), k7 _ (by omega), k6 _ (by omega)])]
    rw [f5, rd_rcp (by omega) (by omega) (by omega) j1]
    by_cases c : x ≤ j
    · rw [if_pos (by omega), if_pos c, show (x + 1) + (j - x) = j + 1 by omega]
      exact rd_same (by rw [k4 _ (by omega), k3 _ (by omega), k2 _ (by omega), k1 _ (by omega)])
    · rw [if_neg (by omega), if_neg c]
      exact rd_same (by rw [k4 _ (by omega), k3 _ (by omega), k2 _ (by omega), k1 _ (by omega)])
  have c6 : ∀ j, 0 ≤ j → j < r 0 - 1 → rd b8 (o + 6) j = if x ≤ j then rd h (o + 6) (j + 1) else rd h (o + 6) j := fun j j1 j2 => by
    rw [rd_same (show b8 (o + 6) = b6 (o + 6) by rw [k8 _ (by omega), k7 _ (by omega)])]
    rw [f6, rd_rcp (by omega) (by omega) (by omega) j1]
    by_cases c : x ≤ j
    · rw [if_pos (by omega), if_pos c, show (x + 1) + (j - x) = j + 1 by omega]
      exact rd_same (by rw [k5 _ (by omega), k4 _ (by omega), k3 _ (by omega), k2 _ (by omega), k1 _ (by omega)])
    · rw [if_neg (by omega), if_neg c]
      exact rd_same (by rw [k5 _ (by omega), k4 _ (by omega), k3 _ (by omega), k2 _ (by omega), k1 _ (by omega)])
  have c7 : ∀ j, 0 ≤ j → j < r 0 - 1 → rd b8 (o + 7) j = if x ≤ j then rd h (o + 7) (j + 1) else rd h (o + 7) j := fun j j1 j2 => by
    rw [rd_same (show b8 (o + 7) = b7 (o + 7) by rw [k8 _ (by omega)])]
    rw [f7, rd_rcp (by omega) (by omega) (by omega) j1]
    by_cases c : x ≤ j
    · rw [if_pos (by omega), if_pos c, show (x + 1) + (j - x) = j + 1 by omega]
      exact rd_same (by rw [k6 _ (by omega), k5 _ (by omega), k4 _ (by omega), k3 _ (by omega), k2 _ (by omega), k1 _ (by omega)])
    · rw [if_neg (by omega), if_neg c]
      exact rd_same (by rw [k6 _ (by omega), k5 _ (by omega), k4 _ (by omega), k3 _ (by omega), k2 _ (by omega), k1 _ (by omega)])
  have c8 : ∀ j, 0 ≤ j → j < (r 0 - 1) * 10 → rd b8 (o + 8) j = if x * 10 ≤ j then rd h (o + 8) (j + 10) else rd h (o + 8) j := fun j j1 j2 => by
    rw [f8, rd_rcp (by omega) (by omega) (by omega) j1]
    by_cases c : (x * 10) ≤ j
    · rw [if_pos (by omega), if_pos c, show ((x + 1) * 10) + (j - (x * 10)) = j + 10 by omega]
      exact rd_same (by rw [k7 _ (by omega), k6 _ (by omega), k5 _ (by omega), k4 _ (by omega), k3 _ (by omega), k2 _ (by omega), k1 _ (by omega)])
    · rw [if_neg (by omega), if_neg c]
      exact rd_same (by rw [k7 _ (by omega), k6 _ (by omega), k5 _ (by omega), k4 _ (by omega), k3 _ (by omega), k2 _ (by omega), k1 _ (by omega)])
  have ko : b8 o = h o := kb o (by omega)
  rw [ko, hn0.1]
  refine ⟨zri (by omega) (by omega), fun b9 f9 => ?_⟩
  have k9 : ∀ p, p ≠ o → b9 p = b8 p := fun p hp => by rw [f9]; exact hu_q hp
  have d0 : drH r x 0 = r 0 - 1 := by unfold drH; rw [mk_h (by omega), if_pos rfl]
  have dk : ∀ k, 0 < k → k < 16 → drH r x k = r k := fun k h1 h2 => by unfold drH; rw [mk_h (by omega), if_neg (by omega)]
  refine hQ b9 ⟨?_, fun i i1 i2 => ?_, fun q q1 q2 => ?_⟩ (fun p hp => by rw [k9 p (by omega), kb p (by omega)])
  · rw [d0, dk 1 (by omega) (by omega), dk 2 (by omega) (by omega), dk 3 (by omega) (by omega), dk 4 (by omega) (by omega), dk 5 (by omega) (by omega), dk 6 (by omega) (by omega), dk 7 (by omega) (by omega), f9]
    obtain ⟨g0, g1, g2, g3, g4, g5, g6, g7⟩ := hn0
    refine ⟨hu_same, ?_, ?_, ?_, ?_, ?_, ?_, ?_⟩ <;> (rw [hu_ne (by omega), ko]; assumption)
  · rw [d0] at i2
    have fe : ∀ j, 0 ≤ j → j < 24 → fl (drH r x) i j = if x ≤ i then fl r (i + 1) j else fl r i j := fun j j1 j2 => mk_f ⟨i1, by omega⟩ ⟨j1, j2⟩
    by_cases c : x ≤ i
    · refine netH_ext (hn.2.1 (i + 1) (by omega) (by omega)) (fun j j1 j2 => by rw [fe j j1 j2, if_pos c]) ?_ ?_ ?_ ?_ ?_ ?_ ?_ (fun w w1 w2 => ?_)
      · rw [rd_same (k9 (o + 1) (by omega)), c1 i i1 i2, if_pos c]
      · rw [rd_same (k9 (o + 2) (by omega)), c2 i i1 i2, if_pos c]
      · rw [rd_same (k9 (o + 3) (by omega)), c3 i i1 i2, if_pos c]
      · rw [rd_same (k9 (o + 4) (by omega)), c4 i i1 i2, if_pos c]
      · rw [rd_same (k9 (o + 5) (by omega)), c5 i i1 i2, if_pos c]
      · rw [rd_same (k9 (o + 6) (by omega)), c6 i i1 i2, if_pos c]
      · rw [rd_same (k9 (o + 7) (by omega)), c7 i i1 i2, if_pos c]
      · rw [rd_same (k9 (o + 8) (by omega)), c8 _ (by omega) (by omega), if_pos (by omega), show i * 10 + w + 10 = (i + 1) * 10 + w by omega]
    · refine netH_ext (hn.2.1 i i1 (by omega)) (fun j j1 j2 => by rw [fe j j1 j2, if_neg c]) ?_ ?_ ?_ ?_ ?_ ?_ ?_ (fun w w1 w2 => ?_)
      · rw [rd_same (k9 (o + 1) (by omega)), c1 i i1 i2, if_neg c]
      · rw [rd_same (k9 (o + 2) (by omega)), c2 i i1 i2, if_neg c]
      · rw [rd_same (k9 (o + 3) (by omega)), c3 i i1 i2, if_neg c]
      · rw [rd_same (k9 (o + 4) (by omega)), c4 i i1 i2, if_neg c]
      · rw [rd_same (k9 (o + 5) (by omega)), c5 i i1 i2, if_neg c]
      · rw [rd_same (k9 (o + 6) (by omega)), c6 i i1 i2, if_neg c]
      · rw [rd_same (k9 (o + 7) (by omega)), c7 i i1 i2, if_neg c]
      · rw [rd_same (k9 (o + 8) (by omega)), c8 _ (by omega) (by omega), if_neg (by omega)]
  · rw [dk 1 (by omega) (by omega)] at q2
    have kk : ∀ p, o + 8 < p → b9 p = h p := fun p hp => by rw [k9 p (by omega), kb p (by omega)]
    exact netR_ext (hn.2.2 q q1 q2) (fun j j1 j2 => mk_r q1 ⟨j1, j2⟩) (rd_same (kk _ (by omega))) (rd_same (kk _ (by omega))) (rd_same (kk _ (by omega))) (rd_same (kk _ (by omega)))
theorem p3_dropRule {o : Nat} {x : Int} {h : Hp} {Q : Hp → Prop} {r : Rw} (hn : nets h o r) (ho : okR r) (hx : 0 ≤ x ∧ x < r 1) (hQ : ∀ h', nets h' o (drU r x) → (∀ p, p < o ∨ o + 12 < p → h' p = h p) → Q h') : mX3_dropRule o x h Q := by
  unfold mX3_dropRule
  unfold okR at ho
  have hn0 := hn.1
  rw [hn0.2.1]
  refine ⟨zri (by omega) (by omega), zri (by omega) (by omega), fun hc => by omega, fun _ => ⟨fun _ => ?_, fun hc => by omega⟩⟩
  refine ⟨zri (by omega) (by omega), ⟨by omega, by omega, by omega, by omega, by omega⟩, fun b9 f9 => ⟨zri (by omega) (by omega), ⟨by omega, by omega, by omega, by omega, by omega⟩, fun b10 f10 => ⟨zri (by omega) (by omega), ⟨by omega, by omega, by omega, by omega, by omega⟩, fun b11 f11 => ⟨zri (by omega) (by omega), ⟨by omega, by omega, by omega, by omega, by omega⟩, fun b12 f12 => ?_⟩⟩⟩⟩
  have k9 : ∀ p, p ≠ o + 9 → b9 p = h p := fun p hp => by rw [f9]; exact rcp_q hp
  have k10 : ∀ p, p ≠ o + 10 → b10 p = b9 p := fun p hp => by rw [f10]; exact rcp_q hp
  have k11 : ∀ p, p ≠ o + 11 → b11 p = b10 p := fun p hp => by rw [f11]; exact rcp_q hp
  have k12 : ∀ p, p ≠ o + 12 → b12 p = b11 p := fun p hp => by rw [f12]; exact rcp_q hp
  have kb : ∀ p, p < o + 9 ∨ o + 12 < p → b12 p = h p := fun p hp => by rw [k12 p (by omega), k11 p (by omega), k10 p (by omega), k9 p (by omega)]
  have c9 : ∀ j, 0 ≤ j → j < r 1 - 1 → rd b12 (o + 9) j = if x ≤ j then rd h (o + 9) (j + 1) else rd h (o + 9) j := fun j j1 j2 => by
    rw [rd_same (show b12 (o + 9) = b9 (o + 9) by rw [k12 _ (by omega), k11 _ (by omega), k10 _ (by omega)])]
    rw [f9, rd_rcp (by omega) (by omega) (by omega) j1]
    by_cases c : x ≤ j
    · rw [if_pos (by omega), if_pos c, show (x + 1) + (j - x) = j + 1 by omega]
    · rw [if_neg (by omega), if_neg c]
  have c10 : ∀ j, 0 ≤ j → j < r 1 - 1 → rd b12 (o + 10) j = if x ≤ j then rd h (o + 10) (j + 1) else rd h (o + 10) j := fun j j1 j2 => by
    rw [rd_same (show b12 (o + 10) = b10 (o + 10) by rw [k12 _ (by omega), k11 _ (by omega)])]
    rw [f10, rd_rcp (by omega) (by omega) (by omega) j1]
    by_cases c : x ≤ j
    · rw [if_pos (by omega), if_pos c, show (x + 1) + (j - x) = j + 1 by omega]
      exact rd_same (by rw [k9 _ (by omega)])
    · rw [if_neg (by omega), if_neg c]
      exact rd_same (by rw [k9 _ (by omega)])
  have c11 : ∀ j, 0 ≤ j → j < r 1 - 1 → rd b12 (o + 11) j = if x ≤ j then rd h (o + 11) (j + 1) else rd h (o + 11) j := fun j j1 j2 => by
    rw [rd_same (show b12 (o + 11) = b11 (o + 11) by rw [k12 _ (by omega)])]
    rw [f11, rd_rcp (by omega) (by omega) (by omega) j1]
    by_cases c : x ≤ j
    · rw [if_pos (by omega), if_pos c, show (x + 1) + (j - x) = j + 1 by omega]
      exact rd_same (by rw [k10 _ (by omega), k9 _ (by omega)])
    · rw [if_neg (by omega), if_neg c]
      exact rd_same (by rw [k10 _ (by omega), k9 _ (by omega)])
  have c12 : ∀ j, 0 ≤ j → j < r 1 - 1 → rd b12 (o + 12) j = if x ≤ j then rd h (o + 12) (j + 1) else rd h (o + 12) j := fun j j1 j2 => by
    rw [f12, rd_rcp (by omega) (by omega) (by omega) j1]
    by_cases c : x ≤ j
    · rw [if_pos (by omega), if_pos c, show (x + 1) + (j - x) = j + 1 by omega]
      exact rd_same (by rw [k11 _ (by omega), k10 _ (by omega), k9 _ (by omega)])
    · rw [if_neg (by omega), if_neg c]
      exact rd_same (by rw [k11 _ (by omega), k10 _ (by omega), k9 _ (by omega)])
  have ko : b12 o = h o := kb o (by omega)
  rw [ko, hn0.2.1]
  refine ⟨zri (by omega) (by omega), fun b13 f13 => ?_⟩
  have k13 : ∀ p, p ≠ o → b13 p = b12 p := fun p hp => by rw [f13]; exact hu_q hp
  have d1 : drU r x 1 = r 1 - 1 := by unfold drU; rw [mk_h (by omega), if_pos rfl]
  have dk : ∀ k, 0 ≤ k → k ≠ 1 → k < 16 → drU r x k = r k := fun k h1 h2 h3 => by unfold drU; rw [mk_h (by omega), if_neg (by omega)]
  refine hQ b13 ⟨?_, fun i i1 i2 => ?_, fun q q1 q2 => ?_⟩ (fun p hp => by rw [k13 p (by omega), kb p (by omega)])
  · rw [d1, dk 0 (by omega) (by omega) (by omega), dk 2 (by omega) (by omega) (by omega), dk 3 (by omega) (by omega) (by omega), dk 4 (by omega) (by omega) (by omega), dk 5 (by omega) (by omega) (by omega), dk 6 (by omega) (by omega) (by omega), dk 7 (by omega) (by omega) (by omega), f13]
    obtain ⟨g0, g1, g2, g3, g4, g5, g6, g7⟩ := hn0
    refine ⟨?_, hu_same, ?_, ?_, ?_, ?_, ?_, ?_⟩ <;> (rw [hu_ne (by omega), ko]; assumption)
  · rw [dk 0 (by omega) (by omega) (by omega)] at i2
    have kk : ∀ p, o < p → p < o + 9 → b13 p = h p := fun p hp hq => by rw [k13 p (by omega), kb p (by omega)]
    exact netH_ext (hn.2.1 i i1 i2) (fun j j1 j2 => mk_f ⟨i1, by omega⟩ ⟨j1, j2⟩) (rd_same (kk _ (by omega) (by omega))) (rd_same (kk _ (by omega) (by omega))) (rd_same (kk _ (by omega) (by omega))) (rd_same (kk _ (by omega) (by omega))) (rd_same (kk _ (by omega) (by omega))) (rd_same (kk _ (by omega) (by omega))) (rd_same (kk _ (by omega) (by omega))) (fun w w1 w2 => rd_same (kk _ (by omega) (by omega)))
  · rw [d1] at q2
    have fe : ∀ j, 0 ≤ j → j < 4 → rl (drU r x) q j = if x ≤ q then rl r (q + 1) j else rl r q j := fun j j1 j2 => mk_r q1 ⟨j1, j2⟩
    by_cases c : x ≤ q
    · refine netR_ext (hn.2.2 (q + 1) (by omega) (by omega)) (fun j j1 j2 => by rw [fe j j1 j2, if_pos c]) ?_ ?_ ?_ ?_
      · rw [rd_same (k13 (o + 9) (by omega)), c9 q q1 q2, if_pos c]
      · rw [rd_same (k13 (o + 10) (by omega)), c10 q q1 q2, if_pos c]
      · rw [rd_same (k13 (o + 11) (by omega)), c11 q q1 q2, if_pos c]
      · rw [rd_same (k13 (o + 12) (by omega)), c12 q q1 q2, if_pos c]
    · refine netR_ext (hn.2.2 q q1 (by omega)) (fun j j1 j2 => by rw [fe j j1 j2, if_neg c]) ?_ ?_ ?_ ?_
      · rw [rd_same (k13 (o + 9) (by omega)), c9 q q1 q2, if_neg c]
      · rw [rd_same (k13 (o + 10) (by omega)), c10 q q1 q2, if_neg c]
      · rw [rd_same (k13 (o + 11) (by omega)), c11 q q1 q2, if_neg c]
      · rw [rd_same (k13 (o + 12) (by omega)), c12 q q1 q2, if_neg c]
def apN (r : Rw) (L : Int → Int) (w v p : Int) : Rw := mkR (fun k => if k = 0 then r 0 + 1 else r k) (fun i j => if i = r 0 then (if j = 0 then w else if j = 1 then v else if j = 2 then p else if 5 ≤ j ∧ j < 14 then L j else 0) else fl r i j) (rl r)
def nmLl (L : Int → Int) : Int := L 6 + 256 * (L 7 + 256 * (L 8 + 256 * (L 9 + 256 * (L 10 + 256 * (L 11 + 256 * (L 12 + 256 * L 13))))))
theorem apN_0 {r : Rw} {L : Int → Int} {w v p : Int} : apN r L w v p 0 = r 0 + 1 := by unfold apN; rw [mk_h (by omega), if_pos rfl]
theorem apN_k {r : Rw} {L : Int → Int} {w v p k : Int} (h1 : 0 < k) (h2 : k < 16) : apN r L w v p k = r k := by unfold apN; rw [mk_h (by omega), if_neg (by omega)]
theorem apN_f {r : Rw} {L : Int → Int} {w v p i j : Int} (hi : 0 ≤ i ∧ i < 40) (hj : 0 ≤ j ∧ j < 24) (hn : ¬ i = r 0) : fl (apN r L w v p) i j = fl r i j := by
  unfold apN
  rw [mk_f hi hj, if_neg hn]
theorem apN_n {r : Rw} {L : Int → Int} {w v p j : Int} (hi : 0 ≤ r 0 ∧ r 0 < 40) (hj : 0 ≤ j ∧ j < 24) : fl (apN r L w v p) (r 0) j = (if j = 0 then w else if j = 1 then v else if j = 2 then p else if 5 ≤ j ∧ j < 14 then L j else 0) := by
  unfold apN
  rw [mk_f hi hj, if_pos rfl]
theorem apN_r {r : Rw} {L : Int → Int} {w v p k j : Int} (hk : 0 ≤ k) (hj : 0 ≤ j ∧ j < 4) : rl (apN r L w v p) k j = rl r k j := mk_r hk hj
theorem p3_appendHost {o : Nat} {x w v : Int} {h : Hp} {Q : Int → Hp → Prop} {r : Rw} {L : Int → Int} (hn : nets h o r) (ho : okR r) (hx : r 0 < 40) (hL : x = nmLl L) (hQ : ∀ h', nets h' o (apN r L w v 0) → (∀ p, p < o ∨ o + 8 < p → h' p = h p) → Q (r 0) h') : mX3_appendHost o x w v h Q := by
  unfold mX3_appendHost
  unfold okR at ho
  have hn0 := hn.1
  rw [hn0.1]
  refine ⟨fun _ => ?_, fun hc => by omega⟩
  refine ⟨zri (by omega) (by omega), fun a0 e0 => ⟨⟨by omega, by omega⟩, fun a1 e1 => ⟨⟨by omega, by omega⟩, fun a2 e2 => ⟨⟨by omega, by omega⟩, fun a3 e3 => ⟨⟨by omega, by omega⟩, fun a4 e4 => ⟨⟨by omega, by omega⟩, fun a5 e5 => ⟨⟨by omega, by omega⟩, fun a6 e6 => ⟨⟨by omega, by omega⟩, fun a7 e7 => ?_⟩⟩⟩⟩⟩⟩⟩⟩
  have k0 : ∀ p, p ≠ o → a0 p = h p := fun p hp => by rw [e0]; exact hu_q hp
  have k1 : ∀ p, p ≠ o + 1 → a1 p = a0 p := fun p hp => by rw [e1]; exact wr_q hp
  have k2 : ∀ p, p ≠ o + 2 → a2 p = a1 p := fun p hp => by rw [e2]; exact wr_q hp
  have k3 : ∀ p, p ≠ o + 3 → a3 p = a2 p := fun p hp => by rw [e3]; exact wr_q hp
  have k4 : ∀ p, p ≠ o + 4 → a4 p = a3 p := fun p hp => by rw [e4]; exact wr_q hp
  have k5 : ∀ p, p ≠ o + 5 → a5 p = a4 p := fun p hp => by rw [e5]; exact wr_q hp
  have k6 : ∀ p, p ≠ o + 6 → a6 p = a5 p := fun p hp => by rw [e6]; exact wr_q hp
  have k7 : ∀ p, p ≠ o + 7 → a7 p = a6 p := fun p hp => by rw [e7]; exact wr_q hp
  have kb : ∀ p, p < o ∨ o + 7 < p → a7 p = h p := fun p hp => by rw [k7 p (by omega), k6 p (by omega), k5 p (by omega), k4 p (by omega), k3 p (by omega), k2 p (by omega), k1 p (by omega), k0 p (by omega)]
  have c1 : ∀ j, 0 ≤ j → rd a7 (o + 1) j = if j = r 0 then x else rd h (o + 1) j := fun j j1 => by
    rw [rd_same (show a7 (o + 1) = a1 (o + 1) by rw [k7 _ (by omega), k6 _ (by omega), k5 _ (by omega), k4 _ (by omega), k3 _ (by omega), k2 _ (by omega)])]
    rw [e1, rw_if ho.1.1 j1]
    by_cases c : j = r 0
    · rw [if_pos ⟨rfl, c⟩, if_pos c]
    · rw [if_neg (fun q => c q.2), if_neg c]
      exact rd_same (by rw [k0 _ (by omega)])
  have c2 : ∀ j, 0 ≤ j → rd a7 (o + 2) j = if j = r 0 then w else rd h (o + 2) j := fun j j1 => by
    rw [rd_same (show a7 (o + 2) = a2 (o + 2) by rw [k7 _ (by omega), k6 _ (by omega), k5 _ (by omega), k4 _ (by omega), k3 _ (by omega)])]
    rw [e2, rw_if ho.1.1 j1]
    by_cases c : j = r 0
    · rw [if_pos ⟨rfl, c⟩, if_pos c]
    · rw [if_neg (fun q => c q.2), if_neg c]
      exact rd_same (by rw [k1 _ (by omega), k0 _ (by omega)])
  have c3 : ∀ j, 0 ≤ j → rd a7 (o + 3) j = if j = r 0 then v else rd h (o + 3) j := fun j j1 => by
    rw [rd_same (show a7 (o + 3) = a3 (o + 3) by rw [k7 _ (by omega), k6 _ (by omega), k5 _ (by omega), k4 _ (by omega)])]
    rw [e3, rw_if ho.1.1 j1]
    by_cases c : j = r 0
    · rw [if_pos ⟨rfl, c⟩, if_pos c]
    · rw [if_neg (fun q => c q.2), if_neg c]
      exact rd_same (by rw [k2 _ (by omega), k1 _ (by omega), k0 _ (by omega)])
  have c4 : ∀ j, 0 ≤ j → rd a7 (o + 4) j = if j = r 0 then 0 else rd h (o + 4) j := fun j j1 => by
    rw [rd_same (show a7 (o + 4) = a4 (o + 4) by rw [k7 _ (by omega), k6 _ (by omega), k5 _ (by omega)])]
    rw [e4, rw_if ho.1.1 j1]
    by_cases c : j = r 0
    · rw [if_pos ⟨rfl, c⟩, if_pos c]
    · rw [if_neg (fun q => c q.2), if_neg c]
      exact rd_same (by rw [k3 _ (by omega), k2 _ (by omega), k1 _ (by omega), k0 _ (by omega)])
  have c5 : ∀ j, 0 ≤ j → rd a7 (o + 5) j = if j = r 0 then 0 else rd h (o + 5) j := fun j j1 => by
    rw [rd_same (show a7 (o + 5) = a5 (o + 5) by rw [k7 _ (by omega), k6 _ (by omega)])]
    rw [e5, rw_if ho.1.1 j1]
    by_cases c : j = r 0
    · rw [if_pos ⟨rfl, c⟩, if_pos c]
    · rw [if_neg (fun q => c q.2), if_neg c]
      exact rd_same (by rw [k4 _ (by omega), k3 _ (by omega), k2 _ (by omega), k1 _ (by omega), k0 _ (by omega)])
  have c6 : ∀ j, 0 ≤ j → rd a7 (o + 6) j = if j = r 0 then 0 else rd h (o + 6) j := fun j j1 => by
    rw [rd_same (show a7 (o + 6) = a6 (o + 6) by rw [k7 _ (by omega)])]
    rw [e6, rw_if ho.1.1 j1]
    by_cases c : j = r 0
    · rw [if_pos ⟨rfl, c⟩, if_pos c]
    · rw [if_neg (fun q => c q.2), if_neg c]
      exact rd_same (by rw [k5 _ (by omega), k4 _ (by omega), k3 _ (by omega), k2 _ (by omega), k1 _ (by omega), k0 _ (by omega)])
  have c7 : ∀ j, 0 ≤ j → rd a7 (o + 7) j = if j = r 0 then 0 else rd h (o + 7) j := fun j j1 => by
    rw [e7, rw_if ho.1.1 j1]
    by_cases c : j = r 0
    · rw [if_pos ⟨rfl, c⟩, if_pos c]
    · rw [if_neg (fun q => c q.2), if_neg c]
      exact rd_same (by rw [k6 _ (by omega), k5 _ (by omega), k4 _ (by omega), k3 _ (by omega), k2 _ (by omega), k1 _ (by omega), k0 _ (by omega)])
  have co : a7 o 0 = r 0 + 1 ∧ ∀ k, k ≠ 0 → a7 o k = h o k := by
    rw [show a7 o = a0 o by rw [k7 _ (by omega), k6 _ (by omega), k5 _ (by omega), k4 _ (by omega), k3 _ (by omega), k2 _ (by omega), k1 _ (by omega)], e0]
    exact ⟨hu_same, fun k hk => hu_ne (by omega)⟩
  obtain ⟨f, hf⟩ := forU (fun f i => ∀ g : Hp, (∀ p, p ≠ o + 8 → g p = a7 p) → (∀ j, 0 ≤ j → rd g (o + 8) j = if (r 0) * 10 ≤ j ∧ j < (r 0) * 10 + i then 0 else rd h (o + 8) j) → mX3_appendHost_b87 o Q f (r 0) i g) 0 10 (by omega) (fun f g g1 g2 => by
      unfold mX3_appendHost_b87
      refine ⟨fun _ => ?_, fun hc => absurd (by omega) hc⟩
      refine hQ g ⟨?_, fun i i1 i2 => ?_, fun q q1 q2 => ?_⟩ (fun p hp => by rw [g1 p (by omega), kb p (by omega)])
      · rw [apN_0, apN_k (by omega) (by omega), apN_k (by omega) (by omega), apN_k (by omega) (by omega), apN_k (by omega) (by omega), apN_k (by omega) (by omega), apN_k (by omega) (by omega), apN_k (by omega) (by omega), g1 o (by omega), co.1, co.2 1 (by omega), co.2 2 (by omega), co.2 3 (by omega), co.2 4 (by omega), co.2 5 (by omega), co.2 6 (by omega), co.2 7 (by omega)]
        exact ⟨rfl, hn0.2⟩
      · rw [apN_0] at i2
        have gk : ∀ m, m ≠ 8 → rd g (o + m) i = rd a7 (o + m) i := fun m hm => rd_same (g1 _ (by omega))
        by_cases c : i = r 0
        · subst c
          have hr : 0 ≤ r 0 ∧ r 0 < 40 := ⟨i1, hx⟩
          refine ⟨?_, ?_, ?_, ?_, ?_, ?_, ?_, fun u u1 u2 => ?_⟩
          · rw [gk 1 (by omega), c1 _ i1, if_pos rfl, hL]
            unfold nm nmLl
            rw [apN_n hr (by omega), apN_n hr (by omega), apN_n hr (by omega), apN_n hr (by omega), apN_n hr (by omega), apN_n hr (by omega), apN_n hr (by omega), apN_n hr (by omega)]
            rfl
          · rw [gk 2 (by omega), c2 _ i1, if_pos rfl, apN_n hr (by omega)]; rfl
          · rw [gk 3 (by omega), c3 _ i1, if_pos rfl, apN_n hr (by omega)]; rfl
          · rw [gk 4 (by omega), c4 _ i1, if_pos rfl, apN_n hr (by omega)]; rfl
          · rw [gk 5 (by omega), c5 _ i1, if_pos rfl, apN_n hr (by omega)]; rfl
          · rw [gk 6 (by omega), c6 _ i1, if_pos rfl, apN_n hr (by omega)]; rfl
          · rw [gk 7 (by omega), c7 _ i1, if_pos rfl]
            exact (lat_z (fun u u1 u2 => by rw [apN_n hr (by omega), if_neg (by omega), if_neg (by omega), if_neg (by omega), if_neg (by omega)])).symm
          · rw [g2 _ (by omega), if_pos (by omega)]
            unfold mv
            by_cases cu : u = 0
            · rw [if_pos cu]
            · rw [if_neg cu, apN_n hr (by omega), if_neg (by omega), if_neg (by omega), if_neg (by omega), if_neg (by omega)]
        · refine netH_ext (hn.2.1 i i1 (by omega)) (fun j j1 j2 => apN_f ⟨i1, by omega⟩ ⟨j1, j2⟩ c) ?_ ?_ ?_ ?_ ?_ ?_ ?_ (fun u u1 u2 => ?_)
          · rw [gk 1 (by omega), c1 _ i1, if_neg c]
          · rw [gk 2 (by omega), c2 _ i1, if_neg c]
          · rw [gk 3 (by omega), c3 _ i1, if_neg c]
          · rw [gk 4 (by omega), c4 _ i1, if_neg c]
          · rw [gk 5 (by omega), c5 _ i1, if_neg c]
          · rw [gk 6 (by omega), c6 _ i1, if_neg c]
          · rw [gk 7 (by omega), c7 _ i1, if_neg c]
          · rw [g2 _ (by omega), if_neg (by omega)]
      · rw [apN_k (by omega) (by omega)] at q2
        have kk : ∀ p, o + 8 < p → g p = h p := fun p hp => by rw [g1 p (by omega), kb p (by omega)]
        exact netR_ext (hn.2.2 q q1 q2) (fun j j1 j2 => apN_r q1 ⟨j1, j2⟩) (rd_same (kk _ (by omega))) (rd_same (kk _ (by omega))) (rd_same (kk _ (by omega))) (rd_same (kk _ (by omega)))) (fun f i i1 i2 ih g g1 g2 => by
      unfold mX3_appendHost_b87
      refine ⟨fun hc => by omega, fun _ => ⟨zri (by omega) (by omega), zri (by omega) (by omega), ⟨by omega, by omega⟩, fun b e => ⟨zri (by omega) (by omega), ih b (fun p hp => by rw [e, wr_q hp, g1 p hp]) (fun j j1 => ?_)⟩⟩⟩
      rw [e, rw_if (by omega) j1]
      by_cases c : j = r 0 * 10 + i
      · rw [if_pos ⟨rfl, c⟩, if_pos (by omega)]
      · rw [if_neg (fun q => c q.2), g2 j j1]
        by_cases d : r 0 * 10 ≤ j ∧ j < r 0 * 10 + i
        · rw [if_pos d, if_pos (by omega)]
        · rw [if_neg d, if_neg (by omega)])
  exact ⟨f, hf a7 (fun _ _ => rfl) (fun j j1 => by rw [if_neg (by omega)]; exact rd_same (kb _ (by omega)))⟩
def apU (r : Rw) (w a b c : Int) : Rw := mkR (fun k => if k = 1 then r 1 + 1 else r k) (fl r) (fun k j => if k = r 1 then (if j = 0 then w else if j = 1 then a else if j = 2 then b else c) else rl r k j)
theorem apU_1 {r : Rw} {w a b c : Int} : apU r w a b c 1 = r 1 + 1 := by unfold apU; rw [mk_h (by omega), if_pos rfl]
theorem apU_k {r : Rw} {w a b c k : Int} (h1 : k ≠ 1) (h2 : k < 16) : apU r w a b c k = r k := by unfold apU; rw [mk_h (by omega), if_neg (by omega)]
theorem apU_f {r : Rw} {w a b c i j : Int} (hi : 0 ≤ i ∧ i < 40) (hj : 0 ≤ j ∧ j < 24) : fl (apU r w a b c) i j = fl r i j := mk_f hi hj
theorem apU_n {r : Rw} {w a b c j : Int} (hi : 0 ≤ r 1) (hj : 0 ≤ j ∧ j < 4) : rl (apU r w a b c) (r 1) j = (if j = 0 then w else if j = 1 then a else if j = 2 then b else c) := by
  unfold apU
  rw [mk_r hi hj, if_pos rfl]
theorem apU_r {r : Rw} {w a b c k j : Int} (hk : 0 ≤ k) (hj : 0 ≤ j ∧ j < 4) (hn : ¬ k = r 1) : rl (apU r w a b c) k j = rl r k j := by
  unfold apU
  rw [mk_r hk hj, if_neg hn]
theorem p3_appendRule {o : Nat} {x a b c : Int} {h : Hp} {Q : Int → Hp → Prop} {r : Rw} (hn : nets h o r) (ho : okR r) (hx : r 1 < 30) (hQ : ∀ h', nets h' o (apU r x (if a = 0 then 0 else 1) b c) → (∀ p, p < o ∨ o + 12 < p → h' p = h p) → Q (r 1) h') : mX3_appendRule o x a b c h Q := by
  unfold mX3_appendRule
  unfold okR at ho
  have hn0 := hn.1
  rw [hn0.2.1]
  have body : ∀ (y : Int) (a0 a1 : Hp), y = (if a = 0 then 0 else 1) → a0 = hu h o 1 (r 1 + 1) → a1 = wr a0 (o + 9) (r 1) x → mX3_appendRule_b50 o Q b c (r 1) y (r 1) a1 := by
    intro y a0 a1 hy e0 e1
    unfold mX3_appendRule_b50
    refine ⟨⟨by omega, by omega⟩, fun a2 e2 => ⟨⟨by omega, by omega⟩, fun a3 e3 => ⟨⟨by omega, by omega⟩, fun a4 e4 => ?_⟩⟩⟩
    have k0 : ∀ p, p ≠ o → a0 p = h p := fun p hp => by rw [e0]; exact hu_q hp
    have k1 : ∀ p, p ≠ o + 9 → a1 p = a0 p := fun p hp => by rw [e1]; exact wr_q hp
    have k2 : ∀ p, p ≠ o + 10 → a2 p = a1 p := fun p hp => by rw [e2]; exact wr_q hp
    have k3 : ∀ p, p ≠ o + 11 → a3 p = a2 p := fun p hp => by rw [e3]; exact wr_q hp
    have k4 : ∀ p, p ≠ o + 12 → a4 p = a3 p := fun p hp => by rw [e4]; exact wr_q hp
    have kb : ∀ p, p < o ∨ (o < p ∧ p < o + 9) ∨ o + 12 < p → a4 p = h p := fun p hp => by rw [k4 p (by omega), k3 p (by omega), k2 p (by omega), k1 p (by omega), k0 p (by omega)]
    have c1 : ∀ j, 0 ≤ j → rd a4 (o + 9) j = if j = r 1 then x else rd h (o + 9) j := fun j j1 => by
      rw [rd_same (show a4 (o + 9) = a1 (o + 9) by rw [k4 _ (by omega), k3 _ (by omega), k2 _ (by omega)])]
      rw [e1, rw_if ho.2.1.1 j1]
      by_cases c : j = r 1
      · rw [if_pos ⟨rfl, c⟩, if_pos c]
      · rw [if_neg (fun q => c q.2), if_neg c]
        exact rd_same (by rw [k0 _ (by omega)])
    have c2 : ∀ j, 0 ≤ j → rd a4 (o + 10) j = if j = r 1 then y else rd h (o + 10) j := fun j j1 => by
      rw [rd_same (show a4 (o + 10) = a2 (o + 10) by rw [k4 _ (by omega), k3 _ (by omega)])]
      rw [e2, rw_if ho.2.1.1 j1]
      by_cases c : j = r 1
      · rw [if_pos ⟨rfl, c⟩, if_pos c]
      · rw [if_neg (fun q => c q.2), if_neg c]
        exact rd_same (by rw [k1 _ (by omega), k0 _ (by omega)])
    have c3 : ∀ j, 0 ≤ j → rd a4 (o + 11) j = if j = r 1 then b else rd h (o + 11) j := fun j j1 => by
      rw [rd_same (show a4 (o + 11) = a3 (o + 11) by rw [k4 _ (by omega)])]
      rw [e3, rw_if ho.2.1.1 j1]
      by_cases c : j = r 1
      · rw [if_pos ⟨rfl, c⟩, if_pos c]
      · rw [if_neg (fun q => c q.2), if_neg c]
        exact rd_same (by rw [k2 _ (by omega), k1 _ (by omega), k0 _ (by omega)])
    have c4 : ∀ j, 0 ≤ j → rd a4 (o + 12) j = if j = r 1 then c else rd h (o + 12) j := fun j j1 => by
      rw [e4, rw_if ho.2.1.1 j1]
      by_cases c : j = r 1
      · rw [if_pos ⟨rfl, c⟩, if_pos c]
      · rw [if_neg (fun q => c q.2), if_neg c]
        exact rd_same (by rw [k3 _ (by omega), k2 _ (by omega), k1 _ (by omega), k0 _ (by omega)])
    have co : a4 o 1 = r 1 + 1 ∧ ∀ k, k ≠ 1 → a4 o k = h o k := by
      rw [show a4 o = a0 o by rw [k4 _ (by omega), k3 _ (by omega), k2 _ (by omega), k1 _ (by omega)], e0]
      exact ⟨hu_same, fun k hk => hu_ne (by omega)⟩
    rw [← hy] at hQ
    refine hQ a4 ⟨?_, fun i i1 i2 => ?_, fun q q1 q2 => ?_⟩ (fun p hp => kb p (by omega))
    · rw [apU_1, apU_k (by omega) (by omega), apU_k (by omega) (by omega), apU_k (by omega) (by omega), apU_k (by omega) (by omega), apU_k (by omega) (by omega), apU_k (by omega) (by omega), apU_k (by omega) (by omega), co.1, co.2 0 (by omega), co.2 2 (by omega), co.2 3 (by omega), co.2 4 (by omega), co.2 5 (by omega), co.2 6 (by omega), co.2 7 (by omega)]
      exact ⟨hn0.1, rfl, hn0.2.2⟩
    · rw [apU_k (by omega) (by omega)] at i2
      exact netH_ext (hn.2.1 i i1 i2) (fun j j1 j2 => apU_f ⟨i1, by omega⟩ ⟨j1, j2⟩) (rd_same (kb _ (by omega))) (rd_same (kb _ (by omega))) (rd_same (kb _ (by omega))) (rd_same (kb _ (by omega))) (rd_same (kb _ (by omega))) (rd_same (kb _ (by omega))) (rd_same (kb _ (by omega))) (fun w w1 w2 => rd_same (kb _ (by omega)))
    · rw [apU_1] at q2
      by_cases c : q = r 1
      · subst c
        refine ⟨?_, ?_, ?_, ?_⟩
        · rw [c1 _ q1, if_pos rfl, apU_n q1 (by omega)]; rfl
        · rw [c2 _ q1, if_pos rfl, apU_n q1 (by omega)]; rfl
        · rw [c3 _ q1, if_pos rfl, apU_n q1 (by omega)]; rfl
        · rw [c4 _ q1, if_pos rfl, apU_n q1 (by omega)]; rfl
      · exact netR_ext (hn.2.2 q q1 (by omega)) (fun j j1 j2 => apU_r q1 ⟨j1, j2⟩ c) (by rw [c1 _ q1, if_neg c]) (by rw [c2 _ q1, if_neg c]) (by rw [c3 _ q1, if_neg c]) (by rw [c4 _ q1, if_neg c])
  exact ⟨fun _ => ⟨zri (by omega) (by omega), fun a0 e0 => ⟨⟨by omega, by omega⟩, fun a1 e1 => ⟨fun ha => body 0 a0 a1 (by rw [if_pos ha]) e0 e1, fun ha => body 1 a0 a1 (by rw [if_neg ha]) e0 e1⟩⟩⟩, fun hc => by omega⟩

