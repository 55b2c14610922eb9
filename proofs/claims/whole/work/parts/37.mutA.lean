/-! calls that change the row: what both sides owe -/
def cst (h h1 : Hp) (r r' : Rw) : Prop := hist h1 (min 10 (h 185 6 + 1)) (hpu (h 185 6) (bf h) r) ∧ nets h1 0 r' ∧ ∀ p, (26 ≤ p ∧ p ≤ 38) ∨ p = 169 ∨ p = 176 ∨ p = 177 ∨ p = 183 ∨ p = 184 ∨ (185 ≤ p ∧ p ≠ 197) → h1 p = h p
def mst (h1 h2 : Hp) (ro : Rw) : Prop := (∀ p, p ≠ 185 → p ≠ 186 → p ≠ 189 → p ≠ 190 → p ≠ 192 → h2 p = h1 p) ∧ (∀ k, k ≠ 0 → k ≠ 6 → k ≠ 19 → k ≠ 20 → h2 185 k = h1 185 k) ∧ h2 185 6 = min 10 (h1 185 6 + 1) ∧ ∀ k, 0 ≤ k → k < min 10 (h1 185 6 + 1) → ∀ j, 0 ≤ j → j < 1096 → bf h2 k j = hpu (h1 185 6) (bf h1) ro k j
theorem cst_o {h h1 : Hp} {r r' : Rw} {z : Int} (c : cst h h1 r r') : cst h (wr h1 197 0 z) r r' :=
  ⟨hist_frame c.1 (fun p hp => wr_q (by omega)), nets_frame c.2.1 (fun p p1 p2 => wr_q (by omega)), fun p hp => by rw [wr_q (by omega)]; exact c.2.2 p hp⟩
theorem inv_op {h h1 h2 : Hp} {r' : Rw} (hi : inv h) (hc : cst h h1 (rd h 186) r') (ho : okS r') (hm : mst h1 h2 (rd h 186)) (he : eqV r' (rd h2 186)) : inv h2 := by
  obtain ⟨⟨a1, a2⟩, ⟨b1, b2, b3⟩, ⟨i1, i2⟩, ⟨d1, d2, d3⟩, e1, f1, f2, f3⟩ := hi
  obtain ⟨c1, c2, c3⟩ := hc
  obtain ⟨m1, m2, m3, m4⟩ := hm
  have q : ∀ p, (26 ≤ p ∧ p ≤ 38) ∨ p = 169 ∨ p = 176 ∨ p = 177 ∨ p = 183 ∨ p = 184 ∨ p = 188 ∨ p = 191 ∨ p = 193 → h2 p = h p := fun p hp => by rw [m1 p (by omega) (by omega) (by omega) (by omega) (by omega), c3 p (by omega)]
  have k185 : ∀ k, k ≠ 0 → k ≠ 6 → k ≠ 19 → k ≠ 20 → h2 185 k = h 185 k := fun k k1 k2 k3 k4 => by rw [m2 k k1 k2 k3 k4, c3 185 (by omega)]
  have h7 := k185 7 (by omega) (by omega) (by omega) (by omega)
  have h9 := k185 9 (by omega) (by omega) (by omega) (by omega)
  have h17 := k185 17 (by omega) (by omega) (by omega) (by omega)
  have h22 := k185 22 (by omega) (by omega) (by omega) (by omega)
  have e6 : h1 185 6 = h 185 6 := by rw [c3 185 (by omega)]
  have eb : bf h1 = bf h := bf_ne (c3 190 (by omega))
  rw [e6] at m3 m4
  rw [eb] at m4
  have hn := i1.2.1
  have okh : ∀ k, 0 ≤ k → k < min 10 (h 185 6 + 1) → okS (hpu (h 185 6) (bf h) (rd h 186) k) := fun k k1 k2 => by
    unfold hpu
    by_cases c : k = min 10 (h 185 6 + 1) - 1
    · rw [if_pos c]; exact a2
    · rw [if_neg c]; exact i2 _ (by omega) (by omega)
  have ev : ∀ k, 0 ≤ k → k < min 10 (h 185 6 + 1) → eqV (hpu (h 185 6) (bf h) (rd h 186) k) (bf h2 k) := fun k k1 k2 => eqV_of (okh k k1 k2).1.1 (m4 k k1 k2)
  refine ⟨⟨nets_eqV (nets_frame c2 (fun p p1 p2 => m1 p (by omega) (by omega) (by omega) (by omega) (by omega))) he, okS_eqV ho he⟩, ⟨?_, ?_, fun hs => ?_⟩, ⟨?_, fun k k1 k2 => ?_⟩, ⟨?_, ?_, fun i i1 i2 => ?_⟩, ?_, ?_, ?_, fun i i1 i2 => ?_⟩
  · rw [q 169 (by omega), h7]; exact b1
  · rw [h7]; exact b2
  · rw [h7] at hs
    rw [rd_ne (q 188 (by omega))]
    exact ⟨nets_frame (b3 hs).1 (fun p p1 p2 => q p (by omega)), (b3 hs).2⟩
  · rw [m3]
    exact hist_eqV (hist_frame c1 (fun p p1 => m1 p (by omega) (by omega) (by omega) (by omega) (by omega))) ev
  · rw [m3] at k2; exact okS_eqV (okh k k1 k2) (ev k k1 k2)
  · rw [q 176 (by omega), h9]; exact d1
  · rw [h9]; exact d2
  · rw [h9] at i2
    rw [rd_same (q 191 (by omega)), rd_same (q 177 (by omega))]
    exact d3 i i1 i2
  · rw [q 169 (by omega), h17]; exact e1
  · rw [q 183 (by omega), h22]; exact f1
  · rw [h22]; exact f2
  · rw [h22] at i2
    rw [rd_same (q 184 (by omega)), rd_same (q 193 (by omega))]
    exact f3 i i1 i2
/-- the reference's push, ahead of writes in its row -/
theorem mst_keeps {h1 g h2 : Hp} {q : Nat} {ro : Rw} (fg : ∀ p, p ≠ 185 → p ≠ 186 → p ≠ 189 → p ≠ 192 → g p = h1 p) (kg : ∀ k, k ≠ 0 → k ≠ 19 → k ≠ 20 → g 185 k = h1 185 k) (eq : ∀ j, 0 ≤ j → j < 1096 → rd g q j = ro j)
    (k1 : ∀ p, p ≠ 185 → p ≠ 190 → h2 p = g p) (k2 : ∀ k, k ≠ 6 → h2 185 k = g 185 k) (k3 : h2 185 6 = min 10 (g 185 6 + 1)) (k4 : ∀ k, 0 ≤ k → k < min 10 (g 185 6 + 1) → ∀ j, 0 ≤ j → j < 1096 → bf h2 k j = hpu (g 185 6) (bf g) (rd g q) k j) : mst h1 h2 ro := by
  have e6 : g 185 6 = h1 185 6 := kg 6 (by omega) (by omega) (by omega)
  have eb : bf g = bf h1 := bf_ne (fg 190 (by omega) (by omega) (by omega) (by omega))
  refine ⟨fun p p1 p2 p3 p4 p5 => by rw [k1 p p1 p4, fg p p1 p2 p3 p5], fun k q1 q2 q3 q4 => by rw [k2 k q2, kg k q1 q3 q4], by rw [k3, e6], fun k q1 q2 j j1 j2 => ?_⟩
  rw [k4 k q1 (by rw [e6]; exact q2) j j1 j2, e6, eb]
  unfold hpu
  by_cases c : k = min 10 (h1 185 6 + 1) - 1
  · rw [if_pos c, if_pos c, eq j j1 j2]
  · rw [if_neg c, if_neg c]
theorem mst_w {h1 h2 h3 : Hp} {ro : Rw} (hm : mst h1 h2 ro) (f : ∀ p, p ≠ 186 → h3 p = h2 p) : mst h1 h3 ro := by
  obtain ⟨m1, m2, m3, m4⟩ := hm
  have eb : bf h3 = bf h2 := bf_ne (f 190 (by omega))
  exact ⟨fun p p1 p2 p3 p4 p5 => by rw [f p p2, m1 p p1 p2 p3 p4 p5], fun k a b c d => by rw [f 185 (by omega), m2 k a b c d], by rw [f 185 (by omega), m3], by rw [eb]; exact m4⟩
/-- the push right behind the start of a call -/
theorem p8_push {h1 : Hp} {z : Int} {Q : Hp → Prop} (hn : 0 ≤ h1 185 6 ∧ h1 185 6 ≤ 10) (hQ : ∀ h2, mst h1 h2 (rd h1 186) → h2 186 = h1 186 → h2 185 0 = z → h2 197 = h1 197 → Q h2) : mX8_keeps 186 1096 (hu h1 185 0 z) Q := by
  have e6 : hu h1 185 0 z 185 6 = h1 185 6 := hu_ne (by omega)
  refine p8_keeps (by rw [e6]; exact hn) (by omega) (by omega) fun h2 k1 k2 k3 k4 => hQ h2 (mst_keeps (fun p p1 p2 p3 p4 => hu_q p1) (fun k a b c => hu_ne (by omega)) (fun j j1 j2 => by rw [tR]) k1 k2 k3 k4) ?_ ?_ ?_
  · rw [k1 186 (by omega) (by omega)]; exact hu_q (by omega)
  · rw [k2 0 (by omega)]; exact hu_same
  · rw [k1 197 (by omega) (by omega)]; exact hu_q (by omega)
theorem okA_op {h h1 h2 : Hp} {r' : Rw} {z b : Int} (hi : inv h) (hc : cst h h1 (rd h 186) r') (ho : okS r') (hm : mst (wr h1 197 0 z) h2 (rd h 186)) (he : eqV r' (rd h2 186)) (h0 : h2 185 0 = 0) (hz : z = b) : okA 0 b h2 := by
  refine ⟨inv_op hi (cst_o hc) ho hm he, h0, fun _ => ?_⟩
  rw [rd_same (hm.1 197 (by omega) (by omega) (by omega) (by omega) (by omega)), rw_same, hz]
/-- the class's push, and what stays -/
theorem p0_push {h : Hp} {Q : Hp → Prop} (hi : inv h) (hQ : ∀ h1, cst h h1 (rd h 186) (rd h 186) → (∀ p, ¬ (39 ≤ p ∧ p ≤ 168) → p ≠ 170 → h1 p = h p) → Q h1) : mX0_add 0 h Q := by
  obtain ⟨⟨n, o⟩, -, ⟨hh, -⟩, -⟩ := hi
  exact p0_add hh n o.1.1 (by omega) fun h1 hh1 f1 => hQ h1 ⟨hh1, nets_frame n (fun p p1 p2 => f1 p (by omega) (by omega)), fun p hp => f1 p (by omega) (by omega)⟩ f1
theorem cst_n {h h1 h2 : Hp} {r r' r'' : Rw} (c : cst h h1 r r') (n : nets h2 0 r'') (f : ∀ p, 12 < p → h2 p = h1 p) : cst h h2 r r'' :=
  ⟨hist_frame c.1 (fun p hp => f p (by omega)), n, fun p hp => by rw [f p (by omega)]; exact c.2.2 p hp⟩
theorem kp_ext2 {r s : Rw} {i i2 c : Int} (h3 : s 3 = r 3) (hv : ∀ v, 1 ≤ v → v ≤ 9 → fl s i2 ((14 + v) - 1) = fl r i ((14 + v) - 1)) : kp s i2 c = kp r i c := by
  have e := lat_ext (r := r) (s := s) (i := i) (i2 := i2) hv
  have hl := lat_r (r := r) (i := i)
  unfold kp
  rw [e, h3]
  by_cases c1 : lat r i ≤ 0
  · rw [if_pos c1, if_pos c1]
  · rw [hv _ (by omega) (by omega)]
theorem hds_ext2 {r s : Rw} {i i2 v : Int} (h3 : s 3 = r 3) (h2 : s 2 = r 2) (h1 : fl s i2 1 = fl r i 1) (hv : ∀ v, 1 ≤ v → v ≤ 9 → fl s i2 ((14 + v) - 1) = fl r i ((14 + v) - 1)) : hds s i2 v = hds r i v := by
  unfold hds kept
  rw [h1, h2, kp_ext2 h3 hv]
theorem twice_map {r s : Rw} (f : Int → Int) (hr : ∀ i, 0 ≤ i → i < s 0 → 0 ≤ f i ∧ f i < r 0) (hm : ∀ i j, 0 ≤ j → j < i → i < s 0 → f j < f i) (hh : ∀ i v, 0 ≤ i → i < s 0 → hds s i v = true → hds r (f i) v = true) (hn : ∀ i j, 0 ≤ i → i < s 0 → 0 ≤ j → j < s 0 → net s i j = true → net r (f i) (f j) = true) (ht : twice r = -1) : twice s = -1 :=
  twice_mk fun v j i v1 v2 j1 j2 i2 h4 h5 h6 => twice_no ht ⟨v1, v2⟩ (hr j j1 (by omega)).1 (hm i j j1 j2 i2) (hr i (by omega) i2).2 (hn i j (by omega) i2 j1 (by omega) h4) (hh i v (by omega) i2 h5) (hh j v j1 (by omega) h6)
/-- a plan set or dropped -/
def plR (r : Rw) (x a b : Int) : Rw := sf (sf r x 3 a) x 4 b
theorem plR_h {r : Rw} {x a b k : Int} (hx : 0 ≤ x) (hk : 0 ≤ k ∧ k < 16) : plR r x a b k = r k := by unfold plR; rw [hd_sf hx (by omega) hk, hd_sf hx (by omega) hk]
theorem plR_f {r : Rw} {x a b i j : Int} (hx : 0 ≤ x) (hi : 0 ≤ i) (hj : 0 ≤ j ∧ j < 24) : fl (plR r x a b) i j = if i = x ∧ j = 4 then b else if i = x ∧ j = 3 then a else fl r i j := by unfold plR; rw [fl_sf hx (by omega) hi hj, fl_sf hx (by omega) hi hj]
theorem plR_r {r : Rw} {x a b i j : Int} (hx : 0 ≤ x ∧ x < 40) (hi : 0 ≤ i) (hj : 0 ≤ j) : rl (plR r x a b) i j = rl r i j := by unfold plR; rw [rl_sf hx (by omega) hi hj, rl_sf hx (by omega) hi hj]
theorem plR_n {r : Rw} {x a b i j : Int} (hx : 0 ≤ x) (hi : 0 ≤ i) (hj : 0 ≤ j ∧ j < 24) (hn : j ≠ 3 ∧ j ≠ 4) : fl (plR r x a b) i j = fl r i j := by rw [plR_f hx hi hj, if_neg (by omega), if_neg (by omega)]
theorem plR_okS {r : Rw} {x a b : Int} (ho : okS r) (hx : 0 ≤ x ∧ x < r 0) (hb : 0 ≤ b ∧ b ≤ 9) (ha : (b = 0 ∧ a = 0) ∨ (1 ≤ a ∧ a ≤ 250)) : okS (plR r x a b) ∨ (b = 0 ∧ ¬ a = 0) := by
  by_cases hab : b = 0 ∧ ¬ a = 0
  · exact Or.inr hab
  refine Or.inl ?_
  have o1 := ho.1.1
  unfold okR at o1
  have hh : ∀ k, 0 ≤ k → k < 16 → plR r x a b k = r k := fun k k1 k2 => plR_h hx.1 ⟨k1, k2⟩
  have e0 := hh 0 (by omega) (by omega)
  have e1 := hh 1 (by omega) (by omega)
  have e2 := hh 2 (by omega) (by omega)
  have e3 := hh 3 (by omega) (by omega)
  have e4 := hh 4 (by omega) (by omega)
  have e5 := hh 5 (by omega) (by omega)
  have e6 := hh 6 (by omega) (by omega)
  have e7 := hh 7 (by omega) (by omega)
  obtain ⟨⟨a1, a2, a3, a4, a5, a6⟩, ht, hP⟩ := ho
  have f3 : ∀ i, 0 ≤ i → fl (plR r x a b) i 3 = if i = x then a else fl r i 3 := fun i i1 => by
    rw [plR_f hx.1 i1 (by omega), if_neg (by omega)]
    by_cases c : i = x
    · rw [if_pos ⟨c, rfl⟩, if_pos c]
    · rw [if_neg (fun w => c w.1), if_neg c]
  have f4 : ∀ i, 0 ≤ i → fl (plR r x a b) i 4 = if i = x then b else fl r i 4 := fun i i1 => by
    rw [plR_f hx.1 i1 (by omega)]
    by_cases c : i = x
    · rw [if_pos ⟨c, rfl⟩, if_pos c]
    · rw [if_neg (fun w => c w.1), if_neg (by omega), if_neg c]
  refine ⟨⟨by unfold okR; omega, by omega, by omega, by omega, fun i i1 i2 => ?_, fun k k1 k2 => ?_⟩, ?_, fun i i1 i2 h4 => ?_⟩
  · rw [e0] at i2
    obtain ⟨c1, c2, c3, c4, c5, c6, c7, c8, c9⟩ := a5 i i1 i2
    unfold okH
    rw [f3 i i1, f4 i i1, plR_n hx.1 i1 (by omega) (by omega), plR_n hx.1 i1 (by omega) (by omega), plR_n hx.1 i1 (by omega) (by omega), plR_n hx.1 i1 (by omega) (by omega), e2]
    refine ⟨c1, c2, c3, ?_, ?_, ?_, c7, fun k k1 k2 => ?_, fun w w1 w2 => ?_⟩
    · split <;> omega
    · split <;> omega
    · split <;> omega
    · rw [plR_n hx.1 i1 (by omega) (by omega)]; exact c8 k k1 k2
    · rw [plR_n hx.1 i1 (by omega) (by omega)]; exact c9 w w1 w2
  · rw [e1] at k2
    exact okU_ext (a6 k k1 k2) (fun j j1 j2 => plR_r ⟨hx.1, by omega⟩ k1 j1)
  · refine twice_map (fun i => i) (fun i i1 i2 => ⟨i1, by omega⟩) (fun i j _ q _ => q) (fun i v i1 i2 q => ?_) (fun i j i1 i2 j1 j2 q => ?_) ht
    · rw [hds_ext2 (r := r) (i := i) e3 e2 (plR_n hx.1 i1 (by omega) (by omega)) (fun v v1 v2 => plR_n hx.1 i1 (by omega) (by omega))] at q
      exact q
    · unfold net at q ⊢
      rw [e7, plR_n hx.1 i1 (by omega) (by omega), plR_n hx.1 j1 (by omega) (by omega)] at q
      exact q
  · rw [f4 i i1] at h4
    rw [f3 i i1]
    by_cases c : i = x
    · rw [if_pos c] at h4 ⊢; omega
    · rw [if_neg c] at h4 ⊢; exact hP i i1 (by omega) h4
theorem cn_upd {p q : Int → Bool} {x b : Int} : ∀ a, a ≤ x → x < b → (∀ i, a ≤ i → i < b → i ≠ x → p i = q i) → cn q a b = cn p a b - b2i (p x) + b2i (q x) := by
  refine upI (b := b) (fun a h h1 h2 => by omega) (fun a h ih h1 h2 hc => ?_)
  rw [cn_step h, cn_step h]
  have b1 : ∀ c : Bool, (if c = true then (1 : Int) else 0) = b2i c := fun c => by cases c <;> rfl
  rw [b1, b1]
  by_cases e : a = x
  · subst e
    rw [cn_congr (p := q) (q := p) (a + 1) (fun i i1 i2 => (hc i (by omega) i2 (by omega)).symm)]
    omega
  · rw [ih (by omega) h2 (fun i i1 i2 => hc i (by omega) i2), hc a (Int.le_refl a) h e]
    omega
theorem c_plan {x v w : Int} {h : Hp} (hi : inv h) : mL_plan x v w h (fun k h1 => mX8_plan x v w h1 (fun b h2 => okA k b h2)) := by
  obtain ⟨⟨n, o⟩, -, ⟨hh, -⟩, -⟩ := id hi
  have o1 := o.1.1
  unfold okR at o1
  have o4 := o.1.2.1
  have bad : (0 ≤ x ∧ x < rd h 186 0) → ¬ ((1 ≤ v ∧ v ≤ 250) ∧ 1 ≤ w ∧ w ≤ 9) → mX8_plan x v w h (fun b h2 => okA 2 b h2) := by
    intro hx hvw
    unfold mX8_plan mX8_isNumber mX8_isWave mX8_plan_b37
    intro g eg
    rw [eg]
    have go : mX8_plan_b38 (fun b h2 => okA 2 b h2) x v w 0 (hu h 185 0 0) := by
      unfold mX8_plan_b38
      exact p8_fails t0 (by omega) (fun c => absurd rfl c) (fun _ => ⟨fun c => absurd c (by decide), fun _ => okA_x hi (by omega)⟩)
    refine p8_hostF (by rw [tR]; exact o.1.1) t0 (by omega) (fun _ => ⟨fun c => absurd rfl c, fun _ => p8_in ⟨fun _ => go, fun e => p8_in ⟨fun _ => go, fun e2 => ?_⟩⟩⟩) (fun c => absurd (by rw [tR]; exact hx) c)
    exact absurd ⟨of_decide_eq_true (b2i1.mp e), of_decide_eq_true (b2i1.mp e2)⟩ hvw
  unfold mL_plan mX7_plan
  refine p7_needHost n.1.1 (fun hx => p7_needNumber (fun hv => p7_needWave (fun hw => ?_) (fun hw => Or.inr ⟨rfl, bad hx (fun q => hw q.2)⟩)) (fun hv => Or.inr ⟨rfl, bad hx (fun q => hv q.1)⟩)) (fun hx => Or.inl ⟨rfl, ?_⟩)
  · obtain ⟨c1, c2, c3, c4, c5, c6, c7, c8⟩ := n.2.1 x hx.1 hx.2
    have hO := o.1.2.2.2.2.1 x hx.1 hx.2
    unfold okH at hO
    have hpl := cn_r (fun i => decide (fl (rd h 186) i 4 = w)) (b := rd h 186 0) 0 o1.1.1
    -- the reference up to its decision
    have pre : ∀ (g : Hp) (Q : Int → Hp → Prop), rd g 186 = rd h 186 → (fl (rd h 186) x 2 = 1 → Q (-2) (hu g 185 0 0)) → (¬ fl (rd h 186) x 2 = 1 → w ≤ rd h 186 2 → Q (-3) (hu g 185 0 0)) → (¬ fl (rd h 186) x 2 = 1 → rd h 186 2 < w → mX8_plan_b97 Q x v w (if fl (rd h 186) x 4 = w then 1 else 0) (pln (rd h 186) w) (hu g 185 0 0)) → mX8_plan x v w g Q := by
      intro g Q hg q1 q2 q3
      unfold mX8_plan mX8_isNumber mX8_isWave
      intro a e
      rw [e]
      have hr : rd (hu g 185 0 0) 186 = rd h 186 := by rw [tR, hg]
      refine p8_hostF (by rw [hr]; exact o.1.1) t0 (by omega) (fun _ => ⟨fun c => absurd rfl c, fun _ => p8_in ?_⟩) (fun c => absurd (by rw [hr]; exact hx) c)
      rw [decide_eq_true hv]
      refine ⟨fun c => absurd c (by decide), fun _ => p8_in ?_⟩
      rw [decide_eq_true hw]
      refine ⟨fun c => absurd c (by decide), fun _ => ?_⟩
      unfold mX8_plan_b38
      refine p8_fails t0 (by omega) (fun _ => ⟨fun _ => p8_of ⟨hx.1, by omega⟩ (by omega) ?_, fun c => absurd rfl c⟩) (fun c => absurd c (by decide))
      rw [hr]
      refine ⟨fun d => ⟨by omega, fun d2 => p8_plansIn (by rw [hr]; exact o1.1) (p8_of ⟨hx.1, by omega⟩ (by omega) ?_), fun d2 => q2 d (by omega)⟩, q1⟩
      rw [hr]
      have go := q3 d d2
      refine ⟨fun d3 => ?_, fun d3 => ?_⟩
      · rw [if_neg d3] at go; exact go
      · rw [if_pos d3] at go; exact go
    rw [c4, c6, n.1.2.2.1]
    refine ⟨⟨hx.1, by omega⟩, fun d => ⟨fun d2 => p3_plansIn n o.1 ?_, fun d2 => ⟨by omega, fun h4 e => ?_⟩⟩, fun d => ⟨by omega, fun h4 e => ?_⟩⟩
    · have body : ∀ s, s = (if fl (rd h 186) x 4 = w then 1 else 0) → mX7_plan_b69 (fun z4 h5 => ((0 : Int) ≤ 0 ∧ (0 : Int) < 1) ∧ ∀ h6 : Hp, h6 = wr h5 197 0 z4 → mX8_plan x v w h6 (fun b h2 => okA 0 b h2)) (fun y h5 => y = 1 ∧ mX8_plan x v w h5 (fun b h2 => okA 1 b h2) ∨ y = 0 ∧ mX8_plan x v w h5 (fun b h2 => okA 2 b h2)) x v w s (cn (fun i => decide (fl (rd h 186) i 4 = w)) 0 (rd h 186 0)) h := by
        intro s hs
        have hs2 : s = 0 ∨ s = 1 := by rw [hs]; split <;> omega
        unfold mX7_plan_b69
        rw [n.1.2.2.2.2.1]
        refine ⟨zri (by omega) (by omega), fun d3 => p0_push hi fun g1 cg fg1 => p3_setPlan cg.2.1 o.1.1 hx fun g2 n2 f2 => ⟨zri (by omega) (by omega), by omega, fun h6 e => ?_⟩, fun d3 => ⟨by omega, fun h6 e => ?_⟩⟩
        · rw [e]
          have cs : cst h g2 (rd h 186) (plR (rd h 186) x v w) := cst_n cg n2 (fun p hp => f2 p (by omega) (by omega))
          have r2 : rd g2 186 = rd h 186 := rd_ne (cs.2.2 186 (by omega))
          have e6 : g2 185 6 = h 185 6 := by rw [cs.2.2 185 (by omega)]
          have okn : okS (plR (rd h 186) x v w) := by
            rcases plR_okS (a := v) (b := w) o hx (by omega) (by omega) with q | q
            · exact q
            · omega
          refine pre _ _ (by rw [oR, r2]) (fun q => absurd q d) (fun _ q => by omega) (fun _ _ => ?_)
          unfold mX8_plan_b97
          rw [← hs]
          have hr : rd (hu (wr g2 197 0 (cn (fun i => decide (fl (rd h 186) i 4 = w)) 0 (rd h 186 0) - s + 1)) 185 0 0) 186 = rd h 186 := by rw [tR, oR, r2]
          rw [hr]
          refine ⟨zri (by unfold pln; omega) (by unfold pln; omega), by omega, fun _ => p8_push (by rw [wr_q (by omega), e6]; exact hh.2.1) fun a1 m1 ma m0 mo => p8_put ⟨hx.1, by omega⟩ (by omega) fun a2 ra2 fa2 => p8_put ⟨hx.1, by omega⟩ (by omega) fun a3 ra3 fa3 => ?_, fun q => absurd d3 q⟩
          have ra1 : rd a1 186 = rd h 186 := by rw [rd_ne ma, oR, r2]
          have ra : rd a3 186 = plR (rd h 186) x v w := by rw [ra3, ra2, ra1]; rfl
          have m3 : mst (wr g2 197 0 (cn (fun i => decide (fl (rd h 186) i 4 = w)) 0 (rd h 186 0) - s + 1)) a3 (rd h 186) := by
            have := mst_w (mst_w m1 fa2) fa3
            rw [oR, r2] at this
            exact this
          refine p8_plansIn (by rw [ra, plR_h hx.1 (by omega)]; exact o1.1) (okA_op hi cs okn m3 (by rw [ra]; exact ev_rfl) (by rw [fa3 185 (by omega), fa2 185 (by omega)]; exact m0) ?_)
          rw [ra, plR_h hx.1 (by omega)]
          have hu2 := cn_upd (p := fun i => decide (fl (rd h 186) i 4 = w)) (q := fun i => decide (fl (plR (rd h 186) x v w) i 4 = w)) (x := x) (b := rd h 186 0) 0 hx.1 hx.2 (fun i i1 i2 i3 => by rw [plR_f hx.1 i1 (by omega), if_neg (fun q => i3 q.1), if_neg (fun q => i3 q.1)])
          rw [hu2, plR_f hx.1 hx.1 (by omega), if_pos ⟨rfl, rfl⟩, decide_eq_true (rfl : w = w), hs, b2i_t]
          by_cases q : fl (rd h 186) x 4 = w
          · rw [if_pos q, decide_eq_true q, b2i_t]
          · rw [if_neg q, decide_eq_false q, b2i_f]
        · rw [e]
          refine pre _ _ oR (fun q => absurd q d) (fun _ q => by omega) (fun _ _ => ?_)
          unfold mX8_plan_b97
          rw [← hs]
          have hr : rd (hu (wr h 197 0 (-4)) 185 0 0) 186 = rd h 186 := by rw [tR, oR]
          rw [hr]
          exact ⟨zri (by unfold pln; omega) (by unfold pln; omega), by omega, fun q => absurd q d3, fun _ => okA_v hi rfl⟩
      exact ⟨⟨hx.1, by omega⟩, fun q => body 0 (by rw [if_neg q]), fun q => body 1 (by rw [if_pos q])⟩
    · rw [e]
      exact pre _ _ oR (fun q => absurd q d) (fun _ _ => okA_v hi rfl) (fun _ q => absurd q d2)
    · rw [e]
      exact pre _ _ oR (fun _ => okA_v hi rfl) (fun q => absurd d q) (fun q => absurd d q)
  · unfold mX8_plan
    intro a e
    rw [e]
    exact p8_hostF (by rw [tR]; exact o.1.1) t0 (by omega) (fun c => absurd (by rw [tR] at c; exact c) hx) (fun _ => ⟨fun _ => okA_x hi (by omega), fun c => absurd c (by decide)⟩)
