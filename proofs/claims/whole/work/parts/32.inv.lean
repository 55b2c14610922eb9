/-! what holds between the class and the reference at each call -/
def bt (z : Int) : Int := if z < 128 then z else z - 256
def invS (h : Hp) : Prop := h 169 3 = h 185 7 ∧ (h 185 7 = 0 ∨ h 185 7 = 1) ∧ (h 185 7 = 1 → nets h 26 (rd h 188) ∧ okS (rd h 188))
def invH (h : Hp) : Prop := hist h (h 185 6) (bf h) ∧ ∀ k, 0 ≤ k → k < h 185 6 → okS (bf h k)
def invT (h : Hp) : Prop := h 176 1 = h 185 9 ∧ (0 ≤ h 185 9 ∧ h 185 9 ≤ 900) ∧ ∀ i, 0 ≤ i → i < h 185 9 → (0 ≤ rd h 191 i ∧ rd h 191 i ≤ 255) ∧ rd h 177 i = bt (rd h 191 i)
def invL (h : Hp) : Prop := h 183 1 = h 185 22 ∧ (0 ≤ h 185 22 ∧ h 185 22 ≤ 32) ∧ ∀ i, 0 ≤ i → i < h 185 22 → rd h 184 i = rd h 193 i
def inv (h : Hp) : Prop := (nets h 0 (rd h 186) ∧ okS (rd h 186)) ∧ invS h ∧ invH h ∧ invT h ∧ h 169 10 = h 185 17 ∧ invL h
/-- places that calls may leave otherwise -/
def perm (p : Nat) : Prop := p ≤ 12 ∨ (26 ≤ p ∧ p ≤ 170) ∨ p = 176 ∨ p = 177 ∨ p = 183 ∨ p = 184 ∨ p = 188 ∨ p = 190 ∨ p = 191 ∨ p = 193
theorem inv_fr {h h' : Hp} (hi : inv h) (hp : ∀ p, perm p → h' p = h p) (h6 : h' 185 6 = h 185 6) (h7 : h' 185 7 = h 185 7) (h9 : h' 185 9 = h 185 9) (h17 : h' 185 17 = h 185 17) (h22 : h' 185 22 = h 185 22) (he : eqV (rd h 186) (rd h' 186)) : inv h' := by
  obtain ⟨⟨a1, a2⟩, ⟨b1, b2, b3⟩, ⟨c1, c2⟩, ⟨d1, d2, d3⟩, e1, f1, f2, f3⟩ := hi
  have q : ∀ p, perm p → h' p = h p := hp
  have eb : bf h' = bf h := bf_ne (q 190 (by unfold perm; omega))
  refine ⟨⟨nets_eqV (nets_frame a1 (fun p p1 p2 => q p (by unfold perm; omega))) he, okS_eqV a2 he⟩, ⟨?_, ?_, fun hs => ?_⟩, ⟨?_, fun k k1 k2 => ?_⟩, ⟨?_, ?_, fun i i1 i2 => ?_⟩, ?_, ?_, ?_, fun i i1 i2 => ?_⟩
  · rw [q 169 (by unfold perm; omega), h7]; exact b1
  · rw [h7]; exact b2
  · rw [h7] at hs
    rw [rd_ne (q 188 (by unfold perm; omega))]
    exact ⟨nets_frame (b3 hs).1 (fun p p1 p2 => q p (by unfold perm; omega)), (b3 hs).2⟩
  · rw [h6, eb]; exact hist_frame c1 (fun p p1 => q p (by unfold perm; omega))
  · rw [h6] at k2; rw [eb]; exact c2 k k1 k2
  · rw [q 176 (by unfold perm; omega), h9]; exact d1
  · rw [h9]; exact d2
  · rw [h9] at i2
    rw [rd_same (q 191 (by unfold perm; omega)), rd_same (q 177 (by unfold perm; omega))]
    exact d3 i i1 i2
  · rw [q 169 (by unfold perm; omega), h17]; exact e1
  · rw [q 183 (by unfold perm; omega), h22]; exact f1
  · rw [h22]; exact f2
  · rw [h22] at i2
    rw [rd_same (q 184 (by unfold perm; omega)), rd_same (q 193 (by unfold perm; omega))]
    exact f3 i i1 i2
theorem inv_t {h : Hp} {z : Int} (hi : inv h) : inv (hu h 185 0 z) :=
  inv_fr hi (fun p hp => hu_q (by unfold perm at hp; omega)) (hu_ne (by omega)) (hu_ne (by omega)) (hu_ne (by omega)) (hu_ne (by omega)) (hu_ne (by omega)) (by rw [rd_hu (by omega)]; exact ev_rfl)
theorem inv_o {h : Hp} {z : Int} (hi : inv h) : inv (wr h 197 0 z) :=
  inv_fr hi (fun p hp => wr_q (by unfold perm at hp; omega)) (by rw [wr_q (by omega)]) (by rw [wr_q (by omega)]) (by rw [wr_q (by omega)]) (by rw [wr_q (by omega)]) (by rw [wr_q (by omega)]) (by rw [rd_ne (wr_q (by omega))]; exact ev_rfl)
/-- scratch of the class -/
theorem inv_c {h h' : Hp} (hi : inv h) (hp : ∀ p, ¬ (13 ≤ p ∧ p ≤ 25) → ¬ (171 ≤ p ∧ p ≤ 175) → ¬ (178 ≤ p ∧ p ≤ 182) → h' p = h p) : inv h' :=
  inv_fr hi (fun p hq => hp p (by unfold perm at hq; omega) (by unfold perm at hq; omega) (by unfold perm at hq; omega)) (by rw [hp 185 (by omega) (by omega) (by omega)]) (by rw [hp 185 (by omega) (by omega) (by omega)]) (by rw [hp 185 (by omega) (by omega) (by omega)]) (by rw [hp 185 (by omega) (by omega) (by omega)]) (by rw [hp 185 (by omega) (by omega) (by omega)]) (by rw [rd_ne (hp 186 (by omega) (by omega) (by omega))]; exact ev_rfl)
/-- what one call of the law wants -/
def okA (k b : Int) (h : Hp) : Prop := inv h ∧ h 185 0 = k ∧ (k = 0 → rd h 197 0 = b)
theorem p7_needHost {x : Int} {h : Hp} {Q : Prop} {QX : Nat → Prop} {r : Rw} (e : h 0 0 = r 0) (h1 : 0 ≤ x ∧ x < r 0 → Q) (h2 : ¬ (0 ≤ x ∧ x < r 0) → QX 1) : mX7_needHost x h Q QX := by
  unfold mX7_needHost
  rw [e]
  exact ⟨fun c => h2 (by omega), fun c => ⟨fun d => h1 (by omega), fun d => h2 (by omega)⟩⟩
theorem p7_needRule {x : Int} {h : Hp} {Q : Prop} {QX : Nat → Prop} {r : Rw} (e : h 0 1 = r 1) (h1 : 0 ≤ x ∧ x < r 1 → Q) (h2 : ¬ (0 ≤ x ∧ x < r 1) → QX 1) : mX7_needRule x h Q QX := by
  unfold mX7_needRule
  rw [e]
  exact ⟨fun c => h2 (by omega), fun c => ⟨fun d => h1 (by omega), fun d => h2 (by omega)⟩⟩
theorem p7_needOffice {x : Int} {h : Hp} {Q : Prop} {QX : Nat → Prop} (h1 : 0 ≤ x ∧ x ≤ 1 → Q) (h2 : ¬ (0 ≤ x ∧ x ≤ 1) → QX 1) : mX7_needOffice x h Q QX := by
  unfold mX7_needOffice
  exact ⟨fun c => h2 (by omega), fun c => ⟨fun d => h1 (by omega), fun d => h2 (by omega)⟩⟩
theorem p7_needNumber {x : Int} {h : Hp} {Q : Prop} {QX : Nat → Prop} (h1 : 1 ≤ x ∧ x ≤ 250 → Q) (h2 : ¬ (1 ≤ x ∧ x ≤ 250) → QX 0) : mX7_needNumber x h Q QX := by
  unfold mX7_needNumber
  exact ⟨fun c => h2 (by omega), fun c => ⟨fun d => h1 (by omega), fun d => h2 (by omega)⟩⟩
theorem p7_needSide {x : Int} {h : Hp} {Q : Prop} {QX : Nat → Prop} (h1 : 0 ≤ x ∧ x ≤ 250 → Q) (h2 : ¬ (0 ≤ x ∧ x ≤ 250) → QX 0) : mX7_needSide x h Q QX := by
  unfold mX7_needSide
  exact ⟨fun c => h2 (by omega), fun c => ⟨fun d => h1 (by omega), fun d => h2 (by omega)⟩⟩
theorem p7_needWave {x : Int} {h : Hp} {Q : Prop} {QX : Nat → Prop} (h1 : 1 ≤ x ∧ x ≤ 9 → Q) (h2 : ¬ (1 ≤ x ∧ x ≤ 9) → QX 0) : mX7_needWave x h Q QX := by
  unfold mX7_needWave
  exact ⟨fun c => h2 (by omega), fun c => ⟨fun d => h1 (by omega), fun d => h2 (by omega)⟩⟩
/-- a range test, and what fails with it -/
theorem p8_inF {x a b k : Int} {h : Hp} {K : Int → Hp → Prop} (h0 : h 185 0 = 0) (hk : ¬ k = 0) (h1 : a ≤ x ∧ x ≤ b → K 0 h) (h2 : ¬ (a ≤ x ∧ x ≤ b) → K 1 (hu h 185 0 k)) : mX8_in x a b h (fun z => mX8_fails z k h K) :=
  p8_in (p8_fails h0 hk (fun c => h1 (of_decide_eq_true (b2i1.mp c))) (fun c => h2 (of_decide_eq_false (b2i0.mp c))))
theorem p8_isHost {x : Int} {h : Hp} {Q : Int → Prop} (ho : okR (rd h 186)) (hQ : Q (b2i (decide (0 ≤ x ∧ x < rd h 186 0)))) : mX8_isHost x h Q := by
  unfold okR at ho
  unfold mX8_isHost
  refine ⟨⟨by omega, by omega⟩, zri (by omega) (by omega), p8_in ?_⟩
  have e : decide (0 ≤ x ∧ x ≤ rd h 186 0 - 1) = decide (0 ≤ x ∧ x < rd h 186 0) := decide_eq_decide.mpr (by omega)
  rw [e]
  exact hQ
theorem p8_isRule {x : Int} {h : Hp} {Q : Int → Prop} (ho : okR (rd h 186)) (hQ : Q (b2i (decide (0 ≤ x ∧ x < rd h 186 1)))) : mX8_isRule x h Q := by
  unfold okR at ho
  unfold mX8_isRule
  refine ⟨⟨by omega, by omega⟩, zri (by omega) (by omega), p8_in ?_⟩
  have e : decide (0 ≤ x ∧ x ≤ rd h 186 1 - 1) = decide (0 ≤ x ∧ x < rd h 186 1) := decide_eq_decide.mpr (by omega)
  rw [e]
  exact hQ
theorem p8_hostF {x k : Int} {h : Hp} {K : Int → Hp → Prop} (ho : okR (rd h 186)) (h0 : h 185 0 = 0) (hk : ¬ k = 0) (h1 : 0 ≤ x ∧ x < rd h 186 0 → K 0 h) (h2 : ¬ (0 ≤ x ∧ x < rd h 186 0) → K 1 (hu h 185 0 k)) : mX8_isHost x h (fun z => mX8_fails z k h K) :=
  p8_isHost ho (p8_fails h0 hk (fun c => h1 (of_decide_eq_true (b2i1.mp c))) (fun c => h2 (of_decide_eq_false (b2i0.mp c))))
theorem p8_ruleF {x k : Int} {h : Hp} {K : Int → Hp → Prop} (ho : okR (rd h 186)) (h0 : h 185 0 = 0) (hk : ¬ k = 0) (h1 : 0 ≤ x ∧ x < rd h 186 1 → K 0 h) (h2 : ¬ (0 ≤ x ∧ x < rd h 186 1) → K 1 (hu h 185 0 k)) : mX8_isRule x h (fun z => mX8_fails z k h K) :=
  p8_isRule ho (p8_fails h0 hk (fun c => h1 (of_decide_eq_true (b2i1.mp c))) (fun c => h2 (of_decide_eq_false (b2i0.mp c))))
/-- both refuse: nothing has changed -/
theorem okA_x {h : Hp} {k b z : Int} (hi : inv h) (hk : ¬ k = 0) : okA k b (hu (hu h 185 0 z) 185 0 k) := ⟨inv_t (inv_t hi), hu_same, fun c => absurd c hk⟩
theorem okA_v {h : Hp} {b z : Int} (hi : inv h) (e : z = b) : okA 0 b (hu (wr h 197 0 z) 185 0 0) := ⟨inv_t (inv_o hi), hu_same, fun _ => by rw [rd_same (hu_q (by omega)), rw_same, e]⟩
theorem t0 {h : Hp} {z : Int} : hu h 185 0 z 185 0 = z := hu_same
theorem tR {h : Hp} {z : Int} : rd (hu h 185 0 z) 186 = rd h 186 := rd_hu (by omega)
theorem oR {h : Hp} {z : Int} : rd (wr h 197 0 z) 186 = rd h 186 := rd_ne (wr_q (by omega))
/-! host, rule, size, name, plans, holder -/
theorem c_plans {x : Int} {h : Hp} (hi : inv h) : mL_plans x h (fun k h1 => mX8_plans x h1 (fun b h2 => okA k b h2)) := by
  obtain ⟨⟨n, o⟩, -⟩ := id hi
  unfold mL_plans mX7_plans
  refine p7_needWave (fun hx => p3_plansIn n o.1 ⟨by omega, fun h4 e => ?_⟩) (fun hx => ⟨rfl, ?_⟩)
  · rw [e]
    unfold mX8_plans mX8_isWave
    intro g eg
    rw [eg]
    refine p8_inF t0 (by omega) (fun _ => ⟨fun _ => p8_plansIn (by rw [tR, oR]; exact o.1.1.1) ?_, fun c => absurd rfl c⟩) (fun c => absurd hx c)
    rw [tR, oR]
    exact okA_v hi rfl
  · unfold mX8_plans mX8_isWave
    intro g eg
    rw [eg]
    exact p8_inF t0 (by omega) (fun c => absurd c hx) (fun _ => ⟨fun c => absurd c (by decide), fun _ => okA_x hi (by omega)⟩)
theorem c_host {x y : Int} {h : Hp} (hi : inv h) : mL_host x y h (fun k h1 => mX8_host x y h1 (fun b h2 => okA k b h2)) := by
  obtain ⟨⟨n, o⟩, -⟩ := id hi
  have oR1 := o.1.1
  have oR1' := o.1.1
  unfold okR at oR1'
  unfold mL_host mX7_host
  have bad : ¬ ((0 ≤ x ∧ x < rd h 186 0) ∧ 0 ≤ y ∧ y ≤ 6) → mX8_host x y h (fun b h2 => okA 1 b h2) := by
    intro hb
    unfold mX8_host mX8_host_b30 mX8_host_b31
    intro g eg
    rw [eg]
    have go : mX8_fails 0 1 (hu h 185 0 0) (fun z22 h23 => ((z22 = 0 → ((y = 0 → (mX8_of x 0 h23 (fun z24 => (okA 1 z24 h23)))) ∧ (y = 1 → (mX8_of x 1 h23 (fun z25 => (okA 1 z25 h23)))) ∧ (y = 2 → (mX8_kept x h23 (fun z26 => (okA 1 z26 h23)))) ∧ (y = 3 → (mX8_of x 2 h23 (fun z27 => (okA 1 z27 h23)))) ∧ (y = 4 → (mX8_of x 3 h23 (fun z28 => (okA 1 z28 h23)))) ∧ (y = 5 → (mX8_of x 4 h23 (fun z29 => (okA 1 z29 h23)))) ∧ ((y < 0 ∨ 5 < y) → (mX8_latest x h23 (fun z30 => (okA 1 z30 h23)))))) ∧ (¬ z22 = 0 → (okA 1 0 h23)))) :=
      p8_fails t0 (by omega) (fun c => absurd rfl c) (fun _ => ⟨fun c => absurd c (by decide), fun _ => okA_x hi (by omega)⟩)
    refine p8_isHost (by rw [tR]; exact oR1) ⟨fun _ => go, fun c => p8_in ⟨fun _ => go, fun d => ?_⟩⟩
    have c' := of_decide_eq_true (b2i1.mp c)
    have d' := of_decide_eq_true (b2i1.mp d)
    rw [tR] at c'
    exact absurd ⟨c', d'⟩ hb
  have good : ∀ z, (0 ≤ x ∧ x < rd h 186 0) → (0 ≤ y ∧ y ≤ 6) → z = (if y = 0 then fl (rd h 186) x 0 else if y = 1 then fl (rd h 186) x 1 else if y = 2 then kept (rd h 186) x else if y = 3 then fl (rd h 186) x 2 else if y = 4 then fl (rd h 186) x 3 else if y = 5 then fl (rd h 186) x 4 else lat (rd h 186) x) → mX8_host x y (wr h 197 0 z) (fun b h2 => okA 0 b h2) := by
    intro z hx hy hz
    unfold mX8_host mX8_host_b30 mX8_host_b31
    intro g eg
    rw [eg]
    have hr : rd (hu (wr h 197 0 z) 185 0 0) 186 = rd h 186 := by rw [tR, oR]
    refine p8_isHost (by rw [hr]; exact oR1) ?_
    rw [hr, decide_eq_true hx]
    refine ⟨fun c => absurd c (by decide), fun _ => p8_in ?_⟩
    rw [decide_eq_true hy]
    refine ⟨fun c => absurd c (by decide), fun _ => p8_fails t0 (by omega) (fun _ => ⟨fun _ => ?_, fun c => absurd rfl c⟩) (fun c => absurd c (by decide))⟩
    have hx4 : 0 ≤ x ∧ x < 40 := by omega
    refine ⟨fun c => p8_of hx4 (by omega) (okA_v hi ?_), fun c => p8_of hx4 (by omega) (okA_v hi ?_), fun c => p8_kept (by rw [hr]; exact oR1) hx4 (okA_v hi ?_), fun c => p8_of hx4 (by omega) (okA_v hi ?_), fun c => p8_of hx4 (by omega) (okA_v hi ?_), fun c => p8_of hx4 (by omega) (okA_v hi ?_), fun c => p8_latest hx4 (okA_v hi ?_)⟩
    · rw [hr, hz, if_pos c]
    · rw [hr, hz, if_neg (by omega), if_pos c]
    · rw [hr, hz, if_neg (by omega), if_neg (by omega), if_pos c]
    · rw [hr, hz, if_neg (by omega), if_neg (by omega), if_neg (by omega), if_pos c]
    · rw [hr, hz, if_neg (by omega), if_neg (by omega), if_neg (by omega), if_neg (by omega), if_pos c]
    · rw [hr, hz, if_neg (by omega), if_neg (by omega), if_neg (by omega), if_neg (by omega), if_neg (by omega), if_pos c]
    · rw [hr, hz, if_neg (by omega), if_neg (by omega), if_neg (by omega), if_neg (by omega), if_neg (by omega), if_neg (by omega)]
  refine p7_needHost n.1.1 (fun hx => ?_) (fun hx => ⟨rfl, bad (fun w => hx w.1)⟩)
  obtain ⟨e1, e2, e3, e4, e5, e6, e7, -⟩ := n.2.1 x hx.1 hx.2
  have hx4 : 0 ≤ x ∧ x < 40 := by omega
  refine ⟨fun c => ⟨hx4, ⟨by omega, fun h4 e => ?_⟩⟩, fun c => ⟨hx4, ⟨by omega, fun h4 e => ?_⟩⟩, fun c => p3_keptBy n o.1 hx ⟨by omega, fun h4 e => ?_⟩, fun c => ⟨hx4, ⟨by omega, fun h4 e => ?_⟩⟩, fun c => ⟨hx4, ⟨by omega, fun h4 e => ?_⟩⟩, fun c => ⟨hx4, ⟨by omega, fun h4 e => ?_⟩⟩, fun c => ⟨hx4, ⟨by omega, fun h4 e => ?_⟩⟩, fun c => ⟨rfl, bad (fun w => by omega)⟩⟩
  · rw [e]; exact good _ hx (by omega) (by rw [if_pos c]; exact e2)
  · rw [e]; exact good _ hx (by omega) (by rw [if_neg (by omega), if_pos c]; exact e3)
  · rw [e]; exact good _ hx (by omega) (by rw [if_neg (by omega), if_neg (by omega), if_pos c])
  · rw [e]; exact good _ hx (by omega) (by rw [if_neg (by omega), if_neg (by omega), if_neg (by omega), if_pos c]; exact e4)
  · rw [e]; exact good _ hx (by omega) (by rw [if_neg (by omega), if_neg (by omega), if_neg (by omega), if_neg (by omega), if_pos c]; exact e5)
  · rw [e]; exact good _ hx (by omega) (by rw [if_neg (by omega), if_neg (by omega), if_neg (by omega), if_neg (by omega), if_neg (by omega), if_pos c]; exact e6)
  · rw [e]; exact good _ hx (by omega) (by rw [if_neg (by omega), if_neg (by omega), if_neg (by omega), if_neg (by omega), if_neg (by omega), if_neg (by omega)]; exact e7)
