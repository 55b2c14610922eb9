/-! the class's state by a row, and its calls -/
def st (h : Hp) (r : Rw) : Prop := nets h 0 r ∧ okS r ∧ ∃ n b, hist h n b
/-- the law's own places stay -/
def fr (h h' : Hp) : Prop := ∀ p, 185 ≤ p → h' p = h p
/-- all but the tally stays -/
def sm (h h' : Hp) : Prop := ∀ p, p ≠ 173 → p ≠ 174 → p ≠ 175 → h' p = h p
theorem fr_rf {h : Hp} : fr h h := fun _ _ => rfl
theorem fr_tr {h a c : Hp} (x : fr h a) (y : fr a c) : fr h c := fun p hp => (y p hp).trans (x p hp)
theorem sm_rf {h : Hp} : sm h h := fun _ _ _ _ => rfl
theorem sm_tr {h a c : Hp} (x : sm h a) (y : sm a c) : sm h c := fun p h1 h2 h3 => (y p h1 h2 h3).trans (x p h1 h2 h3)
theorem sm_fr {h h' : Hp} (x : sm h h') : fr h h' := fun p hp => x p (by omega) (by omega) (by omega)
theorem st_mv {h h' : Hp} {r : Rw} (s : st h r) (hf : ∀ p, p ≤ 12 ∨ (39 ≤ p ∧ p ≤ 168) ∨ p = 170 → h' p = h p) : st h' r := by
  obtain ⟨n, o, k, b, hh⟩ := s
  exact ⟨nets_frame n (fun p _ p2 => hf p (by omega)), o, k, b, hist_frame hh (fun p hp => hf p (by omega))⟩
theorem st_sm {h h' : Hp} {r : Rw} (s : st h r) (x : sm h h') : st h' r := st_mv s fun p hp => x p (by omega) (by omega) (by omega)
theorem st_b {h : Hp} {r : Rw} (s : st h r) : (0 ≤ r 0 ∧ r 0 ≤ 40) ∧ (0 ≤ r 1 ∧ r 1 ≤ 30) ∧ (0 ≤ r 2 ∧ r 2 ≤ 9) ∧ (0 ≤ r 3 ∧ r 3 ≤ 3) := s.2.1.1.1
theorem p7_needHost {x : Int} {h : Hp} {Q : Prop} {r : Rw} (e : h 0 0 = r 0) (hx : 0 ≤ x ∧ x < r 0) (hQ : Q) : mX7_needHost x h Q := by
  unfold mX7_needHost
  rw [e]
  exact ⟨fun c => by omega, fun _ => ⟨fun _ => hQ, fun c => by omega⟩⟩
theorem p7_needRule {x : Int} {h : Hp} {Q : Prop} {r : Rw} (e : h 0 1 = r 1) (hx : 0 ≤ x ∧ x < r 1) (hQ : Q) : mX7_needRule x h Q := by
  unfold mX7_needRule
  rw [e]
  exact ⟨fun c => by omega, fun _ => ⟨fun _ => hQ, fun c => by omega⟩⟩
theorem p7_needOffice {x : Int} {h : Hp} {Q : Prop} (hx : 0 ≤ x ∧ x ≤ 1) (hQ : Q) : mX7_needOffice x h Q := ⟨fun c => by omega, fun _ => ⟨fun _ => hQ, fun c => by omega⟩⟩
theorem p7_needNumber {x : Int} {h : Hp} {Q : Prop} (hx : 1 ≤ x ∧ x ≤ 250) (hQ : Q) : mX7_needNumber x h Q := ⟨fun c => by omega, fun _ => ⟨fun _ => hQ, fun c => by omega⟩⟩
theorem p7_needSide {x : Int} {h : Hp} {Q : Prop} (hx : 0 ≤ x ∧ x ≤ 250) (hQ : Q) : mX7_needSide x h Q := ⟨fun c => by omega, fun _ => ⟨fun _ => hQ, fun c => by omega⟩⟩
theorem p7_needWave {x : Int} {h : Hp} {Q : Prop} (hx : 1 ≤ x ∧ x ≤ 9) (hQ : Q) : mX7_needWave x h Q := ⟨fun c => by omega, fun _ => ⟨fun _ => hQ, fun c => by omega⟩⟩
def hv (r : Rw) (x y : Int) : Int := if y = 0 then fl r x 0 else if y = 1 then fl r x 1 else if y = 2 then kept r x else if y = 3 then fl r x 2 else if y = 4 then fl r x 3 else if y = 5 then fl r x 4 else lat r x
theorem k_host {x y : Int} {h : Hp} {Q : Int → Prop} {r : Rw} (s : st h r) (hx : 0 ≤ x ∧ x < r 0) (hy : 0 ≤ y ∧ y ≤ 6) (hQ : Q (hv r x y)) : mX7_host x y h Q := by
  have o1 := st_b s
  obtain ⟨c1, c2, c3, c4, c5, c6, c7, c8⟩ := s.1.2.1 x hx.1 hx.2
  have c2 : rd h 2 x = fl r x 0 := c2
  have c3 : rd h 3 x = fl r x 1 := c3
  have c4 : rd h 4 x = fl r x 2 := c4
  have c5 : rd h 5 x = fl r x 3 := c5
  have c6 : rd h 6 x = fl r x 4 := c6
  have c7 : rd h 7 x = lat r x := c7
  unfold mX7_host
  refine p7_needHost s.1.1.1 hx ?_
  have hc : 0 ≤ x ∧ x < 40 := by omega
  unfold hv at hQ
  refine ⟨fun e => ⟨hc, ?_⟩, fun e => ⟨hc, ?_⟩, fun e => p3_keptBy s.1 s.2.1.1 hx ?_, fun e => ⟨hc, ?_⟩, fun e => ⟨hc, ?_⟩, fun e => ⟨hc, ?_⟩, fun e => ⟨hc, ?_⟩, fun e => by omega⟩
  · rw [if_pos e] at hQ; rw [c2]; exact hQ
  · rw [if_neg (by omega), if_pos e] at hQ; rw [c3]; exact hQ
  · rw [if_neg (by omega), if_neg (by omega), if_pos e] at hQ; exact hQ
  · rw [if_neg (by omega), if_neg (by omega), if_neg (by omega), if_pos e] at hQ; rw [c4]; exact hQ
  · rw [if_neg (by omega), if_neg (by omega), if_neg (by omega), if_neg (by omega), if_pos e] at hQ; rw [c5]; exact hQ
  · rw [if_neg (by omega), if_neg (by omega), if_neg (by omega), if_neg (by omega), if_neg (by omega), if_pos e] at hQ; rw [c6]; exact hQ
  · rw [if_neg (by omega), if_neg (by omega), if_neg (by omega), if_neg (by omega), if_neg (by omega), if_neg (by omega)] at hQ; rw [c7]; exact hQ
theorem k_h0 {x : Int} {h : Hp} {Q : Int → Prop} {r : Rw} (s : st h r) (hx : 0 ≤ x ∧ x < r 0) (hQ : Q (fl r x 0)) : mX7_host x 0 h Q := k_host s hx (by omega) hQ
theorem k_h1 {x : Int} {h : Hp} {Q : Int → Prop} {r : Rw} (s : st h r) (hx : 0 ≤ x ∧ x < r 0) (hQ : Q (fl r x 1)) : mX7_host x 1 h Q := k_host s hx (by omega) hQ
theorem k_h2 {x : Int} {h : Hp} {Q : Int → Prop} {r : Rw} (s : st h r) (hx : 0 ≤ x ∧ x < r 0) (hQ : Q (kept r x)) : mX7_host x 2 h Q := k_host s hx (by omega) hQ
theorem k_h3 {x : Int} {h : Hp} {Q : Int → Prop} {r : Rw} (s : st h r) (hx : 0 ≤ x ∧ x < r 0) (hQ : Q (fl r x 2)) : mX7_host x 3 h Q := k_host s hx (by omega) hQ
theorem k_h4 {x : Int} {h : Hp} {Q : Int → Prop} {r : Rw} (s : st h r) (hx : 0 ≤ x ∧ x < r 0) (hQ : Q (fl r x 3)) : mX7_host x 4 h Q := k_host s hx (by omega) hQ
theorem k_h5 {x : Int} {h : Hp} {Q : Int → Prop} {r : Rw} (s : st h r) (hx : 0 ≤ x ∧ x < r 0) (hQ : Q (fl r x 4)) : mX7_host x 5 h Q := k_host s hx (by omega) hQ
theorem k_h6 {x : Int} {h : Hp} {Q : Int → Prop} {r : Rw} (s : st h r) (hx : 0 ≤ x ∧ x < r 0) (hQ : Q (lat r x)) : mX7_host x 6 h Q := k_host s hx (by omega) hQ
theorem k_s0 {h : Hp} {Q : Int → Hp → Prop} {r : Rw} (s : st h r) (hQ : Q (r 0) h) : mX7_size 0 h Q := by
  unfold mX7_size
  rw [s.1.1.1]
  exact ⟨fun _ => hQ, fun e => absurd e (by decide), fun e => absurd e (by decide), fun e => absurd e (by decide), fun e => absurd e (by decide), fun e => absurd e (by decide), fun e => absurd e (by decide), fun e => absurd e (by decide), fun e => absurd e (by decide), fun e => absurd e (by decide), fun e => absurd e (by decide), fun e => absurd e (by decide)⟩
theorem k_s1 {h : Hp} {Q : Int → Hp → Prop} {r : Rw} (s : st h r) (hQ : Q (r 1) h) : mX7_size 1 h Q := by
  unfold mX7_size
  rw [s.1.1.2.1]
  exact ⟨fun e => absurd e (by decide), fun _ => hQ, fun e => absurd e (by decide), fun e => absurd e (by decide), fun e => absurd e (by decide), fun e => absurd e (by decide), fun e => absurd e (by decide), fun e => absurd e (by decide), fun e => absurd e (by decide), fun e => absurd e (by decide), fun e => absurd e (by decide), fun e => absurd e (by decide)⟩
theorem k_s2 {h : Hp} {Q : Int → Hp → Prop} {r : Rw} (s : st h r) (hQ : Q (cn (fun i => decide (¬ fl r i 4 = 0)) 0 (r 0)) h) : mX7_size 2 h Q := by
  unfold mX7_size
  exact ⟨fun e => absurd e (by decide), fun e => absurd e (by decide), fun _ => p3_planCount s.1 s.2.1.1 hQ, fun e => absurd e (by decide), fun e => absurd e (by decide), fun e => absurd e (by decide), fun e => absurd e (by decide), fun e => absurd e (by decide), fun e => absurd e (by decide), fun e => absurd e (by decide), fun e => absurd e (by decide), fun e => absurd e (by decide)⟩
theorem k_s3 {h : Hp} {Q : Int → Hp → Prop} {r : Rw} (s : st h r) (hQ : Q (r 2) h) : mX7_size 3 h Q := by
  unfold mX7_size
  rw [s.1.1.2.2.1]
  exact ⟨fun e => absurd e (by decide), fun e => absurd e (by decide), fun e => absurd e (by decide), fun _ => hQ, fun e => absurd e (by decide), fun e => absurd e (by decide), fun e => absurd e (by decide), fun e => absurd e (by decide), fun e => absurd e (by decide), fun e => absurd e (by decide), fun e => absurd e (by decide), fun e => absurd e (by decide)⟩
theorem k_s4 {h : Hp} {Q : Int → Hp → Prop} {r : Rw} (s : st h r) (hQ : Q (r 3) h) : mX7_size 4 h Q := by
  unfold mX7_size
  rw [s.1.1.2.2.2.1]
  exact ⟨fun e => absurd e (by decide), fun e => absurd e (by decide), fun e => absurd e (by decide), fun e => absurd e (by decide), fun _ => hQ, fun e => absurd e (by decide), fun e => absurd e (by decide), fun e => absurd e (by decide), fun e => absurd e (by decide), fun e => absurd e (by decide), fun e => absurd e (by decide), fun e => absurd e (by decide)⟩
theorem k_s8 {h : Hp} {Q : Int → Hp → Prop} {r : Rw} (s : st h r) (hQ : Q (r 7) h) : mX7_size 8 h Q := by
  have o7 := s.2.1.1.2.2.2.1
  unfold mX7_size
  rw [s.1.1.2.2.2.2.2.2.2]
  refine ⟨fun e => absurd e (by decide), fun e => absurd e (by decide), fun e => absurd e (by decide), fun e => absurd e (by decide), fun e => absurd e (by decide), fun e => absurd e (by decide), fun e => absurd e (by decide), fun e => absurd e (by decide), fun _ => ⟨fun c => ?_, fun c => ?_⟩, fun e => absurd e (by decide), fun e => absurd e (by decide), fun e => absurd e (by decide)⟩
  · rw [c] at hQ; exact hQ
  · rw [show r 7 = 1 by omega] at hQ; exact hQ
theorem k_s9 {h : Hp} {Q : Int → Hp → Prop} {r : Rw} (s : st h r) (hQ : ∀ h', sm h h' → Q (clashes r) h') : mX7_size 9 h Q := by
  unfold mX7_size
  exact ⟨fun e => absurd e (by decide), fun e => absurd e (by decide), fun e => absurd e (by decide), fun e => absurd e (by decide), fun e => absurd e (by decide), fun e => absurd e (by decide), fun e => absurd e (by decide), fun e => absurd e (by decide), fun e => absurd e (by decide), fun _ => p7_clashCount s.1 s.2.1.1 (by omega) (fun h' f => hQ h' f), fun e => absurd e (by decide), fun e => absurd e (by decide)⟩
theorem k_s10 {h : Hp} {Q : Int → Hp → Prop} {r : Rw} (s : st h r) (hQ : Q (cn (fun i => decide (¬ kept r i = 0)) 0 (r 0)) h) : mX7_size 10 h Q := by
  unfold mX7_size
  exact ⟨fun e => absurd e (by decide), fun e => absurd e (by decide), fun e => absurd e (by decide), fun e => absurd e (by decide), fun e => absurd e (by decide), fun e => absurd e (by decide), fun e => absurd e (by decide), fun e => absurd e (by decide), fun e => absurd e (by decide), fun e => absurd e (by decide), fun _ => p3_keeperCount s.1 s.2.1.1 hQ, fun e => absurd e (by decide)⟩
theorem k_holder {x y : Int} {h : Hp} {Q : Int → Prop} {r : Rw} (s : st h r) (hx : 0 ≤ x ∧ x ≤ 1) (hy : 1 ≤ y ∧ y ≤ 250) (hQ : Q (hold r x y)) : mX7_holder x y h Q :=
  p7_needOffice hx (p7_needNumber hy (p3_holderInOffice s.1 s.2.1.1 hQ))
theorem k_clash {x v : Int} {h : Hp} {Q : Int → Hp → Prop} {r : Rw} (s : st h r) (hv : ckA r x = v) (h1 : 1 ≤ v) (hQ : ∀ h', sm h h' → Q v h') : mX7_clash x h Q := by
  unfold mX7_clash
  refine p5_count s.1 s.2.1.1 (by omega) fun g t f => p5_clashAt t ?_
  rw [hv, if_neg (by omega)]
  exact ⟨fun _ => hQ g f, fun c => by omega⟩
theorem k_plans {x : Int} {h : Hp} {Q : Int → Prop} {r : Rw} (s : st h r) (hx : 1 ≤ x ∧ x ≤ 9) (hQ : Q (pln r x)) : mX7_plans x h Q := p7_needWave hx (p3_plansIn s.1 s.2.1.1 hQ)
theorem k_trial {h g : Hp} {r : Rw} (s : st h r) (f : ∀ p, ¬ (13 ≤ p ∧ p ≤ 25) → p ≠ 173 → p ≠ 174 → p ≠ 175 → g p = h p) : st g r ∧ fr h g :=
  ⟨st_mv s fun p hp => f p (by omega) (by omega) (by omega) (by omega), fun p hp => f p (by omega) (by omega) (by omega) (by omega)⟩
theorem k_whyNot {h : Hp} {Q : Int → Hp → Prop} {r : Rw} (s : st h r) (hQ : ∀ h', st h' r → fr h h' → Q (tw0 r) h') : mX7_whyNot h Q := by
  have ht := tw0_r (r := r)
  have hc := cn_r (mvg r) (b := r 0) 0 (st_b s).1.1
  unfold mX7_whyNot
  refine p3_copyFrom s.1 s.2.1.1.1 (by omega) fun g1 n1 f1 => p7_tryWave n1 s.2.1 fun g2 n2 f2 => ?_
  obtain ⟨k1, k2⟩ := k_trial s (g := g2) (fun p p1 p2 p3 p4 => by rw [f2 p p1 p2 p3 p4, f1 p (by omega)])
  have e : min 0 (if tw0 r = 0 then cn (mvg r) 0 (r 0) else tw0 r) = tw0 r := by
    split <;> omega
  rw [e]
  exact hQ g2 k1 k2
/-- the state behind an operation that can be undone -/
def sw (h : Hp) (s r : Rw) : Prop := nets h 0 s ∧ okS s ∧ ∃ n b, hist h n b ∧ 0 < n ∧ b (n - 1) = r
theorem sw_st {h : Hp} {s r : Rw} (w : sw h s r) : st h s := by
  obtain ⟨a, b, n, c, d, -⟩ := w
  exact ⟨a, b, n, c, d⟩
theorem sw_sm {h h' : Hp} {s r : Rw} (w : sw h s r) (x : sm h h') : sw h' s r := by
  obtain ⟨n, o, k, b, hh, e⟩ := w
  exact ⟨nets_frame n (fun p _ p2 => x p (by omega) (by omega) (by omega)), o, k, b, hist_frame hh (fun p hp => x p (by omega) (by omega) (by omega)), e⟩
theorem k_adopt {h g : Hp} {Q : Hp → Prop} {r t : Rw} (s : st h r) (f : ∀ p, ¬ (13 ≤ p ∧ p ≤ 25) → p ≠ 173 → p ≠ 174 → p ≠ 175 → g p = h p) (ht : nets g 13 t) (ho : okS t) (hQ : ∀ h', sw h' t r → fr h h' → Q h') : mX7_adoptTrial g Q := by
  obtain ⟨⟨n, o, k, b, hh⟩, k2⟩ := k_trial s f
  refine p7_adoptTrial hh n o.1.1 ht ho.1.1 fun h' hh' n' f' => hQ h' ⟨n', ho, _, _, hh', ?_, ?_⟩ (fun p hp => by rw [f' p (by omega) (by omega) (by omega)]; exact k2 p hp)
  · have := hh.2.1
    omega
  · unfold hpu
    rw [if_pos rfl]
theorem k_wave {h : Hp} {Q : Int → Hp → Prop} {r : Rw} (s : st h r) (h0 : tw0 r = 0 → ∀ h', sw h' (wv r) r → fr h h' → Q (cn (mvg r) 0 (r 0)) h') (h1 : ¬ tw0 r = 0 → ∀ h', st h' r → fr h h' → Q (tw0 r) h') : mX7_wave h Q := by
  have ht := tw0_r (r := r)
  have hc := cn_r (mvg r) (b := r 0) 0 (st_b s).1.1
  unfold mX7_wave
  refine p3_copyFrom s.1 s.2.1.1.1 (by omega) fun g1 n1 f1 => p7_tryWave n1 s.2.1 fun g2 n2 f2 => ?_
  have fg : ∀ p, ¬ (13 ≤ p ∧ p ≤ 25) → p ≠ 173 → p ≠ 174 → p ≠ 175 → g2 p = h p := fun p p1 p2 p3 p4 => by rw [f2 p p1 p2 p3 p4, f1 p (by omega)]
  by_cases c : tw0 r = 0
  · rw [if_pos c]
    exact ⟨fun d => by omega, fun _ => k_adopt s fg (n2 c) (tw0_ok s.2.1 c).1 (h0 c)⟩
  · rw [if_neg c]
    obtain ⟨k1, k2⟩ := k_trial s fg
    exact ⟨fun _ => h1 c g2 k1 k2, fun d => by omega⟩
theorem k_undo {h : Hp} {Q : Int → Hp → Prop} {t r : Rw} (w : sw h t r) (hr : okS r) (hQ : ∀ z h', 0 ≤ z → st h' r → fr h h' → Q z h') : mX7_undo h Q := by
  obtain ⟨n, o, k, b, hh, h0, hb⟩ := w
  unfold mX7_undo
  rw [hh.1]
  refine ⟨fun _ => p0_takeNewest hh (by rw [hb]; exact hr.1.1) h0 (by omega) fun g hg ng fg => hQ _ g ?_ ⟨by rw [← hb]; exact ng, hr, _, _, hg⟩ (fun p hp => fg p (by omega) (by omega)), fun c => by omega⟩
  rw [hg.1]
  omega
