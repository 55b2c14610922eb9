/-! the reference's pure loops -/
def fre (r : Rw) (v : Int) : Bool := decide (fs (fun i => hds r i v || decide (fl r i 3 = v)) 0 (r 0) = -1)
def ffr (r : Rw) : Int := fs (fre r) (r 5) (r 6 + 1)
def mtm (r : Rw) (s v o : Int) : Bool := decide (s = 0) || (decide (s = v) || decide (¬ fs (fun i => onet r i o && (hds r i s && hds r i v)) 0 (r 0) = -1))
def dcm (r : Rw) (o a b : Int) : Int := fs (fun k => (decide (r 7 = 1) || decide (rl r k 0 = o)) && (mtm r (rl r k 2) a o && mtm r (rl r k 3) b o)) 0 (r 1)
def rcm (r : Rw) (x : Int) : Int := cn (fun i => decide (¬ i = x) && (net r x i && alw r (dcm r (fl r x 0) (fl r x 1) (fl r i 1)))) 0 (r 0)
theorem p8_plansNow {h : Hp} {Q : Int → Prop} (ho : okW (rd h 186)) (hQ : Q (cn (fun i => decide (¬ fl (rd h 186) i 4 = 0)) 0 (rd h 186 0))) : mX8_plansNow h Q := by
  unfold mX8_plansNow
  have ho0 := ho.1
  have ho7 := ho.2.2.2.1
  unfold okR at ho0
  obtain ⟨f, hf⟩ := forU (fun f i => ∀ s, 0 ≤ s → s ≤ i → Q (s + cn (fun i => decide (¬ fl (rd h 186) i 4 = 0)) i (rd h 186 0)) → mX8_plansNow_b4 h Q f s i) 0 (rd h 186 0) (by omega) (fun f s _ _ hq => by
      unfold mX8_plansNow_b4 mX8_plansNow_b29
      rw [cn_end (Int.le_refl _), Int.add_zero] at hq
      (repeat' (first
          | (refine p8_of ⟨by omega, by omega⟩ ⟨by omega, by omega⟩ ?_)
          | (refine ⟨⟨by omega, by omega⟩, ?_⟩)
          | (refine ⟨zri (by omega) (by omega), ?_⟩)
          | (refine ⟨fun _ => ?_, fun _ => ?_⟩)
          | fail))
      all_goals first | (exfalso; omega) | (exact hq)) (fun f i h1 h2 ih s s0 s1 hq => by
      have hO := ho.2.2.2.2.1 i h1 h2
      unfold okH at hO
      have hl := lat_r (r := rd h 186) (i := i)
      have hk := kept_r (ho.2.2.2.2.1 i h1 h2) (rd h 186 2)
      unfold mX8_plansNow_b4 mX8_plansNow_b29
      (repeat' (first
          | (refine p8_of ⟨by omega, by omega⟩ ⟨by omega, by omega⟩ ?_)
          | (refine ⟨⟨by omega, by omega⟩, ?_⟩)
          | (refine ⟨zri (by omega) (by omega), ?_⟩)
          | (refine ⟨fun _ => ?_, fun _ => ?_⟩)
          | fail))
      all_goals first | (exfalso; omega) | (refine ih (s + 0) (by omega) (by omega) ?_; rw [cn_skip h2 (by first | (simp_all; done) | (simp_all; omega) | grind), ← Int.add_assoc] at hq; exact hq) | (refine ih (s + 1) (by omega) (by omega) ?_; rw [cn_hit h2 (by first | (simp_all; done) | (simp_all; omega) | grind), ← Int.add_assoc] at hq; exact hq) | (refine ih s (by omega) (by omega) ?_; rw [cn_skip h2 (by first | (simp_all; done) | (simp_all; omega) | grind), Int.zero_add] at hq; exact hq))
  exact ⟨f, hf 0 (by omega) (by omega) (by rw [Int.zero_add]; exact hQ)⟩
theorem p8_keeping {h : Hp} {Q : Int → Prop} (ho : okW (rd h 186)) (hQ : Q (cn (fun i => decide (¬ kept (rd h 186) i = 0)) 0 (rd h 186 0))) : mX8_keeping h Q := by
  unfold mX8_keeping
  have ho0 := ho.1
  have ho7 := ho.2.2.2.1
  unfold okR at ho0
  obtain ⟨f, hf⟩ := forU (fun f i => ∀ s, 0 ≤ s → s ≤ i → Q (s + cn (fun i => decide (¬ kept (rd h 186) i = 0)) i (rd h 186 0)) → mX8_keeping_b4 h Q f s i) 0 (rd h 186 0) (by omega) (fun f s _ _ hq => by
      unfold mX8_keeping_b4 mX8_keeping_b28
      rw [cn_end (Int.le_refl _), Int.add_zero] at hq
      (repeat' (first
          | (refine p8_kept ho.1 ⟨by omega, by omega⟩ ?_)
          | (refine ⟨⟨by omega, by omega⟩, ?_⟩)
          | (refine ⟨zri (by omega) (by omega), ?_⟩)
          | (refine ⟨fun _ => ?_, fun _ => ?_⟩)
          | fail))
      all_goals first | (exfalso; omega) | (exact hq)) (fun f i h1 h2 ih s s0 s1 hq => by
      have hO := ho.2.2.2.2.1 i h1 h2
      unfold okH at hO
      have hl := lat_r (r := rd h 186) (i := i)
      have hk := kept_r (ho.2.2.2.2.1 i h1 h2) (rd h 186 2)
      have hk2 : 0 ≤ kept (rd h 186) i := hk.1
      unfold mX8_keeping_b4 mX8_keeping_b28
      (repeat' (first
          | (refine p8_kept ho.1 ⟨by omega, by omega⟩ ?_)
          | (refine ⟨⟨by omega, by omega⟩, ?_⟩)
          | (refine ⟨zri (by omega) (by omega), ?_⟩)
          | (refine ⟨fun _ => ?_, fun _ => ?_⟩)
          | fail))
      all_goals first | (exfalso; omega) | (refine ih (s + 0) (by omega) (by omega) ?_; rw [cn_skip h2 (by first | (simp_all; done) | (simp_all; omega) | grind), ← Int.add_assoc] at hq; exact hq) | (refine ih (s + 1) (by omega) (by omega) ?_; rw [cn_hit h2 (by first | (simp_all; done) | (simp_all; omega) | grind), ← Int.add_assoc] at hq; exact hq) | (refine ih s (by omega) (by omega) ?_; rw [cn_skip h2 (by first | (simp_all; done) | (simp_all; omega) | grind), Int.zero_add] at hq; exact hq))
  exact ⟨f, hf 0 (by omega) (by omega) (by rw [Int.zero_add]; exact hQ)⟩
theorem p8_choosen {x y : Int} {h : Hp} {Q : Int → Prop} (ho : okW (rd h 186)) (hQ : Q (fs (fun i => decide (fl (rd h 186) i 0 = x) && (decide (fl (rd h 186) i 1 = y) && decide (fl (rd h 186) i 2 = 0))) 0 (rd h 186 0))) : mX8_choosen x y h Q := by
  unfold mX8_choosen
  have ho0 := ho.1
  have ho7 := ho.2.2.2.1
  unfold okR at ho0
  obtain ⟨f, hf⟩ := forU (fun f i => Q (fs (fun i => decide (fl (rd h 186) i 0 = x) && (decide (fl (rd h 186) i 1 = y) && decide (fl (rd h 186) i 2 = 0))) i (rd h 186 0)) → mX8_choosen_b2 h Q f x y i) 0 (rd h 186 0) (by omega) (fun f hq => by
      unfold mX8_choosen_b2 mX8_choosen_b43
      rw [fs_end (Int.le_refl _)] at hq
      (repeat' (first
          | (refine p8_of ⟨by omega, by omega⟩ ⟨by omega, by omega⟩ ?_)
          | (refine ⟨⟨by omega, by omega⟩, ?_⟩)
          | (refine ⟨zri (by omega) (by omega), ?_⟩)
          | (refine ⟨fun _ => ?_, fun _ => ?_⟩)
          | fail))
      all_goals first | (exfalso; omega) | (exact hq)) (fun f i h1 h2 ih hq => by
      have hO := ho.2.2.2.2.1 i h1 h2
      unfold okH at hO
      have hl := lat_r (r := rd h 186) (i := i)
      have hk := kept_r (ho.2.2.2.2.1 i h1 h2) (rd h 186 2)
      unfold mX8_choosen_b2 mX8_choosen_b43
      (repeat' (first
          | (refine p8_of ⟨by omega, by omega⟩ ⟨by omega, by omega⟩ ?_)
          | (refine ⟨⟨by omega, by omega⟩, ?_⟩)
          | (refine ⟨zri (by omega) (by omega), ?_⟩)
          | (refine ⟨fun _ => ?_, fun _ => ?_⟩)
          | fail))
      all_goals first | (exfalso; omega) | (refine ih ?_; rw [fs_skip h2 (by first | (simp_all; done) | (simp_all; omega) | grind)] at hq; exact hq) | (rw [fs_hit h2 (by first | (simp_all; done) | (simp_all; omega) | grind)] at hq; exact hq))
  exact ⟨f, hf hQ⟩
theorem p8_plansIn {w : Int} {q : Nat} {h : Hp} {Q : Int → Prop} (hb : 0 ≤ rd h q 0 ∧ rd h q 0 ≤ 40) (hQ : Q (cn (fun i => decide (fl (rd h q) i 4 = w)) 0 (rd h q 0))) : mX8_plansIn q 1096 w h Q := by
  unfold mX8_plansIn
  obtain ⟨f, hf⟩ := forU (fun f i => ∀ s, 0 ≤ s → s ≤ i → Q (s + cn (fun i => decide (fl (rd h q) i 4 = w)) i (rd h q 0)) → mX8_plansIn_b5 q 1096 h Q f w s i) 0 (rd h q 0) (by omega) (fun f s _ _ hq => by
      unfold mX8_plansIn_b5 mX8_plansIn_b31
      rw [cn_end (Int.le_refl _), Int.add_zero] at hq
      (repeat' (first
          | (refine p8_cell ⟨by omega, by omega⟩ ⟨by omega, by omega⟩ ?_)
          | (refine ⟨⟨by omega, by omega⟩, ?_⟩)
          | (refine ⟨zri (by omega) (by omega), ?_⟩)
          | (refine ⟨fun _ => ?_, fun _ => ?_⟩)
          | fail))
      all_goals first | (exfalso; omega) | (exact hq)) (fun f i h1 h2 ih s s0 s1 hq => by

      unfold mX8_plansIn_b5 mX8_plansIn_b31
      (repeat' (first
          | (refine p8_cell ⟨by omega, by omega⟩ ⟨by omega, by omega⟩ ?_)
          | (refine ⟨⟨by omega, by omega⟩, ?_⟩)
          | (refine ⟨zri (by omega) (by omega), ?_⟩)
          | (refine ⟨fun _ => ?_, fun _ => ?_⟩)
          | fail))
      all_goals first | (exfalso; omega) | (refine ih (s + 0) (by omega) (by omega) ?_; rw [cn_skip h2 (by first | (simp_all [fl]; done) | (simp_all [fl]; omega) | (grind [fl])), ← Int.add_assoc] at hq; exact hq) | (refine ih (s + 1) (by omega) (by omega) ?_; rw [cn_hit h2 (by first | (simp_all [fl]; done) | (simp_all [fl]; omega) | (grind [fl])), ← Int.add_assoc] at hq; exact hq) | (refine ih s (by omega) (by omega) ?_; rw [cn_skip h2 (by first | (simp_all [fl]; done) | (simp_all [fl]; omega) | (grind [fl])), Int.zero_add] at hq; exact hq))
  exact ⟨f, hf 0 (by omega) (by omega) (by rw [Int.zero_add]; exact hQ)⟩
theorem p8_firstWave {h : Hp} {Q : Int → Prop} (ho : okW (rd h 186)) (hQ : Q (fw (rd h 186))) : mX8_firstWave h Q := by
  unfold mX8_firstWave
  have ho0 := ho.1
  have ho7 := ho.2.2.2.1
  unfold okR at ho0
  refine ⟨⟨by omega, by omega⟩, zri (by omega) (by omega), ?_⟩
  obtain ⟨f, hf⟩ := forU (fun f i => Q (fs (fun w => decide (pln (rd h 186) w < rd h 186 4)) i 10) → mX8_firstWave_b9 h Q f i) (rd h 186 2 + 1) 10 (by omega) (fun f hq => by
      unfold mX8_firstWave_b9
      rw [fs_end (Int.le_refl _)] at hq
      exact ⟨fun _ => hq, fun hc => absurd (by omega) hc⟩) (fun f i h1 h2 ih hq => by
      unfold mX8_firstWave_b9
      refine ⟨fun hc => by omega, fun _ => p8_plansIn ho0.1 ⟨⟨by omega, by omega⟩, fun hc => ⟨zri (by omega) (by omega), ih ?_⟩, fun hc => ?_⟩⟩
      · rw [fs_skip h2 (decide_eq_false (by unfold pln; omega))] at hq; exact hq
      · rw [fs_hit h2 (decide_eq_true (by unfold pln; omega))] at hq; exact hq)
  exact ⟨f, hf hQ⟩
theorem p8_isMoving {x : Int} {h : Hp} {Q : Int → Prop} (ho : okW (rd h 186)) (hx : 0 ≤ x ∧ x < 40) (hQ : Q (b2i (decide (fl (rd h 186) x 4 = rd h 186 2 + 1)))) : mX8_isMoving x h Q := by
  unfold mX8_isMoving
  have ho0 := ho.1
  have ho7 := ho.2.2.2.1
  unfold okR at ho0
  refine p8_of hx ⟨by omega, by omega⟩ ⟨⟨by omega, by omega⟩, zri (by omega) (by omega), fun h1 => ?_, fun h1 => ?_⟩
  · rw [decide_eq_false h1] at hQ; exact hQ
  · rw [decide_eq_true h1] at hQ; exact hQ
theorem p8_isBound {h : Hp} {Q : Int → Prop} (ho : okW (rd h 186)) (hQ : Q (if (fs (fun i => decide (fl (rd h 186) i 4 = rd h 186 2 + 1) && kpa (rd h 186) i (rd h 186 2 + 1)) 0 (rd h 186 0)) = -1 then 0 else 1)) : mX8_isBound h Q := by
  unfold mX8_isBound
  have ho0 := ho.1
  have ho7 := ho.2.2.2.1
  unfold okR at ho0
  obtain ⟨f, hf⟩ := forU (fun f i => Q (if (fs (fun i => decide (fl (rd h 186) i 4 = rd h 186 2 + 1) && kpa (rd h 186) i (rd h 186 2 + 1)) i (rd h 186 0)) = -1 then 0 else 1) → mX8_isBound_b2 h Q f i) 0 (rd h 186 0) (by omega) (fun f hq => by
      unfold mX8_isBound_b2 mX8_isBound_b38
      rw [fs_end (Int.le_refl _)] at hq
      (repeat' (first
          | (refine p8_isMoving ho ⟨by omega, by omega⟩ ?_)
          | (refine p8_keptAt ho.1 ⟨by omega, by omega⟩ ?_)
          | (refine ⟨⟨by omega, by omega⟩, ?_⟩)
          | (refine ⟨zri (by omega) (by omega), ?_⟩)
          | (refine ⟨fun _ => ?_, fun _ => ?_⟩)
          | fail))
      all_goals first | (exfalso; omega) | (exact hq)) (fun f i h1 h2 ih hq => by
      have hO := ho.2.2.2.2.1 i h1 h2
      unfold okH at hO
      have hl := lat_r (r := rd h 186) (i := i)
      have hk := kept_r (ho.2.2.2.2.1 i h1 h2) (rd h 186 2)
      unfold mX8_isBound_b2 mX8_isBound_b38
      (repeat' (first
          | (refine p8_isMoving ho ⟨by omega, by omega⟩ ?_)
          | (refine p8_keptAt ho.1 ⟨by omega, by omega⟩ ?_)
          | (refine ⟨⟨by omega, by omega⟩, ?_⟩)
          | (refine ⟨zri (by omega) (by omega), ?_⟩)
          | (refine ⟨fun _ => ?_, fun _ => ?_⟩)
          | fail))
      all_goals first | (exfalso; omega) | (refine ih ?_; rw [fs_skip h2 (by first | (simp_all [b2i0, b2i1, kp0]; done) | (simp_all [b2i0, b2i1, kp0]; omega) | (grind [b2i0, b2i1, kp0]))] at hq; exact hq) | (rw [fs_hit h2 (by first | (simp_all [b2i0, b2i1, kp0]; done) | (simp_all [b2i0, b2i1, kp0]; omega) | (grind [b2i0, b2i1, kp0]))] at hq; rw [if_neg (by omega)] at hq; exact hq))
  exact ⟨f, hf hQ⟩
theorem p8_isHeldIn {x y : Int} {h : Hp} {Q : Int → Prop} (ho : okW (rd h 186)) (hQ : Q (if (fs (fun i => onet (rd h 186) i x && hds (rd h 186) i y) 0 (rd h 186 0)) = -1 then 0 else 1)) : mX8_isHeldIn x y h Q := by
  unfold mX8_isHeldIn
  have ho0 := ho.1
  have ho7 := ho.2.2.2.1
  unfold okR at ho0
  obtain ⟨f, hf⟩ := forU (fun f i => Q (if (fs (fun i => onet (rd h 186) i x && hds (rd h 186) i y) i (rd h 186 0)) = -1 then 0 else 1) → mX8_isHeldIn_b2 h Q f x y i) 0 (rd h 186 0) (by omega) (fun f hq => by
      unfold mX8_isHeldIn_b2 mX8_isHeldIn_b32
      rw [fs_end (Int.le_refl _)] at hq
      (repeat' (first
          | (refine p8_isOfNet ⟨by omega, by omega⟩ ?_)
          | (refine p8_holds ho.1 ⟨by omega, by omega⟩ ?_)
          | (refine ⟨⟨by omega, by omega⟩, ?_⟩)
          | (refine ⟨zri (by omega) (by omega), ?_⟩)
          | (refine ⟨fun _ => ?_, fun _ => ?_⟩)
          | fail))
      all_goals first | (exfalso; omega) | (exact hq)) (fun f i h1 h2 ih hq => by
      have hO := ho.2.2.2.2.1 i h1 h2
      unfold okH at hO
      have hl := lat_r (r := rd h 186) (i := i)
      have hk := kept_r (ho.2.2.2.2.1 i h1 h2) (rd h 186 2)
      unfold mX8_isHeldIn_b2 mX8_isHeldIn_b32
      (repeat' (first
          | (refine p8_isOfNet ⟨by omega, by omega⟩ ?_)
          | (refine p8_holds ho.1 ⟨by omega, by omega⟩ ?_)
          | (refine ⟨⟨by omega, by omega⟩, ?_⟩)
          | (refine ⟨zri (by omega) (by omega), ?_⟩)
          | (refine ⟨fun _ => ?_, fun _ => ?_⟩)
          | fail))
      all_goals first | (exfalso; omega) | (refine ih ?_; rw [fs_skip h2 (by first | (simp_all [b2i0, b2i1]; done) | (simp_all [b2i0, b2i1]; omega) | (grind [b2i0, b2i1]))] at hq; exact hq) | (rw [fs_hit h2 (by first | (simp_all [b2i0, b2i1]; done) | (simp_all [b2i0, b2i1]; omega) | (grind [b2i0, b2i1]))] at hq; rw [if_neg (by omega)] at hq; exact hq))
  exact ⟨f, hf hQ⟩
theorem p8_isFree {y : Int} {h : Hp} {Q : Int → Prop} (ho : okW (rd h 186)) (hQ : Q (if (fs (fun i => hds (rd h 186) i y || decide (fl (rd h 186) i 3 = y)) 0 (rd h 186 0)) = -1 then 1 else 0)) : mX8_isFree y h Q := by
  unfold mX8_isFree
  have ho0 := ho.1
  have ho7 := ho.2.2.2.1
  unfold okR at ho0
  obtain ⟨f, hf⟩ := forU (fun f i => Q (if (fs (fun i => hds (rd h 186) i y || decide (fl (rd h 186) i 3 = y)) i (rd h 186 0)) = -1 then 1 else 0) → mX8_isFree_b2 h Q f y i) 0 (rd h 186 0) (by omega) (fun f hq => by
      unfold mX8_isFree_b2
      rw [fs_end (Int.le_refl _)] at hq
      (repeat' (first
          | (refine p8_holds ho.1 ⟨by omega, by omega⟩ ?_)
          | (refine p8_of ⟨by omega, by omega⟩ ⟨by omega, by omega⟩ ?_)
          | (refine ⟨⟨by omega, by omega⟩, ?_⟩)
          | (refine ⟨zri (by omega) (by omega), ?_⟩)
          | (refine ⟨fun _ => ?_, fun _ => ?_⟩)
          | fail))
      all_goals first | (exfalso; omega) | (exact hq)) (fun f i h1 h2 ih hq => by
      have hO := ho.2.2.2.2.1 i h1 h2
      unfold okH at hO
      have hl := lat_r (r := rd h 186) (i := i)
      have hk := kept_r (ho.2.2.2.2.1 i h1 h2) (rd h 186 2)
      unfold mX8_isFree_b2
      (repeat' (first
          | (refine p8_holds ho.1 ⟨by omega, by omega⟩ ?_)
          | (refine p8_of ⟨by omega, by omega⟩ ⟨by omega, by omega⟩ ?_)
          | (refine ⟨⟨by omega, by omega⟩, ?_⟩)
          | (refine ⟨zri (by omega) (by omega), ?_⟩)
          | (refine ⟨fun _ => ?_, fun _ => ?_⟩)
          | fail))
      all_goals first | (exfalso; omega) | (refine ih ?_; rw [fs_skip h2 (by first | (simp_all [b2i0, b2i1]; done) | (simp_all [b2i0, b2i1]; omega) | (grind [b2i0, b2i1]))] at hq; exact hq) | (rw [fs_hit h2 (by first | (simp_all [b2i0, b2i1]; done) | (simp_all [b2i0, b2i1]; omega) | (grind [b2i0, b2i1]))] at hq; rw [if_neg (by omega)] at hq; exact hq))
  exact ⟨f, hf hQ⟩
theorem p8_firstFree {h : Hp} {Q : Int → Prop} (ho : okW (rd h 186)) (hQ : Q (ffr (rd h 186))) : mX8_firstFree h Q := by
  unfold mX8_firstFree
  have ho0 := ho.2.2.1
  refine ⟨⟨by omega, by omega⟩, ?_⟩
  obtain ⟨f, hf⟩ := forU (fun f i => Q (fs (fre (rd h 186)) i (rd h 186 6 + 1)) → mX8_firstFree_b7 h Q f i) (rd h 186 5) (rd h 186 6 + 1) (by omega) (fun f hq => by
      unfold mX8_firstFree_b7
      rw [fs_end (Int.le_refl _)] at hq
      exact ⟨⟨by omega, by omega⟩, fun _ => hq, fun hc => absurd (by omega) hc⟩) (fun f i h1 h2 ih hq => by
      unfold mX8_firstFree_b7
      refine ⟨⟨by omega, by omega⟩, fun hc => by omega, fun _ => p8_isFree ho ?_⟩
      by_cases hf : fre (rd h 186) i = true
      · rw [fs_hit h2 hf] at hq
        unfold fre at hf
        rw [if_pos (of_decide_eq_true hf)]
        exact ⟨fun hc => by omega, fun _ => hq⟩
      · have hf2 : fre (rd h 186) i = false := by simpa using hf
        rw [fs_skip h2 hf2] at hq
        unfold fre at hf2
        rw [if_neg (of_decide_eq_false hf2)]
        exact ⟨fun _ => ⟨zri (by omega) (by omega), ih hq⟩, fun hc => by omega⟩)
  exact ⟨f, hf hQ⟩
theorem p8_matches0 {s v o : Int} {h : Hp} {Q : Int → Prop} (ho : okW (rd h 186)) (hQ : Q (if (fs (fun i => onet (rd h 186) i o && (hds (rd h 186) i s && hds (rd h 186) i v)) 0 (rd h 186 0)) = -1 then 0 else 1)) : ∃ ff, mX8_matches_b14 h Q ff s v o 0 := by
  have ho0 := ho.1
  have ho7 := ho.2.2.2.1
  unfold okR at ho0
  obtain ⟨f, hf⟩ := forU (fun f i => Q (if (fs (fun i => onet (rd h 186) i o && (hds (rd h 186) i s && hds (rd h 186) i v)) i (rd h 186 0)) = -1 then 0 else 1) → mX8_matches_b14 h Q f s v o i) 0 (rd h 186 0) (by omega) (fun f hq => by
      unfold mX8_matches_b14 mX8_matches_b57
      rw [fs_end (Int.le_refl _)] at hq
      (repeat' (first
          | (refine p8_isOfNet ⟨by omega, by omega⟩ ?_)
          | (refine p8_holds ho.1 ⟨by omega, by omega⟩ ?_)
          | (refine ⟨⟨by omega, by omega⟩, ?_⟩)
          | (refine ⟨zri (by omega) (by omega), ?_⟩)
          | (refine ⟨fun _ => ?_, fun _ => ?_⟩)
          | fail))
      all_goals first | (exfalso; omega) | (exact hq)) (fun f i h1 h2 ih hq => by
      have hO := ho.2.2.2.2.1 i h1 h2
      unfold okH at hO
      have hl := lat_r (r := rd h 186) (i := i)
      have hk := kept_r (ho.2.2.2.2.1 i h1 h2) (rd h 186 2)
      unfold mX8_matches_b14 mX8_matches_b57
      (repeat' (first
          | (refine p8_isOfNet ⟨by omega, by omega⟩ ?_)
          | (refine p8_holds ho.1 ⟨by omega, by omega⟩ ?_)
          | (refine ⟨⟨by omega, by omega⟩, ?_⟩)
          | (refine ⟨zri (by omega) (by omega), ?_⟩)
          | (refine ⟨fun _ => ?_, fun _ => ?_⟩)
          | fail))
      all_goals first | (exfalso; omega) | (refine ih ?_; rw [fs_skip h2 (by first | (simp_all [b2i0, b2i1]; done) | (simp_all [b2i0, b2i1]; omega) | (grind [b2i0, b2i1]))] at hq; exact hq) | (rw [fs_hit h2 (by first | (simp_all [b2i0, b2i1]; done) | (simp_all [b2i0, b2i1]; omega) | (grind [b2i0, b2i1]))] at hq; rw [if_neg (by omega)] at hq; exact hq))
  exact ⟨f, hf hQ⟩
theorem p8_matches {s v o : Int} {h : Hp} {Q : Int → Prop} (ho : okW (rd h 186)) (hQ : Q (b2i (mtm (rd h 186) s v o))) : mX8_matches s v o h Q := by
  unfold mX8_matches
  unfold mtm at hQ
  refine ⟨fun h1 => ?_, fun h1 => ⟨fun h2 => p8_matches0 ho ?_, fun h2 => ?_⟩⟩
  · rw [decide_eq_true h1] at hQ; exact hQ
  · rw [decide_eq_false h1, decide_eq_false h2, Bool.false_or, Bool.false_or] at hQ
    split
    · next h3 => rw [decide_eq_false (fun w => w h3)] at hQ; exact hQ
    · next h3 => rw [decide_eq_true h3] at hQ; exact hQ
  · rw [decide_eq_true h2, Bool.true_or, Bool.or_true] at hQ; exact hQ
theorem p8_decidesOf {x a b : Int} {h : Hp} {Q : Int → Prop} (ho : okW (rd h 186)) (hQ : Q (fs (fun k => (decide (rd h 186 7 = 1) || decide (rl (rd h 186) k 0 = x)) && (mtm (rd h 186) (rl (rd h 186) k 2) a x && mtm (rd h 186) (rl (rd h 186) k 3) b x)) 0 (rd h 186 1))) : mX8_decidesOf x a b h Q := by
  unfold mX8_decidesOf
  have ho0 := ho.1
  have ho7 := ho.2.2.2.1
  unfold okR at ho0
  obtain ⟨f, hf⟩ := forU (fun f i => Q (fs (fun k => (decide (rd h 186 7 = 1) || decide (rl (rd h 186) k 0 = x)) && (mtm (rd h 186) (rl (rd h 186) k 2) a x && mtm (rd h 186) (rl (rd h 186) k 3) b x)) i (rd h 186 1)) → mX8_decidesOf_b3 h Q f x a b i) 0 (rd h 186 1) (by omega) (fun f hq => by
      unfold mX8_decidesOf_b3 mX8_decidesOf_b42 mX8_decidesOf_b85
      rw [fs_end (Int.le_refl _)] at hq
      (repeat' (first
          | (refine p8_ruleCell ⟨by omega, by omega⟩ ⟨by omega, by omega⟩ ?_)
          | (refine p8_matches ho ?_)
          | (refine ⟨⟨by omega, by omega⟩, ?_⟩)
          | (refine ⟨zri (by omega) (by omega), ?_⟩)
          | (refine ⟨fun _ => ?_, fun _ => ?_⟩)
          | fail))
      all_goals first | (exfalso; omega) | (exact hq)) (fun f i h1 h2 ih hq => by
      have hO := ho.2.2.2.2.2 i h1 h2
      unfold okU at hO
      have er : ∀ j, rd h 186 ((976 + (4 * i)) + j) = rl (rd h 186) i j := fun _ => rfl
      unfold mX8_decidesOf_b3 mX8_decidesOf_b42 mX8_decidesOf_b85
      (repeat' (first
          | (refine p8_ruleCell ⟨by omega, by omega⟩ ⟨by omega, by omega⟩ ?_)
          | (refine p8_matches ho ?_)
          | (refine ⟨⟨by omega, by omega⟩, ?_⟩)
          | (refine ⟨zri (by omega) (by omega), ?_⟩)
          | (refine ⟨fun _ => ?_, fun _ => ?_⟩)
          | fail))
      all_goals first | (exfalso; omega) | (refine ih ?_; rw [fs_skip h2 (by first | (simp_all [b2i0, b2i1]; done) | (simp_all [b2i0, b2i1]; omega) | (grind [b2i0, b2i1]))] at hq; exact hq) | (rw [fs_hit h2 (by first | (simp_all [b2i0, b2i1]; done) | (simp_all [b2i0, b2i1]; omega) | (grind [b2i0, b2i1]))] at hq; exact hq))
  exact ⟨f, hf hQ⟩
theorem p8_allowsFor {x a b : Int} {h : Hp} {Q : Int → Prop} (ho : okW (rd h 186)) (hQ : Q (b2i (alw (rd h 186) (dcm (rd h 186) x a b)))) : mX8_allowsFor x a b h Q := by
  unfold mX8_allowsFor
  have ho0 := ho.1
  have ho7 := ho.2.2.2.1
  unfold okR at ho0
  refine p8_decidesOf ho ?_
  have hf := fs_r (p := fun k => (decide (rd h 186 7 = 1) || decide (rl (rd h 186) k 0 = x)) && (mtm (rd h 186) (rl (rd h 186) k 2) a x && mtm (rd h 186) (rl (rd h 186) k 3) b x)) (a := 0) (b := rd h 186 1) (Int.le_refl 0)
  unfold dcm alw at hQ
  generalize fs (fun k => (decide (rd h 186 7 = 1) || decide (rl (rd h 186) k 0 = x)) && (mtm (rd h 186) (rl (rd h 186) k 2) a x && mtm (rd h 186) (rl (rd h 186) k 3) b x)) 0 (rd h 186 1) = d at hQ hf ⊢
  have er : rd h 186 ((976 + (4 * d)) + 1) = rl (rd h 186) d 1 := rfl
  refine ⟨fun h1 => ?_, fun h1 => p8_ruleCell ⟨by omega, by omega⟩ ⟨by omega, by omega⟩ ⟨⟨by omega, by omega⟩, fun h2 => ?_, fun h2 => ?_⟩⟩
  · rw [h1] at hQ; exact hQ
  · rw [er] at h2; rw [decide_eq_false h2, Bool.and_false, Bool.and_false] at hQ; exact hQ
  · rw [er] at h2; rw [decide_eq_true h2, decide_eq_true (p := 0 ≤ d) (by omega), decide_eq_true (p := d < _) (by omega)] at hQ; exact hQ
theorem p8_reachOf {x : Int} {h : Hp} {Q : Int → Prop} (ho : okW (rd h 186)) (hx : 0 ≤ x ∧ x < rd h 186 0) (hQ : Q (cn (fun i => decide (¬ i = x) && (net (rd h 186) x i && alw (rd h 186) (dcm (rd h 186) (fl (rd h 186) x 0) (fl (rd h 186) x 1) (fl (rd h 186) i 1)))) 0 (rd h 186 0))) : mX8_reachOf x h Q := by
  unfold mX8_reachOf
  have ho0 := ho.1
  have ho7 := ho.2.2.2.1
  unfold okR at ho0
  obtain ⟨f, hf⟩ := forU (fun f i => ∀ s, 0 ≤ s → s ≤ i → Q (s + cn (fun i => decide (¬ i = x) && (net (rd h 186) x i && alw (rd h 186) (dcm (rd h 186) (fl (rd h 186) x 0) (fl (rd h 186) x 1) (fl (rd h 186) i 1)))) i (rd h 186 0)) → mX8_reachOf_b4 h Q f x s i) 0 (rd h 186 0) (by omega) (fun f s _ _ hq => by
      unfold mX8_reachOf_b4 mX8_reachOf_b58 mX8_reachOf_b59
      rw [cn_end (Int.le_refl _), Int.add_zero] at hq
      (repeat' (first
          | (refine p8_areOfNet ⟨by omega, by omega⟩ ⟨by omega, by omega⟩ ?_)
          | (refine p8_of ⟨by omega, by omega⟩ ⟨by omega, by omega⟩ ?_)
          | (refine p8_allowsFor ho ?_)
          | (refine ⟨⟨by omega, by omega⟩, ?_⟩)
          | (refine ⟨zri (by omega) (by omega), ?_⟩)
          | (refine ⟨fun _ => ?_, fun _ => ?_⟩)
          | fail))
      all_goals first | (exfalso; omega) | (exact hq)) (fun f i h1 h2 ih s s0 s1 hq => by
      have hO := ho.2.2.2.2.1 i h1 h2
      unfold okH at hO
      have hl := lat_r (r := rd h 186) (i := i)
      have hk := kept_r (ho.2.2.2.2.1 i h1 h2) (rd h 186 2)
      unfold mX8_reachOf_b4 mX8_reachOf_b58 mX8_reachOf_b59
      (repeat' (first
          | (refine p8_areOfNet ⟨by omega, by omega⟩ ⟨by omega, by omega⟩ ?_)
          | (refine p8_of ⟨by omega, by omega⟩ ⟨by omega, by omega⟩ ?_)
          | (refine p8_allowsFor ho ?_)
          | (refine ⟨⟨by omega, by omega⟩, ?_⟩)
          | (refine ⟨zri (by omega) (by omega), ?_⟩)
          | (refine ⟨fun _ => ?_, fun _ => ?_⟩)
          | fail))
      all_goals first | (exfalso; omega) | (refine ih (s + 0) (by omega) (by omega) ?_; rw [cn_skip h2 (by first | (simp_all [b2i0, b2i1]; done) | (simp_all [b2i0, b2i1]; omega) | (grind [b2i0, b2i1])), ← Int.add_assoc] at hq; exact hq) | (refine ih (s + 1) (by omega) (by omega) ?_; rw [cn_hit h2 (by first | (simp_all [b2i0, b2i1]; done) | (simp_all [b2i0, b2i1]; omega) | (grind [b2i0, b2i1])), ← Int.add_assoc] at hq; exact hq) | (refine ih s (by omega) (by omega) ?_; rw [cn_skip h2 (by first | (simp_all [b2i0, b2i1]; done) | (simp_all [b2i0, b2i1]; omega) | (grind [b2i0, b2i1])), Int.zero_add] at hq; exact hq))
  exact ⟨f, hf 0 (by omega) (by omega) (by rw [Int.zero_add]; exact hQ)⟩
theorem p8_twice {h : Hp} {Q : Int → Prop} (ho : okW (rd h 186)) (hQ : Q (twice (rd h 186))) : mX8_twice h Q := by
  unfold mX8_twice
  unfold twice at hQ
  have ho0 := ho.1
  have ho7 := ho.2.2.2.1
  unfold okR at ho0
  obtain ⟨f, hf⟩ := forU (fun f v => Q (fs (pair (rd h 186)) v 251) → mX8_twice_b2 h Q f v) 1 251 (by omega) (fun f hq => by
      unfold mX8_twice_b2
      rw [fs_end (Int.le_refl _)] at hq
      exact ⟨fun _ => hq, fun hc => absurd (by omega) hc⟩) (fun f v v1 v2 ihv hqv => by
      unfold mX8_twice_b2
      refine ⟨fun hc => by omega, fun _ => ?_⟩
      obtain ⟨g, hg⟩ := forU (fun g i => ((fs (fun i => hds (rd h 186) i v && pair0 (rd h 186) v i) i (rd h 186 0) = -1 → mX8_twice_b2 h Q f (v + 1)) ∧ (¬ fs (fun i => hds (rd h 186) i v && pair0 (rd h 186) v i) i (rd h 186 0) = -1 → Q v)) → mX8_twice_b11 h Q (mX8_twice_b2 h Q f) g v i) 0 (rd h 186 0) (by omega) (fun g hq => by
          unfold mX8_twice_b11
          rw [fs_end (Int.le_refl _)] at hq
          exact ⟨⟨by omega, by omega⟩, fun _ => ⟨zri (by omega) (by omega), hq.1 rfl⟩, fun hc => absurd (by omega) hc⟩) (fun g i h1 h2 ih hq => by
          unfold mX8_twice_b11
          refine ⟨⟨by omega, by omega⟩, fun hc => by omega, fun _ => p8_holds ho.1 ⟨by omega, by omega⟩ ⟨fun hz => ?_, fun hz => ?_⟩⟩
          · obtain ⟨k, hk⟩ := forU (fun k o => ((fs (fun o => net (rd h 186) i o && hds (rd h 186) o v) o i = -1 → mX8_twice_b11 h Q (mX8_twice_b2 h Q f) g v (i + 1)) ∧ (¬ fs (fun o => net (rd h 186) i o && hds (rd h 186) o v) o i = -1 → Q v)) → mX8_twice_b35 h Q (mX8_twice_b2 h Q f) (mX8_twice_b11 h Q (mX8_twice_b2 h Q f) g) k v i o) 0 i h1 (fun k hq3 => by
              unfold mX8_twice_b35 mX8_twice_b66
              rw [fs_end (Int.le_refl _)] at hq3
              exact ⟨fun _ => ⟨zri (by omega) (by omega), hq3.1 rfl⟩, fun hc => absurd (by omega) hc⟩) (fun k o o1 o2 ih3 hq3 => by
              unfold mX8_twice_b35 mX8_twice_b60
              refine ⟨fun hc => by omega, fun _ => p8_areOfNet ⟨by omega, by omega⟩ ⟨by omega, by omega⟩ ⟨fun hn => ⟨zri (by omega) (by omega), ih3 ?_⟩, fun hn => p8_holds ho.1 ⟨by omega, by omega⟩ ⟨fun hm => ⟨zri (by omega) (by omega), ih3 ?_⟩, fun hm => ?_⟩⟩⟩
              · rw [fs_skip o2 (by simp only [b2i0.mp hn, Bool.false_and])] at hq3; exact hq3
              · rw [fs_skip o2 (by simp only [b2i0.mp hm, Bool.and_false])] at hq3; exact hq3
              · rw [fs_hit o2 (by simp only [b2i1.mp hn, b2i1.mp hm, Bool.and_self])] at hq3; exact hq3.2 (by omega))
            refine ⟨k, hk ?_⟩
            by_cases hp : pair0 (rd h 186) v i = true
            · rw [fs_hit h2 (by simp only [b2i1.mp hz, hp, Bool.and_self])] at hq
              unfold pair0 at hp
              have hp2 := of_decide_eq_true hp
              exact ⟨fun w => absurd w hp2, fun _ => hq.2 (by omega)⟩
            · have hp3 : pair0 (rd h 186) v i = false := by simpa using hp
              rw [fs_skip h2 (by simp only [hp3, Bool.and_false])] at hq
              unfold pair0 at hp3
              have hp2 := of_decide_eq_false hp3
              exact ⟨fun _ => ih hq, fun w => absurd w hp2⟩
          · unfold mX8_twice_b66
            refine ⟨zri (by omega) (by omega), ih ?_⟩
            rw [fs_skip h2 (by simp only [b2i0.mp hz, Bool.false_and])] at hq
            exact hq)
      refine ⟨g, hg ?_⟩
      by_cases hp : pair (rd h 186) v = true
      · rw [fs_hit v2 hp] at hqv
        unfold pair at hp
        have hp2 := of_decide_eq_true hp
        exact ⟨fun w => absurd w hp2, fun _ => hqv⟩
      · have hp3 : pair (rd h 186) v = false := by simpa using hp
        rw [fs_skip v2 hp3] at hqv
        unfold pair at hp3
        have hp2 := of_decide_eq_false hp3
        exact ⟨fun _ => ihv hqv, fun w => absurd w hp2⟩)
  exact ⟨f, hf hQ⟩
