/-! what a place of nets says beside a row: the class's pure methods -/
def mv (r : Rw) (i w : Int) : Int := if w = 0 then 0 else fl r i ((14 + w) - 1)
def nm (r : Rw) (i : Int) : Int := fl r i 6 + 256 * (fl r i 7 + 256 * (fl r i 8 + 256 * (fl r i 9 + 256 * (fl r i 10 + 256 * (fl r i 11 + 256 * (fl r i 12 + 256 * fl r i 13))))))
def netH (h : Hp) (o : Nat) (r : Rw) (i : Int) : Prop := rd h (o + 1) i = nm r i ∧ rd h (o + 2) i = fl r i 0 ∧ rd h (o + 3) i = fl r i 1 ∧ rd h (o + 4) i = fl r i 2 ∧ rd h (o + 5) i = fl r i 3 ∧ rd h (o + 6) i = fl r i 4 ∧ rd h (o + 7) i = lat r i ∧ ∀ w, 0 ≤ w → w < 10 → rd h (o + 8) (i * 10 + w) = mv r i w
def netR (h : Hp) (o : Nat) (r : Rw) (k : Int) : Prop := rd h (o + 9) k = rl r k 0 ∧ rd h (o + 10) k = rl r k 1 ∧ rd h (o + 11) k = rl r k 2 ∧ rd h (o + 12) k = rl r k 3
def nets (h : Hp) (o : Nat) (r : Rw) : Prop := (h o 0 = r 0 ∧ h o 1 = r 1 ∧ h o 2 = r 2 ∧ h o 3 = r 3 ∧ h o 4 = r 4 ∧ h o 5 = r 5 ∧ h o 6 = r 6 ∧ h o 7 = r 7) ∧ (∀ i, 0 ≤ i → i < r 0 → netH h o r i) ∧ (∀ k, 0 ≤ k → k < r 1 → netR h o r k)
def okH (r : Rw) (i : Int) : Prop := (fl r i 0 = 0 ∨ fl r i 0 = 1) ∧ (1 ≤ fl r i 1 ∧ fl r i 1 ≤ 250) ∧ (fl r i 2 = 0 ∨ fl r i 2 = 1) ∧ (0 ≤ fl r i 3 ∧ fl r i 3 ≤ 250) ∧ (0 ≤ fl r i 4 ∧ fl r i 4 ≤ 9) ∧ (fl r i 4 = 0 ∨ 1 ≤ fl r i 3) ∧ (0 ≤ fl r i 5 ∧ fl r i 5 ≤ 8) ∧
  (∀ k, 0 ≤ k → k < 8 → (k < fl r i 5 → 97 ≤ fl r i (6 + k) ∧ fl r i (6 + k) ≤ 122) ∧ (fl r i 5 ≤ k → fl r i (6 + k) = 0)) ∧ (∀ w, 1 ≤ w → w ≤ 9 → (0 ≤ fl r i ((14 + w) - 1) ∧ fl r i ((14 + w) - 1) ≤ 250) ∧ (r 2 < w → fl r i ((14 + w) - 1) = 0))
def okU (r : Rw) (k : Int) : Prop := (rl r k 0 = 0 ∨ rl r k 0 = 1) ∧ (rl r k 1 = 0 ∨ rl r k 1 = 1) ∧ (0 ≤ rl r k 2 ∧ rl r k 2 ≤ 250) ∧ (0 ≤ rl r k 3 ∧ rl r k 3 ≤ 250)
def okW (r : Rw) : Prop := okR r ∧ (1 ≤ r 4 ∧ r 4 ≤ 9) ∧ (1 ≤ r 5 ∧ r 5 ≤ r 6 ∧ r 6 ≤ 250) ∧ (r 7 = 0 ∨ r 7 = 1) ∧ (∀ i, 0 ≤ i → i < r 0 → okH r i) ∧ (∀ k, 0 ≤ k → k < r 1 → okU r k)
def kpa (r : Rw) (x c : Int) : Bool := decide (0 < lat r x) && decide (c < lat r x + r 3)
def pln (r : Rw) (w : Int) : Int := cn (fun i => decide (fl r i 4 = w)) 0 (r 0)
def fw (r : Rw) : Int := fs (fun w => decide (pln r w < r 4)) (r 2 + 1) 10
def bnd (r : Rw) : Int := fs (fun i => decide (fl r i 4 = r 2 + 1) && kpa r i (r 2 + 1)) 0 (r 0)
def hnet (r : Rw) (o v : Int) : Int := fs (fun i => onet r i o && hds r i v) 0 (r 0)
def nin (r : Rw) (o v : Int) : Int := fs (fun i => onet r i o && decide (fl r i 1 = v)) 0 (r 0)
def mvb (r : Rw) (o v : Int) : Int := fs (fun i => decide (fl r i 0 = o) && (decide (fl r i 1 = v) && decide (fl r i 2 = 0))) 0 (r 0)
theorem fs_r {p : Int → Bool} {a b : Int} (ha : 0 ≤ a) : fs p a b = -1 ∨ (0 ≤ fs p a b ∧ a ≤ fs p a b ∧ fs p a b < b) := by
  rcases fs_spec p a b with ⟨h1, _⟩ | ⟨h1, h2, _, _⟩
  · exact Or.inl h1
  · exact Or.inr ⟨by omega, h1, h2⟩
theorem kpa_kp {r : Rw} {x c : Int} : kp r x c = if kpa r x c = true then fl r x ((14 + lat r x) - 1) else 0 := by
  unfold kp kpa
  by_cases h1 : lat r x ≤ 0
  · rw [if_pos h1, if_neg (by simp; omega)]
  · by_cases h2 : lat r x + r 3 ≤ c
    · rw [if_neg h1, if_pos h2, if_neg (by simp; omega)]
    · rw [if_neg h1, if_neg h2, if_pos (by simp; omega)]
theorem lat0_nz {r : Rw} {i : Int} : ∀ w, 0 ≤ w → 0 < lat0 r i w → ¬ fl r i ((14 + lat0 r i w) - 1) = 0 := by
  have key : ∀ (n : Nat) (w : Int), w.toNat = n → 0 ≤ w → 0 < lat0 r i w → ¬ fl r i ((14 + lat0 r i w) - 1) = 0 := by
    intro n
    induction n with
    | zero => intro w h h0; rw [lat0_0 (by omega)]; omega
    | succ n ih =>
      intro w h h0
      rw [lat0_s (by omega)]
      split
      · exact ih (w + (-1)) (by omega) (by omega)
      · intro _; assumption
  exact fun w h => key _ w rfl h
theorem lat_nz {r : Rw} {i : Int} (h : 0 < lat r i) : ¬ fl r i ((14 + lat r i) - 1) = 0 := lat0_nz 9 (by omega) h
theorem kp0 {r : Rw} {x c : Int} : kp r x c = 0 ↔ kpa r x c = false := by
  rw [kpa_kp]
  by_cases h : kpa r x c = true
  · rw [if_pos h, h]
    have : 0 < lat r x := by unfold kpa at h; simp at h; exact h.1
    exact ⟨fun q => absurd q (lat_nz this), fun q => by cases q⟩
  · rw [if_neg h]
    simp at h
    exact ⟨fun _ => h, fun _ => rfl⟩
theorem kept_r {r : Rw} {i : Int} (ho : okH r i) (c : Int) : 0 ≤ kp r i c ∧ kp r i c ≤ 250 := by
  obtain ⟨-, -, -, -, -, -, -, -, h⟩ := ho
  rw [kpa_kp]
  by_cases hk : kpa r i c = true
  · rw [if_pos hk]
    have h1 : 0 < lat r i := by unfold kpa at hk; simp at hk; exact hk.1
    have h2 := lat_r (r := r) (i := i)
    exact (h (lat r i) (by omega) (by omega)).1
  · rw [if_neg hk]; omega
theorem onet_b {r : Rw} {i o : Int} : (decide (r 7 = 1) || decide (fl r i 0 = o)) = onet r i o := rfl
theorem zlcmp_0 {x y : Int} : zlcmp x y = 0 ↔ x = y := by
  unfold zlcmp
  split
  · omega
  · split <;> omega
theorem p3_inNet {x1 x2 : Int} {o : Nat} {h : Hp} {Q : Int → Prop} {r : Rw} (hn : nets h o r) (ho : okW r) (hQ : Q (b2i (decide (r 7 = 1) || decide (x1 = x2)))) : mX3_inNet o x1 x2 h Q := by
  unfold mX3_inNet
  have e := hn.1.2.2.2.2.2.2.2
  have e2 := ho.2.2.2.1
  refine ⟨fun h1 => ?_, fun h1 => ⟨fun h2 => ?_, fun h2 => ?_⟩⟩
  · rw [decide_eq_true (by omega : r 7 = 1)] at hQ; exact hQ
  · rw [decide_eq_false (by omega : ¬ r 7 = 1), decide_eq_false h2] at hQ; exact hQ
  · rw [decide_eq_true h2, Bool.or_true] at hQ; exact hQ
theorem p3_keepsAt {x c : Int} {o : Nat} {h : Hp} {Q : Int → Prop} {r : Rw} (hn : nets h o r) (ho : okW r) (hx : 0 ≤ x ∧ x < r 0) (hQ : Q (b2i (kpa r x c))) : mX3_keepsAt o x c h Q := by
  unfold mX3_keepsAt
  unfold kpa at hQ
  have hn0 := hn.1
  have ho0 := ho.1
  have ho7 := ho.2.2.2.1
  unfold okR at ho0
  have e := hn.2.1 x (by omega) (by omega)
  unfold netH at e
  rw [e.2.2.2.2.2.2.1, hn0.2.2.2.1]
  have hl := lat_r (r := r) (i := x)
  refine ⟨⟨by omega, by omega⟩, fun h1 => ?_, fun h1 => ⟨zri (by omega) (by omega), fun h2 => ?_, fun h2 => ?_⟩⟩
  · rw [decide_eq_false (by omega)] at hQ; exact hQ
  · rw [decide_eq_false (by omega : ¬ c < _), Bool.and_false] at hQ; exact hQ
  · rw [decide_eq_true (by omega), decide_eq_true (by omega : c < _)] at hQ; exact hQ
theorem p3_numberAhead {x w : Int} {o : Nat} {h : Hp} {Q : Int → Prop} {r : Rw} (hn : nets h o r) (ho : okW r) (hx : 0 ≤ x ∧ x < r 0) (hw : 0 ≤ w ∧ w < 10) (hQ : Q (mv r x w)) : mX3_numberAhead o x w h Q := by
  unfold mX3_numberAhead
  have hn0 := hn.1
  have ho0 := ho.1
  have ho7 := ho.2.2.2.1
  unfold okR at ho0
  have e := hn.2.1 x (by omega) (by omega)
  unfold netH at e
  refine ⟨fun h1 => by omega, fun h1 => ⟨fun h2 => by omega, fun h2 => ⟨fun h3 => by omega, fun h3 => ⟨fun h4 => by omega, fun h4 => ⟨zri (by omega) (by omega), zri (by omega) (by omega), ⟨by omega, by omega⟩, ?_⟩⟩⟩⟩⟩
  rw [e.2.2.2.2.2.2.2 w (by omega) (by omega)]
  exact hQ
theorem p3_keptBy {x : Int} {o : Nat} {h : Hp} {Q : Int → Prop} {r : Rw} (hn : nets h o r) (ho : okW r) (hx : 0 ≤ x ∧ x < r 0) (hQ : Q (kept r x)) : mX3_keptBy o x h Q := by
  unfold mX3_keptBy
  unfold kept at hQ
  have hn0 := hn.1
  have ho0 := ho.1
  have ho7 := ho.2.2.2.1
  unfold okR at ho0
  have e := hn.2.1 x (by omega) (by omega)
  unfold netH at e
  have hl := lat_r (r := r) (i := x)
  rw [hn0.2.2.1, e.2.2.2.2.2.2.1]
  refine p3_keepsAt hn ho hx ⟨fun h1 => ?_, fun h1 => ⟨⟨by omega, by omega⟩, ?_⟩⟩
  · rw [kp0.mpr (b2i0.mp h1)] at hQ; exact hQ
  · have h2 := b2i1.mp h1
    rw [kpa_kp, if_pos h2] at hQ
    have h3 : 0 < lat r x := by unfold kpa at h2; simp at h2; exact h2.1
    refine p3_numberAhead hn ho hx ⟨by omega, by omega⟩ ?_
    unfold mv
    rw [if_neg (by omega)]
    exact hQ
theorem p3_hostNamed {x : Int} {o : Nat} {h : Hp} {Q : Int → Prop} {r : Rw} (hn : nets h o r) (ho : okW r) (hQ : Q (fs (fun i => decide (nm r i = x)) 0 (r 0))) : mX3_hostNamed o x h Q := by
  unfold mX3_hostNamed
  have hn0 := hn.1
  have ho0 := ho.1
  have ho7 := ho.2.2.2.1
  unfold okR at ho0
  obtain ⟨f, hf⟩ := forU (fun f i => Q (fs (fun i => decide (nm r i = x)) i (r 0)) → mX3_hostNamed_b2 o h Q f x i) 0 (r 0) (by omega) (fun f hq => by
      unfold mX3_hostNamed_b2
      rw [fs_end (Int.le_refl _)] at hq
      (repeat' (first
          | (refine ⟨⟨by omega, by omega⟩, ?_⟩)
          | (refine ⟨zri (by omega) (by omega), ?_⟩)
          | (refine ⟨fun _ => ?_, fun _ => ?_⟩)
          | fail))
      all_goals first | (exfalso; omega) | (exact hq)) (fun f i h1 h2 ih hq => by
      have hH := hn.2.1 i h1 h2
      have hO := ho.2.2.2.2.1 i h1 h2
      unfold netH at hH
      have hl := lat_r (r := r) (i := i)
      unfold mX3_hostNamed_b2
      (repeat' (first
          | (refine ⟨⟨by omega, by omega⟩, ?_⟩)
          | (refine ⟨zri (by omega) (by omega), ?_⟩)
          | (refine ⟨fun _ => ?_, fun _ => ?_⟩)
          | fail))
      all_goals first | (exfalso; omega) | (refine ih ?_; rw [fs_skip h2 (by first | (simp_all [zlcmp_0]; done) | (simp_all [zlcmp_0]; omega) | (grind [zlcmp_0]))] at hq; exact hq) | (rw [fs_hit h2 (by first | (simp_all [zlcmp_0]; done) | (simp_all [zlcmp_0]; omega) | (grind [zlcmp_0]))] at hq; exact hq))
  exact ⟨f, hf hQ⟩
theorem p3_hostsOfOffice {x : Int} {o : Nat} {h : Hp} {Q : Int → Prop} {r : Rw} (hn : nets h o r) (ho : okW r) (hQ : Q (cn (fun i => decide (fl r i 0 = x)) 0 (r 0))) : mX3_hostsOfOffice o x h Q := by
  unfold mX3_hostsOfOffice
  have hn0 := hn.1
  have ho0 := ho.1
  have ho7 := ho.2.2.2.1
  unfold okR at ho0
  obtain ⟨f, hf⟩ := forU (fun f i => ∀ s, 0 ≤ s → s ≤ i → Q (s + cn (fun i => decide (fl r i 0 = x)) i (r 0)) → mX3_hostsOfOffice_b4 o h Q f x s i) 0 (r 0) (by omega) (fun f s _ _ hq => by
      unfold mX3_hostsOfOffice_b4 mX3_hostsOfOffice_b28
      rw [cn_end (Int.le_refl _), Int.add_zero] at hq
      (repeat' (first
          | (refine ⟨⟨by omega, by omega⟩, ?_⟩)
          | (refine ⟨zri (by omega) (by omega), ?_⟩)
          | (refine ⟨fun _ => ?_, fun _ => ?_⟩)
          | fail))
      all_goals first | (exfalso; omega) | (exact hq)) (fun f i h1 h2 ih s s0 s1 hq => by
      have hH := hn.2.1 i h1 h2
      have hO := ho.2.2.2.2.1 i h1 h2
      unfold netH at hH
      have hl := lat_r (r := r) (i := i)
      unfold mX3_hostsOfOffice_b4 mX3_hostsOfOffice_b28
      (repeat' (first
          | (refine ⟨⟨by omega, by omega⟩, ?_⟩)
          | (refine ⟨zri (by omega) (by omega), ?_⟩)
          | (refine ⟨fun _ => ?_, fun _ => ?_⟩)
          | fail))
      all_goals first | (exfalso; omega) | (refine ih (s + 0) (by omega) (by omega) ?_; rw [cn_skip h2 (by first | (simp_all; done) | (simp_all; omega) | grind), ← Int.add_assoc] at hq; exact hq) | (refine ih (s + 1) (by omega) (by omega) ?_; rw [cn_hit h2 (by first | (simp_all; done) | (simp_all; omega) | grind), ← Int.add_assoc] at hq; exact hq) | (refine ih s (by omega) (by omega) ?_; rw [cn_skip h2 (by first | (simp_all; done) | (simp_all; omega) | grind), Int.zero_add] at hq; exact hq))
  exact ⟨f, hf 0 (by omega) (by omega) (by rw [Int.zero_add]; exact hQ)⟩
theorem p3_movableWith {x y : Int} {o : Nat} {h : Hp} {Q : Int → Prop} {r : Rw} (hn : nets h o r) (ho : okW r) (hQ : Q (fs (fun i => decide (fl r i 0 = x) && (decide (fl r i 1 = y) && decide (fl r i 2 = 0))) 0 (r 0))) : mX3_movableWith o x y h Q := by
  unfold mX3_movableWith
  have hn0 := hn.1
  have ho0 := ho.1
  have ho7 := ho.2.2.2.1
  unfold okR at ho0
  obtain ⟨f, hf⟩ := forU (fun f i => Q (fs (fun i => decide (fl r i 0 = x) && (decide (fl r i 1 = y) && decide (fl r i 2 = 0))) i (r 0)) → mX3_movableWith_b2 o h Q f x y i) 0 (r 0) (by omega) (fun f hq => by
      unfold mX3_movableWith_b2 mX3_movableWith_b41
      rw [fs_end (Int.le_refl _)] at hq
      (repeat' (first
          | (refine ⟨⟨by omega, by omega⟩, ?_⟩)
          | (refine ⟨zri (by omega) (by omega), ?_⟩)
          | (refine ⟨fun _ => ?_, fun _ => ?_⟩)
          | fail))
      all_goals first | (exfalso; omega) | (exact hq)) (fun f i h1 h2 ih hq => by
      have hH := hn.2.1 i h1 h2
      have hO := ho.2.2.2.2.1 i h1 h2
      unfold netH at hH
      have hl := lat_r (r := r) (i := i)
      unfold mX3_movableWith_b2 mX3_movableWith_b41
      (repeat' (first
          | (refine ⟨⟨by omega, by omega⟩, ?_⟩)
          | (refine ⟨zri (by omega) (by omega), ?_⟩)
          | (refine ⟨fun _ => ?_, fun _ => ?_⟩)
          | fail))
      all_goals first | (exfalso; omega) | (refine ih ?_; rw [fs_skip h2 (by first | (simp_all; done) | (simp_all; omega) | grind)] at hq; exact hq) | (rw [fs_hit h2 (by first | (simp_all; done) | (simp_all; omega) | grind)] at hq; exact hq))
  exact ⟨f, hf hQ⟩
theorem p3_planCount {o : Nat} {h : Hp} {Q : Int → Prop} {r : Rw} (hn : nets h o r) (ho : okW r) (hQ : Q (cn (fun i => decide (¬ fl r i 4 = 0)) 0 (r 0))) : mX3_planCount o h Q := by
  unfold mX3_planCount
  have hn0 := hn.1
  have ho0 := ho.1
  have ho7 := ho.2.2.2.1
  unfold okR at ho0
  obtain ⟨f, hf⟩ := forU (fun f i => ∀ s, 0 ≤ s → s ≤ i → Q (s + cn (fun i => decide (¬ fl r i 4 = 0)) i (r 0)) → mX3_planCount_b4 o h Q f s i) 0 (r 0) (by omega) (fun f s _ _ hq => by
      unfold mX3_planCount_b4 mX3_planCount_b27
      rw [cn_end (Int.le_refl _), Int.add_zero] at hq
      (repeat' (first
          | (refine ⟨⟨by omega, by omega⟩, ?_⟩)
          | (refine ⟨zri (by omega) (by omega), ?_⟩)
          | (refine ⟨fun _ => ?_, fun _ => ?_⟩)
          | fail))
      all_goals first | (exfalso; omega) | (exact hq)) (fun f i h1 h2 ih s s0 s1 hq => by
      have hH := hn.2.1 i h1 h2
      have hO := ho.2.2.2.2.1 i h1 h2
      unfold netH at hH
      have hl := lat_r (r := r) (i := i)
      unfold mX3_planCount_b4 mX3_planCount_b27
      (repeat' (first
          | (refine ⟨⟨by omega, by omega⟩, ?_⟩)
          | (refine ⟨zri (by omega) (by omega), ?_⟩)
          | (refine ⟨fun _ => ?_, fun _ => ?_⟩)
          | fail))
      all_goals first | (exfalso; omega) | (refine ih (s + 0) (by omega) (by omega) ?_; rw [cn_skip h2 (by first | (simp_all; done) | (simp_all; omega) | grind), ← Int.add_assoc] at hq; exact hq) | (refine ih (s + 1) (by omega) (by omega) ?_; rw [cn_hit h2 (by first | (simp_all; done) | (simp_all; omega) | grind), ← Int.add_assoc] at hq; exact hq) | (refine ih s (by omega) (by omega) ?_; rw [cn_skip h2 (by first | (simp_all; done) | (simp_all; omega) | grind), Int.zero_add] at hq; exact hq))
  exact ⟨f, hf 0 (by omega) (by omega) (by rw [Int.zero_add]; exact hQ)⟩
theorem p3_plansIn {w : Int} {o : Nat} {h : Hp} {Q : Int → Prop} {r : Rw} (hn : nets h o r) (ho : okW r) (hQ : Q (cn (fun i => decide (fl r i 4 = w)) 0 (r 0))) : mX3_plansIn o w h Q := by
  unfold mX3_plansIn
  have hn0 := hn.1
  have ho0 := ho.1
  have ho7 := ho.2.2.2.1
  unfold okR at ho0
  obtain ⟨f, hf⟩ := forU (fun f i => ∀ s, 0 ≤ s → s ≤ i → Q (s + cn (fun i => decide (fl r i 4 = w)) i (r 0)) → mX3_plansIn_b4 o h Q f w s i) 0 (r 0) (by omega) (fun f s _ _ hq => by
      unfold mX3_plansIn_b4 mX3_plansIn_b28
      rw [cn_end (Int.le_refl _), Int.add_zero] at hq
      (repeat' (first
          | (refine ⟨⟨by omega, by omega⟩, ?_⟩)
          | (refine ⟨zri (by omega) (by omega), ?_⟩)
          | (refine ⟨fun _ => ?_, fun _ => ?_⟩)
          | fail))
      all_goals first | (exfalso; omega) | (exact hq)) (fun f i h1 h2 ih s s0 s1 hq => by
      have hH := hn.2.1 i h1 h2
      have hO := ho.2.2.2.2.1 i h1 h2
      unfold netH at hH
      have hl := lat_r (r := r) (i := i)
      unfold mX3_plansIn_b4 mX3_plansIn_b28
      (repeat' (first
          | (refine ⟨⟨by omega, by omega⟩, ?_⟩)
          | (refine ⟨zri (by omega) (by omega), ?_⟩)
          | (refine ⟨fun _ => ?_, fun _ => ?_⟩)
          | fail))
      all_goals first | (exfalso; omega) | (refine ih (s + 0) (by omega) (by omega) ?_; rw [cn_skip h2 (by first | (simp_all; done) | (simp_all; omega) | grind), ← Int.add_assoc] at hq; exact hq) | (refine ih (s + 1) (by omega) (by omega) ?_; rw [cn_hit h2 (by first | (simp_all; done) | (simp_all; omega) | grind), ← Int.add_assoc] at hq; exact hq) | (refine ih s (by omega) (by omega) ?_; rw [cn_skip h2 (by first | (simp_all; done) | (simp_all; omega) | grind), Int.zero_add] at hq; exact hq))
  exact ⟨f, hf 0 (by omega) (by omega) (by rw [Int.zero_add]; exact hQ)⟩
theorem p3_firstWaveWithRoom {o : Nat} {h : Hp} {Q : Int → Prop} {r : Rw} (hn : nets h o r) (ho : okW r) (hQ : Q (if fw r = -1 then 0 else fw r)) : mX3_firstWaveWithRoom o h Q := by
  unfold mX3_firstWaveWithRoom
  unfold fw at hQ
  have hn0 := hn.1
  have ho0 := ho.1
  have ho7 := ho.2.2.2.1
  unfold okR at ho0
  rw [hn0.2.2.1]
  refine ⟨zri (by omega) (by omega), ?_⟩
  obtain ⟨f, hf⟩ := forU (fun f i => Q (if fs (fun w => decide (pln r w < r 4)) i 10 = -1 then 0 else fs (fun w => decide (pln r w < r 4)) i 10) → mX3_firstWaveWithRoom_b7 o h Q f i) (r 2 + 1) 10 (by omega) (fun f hq => by
      unfold mX3_firstWaveWithRoom_b7
      rw [fs_end (Int.le_refl _)] at hq
      exact ⟨fun _ => hq, fun hc => absurd (by omega) hc⟩) (fun f i h1 h2 ih hq => by
      unfold mX3_firstWaveWithRoom_b7
      refine ⟨fun hc => by omega, fun _ => p3_plansIn hn ho ?_⟩
      rw [hn0.2.2.2.2.1]
      refine ⟨fun hc => ⟨zri (by omega) (by omega), ih ?_⟩, fun hc => ?_⟩
      · rw [fs_skip h2 (decide_eq_false (by unfold pln; omega))] at hq; exact hq
      · rw [fs_hit h2 (decide_eq_true (by unfold pln; omega)), if_neg (by omega)] at hq; exact hq)
  exact ⟨f, hf hQ⟩
theorem p3_keeperWouldMove {o : Nat} {h : Hp} {Q : Int → Prop} {r : Rw} (hn : nets h o r) (ho : okW r) (hQ : Q (if (fs (fun i => decide (fl r i 4 = r 2 + 1) && kpa r i (r 2 + 1)) 0 (r 0)) = -1 then 0 else 1)) : mX3_keeperWouldMove o h Q := by
  unfold mX3_keeperWouldMove
  have hn0 := hn.1
  have ho0 := ho.1
  have ho7 := ho.2.2.2.1
  unfold okR at ho0
  obtain ⟨f, hf⟩ := forU (fun f i => Q (if (fs (fun i => decide (fl r i 4 = r 2 + 1) && kpa r i (r 2 + 1)) i (r 0)) = -1 then 0 else 1) → mX3_keeperWouldMove_b2 o h Q f i) 0 (r 0) (by omega) (fun f hq => by
      unfold mX3_keeperWouldMove_b2 mX3_keeperWouldMove_b41
      rw [fs_end (Int.le_refl _)] at hq
      (repeat' (first
          | (refine p3_keepsAt hn ho ⟨by omega, by omega⟩ ?_)
          | (refine ⟨⟨by omega, by omega⟩, ?_⟩)
          | (refine ⟨zri (by omega) (by omega), ?_⟩)
          | (refine ⟨fun _ => ?_, fun _ => ?_⟩)
          | fail))
      all_goals first | (exfalso; omega) | (exact hq)) (fun f i h1 h2 ih hq => by
      have hH := hn.2.1 i h1 h2
      have hO := ho.2.2.2.2.1 i h1 h2
      unfold netH at hH
      have hl := lat_r (r := r) (i := i)
      have e2 := hn0.2.2.1
      unfold mX3_keeperWouldMove_b2 mX3_keeperWouldMove_b41
      (repeat' (first
          | (refine p3_keepsAt hn ho ⟨by omega, by omega⟩ ?_)
          | (refine ⟨⟨by omega, by omega⟩, ?_⟩)
          | (refine ⟨zri (by omega) (by omega), ?_⟩)
          | (refine ⟨fun _ => ?_, fun _ => ?_⟩)
          | fail))
      all_goals first | (exfalso; omega) | (refine ih ?_; rw [fs_skip h2 (by first | (simp_all [b2i0, b2i1]; done) | (simp_all [b2i0, b2i1]; omega) | (grind [b2i0, b2i1]))] at hq; exact hq) | (rw [fs_hit h2 (by first | (simp_all [b2i0, b2i1]; done) | (simp_all [b2i0, b2i1]; omega) | (grind [b2i0, b2i1]))] at hq; rw [if_neg (by omega)] at hq; exact hq))
  exact ⟨f, hf hQ⟩
theorem p3_numberedInNet {x y : Int} {o : Nat} {h : Hp} {Q : Int → Prop} {r : Rw} (hn : nets h o r) (ho : okW r) (hQ : Q (fs (fun i => onet r i x && decide (fl r i 1 = y)) 0 (r 0))) : mX3_numberedInNet o x y h Q := by
  unfold mX3_numberedInNet
  have hn0 := hn.1
  have ho0 := ho.1
  have ho7 := ho.2.2.2.1
  unfold okR at ho0
  obtain ⟨f, hf⟩ := forU (fun f i => Q (fs (fun i => onet r i x && decide (fl r i 1 = y)) i (r 0)) → mX3_numberedInNet_b2 o h Q f x y i) 0 (r 0) (by omega) (fun f hq => by
      unfold mX3_numberedInNet_b2 mX3_numberedInNet_b36
      rw [fs_end (Int.le_refl _)] at hq
      (repeat' (first
          | (refine p3_inNet hn ho ?_)
          | (refine ⟨⟨by omega, by omega⟩, ?_⟩)
          | (refine ⟨zri (by omega) (by omega), ?_⟩)
          | (refine ⟨fun _ => ?_, fun _ => ?_⟩)
          | fail))
      all_goals first | (exfalso; omega) | (exact hq)) (fun f i h1 h2 ih hq => by
      have hH := hn.2.1 i h1 h2
      have hO := ho.2.2.2.2.1 i h1 h2
      unfold netH at hH
      have hl := lat_r (r := r) (i := i)
      unfold mX3_numberedInNet_b2 mX3_numberedInNet_b36
      (repeat' (first
          | (refine p3_inNet hn ho ?_)
          | (refine ⟨⟨by omega, by omega⟩, ?_⟩)
          | (refine ⟨zri (by omega) (by omega), ?_⟩)
          | (refine ⟨fun _ => ?_, fun _ => ?_⟩)
          | fail))
      all_goals first | (exfalso; omega) | (refine ih ?_; rw [fs_skip h2 (by first | (simp_all [onet, b2i0, b2i1]; done) | (simp_all [onet, b2i0, b2i1]; omega) | (grind [onet, b2i0, b2i1]))] at hq; exact hq) | (rw [fs_hit h2 (by first | (simp_all [onet, b2i0, b2i1]; done) | (simp_all [onet, b2i0, b2i1]; omega) | (grind [onet, b2i0, b2i1]))] at hq; exact hq))
  exact ⟨f, hf hQ⟩
theorem p3_holderInNet {x y : Int} {o : Nat} {h : Hp} {Q : Int → Prop} {r : Rw} (hn : nets h o r) (ho : okW r) (hQ : Q (fs (fun i => onet r i x && hds r i y) 0 (r 0))) : mX3_holderInNet o x y h Q := by
  unfold mX3_holderInNet
  have hn0 := hn.1
  have ho0 := ho.1
  have ho7 := ho.2.2.2.1
  unfold okR at ho0
  obtain ⟨f, hf⟩ := forU (fun f i => Q (fs (fun i => onet r i x && hds r i y) i (r 0)) → mX3_holderInNet_b2 o h Q f x y i) 0 (r 0) (by omega) (fun f hq => by
      unfold mX3_holderInNet_b2 mX3_holderInNet_b45
      rw [fs_end (Int.le_refl _)] at hq
      (repeat' (first
          | (refine p3_inNet hn ho ?_)
          | (refine p3_keptBy hn ho ⟨by omega, by omega⟩ ?_)
          | (refine ⟨⟨by omega, by omega⟩, ?_⟩)
          | (refine ⟨zri (by omega) (by omega), ?_⟩)
          | (refine ⟨fun _ => ?_, fun _ => ?_⟩)
          | fail))
      all_goals first | (exfalso; omega) | (exact hq)) (fun f i h1 h2 ih hq => by
      have hH := hn.2.1 i h1 h2
      have hO := ho.2.2.2.2.1 i h1 h2
      unfold netH at hH
      have hl := lat_r (r := r) (i := i)
      unfold mX3_holderInNet_b2 mX3_holderInNet_b45
      (repeat' (first
          | (refine p3_inNet hn ho ?_)
          | (refine p3_keptBy hn ho ⟨by omega, by omega⟩ ?_)
          | (refine ⟨⟨by omega, by omega⟩, ?_⟩)
          | (refine ⟨zri (by omega) (by omega), ?_⟩)
          | (refine ⟨fun _ => ?_, fun _ => ?_⟩)
          | fail))
      all_goals first | (exfalso; omega) | (refine ih ?_; rw [fs_skip h2 (by first | (simp_all [onet, hds, b2i0, b2i1]; done) | (simp_all [onet, hds, b2i0, b2i1]; omega) | (grind [onet, hds, b2i0, b2i1]))] at hq; exact hq) | (rw [fs_hit h2 (by first | (simp_all [onet, hds, b2i0, b2i1]; done) | (simp_all [onet, hds, b2i0, b2i1]; omega) | (grind [onet, hds, b2i0, b2i1]))] at hq; exact hq))
  exact ⟨f, hf hQ⟩
theorem p3_holderInOffice {x y : Int} {o : Nat} {h : Hp} {Q : Int → Prop} {r : Rw} (hn : nets h o r) (ho : okW r) (hQ : Q (fs (fun i => decide (fl r i 0 = x) && hds r i y) 0 (r 0))) : mX3_holderInOffice o x y h Q := by
  unfold mX3_holderInOffice
  have hn0 := hn.1
  have ho0 := ho.1
  have ho7 := ho.2.2.2.1
  unfold okR at ho0
  obtain ⟨f, hf⟩ := forU (fun f i => Q (fs (fun i => decide (fl r i 0 = x) && hds r i y) i (r 0)) → mX3_holderInOffice_b2 o h Q f x y i) 0 (r 0) (by omega) (fun f hq => by
      unfold mX3_holderInOffice_b2 mX3_holderInOffice_b41
      rw [fs_end (Int.le_refl _)] at hq
      (repeat' (first
          | (refine p3_keptBy hn ho ⟨by omega, by omega⟩ ?_)
          | (refine ⟨⟨by omega, by omega⟩, ?_⟩)
          | (refine ⟨zri (by omega) (by omega), ?_⟩)
          | (refine ⟨fun _ => ?_, fun _ => ?_⟩)
          | fail))
      all_goals first | (exfalso; omega) | (exact hq)) (fun f i h1 h2 ih hq => by
      have hH := hn.2.1 i h1 h2
      have hO := ho.2.2.2.2.1 i h1 h2
      unfold netH at hH
      have hl := lat_r (r := r) (i := i)
      unfold mX3_holderInOffice_b2 mX3_holderInOffice_b41
      (repeat' (first
          | (refine p3_keptBy hn ho ⟨by omega, by omega⟩ ?_)
          | (refine ⟨⟨by omega, by omega⟩, ?_⟩)
          | (refine ⟨zri (by omega) (by omega), ?_⟩)
          | (refine ⟨fun _ => ?_, fun _ => ?_⟩)
          | fail))
      all_goals first | (exfalso; omega) | (refine ih ?_; rw [fs_skip h2 (by first | (simp_all [hds, b2i0, b2i1]; done) | (simp_all [hds, b2i0, b2i1]; omega) | (grind [hds, b2i0, b2i1]))] at hq; exact hq) | (rw [fs_hit h2 (by first | (simp_all [hds, b2i0, b2i1]; done) | (simp_all [hds, b2i0, b2i1]; omega) | (grind [hds, b2i0, b2i1]))] at hq; exact hq))
  exact ⟨f, hf hQ⟩
theorem p3_keeperCount {o : Nat} {h : Hp} {Q : Int → Prop} {r : Rw} (hn : nets h o r) (ho : okW r) (hQ : Q (cn (fun i => decide (¬ kept r i = 0)) 0 (r 0))) : mX3_keeperCount o h Q := by
  unfold mX3_keeperCount
  have hn0 := hn.1
  have ho0 := ho.1
  have ho7 := ho.2.2.2.1
  unfold okR at ho0
  obtain ⟨f, hf⟩ := forU (fun f i => ∀ s, 0 ≤ s → s ≤ i → Q (s + cn (fun i => decide (¬ kept r i = 0)) i (r 0)) → mX3_keeperCount_b4 o h Q f s i) 0 (r 0) (by omega) (fun f s _ _ hq => by
      unfold mX3_keeperCount_b4 mX3_keeperCount_b26
      rw [cn_end (Int.le_refl _), Int.add_zero] at hq
      (repeat' (first
          | (refine p3_keptBy hn ho ⟨by omega, by omega⟩ ?_)
          | (refine ⟨⟨by omega, by omega⟩, ?_⟩)
          | (refine ⟨zri (by omega) (by omega), ?_⟩)
          | (refine ⟨fun _ => ?_, fun _ => ?_⟩)
          | fail))
      all_goals first | (exfalso; omega) | (exact hq)) (fun f i h1 h2 ih s s0 s1 hq => by
      have hH := hn.2.1 i h1 h2
      have hO := ho.2.2.2.2.1 i h1 h2
      unfold netH at hH
      have hl := lat_r (r := r) (i := i)
      unfold mX3_keeperCount_b4 mX3_keeperCount_b26
      (repeat' (first
          | (refine p3_keptBy hn ho ⟨by omega, by omega⟩ ?_)
          | (refine ⟨⟨by omega, by omega⟩, ?_⟩)
          | (refine ⟨zri (by omega) (by omega), ?_⟩)
          | (refine ⟨fun _ => ?_, fun _ => ?_⟩)
          | fail))
      all_goals first | (exfalso; omega) | (refine ih (s + 0) (by omega) (by omega) ?_; rw [cn_skip h2 (by first | (simp_all; done) | (simp_all; omega) | grind), ← Int.add_assoc] at hq; exact hq) | (refine ih (s + 1) (by omega) (by omega) ?_; rw [cn_hit h2 (by first | (simp_all; done) | (simp_all; omega) | grind), ← Int.add_assoc] at hq; exact hq) | (refine ih s (by omega) (by omega) ?_; rw [cn_skip h2 (by first | (simp_all; done) | (simp_all; omega) | grind), Int.zero_add] at hq; exact hq))
  exact ⟨f, hf 0 (by omega) (by omega) (by rw [Int.zero_add]; exact hQ)⟩
theorem p3_chosenToMove {v : Int} {o : Nat} {h : Hp} {Q : Int → Prop} {r : Rw} (hn : nets h o r) (ho : okW r) (hQ : Q (if mvb r 1 v = -1 then mvb r 0 v else mvb r 1 v)) : mX3_chosenToMove o v h Q := by
  unfold mX3_chosenToMove
  unfold mvb at hQ
  refine p3_movableWith hn ho ⟨fun h1 => p3_movableWith hn ho ?_, fun h1 => ?_⟩
  · rw [if_pos h1] at hQ; exact hQ
  · rw [if_neg h1] at hQ; exact hQ
theorem p3_sideBehindWave {x y : Int} {o : Nat} {h : Hp} {Q : Int → Prop} {r : Rw} (hn : nets h o r) (ho : okW r) (hQ : Q (if nin r x y = -1 then y else if fl r (nin r x y) 4 = r 2 then fl r (nin r x y) 3 else y)) : mX3_sideBehindWave o x y h Q := by
  unfold mX3_sideBehindWave
  have hn0 := hn.1
  have ho0 := ho.1
  have ho7 := ho.2.2.2.1
  unfold okR at ho0
  refine p3_numberedInNet hn ho ?_
  rw [show (fs (fun i => onet r i x && decide (fl r i 1 = y)) 0 (r 0)) = nin r x y from rfl]
  have hf := fs_r (p := fun i => onet r i x && decide (fl r i 1 = y)) (a := 0) (b := r 0) (Int.le_refl 0)
  refine ⟨fun h1 => ?_, fun h1 => ?_⟩
  · rw [if_pos h1] at hQ; exact hQ
  · rw [if_neg h1] at hQ
    have h2 : 0 ≤ nin r x y ∧ nin r x y < r 0 := by unfold nin at h1 ⊢; omega
    have e := hn.2.1 _ h2.1 h2.2
    unfold netH at e
    rw [e.2.2.2.2.2.1, e.2.2.2.2.1, hn0.2.2.1]
    refine ⟨⟨by omega, by omega⟩, fun h3 => ?_, fun h3 => ⟨⟨by omega, by omega⟩, ?_⟩⟩
    · rw [if_neg h3] at hQ; exact hQ
    · rw [if_pos h3] at hQ; exact hQ
theorem p3_sideAheadOfWave {x y : Int} {o : Nat} {h : Hp} {Q : Int → Prop} {r : Rw} (hn : nets h o r) (ho : okW r) (hQ : Q (if nin r x y = -1 then y else if lat r (nin r x y) = r 2 then mv r (nin r x y) (r 2) else y)) : mX3_sideAheadOfWave o x y h Q := by
  unfold mX3_sideAheadOfWave
  have hn0 := hn.1
  have ho0 := ho.1
  have ho7 := ho.2.2.2.1
  unfold okR at ho0
  refine p3_numberedInNet hn ho ?_
  rw [show (fs (fun i => onet r i x && decide (fl r i 1 = y)) 0 (r 0)) = nin r x y from rfl]
  have hf := fs_r (p := fun i => onet r i x && decide (fl r i 1 = y)) (a := 0) (b := r 0) (Int.le_refl 0)
  refine ⟨fun h1 => ?_, fun h1 => ?_⟩
  · rw [if_pos h1] at hQ; exact hQ
  · rw [if_neg h1] at hQ
    have h2 : 0 ≤ nin r x y ∧ nin r x y < r 0 := by unfold nin at h1 ⊢; omega
    have e := hn.2.1 _ h2.1 h2.2
    unfold netH at e
    rw [e.2.2.2.2.2.2.1, hn0.2.2.1]
    refine ⟨⟨by omega, by omega⟩, fun h3 => ?_, fun h3 => p3_numberAhead hn ho h2 ⟨by omega, by omega⟩ ?_⟩
    · rw [if_neg h3] at hQ; exact hQ
    · rw [if_pos h3] at hQ; exact hQ
