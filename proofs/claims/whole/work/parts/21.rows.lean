/-! what a row of the reference says: r 0 hosts, 1 rules, 2 waves, 3 KEEP, 4 PER, 5 6 the pool, 7 open -/
abbrev Rw : Type := Int → Int
def fl (r : Rw) (i j : Int) : Int := r ((16 + (24 * i)) + j)
def rl (r : Rw) (k j : Int) : Int := r ((976 + (4 * k)) + j)
def ltN (r : Rw) (i : Int) : Nat → Int
  | 0 => 0
  | n + 1 => if fl r i ((14 + ((n : Int) + 1)) - 1) = 0 then ltN r i n else (n : Int) + 1
def lat0 (r : Rw) (i w : Int) : Int := ltN r i w.toNat
theorem lat0_0 {r : Rw} {i w : Int} (h : w ≤ 0) : lat0 r i w = 0 := by
  unfold lat0
  rw [show w.toNat = 0 by omega]
  rfl
theorem lat0_s {r : Rw} {i w : Int} (h : 0 < w) : lat0 r i w = if fl r i ((14 + w) - 1) = 0 then lat0 r i (w + (-1)) else w := by
  unfold lat0
  obtain ⟨n, hn⟩ : ∃ n, w.toNat = n + 1 := ⟨w.toNat - 1, by omega⟩
  have hw : (n : Int) + 1 = w := by omega
  rw [hn, show (w + (-1)).toNat = n by omega]
  show (if fl r i ((14 + ((n : Int) + 1)) - 1) = 0 then ltN r i n else (n : Int) + 1) = _
  rw [hw]
theorem lat0_r {r : Rw} {i : Int} : ∀ w, 0 ≤ w → 0 ≤ lat0 r i w ∧ lat0 r i w ≤ w := by
  have key : ∀ (n : Nat) (w : Int), w.toNat = n → 0 ≤ w → 0 ≤ lat0 r i w ∧ lat0 r i w ≤ w := by
    intro n
    induction n with
    | zero => intro w h h0; rw [lat0_0 (by omega)]; omega
    | succ n ih =>
      intro w h h0
      rw [lat0_s (by omega)]
      split
      · have := ih (w + (-1)) (by omega) (by omega)
        omega
      · omega
  exact fun w h => key _ w rfl h
/-- the wave of a host's latest move -/
def lat (r : Rw) (i : Int) : Int := lat0 r i 9
theorem lat_r {r : Rw} {i : Int} : 0 ≤ lat r i ∧ lat r i ≤ 9 := lat0_r 9 (by omega)
def kp (r : Rw) (i c : Int) : Int := if lat r i ≤ 0 then 0 else if lat r i + r 3 ≤ c then 0 else fl r i ((14 + lat r i) - 1)
def kept (r : Rw) (i : Int) : Int := kp r i (r 2)
def hds (r : Rw) (i v : Int) : Bool := decide (fl r i 1 = v) || decide (kept r i = v)
def net (r : Rw) (i j : Int) : Bool := decide (r 7 = 1) || decide (fl r i 0 = fl r j 0)
def onet (r : Rw) (i o : Int) : Bool := decide (r 7 = 1) || decide (fl r i 0 = o)
def hold (r : Rw) (o v : Int) : Int := fs (fun i => decide (fl r i 0 = o) && hds r i v) 0 (r 0)
def clash (r : Rw) (v : Int) : Bool := decide (¬ hold r 0 v = -1) && decide (¬ hold r 1 v = -1)
def clashes (r : Rw) : Int := cn (clash r) 1 251
def pair0 (r : Rw) (v i : Int) : Bool := decide (¬ fs (fun o => net r i o && hds r o v) 0 i = -1)
def pair (r : Rw) (v : Int) : Bool := decide (¬ fs (fun i => hds r i v && pair0 r v i) 0 (r 0) = -1)
def twice (r : Rw) : Int := fs (pair r) 1 251
/-- the ranges that every row keeps -/
def okR (r : Rw) : Prop := (0 ≤ r 0 ∧ r 0 ≤ 40) ∧ (0 ≤ r 1 ∧ r 1 ≤ 30) ∧ (0 ≤ r 2 ∧ r 2 ≤ 9) ∧ (0 ≤ r 3 ∧ r 3 ≤ 3)
/-! the reference's small methods -/
theorem p8_in {x a b : Int} {h : Hp} {Q : Int → Prop} (hQ : Q (b2i (decide (a ≤ x ∧ x ≤ b)))) : mX8_in x a b h Q := by
  unfold mX8_in
  have z1 : zlcmp x a < 0 ↔ x < a := by
    unfold zlcmp
    split
    · omega
    · split <;> omega
  have z2 : 0 < zlcmp x b ↔ b < x := by
    unfold zlcmp
    split
    · omega
    · split <;> omega
  refine ⟨fun h1 => ?_, fun h1 => ⟨fun h2 => ?_, fun h2 => ?_⟩⟩
  · rw [z1] at h1
    rw [decide_eq_false (by omega)] at hQ
    exact hQ
  · rw [z2] at h2
    rw [decide_eq_false (by omega)] at hQ
    exact hQ
  · rw [z1] at h1
    rw [z2] at h2
    rw [decide_eq_true (by omega)] at hQ
    exact hQ
theorem p8_cell {x j : Int} {h : Hp} {Q : Int → Prop} (hx : 0 ≤ x ∧ x ≤ 40) (hj : 0 ≤ j ∧ j < 24) (hQ : Q ((16 + (24 * x)) + j)) : mX8_cell x j h Q :=
  ⟨zri (by omega) (by omega), zri (by omega) (by omega), zri (by omega) (by omega), hQ⟩
theorem p8_ruleCell {x j : Int} {h : Hp} {Q : Int → Prop} (hx : 0 ≤ x ∧ x ≤ 30) (hj : 0 ≤ j ∧ j < 4) (hQ : Q ((976 + (4 * x)) + j)) : mX8_ruleCell x j h Q :=
  ⟨zri (by omega) (by omega), zri (by omega) (by omega), zri (by omega) (by omega), hQ⟩
theorem p8_of {x j : Int} {h : Hp} {Q : Int → Prop} (hx : 0 ≤ x ∧ x < 40) (hj : 0 ≤ j ∧ j < 24) (hQ : Q (fl (rd h 186) x j)) : mX8_of x j h Q :=
  p8_cell ⟨by omega, by omega⟩ hj ⟨⟨by omega, by omega⟩, hQ⟩
theorem p8_latest {x : Int} {h : Hp} {Q : Int → Prop} (hx : 0 ≤ x ∧ x < 40) (hQ : Q (lat (rd h 186) x)) : mX8_latest x h Q := by
  unfold mX8_latest
  obtain ⟨f, hf⟩ := forD (fun f w => 0 ≤ w → w ≤ 9 → Q (lat0 (rd h 186) x w) → mX8_latest_b3 h Q f x w) 9 0 (by omega) (fun f _ _ hq => by
      unfold mX8_latest_b3
      rw [lat0_0 (by omega)] at hq
      exact ⟨fun _ => hq, fun hc => absurd (Int.le_refl 0) hc⟩) (fun f i h1 h2 ih _ _ hq => by
      unfold mX8_latest_b3
      refine ⟨fun hc => by omega, fun _ => ⟨zri (by omega) (by omega), zri (by omega) (by omega), p8_of hx ⟨by omega, by omega⟩ ⟨fun hz => ?_, fun hz => ⟨zri (by omega) (by omega), ?_⟩⟩⟩⟩
      · rw [lat0_s h1, if_neg hz] at hq
        exact hq
      · rw [lat0_s h1, if_pos hz] at hq
        exact ih (by omega) (by omega) hq)
  exact ⟨f, hf (by omega) (by omega) hQ⟩
theorem p8_keptAt {x c : Int} {h : Hp} {Q : Int → Prop} (ho : okR (rd h 186)) (hx : 0 ≤ x ∧ x < 40) (hQ : Q (kp (rd h 186) x c)) : mX8_keptAt x c h Q := by
  obtain ⟨-, -, -, hk⟩ := ho
  have hl := lat_r (r := rd h 186) (i := x)
  unfold mX8_keptAt
  refine p8_latest hx ⟨fun h1 => ?_, fun h1 => ⟨⟨by omega, by omega⟩, zri (by omega) (by omega), fun h2 => ?_, fun h2 => ⟨zri (by omega) (by omega), zri (by omega) (by omega), p8_of hx ⟨by omega, by omega⟩ ?_⟩⟩⟩
  · unfold kp at hQ
    rw [if_pos h1] at hQ
    exact hQ
  · unfold kp at hQ
    rw [if_neg h1, if_pos h2] at hQ
    exact hQ
  · unfold kp at hQ
    rw [if_neg h1, if_neg h2] at hQ
    exact hQ
theorem p8_kept {x : Int} {h : Hp} {Q : Int → Prop} (ho : okR (rd h 186)) (hx : 0 ≤ x ∧ x < 40) (hQ : Q (kept (rd h 186) x)) : mX8_kept x h Q :=
  ⟨⟨by omega, by omega⟩, p8_keptAt ho hx hQ⟩
theorem p8_holds {x v : Int} {h : Hp} {Q : Int → Prop} (ho : okR (rd h 186)) (hx : 0 ≤ x ∧ x < 40) (hQ : Q (b2i (hds (rd h 186) x v))) : mX8_holds x v h Q := by
  unfold mX8_holds
  refine p8_of hx ⟨by omega, by omega⟩ ⟨fun h1 => ?_, fun h1 => p8_kept ho hx ⟨fun h2 => ?_, fun h2 => ?_⟩⟩
  · rw [hds, decide_eq_true h1] at hQ; exact hQ
  · rw [hds, decide_eq_false h1, decide_eq_false h2] at hQ; exact hQ
  · rw [hds, decide_eq_true h2, Bool.or_true] at hQ; exact hQ
theorem p8_areOfNet {x y : Int} {h : Hp} {Q : Int → Prop} (hx : 0 ≤ x ∧ x < 40) (hy : 0 ≤ y ∧ y < 40) (hQ : Q (b2i (net (rd h 186) x y))) : mX8_areOfNet x y h Q := by
  unfold mX8_areOfNet
  refine ⟨⟨by omega, by omega⟩, fun h1 => ?_, fun h1 => p8_of hx ⟨by omega, by omega⟩ (p8_of hy ⟨by omega, by omega⟩ ⟨fun h2 => ?_, fun h2 => ?_⟩)⟩
  · rw [net, decide_eq_true h1] at hQ; exact hQ
  · rw [net, decide_eq_false h1, decide_eq_false h2] at hQ; exact hQ
  · rw [net, decide_eq_true h2, Bool.or_true] at hQ; exact hQ
theorem p8_isOfNet {x y : Int} {h : Hp} {Q : Int → Prop} (hx : 0 ≤ x ∧ x < 40) (hQ : Q (b2i (onet (rd h 186) x y))) : mX8_isOfNet x y h Q := by
  unfold mX8_isOfNet
  refine ⟨⟨by omega, by omega⟩, fun h1 => ?_, fun h1 => p8_of hx ⟨by omega, by omega⟩ ⟨fun h2 => ?_, fun h2 => ?_⟩⟩
  · rw [onet, decide_eq_true h1] at hQ; exact hQ
  · rw [onet, decide_eq_false h1, decide_eq_false h2] at hQ; exact hQ
  · rw [onet, decide_eq_true h2, Bool.or_true] at hQ; exact hQ
theorem b2i0 {b : Bool} : b2i b = 0 ↔ b = false := by cases b <;> simp [b2i]
theorem b2i1 {b : Bool} : ¬ b2i b = 0 ↔ b = true := by cases b <;> simp [b2i]
theorem p8_holderOf {o v : Int} {h : Hp} {Q : Int → Prop} (ho : okR (rd h 186)) (hQ : Q (hold (rd h 186) o v)) : mX8_holderOf o v h Q := by
  obtain ⟨hh, -⟩ := id ho
  unfold mX8_holderOf
  obtain ⟨f, hf⟩ := forU (fun f i => Q (fs (fun i => decide (fl (rd h 186) i 0 = o) && hds (rd h 186) i v) i (rd h 186 0)) → mX8_holderOf_b2 h Q f o v i) 0 (rd h 186 0) hh.1 (fun f hq => by
      unfold mX8_holderOf_b2
      rw [fs_end (Int.le_refl _)] at hq
      exact ⟨⟨by omega, by omega⟩, fun _ => hq, fun hc => absurd (Int.le_refl _) hc⟩) (fun f i h1 h2 ih hq => by
      unfold mX8_holderOf_b2
      refine ⟨⟨by omega, by omega⟩, fun hc => by omega, fun _ => p8_of ⟨h1, by omega⟩ ⟨by omega, by omega⟩ ⟨fun hc => ⟨zri (by omega) (by omega), ih ?_⟩, fun hc => p8_holds ho ⟨h1, by omega⟩ ⟨fun hz => ⟨zri (by omega) (by omega), ih ?_⟩, fun hz => ?_⟩⟩⟩
      · rw [fs_skip h2 (by simp only [decide_eq_false hc, Bool.false_and])] at hq
        exact hq
      · rw [fs_skip h2 (by simp only [b2i0.mp hz, Bool.and_false])] at hq
        exact hq
      · rw [fs_hit h2 (by simp only [b2i1.mp hz, decide_eq_true hc, Bool.true_and])] at hq
        exact hq)
  exact ⟨f, hf hQ⟩
theorem p8_isClash {v : Int} {h : Hp} {Q : Int → Prop} (ho : okR (rd h 186)) (hQ : Q (b2i (clash (rd h 186) v))) : mX8_isClash v h Q := by
  unfold mX8_isClash
  refine p8_holderOf ho ⟨fun h1 => ?_, fun h1 => p8_holderOf ho ⟨fun h2 => ?_, fun h2 => ?_⟩⟩
  · rw [clash, decide_eq_false (fun w => w h1), Bool.false_and] at hQ; exact hQ
  · rw [clash, decide_eq_true h1, decide_eq_false (fun w => w h2), Bool.and_false] at hQ; exact hQ
  · rw [clash, decide_eq_true h1, decide_eq_true h2] at hQ; exact hQ
theorem p8_clashes {h : Hp} {Q : Int → Prop} (ho : okR (rd h 186)) (hQ : Q (clashes (rd h 186))) : mX8_clashes h Q := by
  unfold mX8_clashes
  obtain ⟨f, hf⟩ := forU (fun f i => ∀ s, 0 ≤ s → s ≤ i → Q (s + cn (clash (rd h 186)) i 251) → mX8_clashes_b4 h Q f s i) 1 251 (by omega) (fun f s _ _ hq => by
      unfold mX8_clashes_b4
      rw [cn_end (Int.le_refl _), Int.add_zero] at hq
      exact ⟨fun _ => hq, fun hc => absurd (by omega) hc⟩) (fun f i h1 h2 ih s s0 s1 hq => by
      unfold mX8_clashes_b4
      refine ⟨fun hc => by omega, fun _ => p8_isClash ho ⟨fun hz => ⟨zri (by omega) (by omega), zri (by omega) (by omega), ih (s + 0) (by omega) (by omega) ?_⟩, fun hz => ⟨zri (by omega) (by omega), zri (by omega) (by omega), ih (s + 1) (by omega) (by omega) ?_⟩⟩⟩
      · rw [cn_skip h2 (b2i0.mp hz), ← Int.add_assoc] at hq
        exact hq
      · rw [cn_hit h2 (b2i1.mp hz), ← Int.add_assoc] at hq
        exact hq)
  exact ⟨f, hf 0 (by omega) (by omega) (by rw [Int.zero_add]; exact hQ)⟩
