/-! history, the tally's answers, the next wave and the way back on nets -/
def slot (w m : Int) : Nat := 39 + 13 * ((w + 10 - m) % 10).toNat
def hist (h : Hp) (n : Int) (b : Int → Rw) : Prop := h 170 2 = n ∧ (0 ≤ n ∧ n ≤ 10) ∧ (0 ≤ h 170 1 ∧ h 170 1 < 10) ∧ ∀ m, 0 ≤ m → m < n → nets h (slot (h 170 1) m) (b (n - 1 - m))
def hpu (n : Int) (b : Int → Rw) (r : Rw) : Int → Rw := fun k => if k = min 10 (n + 1) - 1 then r else b (k + (n + 1 - min 10 (n + 1)))
theorem slot_r {w m : Int} : 39 ≤ slot w m ∧ slot w m ≤ 156 := by unfold slot; omega
theorem p0_clear {h : Hp} {Q : Hp → Prop} (hQ : Q (hu h 170 2 0)) : mX0_clear h Q := by
  unfold mX0_clear
  exact fun _ e => e ▸ hQ
theorem hist_clear {h : Hp} {n : Int} {b b' : Int → Rw} (hh : hist h n b) : hist (hu h 170 2 0) 0 b' :=
  ⟨hu_same, by omega, by rw [hu_ne (by omega)]; exact hh.2.2.1, fun m m1 m2 => by omega⟩
theorem hist_frame {h h' : Hp} {n : Int} {b : Int → Rw} (hh : hist h n b) (hf : ∀ p, (39 ≤ p ∧ p ≤ 168) ∨ p = 170 → h' p = h p) : hist h' n b := by
  obtain ⟨a1, a2, a3, a4⟩ := hh
  refine ⟨by rw [hf 170 (by omega)]; exact a1, a2, by rw [hf 170 (by omega)]; exact a3, fun m m1 m2 => ?_⟩
  rw [hf 170 (by omega)]
  have hs := slot_r (w := h 170 1) (m := m)
  exact nets_frame (a4 m m1 m2) (fun p p1 p2 => hf p (by omega))
theorem hist_eqV {h : Hp} {n : Int} {b b' : Int → Rw} (hh : hist h n b) (he : ∀ k, 0 ≤ k → k < n → eqV (b k) (b' k)) : hist h n b' :=
  ⟨hh.1, hh.2.1, hh.2.2.1, fun m m1 m2 => nets_eqV (hh.2.2.2 m m1 m2) (he _ (by omega) (by omega))⟩
theorem p0_add {o : Nat} {h : Hp} {Q : Hp → Prop} {r : Rw} {n : Int} {b : Int → Rw} (hh : hist h n b) (hn : nets h o r) (ho : okR r) (hz : o < 27) (hQ : ∀ h', hist h' (min 10 (n + 1)) (hpu n b r) → (∀ p, ¬ (39 ≤ p ∧ p ≤ 168) → p ≠ 170 → h' p = h p) → Q h') : mX0_add o h Q := by
  obtain ⟨a1, a2, a3, a4⟩ := hh
  have body : ∀ s : Int, s = (h 170 1 + 1) % 10 → mX0_add_b22 o Q s h := by
    intro s hs
    unfold mX0_add_b22
    intro g1 e1
    have v1 : g1 170 1 = s := by rw [e1]; exact hu_same
    have v2 : g1 170 2 = n := by rw [e1, hu_ne (by omega)]; exact a1
    have f1 : ∀ p, p ≠ 170 → g1 p = h p := fun p hp => by rw [e1]; exact hu_q hp
    rw [v1]
    refine ⟨⟨by omega, by omega⟩, ?_⟩
    refine p3_copyFrom (nets_frame hn (fun p p1 p2 => f1 p (by omega))) ho (by omega) fun g2 n2 f2 => ?_
    have w2 : g2 170 = g1 170 := f2 170 (by omega)
    rw [w2, v2]
    refine ⟨zri (by omega) (by omega), fun g3 e3 => ?_⟩
    have f3 : ∀ p, p ≠ 170 → g3 p = g2 p := fun p hp => by rw [e3]; exact hu_q hp
    have u1 : g3 170 1 = s := by rw [e3, hu_ne (by omega), w2]; exact v1
    refine hQ g3 ⟨by rw [e3]; exact hu_same, by omega, by omega, fun m m1 m2 => ?_⟩ (fun p p1 p2 => by rw [f3 p p2, f2 p (by omega), f1 p p2])
    rw [u1]
    by_cases c : m = 0
    · subst c
      have : slot s 0 = 39 + 13 * s.toNat := by unfold slot; omega
      rw [this]
      unfold hpu
      rw [if_pos (by omega)]
      exact nets_frame n2 (fun p p1 p2 => f3 p (by omega))
    · have : slot s m = slot (h 170 1) (m - 1) := by unfold slot; omega
      rw [this]
      unfold hpu
      rw [if_neg (by omega), show min 10 (n + 1) - 1 - m + (n + 1 - min 10 (n + 1)) = n - 1 - (m - 1) by omega]
      have hs2 := slot_r (w := h 170 1) (m := m - 1)
      have hd : slot (h 170 1) (m - 1) + 12 < 39 + 13 * s.toNat ∨ 39 + 13 * s.toNat + 12 < slot (h 170 1) (m - 1) := by unfold slot; omega
      exact nets_frame (a4 (m - 1) (by omega) (by omega)) (fun p p1 p2 => by rw [f3 p (by omega), f2 p (by omega), f1 p (by omega)])
  unfold mX0_add
  exact ⟨zri (by omega) (by omega), fun hc => body 0 (by omega), fun hc => ⟨zri (by omega) (by omega), body _ (by omega)⟩⟩
theorem p0_takeNewest {o : Nat} {h : Hp} {Q : Hp → Prop} {n : Int} {b : Int → Rw} (hh : hist h n b) (ho : okR (b (n - 1))) (h0 : 0 < n) (hz : o < 27) (hQ : ∀ h', hist h' (n - 1) b → nets h' o (b (n - 1)) → (∀ p, ¬ (o ≤ p ∧ p ≤ o + 12) → p ≠ 170 → h' p = h p) → Q h') : mX0_takeNewest o h Q := by
  obtain ⟨a1, a2, a3, a4⟩ := hh
  unfold mX0_takeNewest
  refine ⟨⟨by omega, by omega⟩, fun hc => by omega, fun _ => ?_⟩
  have hs : slot (h 170 1) 0 = 39 + 13 * (h 170 1).toNat := by unfold slot; omega
  have hn := a4 0 (by omega) (by omega)
  rw [hs, Int.sub_zero] at hn
  refine p3_copyFrom hn ho (by omega) fun g1 n1 f1 => ?_
  have w1 : g1 170 = h 170 := f1 170 (by omega)
  rw [w1]
  refine ⟨zri (by omega) (by omega), fun g2 e2 => ?_⟩
  have v1 : g2 170 1 = h 170 1 := by rw [e2, hu_ne (by omega), w1]
  have v2 : g2 170 2 = n - 1 := by rw [e2, hu_same, a1]
  have f2 : ∀ p, p ≠ 170 → g2 p = g1 p := fun p hp => by rw [e2]; exact hu_q hp
  rw [v1]
  have body : ∀ s : Int, s = (h 170 1 + 9) % 10 → mX0_takeNewest_b55 o Q s g2 := by
    intro s hs
    unfold mX0_takeNewest_b55
    intro g3 e3
    have f3 : ∀ p, p ≠ 170 → g3 p = g2 p := fun p hp => by rw [e3]; exact hu_q hp
    have u1 : g3 170 1 = s := by rw [e3]; exact hu_same
    have u2 : g3 170 2 = n - 1 := by rw [e3, hu_ne (by omega)]; exact v2
    refine hQ g3 ⟨u2, by omega, by omega, fun m m1 m2 => ?_⟩ (nets_frame n1 (fun p p1 p2 => by rw [f3 p (by omega), f2 p (by omega)])) (fun p p1 p2 => by rw [f3 p p2, f2 p p2, f1 p (by omega)])
    rw [u1]
    have : slot s m = slot (h 170 1) (m + 1) := by unfold slot; omega
    rw [this, show n - 1 - 1 - m = n - 1 - (m + 1) by omega]
    have hs2 := slot_r (w := h 170 1) (m := m + 1)
    exact nets_frame (a4 (m + 1) (by omega) (by omega)) (fun p p1 p2 => by rw [f3 p (by omega), f2 p (by omega), f1 p (by omega)])
  exact ⟨fun hc => body 9 (by omega), fun hc => ⟨zri (by omega) (by omega), body _ (by omega)⟩⟩
theorem p7_heldTwice {o : Nat} {h : Hp} {Q : Int → Hp → Prop} {r : Rw} (hn : nets h o r) (ho : okW r) (hz : o < 160) (hQ : ∀ h', (∀ p, p ≠ 173 → p ≠ 174 → p ≠ 175 → h' p = h p) → Q (if twice r = -1 then 0 else twice r) h') : mX7_heldTwice o h Q := by
  unfold mX7_heldTwice
  refine p5_count hn ho hz fun g t f => ?_
  exact p5_smallestTwice t ho (by rw [f o (by omega) (by omega) (by omega)]; exact hn.1.2.2.2.2.2.2.2) (hQ g f)
theorem p7_clashCount {o : Nat} {h : Hp} {Q : Int → Hp → Prop} {r : Rw} (hn : nets h o r) (ho : okW r) (hz : o < 160) (hQ : ∀ h', (∀ p, p ≠ 173 → p ≠ 174 → p ≠ 175 → h' p = h p) → Q (clashes r) h') : mX7_clashCount o h Q := by
  unfold mX7_clashCount
  refine p5_count hn ho hz fun g t f => ?_
  exact p5_clashes t (hQ g f)
theorem twice_r {r : Rw} : twice r = -1 ∨ (1 ≤ twice r ∧ twice r ≤ 250) := by
  unfold twice
  rcases fs_spec (pair r) 1 251 with ⟨e, _⟩ | ⟨e1, e2, _⟩
  · exact Or.inl e
  · exact Or.inr ⟨e1, by omega⟩
theorem nets_s2 {h : Hp} {o : Nat} {r : Rw} {k z : Int} (hn : nets h o r) (ho : okR r) (hk : 0 ≤ k ∧ k < r 1) : nets (wr h (o + 11) k z) o (sr r k 2 z) := by
  unfold okR at ho
  have hh : ∀ q, 0 ≤ q → q < 16 → sr r k 2 z q = r q := fun q h1 h2 => hd_sr hk.1 (by omega) ⟨h1, h2⟩
  have f : ∀ p, p ≠ o + 11 → (wr h (o + 11) k z) p = h p := fun p hp => wr_q hp
  refine ⟨?_, fun i i1 i2 => ?_, fun q q1 q2 => ?_⟩
  · rw [f o (by omega), hh 0 (by omega) (by omega), hh 1 (by omega) (by omega), hh 2 (by omega) (by omega), hh 3 (by omega) (by omega), hh 4 (by omega) (by omega), hh 5 (by omega) (by omega), hh 6 (by omega) (by omega), hh 7 (by omega) (by omega)]
    exact hn.1
  · rw [hh 0 (by omega) (by omega)] at i2
    exact netH_ext (hn.2.1 i i1 i2) (fun j j1 j2 => fl_sr hk.1 (by omega) ⟨i1, by omega⟩ ⟨j1, j2⟩) (rd_same (f _ (by omega))) (rd_same (f _ (by omega))) (rd_same (f _ (by omega))) (rd_same (f _ (by omega))) (rd_same (f _ (by omega))) (rd_same (f _ (by omega))) (rd_same (f _ (by omega))) (fun w w1 w2 => rd_same (f _ (by omega)))
  · rw [hh 1 (by omega) (by omega)] at q2
    obtain ⟨a1, a2, a3, a4⟩ := hn.2.2 q q1 q2
    have fe : ∀ j, 0 ≤ j → j < 4 → rl (sr r k 2 z) q j = if q = k ∧ j = 2 then z else rl r q j := fun j j1 j2 => rl_sr hk.1 (by omega) q1 ⟨j1, j2⟩
    refine ⟨?_, ?_, ?_, ?_⟩
    · rw [fe 0 (by omega) (by omega), if_neg (by omega), rd_same (f (o + 9) (by omega))]; exact a1
    · rw [fe 1 (by omega) (by omega), if_neg (by omega), rd_same (f (o + 10) (by omega))]; exact a2
    · rw [fe 2 (by omega) (by omega), rw_if hk.1 q1]
      by_cases c : q = k
      · rw [if_pos ⟨rfl, c⟩, if_pos ⟨c, rfl⟩]
      · rw [if_neg (fun w => c w.2), if_neg (fun w => c w.1)]; exact a3
    · rw [fe 3 (by omega) (by omega), if_neg (by omega), rd_same (f (o + 12) (by omega))]; exact a4
theorem nets_s3 {h : Hp} {o : Nat} {r : Rw} {k z : Int} (hn : nets h o r) (ho : okR r) (hk : 0 ≤ k ∧ k < r 1) : nets (wr h (o + 12) k z) o (sr r k 3 z) := by
  unfold okR at ho
  have hh : ∀ q, 0 ≤ q → q < 16 → sr r k 3 z q = r q := fun q h1 h2 => hd_sr hk.1 (by omega) ⟨h1, h2⟩
  have f : ∀ p, p ≠ o + 12 → (wr h (o + 12) k z) p = h p := fun p hp => wr_q hp
  refine ⟨?_, fun i i1 i2 => ?_, fun q q1 q2 => ?_⟩
  · rw [f o (by omega), hh 0 (by omega) (by omega), hh 1 (by omega) (by omega), hh 2 (by omega) (by omega), hh 3 (by omega) (by omega), hh 4 (by omega) (by omega), hh 5 (by omega) (by omega), hh 6 (by omega) (by omega), hh 7 (by omega) (by omega)]
    exact hn.1
  · rw [hh 0 (by omega) (by omega)] at i2
    exact netH_ext (hn.2.1 i i1 i2) (fun j j1 j2 => fl_sr hk.1 (by omega) ⟨i1, by omega⟩ ⟨j1, j2⟩) (rd_same (f _ (by omega))) (rd_same (f _ (by omega))) (rd_same (f _ (by omega))) (rd_same (f _ (by omega))) (rd_same (f _ (by omega))) (rd_same (f _ (by omega))) (rd_same (f _ (by omega))) (fun w w1 w2 => rd_same (f _ (by omega)))
  · rw [hh 1 (by omega) (by omega)] at q2
    obtain ⟨a1, a2, a3, a4⟩ := hn.2.2 q q1 q2
    have fe : ∀ j, 0 ≤ j → j < 4 → rl (sr r k 3 z) q j = if q = k ∧ j = 3 then z else rl r q j := fun j j1 j2 => rl_sr hk.1 (by omega) q1 ⟨j1, j2⟩
    refine ⟨?_, ?_, ?_, ?_⟩
    · rw [fe 0 (by omega) (by omega), if_neg (by omega), rd_same (f (o + 9) (by omega))]; exact a1
    · rw [fe 1 (by omega) (by omega), if_neg (by omega), rd_same (f (o + 10) (by omega))]; exact a2
    · rw [fe 2 (by omega) (by omega), if_neg (by omega), rd_same (f (o + 11) (by omega))]; exact a3
    · rw [fe 3 (by omega) (by omega), rw_if hk.1 q1]
      by_cases c : q = k
      · rw [if_pos ⟨rfl, c⟩, if_pos ⟨c, rfl⟩]
      · rw [if_neg (fun w => c w.2), if_neg (fun w => c w.1)]; exact a4
theorem okW_sr {r : Rw} {k j z : Int} (ho : okW r) (hk : 0 ≤ k ∧ k < 30) (hj : j = 2 ∨ j = 3) (hz : 0 ≤ z ∧ z ≤ 250) : okW (sr r k j z) := by
  have hh : ∀ q, 0 ≤ q → q < 16 → sr r k j z q = r q := fun q h1 h2 => hd_sr hk.1 (by omega) ⟨h1, h2⟩
  obtain ⟨a1, a2, a3, a4, a5, a6⟩ := ho
  have e0 := hh 0 (by omega) (by omega)
  have e1 := hh 1 (by omega) (by omega)
  have e2 := hh 2 (by omega) (by omega)
  have e3 := hh 3 (by omega) (by omega)
  have e4 := hh 4 (by omega) (by omega)
  have e5 := hh 5 (by omega) (by omega)
  have e6 := hh 6 (by omega) (by omega)
  have e7 := hh 7 (by omega) (by omega)
  unfold okR at a1
  refine ⟨by unfold okR; omega, by omega, by omega, by omega, fun i i1 i2 => ?_, fun q q1 q2 => ?_⟩
  · exact okH_ext (a5 i i1 (by omega)) e2 (fun j j1 j2 => fl_sr hk.1 (by omega) ⟨i1, by omega⟩ ⟨j1, j2⟩)
  · obtain ⟨b1, b2, b3, b4⟩ := a6 q q1 (by omega)
    have fe : ∀ j2, 0 ≤ j2 → j2 < 4 → rl (sr r k j z) q j2 = if q = k ∧ j2 = j then z else rl r q j2 := fun j2 u1 u2 => rl_sr hk.1 (by omega) q1 ⟨u1, u2⟩
    unfold okU
    rw [fe 0 (by omega) (by omega), fe 1 (by omega) (by omega), fe 2 (by omega) (by omega), fe 3 (by omega) (by omega), if_neg (by omega), if_neg (by omega)]
    refine ⟨b1, b2, ?_, ?_⟩
    · split <;> assumption
    · split <;> assumption
theorem nin_r {r : Rw} {o v : Int} : nin r o v = -1 ∨ (0 ≤ nin r o v ∧ nin r o v < r 0) := by
  have := fs_r (p := fun i => onet r i o && decide (fl r i 1 = v)) (a := 0) (b := r 0) (Int.le_refl 0)
  unfold nin
  omega
theorem nin_ext {r s : Rw} {o v : Int} (h0 : s 0 = r 0) (h7 : s 7 = r 7) (hf : ∀ i, 0 ≤ i → i < r 0 → fl s i 0 = fl r i 0 ∧ fl s i 1 = fl r i 1) : nin s o v = nin r o v := by
  unfold nin
  rw [h0]
  refine fs_congr fun i i1 i2 => ?_
  obtain ⟨e1, e2⟩ := hf i i1 i2
  unfold onet
  rw [h7, e1, e2]
/-- where a side goes with the next wave -/
def sbw (r : Rw) (o s : Int) : Int := if nin r o s = -1 then s else if fl r (nin r o s) 4 = r 2 + 1 then fl r (nin r o s) 3 else s
theorem sbw_r {r : Rw} (ho : okW r) {o s : Int} (hs : 0 ≤ s ∧ s ≤ 250) : 0 ≤ sbw r o s ∧ sbw r o s ≤ 250 := by
  unfold sbw
  rcases nin_r (r := r) (o := o) (v := s) with h | h
  · rw [if_pos h]; exact hs
  · rw [if_neg (by omega)]
    split
    · exact (ho.2.2.2.2.1 _ h.1 h.2).2.2.2.1
    · exact hs
def wvM (r : Rw) (i j : Int) : Int := if fl r i 4 = r 2 + 1 then (if j = 1 then fl r i 3 else if j = 3 then 0 else if j = 4 then 0 else if j = 14 + r 2 then fl r i 1 else fl r i j) else fl r i j
def wvS (r : Rw) (k j : Int) : Int := if 2 ≤ j then sbw r (rl r k 0) (rl r k j) else rl r k j
def wvH (r : Rw) (k : Int) : Int := if k = 2 then r 2 + 1 else r k
def wvR (r : Rw) (k : Int) : Rw := mkR (wvH r) (fl r) (fun q j => if q < k then wvS r q j else rl r q j)
def wvI (r : Rw) (i : Int) : Rw := mkR (wvH r) (fun x j => if x < i then wvM r x j else fl r x j) (wvS r)
/-- the row behind the next wave -/
def wv (r : Rw) : Rw := mkR (wvH r) (wvM r) (wvS r)
theorem wvH_k {r : Rw} {k : Int} (h : ¬ k = 2) : wvH r k = r k := if_neg h
theorem wvH_2 {r : Rw} : wvH r 2 = r 2 + 1 := if_pos rfl
theorem wvM_ok {r : Rw} (ho : okW r) (h2 : r 2 < 9) {i : Int} (hi : 0 ≤ i ∧ i < r 0) {s : Rw} (hs2 : s 2 = r 2 + 1) (hf : ∀ j, 0 ≤ j → j < 24 → fl s i j = wvM r i j) : okH s i := by
  have hO := ho.2.2.2.2.1 i hi.1 hi.2
  have ho1 := ho.1
  unfold okR at ho1
  obtain ⟨c1, c2, c3, c4, c5, c6, c7, c8, c9⟩ := hO
  by_cases c : fl r i 4 = r 2 + 1
  · have fe : ∀ j, 0 ≤ j → j < 24 → fl s i j = (if j = 1 then fl r i 3 else if j = 3 then 0 else if j = 4 then 0 else if j = 14 + r 2 then fl r i 1 else fl r i j) := fun j j1 j2 => by
      rw [hf j j1 j2]; unfold wvM; rw [if_pos c]
    unfold okH
    rw [fe 0 (by omega) (by omega), fe 1 (by omega) (by omega), fe 2 (by omega) (by omega), fe 3 (by omega) (by omega), fe 4 (by omega) (by omega), fe 5 (by omega) (by omega)]
    refine ⟨?_, ?_, ?_, ?_, ?_, ?_, ?_, fun k k1 k2 => ?_, fun w w1 w2 => ?_⟩
    · rw [if_neg (by omega), if_neg (by omega), if_neg (by omega), if_neg (by omega)]; exact c1
    · rw [if_pos rfl]; omega
    · rw [if_neg (by omega), if_neg (by omega), if_neg (by omega), if_neg (by omega)]; exact c3
    · rw [if_neg (by omega), if_pos rfl]; omega
    · rw [if_neg (by omega), if_neg (by omega), if_pos rfl]; omega
    · rw [if_neg (by omega), if_neg (by omega), if_pos rfl]; omega
    · rw [if_neg (by omega), if_neg (by omega), if_neg (by omega), if_neg (by omega)]; exact c7
    · rw [fe (6 + k) (by omega) (by omega), if_neg (by omega), if_neg (by omega), if_neg (by omega), if_neg (by omega), if_neg (by omega), if_neg (by omega), if_neg (by omega), if_neg (by omega)]
      exact c8 k k1 k2
    · rw [fe ((14 + w) - 1) (by omega) (by omega), if_neg (by omega), if_neg (by omega), if_neg (by omega)]
      have := c9 w w1 w2
      by_cases cw : (14 + w) - 1 = 14 + r 2
      · rw [if_pos cw]; exact ⟨by omega, fun q => by omega⟩
      · rw [if_neg cw]; exact ⟨this.1, fun q => this.2 (by omega)⟩
  · have fe : ∀ j, 0 ≤ j → j < 24 → fl s i j = fl r i j := fun j j1 j2 => by
      rw [hf j j1 j2]; unfold wvM; rw [if_neg c]
    unfold okH
    rw [fe 0 (by omega) (by omega), fe 1 (by omega) (by omega), fe 2 (by omega) (by omega), fe 3 (by omega) (by omega), fe 4 (by omega) (by omega), fe 5 (by omega) (by omega)]
    refine ⟨c1, c2, c3, c4, c5, c6, c7, fun k k1 k2 => ?_, fun w w1 w2 => ?_⟩
    · rw [fe (6 + k) (by omega) (by omega)]; exact c8 k k1 k2
    · rw [fe ((14 + w) - 1) (by omega) (by omega)]
      have := c9 w w1 w2
      exact ⟨this.1, fun q => this.2 (by omega)⟩
theorem wvS_ok {r : Rw} (ho : okW r) {k : Int} (hk : 0 ≤ k ∧ k < r 1) {s : Rw} (hf : ∀ j, 0 ≤ j → j < 4 → rl s k j = wvS r k j) : okU s k := by
  obtain ⟨c1, c2, c3, c4⟩ := ho.2.2.2.2.2 k hk.1 hk.2
  unfold okU
  rw [hf 0 (by omega) (by omega), hf 1 (by omega) (by omega), hf 2 (by omega) (by omega), hf 3 (by omega) (by omega)]
  unfold wvS
  rw [if_neg (by omega), if_neg (by omega), if_pos (by omega), if_pos (by omega)]
  exact ⟨c1, c2, sbw_r ho c3, sbw_r ho c4⟩
theorem wvHd {r s : Rw} (h : ∀ k, 0 ≤ k → k < 8 → s k = wvH r k) : s 0 = r 0 ∧ s 1 = r 1 ∧ s 2 = r 2 + 1 ∧ s 3 = r 3 ∧ s 4 = r 4 ∧ s 5 = r 5 ∧ s 6 = r 6 ∧ s 7 = r 7 :=
  ⟨(h 0 (by omega) (by omega)).trans (wvH_k (by omega)), (h 1 (by omega) (by omega)).trans (wvH_k (by omega)), (h 2 (by omega) (by omega)).trans wvH_2, (h 3 (by omega) (by omega)).trans (wvH_k (by omega)), (h 4 (by omega) (by omega)).trans (wvH_k (by omega)), (h 5 (by omega) (by omega)).trans (wvH_k (by omega)), (h 6 (by omega) (by omega)).trans (wvH_k (by omega)), (h 7 (by omega) (by omega)).trans (wvH_k (by omega))⟩
theorem wv_okW {r : Rw} (ho : okW r) (h2 : r 2 < 9) : okW (wv r) := by
  obtain ⟨e0, e1, e2, e3, e4, e5, e6, e7⟩ := wvHd (r := r) (s := wv r) (fun k k1 k2 => mk_h (by omega))
  obtain ⟨a1, a2, a3, a4, -, -⟩ := id ho
  unfold okR at a1
  refine ⟨by unfold okR; omega, by omega, by omega, by omega, fun i i1 i2 => ?_, fun q q1 q2 => ?_⟩
  · exact wvM_ok ho h2 ⟨i1, by omega⟩ e2 (fun j j1 j2 => mk_f ⟨i1, by omega⟩ ⟨j1, j2⟩)
  · exact wvS_ok ho ⟨q1, by omega⟩ (fun j j1 j2 => mk_r q1 ⟨j1, j2⟩)
theorem wvR_okW {r : Rw} (ho : okW r) (h2 : r 2 < 9) {k : Int} : okW (wvR r k) := by
  obtain ⟨e0, e1, e2, e3, e4, e5, e6, e7⟩ := wvHd (r := r) (s := wvR r k) (fun k k1 k2 => mk_h (by omega))
  obtain ⟨a1, a2, a3, a4, a5, a6⟩ := id ho
  unfold okR at a1
  refine ⟨by unfold okR; omega, by omega, by omega, by omega, fun i i1 i2 => ?_, fun q q1 q2 => ?_⟩
  · have fe : ∀ j, 0 ≤ j → j < 24 → fl (wvR r k) i j = fl r i j := fun j j1 j2 => mk_f ⟨i1, by omega⟩ ⟨j1, j2⟩
    have hO := a5 i i1 (by omega)
    unfold okH at *
    rw [fe 0 (by omega) (by omega), fe 1 (by omega) (by omega), fe 2 (by omega) (by omega), fe 3 (by omega) (by omega), fe 4 (by omega) (by omega), fe 5 (by omega) (by omega)]
    obtain ⟨c1, c2, c3, c4, c5, c6, c7, c8, c9⟩ := hO
    refine ⟨c1, c2, c3, c4, c5, c6, c7, fun k k1 k2 => ?_, fun w w1 w2 => ?_⟩
    · rw [fe (6 + k) (by omega) (by omega)]; exact c8 k k1 k2
    · rw [fe ((14 + w) - 1) (by omega) (by omega)]
      have := c9 w w1 w2
      exact ⟨this.1, fun q => this.2 (by omega)⟩
  · by_cases c : q < k
    · exact wvS_ok ho ⟨q1, by omega⟩ (fun j j1 j2 => by unfold wvR; rw [mk_r q1 ⟨j1, j2⟩, if_pos c])
    · exact okU_ext (a6 q q1 (by omega)) (fun j j1 j2 => by unfold wvR; rw [mk_r q1 ⟨j1, j2⟩, if_neg c])
theorem wvM_lat {r s : Rw} (ho : okW r) (h2 : r 2 < 9) {i : Int} (hi : 0 ≤ i ∧ i < r 0) (hf : ∀ j, 0 ≤ j → j < 24 → fl s i j = wvM r i j) : lat s i = if fl r i 4 = r 2 + 1 then r 2 + 1 else lat r i := by
  have hO := ho.2.2.2.2.1 i hi.1 hi.2
  have ho1 := ho.1
  unfold okR at ho1
  obtain ⟨c1, c2, c3, c4, c5, c6, c7, c8, c9⟩ := hO
  by_cases c : fl r i 4 = r 2 + 1
  · rw [if_pos c]
    have fe : ∀ j, 0 ≤ j → j < 24 → fl s i j = (if j = 1 then fl r i 3 else if j = 3 then 0 else if j = 4 then 0 else if j = 14 + r 2 then fl r i 1 else fl r i j) := fun j j1 j2 => by
      rw [hf j j1 j2]; unfold wvM; rw [if_pos c]
    refine lat_is (by omega) (by omega) ?_ fun v v1 v2 => ?_
    · rw [fe _ (by omega) (by omega), if_neg (by omega), if_neg (by omega), if_neg (by omega), if_pos (by omega)]; omega
    · rw [fe _ (by omega) (by omega), if_neg (by omega), if_neg (by omega), if_neg (by omega), if_neg (by omega)]
      exact (c9 v (by omega) v2).2 (by omega)
  · rw [if_neg c]
    exact lat_ext (fun v v1 v2 => by rw [hf _ (by omega) (by omega)]; unfold wvM; rw [if_neg c])
theorem p3_sbw {x y : Int} {o : Nat} {h : Hp} {Q : Int → Prop} {r s : Rw} (hn : nets h o s) (ho : okW s) (h0 : s 0 = r 0) (h2 : s 2 = r 2 + 1) (h7 : s 7 = r 7) (hf : ∀ i, 0 ≤ i → i < r 0 → ∀ j, 0 ≤ j → j < 24 → fl s i j = fl r i j) (hQ : Q (sbw r x y)) : mX3_sideBehindWave o x y h Q := by
  refine p3_sideBehindWave hn ho ?_
  rw [nin_ext h0 h7 (fun i i1 i2 => ⟨hf i i1 i2 0 (by omega) (by omega), hf i i1 i2 1 (by omega) (by omega)⟩), h2]
  unfold sbw at hQ
  rcases nin_r (r := r) (o := x) (v := y) with c | c
  · rw [if_pos c] at hQ ⊢; exact hQ
  · rw [if_neg (by omega)] at hQ ⊢
    rw [hf _ c.1 c.2 4 (by omega) (by omega), hf _ c.1 c.2 3 (by omega) (by omega)]
    exact hQ
def mvg (r : Rw) (i : Int) : Bool := decide (fl r i 4 = r 2 + 1)
theorem p3_doWave {o : Nat} {h : Hp} {Q : Int → Hp → Prop} {r : Rw} (hn : nets h o r) (ho : okW r) (h2 : r 2 < 9) (hQ : ∀ h', nets h' o (wv r) → (∀ p, p < o ∨ o + 12 < p → h' p = h p) → Q (cn (mvg r) 0 (r 0)) h') : mX3_doWave o h Q := by
  unfold mX3_doWave
  have ho1 := ho.1
  unfold okR at ho1
  have hn0 := hn.1
  rw [hn0.2.2.1]
  refine ⟨fun _ => ⟨zri (by omega) (by omega), fun a0 e0 => ?_⟩, fun hc => by omega⟩
  have f0 : ∀ p, p ≠ o → a0 p = h p := fun p hp => by rw [e0]; exact hu_q hp
  have hH : ∀ k, 0 ≤ k → k < 8 → wvR r 0 k = wvH r k := fun k k1 k2 => mk_h (by omega)
  have n0 : nets a0 o (wvR r 0) := by
    obtain ⟨e0', e1, e2, e3, e4, e5, e6, e7⟩ := wvHd hH
    refine ⟨?_, fun i i1 i2 => ?_, fun q q1 q2 => ?_⟩
    · rw [e0', e1, e2, e3, e4, e5, e6, e7, e0]
      obtain ⟨g0, g1, g2, g3, g4, g5, g6, g7⟩ := hn0
      refine ⟨?_, ?_, hu_same, ?_, ?_, ?_, ?_, ?_⟩ <;> (rw [hu_ne (by omega)]; assumption)
    · rw [e0'] at i2
      exact netH_ext (hn.2.1 i i1 i2) (fun j j1 j2 => mk_f ⟨i1, by omega⟩ ⟨j1, j2⟩) (rd_same (f0 _ (by omega))) (rd_same (f0 _ (by omega))) (rd_same (f0 _ (by omega))) (rd_same (f0 _ (by omega))) (rd_same (f0 _ (by omega))) (rd_same (f0 _ (by omega))) (rd_same (f0 _ (by omega))) (fun w w1 w2 => rd_same (f0 _ (by omega)))
    · rw [e1] at q2
      exact netR_ext (hn.2.2 q q1 q2) (fun j j1 j2 => by unfold wvR; rw [mk_r q1 ⟨j1, j2⟩, if_neg (by omega)]) (rd_same (f0 _ (by omega))) (rd_same (f0 _ (by omega))) (rd_same (f0 _ (by omega))) (rd_same (f0 _ (by omega)))
  -- the hosts
  have hosts : ∀ g : Hp, nets g o (wvR r (r 1)) → (∀ p, p < o ∨ o + 12 < p → g p = h p) → ∃ f, mX3_doWave_b85 o Q f 0 0 g := by
    intro g ng fg
    obtain ⟨f, hf⟩ := forU (fun f i => ∀ s (g : Hp), 0 ≤ s → s ≤ i → s + cn (mvg r) i (r 0) = cn (mvg r) 0 (r 0) → nets g o (wvI r i) → (∀ p, p < o ∨ o + 12 < p → g p = h p) → mX3_doWave_b85 o Q f s i g) 0 (r 0) (by omega) (fun f s g s0 s1 hs ng fg => by
        unfold mX3_doWave_b85
        have e0 : g o 0 = r 0 := ng.1.1
        rw [cn_end (Int.le_refl _), Int.add_zero] at hs
        rw [e0]
        refine ⟨fun _ => ?_, fun hc => absurd (Int.le_refl _) hc⟩
        rw [hs]
        refine hQ g (nets_eqV ng ⟨fun k k1 k2 => by unfold wv wvI; rw [mk_h (by omega), mk_h (by omega)], fun i i1 i2 j j1 j2 => ?_, fun k k1 k2 j j1 j2 => by unfold wv wvI; rw [mk_r k1 ⟨j1, j2⟩, mk_r k1 ⟨j1, j2⟩]⟩) fg
        have hi : i < r 0 := i2
        unfold wv wvI
        rw [mk_f ⟨i1, by omega⟩ ⟨j1, j2⟩, mk_f ⟨i1, by omega⟩ ⟨j1, j2⟩, if_pos hi]) (fun f i i1 i2 ih s g s0 s1 hs ng fg => by
        unfold mX3_doWave_b85
        obtain ⟨d0, d1, d2, d3, d4, d5, d6, d7⟩ := wvHd (r := r) (s := wvI r i) (fun k k1 k2 => mk_h (by omega))
        obtain ⟨t0, t1, t2, t3, t4, t5, t6, t7⟩ := wvHd (r := r) (s := wvI r (i + 1)) (fun k k1 k2 => mk_h (by omega))
        have e0 : g o 0 = r 0 := ng.1.1.trans d0
        have e2 : g o 2 = r 2 + 1 := ng.1.2.2.1.trans d2
        obtain ⟨c1, c2, c3, c4, c5, c6, c7, c8⟩ := ng.2.1 i i1 (by omega)
        have fe : ∀ j, 0 ≤ j → j < 24 → fl (wvI r i) i j = fl r i j := fun j j1 j2 => by unfold wvI; rw [mk_f ⟨i1, by omega⟩ ⟨j1, j2⟩, if_neg (by omega)]
        have fm : ∀ j, 0 ≤ j → j < 24 → fl (wvI r (i + 1)) i j = wvM r i j := fun j j1 j2 => by unfold wvI; rw [mk_f ⟨i1, by omega⟩ ⟨j1, j2⟩, if_pos (by omega)]
        have fo : ∀ x, 0 ≤ x → x < r 0 → ¬ x = i → ∀ j, 0 ≤ j → j < 24 → fl (wvI r (i + 1)) x j = fl (wvI r i) x j := fun x x1 x2 hx j j1 j2 => by
          unfold wvI
          rw [mk_f ⟨x1, by omega⟩ ⟨j1, j2⟩, mk_f ⟨x1, by omega⟩ ⟨j1, j2⟩]
          by_cases c : x < i
          · rw [if_pos c, if_pos (by omega)]
          · rw [if_neg c, if_neg (by omega)]
        rw [c6, fe 4 (by omega) (by omega), e0, e2]
        refine ⟨fun hc => by omega, fun _ => ⟨⟨by omega, by omega⟩, fun hc => ?_, fun hc => ?_⟩⟩
        · unfold mX3_doWave_b158
          refine ⟨zri (by omega) (by omega), ih s g s0 (by omega) ?_ (nets_eqV ng ⟨fun k k1 k2 => by unfold wvI; rw [mk_h (by omega), mk_h (by omega)], fun x x1 x2 j j1 j2 => ?_, fun k k1 k2 j j1 j2 => by unfold wvI; rw [mk_r k1 ⟨j1, j2⟩, mk_r k1 ⟨j1, j2⟩]⟩) fg⟩
          · rw [cn_skip i2 (by unfold mvg; exact decide_eq_false hc)] at hs; omega
          · by_cases c : x = i
            · subst c
              rw [fm j j1 j2, fe j j1 j2]
              unfold wvM
              rw [if_neg hc]
            · exact fo x x1 (by omega) c j j1 j2
        · refine ⟨zri (by omega) (by omega), zri (by omega) (by omega), ⟨by omega, by omega⟩, ⟨by omega, by omega⟩, fun b1 q1 => ⟨⟨by omega, by omega⟩, fun b2 q2 => ⟨⟨by omega, by omega⟩, ⟨by omega, by omega⟩, fun b3 q3 => ?_⟩⟩⟩
          unfold mX3_setPlan
          refine ⟨⟨by omega, by omega⟩, fun b4 q4 => ⟨⟨by omega, by omega⟩, fun b5 q5 => ⟨zri (by omega) (by omega), ?_⟩⟩⟩
          unfold mX3_doWave_b158
          have k1 : ∀ p, p ≠ o + 8 → b1 p = g p := fun p hp => by rw [q1]; exact wr_q hp
          have k2 : ∀ p, p ≠ o + 7 → b2 p = b1 p := fun p hp => by rw [q2]; exact wr_q hp
          have k3 : ∀ p, p ≠ o + 3 → b3 p = b2 p := fun p hp => by rw [q3]; exact wr_q hp
          have k4 : ∀ p, p ≠ o + 5 → b4 p = b3 p := fun p hp => by rw [q4]; exact wr_q hp
          have k5 : ∀ p, p ≠ o + 6 → b5 p = b4 p := fun p hp => by rw [q5]; exact wr_q hp
          have kk : ∀ p, p ≠ o + 3 → p ≠ o + 5 → p ≠ o + 6 → p ≠ o + 7 → p ≠ o + 8 → b5 p = g p := fun p p3 p5 p6 p7 p8 => by rw [k5 p p6, k4 p p5, k3 p p3, k2 p p7, k1 p p8]
          have w3 : ∀ j, 0 ≤ j → rd b5 (o + 3) j = if j = i then fl r i 3 else rd g (o + 3) j := fun j j1 => by
            rw [rd_same (show b5 (o + 3) = b3 (o + 3) by rw [k5 _ (by omega), k4 _ (by omega)]), q3, rw_if i1 j1]
            by_cases c : j = i
            · rw [if_pos ⟨rfl, c⟩, if_pos c, rd_same (show b2 (o + 5) = g (o + 5) by rw [k2 _ (by omega), k1 _ (by omega)]), c5, fe 3 (by omega) (by omega)]
            · rw [if_neg (fun w => c w.2), if_neg c, rd_same (show b2 (o + 3) = g (o + 3) by rw [k2 _ (by omega), k1 _ (by omega)])]
          have w5 : ∀ j, 0 ≤ j → rd b5 (o + 5) j = if j = i then 0 else rd g (o + 5) j := fun j j1 => by
            rw [rd_same (show b5 (o + 5) = b4 (o + 5) by rw [k5 _ (by omega)]), q4, rw_if i1 j1]
            by_cases c : j = i
            · rw [if_pos ⟨rfl, c⟩, if_pos c]
            · rw [if_neg (fun w => c w.2), if_neg c, rd_same (show b3 (o + 5) = g (o + 5) by rw [k3 _ (by omega), k2 _ (by omega), k1 _ (by omega)])]
          have w6 : ∀ j, 0 ≤ j → rd b5 (o + 6) j = if j = i then 0 else rd g (o + 6) j := fun j j1 => by
            rw [q5, rw_if i1 j1]
            by_cases c : j = i
            · rw [if_pos ⟨rfl, c⟩, if_pos c]
            · rw [if_neg (fun w => c w.2), if_neg c, rd_same (show b4 (o + 6) = g (o + 6) by rw [k4 _ (by omega), k3 _ (by omega), k2 _ (by omega), k1 _ (by omega)])]
          have w7 : ∀ j, 0 ≤ j → rd b5 (o + 7) j = if j = i then r 2 + 1 else rd g (o + 7) j := fun j j1 => by
            rw [rd_same (show b5 (o + 7) = b2 (o + 7) by rw [k5 _ (by omega), k4 _ (by omega), k3 _ (by omega)]), q2, rw_if i1 j1]
            by_cases c : j = i
            · rw [if_pos ⟨rfl, c⟩, if_pos c, show b1 o = g o from k1 o (by omega), e2]
            · rw [if_neg (fun w => c w.2), if_neg c, rd_same (show b1 (o + 7) = g (o + 7) by rw [k1 _ (by omega)])]
          have w8 : ∀ j, 0 ≤ j → rd b5 (o + 8) j = if j = i * 10 + (r 2 + 1) then fl r i 1 else rd g (o + 8) j := fun j j1 => by
            rw [rd_same (show b5 (o + 8) = b1 (o + 8) by rw [k5 _ (by omega), k4 _ (by omega), k3 _ (by omega), k2 _ (by omega)]), q1, rw_if (by omega) j1]
            by_cases c : j = i * 10 + (r 2 + 1)
            · rw [if_pos ⟨rfl, c⟩, if_pos c, c3, fe 1 (by omega) (by omega)]
            · rw [if_neg (fun w => c w.2), if_neg c]
          refine ⟨zri (by omega) (by omega), ih (s + 1) b5 (by omega) (by omega) ?_ ⟨?_, fun x x1 x2 => ?_, fun q u1 u2 => ?_⟩ (fun p hp => by rw [kk p (by omega) (by omega) (by omega) (by omega) (by omega), fg p hp])⟩
          · rw [cn_hit i2 (by unfold mvg; exact decide_eq_true hc)] at hs; omega
          · rw [kk o (by omega) (by omega) (by omega) (by omega) (by omega)]
            have := ng.1
            rw [d0, d1, d2, d3, d4, d5, d6, d7] at this
            rw [t0, t1, t2, t3, t4, t5, t6, t7]
            exact this
          · rw [t0] at x2
            by_cases c : x = i
            · subst c
              have fw : ∀ j, 0 ≤ j → j < 24 → fl (wvI r (x + 1)) x j = (if j = 1 then fl r x 3 else if j = 3 then 0 else if j = 4 then 0 else if j = 14 + r 2 then fl r x 1 else fl r x j) := fun j j1 j2 => by
                rw [fm j j1 j2]; unfold wvM; rw [if_pos hc]
              refine ⟨?_, ?_, ?_, ?_, ?_, ?_, ?_, fun w v1 v2 => ?_⟩
              · rw [rd_same (kk (o + 1) (by omega) (by omega) (by omega) (by omega) (by omega)), c1]
                exact (nm_ext (fun j j1 j2 => by rw [fw j (by omega) (by omega), fe j (by omega) (by omega), if_neg (by omega), if_neg (by omega), if_neg (by omega), if_neg (by omega)])).symm
              · rw [rd_same (kk (o + 2) (by omega) (by omega) (by omega) (by omega) (by omega)), c2, fw 0 (by omega) (by omega), fe 0 (by omega) (by omega), if_neg (by omega), if_neg (by omega), if_neg (by omega), if_neg (by omega)]
              · rw [w3 x x1, if_pos rfl, fw 1 (by omega) (by omega), if_pos rfl]
              · rw [rd_same (kk (o + 4) (by omega) (by omega) (by omega) (by omega) (by omega)), c4, fw 2 (by omega) (by omega), fe 2 (by omega) (by omega), if_neg (by omega), if_neg (by omega), if_neg (by omega), if_neg (by omega)]
              · rw [w5 x x1, if_pos rfl, fw 3 (by omega) (by omega), if_neg (by omega), if_pos rfl]
              · rw [w6 x x1, if_pos rfl, fw 4 (by omega) (by omega), if_neg (by omega), if_neg (by omega), if_pos rfl]
              · rw [w7 x x1, if_pos rfl, wvM_lat ho h2 ⟨x1, x2⟩ fm, if_pos hc]
              · rw [w8 _ (by omega)]
                by_cases cw : w = 0
                · subst cw
                  rw [if_neg (by omega), c8 0 (by omega) (by omega)]
                  rfl
                · by_cases cv : w = r 2 + 1
                  · rw [if_pos (by omega)]
                    unfold mv
                    rw [if_neg cw, fw _ (by omega) (by omega), if_neg (by omega), if_neg (by omega), if_neg (by omega), if_pos (by omega)]
                  · rw [if_neg (by omega), c8 w v1 v2]
                    unfold mv
                    rw [if_neg cw, if_neg cw, fw _ (by omega) (by omega), fe _ (by omega) (by omega), if_neg (by omega), if_neg (by omega), if_neg (by omega), if_neg (by omega)]
            · refine netH_ext (ng.2.1 x x1 (by omega)) (fun j j1 j2 => fo x x1 x2 c j j1 j2) (rd_same (kk _ (by omega) (by omega) (by omega) (by omega) (by omega))) (rd_same (kk _ (by omega) (by omega) (by omega) (by omega) (by omega))) ?_ (rd_same (kk _ (by omega) (by omega) (by omega) (by omega) (by omega))) ?_ ?_ ?_ (fun w v1 v2 => ?_)
              · rw [w3 x x1, if_neg c]
              · rw [w5 x x1, if_neg c]
              · rw [w6 x x1, if_neg c]
              · rw [w7 x x1, if_neg c]
              · rw [w8 _ (by omega), if_neg (by omega)]
          · have ke : ∀ p, o + 8 < p → b5 p = g p := fun p hp => kk p (by omega) (by omega) (by omega) (by omega) (by omega)
            exact netR_ext (ng.2.2 q u1 (by omega)) (fun j j1 j2 => by unfold wvI; rw [mk_r u1 ⟨j1, j2⟩, mk_r u1 ⟨j1, j2⟩]) (rd_same (ke _ (by omega))) (rd_same (ke _ (by omega))) (rd_same (ke _ (by omega))) (rd_same (ke _ (by omega))))
    refine ⟨f, hf 0 g (by omega) (by omega) (by omega) (nets_eqV ng ⟨fun k k1 k2 => by unfold wvI wvR; rw [mk_h (by omega), mk_h (by omega)], fun i i1 i2 j j1 j2 => ?_, fun k k1 k2 j j1 j2 => ?_⟩) fg⟩
    · have hi : i < r 0 := i2
      unfold wvR wvI
      rw [mk_f ⟨i1, by omega⟩ ⟨j1, j2⟩, mk_f ⟨i1, by omega⟩ ⟨j1, j2⟩, if_neg (by omega)]
    · have hi : k < r 1 := k2
      unfold wvR wvI
      rw [mk_r k1 ⟨j1, j2⟩, mk_r k1 ⟨j1, j2⟩, if_pos hi]
  -- the rules
  obtain ⟨f, hf⟩ := forU (fun f k => ∀ g : Hp, nets g o (wvR r k) → (∀ p, p < o ∨ o + 12 < p → g p = h p) → mX3_doWave_b23 o Q f k g) 0 (r 1) (by omega) (fun f g ng fg => by
      unfold mX3_doWave_b23
      have e1 : g o 1 = r 1 := ng.1.2.1
      rw [e1]
      exact ⟨fun _ => hosts g ng fg, fun hc => absurd (Int.le_refl _) hc⟩) (fun f k k1 k2 ih g ng fg => by
      unfold mX3_doWave_b23
      obtain ⟨d0, d1, d2, d3, d4, d5, d6, d7⟩ := wvHd (r := r) (s := wvR r k) (fun k k1 k2 => mk_h (by omega))
      have e1 : g o 1 = r 1 := ng.1.2.1.trans d1
      have okk := wvR_okW ho h2 (k := k)
      have hfl : ∀ i, 0 ≤ i → i < r 0 → ∀ j, 0 ≤ j → j < 24 → fl (wvR r k) i j = fl r i j := fun i i1 i2 j j1 j2 => mk_f ⟨i1, by omega⟩ ⟨j1, j2⟩
      have hrl : ∀ j, 0 ≤ j → j < 4 → rl (wvR r k) k j = rl r k j := fun j j1 j2 => by unfold wvR; rw [mk_r k1 ⟨j1, j2⟩, if_neg (by omega)]
      obtain ⟨c1, c2, c3, c4⟩ := ng.2.2 k k1 (by omega)
      have hU := ho.2.2.2.2.2 k k1 k2
      unfold okU at hU
      have z2 := sbw_r ho (o := rl r k 0) hU.2.2.1
      have z3 := sbw_r ho (o := rl r k 0) hU.2.2.2
      rw [c1, c3, hrl 0 (by omega) (by omega), hrl 2 (by omega) (by omega)]
      refine ⟨fun hc => by omega, fun _ => ⟨⟨by omega, by omega⟩, ⟨by omega, by omega⟩, p3_sbw (r := r) ng okk d0 d2 d7 hfl ⟨⟨by omega, by omega⟩, fun g1 q1 => ?_⟩⟩⟩
      have kR : okR (wvR r k) := okk.1
      have n1 : nets g1 o (sr (wvR r k) k 2 (sbw r (rl r k 0) (rl r k 2))) := by rw [q1]; exact nets_s2 ng kR ⟨k1, by omega⟩
      have ok1 := okW_sr (j := 2) (z := sbw r (rl r k 0) (rl r k 2)) okk (k := k) ⟨k1, by omega⟩ (Or.inl rfl) z2
      obtain ⟨m1, m2, m3, m4⟩ := n1.2.2 k k1 (by rw [hd_sr k1 (by omega) (by omega)]; omega)
      rw [m1, m4, rl_sr k1 (by omega) k1 (by omega), rl_sr k1 (by omega) k1 (by omega), if_neg (by omega), if_neg (by omega), hrl 0 (by omega) (by omega), hrl 3 (by omega) (by omega)]
      refine ⟨⟨by omega, by omega⟩, ⟨by omega, by omega⟩, p3_sbw (r := r) n1 ok1 (by rw [hd_sr k1 (by omega) (by omega)]; exact d0) (by rw [hd_sr k1 (by omega) (by omega)]; exact d2) (by rw [hd_sr k1 (by omega) (by omega)]; exact d7) (fun i i1 i2 j j1 j2 => by rw [fl_sr k1 (by omega) ⟨i1, by omega⟩ ⟨j1, j2⟩]; exact hfl i i1 i2 j j1 j2) ⟨⟨by omega, by omega⟩, fun g2 q2 => ⟨zri (by omega) (by omega), ih g2 ?_ (fun p hp => by rw [q2, wr_q (by omega), q1, wr_q (by omega), fg p hp])⟩⟩⟩
      have n2 : nets g2 o (sr (sr (wvR r k) k 2 (sbw r (rl r k 0) (rl r k 2))) k 3 (sbw r (rl r k 0) (rl r k 3))) := by rw [q2]; exact nets_s3 n1 ok1.1 ⟨k1, by rw [hd_sr k1 (by omega) (by omega)]; omega⟩
      refine nets_eqV n2 ⟨fun q q1 q2 => ?_, fun i i1 i2 j j1 j2 => ?_, fun q q1 q2 j j1 j2 => ?_⟩
      · rw [hd_sr k1 (by omega) (by omega), hd_sr k1 (by omega) (by omega)]
        unfold wvR
        rw [mk_h (by omega), mk_h (by omega)]
      · rw [hd_sr k1 (by omega) (by omega), hd_sr k1 (by omega) (by omega), d0] at i2
        rw [fl_sr k1 (by omega) ⟨i1, by omega⟩ ⟨j1, j2⟩, fl_sr k1 (by omega) ⟨i1, by omega⟩ ⟨j1, j2⟩]
        unfold wvR
        rw [mk_f ⟨i1, by omega⟩ ⟨j1, j2⟩, mk_f ⟨i1, by omega⟩ ⟨j1, j2⟩]
      · rw [rl_sr k1 (by omega) q1 ⟨j1, j2⟩, rl_sr k1 (by omega) q1 ⟨j1, j2⟩]
        unfold wvR
        rw [mk_r q1 ⟨j1, j2⟩, mk_r q1 ⟨j1, j2⟩]
        by_cases c : q = k
        · subst c
          rw [if_pos (show q < q + 1 by omega)]
          unfold wvS
          by_cases c3 : j = 3
          · subst c3; simp
          · by_cases c2 : j = 2
            · subst c2; simp
            · rw [if_neg (show ¬ 2 ≤ j by omega)]; simp [c3, c2]
        · by_cases cq : q < k
          · rw [if_pos (show q < k + 1 by omega)]; simp [c, cq]
          · rw [if_neg (show ¬ q < k + 1 by omega)]; simp [c, cq])
  exact ⟨f, hf a0 n0 (fun p hp => f0 p (by omega))⟩

