/-! the way back from a wave on nets -/
theorem lat0_down {r : Rw} {i b : Int} (hb : 0 ≤ b) : ∀ t, b ≤ t → (∀ v, b < v → v ≤ t → fl r i ((14 + v) - 1) = 0) → lat0 r i t = lat0 r i b := by
  have key : ∀ (n : Nat) (t : Int), (t - b).toNat = n → b ≤ t → (∀ v, b < v → v ≤ t → fl r i ((14 + v) - 1) = 0) → lat0 r i t = lat0 r i b := by
    intro n
    induction n with
    | zero =>
      intro t h h0 _
      have : t = b := by omega
      rw [this]
    | succ n ih =>
      intro t h h0 hv
      rw [lat0_s (r := r) (w := t) (by omega), if_pos (hv t (by omega) (by omega))]
      exact ih (t + (-1)) (by omega) (by omega) (fun v a b => hv v a (by omega))
  exact fun t h hv => key _ t rfl h hv
def sab (r : Rw) (o s : Int) : Int := if nin r o s = -1 then s else if lat r (nin r o s) = r 2 then fl r (nin r o s) ((14 + r 2) - 1) else s
def bkM (r : Rw) (i j : Int) : Int := if lat r i = r 2 then (if j = 1 then fl r i ((14 + r 2) - 1) else if j = (14 + r 2) - 1 then 0 else if j = 3 ∧ fl r i 4 = 0 ∧ fl r i 2 = 0 then fl r i 1 else if j = 4 ∧ fl r i 4 = 0 ∧ fl r i 2 = 0 then r 2 else fl r i j) else fl r i j
def bkS (r : Rw) (k j : Int) : Int := if 2 ≤ j then sab r (rl r k 0) (rl r k j) else rl r k j
def bkH (r : Rw) (k : Int) : Int := if k = 2 then r 2 - 1 else r k
def bkR (r : Rw) (k : Int) : Rw := mkR r (fl r) (fun q j => if q < k then bkS r q j else rl r q j)
def bkI (r : Rw) (i : Int) : Rw := mkR r (fun x j => if x < i then bkM r x j else fl r x j) (bkS r)
/-- the row behind the way back from its latest wave -/
def bk (r : Rw) : Rw := mkR (bkH r) (bkM r) (bkS r)
theorem bkH_k {r : Rw} {k : Int} (h : ¬ k = 2) : bkH r k = r k := if_neg h
theorem bkH_2 {r : Rw} : bkH r 2 = r 2 - 1 := if_pos rfl
theorem sab_r {r : Rw} (ho : okW r) (h2 : 1 ≤ r 2) {o s : Int} (hs : 0 ≤ s ∧ s ≤ 250) : 0 ≤ sab r o s ∧ sab r o s ≤ 250 := by
  have ho1 := ho.1
  unfold okR at ho1
  unfold sab
  rcases nin_r (r := r) (o := o) (v := s) with h | h
  · rw [if_pos h]; exact hs
  · rw [if_neg (by omega)]
    split
    · exact ((ho.2.2.2.2.1 _ h.1 h.2).2.2.2.2.2.2.2.2 (r 2) (by omega) (by omega)).1
    · exact hs
theorem bkHd {r s : Rw} (h : ∀ k, 0 ≤ k → k < 8 → s k = bkH r k) : s 0 = r 0 ∧ s 1 = r 1 ∧ s 2 = r 2 - 1 ∧ s 3 = r 3 ∧ s 4 = r 4 ∧ s 5 = r 5 ∧ s 6 = r 6 ∧ s 7 = r 7 :=
  ⟨(h 0 (by omega) (by omega)).trans (bkH_k (by omega)), (h 1 (by omega) (by omega)).trans (bkH_k (by omega)), (h 2 (by omega) (by omega)).trans bkH_2, (h 3 (by omega) (by omega)).trans (bkH_k (by omega)), (h 4 (by omega) (by omega)).trans (bkH_k (by omega)), (h 5 (by omega) (by omega)).trans (bkH_k (by omega)), (h 6 (by omega) (by omega)).trans (bkH_k (by omega)), (h 7 (by omega) (by omega)).trans (bkH_k (by omega))⟩
/-- a host that has no number for the latest wave did not move in it -/
theorem lat_top {r : Rw} (ho : okW r) (h2 : 1 ≤ r 2) {i : Int} (hi : 0 ≤ i ∧ i < r 0) : lat r i = r 2 ↔ ¬ fl r i ((14 + r 2) - 1) = 0 := by
  have ho1 := ho.1
  unfold okR at ho1
  obtain ⟨c1, c2, c3, c4, c5, c6, c7, c8, c9⟩ := ho.2.2.2.2.1 i hi.1 hi.2
  constructor
  · intro h
    have := lat_nz (r := r) (i := i) (by omega)
    rw [h] at this
    exact this
  · intro h
    exact lat_is h2 (by omega) h (fun v v1 v2 => (c9 v (by omega) v2).2 v1)
theorem lat_le {r : Rw} (ho : okW r) {i : Int} (hi : 0 ≤ i ∧ i < r 0) : lat r i ≤ r 2 := by
  have ho1 := ho.1
  unfold okR at ho1
  obtain ⟨c1, c2, c3, c4, c5, c6, c7, c8, c9⟩ := ho.2.2.2.2.1 i hi.1 hi.2
  have hl := lat_r (r := r) (i := i)
  by_cases h : lat r i ≤ r 2
  · exact h
  · exact absurd ((c9 (lat r i) (by omega) (by omega)).2 (by omega)) (lat_nz (by omega))
theorem bkM_lat {r s : Rw} (ho : okW r) (h2 : 1 ≤ r 2) {i : Int} (hi : 0 ≤ i ∧ i < r 0) (hf : ∀ j, 0 ≤ j → j < 24 → fl s i j = bkM r i j) : lat s i = if lat r i = r 2 then lat0 r i (r 2 - 1) else lat r i := by
  have ho1 := ho.1
  unfold okR at ho1
  obtain ⟨c1, c2, c3, c4, c5, c6, c7, c8, c9⟩ := ho.2.2.2.2.1 i hi.1 hi.2
  by_cases c : lat r i = r 2
  · rw [if_pos c]
    have fe : ∀ v, 1 ≤ v → v ≤ 9 → fl s i ((14 + v) - 1) = if v = r 2 then 0 else fl r i ((14 + v) - 1) := fun v v1 v2 => by
      rw [hf _ (by omega) (by omega)]; unfold bkM; rw [if_pos c, if_neg (by omega)]
      by_cases d : v = r 2
      · rw [if_pos (by omega), if_pos d]
      · rw [if_neg (by omega), if_neg (by omega), if_neg (by omega), if_neg d]
    have e1 : lat0 s i 9 = lat0 s i (r 2 - 1) := lat0_down (by omega) 9 (by omega) (fun v v1 v2 => by
      rw [fe v (by omega) v2]
      by_cases d : v = r 2
      · rw [if_pos d]
      · rw [if_neg d]; exact (c9 v (by omega) v2).2 (by omega))
    unfold lat
    rw [e1]
    exact lat0_ext _ (by omega) (fun v v1 v2 => by rw [fe v v1 (by omega), if_neg (by omega)])
  · rw [if_neg c]
    exact lat_ext (fun v v1 v2 => by rw [hf _ (by omega) (by omega)]; unfold bkM; rw [if_neg c])
theorem bkM_ok {r : Rw} (ho : okW r) (h2 : 1 ≤ r 2) {i : Int} (hi : 0 ≤ i ∧ i < r 0) {s : Rw} (hs2 : s 2 = r 2 - 1) (hf : ∀ j, 0 ≤ j → j < 24 → fl s i j = bkM r i j) : okH s i := by
  have ho1 := ho.1
  unfold okR at ho1
  have ht := lat_top ho h2 hi
  obtain ⟨c1, c2, c3, c4, c5, c6, c7, c8, c9⟩ := ho.2.2.2.2.1 i hi.1 hi.2
  by_cases c : lat r i = r 2
  · have fe : ∀ j, 0 ≤ j → j < 24 → fl s i j = (if j = 1 then fl r i ((14 + r 2) - 1) else if j = (14 + r 2) - 1 then 0 else if j = 3 ∧ fl r i 4 = 0 ∧ fl r i 2 = 0 then fl r i 1 else if j = 4 ∧ fl r i 4 = 0 ∧ fl r i 2 = 0 then r 2 else fl r i j) := fun j j1 j2 => by
      rw [hf j j1 j2]; unfold bkM; rw [if_pos c]
    have hz := ht.mp c
    have h9 := (c9 (r 2) (by omega) (by omega)).1
    have f0 : fl s i 0 = fl r i 0 := by rw [fe 0 (by omega) (by omega), if_neg (by omega), if_neg (by omega), if_neg (by omega), if_neg (by omega)]
    have f1 : fl s i 1 = fl r i ((14 + r 2) - 1) := by rw [fe 1 (by omega) (by omega), if_pos rfl]
    have f2 : fl s i 2 = fl r i 2 := by rw [fe 2 (by omega) (by omega), if_neg (by omega), if_neg (by omega), if_neg (by omega), if_neg (by omega)]
    have f3 : fl s i 3 = if fl r i 4 = 0 ∧ fl r i 2 = 0 then fl r i 1 else fl r i 3 := by
      rw [fe 3 (by omega) (by omega), if_neg (by omega), if_neg (by omega)]
      by_cases d : fl r i 4 = 0 ∧ fl r i 2 = 0
      · rw [if_pos ⟨rfl, d⟩, if_pos d]
      · rw [if_neg (fun w => d w.2), if_neg (by omega), if_neg d]
    have f4 : fl s i 4 = if fl r i 4 = 0 ∧ fl r i 2 = 0 then r 2 else fl r i 4 := by
      rw [fe 4 (by omega) (by omega), if_neg (by omega), if_neg (by omega), if_neg (by omega)]
      by_cases d : fl r i 4 = 0 ∧ fl r i 2 = 0
      · rw [if_pos ⟨rfl, d⟩, if_pos d]
      · rw [if_neg (fun w => d w.2), if_neg d]
    have f5 : fl s i 5 = fl r i 5 := by rw [fe 5 (by omega) (by omega), if_neg (by omega), if_neg (by omega), if_neg (by omega), if_neg (by omega)]
    unfold okH
    rw [f0, f1, f2, f3, f4, f5]
    refine ⟨c1, by omega, c3, ?_, ?_, ?_, c7, fun k k1 k2 => ?_, fun w w1 w2 => ?_⟩
    · split <;> omega
    · split <;> omega
    · split <;> omega
    · rw [fe (6 + k) (by omega) (by omega), if_neg (by omega), if_neg (by omega), if_neg (by omega), if_neg (by omega)]
      exact c8 k k1 k2
    · rw [fe ((14 + w) - 1) (by omega) (by omega), if_neg (by omega)]
      have := c9 w w1 w2
      by_cases cw : (14 + w) - 1 = (14 + r 2) - 1
      · rw [if_pos cw]; omega
      · rw [if_neg cw, if_neg (by omega), if_neg (by omega)]; exact ⟨this.1, fun q => this.2 (by omega)⟩
  · have fe : ∀ j, 0 ≤ j → j < 24 → fl s i j = fl r i j := fun j j1 j2 => by
      rw [hf j j1 j2]; unfold bkM; rw [if_neg c]
    unfold okH
    rw [fe 0 (by omega) (by omega), fe 1 (by omega) (by omega), fe 2 (by omega) (by omega), fe 3 (by omega) (by omega), fe 4 (by omega) (by omega), fe 5 (by omega) (by omega)]
    refine ⟨c1, c2, c3, c4, c5, c6, c7, fun k k1 k2 => ?_, fun w w1 w2 => ?_⟩
    · rw [fe (6 + k) (by omega) (by omega)]; exact c8 k k1 k2
    · rw [fe ((14 + w) - 1) (by omega) (by omega)]
      have := c9 w w1 w2
      refine ⟨this.1, fun q => ?_⟩
      by_cases d : w = r 2
      · subst d; exact Classical.not_not.mp (fun e => c (ht.mpr e))
      · exact this.2 (by omega)
theorem bkS_ok {r : Rw} (ho : okW r) (h2 : 1 ≤ r 2) {k : Int} (hk : 0 ≤ k ∧ k < r 1) {s : Rw} (hf : ∀ j, 0 ≤ j → j < 4 → rl s k j = bkS r k j) : okU s k := by
  obtain ⟨c1, c2, c3, c4⟩ := ho.2.2.2.2.2 k hk.1 hk.2
  unfold okU
  rw [hf 0 (by omega) (by omega), hf 1 (by omega) (by omega), hf 2 (by omega) (by omega), hf 3 (by omega) (by omega)]
  unfold bkS
  rw [if_neg (by omega), if_neg (by omega), if_pos (by omega), if_pos (by omega)]
  exact ⟨c1, c2, sab_r ho h2 c3, sab_r ho h2 c4⟩
theorem bk_okW {r : Rw} (ho : okW r) (h2 : 1 ≤ r 2) : okW (bk r) := by
  obtain ⟨e0, e1, e2, e3, e4, e5, e6, e7⟩ := bkHd (r := r) (s := bk r) (fun k k1 k2 => mk_h (by omega))
  obtain ⟨a1, a2, a3, a4, -, -⟩ := id ho
  unfold okR at a1
  refine ⟨by unfold okR; omega, by omega, by omega, by omega, fun i i1 i2 => ?_, fun q q1 q2 => ?_⟩
  · exact bkM_ok ho h2 ⟨i1, by omega⟩ e2 (fun j j1 j2 => mk_f ⟨i1, by omega⟩ ⟨j1, j2⟩)
  · exact bkS_ok ho h2 ⟨q1, by omega⟩ (fun j j1 j2 => mk_r q1 ⟨j1, j2⟩)
theorem bkR_h {r : Rw} {k q : Int} (h : q < 16) : bkR r k q = r q := mk_h h
theorem bkI_h {r : Rw} {k q : Int} (h : q < 16) : bkI r k q = r q := mk_h h
theorem bkR_okW {r : Rw} (ho : okW r) (h2 : 1 ≤ r 2) {k : Int} : okW (bkR r k) := by
  obtain ⟨a1, a2, a3, a4, a5, a6⟩ := id ho
  unfold okR at a1
  refine ⟨by unfold okR; rw [bkR_h (by omega), bkR_h (by omega), bkR_h (by omega), bkR_h (by omega)]; exact a1, by rw [bkR_h (by omega)]; exact a2, by rw [bkR_h (by omega), bkR_h (by omega)]; exact a3, by rw [bkR_h (by omega)]; exact a4, fun i i1 i2 => ?_, fun q q1 q2 => ?_⟩
  · rw [bkR_h (by omega)] at i2
    exact okH_ext (a5 i i1 i2) (bkR_h (by omega)) (fun j j1 j2 => mk_f ⟨i1, by omega⟩ ⟨j1, j2⟩)
  · rw [bkR_h (by omega)] at q2
    by_cases c : q < k
    · exact bkS_ok ho h2 ⟨q1, q2⟩ (fun j j1 j2 => by unfold bkR; rw [mk_r q1 ⟨j1, j2⟩, if_pos c])
    · exact okU_ext (a6 q q1 q2) (fun j j1 j2 => by unfold bkR; rw [mk_r q1 ⟨j1, j2⟩, if_neg c])
theorem p3_sab {x y : Int} {o : Nat} {h : Hp} {Q : Int → Prop} {r s : Rw} (hn : nets h o s) (ho : okW s) (hp : 1 ≤ r 2) (h0 : s 0 = r 0) (h2 : s 2 = r 2) (h7 : s 7 = r 7) (hf : ∀ i, 0 ≤ i → i < r 0 → ∀ j, 0 ≤ j → j < 24 → fl s i j = fl r i j) (hQ : Q (sab r x y)) : mX3_sideAheadOfWave o x y h Q := by
  refine p3_sideAheadOfWave hn ho ?_
  have ho1 := ho.1
  unfold okR at ho1
  rw [nin_ext h0 h7 (fun i i1 i2 => ⟨hf i i1 i2 0 (by omega) (by omega), hf i i1 i2 1 (by omega) (by omega)⟩), h2]
  unfold sab at hQ
  rcases nin_r (r := r) (o := x) (v := y) with c | c
  · rw [if_pos c] at hQ ⊢; exact hQ
  · rw [if_neg (by omega)] at hQ ⊢
    rw [lat_ext (r := r) (i := nin r x y) (fun v v1 v2 => hf _ c.1 c.2 _ (by omega) (by omega))]
    have em : mv s (nin r x y) (r 2) = fl r (nin r x y) ((14 + r 2) - 1) := by
      unfold mv
      rw [if_neg (show ¬ r 2 = 0 by omega), hf _ c.1 c.2 _ (by omega) (by omega)]
    rw [em]
    exact hQ
theorem p3_numAhead {x w : Int} {o : Nat} {h : Hp} {Q : Int → Prop} (h0 : 0 ≤ x ∧ x < h o 0) (h40 : h o 0 ≤ 40) (hw : 0 ≤ w ∧ w < 10) (hQ : Q (rd h (o + 8) (x * 10 + w))) : mX3_numberAhead o x w h Q := by
  unfold mX3_numberAhead
  exact ⟨fun h1 => by omega, fun h1 => ⟨fun h2 => by omega, fun h2 => ⟨fun h3 => by omega, fun h3 => ⟨fun h4 => by omega, fun h4 => ⟨zri (by omega) (by omega), zri (by omega) (by omega), ⟨by omega, by omega⟩, hQ⟩⟩⟩⟩⟩
theorem p3_undoMove {x : Int} {o : Nat} {g : Hp} {Q : Hp → Prop} {r : Rw} (ho : okW r) (h2 : 1 ≤ r 2) (ng : nets g o (bkI r x)) (hx : 0 ≤ x ∧ x < r 0) (hl : lat r x = r 2) (hQ : ∀ h', nets h' o (bkI r (x + 1)) → (∀ p, p < o ∨ o + 12 < p → h' p = g p) → Q h') : mX3_undoMove o x g Q := by
  have ho1 := ho.1
  unfold okR at ho1
  have hx0 := hx.1
  have d0 : g o 0 = r 0 := ng.1.1.trans (bkI_h (by omega))
  have d2 : g o 2 = r 2 := ng.1.2.2.1.trans (bkI_h (by omega))
  obtain ⟨c1, c2, c3, c4, c5, c6, c7, c8⟩ := ng.2.1 x hx.1 (by rw [bkI_h (by omega)]; exact hx.2)
  have fe : ∀ j, 0 ≤ j → j < 24 → fl (bkI r x) x j = fl r x j := fun j j1 j2 => by unfold bkI; rw [mk_f ⟨hx0, by omega⟩ ⟨j1, j2⟩, if_neg (by omega)]
  have fm : ∀ j, 0 ≤ j → j < 24 → fl (bkI r (x + 1)) x j = bkM r x j := fun j j1 j2 => by unfold bkI; rw [mk_f ⟨hx0, by omega⟩ ⟨j1, j2⟩, if_pos (by omega)]
  have fo : ∀ y, 0 ≤ y → y < r 0 → ¬ y = x → ∀ j, 0 ≤ j → j < 24 → fl (bkI r (x + 1)) y j = fl (bkI r x) y j := fun y y1 y2 hy j j1 j2 => by
    unfold bkI
    rw [mk_f ⟨y1, by omega⟩ ⟨j1, j2⟩, mk_f ⟨y1, by omega⟩ ⟨j1, j2⟩]
    by_cases c : y < x
    · rw [if_pos c, if_pos (by omega)]
    · rw [if_neg c, if_neg (by omega)]
  have em : ∀ j, bkM r x j = (if j = 1 then fl r x ((14 + r 2) - 1) else if j = (14 + r 2) - 1 then 0 else if j = 3 ∧ fl r x 4 = 0 ∧ fl r x 2 = 0 then fl r x 1 else if j = 4 ∧ fl r x 4 = 0 ∧ fl r x 2 = 0 then r 2 else fl r x j) := fun j => by unfold bkM; rw [if_pos hl]
  have hlat := bkM_lat ho h2 hx fm
  rw [if_pos hl] at hlat
  have body : ∀ a : Hp, (∀ p, p ≠ o + 5 → p ≠ o + 6 → a p = g p) → (∀ j, 0 ≤ j → rd a (o + 5) j = if j = x then bkM r x 3 else rd g (o + 5) j) → (∀ j, 0 ≤ j → rd a (o + 6) j = if j = x then bkM r x 4 else rd g (o + 6) j) → mX3_undoMove_b33 o Q x a := by
    intro a fa a5 a6
    unfold mX3_undoMove_b33
    have ao : a o = g o := fa o (by omega) (by omega)
    refine p3_numAhead (by rw [ao]; omega) (by rw [ao]; omega) (by rw [ao]; omega) ?_
    rw [ao, d2, rd_same (fa (o + 8) (by omega) (by omega)), c8 (r 2) (by omega) (by omega)]
    refine ⟨⟨by omega, by omega⟩, fun b1 q1 => ?_⟩
    have k1 : ∀ p, p ≠ o + 3 → b1 p = a p := fun p hp => by rw [q1]; exact wr_q hp
    rw [k1 o (by omega), ao, d2]
    refine ⟨zri (by omega) (by omega), zri (by omega) (by omega), ⟨by omega, by omega⟩, fun b2 q2 => ?_⟩
    have k2 : ∀ p, p ≠ o + 8 → b2 p = b1 p := fun p hp => by rw [q2]; exact wr_q hp
    have b2o : b2 o = g o := by rw [k2 o (by omega), k1 o (by omega), ao]
    rw [b2o, d2]
    have w8 : ∀ j, 0 ≤ j → rd b2 (o + 8) j = if j = x * 10 + r 2 then 0 else rd g (o + 8) j := fun j j1 => by
      rw [q2, rw_if (by omega) j1]
      by_cases c : j = x * 10 + r 2
      · rw [if_pos ⟨rfl, c⟩, if_pos c]
      · rw [if_neg (fun w => c w.2), if_neg c, rd_same (k1 (o + 8) (by omega)), rd_same (fa (o + 8) (by omega) (by omega))]
    have w3 : ∀ j, 0 ≤ j → rd b2 (o + 3) j = if j = x then fl r x ((14 + r 2) - 1) else rd g (o + 3) j := fun j j1 => by
      rw [rd_same (k2 (o + 3) (by omega)), q1, rw_if hx0 j1]
      by_cases c : j = x
      · rw [if_pos ⟨rfl, c⟩, if_pos c]
        unfold mv
        rw [if_neg (by omega), fe _ (by omega) (by omega)]
      · rw [if_neg (fun w => c w.2), if_neg c, rd_same (fa (o + 3) (by omega) (by omega))]
    refine ⟨zri (by omega) (by omega), ?_⟩
    have fin : mX3_undoMove_b89 o Q x (lat0 r x (r 2 - 1)) b2 := by
      unfold mX3_undoMove_b89
      refine ⟨⟨by omega, by omega⟩, fun b3 q3 => ?_⟩
      have k3 : ∀ p, p ≠ o + 7 → b3 p = b2 p := fun p hp => by rw [q3]; exact wr_q hp
      have kk : ∀ p, p ≠ o + 3 → p ≠ o + 5 → p ≠ o + 6 → p ≠ o + 7 → p ≠ o + 8 → b3 p = g p := fun p p3 p5 p6 p7 p8 => by rw [k3 p p7, k2 p p8, k1 p p3, fa p p5 p6]
      have w7 : ∀ j, 0 ≤ j → rd b3 (o + 7) j = if j = x then lat0 r x (r 2 - 1) else rd g (o + 7) j := fun j j1 => by
        rw [q3, rw_if hx0 j1]
        by_cases c : j = x
        · rw [if_pos ⟨rfl, c⟩, if_pos c]
        · rw [if_neg (fun w => c w.2), if_neg c, rd_same (k2 (o + 7) (by omega)), rd_same (k1 (o + 7) (by omega)), rd_same (fa (o + 7) (by omega) (by omega))]
      have w5 : ∀ j, 0 ≤ j → rd b3 (o + 5) j = if j = x then bkM r x 3 else rd g (o + 5) j := fun j j1 => by
        rw [rd_same (k3 (o + 5) (by omega)), rd_same (k2 (o + 5) (by omega)), rd_same (k1 (o + 5) (by omega))]; exact a5 j j1
      have w6 : ∀ j, 0 ≤ j → rd b3 (o + 6) j = if j = x then bkM r x 4 else rd g (o + 6) j := fun j j1 => by
        rw [rd_same (k3 (o + 6) (by omega)), rd_same (k2 (o + 6) (by omega)), rd_same (k1 (o + 6) (by omega))]; exact a6 j j1
      have w8' : ∀ j, 0 ≤ j → rd b3 (o + 8) j = if j = x * 10 + r 2 then 0 else rd g (o + 8) j := fun j j1 => by rw [rd_same (k3 (o + 8) (by omega))]; exact w8 j j1
      have w3' : ∀ j, 0 ≤ j → rd b3 (o + 3) j = if j = x then fl r x ((14 + r 2) - 1) else rd g (o + 3) j := fun j j1 => by rw [rd_same (k3 (o + 3) (by omega))]; exact w3 j j1
      refine hQ b3 ⟨?_, fun y y1 y2 => ?_, fun q u1 u2 => ?_⟩ (fun p hp => kk p (by omega) (by omega) (by omega) (by omega) (by omega))
      · rw [kk o (by omega) (by omega) (by omega) (by omega) (by omega)]
        have := ng.1
        rw [bkI_h (by omega), bkI_h (by omega), bkI_h (by omega), bkI_h (by omega), bkI_h (by omega), bkI_h (by omega), bkI_h (by omega), bkI_h (by omega)] at this ⊢
        exact this
      · rw [bkI_h (by omega)] at y2
        by_cases c : y = x
        · subst c
          refine ⟨?_, ?_, ?_, ?_, ?_, ?_, ?_, fun w v1 v2 => ?_⟩
          · rw [rd_same (kk (o + 1) (by omega) (by omega) (by omega) (by omega) (by omega)), c1]
            exact (nm_ext (fun j j1 j2 => by rw [fm j (by omega) (by omega), em, fe j (by omega) (by omega), if_neg (by omega), if_neg (by omega), if_neg (by omega), if_neg (by omega)])).symm
          · rw [rd_same (kk (o + 2) (by omega) (by omega) (by omega) (by omega) (by omega)), c2, fm 0 (by omega) (by omega), em, fe 0 (by omega) (by omega), if_neg (by omega), if_neg (by omega), if_neg (by omega), if_neg (by omega)]
          · rw [w3' y y1, if_pos rfl, fm 1 (by omega) (by omega), em, if_pos rfl]
          · rw [rd_same (kk (o + 4) (by omega) (by omega) (by omega) (by omega) (by omega)), c4, fm 2 (by omega) (by omega), em, fe 2 (by omega) (by omega), if_neg (by omega), if_neg (by omega), if_neg (by omega), if_neg (by omega)]
          · rw [w5 y y1, if_pos rfl, fm 3 (by omega) (by omega)]
          · rw [w6 y y1, if_pos rfl, fm 4 (by omega) (by omega)]
          · rw [w7 y y1, if_pos rfl, hlat]
          · rw [w8' _ (by omega)]
            by_cases cw : w = 0
            · subst cw
              rw [if_neg (by omega), c8 0 (by omega) (by omega)]
              rfl
            · have em3 : mv (bkI r (y + 1)) y w = if w = r 2 then 0 else fl r y ((14 + w) - 1) := by
                unfold mv
                rw [if_neg cw, fm _ (by omega) (by omega), em, if_neg (show ¬ (14 + w) - 1 = 1 by omega)]
                by_cases cv : w = r 2
                · rw [if_pos cv, if_pos (by omega)]
                · rw [if_neg cv, if_neg (by omega), if_neg (by omega), if_neg (by omega)]
              rw [em3]
              by_cases cv : w = r 2
              · rw [if_pos cv, if_pos (by omega)]
              · rw [if_neg cv, if_neg (by omega), c8 w v1 v2]
                unfold mv
                rw [if_neg cw, fe _ (by omega) (by omega)]
        · refine netH_ext (ng.2.1 y y1 (by rw [bkI_h (by omega)]; exact y2)) (fun j j1 j2 => fo y y1 y2 c j j1 j2) (rd_same (kk _ (by omega) (by omega) (by omega) (by omega) (by omega))) (rd_same (kk _ (by omega) (by omega) (by omega) (by omega) (by omega))) ?_ (rd_same (kk _ (by omega) (by omega) (by omega) (by omega) (by omega))) ?_ ?_ ?_ (fun w v1 v2 => ?_)
          · rw [w3' y y1, if_neg c]
          · rw [w5 y y1, if_neg c]
          · rw [w6 y y1, if_neg c]
          · rw [w7 y y1, if_neg c]
          · rw [w8' _ (by omega), if_neg (by omega)]
      · rw [bkI_h (by omega)] at u2
        have ke : ∀ p, o + 8 < p → b3 p = g p := fun p hp => kk p (by omega) (by omega) (by omega) (by omega) (by omega)
        exact netR_ext (ng.2.2 q u1 (by rw [bkI_h (by omega)]; exact u2)) (fun j j1 j2 => by unfold bkI; rw [mk_r u1 ⟨j1, j2⟩, mk_r u1 ⟨j1, j2⟩]) (rd_same (ke _ (by omega))) (rd_same (ke _ (by omega))) (rd_same (ke _ (by omega))) (rd_same (ke _ (by omega)))
    obtain ⟨f, hf⟩ := forD (fun f v => lat0 r x v = lat0 r x (r 2 - 1) → mX3_undoMove_b70 o Q f x v b2) (r 2 - 1) 0 (by omega) (fun f hv => by
        unfold mX3_undoMove_b70
        refine ⟨fun _ => ?_, fun hc => absurd (Int.le_refl _) hc⟩
        rw [lat0_0 (Int.le_refl _)] at hv
        rw [hv]
        exact fin) (fun f v v1 v2 ih hv => by
        unfold mX3_undoMove_b70
        refine ⟨fun hc => by omega, fun _ => p3_numAhead (by rw [b2o]; omega) (by rw [b2o]; omega) (by omega) ?_⟩
        rw [w8 _ (by omega), if_neg (by omega), c8 v (by omega) (by omega)]
        have em2 : mv (bkI r x) x v = fl r x ((14 + v) - 1) := by
          unfold mv
          rw [if_neg (by omega), fe _ (by omega) (by omega)]
        rw [em2]
        rw [lat0_s (r := r) (w := v) (by omega)] at hv
        refine ⟨fun hz => ?_, fun hz => ⟨zri (by omega) (by omega), ih ?_⟩⟩
        · rw [if_neg hz] at hv
          rw [hv]
          exact fin
        · rw [if_pos hz] at hv
          exact hv)
    exact ⟨f, hf rfl⟩
  unfold mX3_undoMove
  have e5 := c5.trans (fe 3 (by omega) (by omega))
  have e6 := c6.trans (fe 4 (by omega) (by omega))
  have e4 := c4.trans (fe 2 (by omega) (by omega))
  have e3 := c3.trans (fe 1 (by omega) (by omega))
  rw [e6, e4, e3, d2]
  have same5 : ¬ (fl r x 4 = 0 ∧ fl r x 2 = 0) → bkM r x 3 = fl r x 3 := fun hc => by rw [em, if_neg (by omega), if_neg (by omega), if_neg (fun w => hc w.2), if_neg (by omega)]
  have same6 : ¬ (fl r x 4 = 0 ∧ fl r x 2 = 0) → bkM r x 4 = fl r x 4 := fun hc => by rw [em, if_neg (by omega), if_neg (by omega), if_neg (by omega), if_neg (fun w => hc w.2)]
  have nope : ¬ (fl r x 4 = 0 ∧ fl r x 2 = 0) → mX3_undoMove_b33 o Q x g := fun hc => body g (fun _ _ _ => rfl) (fun j j1 => by
      by_cases c : j = x
      · subst c; rw [if_pos rfl, same5 hc]; exact e5
      · rw [if_neg c]) (fun j j1 => by
      by_cases c : j = x
      · subst c; rw [if_pos rfl, same6 hc]; exact e6
      · rw [if_neg c])
  refine ⟨⟨by omega, by omega⟩, fun hc => nope (fun w => hc w.1), fun h4 => ⟨⟨by omega, by omega⟩, fun hc => nope (fun w => hc w.2), fun h5 => ⟨⟨by omega, by omega⟩, ?_⟩⟩⟩
  unfold mX3_setPlan
  refine ⟨⟨by omega, by omega⟩, fun a3 q3 => ⟨⟨by omega, by omega⟩, fun a4 q4 => body a4 (fun p p1 p2 => by rw [q4, wr_q p2, q3, wr_q p1]) (fun j j1 => ?_) (fun j j1 => ?_)⟩⟩
  · rw [q4, rw_if hx0 j1, if_neg (by omega), q3, rw_if hx0 j1]
    by_cases c : j = x
    · rw [if_pos ⟨rfl, c⟩, if_pos c, em, if_neg (by omega), if_neg (by omega), if_pos ⟨rfl, h4, h5⟩]
    · rw [if_neg (fun w => c w.2), if_neg c]
  · rw [q4, rw_if hx0 j1]
    by_cases c : j = x
    · rw [if_pos ⟨rfl, c⟩, if_pos c, em, if_neg (by omega), if_neg (by omega), if_neg (by omega), if_pos ⟨rfl, h4, h5⟩]
    · rw [if_neg (fun w => c w.2), if_neg c, q3, rw_if hx0 j1, if_neg (by omega)]
theorem p3_undoWave {o : Nat} {h : Hp} {Q : Hp → Prop} {r : Rw} (hn : nets h o r) (ho : okW r) (h2 : 1 ≤ r 2) (hQ : ∀ h', nets h' o (bk r) → (∀ p, p < o ∨ o + 12 < p → h' p = h p) → Q h') : mX3_undoWave o h Q := by
  unfold mX3_undoWave
  have ho1 := ho.1
  unfold okR at ho1
  have hn0 := hn.1
  rw [hn0.2.2.1]
  refine ⟨fun _ => ?_, fun hc => by omega⟩
  -- the hosts
  have hosts : ∀ g : Hp, nets g o (bkR r (r 1)) → (∀ p, p < o ∨ o + 12 < p → g p = h p) → ∃ f, mX3_undoWave_b71 o Q f 0 g := by
    intro g ng fg
    obtain ⟨f, hf⟩ := forU (fun f i => ∀ g : Hp, nets g o (bkI r i) → (∀ p, p < o ∨ o + 12 < p → g p = h p) → mX3_undoWave_b71 o Q f i g) 0 (r 0) (by omega) (fun f g ng fg => by
        unfold mX3_undoWave_b71
        have e0 : g o 0 = r 0 := ng.1.1
        have e2 : g o 2 = r 2 := ng.1.2.2.1
        rw [e0, e2]
        refine ⟨fun _ => ⟨zri (by omega) (by omega), fun b q => ?_⟩, fun hc => absurd (Int.le_refl _) hc⟩
        have k : ∀ p, p ≠ o → b p = g p := fun p hp => by rw [q]; exact hu_q hp
        obtain ⟨t0, t1, t2, t3, t4, t5, t6, t7⟩ := bkHd (r := r) (s := bk r) (fun k k1 k2 => mk_h (by omega))
        refine hQ b ⟨?_, fun i i1 i2 => ?_, fun q q1 q2 => ?_⟩ (fun p hp => by rw [k p (by omega), fg p hp])
        · have n0 := ng.1
          rw [bkI_h (by omega), bkI_h (by omega), bkI_h (by omega), bkI_h (by omega), bkI_h (by omega), bkI_h (by omega), bkI_h (by omega), bkI_h (by omega)] at n0
          obtain ⟨g0, g1, g2, g3, g4, g5, g6, g7⟩ := n0
          rw [t0, t1, t2, t3, t4, t5, t6, t7, q]
          refine ⟨?_, ?_, hu_same, ?_, ?_, ?_, ?_, ?_⟩ <;> (rw [hu_ne (by omega)]; assumption)
        · rw [t0] at i2
          exact netH_ext (ng.2.1 i i1 i2) (fun j j1 j2 => by unfold bk bkI; rw [mk_f ⟨i1, by omega⟩ ⟨j1, j2⟩, mk_f ⟨i1, by omega⟩ ⟨j1, j2⟩, if_pos i2]) (rd_same (k _ (by omega))) (rd_same (k _ (by omega))) (rd_same (k _ (by omega))) (rd_same (k _ (by omega))) (rd_same (k _ (by omega))) (rd_same (k _ (by omega))) (rd_same (k _ (by omega))) (fun w w1 w2 => rd_same (k _ (by omega)))
        · rw [t1] at q2
          exact netR_ext (ng.2.2 q q1 q2) (fun j j1 j2 => by unfold bk bkI; rw [mk_r q1 ⟨j1, j2⟩, mk_r q1 ⟨j1, j2⟩]) (rd_same (k _ (by omega))) (rd_same (k _ (by omega))) (rd_same (k _ (by omega))) (rd_same (k _ (by omega)))) (fun f i i1 i2 ih g ng fg => by
        unfold mX3_undoWave_b71 mX3_undoWave_b97
        have e0 : g o 0 = r 0 := ng.1.1
        have e2 : g o 2 = r 2 := ng.1.2.2.1
        obtain ⟨c1, c2, c3, c4, c5, c6, c7, c8⟩ := ng.2.1 i i1 i2
        have fe : ∀ j, 0 ≤ j → j < 24 → fl (bkI r i) i j = fl r i j := fun j j1 j2 => by unfold bkI; rw [mk_f ⟨i1, by omega⟩ ⟨j1, j2⟩, if_neg (by omega)]
        rw [e0, e2, c7, lat_ext (r := r) (i := i) (fun v v1 v2 => fe _ (by omega) (by omega))]
        refine ⟨fun hc => by omega, fun _ => ⟨⟨by omega, by omega⟩, fun hc => ⟨zri (by omega) (by omega), ih g (nets_eqV ng ⟨fun k k1 k2 => by unfold bkI; rw [mk_h (by omega), mk_h (by omega)], fun x x1 x2 j j1 j2 => ?_, fun k k1 k2 j j1 j2 => by unfold bkI; rw [mk_r k1 ⟨j1, j2⟩, mk_r k1 ⟨j1, j2⟩]⟩) fg⟩, fun hc => p3_undoMove ho h2 ng ⟨i1, i2⟩ hc fun g' ng' fg' => ⟨zri (by omega) (by omega), ih g' ng' (fun p hp => by rw [fg' p hp, fg p hp])⟩⟩⟩
        have x2' : x < r 0 := x2
        unfold bkI
        rw [mk_f ⟨x1, by omega⟩ ⟨j1, j2⟩, mk_f ⟨x1, by omega⟩ ⟨j1, j2⟩]
        by_cases c : x = i
        · subst c
          rw [if_pos (by omega), if_neg (show ¬ x < x by omega)]
          unfold bkM
          rw [if_neg hc]
        · by_cases d : x < i
          · rw [if_pos (show x < i + 1 by omega), if_pos d]
          · rw [if_neg (show ¬ x < i + 1 by omega), if_neg d])
    refine ⟨f, hf g (nets_eqV ng ⟨fun k k1 k2 => by unfold bkI bkR; rw [mk_h (by omega), mk_h (by omega)], fun i i1 i2 j j1 j2 => ?_, fun k k1 k2 j j1 j2 => ?_⟩) fg⟩
    · have hi : i < r 0 := i2
      unfold bkR bkI
      rw [mk_f ⟨i1, by omega⟩ ⟨j1, j2⟩, mk_f ⟨i1, by omega⟩ ⟨j1, j2⟩, if_neg (by omega)]
    · have hi : k < r 1 := k2
      unfold bkR bkI
      rw [mk_r k1 ⟨j1, j2⟩, mk_r k1 ⟨j1, j2⟩, if_pos hi]
  -- the rules
  obtain ⟨f, hf⟩ := forU (fun f k => ∀ g : Hp, nets g o (bkR r k) → (∀ p, p < o ∨ o + 12 < p → g p = h p) → mX3_undoWave_b11 o Q f k g) 0 (r 1) (by omega) (fun f g ng fg => by
      unfold mX3_undoWave_b11
      have e1 : g o 1 = r 1 := ng.1.2.1
      rw [e1]
      exact ⟨fun _ => hosts g ng fg, fun hc => absurd (Int.le_refl _) hc⟩) (fun f k k1 k2 ih g ng fg => by
      unfold mX3_undoWave_b11
      have e1 : g o 1 = r 1 := ng.1.2.1
      have d0 : bkR r k 0 = r 0 := rfl
      have d1 : bkR r k 1 = r 1 := rfl
      have okk := bkR_okW ho h2 (k := k)
      have hfl : ∀ i, 0 ≤ i → i < r 0 → ∀ j, 0 ≤ j → j < 24 → fl (bkR r k) i j = fl r i j := fun i i1 i2 j j1 j2 => mk_f ⟨i1, by omega⟩ ⟨j1, j2⟩
      have hrl : ∀ j, 0 ≤ j → j < 4 → rl (bkR r k) k j = rl r k j := fun j j1 j2 => by unfold bkR; rw [mk_r k1 ⟨j1, j2⟩, if_neg (by omega)]
      obtain ⟨c1, c2, c3, c4⟩ := ng.2.2 k k1 k2
      have hU := ho.2.2.2.2.2 k k1 k2
      unfold okU at hU
      have z2 := sab_r ho h2 (o := rl r k 0) hU.2.2.1
      have z3 := sab_r ho h2 (o := rl r k 0) hU.2.2.2
      rw [e1, c1, c3, hrl 0 (by omega) (by omega), hrl 2 (by omega) (by omega)]
      refine ⟨fun hc => by omega, fun _ => ⟨⟨by omega, by omega⟩, ⟨by omega, by omega⟩, p3_sab (r := r) ng okk h2 rfl rfl rfl hfl ⟨⟨by omega, by omega⟩, fun g1 q1 => ?_⟩⟩⟩
      have n1 : nets g1 o (sr (bkR r k) k 2 (sab r (rl r k 0) (rl r k 2))) := by rw [q1]; exact nets_s2 ng okk.1 ⟨k1, k2⟩
      have ok1 := okW_sr (j := 2) (z := sab r (rl r k 0) (rl r k 2)) okk (k := k) ⟨k1, by omega⟩ (Or.inl rfl) z2
      obtain ⟨m1, m2, m3, m4⟩ := n1.2.2 k k1 (by rw [hd_sr k1 (by omega) (by omega)]; exact k2)
      rw [m1, m4, rl_sr k1 (by omega) k1 (by omega), rl_sr k1 (by omega) k1 (by omega), if_neg (by omega), if_neg (by omega), hrl 0 (by omega) (by omega), hrl 3 (by omega) (by omega)]
      refine ⟨⟨by omega, by omega⟩, ⟨by omega, by omega⟩, p3_sab (r := r) n1 ok1 h2 (by rw [hd_sr k1 (by omega) (by omega)]; rfl) (by rw [hd_sr k1 (by omega) (by omega)]; rfl) (by rw [hd_sr k1 (by omega) (by omega)]; rfl) (fun i i1 i2 j j1 j2 => by rw [fl_sr k1 (by omega) ⟨i1, by omega⟩ ⟨j1, j2⟩]; exact hfl i i1 i2 j j1 j2) ⟨⟨by omega, by omega⟩, fun g2 q2 => ⟨zri (by omega) (by omega), ih g2 ?_ (fun p hp => by rw [q2, wr_q (by omega), q1, wr_q (by omega), fg p hp])⟩⟩⟩
      have n2 : nets g2 o (sr (sr (bkR r k) k 2 (sab r (rl r k 0) (rl r k 2))) k 3 (sab r (rl r k 0) (rl r k 3))) := by rw [q2]; exact nets_s3 n1 ok1.1 ⟨k1, by rw [hd_sr k1 (by omega) (by omega)]; exact k2⟩
      refine nets_eqV n2 ⟨fun q q1 q2 => ?_, fun i i1 i2 j j1 j2 => ?_, fun q q1 q2 j j1 j2 => ?_⟩
      · rw [hd_sr k1 (by omega) (by omega), hd_sr k1 (by omega) (by omega)]
        unfold bkR
        rw [mk_h (by omega), mk_h (by omega)]
      · rw [hd_sr k1 (by omega) (by omega), hd_sr k1 (by omega) (by omega), d0] at i2
        rw [fl_sr k1 (by omega) ⟨i1, by omega⟩ ⟨j1, j2⟩, fl_sr k1 (by omega) ⟨i1, by omega⟩ ⟨j1, j2⟩]
        unfold bkR
        rw [mk_f ⟨i1, by omega⟩ ⟨j1, j2⟩, mk_f ⟨i1, by omega⟩ ⟨j1, j2⟩]
      · rw [rl_sr k1 (by omega) q1 ⟨j1, j2⟩, rl_sr k1 (by omega) q1 ⟨j1, j2⟩]
        unfold bkR
        rw [mk_r q1 ⟨j1, j2⟩, mk_r q1 ⟨j1, j2⟩]
        by_cases c : q = k
        · subst c
          rw [if_pos (show q < q + 1 by omega)]
          unfold bkS
          by_cases c3 : j = 3
          · subst c3; simp
          · by_cases c2 : j = 2
            · subst c2; simp
            · rw [if_neg (show ¬ 2 ≤ j by omega)]; simp [c3, c2]
        · by_cases cq : q < k
          · rw [if_pos (show q < k + 1 by omega)]; simp [c, cq]
          · rw [if_neg (show ¬ q < k + 1 by omega)]; simp [c, cq])
  exact ⟨f, hf h (nets_eqV hn ⟨fun q q1 q2 => by unfold bkR; rw [mk_h (by omega)], fun i i1 i2 j j1 j2 => by unfold bkR; rw [mk_f ⟨i1, by omega⟩ ⟨j1, j2⟩], fun q q1 q2 j j1 j2 => by unfold bkR; rw [mk_r q1 ⟨j1, j2⟩, if_neg (by omega)]⟩) (fun p hp => rfl)⟩

