/-! the reference goes back; both try the next wave -/
/-- what trying the next wave answers: 0 where it can be done -/
def tw0 (r : Rw) : Int := if 9 ≤ r 2 then -2 else if ¬ bnd r = -1 then -3 else if twice (wv r) = -1 then 0 else -4
theorem ev_bnd {r s : Rw} (he : eqV r s) : bnd s = bnd r := by
  unfold bnd
  rw [he.hd.1]
  refine fs_congr fun i i1 i2 => ?_
  unfold kpa
  rw [he.2.1 i i1 i2 4 (by omega) (by omega), he.hd.2.2.1, he.hd.2.2.2.1, ev_lat he i1 i2]
theorem p7_tryWave {h : Hp} {Q : Int → Hp → Prop} {r : Rw} (hn : nets h 13 r) (ho : okS r)
    (hQ : ∀ h', (tw0 r = 0 → nets h' 13 (wv r)) → (∀ p, ¬ (13 ≤ p ∧ p ≤ 25) → p ≠ 173 → p ≠ 174 → p ≠ 175 → h' p = h p) → Q (if tw0 r = 0 then cn (mvg r) 0 (r 0) else tw0 r) h') : mX7_tryWave h Q := by
  have ho1 := ho.1.1
  unfold okR at ho1
  unfold mX7_tryWave
  rw [hn.1.2.2.1]
  refine ⟨fun hc => p3_keeperWouldMove hn ho.1 ?_, fun hc => ?_⟩
  · have eb : (fs (fun i => decide (fl r i 4 = r 2 + 1) && kpa r i (r 2 + 1)) 0 (r 0)) = bnd r := rfl
    rw [eb]
    have g9 : ¬ 9 ≤ r 2 := by omega
    by_cases hb : bnd r = -1
    · rw [if_pos hb]
      refine ⟨fun _ => p3_doWave hn ho.1 hc fun h1 n1 f1 => p7_heldTwice n1 (wv_okW ho.1 hc) (by omega) fun h2 f2 => ?_, fun hx => absurd rfl hx⟩
      have n2 : nets h2 13 (wv r) := nets_frame n1 (fun p p1 p2 => f2 p (by omega) (by omega) (by omega))
      have f3 : ∀ p, ¬ (13 ≤ p ∧ p ≤ 25) → p ≠ 173 → p ≠ 174 → p ≠ 175 → h2 p = h p := fun p p1 p2 p3 p4 => by rw [f2 p p2 p3 p4, f1 p (by omega)]
      have ht := twice_r (r := wv r)
      by_cases c : twice (wv r) = -1
      · have e3 : tw0 r = 0 := by unfold tw0; rw [if_neg g9, if_neg (fun w => w hb), if_pos c]
        rw [if_pos c]
        rw [if_pos e3] at hQ
        exact ⟨fun _ => hQ h2 (fun _ => n2) f3, fun hx => absurd rfl hx⟩
      · have e3 : tw0 r = -4 := by unfold tw0; rw [if_neg g9, if_neg (fun w => w hb), if_neg c]
        rw [if_neg c]
        rw [e3, if_neg (by decide)] at hQ
        exact ⟨fun hx => by omega, fun _ => hQ h2 (fun hx => absurd hx (by decide)) f3⟩
    · rw [if_neg hb]
      have e3 : tw0 r = -3 := by unfold tw0; rw [if_neg g9, if_pos hb]
      rw [e3, if_neg (by decide)] at hQ
      exact ⟨fun hx => absurd hx (by decide), fun _ => hQ h (fun hx => absurd hx (by decide)) (fun _ _ _ _ _ => rfl)⟩
  · have e3 : tw0 r = -2 := by unfold tw0; rw [if_pos (by omega)]
    rw [e3, if_neg (by decide)] at hQ
    exact hQ h (fun hx => absurd hx (by decide)) (fun _ _ _ _ _ => rfl)
theorem tw0_r {r : Rw} : tw0 r = 0 ∨ tw0 r = -2 ∨ tw0 r = -3 ∨ tw0 r = -4 := by
  unfold tw0
  split
  · exact Or.inr (Or.inl rfl)
  · split
    · exact Or.inr (Or.inr (Or.inl rfl))
    · split
      · exact Or.inl rfl
      · exact Or.inr (Or.inr (Or.inr rfl))
theorem wv_okP {r : Rw} (ho : okS r) : okP (wv r) := by
  have ho1 := ho.1.1
  unfold okR at ho1
  intro i i1 i2
  have e0 : wv r 0 = r 0 := (mk_h (by omega)).trans (wvH_k (by omega))
  rw [e0] at i2
  unfold wv
  rw [mk_f ⟨i1, by omega⟩ (by omega), mk_f ⟨i1, by omega⟩ (by omega)]
  unfold wvM
  by_cases c : fl r i 4 = r 2 + 1
  · intro _
    rw [if_pos c, if_neg (by omega), if_pos rfl]
  · rw [if_neg c, if_neg c]
    exact ho.2.2 i i1 i2
theorem bk_okP {r : Rw} (ho : okS r) (h2 : 1 ≤ r 2) : okP (bk r) := by
  have ho1 := ho.1.1
  unfold okR at ho1
  intro i i1 i2
  have e0 : bk r 0 = r 0 := (mk_h (by omega)).trans (bkH_k (by omega))
  rw [e0] at i2
  unfold bk
  rw [mk_f ⟨i1, by omega⟩ (by omega), mk_f ⟨i1, by omega⟩ (by omega)]
  unfold bkM
  by_cases c : lat r i = r 2
  · have n3 : ¬ (3 : Int) = (14 + r 2) - 1 := by omega
    have n4 : ¬ (4 : Int) = (14 + r 2) - 1 := by omega
    rw [if_pos c, if_pos c, if_neg (show ¬ (4 : Int) = 1 by omega), if_neg (show ¬ (3 : Int) = 1 by omega), if_neg n4, if_neg n3, if_neg (show ¬ ((4 : Int) = 3 ∧ fl r i 4 = 0 ∧ fl r i 2 = 0) by omega)]
    by_cases d : fl r i 4 = 0 ∧ fl r i 2 = 0
    · rw [if_pos ⟨rfl, d⟩, if_pos ⟨rfl, d⟩]
      intro hx
      omega
    · rw [if_neg (fun w => d w.2), if_neg (fun w => d w.2), if_neg (show ¬ ((3 : Int) = 4 ∧ fl r i 4 = 0 ∧ fl r i 2 = 0) by omega)]
      exact ho.2.2 i i1 i2
  · rw [if_neg c, if_neg c]
    exact ho.2.2 i i1 i2
theorem tw0_ok {r : Rw} (ho : okS r) (h : tw0 r = 0) : okS (wv r) ∧ r 2 < 9 := by
  unfold tw0 at h
  by_cases c : 9 ≤ r 2
  · rw [if_pos c] at h; exact absurd h (by decide)
  · rw [if_neg c] at h
    by_cases hb : bnd r = -1
    · rw [if_neg (fun w => w hb)] at h
      by_cases ht : twice (wv r) = -1
      · exact ⟨⟨wv_okW ho.1 (by omega), ht, wv_okP ho⟩, by omega⟩
      · rw [if_neg ht] at h; exact absurd h (by decide)
    · rw [if_pos hb] at h; exact absurd h (by decide)
theorem p7_adoptTrial {h : Hp} {Q : Hp → Prop} {r s : Rw} {n : Int} {b : Int → Rw} (hh : hist h n b) (hn : nets h 0 r) (ho : okR r) (ht : nets h 13 s) (hs : okR s)
    (hQ : ∀ h', hist h' (min 10 (n + 1)) (hpu n b r) → nets h' 0 s → (∀ p, 12 < p → ¬ (39 ≤ p ∧ p ≤ 168) → p ≠ 170 → h' p = h p) → Q h') : mX7_adoptTrial h Q := by
  unfold mX7_adoptTrial
  refine p0_add hh hn ho (by omega) fun h1 hh1 f1 => p3_copyFrom (nets_frame ht (fun p p1 p2 => f1 p (by omega) (by omega))) hs (by omega) fun h2 n2 f2 => hQ h2 (hist_frame hh1 (fun p hp => f2 p (by omega))) n2 (fun p p1 p2 p3 => by rw [f2 p (by omega), f1 p p2 p3])

