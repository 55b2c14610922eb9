/-! more calls that leave all as it was -/
theorem cn_snoc {p : Int → Bool} {b : Int} : ∀ a, a ≤ b → cn p a (b + 1) = cn p a b + (if p b = true then 1 else 0) := by
  refine upI (b := b) (fun a h h2 => ?_) (fun a h ih _ => ?_)
  · have : a = b := by omega
    subst this
    rw [cn_step (by omega), cn_end (show a + 1 ≤ a + 1 by omega), cn_end (Int.le_refl _)]
    by_cases c : p a = true
    · rw [if_pos c]; omega
    · rw [if_neg c]
  · rw [cn_step (b := b + 1) (by omega), cn_step (b := b) h, ih (by omega)]
    omega
/-- the clash at place i -/
def ckp (r : Rw) (i : Int) : Int → Bool := fun v => clash r v && decide (cn (clash r) 1 v = i)
def ckA (r : Rw) (i : Int) : Int := fs (ckp r i) 1 251
theorem p5_clashAt {x : Int} {h : Hp} {Q : Int → Prop} {r : Rw} (ht : tly h r) (hQ : Q (if ckA r x = -1 then 0 else ckA r x)) : mX5_clashAt x h Q := by
  unfold mX5_clashAt
  unfold ckA at hQ
  obtain ⟨f, hf⟩ := forU (fun f v => Q (if fs (ckp r x) v 251 = -1 then 0 else fs (ckp r x) v 251) → mX5_clashAt_b4 h Q f x (cn (clash r) 1 v) v) 1 251 (by omega) (fun f hq => by
      unfold mX5_clashAt_b4
      rw [fs_end (Int.le_refl _)] at hq
      exact ⟨fun _ => hq, fun hc => absurd (by omega) hc⟩) (fun f v v1 v2 ih hq => by
      unfold mX5_clashAt_b4 mX5_clashAt_b29
      have hr := cn_r (clash r) (b := v) 1 (by omega)
      have hs := cn_snoc (p := clash r) (b := v) 1 (by omega)
      refine ⟨fun hc => by omega, fun _ => p5_isClash1 ht ⟨by omega, by omega⟩ ⟨fun c => ⟨zri (by omega) (by omega), ?_⟩, fun c => ⟨fun d => ⟨zri (by omega) (by omega), zri (by omega) (by omega), ?_⟩, fun d => ?_⟩⟩⟩
      · have c' := b2i0.mp c
        rw [c', if_neg (by decide), Int.add_zero] at hs
        rw [← hs]
        refine ih ?_
        rw [fs_skip v2 (by unfold ckp; rw [c', Bool.false_and])] at hq
        exact hq
      · have c' := b2i1.mp c
        rw [c', if_pos rfl] at hs
        rw [← hs]
        refine ih ?_
        rw [fs_skip v2 (by unfold ckp; rw [decide_eq_false d, Bool.and_false])] at hq
        exact hq
      · have c' := b2i1.mp c
        rw [fs_hit v2 (by unfold ckp; rw [c', decide_eq_true d]; rfl), if_neg (by omega)] at hq
        exact hq)
  exact ⟨f, by have := hf hQ; rw [cn_end (Int.le_refl _)] at this; exact this⟩
