/-! loading -/
theorem p6_begin {x : Int} {h : Hp} {Q : Hp → Prop} {b : Int → Int} (he : eT b x) (hb : byC h b x) (hQ : ∀ h', tkC h' b x (ws b x 0) → h' 176 1 = 0 → (∀ p, p ≠ 176 → h' p = h p) → Q h') : mX6_begin x h Q := by
  have h9 := he.1
  unfold mX6_begin
  intro a ea c ec d ed
  have dp : ∀ p, p ≠ 176 → d p = h p := fun p hp => by rw [ed, hu_q hp, ec, hu_q hp, ea, hu_q hp]
  refine p6_adv he ?_ ?_ (by rw [ed]; exact hu_same) (Int.le_refl 0) h9.1 fun g tg g1 gf => hQ g tg ?_ (fun p hp => by rw [gf p hp, dp p hp])
  · rw [ed, hu_ne (by omega), ec, hu_ne (by omega), ea, hu_same]
    omega
  · intro i i1 i2
    rw [rd_same (dp 177 (by omega))]
    exact hb i i1 i2
  · rw [g1, ed, hu_ne (by omega), ec]; exact hu_same
