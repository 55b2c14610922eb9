/-! holds -/
theorem p_holds_ {h : Hp} {Q : Int → Hp → Prop} (hi : inv h) (hQ : ∀ g, Q 1 g) : mL_holds_ h Q := by
  have main : ∀ (m : Nat) (v : Int) (g : Hp), v + m = 32 → 18 ≤ v → inv g → mL_holds__b3 Q (m + 1) v g := by
    intro m
    induction m with
    | zero =>
      intro v g hv h18 ig
      obtain ⟨r, s, l⟩ := ig
      show _ ∧ _
      exact ⟨fun _ => p_isRight s l (hQ g), fun c => absurd (by omega) c⟩
    | succ m ih =>
      intro v g hv h18 ig
      obtain ⟨r, s, l⟩ := ig
      show _ ∧ _
      refine ⟨fun c => by omega, fun _ => p_isRight s l ⟨fun c => absurd c (by decide), fun _ => p_isClashes s l fun g2 s2 f2 => ⟨fun c => absurd c (by decide), fun _ => p_isWave s2 fun g3 s3 f3 => ⟨fun _ => q_cell (by omega) fun z z0 z1 => p_acts ⟨z0, z1⟩ ⟨r, s3, l⟩ fun z2 g4 i4 f4 => ⟨zri (by omega) (by omega), ih (v + 1) g4 (by omega) (by omega) i4⟩, fun c => absurd c (by decide)⟩⟩⟩⟩
  exact ⟨15, Nat.le_refl _, main 14 18 h (by omega) (by omega) hi⟩
