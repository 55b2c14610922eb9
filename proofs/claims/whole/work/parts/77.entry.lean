/-! the law from its entry -/
theorem yi_kL_8 : zIn (.classLink RL 8 RX7) := zin_at 189 (by decide +kernel) (by decide +kernel)
theorem yi_kL_86 : zIn (.classLink RL 86 RX8) := zin_at 1298 (by decide +kernel) (by decide +kernel)
theorem yi_lL_85 : zIn (.methodLink RL 85 yX7_init) := zin_at 191 (by decide +kernel) (by decide +kernel)
theorem yi_lL_88 : zIn (.methodLink RL 88 yX8_init) := zin_at 1300 (by decide +kernel) (by decide +kernel)
section YG
variable {p : Program} {l : Launch} {e : Env} {R : Room} {s : State} {m : MethodId} {args : Array Value} {below : List Frame} {meth : Method} {c : Code} {H : Heap} {locs : List Loc} {cells slots : Nat} {Q : State → Prop}
theorem y_go {E : EE} {mc ms pc : Nat} {ls : Array Slot} {st0 rest : List Value} {X : Outcome → State → Prop} (hr : va_Run p l e R s m args below meth c H locs cells slots mc ms (F0 m pc ls st0) rest (fun st oc t => X oc t ∧ va_F (zge E) st t) (zge E)) (hS : va_S (zge E) s.heap H locs)
    (kk : ∀ (v : Option Value) (t : State) (H1 : Heap) (locs1 : List Loc), t.heap = H1 → X (.returned v) t → va_S (zge E) s.heap H1 locs1 → W p l e R s m args below meth c H1 locs1 (cells + mc) (slots + ms) Q (F0 m (pc + 3) ls (v.toList ++ rest))) : W p l e R s m args below meth c H locs cells slots Q (F0 m pc ls st0) := by
  intro T hT X0
  obtain ⟨v, st₀, t, T', L, h0, X', hL, e1, e2, ⟨hq, hF⟩, st⟩ := hr T hT X0
  obtain ⟨k1, k2, k3⟩ := vx_keep h0 e1 hS (fun _ _ q => q) (fun _ q => q) hL hF
  obtain ⟨t2, a1, b1⟩ := kk v t T'.heap (locs ++ L) e1.symm hq k3 T' rfl X'
  exact ⟨t2, st t2 a1, b1⟩
end YG
/-- the two sides begin alike -/
theorem inv_start {h1 h2 h3 : Hp} (hJ : J7 h1) (hK : J8 h1 h2) (he : ∀ p, p < 197 → h3 p = h2 p) : inv h3 := by
  obtain ⟨n1, f1⟩ := hJ
  obtain ⟨a1, a2, a3⟩ := hK
  have lo : ∀ p, p < 185 → h3 p = h1 p := fun p hp => by rw [he p (by omega), a1 p hp]
  have hp : ∀ p, p < 185 → p ≠ 0 → h3 p = hp0 p := fun p hp h0 => by rw [lo p hp, f1 p h0]
  have v5 : ∀ k, h3 185 k = if k = 17 then -1 else 0 := fun k => by rw [he 185 (by omega)]; exact a3 k
  have h186 : rd h3 186 = rd h2 186 := rd_ne (he 186 (by omega))
  obtain ⟨g0, g1, -⟩ := bg_h
  have ev : eqV bgR (rd h3 186) := by
    rw [h186]
    refine ⟨fun k k1 k2 => a2 k k1 k2, fun i i1 i2 => ?_, fun k k1 k2 => ?_⟩
    · rw [g0] at i2; omega
    · rw [g1] at k2; omega
  have z : ∀ p k, p < 185 → p ≠ 0 → p ≠ 169 → h3 p k = 0 := fun p k q1 q2 q3 => by
    rw [hp p q1 q2]
    exact if_neg q3
  have n9 : ∀ k, h3 169 k = if k = 10 then -1 else 0 := fun k => by
    rw [hp 169 (by omega) (by omega)]
    exact if_pos rfl
  refine ⟨⟨nets_eqV (nets_frame n1 (fun p p1 p2 => lo p (by omega))) ev, okS_eqV bg_okS ev⟩, ⟨?_, ?_, fun hs => ?_⟩, ⟨⟨?_, ?_, ?_, fun m m1 m2 => ?_⟩, fun k k1 k2 => ?_⟩, ⟨?_, ?_, fun i i1 i2 => ?_⟩, ?_, ?_, ?_, fun i i1 i2 => ?_⟩
  · rw [n9, v5]; decide
  · rw [v5]; exact Or.inl rfl
  · rw [v5] at hs; exact absurd hs (by decide)
  · rw [z 170 2 (by omega) (by omega) (by omega), v5]; decide
  · rw [v5]; decide
  · rw [z 170 1 (by omega) (by omega) (by omega)]; decide
  · rw [v5, if_neg (by decide)] at m2; omega
  · rw [v5, if_neg (by decide)] at k2; omega
  · rw [z 176 1 (by omega) (by omega) (by omega), v5]; decide
  · rw [v5]; decide
  · rw [v5, if_neg (by decide)] at i2; omega
  · rw [n9, v5]; decide
  · rw [z 183 1 (by omega) (by omega) (by omega), v5]; decide
  · rw [v5]; decide
  · rw [v5, if_neg (by decide)] at i2; omega
