/-! the reference's changes: what fails, copies, history, the next wave and the way back -/
theorem rd_hu {h : Hp} {p q k : Nat} {z : Int} (hn : q ≠ p) : rd (hu h p k z) q = rd h q := rd_ne (hu_q hn)
theorem p8_fails {x k : Int} {h : Hp} {Q : Int → Hp → Prop} (h0 : h 185 0 = 0) (hk : ¬ k = 0) (h1 : ¬ x = 0 → Q 0 h) (h2 : x = 0 → Q 1 (hu h 185 0 k)) : mX8_fails x k h Q := by
  unfold mX8_fails mX8_fails_b16
  refine ⟨fun c => ⟨fun _ => h1 c, fun c2 => absurd h0 c2⟩, fun c => ⟨fun c2 => absurd h0 c2, fun _ g e => ?_⟩⟩
  have : g 185 0 = k := by rw [e]; exact hu_same
  refine ⟨fun c2 => absurd (this ▸ c2) hk, fun _ => e ▸ h2 c⟩
theorem p8_copies {q n p n2 : Nat} {a b : Int} {h : Hp} {Q : Hp → Prop} (ha : 0 ≤ a) (hb : 0 ≤ b) (hn : a + 1096 ≤ n) (hn2 : b + 1096 ≤ n2) (hl : n ≤ 20000) (hl2 : n2 ≤ 20000) (hd : q ≠ p ∨ b + 1096 ≤ a)
    (hQ : ∀ h', (∀ p', p' ≠ p → h' p' = h p') → (∀ j, 0 ≤ j → rd h' p j = if b ≤ j ∧ j < b + 1096 then rd h q (a + (j - b)) else rd h p j) → Q h') : mX8_copies q n a p n2 b h Q := by
  unfold mX8_copies
  obtain ⟨f, hf⟩ := forU (fun f k => ∀ g : Hp, (∀ p', p' ≠ p → g p' = h p') → (∀ j, 0 ≤ j → rd g p j = if b ≤ j ∧ j < b + k then rd h q (a + (j - b)) else rd h p j) → mX8_copies_b3 q n p n2 Q f a b k g) 0 1096 (by omega) (fun f g g1 g2 => by
      unfold mX8_copies_b3
      exact ⟨fun _ => hQ g g1 g2, fun hc => absurd (by omega) hc⟩) (fun f k k1 k2 ih g g1 g2 => by
      unfold mX8_copies_b3
      refine ⟨fun hc => by omega, fun _ => ⟨zri (by omega) (by omega), zri (by omega) (by omega), ⟨by omega, by omega⟩, ⟨by omega, by omega⟩, fun b1 e => ⟨zri (by omega) (by omega), ih b1 (fun p' hp => by rw [e, wr_q hp, g1 p' hp]) (fun j j1 => ?_)⟩⟩⟩
      rw [e, rw_if (by omega) j1]
      have hsrc : rd g q (a + k) = rd h q (a + k) := by
        by_cases c : q = p
        · subst c
          rw [g2 _ (by omega), if_neg (by omega)]
        · exact rd_same (g1 q c)
      by_cases c : j = b + k
      · rw [if_pos ⟨rfl, c⟩, if_pos (by omega), hsrc, c, show a + (b + k - b) = a + k by omega]
      · rw [if_neg (fun w => c w.2), g2 j j1]
        by_cases d : b ≤ j ∧ j < b + k
        · rw [if_pos d, if_pos (by omega)]
        · rw [if_neg d, if_neg (by omega)])
  exact ⟨f, hf h (fun _ _ => rfl) (fun j j1 => by rw [if_neg (by omega)])⟩
theorem p8_laysAside {h : Hp} {Q : Hp → Prop} (hQ : ∀ h', (∀ p, p ≠ 189 → h' p = h p) → (∀ j, 0 ≤ j → j < 1096 → rd h' 189 j = rd h 186 j) → Q h') : mX8_laysAside h Q := by
  unfold mX8_laysAside
  refine p8_copies (by omega) (by omega) (by omega) (by omega) (by omega) (by omega) (Or.inl (by omega)) fun h' f e => hQ h' f fun j j1 j2 => ?_
  rw [e j j1, if_pos (by omega), show (0 : Int) + (j - 0) = j by omega]
theorem p8_laysBack {h : Hp} {Q : Hp → Prop} (hQ : ∀ h', (∀ p, p ≠ 186 → h' p = h p) → (∀ j, 0 ≤ j → j < 1096 → rd h' 186 j = rd h 189 j) → Q h') : mX8_laysBack h Q := by
  unfold mX8_laysBack
  refine p8_copies (by omega) (by omega) (by omega) (by omega) (by omega) (by omega) (Or.inl (by omega)) fun h' f e => hQ h' f fun j j1 j2 => ?_
  rw [e j j1, if_pos (by omega), show (0 : Int) + (j - 0) = j by omega]
/-- the reference's row behind n others -/
def bf (h : Hp) (k : Int) : Rw := fun j => rd h 190 (1096 * k + j)
theorem bf_ne {h h' : Hp} (e : h' 190 = h 190) : bf h' = bf h := by
  funext k j
  exact rd_same e
theorem p8_keeps {q : Nat} {h : Hp} {Q : Hp → Prop} (hn : 0 ≤ h 185 6 ∧ h 185 6 ≤ 10) (hq : q ≠ 190) (hq2 : q ≠ 185)
    (hQ : ∀ h', (∀ p, p ≠ 185 → p ≠ 190 → h' p = h p) → (∀ k, k ≠ 6 → h' 185 k = h 185 k) → h' 185 6 = min 10 (h 185 6 + 1) → (∀ k, 0 ≤ k → k < min 10 (h 185 6 + 1) → ∀ j, 0 ≤ j → j < 1096 → bf h' k j = hpu (h 185 6) (bf h) (rd h q) k j) → Q h') : mX8_keeps q 1096 h Q := by
  have fin : ∀ g : Hp, (∀ p, p ≠ 185 → p ≠ 190 → g p = h p) → (∀ k, k ≠ 6 → g 185 k = h 185 k) → g 185 6 = min 10 (h 185 6 + 1) - 1 → (∀ k, 0 ≤ k → k < min 10 (h 185 6 + 1) - 1 → ∀ j, 0 ≤ j → j < 1096 → bf g k j = bf h (k + (h 185 6 + 1 - min 10 (h 185 6 + 1))) j) → mX8_keeps_b58 q 1096 Q g := by
    intro g g1 g2 g3 g4
    unfold mX8_keeps_b58
    rw [g3]
    refine ⟨zri (by omega) (by omega), p8_copies (by omega) (by omega) (by omega) (by omega) (by omega) (by omega) (Or.inl hq) fun a fa ea => ?_⟩
    have a185 : a 185 = g 185 := fa 185 (by omega)
    rw [a185, g3]
    refine ⟨zri (by omega) (by omega), fun b e => ?_⟩
    have fb : ∀ p, p ≠ 185 → b p = a p := fun p hp => by rw [e]; exact hu_q hp
    refine hQ b (fun p p1 p2 => by rw [fb p p1, fa p p2, g1 p p1 p2]) (fun k hk => by rw [e, hu_ne (by omega), a185, g2 k hk]) (by rw [e, hu_same]; omega) (fun k k1 k2 j j1 j2 => ?_)
    have eb : bf b = bf a := bf_ne (fb 190 (by omega))
    rw [eb]
    unfold bf hpu
    rw [ea _ (by omega)]
    by_cases c : k = min 10 (h 185 6 + 1) - 1
    · rw [if_pos (by omega), if_pos c, rd_same (g1 q hq2 hq), show 0 + (1096 * k + j - 1096 * (min 10 (h 185 6 + 1) - 1)) = j by omega]
    · rw [if_neg (by omega), if_neg c]
      exact g4 k k1 (by omega) j j1 j2
  unfold mX8_keeps
  refine ⟨fun hc => fin h (fun _ _ _ => rfl) (fun _ _ => rfl) (by omega) (fun k k1 k2 j j1 j2 => by rw [show k + (h 185 6 + 1 - min 10 (h 185 6 + 1)) = k by omega]), fun hc => ⟨zri (by omega) (by omega), fun a e => ?_⟩⟩
  have a6 : a 185 6 = 9 := by rw [e, hu_same, hc]; rfl
  have fa : ∀ p, p ≠ 185 → a p = h p := fun p hp => by rw [e]; exact hu_q hp
  have ak : ∀ k, k ≠ 6 → a 185 k = h 185 k := fun k hk => by rw [e]; exact hu_ne (by omega)
  have hm : min 10 (h 185 6 + 1) = 10 := by omega
  obtain ⟨f, hf⟩ := forU (fun f i => ∀ g : Hp, (∀ p, p ≠ 190 → g p = a p) → (∀ k, 0 ≤ k → k < 10 → ∀ j, 0 ≤ j → j < 1096 → bf g k j = if k < i then bf h (k + 1) j else bf h k j) → mX8_keeps_b21 q 1096 Q f i g) 0 9 (by omega) (fun f g g1 g2 => by
      unfold mX8_keeps_b21
      have g6 : g 185 6 = 9 := by rw [g1 185 (by omega)]; exact a6
      rw [g6]
      refine ⟨fun _ => fin g (fun p p1 p2 => by rw [g1 p p2, fa p p1]) (fun k hk => by rw [g1 185 (by omega), ak k hk]) (by omega) (fun k k1 k2 j j1 j2 => ?_), fun hx => absurd (by omega) hx⟩
      rw [g2 k k1 (by omega) j j1 j2, if_pos (by omega), show k + (h 185 6 + 1 - min 10 (h 185 6 + 1)) = k + 1 by omega]) (fun f i i1 i2 ih g g1 g2 => by
      unfold mX8_keeps_b21
      have g6 : g 185 6 = 9 := by rw [g1 185 (by omega)]; exact a6
      rw [g6]
      refine ⟨fun hx => by omega, fun _ => ⟨zri (by omega) (by omega), zri (by omega) (by omega), zri (by omega) (by omega), p8_copies (by omega) (by omega) (by omega) (by omega) (by omega) (by omega) (Or.inr (by omega)) fun b fb eb => ⟨zri (by omega) (by omega), ih b (fun p hp => by rw [fb p hp, g1 p hp]) (fun k k1 k2 j j1 j2 => ?_)⟩⟩⟩
      unfold bf
      rw [eb _ (by omega)]
      by_cases c : k = i
      · rw [if_pos (by omega), if_pos (by omega), show 1096 * (i + 1) + (1096 * k + j - 1096 * i) = 1096 * (k + 1) + j by omega]
        have := g2 (k + 1) (by omega) (by omega) j j1 j2
        rw [if_neg (by omega)] at this
        exact this
      · rw [if_neg (by omega)]
        have := g2 k k1 k2 j j1 j2
        unfold bf at this
        rw [this]
        by_cases d : k < i
        · rw [if_pos d, if_pos (by omega)]
        · rw [if_neg d, if_neg (by omega)])
  exact ⟨f, hf a (fun _ _ => rfl) (fun k k1 k2 j j1 j2 => by rw [if_neg (by omega), bf_ne (fa 190 (by omega))])⟩
theorem p8_laysLeads {h : Hp} {Q : Hp → Prop} (hQ : ∀ h', (∀ p, p ≠ 192 → h' p = h p) → (∀ k, 0 ≤ k → k < 502 → rd h' 192 k = k % 251) → Q h') : mX8_laysLeads h Q := by
  unfold mX8_laysLeads
  obtain ⟨f, hf⟩ := forU (fun f i => ∀ g : Hp, (∀ p, p ≠ 192 → g p = h p) → (∀ k, 0 ≤ k → k < i → rd g 192 k = k % 251) → mX8_laysLeads_b2 Q f i g) 0 502 (by omega) (fun f g g1 g2 => by
      unfold mX8_laysLeads_b2
      exact ⟨fun _ => hQ g g1 g2, fun hx => absurd (by omega) hx⟩) (fun f i i1 i2 ih g g1 g2 => by
      unfold mX8_laysLeads_b2
      refine ⟨fun hx => by omega, fun _ => ⟨⟨by omega, by omega⟩, ⟨by omega, by omega⟩, fun b e => ⟨zri (by omega) (by omega), ih b (fun p hp => by rw [e, wr_q hp, g1 p hp]) (fun k k1 k2 => ?_)⟩⟩⟩
      rw [e, rw_if i1 k1]
      by_cases c : k = i
      · rw [if_pos ⟨rfl, c⟩, c]
      · rw [if_neg (fun w => c w.2), g2 k k1 (by omega)])
  exact ⟨f, hf h (fun _ _ => rfl) (fun k k1 k2 => by omega)⟩
theorem p8_leadsTo {x v t : Int} {h : Hp} {Q : Hp → Prop} (hx : 0 ≤ x ∧ x < 40) (hv : 0 ≤ v ∧ v ≤ 250) (hQ : ∀ h', (∀ p, p ≠ 192 → h' p = h p) → (∀ o w, (o = 0 ∨ o = 1) → 0 ≤ w → w ≤ 250 → rd h' 192 (251 * o + w) = if onet (rd h 186) x o = true ∧ w = v then t else rd h 192 (251 * o + w)) → Q h') : mX8_leadsTo x v t h Q := by
  unfold mX8_leadsTo
  obtain ⟨f, hf⟩ := forU (fun f i => ∀ g : Hp, (∀ p, p ≠ 192 → g p = h p) → (∀ o w, (o = 0 ∨ o = 1) → 0 ≤ w → w ≤ 250 → rd g 192 (251 * o + w) = if onet (rd h 186) x o = true ∧ w = v ∧ o < i then t else rd h 192 (251 * o + w)) → mX8_leadsTo_b3 Q f x v t i g) 0 2 (by omega) (fun f g g1 g2 => by
      unfold mX8_leadsTo_b3
      refine ⟨fun _ => hQ g g1 fun o w o1 w1 w2 => ?_, fun hx => absurd (by omega) hx⟩
      rw [g2 o w o1 w1 w2]
      by_cases c : onet (rd h 186) x o = true ∧ w = v
      · rw [if_pos c, if_pos ⟨c.1, c.2, by omega⟩]
      · rw [if_neg c, if_neg (fun w => c ⟨w.1, w.2.1⟩)]) (fun f i i1 i2 ih g g1 g2 => by
      unfold mX8_leadsTo_b3 mX8_leadsTo_b33
      have er : rd g 186 = rd h 186 := rd_ne (g1 186 (by omega))
      refine ⟨fun hx => by omega, fun _ => p8_isOfNet hx ?_⟩
      rw [er]
      refine ⟨fun c => ⟨zri (by omega) (by omega), ih g g1 fun o w o1 w1 w2 => ?_⟩, fun c => ⟨zri (by omega) (by omega), zri (by omega) (by omega), ⟨by omega, by omega⟩, fun b e => ⟨zri (by omega) (by omega), ih b (fun p hp => by rw [e, wr_q hp, g1 p hp]) fun o w o1 w1 w2 => ?_⟩⟩⟩
      · have c' := b2i0.mp c
        rw [g2 o w o1 w1 w2]
        by_cases d : o = i
        · subst d
          rw [if_neg (by rw [c']; intro w; cases w.1), if_neg (by rw [c']; intro w; cases w.1)]
        · by_cases d2 : onet (rd h 186) x o = true ∧ w = v ∧ o < i
          · rw [if_pos d2, if_pos ⟨d2.1, d2.2.1, by omega⟩]
          · rw [if_neg d2, if_neg (fun w => d2 ⟨w.1, w.2.1, by omega⟩)]
      · have c' := b2i1.mp c
        rw [e, rw_if (by omega) (by omega), g2 o w o1 w1 w2]
        by_cases d : o = i ∧ w = v
        · obtain ⟨rfl, rfl⟩ := d
          rw [if_pos ⟨rfl, rfl⟩, if_pos ⟨c', rfl, by omega⟩]
        · rw [if_neg (by omega)]
          by_cases d2 : onet (rd h 186) x o = true ∧ w = v ∧ o < i
          · rw [if_pos d2, if_pos ⟨d2.1, d2.2.1, by omega⟩]
          · rw [if_neg d2, if_neg (fun w => d2 ⟨w.1, w.2.1, by omega⟩)])
  exact ⟨f, hf h (fun _ _ => rfl) (fun o w o1 w1 w2 => by rw [if_neg (by omega)])⟩
/-- the rules' sides by a table -/
def rwr (r : Rw) (T : Int → Int → Int) (i : Int) : Rw := mkR r (fl r) (fun k j => if k < i ∧ 2 ≤ j then T (rl r k 0) (rl r k j) else rl r k j)
theorem eqV_wr {r s : Rw} {k j z : Int} {t : Rw} (he : eqV r s) (hk : 0 ≤ k ∧ k < r 1) (hj : 2 ≤ j ∧ j < 4) (h0 : r 0 ≤ 40) (h1 : r 1 ≤ 30) (hh : ∀ q, 0 ≤ q → q < 8 → t q = r q) (hf : ∀ i, 0 ≤ i → i < r 0 → ∀ j, 0 ≤ j → j < 24 → fl t i j = fl r i j) (hu : ∀ k2, 0 ≤ k2 → k2 < r 1 → ∀ j2, 0 ≤ j2 → j2 < 4 → rl t k2 j2 = if k2 = k ∧ j2 = j then z else rl r k2 j2) : eqV t (sr s k j z) := by
  have e0 := hh 0 (by omega) (by omega)
  have e1 := hh 1 (by omega) (by omega)
  refine ⟨fun q q1 q2 => ?_, fun i i1 i2 j2 j3 j4 => ?_, fun q q1 q2 j2 j3 j4 => ?_⟩
  · rw [hd_sr hk.1 (by omega) (by omega), hh q q1 q2]; exact he.1 q q1 q2
  · rw [fl_sr hk.1 (by omega) ⟨i1, by omega⟩ ⟨j3, j4⟩, hf i i1 (by omega) j2 j3 j4]
    exact he.2.1 i i1 (by omega) j2 j3 j4
  · rw [rl_sr hk.1 (by omega) q1 ⟨j3, j4⟩, hu q q1 (by omega) j2 j3 j4, he.2.2 q q1 (by omega) j2 j3 j4]
theorem p8_rewrites0 {h : Hp} {Q : Int → Hp → Prop} {r : Rw} {T : Int → Int → Int} (he : eqV r (rd h 186)) (ho : okR r) (hU : ∀ k, 0 ≤ k → k < r 1 → okU r k) (hT : ∀ o v, (o = 0 ∨ o = 1) → 0 ≤ v → v ≤ 250 → rd h 192 (251 * o + v) = T o v)
    (hQ : ∀ h', eqV (rwr r T (r 1)) (rd h' 186) → (∀ p, p ≠ 186 → h' p = h p) → Q (cn (fun k => decide (¬ T (rl r k 0) (rl r k 2) = rl r k 2)) 0 (r 1) + cn (fun k => decide (¬ T (rl r k 0) (rl r k 3) = rl r k 3)) 0 (r 1)) h') : mX8_rewrites0 h Q := by
  unfold okR at ho
  unfold mX8_rewrites0
  obtain ⟨f, hf⟩ := forU (fun f i => ∀ s (g : Hp), 0 ≤ s → s ≤ 2 * i → s + (cn (fun k => decide (¬ T (rl r k 0) (rl r k 2) = rl r k 2)) i (r 1) + cn (fun k => decide (¬ T (rl r k 0) (rl r k 3) = rl r k 3)) i (r 1)) = cn (fun k => decide (¬ T (rl r k 0) (rl r k 2) = rl r k 2)) 0 (r 1) + cn (fun k => decide (¬ T (rl r k 0) (rl r k 3) = rl r k 3)) 0 (r 1) → eqV (rwr r T i) (rd g 186) → (∀ p, p ≠ 186 → g p = h p) → mX8_rewrites0_b4 Q f s i g) 0 (r 1) (by omega) (fun f s g s0 s1 hs eg fg => by
      unfold mX8_rewrites0_b4
      have e1 : rd g 186 1 = r 1 := eg.hd.2.1
      rw [cn_end (Int.le_refl _), cn_end (Int.le_refl _)] at hs
      rw [e1]
      refine ⟨⟨by omega, by omega⟩, fun _ => ?_, fun hx => absurd (Int.le_refl _) hx⟩
      have := hQ g eg fg
      rw [← hs, Int.add_zero, Int.add_zero] at this
      exact this) (fun f i i1 i2 ih s g s0 s1 hs eg fg => by
      unfold mX8_rewrites0_b4
      have e1 : rd g 186 1 = r 1 := eg.hd.2.1
      rw [e1]
      refine ⟨⟨by omega, by omega⟩, fun hx => by omega, fun _ => ⟨3, ?_⟩⟩
      obtain ⟨u1, u2, u3, u4⟩ := hU i i1 i2
      have hr1 : rwr r T i 1 = r 1 := rfl
      have hr0 : rwr r T i 0 = r 0 := rfl
      have hrl : ∀ k, 0 ≤ k → k < r 1 → ∀ j, 0 ≤ j → j < 4 → rl (rd g 186) k j = if k < i ∧ 2 ≤ j then T (rl r k 0) (rl r k j) else rl r k j := fun k k1 k2 j j1 j2 => by
        rw [eg.2.2 k k1 k2 j j1 j2]; exact mk_r k1 ⟨j1, j2⟩
      have r0 : rl (rd g 186) i 0 = rl r i 0 := by rw [hrl i i1 i2 0 (by omega) (by omega), if_neg (by omega)]
      have r2 : rl (rd g 186) i 2 = rl r i 2 := by rw [hrl i i1 i2 2 (by omega) (by omega), if_neg (by omega)]
      have r3 : rl (rd g 186) i 3 = rl r i 3 := by rw [hrl i i1 i2 3 (by omega) (by omega), if_neg (by omega)]
      have q0 : rd g 186 ((976 + (4 * i)) + 0) = rl r i 0 := r0
      have q2 : rd g 186 ((976 + (4 * i)) + 2) = rl r i 2 := r2
      have t2 : rd g 192 (251 * rl r i 0 + rl r i 2) = T (rl r i 0) (rl r i 2) := by rw [rd_same (fg 192 (by omega))]; exact hT _ _ u1 u3.1 u3.2
      unfold mX8_rewrites0_b16
      refine ⟨fun hx => by omega, fun _ => p8_ruleCell ⟨i1, by omega⟩ (by omega) ⟨⟨by omega, by omega⟩, p8_ruleCell ⟨i1, by omega⟩ (by omega) ⟨⟨by omega, by omega⟩, ?_⟩⟩⟩
      rw [q0, q2, t2]
      refine ⟨zri (by omega) (by omega), zri (by omega) (by omega), ⟨by omega, by omega⟩, p8_ruleCell ⟨i1, by omega⟩ (by omega) ⟨⟨by omega, by omega⟩, fun g2 w2 => ?_⟩⟩
      have eg2 : rd g2 186 = sr (rd g 186) i 2 (T (rl r i 0) (rl r i 2)) := by rw [w2]; exact rd_wr
      have f2 : ∀ p, p ≠ 186 → g2 p = g p := fun p hp => by rw [w2]; exact wr_q hp
      have p0 : rd g2 186 ((976 + (4 * i)) + 0) = rl r i 0 := by
        rw [eg2]
        show rl (sr (rd g 186) i 2 (T (rl r i 0) (rl r i 2))) i 0 = _
        rw [rl_sr i1 (by omega) i1 (by omega), if_neg (by omega), r0]
      have p3 : rd g2 186 ((976 + (4 * i)) + 3) = rl r i 3 := by
        rw [eg2]
        show rl (sr (rd g 186) i 2 (T (rl r i 0) (rl r i 2))) i 3 = _
        rw [rl_sr i1 (by omega) i1 (by omega), if_neg (by omega), r3]
      have t3 : rd g2 192 (251 * rl r i 0 + rl r i 3) = T (rl r i 0) (rl r i 3) := by rw [rd_same (f2 192 (by omega)), rd_same (fg 192 (by omega))]; exact hT _ _ u1 u4.1 u4.2
      have second : ∀ d, 0 ≤ d → d ≤ 1 → d = (if T (rl r i 0) (rl r i 2) = rl r i 2 then 0 else 1) → mX8_rewrites0_b82 Q (mX8_rewrites0_b4 Q f) (mX8_rewrites0_b16 Q (mX8_rewrites0_b4 Q f) 2) i 2 d s g2 := by
        intro d d1 d2 hd
        unfold mX8_rewrites0_b82
        refine ⟨zri (by omega) (by omega), zri (by omega) (by omega), ?_⟩
        unfold mX8_rewrites0_b16
        refine ⟨fun hx => by omega, fun _ => p8_ruleCell ⟨i1, by omega⟩ (by omega) ⟨⟨by omega, by omega⟩, p8_ruleCell ⟨i1, by omega⟩ (by omega) ⟨⟨by omega, by omega⟩, ?_⟩⟩⟩
        rw [show (2 : Int) + 1 = 3 from rfl, p0, p3, t3]
        refine ⟨zri (by omega) (by omega), zri (by omega) (by omega), ⟨by omega, by omega⟩, p8_ruleCell ⟨i1, by omega⟩ (by omega) ⟨⟨by omega, by omega⟩, fun g3 w3 => ?_⟩⟩
        have eg3 : rd g3 186 = sr (sr (rd g 186) i 2 (T (rl r i 0) (rl r i 2))) i 3 (T (rl r i 0) (rl r i 3)) := by rw [w3, ← eg2]; exact rd_wr
        have f3 : ∀ p, p ≠ 186 → g3 p = g2 p := fun p hp => by rw [w3]; exact wr_q hp
        have done : ∀ d2, 0 ≤ d2 → d2 ≤ 1 → d2 = (if T (rl r i 0) (rl r i 3) = rl r i 3 then 0 else 1) → mX8_rewrites0_b82 Q (mX8_rewrites0_b4 Q f) (mX8_rewrites0_b16 Q (mX8_rewrites0_b4 Q f) 1) i 3 d2 (s + d) g3 := by
          intro d2 d3 d4 hd2
          unfold mX8_rewrites0_b82
          refine ⟨zri (by omega) (by omega), zri (by omega) (by omega), ?_⟩
          unfold mX8_rewrites0_b16
          refine ⟨fun _ => ⟨zri (by omega) (by omega), ih _ g3 (by omega) (by omega) ?_ ?_ (fun p hp => by rw [f3 p hp, f2 p hp, fg p hp])⟩, fun hx => absurd (by omega) hx⟩
          · rw [cn_step i2, cn_step (p := fun k => decide (¬ T (rl r k 0) (rl r k 3) = rl r k 3)) i2] at hs
            simp only [decide_eq_true_eq] at hs
            by_cases c2 : T (rl r i 0) (rl r i 2) = rl r i 2 <;> by_cases c3 : T (rl r i 0) (rl r i 3) = rl r i 3 <;> simp only [c2, c3, not_true_eq_false, not_false_eq_true, if_true, if_false] at hs hd hd2 <;> omega
          · rw [eg3]
            refine ⟨fun q x1 x2 => ?_, fun x x1 x2 j j1 j2 => ?_, fun k k1 k2 j j1 j2 => ?_⟩
            · rw [hd_sr i1 (by omega) (by omega), hd_sr i1 (by omega) (by omega), eg.1 q x1 x2]
              unfold rwr
              rw [mk_h (by omega), mk_h (by omega)]
            · have x2' : x < r 0 := x2
              rw [fl_sr i1 (by omega) ⟨x1, by omega⟩ ⟨j1, j2⟩, fl_sr i1 (by omega) ⟨x1, by omega⟩ ⟨j1, j2⟩, eg.2.1 x x1 x2 j j1 j2]
              unfold rwr
              rw [mk_f ⟨x1, by omega⟩ ⟨j1, j2⟩, mk_f ⟨x1, by omega⟩ ⟨j1, j2⟩]
            · have k2' : k < r 1 := k2
              rw [rl_sr i1 (by omega) k1 ⟨j1, j2⟩, rl_sr i1 (by omega) k1 ⟨j1, j2⟩, hrl k k1 k2' j j1 j2]
              unfold rwr
              rw [mk_r k1 ⟨j1, j2⟩]
              by_cases c : k = i
              · subst c
                by_cases c3 : j = 3
                · subst c3; simp; intro hx; omega
                · by_cases c2 : j = 2
                  · subst c2; simp; intro hx; omega
                  · rw [if_neg (by omega), if_neg (by omega), if_neg (by omega), if_neg (by omega)]
              · rw [if_neg (by omega), if_neg (by omega)]
                by_cases d : k < i ∧ 2 ≤ j
                · rw [if_pos d, if_pos (by omega)]
                · rw [if_neg d, if_neg (by omega)]
        refine ⟨fun c => done 1 (by omega) (by omega) (by rw [if_neg (fun q => c q.symm)]), fun c => done 0 (by omega) (by omega) (by rw [if_pos c.symm])⟩
      exact ⟨fun c => second 1 (by omega) (by omega) (by rw [if_neg (fun q => c q.symm)]), fun c => second 0 (by omega) (by omega) (by rw [if_pos c.symm])⟩)
  exact ⟨f, hf 0 h (by omega) (by omega) (by omega) (he.symm.symm.trans ⟨fun q q1 q2 => rfl, fun _ _ _ _ _ _ => rfl, fun _ _ _ _ _ _ => rfl⟩ |> fun e => ⟨fun q q1 q2 => by rw [e.1 q q1 q2]; unfold rwr; rw [mk_h (by omega)], fun x x1 x2 j j1 j2 => by
      have x2' : x < r 0 := x2
      rw [e.2.1 x x1 x2' j j1 j2]; unfold rwr; rw [mk_f ⟨x1, by omega⟩ ⟨j1, j2⟩], fun k k1 k2 j j1 j2 => by
      have k2' : k < r 1 := k2
      rw [e.2.2 k k1 k2' j j1 j2]; unfold rwr; rw [mk_r k1 ⟨j1, j2⟩, if_neg (by omega)]⟩) (fun _ _ => rfl)⟩
