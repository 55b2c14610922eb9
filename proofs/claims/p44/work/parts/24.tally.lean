/-! the tally -/
theorem rw_if {h : Hp} {p q : Nat} {i j z : Int} (hi : 0 ≤ i) (hj : 0 ≤ j) : rd (wr h p i z) q j = if q = p ∧ j = i then z else rd h q j := by
  by_cases e : q = p
  · subst e
    by_cases e2 : j = i
    · subst e2; rw [rw_same, if_pos ⟨rfl, rfl⟩]
    · rw [rw_ne hi hj e2, if_neg (fun w => e2 w.2)]
  · rw [rw_np e, if_neg (fun w => e w.1)]
theorem p7_fill {r0 n0 : Nat} {x : Int} {h : Hp} {Q : Hp → Prop} (hn : n0 ≤ 2147483646) (hQ : ∀ h', (∀ j : Int, 0 ≤ j → j < n0 → rd h' r0 j = x) → (∀ p, p ≠ r0 → h' p = h p) → Q h') : mJ7_fill_53178 r0 n0 x h Q := by
  unfold mJ7_fill_53178
  obtain ⟨f, hf⟩ := forU (fun f i => ∀ g : Hp, (∀ j : Int, 0 ≤ j → j < i → rd g r0 j = x) → (∀ p, p ≠ r0 → g p = h p) → mJ7_fill_53178_b5 r0 n0 Q f x i n0 g) 0 n0 (by omega) (fun f g a1 a2 => by
      unfold mJ7_fill_53178_b5
      exact ⟨fun _ => hQ g a1 a2, fun hc => absurd (Int.le_refl _) hc⟩) (fun f i h1 h2 ih g a1 a2 => by
      unfold mJ7_fill_53178_b5
      refine ⟨fun hc => by omega, fun _ => ⟨⟨by omega, by omega⟩, fun h4 e => ⟨zri (by omega) (by omega), ih h4 (fun j j1 j2 => ?_) (fun p hp => ?_)⟩⟩⟩
      · subst e
        by_cases c : j = i
        · subst c; rw [rw_same]
        · rw [rw_ne h1 j1 c]; exact a1 j j1 (by omega)
      · subst e
        funext k
        rw [wr_np hp, a2 p hp])
  exact ⟨f, hf h (fun j j1 j2 => by omega) (fun _ _ => rfl)⟩
def hc (r : Rw) (o v : Int) : Int := cn (fun i => decide (fl r i 0 = o) && hds r i v) 0 (r 0)
def pcn (r : Rw) (v : Int) : Int := cn (fun i => decide (fl r i 3 = v)) 0 (r 0)
def tly (h : Hp) (r : Rw) : Prop := ∀ v, 1 ≤ v → v ≤ 250 → rd h 173 v = hc r 0 v ∧ rd h 174 v = hc r 1 v ∧ rd h 175 v = pcn r v
theorem p5_addOne {q : Nat} {x : Int} {h : Hp} {Q : Hp → Prop} (hx : 0 ≤ x ∧ x ≤ 250) (hr : 0 ≤ rd h q x ∧ rd h q x ≤ 1000) (hQ : Q (wr h q x (rd h q x + 1))) : mX5_addOne q 251 x h Q := by
  unfold mX5_addOne
  exact ⟨fun hc => by omega, fun _ => ⟨fun hc => by omega, fun _ => ⟨⟨by omega, by omega⟩, zri (by omega) (by omega), ⟨by omega, by omega⟩, fun h2 e => e ▸ hQ⟩⟩⟩
theorem nets_frame {h h' : Hp} {o : Nat} {r : Rw} (hn : nets h o r) (hf : ∀ p, o ≤ p → p ≤ o + 12 → h' p = h p) : nets h' o r := by
  obtain ⟨h1, h2, h3⟩ := hn
  refine ⟨?_, fun i i1 i2 => ?_, fun k k1 k2 => ?_⟩
  · rw [hf o (by omega) (by omega)]; exact h1
  · have := h2 i i1 i2
    unfold netH rd at *
    rw [hf (o + 1) (by omega) (by omega), hf (o + 2) (by omega) (by omega), hf (o + 3) (by omega) (by omega), hf (o + 4) (by omega) (by omega), hf (o + 5) (by omega) (by omega), hf (o + 6) (by omega) (by omega), hf (o + 7) (by omega) (by omega), hf (o + 8) (by omega) (by omega)]
    exact this
  · have := h3 k k1 k2
    unfold netR rd at *
    rw [hf (o + 9) (by omega) (by omega), hf (o + 10) (by omega) (by omega), hf (o + 11) (by omega) (by omega), hf (o + 12) (by omega) (by omega)]
    exact this
/-- the tally ahead of host i -/
def tlI (g : Hp) (r : Rw) (i : Int) : Prop := (∀ v, 1 ≤ v → v ≤ 250 → rd g 173 v + cn (fun i => decide (fl r i 0 = 0) && hds r i v) i (r 0) = hc r 0 v ∧ rd g 174 v + cn (fun i => decide (fl r i 0 = 1) && hds r i v) i (r 0) = hc r 1 v ∧ rd g 175 v + cn (fun i => decide (fl r i 3 = v)) i (r 0) = pcn r v) ∧ (∀ v, 0 ≤ v → v ≤ 250 → (0 ≤ rd g 173 v ∧ rd g 173 v ≤ 2 * i) ∧ (0 ≤ rd g 174 v ∧ rd g 174 v ≤ 2 * i) ∧ (0 ≤ rd g 175 v ∧ rd g 175 v ≤ 2 * i))
theorem p5_count {o : Nat} {h : Hp} {Q : Hp → Prop} {r : Rw} (hn : nets h o r) (ho : okW r) (hz : o < 160) (hQ : ∀ h', tly h' r → (∀ p, p ≠ 173 → p ≠ 174 → p ≠ 175 → h' p = h p) → Q h') : mX5_count o h Q := by
  unfold mX5_count
  have ho0 := ho.1
  unfold okR at ho0
  refine p7_fill (by omega) fun h23 a1 a2 => p7_fill (by omega) fun h24 b1 b2 => p7_fill (by omega) fun h25 c1 c2 => ?_
  obtain ⟨f, hf⟩ := forU (fun f i => ∀ g : Hp, tlI g r i → (∀ p, p ≠ 173 → p ≠ 174 → p ≠ 175 → g p = h p) → mX5_count_b26 o Q f i g) 0 (r 0) (by omega) (fun f g a1 a2 => by
      have hg : nets g o r := nets_frame hn (fun p p1 p2 => a2 p (by omega) (by omega) (by omega))
      have hn0 := hg.1
      unfold mX5_count_b26
      refine ⟨fun _ => hQ g (fun v v1 v2 => ?_) a2, fun hc => absurd (by omega) hc⟩
      have e := a1.1 v v1 v2
      rw [cn_end (Int.le_refl _), cn_end (Int.le_refl _), cn_end (Int.le_refl _)] at e
      omega) (fun f i h1 h2 ih g a1 a2 => by
      have hg : nets g o r := nets_frame hn (fun p p1 p2 => a2 p (by omega) (by omega) (by omega))
      have hn0 := hg.1
      have hH := hg.2.1 i h1 h2
      have hO := ho.2.2.2.2.1 i h1 h2
      have hk := kept_r hO (r 2)
      unfold okH at hO
      unfold netH at hH
      have hk2 : 0 ≤ kept r i ∧ kept r i ≤ 250 := hk
      -- one body for both offices
      have body : ∀ q : Nat, ((q = 173 ∧ fl r i 0 = 0) ∨ (q = 174 ∧ fl r i 0 = 1)) → mX5_count_b54 o Q (mX5_count_b26 o Q f) i q g := by
        intro q hq
        have hqo : ∀ k : Nat, k ≤ 12 → o + k ≠ q := by omega
        unfold mX5_count_b54
        refine p3_keptBy hg ho ⟨h1, h2⟩ ⟨⟨by omega, by omega⟩, ?_⟩
        rw [hH.2.2.1]
        have d0 := a1.2 0 (by omega) (by omega)
        have d1 := a1.2 (fl r i 1) (by omega) (by omega)
        have d2 := a1.2 (kept r i) (by omega) (by omega)
        have d3 := a1.2 (fl r i 3) (by omega) (by omega)
        refine p5_addOne ⟨by omega, by omega⟩ (by rcases hq with ⟨e, _⟩ | ⟨e, _⟩ <;> subst e <;> omega) ⟨⟨by omega, by omega⟩, ?_⟩
        rw [show rd (wr g q (fl r i 1) (rd g q (fl r i 1) + 1)) (o + 3) i = fl r i 1 by rw [rw_np (hqo 3 (by omega))]; exact hH.2.2.1]
        refine ⟨fun e => ?_, fun e => p5_addOne ⟨by omega, by omega⟩ ?_ ?_⟩
        · unfold mX5_count_b89
          refine ⟨⟨by omega, by omega⟩, ?_⟩
          rw [show rd (wr g q (fl r i 1) (rd g q (fl r i 1) + 1)) (o + 5) i = fl r i 3 by rw [rw_np (hqo 5 (by omega))]; exact hH.2.2.2.2.1]
          have hq5 : (175 : Nat) ≠ q := by omega
          refine p5_addOne ⟨by omega, by omega⟩ (by rw [rw_np hq5]; omega) ⟨zri (by omega) (by omega), ih _ ⟨fun v v1 v2 => ?_, fun v v1 v2 => ?_⟩ (fun p p1 p2 p3 => ?_)⟩
          · have f1 := a1.1 v v1 v2
            rw [cn_step h2, cn_step (p := fun i => decide (fl r i 0 = 1) && hds r i v) h2, cn_step (p := fun i => decide (fl r i 3 = v)) h2] at f1
            simp only [rw_if (show 0 ≤ fl r i 1 by omega) (show 0 ≤ v by omega), rw_if (show 0 ≤ fl r i 3 by omega) (show 0 ≤ v by omega), rw_np hq5]
            simp only [hds, e, Bool.and_eq_true, Bool.or_eq_true, decide_eq_true_eq] at f1 ⊢
            rcases hq with ⟨e1, e2⟩ | ⟨e1, e2⟩ <;> subst e1 <;> simp only [e2] at f1 <;> (split at f1 <;> split at f1 <;> split at f1 <;> simp_all <;> omega)
          · have f1 := a1.2 v v1 v2
            simp only [rw_if (show 0 ≤ fl r i 1 by omega) (show 0 ≤ v by omega), rw_if (show 0 ≤ fl r i 3 by omega) (show 0 ≤ v by omega), rw_np hq5]
            rcases hq with ⟨e1, e2⟩ | ⟨e1, e2⟩ <;> subst e1 <;> (refine ⟨?_, ?_, ?_⟩ <;> split <;> first | omega | (split <;> first | omega | (simp_all; omega)) | (simp_all; omega))
          · funext k
            rw [wr_np p3, wr_np (by omega), a2 p p1 p2 p3]
        · have hc1 : ¬ kept r i = fl r i 1 := e
          rw [rw_if (by omega) (by omega)]
          split
          · omega
          · rcases hq with ⟨e, _⟩ | ⟨e, _⟩ <;> subst e <;> omega
        · unfold mX5_count_b89
          refine ⟨⟨by omega, by omega⟩, ?_⟩
          have hq5 : (175 : Nat) ≠ q := by omega
          rw [rw_np (hqo 5 (by omega)), rw_np (hqo 5 (by omega)), hH.2.2.2.2.1]
          refine p5_addOne ⟨by omega, by omega⟩ (by rw [rw_np hq5, rw_np hq5]; omega) ⟨zri (by omega) (by omega), ih _ ⟨fun v v1 v2 => ?_, fun v v1 v2 => ?_⟩ (fun p p1 p2 p3 => ?_)⟩
          · have f1 := a1.1 v v1 v2
            rw [cn_step h2, cn_step (p := fun i => decide (fl r i 0 = 1) && hds r i v) h2, cn_step (p := fun i => decide (fl r i 3 = v)) h2] at f1
            simp only [rw_if (show 0 ≤ fl r i 1 by omega) (show 0 ≤ v by omega), rw_if (show 0 ≤ kept r i by omega) (show 0 ≤ v by omega), rw_if (show 0 ≤ fl r i 1 by omega) (show 0 ≤ kept r i by omega), rw_if (show 0 ≤ fl r i 3 by omega) (show 0 ≤ v by omega), rw_np hq5]
            simp only [hds, Bool.and_eq_true, Bool.or_eq_true, decide_eq_true_eq] at f1 ⊢
            rcases hq with ⟨e1, e2⟩ | ⟨e1, e2⟩ <;> subst e1 <;> simp only [e2] at f1 <;> (split at f1 <;> split at f1 <;> split at f1 <;> simp_all <;> (try split) <;> (try simp_all) <;> (try split) <;> (try simp_all) <;> omega)
          · have f1 := a1.2 v v1 v2
            simp only [rw_if (show 0 ≤ fl r i 1 by omega) (show 0 ≤ v by omega), rw_if (show 0 ≤ kept r i by omega) (show 0 ≤ v by omega), rw_if (show 0 ≤ fl r i 1 by omega) (show 0 ≤ kept r i by omega), rw_if (show 0 ≤ fl r i 3 by omega) (show 0 ≤ v by omega), rw_np hq5]
            rcases hq with ⟨e1, e2⟩ | ⟨e1, e2⟩ <;> subst e1 <;> (refine ⟨?_, ?_, ?_⟩ <;> (repeat' split) <;> first | omega | (simp_all; omega))
          · funext k
            rw [wr_np p3, wr_np (by omega), wr_np (by omega), a2 p p1 p2 p3]
      unfold mX5_count_b26
      refine ⟨fun hc => by omega, fun _ => ⟨⟨by omega, by omega⟩, ?_⟩⟩
      rw [hH.2.1]
      exact ⟨fun hc => body 174 (Or.inr ⟨rfl, by omega⟩), fun hc => body 173 (Or.inl ⟨rfl, hc⟩)⟩)
  refine ⟨f, hf h25 ⟨fun v v1 v2 => ?_, fun v v1 v2 => ?_⟩ (fun p p1 p2 p3 => by rw [c2 p p3, b2 p p2, a2 p p1])⟩
  · rw [show rd h25 173 v = 0 by unfold rd; rw [c2 173 (by omega), b2 173 (by omega)]; exact a1 v (by omega) (by omega), show rd h25 174 v = 0 by unfold rd; rw [c2 174 (by omega)]; exact b1 v (by omega) (by omega), c1 v (by omega) (by omega)]
    unfold hc pcn
    omega
  · rw [show rd h25 173 v = 0 by unfold rd; rw [c2 173 (by omega), b2 173 (by omega)]; exact a1 v (by omega) (by omega), show rd h25 174 v = 0 by unfold rd; rw [c2 174 (by omega)]; exact b1 v (by omega) (by omega), c1 v (by omega) (by omega)]
    omega
theorem hc_pos {r : Rw} {o v : Int} : 0 < hc r o v ↔ ¬ hold r o v = -1 := by
  unfold hc hold
  rw [cn_pos]
  rcases fs_spec (fun i => decide (fl r i 0 = o) && hds r i v) 0 (r 0) with ⟨e, hh⟩ | ⟨e1, e2, e3, e4⟩
  · rw [e]
    constructor
    · rintro ⟨i, i1, i2, i3⟩
      rw [hh i i1 i2] at i3
      cases i3
    · intro w; exact absurd rfl w
  · exact ⟨fun _ => by omega, fun _ => ⟨_, e1, e2, e3⟩⟩
theorem clash_hc {r : Rw} {v : Int} : clash r v = (decide (0 < hc r 0 v) && decide (0 < hc r 1 v)) := by
  unfold clash
  simp only [hc_pos]
theorem p5_isClash {x : Int} {h : Hp} {Q : Int → Prop} {r : Rw} (ht : tly h r) (hQ : Q (b2i (decide (1 ≤ x) && (decide (x ≤ 250) && clash r x)))) : mX5_isClash x h Q := by
  unfold mX5_isClash
  rw [clash_hc] at hQ
  refine ⟨fun h1 => ?_, fun h1 => ⟨fun h2 => ?_, fun h2 => ?_⟩⟩
  · rw [decide_eq_false (by omega), Bool.false_and] at hQ; exact hQ
  · rw [decide_eq_false (by omega : ¬ x ≤ 250), Bool.false_and, Bool.and_false] at hQ; exact hQ
  · have e := ht x (by omega) (by omega)
    rw [decide_eq_true (by omega : 1 ≤ x), decide_eq_true (by omega : x ≤ 250), Bool.true_and, Bool.true_and] at hQ
    rw [e.1, e.2.1]
    refine ⟨⟨by omega, by omega⟩, fun h3 => ?_, fun h3 => ⟨⟨by omega, by omega⟩, fun h4 => ?_, fun h4 => ?_⟩⟩
    · rw [decide_eq_false (by omega), Bool.false_and] at hQ; exact hQ
    · rw [decide_eq_false (by omega : ¬ 0 < hc r 1 x), Bool.and_false] at hQ; exact hQ
    · rw [decide_eq_true (by omega), decide_eq_true (by omega : 0 < hc r 1 x)] at hQ; exact hQ
theorem p5_isClash1 {x : Int} {h : Hp} {Q : Int → Prop} {r : Rw} (ht : tly h r) (hx : 1 ≤ x ∧ x ≤ 250) (hQ : Q (b2i (clash r x))) : mX5_isClash x h Q := by
  refine p5_isClash ht ?_
  rw [decide_eq_true hx.1, decide_eq_true hx.2, Bool.true_and, Bool.true_and]
  exact hQ
theorem p5_clashes {h : Hp} {Q : Int → Prop} {r : Rw} (ht : tly h r) (hQ : Q (cn (clash r) 1 251)) : mX5_clashes h Q := by
  unfold mX5_clashes
  obtain ⟨f, hf⟩ := forU (fun f i => ∀ s, 0 ≤ s → s ≤ i → Q (s + cn (clash r) i 251) → mX5_clashes_b4 h Q f s i) 1 251 (by omega) (fun f s _ _ hq => by
      unfold mX5_clashes_b4 mX5_clashes_b25
      rw [cn_end (Int.le_refl _), Int.add_zero] at hq
      (repeat' (first
          | (refine p5_isClash1 ht ⟨by omega, by omega⟩ ?_)
          | (refine ⟨⟨by omega, by omega⟩, ?_⟩)
          | (refine ⟨zri (by omega) (by omega), ?_⟩)
          | (refine ⟨fun _ => ?_, fun _ => ?_⟩)
          | fail))
      all_goals first | (exfalso; omega) | (exact hq)) (fun f i h1 h2 ih s s0 s1 hq => by

      unfold mX5_clashes_b4 mX5_clashes_b25
      (repeat' (first
          | (refine p5_isClash1 ht ⟨by omega, by omega⟩ ?_)
          | (refine ⟨⟨by omega, by omega⟩, ?_⟩)
          | (refine ⟨zri (by omega) (by omega), ?_⟩)
          | (refine ⟨fun _ => ?_, fun _ => ?_⟩)
          | fail))
      all_goals first | (exfalso; omega) | (refine ih (s + 0) (by omega) (by omega) ?_; rw [cn_skip h2 (by first | (simp_all [b2i0, b2i1]; done) | (simp_all [b2i0, b2i1]; omega) | (grind [b2i0, b2i1])), ← Int.add_assoc] at hq; exact hq) | (refine ih (s + 1) (by omega) (by omega) ?_; rw [cn_hit h2 (by first | (simp_all [b2i0, b2i1]; done) | (simp_all [b2i0, b2i1]; omega) | (grind [b2i0, b2i1])), ← Int.add_assoc] at hq; exact hq) | (refine ih s (by omega) (by omega) ?_; rw [cn_skip h2 (by first | (simp_all [b2i0, b2i1]; done) | (simp_all [b2i0, b2i1]; omega) | (grind [b2i0, b2i1])), Int.zero_add] at hq; exact hq))
  exact ⟨f, hf 0 (by omega) (by omega) (by rw [Int.zero_add]; exact hQ)⟩
theorem clash_n {r : Rw} : clashes r = cn (clash r) 1 251 := rfl
def fre5 (r : Rw) (v : Int) : Bool := decide (hc r 0 v = 0) && (decide (hc r 1 v = 0) && decide (pcn r v = 0))
theorem p5_smallestFree {a b : Int} {h : Hp} {Q : Int → Prop} {r : Rw} (ht : tly h r) (ha : 1 ≤ a) (hb : b ≤ 250) (hQ : Q (if fs (fre5 r) a (b + 1) = -1 then 0 else fs (fre5 r) a (b + 1))) : mX5_smallestFree a b h Q := by
  unfold mX5_smallestFree
  rw [Int.max_eq_right ha]
  by_cases hab : b + 1 < a
  · rw [fs_end (by omega)] at hQ
    exact ⟨1, by unfold mX5_smallestFree_b6; exact ⟨fun _ => hQ, fun hc => absurd (by omega) hc⟩⟩
  obtain ⟨f, hf⟩ := forU (fun f i => Q (if fs (fre5 r) i (b + 1) = -1 then 0 else fs (fre5 r) i (b + 1)) → mX5_smallestFree_b6 h Q f b i) a (b + 1) (by omega) (fun f hq => by
      unfold mX5_smallestFree_b6
      rw [fs_end (Int.le_refl _)] at hq
      exact ⟨fun _ => hq, fun hc => absurd (by omega) hc⟩) (fun f i h1 h2 ih hq => by
      obtain ⟨v1, v2, v3⟩ := ht i (by omega) (by omega)
      unfold mX5_smallestFree_b6 mX5_smallestFree_b47
      rw [v1, v2, v3]
      have hit : fre5 r i = true → Q i := fun hp => by
        rw [fs_hit h2 hp, if_neg (by omega)] at hq
        exact hq
      have skip : fre5 r i = false → zr (i + 1) ∧ mX5_smallestFree_b6 h Q f b (i + 1) := fun hp => by
        rw [fs_skip h2 hp] at hq
        exact ⟨zri (by omega) (by omega), ih hq⟩
      unfold fre5 at hit skip
      refine ⟨fun hc => by omega, fun _ => ⟨fun hc => by omega, fun _ => ⟨⟨by omega, by omega⟩, fun c1 => skip ?_, fun c1 => ⟨⟨by omega, by omega⟩, fun c2 => skip ?_, fun c2 => ⟨⟨by omega, by omega⟩, fun c3 => skip ?_, fun c3 => hit ?_⟩⟩⟩⟩⟩
      · rw [decide_eq_false c1, Bool.false_and]
      · rw [decide_eq_false c2, Bool.false_and, Bool.and_false]
      · rw [decide_eq_false c3, Bool.and_false, Bool.and_false]
      · rw [decide_eq_true c1, decide_eq_true c2, decide_eq_true c3]; rfl)
  exact ⟨f, hf hQ⟩
theorem fs_ne {p : Int → Bool} {a b : Int} (ha : 0 ≤ a) : ¬ fs p a b = -1 ↔ ∃ i, a ≤ i ∧ i < b ∧ p i = true := by
  rcases fs_spec p a b with ⟨e, hh⟩ | ⟨e1, e2, e3, e4⟩
  · rw [e]
    constructor
    · intro w; exact absurd rfl w
    · rintro ⟨i, i1, i2, i3⟩
      rw [hh i i1 i2] at i3
      cases i3
  · exact ⟨fun _ => ⟨_, e1, e2, e3⟩, fun _ => by omega⟩
theorem pair_iff {r : Rw} {v : Int} : pair r v = true ↔ ∃ j i, 0 ≤ j ∧ j < i ∧ i < r 0 ∧ net r i j = true ∧ hds r i v = true ∧ hds r j v = true := by
  unfold pair
  rw [decide_eq_true_iff, fs_ne (Int.le_refl 0)]
  constructor
  · rintro ⟨i, i1, i2, i3⟩
    rw [Bool.and_eq_true] at i3
    have h2 := i3.2
    unfold pair0 at h2
    rw [decide_eq_true_iff, fs_ne (Int.le_refl 0)] at h2
    obtain ⟨j, j1, j2, j3⟩ := h2
    rw [Bool.and_eq_true] at j3
    exact ⟨j, i, j1, j2, i2, j3.1, i3.1, j3.2⟩
  · rintro ⟨j, i, j1, j2, i2, h1, h2, h3⟩
    refine ⟨i, by omega, i2, ?_⟩
    rw [Bool.and_eq_true]
    refine ⟨h2, ?_⟩
    unfold pair0
    rw [decide_eq_true_iff, fs_ne (Int.le_refl 0)]
    exact ⟨j, j1, j2, by rw [Bool.and_eq_true]; exact ⟨h1, h3⟩⟩
theorem pair_hc {r : Rw} (ho : okW r) {v : Int} : pair r v = (decide (1 < hc r 0 v) || (decide (1 < hc r 1 v) || (decide (r 7 = 1) && clash r v))) := by
  rw [Bool.eq_iff_iff, pair_iff, clash_hc]
  simp only [Bool.or_eq_true, Bool.and_eq_true, decide_eq_true_eq]
  unfold hc
  rw [cn_two, cn_two, cn_pos, cn_pos]
  constructor
  · rintro ⟨j, i, j1, j2, i2, h1, h2, h3⟩
    have oi := (ho.2.2.2.2.1 i (by omega) i2).1
    have oj := (ho.2.2.2.2.1 j (by omega) (by omega)).1
    unfold net at h1
    simp only [Bool.or_eq_true, decide_eq_true_eq] at h1
    by_cases e : fl r i 0 = fl r j 0
    · rcases oi with o1 | o1
      · exact Or.inl ⟨j, i, j1, j2, i2, by simp only [Bool.and_eq_true, decide_eq_true_eq]; exact ⟨by omega, h3⟩, by simp only [Bool.and_eq_true, decide_eq_true_eq]; exact ⟨by omega, h2⟩⟩
      · exact Or.inr (Or.inl ⟨j, i, j1, j2, i2, by simp only [Bool.and_eq_true, decide_eq_true_eq]; exact ⟨by omega, h3⟩, by simp only [Bool.and_eq_true, decide_eq_true_eq]; exact ⟨by omega, h2⟩⟩)
    · refine Or.inr (Or.inr ⟨by omega, ?_⟩)
      rcases oi with o1 | o1
      · exact ⟨⟨i, by omega, i2, by simp only [Bool.and_eq_true, decide_eq_true_eq]; exact ⟨o1, h2⟩⟩, ⟨j, j1, by omega, by simp only [Bool.and_eq_true, decide_eq_true_eq]; exact ⟨by omega, h3⟩⟩⟩
      · exact ⟨⟨j, j1, by omega, by simp only [Bool.and_eq_true, decide_eq_true_eq]; exact ⟨by omega, h3⟩⟩, ⟨i, by omega, i2, by simp only [Bool.and_eq_true, decide_eq_true_eq]; exact ⟨o1, h2⟩⟩⟩
  · rintro (⟨j, i, j1, j2, i2, h1, h2⟩ | ⟨j, i, j1, j2, i2, h1, h2⟩ | ⟨e, ⟨i, i1, i2, h1⟩, ⟨j, j1, j2, h2⟩⟩)
    · simp only [Bool.and_eq_true, decide_eq_true_eq] at h1 h2
      exact ⟨j, i, j1, j2, i2, by unfold net; simp only [Bool.or_eq_true, decide_eq_true_eq]; omega, h2.2, h1.2⟩
    · simp only [Bool.and_eq_true, decide_eq_true_eq] at h1 h2
      exact ⟨j, i, j1, j2, i2, by unfold net; simp only [Bool.or_eq_true, decide_eq_true_eq]; omega, h2.2, h1.2⟩
    · simp only [Bool.and_eq_true, decide_eq_true_eq] at h1 h2
      rcases Int.lt_trichotomy i j with c | c | c
      · exact ⟨i, j, i1, c, j2, by unfold net; simp only [Bool.or_eq_true, decide_eq_true_eq]; omega, h2.2, h1.2⟩
      · subst c; omega
      · exact ⟨j, i, j1, c, i2, by unfold net; simp only [Bool.or_eq_true, decide_eq_true_eq]; omega, h1.2, h2.2⟩
theorem p5_smallestTwice {x : Int} {h : Hp} {Q : Int → Prop} {r : Rw} (ht : tly h r) (ho : okW r) (hx : x = r 7) (hQ : Q (if twice r = -1 then 0 else twice r)) : mX5_smallestTwice x h Q := by
  unfold mX5_smallestTwice
  unfold twice at hQ
  have h7 := ho.2.2.2.1
  obtain ⟨f, hf⟩ := forU (fun f i => Q (if fs (pair r) i 251 = -1 then 0 else fs (pair r) i 251) → mX5_smallestTwice_b2 h Q f x i) 1 251 (by omega) (fun f hq => by
      unfold mX5_smallestTwice_b2
      rw [fs_end (Int.le_refl _)] at hq
      exact ⟨fun _ => hq, fun hc => absurd (by omega) hc⟩) (fun f i h1 h2 ih hq => by
      have e := ht i h1 (by omega)
      unfold mX5_smallestTwice_b2 mX5_smallestTwice_b43
      rw [e.1, e.2.1]
      have hit : pair r i = true → Q i := fun hp => by
        rw [fs_hit h2 hp, if_neg (by omega)] at hq
        exact hq
      have skip : pair r i = false → mX5_smallestTwice_b2 h Q f x (i + 1) := fun hp => by
        rw [fs_skip h2 hp] at hq
        exact ih hq
      rw [pair_hc ho] at hit skip
      refine ⟨fun hc => by omega, fun _ => ⟨⟨by omega, by omega⟩, fun c1 => hit ?_, fun c1 => ⟨⟨by omega, by omega⟩, fun c2 => hit ?_, fun c2 => ⟨fun c3 => ⟨zri (by omega) (by omega), skip ?_⟩, fun c3 => p5_isClash1 ht ⟨by omega, by omega⟩ ⟨fun c4 => ⟨zri (by omega) (by omega), skip ?_⟩, fun c4 => hit ?_⟩⟩⟩⟩⟩
      · rw [decide_eq_true c1, Bool.true_or]
      · rw [decide_eq_true c2, Bool.true_or, Bool.or_true]
      · rw [decide_eq_false c1, decide_eq_false c2, decide_eq_false (by omega : ¬ r 7 = 1)]; rfl
      · rw [decide_eq_false c1, decide_eq_false c2, b2i0.mp c4, Bool.and_false]; rfl
      · rw [decide_eq_true (by omega : r 7 = 1), b2i1.mp c4, Bool.and_true, Bool.or_true, Bool.or_true])
  exact ⟨f, hf hQ⟩

