/-! the reference reads a query: joins, brackets, the whole -/
section SIN
variable {b : Int → Int} {n : Int} {Q : Hp → Prop} {h0 : Hp}
/-- nothing joins here: the reading ends -/
theorem jn_end {s : Int} {h : Hp} {fu : Nat} {W : List Int} {L' Lr : List It} {o a : Bool} (he : eT b n) (h2 : n ≤ 200) (hs : RSt h b n s (W ++ Pw o a) Lr) (hf : frM h0 h) (hfu : 0 < fu) (n3 : isW b n s 23 = false) (n4 : isW b n s 24 = false) (hw : baseW W) (eL : L' = Lr ++ oA a ++ oO o) (hy : W = [] → kd b n s = 0 → ∀ h', h' 185 16 = 0 → cod h' (cM L') → frM h0 h' → Q h') (hx : (W = [] → ¬ kd b n s = 0) → noQ Q h0 1 s) : JN Q fu h := by
  obtain ⟨ht, hg, ⟨hwt, cc, op⟩, rm, s0, s1⟩ := id hs
  obtain ⟨f, rfl⟩ : ∃ f, fu = f + 1 := ⟨fu - 1, by omega⟩
  have ll : (W ++ Pw o a).length ≤ 200 := by omega
  unfold JN
  refine p8_isWord cdws.2.2.2.2.2.2.2.2.2.2.2.2.2.2.2.2.2.2.2.2.2.2.2.1.symm (by omega) hg ht s0 s1 he ⟨fun _ => ?_, fun w => absurd w (by rw [n3]; decide)⟩
  refine p8_isWord cdws.2.2.2.2.2.2.2.2.2.2.2.2.2.2.2.2.2.2.2.2.2.2.2.2.symm (by omega) hg ht s0 s1 he ⟨fun _ => ?_, fun w => absurd w (by rw [n4]; decide)⟩
  unfold mX8_reads_b71 mX8_reads_b81
  refine ⟨fun _ => ⟨fun w => absurd rfl w, fun _ => ?_⟩, fun w => absurd rfl w⟩
  unfold mX8_reads_b20
  refine ⟨fun _ => p8_good1 hg ⟨fun w => absurd w (by decide), fun _ => ?_⟩, fun w => absurd rfl w⟩
  have bad : (W = [] → ¬ kd b n s = 0) → mX8_reads_b145 Q h := fun hc => by
    unfold mX8_reads_b145 mX8_reads_b151 mX8_settles
    refine p8_wrongs hg fun x a1 a2 a3 a4 => ⟨1, st_0 (by rw [a1]; decide) ?_⟩
    exact hx hc x a1 (a2.trans ht.2.2.2.1) (frM_tr hf (frV_M (frE_V (frE_w (by rw [a1]; decide) a3 a4))))
  rcases hw with w | ⟨V, w⟩
  · refine in_no ll hwt (fun z hz => ?_) ⟨fun q => absurd rfl q, fun _ => ?_⟩
    · rw [w] at hz
      unfold Pw at hz
      cases o <;> cases a <;> simp at hz <;> omega
    · rw [ht.2.2.1]
      refine ⟨fun k => ?_, fun k => bad fun _ => k⟩
      unfold mX8_reads_b151 mX8_settles
      refine st_all h2 (Or.inl w) hs fun h' hs' hf' => hy w k h' hs'.2.1 ?_ (frM_tr hf hf')
      rw [eL]
      exact hs'.2.2.1.2.1
  · have hne : ¬ W = [] := fun q => by
      rw [q] at w
      have := congrArg List.length w
      simp at this
    refine in_yes (j := V.length) ll hwt ?_ ⟨fun _ => bad fun q => absurd q hne, fun q => absurd q (by decide)⟩
    rw [w, List.append_assoc, List.getElem?_append_right (Nat.le_refl _), Nat.sub_self]
    rfl
/-- at the end of the whole text -/
theorem y_top {s : Int} {L' : List It} (he : eT b n) (h2 : n ≤ 200) (n3 : isW b n s 23 = false) (n4 : isW b n s 24 = false) (hy : kd b n s = 0 → ∀ h', h' 185 16 = 0 → cod h' (cM L') → frM h0 h' → Q h') (hx : ¬ kd b n s = 0 → noQ Q h0 1 s) : Tst Q b n h0 s [] L' := by
  intro o a Lr eL h f5 fu G hs hf hf5 hfu hG
  obtain ⟨ht, hg, ⟨hwt, cc, op⟩, rm, s0, s1⟩ := id hs
  refine st_stop h2 hs (Pw_stop (Or.inl rfl)) (hG h ?_)
  obtain ⟨f, rfl⟩ : ∃ f, f5 = f + 1 := ⟨f5 - 1, by omega⟩
  have e : JN Q fu h := jn_end he h2 hs hf (by omega) n3 n4 (Or.inl rfl) eL (fun _ k => hy k) (fun k => hx (k rfl))
  unfold mX8_closes_b5
  refine p8_isByte hg he ht s0 s1 ⟨fun _ => e, fun _ => in_no (by omega) hwt (fun z hz => ?_) ⟨fun _ => e, fun q => absurd rfl q⟩⟩
  unfold Pw at hz
  cases o <;> cases a <;> simp at hz <;> omega
/-- at the end of a test in brackets -/
theorem y_paren {s : Int} {V : List Int} {L' : List It} (he : eT b n) (h2 : n ≤ 200) (n3 : isW b n s 23 = false) (n4 : isW b n s 24 = false) (hy : isG b n s 41 = true → Bst Q b n h0 (nx b n s) V L') (hx : isG b n s 41 = false → noQ Q h0 1 s) : Tst Q b n h0 s (V ++ [1]) L' := by
  intro o a Lr eL h f5 fu G hs hf hf5 hfu hG
  obtain ⟨ht, hg, ⟨hwt, cc, op⟩, rm, s0, s1⟩ := id hs
  have hb : baseW (V ++ [1]) := Or.inr ⟨V, rfl⟩
  refine st_stop h2 hs (Pw_stop hb) (hG h ?_)
  obtain ⟨f, rfl⟩ : ∃ f, f5 = f + 1 := ⟨f5 - 1, by omega⟩
  unfold mX8_closes_b5
  refine p8_isByte hg he ht s0 s1 ⟨fun q => ?_, fun q => ?_⟩
  · exact jn_end he h2 hs hf (by omega) n3 n4 hb eL (fun w => by have := congrArg List.length w; simp at this) (fun _ => hx (b2i0.mp q))
  · have q' := b2i1.mp q
    have l1 := nx_lt (b := b) s0 (kd_lt (b := b) (by rw [isG_kd q']; decide))
    have a1 := nx_r (b := b) s0 s1
    refine in_yes (j := V.length) (by omega) hwt (by rw [List.append_assoc, List.getElem?_append_right (Nat.le_refl _), Nat.sub_self]; rfl) ⟨fun w => absurd w (by decide), fun _ => ?_⟩
    unfold mX8_settles
    refine st_all h2 hb hs fun g hs' hf' => ?_
    obtain ⟨tg, gg, ⟨⟨w1, w2⟩, gc, go⟩, rg, -, -⟩ := hs'
    rw [List.length_append] at w1 rg
    have e1 : ([1] : List Int).length = 1 := rfl
    have o1' : opn (V ++ [1]) = opn V + 1 := by rw [opn_app]; rfl
    have ov : 0 ≤ opn V := by unfold opn; omega
    have ov2 : opn V ≤ V.length := by unfold opn; exact Int.ofNat_le.mpr List.countP_le_length
    refine ⟨zri (by omega) (by omega), fun x ex => ?_⟩
    have x28 : x 185 28 = opn V + 1 := by rw [ex, hu_ne (by omega), go, o1']
    refine ⟨zri (by omega) (by omega), fun y ey => ?_⟩
    have yk : ∀ k, k ≠ 27 → k ≠ 28 → y 185 k = g 185 k := fun k k1 k2 => by rw [ey, hu_ne (by omega), ex, hu_ne (by omega)]
    have yf : ∀ p, p ≠ 185 → y p = g p := fun p hp => by rw [ey, hu_q hp, ex, hu_q hp]
    have y27 : y 185 27 = (V.length : Int) := by rw [ey, hu_ne (by omega), ex, hu_same]; omega
    have y28 : y 185 28 = opn V := by rw [ey, hu_same, x28]; omega
    have Fy : frM h0 y := frM_tr hf (frM_tr hf' (frM_k (fun k _ k2 k3 => yk k k2 k3) (fun p p1 _ _ => yf p p1)))
    refine p8_next he (tkM_fr tg (fun k k1 k2 => yk k (by omega) (by omega)) (yf 191 (by omega))) s0 s1 fun u tu ku fu' => ?_
    have Ru : RSt u b n (nx b n s) V L' := by
      refine ⟨tu, by rw [ku 16 (by omega), yk 16 (by omega) (by omega)]; exact gg, ⟨⟨by rw [ku 27 (by omega), y27], fun i z hz => ?_⟩, ?_, by rw [ku 28 (by omega), y28]⟩, ?_, by omega, a1.2⟩
      · rw [fu' 195 (by omega), yf 195 (by omega)]
        refine w2 i z ?_
        have hi : i < V.length := by
          by_cases hi : i < V.length
          · exact hi
          · rw [List.getElem?_eq_none (by omega)] at hz; cases hz
        rw [List.getElem?_append_left hi]; exact hz
      · rw [eL]
        exact cod_f gc (by rw [ku 26 (by omega), yk 26 (by omega) (by omega)]) (by rw [fu' 194 (by omega), yf 194 (by omega)])
      · rw [eL]
        omega
    exact ⟨_, hy q' u f fu _ Ru (frM_tr Fy (frV_M (frE_V (frE_ke ku fu')))) (by omega) (by omega) fun h' w => w⟩
theorem pLoop_stop {F : Int → List It → QR} (hF : ∀ s L, 0 ≤ s → s ≤ n → okP1 n s L (F s L)) : ∀ (m : Nat) (o : Bool) (s : Int) (L : List It), 0 ≤ s → s ≤ n → n ≤ s + m → (pLoop b n F m o s L).1 = 0 → isW b n (pLoop b n F m o s L).2.1 23 = false ∧ isW b n (pLoop b n F m o s L).2.1 24 = false := by
  intro m
  induction m with
  | zero =>
    intro o s L s0 s1 hm _
    have k0 : kd b n s = 0 := kd_0.mpr (by omega)
    have z : ∀ w, isW b n s w = false := fun w => by
      unfold isW
      rw [k0]
      rfl
    exact ⟨z 23, z 24⟩
  | succ m ih =>
    intro o s L s0 s1 hm
    have a1 := nx_r (b := b) s0 s1
    unfold pLoop
    by_cases c : isW b n s 23 = true
    · rw [if_pos c]
      have l1 := nx_lt (b := b) s0 (kd_lt (b := b) (by rw [isW_kd c]; decide))
      obtain ⟨f1, f2, f3⟩ := hF (nx b n s) L (by omega) a1.2
      by_cases e : (F (nx b n s) L).1 = 0
      · rw [qb_0 e]
        have := f3 e
        exact ih o _ _ (by omega) f1.2 (by omega)
      · rw [qb_n e]
        exact fun w => absurd w e
    · rw [if_neg c]
      by_cases c2 : isW b n s 24 = true
      · rw [if_pos c2]
        have l1 := nx_lt (b := b) s0 (kd_lt (b := b) (by rw [isW_kd c2]; decide))
        obtain ⟨f1, f2, f3⟩ := hF (nx b n s) (L ++ oO o) (by omega) a1.2
        by_cases e : (F (nx b n s) (L ++ oO o)).1 = 0
        · rw [qb_0 e]
          have := f3 e
          exact ih true _ _ (by omega) f1.2 (by omega)
        · rw [qb_n e]
          exact fun w => absurd w e
      · rw [if_neg c2]
        exact fun _ => ⟨by simpa using c, by simpa using c2⟩
theorem pQ_stop {f : Nat} {d s : Int} {L : List It} (h2 : n ≤ 200) (s0 : 0 ≤ s) (s1 : s ≤ n) (e : (pQ b n f true d s L).1 = 0) : isW b n (pQ b n f true d s L).2.1 23 = false ∧ isW b n (pQ b n f true d s L).2.1 24 = false := by
  cases f with
  | zero => exact absurd e (by show ¬ (1 : Int) = 0; decide)
  | succ f =>
    unfold pQ at e ⊢
    obtain ⟨f1, f2, f3⟩ := pQ_r (b := b) (n := n) f false d s L s0 s1
    by_cases c : (pQ b n f false d s L).1 = 0
    · rw [qb_0 c] at e ⊢
      exact pLoop_stop (F := pQ b n f false d) (fun s L q1 q2 => pQ_r f false d s L q1 q2) 200 false _ _ (by omega) f1.2 (by have := f1.1; omega) e
    · rw [qb_n c] at e
      exact absurd e c
theorem y_loop {F : Int → List It → QR} {W : List Int} (he : eT b n) (h2 : n ≤ 200) (hw : baseW W) (hF : ∀ s L, 0 ≤ s → s ≤ n → okP1 n s L (F s L)) (hA : ∀ (s : Int) (V : List Int) (L : List It), 0 ≤ s → s ≤ n → opn V = opn W → ((F s L).1 = 0 → Bst Q b n h0 (F s L).2.1 V (F s L).2.2) → (¬ (F s L).1 = 0 → noQ Q h0 (F s L).1 (F s L).2.1) → Ast Q b n h0 s V L) : ∀ (m : Nat) (o a : Bool) (s : Int) (Lr : List It), 0 ≤ s → s ≤ n → ((pLoop b n F m o s (Lr ++ oA a)).1 = 0 → Tst Q b n h0 (pLoop b n F m o s (Lr ++ oA a)).2.1 W (pLoop b n F m o s (Lr ++ oA a)).2.2) → (¬ (pLoop b n F m o s (Lr ++ oA a)).1 = 0 → noQ Q h0 (pLoop b n F m o s (Lr ++ oA a)).1 (pLoop b n F m o s (Lr ++ oA a)).2.1) → Bst Q b n h0 s (W ++ Pw o a) Lr := by
  intro m
  induction m with
  | zero =>
    intro o a s Lr s0 s1 hy hx
    exact hy rfl o a Lr rfl
  | succ m ih =>
    intro o a s Lr s0 s1 hy hx
    have a1 := nx_r (b := b) s0 s1
    unfold pLoop at hy hx
    by_cases c : isW b n s 23 = true
    · rw [if_pos c] at hy hx
      have l1 := nx_lt (b := b) s0 (kd_lt (b := b) (by rw [isW_kd c]; decide))
      intro h f5 fu G hs hf hf5 hfu hG
      obtain ⟨ht, hg, ⟨hwt, cc, op⟩, rm, -, -⟩ := id hs
      refine st_stop h2 hs (Pw_stop hw) (hG h ?_)
      obtain ⟨f, rfl⟩ : ∃ f, f5 = f + 1 := ⟨f5 - 1, by omega⟩
      obtain ⟨g, rfl⟩ : ∃ g, fu = g + 1 := ⟨fu - 1, by omega⟩
      unfold mX8_closes_b5
      refine p8_isByte hg he ht s0 s1 ⟨fun _ => ?_, fun q => absurd q (by rw [isG_W c]; decide)⟩
      unfold JN
      refine p8_isWord cdws.2.2.2.2.2.2.2.2.2.2.2.2.2.2.2.2.2.2.2.2.2.2.2.1.symm (by omega) hg ht s0 s1 he ⟨fun q => absurd q (by rw [c]; decide), fun _ => ?_⟩
      unfold mX8_reads_b71 mX8_reads_b81
      refine ⟨fun q => absurd q (by decide), fun _ => ⟨fun _ => p8_strength ?_, fun q => absurd q (by decide)⟩⟩
      show mX8_settles 2 h _
      unfold mX8_settles
      refine st_and h2 hw hs fun u hu' fu' => p_push he h2 hu' (by omega) (Or.inl rfl) fun v hv fv => ?_
      rw [Pw_t] at hv
      unfold mX8_reads_b20
      refine ⟨fun q => absurd q (by decide), fun _ => ?_⟩
      unfold mX8_comparisonRead
      refine ⟨(n - nx b n s).toNat + 1, ?_⟩
      refine hA (nx b n s) (W ++ Pw o true) (Lr ++ oA a) (by omega) a1.2 Pw_opn (fun e => ?_) (fun e => ?_) v _ g hv (frM_tr hf (frM_tr fu' fv)) (by omega) (by omega)
      · obtain ⟨f1, f2, f3⟩ := hF (nx b n s) (Lr ++ oA a) (by omega) a1.2
        rw [qb_0 e] at hy hx
        exact ih o true _ _ (by omega) f1.2 hy hx
      · rw [qb_n e] at hx
        exact hx e
    · rw [if_neg c] at hy hx
      by_cases c2 : isW b n s 24 = true
      · rw [if_pos c2] at hy hx
        have l1 := nx_lt (b := b) s0 (kd_lt (b := b) (by rw [isW_kd c2]; decide))
        intro h f5 fu G hs hf hf5 hfu hG
        obtain ⟨ht, hg, ⟨hwt, cc, op⟩, rm, -, -⟩ := id hs
        refine st_stop h2 hs (Pw_stop hw) (hG h ?_)
        obtain ⟨f, rfl⟩ : ∃ f, f5 = f + 1 := ⟨f5 - 1, by omega⟩
        obtain ⟨g, rfl⟩ : ∃ g, fu = g + 1 := ⟨fu - 1, by omega⟩
        unfold mX8_closes_b5
        refine p8_isByte hg he ht s0 s1 ⟨fun _ => ?_, fun q => absurd q (by rw [isG_W c2]; decide)⟩
        unfold JN
        refine p8_isWord cdws.2.2.2.2.2.2.2.2.2.2.2.2.2.2.2.2.2.2.2.2.2.2.2.1.symm (by omega) hg ht s0 s1 he ⟨fun _ => ?_, fun q => absurd (b2i1.mp q) c⟩
        refine p8_isWord cdws.2.2.2.2.2.2.2.2.2.2.2.2.2.2.2.2.2.2.2.2.2.2.2.2.symm (by omega) hg ht s0 s1 he ⟨fun q => absurd q (by rw [c2]; decide), fun _ => ?_⟩
        unfold mX8_reads_b71 mX8_reads_b81
        refine ⟨fun q => absurd q (by decide), fun _ => ⟨fun _ => p8_strength ?_, fun q => absurd q (by decide)⟩⟩
        show mX8_settles 1 h _
        unfold mX8_settles
        refine st_all h2 hw hs fun u hu' fu' => p_push he h2 hu' (by omega) (Or.inr rfl) fun v hv fv => ?_
        rw [Pw_o] at hv
        unfold mX8_reads_b20
        refine ⟨fun q => absurd q (by decide), fun _ => ?_⟩
        unfold mX8_comparisonRead
        refine ⟨(n - nx b n s).toNat + 1, ?_⟩
        refine hA (nx b n s) (W ++ Pw true false) (Lr ++ oA a ++ oO o) (by omega) a1.2 Pw_opn (fun e => ?_) (fun e => ?_) v _ g hv (frM_tr hf (frM_tr fu' fv)) (by omega) (by omega)
        · obtain ⟨f1, f2, f3⟩ := hF (nx b n s) (Lr ++ oA a ++ oO o) (by omega) a1.2
          rw [qb_0 e] at hy hx
          have e0 : ∀ M : List It, M ++ oA false = M := fun M => by unfold oA; simp
          refine ih true false _ _ (by omega) f1.2 ?_ ?_
          · rw [e0]; exact hy
          · rw [e0]; exact hx
        · rw [qb_n e] at hx
          exact hx e
      · rw [if_neg c2] at hy
        exact hy rfl o a Lr rfl
theorem y_rec (he : eT b n) (h2 : n ≤ 200) : ∀ (f : Nat) (t : Bool) (d s : Int) (W : List Int) (L : List It), 0 ≤ d ∧ d ≤ 6 → 2 * (6 - d) + (if t = true then 2 else 1) ≤ f → 0 ≤ s → s ≤ n → opn W = d → (t = true → baseW W) → ((pQ b n f t d s L).1 = 0 → (t = true → Tst Q b n h0 (pQ b n f t d s L).2.1 W (pQ b n f t d s L).2.2) ∧ (t = false → Bst Q b n h0 (pQ b n f t d s L).2.1 W (pQ b n f t d s L).2.2)) → (¬ (pQ b n f t d s L).1 = 0 → noQ Q h0 (pQ b n f t d s L).1 (pQ b n f t d s L).2.1) → Ast Q b n h0 s W L := by
  intro f
  induction f with
  | zero =>
    intro t d s W L hd hfu
    exfalso
    cases t <;> simp at hfu <;> omega
  | succ f ih =>
    intro t d s W L hd hfu s0 s1 hd2 hw hy hx
    have a1 := nx_r (b := b) s0 s1
    cases t with
    | true =>
      rw [if_pos rfl] at hfu
      unfold pQ at hy hx
      obtain ⟨f1, f2, f3⟩ := pQ_r (b := b) (n := n) f false d s L s0 s1
      refine ih false d s W L hd (by rw [if_neg (by decide)]; omega) s0 s1 hd2 (fun w => by cases w) (fun e => ⟨fun w => (by cases w), fun _ => ?_⟩) (fun e => ?_)
      · rw [qb_0 e] at hy hx
        have e0 : ∀ M : List It, M ++ oA false = M := fun M => by unfold oA; simp
        have := y_loop (F := pQ b n f false d) (Q := Q) (h0 := h0) he h2 (hw rfl) (fun s L q1 q2 => pQ_r f false d s L q1 q2) (fun s V L q1 q2 q3 q4 q5 => ih false d s V L hd (by rw [if_neg (by decide)]; omega) q1 q2 (q3.trans hd2) (fun w => by cases w) (fun e => ⟨fun w => (by cases w), fun _ => q4 e⟩) q5) 200 false false (pQ b n f false d s L).2.1 (pQ b n f false d s L).2.2 (by omega) f1.2 (by rw [e0]; exact fun w => (hy w).1 rfl) (by rw [e0]; exact hx)
        rw [Pw_ff] at this
        exact this
      · rw [qb_n e] at hx
        exact hx e
    | false =>
      rw [if_neg (by decide)] at hfu
      unfold pQ at hy hx
      by_cases c : isW b n s 13 = true
      · rw [if_pos c] at hy hx
        have l1 := nx_lt (b := b) s0 (kd_lt (b := b) (by rw [isW_kd c]; decide))
        intro h f0 fu hs hf hf0 hfu2
        obtain ⟨ht, hg, ⟨hwt, cc, op⟩, rm, -, -⟩ := id hs
        obtain ⟨g, rfl⟩ : ∃ g, f0 = g + 1 := ⟨f0 - 1, by omega⟩
        unfold mX8_comparisonRead_b0
        refine p8_isWord cdws.2.2.2.2.2.2.2.2.2.2.2.2.2.1.symm (by omega) hg ht s0 s1 he ⟨fun _ => ?_, fun w => absurd w (by rw [c]; decide)⟩
        unfold mX8_comparisonRead_b19 mX8_comparisonRead_b36
        refine p8_isWord cdws.2.2.2.2.2.2.2.2.2.2.2.2.2.1.symm (by omega) hg ht s0 s1 he ⟨fun w => absurd w (by rw [c]; decide), fun _ => ?_⟩
        refine p8_goesIn he h2 hs (by omega) (Or.inr rfl) (by omega) (fun d6 u hu' fu' => ⟨fun _ => ?_, fun w => absurd w (by decide)⟩) (fun d6 u u1 u2 fu' => ⟨fun w => absurd rfl w, fun _ => ?_⟩)
        · rw [if_pos (by omega)] at hy hx
          obtain ⟨f1, f2, f3⟩ := pQ_r (b := b) (n := n) f false (d + 1) (nx b n s) L (by omega) a1.2
          refine ih false (d + 1) (nx b n s) (W ++ [23]) L (by omega) (by rw [if_neg (by decide)]; omega) (by omega) a1.2 (by rw [opn_app, hd2]; rfl) (fun w => by cases w) (fun e => ⟨fun w => (by cases w), fun _ => ?_⟩) (fun e => ?_) u g fu hu' (frM_tr hf fu') (by omega) (by omega)
          · rw [qb_0 e] at hy
            have B := (hy rfl).2 rfl
            intro v f5 fv G hs' hf' h5 hv hG
            obtain ⟨tv, gv, ⟨wv, cv', ov⟩, rv, sv0, sv1⟩ := id hs'
            have el : (W ++ [(23 : Int)]).length = W.length + 1 := by rw [List.length_append]; rfl
            rw [el]
            exact st_pop (t := tN) h2 hs' (by decide) (by decide) rfl fun v' hs2 hf2 => B v' f5 fv G hs2 (frM_tr hf' hf2) h5 hv hG
          · rw [qb_n e] at hx
            exact hx e
        · rw [if_neg (by omega)] at hx
          unfold CT
          have un : ¬ u 185 16 = 0 := by rw [u1]; decide
          exact p8_good0 un ⟨fun w => absurd rfl w, fun _ => hx (by show ¬ (3 : Int) = 0; decide) u u1 u2 (frM_tr hf fu')⟩
      · rw [if_neg c] at hy hx
        have c' : isW b n s 13 = false := by simpa using c
        by_cases k : isG b n s 40 = true
        · rw [if_pos k] at hy hx
          have l1 := nx_lt (b := b) s0 (kd_lt (b := b) (by rw [isG_kd k]; decide))
          intro h f0 fu hs hf hf0 hfu2
          obtain ⟨ht, hg, ⟨hwt, cc, op⟩, rm, -, -⟩ := id hs
          obtain ⟨g, rfl⟩ : ∃ g, f0 = g + 1 := ⟨f0 - 1, by omega⟩
          unfold mX8_comparisonRead_b0
          refine p8_isWord cdws.2.2.2.2.2.2.2.2.2.2.2.2.2.1.symm (by omega) hg ht s0 s1 he ⟨fun w => absurd w (by rw [c']; decide), fun _ => p8_isByte hg he ht s0 s1 ⟨fun w => absurd w (by rw [k]; decide), fun _ => ?_⟩⟩
          unfold mX8_comparisonRead_b19 mX8_comparisonRead_b36
          refine p8_isWord cdws.2.2.2.2.2.2.2.2.2.2.2.2.2.1.symm (by omega) hg ht s0 s1 he ⟨fun _ => ?_, fun w => absurd w (by rw [c']; decide)⟩
          refine p8_goesIn he h2 hs (by omega) (Or.inl rfl) (by omega) (fun d6 u hu' fu' => ⟨fun _ => ?_, fun w => absurd w (by decide)⟩) (fun d6 u u1 u2 fu' => ⟨fun w => absurd rfl w, fun _ => ?_⟩)
          · rw [if_pos (by omega)] at hy hx
            obtain ⟨f1, f2, f3⟩ := pQ_r (b := b) (n := n) f true (d + 1) (nx b n s) L (by omega) a1.2
            refine ih true (d + 1) (nx b n s) (W ++ [1]) L (by omega) (by rw [if_pos rfl]; omega) (by omega) a1.2 (by rw [opn_app, hd2]; rfl) (fun _ => Or.inr ⟨W, rfl⟩) (fun e => ⟨fun _ => ?_, fun w => (by cases w)⟩) (fun e => ?_) u g fu hu' (frM_tr hf fu') (by omega) (by omega)
            · rw [qb_0 e] at hy hx
              have st := pQ_stop h2 (by omega) a1.2 e
              refine y_paren he h2 st.1 st.2 (fun j => ?_) (fun j => ?_)
              · rw [if_pos j] at hy
                exact (hy rfl).2 rfl
              · rw [j, if_neg (by decide)] at hx
                exact hx (by show ¬ (1 : Int) = 0; decide)
            · rw [qb_n e] at hx
              exact hx e
          · rw [if_neg (by omega)] at hx
            unfold CT
            have un : ¬ u 185 16 = 0 := by rw [u1]; decide
            exact p8_good0 un ⟨fun w => absurd rfl w, fun _ => hx (by show ¬ (3 : Int) = 0; decide) u u1 u2 (frM_tr hf fu')⟩
        · rw [if_neg k] at hy hx
          exact y_comp he h2 c' (by simpa using k) (fun e => (hy e).2 rfl) hx
end SIN
