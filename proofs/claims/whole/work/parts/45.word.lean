/-! the reference's tokens; words -/
theorem p8_byteAt {h : Hp} {Q : Int → Prop} {b : Int → Int} {n i : Int} (he : eT b n) (hn : h 185 10 = n) (hb : byM h b n) (h0 : 0 ≤ i) (hQ : Q (if n ≤ i then -1 else b i)) : mX8_byteAt i h Q := by
  obtain ⟨⟨n0, n9⟩, hB⟩ := he
  unfold mX8_byteAt
  rw [hn]
  refine ⟨fun c => ?_, fun c => ⟨⟨by omega, by omega⟩, ?_⟩⟩
  · rw [if_pos c] at hQ; exact hQ
  · rw [hb i h0 (by omega)]
    rw [if_neg c] at hQ; exact hQ
theorem pL_m1 : pL (-1) = false := by decide
theorem pD_m1 : pD (-1) = false := by decide
/-- what stays of the reference's object while it reads -/
def keM (h h' : Hp) : Prop := ∀ k, k < 10 ∨ 15 < k → h' 185 k = h 185 k
theorem p8_nxt {h : Hp} {Q : Hp → Prop} {b : Int → Int} {n a : Int} (he : eT b n) (hn : h 185 10 = n) (hb : byM h b n) (ha : h 185 11 = a) (h0 : 0 ≤ a) (h1 : a ≤ n) (hQ : ∀ h', tkM h' b n (ws b n a) → keM h h' → (∀ p, p ≠ 185 → h' p = h p) → Q h') : mX8_next h Q := by
  have he' := he
  obtain ⟨⟨n0, n9⟩, hB⟩ := he
  have hw := rn_r (p := pS) (b := b) h0 h1
  have tok : ∀ g : Hp, g 185 10 = n → g 185 11 = ws b n a → keM h g → (∀ p, p ≠ 185 → g p = h p) → ∀ h26 : Hp, h26 = hu g 185 12 (g 185 11) → (((h26 185 11) < (h26 185 10) → (((0 : Int) ≤ (h26 185 11) ∧ (h26 185 11) < 900) ∧ (mX8_isLetter (rd h26 191 (h26 185 11)) h26 (fun z27 => ((z27 = 0 → (((0 : Int) ≤ (h26 185 11) ∧ (h26 185 11) < 900) ∧ (mX8_isFigure (rd h26 191 (h26 185 11)) h26 (fun z28 => ((z28 = 0 → (∀ h29 : Hp, h29 = hu h26 185 13 3 → (zr ((h29 185 11) + 1) ∧ (∀ h30 : Hp, h30 = hu h29 185 11 ((h29 185 11) + 1) → (Q h30))))) ∧ (¬ z28 = 0 → (mX8_readsNumber h26 (fun h31 => (Q h31))))))))) ∧ (¬ z27 = 0 → (mX8_readsWord h26 (fun h32 => (Q h32))))))))) ∧ (¬ (h26 185 11) < (h26 185 10) → (∀ h33 : Hp, h33 = hu h26 185 13 0 → (Q h33)))) := by
    intro g g10 g11 gk gf a2 e2
    have hs0 : 0 ≤ ws b n a := by unfold ws; omega
    have hs1 : ws b n a ≤ n := by unfold ws; omega
    generalize ws b n a = s at *
    have f2 : ∀ p, p ≠ 185 → a2 p = h p := fun p hp => by rw [e2, hu_q hp, gf p hp]
    have v10 : a2 185 10 = n := by rw [e2, hu_ne (by omega)]; exact g10
    have v11 : a2 185 11 = s := by rw [e2, hu_ne (by omega)]; exact g11
    have v12 : a2 185 12 = s := by rw [e2, hu_same]; exact g11
    have vk : keM h a2 := fun k hk => by rw [e2, hu_ne (by omega)]; exact gk k hk
    have hb2 : byM a2 b n := fun i i0 i1 => by rw [rd_same (f2 191 (by omega))]; exact hb i i0 i1
    rw [v10, v11]
    refine ⟨fun hs => ⟨⟨by omega, by omega⟩, ?_⟩, fun hs => fun a3 e3 => ?_⟩
    · rw [hb2 s hs0 hs]
      have hk : kd b n s = if pL (b s) = true then 1 else if pD (b s) = true then 2 else 3 := by unfold kd; rw [if_neg (by omega)]
      have ht : te b n s = if pL (b s) = true then rn pL b s n else if pD (b s) = true then rn pD b s n else s + 1 := by unfold te; rw [if_neg (by omega)]
      have hr := te_r (b := b) hs0 hs1
      refine p8_isLetter ⟨fun c => ⟨⟨by omega, by omega⟩, ?_⟩, fun c => ?_⟩
      · have c' := b2i0.mp c
        rw [c', if_neg (by decide)] at hk ht
        refine p8_isFigure ⟨fun d => fun a3 e3 => ?_, fun d => ?_⟩
        · have d' := b2i0.mp d
          rw [d', if_neg (by decide)] at hk ht
          have w3 : a3 185 11 = s := by rw [e3, hu_ne (by omega)]; exact v11
          rw [w3]
          refine ⟨zri (by omega) (by omega), fun a4 e4 => hQ a4 ⟨⟨?_, ?_⟩, ?_, ?_, ?_, ?_, ?_⟩ (fun k hk => ?_) (fun p hp => by rw [e4, hu_q hp, e3, hu_q hp, f2 p hp])⟩
          · rw [e4, hu_ne (by omega), e3, hu_ne (by omega)]; exact v10
          · intro i i0 i1
            rw [rd_same (show a4 191 = a2 191 by rw [e4, hu_q (by omega), e3, hu_q (by omega)])]
            exact hb2 i i0 i1
          · rw [e4, hu_same, ht]
          · rw [e4, hu_ne (by omega), e3, hu_same, hk]
          · rw [e4, hu_ne (by omega), e3, hu_ne (by omega)]; exact v12
          · intro w; omega
          · intro w; omega
          · rw [e4, hu_ne (by omega), e3, hu_ne (by omega)]; exact vk k hk
        · have d' := b2i1.mp d
          rw [d', if_pos rfl] at hk ht
          unfold mX8_readsNumber
          intro a3 e3
          obtain ⟨f, hf⟩ := forU (fun f i => ∀ g : Hp, g 185 11 = i → ((g 185 14 = 0 ∧ True) ∨ True) → 0 ≤ g 185 14 → g 185 14 ≤ 100000000 → vaM b (g 185 14) i (te b n s - i).toNat = vM b n s → g 185 10 = n → g 185 12 = s → keM h g → (∀ p, p ≠ 185 → g p = h p) → mX8_readsNumber_b5 Q f g) s (te b n s) hr.1 (fun f g q11 _ q14 q14' qv q10 q12 qk qf => by
              unfold mX8_readsNumber_b5
              have hb3 : byM g b n := fun i i0 i1 => by rw [rd_same (qf 191 (by omega))]; exact hb i i0 i1
              rw [Int.sub_self] at qv
              rw [q11]
              refine p8_byteAt he' q10 hb3 (by omega) (p8_isFigure ?_)
              have hz : pD (if n ≤ te b n s then -1 else b (te b n s)) = false := by
                by_cases w : n ≤ te b n s
                · rw [if_pos w]; exact pD_m1
                · rw [if_neg w, ht]
                  exact rn_at hs0 (by omega)
              rw [hz]
              refine ⟨fun _ g2 w2 => hQ g2 ⟨⟨?_, ?_⟩, ?_, ?_, ?_, ?_, ?_⟩ (fun k hk => ?_) (fun p hp => by rw [w2, hu_q hp, qf p hp]), fun w => absurd rfl w⟩
              · rw [w2, hu_ne (by omega)]; exact q10
              · intro i i0 i1
                rw [rd_same (show g2 191 = g 191 by rw [w2, hu_q (by omega)])]
                exact hb3 i i0 i1
              · rw [w2, hu_ne (by omega)]; exact q11
              · rw [w2, hu_same, hk]
              · rw [w2, hu_ne (by omega)]; exact q12
              · intro _; rw [w2, hu_ne (by omega)]; exact qv
              · intro w; omega
              · rw [w2, hu_ne (by omega)]; exact qk k hk) (fun f i i1 i2 ih g q11 _ q14 q14' qv q10 q12 qk qf => by
              unfold mX8_readsNumber_b5
              have hb3 : byM g b n := fun i i0 i1 => by rw [rd_same (qf 191 (by omega))]; exact hb i i0 i1
              have hd := te_dg hs0 (by rw [hk]) i1 i2
              have hd2 := hd
              unfold pD at hd2
              rw [Bool.and_eq_true, decide_eq_true_eq, decide_eq_true_eq] at hd2
              rw [show (te b n s - i).toNat = (te b n s - (i + 1)).toNat + 1 by omega] at qv
              rw [q11]
              refine p8_byteAt he' q10 hb3 (by omega) (p8_isFigure ?_)
              rw [if_neg (by omega), hd]
              have go : ∀ z, z = (if g 185 14 ≤ 9999999 then 10 * g 185 14 + b i - 48 else g 185 14) → mX8_readsNumber_b56 Q (mX8_readsNumber_b5 Q f) z g := fun z hz => by
                unfold mX8_readsNumber_b56
                intro g2 w2
                have z11 : g2 185 11 = i := by rw [w2, hu_ne (by omega)]; exact q11
                rw [z11]
                refine ⟨zri (by omega) (by omega), fun g3 w3 => ih g3 (by rw [w3]; exact hu_same) (Or.inr trivial) ?_ ?_ ?_ ?_ ?_ (fun k hk => ?_) (fun p hp => by rw [w3, hu_q hp, w2, hu_q hp, qf p hp])⟩
                · rw [w3, hu_ne (by omega), w2, hu_same, hz]; split <;> omega
                · rw [w3, hu_ne (by omega), w2, hu_same, hz]; split <;> omega
                · rw [w3, hu_ne (by omega), w2, hu_same, hz]; exact qv
                · rw [w3, hu_ne (by omega), w2, hu_ne (by omega)]; exact q10
                · rw [w3, hu_ne (by omega), w2, hu_ne (by omega)]; exact q12
                · rw [w3, hu_ne (by omega), w2, hu_ne (by omega)]; exact qk k hk
              refine ⟨fun w => absurd w (by decide), fun _ => ⟨fun c => ⟨zri (by omega) (by omega), ⟨by omega, by omega⟩, ?_⟩, fun c => go _ (by rw [if_neg c])⟩⟩
              rw [hb3 i (by omega) (by omega)]
              exact ⟨zri (by omega) (by omega), zri (by omega) (by omega), go _ (by rw [if_pos c])⟩)
          have A : ∀ k, k ≠ 14 → a3 185 k = a2 185 k := fun k hk => by rw [e3]; exact hu_ne (by omega)
          have A14 : a3 185 14 = 0 := by rw [e3]; exact hu_same
          exact ⟨f, hf a3 (by rw [A 11 (by omega)]; exact v11) (Or.inr trivial) (by rw [A14]; omega) (by rw [A14]; omega) (by rw [A14]; rfl) (by rw [A 10 (by omega)]; exact v10) (by rw [A 12 (by omega)]; exact v12) (fun k hk => by rw [A k (by omega)]; exact vk k hk) (fun p hp => by rw [e3, hu_q hp, f2 p hp])⟩
      · have c' := b2i1.mp c
        rw [c', if_pos rfl] at hk ht
        unfold mX8_readsWord
        intro a3 e3
        have wr27 : ∀ k : Nat, k ≤ 10 → (27 : Int) ^ k ≤ 205891132094649 := fun k hk => by
          have : k = 0 ∨ k = 1 ∨ k = 2 ∨ k = 3 ∨ k = 4 ∨ k = 5 ∨ k = 6 ∨ k = 7 ∨ k = 8 ∨ k = 9 ∨ k = 10 := by omega
          rcases this with c | c | c | c | c | c | c | c | c | c | c <;> subst c <;> decide
        obtain ⟨f, hf⟩ := forU (fun f i => ∀ g : Hp, g 185 11 = i → 0 ≤ g 185 15 → g 185 15 < 27 ^ (min 10 (i - s)).toNat → waM b s (g 185 15) i (te b n s - i).toNat = wM b n s → g 185 10 = n → g 185 12 = s → keM h g → (∀ p, p ≠ 185 → g p = h p) → mX8_readsWord_b5 Q f g) s (te b n s) hr.1 (fun f g q11 q15 q15' qv q10 q12 qk qf => by
            unfold mX8_readsWord_b5
            have hb3 : byM g b n := fun i i0 i1 => by rw [rd_same (qf 191 (by omega))]; exact hb i i0 i1
            rw [Int.sub_self] at qv
            rw [q11]
            refine p8_byteAt he' q10 hb3 (by omega) (p8_isLetter ?_)
            have hz : pL (if n ≤ te b n s then -1 else b (te b n s)) = false := by
              by_cases w : n ≤ te b n s
              · rw [if_pos w]; exact pL_m1
              · rw [if_neg w, ht]
                exact rn_at hs0 (by omega)
            rw [hz]
            refine ⟨fun _ g2 w2 => hQ g2 ⟨⟨?_, ?_⟩, ?_, ?_, ?_, ?_, ?_⟩ (fun k hk => ?_) (fun p hp => by rw [w2, hu_q hp, qf p hp]), fun w => absurd rfl w⟩
            · rw [w2, hu_ne (by omega)]; exact q10
            · intro i i0 i1
              rw [rd_same (show g2 191 = g 191 by rw [w2, hu_q (by omega)])]
              exact hb3 i i0 i1
            · rw [w2, hu_ne (by omega)]; exact q11
            · rw [w2, hu_same, hk]
            · rw [w2, hu_ne (by omega)]; exact q12
            · intro w; omega
            · intro _; rw [w2, hu_ne (by omega)]; exact qv
            · rw [w2, hu_ne (by omega)]; exact qk k hk) (fun f i i1 i2 ih g q11 q15 q15' qv q10 q12 qk qf => by
            unfold mX8_readsWord_b5
            have hb3 : byM g b n := fun i i0 i1 => by rw [rd_same (qf 191 (by omega))]; exact hb i i0 i1
            have hd := te_in hs0 (by rw [hk]) i1 i2
            have hd2 := hd
            unfold pL at hd2
            rw [Bool.and_eq_true, decide_eq_true_eq, decide_eq_true_eq] at hd2
            rw [show (te b n s - i).toNat = (te b n s - (i + 1)).toNat + 1 by omega] at qv
            rw [q11, q12]
            refine p8_byteAt he' q10 hb3 (by omega) (p8_isLetter ?_)
            rw [if_neg (by omega), hd]
            have step : ∀ (z : Int) (g2 : Hp), z = (if 10 ≤ i - s then g 185 15 else 27 * g 185 15 + b i - 96) → g2 185 15 = z → g2 185 11 = i → g2 185 10 = n → g2 185 12 = s → keM h g2 → (∀ p, p ≠ 185 → g2 p = h p) → mX8_readsWord_b60 Q (mX8_readsWord_b5 Q f) g2 := fun z g2 hz z15 z11 z10 z12 zk zf => by
              unfold mX8_readsWord_b60
              rw [z11]
              refine ⟨zri (by omega) (by omega), fun g3 w3 => ih g3 (by rw [w3]; exact hu_same) ?_ ?_ ?_ ?_ ?_ (fun k hk => ?_) (fun p hp => by rw [w3, hu_q hp, zf p hp])⟩
              · rw [w3, hu_ne (by omega), z15, hz]; split <;> omega
              · rw [w3, hu_ne (by omega), z15, hz]
                by_cases c : 10 ≤ i - s
                · rw [if_pos c, show (min 10 (i + 1 - s)).toNat = (min 10 (i - s)).toNat by omega]; exact q15'
                · rw [if_neg c, show (min 10 (i + 1 - s)).toNat = (min 10 (i - s)).toNat + 1 by omega, Int.pow_succ]
                  omega
              · rw [w3, hu_ne (by omega), z15, hz]; exact qv
              · rw [w3, hu_ne (by omega)]; exact z10
              · rw [w3, hu_ne (by omega)]; exact z12
              · rw [w3, hu_ne (by omega)]; exact zk k hk
            have hp := wr27 (min 10 (i - s)).toNat (by omega)
            refine ⟨fun w => absurd w (by decide), fun _ => ⟨zri (by omega) (by omega), fun c => step _ g (by rw [if_pos c]) rfl q11 q10 q12 qk qf, fun c => ⟨⟨by omega, by omega⟩, ⟨by omega, by omega⟩, ?_⟩⟩⟩
            rw [hb3 i (by omega) (by omega)]
            refine ⟨⟨by omega, by omega⟩, ⟨by omega, by omega⟩, fun g2 w2 => step _ g2 (by rw [if_neg c]) (by rw [w2]; exact hu_same) ?_ ?_ ?_ (fun k hk => ?_) (fun p hp => by rw [w2, hu_q hp, qf p hp])⟩
            · rw [w2, hu_ne (by omega)]; exact q11
            · rw [w2, hu_ne (by omega)]; exact q10
            · rw [w2, hu_ne (by omega)]; exact q12
            · rw [w2, hu_ne (by omega)]; exact qk k hk)
        have A : ∀ k, k ≠ 15 → a3 185 k = a2 185 k := fun k hk => by rw [e3]; exact hu_ne (by omega)
        have A15 : a3 185 15 = 0 := by rw [e3]; exact hu_same
        exact ⟨f, hf a3 (by rw [A 11 (by omega)]; exact v11) (by rw [A15]; omega) (by rw [A15, Int.sub_self]; decide) (by rw [A15]; rfl) (by rw [A 10 (by omega)]; exact v10) (by rw [A 12 (by omega)]; exact v12) (fun k hk => by rw [A k (by omega)]; exact vk k hk) (fun p hp => by rw [e3, hu_q hp, f2 p hp])⟩
    · have hk : kd b n s = 0 := kd_0.mpr (by omega)
      have ht : te b n s = s := by unfold te; rw [if_pos (by omega)]
      refine hQ a3 ⟨⟨?_, ?_⟩, ?_, ?_, ?_, ?_, ?_⟩ (fun k hk => ?_) (fun p hp => by rw [e3, hu_q hp, f2 p hp])
      · rw [e3, hu_ne (by omega)]; exact v10
      · intro i i0 i1
        rw [rd_same (show a3 191 = a2 191 by rw [e3, hu_q (by omega)])]
        exact hb2 i i0 i1
      · rw [e3, hu_ne (by omega), ht]; exact v11
      · rw [e3, hu_same, hk]
      · rw [e3, hu_ne (by omega)]; exact v12
      · intro w; omega
      · intro w; omega
      · rw [e3, hu_ne (by omega)]; exact vk k hk
  unfold mX8_next
  obtain ⟨f, hf⟩ := forU (fun f i => ∀ g : Hp, g 185 11 = i → g 185 10 = n → keM h g → (∀ p, p ≠ 185 → g p = h p) → mX8_next_b0 Q f g) a (ws b n a) hw.1 (fun f g q11 q10 qk qf => by
      unfold mX8_next_b0
      have go := tok g q10 q11 qk qf
      have hb3 : byM g b n := fun i i0 i1 => by rw [rd_same (qf 191 (by omega))]; exact hb i i0 i1
      have hw2 : ws b n a ≤ n := hw.2
      have hw1 : a ≤ ws b n a := hw.1
      have hz : ¬ (if n ≤ ws b n a then (-1 : Int) else b (ws b n a)) = 32 ∧ ¬ (if n ≤ ws b n a then (-1 : Int) else b (ws b n a)) = 10 := by
        by_cases w : n ≤ ws b n a
        · rw [if_pos w]; exact ⟨by decide, by decide⟩
        · rw [if_neg w]
          have hp : pS (b (ws b n a)) = false := rn_at (p := pS) (b := b) (a := a) (n := n) h0 (show rn pS b a n < n by unfold ws at w; omega)
          unfold pS at hp
          rw [Bool.or_eq_false_iff, decide_eq_false_iff_not, decide_eq_false_iff_not] at hp
          exact hp
      rw [show g 185 11 = ws b n a from q11]
      refine p8_byteAt he' q10 hb3 (by omega) ⟨fun w => absurd w hz.1, fun _ => p8_byteAt he' q10 hb3 (by omega) ⟨fun _ => ?_, fun w => absurd w hz.2⟩⟩
      have := go
      rw [q11] at this
      exact this) (fun f i i1 i2 ih g q11 q10 qk qf => by
      unfold mX8_next_b0 mX8_next_b26
      have hb3 : byM g b n := fun i i0 i1 => by rw [rd_same (qf 191 (by omega))]; exact hb i i0 i1
      have hw2 : ws b n a ≤ n := hw.2
      have hp := rn_in (p := pS) (b := b) (a := a) (n := n) h0 i1 i2
      unfold pS at hp
      rw [Bool.or_eq_true, decide_eq_true_eq, decide_eq_true_eq] at hp
      have nxt : zr (i + 1) ∧ ∀ h23 : Hp, h23 = hu g 185 11 (i + 1) → mX8_next_b0 Q f h23 := ⟨zri (by omega) (by omega), fun g2 w2 => ih g2 (by rw [w2]; exact hu_same) (by rw [w2, hu_ne (by omega)]; exact q10) (fun k hk => by rw [w2, hu_ne (by omega)]; exact qk k hk) (fun p hp => by rw [w2, hu_q hp, qf p hp])⟩
      rw [q11]
      refine p8_byteAt he' q10 hb3 (by omega) ⟨fun _ => nxt, fun w => p8_byteAt he' q10 hb3 (by omega) ⟨fun w2 => ?_, fun _ => nxt⟩⟩
      rw [if_neg (by omega)] at w w2
      omega)
  exact ⟨f, hf h ha hn (fun _ _ => rfl) (fun _ _ => rfl)⟩
theorem p8_next {h : Hp} {Q : Hp → Prop} {b : Int → Int} {n s : Int} (he : eT b n) (ht : tkM h b n s) (h0 : 0 ≤ s) (h1 : s ≤ n) (hQ : ∀ h', tkM h' b n (nx b n s) → keM h h' → (∀ p, p ≠ 185 → h' p = h p) → Q h') : mX8_next h Q := by
  have := te_r (b := b) h0 h1
  exact p8_nxt he ht.1.1 ht.1.2 ht.2.1 (by omega) (by omega) hQ
