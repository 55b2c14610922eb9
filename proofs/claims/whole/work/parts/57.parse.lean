/-! the class reads a query -/
def stp (h : Hp) (M : List Int) : Prop := h 179 2 = (M.length : Int) ∧ ∀ (i : Nat) (z : Int), M[i]? = some z → h 180 i = z
def frQ (h h' : Hp) : Prop := (h' 176 1 = h 176 1 ∧ h' 179 3 = h 179 3) ∧ ∀ p, p ≠ 176 → p ≠ 179 → p ≠ 180 → h' p = h p
theorem frQ_tr {h a c : Hp} (x : frQ h a) (y : frQ a c) : frQ h c := ⟨⟨y.1.1.trans x.1.1, y.1.2.trans x.1.2⟩, fun p p1 p2 p3 => (y.2 p p1 p2 p3).trans (x.2 p p1 p2 p3)⟩
theorem frQ_rfl {h : Hp} : frQ h h := ⟨⟨rfl, rfl⟩, fun _ _ _ _ => rfl⟩
theorem frQ_a {h h' : Hp} (e : h' 176 1 = h 176 1) (f : ∀ p, p ≠ 176 → h' p = h p) : frQ h h' := ⟨⟨e, by rw [f 179 (by omega)]⟩, fun p p1 _ _ => f p p1⟩
theorem frQ_s {h h' : Hp} (e : ∀ k, k ≠ 2 → h' 179 k = h 179 k) (f : ∀ p, p ≠ 179 → p ≠ 180 → h' p = h p) : frQ h h' := ⟨⟨by rw [f 176 (by omega) (by omega)], e 3 (by omega)⟩, fun p _ p2 p3 => f p p2 p3⟩
theorem frQ_4 {h : Hp} {z : Int} : frQ h (hu h 179 4 z) := ⟨⟨by rw [hu_q (by omega)], by rw [hu_ne (by omega)]⟩, fun p _ p2 _ => hu_q p2⟩
def CSt (h : Hp) (b : Int → Int) (n s : Int) (L : List It) : Prop := tkC h b n s ∧ h 179 4 = 0 ∧ stp h (cS L)
def ERt (h : Hp) (b : Int → Int) (n e s : Int) : Prop := tkC h b n s ∧ h 179 4 = e ∧ 0 ≤ h 179 2
theorem stp_f {h h' : Hp} {M : List Int} (hs : stp h M) (f : ∀ p, p ≠ 176 → h' p = h p) : stp h' M := by
  unfold stp at *
  rw [f 179 (by omega), f 180 (by omega)]
  exact hs
theorem p4_addE {x : Int} {h : Hp} {Q : Hp → Prop} (h2 : 0 ≤ h 179 2) (hQ : ∀ h', 0 ≤ h' 179 2 → (∀ k, k ≠ 2 → h' 179 k = h 179 k) → (∀ p, p ≠ 179 → p ≠ 180 → h' p = h p) → Q h') : mX4_addStep x h Q := by
  unfold mX4_addStep
  refine ⟨fun _ => hQ h h2 (fun _ _ => rfl) (fun _ _ _ => rfl), fun c => ⟨⟨h2, by omega⟩, fun a ea => ?_⟩⟩
  have a2 : a 179 2 = h 179 2 := by rw [ea, wr_np (by omega)]
  refine ⟨zri (by omega) (by omega), fun d ed => hQ d ?_ (fun k hk => ?_) (fun p p1 p2 => ?_)⟩
  · rw [ed, hu_same]; omega
  · rw [ed, hu_ne (by omega), ea, wr_np (by omega)]
  · rw [ed, hu_q p1, ea, wr_q p2]
theorem p4_add {x : Int} {h : Hp} {Q : Hp → Prop} {M : List Int} (hs : stp h M) (hl : M.length < 203) (hQ : ∀ h', stp h' (M ++ [x]) → (∀ k, k ≠ 2 → h' 179 k = h 179 k) → (∀ p, p ≠ 179 → p ≠ 180 → h' p = h p) → Q h') : mX4_addStep x h Q := by
  unfold mX4_addStep
  obtain ⟨s1, s2⟩ := hs
  refine ⟨fun c => by omega, fun c => ⟨⟨by omega, by omega⟩, fun a ea => ?_⟩⟩
  have a2 : a 179 2 = h 179 2 := by rw [ea, wr_np (by omega)]
  refine ⟨zri (by omega) (by omega), fun d ed => hQ d ⟨?_, fun i z hz => ?_⟩ (fun k hk => ?_) (fun p p1 p2 => ?_)⟩
  · rw [ed, hu_same, a2, s1, List.length_append]; rfl
  · rw [ed, hu_np (by omega), ea]
    rcases sn_get hz with ⟨hi, hz⟩ | ⟨hi, hz⟩
    · unfold wr
      rw [hu_ne (by omega)]
      exact s2 i z hz
    · unfold wr
      rw [show i = (h 179 2).toNat by omega, hu_same, hz]
  · rw [ed, hu_ne (by omega), ea, wr_np (by omega)]
  · rw [ed, hu_q p1, ea, wr_q p2]
section CLQ
variable {b : Int → Int} {n : Int}
theorem p4_property {s : Int} {h : Hp} {Q : Int → Prop} (he : eT b n) (ht : tkC h b n s) (s0 : 0 ≤ s) (s1 : s ≤ n) (hQ : Q (if vP b n s = -1 then 0 else -1 - vP b n s)) : mX4_property h Q := by
  unfold mX4_property
  unfold vP at hQ
  refine p6_isWord (by omega) he ht s0 s1 ⟨fun c => ?_, fun c => ?_⟩
  · rw [b2i0.mp c] at hQ
    refine p6_isWord (by omega) he ht s0 s1 ⟨fun c => ?_, fun c => ?_⟩
    · rw [b2i0.mp c] at hQ
      refine p6_isWord (by omega) he ht s0 s1 ⟨fun c => ?_, fun c => ?_⟩
      · rw [b2i0.mp c] at hQ
        refine p6_isWord (by omega) he ht s0 s1 ⟨fun c => ?_, fun c => ?_⟩
        · rw [b2i0.mp c] at hQ
          refine p6_isWord (by omega) he ht s0 s1 ⟨fun c => ?_, fun c => ?_⟩
          · rw [b2i0.mp c] at hQ
            refine p6_isWord (by omega) he ht s0 s1 ⟨fun c => ?_, fun c => ?_⟩
            · rw [b2i0.mp c] at hQ
              refine p6_isWord (by omega) he ht s0 s1 ⟨fun c => ?_, fun c => ?_⟩
              · rw [b2i0.mp c] at hQ
                refine p6_isWord (by omega) he ht s0 s1 ⟨fun c => ?_, fun c => ?_⟩
                · rw [b2i0.mp c] at hQ
                  refine p6_isWord (by omega) he ht s0 s1 ⟨fun c => ?_, fun c => ?_⟩
                  · rw [b2i0.mp c] at hQ; exact hQ
                  · rw [b2i1.mp c] at hQ; exact hQ
                · rw [b2i1.mp c] at hQ; exact hQ
              · rw [b2i1.mp c] at hQ; exact hQ
            · rw [b2i1.mp c] at hQ; exact hQ
          · rw [b2i1.mp c] at hQ; exact hQ
        · rw [b2i1.mp c] at hQ; exact hQ
      · rw [b2i1.mp c] at hQ; exact hQ
    · rw [b2i1.mp c] at hQ; exact hQ
  · rw [b2i1.mp c] at hQ; exact hQ
theorem p4_readValue {s : Int} {h : Hp} {Q : Int → Hp → Prop} (he : eT b n) (ht : tkC h b n s) (s0 : 0 ≤ s) (s1 : s ≤ n) (hy : vE b n s = 0 → ∀ h', tkC h' b n (nx b n s) → h' 176 1 = h 176 1 → (∀ p, p ≠ 176 → h' p = h p) → Q (qv (vV b n s)) h') (hx : ¬ vE b n s = 0 → ∀ z, Q z (hu h 179 4 (vE b n s))) : mX4_readValue h Q := by
  unfold mX4_readValue
  rw [ht.2.2.1]
  have r := vP_r (b := b) (n := n) (s := s)
  refine ⟨fun c => p4_property he ht s0 s1 ?_, fun c => ?_⟩
  · unfold mX4_readValue_b25
    rw [ht.2.2.1]
    refine ⟨fun w => absurd w c, fun _ => ?_⟩
    unfold vE vV at *
    rw [if_neg c] at hy hx
    by_cases d : vP b n s = -1
    · rw [if_pos d] at hx ⊢
      exact ⟨fun w => absurd rfl w, fun _ => fun a ea => by rw [ea]; exact hx (by decide) _⟩
    · rw [if_neg d] at hy ⊢
      refine ⟨fun _ => ?_, fun w => by omega⟩
      unfold mX4_readValue_b49
      refine ⟨fun _ => p6_advance he ht s0 s1 fun g tg g1 gf => ?_, fun w => by omega⟩
      have := hy rfl g tg g1 gf
      rw [if_neg c] at this
      unfold qv at this
      rw [if_pos (by omega)] at this
      exact this
  · unfold mX4_readValue_b25
    rw [ht.2.2.1]
    refine ⟨fun _ => ?_, fun w => absurd c w⟩
    have e6 : h 176 6 = vC b n s := by rw [ht.2.2.2.2, if_pos c]
    have := v_CM (b := b) s0 s1 c
    unfold vE vV at *
    rw [if_pos c] at hy hx
    unfold mX4_readValue_b49
    rw [e6]
    by_cases d : vM b n s ≤ 9999
    · rw [if_pos d] at hy
      refine ⟨fun _ => p6_advance he ht s0 s1 fun g tg g1 gf => ?_, fun w => by omega⟩
      have q := hy rfl g tg g1 gf
      rw [if_pos c] at q
      unfold qv at q
      rw [if_neg (by omega), show 100 + vM b n s - 100 = vC b n s by omega] at q
      exact q
    · rw [if_neg d] at hx
      exact ⟨fun w => by omega, fun _ => fun a ea => by rw [ea]; exact hx (by decide) _⟩
theorem p4_comp {s : Int} {h h0 : Hp} {Q : Hp → Prop} {L : List It} (he : eT b n) (h2 : n ≤ 200) (hc : CSt h b n s L) (s0 : 0 ≤ s) (s1 : s ≤ n) (hl : ((cS L).length : Int) ≤ s) (hf : frQ h0 h) (hy : (pC b n s L).1 = 0 → ∀ h', CSt h' b n (pC b n s L).2.1 (pC b n s L).2.2 → frQ h0 h' → Q h') (hx : ¬ (pC b n s L).1 = 0 → ∀ h', ERt h' b n (pC b n s L).1 (pC b n s L).2.1 → frQ h0 h' → Q h') : mX4_readComparison h Q := by
  unfold mX4_readComparison
  obtain ⟨ht, c4, cs⟩ := hc
  have a1 := nx_r (b := b) s0 s1
  have a2 := nx_r (b := b) (show 0 ≤ nx b n s by omega) a1.2
  unfold pC at hy hx
  refine p4_readValue he ht s0 s1 (fun c g tg g1 gf => ?_) (fun c z => ?_)
  · rw [if_pos c] at hy hx
    have g4 : g 179 4 = 0 := by rw [gf 179 (by omega)]; exact c4
    have Fg : frQ h0 g := frQ_tr hf (frQ_a g1 gf)
    have l1 := nx_lt (b := b) s0 (vE_lt s0 s1 c)
    refine ⟨fun _ => ?_, fun w => absurd g4 w⟩
    have go : ∀ op, op = cOp b n (nx b n s) → ¬ op = 0 → mX4_readComparison_b91 Q (qv (vV b n s)) (op + 40) g := fun op eo no => by
      have no' : ¬ cOp b n (nx b n s) = 0 := by rw [← eo]; exact no
      rw [if_neg no'] at hy hx
      have l2 := nx_lt (b := b) (show 0 ≤ nx b n s by omega) (cOp_lt no')
      have ro := cOp_r no'
      have a3 := nx_r (b := b) (show 0 ≤ nx b n (nx b n s) by omega) a2.2
      unfold mX4_readComparison_b91
      refine p6_advance he tg (by omega) a1.2 fun u tu u1 uf => ?_
      have Fu : frQ h0 u := frQ_tr Fg (frQ_a u1 uf)
      have ss : stp u (cS L) := stp_f (stp_f cs gf) uf
      have u4 : u 179 4 = 0 := by rw [uf 179 (by omega)]; exact g4
      refine p4_readValue he tu (by omega) a2.2 (fun d v tv v1 vf => ?_) (fun d z => ?_)
      · rw [if_pos d] at hy
        have l3 := nx_lt (b := b) (show 0 ≤ nx b n (nx b n s) by omega) (vE_lt (by omega) a2.2 d)
        have Fv : frQ h0 v := frQ_tr Fu (frQ_a v1 vf)
        have sv : stp v (cS L) := stp_f ss vf
        refine p4_add sv (by omega) fun x sx xk xf => p4_add sx (by rw [List.length_append]; show _ + 1 < 203; omega) fun y sy yk yf => p4_add sy (by rw [List.length_append, List.length_append]; show _ + 1 + 1 < 203; omega) fun w sw wk wf => ?_
        refine hy rfl w ⟨?_, ?_, ?_⟩ (frQ_tr Fv (frQ_tr (frQ_s xk xf) (frQ_tr (frQ_s yk yf) (frQ_s wk wf))))
        · exact tkC_fr tv (by rw [wf 176 (by omega) (by omega), yf 176 (by omega) (by omega), xf 176 (by omega) (by omega)]) (by rw [wf 177 (by omega) (by omega), yf 177 (by omega) (by omega), xf 177 (by omega) (by omega)])
        · rw [wk 4 (by omega), yk 4 (by omega), xk 4 (by omega), vf 179 (by omega)]; exact u4
        · rw [cS_app, cS_1]
          unfold cS1
          rw [if_pos ro.2, ← eo]
          have : cS L ++ [op + 40] ++ [qv (vV b n s)] ++ [qv (vV b n (nx b n (nx b n s)))] = cS L ++ [op + 40, qv (vV b n s), qv (vV b n (nx b n (nx b n s)))] := by simp
          rw [← this]
          exact sw
      · rw [if_neg d] at hx
        have z2 : 0 ≤ hu u 179 4 (vE b n (nx b n (nx b n s))) 179 2 := by rw [hu_ne (by omega), ss.1]; omega
        refine p4_addE z2 fun x x2 xk xf => p4_addE x2 fun y y2 yk yf => p4_addE y2 fun w w2 wk wf => hx d w ⟨?_, ?_, w2⟩ (frQ_tr Fu (frQ_tr frQ_4 (frQ_tr (frQ_s xk xf) (frQ_tr (frQ_s yk yf) (frQ_s wk wf)))))
        · exact tkC_fr tu (by rw [wf 176 (by omega) (by omega), yf 176 (by omega) (by omega), xf 176 (by omega) (by omega), hu_q (by omega)]) (by rw [wf 177 (by omega) (by omega), yf 177 (by omega) (by omega), xf 177 (by omega) (by omega), hu_q (by omega)])
        · rw [wk 4 (by omega), yk 4 (by omega), xk 4 (by omega), hu_same]
    have g55 : ¬ cOp b n (nx b n s) = 0 → mX4_readComparison_b55 Q (qv (vV b n s)) g := fun no => by
      unfold mX4_readComparison_b55
      refine p6_isSign (by omega) he tg (by omega) a1.2 ⟨fun c => p6_isSign (by omega) he tg (by omega) a1.2 ⟨fun d => ?_, fun d => ?_⟩, fun c => ?_⟩
      · refine go 22 ?_ (by decide)
        unfold cOp at no ⊢
        rw [b2i0.mp c, b2i0.mp d, if_neg (by decide), if_neg (by decide)] at no ⊢
        by_cases q : isG b n (nx b n s) 62 = true
        · rw [if_pos q]
        · rw [if_neg q] at no
          exact absurd rfl no
      · refine go 21 ?_ (by decide)
        unfold cOp
        rw [b2i0.mp c, b2i1.mp d, if_neg (by decide), if_pos rfl]
      · refine go 20 ?_ (by decide)
        unfold cOp
        rw [b2i1.mp c, if_pos rfl]
    refine p6_isSign (by omega) he tg (by omega) a1.2 ⟨fun c1 => g55 ?_, fun c1 => p6_isSign (by omega) he tg (by omega) a1.2 ⟨fun c2 => g55 ?_, fun c2 => p6_isSign (by omega) he tg (by omega) a1.2 ⟨fun c3 => g55 ?_, fun c3 => fun a ea => ?_⟩⟩⟩
    · unfold cOp
      rw [if_pos (b2i1.mp c1)]; decide
    · unfold cOp
      rw [b2i0.mp c1, if_neg (by decide), if_pos (b2i1.mp c2)]; decide
    · unfold cOp
      rw [b2i0.mp c1, if_neg (by decide), b2i0.mp c2, if_neg (by decide), if_pos (b2i1.mp c3)]; decide
    · have z : cOp b n (nx b n s) = 0 := by
        unfold cOp
        rw [b2i0.mp c1, if_neg (by decide), b2i0.mp c2, if_neg (by decide), b2i0.mp c3, if_neg (by decide)]
      rw [if_pos z] at hx
      refine hx (by show ¬ (1 : Int) = 0; decide) a ⟨?_, ?_, ?_⟩ (frQ_tr Fg (by rw [ea]; exact frQ_4))
      · exact tkC_fr tg (by rw [ea, hu_q (by omega)]) (by rw [ea, hu_q (by omega)])
      · rw [ea]; exact hu_same
      · rw [ea, hu_ne (by omega), gf 179 (by omega), cs.1]; omega
  · rw [if_neg c] at hx
    refine ⟨fun w => absurd (by rw [hu_same] at w; exact w) c, fun _ => hx c _ ⟨?_, hu_same, ?_⟩ (frQ_tr hf frQ_4)⟩
    · exact tkC_fr ht (by rw [hu_q (by omega)]) (by rw [hu_q (by omega)])
    · rw [hu_ne (by omega), cs.1]; omega
end CLQ
