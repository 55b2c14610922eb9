/-! rules, moves, the head and the whole text, as the class reads them -/
theorem nm_pos {r : Rw} {i : Int} (ho : okH r i) (h5 : 1 ≤ fl r i 5) : ¬ nm r i = 0 := by
  have lr := fun k (hk : 0 ≤ k ∧ k < 8) => let_r ho hk
  have a0 := lr 0 (by omega)
  have a1 := lr 1 (by omega)
  have a2 := lr 2 (by omega)
  have a3 := lr 3 (by omega)
  have a4 := lr 4 (by omega)
  have a5 := lr 5 (by omega)
  have a6 := lr 6 (by omega)
  have a7 := lr 7 (by omega)
  have x0 := (ho.2.2.2.2.2.2.2.1 0 (by omega) (by omega)).1 (by omega)
  simp only [show (6 : Int) + 0 = 6 from rfl, show (6 : Int) + 1 = 7 from rfl, show (6 : Int) + 2 = 8 from rfl, show (6 : Int) + 3 = 9 from rfl, show (6 : Int) + 4 = 10 from rfl, show (6 : Int) + 5 = 11 from rfl, show (6 : Int) + 6 = 12 from rfl, show (6 : Int) + 7 = 13 from rfl] at a0 a1 a2 a3 a4 a5 a6 a7 x0
  unfold nm
  omega
section LDD
variable {b : Int → Int} {n : Int} {R : PR} {Q : Int → Hp → Prop} {h0 : Hp}
theorem noC_0 {A : Hp → Prop} (hx : noC b n R Q h0) : noC b n R (fun z h => (¬ z = 0 → A h) ∧ (z = 0 → Q 0 h)) h0 := fun h' e p q t w f => ⟨fun w => absurd rfl w, fun _ => hx h' e p q t w f⟩
theorem p2_side {h : Hp} {s : Int} {K : Int → Int → PR} (he : eT b n) (ht : tkC h b n s) (s0 : 0 ≤ s) (s1 : s ≤ n) (h2 : h 178 2 = 0) (hf : frL h0 h) (hR : ldSide b n s K = R) (hy : ∀ x h', K x (nx b n s) = R → (0 ≤ x ∧ x ≤ 250) → tkC h' b n (nx b n s) → h' 178 2 = 0 → h' 178 3 = x → frT h h' → Q 1 h') (hx : noC b n R Q h0) : mX2_takeSide h Q := by
  unfold ldSide ldNum at hR
  refine p2_takeSide he ht s0 s1 (fun d q tq q2 q3 fq => ?_) (fun c d q tq q2 fq => ?_)
  · by_cases c : isW b n s 9 = true
    · rw [if_pos c] at hR q3
      exact hy 0 q hR (by omega) tq (by omega) q3 fq
    · rw [if_neg c] at hR q3
      have d' : nbE b n s 1 250 = 0 := by
        rcases d with d | d
        · exact absurd d c
        · exact d
      rw [if_pos d'] at hR
      have hv := nbE_0.mp d'
      exact hy _ q hR (by omega) tq (by omega) q3 fq
  · rw [c, if_neg (by decide), if_neg d] at hR
    rw [← hR] at hx
    exact hx q d s0 s1 tq q2 (frL_tr hf (frL_T fq))
theorem p2_readRule {h : Hp} {s : Int} {r : Rw} {k : Int → Rw → PR} (he : eT b n) (ht : tkC h b n s) (s0 : 0 ≤ s) (s1 : s ≤ n) (hn : nets h 13 r) (ho : okL r) (hf : frL h0 h) (hR : ldRule b n s r k = R) (hy : goC b n R Q h0 okL s k) (hx : noC b n R Q h0) : mX2_readRule h Q := by
  unfold mX2_readRule
  unfold ldRule at hR
  have a1 := nx_r (b := b) s0 s1
  rw [hn.1.2.1]
  refine ⟨fun c0 => p6_advance he ht s0 s1 fun g tg g1 gf => ?_, fun c0 => noC_fail ht s0 s1 (by decide) hf (by rw [if_neg c0] at hR; exact hR) hx⟩
  rw [if_pos c0] at hR
  have fg : frT h g := ⟨g1, fun p p1 p2 => gf p p1⟩
  have a2 := nx_r (b := b) (show 0 ≤ nx b n s by omega) a1.2
  unfold ldNum at hR
  generalize hs1 : nx b n s = t at *
  refine p2_takeNumber (by omega) (by omega) he tg (by omega) a1.2 (fun d q tq q2 q3 fq => ⟨fun _ => ?_, fun w => absurd w (by decide)⟩) (fun d q tq q2 fq => ⟨fun w => absurd rfl w, fun _ => ?_⟩)
  · rw [if_pos d] at hR
    dsimp only at hR
    have hv := nbE_0.mp d
    have F : frT h q := frT_tr fg fq
    have a3 := nx_r (b := b) (show 0 ≤ nx b n t by omega) a2.2
    have sub : ∀ a, (a = 0 ∨ a = 1) → ldR2 b n (vM b n t) a (nx b n (nx b n t)) r k = R → mX2_readRule_b73 Q (q 178 3) a q := fun a ha hR => by
      unfold mX2_readRule_b73
      rw [q3]
      unfold ldR2 at hR
      have a4 := nx_r (b := b) (show 0 ≤ nx b n (nx b n t) by omega) a3.2
      have a5 := nx_r (b := b) (show 0 ≤ nx b n (nx b n (nx b n t)) by omega) a4.2
      refine p6_advance he tq (by omega) a2.2 fun u tu u1 uf => ?_
      have fu : frT h u := frT_tr F ⟨u1, fun p p1 p2 => uf p p1⟩
      refine p2_side he tu (by omega) a3.2 (by rw [uf 178 (by omega)]; exact q2) (frL_tr hf (frL_T fu)) hR (fun x v hR x1 tv v2 v3 fv => ⟨fun _ => ?_, fun w => absurd w (by decide)⟩) (noC_0 hx)
      have fv' : frT h v := frT_tr fu fv
      rw [v3]
      refine p2_side he tv (by omega) a4.2 v2 (frL_tr hf (frL_T fv')) hR (fun y w hR y1 tw w2 w3 fw => ⟨fun _ => ?_, fun w => absurd w (by decide)⟩) (noC_0 hx)
      have fw' : frT h w := frT_tr fv' fw
      rw [w3]
      refine p3_appendRule (nets_T hn fw') ho.1.1.1 c0 fun m nm' fm => ?_
      have ea : (if a = 0 then (0 : Int) else 1) = a := by rcases ha with c | c <;> subst c <;> rfl
      rw [ea] at nm'
      refine hy _ _ m hR (by omega) a5.2 (tkC_fr tw (fm 176 (by omega)) (fm 177 (by omega))) nm' (okL_apU ho c0 (by omega) ha x1 y1) ?_ (frL_tr hf (frL_tr (frL_T fw') (frL_n fun p hp => fm p (by omega))))
      rw [fm 178 (by omega)]; exact w2
    refine p6_isWord (by omega) he tq (by omega) a2.2 ⟨fun c => ?_, fun c => ?_⟩
    · have c' := b2i1.mp c
      rw [if_pos c'] at hR
      rw [c']
      exact sub 1 (Or.inr rfl) hR
    · have c' := b2i0.mp c
      rw [c', if_neg (by decide)] at hR
      rw [c']
      refine p6_isWord (by omega) he tq (by omega) a2.2 ⟨fun c2 => ?_, fun c2 => ?_⟩
      · rw [if_pos (b2i1.mp c2)] at hR
        exact sub 0 (Or.inl rfl) hR
      · rw [b2i0.mp c2, if_neg (by decide)] at hR
        exact noC_fail tq (by omega) a2.2 (by decide) (frL_tr hf (frL_T F)) hR hx
  · rw [if_neg d] at hR
    rw [← hR] at hx
    exact hx q d (by show 0 ≤ t; omega) a1.2 tq q2 (frL_tr hf (frL_tr (frL_T fg) (frL_T fq)))
theorem p2_readMove {h : Hp} {s : Int} {r : Rw} {k : Int → Rw → PR} (he : eT b n) (ht : tkC h b n s) (s0 : 0 ≤ s) (s1 : s ≤ n) (hn : nets h 13 r) (ho : okL r) (hf : frL h0 h) (hR : ldMove b n s r k = R) (hy : goC b n R Q h0 okL s k) (hx : noC b n R Q h0) : mX2_readMove h Q := by
  unfold mX2_readMove
  unfold ldMove at hR
  have o1 := ho.1.1.1
  unfold okR at o1
  have a1 := nx_r (b := b) s0 s1
  refine p6_advance he ht s0 s1 fun g tg g1 gf => ?_
  have fg : frT h g := ⟨g1, fun p p1 p2 => gf p p1⟩
  have ng := nets_T hn fg
  have a2 := nx_r (b := b) (show 0 ≤ nx b n s by omega) a1.2
  generalize hs1 : nx b n s = t at *
  rw [tg.2.2.1]
  refine ⟨fun c1 => ?_, fun c1 => noC_fail tg (by omega) a1.2 (by decide) (frL_tr hf (frL_T fg)) (by rw [if_neg c1] at hR; exact hR) hx⟩
  rw [if_pos c1] at hR
  refine p6_asName he tg (by omega) a1.2 c1 ?_
  have hlt := te_lt (b := b) (n := n) (show 0 ≤ t by omega) (kd_lt (b := b) (by omega))
  have hlet : ∀ k, 0 ≤ k → k < te b n t - t → 97 ≤ b (t + k) ∧ b (t + k) ≤ 122 := fun k k1 k2 => by
    have := te_in (show 0 ≤ t by omega) c1 (i := t + k) (by omega) (by omega)
    unfold pL at this
    rw [Bool.and_eq_true, decide_eq_true_eq, decide_eq_true_eq] at this
    exact this
  have en : fs (fun i => decide (nm r i = if te b n t - t ≤ 8 then nmLl (ltk b t (te b n t - t)) else 0)) 0 (r 0) = hnm r b n t := by
    unfold hnm
    refine fs_congr fun i i1 i2 => ?_
    have oH := ho.1.1.2.2.2.2.1 i i1 i2
    have h5 := ho.2.2.2 i i1 i2
    by_cases c8 : te b n t - t ≤ 8
    · rw [if_pos c8]
      exact nm_nmd oH h5 (by omega) hlet
    · rw [if_neg c8]
      have n1 : ¬ nm r i = 0 := nm_pos oH h5
      obtain ⟨-, -, -, -, -, -, o5, -⟩ := oH
      unfold nmd
      rw [decide_eq_false n1, decide_eq_false (show ¬ fl r i 5 = te b n t - t by omega), Bool.false_and]
  refine p3_hostNamed ng ho.1.1 ?_
  rw [en]
  have F4 : mX2_readMove_b69 Q g ∨ ¬ ((4, t, bgR) : PR) = R := by
    by_cases c : ((4, t, bgR) : PR) = R
    · exact Or.inl (noC_fail tg (by omega) a1.2 (by decide) (frL_tr hf (frL_T fg)) c hx)
    · exact Or.inr c
  have G4 : ((4, t, bgR) : PR) = R → mX2_readMove_b69 Q g := fun c => by
    rcases F4 with q | q
    · exact q
    · exact absurd c q
  rcases hnm_r (r := r) (b := b) (n := n) (s := t) with hm | hm
  · rw [if_pos hm] at hR
    exact ⟨fun _ => G4 hR, fun w => absurd hm w⟩
  · rw [if_neg (by omega)] at hR
    refine ⟨fun w => by omega, fun _ => ⟨⟨hm.1, by omega⟩, ?_⟩⟩
    generalize hi : hnm r b n t = i at *
    rw [show rd g 17 i = fl r i 2 from (ng.2.1 i hm.1 hm.2).2.2.2.1, show rd g 19 i = fl r i 4 from (ng.2.1 i hm.1 hm.2).2.2.2.2.2.1]
    by_cases c2 : fl r i 2 = 1
    · rw [if_pos c2] at hR
      exact ⟨fun _ => G4 hR, fun w => absurd c2 w⟩
    rw [if_neg c2] at hR
    refine ⟨fun w => absurd w c2, fun _ => ⟨⟨hm.1, by omega⟩, ?_⟩⟩
    by_cases c4 : fl r i 4 = 0
    · rw [if_pos c4] at hR
      refine ⟨fun _ => ?_, fun w => absurd c4 w⟩
      refine p6_advance he tg (by omega) a1.2 fun q tq q1 qf => ?_
      have fq : frT h q := frT_tr fg ⟨q1, fun p p1 p2 => qf p p1⟩
      unfold ldNum at hR
      have a3 := nx_r (b := b) (show 0 ≤ nx b n t by omega) a2.2
      refine p2_takeNumber (by omega) (by omega) he tq (by omega) a2.2 (fun d q' tq' q2' q3' fq' => ⟨fun _ => ?_, fun w => absurd w (by decide)⟩) (fun d q' tq' q2' fq' => ⟨fun w => absurd rfl w, fun _ => ?_⟩)
      · rw [if_pos d] at hR
        unfold ldM3 at hR
        dsimp only at hR
        have hv := nbE_0.mp d
        have F' : frT h q' := frT_tr fq fq'
        generalize hs3 : nx b n (nx b n t) = u at *
        refine p2_isNumber (by omega) (by omega) tq' (by omega) a3.2 ?_
        have tm : tkC (hu q' 178 2 (nbE b n u 1 9)) b n u := tkC_hu tq'
        have Fm : frT h (hu q' 178 2 (nbE b n u 1 9)) := frT_tr F' frT_hu
        by_cases d2 : nbE b n u 1 9 = 0
        · rw [if_pos d2]
          rw [if_pos d2] at hR
          have hv2 := nbE_0.mp d2
          refine ⟨fun _ => ?_, fun w => absurd w (by decide)⟩
          have e6 : hu q' 178 2 (nbE b n u 1 9) 176 6 = vM b n u := by
            rw [tm.2.2.2.2, if_pos hv2.1]
            exact vC_in (by omega) a3.2 hv2.1 (by omega) hv2.2.2
          have nm' := nets_T hn Fm
          rw [q3', e6]
          refine p3_plansIn nm' ho.1.1 ?_
          rw [nm'.1.2.2.2.2.1]
          have ep : cn (fun i => decide (fl r i 4 = vM b n u)) 0 (r 0) = pln r (vM b n u) := rfl
          rw [ep]
          refine ⟨fun c5 => ?_, fun c5 => noC_fail tm (by omega) a3.2 (by decide) (frL_tr hf (frL_T Fm)) (by rw [if_neg c5] at hR; exact hR) hx⟩
          rw [if_pos c5] at hR
          have a4 := nx_r (b := b) (show 0 ≤ u by omega) a3.2
          refine p3_setPlan nm' ho.1.1.1 hm fun m nmm fm => ?_
          have tmm : tkC m b n u := tkC_fr tm (fm 176 (by omega) (by omega)) (fm 177 (by omega) (by omega))
          refine p6_advance he tmm (by omega) a3.2 fun v tv v1 vf => hy _ _ v hR (by omega) a4.2 tv (nets_frame nmm (fun p p1 p2 => vf p (by omega))) (okL_pl ho hm hv.2 hv2.2) ?_ ?_
          · rw [vf 178 (by omega), fm 178 (by omega) (by omega), hu_same]; exact d2
          · exact frL_tr hf (frL_tr (frL_T Fm) (frL_tr (frL_n fun p hp => fm p (by omega) (by omega)) (frL_T ⟨v1, fun p p1 p2 => vf p p1⟩)))
        · rw [if_neg d2]
          rw [if_neg d2] at hR
          rw [← hR] at hx
          exact ⟨fun w => absurd rfl w, fun _ => hx _ d2 (by show 0 ≤ u; omega) a3.2 tm hu_same (frL_tr hf (frL_T Fm))⟩
      · rw [if_neg d] at hR
        rw [← hR] at hx
        exact hx q' d (by show 0 ≤ nx b n t; omega) a2.2 tq' q2' (frL_tr hf (frL_tr (frL_T fq) (frL_T fq')))
    · rw [if_neg c4] at hR
      exact ⟨fun w => absurd w c4, fun _ => G4 hR⟩
theorem p2_readHead {h : Hp} {s : Int} {K : Int → Rw → PR} (he : eT b n) (ht : tkC h b n s) (s0 : 0 ≤ s) (s1 : s ≤ n) (hn : nets h 13 bgR) (h2 : h 178 2 = 0) (hf : frL h0 h) (hR : (if isW b n s 0 = true then ldKeep b n (nx b n s) bgR (fun s1 r1 => ldPer b n s1 r1 (fun s2 r2 => ldPool b n s2 r2 (fun s3 r3 => ldSemi b n s3 (fun s4 => K s4 r3)))) else (1, s, bgR)) = R) (hy : goC b n R Q h0 okE s K) (hx : noC b n R Q h0) : mX2_readHead h Q := by
  unfold mX2_readHead
  have a1 := nx_r (b := b) s0 s1
  refine p2_takeWord (by omega) he ht s0 s1 (fun c g tg g1 fg => ⟨fun w => absurd w (by decide), fun _ => ?_⟩) (fun c g tg g2 fg => ⟨fun _ => ?_, fun w => absurd rfl w⟩)
  · rw [if_pos c] at hR
    have hx' : ∀ {A : Hp → Prop}, noC b n R (fun z h => (z = 0 → Q 0 h) ∧ (¬ z = 0 → A h)) h0 := fun h' e p q t w f => ⟨fun _ => hx h' e p q t w f, fun w => absurd rfl w⟩
    refine p2_readKeep he tg (by omega) a1.2 (nets_T hn fg) okE_bg (by rw [g1]; exact h2) (frL_tr hf (frL_T fg)) hR (fun t1 r1 u hR t10 t11 tu nu ou u2 fu => ⟨fun w => absurd w (by decide), fun _ => ?_⟩) hx'
    refine p2_readPer he tu (by omega) t11 nu ou u2 fu hR (fun t2 r2 v hR t20 t21 tv nv ov v2 fv => ⟨fun w => absurd w (by decide), fun _ => ?_⟩) hx'
    refine p2_readPool he tv (by omega) t21 nv ov v2 fv hR (fun t3 r3 x hR t30 t31 tx nx3 ox x2 fx => ⟨fun w => absurd w (by decide), fun _ => ?_⟩) hx'
    unfold ldSemi at hR
    have a2 := nx_r (b := b) (show 0 ≤ t3 by omega) t31
    refine p2_takeSemicolon he tx (by omega) t31 (fun c y ty y1 fy => ⟨fun w => absurd w (by decide), fun _ => ?_⟩) (fun c y ty y2 fy => ⟨fun _ => ?_, fun w => absurd rfl w⟩)
    · rw [if_pos c] at hR
      exact hy _ _ y hR (by omega) a2.2 ty (nets_T nx3 fy) ox (by rw [y1]; exact x2) (frL_tr fx (frL_T fy))
    · rw [c, if_neg (by decide)] at hR
      rw [← hR] at hx
      exact hx y (by show ¬ (1 : Int) = 0; decide) (by show 0 ≤ t3; omega) t31 ty y2 (frL_tr fx (frL_T fy))
  · rw [c, if_neg (by decide)] at hR
    rw [← hR] at hx
    exact hx g (by show ¬ (1 : Int) = 0; decide) s0 s1 tg g2 (frL_tr hf (frL_T fg))
theorem p2_loop (he : eT b n) (Q : Int → Hp → Prop) (hy : R.1 = 0 → ∀ h', nets h' 13 R.2.2 → okL R.2.2 → h' 178 2 = 0 → frL h0 h' → Q 0 h') (hx : ¬ R.1 = 0 → ∀ h', tkC h' b n R.2.1 → 0 ≤ R.2.1 → R.2.1 ≤ n → h' 178 2 = R.1 → frL h0 h' → Q R.1 h') : ∀ (m : Nat) (v s : Int) (r : Rw) (h : Hp), m ≤ 900 → v = 900 - (m : Int) → 0 ≤ s → s ≤ n → tkC h b n s → nets h 13 r → okL r → h 178 2 = 0 → frL h0 h → ldCl b n m s r = R → mX2_readText_b19 Q (m + 1) 1 v h := by
  have fin : ∀ s r h, nets h 13 r → okL r → h 178 2 = 0 → frL h0 h → (0, s, r) = R → mX2_readText_b126 Q h := fun s r h hn ho h2 hf hR => by
    unfold mX2_readText_b126
    rw [h2]
    rw [← hR] at hy
    exact hy rfl h hn ho h2 hf
  intro m
  induction m with
  | zero =>
    intro v s r h m9 hv s0 s1 ht hn ho h2 hf hR
    unfold mX2_readText_b19
    exact ⟨fun w => absurd w (by decide), fun _ => ⟨fun _ => fin s r h hn ho h2 hf hR, fun w => by omega⟩⟩
  | succ m ih =>
    intro v s r h m9 hv s0 s1 ht hn ho h2 hf hR
    unfold mX2_readText_b19
    rw [ldCl_s] at hR
    rw [ht.2.2.1]
    refine ⟨fun w => absurd w (by decide), fun _ => ⟨fun w => by omega, fun _ => ⟨fun c => ?_, fun c => ?_⟩⟩⟩
    · rw [if_pos c] at hR
      exact fin s r h hn ho h2 hf hR
    rw [if_neg c] at hR
    have bad : ∀ h', ¬ R.1 = 0 → 0 ≤ R.2.1 → R.2.1 ≤ n → tkC h' b n R.2.1 → h' 178 2 = R.1 → frL h0 h' → mX2_readText_b118 Q (mX2_readText_b19 Q (m + 1)) v h' := fun h' e p q t w f => by
      unfold mX2_readText_b118 mX2_readText_b119
      refine ⟨zri (by omega) (by omega), ?_⟩
      unfold mX2_readText_b19
      refine ⟨fun _ => ?_, fun w => absurd rfl w⟩
      unfold mX2_readText_b126
      rw [w]
      exact hx e h' t p q w f
    have hx' : noC b n R (fun z h' => mX2_readText_b102 Q (mX2_readText_b19 Q (m + 1)) v z h') h0 := fun h' e p q t w f => by
      unfold mX2_readText_b102
      exact ⟨fun _ => bad h' e p q t w f, fun w => absurd rfl w⟩
    have hg : goC b n R (fun z h' => mX2_readText_b102 Q (mX2_readText_b19 Q (m + 1)) v z h') h0 okL s (fun s' r' => ldSemi b n s' (fun s2 => ldCl b n m s2 r')) := fun t r' g hR t0 t1 tg ng og g2 fg => by
      unfold mX2_readText_b102
      unfold ldSemi at hR
      dsimp only at hR
      have a2 := nx_r (b := b) (show 0 ≤ t by omega) t1
      refine ⟨fun w => absurd w (by decide), fun _ => p2_takeSemicolon he tg (by omega) t1 (fun c y ty y1 fy => ⟨fun w => absurd w (by decide), fun _ => ?_⟩) (fun c y ty y2 fy => ⟨fun _ => ?_, fun w => absurd rfl w⟩)⟩
      · rw [if_pos c] at hR
        unfold mX2_readText_b119
        exact ⟨zri (by omega) (by omega), ih (v + 1) _ r' y (by omega) (by omega) (by omega) a2.2 ty (nets_T ng fy) og (by rw [y1]; exact g2) (frL_tr fg (frL_T fy)) hR⟩
      · rw [c, if_neg (by decide)] at hR
        rw [← hR] at bad
        exact bad y (by show ¬ (1 : Int) = 0; decide) (by show 0 ≤ t; omega) t1 ty y2 (frL_tr fg (frL_T fy))
    refine p6_isWord (by omega) he ht s0 s1 ⟨fun c4 => ?_, fun c4 => ?_⟩
    · rw [b2i0.mp c4, if_neg (by decide)] at hR
      refine p6_isWord (by omega) he ht s0 s1 ⟨fun c6 => ?_, fun c6 => ?_⟩
      · rw [b2i0.mp c6, if_neg (by decide)] at hR
        refine p6_isWord (by omega) he ht s0 s1 ⟨fun c10 => ?_, fun c10 => ?_⟩
        · rw [b2i0.mp c10, if_neg (by decide)] at hR
          exact noC_fail ht s0 s1 (by decide) hf hR hx'
        · rw [if_pos (b2i1.mp c10)] at hR
          exact p2_readMove he ht s0 s1 hn ho hf hR hg hx'
      · rw [if_pos (b2i1.mp c6)] at hR
        exact p2_readRule he ht s0 s1 hn ho hf hR hg hx'
    · rw [if_pos (b2i1.mp c4)] at hR
      exact p2_readHost he ht s0 s1 hn ho h2 hf hR hg hx'
theorem p2_readText {h : Hp} (he : eT b n) (ht : tkC h b n (ws b n 0)) (hR : LD b n = R) (hy : R.1 = 0 → ∀ h', nets h' 13 R.2.2 → okL R.2.2 → h' 178 2 = 0 → frL h h' → Q 0 h') (hx : ¬ R.1 = 0 → ∀ h', tkC h' b n R.2.1 → 0 ≤ R.2.1 → R.2.1 ≤ n → h' 178 2 = R.1 → frL h h' → Q R.1 h') : mX2_readText h Q := by
  unfold mX2_readText
  unfold LD at hR
  have s0 : 0 ≤ ws b n 0 ∧ ws b n 0 ≤ n := rn_r (Int.le_refl 0) he.1.1
  intro g eg
  have fg : frL h g := by rw [eg]; exact frL_T frT_hu
  refine p3_clear fun u nu fu => ?_
  have fu' : frL h u := frL_tr fg (frL_n fun p hp => fu p (by omega))
  have tu : tkC u b n (ws b n 0) := tkC_fr (by rw [eg]; exact tkC_hu ht) (fu 176 (by omega)) (fu 177 (by omega))
  have u2 : u 178 2 = 0 := by rw [fu 178 (by omega), eg]; exact hu_same
  refine p2_readHead (K := fun s4 r3 => ldCl b n 900 s4 r3) (h0 := h) he tu s0.1 s0.2 nu u2 fu' hR (fun t r v hR t0 t1 tv nv ov v2 fv => ⟨901, ?_⟩) (fun v e p q tv w fv => ⟨1, ?_⟩)
  · exact p2_loop he Q hy hx 900 0 t r v (by omega) (by omega) (by omega) t1 tv nv ov.2.2 v2 fv hR
  · unfold mX2_readText_b19
    refine ⟨fun _ => ?_, fun w => absurd rfl w⟩
    unfold mX2_readText_b126
    rw [w]
    exact hx e v tv p q w fv
end LDD

