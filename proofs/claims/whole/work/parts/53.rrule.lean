/-! the reference's reading of rules and moves -/
section REJ
variable {b : Int → Int} {n : Int} {R : PR} {Q : Hp → Prop} {h0 : Hp}
theorem mdR_apU {r g : Rw} {o a x y : Int} (hm : mdR r g) (h0 : 0 ≤ r 0 ∧ r 0 ≤ 40) (h1 : 0 ≤ r 1 ∧ r 1 < 30) : mdR (apU r o a x y) (up (sr (sr (sr (sr g (r 1) 0 o) (r 1) 1 a) (r 1) 2 x) (r 1) 3 y) 1 (r 1 + 1)) := by
  have Gf : ∀ i j, 0 ≤ i → i < 40 → 0 ≤ j → j < 24 → fl (up (sr (sr (sr (sr g (r 1) 0 o) (r 1) 1 a) (r 1) 2 x) (r 1) 3 y) 1 (r 1 + 1)) i j = fl g i j := fun i j i1 i2 j1 j2 => by
    rw [fl_up (by omega) i1 j1 (by omega) i2 j2, fl_sr h1.1 (by omega) ⟨i1, i2⟩ ⟨j1, j2⟩, fl_sr h1.1 (by omega) ⟨i1, i2⟩ ⟨j1, j2⟩, fl_sr h1.1 (by omega) ⟨i1, i2⟩ ⟨j1, j2⟩, fl_sr h1.1 (by omega) ⟨i1, i2⟩ ⟨j1, j2⟩]
  refine ⟨⟨fun k k1 k2 => ?_, fun i i1 i2 j j1 j2 => ?_, fun k k1 k2 j j1 j2 => ?_⟩, fun i j i1 i0 i2 j1 j2 => ?_⟩
  · by_cases c : k = 1
    · rw [c, up_same, apU_1]
    · rw [up_ne (by omega) k1 c, hd_sr h1.1 (by omega) ⟨k1, by omega⟩, hd_sr h1.1 (by omega) ⟨k1, by omega⟩, hd_sr h1.1 (by omega) ⟨k1, by omega⟩, hd_sr h1.1 (by omega) ⟨k1, by omega⟩, apU_k c (by omega)]
      exact hm.1.1 k k1 k2
  · rw [apU_k (by omega) (by omega)] at i2
    rw [Gf i j i1 (by omega) j1 j2, apU_f ⟨i1, by omega⟩ ⟨j1, j2⟩]
    exact hm.1.2.1 i i1 i2 j j1 j2
  · rw [apU_1] at k2
    rw [rl_up (by omega) k1 j1 (by omega), rl_sr h1.1 (by omega) k1 ⟨j1, j2⟩, rl_sr h1.1 (by omega) k1 ⟨j1, j2⟩, rl_sr h1.1 (by omega) k1 ⟨j1, j2⟩, rl_sr h1.1 (by omega) k1 ⟨j1, j2⟩]
    by_cases c : k = r 1
    · rw [c, apU_n h1.1 ⟨j1, j2⟩]
      simp only [true_and]
      have d : j = 0 ∨ j = 1 ∨ j = 2 ∨ j = 3 := by omega
      rcases d with d | d | d | d <;> subst d <;> simp
    · rw [if_neg (fun w => c w.1), if_neg (fun w => c w.1), if_neg (fun w => c w.1), if_neg (fun w => c w.1), apU_r k1 ⟨j1, j2⟩ c]
      exact hm.1.2.2 k k1 (by omega) j j1 j2
  · rw [apU_k (by omega) (by omega)] at i1
    rw [Gf i j i0 i2 j1 j2]
    exact hm.2 i j i1 i0 i2 j1 j2
theorem p8_readsRule {h : Hp} {s : Int} {r : Rw} {k : Int → Rw → PR} (he : eT b n) (ht : tkM h b n s) (s0 : 0 ≤ s) (s1 : s ≤ n) (hm : mdR r (rd h 187)) (ho : okL r) (hg : h 185 16 = 0) (hf : frR h0 h) (hR : ldRule b n s r k = R) (hy : goM b n R Q h0 okL s k) (hx : noM R Q h0) : mX8_readsRule h Q := by
  unfold mX8_readsRule
  unfold ldRule at hR
  have o1 := ho.1.1.1
  unfold okR at o1
  have a1 := nx_r (b := b) s0 s1
  rw [hm.1.hd.2.1]
  refine ⟨by omega, fun c0 => p8_next he ht s0 s1 fun g tg kg fg => ?_, fun c0 => noM_w (Q' := fun _ h' => Q h') ht hg (by decide) hf (by rw [if_neg (by omega)] at hR; exact hR) hx⟩
  rw [if_pos (by omega)] at hR
  have eg : frE h g := frE_ke kg fg
  have rg : rd g 187 = rd h 187 := rd_ne (fg 187 (by omega))
  have gg : g 185 16 = 0 := by rw [kg 16 (by omega)]; exact hg
  have a2 := nx_r (b := b) (show 0 ≤ nx b n s by omega) a1.2
  have Fg : frR h0 g := frR_tr hf (frE_R eg)
  generalize hs1 : nx b n s = t at *
  unfold ldNum at hR
  refine p8_ruleCell (by omega) (by omega) (p8_number he tg gg (by omega) a1.2 (fun d v tv v1 fv => ⟨by omega, fun u eu => ?_⟩) (fun d v v1 v2 fv => ⟨by omega, fun u eu => ?_⟩))
  · rw [if_pos d] at hR
    dsimp only at hR
    have hv := nbE_0.mp d
    have uv : ∀ p, p ≠ 187 → u p = v p := fun p hp => by rw [eu, wr_q hp]
    have ru : rd u 187 = sr (rd h 187) (r 1) 0 (vM b n t) := by rw [eu, rd_wr, rd_ne (fv.2 187 (by omega)), rg]; rfl
    have tu : tkM u b n (nx b n t) := tkM_R tv uv
    have u1 : u 185 16 = 0 := by rw [uv 185 (by omega)]; exact v1
    have Fu : frR h0 u := frR_tr Fg (frR_tr (frE_R fv) (frR_m uv))
    generalize hs3 : nx b n t = w at *
    have a3 := nx_r (b := b) (show 0 ≤ w by omega) a2.2
    have sub : ∀ (a : Int) (m : Hp), ldR2 b n (vM b n t) a (nx b n w) r k = R → tkM m b n w → m 185 16 = 0 → frR h0 m → rd m 187 = sr (sr (rd h 187) (r 1) 0 (vM b n t)) (r 1) 1 a → (a = 0 ∨ a = 1) → mX8_readsRule_b94 Q (r 1) m := fun a m hR tm m1 Fm rm ha => by
      unfold mX8_readsRule_b94
      unfold ldR2 at hR
      have a4 := nx_r (b := b) (show 0 ≤ nx b n w by omega) a3.2
      have a5 := nx_r (b := b) (show 0 ≤ nx b n (nx b n w) by omega) a4.2
      refine p8_good1 m1 ⟨fun _ => p8_next he tm (by omega) a2.2 fun y ty ky fy => p8_ruleCell (by omega) (by omega) ?_, fun q => absurd q (by decide)⟩
      have y1 : y 185 16 = 0 := by rw [ky 16 (by omega)]; exact m1
      have Fy : frR h0 y := frR_tr Fm (frE_R (frE_ke ky fy))
      refine p8_side he ty y1 (by omega) a3.2 hR (fun x z hR x1 tz z1 fz => ⟨by omega, fun c ec => p8_ruleCell (by omega) (by omega) ?_⟩) (fun z e z1 z2 fz => ⟨by omega, fun c ec => p8_ruleCell (by omega) (by omega) ?_⟩)
      · have cz : ∀ p, p ≠ 187 → c p = z p := fun p hp => by rw [ec, wr_q hp]
        have c1 : c 185 16 = 0 := by rw [cz 185 (by omega)]; exact z1
        have Fc : frR h0 c := frR_tr Fy (frR_tr (frE_R fz) (frR_m cz))
        refine p8_side he (tkM_R tz cz) c1 (by omega) a4.2 hR (fun x' i hR x1' ti i1 fi => ⟨by omega, fun j ej => ?_⟩) (fun i e i1 i2 fi => ⟨by omega, fun j ej => ?_⟩)
        · have ji : ∀ p, p ≠ 187 → j p = i p := fun p hp => by rw [ej, wr_q hp]
          have j1 : j 185 16 = 0 := by rw [ji 185 (by omega)]; exact i1
          refine p8_good1 j1 ⟨fun q => absurd q (by decide), fun _ => ⟨zri (by omega) (by omega), by omega, fun l el => ?_⟩⟩
          have lj : ∀ p, p ≠ 187 → l p = j p := fun p hp => by rw [el, wr_q hp]
          refine hy _ _ l hR (by omega) a5.2 (tkM_R (tkM_R ti ji) lj) ?_ (okL_apU ho (by omega) (by omega) ha x1 x1') (by rw [lj 185 (by omega)]; exact j1) (frR_tr Fc (frR_tr (frE_R fi) (frR_tr (frR_m ji) (frR_m lj))))
          have rl' : rd l 187 = up (sr (sr (sr (sr (rd h 187) (r 1) 0 (vM b n t)) (r 1) 1 a) (r 1) 2 x) (r 1) 3 x') 1 (r 1 + 1) := by
            rw [el, rd_wr, ej, rd_wr, rd_ne (fi.2 187 (by omega)), ec, rd_wr, rd_ne (fz.2 187 (by omega)), rd_ne (fy 187 (by omega)), rm]
            rfl
          rw [rl']
          exact mdR_apU hm (by omega) (by omega)
        · have ji : ∀ p, p ≠ 187 → j p = i p := fun p hp => by rw [ej, wr_q hp]
          have j1 : ¬ j 185 16 = 0 := by rw [ji 185 (by omega), i1]; exact e
          exact p8_good0 j1 ⟨fun _ => hx j e (by rw [ji 185 (by omega)]; exact i1) (by rw [ji 185 (by omega)]; exact i2) (frR_tr Fc (frR_tr (frE_R fi) (frR_m ji))), fun q => absurd rfl q⟩
      · have cz : ∀ p, p ≠ 187 → c p = z p := fun p hp => by rw [ec, wr_q hp]
        have c1 : ¬ c 185 16 = 0 := by rw [cz 185 (by omega), z1]; exact e
        refine p8_side0 c1 ⟨by omega, fun j ej => ?_⟩
        have jc : ∀ p, p ≠ 187 → j p = c p := fun p hp => by rw [ej, wr_q hp]
        have j1 : ¬ j 185 16 = 0 := by rw [jc 185 (by omega)]; exact c1
        refine p8_good0 j1 ⟨fun _ => hx j e ?_ ?_ (frR_tr Fy (frR_tr (frE_R fz) (frR_tr (frR_m cz) (frR_m jc)))), fun q => absurd rfl q⟩
        · rw [jc 185 (by omega), cz 185 (by omega)]; exact z1
        · rw [jc 185 (by omega), cz 185 (by omega)]; exact z2
    refine p8_isWord cdws.2.2.2.2.2.2.2.1.symm (by omega) u1 tu (by omega) a2.2 he ⟨fun c => ?_, fun c => p8_ruleCell (by omega) (by omega) ⟨by omega, fun m em => ?_⟩⟩
    · rw [b2i0.mp c, if_neg (by decide)] at hR
      refine p8_isWord cdws.2.2.2.2.2.2.2.2.1.symm (by omega) u1 tu (by omega) a2.2 he ⟨fun c2 => ?_, fun c2 => p8_ruleCell (by omega) (by omega) ⟨by omega, fun m em => ?_⟩⟩
      · rw [b2i0.mp c2, if_neg (by decide)] at hR
        rw [← hR] at hx
        refine p8_wrongs u1 fun a a1 a2 a3 a4 => ?_
        unfold mX8_readsRule_b94
        exact p8_good0 (by rw [a1]; decide) ⟨fun q => absurd rfl q, fun _ => hx a (by show ¬ (1 : Int) = 0; decide) a1 (a2.trans tu.2.2.2.1) (frR_tr Fu (frE_R (frE_w (by rw [a1]; first | exact e0 | exact he | decide) a3 a4)))⟩
      · rw [if_pos (b2i1.mp c2)] at hR
        have mu : ∀ p, p ≠ 187 → m p = u p := fun p hp => by rw [em, wr_q hp]
        exact sub 0 m hR (tkM_R tu mu) (by rw [mu 185 (by omega)]; exact u1) (frR_tr Fu (frR_m mu)) (by rw [em, rd_wr, ru]; rfl) (Or.inl rfl)
    · rw [if_pos (b2i1.mp c)] at hR
      have mu : ∀ p, p ≠ 187 → m p = u p := fun p hp => by rw [em, wr_q hp]
      exact sub 1 m hR (tkM_R tu mu) (by rw [mu 185 (by omega)]; exact u1) (frR_tr Fu (frR_m mu)) (by rw [em, rd_wr, ru]; rfl) (Or.inr rfl)
  · rw [if_neg d] at hR
    have uv : ∀ p, p ≠ 187 → u p = v p := fun p hp => by rw [eu, wr_q hp]
    have u1 : u 185 16 = nbE b n t 0 1 := by rw [uv 185 (by omega)]; exact v1
    have nu : ¬ u 185 16 = 0 := by rw [u1]; exact d
    have fin : mX8_readsRule_b94 Q (r 1) u := by
      unfold mX8_readsRule_b94
      exact p8_good0 nu ⟨fun q => absurd rfl q, fun _ => noM_at d u1 (by rw [uv 185 (by omega)]; exact v2) (frR_tr Fg (frR_tr (frE_R fv) (frR_m uv))) hR hx⟩
    exact p8_isWord0 nu ⟨fun _ => p8_isWord0 nu ⟨fun _ => p8_wrongs0 nu fin, fun q => absurd rfl q⟩, fun q => absurd rfl q⟩
theorem mdR_pl {r g : Rw} {i v w : Int} (hm : mdR r g) (h0 : 0 ≤ r 0 ∧ r 0 ≤ 40) (h1 : 0 ≤ i ∧ i < r 0) : mdR (plR r i v w) (plR g i v w) := by
  refine ⟨⟨fun k k1 k2 => ?_, fun x x1 x2 j j1 j2 => ?_, fun k k1 k2 j j1 j2 => ?_⟩, fun x j x1 x0 x2 j1 j2 => ?_⟩
  · rw [plR_h h1.1 ⟨k1, by omega⟩, plR_h h1.1 ⟨k1, by omega⟩]
    exact hm.1.1 k k1 k2
  · rw [plR_h h1.1 (by omega)] at x2
    rw [plR_f h1.1 x1 ⟨j1, j2⟩, plR_f h1.1 x1 ⟨j1, j2⟩, hm.1.2.1 x x1 x2 j j1 j2]
  · rw [plR_h h1.1 (by omega)] at k2
    rw [plR_r ⟨h1.1, by omega⟩ k1 j1, plR_r ⟨h1.1, by omega⟩ k1 j1]
    exact hm.1.2.2 k k1 k2 j j1 j2
  · rw [plR_h h1.1 (by omega)] at x1
    rw [plR_f h1.1 x0 ⟨j1, j2⟩, if_neg (by omega), if_neg (by omega)]
    exact hm.2 x j x1 x0 x2 j1 j2
theorem p8_readsMove {h : Hp} {s t : Int} {r : Rw} {k : Int → Rw → PR} (he : eT b n) (ht : tkM h b n t) (e0 : nx b n s = t) (s0 : 0 ≤ s) (s1 : s ≤ n) (hm : mdR r (rd h 187)) (ho : okL r) (hg : h 185 16 = 0) (hf : frR h0 h) (hR : ldMove b n s r k = R) (hy : goM b n R Q h0 okL s k) (hx : noM R Q h0) : mX8_readsMove h Q := by
  unfold mX8_readsMove
  unfold ldMove at hR
  rw [e0] at hR
  have o1 := ho.1.1.1
  unfold okR at o1
  have a1 := nx_r (b := b) s0 s1
  rw [e0] at a1
  have bad : ∀ e i, ¬ e = 0 → ((e, t, bgR) : PR) = R → mX8_wrongs e h (fun _ h' => mX8_readsMove_b80 Q i h') := fun e i e0 hR => by
    rw [← hR] at hx
    refine p8_wrongs hg fun a a1 a2 a3 a4 => ?_
    unfold mX8_readsMove_b80
    exact p8_good0 (by rw [a1]; exact e0) ⟨fun w => absurd rfl w, fun _ => hx a e0 a1 (a2.trans ht.2.2.2.1) (frR_tr hf (frE_R (frE_w (by rw [a1]; first | exact e0 | exact he | decide) a3 a4)))⟩
  refine p8_good1 hg ⟨fun _ => ?_, fun q => absurd q (by decide)⟩
  rw [ht.2.2.1]
  refine ⟨fun c1 => ?_, fun c1 => ?_⟩
  · rw [if_neg c1] at hR
    unfold mX8_readsMove_b24
    rw [ht.2.2.1]
    exact ⟨fun q => absurd q c1, fun _ => bad 1 _ (by decide) hR⟩
  rw [if_pos c1] at hR
  have mn := mdR_n hm ho
  refine p8_toldHost he ht (by omega) a1.2 mn.1 mn.2 ?_
  rw [ev_hnm hm.1 (okL_5 ho)]
  unfold mX8_readsMove_b24 mX8_readsMove_b74
  rw [ht.2.2.1]
  refine ⟨fun _ => ?_, fun q => absurd c1 q⟩
  rcases hnm_r (r := r) (b := b) (n := n) (s := t) with hm1 | hm1
  · rw [if_pos hm1] at hR
    exact ⟨fun _ => bad 4 _ (by decide) hR, fun q => absurd hm1 q⟩
  rw [if_neg (by omega)] at hR
  refine ⟨fun q => by omega, fun _ => p8_cell (by omega) (by omega) ⟨by omega, ?_⟩⟩
  generalize hi : hnm r b n t = i at *
  rw [show rd h 187 (16 + 24 * i + 2) = fl r i 2 from hm.1.2.1 i hm1.1 hm1.2 2 (by omega) (by omega)]
  by_cases c2 : fl r i 2 = 1
  · rw [if_pos c2] at hR
    exact ⟨fun _ => bad 4 _ (by decide) hR, fun q => absurd c2 q⟩
  rw [if_neg c2] at hR
  refine ⟨fun q => absurd q c2, fun _ => p8_cell (by omega) (by omega) ⟨by omega, ?_⟩⟩
  rw [show rd h 187 (16 + 24 * i + 4) = fl r i 4 from hm.1.2.1 i hm1.1 hm1.2 4 (by omega) (by omega)]
  by_cases c4 : fl r i 4 = 0
  · rw [if_pos c4] at hR
    refine ⟨fun _ => ?_, fun q => absurd c4 q⟩
    unfold mX8_readsMove_b80
    refine p8_good1 hg ⟨fun _ => p8_next he ht (by omega) a1.2 fun g tg kg fg => ?_, fun q => absurd q (by decide)⟩
    have eg : frE h g := frE_ke kg fg
    have gg : g 185 16 = 0 := by rw [kg 16 (by omega)]; exact hg
    have a2 := nx_r (b := b) (show 0 ≤ t by omega) a1.2
    unfold ldNum at hR
    have a3 := nx_r (b := b) (show 0 ≤ nx b n t by omega) a2.2
    have Fg : frR h0 g := frR_tr hf (frE_R eg)
    refine p8_number he tg gg (by omega) a2.2 (fun d v tv v1 fv => ?_) (fun d v v1 v2 fv => ?_)
    · rw [if_pos d] at hR
      dsimp only at hR
      unfold ldM3 at hR
      have hv := nbE_0.mp d
      have Fv : frR h0 v := frR_tr Fg (frE_R fv)
      generalize hs3 : nx b n (nx b n t) = w at *
      have rv : rd v 187 = rd h 187 := by rw [rd_ne (fv.2 187 (by omega)), rd_ne (fg 187 (by omega))]
      refine p8_good1 v1 ⟨fun _ => ?_, fun q => absurd q (by decide)⟩
      rw [tv.2.2.1]
      have bad2 : ∀ e, ¬ e = 0 → ((e, w, bgR) : PR) = R → mX8_wrongs e v (fun _ h' => mX8_readsMove_b177 Q i (vM b n (nx b n t)) h') := fun e e0 hR => by
        rw [← hR] at hx
        refine p8_wrongs v1 fun a a1 a2 a3 a4 => ?_
        unfold mX8_readsMove_b177
        exact p8_good0 (by rw [a1]; exact e0) ⟨fun w => absurd rfl w, fun _ => hx a e0 a1 (a2.trans tv.2.2.2.1) (frR_tr Fv (frE_R (frE_w (by rw [a1]; first | exact e0 | exact he | decide) a3 a4)))⟩
      by_cases ck : kd b n w = 2
      · refine ⟨fun _ => ?_, fun q => absurd ck q⟩
        rw [tv.2.2.2.2.1 ck]
        by_cases ci : 1 ≤ vM b n w ∧ vM b n w ≤ 9
        · have d2 : nbE b n w 1 9 = 0 := nbE_0.mpr ⟨ck, ci⟩
          rw [if_pos d2] at hR
          refine p8_in ⟨fun _ => ?_, fun q => absurd ci (of_decide_eq_false (b2i0.mp q))⟩
          refine p8_plansIn (by rw [rv]; exact mn.1) ?_
          rw [rv]
          have ep : cn (fun j => decide (fl (rd h 187) j 4 = vM b n w)) 0 (rd h 187 0) = pln r (vM b n w) := ev_pl hm.1
          rw [ep, hm.1.hd.2.2.2.2.1]
          refine ⟨by omega, fun c5 => ?_, fun c5 => bad2 4 (by decide) (by rw [if_neg c5] at hR; exact hR)⟩
          rw [if_pos c5] at hR
          unfold mX8_readsMove_b177
          refine p8_good1 v1 ⟨fun _ => p8_cell (by omega) (by omega) ⟨by omega, fun x ex => p8_cell (by omega) (by omega) ⟨by omega, fun y ey => ?_⟩⟩, fun q => absurd q (by decide)⟩
          have a4 := nx_r (b := b) (show 0 ≤ w by omega) a3.2
          have xv : ∀ p, p ≠ 187 → x p = v p := fun p hp => by rw [ex, wr_q hp]
          have yv : ∀ p, p ≠ 187 → y p = v p := fun p hp => by rw [ey, wr_q hp, xv p hp]
          have x14 : x 185 14 = vM b n w := by rw [xv 185 (by omega)]; exact tv.2.2.2.2.1 ck
          refine p8_next he (tkM_R tv yv) (by omega) a3.2 fun z tz kz fz => hy _ _ z hR (by omega) a4.2 tz ?_ (okL_pl ho hm1 hv.2 ci) (by rw [kz 16 (by omega), yv 185 (by omega)]; exact v1) (frR_tr Fv (frR_tr (frR_m yv) (frE_R (frE_ke kz fz))))
          have rz : rd z 187 = plR (rd h 187) i (vM b n (nx b n t)) (vM b n w) := by
            rw [rd_ne (fz 187 (by omega)), ey, rd_wr, ex, rd_wr, ← ex, x14, rv]
            rfl
          rw [rz]
          exact mdR_pl hm (by omega) hm1
        · have d2 : nbE b n w 1 9 = 2 := by unfold nbE; rw [if_pos ck, if_neg ci]
          rw [d2, if_neg (by decide)] at hR
          exact p8_in ⟨fun q => absurd (of_decide_eq_true (b2i1.mp q)) ci, fun _ => bad2 2 (by decide) hR⟩
      · have d2 : nbE b n w 1 9 = 1 := by unfold nbE; rw [if_neg ck]
        rw [d2, if_neg (by decide)] at hR
        exact ⟨fun q => absurd q ck, fun _ => bad2 1 (by decide) hR⟩
    · rw [if_neg d] at hR
      exact p8_good0 (by rw [v1]; exact d) ⟨fun q => absurd rfl q, fun _ => noM_at d v1 v2 (frR_tr Fg (frE_R fv)) hR hx⟩
  · rw [if_neg c4] at hR
    exact ⟨fun q => absurd q c4, fun _ => bad 4 _ (by decide) hR⟩
end REJ
