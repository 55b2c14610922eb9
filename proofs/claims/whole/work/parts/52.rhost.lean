/-! the reference's reading of hosts, rules, moves -/
section REI
variable {b : Int → Int} {n : Int} {R : PR} {Q : Hp → Prop} {h0 : Hp}
theorem noM_at {h : Hp} {e s : Int} (he : ¬ e = 0) (h1 : h 185 16 = e) (h2 : h 185 17 = s) (hf : frR h0 h) (hR : (e, s, bgR) = R) (hx : noM R Q h0) : Q h := by
  rw [← hR] at hx
  exact hx h he h1 h2 hf
theorem p8_readsHost {h : Hp} {s : Int} {r : Rw} {k : Int → Rw → PR} (he : eT b n) (ht : tkM h b n s) (s0 : 0 ≤ s) (s1 : s ≤ n) (hm : mdR r (rd h 187)) (ho : okL r) (hg : h 185 16 = 0) (hf : frR h0 h) (hR : ldHost b n s r k = R) (hy : goM b n R Q h0 okL s k) (hx : noM R Q h0) : mX8_readsHost h Q := by
  unfold mX8_readsHost
  unfold ldHost at hR
  have o1 := ho.1.1.1
  unfold okR at o1
  have a1 := nx_r (b := b) s0 s1
  rw [hm.1.hd.1]
  refine ⟨by omega, fun c0 => p8_next he ht s0 s1 fun g tg kg fg => ?_, fun c0 => noM_w (Q' := fun _ h' => Q h') ht hg (by decide) hf (by rw [if_neg (by omega)] at hR; exact hR) hx⟩
  rw [if_pos (by omega)] at hR
  have eg : frE h g := frE_ke kg fg
  have rg : rd g 187 = rd h 187 := rd_ne (fg 187 (by omega))
  have gg : g 185 16 = 0 := by rw [kg 16 (by omega)]; exact hg
  have a2 := nx_r (b := b) (show 0 ≤ nx b n s by omega) a1.2
  generalize hs1 : nx b n s = t at *
  refine p8_readsName he tg (by omega) a1.2 (by rw [rg]; exact hm) ho gg (by omega) (fun c1 c2 c3 u tu u1 ru fu => ?_) (fun e u ee e0 u1 u2 fu => ?_)
  · rw [if_pos c1, if_pos c2, if_pos c3] at hR
    unfold ldNum at hR
    have Fu : frR h0 u := frR_tr hf (frR_tr (frE_R eg) fu)
    have a3 := nx_r (b := b) (show 0 ≤ nx b n t by omega) a2.2
    refine p8_number he tu u1 (by omega) a2.2 (fun d v tv v1 fv => ?_) (fun d v v1 v2 fv => ?_)
    · rw [if_pos d] at hR
      dsimp only at hR
      unfold ldH3 at hR
      have hv := nbE_0.mp d
      have Fv : frR h0 v := frR_tr Fu (frE_R fv)
      generalize hs3 : nx b n (nx b n t) = w at *
      have rv : ∀ q, 0 ≤ q → rd v 187 q = wn (rd h 187) b (r 0) t (te b n t - t) (te b n t - t) q := fun q hq => by rw [rd_ne (fv.2 187 (by omega)), ru q hq, rg]
      have hlt := te_lt (b := b) (n := n) (show 0 ≤ t by omega) (kd_lt (b := b) (by omega))
      refine p8_good1 v1 ⟨fun _ => ?_, fun w => absurd w (by decide)⟩
      rw [tv.2.2.1]
      have bad : ∀ e, ¬ e = 0 → ((e, w, bgR) : PR) = R → mX8_wrongs e v (fun _ h' => mX8_readsHost_b103 Q (r 0) (vM b n (nx b n t)) h') := fun e e0 hR => by
        rw [← hR] at hx
        refine p8_wrongs v1 fun a a1 a2 a3 a4 => ?_
        unfold mX8_readsHost_b103
        exact p8_good0 (by rw [a1]; exact e0) ⟨fun w => absurd rfl w, fun _ => hx a e0 a1 (a2.trans tv.2.2.2.1) (frR_tr Fv (frE_R (frE_w (by rw [a1]; first | exact e0 | exact he | decide) a3 a4)))⟩
      by_cases ck : kd b n w = 2
      · refine ⟨fun _ => ?_, fun q => absurd ck q⟩
        rw [tv.2.2.2.2.1 ck]
        by_cases ci : 1 ≤ vM b n w ∧ vM b n w ≤ 250
        · have d2 : nbE b n w 1 250 = 0 := nbE_0.mpr ⟨ck, ci⟩
          rw [if_pos d2] at hR
          refine p8_in ⟨fun _ => ?_, fun q => absurd ci (of_decide_eq_false (b2i0.mp q))⟩
          have e00 : rd v 187 0 = r 0 := by
            rw [rv 0 (by omega)]
            unfold wn
            rw [if_neg (by omega), if_neg (by omega)]
            exact hm.1.hd.1
          have etl : tld (rd v 187) (vM b n (nx b n t)) (vM b n w) = tld r (vM b n (nx b n t)) (vM b n w) := by
            unfold tld
            rw [e00]
            refine fs_congr fun i i1 i2 => ?_
            have ex : ∀ j, 0 ≤ j → j < 2 → fl (rd v 187) i j = fl r i j := fun j j1 j2 => by
              rw [← hm.1.2.1 i i1 i2 j j1 (by omega)]
              unfold fl
              rw [rv _ (by omega)]
              unfold wn
              rw [if_neg (by omega), if_neg (by omega)]
            rw [ex 0 (by omega) (by omega), ex 1 (by omega) (by omega)]
          refine p8_isTold (by omega) ?_
          rw [etl]
          by_cases c4 : tld r (vM b n (nx b n t)) (vM b n w) = -1
          · rw [if_pos c4]
            rw [if_pos c4] at hR
            refine ⟨fun _ => ?_, fun q => absurd rfl q⟩
            unfold mX8_readsHost_b103
            refine p8_good1 v1 ⟨fun _ => p8_cell (by omega) (by omega) ⟨by omega, fun x ex => p8_cell (by omega) (by omega) ⟨by omega, fun y ey => ?_⟩⟩, fun q => absurd q (by decide)⟩
            have a4 := nx_r (b := b) (show 0 ≤ w by omega) a3.2
            have xv : ∀ p, p ≠ 187 → x p = v p := fun p hp => by rw [ex, wr_q hp]
            have yv : ∀ p, p ≠ 187 → y p = v p := fun p hp => by rw [ey, wr_q hp, xv p hp]
            have ty : tkM y b n w := tkM_R tv yv
            have x14 : x 185 14 = vM b n w := by rw [xv 185 (by omega)]; exact tv.2.2.2.2.1 ck
            refine p8_next he ty (by omega) a3.2 fun z tz kz fz => p8_cell (by omega) (by omega) ?_
            have z1 : z 185 16 = 0 := by rw [kz 16 (by omega), yv 185 (by omega)]; exact v1
            have ez : frE y z := frE_ke kz fz
            have rz : rd z 187 = sf (sf (rd v 187) (r 0) 0 (vM b n (nx b n t))) (r 0) 1 (vM b n w) := by
              rw [rd_ne (fz 187 (by omega)), ey, rd_wr, ex, rd_wr, ← ex, x14]
              rfl
            have Fz : frR h0 z := frR_tr Fv (frR_tr (frR_m yv) (frE_R ez))
            have okA' : ∀ p, p = 0 ∨ p = 1 → okL (apN r (ltk b t (te b n t - t)) (vM b n (nx b n t)) (vM b n w) p) := fun p hp => okL_apN ho (by omega) (by omega) ci hp (ltk_ok (by omega) c1 c2) c4
            have fin : ∀ (p : Int) (m : Hp) (s' : Int), (p = 0 ∨ p = 1) → rd m 187 = rd z 187 → tkM m b n s' → m 185 16 = 0 → frR h0 m → s ≤ s' → s' ≤ n → k s' (apN r (ltk b t (te b n t - t)) (vM b n (nx b n t)) (vM b n w) p) = R → mX8_readsHost_b164 Q (r 0) p (16 + 24 * r 0 + 2) m := fun p m s' hp rm tm m1 Fm s2 s3 hR => by
              unfold mX8_readsHost_b164
              refine ⟨by omega, fun a ea => ⟨zri (by omega) (by omega), by omega, fun c ec => ?_⟩⟩
              have am : ∀ p, p ≠ 187 → a p = m p := fun p hp => by rw [ea, wr_q hp]
              have cm : ∀ p, p ≠ 187 → c p = m p := fun p hp => by rw [ec, wr_q hp, am p hp]
              refine hy s' _ c hR s2 s3 (tkM_R tm cm) ?_ (okA' p hp) (by rw [cm 185 (by omega)]; exact m1) (frR_tr Fm (frR_m cm))
              refine mdR_apN hm (by omega) (by omega) (by omega) fun q hq => ?_
              rw [ec, rd_wr, ea, rd_wr, rm, rz]
              unfold sf up
              by_cases y0 : q.toNat = (0 : Int).toNat
              · rw [if_pos y0, if_pos y0]
              rw [if_neg y0, if_neg y0]
              by_cases y2 : q.toNat = (16 + 24 * r 0 + 2).toNat
              · rw [if_pos y2, if_pos y2]
              rw [if_neg y2, if_neg y2]
              by_cases y3 : q.toNat = (16 + 24 * r 0 + 1).toNat
              · rw [if_pos y3, if_pos y3]
              rw [if_neg y3, if_neg y3]
              by_cases y4 : q.toNat = (16 + 24 * r 0 + 0).toNat
              · rw [if_pos y4, if_pos y4]
              rw [if_neg y4, if_neg y4]
              exact rv q hq
            refine p8_passes cdws.2.2.2.2.2.1.symm (by omega) z1 tz (by omega) a4.2 he (fun c5 m tm km fm => ⟨fun q => absurd q (by decide), fun _ => ?_⟩) (fun c5 => ⟨fun _ => ?_, fun q => absurd rfl q⟩)
            · have a5 := nx_r (b := b) (show 0 ≤ nx b n w by omega) a4.2
              rw [if_pos c5] at hR
              exact fin 1 m _ (Or.inr rfl) (rd_ne (fm 187 (by omega))) tm (by rw [km 16 (by omega)]; exact z1) (frR_tr Fz (frE_R (frE_ke km fm))) (by omega) a5.2 hR
            · rw [c5, if_neg (by decide)] at hR
              exact fin 0 z _ (Or.inl rfl) rfl tz z1 Fz (by omega) a4.2 hR
          · rw [if_neg c4]
            rw [if_neg c4] at hR
            exact ⟨fun q => absurd q (by decide), fun _ => bad 3 (by decide) hR⟩
        · have d2 : nbE b n w 1 250 = 2 := by unfold nbE; rw [if_pos ck, if_neg ci]
          rw [d2, if_neg (by decide)] at hR
          exact p8_in ⟨fun q => absurd (of_decide_eq_true (b2i1.mp q)) ci, fun _ => bad 2 (by decide) hR⟩
      · have d2 : nbE b n w 1 250 = 1 := by unfold nbE; rw [if_neg ck]
        rw [d2, if_neg (by decide)] at hR
        exact ⟨fun q => absurd q ck, fun _ => bad 1 (by decide) hR⟩
    · rw [if_neg d] at hR
      exact p8_good0 (by rw [v1]; exact d) ⟨fun w => absurd rfl w, fun _ => noM_at d v1 v2 (frR_tr Fu (frE_R fv)) hR hx⟩
  · have Fu : frR h0 u := frR_tr hf (frR_tr (frE_R eg) fu)
    have nu : ¬ u 185 16 = 0 := by rw [u1]; exact e0
    refine p8_number0 nu (p8_good0 nu ⟨fun w => absurd rfl w, fun _ => ?_⟩)
    refine noM_at e0 u1 u2 Fu ?_ hx
    rw [← hR, ee]
    by_cases c1 : kd b n t = 1
    · rw [if_pos c1, if_pos c1]
      by_cases c2 : te b n t - t ≤ 8
      · rw [if_pos c2, if_pos c2]
        by_cases c3 : hnm r b n t = -1
        · rw [ee, if_pos c1, if_pos c2, if_pos c3] at e0
          exact absurd rfl e0
        · rw [if_neg c3, if_neg c3]
      · rw [if_neg c2, if_neg c2]
    · rw [if_neg c1, if_neg c1]
end REI
