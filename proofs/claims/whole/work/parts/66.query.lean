/-! queries: both answer alike -/
section QRY
variable {b : Int → Int} {n : Int}
theorem frM_rfl {h : Hp} : frM h h := frM_k (fun _ _ _ _ => rfl) (fun _ _ _ _ => rfl)
def QE (b : Int → Int) (n t : Int) : QR := qb (pQ b n 14 true 0 t []) (fun s L => if kd b n s = 0 then (0, s, L) else (1, s, L))
theorem p8_reads {t : Int} {h : Hp} {Q : Hp → Prop} (he : eT b n) (h2 : n ≤ 200) (ht : tkM h b n t) (hg : h 185 16 = 0) (t0 : 0 ≤ t) (t1 : t ≤ n) (hy : (QE b n t).1 = 0 → ∀ h', h' 185 16 = 0 → cod h' (cM (QE b n t).2.2) → frM h h' → Q h') (hx : ¬ (QE b n t).1 = 0 → ∀ h', h' 185 16 = (QE b n t).1 → h' 185 17 = (QE b n t).2.1 → frM h h' → Q h') : mX8_reads h Q := by
  unfold mX8_reads
  intro x ex y ey z ez
  have zk : ∀ k, k ≠ 26 → k ≠ 27 → k ≠ 28 → z 185 k = h 185 k := fun k k1 k2 k3 => by rw [ez, hu_ne (by omega), ey, hu_ne (by omega), ex, hu_ne (by omega)]
  have zf : ∀ p, p ≠ 185 → z p = h p := fun p hp => by rw [ez, hu_q hp, ey, hu_q hp, ex, hu_q hp]
  have z26 : z 185 26 = 0 := by rw [ez, hu_ne (by omega), ey, hu_ne (by omega), ex]; exact hu_same
  have z27 : z 185 27 = 0 := by rw [ez]; exact hu_same
  have z28 : z 185 28 = 0 := by rw [ez, hu_ne (by omega), ey]; exact hu_same
  have Fz : frM h z := frM_k (fun k k1 k2 k3 => zk k k1 k2 k3) (fun p p1 _ _ => zf p p1)
  have zg : z 185 16 = 0 := by rw [zk 16 (by omega) (by omega) (by omega)]; exact hg
  have Rz : RSt z b n t [] [] := ⟨tkM_fr ht (fun k k1 k2 => zk k (by omega) (by omega) (by omega)) (zf 191 (by omega)), zg, ⟨⟨z27, fun i q hq => by simp at hq⟩, ⟨z26, fun i q hq => by simp [cM] at hq⟩, z28⟩, by show (0 : Int) + 0 ≤ t; omega, t0, t1⟩
  refine p8_good1 zg ⟨(n - t).toNat + 2, ?_⟩
  unfold mX8_reads_b20
  refine ⟨fun w => absurd w (by decide), fun _ => ?_⟩
  unfold mX8_comparisonRead
  refine ⟨(n - t).toNat + 1, ?_⟩
  unfold QE at hy hx
  obtain ⟨f1, f2, f3⟩ := pQ_r (b := b) (n := n) 14 true 0 t [] t0 t1
  refine y_rec (Q := Q) (h0 := h) he h2 14 true 0 t [] [] (by omega) (by rw [if_pos rfl]; decide) t0 t1 rfl (fun _ => Or.inl rfl) (fun e => ⟨fun _ => ?_, fun w => by cases w⟩) (fun e => ?_) z _ _ Rz Fz (by omega) (by omega)
  · rw [qb_0 e] at hy hx
    have st := pQ_stop h2 t0 t1 e
    refine y_top he h2 st.1 st.2 (fun k => ?_) (fun k => ?_)
    · rw [if_pos k] at hy
      exact hy rfl
    · rw [if_neg k] at hx
      exact hx (by show ¬ (1 : Int) = 0; decide)
  · rw [qb_n e] at hx
    exact hx e
theorem p8_reads0 {h : Hp} {Q : Hp → Prop} (hg : ¬ h 185 16 = 0) (hx : ∀ h', h' 185 16 = h 185 16 → h' 185 17 = h 185 17 → frM h h' → Q h') : mX8_reads h Q := by
  unfold mX8_reads
  intro x ex y ey z ez
  have zk : ∀ k, k ≠ 26 → k ≠ 27 → k ≠ 28 → z 185 k = h 185 k := fun k k1 k2 k3 => by rw [ez, hu_ne (by omega), ey, hu_ne (by omega), ex, hu_ne (by omega)]
  have zf : ∀ p, p ≠ 185 → z p = h p := fun p hp => by rw [ez, hu_q hp, ey, hu_q hp, ex, hu_q hp]
  have zg : ¬ z 185 16 = 0 := by rw [zk 16 (by omega) (by omega) (by omega)]; exact hg
  refine p8_good0 zg ⟨1, ?_⟩
  unfold mX8_reads_b20 mX8_reads_b151 mX8_settles
  exact ⟨fun _ => p8_good0 zg ⟨fun _ => ⟨1, st_0 zg (hx z (zk 16 (by omega) (by omega) (by omega)) (zk 17 (by omega) (by omega) (by omega)) (frM_k (fun k k1 k2 k3 => zk k k1 k2 k3) (fun p p1 _ _ => zf p p1)))⟩, fun w => absurd rfl w⟩, fun w => absurd rfl w⟩
theorem QE_in {t : Int} (t0 : 0 ≤ t) (t1 : t ≤ n) : (0 ≤ (QE b n t).1 ∧ (QE b n t).1 ≤ 3) ∧ ((QE b n t).1 = 0 → wfI (QE b n t).2.2 0 ∧ ((cS (QE b n t).2.2).length : Int) ≤ n) := by
  unfold QE
  obtain ⟨f1, f2, f3⟩ := pQ_r (b := b) (n := n) 14 true 0 t [] t0 t1
  by_cases e : (pQ b n 14 true 0 t []).1 = 0
  · rw [qb_0 e]
    obtain ⟨g1, X, g2, g3, g4⟩ := f3 e
    by_cases k : kd b n (pQ b n 14 true 0 t []).2.1 = 0
    · rw [if_pos k]
      refine ⟨by show (0 : Int) ≤ 0 ∧ (0 : Int) ≤ 3; decide, fun _ => ⟨?_, ?_⟩⟩
      · show wfI (pQ b n 14 true 0 t []).2.2 0
        rw [g2]
        have := g3 [] 0 rfl
        rw [List.append_nil] at this
        exact this
      · show ((cS (pQ b n 14 true 0 t []).2.2).length : Int) ≤ n
        rw [g2, List.nil_append]
        omega
    · rw [if_neg k]
      exact ⟨by show (0 : Int) ≤ 1 ∧ (1 : Int) ≤ 3; decide, fun w => absurd w (by show ¬ (1 : Int) = 0; decide)⟩
  · rw [qb_n e]
    exact ⟨f2, fun w => absurd w e⟩
theorem QD_E : QD b n = if isW b n (ws b n 0) 11 = true ∨ isW b n (ws b n 0) 12 = true then QE b n (nx b n (ws b n 0)) else (1, ws b n 0, []) := rfl
theorem isW_12 {s : Int} (h : isW b n s 12 = true) : isW b n s 11 = false := by
  unfold isW at *
  rw [Bool.and_eq_true, Bool.and_eq_true, decide_eq_true_eq, decide_eq_true_eq] at h
  have e : zslen 12 = 5 ∧ zslen 11 = 4 := by decide +kernel
  rw [h.2.1, e.1, e.2]
  simp
theorem inv_q {h l : Hp} (hi : inv h) (f : ∀ p, p ≤ 12 ∨ (26 ≤ p ∧ p ≤ 168) ∨ p = 170 ∨ p = 183 ∨ p = 184 ∨ p = 186 ∨ p = 188 ∨ p = 190 ∨ p = 193 → l p = h p) (k6 : l 185 6 = h 185 6) (k7 : l 185 7 = h 185 7) (k9 : l 185 9 = 0) (k22 : l 185 22 = h 185 22) (n3 : l 169 3 = h 169 3) (t1 : l 176 1 = 0) (e10 : l 169 10 = l 185 17) : inv l := by
  obtain ⟨⟨n, o⟩, ⟨b1, b2, b3⟩, ⟨hh, hk⟩, ⟨d1, d2, d3⟩, e1, l1, l2, l3⟩ := hi
  have r186 : rd l 186 = rd h 186 := rd_ne (f 186 (by omega))
  refine ⟨⟨?_, ?_⟩, ⟨?_, ?_, fun q => ?_⟩, ⟨?_, fun k k1 k2 => ?_⟩, ⟨?_, ?_, fun k k1 k2 => ?_⟩, e10, ?_, ?_, fun k k1 k2 => ?_⟩
  · rw [r186]; exact nets_frame n fun p p1 p2 => f p (by omega)
  · rw [r186]; exact o
  · rw [n3, k7]; exact b1
  · rw [k7]; exact b2
  · rw [k7] at q
    rw [rd_ne (f 188 (by omega))]
    exact ⟨nets_frame (b3 q).1 fun p p1 p2 => f p (by omega), (b3 q).2⟩
  · rw [k6, bf_ne (f 190 (by omega))]
    exact hist_frame hh fun p p1 => f p (by omega)
  · rw [k6] at k2
    rw [bf_ne (f 190 (by omega))]
    exact hk k k1 k2
  · rw [k9, t1]
  · rw [k9]; omega
  · rw [k9] at k2; omega
  · rw [k22, f 183 (by omega)]; exact l1
  · rw [k22]; exact l2
  · rw [k22] at k2
    rw [rd_same (f 184 (by omega)), rd_same (f 193 (by omega))]
    exact l3 k k1 k2
end QRY
theorem p8_lesser {a c : Int} {h : Hp} {Q : Int → Prop} (hQ : Q (if c ≤ a then c else a)) : mX8_lesser a c h Q := by
  unfold mX8_lesser
  refine ⟨fun q => ?_, fun q => ?_⟩
  · rw [if_pos q] at hQ; exact hQ
  · rw [if_neg q] at hQ; exact hQ
theorem c_query {x : Int} {h : Hp} (hi : inv h) : mL_query x h (fun k h1 => mX8_query x h1 (fun b h2 => okA k b h2)) := by
  obtain ⟨⟨n, o⟩, ⟨b1, b2, b3⟩, ⟨hh, hk⟩, ⟨d1, d2, d3⟩, e1, l1, l2, l3⟩ := id hi
  have o1 := o.1.1
  unfold okR at o1
  have lim : ∀ g : Hp, g 185 9 = h 185 9 → (0 ≤ x ∧ x ≤ (if (200 : Int) ≤ g 185 9 then 200 else g 185 9)) = (0 ≤ x ∧ x ≤ 200 ∧ x ≤ h 185 9) := fun g hg => by
    rw [hg]
    by_cases q : (200 : Int) ≤ h 185 9
    · rw [if_pos q]; exact propext ⟨fun w => by omega, fun w => by omega⟩
    · rw [if_neg q]; exact propext ⟨fun w => by omega, fun w => by omega⟩
  have bad : ¬ (0 ≤ x ∧ x ≤ 200 ∧ x ≤ h 185 9) → mX8_query x h (fun b h2 => okA 1 b h2) := by
    intro hx
    unfold mX8_query
    intro a e
    refine p8_lesser (p8_inF (by rw [e]; exact t0) (by omega) (fun w => ?_) (fun _ => ⟨fun w => absurd w (by decide), fun _ => ?_⟩))
    · exact absurd ((lim a (by rw [e, hu_ne (by omega)])).mp w) hx
    · rw [e]; exact okA_x hi (by omega)
  unfold mL_query mX7_query
  rw [d1]
  refine ⟨fun c => ⟨rfl, bad (by omega)⟩, fun c => ⟨fun d => ⟨rfl, bad (by omega)⟩, fun d => ⟨fun d3' => ?_, fun d3' => ⟨rfl, bad (by omega)⟩⟩⟩⟩
  generalize hb : rd h 191 = b
  have he : eT b x := ⟨⟨by omega, by omega⟩, fun i i1 i2 => by rw [← hb]; exact (d3 i i1 (by omega)).1⟩
  have byc : byC h b x := fun i i1 i2 => by rw [← hb]; exact (d3 i i1 (by omega)).2
  have h2 : x ≤ 200 := by omega
  have s0 : 0 ≤ ws b x 0 ∧ ws b x 0 ≤ x := rn_r (Int.le_refl 0) he.1.1
  have a1 := nx_r (b := b) s0.1 s0.2
  have qin := QE_in (b := b) (n := x) (t := nx b x (ws b x 0)) (by omega) a1.2
  -- the reference's call, from where the class has ended
  have pre : ∀ (g : Hp) (Q : Int → Hp → Prop), g 185 = h 185 → g 191 = h 191 → g 186 = h 186 → ((QD b x).1 = 0 → (∀ l, 0 ≤ l → l < rd h 186 0 → True) → ∀ f : SetF, evF (rd h 186) (QD b x).2.2 [] = [f] → ∀ u : Hp, (∀ p, p ≠ 185 → p ≠ 194 → p ≠ 195 → p ≠ 196 → u p = g p) → (∀ k, 0 < k → k < 9 ∨ (17 < k ∧ k < 26) → u 185 k = h 185 k) → u 185 0 = 0 → u 185 9 = 0 → u 185 17 = -1 → Q (if isW b x (ws b x 0) 11 = true then cn f 0 (rd h 186 0) else fs f 0 (rd h 186 0)) u) → ((QD b x).1 = 0 → ∃ f : SetF, evF (rd h 186) (QD b x).2.2 [] = [f]) → (¬ (QD b x).1 = 0 → ∀ u : Hp, (∀ p, p ≠ 185 → p ≠ 194 → p ≠ 195 → p ≠ 196 → u p = g p) → (∀ k, 0 < k → k < 9 ∨ (17 < k ∧ k < 26) → u 185 k = h 185 k) → u 185 0 = 0 → u 185 9 = 0 → u 185 17 = (QD b x).2.1 → Q (-1000000000 - (QD b x).1) u) → mX8_query x g Q := by
    intro g Q g5 g1 g6 hy hf hx
    unfold mX8_query
    intro a e
    have a9 : a 185 9 = h 185 9 := by rw [e, hu_ne (by omega), g5]
    have ab : rd a 191 = b := by rw [← hb]; exact rd_ne (by rw [e, hu_q (by omega), g1])
    refine p8_lesser (p8_inF (by rw [e]; exact t0) (by omega) (fun _ => ⟨fun _ => ?_, fun w => absurd rfl w⟩) (fun w => absurd ((lim a a9).mpr ⟨by omega, by omega, by omega⟩) w))
    refine p8_starts he (fun i i1 i2 => by rw [ab]) fun u tu u16 u17 u9 uk uf => ?_
    have u0 : u 185 0 = 0 := by rw [uk 0 (by omega), e]; exact hu_same
    have ukh : ∀ k, 0 < k → k < 9 ∨ 17 < k → u 185 k = h 185 k := fun k k0 k1 => by rw [uk k k1, e, hu_ne (by omega), g5]
    have ufg : ∀ p, p ≠ 185 → u p = g p := fun p hp => by rw [uf p hp, e, hu_q hp]
    -- after reading
    have done : ∀ (v2 : Int) (v : Hp), tkM v b x (nx b x (ws b x 0)) → v 185 16 = 0 → frM u v → (isW b x (ws b x 0) 11 = true ∨ isW b x (ws b x 0) 12 = true) → (v2 = 0 ↔ isW b x (ws b x 0) 11 = true) → mX8_query_b65 Q v2 v := fun v2 v tv v16 fv hw hv2 => by
      have eD : QD b x = QE b x (nx b x (ws b x 0)) := by rw [QD_E, if_pos hw]
      rw [eD] at hy hf hx
      unfold mX8_query_b65
      refine p8_reads he h2 tv v16 (by omega) a1.2 (fun r0 w w16 wc fw => p8_good1 w16 ⟨fun _ => ?_, fun q => absurd q (by decide)⟩) (fun r0 w w16 w17 fw => ?_)
      · obtain ⟨f, hf⟩ := hf r0
        have Fw : frM u w := frM_tr fv fw
        have rw' : rd w 186 = rd h 186 := rd_ne (by rw [Fw.2 186 (by omega) (by omega) (by omega), ufg 186 (by omega), g6])
        obtain ⟨q1, q2⟩ := qin.2 r0
        have hl2 : (cM (QE b x (nx b x (ws b x 0))).2.2).length ≤ 200 := by rw [← cSM]; omega
        refine p8_all (r := rd h 186) (f := f) o rw' wc hl2 q1 (fun l l1 l2 => ?_) fun y yf => ?_
        · have := ev_hom (r := rd h 186) (l := l) (QE b x (nx b x (ws b x 0))).2.2 []
          rw [hf] at this
          exact this.symm
        · have ev : (if v2 = 0 then cn f 0 (rd h 186 0) else fs f 0 (rd h 186 0)) = (if isW b x (ws b x 0) 11 = true then cn f 0 (rd h 186 0) else fs f 0 (rd h 186 0)) := by
            by_cases q : v2 = 0
            · rw [if_pos q, if_pos (hv2.mp q)]
            · rw [if_neg q, if_neg (fun w => q (hv2.mpr w))]
          rw [ev]
          refine hy r0 (fun _ _ _ => trivial) f hf y (fun p p1 p2 p3 p4 => ?_) (fun k k0 k1 => ?_) ?_ ?_ ?_
          · rw [yf p p4, Fw.2 p p1 p2 p3, ufg p p1]
          · rw [yf 185 (by omega), Fw.1.1 k (by omega), ukh k k0 (by omega)]
          · rw [yf 185 (by omega), Fw.1.1 0 (by omega)]; exact u0
          · rw [yf 185 (by omega), Fw.1.1 9 (by omega)]; exact u9
          · rw [yf 185 (by omega), (Fw.1.2 w16).2]; exact u17
      · have Fw : frM u w := frM_tr fv fw
        refine p8_good0 (by rw [w16]; exact r0) ⟨fun q => absurd rfl q, fun _ => ?_⟩
        rw [w16]
        refine ⟨zri (by omega) (by omega), ?_⟩
        refine hx r0 w (fun p p1 p2 p3 p4 => ?_) (fun k k0 k1 => ?_) ?_ ?_ w17
        · rw [Fw.2 p p1 p2 p3, ufg p p1]
        · rw [Fw.1.1 k (by omega), ukh k k0 (by omega)]
        · rw [Fw.1.1 0 (by omega)]; exact u0
        · rw [Fw.1.1 9 (by omega)]; exact u9
    refine p8_passes cdws.2.2.2.2.2.2.2.2.2.2.2.2.1.symm (by omega) u16 tu s0.1 s0.2 he (fun c12 v tv kv fv => ⟨fun _ => ?_, fun w => absurd w (by decide)⟩) (fun c12 => ⟨fun w => absurd rfl w, fun _ => ?_⟩)
    · refine done 1 v tv (by rw [kv 16 (by omega)]; exact u16) (frV_M (frE_V (frE_ke kv fv))) (Or.inr c12) ⟨fun w => absurd w (by decide), fun w => ?_⟩
      rw [isW_12 c12] at w
      cases w
    · refine p8_passes cdws.2.2.2.2.2.2.2.2.2.2.2.1.symm (by omega) u16 tu s0.1 s0.2 he (fun c11 v tv kv fv => ⟨fun _ => ?_, fun w => absurd w (by decide)⟩) (fun c11 => ⟨fun w => absurd rfl w, fun _ => p8_wrongs u16 fun v w1 w2 w3 w4 => ?_⟩)
      · exact done 0 v tv (by rw [kv 16 (by omega)]; exact u16) (frV_M (frE_V (frE_ke kv fv))) (Or.inl c11) ⟨fun _ => c11, fun _ => rfl⟩
      · have eD : QD b x = (1, ws b x 0, []) := by rw [QD_E, if_neg (by rw [c11, c12]; decide)]
        rw [eD] at hx
        have v16 : ¬ v 185 16 = 0 := by rw [w1]; decide
        unfold mX8_query_b65
        have Fv : frM u v := frV_M (frE_V (frE_w v16 w3 w4))
        refine p8_reads0 v16 fun w w16 w17 fw => ?_
        have Fw : frM u w := frM_tr Fv fw
        have e16 : w 185 16 = 1 := by rw [w16, w1]
        refine p8_good0 (by rw [e16]; decide) ⟨fun q => absurd rfl q, fun _ => ?_⟩
        rw [e16]
        refine ⟨zri (by omega) (by omega), ?_⟩
        refine hx (by show ¬ (1 : Int) = 0; decide) w (fun p p1 p2 p3 p4 => ?_) (fun k k0 k1 => ?_) ?_ ?_ ?_
        · rw [Fw.2 p p1 p2 p3, ufg p p1]
        · rw [Fw.1.1 k (by omega), ukh k k0 (by omega)]
        · rw [Fw.1.1 0 (by omega)]; exact u0
        · rw [Fw.1.1 9 (by omega)]; exact u9
        · rw [w17, w2]; exact tu.2.2.2.1
  refine p6_begin he byc fun g tg g1 gf => p4_readQuery he h2 tg (fun r0 v sv v3 v1 vf => ⟨fun _ => ?_, fun w => absurd rfl w⟩) (fun r0 v tv v1 vf => ⟨fun w => absurd w r0, fun _ => ?_⟩)
  · intro a ea
    have av : ∀ p, p ≠ 169 → a p = v p := fun p hp => by rw [ea, hu_q hp]
    have ah : ∀ p, p ≠ 169 → p ≠ 176 → p ≠ 179 → p ≠ 180 → a p = h p := fun p p1 p2 p3 p4 => by rw [av p p1, vf p p2 p3 p4, gf p p2]
    have na : nets a 0 (rd h 186) := nets_frame n fun p p1 p2 => ah p (by omega) (by omega) (by omega) (by omega)
    have hw : isW b x (ws b x 0) 11 = true ∨ isW b x (ws b x 0) 12 = true := by
      rw [QD_E] at r0
      by_cases q : isW b x (ws b x 0) 11 = true ∨ isW b x (ws b x 0) 12 = true
      · exact q
      · rw [if_neg q] at r0
        exact absurd r0 (by show ¬ (1 : Int) = 0; decide)
    have eD : QD b x = QE b x (nx b x (ws b x 0)) := by rw [QD_E, if_pos hw]
    have q12 := qin.2 (by rw [← eD]; exact r0)
    rw [← eD] at q12
    refine p5_count na o.1 (by omega) fun m tm mf => ?_
    have ma : ∀ p, p ≠ 173 → p ≠ 174 → p ≠ 175 → m p = a p := mf
    refine p4_hosts (r := rd h 186) (L := (QD b x).2.2) o (nets_frame na fun p p1 p2 => ma p (by omega) (by omega) (by omega)) tm ?_ (by omega) q12.1 fun z f y hz hf fy => ?_
    · unfold stp at sv ⊢
      rw [ma 179 (by omega) (by omega) (by omega), ma 180 (by omega) (by omega) (by omega), av 179 (by omega), av 180 (by omega)]
      exact sv
    have y3 : y 179 3 = b2i (isW b x (ws b x 0) 11) := by rw [fy.1 3 (by omega) (by omega), ma 179 (by omega) (by omega) (by omega), av 179 (by omega), v3]
    rw [y3]
    have fin : ∀ z, z = (if isW b x (ws b x 0) 11 = true then cn f 0 (rd h 186 0) else fs f 0 (rd h 186 0)) → ((0:Int) ≤ 0 ∧ (0:Int) < 1) ∧ (∀ h6 : Hp, h6 = wr y 197 0 z → mX8_query x h6 (fun b h2 => okA 0 b h2)) := fun z ez => ⟨by omega, fun w ew => ?_⟩
    · have hm : 0 ≤ rd h 186 0 ∧ rd h 186 0 ≤ 40 := o1.1
      by_cases q : isW b x (ws b x 0) 11 = true
      · rw [q] at fin ⊢
        refine ⟨fun w => absurd w (by decide), fun _ => p7_bits hm hz (fin _ (by rw [if_pos rfl]))⟩
      · have q' : isW b x (ws b x 0) 11 = false := by simpa using q
        rw [q'] at fin ⊢
        refine ⟨fun _ => p7_smallestOf hm hz (fin _ (by rw [if_neg (by decide)])), fun w => absurd rfl w⟩
    have yh : ∀ p, p ≠ 169 → p ≠ 173 → p ≠ 174 → p ≠ 175 → p ≠ 176 → p ≠ 179 → p ≠ 180 → p ≠ 181 → p ≠ 182 → y p = h p := fun p p1 p2 p3 p4 p5 p6 p7 p8 p9 => by rw [fy.2 p p6 p8 p9, ma p p2 p3 p4, ah p p1 p5 p6 p7]
    have wy : ∀ p, p ≠ 197 → w p = y p := fun p hp => by rw [ew, wr_q hp]
    have w169 : ∀ k, k ≠ 10 → w 169 k = h 169 k := fun k hk => by rw [wy 169 (by omega), fy.2 169 (by omega) (by omega) (by omega), ma 169 (by omega) (by omega) (by omega), ea, hu_ne (by omega), vf 169 (by omega) (by omega) (by omega), gf 169 (by omega)]
    have w10 : w 169 10 = -1 := by rw [wy 169 (by omega), fy.2 169 (by omega) (by omega) (by omega), ma 169 (by omega) (by omega) (by omega), ea]; exact hu_same
    have w176 : w 176 1 = 0 := by rw [wy 176 (by omega), fy.2 176 (by omega) (by omega) (by omega), ma 176 (by omega) (by omega) (by omega), av 176 (by omega), v1, g1]
    refine pre w _ (by rw [wy 185 (by omega), yh 185 (by omega) (by omega) (by omega) (by omega) (by omega) (by omega) (by omega) (by omega) (by omega)]) (by rw [wy 191 (by omega), yh 191 (by omega) (by omega) (by omega) (by omega) (by omega) (by omega) (by omega) (by omega) (by omega)]) (by rw [wy 186 (by omega), yh 186 (by omega) (by omega) (by omega) (by omega) (by omega) (by omega) (by omega) (by omega) (by omega)]) (fun _ _ f' hf' u uf uk u0 u9 u17 => ?_) (fun _ => ⟨f, hf⟩) (fun q => absurd r0 q)
    have ff : f' = f := by
      rw [hf] at hf'
      simpa using hf'.symm
    rw [ff, ← ez]
    refine ⟨inv_q hi (fun p hp => ?_) (uk 6 (by omega) (by omega)) (uk 7 (by omega) (by omega)) u9 (uk 22 (by omega) (by omega)) ?_ ?_ ?_, u0, fun _ => ?_⟩
    · rw [uf p (by omega) (by omega) (by omega) (by omega), wy p (by omega), yh p (by omega) (by omega) (by omega) (by omega) (by omega) (by omega) (by omega) (by omega) (by omega)]
    · rw [uf 169 (by omega) (by omega) (by omega) (by omega), w169 3 (by omega)]
    · rw [uf 176 (by omega) (by omega) (by omega) (by omega), w176]
    · rw [uf 169 (by omega) (by omega) (by omega) (by omega), w10, u17]
    · rw [rd_same (uf 197 (by omega) (by omega) (by omega) (by omega)), ew, rw_same]
  · intro a ea
    have lin : 0 ≤ (QD b x).1 ∧ (QD b x).1 ≤ 3 := by
      rw [QD_E]
      by_cases q : isW b x (ws b x 0) 11 = true ∨ isW b x (ws b x 0) 12 = true
      · rw [if_pos q]; exact qin.1
      · rw [if_neg q]; show (0 : Int) ≤ 1 ∧ (1 : Int) ≤ 3; decide
    refine ⟨zri (by omega) (by omega), by omega, fun w ew => ?_⟩
    have av : ∀ p, p ≠ 169 → a p = v p := fun p hp => by rw [ea, hu_q hp]
    have wh : ∀ p, p ≠ 169 → p ≠ 176 → p ≠ 179 → p ≠ 180 → p ≠ 197 → w p = h p := fun p p1 p2 p3 p4 p5 => by rw [ew, wr_q p5, av p p1, vf p p2 p3 p4, gf p p2]
    have w169 : ∀ k, k ≠ 10 → w 169 k = h 169 k := fun k hk => by rw [ew, wr_q (by omega), ea, hu_ne (by omega), vf 169 (by omega) (by omega) (by omega), gf 169 (by omega)]
    have w10 : w 169 10 = (QD b x).2.1 := by rw [ew, wr_q (by omega), ea, hu_same]; exact tv.2.2.2.1
    have w176 : w 176 1 = 0 := by rw [ew, wr_q (by omega), av 176 (by omega), v1, g1]
    refine pre w _ (wh 185 (by omega) (by omega) (by omega) (by omega) (by omega)) (wh 191 (by omega) (by omega) (by omega) (by omega) (by omega)) (wh 186 (by omega) (by omega) (by omega) (by omega) (by omega)) (fun q => absurd q r0) (fun q => absurd q r0) (fun _ u uf uk u0 u9 u17 => ?_)
    refine ⟨inv_q hi (fun p hp => ?_) (uk 6 (by omega) (by omega)) (uk 7 (by omega) (by omega)) u9 (uk 22 (by omega) (by omega)) ?_ ?_ ?_, u0, fun _ => ?_⟩
    · rw [uf p (by omega) (by omega) (by omega) (by omega), wh p (by omega) (by omega) (by omega) (by omega) (by omega)]
    · rw [uf 169 (by omega) (by omega) (by omega) (by omega), w169 3 (by omega)]
    · rw [uf 176 (by omega) (by omega) (by omega) (by omega), w176]
    · rw [uf 169 (by omega) (by omega) (by omega) (by omega), w10, u17]
    · rw [rd_same (uf 197 (by omega) (by omega) (by omega) (by omega)), ew, rw_same]
