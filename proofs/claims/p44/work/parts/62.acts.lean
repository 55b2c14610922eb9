/-! settling; the law's acts -/
theorem a_settle {h : Hp} {Q : Int → Hp → Prop} (hi : inv h) (hQ : ∀ z h', inv h' → fr h h' → Q z h') : mX7_settle h Q := by
  obtain ⟨r0, s0, l0⟩ := hi
  unfold mX7_settle
  refine k_push s0 fun g1 s1 f1 _ => p5_count s1.1 s1.2.1.1 (by omega) fun g2 t2 f2 => ?_
  obtain ⟨f, hf⟩ := forU (fun f v => ∀ (k : Int) (r : Rw) (b1 : Hp), 0 ≤ k → k ≤ v → okS r → LI r → nets b1 0 r → tly b1 r → (∀ p, 12 < p → ¬ (173 ≤ p ∧ p ≤ 175) → b1 p = g1 p) → mX7_settle_b26 Q f k v b1) 1 251 (by omega) (fun f k r b1 k0 k1 ok lk nb tb fb => by
      unfold mX7_settle_b26
      obtain ⟨-, -, m, b, hh⟩ := s1
      exact ⟨fun _ => hQ _ _ ⟨r, ⟨nb, ok, m, b, hist_frame hh (fun p hp => fb p (by omega) (by omega))⟩, lk⟩ (fr_tr f1 (fun p hp => fb p (by omega) (by omega))), fun w => absurd (by omega) w⟩) (fun f v v1 v2 ih k r b1 k0 k1 ok lk nb tb fb => by
      unfold mX7_settle_b26
      have o1 := ok.1.1
      unfold okR at o1
      have hz := chz_r (r := r) (v := v)
      have ha := ffr_r ok.1
      have hb := fw_r ok.1.1
      have fin : ∀ z, Q z b1 := fun z => by
        obtain ⟨-, -, m, b, hh⟩ := s1
        exact hQ _ _ ⟨r, ⟨nb, ok, m, b, hist_frame hh (fun p hp => fb p (by omega) (by omega))⟩, lk⟩ (fr_tr f1 (fun p hp => fb p (by omega) (by omega)))
      have skip : mX7_settle_b142 Q (mX7_settle_b26 Q f) k v b1 := ⟨zri (by omega) (by omega), ih k r b1 k0 (by omega) ok lk nb tb fb⟩
      refine ⟨fun w => by omega, fun _ => p5_isClash1 tb ⟨v1, by omega⟩ ⟨fun c => ?_, fun c => p3_chosenToMove nb ok.1 ?_⟩⟩
      · unfold mX7_settle_b56
        exact ⟨fun _ => skip, fun d => absurd rfl d⟩
      · have ec : (if mvb r 1 v = -1 then mvb r 0 v else mvb r 1 v) = chz r v := rfl
        rw [ec]
        unfold mX7_settle_b56
        refine ⟨fun d => skip, fun d => ⟨by omega, ?_⟩⟩
        have hx : 0 ≤ chz r v ∧ chz r v < r 0 := by omega
        have hp0 : fl r (chz r v) 2 = 0 := by
          have spec : ∀ o, ¬ mvb r o v = -1 → fl r (mvb r o v) 2 = 0 := fun o ho => by
            rcases fs_spec (fun i => decide (fl r i 0 = o) && (decide (fl r i 1 = v) && decide (fl r i 2 = 0))) 0 (r 0) with ⟨q, _⟩ | ⟨_, _, q, _⟩
            · exact absurd q ho
            · simp only [Bool.and_eq_true, decide_eq_true_eq] at q
              exact q.2.2
          unfold chz at d ⊢
          split at d
          · rename_i q; rw [if_pos q]; exact spec 0 d
          · rename_i q; rw [if_neg q]; exact spec 1 q
        rw [(nb.2.1 _ hx.1 hx.2).2.2.2.2.2.1, nb.1.2.2.2.2.2.1, nb.1.2.2.2.2.2.2.1]
        refine ⟨fun c4 => skip, fun c4 => p5_smallestFree tb ok.1.2.2.1.1 ok.1.2.2.1.2.2 (p3_firstWaveWithRoom nb ok.1 ?_)⟩
        rw [ffr_5 ok.1]
        by_cases c1 : ffr r = -1
        · rw [if_pos c1]
          exact ⟨fun _ => fin _, fun w => absurd rfl w⟩
        · by_cases c2 : fw r = -1
          · rw [if_pos c2, if_neg c1]
            exact ⟨fun w => by omega, fun _ => ⟨fun w => absurd rfl w, fun _ => fin _⟩⟩
          · rw [if_neg c1, if_neg c2]
            refine ⟨fun w => by omega, fun _ => ⟨fun _ => p3_setPlan nb ok.1.1 hx fun b2 n2 f2 => ?_, fun w => by omega⟩⟩
            unfold mX5_countPlan
            have e175 : b2 175 = b1 175 := f2 175 (by omega) (by omega)
            refine p5_addOne ⟨by omega, by omega⟩ ?_ ⟨zri (by omega) (by omega), ?_⟩
            · have h5 := (tb (ffr r) (by omega) (by omega)).2.2
              have hp := cn_r (fun i => decide (fl r i 3 = ffr r)) (b := r 0) 0 o1.1.1
              have e5 : pcn r (ffr r) = cn (fun i => decide (fl r i 3 = ffr r)) 0 (r 0) := rfl
              rw [rd_same e175, h5, e5]
              omega
            · unfold mX7_settle_b142
              have w5 : ∀ j, 0 ≤ j → rd (wr b2 175 (ffr r) (rd b2 175 (ffr r) + 1)) 175 j = if j = ffr r then rd b1 175 (ffr r) + 1 else rd b1 175 j := fun j j0 => by
                rw [rw_if (by omega) j0, rd_same e175, rd_same e175]
                by_cases q : j = ffr r
                · rw [if_pos ⟨rfl, q⟩, if_pos q]
                · rw [if_neg (fun w => q w.2), if_neg q]
              have fw5 : ∀ p, p ≠ 175 → (wr b2 175 (ffr r) (rd b2 175 (ffr r) + 1)) p = b2 p := fun p hp => wr_q hp
              have hff : ffr r ≤ 60 := by
                rcases fs_spec (fre r) (r 5) (r 6 + 1) with ⟨q, _⟩ | ⟨_, q, _, _⟩
                · exact absurd q c1
                · have := lk.1; have q : ffr r < r 6 + 1 := q; omega
              have hfw : r 2 < fw r := by
                rcases fs_spec (fun w => decide (pln r w < r 4)) (r 2 + 1) 10 with ⟨q, _⟩ | ⟨q, _, _, _⟩
                · exact absurd q c2
                · have q : r 2 + 1 ≤ fw r := q; omega
              refine ⟨zri (by omega) (by omega), ih (k + 1) (plR r (chz r v) (ffr r) (fw r)) _ (by omega) (by omega) (stl_ok ok hx c1 c2) (LI_plR lk o1.1.2 hx (Or.inr ⟨hff, hfw, hp0⟩)) (nets_frame n2 (fun p p1 p2 => fw5 p (by omega))) ?_ (fun p p1 p2 => ?_)⟩
              · exact tly_pl ok.1.1 tb hx (ok.2.2 _ hx.1 hx.2 c4) (by omega) (fun p hp => by rw [fw5 p (by omega), f2 p (by omega) (by omega)]) w5
              · rw [fw5 p (by omega), f2 p (by omega) (by omega), fb p p1 p2])
  exact ⟨f, hf 0 r0 g2 (by omega) (by omega) s1.2.1 l0 (nets_frame s1.1 (fun p p1 p2 => f2 p (by omega) (by omega) (by omega))) t2 (fun p p1 p2 => f2 p (by omega) (by omega) (by omega))⟩
theorem emr {a b : Int} (hb : 0 < b) : 0 ≤ a % b ∧ a % b < b := ⟨Int.emod_nonneg a (by omega), Int.emod_lt_of_pos a hb⟩
theorem p_acts {x : Int} {h : Hp} {Q : Int → Hp → Prop} (hx : 0 ≤ x ∧ x ≤ 1073741823) (hi : inv h) (hQ : ∀ z h', inv h' → fr h h' → Q z h') : mL_acts x h Q := by
  obtain ⟨r, s, l⟩ := id hi
  have o1 := st_b s
  have b := fun z => hQ z h hi fr_rf
  have pl : ¬ r 0 = 0 → ((0 : Int) ≤ (x / 14) ∧ (0 : Int) < r 0) ∧ (((0 : Int) ≤ (x / 14) ∧ (0 : Int) < 16) ∧ (((0 : Int) ≤ ((x / 14) / 16) ∧ (0 : Int) < 25) ∧ (zr (1 + (((x / 14) / 16) % 25)) ∧ (mX7_size 3 h (fun z61 h62 => (((0 : Int) ≤ (x / 14) ∧ (0 : Int) < 1024) ∧ (((0 : Int) ≤ ((x / 14) / 1024) ∧ (0 : Int) < 2) ∧ (zr (z61 + (((x / 14) / 1024) % 2)) ∧ (zr (1 + (min 8 (z61 + (((x / 14) / 1024) % 2)))) ∧ (mX7_plan ((x / 14) % r 0) (1 + (((x / 14) / 16) % 25)) (1 + (min 8 (z61 + (((x / 14) / 1024) % 2)))) h62 (fun z63 h64 => (Q z63 h64))))))))))))  := fun h0 =>
    ⟨by omega, by omega, by omega, zri (by omega) (by omega), k_s3 s ⟨by omega, by omega, zri (by omega) (by omega), zri (by omega) (by omega), a_plan s l (emr (by omega)) (by omega) (by omega) hQ⟩⟩
  unfold mL_acts
  refine ⟨by omega, k_s0 s ⟨by omega, fun _ => ⟨by omega, by omega, by omega, zri (by omega) (by omega), a_addHost hi (by omega) (by omega) hQ⟩, fun _ => ⟨fun h0 => ⟨by omega, a_removeHost s l (emr (by omega)) hQ⟩, fun _ => b _⟩, fun _ => ⟨pl, fun _ => b _⟩, fun _ => ⟨pl, fun _ => b _⟩, fun _ => ⟨pl, fun _ => b _⟩, fun _ => a_settle hi hQ, fun _ => a_wave hi hQ, fun _ => a_wave hi hQ, fun _ => a_back hi hQ, fun _ => k_s8 s ⟨fun _ => a_close hi hQ, fun _ => a_open hi hQ⟩, fun _ => ⟨by omega, by omega, by omega, fun _ => ?_, fun _ => ?_⟩, fun _ => k_s1 s ⟨fun h0 => k_s1 s ⟨by omega, a_removeRule s l (emr (by omega)) hQ⟩, fun _ => b _⟩, fun _ => ⟨by omega, a_setKeep hi (by omega) hQ⟩, fun _ => ⟨fun h0 => ⟨by omega, fun _ => ⟨by omega, a_unplan s l (emr (by omega)) hQ⟩, fun _ => ⟨by omega, by omega, by omega, by omega, fun _ => ?_, fun _ => ?_⟩⟩, fun _ => b _⟩⟩⟩
  · exact ⟨by omega, by omega, by omega, by omega, a_addRule hi (by omega) (by omega) (by omega) hQ⟩
  · exact ⟨by omega, by omega, by omega, by omega, a_addRule hi (by omega) (by omega) (by omega) hQ⟩
  · exact a_setPinned s l (emr (by omega)) hQ
  · exact a_setPinned s l (emr (by omega)) hQ
