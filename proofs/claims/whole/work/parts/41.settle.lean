/-! settling -/
def chz (r : Rw) (v : Int) : Int := if mvb r 1 v = -1 then mvb r 0 v else mvb r 1 v
def sgo (r : Rw) (v : Int) : Bool := clash r v && (decide (¬ chz r v = -1) && decide (fl r (chz r v) 4 = 0))
def stl : Nat → Rw → Int → Int → Rw × Int
  | 0, r, _, n => (r, n)
  | f + 1, r, v, n => if sgo r v = true then (if ffr r = -1 ∨ fw r = -1 then (r, n) else stl f (plR r (chz r v) (ffr r) (fw r)) (v + 1) (n + 1)) else stl f r (v + 1) n
theorem stl_s {f : Nat} {r : Rw} {v n : Int} : stl (f + 1) r v n = if sgo r v = true then (if ffr r = -1 ∨ fw r = -1 then (r, n) else stl f (plR r (chz r v) (ffr r) (fw r)) (v + 1) (n + 1)) else stl f r (v + 1) n := rfl
theorem chz_r {r : Rw} {v : Int} : chz r v = -1 ∨ (0 ≤ chz r v ∧ chz r v < r 0) := by
  have a := fs_r (p := fun i => decide (fl r i 0 = 1) && (decide (fl r i 1 = v) && decide (fl r i 2 = 0))) (a := 0) (b := r 0) (Int.le_refl 0)
  have b := fs_r (p := fun i => decide (fl r i 0 = 0) && (decide (fl r i 1 = v) && decide (fl r i 2 = 0))) (a := 0) (b := r 0) (Int.le_refl 0)
  unfold chz mvb
  split <;> omega
theorem fw_r {r : Rw} (ho : okR r) : fw r = -1 ∨ (1 ≤ fw r ∧ fw r ≤ 9) := by
  unfold okR at ho
  have := fs_r (p := fun w => decide (pln r w < r 4)) (a := r 2 + 1) (b := 10) (by omega)
  unfold fw
  omega
theorem stl_ok {r : Rw} (ho : okS r) {x : Int} (hx : 0 ≤ x ∧ x < r 0) (hf : ¬ ffr r = -1) (hw : ¬ fw r = -1) : okS (plR r x (ffr r) (fw r)) := by
  have a := ffr_r ho.1
  have b := fw_r ho.1.1
  rcases plR_okS (a := ffr r) (b := fw r) ho hx (by omega) (by omega) with q | q
  · exact q
  · omega
/-- the tally behind a plan -/
theorem tly_pl {g g' : Hp} {r : Rw} {x a b : Int} (ho : okR r) (ht : tly g r) (hx : 0 ≤ x ∧ x < r 0) (h3 : fl r x 3 = 0) (ha : 1 ≤ a ∧ a ≤ 250) (f : ∀ p, (173 ≤ p ∧ p ≤ 174) → g' p = g p) (v5 : ∀ j, 0 ≤ j → rd g' 175 j = if j = a then rd g 175 a + 1 else rd g 175 j) : tly g' (plR r x a b) := by
  unfold okR at ho
  intro v v1 v2
  obtain ⟨c1, c2, c3⟩ := ht v v1 v2
  have e0 : plR r x a b 0 = r 0 := plR_h hx.1 (by omega)
  have e2 : plR r x a b 2 = r 2 := plR_h hx.1 (by omega)
  have e3 : plR r x a b 3 = r 3 := plR_h hx.1 (by omega)
  have hcs : ∀ o, hc (plR r x a b) o v = hc r o v := fun o => by
    unfold hc
    rw [e0]
    refine cn_congr 0 fun i i1 i2 => ?_
    rw [plR_n hx.1 i1 (by omega) (by omega), hds_ext2 (r := r) (i := i) e3 e2 (plR_n hx.1 i1 (by omega) (by omega)) (fun w w1 w2 => plR_n hx.1 i1 (by omega) (by omega))]
  rw [hcs, hcs, rd_same (f 173 (by omega)), rd_same (f 174 (by omega))]
  refine ⟨c1, c2, ?_⟩
  rw [v5 v (by omega)]
  have f3 : ∀ i, 0 ≤ i → fl (plR r x a b) i 3 = if i = x then a else fl r i 3 := fun i i1 => by
    rw [plR_f hx.1 i1 (by omega), if_neg (by omega)]
    by_cases c : i = x
    · rw [if_pos ⟨c, rfl⟩, if_pos c]
    · rw [if_neg (fun w => c w.1), if_neg c]
  have hu := cn_upd (p := fun i => decide (fl r i 3 = v)) (q := fun i => decide (fl (plR r x a b) i 3 = v)) (x := x) (b := r 0) 0 hx.1 hx.2 (fun i i1 i2 i3 => by rw [f3 i i1, if_neg i3])
  have e : pcn (plR r x a b) v = cn (fun i => decide (fl (plR r x a b) i 3 = v)) 0 (r 0) := by unfold pcn; rw [e0]
  rw [e, hu, f3 x hx.1, if_pos rfl, h3, decide_eq_false (show ¬ (0 : Int) = v by omega), b2i_f]
  have e5 : pcn r v = cn (fun i => decide (fl r i 3 = v)) 0 (r 0) := rfl
  by_cases c : v = a
  · rw [if_pos c, decide_eq_true c.symm, b2i_t, ← e5, ← c3, c]; omega
  · rw [if_neg c, decide_eq_false (fun w => c w.symm), b2i_f, ← e5, ← c3]; omega
theorem c_settle {h : Hp} (hi : inv h) : mX7_settle h (fun z h1 => mX8_settle h1 (fun b h2 => okB z b h2)) := by
  obtain ⟨⟨n, o⟩, -, ⟨hh, -⟩, -⟩ := id hi
  -- the reference
  have ref : ∀ (g : Hp) (R : Rw) (N : Int), cst h g (rd h 186) R → stl 250 (rd h 186) 1 0 = (R, N) → okS R → mX8_settle g (fun b h2 => okB N b h2) := by
    intro g R N cs hs okn
    have r2 : rd g 186 = rd h 186 := rd_ne (cs.2.2 186 (by omega))
    have e6 : g 185 6 = h 185 6 := by rw [cs.2.2 185 (by omega)]
    unfold mX8_settle
    intro a ea
    rw [ea]
    refine p8_push (by rw [e6]; exact hh.2.1) fun a1 m1 ma m0 mo => ?_
    have ra1 : rd a1 186 = rd h 186 := by rw [rd_ne ma, r2]
    rw [r2] at m1
    have fin : ∀ (b1 : Hp) (r : Rw) (k : Int), rd b1 186 = r → (∀ p, p ≠ 186 → b1 p = a1 p) → (r, k) = (R, N) → okB N k b1 := by
      intro b1 r k hr hf e
      injection e with e1 e2
      subst e1 e2
      exact okB_op hi cs okn (mst_w m1 hf) (by rw [hr]; exact ev_rfl) rfl
    obtain ⟨f, hf⟩ := forU (fun f v => ∀ (k : Int) (r : Rw) (b1 : Hp), 0 ≤ k → k ≤ v → okS r → rd b1 186 = r → (∀ p, p ≠ 186 → b1 p = a1 p) → stl (251 - v).toNat r v k = (R, N) → mX8_settle_b17 (fun b h2 => okB N b h2) f k v b1) 1 251 (by omega) (fun f k r b1 k0 k1 ok hr fb hs => by
        unfold mX8_settle_b17
        exact ⟨fun _ => fin b1 r k hr fb hs, fun w => absurd (by omega) w⟩) (fun f v v1 v2 ih k r b1 k0 k1 ok hr fb hs => by
        unfold mX8_settle_b17
        rw [show (251 - v).toNat = (251 - (v + 1)).toNat + 1 by omega, stl_s] at hs
        have o1 := ok.1.1
        unfold okR at o1
        have hz := chz_r (r := r) (v := v)
        have ha := ffr_r ok.1
        have hb := fw_r ok.1.1
        refine ⟨fun w => by omega, fun _ => p8_isClash (by rw [hr]; exact ok.1.1) ?_⟩
        rw [hr]
        have skip : sgo r v = false → mX8_settle_b124 (fun b h2 => okB N b h2) (mX8_settle_b17 (fun b h2 => okB N b h2) f) k v b1 := fun hg => by
          unfold mX8_settle_b124
          rw [hg, if_neg (by decide)] at hs
          exact ⟨zri (by omega) (by omega), ih k r b1 k0 (by omega) ok hr fb hs⟩
        have go : clash r v = true → ∀ x, x = chz r v → mX8_settle_b54 (fun b h2 => okB N b h2) (mX8_settle_b17 (fun b h2 => okB N b h2) f) k v x b1 := fun hcl x hx => by
          unfold mX8_settle_b54
          refine ⟨fun c => skip ?_, fun c => p8_of (by omega) (by omega) ?_⟩
          · unfold sgo
            rw [← hx, decide_eq_false (fun w => w c), Bool.false_and, Bool.and_false]
          · rw [hr]
            refine ⟨fun c4 => p8_firstFree (by rw [hr]; exact ok.1) (p8_firstWave (by rw [hr]; exact ok.1) ?_), fun c4 => skip ?_⟩
            · rw [hr]
              have hg : sgo r v = true := by
                unfold sgo
                rw [hcl, ← hx, decide_eq_true c, decide_eq_true c4]; rfl
              rw [if_pos hg] at hs
              refine ⟨fun d => ?_, fun d => ⟨fun d2 => p8_put (by omega) (by omega) fun b2 rb2 fb2 => p8_put (by omega) (by omega) fun b3 rb3 fb3 => ⟨zri (by omega) (by omega), ?_⟩, fun d2 => ?_⟩⟩
              · rw [if_pos (Or.inl d)] at hs
                exact fin b1 r k hr fb hs
              · rw [if_neg (fun w => w.elim d d2)] at hs
                unfold mX8_settle_b124
                have rb : rd b3 186 = plR r (chz r v) (ffr r) (fw r) := by rw [rb3, rb2, hr, hx]; rfl
                exact ⟨zri (by omega) (by omega), ih (k + 1) _ b3 (by omega) (by omega) (stl_ok ok (by omega) d d2) rb (fun p hp => by rw [fb3 p hp, fb2 p hp, fb p hp]) hs⟩
              · rw [if_pos (Or.inr d2)] at hs
                exact fin b1 r k hr fb hs
            · unfold sgo
              rw [← hx, decide_eq_false c4, Bool.and_false, Bool.and_false]
        refine ⟨fun c => p8_choosen (by rw [hr]; exact ok.1) ?_, fun c => skip ?_⟩
        · rw [hr]
          have en : ∀ w, fs (fun i => decide (fl r i 0 = w) && (decide (fl r i 1 = v) && decide (fl r i 2 = 0))) 0 (r 0) = mvb r w v := fun w => rfl
          rw [en]
          refine ⟨fun d => go (b2i1.mp c) _ (by unfold chz; rw [if_neg d]), fun d => p8_choosen (by rw [hr]; exact ok.1) (go (b2i1.mp c) _ ?_)⟩
          rw [hr, en]
          unfold chz
          rw [if_pos d]
        · unfold sgo
          rw [b2i0.mp c, Bool.false_and])
    exact ⟨f, hf 0 (rd h 186) a1 (by omega) (by omega) o ra1 (fun _ _ => rfl) hs⟩
  unfold mX7_settle
  refine p0_push hi fun g1 cg fg1 => p5_count cg.2.1 o.1 (by omega) fun g2 t2 f2 => ?_
  obtain ⟨f, hf⟩ := forU (fun f v => ∀ (k : Int) (r : Rw) (b1 : Hp), 0 ≤ k → k ≤ v → okS r → nets b1 0 r → tly b1 r → (∀ p, 12 < p → ¬ (173 ≤ p ∧ p ≤ 175) → b1 p = g1 p) → stl (251 - v).toNat r v k = stl 250 (rd h 186) 1 0 → mX7_settle_b26 (fun z h1 => mX8_settle h1 (fun b h2 => okB z b h2)) f k v b1) 1 251 (by omega) (fun f k r b1 k0 k1 ok nb tb fb hs => by
      unfold mX7_settle_b26
      have cs : cst h b1 (rd h 186) r := ⟨hist_frame cg.1 (fun p hp => fb p (by omega) (by omega)), nb, fun p hp => by rw [fb p (by omega) (by omega)]; exact cg.2.2 p hp⟩
      exact ⟨fun _ => ref b1 r k cs hs.symm ok, fun w => absurd (by omega) w⟩) (fun f v v1 v2 ih k r b1 k0 k1 ok nb tb fb hs => by
      unfold mX7_settle_b26
      have cs : cst h b1 (rd h 186) r := ⟨hist_frame cg.1 (fun p hp => fb p (by omega) (by omega)), nb, fun p hp => by rw [fb p (by omega) (by omega)]; exact cg.2.2 p hp⟩
      have hs0 := hs
      rw [show (251 - v).toNat = (251 - (v + 1)).toNat + 1 by omega, stl_s] at hs
      have o1 := ok.1.1
      unfold okR at o1
      have hz := chz_r (r := r) (v := v)
      have ha := ffr_r ok.1
      have hb := fw_r ok.1.1
      have skip : sgo r v = false → mX7_settle_b142 (fun z h1 => mX8_settle h1 (fun b h2 => okB z b h2)) (mX7_settle_b26 (fun z h1 => mX8_settle h1 (fun b h2 => okB z b h2)) f) k v b1 := fun hg => by
        unfold mX7_settle_b142
        rw [hg, if_neg (by decide)] at hs
        exact ⟨zri (by omega) (by omega), ih k r b1 k0 (by omega) ok nb tb fb hs⟩
      refine ⟨fun w => by omega, fun _ => p5_isClash1 tb ⟨v1, by omega⟩ ⟨fun c => ?_, fun c => p3_chosenToMove nb ok.1 ?_⟩⟩
      · unfold mX7_settle_b56
        exact ⟨fun _ => skip (by unfold sgo; rw [b2i0.mp c, Bool.false_and]), fun d => absurd rfl d⟩
      · have ec : (if mvb r 1 v = -1 then mvb r 0 v else mvb r 1 v) = chz r v := rfl
        rw [ec]
        unfold mX7_settle_b56
        refine ⟨fun d => skip ?_, fun d => ⟨by omega, ?_⟩⟩
        · unfold sgo
          rw [decide_eq_false (fun w => w d), Bool.false_and, Bool.and_false]
        · have hx : 0 ≤ chz r v ∧ chz r v < r 0 := by omega
          rw [(nb.2.1 _ hx.1 hx.2).2.2.2.2.2.1, nb.1.2.2.2.2.2.1, nb.1.2.2.2.2.2.2.1]
          refine ⟨fun c4 => skip ?_, fun c4 => p5_smallestFree tb ok.1.2.2.1.1 ok.1.2.2.1.2.2 (p3_firstWaveWithRoom nb ok.1 ?_)⟩
          · unfold sgo
            rw [decide_eq_false c4, Bool.and_false, Bool.and_false]
          · rw [ffr_5 ok.1]
            have hg : sgo r v = true := by
              unfold sgo
              rw [b2i1.mp c, decide_eq_true d, decide_eq_true c4]; rfl
            rw [if_pos hg] at hs
            by_cases c1 : ffr r = -1
            · rw [if_pos c1]
              rw [if_pos (Or.inl c1)] at hs
              exact ⟨fun _ => ref b1 r k cs hs.symm ok, fun w => absurd rfl w⟩
            · by_cases c2 : fw r = -1
              · rw [if_pos c2, if_neg c1]
                rw [if_pos (Or.inr c2)] at hs
                exact ⟨fun w => by omega, fun _ => ⟨fun w => absurd rfl w, fun _ => ref b1 r k cs hs.symm ok⟩⟩
              · rw [if_neg c1, if_neg c2]
                rw [if_neg (fun w => w.elim c1 c2)] at hs
                refine ⟨fun w => by omega, fun _ => ⟨fun _ => p3_setPlan nb ok.1.1 hx fun b2 n2 f2 => ?_, fun w => by omega⟩⟩
                unfold mX5_countPlan
                have e175 : b2 175 = b1 175 := f2 175 (by omega) (by omega)
                refine p5_addOne ⟨by omega, by omega⟩ ?_ ⟨zri (by omega) (by omega), ?_⟩
                · have h5 := (tb (ffr r) (by omega) (by omega)).2.2
                  have hp := cn_r (fun i => decide (fl r i 3 = ffr r)) (b := r 0) 0 o1.1.1
                  have e5 : pcn r (ffr r) = cn (fun i => decide (fl r i 3 = ffr r)) 0 (r 0) := rfl
                  rw [rd_same e175, h5, e5]
                  omega
                · unfold mX7_settle_b142
                  have w5 : ∀ j, 0 ≤ j → rd (wr b2 175 (ffr r) (rd b2 175 (ffr r) + 1)) 175 j = if j = ffr r then rd b1 175 (ffr r) + 1 else rd b1 175 j := fun j j0 => by
                    rw [rw_if (by omega) j0, rd_same e175, rd_same e175]
                    by_cases q : j = ffr r
                    · rw [if_pos ⟨rfl, q⟩, if_pos q]
                    · rw [if_neg (fun w => q w.2), if_neg q]
                  have fw5 : ∀ p, p ≠ 175 → (wr b2 175 (ffr r) (rd b2 175 (ffr r) + 1)) p = b2 p := fun p hp => wr_q hp
                  refine ⟨zri (by omega) (by omega), ih (k + 1) (plR r (chz r v) (ffr r) (fw r)) _ (by omega) (by omega) (stl_ok ok hx c1 c2) (nets_frame n2 (fun p p1 p2 => fw5 p (by omega))) ?_ (fun p p1 p2 => ?_) hs⟩
                  · exact tly_pl ok.1.1 tb hx (ok.2.2 _ hx.1 hx.2 c4) (by omega) (fun p hp => by rw [fw5 p (by omega), f2 p (by omega) (by omega)]) w5
                  · rw [fw5 p (by omega), f2 p (by omega) (by omega), fb p p1 p2])
  exact ⟨f, hf 0 (rd h 186) g2 (by omega) (by omega) o (nets_frame cg.2.1 (fun p p1 p2 => f2 p (by omega) (by omega) (by omega))) t2 (fun p p1 p2 => f2 p (by omega) (by omega) (by omega)) rfl⟩
