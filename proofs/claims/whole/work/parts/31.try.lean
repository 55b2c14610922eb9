/-! the reference goes back; both try the next wave -/
theorem p8_goesBack {h : Hp} {Q : Hp → Prop} {r : Rw} (he : eqV r (rd h 186)) (ho : okS r) (h2 : 1 ≤ r 2)
    (hQ : ∀ h', eqV (bk r) (rd h' 186) → (∀ p, p ≠ 186 → p ≠ 192 → h' p = h p) → Q h') : mX8_goesBack h Q := by
  have ho1 := ho.1.1
  unfold okR at ho1
  unfold mX8_goesBack
  have e2 : rd h 186 2 = r 2 := he.hd.2.2.1
  rw [e2]
  refine ⟨⟨by omega, by omega⟩, p8_laysLeads fun a1 f1 l1 => ?_⟩
  obtain ⟨f, hf⟩ := forU (fun f i => ∀ g : Hp, eqV (BI r i) (rd g 186) → (∀ o v, (o = 0 ∨ o = 1) → 0 ≤ v → v ≤ 250 → rd g 192 (251 * o + v) = ldG r (bkg r) (fun x => fl r x ((14 + r 2) - 1)) i o v) → (∀ p, p ≠ 186 → p ≠ 192 → g p = h p) → mX8_goesBack_b13 Q f (r 2) i g) 0 (r 0) (by omega) (fun f g eg lg gf => by
      unfold mX8_goesBack_b13
      have e0 : rd g 186 0 = r 0 := eg.hd.1
      rw [e0]
      refine ⟨⟨by omega, by omega⟩, fun _ => ⟨zri (by omega) (by omega), ⟨by omega, by omega⟩, fun b1 w1 => ?_⟩, fun hx => absurd (Int.le_refl _) hx⟩
      have eb1 : rd b1 186 = up (rd g 186) 2 (r 2 - 1) := by rw [w1]; exact rd_wr
      have fb1 : ∀ p, p ≠ 186 → b1 p = g p := fun p hp => by rw [w1]; exact wr_q hp
      have ev : eqV (mkR (bkH r) (bkM r) (rl r)) (rd b1 186) := by
        rw [eb1]
        refine ⟨fun k k1 k2 => ?_, fun i i1 i2 j j1 j2 => ?_, fun k k1 k2 j j1 j2 => ?_⟩
        · rw [mk_h (by omega)]
          by_cases c : k = 2
          · subst c; rw [up_same, bkH_2]
          · rw [up_ne (by omega) k1 c, bkH_k c, eg.1 k k1 k2]; exact mk_h (by omega)
        · have i2' : i < r 0 := i2
          rw [fl_up (by omega) i1 j1 (by omega) (by omega) j2, eg.2.1 i i1 i2' j j1 j2, mk_f ⟨i1, by omega⟩ ⟨j1, j2⟩]
          unfold BI
          rw [mk_f ⟨i1, by omega⟩ ⟨j1, j2⟩, if_pos i2']
        · have k2' : k < r 1 := k2
          rw [rl_up (by omega) k1 j1 (by omega), eg.2.2 k k1 k2' j j1 j2, mk_r k1 ⟨j1, j2⟩]
          exact mk_r k1 ⟨j1, j2⟩
      have hrl : ∀ k, 0 ≤ k → ∀ j, 0 ≤ j → j < 4 → rl (mkR (bkH r) (bkM r) (rl r)) k j = rl r k j := fun k k1 j j1 j2 => mk_r k1 ⟨j1, j2⟩
      have hh : ∀ k, k < 16 → mkR (bkH r) (bkM r) (rl r) k = bkH r k := fun k k1 => mk_h k1
      have h1' : mkR (bkH r) (bkM r) (rl r) 1 = r 1 := by rw [hh 1 (by omega)]; exact bkH_k (by omega)
      have h0' : mkR (bkH r) (bkM r) (rl r) 0 = r 0 := by rw [hh 0 (by omega)]; exact bkH_k (by omega)
      refine p8_rewrites0 (T := sab r) ev ?_ (fun k k1 k2 => ?_) (fun o v o1 v1 v2 => ?_) fun b2 ev2 fb2 => hQ b2 ?_ (fun p p1 p2 => by rw [fb2 p p1, fb1 p p1, gf p p1 p2])
      · unfold okR
        rw [h0', h1', hh 2 (by omega), hh 3 (by omega), bkH_2, bkH_k (by omega)]
        omega
      · rw [h1'] at k2
        exact okU_ext (ho.1.2.2.2.2.2 k k1 k2) (fun j j1 j2 => hrl k k1 j j1 j2)
      · rw [rd_same (fb1 192 (by omega)), lg o v o1 v1 v2, sab_ld ho]
      · refine eqV.trans ⟨fun k k1 k2 => ?_, fun i i1 i2 j j1 j2 => ?_, fun k k1 k2 j j1 j2 => ?_⟩ ev2
        · unfold rwr bk
          rw [mk_h (by omega), mk_h (by omega), mk_h (by omega)]
        · have i2' : i < r 0 := by
            have : bk r 0 = r 0 := (mk_h (by omega)).trans (bkH_k (by omega))
            omega
          unfold rwr bk
          rw [mk_f ⟨i1, by omega⟩ ⟨j1, j2⟩, mk_f ⟨i1, by omega⟩ ⟨j1, j2⟩, mk_f ⟨i1, by omega⟩ ⟨j1, j2⟩]
        · have k2' : k < r 1 := by
            have : bk r 1 = r 1 := (mk_h (by omega)).trans (bkH_k (by omega))
            omega
          unfold rwr bk bkS
          rw [mk_r k1 ⟨j1, j2⟩, mk_r k1 ⟨j1, j2⟩, mk_r k1 ⟨by omega, by omega⟩, mk_r k1 ⟨j1, j2⟩, mk_h (by omega), bkH_k (by omega)]
          by_cases c : 2 ≤ j
          · rw [if_pos ⟨k2', c⟩, if_pos c]
          · rw [if_neg (fun w => c w.2), if_neg c]) (fun f i i1 i2 ih g eg lg gf => by
      unfold mX8_goesBack_b13
      have e0 : rd g 186 0 = r 0 := eg.hd.1
      have hO := ho.1.2.2.2.2.1 i i1 i2
      unfold okH at hO
      have ht := lat_top ho.1 h2 ⟨i1, i2⟩
      have hO9 := hO.2.2.2.2.2.2.2.2 (r 2) (by omega) (by omega)
      have hfl : ∀ j, 0 ≤ j → j < 24 → fl (rd g 186) i j = fl r i j := fun j j1 j2 => by
        rw [eg.2.1 i i1 i2 j j1 j2]; unfold BI; rw [mk_f ⟨i1, by omega⟩ ⟨j1, j2⟩, if_neg (by omega)]
      rw [e0]
      have m_e : ∀ s : Rw, (∀ k, 0 ≤ k → k < 8 → s k = rd g 186 k) → (∀ x, 0 ≤ x → x < r 0 → ∀ j, 0 ≤ j → j < 24 → fl s x j = if x = i then bkM r i j else fl (rd g 186) x j) → (∀ k, 0 ≤ k → k < r 1 → ∀ j, 0 ≤ j → j < 4 → rl s k j = rl (rd g 186) k j) → eqV (BI r (i + 1)) s := fun s sh sf' su => by
        refine ⟨fun k k1 k2 => ?_, fun x x1 x2 j j1 j2 => ?_, fun k k1 k2 j j1 j2 => ?_⟩
        · rw [sh k k1 k2, eg.1 k k1 k2]
          unfold BI
          rw [mk_h (by omega), mk_h (by omega)]
        · have x2' : x < r 0 := x2
          rw [sf' x x1 x2' j j1 j2, eg.2.1 x x1 x2' j j1 j2]
          unfold BI
          rw [mk_f ⟨x1, by omega⟩ ⟨j1, j2⟩, mk_f ⟨x1, by omega⟩ ⟨j1, j2⟩]
          by_cases c : x = i
          · subst c; rw [if_pos rfl, if_pos (by omega)]
          · rw [if_neg c]
            by_cases d : x < i
            · rw [if_pos d, if_pos (by omega)]
            · rw [if_neg d, if_neg (by omega)]
        · have k2' : k < r 1 := k2
          rw [su k k1 k2' j j1 j2, eg.2.2 k k1 k2' j j1 j2]
          unfold BI
          rw [mk_r k1 ⟨j1, j2⟩, mk_r k1 ⟨j1, j2⟩]
      refine ⟨⟨by omega, by omega⟩, fun hx => by omega, fun _ => ⟨zri (by omega) (by omega), zri (by omega) (by omega), p8_of ⟨i1, by omega⟩ (by omega) ?_⟩⟩
      rw [hfl _ (by omega) (by omega)]
      refine ⟨fun hc => ?_, fun hc => ?_⟩
      · have hl : lat r i = r 2 := ht.mpr hc
        have hm : bkg r i = true := decide_eq_true hl
        refine p8_of ⟨i1, by omega⟩ (by omega) ?_
        rw [hfl 1 (by omega) (by omega)]
        refine p8_leadsTo ⟨i1, by omega⟩ ⟨by omega, by omega⟩ fun b1 fb1 lb1 => p8_put ⟨i1, by omega⟩ (by omega) fun b2 rb2 fb2 => ⟨zri (by omega) (by omega), zri (by omega) (by omega), p8_put ⟨i1, by omega⟩ (by omega) fun b3 rb3 fb3 => ?_⟩
        have rb1 : rd b1 186 = rd g 186 := rd_ne (fb1 186 (by omega))
        have r3 : rd b3 186 = sf (sf (rd g 186) i 1 (fl r i ((14 + r 2) - 1))) i ((14 + r 2) - 1) 0 := by rw [rb3, rb2, rb1]
        have g3 : ∀ j, 0 ≤ j → j < 24 → fl (rd b3 186) i j = if j = (14 + r 2) - 1 then 0 else if j = 1 then fl r i ((14 + r 2) - 1) else fl r i j := fun j j1 j2 => by
          rw [r3, fl_sf i1 (by omega) i1 ⟨j1, j2⟩, fl_sf i1 (by omega) i1 ⟨j1, j2⟩, hfl j j1 j2]
          by_cases c : j = (14 + r 2) - 1
          · rw [if_pos ⟨rfl, c⟩, if_pos c]
          · rw [if_neg (fun w => c w.2), if_neg c]
            by_cases d : j = 1
            · rw [if_pos ⟨rfl, d⟩, if_pos d]
            · rw [if_neg (fun w => d w.2), if_neg d]
        have em : ∀ j, bkM r i j = (if j = 1 then fl r i ((14 + r 2) - 1) else if j = (14 + r 2) - 1 then 0 else if j = 3 ∧ fl r i 4 = 0 ∧ fl r i 2 = 0 then fl r i 1 else if j = 4 ∧ fl r i 4 = 0 ∧ fl r i 2 = 0 then r 2 else fl r i j) := fun j => by unfold bkM; rw [if_pos hl]
        have tab : ∀ b : Hp, b 192 = b1 192 → ∀ o v, (o = 0 ∨ o = 1) → 0 ≤ v → v ≤ 250 → rd b 192 (251 * o + v) = ldG r (bkg r) (fun x => fl r x ((14 + r 2) - 1)) (i + 1) o v := fun b hb o v o1 v1 v2 => by
          rw [rd_same hb, lb1 o v o1 v1 v2, ldG_hit ho ⟨i1, i2⟩ hm, lg o v o1 v1 v2]
          have : onet (rd g 186) i o = onet r i o := by
            unfold onet
            rw [hfl 0 (by omega) (by omega), eg.hd.2.2.2.2.2.2.2]
            rfl
          rw [this]
        have stay : ¬ (fl r i 4 = 0 ∧ fl r i 2 = 0) → mX8_goesBack_b130 Q (mX8_goesBack_b13 Q f) (r 2) i b3 := by
          intro hs
          unfold mX8_goesBack_b130
          refine ⟨zri (by omega) (by omega), ih b3 (m_e _ (fun k k1 k2 => ?_) (fun x x1 x2 j j1 j2 => ?_) (fun k k1 k2 j j1 j2 => ?_)) (tab b3 (by rw [fb3 192 (by omega), fb2 192 (by omega)])) (fun p p1 p2 => by rw [fb3 p p1, fb2 p p1, fb1 p p2, gf p p1 p2])⟩
          · rw [r3, hd_sf i1 (by omega) ⟨k1, by omega⟩, hd_sf i1 (by omega) ⟨k1, by omega⟩]
          · by_cases c : x = i
            · subst c
              rw [if_pos rfl, g3 j j1 j2, em]
              by_cases d1 : j = 1
              · rw [if_pos d1, if_neg (by omega), if_pos d1]
              · rw [if_neg d1, if_neg d1]
                by_cases dw : j = (14 + r 2) - 1
                · rw [if_pos dw, if_pos dw]
                · rw [if_neg dw, if_neg dw, if_neg (fun w => hs w.2), if_neg (fun w => hs w.2)]
            · rw [if_neg c, r3, fl_sf i1 (by omega) x1 ⟨j1, j2⟩, fl_sf i1 (by omega) x1 ⟨j1, j2⟩, if_neg (fun w => c w.1), if_neg (fun w => c w.1)]
          · rw [r3, rl_sf ⟨i1, by omega⟩ (by omega) k1 j1, rl_sf ⟨i1, by omega⟩ (by omega) k1 j1]
        refine p8_of ⟨i1, by omega⟩ (by omega) ?_
        rw [g3 4 (by omega) (by omega), if_neg (by omega), if_neg (by omega)]
        refine ⟨fun c4 => stay (fun w => c4 w.1), fun c4 => p8_of ⟨i1, by omega⟩ (by omega) ?_⟩
        rw [g3 2 (by omega) (by omega), if_neg (by omega), if_neg (by omega)]
        refine ⟨fun c2 => p8_put ⟨i1, by omega⟩ (by omega) fun b4 rb4 fb4 => p8_put ⟨i1, by omega⟩ (by omega) fun b5 rb5 fb5 => ?_, fun c2 => stay (fun w => by omega)⟩
        have hs : fl r i 4 = 0 ∧ fl r i 2 = 0 := ⟨c4, by omega⟩
        unfold mX8_goesBack_b130
        refine ⟨zri (by omega) (by omega), ih b5 (m_e _ (fun k k1 k2 => ?_) (fun x x1 x2 j j1 j2 => ?_) (fun k k1 k2 j j1 j2 => ?_)) (tab b5 (by rw [fb5 192 (by omega), fb4 192 (by omega), fb3 192 (by omega), fb2 192 (by omega)])) (fun p p1 p2 => by rw [fb5 p p1, fb4 p p1, fb3 p p1, fb2 p p1, fb1 p p2, gf p p1 p2])⟩
        · rw [rb5, rb4, hd_sf i1 (by omega) ⟨k1, by omega⟩, hd_sf i1 (by omega) ⟨k1, by omega⟩, r3, hd_sf i1 (by omega) ⟨k1, by omega⟩, hd_sf i1 (by omega) ⟨k1, by omega⟩]
        · rw [rb5, rb4, fl_sf i1 (by omega) x1 ⟨j1, j2⟩, fl_sf i1 (by omega) x1 ⟨j1, j2⟩]
          by_cases c : x = i
          · subst c
            rw [if_pos rfl, g3 j j1 j2, em]
            by_cases d1 : j = 1
            · rw [if_neg (by omega), if_neg (by omega), if_neg (by omega), if_pos d1, if_pos d1]
            · by_cases dw : j = (14 + r 2) - 1
              · rw [if_neg (by omega), if_neg (by omega), if_pos dw, if_neg d1, if_pos dw]
              · by_cases d3 : j = 3
                · rw [if_neg (by omega), if_pos ⟨rfl, d3⟩, if_neg d1, if_neg dw, if_pos ⟨d3, hs⟩]
                · by_cases d4 : j = 4
                  · rw [if_pos ⟨rfl, d4⟩, if_neg d1, if_neg dw, if_neg (fun w => d3 w.1), if_pos ⟨d4, hs⟩]
                  · rw [if_neg (fun w => d4 w.2), if_neg (fun w => d3 w.2), if_neg dw, if_neg d1, if_neg d1, if_neg dw, if_neg (fun w => d3 w.1), if_neg (fun w => d4 w.1)]
          · rw [if_neg (fun w => c w.1), if_neg (fun w => c w.1), if_neg c, r3, fl_sf i1 (by omega) x1 ⟨j1, j2⟩, fl_sf i1 (by omega) x1 ⟨j1, j2⟩, if_neg (fun w => c w.1), if_neg (fun w => c w.1)]
        · rw [rb5, rb4, rl_sf ⟨i1, by omega⟩ (by omega) k1 j1, rl_sf ⟨i1, by omega⟩ (by omega) k1 j1, r3, rl_sf ⟨i1, by omega⟩ (by omega) k1 j1, rl_sf ⟨i1, by omega⟩ (by omega) k1 j1]
      · unfold mX8_goesBack_b130
        have hl : ¬ lat r i = r 2 := fun w => ht.mp w hc
        have hm : bkg r i = false := decide_eq_false hl
        refine ⟨zri (by omega) (by omega), ih g ?_ (fun o v o1 v1 v2 => ?_) gf⟩
        · refine m_e _ (fun _ _ _ => rfl) (fun x x1 x2 j j1 j2 => ?_) (fun _ _ _ _ _ _ => rfl)
          by_cases c : x = i
          · subst c
            rw [if_pos rfl, hfl j j1 j2]
            unfold bkM
            rw [if_neg hl]
          · rw [if_neg c]
        · rw [lg o v o1 v1 v2, ldG_skip i1 (by unfold ldp; rw [hm, Bool.and_false, Bool.and_false])])
  refine ⟨f, hf a1 ?_ (fun o v o1 v1 v2 => ?_) (fun p p1 p2 => f1 p p2)⟩
  · rw [rd_ne (f1 186 (by omega))]
    refine ⟨fun k k1 k2 => ?_, fun x x1 x2 j j1 j2 => ?_, fun k k1 k2 j j1 j2 => ?_⟩
    · rw [he.1 k k1 k2]; exact (mk_h (by omega)).symm
    · have x2' : x < r 0 := x2
      rw [he.2.1 x x1 x2' j j1 j2]; unfold BI; rw [mk_f ⟨x1, by omega⟩ ⟨j1, j2⟩, if_neg (by omega)]
    · have k2' : k < r 1 := k2
      rw [he.2.2 k k1 k2' j j1 j2]; unfold BI; rw [mk_r k1 ⟨j1, j2⟩]
  · rw [l1 _ (by omega) (by omega), ldG_0]; omega
/-- what trying the next wave answers: 0 where it can be done -/
def tw0 (r : Rw) : Int := if 9 ≤ r 2 then -2 else if ¬ bnd r = -1 then -3 else if twice (wv r) = -1 then 0 else -4
theorem ev_bnd {r s : Rw} (he : eqV r s) : bnd s = bnd r := by
  unfold bnd
  rw [he.hd.1]
  refine fs_congr fun i i1 i2 => ?_
  unfold kpa
  rw [he.2.1 i i1 i2 4 (by omega) (by omega), he.hd.2.2.1, he.hd.2.2.2.1, ev_lat he i1 i2]
theorem p8_movesIf {h : Hp} {Q : Int → Hp → Prop} {r : Rw} (he : eqV r (rd h 186)) (ho : okS r)
    (hQ : ∀ h', (tw0 r = 0 → eqV (wv r) (rd h' 186) ∧ h' 185 19 = cn (mvg r) 0 (r 0) ∧ h' 185 20 = sdc r) → (∀ k, k ≠ 19 → k ≠ 20 → h' 185 k = h 185 k) → (∀ p, p ≠ 185 → p ≠ 186 → p ≠ 192 → h' p = h p) → Q (tw0 r) h') : mX8_movesIf h Q := by
  have ho1 := ho.1.1
  unfold okR at ho1
  have okh : okW (rd h 186) := okW_eqV ho.1 he
  have e2 : rd h 186 2 = r 2 := he.hd.2.2.1
  unfold mX8_movesIf
  rw [e2]
  refine ⟨⟨by omega, by omega⟩, fun hc => p8_isBound okh ?_, fun hc => ?_⟩
  · have eb : (fs (fun i => decide (fl (rd h 186) i 4 = rd h 186 2 + 1) && kpa (rd h 186) i (rd h 186 2 + 1)) 0 (rd h 186 0)) = bnd r := ev_bnd he
    rw [eb]
    have g9 : ¬ 9 ≤ r 2 := by omega
    by_cases hb : bnd r = -1
    · rw [if_pos hb]
      refine ⟨fun _ => p8_moves he ho (by omega) fun h' e1 e2 e3 e4 e5 => p8_twice (okW_eqV (wv_okW ho.1 (by omega)) e1) ?_, fun hx => absurd rfl hx⟩
      rw [ev_twice e1]
      unfold tw0 at hQ
      rw [if_neg g9, if_neg (fun w => w hb)] at hQ
      refine ⟨fun ht => ?_, fun ht => ?_⟩
      · rw [if_neg ht] at hQ
        exact hQ h' (fun hx => absurd hx (by decide)) e4 e5
      · rw [if_pos ht] at hQ
        exact hQ h' (fun _ => ⟨e1, e2, e3⟩) e4 e5
    · rw [if_neg hb]
      refine ⟨fun hx => absurd hx (by decide), fun _ => ?_⟩
      have e3 : tw0 r = -3 := by unfold tw0; rw [if_neg g9, if_pos hb]
      rw [e3] at hQ
      exact hQ h (fun hx => absurd hx (by decide)) (fun _ _ _ => rfl) (fun _ _ _ _ => rfl)
  · have e3 : tw0 r = -2 := by unfold tw0; rw [if_pos (by omega)]
    rw [e3] at hQ
    exact hQ h (fun hx => absurd hx (by decide)) (fun _ _ _ => rfl) (fun _ _ _ _ => rfl)
theorem p7_tryWave {h : Hp} {Q : Int → Hp → Prop} {r : Rw} (hn : nets h 13 r) (ho : okS r)
    (hQ : ∀ h', (tw0 r = 0 → nets h' 13 (wv r)) → (∀ p, ¬ (13 ≤ p ∧ p ≤ 25) → p ≠ 173 → p ≠ 174 → p ≠ 175 → h' p = h p) → Q (if tw0 r = 0 then cn (mvg r) 0 (r 0) else tw0 r) h') : mX7_tryWave h Q := by
  have ho1 := ho.1.1
  unfold okR at ho1
  unfold mX7_tryWave
  rw [hn.1.2.2.1]
  refine ⟨fun hc => p3_keeperWouldMove hn ho.1 ?_, fun hc => ?_⟩
  · have eb : (fs (fun i => decide (fl r i 4 = r 2 + 1) && kpa r i (r 2 + 1)) 0 (r 0)) = bnd r := rfl
    rw [eb]
    have g9 : ¬ 9 ≤ r 2 := by omega
    by_cases hb : bnd r = -1
    · rw [if_pos hb]
      refine ⟨fun _ => p3_doWave hn ho.1 hc fun h1 n1 f1 => p7_heldTwice n1 (wv_okW ho.1 hc) (by omega) fun h2 f2 => ?_, fun hx => absurd rfl hx⟩
      have n2 : nets h2 13 (wv r) := nets_frame n1 (fun p p1 p2 => f2 p (by omega) (by omega) (by omega))
      have f3 : ∀ p, ¬ (13 ≤ p ∧ p ≤ 25) → p ≠ 173 → p ≠ 174 → p ≠ 175 → h2 p = h p := fun p p1 p2 p3 p4 => by rw [f2 p p2 p3 p4, f1 p (by omega)]
      have ht := twice_r (r := wv r)
      by_cases c : twice (wv r) = -1
      · have e3 : tw0 r = 0 := by unfold tw0; rw [if_neg g9, if_neg (fun w => w hb), if_pos c]
        rw [if_pos c]
        rw [if_pos e3] at hQ
        exact ⟨fun _ => hQ h2 (fun _ => n2) f3, fun hx => absurd rfl hx⟩
      · have e3 : tw0 r = -4 := by unfold tw0; rw [if_neg g9, if_neg (fun w => w hb), if_neg c]
        rw [if_neg c]
        rw [e3, if_neg (by decide)] at hQ
        exact ⟨fun hx => by omega, fun _ => hQ h2 (fun hx => absurd hx (by decide)) f3⟩
    · rw [if_neg hb]
      have e3 : tw0 r = -3 := by unfold tw0; rw [if_neg g9, if_pos hb]
      rw [e3, if_neg (by decide)] at hQ
      exact ⟨fun hx => absurd hx (by decide), fun _ => hQ h (fun hx => absurd hx (by decide)) (fun _ _ _ _ _ => rfl)⟩
  · have e3 : tw0 r = -2 := by unfold tw0; rw [if_pos (by omega)]
    rw [e3, if_neg (by decide)] at hQ
    exact hQ h (fun hx => absurd hx (by decide)) (fun _ _ _ _ _ => rfl)
theorem tw0_r {r : Rw} : tw0 r = 0 ∨ tw0 r = -2 ∨ tw0 r = -3 ∨ tw0 r = -4 := by
  unfold tw0
  split
  · exact Or.inr (Or.inl rfl)
  · split
    · exact Or.inr (Or.inr (Or.inl rfl))
    · split
      · exact Or.inl rfl
      · exact Or.inr (Or.inr (Or.inr rfl))
theorem wv_okP {r : Rw} (ho : okS r) : okP (wv r) := by
  have ho1 := ho.1.1
  unfold okR at ho1
  intro i i1 i2
  have e0 : wv r 0 = r 0 := (mk_h (by omega)).trans (wvH_k (by omega))
  rw [e0] at i2
  unfold wv
  rw [mk_f ⟨i1, by omega⟩ (by omega), mk_f ⟨i1, by omega⟩ (by omega)]
  unfold wvM
  by_cases c : fl r i 4 = r 2 + 1
  · intro _
    rw [if_pos c, if_neg (by omega), if_pos rfl]
  · rw [if_neg c, if_neg c]
    exact ho.2.2 i i1 i2
theorem bk_okP {r : Rw} (ho : okS r) (h2 : 1 ≤ r 2) : okP (bk r) := by
  have ho1 := ho.1.1
  unfold okR at ho1
  intro i i1 i2
  have e0 : bk r 0 = r 0 := (mk_h (by omega)).trans (bkH_k (by omega))
  rw [e0] at i2
  unfold bk
  rw [mk_f ⟨i1, by omega⟩ (by omega), mk_f ⟨i1, by omega⟩ (by omega)]
  unfold bkM
  by_cases c : lat r i = r 2
  · have n3 : ¬ (3 : Int) = (14 + r 2) - 1 := by omega
    have n4 : ¬ (4 : Int) = (14 + r 2) - 1 := by omega
    rw [if_pos c, if_pos c, if_neg (show ¬ (4 : Int) = 1 by omega), if_neg (show ¬ (3 : Int) = 1 by omega), if_neg n4, if_neg n3, if_neg (show ¬ ((4 : Int) = 3 ∧ fl r i 4 = 0 ∧ fl r i 2 = 0) by omega)]
    by_cases d : fl r i 4 = 0 ∧ fl r i 2 = 0
    · rw [if_pos ⟨rfl, d⟩, if_pos ⟨rfl, d⟩]
      intro hx
      omega
    · rw [if_neg (fun w => d w.2), if_neg (fun w => d w.2), if_neg (show ¬ ((3 : Int) = 4 ∧ fl r i 4 = 0 ∧ fl r i 2 = 0) by omega)]
      exact ho.2.2 i i1 i2
  · rw [if_neg c, if_neg c]
    exact ho.2.2 i i1 i2
theorem tw0_ok {r : Rw} (ho : okS r) (h : tw0 r = 0) : okS (wv r) ∧ r 2 < 9 := by
  unfold tw0 at h
  by_cases c : 9 ≤ r 2
  · rw [if_pos c] at h; exact absurd h (by decide)
  · rw [if_neg c] at h
    by_cases hb : bnd r = -1
    · rw [if_neg (fun w => w hb)] at h
      by_cases ht : twice (wv r) = -1
      · exact ⟨⟨wv_okW ho.1 (by omega), ht, wv_okP ho⟩, by omega⟩
      · rw [if_neg ht] at h; exact absurd h (by decide)
    · rw [if_pos hb] at h; exact absurd h (by decide)
theorem p7_adoptTrial {h : Hp} {Q : Hp → Prop} {r s : Rw} {n : Int} {b : Int → Rw} (hh : hist h n b) (hn : nets h 0 r) (ho : okR r) (ht : nets h 13 s) (hs : okR s)
    (hQ : ∀ h', hist h' (min 10 (n + 1)) (hpu n b r) → nets h' 0 s → (∀ p, 12 < p → ¬ (39 ≤ p ∧ p ≤ 168) → p ≠ 170 → h' p = h p) → Q h') : mX7_adoptTrial h Q := by
  unfold mX7_adoptTrial
  refine p0_add hh hn ho (by omega) fun h1 hh1 f1 => p3_copyFrom (nets_frame ht (fun p p1 p2 => f1 p (by omega) (by omega))) hs (by omega) fun h2 n2 f2 => hQ h2 (hist_frame hh1 (fun p hp => f2 p (by omega))) n2 (fun p p1 p2 p3 => by rw [f2 p (by omega), f1 p p2 p3])
