/-! the reference's next wave and way back; both say the same -/
theorem fs_snoc {p : Int → Bool} {i : Int} (hi : 0 ≤ i) : fs p 0 (i + 1) = if fs p 0 i = -1 then (if p i = true then i else -1) else fs p 0 i := by
  rcases fs_spec p 0 i with ⟨e, hh⟩ | ⟨e1, e2, e3, e4⟩
  · rw [if_pos e]
    by_cases c : p i = true
    · rw [if_pos c]
      exact fs_is hi (by omega) c (fun x x1 x2 => hh x x1 x2)
    · rw [if_neg c]
      rw [fs_none (by omega)]
      intro x x1 x2
      by_cases d : x = i
      · rw [d]; simpa using c
      · exact hh x x1 (by omega)
  · rw [if_neg (by omega)]
    exact fs_is e1 (by omega) e3 e4
def ldp (r : Rw) (m : Int → Bool) (o v : Int) : Int → Bool := fun x => onet r x o && (decide (fl r x 1 = v) && m x)
def ldG (r : Rw) (m : Int → Bool) (t : Int → Int) (i o v : Int) : Int := if fs (ldp r m o v) 0 i = -1 then v else t (fs (ldp r m o v) 0 i)
theorem ldG_0 {r : Rw} {m : Int → Bool} {t : Int → Int} {o v : Int} : ldG r m t 0 o v = v := by
  unfold ldG
  rw [fs_end (Int.le_refl _), if_pos rfl]
theorem ldG_skip {r : Rw} {m : Int → Bool} {t : Int → Int} {i o v : Int} (hi : 0 ≤ i) (hm : ldp r m o v i = false) : ldG r m t (i + 1) o v = ldG r m t i o v := by
  unfold ldG
  rw [fs_snoc hi, hm, if_neg (show ¬ false = true by decide)]
  by_cases c : fs (ldp r m o v) 0 i = -1
  · rw [if_pos c, c]
  · rw [if_neg c]
/-- two hosts of an office's net don't have one number -/
theorem uniq {r : Rw} (ho : okS r) {i j o : Int} (hi : 0 ≤ i ∧ i < r 0) (hj : 0 ≤ j ∧ j < r 0) (h1 : onet r i o = true) (h2 : onet r j o = true) (he : fl r i 1 = fl r j 1) : i = j := by
  have key : ∀ i j, 0 ≤ j → j < i → i < r 0 → onet r i o = true → onet r j o = true → fl r i 1 = fl r j 1 → False := by
    intro i j h1 h2 h3 h4 h5 h6
    have hO := ho.1.2.2.2.2.1 i (by omega) h3
    refine twice_no ho.2.1 (v := fl r i 1) hO.2.1 h1 h2 h3 ?_ ?_ ?_
    · unfold net onet at *
      simp only [Bool.or_eq_true, decide_eq_true_eq] at *
      omega
    · unfold hds; simp
    · unfold hds; simp [h6]
  rcases Int.lt_trichotomy i j with c | c | c
  · exact (key j i hi.1 c hj.2 h2 h1 he.symm).elim
  · exact c
  · exact (key i j hj.1 c hi.2 h1 h2 he).elim
theorem ldG_hit {r : Rw} (ho : okS r) {m : Int → Bool} {t : Int → Int} {i o v : Int} (hi : 0 ≤ i ∧ i < r 0) (hm : m i = true) : ldG r m t (i + 1) o v = if onet r i o = true ∧ v = fl r i 1 then t i else ldG r m t i o v := by
  by_cases c : onet r i o = true ∧ v = fl r i 1
  · rw [if_pos c]
    unfold ldG
    have hp : ldp r m o v i = true := by unfold ldp; simp [c.1, c.2, hm]
    have hf : fs (ldp r m o v) 0 i = -1 := by
      rw [fs_none (by omega)]
      intro x x1 x2
      cases e : ldp r m o v x with
      | false => rfl
      | true =>
        unfold ldp at e
        simp only [Bool.and_eq_true, decide_eq_true_eq] at e
        have := uniq ho (i := x) (j := i) ⟨x1, by omega⟩ hi e.1 c.1 (by rw [e.2.1, c.2])
        omega
    rw [fs_snoc hi.1, if_pos hf, if_pos hp, if_neg (by omega)]
  · rw [if_neg c]
    refine ldG_skip hi.1 ?_
    unfold ldp
    cases e : onet r i o with
    | false => rfl
    | true => rw [decide_eq_false (fun w => c ⟨e, w.symm⟩), Bool.false_and, Bool.and_false]
theorem ldG_fin {r : Rw} (ho : okS r) {m : Int → Bool} {t : Int → Int} {o v : Int} : ldG r m t (r 0) o v = if nin r o v = -1 then v else if m (nin r o v) = true then t (nin r o v) else v := by
  have h0 : 0 ≤ r 0 := ho.1.1.1.1
  unfold nin
  rcases fs_spec (fun i => onet r i o && decide (fl r i 1 = v)) 0 (r 0) with ⟨e, hh⟩ | ⟨e1, e2, e3, e4⟩
  · rw [if_pos e]
    unfold ldG
    rw [if_pos]
    rw [fs_none (by omega)]
    intro x x1 x2
    have := hh x x1 x2
    unfold ldp
    rw [← Bool.and_assoc, this, Bool.false_and]
  · rw [if_neg (by omega)]
    generalize fs (fun i => onet r i o && decide (fl r i 1 = v)) 0 (r 0) = n at e1 e2 e3 e4 ⊢
    simp only [Bool.and_eq_true, decide_eq_true_eq] at e3
    by_cases c : m n = true
    · rw [if_pos c]
      unfold ldG
      have : fs (ldp r m o v) 0 (r 0) = n := by
        refine fs_is e1 e2 ?_ ?_
        · unfold ldp; simp [e3.1, e3.2, c]
        · intro x x1 x2
          have := e4 x x1 x2
          unfold ldp
          rw [← Bool.and_assoc, this, Bool.false_and]
      rw [this, if_neg (by omega)]
    · rw [if_neg c]
      unfold ldG
      rw [if_pos]
      rw [fs_none (by omega)]
      intro x x1 x2
      cases e : ldp r m o v x with
      | false => rfl
      | true =>
        unfold ldp at e
        simp only [Bool.and_eq_true, decide_eq_true_eq] at e
        have := uniq ho (i := x) (j := n) ⟨x1, x2⟩ ⟨e1, e2⟩ e.1 e3.1 (by rw [e.2.1, e3.2])
        subst this
        exact absurd e.2.2 c
theorem sbw_ld {r : Rw} (ho : okS r) {o v : Int} : ldG r (mvg r) (fun x => fl r x 3) (r 0) o v = sbw r o v := by
  rw [ldG_fin ho]
  unfold sbw mvg
  simp only [decide_eq_true_eq]
def bkg (r : Rw) (i : Int) : Bool := decide (lat r i = r 2)
theorem sab_ld {r : Rw} (ho : okS r) {o v : Int} : ldG r (bkg r) (fun x => fl r x ((14 + r 2) - 1)) (r 0) o v = sab r o v := by
  rw [ldG_fin ho]
  unfold sab bkg
  simp only [decide_eq_true_eq]
def MI (r : Rw) (i : Int) : Rw := mkR r (fun x j => if x < i then wvM r x j else fl r x j) (rl r)
def BI (r : Rw) (i : Int) : Rw := mkR r (fun x j => if x < i then bkM r x j else fl r x j) (rl r)
/-- how many sides the next wave rewrites -/
def sdc (r : Rw) : Int := cn (fun k => decide (¬ sbw r (rl r k 0) (rl r k 2) = rl r k 2)) 0 (r 1) + cn (fun k => decide (¬ sbw r (rl r k 0) (rl r k 3) = rl r k 3)) 0 (r 1)
theorem sdc_wv {r : Rw} : cn (fun k => decide (¬ rl (wv r) k 2 = rl r k 2)) 0 (r 1) + cn (fun k => decide (¬ rl (wv r) k 3 = rl r k 3)) 0 (r 1) = sdc r := by
  unfold sdc
  have e : ∀ j, 2 ≤ j → j < 4 → ∀ k, 0 ≤ k → rl (wv r) k j = sbw r (rl r k 0) (rl r k j) := fun j j1 j2 k k1 => by
    unfold wv wvS
    rw [mk_r k1 ⟨by omega, j2⟩, if_pos j1]
  rw [cn_congr (q := fun k => decide (¬ sbw r (rl r k 0) (rl r k 2) = rl r k 2)) 0 (fun k k1 k2 => by rw [e 2 (by omega) (by omega) k k1]), cn_congr (p := fun k => decide (¬ rl (wv r) k 3 = rl r k 3)) (q := fun k => decide (¬ sbw r (rl r k 0) (rl r k 3) = rl r k 3)) 0 (fun k k1 k2 => by rw [e 3 (by omega) (by omega) k k1])]
theorem p8_put {x j v : Int} {h : Hp} {K : Hp → Prop} (hx : 0 ≤ x ∧ x < 40) (hj : 0 ≤ j ∧ j < 24) (hK : ∀ h', rd h' 186 = sf (rd h 186) x j v → (∀ p, p ≠ 186 → h' p = h p) → K h') : mX8_cell x j h (fun z => (0 ≤ z ∧ z < 1096) ∧ ∀ h' : Hp, h' = wr h 186 z v → K h') :=
  p8_cell ⟨hx.1, by omega⟩ hj ⟨⟨by omega, by omega⟩, fun h' e => hK h' (by rw [e]; exact rd_wr) (fun p hp => by rw [e, wr_q hp])⟩
theorem p8_putU {x j v : Int} {h : Hp} {K : Hp → Prop} (hx : 0 ≤ x ∧ x < 30) (hj : 0 ≤ j ∧ j < 4) (hK : ∀ h', rd h' 186 = sr (rd h 186) x j v → (∀ p, p ≠ 186 → h' p = h p) → K h') : mX8_ruleCell x j h (fun z => (0 ≤ z ∧ z < 1096) ∧ ∀ h' : Hp, h' = wr h 186 z v → K h') :=
  p8_ruleCell ⟨hx.1, by omega⟩ hj ⟨⟨by omega, by omega⟩, fun h' e => hK h' (by rw [e]; exact rd_wr) (fun p hp => by rw [e, wr_q hp])⟩
theorem p8_moves {h : Hp} {Q : Hp → Prop} {r : Rw} (he : eqV r (rd h 186)) (ho : okS r) (h2 : r 2 < 9)
    (hQ : ∀ h', eqV (wv r) (rd h' 186) → h' 185 19 = cn (mvg r) 0 (r 0) → h' 185 20 = sdc r → (∀ k, k ≠ 19 → k ≠ 20 → h' 185 k = h 185 k) → (∀ p, p ≠ 185 → p ≠ 186 → p ≠ 192 → h' p = h p) → Q h') : mX8_moves h Q := by
  have ho1 := ho.1.1
  unfold okR at ho1
  unfold mX8_moves
  have e2 : rd h 186 2 = r 2 := he.hd.2.2.1
  rw [e2]
  refine ⟨⟨by omega, by omega⟩, zri (by omega) (by omega), fun a0 q0 => p8_laysLeads fun a1 f1 l1 => ?_⟩
  have f0 : ∀ p, p ≠ 185 → a0 p = h p := fun p hp => by rw [q0]; exact hu_q hp
  obtain ⟨f, hf⟩ := forU (fun f i => ∀ g : Hp, eqV (MI r i) (rd g 186) → (∀ o v, (o = 0 ∨ o = 1) → 0 ≤ v → v ≤ 250 → rd g 192 (251 * o + v) = ldG r (mvg r) (fun x => fl r x 3) i o v) → (0 ≤ g 185 19 ∧ g 185 19 ≤ i) → g 185 19 + cn (mvg r) i (r 0) = cn (mvg r) 0 (r 0) → (∀ k, k ≠ 19 → g 185 k = h 185 k) → (∀ p, p ≠ 185 → p ≠ 186 → p ≠ 192 → g p = h p) → mX8_moves_b20 Q f (r 2 + 1) i g) 0 (r 0) (by omega) (fun f g eg lg n1 n2 gk gf => by
      unfold mX8_moves_b20
      have e0 : rd g 186 0 = r 0 := eg.hd.1
      rw [e0]
      refine ⟨⟨by omega, by omega⟩, fun _ => ⟨⟨by omega, by omega⟩, fun b1 w1 => ?_⟩, fun hx => absurd (Int.le_refl _) hx⟩
      have eb1 : rd b1 186 = up (rd g 186) 2 (r 2 + 1) := by rw [w1]; exact rd_wr
      have fb1 : ∀ p, p ≠ 186 → b1 p = g p := fun p hp => by rw [w1]; exact wr_q hp
      have hs : ∀ k, 0 ≤ k → k < 8 → wvI r (r 0) k = wvH r k := fun k k1 k2 => mk_h (by omega)
      have ev : eqV (mkR (wvH r) (wvM r) (rl r)) (rd b1 186) := by
        rw [eb1]
        refine ⟨fun k k1 k2 => ?_, fun i i1 i2 j j1 j2 => ?_, fun k k1 k2 j j1 j2 => ?_⟩
        · rw [mk_h (by omega)]
          by_cases c : k = 2
          · subst c; rw [up_same, wvH_2]
          · rw [up_ne (by omega) k1 c, wvH_k c, eg.1 k k1 k2]; exact mk_h (by omega)
        · have i2' : i < r 0 := i2
          rw [fl_up (by omega) i1 j1 (by omega) (by omega) j2, eg.2.1 i i1 i2' j j1 j2, mk_f ⟨i1, by omega⟩ ⟨j1, j2⟩]
          unfold MI
          rw [mk_f ⟨i1, by omega⟩ ⟨j1, j2⟩, if_pos i2']
        · have k2' : k < r 1 := k2
          rw [rl_up (by omega) k1 j1 (by omega), eg.2.2 k k1 k2' j j1 j2, mk_r k1 ⟨j1, j2⟩]
          exact mk_r k1 ⟨j1, j2⟩
      have hrl : ∀ k, 0 ≤ k → ∀ j, 0 ≤ j → j < 4 → rl (mkR (wvH r) (wvM r) (rl r)) k j = rl r k j := fun k k1 j j1 j2 => mk_r k1 ⟨j1, j2⟩
      have hh : ∀ k, k < 16 → mkR (wvH r) (wvM r) (rl r) k = wvH r k := fun k k1 => mk_h k1
      have h1' : mkR (wvH r) (wvM r) (rl r) 1 = r 1 := by rw [hh 1 (by omega)]; exact wvH_k (by omega)
      have h0' : mkR (wvH r) (wvM r) (rl r) 0 = r 0 := by rw [hh 0 (by omega)]; exact wvH_k (by omega)
      refine p8_rewrites0 (T := sbw r) ev ?_ (fun k k1 k2 => ?_) (fun o v o1 v1 v2 => ?_) fun b2 ev2 fb2 => ?_
      · unfold okR
        rw [h0', h1', hh 2 (by omega), hh 3 (by omega), wvH_2, wvH_k (by omega)]
        omega
      · rw [h1'] at k2
        exact okU_ext (ho.1.2.2.2.2.2 k k1 k2) (fun j j1 j2 => hrl k k1 j j1 j2)
      · rw [rd_same (fb1 192 (by omega)), lg o v o1 v1 v2, sbw_ld ho]
      · intro b3 w3
        have fb3 : ∀ p, p ≠ 185 → b3 p = b2 p := fun p hp => by rw [w3]; exact hu_q hp
        refine hQ b3 ?_ ?_ ?_ (fun k k1 k2 => ?_) (fun p p1 p2 p3 => by rw [fb3 p p1, fb2 p p2, fb1 p p2, gf p p1 p2 p3])
        · rw [rd_ne (fb3 186 (by omega))]
          refine eqV.trans ⟨fun k k1 k2 => ?_, fun i i1 i2 j j1 j2 => ?_, fun k k1 k2 j j1 j2 => ?_⟩ ev2
          · unfold rwr wv
            rw [mk_h (by omega), mk_h (by omega), mk_h (by omega)]
          · have i2' : i < r 0 := by
              have : wv r 0 = r 0 := (mk_h (by omega)).trans (wvH_k (by omega))
              omega
            unfold rwr wv
            rw [mk_f ⟨i1, by omega⟩ ⟨j1, j2⟩, mk_f ⟨i1, by omega⟩ ⟨j1, j2⟩, mk_f ⟨i1, by omega⟩ ⟨j1, j2⟩]
          · have k2' : k < r 1 := by
              have : wv r 1 = r 1 := (mk_h (by omega)).trans (wvH_k (by omega))
              omega
            unfold rwr wv wvS
            rw [mk_r k1 ⟨j1, j2⟩, mk_r k1 ⟨j1, j2⟩, mk_r k1 ⟨by omega, by omega⟩, mk_r k1 ⟨j1, j2⟩, mk_h (by omega), wvH_k (by omega)]
            by_cases c : 2 ≤ j
            · rw [if_pos ⟨k2', c⟩, if_pos c]
            · rw [if_neg (fun w => c w.2), if_neg c]
        · rw [w3, hu_ne (by omega), fb2 185 (by omega), fb1 185 (by omega)]
          rw [cn_end (Int.le_refl _), Int.add_zero] at n2
          exact n2
        · rw [w3, hu_same, h1']
          unfold sdc
          rw [cn_congr (q := fun k => decide (¬ sbw r (rl r k 0) (rl r k 2) = rl r k 2)) 0 (fun k k1 k2 => by rw [hrl k k1 0 (by omega) (by omega), hrl k k1 2 (by omega) (by omega)]), cn_congr (p := fun k => decide (¬ sbw r (rl (mkR (wvH r) (wvM r) (rl r)) k 0) (rl (mkR (wvH r) (wvM r) (rl r)) k 3) = rl (mkR (wvH r) (wvM r) (rl r)) k 3)) (q := fun k => decide (¬ sbw r (rl r k 0) (rl r k 3) = rl r k 3)) 0 (fun k k1 k2 => by rw [hrl k k1 0 (by omega) (by omega), hrl k k1 3 (by omega) (by omega)])]
        · rw [w3, hu_ne (by omega), fb2 185 (by omega), fb1 185 (by omega)]
          exact gk k k1) (fun f i i1 i2 ih g eg lg n1 n2 gk gf => by
      unfold mX8_moves_b20
      have e0 : rd g 186 0 = r 0 := eg.hd.1
      have hO := ho.1.2.2.2.2.1 i i1 i2
      unfold okH at hO
      have hfl : ∀ j, 0 ≤ j → j < 24 → fl (rd g 186) i j = fl r i j := fun j j1 j2 => by
        rw [eg.2.1 i i1 i2 j j1 j2]; unfold MI; rw [mk_f ⟨i1, by omega⟩ ⟨j1, j2⟩, if_neg (by omega)]
      rw [e0]
      have mi0 : MI r i 0 = r 0 := rfl
      have mi1 : MI r i 1 = r 1 := rfl
      have m_e : ∀ s : Rw, (∀ k, 0 ≤ k → k < 8 → s k = rd g 186 k) → (∀ x, 0 ≤ x → x < r 0 → ∀ j, 0 ≤ j → j < 24 → fl s x j = if x = i then wvM r i j else fl (rd g 186) x j) → (∀ k, 0 ≤ k → k < r 1 → ∀ j, 0 ≤ j → j < 4 → rl s k j = rl (rd g 186) k j) → eqV (MI r (i + 1)) s := fun s sh sf' su => by
        refine ⟨fun k k1 k2 => ?_, fun x x1 x2 j j1 j2 => ?_, fun k k1 k2 j j1 j2 => ?_⟩
        · rw [sh k k1 k2, eg.1 k k1 k2]
          unfold MI
          rw [mk_h (by omega), mk_h (by omega)]
        · have x2' : x < r 0 := x2
          rw [sf' x x1 x2' j j1 j2, eg.2.1 x x1 x2' j j1 j2]
          unfold MI
          rw [mk_f ⟨x1, by omega⟩ ⟨j1, j2⟩, mk_f ⟨x1, by omega⟩ ⟨j1, j2⟩]
          by_cases c : x = i
          · subst c; rw [if_pos rfl, if_pos (by omega)]
          · rw [if_neg c]
            by_cases d : x < i
            · rw [if_pos d, if_pos (by omega)]
            · rw [if_neg d, if_neg (by omega)]
        · have k2' : k < r 1 := k2
          rw [su k k1 k2' j j1 j2, eg.2.2 k k1 k2' j j1 j2]
          unfold MI
          rw [mk_r k1 ⟨j1, j2⟩, mk_r k1 ⟨j1, j2⟩]
      refine ⟨⟨by omega, by omega⟩, fun hx => by omega, fun _ => p8_of ⟨i1, by omega⟩ (by omega) ?_⟩
      rw [hfl 4 (by omega) (by omega)]
      refine ⟨fun hc => ?_, fun hc => ?_⟩
      · have hm : mvg r i = true := decide_eq_true hc
        refine p8_of ⟨i1, by omega⟩ (by omega) (p8_of ⟨i1, by omega⟩ (by omega) ?_)
        rw [hfl 1 (by omega) (by omega), hfl 3 (by omega) (by omega)]
        refine p8_leadsTo ⟨i1, by omega⟩ ⟨by omega, by omega⟩ fun b1 fb1 lb1 => ?_
        have rb1 : rd b1 186 = rd g 186 := rd_ne (fb1 186 (by omega))
        refine ⟨zri (by omega) (by omega), zri (by omega) (by omega), p8_cell ⟨i1, by omega⟩ (by omega) (p8_of ⟨i1, by omega⟩ (by omega) ?_)⟩
        rw [rb1, hfl 1 (by omega) (by omega)]
        refine ⟨⟨by omega, by omega⟩, fun b2 w2 => p8_cell ⟨i1, by omega⟩ (by omega) (p8_of ⟨i1, by omega⟩ (by omega) ⟨⟨by omega, by omega⟩, fun b3 w3 => p8_put ⟨i1, by omega⟩ (by omega) fun b4 rb4 fb4 => p8_put ⟨i1, by omega⟩ (by omega) fun b5 rb5 fb5 => ?_⟩)⟩
        have rb2 : rd b2 186 = sf (rd g 186) i ((14 + (r 2 + 1)) - 1) (fl r i 1) := by rw [← rb1, w2]; exact rd_wr
        have fb2 : ∀ p, p ≠ 186 → b2 p = b1 p := fun p hp => by rw [w2]; exact wr_q hp
        have e3 : fl (rd b2 186) i 3 = fl r i 3 := by rw [rb2, fl_sf i1 (by omega) i1 (by omega), if_neg (by omega), hfl 3 (by omega) (by omega)]
        have rb3 : rd b3 186 = sf (rd b2 186) i 1 (fl r i 3) := by rw [← e3, w3]; exact rd_wr
        have fb3 : ∀ p, p ≠ 186 → b3 p = b2 p := fun p hp => by rw [w3]; exact wr_q hp
        have g185 : b5 185 = g 185 := by rw [fb5 185 (by omega), fb4 185 (by omega), fb3 185 (by omega), fb2 185 (by omega), fb1 185 (by omega)]
        rw [g185]
        refine ⟨zri (by omega) (by omega), fun b6 w6 => ?_⟩
        have fb6 : ∀ p, p ≠ 185 → b6 p = b5 p := fun p hp => by rw [w6]; exact hu_q hp
        unfold mX8_moves_b129
        have rb6 : rd b6 186 = sf (sf (sf (sf (rd g 186) i ((14 + (r 2 + 1)) - 1) (fl r i 1)) i 1 (fl r i 3)) i 3 0) i 4 0 := by rw [rd_ne (fb6 186 (by omega)), rb5, rb4, rb3, rb2]
        have hn2 := n2
        rw [cn_hit i2 hm] at hn2
        refine ⟨zri (by omega) (by omega), ih b6 ?_ (fun o v o1 v1 v2 => ?_) ?_ ?_ (fun k hk => ?_) (fun p p1 p2 p3 => by rw [fb6 p p1, fb5 p p2, fb4 p p2, fb3 p p2, fb2 p p2, fb1 p p3, gf p p1 p2 p3])⟩
        · refine m_e _ (fun k k1 k2 => ?_) (fun x x1 x2 j j1 j2 => ?_) (fun k k1 k2 j j1 j2 => ?_)
          · rw [rb6, hd_sf i1 (by omega) ⟨k1, by omega⟩, hd_sf i1 (by omega) ⟨k1, by omega⟩, hd_sf i1 (by omega) ⟨k1, by omega⟩, hd_sf i1 (by omega) ⟨k1, by omega⟩]
          · rw [rb6, fl_sf i1 (by omega) x1 ⟨j1, j2⟩, fl_sf i1 (by omega) x1 ⟨j1, j2⟩, fl_sf i1 (by omega) x1 ⟨j1, j2⟩, fl_sf i1 (by omega) x1 ⟨j1, j2⟩]
            by_cases c : x = i
            · subst c
              unfold wvM
              rw [if_pos rfl, if_pos hc, hfl j j1 j2]
              by_cases d4 : j = 4
              · subst d4; simp
              · by_cases d3 : j = 3
                · subst d3; simp
                · by_cases d1 : j = 1
                  · subst d1; simp
                  · by_cases dw : j = 14 + r 2
                    · rw [if_neg (fun w => d4 w.2), if_neg (fun w => d3 w.2), if_neg (fun w => d1 w.2), if_pos ⟨rfl, by omega⟩, if_neg d1, if_neg d3, if_neg d4, if_pos dw]
                    · rw [if_neg (fun w => d4 w.2), if_neg (fun w => d3 w.2), if_neg (fun w => d1 w.2), if_neg (by omega), if_neg d1, if_neg d3, if_neg d4, if_neg dw]
            · rw [if_neg (fun w => c w.1), if_neg (fun w => c w.1), if_neg (fun w => c w.1), if_neg (fun w => c w.1), if_neg c]
          · rw [rb6, rl_sf ⟨i1, by omega⟩ (by omega) k1 j1, rl_sf ⟨i1, by omega⟩ (by omega) k1 j1, rl_sf ⟨i1, by omega⟩ (by omega) k1 j1, rl_sf ⟨i1, by omega⟩ (by omega) k1 j1]
        · rw [rd_same (show b6 192 = b1 192 by rw [fb6 192 (by omega), fb5 192 (by omega), fb4 192 (by omega), fb3 192 (by omega), fb2 192 (by omega)]), lb1 o v o1 v1 v2, ldG_hit ho ⟨i1, i2⟩ hm, lg o v o1 v1 v2]
          have : onet (rd g 186) i o = onet r i o := by
            unfold onet
            rw [hfl 0 (by omega) (by omega), eg.hd.2.2.2.2.2.2.2]
            rfl
          rw [this]
        · rw [w6, hu_same]; omega
        · rw [w6, hu_same]; omega
        · rw [w6, hu_ne (by omega), g185, gk k hk]
      · unfold mX8_moves_b129
        have hm : mvg r i = false := decide_eq_false hc
        refine ⟨zri (by omega) (by omega), ih g ?_ (fun o v o1 v1 v2 => ?_) ⟨n1.1, by omega⟩ ?_ gk gf⟩
        · refine m_e _ (fun _ _ _ => rfl) (fun x x1 x2 j j1 j2 => ?_) (fun _ _ _ _ _ _ => rfl)
          by_cases c : x = i
          · subst c
            rw [if_pos rfl, hfl j j1 j2]
            unfold wvM
            rw [if_neg hc]
          · rw [if_neg c]
        · rw [lg o v o1 v1 v2, ldG_skip i1 (by unfold ldp; rw [hm, Bool.and_false, Bool.and_false])]
        · rw [cn_skip i2 hm] at n2; omega)
  refine ⟨f, hf a1 ?_ (fun o v o1 v1 v2 => ?_) ?_ ?_ (fun k hk => ?_) (fun p p1 p2 p3 => by rw [f1 p p3, f0 p p1])⟩
  · rw [rd_ne (f1 186 (by omega)), rd_ne (f0 186 (by omega))]
    refine ⟨fun k k1 k2 => ?_, fun x x1 x2 j j1 j2 => ?_, fun k k1 k2 j j1 j2 => ?_⟩
    · rw [he.1 k k1 k2]; exact (mk_h (by omega)).symm
    · have x2' : x < r 0 := x2
      rw [he.2.1 x x1 x2' j j1 j2]; unfold MI; rw [mk_f ⟨x1, by omega⟩ ⟨j1, j2⟩, if_neg (by omega)]
    · have k2' : k < r 1 := k2
      rw [he.2.2 k k1 k2' j j1 j2]; unfold MI; rw [mk_r k1 ⟨j1, j2⟩]
  · rw [l1 _ (by omega) (by omega), ldG_0]; omega
  · rw [f1 185 (by omega), q0, hu_same]; omega
  · rw [f1 185 (by omega), q0, hu_same]; omega
  · rw [f1 185 (by omega), q0]; exact hu_ne (by omega)
