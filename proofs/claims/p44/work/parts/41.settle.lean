/-! settling -/
def chz (r : Rw) (v : Int) : Int := if mvb r 1 v = -1 then mvb r 0 v else mvb r 1 v
def sgo (r : Rw) (v : Int) : Bool := clash r v && (decide (¬ chz r v = -1) && decide (fl r (chz r v) 4 = 0))
def stl : Nat → Rw → Int → Int → Rw × Int
  | 0, r, _, n => (r, n)
  | f + 1, r, v, n => if sgo r v = true then (if ffr r = -1 ∨ fw r = -1 then (r, n) else stl f (plR r (chz r v) (ffr r) (fw r)) (v + 1) (n + 1)) else stl f r (v + 1) n
theorem stl_s {f : Nat} {r : Rw} {v n : Int} : stl (f + 1) r v n = if sgo r v = true then (if ffr r = -1 ∨ fw r = -1 then (r, n) else stl f (plR r (chz r v) (ffr r) (fw r)) (v + 1) (n + 1)) else stl f r (v + 1) n := rfl
theorem chz_r {r : Rw} {v : Int} : chz r v = -1 ∨ (0 ≤ chz r v ∧ chz r v < r 0) := by
  have a := fs_r (p := fun i => decide (fl r i 0 = 1) && (decide (fl r i 1 = v) && decide (fl r i 2 = 0))) (a := 0) (b := r 0) (Int.le_refl 0)
  have b := fs_r (p := fun i => decide (fl r i 0 = 0) && (decide (fl r i 1 = v) && decide (fl r i 2 = 0))) (a := 0) (b := r 0) (Int.le_refl 0)
  unfold chz mvb
  split <;> omega
theorem fw_r {r : Rw} (ho : okR r) : fw r = -1 ∨ (1 ≤ fw r ∧ fw r ≤ 9) := by
  unfold okR at ho
  have := fs_r (p := fun w => decide (pln r w < r 4)) (a := r 2 + 1) (b := 10) (by omega)
  unfold fw
  omega
theorem stl_ok {r : Rw} (ho : okS r) {x : Int} (hx : 0 ≤ x ∧ x < r 0) (hf : ¬ ffr r = -1) (hw : ¬ fw r = -1) : okS (plR r x (ffr r) (fw r)) := by
  have a := ffr_r ho.1
  have b := fw_r ho.1.1
  rcases plR_okS (a := ffr r) (b := fw r) ho hx (by omega) (by omega) with q | q
  · exact q
  · omega
/-- the tally behind a plan -/
theorem tly_pl {g g' : Hp} {r : Rw} {x a b : Int} (ho : okR r) (ht : tly g r) (hx : 0 ≤ x ∧ x < r 0) (h3 : fl r x 3 = 0) (ha : 1 ≤ a ∧ a ≤ 250) (f : ∀ p, (173 ≤ p ∧ p ≤ 174) → g' p = g p) (v5 : ∀ j, 0 ≤ j → rd g' 175 j = if j = a then rd g 175 a + 1 else rd g 175 j) : tly g' (plR r x a b) := by
  unfold okR at ho
  intro v v1 v2
  obtain ⟨c1, c2, c3⟩ := ht v v1 v2
  have e0 : plR r x a b 0 = r 0 := plR_h hx.1 (by omega)
  have e2 : plR r x a b 2 = r 2 := plR_h hx.1 (by omega)
  have e3 : plR r x a b 3 = r 3 := plR_h hx.1 (by omega)
  have hcs : ∀ o, hc (plR r x a b) o v = hc r o v := fun o => by
    unfold hc
    rw [e0]
    refine cn_congr 0 fun i i1 i2 => ?_
    rw [plR_n hx.1 i1 (by omega) (by omega), hds_ext2 (r := r) (i := i) e3 e2 (plR_n hx.1 i1 (by omega) (by omega)) (fun w w1 w2 => plR_n hx.1 i1 (by omega) (by omega))]
  rw [hcs, hcs, rd_same (f 173 (by omega)), rd_same (f 174 (by omega))]
  refine ⟨c1, c2, ?_⟩
  rw [v5 v (by omega)]
  have f3 : ∀ i, 0 ≤ i → fl (plR r x a b) i 3 = if i = x then a else fl r i 3 := fun i i1 => by
    rw [plR_f hx.1 i1 (by omega), if_neg (by omega)]
    by_cases c : i = x
    · rw [if_pos ⟨c, rfl⟩, if_pos c]
    · rw [if_neg (fun w => c w.1), if_neg c]
  have hu := cn_upd (p := fun i => decide (fl r i 3 = v)) (q := fun i => decide (fl (plR r x a b) i 3 = v)) (x := x) (b := r 0) 0 hx.1 hx.2 (fun i i1 i2 i3 => by rw [f3 i i1, if_neg i3])
  have e : pcn (plR r x a b) v = cn (fun i => decide (fl (plR r x a b) i 3 = v)) 0 (r 0) := by unfold pcn; rw [e0]
  rw [e, hu, f3 x hx.1, if_pos rfl, h3, decide_eq_false (show ¬ (0 : Int) = v by omega), b2i_f]
  have e5 : pcn r v = cn (fun i => decide (fl r i 3 = v)) 0 (r 0) := rfl
  by_cases c : v = a
  · rw [if_pos c, decide_eq_true c.symm, b2i_t, ← e5, ← c3, c]; omega
  · rw [if_neg c, decide_eq_false (fun w => c w.symm), b2i_f, ← e5, ← c3]; omega
