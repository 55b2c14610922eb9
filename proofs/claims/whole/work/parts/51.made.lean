/-! the reference's reading of a text: names, hosts, rules, moves -/
section REG
variable {b : Int → Int} {n : Int} {R : PR} {Q : Hp → Prop} {h0 : Hp}
def goM (b : Int → Int) (n : Int) (R : PR) (Q : Hp → Prop) (h0 : Hp) (P : Rw → Prop) (s0 : Int) (k : Int → Rw → PR) : Prop := ∀ s' r' h', k s' r' = R → s0 ≤ s' → s' ≤ n → tkM h' b n s' → mdR r' (rd h' 187) → P r' → h' 185 16 = 0 → frR h0 h' → Q h'
def noM (R : PR) (Q : Hp → Prop) (h0 : Hp) : Prop := ∀ h', ¬ R.1 = 0 → h' 185 16 = R.1 → h' 185 17 = R.2.1 → frR h0 h' → Q h'
theorem noM_w {h : Hp} {e s : Int} {Q' : Int → Hp → Prop} (ht : tkM h b n s) (hg : h 185 16 = 0) (he : ¬ e = 0) (hf : frR h0 h) (hR : (e, s, bgR) = R) (hx : noM R (fun h' => Q' 0 h') h0) : mX8_wrongs e h Q' := by
  rw [← hR] at hx
  exact p8_wrongs hg fun a a1 a2 a3 a4 => hx a he a1 (a2.trans ht.2.2.2.1) (frR_tr hf (frE_R (frE_w (by rw [a1]; first | exact e0 | exact he | decide) a3 a4)))
theorem okL_5 {r : Rw} (h : okL r) : ∀ i, 0 ≤ i → i < r 0 → fl r i 5 ≤ 8 := fun i i1 i2 => (h.1.1.2.2.2.2.1 i i1 i2).2.2.2.2.2.2.1.2
theorem mdR_n {r g : Rw} (hm : mdR r g) (ho : okL r) : (0 ≤ g 0 ∧ g 0 ≤ 40) ∧ ∀ i, 0 ≤ i → i < g 0 → fl g i 5 ≤ 8 := by
  have o1 := ho.1.1.1
  unfold okR at o1
  have e0 := hm.1.hd.1
  refine ⟨by omega, fun i i1 i2 => ?_⟩
  rw [hm.1.2.1 i i1 (by omega) 5 (by omega) (by omega)]
  exact okL_5 ho i i1 (by omega)
/-- a name that stands at s is written for host x -/
def wn (g : Rw) (b : Int → Int) (x s L k : Int) : Rw := fun q => if q.toNat = (16 + 24 * x + 5).toNat then L else if 16 + 24 * x + 6 ≤ q ∧ q < 16 + 24 * x + 6 + k then b (s + (q - (16 + 24 * x + 6))) else g q
theorem p8_readsName {x : Int} {h : Hp} {r : Rw} {s : Int} (he : eT b n) (ht : tkM h b n s) (s0 : 0 ≤ s) (s1 : s ≤ n) (hm : mdR r (rd h 187)) (ho : okL r) (hg : h 185 16 = 0) (hx : 0 ≤ x ∧ x < 40) (hy : kd b n s = 1 → te b n s - s ≤ 8 → hnm r b n s = -1 → ∀ h', tkM h' b n (nx b n s) → h' 185 16 = 0 → (∀ q, 0 ≤ q → rd h' 187 q = wn (rd h 187) b x s (te b n s - s) (te b n s - s) q) → frR h h' → Q h') (hn : ∀ e h', e = (if kd b n s = 1 then (if te b n s - s ≤ 8 then (if hnm r b n s = -1 then 0 else 3) else 2) else 1) → ¬ e = 0 → h' 185 16 = e → h' 185 17 = s → frR h h' → Q h') : mX8_readsName x h Q := by
  unfold mX8_readsName
  have hr := te_r (b := b) s0 s1
  have hn9 := he.1
  have bad : ∀ e L, ¬ e = 0 → e = (if kd b n s = 1 then (if te b n s - s ≤ 8 then (if hnm r b n s = -1 then 0 else 3) else 2) else 1) → mX8_wrongs e h (fun z h' => mX8_readsName_b56 Q x L h') := fun e L e0 ee => p8_wrongs hg fun a a1 a2 a3 a4 => by
    unfold mX8_readsName_b56
    exact p8_good0 (by rw [a1]; exact e0) ⟨fun w => absurd rfl w, fun _ => hn e a ee e0 a1 (a2.trans ht.2.2.2.1) (frE_R (frE_w (by rw [a1]; first | exact e0 | exact he | decide) a3 a4))⟩
  rw [ht.2.1, ht.2.2.2.1, ht.2.2.1]
  refine ⟨zri (by omega) (by omega), fun c => ⟨fun d => ?_, fun d => bad 2 _ (by decide) (by rw [if_pos c, if_neg d])⟩, fun c => bad 1 _ (by decide) (by rw [if_neg c])⟩
  have mn := mdR_n hm ho
  refine p8_toldHost he ht s0 s1 mn.1 mn.2 ?_
  rw [ev_hnm hm.1 (okL_5 ho)]
  refine ⟨fun q => ?_, fun q => bad 3 _ (by decide) (by rw [if_pos c, if_pos d, if_neg q])⟩
  unfold mX8_readsName_b56
  refine p8_good1 hg ⟨fun _ => p8_cell (by omega) (by omega) ⟨by omega, fun a ea => ?_⟩, fun w => absurd w (by decide)⟩
  obtain ⟨f, hf⟩ := forU (fun f k => ∀ g : Hp, (∀ p, p ≠ 187 → g p = h p) → (∀ q, 0 ≤ q → rd g 187 q = wn (rd h 187) b x s (te b n s - s) k q) → mX8_readsName_b77 Q f x (te b n s - s) k g) 0 (te b n s - s) (by omega) (fun f g fg vg => by
      unfold mX8_readsName_b77
      refine ⟨fun _ => ?_, fun w => absurd (Int.le_refl _) w⟩
      refine p8_next he (tkM_R ht fg) s0 s1 fun u tu ku fu => hy c d q u tu (by rw [ku 16 (by omega), fg 185 (by omega)]; exact hg) (fun p hp => ?_) (frR_tr (frR_m fg) (frE_R (frE_ke ku fu)))
      rw [rd_ne (fu 187 (by omega))]
      exact vg p hp) (fun f k k1 k2 ih g fg vg => by
      unfold mX8_readsName_b77
      have hb : 0 ≤ s + k ∧ s + k < n := by omega
      have e12 : g 185 12 = s := by rw [fg 185 (by omega)]; exact ht.2.2.2.1
      rw [e12]
      refine ⟨fun w => by omega, fun _ => ⟨zri (by omega) (by omega), p8_cell (by omega) (by omega) ⟨zri (by omega) (by omega), ⟨by omega, by omega⟩, by omega, fun a ea => ⟨zri (by omega) (by omega), ih a (fun p hp => by rw [ea, wr_q hp]; exact fg p hp) (fun q hq => ?_)⟩⟩⟩⟩
      have e9 : rd g 191 (s + k) = b (s + k) := (tkM_R ht fg).1.2 _ hb.1 hb.2
      rw [ea, rd_wr, e9]
      by_cases z : q = 16 + 24 * x + (6 + k)
      · rw [z, up_same]
        unfold wn
        rw [if_neg (by omega), if_pos (by omega)]
        congr 1
        omega
      · rw [up_ne (by omega) hq z, vg q hq]
        unfold wn
        by_cases z5 : q.toNat = (16 + 24 * x + 5).toNat
        · rw [if_pos z5, if_pos z5]
        · rw [if_neg z5, if_neg z5]
          by_cases z6 : 16 + 24 * x + 6 ≤ q ∧ q < 16 + 24 * x + 6 + k
          · rw [if_pos z6, if_pos (by omega)]
          · rw [if_neg z6, if_neg (by omega)])
  refine ⟨f, hf a (fun p hp => by rw [ea, wr_q hp]) (fun q hq => ?_)⟩
  rw [ea, rd_wr]
  unfold up wn
  by_cases z5 : q.toNat = (16 + 24 * x + 5).toNat
  · rw [if_pos z5, if_pos z5]
  · rw [if_neg z5, if_neg z5, if_neg (by omega)]
/-- a row with one host more, as the reference writes it -/
theorem mdR_apN {r g : Rw} {s L o v p : Int} {G : Rw} (hm : mdR r g) (h0 : 0 ≤ r 0 ∧ r 0 < 40) (h1 : 0 ≤ r 1 ∧ r 1 ≤ 30) (hL : 0 ≤ L ∧ L ≤ 8) (hG : ∀ q, 0 ≤ q → G q = up (sf (sf (sf (wn g b (r 0) s L L) (r 0) 0 o) (r 0) 1 v) (r 0) 2 p) 0 (r 0 + 1) q) : mdR (apN r (ltk b s L) o v p) G := by
  have G' : ∀ i j, 0 ≤ i → i < 40 → 0 ≤ j → j < 24 → fl G i j = if i = r 0 then (if j = 2 then p else if j = 1 then v else if j = 0 then o else if j = 5 then L else if 6 ≤ j ∧ j < 6 + L then b (s + (j - 6)) else fl g i j) else fl g i j := fun i j i1 i2 j1 j2 => by
    have : fl G i j = fl (up (sf (sf (sf (wn g b (r 0) s L L) (r 0) 0 o) (r 0) 1 v) (r 0) 2 p) 0 (r 0 + 1)) i j := by unfold fl; exact hG _ (by omega)
    rw [this, fl_up (by omega) i1 j1 (by omega) i2 j2, fl_sf (by omega) (by omega) i1 ⟨j1, j2⟩, fl_sf (by omega) (by omega) i1 ⟨j1, j2⟩, fl_sf (by omega) (by omega) i1 ⟨j1, j2⟩]
    have ew : fl (wn g b (r 0) s L L) i j = if i = r 0 then (if j = 5 then L else if 6 ≤ j ∧ j < 6 + L then b (s + (j - 6)) else fl g i j) else fl g i j := by
      unfold fl wn
      by_cases c : i = r 0
      · rw [if_pos c]
        by_cases c5 : j = 5
        · rw [if_pos (by omega), if_pos c5]
        · rw [if_neg (by omega), if_neg c5]
          by_cases c6 : 6 ≤ j ∧ j < 6 + L
          · rw [if_pos (by omega), if_pos c6, show 16 + 24 * i + j - (16 + 24 * r 0 + 6) = j - 6 by omega]
          · rw [if_neg (by omega), if_neg c6]
      · rw [if_neg c, if_neg (by omega), if_neg (by omega)]
    rw [ew]
    by_cases c : i = r 0
    · simp only [c, true_and, if_true]
    · simp only [c, false_and, if_false]
  have Gh : ∀ k, 0 ≤ k → k < 16 → G k = if k = 0 then r 0 + 1 else g k := fun k k1 k2 => by
    rw [hG k k1]
    by_cases c : k = 0
    · rw [if_pos c, c, up_same]
    · rw [if_neg c, up_ne (by omega) k1 c, hd_sf h0.1 (by omega) ⟨k1, k2⟩, hd_sf h0.1 (by omega) ⟨k1, k2⟩, hd_sf h0.1 (by omega) ⟨k1, k2⟩]
      unfold wn
      rw [if_neg (by omega), if_neg (by omega)]
  refine ⟨⟨fun k k1 k2 => ?_, fun i i1 i2 j j1 j2 => ?_, fun k k1 k2 j j1 j2 => ?_⟩, fun i j i1 i0 i2 j1 j2 => ?_⟩
  · rw [Gh k k1 (by omega)]
    by_cases c : k = 0
    · rw [if_pos c, c, apN_0]
    · rw [if_neg c, apN_k (by omega) (by omega)]
      exact hm.1.1 k k1 k2
  · rw [apN_0] at i2
    rw [G' i j i1 (by omega) j1 j2]
    by_cases c : i = r 0
    · rw [if_pos c, c, apN_n h0 ⟨j1, j2⟩]
      have z := hm.2 (r 0) j (Int.le_refl _) h0.1 h0.2 j1 j2
      rw [z]
      by_cases c0 : j = 0
      · subst c0; rfl
      by_cases c1 : j = 1
      · subst c1; rfl
      by_cases c2 : j = 2
      · subst c2; rfl
      rw [if_neg c2, if_neg c1, if_neg c0, if_neg c0, if_neg c1, if_neg c2]
      unfold ltk
      by_cases c5 : j = 5
      · rw [if_pos c5, if_pos (by omega), if_pos c5]
      · rw [if_neg c5]
        by_cases c6 : 6 ≤ j ∧ j < 6 + L
        · rw [if_pos c6, if_pos (by omega), if_neg c5, if_pos (by omega)]
        · rw [if_neg c6]
          by_cases c7 : 5 ≤ j ∧ j < 14
          · rw [if_pos c7, if_neg c5, if_neg (by omega)]
          · rw [if_neg c7]
    · rw [if_neg c, apN_f ⟨i1, by omega⟩ ⟨j1, j2⟩ c]
      exact hm.1.2.1 i i1 (by omega) j j1 j2
  · rw [apN_k (by omega) (by omega)] at k2
    rw [apN_r k1 ⟨j1, j2⟩, ← hm.1.2.2 k k1 k2 j j1 j2]
    have : rl G k j = rl (up (sf (sf (sf (wn g b (r 0) s L L) (r 0) 0 o) (r 0) 1 v) (r 0) 2 p) 0 (r 0 + 1)) k j := by unfold rl; exact hG _ (by omega)
    rw [this, rl_up (by omega) k1 j1 (by omega), rl_sf h0 (by omega) k1 j1, rl_sf h0 (by omega) k1 j1, rl_sf h0 (by omega) k1 j1]
    unfold rl wn
    rw [if_neg (by omega), if_neg (by omega)]
  · rw [apN_0] at i1
    rw [G' i j i0 i2 j1 j2, if_neg (by omega)]
    exact hm.2 i j (by omega) i0 i2 j1 j2
end REG
