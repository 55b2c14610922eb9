/-! what the law's operations keep -/
def LH (r : Rw) (i : Int) : Prop := (fl r i 1 ≤ 60 ∧ fl r i 3 ≤ 60 ∧ ∀ w, 1 ≤ w → w ≤ 9 → fl r i ((14 + w) - 1) ≤ 60) ∧ (¬ fl r i 4 = 0 → fl r i 2 = 0 ∧ r 2 < fl r i 4)
def LI (r : Rw) : Prop := r 6 ≤ 60 ∧ ∀ i, 0 ≤ i → i < r 0 → LH r i
def inv (h : Hp) : Prop := ∃ r, st h r ∧ LI r
theorem LH_of {r s : Rw} {i i2 : Int} (h : LH r i) (h2 : s 2 = r 2) (hf : ∀ j, 0 ≤ j → j < 24 → fl s i2 j = fl r i j) : LH s i2 := by
  obtain ⟨⟨a, b, c⟩, d⟩ := h
  unfold LH
  rw [hf 1 (by omega) (by omega), hf 2 (by omega) (by omega), hf 3 (by omega) (by omega), hf 4 (by omega) (by omega), h2]
  exact ⟨⟨a, b, fun w w1 w2 => by rw [hf _ (by omega) (by omega)]; exact c w w1 w2⟩, d⟩
theorem LI_of {r s : Rw} (hl : LI r) (h6 : s 6 = r 6) (h2 : s 2 = r 2) (f : Int → Int) (hf : ∀ i, 0 ≤ i → i < s 0 → (0 ≤ f i ∧ f i < r 0) ∧ ∀ j, 0 ≤ j → j < 24 → fl s i j = fl r (f i) j) : LI s :=
  ⟨by rw [h6]; exact hl.1, fun i i1 i2 => LH_of (hl.2 (f i) (hf i i1 i2).1.1 (hf i i1 i2).1.2) h2 (hf i i1 i2).2⟩
theorem LI_plR {r : Rw} (hl : LI r) (h40 : r 0 ≤ 40) {x a b : Int} (hx : 0 ≤ x ∧ x < r 0) (hab : (b = 0 ∧ a = 0) ∨ (a ≤ 60 ∧ r 2 < b ∧ fl r x 2 = 0)) : LI (plR r x a b) := by
  refine ⟨by rw [plR_h hx.1 (by omega)]; exact hl.1, fun i i1 i2 => ?_⟩
  rw [plR_h hx.1 (by omega)] at i2
  obtain ⟨⟨a1, a2, a3⟩, a4⟩ := hl.2 i i1 i2
  unfold LH
  rw [plR_h hx.1 (by omega), plR_n (j := 1) hx.1 i1 (by omega) (by omega), plR_n (j := 2) hx.1 i1 (by omega) (by omega), plR_f (j := 3) hx.1 i1 (by omega), plR_f (j := 4) hx.1 i1 (by omega)]
  refine ⟨⟨a1, ?_, fun w w1 w2 => by rw [plR_n hx.1 i1 (by omega) (by omega)]; exact a3 w w1 w2⟩, ?_⟩
  · rw [if_neg (by omega)]
    split <;> omega
  · by_cases e : i = x
    · subst e
      rw [if_pos ⟨rfl, rfl⟩]
      intro h4
      rcases hab with q | q
      · exact absurd q.1 h4
      · exact ⟨q.2.2, q.2.1⟩
    · rw [if_neg (fun q => e q.1), if_neg (fun q => e q.1)]
      exact a4
theorem LI_wv {r : Rw} (ho : okW r) (hl : LI r) : LI (wv r) := by
  have o1 := ho.1
  unfold okR at o1
  have e6 : wv r 6 = r 6 := (mk_h (by omega)).trans (wvH_k (by omega))
  have e0 : wv r 0 = r 0 := (mk_h (by omega)).trans (wvH_k (by omega))
  refine ⟨by rw [e6]; exact hl.1, fun i i1 i2 => ?_⟩
  rw [e0] at i2
  obtain ⟨⟨a1, a2, a3⟩, a4⟩ := hl.2 i i1 i2
  have ef : ∀ j, 0 ≤ j → j < 24 → fl (wv r) i j = wvM r i j := fun j j1 j2 => mk_f ⟨i1, by omega⟩ ⟨j1, j2⟩
  unfold LH
  rw [ef 1 (by omega) (by omega), ef 2 (by omega) (by omega), ef 3 (by omega) (by omega), ef 4 (by omega) (by omega), wv_2]
  by_cases c : fl r i 4 = r 2 + 1
  · have m1 : wvM r i 1 = fl r i 3 := by unfold wvM; rw [if_pos c, if_pos rfl]
    have m3 : wvM r i 3 = 0 := by unfold wvM; rw [if_pos c, if_neg (by decide), if_pos rfl]
    have m4 : wvM r i 4 = 0 := by unfold wvM; rw [if_pos c, if_neg (by decide), if_neg (by decide), if_pos rfl]
    rw [m1, m3, m4]
    refine ⟨⟨a2, by decide, fun w w1 w2 => ?_⟩, fun q => absurd rfl q⟩
    rw [ef _ (by omega) (by omega)]
    unfold wvM
    rw [if_pos c, if_neg (by omega), if_neg (by omega), if_neg (by omega)]
    split
    · exact a1
    · exact a3 w w1 w2
  · have mn : ∀ j, wvM r i j = fl r i j := fun j => by unfold wvM; rw [if_neg c]
    rw [mn, mn, mn, mn]
    refine ⟨⟨a1, a2, fun w w1 w2 => ?_⟩, fun q => ?_⟩
    · rw [ef _ (by omega) (by omega)]
      unfold wvM
      rw [if_neg c]
      exact a3 w w1 w2
    · have := a4 q
      exact ⟨this.1, by omega⟩
theorem LI_bk {r : Rw} (ho : okW r) (hl : LI r) (h2 : 1 ≤ r 2) : LI (bk r) := by
  have o1 := ho.1
  unfold okR at o1
  have e6 : bk r 6 = r 6 := (mk_h (by omega)).trans (bkH_k (by omega))
  have e0 : bk r 0 = r 0 := (mk_h (by omega)).trans (bkH_k (by omega))
  have e2 : bk r 2 = r 2 - 1 := (mk_h (by omega)).trans bkH_2
  refine ⟨by rw [e6]; exact hl.1, fun i i1 i2 => ?_⟩
  rw [e0] at i2
  obtain ⟨⟨a1, a2, a3⟩, a4⟩ := hl.2 i i1 i2
  have ef : ∀ j, 0 ≤ j → j < 24 → fl (bk r) i j = bkM r i j := fun j j1 j2 => mk_f ⟨i1, by omega⟩ ⟨j1, j2⟩
  have am := a3 (r 2) h2 (by omega)
  unfold LH
  rw [ef 1 (by omega) (by omega), ef 2 (by omega) (by omega), ef 3 (by omega) (by omega), ef 4 (by omega) (by omega), e2]
  have hw : ∀ w, 1 ≤ w → w ≤ 9 → fl (bk r) i ((14 + w) - 1) ≤ 60 := fun w w1 w2 => by
    rw [ef _ (by omega) (by omega)]
    have := a3 w w1 w2
    unfold bkM
    split
    · rw [if_neg (by omega)]
      split
      · decide
      · rw [if_neg (by omega), if_neg (by omega)]; exact this
    · exact this
  refine ⟨⟨?_, ?_, hw⟩, ?_⟩
  · unfold bkM
    split
    · rw [if_pos rfl]; exact am
    · exact a1
  · unfold bkM
    split
    · rw [if_neg (by omega), if_neg (by omega)]
      split
      · exact a1
      · rw [if_neg (by omega)]; exact a2
    · exact a2
  · by_cases c : lat r i = r 2
    · have m2 : bkM r i 2 = fl r i 2 := by unfold bkM; rw [if_pos c, if_neg (by omega), if_neg (by omega), if_neg (by omega), if_neg (by omega)]
      have m4 : bkM r i 4 = if fl r i 4 = 0 ∧ fl r i 2 = 0 then r 2 else fl r i 4 := by
        unfold bkM
        rw [if_pos c, if_neg (by omega), if_neg (by omega), if_neg (by omega)]
        by_cases d : fl r i 4 = 0 ∧ fl r i 2 = 0
        · rw [if_pos ⟨rfl, d⟩, if_pos d]
        · rw [if_neg (fun q => d q.2), if_neg d]
      rw [m2, m4]
      by_cases d : fl r i 4 = 0 ∧ fl r i 2 = 0
      · rw [if_pos d]
        exact fun _ => ⟨d.2, by omega⟩
      · rw [if_neg d]
        intro q
        have := a4 q
        exact ⟨this.1, by omega⟩
    · have mn : ∀ j, bkM r i j = fl r i j := fun j => by unfold bkM; rw [if_neg c]
      rw [mn, mn]
      intro q
      have := a4 q
      exact ⟨this.1, by omega⟩
theorem k_push {h : Hp} {Q : Hp → Prop} {r : Rw} (s : st h r) (hQ : ∀ h', st h' r → fr h h' → (∀ p, ¬ (39 ≤ p ∧ p ≤ 168) → p ≠ 170 → h' p = h p) → Q h') : mX0_add 0 h Q := by
  obtain ⟨n, o, k, b, hh⟩ := s
  exact p0_add hh n o.1.1 (by omega) fun g hg fg => hQ g ⟨nets_frame n (fun p _ p2 => fg p (by omega) (by omega)), o, _, _, hg⟩ (fun p hp => fg p (by omega) (by omega)) fg
/-- the nets written, all else as it was -/
theorem st_w {h h' : Hp} {r t : Rw} (s : st h r) (n : nets h' 0 t) (o : okS t) (f : ∀ p, 12 < p → h' p = h p) : st h' t ∧ fr h h' := by
  obtain ⟨-, -, k, b, hh⟩ := s
  exact ⟨⟨n, o, k, b, hist_frame hh (fun p hp => f p (by omega))⟩, fun p hp => f p (by omega)⟩
section KA
variable {h : Hp} {Q : Int → Hp → Prop}
theorem a_addHost {x v : Int} (hi : inv h) (hx : 0 ≤ x ∧ x ≤ 1) (hv : 1 ≤ v ∧ v ≤ 60) (hQ : ∀ z h', inv h' → fr h h' → Q z h') : mX7_addHost x v h Q := by
  obtain ⟨r, s, l⟩ := hi
  have o1 := st_b s
  unfold mX7_addHost
  refine p7_needOffice hx (p7_needNumber ⟨hv.1, by omega⟩ ?_)
  rw [s.1.1.1]
  refine ⟨fun d => p3_holderInNet s.1 s.2.1.1 ?_, fun _ => hQ _ _ ⟨r, s, l⟩ fr_rf⟩
  have en : fs (fun i => onet r i x && hds r i v) 0 (r 0) = hnet r x v := rfl
  rw [en]
  refine ⟨fun c => k_push s fun g1 s1 f1 _ => p3_appendHost (L := fun _ => 0) s1.1 s1.2.1.1.1 d rfl fun g2 n2 f2 => ?_, fun _ => hQ _ _ ⟨r, s, l⟩ fr_rf⟩
  have okn : okS (apN r (fun _ => 0) x v 0) := apN_okS s.2.1 d (by omega) ⟨hv.1, by omega⟩ (Or.inl rfl) ⟨by decide, fun k k1 k2 => ⟨fun q => by omega, fun _ => rfl⟩⟩ (hnet_no c)
  obtain ⟨s2, f3⟩ := st_w s1 n2 okn (fun p hp => f2 p (by omega))
  refine hQ _ _ ⟨_, s2, ⟨by rw [apN_k (by omega) (by omega)]; exact l.1, fun i i1 i2 => ?_⟩⟩ (fr_tr f1 f3)
  rw [apN_0] at i2
  by_cases e : i = r 0
  · subst e
    unfold LH
    rw [apN_n (by omega) (by omega), apN_n (by omega) (by omega), apN_n (by omega) (by omega), apN_n (by omega) (by omega)]
    refine ⟨⟨by simp; omega, by simp, fun w w1 w2 => ?_⟩, fun q => by simp at q⟩
    rw [apN_n (by omega) (by omega), if_neg (by omega), if_neg (by omega), if_neg (by omega), if_neg (by omega)]
    decide
  · exact LH_of (l.2 i i1 (by omega)) (apN_k (by omega) (by omega)) (fun j j1 j2 => apN_f (by omega) ⟨j1, j2⟩ e)
theorem a_removeHost {x : Int} {r : Rw} (s : st h r) (l : LI r) (hx : 0 ≤ x ∧ x < r 0) (hQ : ∀ z h', inv h' → fr h h' → Q z h') : mX7_removeHost x h Q := by
  have o1 := st_b s
  unfold mX7_removeHost
  refine p7_needHost s.1.1.1 hx (k_push s fun g1 s1 f1 _ => p3_dropHost s1.1 s1.2.1.1.1 hx fun g2 n2 f2 => ?_)
  obtain ⟨s2, f3⟩ := st_w s1 n2 (drH_okS s.2.1 hx) (fun p hp => f2 p (by omega))
  refine hQ _ _ ⟨_, s2, LI_of l (mk_h (by omega)) (mk_h (by omega)) (fun i => if x ≤ i then i + 1 else i) (fun i i1 i2 => ?_)⟩ (fr_tr f1 f3)
  have e0 : drH r x 0 = r 0 - 1 := (mk_h (by omega)).trans (if_pos rfl)
  rw [e0] at i2
  refine ⟨by split <;> omega, fun j j1 j2 => ?_⟩
  rw [show fl (drH r x) i j = _ from mk_f ⟨i1, by omega⟩ ⟨j1, j2⟩]
  split <;> rfl
theorem a_plan {x v w : Int} {r : Rw} (s : st h r) (l : LI r) (hx : 0 ≤ x ∧ x < r 0) (hv : 1 ≤ v ∧ v ≤ 60) (hw : 1 ≤ w ∧ w ≤ 9) (hQ : ∀ z h', inv h' → fr h h' → Q z h') : mX7_plan x v w h Q := by
  have o1 := st_b s
  have o4 := s.2.1.1.2.1
  obtain ⟨c1, c2, c3, c4, c5, c6, c7, c8⟩ := s.1.2.1 x hx.1 hx.2
  have hO := s.2.1.1.2.2.2.2.1 x hx.1 hx.2
  unfold okH at hO
  have hpl := cn_r (fun i => decide (fl r i 4 = w)) (b := r 0) 0 o1.1.1
  unfold mX7_plan
  refine p7_needHost s.1.1.1 hx (p7_needNumber ⟨hv.1, by omega⟩ (p7_needWave hw ⟨by omega, ?_⟩))
  rw [show rd h 4 x = fl r x 2 from c4, s.1.1.2.2.1]
  have base : ∀ z, Q z h := fun z => hQ _ _ ⟨r, s, l⟩ fr_rf
  refine ⟨fun d2 => ⟨fun d3 => p3_plansIn s.1 s.2.1.1 ⟨by omega, ?_⟩, fun _ => base _⟩, fun _ => base _⟩
  have go : ∀ z, (z = 0 ∨ z = 1) → mX7_plan_b69 Q x v w z (cn (fun i => decide (fl r i 4 = w)) 0 (r 0)) h := fun z hz => by
    unfold mX7_plan_b69
    refine ⟨zri (by omega) (by omega), fun _ => k_push s fun g1 s1 f1 _ => p3_setPlan s1.1 s1.2.1.1.1 hx fun g2 n2 f2 => ⟨zri (by omega) (by omega), ?_⟩, fun _ => base _⟩
    have okn : okS (plR r x v w) := (plR_okS s.2.1 hx (by omega) (Or.inr ⟨hv.1, by omega⟩)).resolve_right (by omega)
    obtain ⟨s2, f3⟩ := st_w s1 n2 okn (fun p hp => f2 p (by omega) (by omega))
    exact hQ _ _ ⟨_, s2, LI_plR l o1.1.2 hx (Or.inr ⟨hv.2, d3, by omega⟩)⟩ (fr_tr f1 f3)
  exact ⟨fun _ => go 0 (Or.inl rfl), fun _ => go 1 (Or.inr rfl)⟩
theorem a_unplan {x : Int} {r : Rw} (s : st h r) (l : LI r) (hx : 0 ≤ x ∧ x < r 0) (hQ : ∀ z h', inv h' → fr h h' → Q z h') : mX7_unplan x h Q := by
  have o1 := st_b s
  unfold mX7_unplan
  refine p7_needHost s.1.1.1 hx (k_push s fun g1 s1 f1 _ => ⟨by omega, p3_setPlan s1.1 s1.2.1.1.1 hx fun g2 n2 f2 => ?_⟩)
  obtain ⟨s2, f3⟩ := st_w s1 n2 (drop_okS s.2.1 hx) (fun p hp => f2 p (by omega) (by omega))
  exact hQ _ _ ⟨_, s2, LI_plR l o1.1.2 hx (Or.inl ⟨rfl, rfl⟩)⟩ (fr_tr f1 f3)
theorem a_wave (hi : inv h) (hQ : ∀ z h', inv h' → fr h h' → Q z h') : mX7_wave h Q := by
  obtain ⟨r, s, l⟩ := hi
  exact k_wave s (fun c g w f => hQ _ _ ⟨_, sw_st w, LI_wv s.2.1.1 l⟩ f) (fun c g w f => hQ _ _ ⟨_, w, l⟩ f)
theorem a_back (hi : inv h) (hQ : ∀ z h', inv h' → fr h h' → Q z h') : mX7_back h Q := by
  obtain ⟨r, s, l⟩ := hi
  have o1 := st_b s
  unfold mX7_back
  rw [s.1.1.2.2.1]
  refine ⟨fun c2 => p3_copyFrom s.1 s.2.1.1.1 (by omega) fun g1 n1 f1 => p3_undoWave n1 s.2.1.1 (by omega) fun g2 n2 f2 => p7_heldTwice n2 (bk_okW s.2.1.1 (by omega)) (by omega) fun g3 f3 => ?_, fun _ => hQ _ _ ⟨r, s, l⟩ fr_rf⟩
  have fg : ∀ p, ¬ (13 ≤ p ∧ p ≤ 25) → p ≠ 173 → p ≠ 174 → p ≠ 175 → g3 p = h p := fun p p1 p2 p3 p4 => by rw [f3 p p2 p3 p4, f2 p (by omega), f1 p (by omega)]
  have n3 : nets g3 13 (bk r) := nets_frame n2 (fun p p1 p2 => f3 p (by omega) (by omega) (by omega))
  have ht := twice_r (r := bk r)
  have okb := bk_okW s.2.1.1 (show 1 ≤ r 2 by omega)
  refine ⟨fun c => ?_, fun _ => ?_⟩
  · have e : twice (bk r) = -1 := by
      by_cases q : twice (bk r) = -1
      · exact q
      · rw [if_neg q] at c; omega
    exact k_adopt s fg n3 ⟨okb, e, bk_okP s.2.1 (by omega)⟩ fun g w f => hQ _ _ ⟨_, sw_st w, LI_bk s.2.1.1 l (by omega)⟩ f
  · obtain ⟨k1, k2⟩ := k_trial s fg
    exact hQ _ _ ⟨r, k1, l⟩ k2
theorem LI_up {r : Rw} {k z : Int} (l : LI r) (h40 : r 0 ≤ 40) (hk : k = 3 ∨ k = 7) : LI (up r k z) := by
  have e0 : up r k z 0 = r 0 := up_ne (by omega) (by omega) (by omega)
  refine LI_of l (up_ne (by omega) (by omega) (by omega)) (up_ne (by omega) (by omega) (by omega)) id (fun i i1 i2 => ?_)
  rw [e0] at i2
  exact ⟨⟨i1, i2⟩, fun j j1 j2 => fl_up (by omega) i1 j1 (by omega) (by omega) j2⟩
theorem a_open (hi : inv h) (hQ : ∀ z h', inv h' → fr h h' → Q z h') : mX7_open h Q := by
  obtain ⟨r, s, l⟩ := hi
  have o1 := st_b s
  unfold mX7_open
  refine ⟨fun _ => p7_clashCount s.1 s.2.1.1 (by omega) fun g1 f1 => ?_, fun _ => hQ _ _ ⟨r, s, l⟩ fr_rf⟩
  have f1 : sm h g1 := f1
  have s1 := st_sm s f1
  refine ⟨fun c => k_push s1 fun g2 s2 f2 _ => fun g3 e3 => ?_, fun _ => hQ _ _ ⟨r, s1, l⟩ (sm_fr f1)⟩
  obtain ⟨s3, f3⟩ := st_w (h' := g3) s2 (by rw [e3]; exact nets_u7 s2.1 s2.2.1.1.1) (okS_open s2.2.1 c) (fun p hp => by rw [e3]; exact hu_q (by omega))
  exact hQ _ _ ⟨_, s3, LI_up l o1.1.2 (Or.inr rfl)⟩ (fr_tr (sm_fr f1) (fr_tr f2 f3))
theorem a_close (hi : inv h) (hQ : ∀ z h', inv h' → fr h h' → Q z h') : mX7_close h Q := by
  obtain ⟨r, s, l⟩ := hi
  have o1 := st_b s
  unfold mX7_close
  refine ⟨fun _ => k_push s fun g2 s2 f2 _ => fun g3 e3 => ?_, fun _ => hQ _ _ ⟨r, s, l⟩ fr_rf⟩
  obtain ⟨s3, f3⟩ := st_w (h' := g3) s2 (by rw [e3]; exact nets_u7 s2.1 s2.2.1.1.1) (okS_close s2.2.1) (fun p hp => by rw [e3]; exact hu_q (by omega))
  exact p3_hostsOfOffice s3.1 s3.2.1.1 (hQ _ _ ⟨_, s3, LI_up l o1.1.2 (Or.inr rfl)⟩ (fr_tr f2 f3))
theorem a_addRule {x y a b : Int} (hi : inv h) (hx : 0 ≤ x ∧ x ≤ 1) (ha : 0 ≤ a ∧ a ≤ 250) (hb : 0 ≤ b ∧ b ≤ 250) (hQ : ∀ z h', inv h' → fr h h' → Q z h') : mX7_addRule x y a b h Q := by
  obtain ⟨r, s, l⟩ := hi
  have o1 := st_b s
  unfold mX7_addRule
  refine p7_needOffice hx (p7_needSide ha (p7_needSide hb ?_))
  rw [s.1.1.2.1]
  refine ⟨fun d => k_push s fun g1 s1 f1 _ => p3_appendRule s1.1 s1.2.1.1.1 d fun g2 n2 f2 => ?_, fun _ => hQ _ _ ⟨r, s, l⟩ fr_rf⟩
  obtain ⟨s2, f3⟩ := st_w s1 n2 (apU_okS s.2.1 d (by omega) (by split <;> omega) ha hb) (fun p hp => f2 p (by omega))
  refine hQ _ _ ⟨_, s2, LI_of l (apU_k (by omega) (by omega)) (apU_k (by omega) (by omega)) id (fun i i1 i2 => ?_)⟩ (fr_tr f1 f3)
  rw [apU_k (by omega) (by omega)] at i2
  exact ⟨⟨i1, i2⟩, fun j j1 j2 => apU_f ⟨i1, by omega⟩ ⟨j1, j2⟩⟩
theorem a_removeRule {x : Int} {r : Rw} (s : st h r) (l : LI r) (hx : 0 ≤ x ∧ x < r 1) (hQ : ∀ z h', inv h' → fr h h' → Q z h') : mX7_removeRule x h Q := by
  have o1 := st_b s
  unfold mX7_removeRule
  refine p7_needRule s.1.1.2.1 hx (k_push s fun g1 s1 f1 _ => p3_dropRule s1.1 s1.2.1.1.1 hx fun g2 n2 f2 => ?_)
  obtain ⟨s2, f3⟩ := st_w s1 n2 (drU_okS s.2.1 hx) (fun p hp => f2 p (by omega))
  refine hQ _ _ ⟨_, s2, LI_of l ((mk_h (by omega)).trans (if_neg (by omega))) ((mk_h (by omega)).trans (if_neg (by omega))) id (fun i i1 i2 => ?_)⟩ (fr_tr f1 f3)
  rw [show drU r x 0 = r 0 from (mk_h (by omega)).trans (if_neg (by omega))] at i2
  exact ⟨⟨i1, i2⟩, fun j j1 j2 => mk_f ⟨i1, by omega⟩ ⟨j1, j2⟩⟩
theorem a_setKeep {x : Int} (hi : inv h) (hx : 0 ≤ x ∧ x ≤ 3) (hQ : ∀ z h', inv h' → fr h h' → Q z h') : mX7_setKeep x h Q := by
  obtain ⟨r, s, l⟩ := hi
  have o1 := st_b s
  unfold mX7_setKeep
  refine ⟨fun c => by omega, fun _ => ⟨fun _ => p3_copyFrom s.1 s.2.1.1.1 (by omega) fun g1 n1 f1 => fun g2 e2 => ?_, fun c => by omega⟩⟩
  have n2 : nets g2 13 (up r 3 x) := by rw [e2]; exact nets_u3 n1 s.2.1.1.1
  have okn : okW (up r 3 x) := okW_u3 s.2.1.1 hx
  refine p7_heldTwice n2 okn (by omega) fun g3 f3 => ?_
  have fg : ∀ p, ¬ (13 ≤ p ∧ p ≤ 25) → p ≠ 173 → p ≠ 174 → p ≠ 175 → g3 p = h p := fun p p1 p2 p3 p4 => by rw [f3 p p2 p3 p4, e2, hu_q (by omega), f1 p (by omega)]
  have ht := twice_r (r := up r 3 x)
  refine ⟨fun c => ?_, fun _ => ?_⟩
  · have e : twice (up r 3 x) = -1 := by
      by_cases q : twice (up r 3 x) = -1
      · exact q
      · rw [if_neg q] at c; omega
    exact k_adopt s fg (nets_frame n2 (fun p p1 p2 => f3 p (by omega) (by omega) (by omega))) ⟨okn, e, okP_up s.2.1.2.2 o1.1.2 (by omega)⟩ fun g w f => hQ _ _ ⟨_, sw_st w, LI_up l o1.1.2 (Or.inl rfl)⟩ f
  · obtain ⟨k1, k2⟩ := k_trial s fg
    exact hQ _ _ ⟨r, k1, l⟩ k2
theorem a_setPinned {x y : Int} {r : Rw} (s : st h r) (l : LI r) (hx : 0 ≤ x ∧ x < r 0) (hQ : ∀ z h', inv h' → fr h h' → Q z h') : mX7_setPinned x y h Q := by
  have o1 := st_b s
  have hO := s.2.1.1.2.2.2.2.1 x hx.1 hx.2
  unfold mX7_setPinned
  refine p7_needHost s.1.1.1 hx (k_push s fun g1 s1 f1 _ => ⟨by omega, ?_⟩)
  have pin : ∀ b, (b = 0 ∨ b = 1) → ∀ g2, g2 = wr g1 4 x b → st g2 (sf r x 2 b) ∧ fr g1 g2 := fun b hb g2 e2 =>
    st_w s1 (by rw [e2]; exact nets_pin s1.1 s1.2.1.1.1 hx) (pin_okS s1.2.1 hx hb) (fun p hp => by rw [e2]; exact wr_q (by omega))
  have lp : ∀ b i j, 0 ≤ i → i < r 0 → 0 ≤ j → j < 24 → fl (sf r x 2 b) i j = if i = x ∧ j = 2 then b else fl r i j := fun b i j i1 i2 j1 j2 => fl_sf hx.1 (by omega) i1 ⟨j1, j2⟩
  have hd : ∀ b k, 0 ≤ k → k < 16 → sf r x 2 b k = r k := fun b k k1 k2 => hd_sf hx.1 (by omega) ⟨k1, k2⟩
  refine ⟨fun c => ?_, fun c => ?_⟩
  · unfold mX7_setPinned_b43
    refine ⟨by omega, fun g2 e2 => ⟨fun _ => ?_, fun d => absurd c d⟩⟩
    obtain ⟨s2, f2⟩ := pin 0 (Or.inl rfl) g2 e2
    refine hQ _ _ ⟨_, s2, ⟨by rw [hd 0 6 (by omega) (by omega)]; exact l.1, fun i i1 i2 => ?_⟩⟩ (fr_tr f1 f2)
    rw [hd 0 0 (by omega) (by omega)] at i2
    obtain ⟨⟨a1, a2, a3⟩, a4⟩ := l.2 i i1 i2
    unfold LH
    rw [lp 0 i 1 i1 i2 (by omega) (by omega), lp 0 i 2 i1 i2 (by omega) (by omega), lp 0 i 3 i1 i2 (by omega) (by omega), lp 0 i 4 i1 i2 (by omega) (by omega), hd 0 2 (by omega) (by omega), if_neg (by omega), if_neg (by omega), if_neg (by omega)]
    refine ⟨⟨a1, a2, fun w w1 w2 => by rw [lp 0 i _ i1 i2 (by omega) (by omega), if_neg (by omega)]; exact a3 w w1 w2⟩, fun q => ⟨?_, (a4 q).2⟩⟩
    split
    · rfl
    · exact (a4 q).1
  · unfold mX7_setPinned_b43
    refine ⟨by omega, fun g2 e2 => ⟨fun d => absurd d c, fun _ => ?_⟩⟩
    obtain ⟨s2, f2⟩ := pin 1 (Or.inr rfl) g2 e2
    have hx2 : 0 ≤ x ∧ x < sf r x 2 1 0 := by rw [hd 1 0 (by omega) (by omega)]; exact hx
    refine p3_setPlan s2.1 s2.2.1.1.1 hx2 fun g3 n3 f3 => ?_
    obtain ⟨s3, f4⟩ := st_w s2 n3 (drop_okS s2.2.1 hx2) (fun p hp => f3 p (by omega) (by omega))
    refine hQ _ _ ⟨_, s3, ⟨?_, fun i i1 i2 => ?_⟩⟩ (fr_tr f1 (fr_tr f2 f4))
    · show plR (sf r x 2 1) x 0 0 6 ≤ 60
      rw [plR_h hx.1 (by omega), hd 1 6 (by omega) (by omega)]; exact l.1
    · have i2 : i < plR (sf r x 2 1) x 0 0 0 := i2
      rw [plR_h hx.1 (by omega), hd 1 0 (by omega) (by omega)] at i2
      obtain ⟨⟨a1, a2, a3⟩, a4⟩ := l.2 i i1 i2
      show LH (plR (sf r x 2 1) x 0 0) i
      unfold LH
      rw [plR_h hx.1 (by omega), plR_n (j := 1) hx.1 i1 (by omega) (by omega), plR_n (j := 2) hx.1 i1 (by omega) (by omega), plR_f (j := 3) hx.1 i1 (by omega), plR_f (j := 4) hx.1 i1 (by omega), lp 1 i 1 i1 i2 (by omega) (by omega), lp 1 i 2 i1 i2 (by omega) (by omega), lp 1 i 3 i1 i2 (by omega) (by omega), lp 1 i 4 i1 i2 (by omega) (by omega), hd 1 2 (by omega) (by omega)]
      rw [if_neg (by omega : ¬ (i = x ∧ (1 : Int) = 2)), if_neg (by omega : ¬ (i = x ∧ (3 : Int) = 4)), if_neg (by omega : ¬ (i = x ∧ (3 : Int) = 2)), if_neg (by omega : ¬ (i = x ∧ (4 : Int) = 3)), if_neg (by omega : ¬ (i = x ∧ (4 : Int) = 2))]
      refine ⟨⟨a1, by split <;> omega, fun w w1 w2 => by rw [plR_n hx.1 i1 (by omega) (by omega), lp 1 i _ i1 i2 (by omega) (by omega), if_neg (by omega)]; exact a3 w w1 w2⟩, ?_⟩
      by_cases e : i = x
      · rw [if_pos ⟨e, rfl⟩]; exact fun q => absurd rfl q
      · rw [if_neg (fun q => e q.1), if_neg (fun q => e q.1)]; exact a4
end KA
