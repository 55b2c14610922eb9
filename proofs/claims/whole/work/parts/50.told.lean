/-! the reference's reading of a text: its tools -/
def zR (r g : Rw) : Prop := ∀ i j, r 0 ≤ i → 0 ≤ i → i < 40 → 0 ≤ j → j < 24 → fl g i j = 0
def mdR (r g : Rw) : Prop := eqV r g ∧ zR r g
def frW (h h' : Hp) : Prop := (∀ k, k < 10 ∨ 17 < k → h' 185 k = h 185 k) ∧ (h' 185 16 = 0 → h 185 16 = 0 ∧ h' 185 17 = h 185 17)
def frE (h h' : Hp) : Prop := frW h h' ∧ ∀ p, p ≠ 185 → h' p = h p
def frR (h h' : Hp) : Prop := frW h h' ∧ ∀ p, p ≠ 185 → p ≠ 187 → h' p = h p
theorem frW_tr {h a c : Hp} (x : frW h a) (y : frW a c) : frW h c := ⟨fun k hk => (y.1 k hk).trans (x.1 k hk), fun w => ⟨(x.2 (y.2 w).1).1, (y.2 w).2.trans (x.2 (y.2 w).1).2⟩⟩
theorem frW_s {h h' : Hp} (f : h' 185 = h 185) : frW h h' := ⟨fun k _ => by rw [f], fun w => by rw [f] at w; exact ⟨w, by rw [f]⟩⟩
theorem frE_R {h h' : Hp} (x : frE h h') : frR h h' := ⟨x.1, fun p p1 _ => x.2 p p1⟩
theorem frE_tr {h a c : Hp} (x : frE h a) (y : frE a c) : frE h c := ⟨frW_tr x.1 y.1, fun p p1 => (y.2 p p1).trans (x.2 p p1)⟩
theorem frR_tr {h a c : Hp} (x : frR h a) (y : frR a c) : frR h c := ⟨frW_tr x.1 y.1, fun p p1 p2 => (y.2 p p1 p2).trans (x.2 p p1 p2)⟩
theorem frR_rfl {h : Hp} : frR h h := ⟨frW_s rfl, fun _ _ _ => rfl⟩
theorem frR_m {h h' : Hp} (f : ∀ p, p ≠ 187 → h' p = h p) : frR h h' := ⟨frW_s (f 185 (by omega)), fun p _ p2 => f p p2⟩
theorem frR_wr {h : Hp} {c z : Int} : frR h (wr h 187 c z) := frR_m fun p hp => wr_q hp
theorem frE_ke {h h' : Hp} (k : keM h h') (f : ∀ p, p ≠ 185 → h' p = h p) : frE h h' := ⟨⟨fun j hj => k j (by omega), fun w => ⟨by rw [← k 16 (by omega)]; exact w, k 17 (by omega)⟩⟩, f⟩
theorem frE_w {h h' : Hp} (hw : ¬ h' 185 16 = 0) (a3 : ∀ k, k ≠ 16 → k ≠ 17 → h' 185 k = h 185 k) (a4 : ∀ p, p ≠ 185 → h' p = h p) : frE h h' := ⟨⟨fun k hk => a3 k (by omega) (by omega), fun w => absurd w hw⟩, a4⟩
theorem tkM_R {h h' : Hp} {b : Int → Int} {n s : Int} (ht : tkM h b n s) (f : ∀ p, p ≠ 187 → h' p = h p) : tkM h' b n s := tkM_fr ht (fun k _ _ => by rw [f 185 (by omega)]) (f 191 (by omega))
theorem tkM_w {h : Hp} {b : Int → Int} {n s c z : Int} (ht : tkM h b n s) : tkM (wr h 187 c z) b n s := tkM_R ht fun p hp => wr_q hp
section REF
variable {b : Int → Int} {n s : Int}
theorem p8_must {c : Int} {h : Hp} {Q : Hp → Prop} (he : eT b n) (ht : tkM h b n s) (hg : h 185 16 = 0) (s0 : 0 ≤ s) (s1 : s ≤ n) (hy : isG b n s c = true → ∀ h', tkM h' b n (nx b n s) → h' 185 16 = 0 → frE h h' → Q h') (hn : isG b n s c = false → ∀ h', h' 185 16 = 1 → h' 185 17 = s → frE h h' → Q h') : mX8_must c h Q := by
  unfold mX8_must
  refine p8_good1 hg ⟨fun _ => p8_isByte hg he ht s0 s1 ⟨fun d => p8_wrongs hg fun a a1 a2 a3 a4 => hn (b2i0.mp d) a a1 (a2.trans ht.2.2.2.1) (frE_w (by rw [a1]; first | exact e0 | exact he | decide) a3 a4), fun d => p8_next he ht s0 s1 fun g tg kg fg => hy (b2i1.mp d) g tg (by rw [kg 16 (by omega)]; exact hg) (frE_ke kg fg)⟩, fun w => absurd w (by decide)⟩
theorem p8_must0 {c : Int} {h : Hp} {Q : Hp → Prop} (hg : ¬ h 185 16 = 0) (hQ : Q h) : mX8_must c h Q := by
  unfold mX8_must
  exact p8_good0 hg ⟨fun w => absurd rfl w, fun _ => hQ⟩
theorem p8_number {lo hi : Int} {h : Hp} {Q : Int → Hp → Prop} (he : eT b n) (ht : tkM h b n s) (hg : h 185 16 = 0) (s0 : 0 ≤ s) (s1 : s ≤ n) (hy : nbE b n s lo hi = 0 → ∀ h', tkM h' b n (nx b n s) → h' 185 16 = 0 → frE h h' → Q (vM b n s) h') (hn : ¬ nbE b n s lo hi = 0 → ∀ h', h' 185 16 = nbE b n s lo hi → h' 185 17 = s → frE h h' → Q lo h') : mX8_number lo hi h Q := by
  unfold mX8_number
  refine p8_good1 hg ⟨fun _ => ?_, fun w => absurd w (by decide)⟩
  have bad : ∀ e, ¬ e = 0 → e = nbE b n s lo hi → mX8_wrongs e h (fun z h' => mX8_number_b47 Q lo h') := fun e e0 ee => p8_wrongs hg fun a a1 a2 a3 a4 => by
    unfold mX8_number_b47
    refine p8_good0 (by rw [a1]; exact e0) ⟨fun w => absurd rfl w, fun _ => hn (by rw [← ee]; exact e0) a (by rw [← ee]; exact a1) (a2.trans ht.2.2.2.1) (frE_w (by rw [a1]; first | exact e0 | exact he | decide) a3 a4)⟩
  rw [ht.2.2.1]
  refine ⟨fun c => ?_, fun c => bad 1 (by decide) (by unfold nbE; rw [if_neg c])⟩
  rw [ht.2.2.2.2.1 c]
  refine p8_in ⟨fun d => ?_, fun d => ?_⟩
  · have d' := of_decide_eq_true (b2i1.mp d)
    unfold mX8_number_b47
    refine p8_good1 hg ⟨fun _ => ?_, fun w => absurd w (by decide)⟩
    rw [ht.2.2.2.2.1 c]
    exact p8_next he ht s0 s1 fun g tg kg fg => hy (nbE_0.mpr ⟨c, d'⟩) g tg (by rw [kg 16 (by omega)]; exact hg) (frE_ke kg fg)
  · have d' := of_decide_eq_false (b2i0.mp d)
    exact bad 2 (by decide) (by unfold nbE; rw [if_pos c, if_neg d'])
theorem p8_number0 {lo hi : Int} {h : Hp} {Q : Int → Hp → Prop} (hg : ¬ h 185 16 = 0) (hQ : Q lo h) : mX8_number lo hi h Q := by
  unfold mX8_number
  exact p8_good0 hg ⟨fun w => absurd rfl w, fun _ => hQ⟩
theorem p8_side {h : Hp} {Q : Int → Hp → Prop} {R : PR} {K : Int → Int → PR} (he : eT b n) (ht : tkM h b n s) (hg : h 185 16 = 0) (s0 : 0 ≤ s) (s1 : s ≤ n) (hR : ldSide b n s K = R) (hy : ∀ x h', K x (nx b n s) = R → (0 ≤ x ∧ x ≤ 250) → tkM h' b n (nx b n s) → h' 185 16 = 0 → frE h h' → Q x h') (hx : ∀ h', ¬ R.1 = 0 → h' 185 16 = R.1 → h' 185 17 = R.2.1 → frE h h' → Q 1 h') : mX8_side h Q := by
  unfold mX8_side
  unfold ldSide ldNum at hR
  refine p8_passes cdws.2.2.2.2.2.2.2.2.2.1.symm (by omega) hg ht s0 s1 he (fun c g tg kg fg => ⟨fun w => absurd w (by decide), fun _ => ?_⟩) (fun c => ⟨fun _ => ?_, fun w => absurd rfl w⟩)
  · rw [if_pos c] at hR
    exact hy 0 g hR (by omega) tg (by rw [kg 16 (by omega)]; exact hg) (frE_ke kg fg)
  · rw [c, if_neg (by decide)] at hR
    refine p8_number he ht hg s0 s1 (fun d g tg g1 fg => ?_) (fun d g g1 g2 fg => ?_)
    · rw [if_pos d] at hR
      have hv := nbE_0.mp d
      exact hy _ g hR (by omega) tg g1 fg
    · rw [if_neg d] at hR
      rw [← hR] at hx
      exact hx g d g1 g2 fg
theorem p8_side0 {h : Hp} {Q : Int → Hp → Prop} (hg : ¬ h 185 16 = 0) (hQ : Q 1 h) : mX8_side h Q := by
  unfold mX8_side
  exact p8_passes0 hg ⟨fun _ => p8_number0 hg hQ, fun w => absurd rfl w⟩
/-- which host of the text bears the name that stands here -/
theorem p8_toldHost {h : Hp} {Q : Int → Prop} (he : eT b n) (ht : tkM h b n s) (s0 : 0 ≤ s) (s1 : s ≤ n) (ho : 0 ≤ rd h 187 0 ∧ rd h 187 0 ≤ 40) (h5 : ∀ i, 0 ≤ i → i < rd h 187 0 → fl (rd h 187) i 5 ≤ 8) (hQ : Q (hnm (rd h 187) b n s)) : mX8_toldHost h Q := by
  obtain ⟨⟨t10, tb⟩, t11, t13, t12, -⟩ := ht
  have hr := te_r (b := b) s0 s1
  have hn9 := he.1
  unfold hnm at hQ
  unfold mX8_toldHost
  rw [← t11, ← t12] at hQ
  obtain ⟨f, hf⟩ := forU (fun f i => Q (fs (nmd (rd h 187) b (h 185 12) (h 185 11 - h 185 12)) i (rd h 187 0)) → mX8_toldHost_b2 h Q f i) 0 (rd h 187 0) ho.1 (fun f hq => by
      unfold mX8_toldHost_b2
      rw [fs_end (Int.le_refl _)] at hq
      exact ⟨by omega, fun _ => hq, fun w => absurd (Int.le_refl _) w⟩) (fun f i i1 i2 ih hq => by
      unfold mX8_toldHost_b2
      refine ⟨by omega, fun w => by omega, fun _ => p8_cell (by omega) (by omega) ⟨by omega, zri (by omega) (by omega), ?_⟩⟩
      have l8 := h5 i i1 i2
      generalize hL : h 185 11 - h 185 12 = L at *
      have e5 : rd h 187 (16 + 24 * i + 5) = fl (rd h 187) i 5 := rfl
      rw [e5]
      have hno : mX8_toldHost_b2 h Q f (i + 1) → ∀ ff v, mX8_toldHost_b42 h Q (mX8_toldHost_b2 h Q f) (ff + 1) i 0 v := fun hk ff v => by
        unfold mX8_toldHost_b42 mX8_toldHost_b99
        refine p8_cell (by omega) (by omega) ⟨by omega, fun _ => ⟨fun _ => ⟨zri (by omega) (by omega), hk⟩, fun w => absurd rfl w⟩, fun _ => ⟨fun _ => ⟨fun _ => ⟨zri (by omega) (by omega), hk⟩, fun w => absurd rfl w⟩, fun w => absurd rfl w⟩⟩
      refine ⟨fun c => ?_, fun c => ?_⟩
      · unfold mX8_toldHost_b39
        refine ⟨1, hno (ih ?_) 0 0⟩
        have : nmd (rd h 187) b (h 185 12) L i = false := by unfold nmd; rw [decide_eq_false c, Bool.false_and]
        rw [fs_skip i2 this] at hq
        exact hq
      · unfold mX8_toldHost_b39
        have hnm : nmd (rd h 187) b (h 185 12) L i = decide (fs (fun k => !decide (fl (rd h 187) i (6 + k) = b (h 185 12 + k))) 0 L = -1) := by unfold nmd; rw [decide_eq_true c, Bool.true_and]
        obtain ⟨g, hg⟩ := forU (fun g k => (mX8_toldHost_b2 h Q f (i + 1) → mX8_toldHost_b42 h Q (mX8_toldHost_b2 h Q f) g i 0 k) ∧ ((fs (fun k => !decide (fl (rd h 187) i (6 + k) = b (h 185 12 + k))) k L = -1 → Q i) → (¬ fs (fun k => !decide (fl (rd h 187) i (6 + k) = b (h 185 12 + k))) k L = -1 → mX8_toldHost_b2 h Q f (i + 1)) → mX8_toldHost_b42 h Q (mX8_toldHost_b2 h Q f) g i 1 k)) 0 L (by omega) (fun g => ⟨fun hk => hno hk g L, fun q1 q2 => by
            unfold mX8_toldHost_b42 mX8_toldHost_b99
            rw [fs_end (Int.le_refl _)] at q1
            refine p8_cell (by omega) (by omega) ⟨by omega, fun _ => ⟨fun w => absurd w (by decide), fun _ => q1 rfl⟩, fun w => ?_⟩
            rw [e5] at w
            omega⟩) (fun g k k1 k2 ih2 => ⟨fun hk => hno hk g k, fun q1 q2 => by
            unfold mX8_toldHost_b42 mX8_toldHost_b92
            refine p8_cell (by omega) (by omega) ⟨by omega, fun w => ?_, fun _ => ⟨fun w => absurd w (by decide), fun _ => ⟨zri (by omega) (by omega), p8_cell (by omega) (by omega) ⟨by omega, zri (by omega) (by omega), ⟨by omega, by omega⟩, ?_⟩⟩⟩⟩
            · rw [e5] at w
              omega
            have e6 : rd h 187 (16 + 24 * i + (6 + k)) = fl (rd h 187) i (6 + k) := rfl
            rw [e6, tb _ (by omega) (by omega)]
            refine ⟨fun d => ⟨zri (by omega) (by omega), ih2.1 (q2 ?_)⟩, fun d => ⟨zri (by omega) (by omega), ih2.2 ?_ ?_⟩⟩
            · rw [fs_hit k2 (by rw [decide_eq_false d]; rfl)]
              omega
            · rw [fs_skip k2 (by rw [decide_eq_true d]; rfl)] at q1; exact q1
            · rw [fs_skip k2 (by rw [decide_eq_true d]; rfl)] at q2; exact q2⟩)
        refine ⟨g, hg.2 (fun q => ?_) (fun q => ih ?_)⟩
        · rw [fs_hit i2 (by rw [hnm, decide_eq_true q])] at hq
          exact hq
        · rw [fs_skip i2 (by rw [hnm, decide_eq_false q])] at hq
          exact hq)
  exact ⟨f, hf hQ⟩
theorem p8_isTold {x v : Int} {h : Hp} {Q : Int → Prop} (ho : 0 ≤ rd h 187 0 ∧ rd h 187 0 ≤ 40) (hQ : Q (if tld (rd h 187) x v = -1 then 0 else 1)) : mX8_isTold x v h Q := by
  unfold tld at hQ
  unfold mX8_isTold
  obtain ⟨f, hf⟩ := forU (fun f i => Q (if fs (fun i => decide (fl (rd h 187) i 0 = x) && decide (fl (rd h 187) i 1 = v)) i (rd h 187 0) = -1 then 0 else 1) → mX8_isTold_b2 h Q f x v i) 0 (rd h 187 0) ho.1 (fun f hq => by
      unfold mX8_isTold_b2
      rw [fs_end (Int.le_refl _), if_pos rfl] at hq
      exact ⟨by omega, fun _ => hq, fun w => absurd (Int.le_refl _) w⟩) (fun f i i1 i2 ih hq => by
      unfold mX8_isTold_b2 mX8_isTold_b42
      refine ⟨by omega, fun w => by omega, fun _ => p8_cell (by omega) (by omega) ⟨by omega, ?_⟩⟩
      have e0 : rd h 187 (16 + 24 * i + 0) = fl (rd h 187) i 0 := rfl
      have e1 : rd h 187 (16 + 24 * i + 1) = fl (rd h 187) i 1 := rfl
      rw [e0]
      refine ⟨fun c => ⟨zri (by omega) (by omega), ih ?_⟩, fun c => p8_cell (by omega) (by omega) ⟨by omega, ?_⟩⟩
      · rw [fs_skip i2 (by rw [decide_eq_false c, Bool.false_and])] at hq; exact hq
      rw [e1]
      refine ⟨fun d => ⟨zri (by omega) (by omega), ih ?_⟩, fun d => ?_⟩
      · rw [fs_skip i2 (by rw [decide_eq_false d, Bool.and_false])] at hq; exact hq
      · rw [fs_hit i2 (by rw [decide_eq_true c, decide_eq_true d]; rfl), if_neg (by omega)] at hq; exact hq)
  exact ⟨f, hf hQ⟩
theorem ev_hnm {r g : Rw} (hv : eqV r g) (h5 : ∀ i, 0 ≤ i → i < r 0 → fl r i 5 ≤ 8) : hnm g b n s = hnm r b n s := by
  unfold hnm
  rw [hv.hd.1]
  refine fs_congr fun i i1 i2 => ?_
  unfold nmd
  rw [hv.2.1 i i1 i2 5 (by omega) (by omega)]
  by_cases c : fl r i 5 = te b n s - s
  · have d := h5 i i1 i2
    have : fs (fun k => !decide (fl g i (6 + k) = b (s + k))) 0 (te b n s - s) = fs (fun k => !decide (fl r i (6 + k) = b (s + k))) 0 (te b n s - s) := fs_congr fun k k1 k2 => by rw [hv.2.1 i i1 i2 (6 + k) (by omega) (by omega)]
    rw [this]
  · rw [decide_eq_false c, Bool.false_and, Bool.false_and]
theorem ev_tld {r g : Rw} (hv : eqV r g) {o v : Int} : tld g o v = tld r o v := by
  unfold tld
  rw [hv.hd.1]
  refine fs_congr fun i i1 i2 => ?_
  rw [hv.2.1 i i1 i2 0 (by omega) (by omega), hv.2.1 i i1 i2 1 (by omega) (by omega)]
theorem ev_pl {r g : Rw} (hv : eqV r g) {w : Int} : pln g w = pln r w := by
  unfold pln
  rw [hv.hd.1]
  exact cn_congr 0 fun i i1 i2 => by rw [hv.2.1 i i1 i2 4 (by omega) (by omega)]
end REF
