/-! the reference's reading of a whole text -/
section REK
variable {b : Int → Int} {n : Int} {R : PR} {Q : Hp → Prop} {h0 : Hp}
theorem mdR_u {r g : Rw} {k v : Int} (hm : mdR r g) (he : okE r) (hk : 3 ≤ k ∧ k < 8) : mdR (up r k v) (up g k v) := by
  refine ⟨⟨fun j j1 j2 => ?_, fun i i1 i2 j j1 j2 => ?_, fun q q1 q2 j j1 j2 => ?_⟩, fun i j i1 i0 i2 j1 j2 => ?_⟩
  · by_cases c : j = k
    · rw [c, up_same, up_same]
    · rw [up_ne (by omega) j1 c, up_ne (by omega) j1 c]; exact hm.1.1 j j1 j2
  · rw [up_ne (by omega) (by omega) (by omega)] at i2
    have := he.1
    omega
  · rw [up_ne (by omega) (by omega) (by omega)] at q2
    have := he.2.1
    omega
  · rw [up_ne (by omega) (by omega) (by omega)] at i1
    rw [fl_up (by omega) i0 j1 (by omega) i2 j2]
    exact hm.2 i j i1 i0 i2 j1 j2
theorem p8_readsHead {h : Hp} {s : Int} {K : Int → Rw → PR} (he : eT b n) (ht : tkM h b n s) (s0 : 0 ≤ s) (s1 : s ≤ n) (hm : mdR bgR (rd h 187)) (hg : h 185 16 = 0) (hf : frR h0 h) (hR : (if isW b n s 0 = true then ldKeep b n (nx b n s) bgR (fun s1 r1 => ldPer b n s1 r1 (fun s2 r2 => ldPool b n s2 r2 (fun s3 r3 => ldSemi b n s3 (fun s4 => K s4 r3)))) else (1, s, bgR)) = R) (hy : goM b n R Q h0 okE s K) (hx : noM R Q h0) : mX8_readsHead h Q := by
  have semi : ∀ (t : Int) (r : Rw) (m : Hp), s ≤ t → t ≤ n → tkM m b n t → mdR r (rd m 187) → okE r → m 185 16 = 0 → frR h0 m → ldSemi b n t (fun s4 => K s4 r) = R → mX8_readsHead_b106 Q m := fun t r m t0 t1 tm mm om m1 Fm hR => by
    unfold mX8_readsHead_b106
    unfold ldSemi at hR
    have a2 := nx_r (b := b) (show 0 ≤ t by omega) t1
    refine p8_must he tm m1 (by omega) t1 (fun c g tg g1 fg => ?_) (fun c g g1 g2 fg => ?_)
    · rw [if_pos c] at hR
      exact hy _ r g hR (by omega) a2.2 tg (by rw [rd_ne (fg.2 187 (by omega))]; exact mm) om g1 (frR_tr Fm (frE_R fg))
    · rw [c, if_neg (by decide)] at hR
      exact noM_at (by decide) g1 g2 (frR_tr Fm (frE_R fg)) hR hx
  have bad106 : ∀ m : Hp, ¬ R.1 = 0 → m 185 16 = R.1 → m 185 17 = R.2.1 → frR h0 m → mX8_readsHead_b106 Q m := fun m e m1 m2 Fm => by
    unfold mX8_readsHead_b106
    exact p8_must0 (by rw [m1]; exact e) (hx m e m1 m2 Fm)
  have bad62 : ∀ m : Hp, ¬ R.1 = 0 → m 185 16 = R.1 → m 185 17 = R.2.1 → frR h0 m → mX8_readsHead_b62 Q m := fun m e m1 m2 Fm => by
    unfold mX8_readsHead_b62
    exact p8_passes0 (by rw [m1]; exact e) ⟨fun _ => bad106 m e m1 m2 Fm, fun q => absurd rfl q⟩
  have bad39 : ∀ m : Hp, ¬ R.1 = 0 → m 185 16 = R.1 → m 185 17 = R.2.1 → frR h0 m → mX8_readsHead_b39 Q m := fun m e m1 m2 Fm => by
    unfold mX8_readsHead_b39
    exact p8_passes0 (by rw [m1]; exact e) ⟨fun _ => bad62 m e m1 m2 Fm, fun q => absurd rfl q⟩
  have pool : ∀ (t : Int) (r : Rw) (m : Hp), s ≤ t → t ≤ n → tkM m b n t → mdR r (rd m 187) → okE r → m 185 16 = 0 → frR h0 m → ldPool b n t r (fun s3 r3 => ldSemi b n s3 (fun s4 => K s4 r3)) = R → mX8_readsHead_b62 Q m := fun t r m t0 t1 tm mm om m1 Fm hR => by
    unfold mX8_readsHead_b62
    unfold ldPool at hR
    have a2 := nx_r (b := b) (show 0 ≤ t by omega) t1
    refine p8_passes cdws.2.2.2.1.symm (by omega) m1 tm (by omega) t1 he (fun c g tg kg fg => ⟨fun w => absurd w (by decide), fun _ => ?_⟩) (fun c => ⟨fun _ => ?_, fun w => absurd rfl w⟩)
    · rw [if_pos c] at hR
      unfold ldNum at hR
      have g1 : g 185 16 = 0 := by rw [kg 16 (by omega)]; exact m1
      have Fg : frR h0 g := frR_tr Fm (frE_R (frE_ke kg fg))
      have a3 := nx_r (b := b) (show 0 ≤ nx b n t by omega) a2.2
      refine p8_number he tg g1 (by omega) a2.2 (fun d v tv v1 fv => ⟨by omega, fun u eu => ⟨by omega, ?_⟩⟩) (fun d v v1 v2 fv => ⟨by omega, fun u eu => ⟨by omega, ?_⟩⟩)
      · rw [if_pos d] at hR
        dsimp only at hR
        have hv := nbE_0.mp d
        have uv : ∀ p, p ≠ 187 → u p = v p := fun p hp => by rw [eu, wr_q hp]
        have ru : rd u 187 = up (rd m 187) 5 (vM b n (nx b n t)) := by rw [eu, rd_wr, rd_ne (fv.2 187 (by omega)), rd_ne (fg 187 (by omega))]
        rw [ru, up_same]
        have a4 := nx_r (b := b) (show 0 ≤ nx b n (nx b n t) by omega) a3.2
        have Fu : frR h0 u := frR_tr Fg (frR_tr (frE_R fv) (frR_m uv))
        refine p8_number he (tkM_R tv uv) (by rw [uv 185 (by omega)]; exact v1) (by omega) a3.2 (fun d2 w tw w1 fw => ⟨by omega, fun x ex => ?_⟩) (fun d2 w w1 w2 fw => ⟨by omega, fun x ex => ?_⟩)
        · rw [if_pos d2] at hR
          have hv2 := nbE_0.mp d2
          have xw : ∀ p, p ≠ 187 → x p = w p := fun p hp => by rw [ex, wr_q hp]
          refine semi _ _ x (by omega) a4.2 (tkM_R tw xw) ?_ (okE_u56 om ⟨hv.2.1, hv2.2⟩) (by rw [xw 185 (by omega)]; exact w1) (frR_tr Fu (frR_tr (frE_R fw) (frR_m xw))) hR
          rw [ex, rd_wr, rd_ne (fw.2 187 (by omega)), ru]
          have m5 := mdR_u (k := 5) (v := vM b n (nx b n t)) mm om (by omega)
          refine ⟨⟨fun j j1 j2 => ?_, fun i i1 i2 => ?_, fun q q1 q2 => ?_⟩, fun i j i1 i0 i2 j1 j2 => ?_⟩
          · by_cases c : j = 6
            · rw [c, up_same, up_same]
            · rw [up_ne (by omega) j1 c, up_ne (by omega) j1 c]; exact m5.1.1 j j1 j2
          · rw [up_ne (by omega) (by omega) (by omega), up_ne (by omega) (by omega) (by omega)] at i2
            have := om.1
            omega
          · rw [up_ne (by omega) (by omega) (by omega), up_ne (by omega) (by omega) (by omega)] at q2
            have := om.2.1
            omega
          · rw [up_ne (by omega) (by omega) (by omega)] at i1
            rw [fl_up (by omega) i0 j1 (by omega) i2 j2]
            exact m5.2 i j i1 i0 i2 j1 j2
        · rw [if_neg d2] at hR
          rw [← hR] at bad106
          have xw : ∀ p, p ≠ 187 → x p = w p := fun p hp => by rw [ex, wr_q hp]
          exact bad106 x d2 (by rw [xw 185 (by omega)]; exact w1) (by rw [xw 185 (by omega)]; exact w2) (frR_tr Fu (frR_tr (frE_R fw) (frR_m xw)))
      · rw [if_neg d] at hR
        have uv : ∀ p, p ≠ 187 → u p = v p := fun p hp => by rw [eu, wr_q hp]
        have nu : ¬ u 185 16 = 0 := by rw [uv 185 (by omega), v1]; exact d
        refine p8_number0 nu ⟨by omega, fun x ex => ?_⟩
        have xu : ∀ p, p ≠ 187 → x p = u p := fun p hp => by rw [ex, wr_q hp]
        rw [← hR] at bad106
        exact bad106 x d (by rw [xu 185 (by omega), uv 185 (by omega)]; exact v1) (by rw [xu 185 (by omega), uv 185 (by omega)]; exact v2) (frR_tr Fg (frR_tr (frE_R fv) (frR_tr (frR_m uv) (frR_m xu))))
    · rw [c, if_neg (by decide)] at hR
      exact semi t r m t0 t1 tm mm om m1 Fm hR
  have per : ∀ (t : Int) (r : Rw) (m : Hp), s ≤ t → t ≤ n → tkM m b n t → mdR r (rd m 187) → okE r → m 185 16 = 0 → frR h0 m → ldPer b n t r (fun s2 r2 => ldPool b n s2 r2 (fun s3 r3 => ldSemi b n s3 (fun s4 => K s4 r3))) = R → mX8_readsHead_b39 Q m := fun t r m t0 t1 tm mm om m1 Fm hR => by
    unfold mX8_readsHead_b39
    unfold ldPer at hR
    have a2 := nx_r (b := b) (show 0 ≤ t by omega) t1
    refine p8_passes cdws.2.2.1.symm (by omega) m1 tm (by omega) t1 he (fun c g tg kg fg => ⟨fun w => absurd w (by decide), fun _ => ?_⟩) (fun c => ⟨fun _ => ?_, fun w => absurd rfl w⟩)
    · rw [if_pos c] at hR
      unfold ldNum at hR
      have g1 : g 185 16 = 0 := by rw [kg 16 (by omega)]; exact m1
      have Fg : frR h0 g := frR_tr Fm (frE_R (frE_ke kg fg))
      have a3 := nx_r (b := b) (show 0 ≤ nx b n t by omega) a2.2
      refine p8_number he tg g1 (by omega) a2.2 (fun d v tv v1 fv => ⟨by omega, fun u eu => ?_⟩) (fun d v v1 v2 fv => ⟨by omega, fun u eu => ?_⟩)
      · rw [if_pos d] at hR
        have hv := nbE_0.mp d
        have uv : ∀ p, p ≠ 187 → u p = v p := fun p hp => by rw [eu, wr_q hp]
        refine pool _ _ u (by omega) a3.2 (tkM_R tv uv) ?_ (okE_u4 om hv.2) (by rw [uv 185 (by omega)]; exact v1) (frR_tr Fg (frR_tr (frE_R fv) (frR_m uv))) hR
        rw [eu, rd_wr, rd_ne (fv.2 187 (by omega)), rd_ne (fg 187 (by omega))]
        exact mdR_u mm om (by omega)
      · rw [if_neg d] at hR
        rw [← hR] at bad62
        have uv : ∀ p, p ≠ 187 → u p = v p := fun p hp => by rw [eu, wr_q hp]
        exact bad62 u d (by rw [uv 185 (by omega)]; exact v1) (by rw [uv 185 (by omega)]; exact v2) (frR_tr Fg (frR_tr (frE_R fv) (frR_m uv)))
    · rw [c, if_neg (by decide)] at hR
      exact pool t r m t0 t1 tm mm om m1 Fm hR
  unfold mX8_readsHead
  have a1 := nx_r (b := b) s0 s1
  refine p8_passes cdws.1.symm (by omega) hg ht s0 s1 he (fun c g tg kg fg => ⟨fun _ => ?_, fun w => absurd w (by decide)⟩) (fun c => ⟨fun w => absurd rfl w, fun _ => ?_⟩)
  · rw [if_pos c] at hR
    have g1 : g 185 16 = 0 := by rw [kg 16 (by omega)]; exact hg
    have Fg : frR h0 g := frR_tr hf (frE_R (frE_ke kg fg))
    have mg : mdR bgR (rd g 187) := by rw [rd_ne (fg 187 (by omega))]; exact hm
    unfold ldKeep at hR
    have a2 := nx_r (b := b) (show 0 ≤ nx b n s by omega) a1.2
    refine p8_passes cdws.2.1.symm (by omega) g1 tg (by omega) a1.2 he (fun c m tm km fm => ⟨fun w => absurd w (by decide), fun _ => ?_⟩) (fun c => ⟨fun _ => ?_, fun w => absurd rfl w⟩)
    · rw [if_pos c] at hR
      unfold ldNum at hR
      have m1 : m 185 16 = 0 := by rw [km 16 (by omega)]; exact g1
      have Fm : frR h0 m := frR_tr Fg (frE_R (frE_ke km fm))
      have a3 := nx_r (b := b) (show 0 ≤ nx b n (nx b n s) by omega) a2.2
      refine p8_number he tm m1 (by omega) a2.2 (fun d v tv v1 fv => ⟨by omega, fun u eu => ?_⟩) (fun d v v1 v2 fv => ⟨by omega, fun u eu => ?_⟩)
      · rw [if_pos d] at hR
        have hv := nbE_0.mp d
        have uv : ∀ p, p ≠ 187 → u p = v p := fun p hp => by rw [eu, wr_q hp]
        refine per _ _ u (by omega) a3.2 (tkM_R tv uv) ?_ (okE_u3 okE_bg hv.2) (by rw [uv 185 (by omega)]; exact v1) (frR_tr Fm (frR_tr (frE_R fv) (frR_m uv))) hR
        rw [eu, rd_wr, rd_ne (fv.2 187 (by omega)), rd_ne (fm 187 (by omega))]
        exact mdR_u mg okE_bg (by omega)
      · rw [if_neg d] at hR
        rw [← hR] at bad39
        have uv : ∀ p, p ≠ 187 → u p = v p := fun p hp => by rw [eu, wr_q hp]
        exact bad39 u d (by rw [uv 185 (by omega)]; exact v1) (by rw [uv 185 (by omega)]; exact v2) (frR_tr Fm (frR_tr (frE_R fv) (frR_m uv)))
    · rw [c, if_neg (by decide)] at hR
      exact per _ _ g (by omega) a1.2 tg mg okE_bg g1 Fg hR
  · rw [c, if_neg (by decide)] at hR
    exact noM_w (Q' := fun _ h' => Q h') ht hg (by decide) hf hR hx
theorem p8_begins {h : Hp} {Q : Hp → Prop} (hQ : ∀ h', mdR bgR (rd h' 187) → (∀ p, p ≠ 187 → h' p = h p) → Q h') : mX8_begins h Q := by
  unfold mX8_begins
  obtain ⟨f, hf⟩ := forU (fun f k => ∀ g : Hp, (∀ p, p ≠ 187 → g p = h p) → (∀ q, 0 ≤ q → q < k → rd g 187 q = 0) → mX8_begins_b2 Q f k g) 0 1096 (by omega) (fun f g fg vg => by
      unfold mX8_begins_b2
      refine ⟨fun _ => ⟨by omega, fun a ea => ⟨by omega, fun c ec => ⟨by omega, fun d ed => ⟨by omega, fun e ee => hQ e ?_ (fun p hp => ?_)⟩⟩⟩⟩, fun w => absurd (Int.le_refl _) w⟩
      · rw [ee, rd_wr, ed, rd_wr, ec, rd_wr, ea, rd_wr]
        have key : ∀ q, 0 ≤ q → q < 1096 → up (up (up (up (rd g 187) 3 1) 4 3) 5 200) 6 250 q = if q = 3 then 1 else if q = 4 then 3 else if q = 5 then 200 else if q = 6 then 250 else 0 := fun q q1 q2 => by
          unfold up
          by_cases c3 : q = 3
          · subst c3; rfl
          by_cases c4 : q = 4
          · subst c4; rfl
          by_cases c5 : q = 5
          · subst c5; rfl
          by_cases c6 : q = 6
          · subst c6; rfl
          rw [if_neg c3, if_neg c4, if_neg c5, if_neg c6, if_neg (by omega), if_neg (by omega), if_neg (by omega), if_neg (by omega)]
          exact vg q q1 q2
        refine ⟨⟨fun k k1 k2 => ?_, fun i i1 i2 => ?_, fun q q1 q2 => ?_⟩, fun i j i1 i0 i2 j1 j2 => ?_⟩
        · rw [key k k1 (by omega)]
          unfold bgR
          rw [mk_h (by omega)]
        · have := bg_h.1
          omega
        · have := bg_h.2.1
          omega
        · unfold fl
          rw [key _ (by omega) (by omega), if_neg (by omega), if_neg (by omega), if_neg (by omega), if_neg (by omega)]
      · rw [ee, wr_q hp, ed, wr_q hp, ec, wr_q hp, ea, wr_q hp]; exact fg p hp) (fun f k k1 k2 ih g fg vg => by
      unfold mX8_begins_b2
      refine ⟨fun w => by omega, fun _ => ⟨by omega, fun a ea => ⟨zri (by omega) (by omega), ih a (fun p hp => by rw [ea, wr_q hp]; exact fg p hp) (fun q q1 q2 => ?_)⟩⟩⟩
      rw [ea, rd_wr]
      by_cases c : q = k
      · rw [c, up_same]
      · rw [up_ne (by omega) q1 c]
        exact vg q q1 (by omega))
  exact ⟨f, hf h (fun _ _ => rfl) (fun q q1 q2 => by omega)⟩
theorem p8_loop (he : eT b n) (Q : Hp → Prop) (hy : R.1 = 0 → ∀ h', eqV R.2.2 (rd h' 187) → okL R.2.2 → h' 185 16 = 0 → frR h0 h' → Q h') (hx : ¬ R.1 = 0 → ∀ h', 0 ≤ R.2.1 → h' 185 16 = R.1 → h' 185 17 = R.2.1 → frR h0 h' → Q h') (hp : ¬ R.1 = 0 → 0 ≤ R.2.1) : ∀ (m : Nat) (s : Int) (r : Rw) (h : Hp), 900 - (m : Int) ≤ s → 0 ≤ s → s ≤ n → tkM h b n s → mdR r (rd h 187) → okL r → h 185 16 = 0 → frR h0 h → ldCl b n m s r = R → mX8_readsAll_b8 Q (m + 1) h := by
  have fin : ∀ s r h, mdR r (rd h 187) → okL r → h 185 16 = 0 → frR h0 h → (0, s, r) = R → Q h := fun s r h hm ho h2 hf hR => by
    rw [← hR] at hy
    exact hy rfl h hm.1 ho h2 hf
  have hx' : noM R Q h0 := fun h' e w1 w2 f => hx e h' (hp e) w1 w2 f
  intro m
  induction m with
  | zero =>
    intro s r h hs s0 s1 ht hm ho hg hf hR
    unfold mX8_readsAll_b8
    have := he.1
    refine p8_good1 hg ⟨fun w => absurd w (by decide), fun _ => ⟨fun _ => fin s r h hm ho hg hf hR, fun w => ?_⟩⟩
    rw [ht.2.2.1] at w
    exact absurd (kd_0.mpr (by omega)) w
  | succ m ih =>
    intro s r h hs s0 s1 ht hm ho hg hf hR
    unfold mX8_readsAll_b8
    rw [ldCl_s] at hR
    rw [ht.2.2.1]
    refine p8_good1 hg ⟨fun w => absurd w (by decide), fun _ => ⟨fun c => ?_, fun c => ?_⟩⟩
    · rw [if_pos c] at hR
      exact fin s r h hm ho hg hf hR
    rw [if_neg c] at hR
    have noB : noM R (fun h' => mX8_readsAll_b79 Q (mX8_readsAll_b8 Q (m + 1)) h') h0 := fun h' e w1 w2 f => by
      have ng : ¬ h' 185 16 = 0 := by rw [w1]; exact e
      unfold mX8_readsAll_b79
      refine p8_must0 ng ?_
      unfold mX8_readsAll_b8
      exact p8_good0 ng ⟨fun _ => hx' h' e w1 w2 f, fun w => absurd rfl w⟩
    have goB : goM b n R (fun h' => mX8_readsAll_b79 Q (mX8_readsAll_b8 Q (m + 1)) h') h0 okL s (fun s' r' => ldSemi b n s' (fun s2 => ldCl b n m s2 r')) := fun t r' g hR t0 t1 tg mg og g2 fg => by
      unfold mX8_readsAll_b79
      unfold ldSemi at hR
      dsimp only at hR
      have a2 := nx_r (b := b) (show 0 ≤ t by omega) t1
      refine p8_must he tg g2 (by omega) t1 (fun c y ty y1 fy => ?_) (fun c y y1 y2 fy => ?_)
      · rw [if_pos c] at hR
        have lt := nx_lt (b := b) (n := n) (show 0 ≤ t by omega) (kd_lt (b := b) (by rw [isG_kd c]; decide))
        exact ih _ r' y (by omega) (by omega) a2.2 ty (by rw [rd_ne (fy.2 187 (by omega))]; exact mg) og y1 (frR_tr fg (frE_R fy)) hR
      · rw [c, if_neg (by decide)] at hR
        have ng : ¬ y 185 16 = 0 := by rw [y1]; decide
        unfold mX8_readsAll_b8
        exact p8_good0 ng ⟨fun _ => noM_at (by decide) y1 y2 (frR_tr fg (frE_R fy)) hR hx', fun w => absurd rfl w⟩
    have a1 := nx_r (b := b) s0 s1
    refine p8_isWord cdws.2.2.2.2.1.symm (by omega) hg ht s0 s1 he ⟨fun c4 => ?_, fun c4 => ?_⟩
    · rw [b2i0.mp c4, if_neg (by decide)] at hR
      refine p8_isWord cdws.2.2.2.2.2.2.1.symm (by omega) hg ht s0 s1 he ⟨fun c6 => ?_, fun c6 => ?_⟩
      · rw [b2i0.mp c6, if_neg (by decide)] at hR
        refine p8_passes cdws.2.2.2.2.2.2.2.2.2.2.1.symm (by omega) hg ht s0 s1 he (fun c10 g tg kg fg => ⟨fun w => absurd w (by decide), fun _ => ?_⟩) (fun c10 => ⟨fun _ => ?_, fun w => absurd rfl w⟩)
        · rw [if_pos c10] at hR
          exact p8_readsMove he tg rfl s0 s1 (by rw [rd_ne (fg 187 (by omega))]; exact hm) ho (by rw [kg 16 (by omega)]; exact hg) (frR_tr hf (frE_R (frE_ke kg fg))) hR goB noB
        · rw [c10, if_neg (by decide)] at hR
          exact noM_w (Q' := fun _ h' => mX8_readsAll_b79 Q (mX8_readsAll_b8 Q (m + 1)) h') ht hg (by decide) hf hR noB
      · rw [if_pos (b2i1.mp c6)] at hR
        exact p8_readsRule he ht s0 s1 hm ho hg hf hR goB noB
    · rw [if_pos (b2i1.mp c4)] at hR
      exact p8_readsHost he ht s0 s1 hm ho hg hf hR goB noB
theorem p8_readsAll {h : Hp} (he : eT b n) (ht : tkM h b n (ws b n 0)) (hg : h 185 16 = 0) (hR : LD b n = R) (hp : ¬ R.1 = 0 → 0 ≤ R.2.1) (hy : R.1 = 0 → ∀ h', eqV R.2.2 (rd h' 187) → okL R.2.2 → h' 185 16 = 0 → frR h h' → Q h') (hx : ¬ R.1 = 0 → ∀ h', 0 ≤ R.2.1 → h' 185 16 = R.1 → h' 185 17 = R.2.1 → frR h h' → Q h') : mX8_readsAll h Q := by
  unfold mX8_readsAll
  unfold LD at hR
  have s0 : 0 ≤ ws b n 0 ∧ ws b n 0 ≤ n := rn_r (Int.le_refl 0) he.1.1
  refine p8_begins fun u mu fu => ?_
  have Fu : frR h u := frR_m fu
  refine p8_readsHead (K := fun s4 r3 => ldCl b n 900 s4 r3) (h0 := h) he (tkM_R ht fu) s0.1 s0.2 mu (by rw [fu 185 (by omega)]; exact hg) Fu hR (fun t r v hR t0 t1 tv mv ov v2 fv => ⟨901, ?_⟩) (fun v e w1 w2 fv => ⟨1, ?_⟩)
  · exact p8_loop he Q hy hx hp 900 t r v (by omega) (by omega) t1 tv mv ov.2.2 v2 fv hR
  · unfold mX8_readsAll_b8
    exact p8_good0 (by rw [w1]; exact e) ⟨fun _ => hx e v (hp e) w1 w2 fv, fun w => absurd rfl w⟩
end REK
