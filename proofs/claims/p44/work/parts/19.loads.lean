def mL_loads_b328 (Q : Int → Hp → Prop) (K226 : Int → Int → Int → Hp → Prop) (K281 : Int → Int → Int → Int → Int → Hp → Prop) (v4 : Int) (v6 : Int) (v7 : Int) (v8 : Int) (v9 : Int) (h : Hp) : Prop := (zr (v9 + 1) ∧ (K281 v4 v6 v7 v8 (v9 + 1) h))
set_option maxHeartbeats 4000000 in
set_option maxRecDepth 100000 in
theorem sL_loads_b328 {l0 : Launch} {a : ZC}  {Q : Int → Hp → Prop} {K226 : Int → Int → Int → Hp → Prop} {K281 : Int → Int → Int → Int → Int → Hp → Prop} (O : zOk l0 a cL_loads RL 11 (some .boolean) 188 []) (hN : a.2.2.2 = 188)  (hK226 : ∀ (v4 : Int) (v6 : Int) (v7 : Int) (h : Hp), K226 v4 v6 v7 h → zV a (10, 26, 185, (qZ Q), xN) 1 60 226 [some (aR 185), some (aR 169), some (aR 999), none, some (aI v4), none, some (aI v6), some (aI v7), none, none, none] [] h) (hK281 : ∀ (v4 : Int) (v6 : Int) (v7 : Int) (v8 : Int) (v9 : Int) (h : Hp), K281 v4 v6 v7 v8 v9 h → zV a (10, 26, 185, (qZ Q), xN) 1 60 281 [some (aR 185), some (aR 169), some (aR 999), none, some (aI v4), none, some (aI v6), some (aI v7), some (aI v8), some (aI v9), none] [] h) {v4 : Int} {v6 : Int} {v7 : Int} {v8 : Int} {v9 : Int} {h : Hp}  (hM : mL_loads_b328 Q K226 K281 v4 v6 v7 v8 v9 h) : zV a (10, 26, 185, (qZ Q), xN) 1 60 328 [some (aR 185), some (aR 169), some (aR 999), none, some (aI v4), none, some (aI v6), some (aI v7), some (aI v8), some (aI v9), none] [] h := by
  unfold mL_loads_b328 at hM
  obtain ⟨hc, hM⟩ := hM
  refine zV_iinc O dL_loads_328 rfl (Nat.le_of_ble_eq_true rfl) rfl hc ?_
  refine zV_goto (tgt := 281) O dL_loads_331 (by decide) ?_
  exact hK281 _ _ _ _ _ _ hM
def mL_loads_b302 (Q : Int → Hp → Prop) (K226 : Int → Int → Int → Hp → Prop) (K281 : Int → Int → Int → Int → Int → Hp → Prop) (v4 : Int) (v6 : Int) (v7 : Int) (v8 : Int) (v9 : Int) (s0 : Int) (s1 : Int) (h : Hp) : Prop := (((0 : Int) ≤ s1 ∧ (0 : Int) < s0) ∧ (((0 : Int) ≤ (s1 / s0) ∧ (0 : Int) < 17) ∧ ((¬ ((s1 / s0) % 17) = 0 → (mL_spaced ((s1 / s0) % 17) h (fun h103 => (mL_loads_b328 Q K226 K281 v4 v6 v7 v8 v9 h103)))) ∧ (((s1 / s0) % 17) = 0 → (mL_writes 21 h (fun h104 => (mL_loads_b328 Q K226 K281 v4 v6 v7 v8 v9 h104)))))))
set_option maxHeartbeats 4000000 in
set_option maxRecDepth 100000 in
theorem sL_loads_b302 {l0 : Launch} {a : ZC}  {Q : Int → Hp → Prop} {K226 : Int → Int → Int → Hp → Prop} {K281 : Int → Int → Int → Int → Int → Hp → Prop} (O : zOk l0 a cL_loads RL 11 (some .boolean) 188 []) (hN : a.2.2.2 = 188)  (hK226 : ∀ (v4 : Int) (v6 : Int) (v7 : Int) (h : Hp), K226 v4 v6 v7 h → zV a (10, 26, 185, (qZ Q), xN) 1 60 226 [some (aR 185), some (aR 169), some (aR 999), none, some (aI v4), none, some (aI v6), some (aI v7), none, none, none] [] h) (hK281 : ∀ (v4 : Int) (v6 : Int) (v7 : Int) (v8 : Int) (v9 : Int) (h : Hp), K281 v4 v6 v7 v8 v9 h → zV a (10, 26, 185, (qZ Q), xN) 1 60 281 [some (aR 185), some (aR 169), some (aR 999), none, some (aI v4), none, some (aI v6), some (aI v7), some (aI v8), some (aI v9), none] [] h) {v4 : Int} {v6 : Int} {v7 : Int} {v8 : Int} {v9 : Int} {s0 : Int} {s1 : Int} {h : Hp}  (hM : mL_loads_b302 Q K226 K281 v4 v6 v7 v8 v9 s0 s1 h) : zV a (10, 26, 185, (qZ Q), xN) 1 60 302 [some (aR 185), some (aR 169), some (aR 999), none, some (aI v4), none, some (aI v6), some (aI v7), some (aI v8), some (aI v9), none] [aI s0, aI s1] h := by
  unfold mL_loads_b302 at hM
  obtain ⟨hc, hM⟩ := hM
  refine zV_idiv O dL_loads_302 hc ?_
  refine zV_bipush (z := 17) O ⟨by omega, by omega⟩ rfl dL_loads_303 ?_
  obtain ⟨hc, hM⟩ := hM
  refine zV_irem O dL_loads_305 hc ?_
  refine zV_istore O dL_loads_306 (Nat.le_of_ble_eq_true rfl) rfl ?_
  refine zV_iload O dL_loads_308 rfl ?_
  refine zV_if_ne (tgt := 322) O dL_loads_310 (by decide) (fun hc => ?_) (fun hc => ?_)
  · replace hM := hM.1 hc
    refine zV_aload_n O dL_loads_322 rfl rfl ?_
    refine zV_iload O dL_loads_323 rfl ?_
    refine zV_callV (as := [aI ((s1 / s0) % 17)]) (st := []) O zc_L_spaced (Or.inl zl_RL_46) zi_438 zi_3 zt_185 rfl rfl (by decide) (Nat.le_of_ble_eq_true rfl) rfl rfl (Nat.le_of_ble_eq_true rfl) (Nat.le_of_ble_eq_true rfl) (Nat.le_of_ble_eq_true rfl) (Nat.le_of_ble_eq_true rfl) (Nat.le_of_ble_eq_true rfl) (Nat.le_of_ble_eq_true rfl) dL_loads_325 (sL_spaced hM) (fun r h103 hq => ?_) (fun x h9 hq => hq.elim)
    obtain ⟨rfl, hM⟩ := hq
    refine zV_sub (ls2 := [some (aR 185), some (aR 169), some (aR 999), none, some (aI v4), none, some (aI v6), some (aI v7), some (aI v8), some (aI v9), none]) ⟨rfl, rfl, rfl, rfl, rfl, rfl, rfl, rfl, trivial⟩ ?_
    exact sL_loads_b328 O hN hK226 hK281 hM
  · replace hM := hM.2 hc
    refine zV_aload_n O dL_loads_313 rfl rfl ?_
    refine zV_ldcS (w := 21) O ⟨by decide, rfl, rfl⟩ dL_loads_314 ?_
    refine zV_callV (as := [aR (1000 + 21)]) (st := []) O zc_L_writes (Or.inl zl_RL_29) zi_386 zi_2 zt_185 rfl rfl (by decide) (Nat.le_of_ble_eq_true rfl) rfl rfl (Nat.le_of_ble_eq_true rfl) (Nat.le_of_ble_eq_true rfl) (Nat.le_of_ble_eq_true rfl) (Nat.le_of_ble_eq_true rfl) (Nat.le_of_ble_eq_true rfl) (Nat.le_of_ble_eq_true rfl) dL_loads_316 (sL_writes (by decide : 21 < zSN) hM) (fun r h104 hq => ?_) (fun x h9 hq => hq.elim)
    obtain ⟨rfl, hM⟩ := hq
    refine zV_goto (tgt := 328) O dL_loads_319 (by decide) ?_
    refine zV_sub (ls2 := [some (aR 185), some (aR 169), some (aR 999), none, some (aI v4), none, some (aI v6), some (aI v7), some (aI v8), some (aI v9), none]) ⟨rfl, rfl, rfl, rfl, rfl, rfl, rfl, rfl, trivial⟩ ?_
    exact sL_loads_b328 O hN hK226 hK281 hM
def mL_loads_b281 (Q : Int → Hp → Prop) (K226 : Int → Int → Int → Hp → Prop) : Nat → Int → Int → Int → Int → Int → Hp → Prop
  | 0 => fun _ _ _ _ _ _ => False
  | fu281 + 1 => fun v4 v6 v7 v8 v9 h => (((2 : Int) ≤ v9 → (mL_writes 15 h (fun h105 => (zr (v7 + 1) ∧ (K226 v4 v6 (v7 + 1) h105))))) ∧ (¬ (2 : Int) ≤ v9 → ((¬ v9 = 0 → (mL_loads_b302 Q K226 (mL_loads_b281 Q K226 fu281) v4 v6 v7 v8 v9 256 v8 h)) ∧ (v9 = 0 → (mL_loads_b302 Q K226 (mL_loads_b281 Q K226 fu281) v4 v6 v7 v8 v9 8 v8 h)))))
set_option maxHeartbeats 4000000 in
set_option maxRecDepth 100000 in
theorem sL_loads_b281 {l0 : Launch} {a : ZC}  {Q : Int → Hp → Prop} {K226 : Int → Int → Int → Hp → Prop} (O : zOk l0 a cL_loads RL 11 (some .boolean) 188 []) (hN : a.2.2.2 = 188)  (hK226 : ∀ (v4 : Int) (v6 : Int) (v7 : Int) (h : Hp), K226 v4 v6 v7 h → zV a (10, 26, 185, (qZ Q), xN) 1 60 226 [some (aR 185), some (aR 169), some (aR 999), none, some (aI v4), none, some (aI v6), some (aI v7), none, none, none] [] h) : ∀ (ff : Nat) (v4 : Int) (v6 : Int) (v7 : Int) (v8 : Int) (v9 : Int) (h : Hp), mL_loads_b281 Q K226 ff v4 v6 v7 v8 v9 h → zV a (10, 26, 185, (qZ Q), xN) 1 60 281 [some (aR 185), some (aR 169), some (aR 999), none, some (aI v4), none, some (aI v6), some (aI v7), some (aI v8), some (aI v9), none] [] h := by
  intro ff
  induction ff with
  | zero => intro v4 v6 v7 v8 v9 h hM; exact hM.elim
  | succ ff ih =>
    have hK281 := ih
    intro v4 v6 v7 v8 v9 h hM
    unfold mL_loads_b281 at hM
    refine zV_iload O dL_loads_281 rfl ?_
    refine zV_iconst (z := 2) O ⟨by omega, by omega⟩ dL_loads_283 ?_
    refine zV_icmp_ge (tgt := 334) O dL_loads_284 (by decide) (fun hc => ?_) (fun hc => ?_)
    · replace hM := hM.1 hc
      refine zV_aload_n O dL_loads_334 rfl rfl ?_
      refine zV_ldcS (w := 15) O ⟨by decide, rfl, rfl⟩ dL_loads_335 ?_
      refine zV_callV (as := [aR (1000 + 15)]) (st := []) O zc_L_writes (Or.inl zl_RL_29) zi_386 zi_2 zt_185 rfl rfl (by decide) (Nat.le_of_ble_eq_true rfl) rfl rfl (Nat.le_of_ble_eq_true rfl) (Nat.le_of_ble_eq_true rfl) (Nat.le_of_ble_eq_true rfl) (Nat.le_of_ble_eq_true rfl) (Nat.le_of_ble_eq_true rfl) (Nat.le_of_ble_eq_true rfl) dL_loads_337 (sL_writes (by decide : 15 < zSN) hM) (fun r h105 hq => ?_) (fun x h9 hq => hq.elim)
      obtain ⟨rfl, hM⟩ := hq
      obtain ⟨hc, hM⟩ := hM
      refine zV_iinc O dL_loads_340 rfl (Nat.le_of_ble_eq_true rfl) rfl hc ?_
      refine zV_goto (tgt := 226) O dL_loads_343 (by decide) ?_
      refine zV_sub (ls2 := [some (aR 185), some (aR 169), some (aR 999), none, some (aI v4), none, some (aI v6), some (aI (v7 + 1)), none, none, none]) ⟨rfl, rfl, rfl, rfl, rfl, rfl, trivial⟩ ?_
      exact hK226 _ _ _ _ hM
    · replace hM := hM.2 hc
      refine zV_iload O dL_loads_287 rfl ?_
      refine zV_iload O dL_loads_289 rfl ?_
      refine zV_if_ne (tgt := 299) O dL_loads_291 (by decide) (fun hc => ?_) (fun hc => ?_)
      · replace hM := hM.1 hc
        refine zV_sipush (z := 256) O ⟨by omega, by omega⟩ rfl dL_loads_299 ?_
        exact sL_loads_b302 O hN hK226 hK281 hM
      · replace hM := hM.2 hc
        refine zV_bipush (z := 8) O ⟨by omega, by omega⟩ rfl dL_loads_294 ?_
        refine zV_goto (tgt := 302) O dL_loads_296 (by decide) ?_
        exact sL_loads_b302 O hN hK226 hK281 hM
def mL_loads_b275 (Q : Int → Hp → Prop) (K226 : Int → Int → Int → Hp → Prop) (v4 : Int) (v6 : Int) (v7 : Int) (v8 : Int) (s0 : Nat) (h : Hp) : Prop := (mL_writes s0 h (fun h106 => (∃ ff, mL_loads_b281 Q K226 ff v4 v6 v7 v8 0 h106)))
set_option maxHeartbeats 4000000 in
set_option maxRecDepth 100000 in
theorem sL_loads_b275 {l0 : Launch} {a : ZC}  {Q : Int → Hp → Prop} {K226 : Int → Int → Int → Hp → Prop} (O : zOk l0 a cL_loads RL 11 (some .boolean) 188 []) (hN : a.2.2.2 = 188)  (hK226 : ∀ (v4 : Int) (v6 : Int) (v7 : Int) (h : Hp), K226 v4 v6 v7 h → zV a (10, 26, 185, (qZ Q), xN) 1 60 226 [some (aR 185), some (aR 169), some (aR 999), none, some (aI v4), none, some (aI v6), some (aI v7), none, none, none] [] h) {v4 : Int} {v6 : Int} {v7 : Int} {v8 : Int} {s0 : Nat} {h : Hp} (hws0 : s0 < zSN) (hM : mL_loads_b275 Q K226 v4 v6 v7 v8 s0 h) : zV a (10, 26, 185, (qZ Q), xN) 1 60 275 [some (aR 185), some (aR 169), some (aR 999), none, some (aI v4), none, some (aI v6), some (aI v7), some (aI v8), none, none] [aR (1000 + s0), aR 185] h := by
  unfold mL_loads_b275 at hM
  refine zV_callV (as := [aR (1000 + s0)]) (st := []) O zc_L_writes (Or.inl zl_RL_29) zi_386 zi_2 zt_185 rfl rfl (by decide) (Nat.le_of_ble_eq_true rfl) rfl rfl (Nat.le_of_ble_eq_true rfl) (Nat.le_of_ble_eq_true rfl) (Nat.le_of_ble_eq_true rfl) (Nat.le_of_ble_eq_true rfl) (Nat.le_of_ble_eq_true rfl) (Nat.le_of_ble_eq_true rfl) dL_loads_275 (sL_writes hws0 hM) (fun r h106 hq => ?_) (fun x h9 hq => hq.elim)
  obtain ⟨rfl, hM⟩ := hq
  refine zV_iconst (z := 0) O ⟨by omega, by omega⟩ dL_loads_278 ?_
  refine zV_istore O dL_loads_279 (Nat.le_of_ble_eq_true rfl) rfl ?_
  obtain ⟨ff, hM⟩ := hM
  exact sL_loads_b281 O hN hK226 ff _ _ _ _ _ _ hM
def mL_loads_b226 (Q : Int → Hp → Prop) : Nat → Int → Int → Int → Hp → Prop
  | 0 => fun _ _ _ _ => False
  | fu226 + 1 => fun v4 v6 v7 h => ((v6 ≤ v7 → (mL_feeds h (fun z107 h108 => (mX7_load z107 h108 (fun z109 h110 => ((¬ z109 = v4 → (Q 0 h110)) ∧ (z109 = v4 → (mX7_errorPosition h110 (fun z111 => ((¬ z111 = ((-1) : Int) → (Q 0 h110)) ∧ (z111 = ((-1) : Int) → (mX7_size 0 h110 (fun z112 h113 => ((¬ z112 = v4 → (Q 0 h113)) ∧ (z112 = v4 → (mX7_size 1 h113 (fun z114 h115 => ((¬ z114 = v6 → (Q 0 h115)) ∧ (z114 = v6 → (mX7_size 2 h115 (fun z116 h117 => ((¬ z116 = 0 → (Q 0 h117)) ∧ (z116 = 0 → (mX7_size 3 h117 (fun z118 h119 => ((¬ z118 = 0 → (Q 0 h119)) ∧ (z118 = 0 → (mX7_size 8 h119 (fun z120 h121 => ((¬ z120 = 0 → (Q 0 h121)) ∧ (z120 = 0 → (Q 1 h121)))))))))))))))))))))))))))))))) ∧ (¬ v6 ≤ v7 → (zr (11 + v7) ∧ (mL_cell (11 + v7) h (fun z122 => (mL_writes 18 h (fun h123 => (((0 : Int) ≤ z122 ∧ (0 : Int) < 2) ∧ (mL_spaced (z122 % 2) h123 (fun h124 => (((0 : Int) ≤ z122 ∧ (0 : Int) < 2) ∧ (((0 : Int) ≤ (z122 / 2) ∧ (0 : Int) < 3) ∧ ((((z122 / 2) % 3) ≤ 0 → (mL_loads_b275 Q (mL_loads_b226 Q fu226) v4 v6 v7 z122 20 h124)) ∧ (¬ ((z122 / 2) % 3) ≤ 0 → (mL_loads_b275 Q (mL_loads_b226 Q fu226) v4 v6 v7 z122 19 h124)))))))))))))))
set_option maxHeartbeats 4000000 in
set_option maxRecDepth 100000 in
theorem sL_loads_b226 {l0 : Launch} {a : ZC}  {Q : Int → Hp → Prop}  (O : zOk l0 a cL_loads RL 11 (some .boolean) 188 []) (hN : a.2.2.2 = 188)   : ∀ (ff : Nat) (v4 : Int) (v6 : Int) (v7 : Int) (h : Hp), mL_loads_b226 Q ff v4 v6 v7 h → zV a (10, 26, 185, (qZ Q), xN) 1 60 226 [some (aR 185), some (aR 169), some (aR 999), none, some (aI v4), none, some (aI v6), some (aI v7), none, none, none] [] h := by
  intro ff
  induction ff with
  | zero => intro v4 v6 v7 h hM; exact hM.elim
  | succ ff ih =>
    have hK226 := ih
    intro v4 v6 v7 h hM
    unfold mL_loads_b226 at hM
    refine zV_iload O dL_loads_226 rfl ?_
    refine zV_iload O dL_loads_228 rfl ?_
    refine zV_icmp_ge (tgt := 346) O dL_loads_230 (by decide) (fun hc => ?_) (fun hc => ?_)
    · replace hM := hM.1 hc
      refine zV_aload_n O dL_loads_346 rfl rfl ?_
      refine zV_aload_n O dL_loads_347 rfl rfl ?_
      refine zV_aload_n O dL_loads_348 rfl rfl ?_
      refine zV_callV0 (as := [aR 169]) (st := [aR 169]) O zc_L_feeds (Or.inl zl_RL_71) zi_456 zi_5 zt_185 rfl rfl (by decide) rfl rfl (Nat.le_of_ble_eq_true rfl) (Nat.le_of_ble_eq_true rfl) (Nat.le_of_ble_eq_true rfl) (Nat.le_of_ble_eq_true rfl) (Nat.le_of_ble_eq_true rfl) (Nat.le_of_ble_eq_true rfl) dL_loads_349 (zSpA_to (sL_feeds hM) hN) (fun r h108 hq => ?_) (fun x h9 hq => hq.elim)
      obtain ⟨z107, rfl, hM⟩ := hq
      refine zV_callV (as := [aI z107]) (st := []) O zc_X7_load (Or.inl zl_RL_75) zi_467 zi_468 zt_169 rfl rfl (by decide) (Nat.le_of_ble_eq_true rfl) rfl rfl (Nat.le_of_ble_eq_true rfl) (Nat.le_of_ble_eq_true rfl) (Nat.le_of_ble_eq_true rfl) (Nat.le_of_ble_eq_true rfl) (Nat.le_of_ble_eq_true rfl) (Nat.le_of_ble_eq_true rfl) dL_loads_352 (sX7_load hM) (fun r h110 hq => ?_) (fun x h9 hq => hq.elim)
      obtain ⟨z109, rfl, hM⟩ := hq
      refine zV_iload O dL_loads_355 rfl ?_
      refine zV_icmp_ne (tgt := 417) O dL_loads_357 (by decide) (fun hc => ?_) (fun hc => ?_)
      · replace hM := hM.1 hc
        refine zV_iconst (z := 0) O ⟨by omega, by omega⟩ dL_loads_417 ?_
        exact zV_zret O rfl (Or.inl rfl) ⟨_, rfl, (Or.inl rfl), hM⟩ (Nat.le_of_ble_eq_true rfl) (Nat.le_of_ble_eq_true rfl) dL_loads_418
      · replace hM := hM.2 hc
        refine zV_aload_n O dL_loads_360 rfl rfl ?_
        refine zV_callV (as := []) (st := []) O zc_X7_errorPosition (Or.inl zl_RL_79) zi_686 zi_687 zt_169 rfl rfl (by decide) (Nat.le_of_ble_eq_true rfl) rfl rfl (Nat.le_of_ble_eq_true rfl) (Nat.le_of_ble_eq_true rfl) (Nat.le_of_ble_eq_true rfl) (Nat.le_of_ble_eq_true rfl) (Nat.le_of_ble_eq_true rfl) (Nat.le_of_ble_eq_true rfl) dL_loads_361 (sX7_errorPosition hM) (fun r h9 hq => ?_) (fun x h9 hq => hq.elim)
        obtain ⟨rfl, z111, rfl, hM⟩ := hq
        refine zV_iconst (z := -1) O ⟨by omega, by omega⟩ dL_loads_364 ?_
        refine zV_icmp_ne (tgt := 417) O dL_loads_365 (by decide) (fun hc => ?_) (fun hc => ?_)
        · replace hM := hM.1 hc
          refine zV_iconst (z := 0) O ⟨by omega, by omega⟩ dL_loads_417 ?_
          exact zV_zret O rfl (Or.inl rfl) ⟨_, rfl, (Or.inl rfl), hM⟩ (Nat.le_of_ble_eq_true rfl) (Nat.le_of_ble_eq_true rfl) dL_loads_418
        · replace hM := hM.2 hc
          refine zV_aload_n O dL_loads_368 rfl rfl ?_
          refine zV_iconst (z := 0) O ⟨by omega, by omega⟩ dL_loads_369 ?_
          refine zV_callV (as := [aI 0]) (st := []) O zc_X7_size (Or.inl zl_RL_82) zi_690 zi_691 zt_169 rfl rfl (by decide) (Nat.le_of_ble_eq_true rfl) rfl rfl (Nat.le_of_ble_eq_true rfl) (Nat.le_of_ble_eq_true rfl) (Nat.le_of_ble_eq_true rfl) (Nat.le_of_ble_eq_true rfl) (Nat.le_of_ble_eq_true rfl) (Nat.le_of_ble_eq_true rfl) dL_loads_370 (sX7_size hM) (fun r h113 hq => ?_) (fun x h9 hq => hq.elim)
          obtain ⟨z112, rfl, hM⟩ := hq
          refine zV_iload O dL_loads_373 rfl ?_
          refine zV_icmp_ne (tgt := 417) O dL_loads_375 (by decide) (fun hc => ?_) (fun hc => ?_)
          · replace hM := hM.1 hc
            refine zV_iconst (z := 0) O ⟨by omega, by omega⟩ dL_loads_417 ?_
            exact zV_zret O rfl (Or.inl rfl) ⟨_, rfl, (Or.inl rfl), hM⟩ (Nat.le_of_ble_eq_true rfl) (Nat.le_of_ble_eq_true rfl) dL_loads_418
          · replace hM := hM.2 hc
            refine zV_aload_n O dL_loads_378 rfl rfl ?_
            refine zV_iconst (z := 1) O ⟨by omega, by omega⟩ dL_loads_379 ?_
            refine zV_callV (as := [aI 1]) (st := []) O zc_X7_size (Or.inl zl_RL_82) zi_690 zi_691 zt_169 rfl rfl (by decide) (Nat.le_of_ble_eq_true rfl) rfl rfl (Nat.le_of_ble_eq_true rfl) (Nat.le_of_ble_eq_true rfl) (Nat.le_of_ble_eq_true rfl) (Nat.le_of_ble_eq_true rfl) (Nat.le_of_ble_eq_true rfl) (Nat.le_of_ble_eq_true rfl) dL_loads_380 (sX7_size hM) (fun r h115 hq => ?_) (fun x h9 hq => hq.elim)
            obtain ⟨z114, rfl, hM⟩ := hq
            refine zV_iload O dL_loads_383 rfl ?_
            refine zV_icmp_ne (tgt := 417) O dL_loads_385 (by decide) (fun hc => ?_) (fun hc => ?_)
            · replace hM := hM.1 hc
              refine zV_iconst (z := 0) O ⟨by omega, by omega⟩ dL_loads_417 ?_
              exact zV_zret O rfl (Or.inl rfl) ⟨_, rfl, (Or.inl rfl), hM⟩ (Nat.le_of_ble_eq_true rfl) (Nat.le_of_ble_eq_true rfl) dL_loads_418
            · replace hM := hM.2 hc
              refine zV_aload_n O dL_loads_388 rfl rfl ?_
              refine zV_iconst (z := 2) O ⟨by omega, by omega⟩ dL_loads_389 ?_
              refine zV_callV (as := [aI 2]) (st := []) O zc_X7_size (Or.inl zl_RL_82) zi_690 zi_691 zt_169 rfl rfl (by decide) (Nat.le_of_ble_eq_true rfl) rfl rfl (Nat.le_of_ble_eq_true rfl) (Nat.le_of_ble_eq_true rfl) (Nat.le_of_ble_eq_true rfl) (Nat.le_of_ble_eq_true rfl) (Nat.le_of_ble_eq_true rfl) (Nat.le_of_ble_eq_true rfl) dL_loads_390 (sX7_size hM) (fun r h117 hq => ?_) (fun x h9 hq => hq.elim)
              obtain ⟨z116, rfl, hM⟩ := hq
              refine zV_if_ne (tgt := 417) O dL_loads_393 (by decide) (fun hc => ?_) (fun hc => ?_)
              · replace hM := hM.1 hc
                refine zV_iconst (z := 0) O ⟨by omega, by omega⟩ dL_loads_417 ?_
                exact zV_zret O rfl (Or.inl rfl) ⟨_, rfl, (Or.inl rfl), hM⟩ (Nat.le_of_ble_eq_true rfl) (Nat.le_of_ble_eq_true rfl) dL_loads_418
              · replace hM := hM.2 hc
                refine zV_aload_n O dL_loads_396 rfl rfl ?_
                refine zV_iconst (z := 3) O ⟨by omega, by omega⟩ dL_loads_397 ?_
                refine zV_callV (as := [aI 3]) (st := []) O zc_X7_size (Or.inl zl_RL_82) zi_690 zi_691 zt_169 rfl rfl (by decide) (Nat.le_of_ble_eq_true rfl) rfl rfl (Nat.le_of_ble_eq_true rfl) (Nat.le_of_ble_eq_true rfl) (Nat.le_of_ble_eq_true rfl) (Nat.le_of_ble_eq_true rfl) (Nat.le_of_ble_eq_true rfl) (Nat.le_of_ble_eq_true rfl) dL_loads_398 (sX7_size hM) (fun r h119 hq => ?_) (fun x h9 hq => hq.elim)
                obtain ⟨z118, rfl, hM⟩ := hq
                refine zV_if_ne (tgt := 417) O dL_loads_401 (by decide) (fun hc => ?_) (fun hc => ?_)
                · replace hM := hM.1 hc
                  refine zV_iconst (z := 0) O ⟨by omega, by omega⟩ dL_loads_417 ?_
                  exact zV_zret O rfl (Or.inl rfl) ⟨_, rfl, (Or.inl rfl), hM⟩ (Nat.le_of_ble_eq_true rfl) (Nat.le_of_ble_eq_true rfl) dL_loads_418
                · replace hM := hM.2 hc
                  refine zV_aload_n O dL_loads_404 rfl rfl ?_
                  refine zV_bipush (z := 8) O ⟨by omega, by omega⟩ rfl dL_loads_405 ?_
                  refine zV_callV (as := [aI 8]) (st := []) O zc_X7_size (Or.inl zl_RL_82) zi_690 zi_691 zt_169 rfl rfl (by decide) (Nat.le_of_ble_eq_true rfl) rfl rfl (Nat.le_of_ble_eq_true rfl) (Nat.le_of_ble_eq_true rfl) (Nat.le_of_ble_eq_true rfl) (Nat.le_of_ble_eq_true rfl) (Nat.le_of_ble_eq_true rfl) (Nat.le_of_ble_eq_true rfl) dL_loads_407 (sX7_size hM) (fun r h121 hq => ?_) (fun x h9 hq => hq.elim)
                  obtain ⟨z120, rfl, hM⟩ := hq
                  refine zV_if_ne (tgt := 417) O dL_loads_410 (by decide) (fun hc => ?_) (fun hc => ?_)
                  · replace hM := hM.1 hc
                    refine zV_iconst (z := 0) O ⟨by omega, by omega⟩ dL_loads_417 ?_
                    exact zV_zret O rfl (Or.inl rfl) ⟨_, rfl, (Or.inl rfl), hM⟩ (Nat.le_of_ble_eq_true rfl) (Nat.le_of_ble_eq_true rfl) dL_loads_418
                  · replace hM := hM.2 hc
                    refine zV_iconst (z := 1) O ⟨by omega, by omega⟩ dL_loads_413 ?_
                    refine zV_goto (tgt := 418) O dL_loads_414 (by decide) ?_
                    exact zV_zret O rfl (Or.inr rfl) ⟨_, rfl, (Or.inr rfl), hM⟩ (Nat.le_of_ble_eq_true rfl) (Nat.le_of_ble_eq_true rfl) dL_loads_418
    · replace hM := hM.2 hc
      refine zV_aload_n O dL_loads_233 rfl rfl ?_
      refine zV_bipush (z := 11) O ⟨by omega, by omega⟩ rfl dL_loads_234 ?_
      refine zV_iload O dL_loads_236 rfl ?_
      obtain ⟨hc, hM⟩ := hM
      refine zV_iadd O dL_loads_238 hc ?_
      refine zV_callS (as := [aR 999, aI (11 + v7)]) (st := []) O zc_L_cell (Or.inl zl_RL_40) zi_380 (Nat.le_of_ble_eq_true rfl) rfl rfl (Nat.le_of_ble_eq_true rfl) (Nat.le_of_ble_eq_true rfl) (Nat.le_of_ble_eq_true rfl) (Nat.le_of_ble_eq_true rfl) (Nat.le_of_ble_eq_true rfl) (Nat.le_of_ble_eq_true rfl) dL_loads_239 (sL_cell hM) (fun r h9 hq => ?_) (fun x h9 hq => hq.elim)
      obtain ⟨rfl, z122, rfl, hM⟩ := hq
      refine zV_istore O dL_loads_242 (Nat.le_of_ble_eq_true rfl) rfl ?_
      refine zV_aload_n O dL_loads_244 rfl rfl ?_
      refine zV_ldcS (w := 18) O ⟨by decide, rfl, rfl⟩ dL_loads_245 ?_
      refine zV_callV (as := [aR (1000 + 18)]) (st := []) O zc_L_writes (Or.inl zl_RL_29) zi_386 zi_2 zt_185 rfl rfl (by decide) (Nat.le_of_ble_eq_true rfl) rfl rfl (Nat.le_of_ble_eq_true rfl) (Nat.le_of_ble_eq_true rfl) (Nat.le_of_ble_eq_true rfl) (Nat.le_of_ble_eq_true rfl) (Nat.le_of_ble_eq_true rfl) (Nat.le_of_ble_eq_true rfl) dL_loads_247 (sL_writes (by decide : 18 < zSN) hM) (fun r h123 hq => ?_) (fun x h9 hq => hq.elim)
      obtain ⟨rfl, hM⟩ := hq
      refine zV_aload_n O dL_loads_250 rfl rfl ?_
      refine zV_iload O dL_loads_251 rfl ?_
      refine zV_iconst (z := 2) O ⟨by omega, by omega⟩ dL_loads_253 ?_
      obtain ⟨hc, hM⟩ := hM
      refine zV_irem O dL_loads_254 hc ?_
      refine zV_callV (as := [aI (z122 % 2)]) (st := []) O zc_L_spaced (Or.inl zl_RL_46) zi_438 zi_3 zt_185 rfl rfl (by decide) (Nat.le_of_ble_eq_true rfl) rfl rfl (Nat.le_of_ble_eq_true rfl) (Nat.le_of_ble_eq_true rfl) (Nat.le_of_ble_eq_true rfl) (Nat.le_of_ble_eq_true rfl) (Nat.le_of_ble_eq_true rfl) (Nat.le_of_ble_eq_true rfl) dL_loads_255 (sL_spaced hM) (fun r h124 hq => ?_) (fun x h9 hq => hq.elim)
      obtain ⟨rfl, hM⟩ := hq
      refine zV_aload_n O dL_loads_258 rfl rfl ?_
      refine zV_iload O dL_loads_259 rfl ?_
      refine zV_iconst (z := 2) O ⟨by omega, by omega⟩ dL_loads_261 ?_
      obtain ⟨hc, hM⟩ := hM
      refine zV_idiv O dL_loads_262 hc ?_
      refine zV_iconst (z := 3) O ⟨by omega, by omega⟩ dL_loads_263 ?_
      obtain ⟨hc, hM⟩ := hM
      refine zV_irem O dL_loads_264 hc ?_
      refine zV_if_le (tgt := 273) O dL_loads_265 (by decide) (fun hc => ?_) (fun hc => ?_)
      · replace hM := hM.1 hc
        refine zV_ldcS (w := 20) O ⟨by decide, rfl, rfl⟩ dL_loads_273 ?_
        exact sL_loads_b275 O hN hK226 (by decide : 20 < zSN) hM
      · replace hM := hM.2 hc
        refine zV_ldcS (w := 19) O ⟨by decide, rfl, rfl⟩ dL_loads_268 ?_
        refine zV_goto (tgt := 275) O dL_loads_270 (by decide) ?_
        exact sL_loads_b275 O hN hK226 (by decide : 19 < zSN) hM
def mL_loads_b204 (Q : Int → Hp → Prop) (K98 : Int → Int → Int → Hp → Prop) (v3 : Int) (v4 : Int) (v6 : Int) (s0 : Nat) (h : Hp) : Prop := (mL_writes s0 h (fun h125 => (zr (v6 + 1) ∧ (K98 v3 v4 (v6 + 1) h125))))
set_option maxHeartbeats 4000000 in
set_option maxRecDepth 100000 in
theorem sL_loads_b204 {l0 : Launch} {a : ZC}  {Q : Int → Hp → Prop} {K98 : Int → Int → Int → Hp → Prop} (O : zOk l0 a cL_loads RL 11 (some .boolean) 188 []) (hN : a.2.2.2 = 188)  (hK98 : ∀ (v3 : Int) (v4 : Int) (v6 : Int) (h : Hp), K98 v3 v4 v6 h → zV a (10, 26, 185, (qZ Q), xN) 1 60 98 [some (aR 185), some (aR 169), some (aR 999), some (aI v3), some (aI v4), some (aR 187), some (aI v6), none, none, none, none] [] h) {v3 : Int} {v4 : Int} {v6 : Int} {s0 : Nat} {h : Hp} (hws0 : s0 < zSN) (hM : mL_loads_b204 Q K98 v3 v4 v6 s0 h) : zV a (10, 26, 185, (qZ Q), xN) 1 60 204 [some (aR 185), some (aR 169), some (aR 999), some (aI v3), some (aI v4), some (aR 187), some (aI v6), none, none, none, none] [aR (1000 + s0), aR 185] h := by
  unfold mL_loads_b204 at hM
  refine zV_callV (as := [aR (1000 + s0)]) (st := []) O zc_L_writes (Or.inl zl_RL_29) zi_386 zi_2 zt_185 rfl rfl (by decide) (Nat.le_of_ble_eq_true rfl) rfl rfl (Nat.le_of_ble_eq_true rfl) (Nat.le_of_ble_eq_true rfl) (Nat.le_of_ble_eq_true rfl) (Nat.le_of_ble_eq_true rfl) (Nat.le_of_ble_eq_true rfl) (Nat.le_of_ble_eq_true rfl) dL_loads_204 (sL_writes hws0 hM) (fun r h125 hq => ?_) (fun x h9 hq => hq.elim)
  obtain ⟨rfl, hM⟩ := hq
  obtain ⟨hc, hM⟩ := hM
  refine zV_iinc O dL_loads_207 rfl (Nat.le_of_ble_eq_true rfl) rfl hc ?_
  refine zV_goto (tgt := 98) O dL_loads_210 (by decide) ?_
  exact hK98 _ _ _ _ hM
def mL_loads_b130 (Q : Int → Hp → Prop) (K98 : Int → Int → Int → Hp → Prop) : Nat → Int → Int → Int → Int → Int → Int → Hp → Prop
  | 0 => fun _ _ _ _ _ _ _ => False
  | fu130 + 1 => fun v3 v4 v6 v7 v8 v9 h => (zr (2 * v9) ∧ (zr ((2 * v9) + v8) ∧ (zgk 4 h 187 ((2 * v9) + v8) ∧ (((rd h 187 ((2 * v9) + v8)) = 0 → (zr (2 * v9) ∧ (zr ((2 * v9) + v8) ∧ (zgk 4 h 187 ((2 * v9) + v8) ∧ (∀ h126 : Hp, h126 = wr h 187 ((2 * v9) + v8) 1 → (mL_writes 16 h126 (fun h127 => (mL_letter v6 h127 (fun h128 => (mL_spaced v8 h128 (fun h129 => (zr (v9 + 1) ∧ (mL_spaced (v9 + 1) h129 (fun h130 => (((0 : Int) ≤ v7 ∧ (0 : Int) < 64) ∧ (((0 : Int) ≤ (v7 / 64) ∧ (0 : Int) < 5) ∧ ((¬ ((v7 / 64) % 5) = 0 → (mL_loads_b204 Q K98 v3 v4 v6 15 h130)) ∧ (((v7 / 64) % 5) = 0 → (mL_loads_b204 Q K98 v3 v4 v6 17 h130))))))))))))))))))) ∧ (¬ (rd h 187 ((2 * v9) + v8)) = 0 → (zr (v9 + 1) ∧ ((mL_loads_b130 Q K98 fu130) v3 v4 v6 v7 v8 (v9 + 1) h)))))))
set_option maxHeartbeats 4000000 in
set_option maxRecDepth 100000 in
theorem sL_loads_b130 {l0 : Launch} {a : ZC}  {Q : Int → Hp → Prop} {K98 : Int → Int → Int → Hp → Prop} (O : zOk l0 a cL_loads RL 11 (some .boolean) 188 []) (hN : a.2.2.2 = 188)  (hK98 : ∀ (v3 : Int) (v4 : Int) (v6 : Int) (h : Hp), K98 v3 v4 v6 h → zV a (10, 26, 185, (qZ Q), xN) 1 60 98 [some (aR 185), some (aR 169), some (aR 999), some (aI v3), some (aI v4), some (aR 187), some (aI v6), none, none, none, none] [] h) : ∀ (ff : Nat) (v3 : Int) (v4 : Int) (v6 : Int) (v7 : Int) (v8 : Int) (v9 : Int) (h : Hp), mL_loads_b130 Q K98 ff v3 v4 v6 v7 v8 v9 h → zV a (10, 26, 185, (qZ Q), xN) 1 60 130 [some (aR 185), some (aR 169), some (aR 999), some (aI v3), some (aI v4), some (aR 187), some (aI v6), some (aI v7), some (aI v8), some (aI v9), none] [] h := by
  intro ff
  induction ff with
  | zero => intro v3 v4 v6 v7 v8 v9 h hM; exact hM.elim
  | succ ff ih =>
    have hK130 := ih
    intro v3 v4 v6 v7 v8 v9 h hM
    unfold mL_loads_b130 at hM
    refine zV_aload O dL_loads_130 rfl ?_
    refine zV_iconst (z := 2) O ⟨by omega, by omega⟩ dL_loads_132 ?_
    refine zV_iload O dL_loads_133 rfl ?_
    obtain ⟨hc, hM⟩ := hM
    refine zV_imul O dL_loads_135 hc ?_
    refine zV_iload O dL_loads_136 rfl ?_
    obtain ⟨hc, hM⟩ := hM
    refine zV_iadd O dL_loads_138 hc ?_
    obtain ⟨hc, hM⟩ := hM
    refine zV_zaldG O rfl (by decide) hc dL_loads_139 ?_
    refine zV_if_eq (tgt := 149) O dL_loads_140 (by decide) (fun hc => ?_) (fun hc => ?_)
    · replace hM := hM.1 hc
      refine zV_aload O dL_loads_149 rfl ?_
      refine zV_iconst (z := 2) O ⟨by omega, by omega⟩ dL_loads_151 ?_
      refine zV_iload O dL_loads_152 rfl ?_
      obtain ⟨hc, hM⟩ := hM
      refine zV_imul O dL_loads_154 hc ?_
      refine zV_iload O dL_loads_155 rfl ?_
      obtain ⟨hc, hM⟩ := hM
      refine zV_iadd O dL_loads_157 hc ?_
      refine zV_iconst (z := 1) O ⟨by omega, by omega⟩ dL_loads_158 ?_
      obtain ⟨hc, hM⟩ := hM
      refine zV_zastG O rfl (by decide) hc (Or.inr rfl) dL_loads_159 ?_
      have hM := hM (hu h 187 (Int.toNat ((2 * v9) + v8)) 1) rfl
      generalize hu h 187 (Int.toNat ((2 * v9) + v8)) 1 = h126 at hM ⊢
      refine zV_aload_n O dL_loads_160 rfl rfl ?_
      refine zV_ldcS (w := 16) O ⟨by decide, rfl, rfl⟩ dL_loads_161 ?_
      refine zV_callV (as := [aR (1000 + 16)]) (st := []) O zc_L_writes (Or.inl zl_RL_29) zi_386 zi_2 zt_185 rfl rfl (by decide) (Nat.le_of_ble_eq_true rfl) rfl rfl (Nat.le_of_ble_eq_true rfl) (Nat.le_of_ble_eq_true rfl) (Nat.le_of_ble_eq_true rfl) (Nat.le_of_ble_eq_true rfl) (Nat.le_of_ble_eq_true rfl) (Nat.le_of_ble_eq_true rfl) dL_loads_163 (sL_writes (by decide : 16 < zSN) hM) (fun r h127 hq => ?_) (fun x h9 hq => hq.elim)
      obtain ⟨rfl, hM⟩ := hq
      refine zV_aload_n O dL_loads_166 rfl rfl ?_
      refine zV_iload O dL_loads_167 rfl ?_
      refine zV_callV (as := [aI v6]) (st := []) O zc_L_letter (Or.inl zl_RL_58) zi_447 zi_4 zt_185 rfl rfl (by decide) (Nat.le_of_ble_eq_true rfl) rfl rfl (Nat.le_of_ble_eq_true rfl) (Nat.le_of_ble_eq_true rfl) (Nat.le_of_ble_eq_true rfl) (Nat.le_of_ble_eq_true rfl) (Nat.le_of_ble_eq_true rfl) (Nat.le_of_ble_eq_true rfl) dL_loads_169 (sL_letter hM) (fun r h128 hq => ?_) (fun x h9 hq => hq.elim)
      obtain ⟨rfl, hM⟩ := hq
      refine zV_aload_n O dL_loads_172 rfl rfl ?_
      refine zV_iload O dL_loads_173 rfl ?_
      refine zV_callV (as := [aI v8]) (st := []) O zc_L_spaced (Or.inl zl_RL_46) zi_438 zi_3 zt_185 rfl rfl (by decide) (Nat.le_of_ble_eq_true rfl) rfl rfl (Nat.le_of_ble_eq_true rfl) (Nat.le_of_ble_eq_true rfl) (Nat.le_of_ble_eq_true rfl) (Nat.le_of_ble_eq_true rfl) (Nat.le_of_ble_eq_true rfl) (Nat.le_of_ble_eq_true rfl) dL_loads_175 (sL_spaced hM) (fun r h129 hq => ?_) (fun x h9 hq => hq.elim)
      obtain ⟨rfl, hM⟩ := hq
      refine zV_aload_n O dL_loads_178 rfl rfl ?_
      refine zV_iload O dL_loads_179 rfl ?_
      refine zV_iconst (z := 1) O ⟨by omega, by omega⟩ dL_loads_181 ?_
      obtain ⟨hc, hM⟩ := hM
      refine zV_iadd O dL_loads_182 hc ?_
      refine zV_callV (as := [aI (v9 + 1)]) (st := []) O zc_L_spaced (Or.inl zl_RL_46) zi_438 zi_3 zt_185 rfl rfl (by decide) (Nat.le_of_ble_eq_true rfl) rfl rfl (Nat.le_of_ble_eq_true rfl) (Nat.le_of_ble_eq_true rfl) (Nat.le_of_ble_eq_true rfl) (Nat.le_of_ble_eq_true rfl) (Nat.le_of_ble_eq_true rfl) (Nat.le_of_ble_eq_true rfl) dL_loads_183 (sL_spaced hM) (fun r h130 hq => ?_) (fun x h9 hq => hq.elim)
      obtain ⟨rfl, hM⟩ := hq
      refine zV_aload_n O dL_loads_186 rfl rfl ?_
      refine zV_iload O dL_loads_187 rfl ?_
      refine zV_bipush (z := 64) O ⟨by omega, by omega⟩ rfl dL_loads_189 ?_
      obtain ⟨hc, hM⟩ := hM
      refine zV_idiv O dL_loads_191 hc ?_
      refine zV_iconst (z := 5) O ⟨by omega, by omega⟩ dL_loads_192 ?_
      obtain ⟨hc, hM⟩ := hM
      refine zV_irem O dL_loads_193 hc ?_
      refine zV_if_ne (tgt := 202) O dL_loads_194 (by decide) (fun hc => ?_) (fun hc => ?_)
      · replace hM := hM.1 hc
        refine zV_ldcS (w := 15) O ⟨by decide, rfl, rfl⟩ dL_loads_202 ?_
        refine zV_sub (ls2 := [some (aR 185), some (aR 169), some (aR 999), some (aI v3), some (aI v4), some (aR 187), some (aI v6), none, none, none, none]) ⟨rfl, rfl, rfl, rfl, rfl, rfl, rfl, trivial⟩ ?_
        exact sL_loads_b204 O hN hK98 (by decide : 15 < zSN) hM
      · replace hM := hM.2 hc
        refine zV_ldcS (w := 17) O ⟨by decide, rfl, rfl⟩ dL_loads_197 ?_
        refine zV_goto (tgt := 204) O dL_loads_199 (by decide) ?_
        refine zV_sub (ls2 := [some (aR 185), some (aR 169), some (aR 999), some (aI v3), some (aI v4), some (aR 187), some (aI v6), none, none, none, none]) ⟨rfl, rfl, rfl, rfl, rfl, rfl, rfl, trivial⟩ ?_
        exact sL_loads_b204 O hN hK98 (by decide : 17 < zSN) hM
    · replace hM := hM.2 hc
      obtain ⟨hc, hM⟩ := hM
      refine zV_iinc O dL_loads_143 rfl (Nat.le_of_ble_eq_true rfl) rfl hc ?_
      refine zV_goto (tgt := 130) O dL_loads_146 (by decide) ?_
      exact hK130 _ _ _ _ _ _ _ hM
def mL_loads_b98 (Q : Int → Hp → Prop) : Nat → Int → Int → Int → Hp → Prop
  | 0 => fun _ _ _ _ => False
  | fu98 + 1 => fun v3 v4 v6 h => ((v4 ≤ v6 → (((0 : Int) ≤ v3 ∧ (0 : Int) < 20000) ∧ (((0 : Int) ≤ (v3 / 20000) ∧ (0 : Int) < 7) ∧ (∃ ff, mL_loads_b226 Q ff v4 ((v3 / 20000) % 7) 0 h)))) ∧ (¬ v4 ≤ v6 → (zr (1 + v6) ∧ (mL_cell (1 + v6) h (fun z131 => (((0 : Int) ≤ z131 ∧ (0 : Int) < 2) ∧ (((0 : Int) ≤ z131 ∧ (0 : Int) < 2) ∧ (((0 : Int) ≤ (z131 / 2) ∧ (0 : Int) < 15) ∧ (∃ ff, mL_loads_b130 Q (mL_loads_b98 Q fu98) ff v3 v4 v6 z131 (z131 % 2) ((z131 / 2) % 15) h)))))))))
set_option maxHeartbeats 4000000 in
set_option maxRecDepth 100000 in
theorem sL_loads_b98 {l0 : Launch} {a : ZC}  {Q : Int → Hp → Prop}  (O : zOk l0 a cL_loads RL 11 (some .boolean) 188 []) (hN : a.2.2.2 = 188)   : ∀ (ff : Nat) (v3 : Int) (v4 : Int) (v6 : Int) (h : Hp), mL_loads_b98 Q ff v3 v4 v6 h → zV a (10, 26, 185, (qZ Q), xN) 1 60 98 [some (aR 185), some (aR 169), some (aR 999), some (aI v3), some (aI v4), some (aR 187), some (aI v6), none, none, none, none] [] h := by
  intro ff
  induction ff with
  | zero => intro v3 v4 v6 h hM; exact hM.elim
  | succ ff ih =>
    have hK98 := ih
    intro v3 v4 v6 h hM
    unfold mL_loads_b98 at hM
    refine zV_iload O dL_loads_98 rfl ?_
    refine zV_iload O dL_loads_100 rfl ?_
    refine zV_icmp_ge (tgt := 213) O dL_loads_102 (by decide) (fun hc => ?_) (fun hc => ?_)
    · replace hM := hM.1 hc
      refine zV_iload_n O dL_loads_213 rfl rfl ?_
      refine zV_sipush (z := 20000) O ⟨by omega, by omega⟩ rfl dL_loads_214 ?_
      obtain ⟨hc, hM⟩ := hM
      refine zV_idiv O dL_loads_217 hc ?_
      refine zV_bipush (z := 7) O ⟨by omega, by omega⟩ rfl dL_loads_218 ?_
      obtain ⟨hc, hM⟩ := hM
      refine zV_irem O dL_loads_220 hc ?_
      refine zV_istore O dL_loads_221 (Nat.le_of_ble_eq_true rfl) rfl ?_
      refine zV_iconst (z := 0) O ⟨by omega, by omega⟩ dL_loads_223 ?_
      refine zV_istore O dL_loads_224 (Nat.le_of_ble_eq_true rfl) rfl ?_
      refine zV_sub (ls2 := [some (aR 185), some (aR 169), some (aR 999), none, some (aI v4), none, some (aI ((v3 / 20000) % 7)), some (aI 0), none, none, none]) ⟨rfl, rfl, rfl, rfl, rfl, rfl, trivial⟩ ?_
      obtain ⟨ff, hM⟩ := hM
      exact sL_loads_b226 O hN ff _ _ _ _ hM
    · replace hM := hM.2 hc
      refine zV_aload_n O dL_loads_105 rfl rfl ?_
      refine zV_iconst (z := 1) O ⟨by omega, by omega⟩ dL_loads_106 ?_
      refine zV_iload O dL_loads_107 rfl ?_
      obtain ⟨hc, hM⟩ := hM
      refine zV_iadd O dL_loads_109 hc ?_
      refine zV_callS (as := [aR 999, aI (1 + v6)]) (st := []) O zc_L_cell (Or.inl zl_RL_40) zi_380 (Nat.le_of_ble_eq_true rfl) rfl rfl (Nat.le_of_ble_eq_true rfl) (Nat.le_of_ble_eq_true rfl) (Nat.le_of_ble_eq_true rfl) (Nat.le_of_ble_eq_true rfl) (Nat.le_of_ble_eq_true rfl) (Nat.le_of_ble_eq_true rfl) dL_loads_110 (sL_cell hM) (fun r h9 hq => ?_) (fun x h9 hq => hq.elim)
      obtain ⟨rfl, z131, rfl, hM⟩ := hq
      refine zV_istore O dL_loads_113 (Nat.le_of_ble_eq_true rfl) rfl ?_
      refine zV_iload O dL_loads_115 rfl ?_
      refine zV_iconst (z := 2) O ⟨by omega, by omega⟩ dL_loads_117 ?_
      obtain ⟨hc, hM⟩ := hM
      refine zV_irem O dL_loads_118 hc ?_
      refine zV_istore O dL_loads_119 (Nat.le_of_ble_eq_true rfl) rfl ?_
      refine zV_iload O dL_loads_121 rfl ?_
      refine zV_iconst (z := 2) O ⟨by omega, by omega⟩ dL_loads_123 ?_
      obtain ⟨hc, hM⟩ := hM
      refine zV_idiv O dL_loads_124 hc ?_
      refine zV_bipush (z := 15) O ⟨by omega, by omega⟩ rfl dL_loads_125 ?_
      obtain ⟨hc, hM⟩ := hM
      refine zV_irem O dL_loads_127 hc ?_
      refine zV_istore O dL_loads_128 (Nat.le_of_ble_eq_true rfl) rfl ?_
      obtain ⟨ff, hM⟩ := hM
      exact sL_loads_b130 O hN hK98 ff _ _ _ _ _ _ _ hM
def mL_loads  (h : Hp) (Q : Int → Hp → Prop) : Prop := (mL_cell 0 h (fun z132 => (mL_writes 12 h (fun h133 => (((0 : Int) ≤ z132 ∧ (0 : Int) < 4) ∧ (mL_spaced (z132 % 4) h133 (fun h134 => (mL_writes 13 h134 (fun h135 => (((0 : Int) ≤ z132 ∧ (0 : Int) < 4) ∧ (((0 : Int) ≤ (z132 / 4) ∧ (0 : Int) < 4) ∧ (zr (1 + ((z132 / 4) % 4)) ∧ (mL_spaced (1 + ((z132 / 4) % 4)) h135 (fun h136 => (mL_writes 14 h136 (fun h137 => (((0 : Int) ≤ z132 ∧ (0 : Int) < 16) ∧ (((0 : Int) ≤ (z132 / 16) ∧ (0 : Int) < 8) ∧ (zr (8 + ((z132 / 16) % 8)) ∧ (mL_spaced (8 + ((z132 / 16) % 8)) h137 (fun h138 => (((0 : Int) ≤ z132 ∧ (0 : Int) < 128) ∧ (((0 : Int) ≤ (z132 / 128) ∧ (0 : Int) < 10) ∧ (zr (16 + ((z132 / 128) % 10)) ∧ (mL_spaced (16 + ((z132 / 128) % 10)) h138 (fun h139 => (mL_writes 15 h139 (fun h140 => (((0 : Int) ≤ z132 ∧ (0 : Int) < 1280) ∧ (((0 : Int) ≤ (z132 / 1280) ∧ (0 : Int) < 9) ∧ (zr (2 + ((z132 / 1280) % 9)) ∧ (((0 : Int) ≤ 60 ∧ (60 : Int) ≤ 60) ∧ (∀ h141 : Hp, h141 = hnw h140 187 4 60 → (∃ ff, mL_loads_b98 Q ff z132 (2 + ((z132 / 1280) % 9)) 0 h141))))))))))))))))))))))))))))))))))
set_option maxHeartbeats 4000000 in
set_option maxRecDepth 100000 in
theorem sL_loads {l0 : Launch}  {h : Hp} {Q : Int → Hp → Prop}  (hM : mL_loads  h Q) : zSpA l0 yL_loads cL_loads 11 (some .boolean) (10) 26 185 [aR 185, aR 169, aR 999] h (qZ Q) xN 187 := by
  unfold mL_loads at hM
  refine zSpA_intro zpn_RL (Nat.le_of_ble_eq_true rfl) (fun a O hN => ?_)
  show zV a (10, 26, 185, (qZ Q), xN) 0 0 0 [some (aR 185), some (aR 169), some (aR 999), none, none, none, none, none, none, none, none] [] h
  refine zV_aload_n O dL_loads_0 rfl rfl ?_
  refine zV_iconst (z := 0) O ⟨by omega, by omega⟩ dL_loads_1 ?_
  refine zV_callS (as := [aR 999, aI 0]) (st := []) O zc_L_cell (Or.inl zl_RL_40) zi_380 (Nat.le_of_ble_eq_true rfl) rfl rfl (Nat.le_of_ble_eq_true rfl) (Nat.le_of_ble_eq_true rfl) (Nat.le_of_ble_eq_true rfl) (Nat.le_of_ble_eq_true rfl) (Nat.le_of_ble_eq_true rfl) (Nat.le_of_ble_eq_true rfl) dL_loads_2 (sL_cell hM) (fun r h9 hq => ?_) (fun x h9 hq => hq.elim)
  obtain ⟨rfl, z132, rfl, hM⟩ := hq
  refine zV_istore_n O dL_loads_5 rfl (Nat.le_of_ble_eq_true rfl) rfl ?_
  refine zV_aload_n O dL_loads_6 rfl rfl ?_
  refine zV_ldcS (w := 12) O ⟨by decide, rfl, rfl⟩ dL_loads_7 ?_
  refine zV_callV (as := [aR (1000 + 12)]) (st := []) O zc_L_writes (Or.inl zl_RL_29) zi_386 zi_2 zt_185 rfl rfl (by decide) (Nat.le_of_ble_eq_true rfl) rfl rfl (Nat.le_of_ble_eq_true rfl) (Nat.le_of_ble_eq_true rfl) (Nat.le_of_ble_eq_true rfl) (Nat.le_of_ble_eq_true rfl) (Nat.le_of_ble_eq_true rfl) (Nat.le_of_ble_eq_true rfl) dL_loads_9 (sL_writes (by decide : 12 < zSN) hM) (fun r h133 hq => ?_) (fun x h9 hq => hq.elim)
  obtain ⟨rfl, hM⟩ := hq
  refine zV_aload_n O dL_loads_12 rfl rfl ?_
  refine zV_iload_n O dL_loads_13 rfl rfl ?_
  refine zV_iconst (z := 4) O ⟨by omega, by omega⟩ dL_loads_14 ?_
  obtain ⟨hc, hM⟩ := hM
  refine zV_irem O dL_loads_15 hc ?_
  refine zV_callV (as := [aI (z132 % 4)]) (st := []) O zc_L_spaced (Or.inl zl_RL_46) zi_438 zi_3 zt_185 rfl rfl (by decide) (Nat.le_of_ble_eq_true rfl) rfl rfl (Nat.le_of_ble_eq_true rfl) (Nat.le_of_ble_eq_true rfl) (Nat.le_of_ble_eq_true rfl) (Nat.le_of_ble_eq_true rfl) (Nat.le_of_ble_eq_true rfl) (Nat.le_of_ble_eq_true rfl) dL_loads_16 (sL_spaced hM) (fun r h134 hq => ?_) (fun x h9 hq => hq.elim)
  obtain ⟨rfl, hM⟩ := hq
  refine zV_aload_n O dL_loads_19 rfl rfl ?_
  refine zV_ldcS (w := 13) O ⟨by decide, rfl, rfl⟩ dL_loads_20 ?_
  refine zV_callV (as := [aR (1000 + 13)]) (st := []) O zc_L_writes (Or.inl zl_RL_29) zi_386 zi_2 zt_185 rfl rfl (by decide) (Nat.le_of_ble_eq_true rfl) rfl rfl (Nat.le_of_ble_eq_true rfl) (Nat.le_of_ble_eq_true rfl) (Nat.le_of_ble_eq_true rfl) (Nat.le_of_ble_eq_true rfl) (Nat.le_of_ble_eq_true rfl) (Nat.le_of_ble_eq_true rfl) dL_loads_22 (sL_writes (by decide : 13 < zSN) hM) (fun r h135 hq => ?_) (fun x h9 hq => hq.elim)
  obtain ⟨rfl, hM⟩ := hq
  refine zV_aload_n O dL_loads_25 rfl rfl ?_
  refine zV_iconst (z := 1) O ⟨by omega, by omega⟩ dL_loads_26 ?_
  refine zV_iload_n O dL_loads_27 rfl rfl ?_
  refine zV_iconst (z := 4) O ⟨by omega, by omega⟩ dL_loads_28 ?_
  obtain ⟨hc, hM⟩ := hM
  refine zV_idiv O dL_loads_29 hc ?_
  refine zV_iconst (z := 4) O ⟨by omega, by omega⟩ dL_loads_30 ?_
  obtain ⟨hc, hM⟩ := hM
  refine zV_irem O dL_loads_31 hc ?_
  obtain ⟨hc, hM⟩ := hM
  refine zV_iadd O dL_loads_32 hc ?_
  refine zV_callV (as := [aI (1 + ((z132 / 4) % 4))]) (st := []) O zc_L_spaced (Or.inl zl_RL_46) zi_438 zi_3 zt_185 rfl rfl (by decide) (Nat.le_of_ble_eq_true rfl) rfl rfl (Nat.le_of_ble_eq_true rfl) (Nat.le_of_ble_eq_true rfl) (Nat.le_of_ble_eq_true rfl) (Nat.le_of_ble_eq_true rfl) (Nat.le_of_ble_eq_true rfl) (Nat.le_of_ble_eq_true rfl) dL_loads_33 (sL_spaced hM) (fun r h136 hq => ?_) (fun x h9 hq => hq.elim)
  obtain ⟨rfl, hM⟩ := hq
  refine zV_aload_n O dL_loads_36 rfl rfl ?_
  refine zV_ldcS (w := 14) O ⟨by decide, rfl, rfl⟩ dL_loads_37 ?_
  refine zV_callV (as := [aR (1000 + 14)]) (st := []) O zc_L_writes (Or.inl zl_RL_29) zi_386 zi_2 zt_185 rfl rfl (by decide) (Nat.le_of_ble_eq_true rfl) rfl rfl (Nat.le_of_ble_eq_true rfl) (Nat.le_of_ble_eq_true rfl) (Nat.le_of_ble_eq_true rfl) (Nat.le_of_ble_eq_true rfl) (Nat.le_of_ble_eq_true rfl) (Nat.le_of_ble_eq_true rfl) dL_loads_39 (sL_writes (by decide : 14 < zSN) hM) (fun r h137 hq => ?_) (fun x h9 hq => hq.elim)
  obtain ⟨rfl, hM⟩ := hq
  refine zV_aload_n O dL_loads_42 rfl rfl ?_
  refine zV_bipush (z := 8) O ⟨by omega, by omega⟩ rfl dL_loads_43 ?_
  refine zV_iload_n O dL_loads_45 rfl rfl ?_
  refine zV_bipush (z := 16) O ⟨by omega, by omega⟩ rfl dL_loads_46 ?_
  obtain ⟨hc, hM⟩ := hM
  refine zV_idiv O dL_loads_48 hc ?_
  refine zV_bipush (z := 8) O ⟨by omega, by omega⟩ rfl dL_loads_49 ?_
  obtain ⟨hc, hM⟩ := hM
  refine zV_irem O dL_loads_51 hc ?_
  obtain ⟨hc, hM⟩ := hM
  refine zV_iadd O dL_loads_52 hc ?_
  refine zV_callV (as := [aI (8 + ((z132 / 16) % 8))]) (st := []) O zc_L_spaced (Or.inl zl_RL_46) zi_438 zi_3 zt_185 rfl rfl (by decide) (Nat.le_of_ble_eq_true rfl) rfl rfl (Nat.le_of_ble_eq_true rfl) (Nat.le_of_ble_eq_true rfl) (Nat.le_of_ble_eq_true rfl) (Nat.le_of_ble_eq_true rfl) (Nat.le_of_ble_eq_true rfl) (Nat.le_of_ble_eq_true rfl) dL_loads_53 (sL_spaced hM) (fun r h138 hq => ?_) (fun x h9 hq => hq.elim)
  obtain ⟨rfl, hM⟩ := hq
  refine zV_aload_n O dL_loads_56 rfl rfl ?_
  refine zV_bipush (z := 16) O ⟨by omega, by omega⟩ rfl dL_loads_57 ?_
  refine zV_iload_n O dL_loads_59 rfl rfl ?_
  refine zV_sipush (z := 128) O ⟨by omega, by omega⟩ rfl dL_loads_60 ?_
  obtain ⟨hc, hM⟩ := hM
  refine zV_idiv O dL_loads_63 hc ?_
  refine zV_bipush (z := 10) O ⟨by omega, by omega⟩ rfl dL_loads_64 ?_
  obtain ⟨hc, hM⟩ := hM
  refine zV_irem O dL_loads_66 hc ?_
  obtain ⟨hc, hM⟩ := hM
  refine zV_iadd O dL_loads_67 hc ?_
  refine zV_callV (as := [aI (16 + ((z132 / 128) % 10))]) (st := []) O zc_L_spaced (Or.inl zl_RL_46) zi_438 zi_3 zt_185 rfl rfl (by decide) (Nat.le_of_ble_eq_true rfl) rfl rfl (Nat.le_of_ble_eq_true rfl) (Nat.le_of_ble_eq_true rfl) (Nat.le_of_ble_eq_true rfl) (Nat.le_of_ble_eq_true rfl) (Nat.le_of_ble_eq_true rfl) (Nat.le_of_ble_eq_true rfl) dL_loads_68 (sL_spaced hM) (fun r h139 hq => ?_) (fun x h9 hq => hq.elim)
  obtain ⟨rfl, hM⟩ := hq
  refine zV_aload_n O dL_loads_71 rfl rfl ?_
  refine zV_ldcS (w := 15) O ⟨by decide, rfl, rfl⟩ dL_loads_72 ?_
  refine zV_callV (as := [aR (1000 + 15)]) (st := []) O zc_L_writes (Or.inl zl_RL_29) zi_386 zi_2 zt_185 rfl rfl (by decide) (Nat.le_of_ble_eq_true rfl) rfl rfl (Nat.le_of_ble_eq_true rfl) (Nat.le_of_ble_eq_true rfl) (Nat.le_of_ble_eq_true rfl) (Nat.le_of_ble_eq_true rfl) (Nat.le_of_ble_eq_true rfl) (Nat.le_of_ble_eq_true rfl) dL_loads_74 (sL_writes (by decide : 15 < zSN) hM) (fun r h140 hq => ?_) (fun x h9 hq => hq.elim)
  obtain ⟨rfl, hM⟩ := hq
  refine zV_iconst (z := 2) O ⟨by omega, by omega⟩ dL_loads_77 ?_
  refine zV_iload_n O dL_loads_78 rfl rfl ?_
  refine zV_sipush (z := 1280) O ⟨by omega, by omega⟩ rfl dL_loads_79 ?_
  obtain ⟨hc, hM⟩ := hM
  refine zV_idiv O dL_loads_82 hc ?_
  refine zV_bipush (z := 9) O ⟨by omega, by omega⟩ rfl dL_loads_83 ?_
  obtain ⟨hc, hM⟩ := hM
  refine zV_irem O dL_loads_85 hc ?_
  obtain ⟨hc, hM⟩ := hM
  refine zV_iadd O dL_loads_86 hc ?_
  refine zV_istore O dL_loads_87 (Nat.le_of_ble_eq_true rfl) rfl ?_
  refine zV_bipush (z := 60) O ⟨by omega, by omega⟩ rfl dL_loads_89 ?_
  obtain ⟨hc, hM⟩ := hM
  refine zV_newG O hN rfl (L := 60) (ti := 4) (by decide) hc (by decide) (Nat.le_of_ble_eq_true rfl) (Nat.le_of_ble_eq_true rfl) (by rfl) dL_loads_91 (by decide) (fun a O hN X => ?_)
  have hM := hM _ rfl
  generalize hnw h140 187 4 60 = h141 at hM ⊢
  refine zV_astore O dL_loads_93 (Nat.le_of_ble_eq_true rfl) rfl ?_
  refine zV_iconst (z := 0) O ⟨by omega, by omega⟩ dL_loads_95 ?_
  refine zV_istore O dL_loads_96 (Nat.le_of_ble_eq_true rfl) rfl ?_
  obtain ⟨ff, hM⟩ := hM
  exact sL_loads_b98 O hN ff _ _ _ _ hM
