def mL_letter (x1 : Int) (h : Hp) (Q : Hp → Prop) : Prop := (zr (97 + x1) ∧ (((0 : Int) ≤ (h 185 1) ∧ (h 185 1) < 1000) ∧ (∀ h3 : Hp, h3 = wr h 186 (h 185 1) (97 + x1) → (zr ((h3 185 1) + 1) ∧ (∀ h4 : Hp, h4 = hu h3 185 1 ((h3 185 1) + 1) → (Q h4))))))
set_option maxHeartbeats 4000000 in
set_option maxRecDepth 100000 in
theorem sL_letter {l0 : Launch} {x1 : Int} {h : Hp} {Q : Hp → Prop}  (hM : mL_letter x1 h Q) : zSp l0 yL_letter cL_letter 2 none 187 (1) 0 0 [aR 185, aI x1] h (qV Q) xN := by
  unfold mL_letter at hM
  refine zSp_intro zpn_RL (Nat.le_of_ble_eq_true rfl) (fun a O => ?_)
  show zV a (1, 0, 0, (qV Q), xN) 0 0 0 [some (aR 185), some (aI x1)] [] h
  refine zV_aload_n O dL_letter_0 rfl rfl ?_
  refine zV_getR O zf_RL_7 zt_185 rfl (by decide) dL_letter_1 ?_
  refine zV_aload_n O dL_letter_4 rfl rfl ?_
  refine zV_getI O zf_RL_19 zt_185 rfl (by decide) dL_letter_5 ?_
  refine zV_bipush (z := 97) O ⟨by omega, by omega⟩ rfl dL_letter_8 ?_
  refine zV_iload_n O dL_letter_10 rfl rfl ?_
  obtain ⟨hc, hM⟩ := hM
  refine zV_iadd O dL_letter_11 hc ?_
  obtain ⟨hc, hM⟩ := hM
  refine zV_iast O zt_186 (by decide) hc dL_letter_12 ?_
  have hM := hM (hu h 186 (Int.toNat (h 185 1)) (97 + x1)) rfl
  generalize hu h 186 (Int.toNat (h 185 1)) (97 + x1) = h3 at hM ⊢
  refine zV_aload_n O dL_letter_13 rfl rfl ?_
  refine zV_dup O rfl dL_letter_14 ?_
  refine zV_getI O zf_RL_19 zt_185 rfl (by decide) dL_letter_15 ?_
  refine zV_iconst (z := 1) O ⟨by omega, by omega⟩ dL_letter_18 ?_
  obtain ⟨hc, hM⟩ := hM
  refine zV_iadd O dL_letter_19 hc ?_
  refine zV_putI O zf_RL_19 zt_185 rfl (by decide) dL_letter_20 ?_
  have hM := hM _ rfl
  generalize hu h3 185 1 ((h3 185 1) + 1) = h4 at hM ⊢
  exact zV_vret O rfl ⟨rfl, hM⟩ (Nat.le_of_ble_eq_true rfl) (Nat.le_of_ble_eq_true rfl) dL_letter_23
def mL_holds (x1 : Int) (x2 : Int) (h : Hp) (Q : Int → Prop) : Prop := (mX7_host x1 1 h (fun z3 => ((z3 = x2 → (Q 1)) ∧ (¬ z3 = x2 → (mX7_host x1 2 h (fun z4 => ((¬ z4 = x2 → (Q 0)) ∧ (z4 = x2 → (Q 1)))))))))
set_option maxHeartbeats 4000000 in
set_option maxRecDepth 100000 in
theorem sL_holds {l0 : Launch} {x1 : Int} {x2 : Int} {h : Hp} {Q : Int → Prop}  (hM : mL_holds x1 x2 h Q) : zSp l0 yL_holds cL_holds 3 (some .boolean) 185 (4) 0 0 [aR 169, aI x1, aI x2] h (qPZ h Q) xN := by
  unfold mL_holds at hM
  refine zSp_intro zpn_RL (Nat.le_of_ble_eq_true rfl) (fun a O => ?_)
  show zV a (4, 0, 0, (qPZ h Q), xN) 0 0 0 [some (aR 169), some (aI x1), some (aI x2)] [] h
  refine zV_aload_n O dL_holds_0 rfl rfl ?_
  refine zV_iload_n O dL_holds_1 rfl rfl ?_
  refine zV_iconst (z := 1) O ⟨by omega, by omega⟩ dL_holds_2 ?_
  refine zV_callV (as := [aI x1, aI 1]) (st := []) O zc_X7_host (Or.inl zl_RL_132) zi_746 zi_747 zt_169 rfl rfl (by decide) (Nat.le_of_ble_eq_true rfl) rfl rfl (Nat.le_of_ble_eq_true rfl) (Nat.le_of_ble_eq_true rfl) (Nat.le_of_ble_eq_true rfl) (Nat.le_of_ble_eq_true rfl) (Nat.le_of_ble_eq_true rfl) (Nat.le_of_ble_eq_true rfl) dL_holds_3 (sX7_host hM) (fun r h9 hq => ?_) (fun x h9 hq => hq.elim)
  obtain ⟨rfl, z3, rfl, hM⟩ := hq
  refine zV_iload_n O dL_holds_6 rfl rfl ?_
  refine zV_icmp_eq (tgt := 20) O dL_holds_7 (by decide) (fun hc => ?_) (fun hc => ?_)
  · replace hM := hM.1 hc
    refine zV_iconst (z := 1) O ⟨by omega, by omega⟩ dL_holds_20 ?_
    refine zV_goto (tgt := 25) O dL_holds_21 (by decide) ?_
    exact zV_zret O rfl (Or.inr rfl) ⟨rfl, _, rfl, (Or.inr rfl), hM⟩ (Nat.le_of_ble_eq_true rfl) (Nat.le_of_ble_eq_true rfl) dL_holds_25
  · replace hM := hM.2 hc
    refine zV_aload_n O dL_holds_10 rfl rfl ?_
    refine zV_iload_n O dL_holds_11 rfl rfl ?_
    refine zV_iconst (z := 2) O ⟨by omega, by omega⟩ dL_holds_12 ?_
    refine zV_callV (as := [aI x1, aI 2]) (st := []) O zc_X7_host (Or.inl zl_RL_132) zi_746 zi_747 zt_169 rfl rfl (by decide) (Nat.le_of_ble_eq_true rfl) rfl rfl (Nat.le_of_ble_eq_true rfl) (Nat.le_of_ble_eq_true rfl) (Nat.le_of_ble_eq_true rfl) (Nat.le_of_ble_eq_true rfl) (Nat.le_of_ble_eq_true rfl) (Nat.le_of_ble_eq_true rfl) dL_holds_13 (sX7_host hM) (fun r h9 hq => ?_) (fun x h9 hq => hq.elim)
    obtain ⟨rfl, z4, rfl, hM⟩ := hq
    refine zV_iload_n O dL_holds_16 rfl rfl ?_
    refine zV_icmp_ne (tgt := 24) O dL_holds_17 (by decide) (fun hc => ?_) (fun hc => ?_)
    · replace hM := hM.1 hc
      refine zV_iconst (z := 0) O ⟨by omega, by omega⟩ dL_holds_24 ?_
      exact zV_zret O rfl (Or.inl rfl) ⟨rfl, _, rfl, (Or.inl rfl), hM⟩ (Nat.le_of_ble_eq_true rfl) (Nat.le_of_ble_eq_true rfl) dL_holds_25
    · replace hM := hM.2 hc
      refine zV_iconst (z := 1) O ⟨by omega, by omega⟩ dL_holds_20 ?_
      refine zV_goto (tgt := 25) O dL_holds_21 (by decide) ?_
      exact zV_zret O rfl (Or.inr rfl) ⟨rfl, _, rfl, (Or.inr rfl), hM⟩ (Nat.le_of_ble_eq_true rfl) (Nat.le_of_ble_eq_true rfl) dL_holds_25
def mL_writes_b2 (w1 : Nat) (Q : Hp → Prop) : Nat → Int → Hp → Prop
  | 0 => fun _ _ => False
  | fu2 + 1 => fun v2 h => (((zslen w1) ≤ v2 → (Q h)) ∧ (¬ (zslen w1) ≤ v2 → (((0 : Int) ≤ v2 ∧ v2 < zslen w1) ∧ (((0 : Int) ≤ (h 185 1) ∧ (h 185 1) < 1000) ∧ (∀ h7 : Hp, h7 = wr h 186 (h 185 1) (zsch w1 v2) → (zr ((h7 185 1) + 1) ∧ (∀ h8 : Hp, h8 = hu h7 185 1 ((h7 185 1) + 1) → (zr (v2 + 1) ∧ ((mL_writes_b2 w1 Q fu2) (v2 + 1) h8)))))))))
set_option maxHeartbeats 4000000 in
set_option maxRecDepth 100000 in
theorem sL_writes_b2 {l0 : Launch} {a : ZC} {w1 : Nat} {Q : Hp → Prop}  (O : zOk l0 a cL_writes RL 3 none 187 []) (hw1 : w1 < zSN)  : ∀ (ff : Nat) (v2 : Int) (h : Hp), mL_writes_b2 w1 Q ff v2 h → zV a (5, 0, 0, (qV Q), xN) 0 0 2 [some (aR 185), some (aR (1000 + w1)), some (aI v2)] [] h := by
  intro ff
  induction ff with
  | zero => intro v2 h hM; exact hM.elim
  | succ ff ih =>
    have hK2 := ih
    intro v2 h hM
    unfold mL_writes_b2 at hM
    refine zV_iload_n O dL_writes_2 rfl rfl ?_
    refine zV_aload_n O dL_writes_3 rfl rfl ?_
    refine zV_slen O hw1 zl_RL_13 (Nat.le_of_ble_eq_true rfl) (Nat.le_of_ble_eq_true rfl) (Nat.le_of_ble_eq_true rfl) (Nat.le_of_ble_eq_true rfl) ⟨(Nat.le_of_ble_eq_true rfl), (Nat.le_of_ble_eq_true rfl)⟩ dL_writes_4 ?_
    refine zV_icmp_ge (tgt := 40) O dL_writes_7 (by decide) (fun hc => ?_) (fun hc => ?_)
    · replace hM := hM.1 hc
      exact zV_vret O rfl ⟨rfl, hM⟩ (Nat.le_of_ble_eq_true rfl) (Nat.le_of_ble_eq_true rfl) dL_writes_40
    · replace hM := hM.2 hc
      refine zV_aload_n O dL_writes_10 rfl rfl ?_
      refine zV_getR O zf_RL_7 zt_185 rfl (by decide) dL_writes_11 ?_
      refine zV_aload_n O dL_writes_14 rfl rfl ?_
      refine zV_getI O zf_RL_19 zt_185 rfl (by decide) dL_writes_15 ?_
      refine zV_aload_n O dL_writes_18 rfl rfl ?_
      refine zV_iload_n O dL_writes_19 rfl rfl ?_
      obtain ⟨hc, hM⟩ := hM
      refine zV_schar O hw1 hc zl_RL_23 (Nat.le_of_ble_eq_true rfl) (Nat.le_of_ble_eq_true rfl) (Nat.le_of_ble_eq_true rfl) (Nat.le_of_ble_eq_true rfl) ⟨(Nat.le_of_ble_eq_true rfl), (Nat.le_of_ble_eq_true rfl)⟩ dL_writes_20 ?_
      obtain ⟨hc, hM⟩ := hM
      refine zV_iast O zt_186 (by decide) hc dL_writes_23 ?_
      have hM := hM (hu h 186 (Int.toNat (h 185 1)) (zsch w1 v2)) rfl
      generalize hu h 186 (Int.toNat (h 185 1)) (zsch w1 v2) = h7 at hM ⊢
      refine zV_aload_n O dL_writes_24 rfl rfl ?_
      refine zV_dup O rfl dL_writes_25 ?_
      refine zV_getI O zf_RL_19 zt_185 rfl (by decide) dL_writes_26 ?_
      refine zV_iconst (z := 1) O ⟨by omega, by omega⟩ dL_writes_29 ?_
      obtain ⟨hc, hM⟩ := hM
      refine zV_iadd O dL_writes_30 hc ?_
      refine zV_putI O zf_RL_19 zt_185 rfl (by decide) dL_writes_31 ?_
      have hM := hM _ rfl
      generalize hu h7 185 1 ((h7 185 1) + 1) = h8 at hM ⊢
      obtain ⟨hc, hM⟩ := hM
      refine zV_iinc O dL_writes_34 rfl (Nat.le_of_ble_eq_true rfl) rfl hc ?_
      refine zV_goto (tgt := 2) O dL_writes_37 (by decide) ?_
      exact hK2 _ _ hM
def mL_writes (w1 : Nat) (h : Hp) (Q : Hp → Prop) : Prop := (∃ ff, mL_writes_b2 w1 Q ff 0 h)
set_option maxHeartbeats 4000000 in
set_option maxRecDepth 100000 in
theorem sL_writes {l0 : Launch} {w1 : Nat} {h : Hp} {Q : Hp → Prop} (hw1 : w1 < zSN) (hM : mL_writes w1 h Q) : zSp l0 yL_writes cL_writes 3 none 187 (5) 0 0 [aR 185, aR (1000 + w1)] h (qV Q) xN := by
  unfold mL_writes at hM
  refine zSp_intro zpn_RL (Nat.le_of_ble_eq_true rfl) (fun a O => ?_)
  show zV a (5, 0, 0, (qV Q), xN) 0 0 0 [some (aR 185), some (aR (1000 + w1)), none] [] h
  refine zV_iconst (z := 0) O ⟨by omega, by omega⟩ dL_writes_0 ?_
  refine zV_istore_n O dL_writes_1 rfl (Nat.le_of_ble_eq_true rfl) rfl ?_
  obtain ⟨ff, hM⟩ := hM
  exact sL_writes_b2 O hw1 ff _ _ hM
def mL_areOfNet (x1 : Int) (x2 : Int) (h : Hp) (Q : Int → Hp → Prop) : Prop := (mX7_size 8 h (fun z5 h6 => ((z5 = (1 : Int) → (Q 1 h6)) ∧ (¬ z5 = (1 : Int) → (mX7_host x1 0 h6 (fun z7 => (mX7_host x2 0 h6 (fun z8 => ((¬ z7 = z8 → (Q 0 h6)) ∧ (z7 = z8 → (Q 1 h6)))))))))))
set_option maxHeartbeats 4000000 in
set_option maxRecDepth 100000 in
theorem sL_areOfNet {l0 : Launch} {x1 : Int} {x2 : Int} {h : Hp} {Q : Int → Hp → Prop}  (hM : mL_areOfNet x1 x2 h Q) : zSp l0 yL_areOfNet cL_areOfNet 3 (some .boolean) 185 (6) 0 0 [aR 169, aI x1, aI x2] h (qZ Q) xN := by
  unfold mL_areOfNet at hM
  refine zSp_intro zpn_RL (Nat.le_of_ble_eq_true rfl) (fun a O => ?_)
  show zV a (6, 0, 0, (qZ Q), xN) 0 0 0 [some (aR 169), some (aI x1), some (aI x2)] [] h
  refine zV_aload_n O dL_areOfNet_0 rfl rfl ?_
  refine zV_bipush (z := 8) O ⟨by omega, by omega⟩ rfl dL_areOfNet_1 ?_
  refine zV_callV (as := [aI 8]) (st := []) O zc_X7_size (Or.inl zl_RL_82) zi_690 zi_691 zt_169 rfl rfl (by decide) (Nat.le_of_ble_eq_true rfl) rfl rfl (Nat.le_of_ble_eq_true rfl) (Nat.le_of_ble_eq_true rfl) (Nat.le_of_ble_eq_true rfl) (Nat.le_of_ble_eq_true rfl) (Nat.le_of_ble_eq_true rfl) (Nat.le_of_ble_eq_true rfl) dL_areOfNet_3 (sX7_size hM) (fun r h6 hq => ?_) (fun x h9 hq => hq.elim)
  obtain ⟨z5, rfl, hM⟩ := hq
  refine zV_iconst (z := 1) O ⟨by omega, by omega⟩ dL_areOfNet_6 ?_
  refine zV_icmp_eq (tgt := 25) O dL_areOfNet_7 (by decide) (fun hc => ?_) (fun hc => ?_)
  · replace hM := hM.1 hc
    refine zV_iconst (z := 1) O ⟨by omega, by omega⟩ dL_areOfNet_25 ?_
    refine zV_goto (tgt := 30) O dL_areOfNet_26 (by decide) ?_
    exact zV_zret O rfl (Or.inr rfl) ⟨_, rfl, (Or.inr rfl), hM⟩ (Nat.le_of_ble_eq_true rfl) (Nat.le_of_ble_eq_true rfl) dL_areOfNet_30
  · replace hM := hM.2 hc
    refine zV_aload_n O dL_areOfNet_10 rfl rfl ?_
    refine zV_iload_n O dL_areOfNet_11 rfl rfl ?_
    refine zV_iconst (z := 0) O ⟨by omega, by omega⟩ dL_areOfNet_12 ?_
    refine zV_callV (as := [aI x1, aI 0]) (st := []) O zc_X7_host (Or.inl zl_RL_132) zi_746 zi_747 zt_169 rfl rfl (by decide) (Nat.le_of_ble_eq_true rfl) rfl rfl (Nat.le_of_ble_eq_true rfl) (Nat.le_of_ble_eq_true rfl) (Nat.le_of_ble_eq_true rfl) (Nat.le_of_ble_eq_true rfl) (Nat.le_of_ble_eq_true rfl) (Nat.le_of_ble_eq_true rfl) dL_areOfNet_13 (sX7_host hM) (fun r h9 hq => ?_) (fun x h9 hq => hq.elim)
    obtain ⟨rfl, z7, rfl, hM⟩ := hq
    refine zV_aload_n O dL_areOfNet_16 rfl rfl ?_
    refine zV_iload_n O dL_areOfNet_17 rfl rfl ?_
    refine zV_iconst (z := 0) O ⟨by omega, by omega⟩ dL_areOfNet_18 ?_
    refine zV_callV (as := [aI x2, aI 0]) (st := [aI z7]) O zc_X7_host (Or.inl zl_RL_132) zi_746 zi_747 zt_169 rfl rfl (by decide) (Nat.le_of_ble_eq_true rfl) rfl rfl (Nat.le_of_ble_eq_true rfl) (Nat.le_of_ble_eq_true rfl) (Nat.le_of_ble_eq_true rfl) (Nat.le_of_ble_eq_true rfl) (Nat.le_of_ble_eq_true rfl) (Nat.le_of_ble_eq_true rfl) dL_areOfNet_19 (sX7_host hM) (fun r h9 hq => ?_) (fun x h9 hq => hq.elim)
    obtain ⟨rfl, z8, rfl, hM⟩ := hq
    refine zV_icmp_ne (tgt := 29) O dL_areOfNet_22 (by decide) (fun hc => ?_) (fun hc => ?_)
    · replace hM := hM.1 hc
      refine zV_iconst (z := 0) O ⟨by omega, by omega⟩ dL_areOfNet_29 ?_
      exact zV_zret O rfl (Or.inl rfl) ⟨_, rfl, (Or.inl rfl), hM⟩ (Nat.le_of_ble_eq_true rfl) (Nat.le_of_ble_eq_true rfl) dL_areOfNet_30
    · replace hM := hM.2 hc
      refine zV_iconst (z := 1) O ⟨by omega, by omega⟩ dL_areOfNet_25 ?_
      refine zV_goto (tgt := 30) O dL_areOfNet_26 (by decide) ?_
      exact zV_zret O rfl (Or.inr rfl) ⟨_, rfl, (Or.inr rfl), hM⟩ (Nat.le_of_ble_eq_true rfl) (Nat.le_of_ble_eq_true rfl) dL_areOfNet_30
def mL_isClashes_b119 (Q : Int → Hp → Prop) (K4 : Int → Int → Hp → Prop) (v1 : Int) (v2 : Int) (h : Hp) : Prop := (zr (v2 + 1) ∧ (K4 v1 (v2 + 1) h))
set_option maxHeartbeats 4000000 in
set_option maxRecDepth 100000 in
theorem sL_isClashes_b119 {l0 : Launch} {a : ZC}  {Q : Int → Hp → Prop} {K4 : Int → Int → Hp → Prop} (O : zOk l0 a cL_isClashes RL 6 (some .boolean) 185 [])  (hK4 : ∀ (v1 : Int) (v2 : Int) (h : Hp), K4 v1 v2 h → zV a (6, 0, 0, (qZ Q), xN) 0 0 4 [some (aR 169), some (aI v1), some (aI v2), none, none, none] [] h) {v1 : Int} {v2 : Int} {h : Hp}  (hM : mL_isClashes_b119 Q K4 v1 v2 h) : zV a (6, 0, 0, (qZ Q), xN) 0 0 119 [some (aR 169), some (aI v1), some (aI v2), none, none, none] [] h := by
  unfold mL_isClashes_b119 at hM
  obtain ⟨hc, hM⟩ := hM
  refine zV_iinc O dL_isClashes_119 rfl (Nat.le_of_ble_eq_true rfl) rfl hc ?_
  refine zV_goto (tgt := 4) O dL_isClashes_122 (by decide) ?_
  exact hK4 _ _ _ hM
def mL_isClashes_b62 (Q : Int → Hp → Prop) (K4 : Int → Int → Hp → Prop) (K24 : Int → Int → Int → Int → Int → Hp → Prop) (v1 : Int) (v2 : Int) (v3 : Int) (v4 : Int) (v5 : Int) (h : Hp) : Prop := (zr (v5 + (-1)) ∧ (K24 v1 v2 v3 v4 (v5 + (-1)) h))
set_option maxHeartbeats 4000000 in
set_option maxRecDepth 100000 in
theorem sL_isClashes_b62 {l0 : Launch} {a : ZC}  {Q : Int → Hp → Prop} {K4 : Int → Int → Hp → Prop} {K24 : Int → Int → Int → Int → Int → Hp → Prop} (O : zOk l0 a cL_isClashes RL 6 (some .boolean) 185 [])  (hK4 : ∀ (v1 : Int) (v2 : Int) (h : Hp), K4 v1 v2 h → zV a (6, 0, 0, (qZ Q), xN) 0 0 4 [some (aR 169), some (aI v1), some (aI v2), none, none, none] [] h) (hK24 : ∀ (v1 : Int) (v2 : Int) (v3 : Int) (v4 : Int) (v5 : Int) (h : Hp), K24 v1 v2 v3 v4 v5 h → zV a (6, 0, 0, (qZ Q), xN) 0 0 24 [some (aR 169), some (aI v1), some (aI v2), some (aI v3), some (aI v4), some (aI v5)] [] h) {v1 : Int} {v2 : Int} {v3 : Int} {v4 : Int} {v5 : Int} {h : Hp}  (hM : mL_isClashes_b62 Q K4 K24 v1 v2 v3 v4 v5 h) : zV a (6, 0, 0, (qZ Q), xN) 0 0 62 [some (aR 169), some (aI v1), some (aI v2), some (aI v3), some (aI v4), some (aI v5)] [] h := by
  unfold mL_isClashes_b62 at hM
  obtain ⟨hc, hM⟩ := hM
  refine zV_iinc O dL_isClashes_62 rfl (Nat.le_of_ble_eq_true rfl) rfl hc ?_
  refine zV_goto (tgt := 24) O dL_isClashes_65 (by decide) ?_
  exact hK24 _ _ _ _ _ _ hM
def mL_isClashes_b24 (Q : Int → Hp → Prop) (K4 : Int → Int → Hp → Prop) : Nat → Int → Int → Int → Int → Int → Hp → Prop
  | 0 => fun _ _ _ _ _ _ => False
  | fu24 + 1 => fun v1 v2 v3 v4 v5 h => ((v5 < 0 → (mX7_holder 0 v2 h (fun z37 => ((¬ z37 = v3 → (Q 0 h)) ∧ (z37 = v3 → (mX7_holder 1 v2 h (fun z38 => ((z38 = v4 → ((v3 = ((-1) : Int) → (mL_isClashes_b119 Q K4 v1 v2 h)) ∧ (¬ v3 = ((-1) : Int) → ((¬ v4 = ((-1) : Int) → (mX7_clash v1 h (fun z39 h40 => ((z39 = v2 → (zr (v1 + 1) ∧ (mL_isClashes_b119 Q K4 (v1 + 1) v2 h40))) ∧ (¬ z39 = v2 → (Q 0 h40)))))) ∧ (v4 = ((-1) : Int) → (mL_isClashes_b119 Q K4 v1 v2 h)))))) ∧ (¬ z38 = v4 → (Q 0 h)))))))))) ∧ (¬ v5 < 0 → (mL_holds v5 v2 h (fun z41 => ((¬ z41 = 0 → (mX7_host v5 0 h (fun z42 => ((¬ z42 = 0 → (mL_isClashes_b62 Q K4 (mL_isClashes_b24 Q K4 fu24) v1 v2 v3 v5 v5 h)) ∧ (z42 = 0 → (mL_isClashes_b62 Q K4 (mL_isClashes_b24 Q K4 fu24) v1 v2 v5 v4 v5 h)))))) ∧ (z41 = 0 → (mL_isClashes_b62 Q K4 (mL_isClashes_b24 Q K4 fu24) v1 v2 v3 v4 v5 h)))))))
set_option maxHeartbeats 4000000 in
set_option maxRecDepth 100000 in
theorem sL_isClashes_b24 {l0 : Launch} {a : ZC}  {Q : Int → Hp → Prop} {K4 : Int → Int → Hp → Prop} (O : zOk l0 a cL_isClashes RL 6 (some .boolean) 185 [])  (hK4 : ∀ (v1 : Int) (v2 : Int) (h : Hp), K4 v1 v2 h → zV a (6, 0, 0, (qZ Q), xN) 0 0 4 [some (aR 169), some (aI v1), some (aI v2), none, none, none] [] h) : ∀ (ff : Nat) (v1 : Int) (v2 : Int) (v3 : Int) (v4 : Int) (v5 : Int) (h : Hp), mL_isClashes_b24 Q K4 ff v1 v2 v3 v4 v5 h → zV a (6, 0, 0, (qZ Q), xN) 0 0 24 [some (aR 169), some (aI v1), some (aI v2), some (aI v3), some (aI v4), some (aI v5)] [] h := by
  intro ff
  induction ff with
  | zero => intro v1 v2 v3 v4 v5 h hM; exact hM.elim
  | succ ff ih =>
    have hK24 := ih
    intro v1 v2 v3 v4 v5 h hM
    unfold mL_isClashes_b24 at hM
    refine zV_iload O dL_isClashes_24 rfl ?_
    refine zV_if_lt (tgt := 68) O dL_isClashes_26 (by decide) (fun hc => ?_) (fun hc => ?_)
    · replace hM := hM.1 hc
      refine zV_aload_n O dL_isClashes_68 rfl rfl ?_
      refine zV_iconst (z := 0) O ⟨by omega, by omega⟩ dL_isClashes_69 ?_
      refine zV_iload_n O dL_isClashes_70 rfl rfl ?_
      refine zV_callV (as := [aI 0, aI v2]) (st := []) O zc_X7_holder (Or.inl zl_RL_164) zi_764 zi_765 zt_169 rfl rfl (by decide) (Nat.le_of_ble_eq_true rfl) rfl rfl (Nat.le_of_ble_eq_true rfl) (Nat.le_of_ble_eq_true rfl) (Nat.le_of_ble_eq_true rfl) (Nat.le_of_ble_eq_true rfl) (Nat.le_of_ble_eq_true rfl) (Nat.le_of_ble_eq_true rfl) dL_isClashes_71 (sX7_holder hM) (fun r h9 hq => ?_) (fun x h9 hq => hq.elim)
      obtain ⟨rfl, z37, rfl, hM⟩ := hq
      refine zV_iload_n O dL_isClashes_74 rfl rfl ?_
      refine zV_icmp_ne (tgt := 89) O dL_isClashes_75 (by decide) (fun hc => ?_) (fun hc => ?_)
      · replace hM := hM.1 hc
        refine zV_iconst (z := 0) O ⟨by omega, by omega⟩ dL_isClashes_89 ?_
        exact zV_zret O rfl (Or.inl rfl) ⟨_, rfl, (Or.inl rfl), hM⟩ (Nat.le_of_ble_eq_true rfl) (Nat.le_of_ble_eq_true rfl) dL_isClashes_90
      · replace hM := hM.2 hc
        refine zV_aload_n O dL_isClashes_78 rfl rfl ?_
        refine zV_iconst (z := 1) O ⟨by omega, by omega⟩ dL_isClashes_79 ?_
        refine zV_iload_n O dL_isClashes_80 rfl rfl ?_
        refine zV_callV (as := [aI 1, aI v2]) (st := []) O zc_X7_holder (Or.inl zl_RL_164) zi_764 zi_765 zt_169 rfl rfl (by decide) (Nat.le_of_ble_eq_true rfl) rfl rfl (Nat.le_of_ble_eq_true rfl) (Nat.le_of_ble_eq_true rfl) (Nat.le_of_ble_eq_true rfl) (Nat.le_of_ble_eq_true rfl) (Nat.le_of_ble_eq_true rfl) (Nat.le_of_ble_eq_true rfl) dL_isClashes_81 (sX7_holder hM) (fun r h9 hq => ?_) (fun x h9 hq => hq.elim)
        obtain ⟨rfl, z38, rfl, hM⟩ := hq
        refine zV_iload O dL_isClashes_84 rfl ?_
        refine zV_icmp_eq (tgt := 91) O dL_isClashes_86 (by decide) (fun hc => ?_) (fun hc => ?_)
        · replace hM := hM.1 hc
          refine zV_iload_n O dL_isClashes_91 rfl rfl ?_
          refine zV_iconst (z := -1) O ⟨by omega, by omega⟩ dL_isClashes_92 ?_
          refine zV_icmp_eq (tgt := 119) O dL_isClashes_93 (by decide) (fun hc => ?_) (fun hc => ?_)
          · replace hM := hM.1 hc
            refine zV_sub (ls2 := [some (aR 169), some (aI v1), some (aI v2), none, none, none]) ⟨rfl, rfl, rfl, trivial⟩ ?_
            exact sL_isClashes_b119 O hK4 hM
          · replace hM := hM.2 hc
            refine zV_iload O dL_isClashes_96 rfl ?_
            refine zV_iconst (z := -1) O ⟨by omega, by omega⟩ dL_isClashes_98 ?_
            refine zV_icmp_ne (tgt := 105) O dL_isClashes_99 (by decide) (fun hc => ?_) (fun hc => ?_)
            · replace hM := hM.1 hc
              refine zV_aload_n O dL_isClashes_105 rfl rfl ?_
              refine zV_iload_n O dL_isClashes_106 rfl rfl ?_
              refine zV_callV (as := [aI v1]) (st := []) O zc_X7_clash (Or.inl zl_RL_167) zi_775 zi_776 zt_169 rfl rfl (by decide) (Nat.le_of_ble_eq_true rfl) rfl rfl (Nat.le_of_ble_eq_true rfl) (Nat.le_of_ble_eq_true rfl) (Nat.le_of_ble_eq_true rfl) (Nat.le_of_ble_eq_true rfl) (Nat.le_of_ble_eq_true rfl) (Nat.le_of_ble_eq_true rfl) dL_isClashes_107 (sX7_clash hM) (fun r h40 hq => ?_) (fun x h9 hq => hq.elim)
              obtain ⟨z39, rfl, hM⟩ := hq
              refine zV_iload_n O dL_isClashes_110 rfl rfl ?_
              refine zV_icmp_eq (tgt := 116) O dL_isClashes_111 (by decide) (fun hc => ?_) (fun hc => ?_)
              · replace hM := hM.1 hc
                obtain ⟨hc, hM⟩ := hM
                refine zV_iinc O dL_isClashes_116 rfl (Nat.le_of_ble_eq_true rfl) rfl hc ?_
                refine zV_sub (ls2 := [some (aR 169), some (aI (v1 + 1)), some (aI v2), none, none, none]) ⟨rfl, rfl, rfl, trivial⟩ ?_
                exact sL_isClashes_b119 O hK4 hM
              · replace hM := hM.2 hc
                refine zV_iconst (z := 0) O ⟨by omega, by omega⟩ dL_isClashes_114 ?_
                exact zV_zret O rfl (Or.inl rfl) ⟨_, rfl, (Or.inl rfl), hM⟩ (Nat.le_of_ble_eq_true rfl) (Nat.le_of_ble_eq_true rfl) dL_isClashes_115
            · replace hM := hM.2 hc
              refine zV_goto (tgt := 119) O dL_isClashes_102 (by decide) ?_
              refine zV_sub (ls2 := [some (aR 169), some (aI v1), some (aI v2), none, none, none]) ⟨rfl, rfl, rfl, trivial⟩ ?_
              exact sL_isClashes_b119 O hK4 hM
        · replace hM := hM.2 hc
          refine zV_iconst (z := 0) O ⟨by omega, by omega⟩ dL_isClashes_89 ?_
          exact zV_zret O rfl (Or.inl rfl) ⟨_, rfl, (Or.inl rfl), hM⟩ (Nat.le_of_ble_eq_true rfl) (Nat.le_of_ble_eq_true rfl) dL_isClashes_90
    · replace hM := hM.2 hc
      refine zV_aload_n O dL_isClashes_29 rfl rfl ?_
      refine zV_iload O dL_isClashes_30 rfl ?_
      refine zV_iload_n O dL_isClashes_32 rfl rfl ?_
      refine zV_callS (as := [aR 169, aI v5, aI v2]) (st := []) O zc_L_holds (Or.inl zl_RL_162) zi_758 (Nat.le_of_ble_eq_true rfl) rfl rfl (Nat.le_of_ble_eq_true rfl) (Nat.le_of_ble_eq_true rfl) (Nat.le_of_ble_eq_true rfl) (Nat.le_of_ble_eq_true rfl) (Nat.le_of_ble_eq_true rfl) (Nat.le_of_ble_eq_true rfl) dL_isClashes_33 (sL_holds hM) (fun r h9 hq => ?_) (fun x h9 hq => hq.elim)
      obtain ⟨rfl, z41, rfl, hzz41, hM⟩ := hq
      refine zV_if_ne (tgt := 42) O dL_isClashes_36 (by decide) (fun hc => ?_) (fun hc => ?_)
      · replace hM := hM.1 hc
        refine zV_aload_n O dL_isClashes_42 rfl rfl ?_
        refine zV_iload O dL_isClashes_43 rfl ?_
        refine zV_iconst (z := 0) O ⟨by omega, by omega⟩ dL_isClashes_45 ?_
        refine zV_callV (as := [aI v5, aI 0]) (st := []) O zc_X7_host (Or.inl zl_RL_132) zi_746 zi_747 zt_169 rfl rfl (by decide) (Nat.le_of_ble_eq_true rfl) rfl rfl (Nat.le_of_ble_eq_true rfl) (Nat.le_of_ble_eq_true rfl) (Nat.le_of_ble_eq_true rfl) (Nat.le_of_ble_eq_true rfl) (Nat.le_of_ble_eq_true rfl) (Nat.le_of_ble_eq_true rfl) dL_isClashes_46 (sX7_host hM) (fun r h9 hq => ?_) (fun x h9 hq => hq.elim)
        obtain ⟨rfl, z42, rfl, hM⟩ := hq
        refine zV_if_ne (tgt := 58) O dL_isClashes_49 (by decide) (fun hc => ?_) (fun hc => ?_)
        · replace hM := hM.1 hc
          refine zV_iload O dL_isClashes_58 rfl ?_
          refine zV_istore O dL_isClashes_60 (Nat.le_of_ble_eq_true rfl) rfl ?_
          exact sL_isClashes_b62 O hK4 hK24 hM
        · replace hM := hM.2 hc
          refine zV_iload O dL_isClashes_52 rfl ?_
          refine zV_istore_n O dL_isClashes_54 rfl (Nat.le_of_ble_eq_true rfl) rfl ?_
          refine zV_goto (tgt := 62) O dL_isClashes_55 (by decide) ?_
          exact sL_isClashes_b62 O hK4 hK24 hM
      · replace hM := hM.2 hc
        refine zV_goto (tgt := 62) O dL_isClashes_39 (by decide) ?_
        exact sL_isClashes_b62 O hK4 hK24 hM
def mL_isClashes_b4 (Q : Int → Hp → Prop) : Nat → Int → Int → Hp → Prop
  | 0 => fun _ _ _ => False
  | fu4 + 1 => fun v1 v2 h => (((60 : Int) < v2 → (mX7_size 9 h (fun z43 h44 => ((¬ z43 = v1 → (Q 0 h44)) ∧ (z43 = v1 → (mX7_size 8 h44 (fun z45 h46 => ((z45 = 0 → (Q 1 h46)) ∧ (¬ z45 = 0 → ((¬ v1 = 0 → (Q 0 h46)) ∧ (v1 = 0 → (Q 1 h46)))))))))))) ∧ (¬ (60 : Int) < v2 → (mX7_size 0 h (fun z47 h48 => (zr (z47 - 1) ∧ (∃ ff, mL_isClashes_b24 Q (mL_isClashes_b4 Q fu4) ff v1 v2 (-1) (-1) (z47 - 1) h48))))))
set_option maxHeartbeats 4000000 in
set_option maxRecDepth 100000 in
theorem sL_isClashes_b4 {l0 : Launch} {a : ZC}  {Q : Int → Hp → Prop}  (O : zOk l0 a cL_isClashes RL 6 (some .boolean) 185 [])   : ∀ (ff : Nat) (v1 : Int) (v2 : Int) (h : Hp), mL_isClashes_b4 Q ff v1 v2 h → zV a (6, 0, 0, (qZ Q), xN) 0 0 4 [some (aR 169), some (aI v1), some (aI v2), none, none, none] [] h := by
  intro ff
  induction ff with
  | zero => intro v1 v2 h hM; exact hM.elim
  | succ ff ih =>
    have hK4 := ih
    intro v1 v2 h hM
    unfold mL_isClashes_b4 at hM
    refine zV_iload_n O dL_isClashes_4 rfl rfl ?_
    refine zV_bipush (z := 60) O ⟨by omega, by omega⟩ rfl dL_isClashes_5 ?_
    refine zV_icmp_gt (tgt := 125) O dL_isClashes_7 (by decide) (fun hc => ?_) (fun hc => ?_)
    · replace hM := hM.1 hc
      refine zV_aload_n O dL_isClashes_125 rfl rfl ?_
      refine zV_bipush (z := 9) O ⟨by omega, by omega⟩ rfl dL_isClashes_126 ?_
      refine zV_callV (as := [aI 9]) (st := []) O zc_X7_size (Or.inl zl_RL_82) zi_690 zi_691 zt_169 rfl rfl (by decide) (Nat.le_of_ble_eq_true rfl) rfl rfl (Nat.le_of_ble_eq_true rfl) (Nat.le_of_ble_eq_true rfl) (Nat.le_of_ble_eq_true rfl) (Nat.le_of_ble_eq_true rfl) (Nat.le_of_ble_eq_true rfl) (Nat.le_of_ble_eq_true rfl) dL_isClashes_128 (sX7_size hM) (fun r h44 hq => ?_) (fun x h9 hq => hq.elim)
      obtain ⟨z43, rfl, hM⟩ := hq
      refine zV_iload_n O dL_isClashes_131 rfl rfl ?_
      refine zV_icmp_ne (tgt := 152) O dL_isClashes_132 (by decide) (fun hc => ?_) (fun hc => ?_)
      · replace hM := hM.1 hc
        refine zV_iconst (z := 0) O ⟨by omega, by omega⟩ dL_isClashes_152 ?_
        exact zV_zret O rfl (Or.inl rfl) ⟨_, rfl, (Or.inl rfl), hM⟩ (Nat.le_of_ble_eq_true rfl) (Nat.le_of_ble_eq_true rfl) dL_isClashes_153
      · replace hM := hM.2 hc
        refine zV_aload_n O dL_isClashes_135 rfl rfl ?_
        refine zV_bipush (z := 8) O ⟨by omega, by omega⟩ rfl dL_isClashes_136 ?_
        refine zV_callV (as := [aI 8]) (st := []) O zc_X7_size (Or.inl zl_RL_82) zi_690 zi_691 zt_169 rfl rfl (by decide) (Nat.le_of_ble_eq_true rfl) rfl rfl (Nat.le_of_ble_eq_true rfl) (Nat.le_of_ble_eq_true rfl) (Nat.le_of_ble_eq_true rfl) (Nat.le_of_ble_eq_true rfl) (Nat.le_of_ble_eq_true rfl) (Nat.le_of_ble_eq_true rfl) dL_isClashes_138 (sX7_size hM) (fun r h46 hq => ?_) (fun x h9 hq => hq.elim)
        obtain ⟨z45, rfl, hM⟩ := hq
        refine zV_if_eq (tgt := 148) O dL_isClashes_141 (by decide) (fun hc => ?_) (fun hc => ?_)
        · replace hM := hM.1 hc
          refine zV_iconst (z := 1) O ⟨by omega, by omega⟩ dL_isClashes_148 ?_
          refine zV_goto (tgt := 153) O dL_isClashes_149 (by decide) ?_
          exact zV_zret O rfl (Or.inr rfl) ⟨_, rfl, (Or.inr rfl), hM⟩ (Nat.le_of_ble_eq_true rfl) (Nat.le_of_ble_eq_true rfl) dL_isClashes_153
        · replace hM := hM.2 hc
          refine zV_iload_n O dL_isClashes_144 rfl rfl ?_
          refine zV_if_ne (tgt := 152) O dL_isClashes_145 (by decide) (fun hc => ?_) (fun hc => ?_)
          · replace hM := hM.1 hc
            refine zV_iconst (z := 0) O ⟨by omega, by omega⟩ dL_isClashes_152 ?_
            exact zV_zret O rfl (Or.inl rfl) ⟨_, rfl, (Or.inl rfl), hM⟩ (Nat.le_of_ble_eq_true rfl) (Nat.le_of_ble_eq_true rfl) dL_isClashes_153
          · replace hM := hM.2 hc
            refine zV_iconst (z := 1) O ⟨by omega, by omega⟩ dL_isClashes_148 ?_
            refine zV_goto (tgt := 153) O dL_isClashes_149 (by decide) ?_
            exact zV_zret O rfl (Or.inr rfl) ⟨_, rfl, (Or.inr rfl), hM⟩ (Nat.le_of_ble_eq_true rfl) (Nat.le_of_ble_eq_true rfl) dL_isClashes_153
    · replace hM := hM.2 hc
      refine zV_iconst (z := -1) O ⟨by omega, by omega⟩ dL_isClashes_10 ?_
      refine zV_istore_n O dL_isClashes_11 rfl (Nat.le_of_ble_eq_true rfl) rfl ?_
      refine zV_iconst (z := -1) O ⟨by omega, by omega⟩ dL_isClashes_12 ?_
      refine zV_istore O dL_isClashes_13 (Nat.le_of_ble_eq_true rfl) rfl ?_
      refine zV_aload_n O dL_isClashes_15 rfl rfl ?_
      refine zV_iconst (z := 0) O ⟨by omega, by omega⟩ dL_isClashes_16 ?_
      refine zV_callV (as := [aI 0]) (st := []) O zc_X7_size (Or.inl zl_RL_82) zi_690 zi_691 zt_169 rfl rfl (by decide) (Nat.le_of_ble_eq_true rfl) rfl rfl (Nat.le_of_ble_eq_true rfl) (Nat.le_of_ble_eq_true rfl) (Nat.le_of_ble_eq_true rfl) (Nat.le_of_ble_eq_true rfl) (Nat.le_of_ble_eq_true rfl) (Nat.le_of_ble_eq_true rfl) dL_isClashes_17 (sX7_size hM) (fun r h48 hq => ?_) (fun x h9 hq => hq.elim)
      obtain ⟨z47, rfl, hM⟩ := hq
      refine zV_iconst (z := 1) O ⟨by omega, by omega⟩ dL_isClashes_20 ?_
      obtain ⟨hc, hM⟩ := hM
      refine zV_isub O dL_isClashes_21 hc ?_
      refine zV_istore O dL_isClashes_22 (Nat.le_of_ble_eq_true rfl) rfl ?_
      obtain ⟨ff, hM⟩ := hM
      exact sL_isClashes_b24 O hK4 ff _ _ _ _ _ _ hM
def mL_isClashes  (h : Hp) (Q : Int → Hp → Prop) : Prop := (∃ ff, mL_isClashes_b4 Q ff 0 1 h)
set_option maxHeartbeats 4000000 in
set_option maxRecDepth 100000 in
theorem sL_isClashes {l0 : Launch}  {h : Hp} {Q : Int → Hp → Prop}  (hM : mL_isClashes  h Q) : zSp l0 yL_isClashes cL_isClashes 6 (some .boolean) 185 (6) 0 0 [aR 169] h (qZ Q) xN := by
  unfold mL_isClashes at hM
  refine zSp_intro zpn_RL (Nat.le_of_ble_eq_true rfl) (fun a O => ?_)
  show zV a (6, 0, 0, (qZ Q), xN) 0 0 0 [some (aR 169), none, none, none, none, none] [] h
  refine zV_iconst (z := 0) O ⟨by omega, by omega⟩ dL_isClashes_0 ?_
  refine zV_istore_n O dL_isClashes_1 rfl (Nat.le_of_ble_eq_true rfl) rfl ?_
  refine zV_iconst (z := 1) O ⟨by omega, by omega⟩ dL_isClashes_2 ?_
  refine zV_istore_n O dL_isClashes_3 rfl (Nat.le_of_ble_eq_true rfl) rfl ?_
  obtain ⟨ff, hM⟩ := hM
  exact sL_isClashes_b4 O ff _ _ _ hM
def mL_spaced_b24 (Q : Hp → Prop) : Nat → Int → Int → Hp → Prop
  | 0 => fun _ _ _ => False
  | fu24 + 1 => fun v1 v2 h => ((v2 ≤ 0 → (Q h)) ∧ (¬ v2 ≤ 0 → (((0 : Int) ≤ v1 ∧ (0 : Int) < v2) ∧ (((0 : Int) ≤ (v1 / v2) ∧ (0 : Int) < 10) ∧ (zr (48 + ((v1 / v2) % 10)) ∧ (((0 : Int) ≤ (h 185 1) ∧ (h 185 1) < 1000) ∧ (∀ h8 : Hp, h8 = wr h 186 (h 185 1) (48 + ((v1 / v2) % 10)) → (zr ((h8 185 1) + 1) ∧ (∀ h9 : Hp, h9 = hu h8 185 1 ((h8 185 1) + 1) → (((0 : Int) ≤ v2 ∧ (0 : Int) < 10) ∧ ((mL_spaced_b24 Q fu24) v1 (v2 / 10) h9)))))))))))
set_option maxHeartbeats 4000000 in
set_option maxRecDepth 100000 in
theorem sL_spaced_b24 {l0 : Launch} {a : ZC}  {Q : Hp → Prop}  (O : zOk l0 a cL_spaced RL 3 none 187 [])   : ∀ (ff : Nat) (v1 : Int) (v2 : Int) (h : Hp), mL_spaced_b24 Q ff v1 v2 h → zV a (6, 0, 0, (qV Q), xN) 0 0 24 [some (aR 185), some (aI v1), some (aI v2)] [] h := by
  intro ff
  induction ff with
  | zero => intro v1 v2 h hM; exact hM.elim
  | succ ff ih =>
    have hK24 := ih
    intro v1 v2 h hM
    unfold mL_spaced_b24 at hM
    refine zV_iload_n O dL_spaced_24 rfl rfl ?_
    refine zV_if_le (tgt := 64) O dL_spaced_25 (by decide) (fun hc => ?_) (fun hc => ?_)
    · replace hM := hM.1 hc
      exact zV_vret O rfl ⟨rfl, hM⟩ (Nat.le_of_ble_eq_true rfl) (Nat.le_of_ble_eq_true rfl) dL_spaced_64
    · replace hM := hM.2 hc
      refine zV_aload_n O dL_spaced_28 rfl rfl ?_
      refine zV_getR O zf_RL_7 zt_185 rfl (by decide) dL_spaced_29 ?_
      refine zV_aload_n O dL_spaced_32 rfl rfl ?_
      refine zV_getI O zf_RL_19 zt_185 rfl (by decide) dL_spaced_33 ?_
      refine zV_bipush (z := 48) O ⟨by omega, by omega⟩ rfl dL_spaced_36 ?_
      refine zV_iload_n O dL_spaced_38 rfl rfl ?_
      refine zV_iload_n O dL_spaced_39 rfl rfl ?_
      obtain ⟨hc, hM⟩ := hM
      refine zV_idiv O dL_spaced_40 hc ?_
      refine zV_bipush (z := 10) O ⟨by omega, by omega⟩ rfl dL_spaced_41 ?_
      obtain ⟨hc, hM⟩ := hM
      refine zV_irem O dL_spaced_43 hc ?_
      obtain ⟨hc, hM⟩ := hM
      refine zV_iadd O dL_spaced_44 hc ?_
      obtain ⟨hc, hM⟩ := hM
      refine zV_iast O zt_186 (by decide) hc dL_spaced_45 ?_
      have hM := hM (hu h 186 (Int.toNat (h 185 1)) (48 + ((v1 / v2) % 10))) rfl
      generalize hu h 186 (Int.toNat (h 185 1)) (48 + ((v1 / v2) % 10)) = h8 at hM ⊢
      refine zV_aload_n O dL_spaced_46 rfl rfl ?_
      refine zV_dup O rfl dL_spaced_47 ?_
      refine zV_getI O zf_RL_19 zt_185 rfl (by decide) dL_spaced_48 ?_
      refine zV_iconst (z := 1) O ⟨by omega, by omega⟩ dL_spaced_51 ?_
      obtain ⟨hc, hM⟩ := hM
      refine zV_iadd O dL_spaced_52 hc ?_
      refine zV_putI O zf_RL_19 zt_185 rfl (by decide) dL_spaced_53 ?_
      have hM := hM _ rfl
      generalize hu h8 185 1 ((h8 185 1) + 1) = h9 at hM ⊢
      refine zV_iload_n O dL_spaced_56 rfl rfl ?_
      refine zV_bipush (z := 10) O ⟨by omega, by omega⟩ rfl dL_spaced_57 ?_
      obtain ⟨hc, hM⟩ := hM
      refine zV_idiv O dL_spaced_59 hc ?_
      refine zV_istore_n O dL_spaced_60 rfl (Nat.le_of_ble_eq_true rfl) rfl ?_
      refine zV_goto (tgt := 24) O dL_spaced_61 (by decide) ?_
      exact hK24 _ _ _ hM
def mL_spaced_b8 (Q : Hp → Prop) : Nat → Int → Int → Hp → Prop
  | 0 => fun _ _ _ => False
  | fu8 + 1 => fun v1 v2 h => (((0 : Int) ≤ v1 ∧ (0 : Int) < v2) ∧ (((v1 / v2) ≤ (9 : Int) → (∃ ff, mL_spaced_b24 Q ff v1 v2 h)) ∧ (¬ (v1 / v2) ≤ (9 : Int) → (zr (v2 * 10) ∧ ((mL_spaced_b8 Q fu8) v1 (v2 * 10) h)))))
set_option maxHeartbeats 4000000 in
set_option maxRecDepth 100000 in
theorem sL_spaced_b8 {l0 : Launch} {a : ZC}  {Q : Hp → Prop}  (O : zOk l0 a cL_spaced RL 3 none 187 [])   : ∀ (ff : Nat) (v1 : Int) (v2 : Int) (h : Hp), mL_spaced_b8 Q ff v1 v2 h → zV a (6, 0, 0, (qV Q), xN) 0 0 8 [some (aR 185), some (aI v1), some (aI v2)] [] h := by
  intro ff
  induction ff with
  | zero => intro v1 v2 h hM; exact hM.elim
  | succ ff ih =>
    have hK8 := ih
    intro v1 v2 h hM
    unfold mL_spaced_b8 at hM
    refine zV_iload_n O dL_spaced_8 rfl rfl ?_
    refine zV_iload_n O dL_spaced_9 rfl rfl ?_
    obtain ⟨hc, hM⟩ := hM
    refine zV_idiv O dL_spaced_10 hc ?_
    refine zV_bipush (z := 9) O ⟨by omega, by omega⟩ rfl dL_spaced_11 ?_
    refine zV_icmp_le (tgt := 24) O dL_spaced_13 (by decide) (fun hc => ?_) (fun hc => ?_)
    · replace hM := hM.1 hc
      obtain ⟨ff, hM⟩ := hM
      exact sL_spaced_b24 O ff _ _ _ hM
    · replace hM := hM.2 hc
      refine zV_iload_n O dL_spaced_16 rfl rfl ?_
      refine zV_bipush (z := 10) O ⟨by omega, by omega⟩ rfl dL_spaced_17 ?_
      obtain ⟨hc, hM⟩ := hM
      refine zV_imul O dL_spaced_19 hc ?_
      refine zV_istore_n O dL_spaced_20 rfl (Nat.le_of_ble_eq_true rfl) rfl ?_
      refine zV_goto (tgt := 8) O dL_spaced_21 (by decide) ?_
      exact hK8 _ _ _ hM
def mL_spaced (x1 : Int) (h : Hp) (Q : Hp → Prop) : Prop := (mL_writes 11 h (fun h10 => (∃ ff, mL_spaced_b8 Q ff x1 1 h10)))
set_option maxHeartbeats 4000000 in
set_option maxRecDepth 100000 in
theorem sL_spaced {l0 : Launch} {x1 : Int} {h : Hp} {Q : Hp → Prop}  (hM : mL_spaced x1 h Q) : zSp l0 yL_spaced cL_spaced 3 none 187 (6) 0 0 [aR 185, aI x1] h (qV Q) xN := by
  unfold mL_spaced at hM
  refine zSp_intro zpn_RL (Nat.le_of_ble_eq_true rfl) (fun a O => ?_)
  show zV a (6, 0, 0, (qV Q), xN) 0 0 0 [some (aR 185), some (aI x1), none] [] h
  refine zV_aload_n O dL_spaced_0 rfl rfl ?_
  refine zV_ldcS (w := 11) O ⟨by decide, rfl, rfl⟩ dL_spaced_1 ?_
  refine zV_callV (as := [aR (1000 + 11)]) (st := []) O zc_L_writes (Or.inl zl_RL_29) zi_386 zi_2 zt_185 rfl rfl (by decide) (Nat.le_of_ble_eq_true rfl) rfl rfl (Nat.le_of_ble_eq_true rfl) (Nat.le_of_ble_eq_true rfl) (Nat.le_of_ble_eq_true rfl) (Nat.le_of_ble_eq_true rfl) (Nat.le_of_ble_eq_true rfl) (Nat.le_of_ble_eq_true rfl) dL_spaced_3 (sL_writes (by decide : 11 < zSN) hM) (fun r h10 hq => ?_) (fun x h9 hq => hq.elim)
  obtain ⟨rfl, hM⟩ := hq
  refine zV_iconst (z := 1) O ⟨by omega, by omega⟩ dL_spaced_6 ?_
  refine zV_istore_n O dL_spaced_7 rfl (Nat.le_of_ble_eq_true rfl) rfl ?_
  obtain ⟨ff, hM⟩ := hM
  exact sL_spaced_b8 O ff _ _ _ hM
def mL_isRight_b230 (Q : Int → Hp → Prop) (K6 : Int → Int → Int → Hp → Prop) (K178 : Int → Int → Int → Int → Int → Hp → Prop) (v1 : Int) (v2 : Int) (v3 : Int) (v4 : Int) (v6 : Int) (h : Hp) : Prop := (zr (v6 + 1) ∧ (K178 v1 v2 v3 v4 (v6 + 1) h))
set_option maxHeartbeats 4000000 in
set_option maxRecDepth 100000 in
theorem sL_isRight_b230 {l0 : Launch} {a : ZC}  {Q : Int → Hp → Prop} {K6 : Int → Int → Int → Hp → Prop} {K178 : Int → Int → Int → Int → Int → Hp → Prop} (O : zOk l0 a cL_isRight RL 7 (some .boolean) 185 [])  (hK6 : ∀ (v1 : Int) (v2 : Int) (v3 : Int) (h : Hp), K6 v1 v2 v3 h → zV a (7, 0, 0, (qZ Q), xN) 0 0 6 [some (aR 169), some (aI v1), some (aI v2), some (aI v3), none, none, none] [] h) (hK178 : ∀ (v1 : Int) (v2 : Int) (v3 : Int) (v4 : Int) (v6 : Int) (h : Hp), K178 v1 v2 v3 v4 v6 h → zV a (7, 0, 0, (qZ Q), xN) 0 0 178 [some (aR 169), some (aI v1), some (aI v2), some (aI v3), some (aI v4), none, some (aI v6)] [] h) {v1 : Int} {v2 : Int} {v3 : Int} {v4 : Int} {v6 : Int} {h : Hp}  (hM : mL_isRight_b230 Q K6 K178 v1 v2 v3 v4 v6 h) : zV a (7, 0, 0, (qZ Q), xN) 0 0 230 [some (aR 169), some (aI v1), some (aI v2), some (aI v3), some (aI v4), none, some (aI v6)] [] h := by
  unfold mL_isRight_b230 at hM
  obtain ⟨hc, hM⟩ := hM
  refine zV_iinc O dL_isRight_230 rfl (Nat.le_of_ble_eq_true rfl) rfl hc ?_
  refine zV_goto (tgt := 178) O dL_isRight_233 (by decide) ?_
  exact hK178 _ _ _ _ _ _ hM
def mL_isRight_b178 (Q : Int → Hp → Prop) (K6 : Int → Int → Int → Hp → Prop) : Nat → Int → Int → Int → Int → Int → Hp → Prop
  | 0 => fun _ _ _ _ _ _ => False
  | fu178 + 1 => fun v1 v2 v3 v4 v6 h => ((v3 ≤ v6 → (zr (v3 + 1) ∧ (K6 v1 v2 (v3 + 1) h))) ∧ (¬ v3 ≤ v6 → (mL_areOfNet v3 v6 h (fun z90 h91 => ((¬ z90 = 0 → (mX7_host v3 1 h91 (fun z92 => (mL_holds v6 z92 h91 (fun z93 => ((¬ z93 = 0 → (Q 0 h91)) ∧ (z93 = 0 → ((v4 ≤ 0 → (mL_isRight_b230 Q K6 (mL_isRight_b178 Q K6 fu178) v1 v2 v3 v4 v6 h91)) ∧ (¬ v4 ≤ 0 → (mL_holds v6 v4 h91 (fun z94 => ((z94 = 0 → (mL_isRight_b230 Q K6 (mL_isRight_b178 Q K6 fu178) v1 v2 v3 v4 v6 h91)) ∧ (¬ z94 = 0 → (Q 0 h91)))))))))))))) ∧ (z90 = 0 → (mL_isRight_b230 Q K6 (mL_isRight_b178 Q K6 fu178) v1 v2 v3 v4 v6 h91)))))))
set_option maxHeartbeats 4000000 in
set_option maxRecDepth 100000 in
theorem sL_isRight_b178 {l0 : Launch} {a : ZC}  {Q : Int → Hp → Prop} {K6 : Int → Int → Int → Hp → Prop} (O : zOk l0 a cL_isRight RL 7 (some .boolean) 185 [])  (hK6 : ∀ (v1 : Int) (v2 : Int) (v3 : Int) (h : Hp), K6 v1 v2 v3 h → zV a (7, 0, 0, (qZ Q), xN) 0 0 6 [some (aR 169), some (aI v1), some (aI v2), some (aI v3), none, none, none] [] h) : ∀ (ff : Nat) (v1 : Int) (v2 : Int) (v3 : Int) (v4 : Int) (v6 : Int) (h : Hp), mL_isRight_b178 Q K6 ff v1 v2 v3 v4 v6 h → zV a (7, 0, 0, (qZ Q), xN) 0 0 178 [some (aR 169), some (aI v1), some (aI v2), some (aI v3), some (aI v4), none, some (aI v6)] [] h := by
  intro ff
  induction ff with
  | zero => intro v1 v2 v3 v4 v6 h hM; exact hM.elim
  | succ ff ih =>
    have hK178 := ih
    intro v1 v2 v3 v4 v6 h hM
    unfold mL_isRight_b178 at hM
    refine zV_iload O dL_isRight_178 rfl ?_
    refine zV_iload_n O dL_isRight_180 rfl rfl ?_
    refine zV_icmp_ge (tgt := 236) O dL_isRight_181 (by decide) (fun hc => ?_) (fun hc => ?_)
    · replace hM := hM.1 hc
      obtain ⟨hc, hM⟩ := hM
      refine zV_iinc O dL_isRight_236 rfl (Nat.le_of_ble_eq_true rfl) rfl hc ?_
      refine zV_goto (tgt := 6) O dL_isRight_239 (by decide) ?_
      refine zV_sub (ls2 := [some (aR 169), some (aI v1), some (aI v2), some (aI (v3 + 1)), none, none, none]) ⟨rfl, rfl, rfl, rfl, trivial⟩ ?_
      exact hK6 _ _ _ _ hM
    · replace hM := hM.2 hc
      refine zV_aload_n O dL_isRight_184 rfl rfl ?_
      refine zV_iload_n O dL_isRight_185 rfl rfl ?_
      refine zV_iload O dL_isRight_186 rfl ?_
      refine zV_callS (as := [aR 169, aI v3, aI v6]) (st := []) O zc_L_areOfNet (Or.inl zl_RL_158) zi_755 (Nat.le_of_ble_eq_true rfl) rfl rfl (Nat.le_of_ble_eq_true rfl) (Nat.le_of_ble_eq_true rfl) (Nat.le_of_ble_eq_true rfl) (Nat.le_of_ble_eq_true rfl) (Nat.le_of_ble_eq_true rfl) (Nat.le_of_ble_eq_true rfl) dL_isRight_188 (sL_areOfNet hM) (fun r h91 hq => ?_) (fun x h9 hq => hq.elim)
      obtain ⟨z90, rfl, hzz90, hM⟩ := hq
      refine zV_if_ne (tgt := 197) O dL_isRight_191 (by decide) (fun hc => ?_) (fun hc => ?_)
      · replace hM := hM.1 hc
        refine zV_aload_n O dL_isRight_197 rfl rfl ?_
        refine zV_iload O dL_isRight_198 rfl ?_
        refine zV_aload_n O dL_isRight_200 rfl rfl ?_
        refine zV_iload_n O dL_isRight_201 rfl rfl ?_
        refine zV_iconst (z := 1) O ⟨by omega, by omega⟩ dL_isRight_202 ?_
        refine zV_callV (as := [aI v3, aI 1]) (st := [aI v6, aR 169]) O zc_X7_host (Or.inl zl_RL_132) zi_746 zi_747 zt_169 rfl rfl (by decide) (Nat.le_of_ble_eq_true rfl) rfl rfl (Nat.le_of_ble_eq_true rfl) (Nat.le_of_ble_eq_true rfl) (Nat.le_of_ble_eq_true rfl) (Nat.le_of_ble_eq_true rfl) (Nat.le_of_ble_eq_true rfl) (Nat.le_of_ble_eq_true rfl) dL_isRight_203 (sX7_host hM) (fun r h9 hq => ?_) (fun x h9 hq => hq.elim)
        obtain ⟨rfl, z92, rfl, hM⟩ := hq
        refine zV_callS (as := [aR 169, aI v6, aI z92]) (st := []) O zc_L_holds (Or.inl zl_RL_162) zi_758 (Nat.le_of_ble_eq_true rfl) rfl rfl (Nat.le_of_ble_eq_true rfl) (Nat.le_of_ble_eq_true rfl) (Nat.le_of_ble_eq_true rfl) (Nat.le_of_ble_eq_true rfl) (Nat.le_of_ble_eq_true rfl) (Nat.le_of_ble_eq_true rfl) dL_isRight_206 (sL_holds hM) (fun r h9 hq => ?_) (fun x h9 hq => hq.elim)
        obtain ⟨rfl, z93, rfl, hzz93, hM⟩ := hq
        refine zV_if_ne (tgt := 228) O dL_isRight_209 (by decide) (fun hc => ?_) (fun hc => ?_)
        · replace hM := hM.1 hc
          refine zV_iconst (z := 0) O ⟨by omega, by omega⟩ dL_isRight_228 ?_
          exact zV_zret O rfl (Or.inl rfl) ⟨_, rfl, (Or.inl rfl), hM⟩ (Nat.le_of_ble_eq_true rfl) (Nat.le_of_ble_eq_true rfl) dL_isRight_229
        · replace hM := hM.2 hc
          refine zV_iload O dL_isRight_212 rfl ?_
          refine zV_if_le (tgt := 230) O dL_isRight_214 (by decide) (fun hc => ?_) (fun hc => ?_)
          · replace hM := hM.1 hc
            exact sL_isRight_b230 O hK6 hK178 hM
          · replace hM := hM.2 hc
            refine zV_aload_n O dL_isRight_217 rfl rfl ?_
            refine zV_iload O dL_isRight_218 rfl ?_
            refine zV_iload O dL_isRight_220 rfl ?_
            refine zV_callS (as := [aR 169, aI v6, aI v4]) (st := []) O zc_L_holds (Or.inl zl_RL_162) zi_758 (Nat.le_of_ble_eq_true rfl) rfl rfl (Nat.le_of_ble_eq_true rfl) (Nat.le_of_ble_eq_true rfl) (Nat.le_of_ble_eq_true rfl) (Nat.le_of_ble_eq_true rfl) (Nat.le_of_ble_eq_true rfl) (Nat.le_of_ble_eq_true rfl) dL_isRight_222 (sL_holds hM) (fun r h9 hq => ?_) (fun x h9 hq => hq.elim)
            obtain ⟨rfl, z94, rfl, hzz94, hM⟩ := hq
            refine zV_if_eq (tgt := 230) O dL_isRight_225 (by decide) (fun hc => ?_) (fun hc => ?_)
            · replace hM := hM.1 hc
              exact sL_isRight_b230 O hK6 hK178 hM
            · replace hM := hM.2 hc
              refine zV_iconst (z := 0) O ⟨by omega, by omega⟩ dL_isRight_228 ?_
              exact zV_zret O rfl (Or.inl rfl) ⟨_, rfl, (Or.inl rfl), hM⟩ (Nat.le_of_ble_eq_true rfl) (Nat.le_of_ble_eq_true rfl) dL_isRight_229
      · replace hM := hM.2 hc
        refine zV_goto (tgt := 230) O dL_isRight_194 (by decide) ?_
        exact sL_isRight_b230 O hK6 hK178 hM
def mL_isRight_b175 (Q : Int → Hp → Prop) (K6 : Int → Int → Int → Hp → Prop) (v1 : Int) (v2 : Int) (v3 : Int) (v4 : Int) (h : Hp) : Prop := (∃ ff, mL_isRight_b178 Q K6 ff v1 v2 v3 v4 0 h)
set_option maxHeartbeats 4000000 in
set_option maxRecDepth 100000 in
theorem sL_isRight_b175 {l0 : Launch} {a : ZC}  {Q : Int → Hp → Prop} {K6 : Int → Int → Int → Hp → Prop} (O : zOk l0 a cL_isRight RL 7 (some .boolean) 185 [])  (hK6 : ∀ (v1 : Int) (v2 : Int) (v3 : Int) (h : Hp), K6 v1 v2 v3 h → zV a (7, 0, 0, (qZ Q), xN) 0 0 6 [some (aR 169), some (aI v1), some (aI v2), some (aI v3), none, none, none] [] h) {v1 : Int} {v2 : Int} {v3 : Int} {v4 : Int} {h : Hp}  (hM : mL_isRight_b175 Q K6 v1 v2 v3 v4 h) : zV a (7, 0, 0, (qZ Q), xN) 0 0 175 [some (aR 169), some (aI v1), some (aI v2), some (aI v3), some (aI v4), none, none] [] h := by
  unfold mL_isRight_b175 at hM
  refine zV_iconst (z := 0) O ⟨by omega, by omega⟩ dL_isRight_175 ?_
  refine zV_istore O dL_isRight_176 (Nat.le_of_ble_eq_true rfl) rfl ?_
  obtain ⟨ff, hM⟩ := hM
  exact sL_isRight_b178 O hK6 ff _ _ _ _ _ _ hM
def mL_isRight_b155 (Q : Int → Hp → Prop) (K6 : Int → Int → Int → Hp → Prop) (v1 : Int) (v2 : Int) (v3 : Int) (v4 : Int) (h : Hp) : Prop := (mX7_host v3 5 h (fun z95 => ((¬ z95 = 0 → (mL_isRight_b175 Q K6 v1 v2 v3 v4 h)) ∧ (z95 = 0 → (mX7_host v3 4 h (fun z96 => ((z96 = 0 → (mL_isRight_b175 Q K6 v1 v2 v3 v4 h)) ∧ (¬ z96 = 0 → (Q 0 h)))))))))
set_option maxHeartbeats 4000000 in
set_option maxRecDepth 100000 in
theorem sL_isRight_b155 {l0 : Launch} {a : ZC}  {Q : Int → Hp → Prop} {K6 : Int → Int → Int → Hp → Prop} (O : zOk l0 a cL_isRight RL 7 (some .boolean) 185 [])  (hK6 : ∀ (v1 : Int) (v2 : Int) (v3 : Int) (h : Hp), K6 v1 v2 v3 h → zV a (7, 0, 0, (qZ Q), xN) 0 0 6 [some (aR 169), some (aI v1), some (aI v2), some (aI v3), none, none, none] [] h) {v1 : Int} {v2 : Int} {v3 : Int} {v4 : Int} {h : Hp}  (hM : mL_isRight_b155 Q K6 v1 v2 v3 v4 h) : zV a (7, 0, 0, (qZ Q), xN) 0 0 155 [some (aR 169), some (aI v1), some (aI v2), some (aI v3), some (aI v4), none, none] [] h := by
  unfold mL_isRight_b155 at hM
  refine zV_aload_n O dL_isRight_155 rfl rfl ?_
  refine zV_iload_n O dL_isRight_156 rfl rfl ?_
  refine zV_iconst (z := 5) O ⟨by omega, by omega⟩ dL_isRight_157 ?_
  refine zV_callV (as := [aI v3, aI 5]) (st := []) O zc_X7_host (Or.inl zl_RL_132) zi_746 zi_747 zt_169 rfl rfl (by decide) (Nat.le_of_ble_eq_true rfl) rfl rfl (Nat.le_of_ble_eq_true rfl) (Nat.le_of_ble_eq_true rfl) (Nat.le_of_ble_eq_true rfl) (Nat.le_of_ble_eq_true rfl) (Nat.le_of_ble_eq_true rfl) (Nat.le_of_ble_eq_true rfl) dL_isRight_158 (sX7_host hM) (fun r h9 hq => ?_) (fun x h9 hq => hq.elim)
  obtain ⟨rfl, z95, rfl, hM⟩ := hq
  refine zV_if_ne (tgt := 175) O dL_isRight_161 (by decide) (fun hc => ?_) (fun hc => ?_)
  · replace hM := hM.1 hc
    exact sL_isRight_b175 O hK6 hM
  · replace hM := hM.2 hc
    refine zV_aload_n O dL_isRight_164 rfl rfl ?_
    refine zV_iload_n O dL_isRight_165 rfl rfl ?_
    refine zV_iconst (z := 4) O ⟨by omega, by omega⟩ dL_isRight_166 ?_
    refine zV_callV (as := [aI v3, aI 4]) (st := []) O zc_X7_host (Or.inl zl_RL_132) zi_746 zi_747 zt_169 rfl rfl (by decide) (Nat.le_of_ble_eq_true rfl) rfl rfl (Nat.le_of_ble_eq_true rfl) (Nat.le_of_ble_eq_true rfl) (Nat.le_of_ble_eq_true rfl) (Nat.le_of_ble_eq_true rfl) (Nat.le_of_ble_eq_true rfl) (Nat.le_of_ble_eq_true rfl) dL_isRight_167 (sX7_host hM) (fun r h9 hq => ?_) (fun x h9 hq => hq.elim)
    obtain ⟨rfl, z96, rfl, hM⟩ := hq
    refine zV_if_eq (tgt := 175) O dL_isRight_170 (by decide) (fun hc => ?_) (fun hc => ?_)
    · replace hM := hM.1 hc
      exact sL_isRight_b175 O hK6 hM
    · replace hM := hM.2 hc
      refine zV_iconst (z := 0) O ⟨by omega, by omega⟩ dL_isRight_173 ?_
      exact zV_zret O rfl (Or.inl rfl) ⟨_, rfl, (Or.inl rfl), hM⟩ (Nat.le_of_ble_eq_true rfl) (Nat.le_of_ble_eq_true rfl) dL_isRight_174
def mL_isRight_b98 (Q : Int → Hp → Prop) (K6 : Int → Int → Int → Hp → Prop) (v1 : Int) (v2 : Int) (v3 : Int) (v4 : Int) (v5 : Int) (s0 : Int) (s1 : Int) (h : Hp) : Prop := ((¬ s1 = s0 → (Q 0 h)) ∧ (s1 = s0 → (mX7_size 3 h (fun z97 h98 => ((v5 ≤ z97 → (mX7_host v3 5 h98 (fun z99 => ((z99 ≤ 0 → (mL_isRight_b155 Q K6 v1 v2 v3 v4 h98)) ∧ (¬ z99 ≤ 0 → (mX7_host v3 3 h98 (fun z100 => ((z100 = (1 : Int) → (Q 0 h98)) ∧ (¬ z100 = (1 : Int) → (mX7_host v3 5 h98 (fun z101 => (mX7_size 3 h98 (fun z102 h103 => ((z101 ≤ z102 → (Q 0 h103)) ∧ (¬ z101 ≤ z102 → (mX7_host v3 4 h103 (fun z104 => ((z104 = 0 → (Q 0 h103)) ∧ (¬ z104 = 0 → (mL_isRight_b155 Q K6 v1 v2 v3 v4 h103)))))))))))))))))))) ∧ (¬ v5 ≤ z97 → (Q 0 h98)))))))
set_option maxHeartbeats 4000000 in
set_option maxRecDepth 100000 in
theorem sL_isRight_b98 {l0 : Launch} {a : ZC}  {Q : Int → Hp → Prop} {K6 : Int → Int → Int → Hp → Prop} (O : zOk l0 a cL_isRight RL 7 (some .boolean) 185 [])  (hK6 : ∀ (v1 : Int) (v2 : Int) (v3 : Int) (h : Hp), K6 v1 v2 v3 h → zV a (7, 0, 0, (qZ Q), xN) 0 0 6 [some (aR 169), some (aI v1), some (aI v2), some (aI v3), none, none, none] [] h) {v1 : Int} {v2 : Int} {v3 : Int} {v4 : Int} {v5 : Int} {s0 : Int} {s1 : Int} {h : Hp} (hz_s0 : s0 = 0 ∨ s0 = 1) (hz_s1 : s1 = 0 ∨ s1 = 1) (hM : mL_isRight_b98 Q K6 v1 v2 v3 v4 v5 s0 s1 h) : zV a (7, 0, 0, (qZ Q), xN) 0 0 98 [some (aR 169), some (aI v1), some (aI v2), some (aI v3), some (aI v4), some (aI v5), none] [aI s0, aI s1] h := by
  unfold mL_isRight_b98 at hM
  refine zV_icmp_ne (tgt := 111) O dL_isRight_98 (by decide) (fun hc => ?_) (fun hc => ?_)
  · replace hM := hM.1 hc
    refine zV_iconst (z := 0) O ⟨by omega, by omega⟩ dL_isRight_111 ?_
    exact zV_zret O rfl (Or.inl rfl) ⟨_, rfl, (Or.inl rfl), hM⟩ (Nat.le_of_ble_eq_true rfl) (Nat.le_of_ble_eq_true rfl) dL_isRight_112
  · replace hM := hM.2 hc
    refine zV_iload O dL_isRight_101 rfl ?_
    refine zV_aload_n O dL_isRight_103 rfl rfl ?_
    refine zV_iconst (z := 3) O ⟨by omega, by omega⟩ dL_isRight_104 ?_
    refine zV_callV (as := [aI 3]) (st := [aI v5]) O zc_X7_size (Or.inl zl_RL_82) zi_690 zi_691 zt_169 rfl rfl (by decide) (Nat.le_of_ble_eq_true rfl) rfl rfl (Nat.le_of_ble_eq_true rfl) (Nat.le_of_ble_eq_true rfl) (Nat.le_of_ble_eq_true rfl) (Nat.le_of_ble_eq_true rfl) (Nat.le_of_ble_eq_true rfl) (Nat.le_of_ble_eq_true rfl) dL_isRight_105 (sX7_size hM) (fun r h98 hq => ?_) (fun x h9 hq => hq.elim)
    obtain ⟨z97, rfl, hM⟩ := hq
    refine zV_icmp_le (tgt := 113) O dL_isRight_108 (by decide) (fun hc => ?_) (fun hc => ?_)
    · replace hM := hM.1 hc
      refine zV_aload_n O dL_isRight_113 rfl rfl ?_
      refine zV_iload_n O dL_isRight_114 rfl rfl ?_
      refine zV_iconst (z := 5) O ⟨by omega, by omega⟩ dL_isRight_115 ?_
      refine zV_callV (as := [aI v3, aI 5]) (st := []) O zc_X7_host (Or.inl zl_RL_132) zi_746 zi_747 zt_169 rfl rfl (by decide) (Nat.le_of_ble_eq_true rfl) rfl rfl (Nat.le_of_ble_eq_true rfl) (Nat.le_of_ble_eq_true rfl) (Nat.le_of_ble_eq_true rfl) (Nat.le_of_ble_eq_true rfl) (Nat.le_of_ble_eq_true rfl) (Nat.le_of_ble_eq_true rfl) dL_isRight_116 (sX7_host hM) (fun r h9 hq => ?_) (fun x h9 hq => hq.elim)
      obtain ⟨rfl, z99, rfl, hM⟩ := hq
      refine zV_if_le (tgt := 155) O dL_isRight_119 (by decide) (fun hc => ?_) (fun hc => ?_)
      · replace hM := hM.1 hc
        refine zV_sub (ls2 := [some (aR 169), some (aI v1), some (aI v2), some (aI v3), some (aI v4), none, none]) ⟨rfl, rfl, rfl, rfl, rfl, trivial⟩ ?_
        exact sL_isRight_b155 O hK6 hM
      · replace hM := hM.2 hc
        refine zV_aload_n O dL_isRight_122 rfl rfl ?_
        refine zV_iload_n O dL_isRight_123 rfl rfl ?_
        refine zV_iconst (z := 3) O ⟨by omega, by omega⟩ dL_isRight_124 ?_
        refine zV_callV (as := [aI v3, aI 3]) (st := []) O zc_X7_host (Or.inl zl_RL_132) zi_746 zi_747 zt_169 rfl rfl (by decide) (Nat.le_of_ble_eq_true rfl) rfl rfl (Nat.le_of_ble_eq_true rfl) (Nat.le_of_ble_eq_true rfl) (Nat.le_of_ble_eq_true rfl) (Nat.le_of_ble_eq_true rfl) (Nat.le_of_ble_eq_true rfl) (Nat.le_of_ble_eq_true rfl) dL_isRight_125 (sX7_host hM) (fun r h9 hq => ?_) (fun x h9 hq => hq.elim)
        obtain ⟨rfl, z100, rfl, hM⟩ := hq
        refine zV_iconst (z := 1) O ⟨by omega, by omega⟩ dL_isRight_128 ?_
        refine zV_icmp_eq (tgt := 173) O dL_isRight_129 (by decide) (fun hc => ?_) (fun hc => ?_)
        · replace hM := hM.1 hc
          refine zV_iconst (z := 0) O ⟨by omega, by omega⟩ dL_isRight_173 ?_
          exact zV_zret O rfl (Or.inl rfl) ⟨_, rfl, (Or.inl rfl), hM⟩ (Nat.le_of_ble_eq_true rfl) (Nat.le_of_ble_eq_true rfl) dL_isRight_174
        · replace hM := hM.2 hc
          refine zV_aload_n O dL_isRight_132 rfl rfl ?_
          refine zV_iload_n O dL_isRight_133 rfl rfl ?_
          refine zV_iconst (z := 5) O ⟨by omega, by omega⟩ dL_isRight_134 ?_
          refine zV_callV (as := [aI v3, aI 5]) (st := []) O zc_X7_host (Or.inl zl_RL_132) zi_746 zi_747 zt_169 rfl rfl (by decide) (Nat.le_of_ble_eq_true rfl) rfl rfl (Nat.le_of_ble_eq_true rfl) (Nat.le_of_ble_eq_true rfl) (Nat.le_of_ble_eq_true rfl) (Nat.le_of_ble_eq_true rfl) (Nat.le_of_ble_eq_true rfl) (Nat.le_of_ble_eq_true rfl) dL_isRight_135 (sX7_host hM) (fun r h9 hq => ?_) (fun x h9 hq => hq.elim)
          obtain ⟨rfl, z101, rfl, hM⟩ := hq
          refine zV_aload_n O dL_isRight_138 rfl rfl ?_
          refine zV_iconst (z := 3) O ⟨by omega, by omega⟩ dL_isRight_139 ?_
          refine zV_callV (as := [aI 3]) (st := [aI z101]) O zc_X7_size (Or.inl zl_RL_82) zi_690 zi_691 zt_169 rfl rfl (by decide) (Nat.le_of_ble_eq_true rfl) rfl rfl (Nat.le_of_ble_eq_true rfl) (Nat.le_of_ble_eq_true rfl) (Nat.le_of_ble_eq_true rfl) (Nat.le_of_ble_eq_true rfl) (Nat.le_of_ble_eq_true rfl) (Nat.le_of_ble_eq_true rfl) dL_isRight_140 (sX7_size hM) (fun r h103 hq => ?_) (fun x h9 hq => hq.elim)
          obtain ⟨z102, rfl, hM⟩ := hq
          refine zV_icmp_le (tgt := 173) O dL_isRight_143 (by decide) (fun hc => ?_) (fun hc => ?_)
          · replace hM := hM.1 hc
            refine zV_iconst (z := 0) O ⟨by omega, by omega⟩ dL_isRight_173 ?_
            exact zV_zret O rfl (Or.inl rfl) ⟨_, rfl, (Or.inl rfl), hM⟩ (Nat.le_of_ble_eq_true rfl) (Nat.le_of_ble_eq_true rfl) dL_isRight_174
          · replace hM := hM.2 hc
            refine zV_aload_n O dL_isRight_146 rfl rfl ?_
            refine zV_iload_n O dL_isRight_147 rfl rfl ?_
            refine zV_iconst (z := 4) O ⟨by omega, by omega⟩ dL_isRight_148 ?_
            refine zV_callV (as := [aI v3, aI 4]) (st := []) O zc_X7_host (Or.inl zl_RL_132) zi_746 zi_747 zt_169 rfl rfl (by decide) (Nat.le_of_ble_eq_true rfl) rfl rfl (Nat.le_of_ble_eq_true rfl) (Nat.le_of_ble_eq_true rfl) (Nat.le_of_ble_eq_true rfl) (Nat.le_of_ble_eq_true rfl) (Nat.le_of_ble_eq_true rfl) (Nat.le_of_ble_eq_true rfl) dL_isRight_149 (sX7_host hM) (fun r h9 hq => ?_) (fun x h9 hq => hq.elim)
            obtain ⟨rfl, z104, rfl, hM⟩ := hq
            refine zV_if_eq (tgt := 173) O dL_isRight_152 (by decide) (fun hc => ?_) (fun hc => ?_)
            · replace hM := hM.1 hc
              refine zV_iconst (z := 0) O ⟨by omega, by omega⟩ dL_isRight_173 ?_
              exact zV_zret O rfl (Or.inl rfl) ⟨_, rfl, (Or.inl rfl), hM⟩ (Nat.le_of_ble_eq_true rfl) (Nat.le_of_ble_eq_true rfl) dL_isRight_174
            · replace hM := hM.2 hc
              refine zV_sub (ls2 := [some (aR 169), some (aI v1), some (aI v2), some (aI v3), some (aI v4), none, none]) ⟨rfl, rfl, rfl, rfl, rfl, trivial⟩ ?_
              exact sL_isRight_b155 O hK6 hM
    · replace hM := hM.2 hc
      refine zV_iconst (z := 0) O ⟨by omega, by omega⟩ dL_isRight_111 ?_
      exact zV_zret O rfl (Or.inl rfl) ⟨_, rfl, (Or.inl rfl), hM⟩ (Nat.le_of_ble_eq_true rfl) (Nat.le_of_ble_eq_true rfl) dL_isRight_112
def mL_isRight_b97 (Q : Int → Hp → Prop) (K6 : Int → Int → Int → Hp → Prop) (v1 : Int) (v2 : Int) (v3 : Int) (v4 : Int) (v5 : Int) (s0 : Int) (h : Hp) : Prop := (mL_isRight_b98 Q K6 v1 v2 v3 v4 v5 0 s0 h)
set_option maxHeartbeats 4000000 in
set_option maxRecDepth 100000 in
theorem sL_isRight_b97 {l0 : Launch} {a : ZC}  {Q : Int → Hp → Prop} {K6 : Int → Int → Int → Hp → Prop} (O : zOk l0 a cL_isRight RL 7 (some .boolean) 185 [])  (hK6 : ∀ (v1 : Int) (v2 : Int) (v3 : Int) (h : Hp), K6 v1 v2 v3 h → zV a (7, 0, 0, (qZ Q), xN) 0 0 6 [some (aR 169), some (aI v1), some (aI v2), some (aI v3), none, none, none] [] h) {v1 : Int} {v2 : Int} {v3 : Int} {v4 : Int} {v5 : Int} {s0 : Int} {h : Hp} (hz_s0 : s0 = 0 ∨ s0 = 1) (hM : mL_isRight_b97 Q K6 v1 v2 v3 v4 v5 s0 h) : zV a (7, 0, 0, (qZ Q), xN) 0 0 97 [some (aR 169), some (aI v1), some (aI v2), some (aI v3), some (aI v4), some (aI v5), none] [aI s0] h := by
  unfold mL_isRight_b97 at hM
  refine zV_iconst (z := 0) O ⟨by omega, by omega⟩ dL_isRight_97 ?_
  exact sL_isRight_b98 O hK6 (Or.inl rfl) hz_s0 hM
def mL_isRight_b72 (Q : Int → Hp → Prop) (K6 : Int → Int → Int → Hp → Prop) (v1 : Int) (v2 : Int) (v3 : Int) (v4 : Int) (v5 : Int) (s0 : Int) (h : Hp) : Prop := ((v5 ≤ 0 → (mL_isRight_b97 Q K6 v1 v2 v3 v4 v5 s0 h)) ∧ (¬ v5 ≤ 0 → (mX7_size 3 h (fun z105 h106 => (mX7_size 4 h106 (fun z107 h108 => (zr (v5 + z107) ∧ (((v5 + z107) ≤ z105 → (mL_isRight_b97 Q K6 v1 v2 v3 v4 v5 s0 h108)) ∧ (¬ (v5 + z107) ≤ z105 → (mL_isRight_b98 Q K6 v1 v2 v3 v4 v5 1 s0 h108))))))))))
set_option maxHeartbeats 4000000 in
set_option maxRecDepth 100000 in
theorem sL_isRight_b72 {l0 : Launch} {a : ZC}  {Q : Int → Hp → Prop} {K6 : Int → Int → Int → Hp → Prop} (O : zOk l0 a cL_isRight RL 7 (some .boolean) 185 [])  (hK6 : ∀ (v1 : Int) (v2 : Int) (v3 : Int) (h : Hp), K6 v1 v2 v3 h → zV a (7, 0, 0, (qZ Q), xN) 0 0 6 [some (aR 169), some (aI v1), some (aI v2), some (aI v3), none, none, none] [] h) {v1 : Int} {v2 : Int} {v3 : Int} {v4 : Int} {v5 : Int} {s0 : Int} {h : Hp} (hz_s0 : s0 = 0 ∨ s0 = 1) (hM : mL_isRight_b72 Q K6 v1 v2 v3 v4 v5 s0 h) : zV a (7, 0, 0, (qZ Q), xN) 0 0 72 [some (aR 169), some (aI v1), some (aI v2), some (aI v3), some (aI v4), some (aI v5), none] [aI s0] h := by
  unfold mL_isRight_b72 at hM
  refine zV_iload O dL_isRight_72 rfl ?_
  refine zV_if_le (tgt := 97) O dL_isRight_74 (by decide) (fun hc => ?_) (fun hc => ?_)
  · replace hM := hM.1 hc
    exact sL_isRight_b97 O hK6 hz_s0 hM
  · replace hM := hM.2 hc
    refine zV_aload_n O dL_isRight_77 rfl rfl ?_
    refine zV_iconst (z := 3) O ⟨by omega, by omega⟩ dL_isRight_78 ?_
    refine zV_callV (as := [aI 3]) (st := [aI s0]) O zc_X7_size (Or.inl zl_RL_82) zi_690 zi_691 zt_169 rfl rfl (by decide) (Nat.le_of_ble_eq_true rfl) rfl rfl (Nat.le_of_ble_eq_true rfl) (Nat.le_of_ble_eq_true rfl) (Nat.le_of_ble_eq_true rfl) (Nat.le_of_ble_eq_true rfl) (Nat.le_of_ble_eq_true rfl) (Nat.le_of_ble_eq_true rfl) dL_isRight_79 (sX7_size hM) (fun r h106 hq => ?_) (fun x h9 hq => hq.elim)
    obtain ⟨z105, rfl, hM⟩ := hq
    refine zV_iload O dL_isRight_82 rfl ?_
    refine zV_aload_n O dL_isRight_84 rfl rfl ?_
    refine zV_iconst (z := 4) O ⟨by omega, by omega⟩ dL_isRight_85 ?_
    refine zV_callV (as := [aI 4]) (st := [aI v5, aI z105, aI s0]) O zc_X7_size (Or.inl zl_RL_82) zi_690 zi_691 zt_169 rfl rfl (by decide) (Nat.le_of_ble_eq_true rfl) rfl rfl (Nat.le_of_ble_eq_true rfl) (Nat.le_of_ble_eq_true rfl) (Nat.le_of_ble_eq_true rfl) (Nat.le_of_ble_eq_true rfl) (Nat.le_of_ble_eq_true rfl) (Nat.le_of_ble_eq_true rfl) dL_isRight_86 (sX7_size hM) (fun r h108 hq => ?_) (fun x h9 hq => hq.elim)
    obtain ⟨z107, rfl, hM⟩ := hq
    obtain ⟨hc, hM⟩ := hM
    refine zV_iadd O dL_isRight_89 hc ?_
    refine zV_icmp_ge (tgt := 97) O dL_isRight_90 (by decide) (fun hc => ?_) (fun hc => ?_)
    · replace hM := hM.1 hc
      exact sL_isRight_b97 O hK6 hz_s0 hM
    · replace hM := hM.2 hc
      refine zV_iconst (z := 1) O ⟨by omega, by omega⟩ dL_isRight_93 ?_
      refine zV_goto (tgt := 98) O dL_isRight_94 (by decide) ?_
      exact sL_isRight_b98 O hK6 (Or.inr rfl) hz_s0 hM
def mL_isRight_b60 (Q : Int → Hp → Prop) (K6 : Int → Int → Int → Hp → Prop) (v1 : Int) (v3 : Int) (v4 : Int) (v5 : Int) (s0 : Int) (s1 : Int) (h : Hp) : Prop := (zr (s1 + s0) ∧ ((v4 ≤ 0 → (mL_isRight_b72 Q K6 v1 (s1 + s0) v3 v4 v5 0 h)) ∧ (¬ v4 ≤ 0 → (mL_isRight_b72 Q K6 v1 (s1 + s0) v3 v4 v5 1 h))))
set_option maxHeartbeats 4000000 in
set_option maxRecDepth 100000 in
theorem sL_isRight_b60 {l0 : Launch} {a : ZC}  {Q : Int → Hp → Prop} {K6 : Int → Int → Int → Hp → Prop} (O : zOk l0 a cL_isRight RL 7 (some .boolean) 185 [])  (hK6 : ∀ (v1 : Int) (v2 : Int) (v3 : Int) (h : Hp), K6 v1 v2 v3 h → zV a (7, 0, 0, (qZ Q), xN) 0 0 6 [some (aR 169), some (aI v1), some (aI v2), some (aI v3), none, none, none] [] h) {v1 : Int} {v3 : Int} {v4 : Int} {v5 : Int} {s0 : Int} {s1 : Int} {h : Hp} (hz_s0 : s0 = 0 ∨ s0 = 1) (hM : mL_isRight_b60 Q K6 v1 v3 v4 v5 s0 s1 h) : zV a (7, 0, 0, (qZ Q), xN) 0 0 60 [some (aR 169), some (aI v1), none, some (aI v3), some (aI v4), some (aI v5), none] [aI s0, aI s1] h := by
  unfold mL_isRight_b60 at hM
  obtain ⟨hc, hM⟩ := hM
  refine zV_iadd O dL_isRight_60 hc ?_
  refine zV_istore_n O dL_isRight_61 rfl (Nat.le_of_ble_eq_true rfl) rfl ?_
  refine zV_iload O dL_isRight_62 rfl ?_
  refine zV_if_le (tgt := 71) O dL_isRight_64 (by decide) (fun hc => ?_) (fun hc => ?_)
  · replace hM := hM.1 hc
    refine zV_iconst (z := 0) O ⟨by omega, by omega⟩ dL_isRight_71 ?_
    exact sL_isRight_b72 O hK6 (Or.inl rfl) hM
  · replace hM := hM.2 hc
    refine zV_iconst (z := 1) O ⟨by omega, by omega⟩ dL_isRight_67 ?_
    refine zV_goto (tgt := 72) O dL_isRight_68 (by decide) ?_
    exact sL_isRight_b72 O hK6 (Or.inr rfl) hM
def mL_isRight_b43 (Q : Int → Hp → Prop) (K6 : Int → Int → Int → Hp → Prop) (v2 : Int) (v3 : Int) (v4 : Int) (v5 : Int) (s0 : Int) (s1 : Int) (h : Hp) : Prop := (zr (s1 + s0) ∧ (mX7_host v3 5 h (fun z109 => ((z109 ≤ 0 → (mL_isRight_b60 Q K6 (s1 + s0) v3 v4 v5 0 v2 h)) ∧ (¬ z109 ≤ 0 → (mL_isRight_b60 Q K6 (s1 + s0) v3 v4 v5 1 v2 h))))))
set_option maxHeartbeats 4000000 in
set_option maxRecDepth 100000 in
theorem sL_isRight_b43 {l0 : Launch} {a : ZC}  {Q : Int → Hp → Prop} {K6 : Int → Int → Int → Hp → Prop} (O : zOk l0 a cL_isRight RL 7 (some .boolean) 185 [])  (hK6 : ∀ (v1 : Int) (v2 : Int) (v3 : Int) (h : Hp), K6 v1 v2 v3 h → zV a (7, 0, 0, (qZ Q), xN) 0 0 6 [some (aR 169), some (aI v1), some (aI v2), some (aI v3), none, none, none] [] h) {v2 : Int} {v3 : Int} {v4 : Int} {v5 : Int} {s0 : Int} {s1 : Int} {h : Hp} (hz_s0 : s0 = 0 ∨ s0 = 1) (hM : mL_isRight_b43 Q K6 v2 v3 v4 v5 s0 s1 h) : zV a (7, 0, 0, (qZ Q), xN) 0 0 43 [some (aR 169), none, some (aI v2), some (aI v3), some (aI v4), some (aI v5), none] [aI s0, aI s1] h := by
  unfold mL_isRight_b43 at hM
  obtain ⟨hc, hM⟩ := hM
  refine zV_iadd O dL_isRight_43 hc ?_
  refine zV_istore_n O dL_isRight_44 rfl (Nat.le_of_ble_eq_true rfl) rfl ?_
  refine zV_iload_n O dL_isRight_45 rfl rfl ?_
  refine zV_aload_n O dL_isRight_46 rfl rfl ?_
  refine zV_iload_n O dL_isRight_47 rfl rfl ?_
  refine zV_iconst (z := 5) O ⟨by omega, by omega⟩ dL_isRight_48 ?_
  refine zV_callV (as := [aI v3, aI 5]) (st := [aI v2]) O zc_X7_host (Or.inl zl_RL_132) zi_746 zi_747 zt_169 rfl rfl (by decide) (Nat.le_of_ble_eq_true rfl) rfl rfl (Nat.le_of_ble_eq_true rfl) (Nat.le_of_ble_eq_true rfl) (Nat.le_of_ble_eq_true rfl) (Nat.le_of_ble_eq_true rfl) (Nat.le_of_ble_eq_true rfl) (Nat.le_of_ble_eq_true rfl) dL_isRight_49 (sX7_host hM) (fun r h9 hq => ?_) (fun x h9 hq => hq.elim)
  obtain ⟨rfl, z109, rfl, hM⟩ := hq
  refine zV_if_le (tgt := 59) O dL_isRight_52 (by decide) (fun hc => ?_) (fun hc => ?_)
  · replace hM := hM.1 hc
    refine zV_iconst (z := 0) O ⟨by omega, by omega⟩ dL_isRight_59 ?_
    refine zV_sub (ls2 := [some (aR 169), some (aI (s1 + s0)), none, some (aI v3), some (aI v4), some (aI v5), none]) ⟨rfl, rfl, rfl, rfl, rfl, trivial⟩ ?_
    exact sL_isRight_b60 O hK6 (Or.inl rfl) hM
  · replace hM := hM.2 hc
    refine zV_iconst (z := 1) O ⟨by omega, by omega⟩ dL_isRight_55 ?_
    refine zV_goto (tgt := 60) O dL_isRight_56 (by decide) ?_
    refine zV_sub (ls2 := [some (aR 169), some (aI (s1 + s0)), none, some (aI v3), some (aI v4), some (aI v5), none]) ⟨rfl, rfl, rfl, rfl, rfl, trivial⟩ ?_
    exact sL_isRight_b60 O hK6 (Or.inr rfl) hM
def mL_isRight_b6 (Q : Int → Hp → Prop) : Nat → Int → Int → Int → Hp → Prop
  | 0 => fun _ _ _ _ => False
  | fu6 + 1 => fun v1 v2 v3 h => (mX7_size 0 h (fun z110 h111 => ((z110 ≤ v3 → (mX7_size 10 h111 (fun z112 h113 => ((¬ z112 = v1 → (Q 0 h113)) ∧ (z112 = v1 → (mX7_size 2 h113 (fun z114 h115 => ((¬ z114 = v2 → (Q 0 h115)) ∧ (z114 = v2 → (Q 1 h115)))))))))) ∧ (¬ z110 ≤ v3 → (mX7_host v3 2 h111 (fun z116 => (mX7_host v3 6 h111 (fun z117 => ((z116 ≤ 0 → (mL_isRight_b43 Q (mL_isRight_b6 Q fu6) v2 v3 z116 z117 0 v1 h111)) ∧ (¬ z116 ≤ 0 → (mL_isRight_b43 Q (mL_isRight_b6 Q fu6) v2 v3 z116 z117 1 v1 h111)))))))))))
set_option maxHeartbeats 4000000 in
set_option maxRecDepth 100000 in
theorem sL_isRight_b6 {l0 : Launch} {a : ZC}  {Q : Int → Hp → Prop}  (O : zOk l0 a cL_isRight RL 7 (some .boolean) 185 [])   : ∀ (ff : Nat) (v1 : Int) (v2 : Int) (v3 : Int) (h : Hp), mL_isRight_b6 Q ff v1 v2 v3 h → zV a (7, 0, 0, (qZ Q), xN) 0 0 6 [some (aR 169), some (aI v1), some (aI v2), some (aI v3), none, none, none] [] h := by
  intro ff
  induction ff with
  | zero => intro v1 v2 v3 h hM; exact hM.elim
  | succ ff ih =>
    have hK6 := ih
    intro v1 v2 v3 h hM
    unfold mL_isRight_b6 at hM
    refine zV_iload_n O dL_isRight_6 rfl rfl ?_
    refine zV_aload_n O dL_isRight_7 rfl rfl ?_
    refine zV_iconst (z := 0) O ⟨by omega, by omega⟩ dL_isRight_8 ?_
    refine zV_callV (as := [aI 0]) (st := [aI v3]) O zc_X7_size (Or.inl zl_RL_82) zi_690 zi_691 zt_169 rfl rfl (by decide) (Nat.le_of_ble_eq_true rfl) rfl rfl (Nat.le_of_ble_eq_true rfl) (Nat.le_of_ble_eq_true rfl) (Nat.le_of_ble_eq_true rfl) (Nat.le_of_ble_eq_true rfl) (Nat.le_of_ble_eq_true rfl) (Nat.le_of_ble_eq_true rfl) dL_isRight_9 (sX7_size hM) (fun r h111 hq => ?_) (fun x h9 hq => hq.elim)
    obtain ⟨z110, rfl, hM⟩ := hq
    refine zV_icmp_ge (tgt := 242) O dL_isRight_12 (by decide) (fun hc => ?_) (fun hc => ?_)
    · replace hM := hM.1 hc
      refine zV_aload_n O dL_isRight_242 rfl rfl ?_
      refine zV_bipush (z := 10) O ⟨by omega, by omega⟩ rfl dL_isRight_243 ?_
      refine zV_callV (as := [aI 10]) (st := []) O zc_X7_size (Or.inl zl_RL_82) zi_690 zi_691 zt_169 rfl rfl (by decide) (Nat.le_of_ble_eq_true rfl) rfl rfl (Nat.le_of_ble_eq_true rfl) (Nat.le_of_ble_eq_true rfl) (Nat.le_of_ble_eq_true rfl) (Nat.le_of_ble_eq_true rfl) (Nat.le_of_ble_eq_true rfl) (Nat.le_of_ble_eq_true rfl) dL_isRight_245 (sX7_size hM) (fun r h113 hq => ?_) (fun x h9 hq => hq.elim)
      obtain ⟨z112, rfl, hM⟩ := hq
      refine zV_iload_n O dL_isRight_248 rfl rfl ?_
      refine zV_icmp_ne (tgt := 265) O dL_isRight_249 (by decide) (fun hc => ?_) (fun hc => ?_)
      · replace hM := hM.1 hc
        refine zV_iconst (z := 0) O ⟨by omega, by omega⟩ dL_isRight_265 ?_
        exact zV_zret O rfl (Or.inl rfl) ⟨_, rfl, (Or.inl rfl), hM⟩ (Nat.le_of_ble_eq_true rfl) (Nat.le_of_ble_eq_true rfl) dL_isRight_266
      · replace hM := hM.2 hc
        refine zV_aload_n O dL_isRight_252 rfl rfl ?_
        refine zV_iconst (z := 2) O ⟨by omega, by omega⟩ dL_isRight_253 ?_
        refine zV_callV (as := [aI 2]) (st := []) O zc_X7_size (Or.inl zl_RL_82) zi_690 zi_691 zt_169 rfl rfl (by decide) (Nat.le_of_ble_eq_true rfl) rfl rfl (Nat.le_of_ble_eq_true rfl) (Nat.le_of_ble_eq_true rfl) (Nat.le_of_ble_eq_true rfl) (Nat.le_of_ble_eq_true rfl) (Nat.le_of_ble_eq_true rfl) (Nat.le_of_ble_eq_true rfl) dL_isRight_254 (sX7_size hM) (fun r h115 hq => ?_) (fun x h9 hq => hq.elim)
        obtain ⟨z114, rfl, hM⟩ := hq
        refine zV_iload_n O dL_isRight_257 rfl rfl ?_
        refine zV_icmp_ne (tgt := 265) O dL_isRight_258 (by decide) (fun hc => ?_) (fun hc => ?_)
        · replace hM := hM.1 hc
          refine zV_iconst (z := 0) O ⟨by omega, by omega⟩ dL_isRight_265 ?_
          exact zV_zret O rfl (Or.inl rfl) ⟨_, rfl, (Or.inl rfl), hM⟩ (Nat.le_of_ble_eq_true rfl) (Nat.le_of_ble_eq_true rfl) dL_isRight_266
        · replace hM := hM.2 hc
          refine zV_iconst (z := 1) O ⟨by omega, by omega⟩ dL_isRight_261 ?_
          refine zV_goto (tgt := 266) O dL_isRight_262 (by decide) ?_
          exact zV_zret O rfl (Or.inr rfl) ⟨_, rfl, (Or.inr rfl), hM⟩ (Nat.le_of_ble_eq_true rfl) (Nat.le_of_ble_eq_true rfl) dL_isRight_266
    · replace hM := hM.2 hc
      refine zV_aload_n O dL_isRight_15 rfl rfl ?_
      refine zV_iload_n O dL_isRight_16 rfl rfl ?_
      refine zV_iconst (z := 2) O ⟨by omega, by omega⟩ dL_isRight_17 ?_
      refine zV_callV (as := [aI v3, aI 2]) (st := []) O zc_X7_host (Or.inl zl_RL_132) zi_746 zi_747 zt_169 rfl rfl (by decide) (Nat.le_of_ble_eq_true rfl) rfl rfl (Nat.le_of_ble_eq_true rfl) (Nat.le_of_ble_eq_true rfl) (Nat.le_of_ble_eq_true rfl) (Nat.le_of_ble_eq_true rfl) (Nat.le_of_ble_eq_true rfl) (Nat.le_of_ble_eq_true rfl) dL_isRight_18 (sX7_host hM) (fun r h9 hq => ?_) (fun x h9 hq => hq.elim)
      obtain ⟨rfl, z116, rfl, hM⟩ := hq
      refine zV_istore O dL_isRight_21 (Nat.le_of_ble_eq_true rfl) rfl ?_
      refine zV_aload_n O dL_isRight_23 rfl rfl ?_
      refine zV_iload_n O dL_isRight_24 rfl rfl ?_
      refine zV_bipush (z := 6) O ⟨by omega, by omega⟩ rfl dL_isRight_25 ?_
      refine zV_callV (as := [aI v3, aI 6]) (st := []) O zc_X7_host (Or.inl zl_RL_132) zi_746 zi_747 zt_169 rfl rfl (by decide) (Nat.le_of_ble_eq_true rfl) rfl rfl (Nat.le_of_ble_eq_true rfl) (Nat.le_of_ble_eq_true rfl) (Nat.le_of_ble_eq_true rfl) (Nat.le_of_ble_eq_true rfl) (Nat.le_of_ble_eq_true rfl) (Nat.le_of_ble_eq_true rfl) dL_isRight_27 (sX7_host hM) (fun r h9 hq => ?_) (fun x h9 hq => hq.elim)
      obtain ⟨rfl, z117, rfl, hM⟩ := hq
      refine zV_istore O dL_isRight_30 (Nat.le_of_ble_eq_true rfl) rfl ?_
      refine zV_iload_n O dL_isRight_32 rfl rfl ?_
      refine zV_iload O dL_isRight_33 rfl ?_
      refine zV_if_le (tgt := 42) O dL_isRight_35 (by decide) (fun hc => ?_) (fun hc => ?_)
      · replace hM := hM.1 hc
        refine zV_iconst (z := 0) O ⟨by omega, by omega⟩ dL_isRight_42 ?_
        refine zV_sub (ls2 := [some (aR 169), none, some (aI v2), some (aI v3), some (aI z116), some (aI z117), none]) ⟨rfl, rfl, rfl, rfl, rfl, trivial⟩ ?_
        exact sL_isRight_b43 O hK6 (Or.inl rfl) hM
      · replace hM := hM.2 hc
        refine zV_iconst (z := 1) O ⟨by omega, by omega⟩ dL_isRight_38 ?_
        refine zV_goto (tgt := 43) O dL_isRight_39 (by decide) ?_
        refine zV_sub (ls2 := [some (aR 169), none, some (aI v2), some (aI v3), some (aI z116), some (aI z117), none]) ⟨rfl, rfl, rfl, rfl, rfl, trivial⟩ ?_
        exact sL_isRight_b43 O hK6 (Or.inr rfl) hM
def mL_isRight  (h : Hp) (Q : Int → Hp → Prop) : Prop := (∃ ff, mL_isRight_b6 Q ff 0 0 0 h)
set_option maxHeartbeats 4000000 in
set_option maxRecDepth 100000 in
theorem sL_isRight {l0 : Launch}  {h : Hp} {Q : Int → Hp → Prop}  (hM : mL_isRight  h Q) : zSp l0 yL_isRight cL_isRight 7 (some .boolean) 185 (7) 0 0 [aR 169] h (qZ Q) xN := by
  unfold mL_isRight at hM
  refine zSp_intro zpn_RL (Nat.le_of_ble_eq_true rfl) (fun a O => ?_)
  show zV a (7, 0, 0, (qZ Q), xN) 0 0 0 [some (aR 169), none, none, none, none, none, none] [] h
  refine zV_iconst (z := 0) O ⟨by omega, by omega⟩ dL_isRight_0 ?_
  refine zV_istore_n O dL_isRight_1 rfl (Nat.le_of_ble_eq_true rfl) rfl ?_
  refine zV_iconst (z := 0) O ⟨by omega, by omega⟩ dL_isRight_2 ?_
  refine zV_istore_n O dL_isRight_3 rfl (Nat.le_of_ble_eq_true rfl) rfl ?_
  refine zV_iconst (z := 0) O ⟨by omega, by omega⟩ dL_isRight_4 ?_
  refine zV_istore_n O dL_isRight_5 rfl (Nat.le_of_ble_eq_true rfl) rfl ?_
  obtain ⟨ff, hM⟩ := hM
  exact sL_isRight_b6 O ff _ _ _ _ hM
def mL_acts_b212 (Q : Int → Hp → Prop) (v2 : Int) (s0 : Int) (s1 : Int) (h : Hp) : Prop := (((0 : Int) ≤ v2 ∧ (0 : Int) < 4) ∧ (((0 : Int) ≤ (v2 / 4) ∧ (0 : Int) < 20) ∧ (((0 : Int) ≤ v2 ∧ (0 : Int) < 128) ∧ (((0 : Int) ≤ (v2 / 128) ∧ (0 : Int) < 20) ∧ (mX7_addRule s1 s0 ((v2 / 4) % 20) ((v2 / 128) % 20) h (fun z51 h52 => (Q z51 h52)))))))
set_option maxHeartbeats 4000000 in
set_option maxRecDepth 100000 in
theorem sL_acts_b212 {l0 : Launch} {a : ZC}  {Q : Int → Hp → Prop}  (O : zOk l0 a cL_acts RL 4 (some .int) 185 [])   {v2 : Int} {s0 : Int} {s1 : Int} {h : Hp} (hz_s0 : s0 = 0 ∨ s0 = 1) (hM : mL_acts_b212 Q v2 s0 s1 h) : zV a (8, 0, 0, (qI Q), xN) 0 0 212 [none, none, some (aI v2), none] [aI s0, aI s1, aR 169] h := by
  unfold mL_acts_b212 at hM
  refine zV_iload_n O dL_acts_212 rfl rfl ?_
  refine zV_iconst (z := 4) O ⟨by omega, by omega⟩ dL_acts_213 ?_
  obtain ⟨hc, hM⟩ := hM
  refine zV_idiv O dL_acts_214 hc ?_
  refine zV_bipush (z := 20) O ⟨by omega, by omega⟩ rfl dL_acts_215 ?_
  obtain ⟨hc, hM⟩ := hM
  refine zV_irem O dL_acts_217 hc ?_
  refine zV_iload_n O dL_acts_218 rfl rfl ?_
  refine zV_sipush (z := 128) O ⟨by omega, by omega⟩ rfl dL_acts_219 ?_
  obtain ⟨hc, hM⟩ := hM
  refine zV_idiv O dL_acts_222 hc ?_
  refine zV_bipush (z := 20) O ⟨by omega, by omega⟩ rfl dL_acts_223 ?_
  obtain ⟨hc, hM⟩ := hM
  refine zV_irem O dL_acts_225 hc ?_
  refine zV_callV (as := [aI s1, aI s0, aI ((v2 / 4) % 20), aI ((v2 / 128) % 20)]) (st := []) O zc_X7_addRule (Or.inl zl_RL_115) zi_937 zi_938 zt_169 rfl rfl (by decide) (Nat.le_of_ble_eq_true rfl) rfl rfl (Nat.le_of_ble_eq_true rfl) (Nat.le_of_ble_eq_true rfl) (Nat.le_of_ble_eq_true rfl) (Nat.le_of_ble_eq_true rfl) (Nat.le_of_ble_eq_true rfl) (Nat.le_of_ble_eq_true rfl) dL_acts_226 (sX7_addRule hM) (fun r h52 hq => ?_) (fun x h9 hq => hq.elim)
  obtain ⟨z51, rfl, hM⟩ := hq
  exact zV_iret O rfl ⟨_, rfl, hM⟩ (Nat.le_of_ble_eq_true rfl) (Nat.le_of_ble_eq_true rfl) dL_acts_229
def mL_acts_b298 (Q : Int → Hp → Prop) (s0 : Int) (s1 : Int) (h : Hp) : Prop := (mX7_setPinned s1 s0 h (fun z53 h54 => (Q z53 h54)))
set_option maxHeartbeats 4000000 in
set_option maxRecDepth 100000 in
theorem sL_acts_b298 {l0 : Launch} {a : ZC}  {Q : Int → Hp → Prop}  (O : zOk l0 a cL_acts RL 4 (some .int) 185 [])   {s0 : Int} {s1 : Int} {h : Hp} (hz_s0 : s0 = 0 ∨ s0 = 1) (hM : mL_acts_b298 Q s0 s1 h) : zV a (8, 0, 0, (qI Q), xN) 0 0 298 [none, none, none, none] [aI s0, aI s1, aR 169] h := by
  unfold mL_acts_b298 at hM
  refine zV_callV (as := [aI s1, aI s0]) (st := []) O zc_X7_setPinned (Or.inl zl_RL_125) zi_961 zi_962 zt_169 rfl rfl (by decide) (Nat.le_of_ble_eq_true rfl) rfl rfl (Nat.le_of_ble_eq_true rfl) (Nat.le_of_ble_eq_true rfl) (Nat.le_of_ble_eq_true rfl) (Nat.le_of_ble_eq_true rfl) (Nat.le_of_ble_eq_true rfl) (Nat.le_of_ble_eq_true rfl) dL_acts_298 (sX7_setPinned hM) (fun r h54 hq => ?_) (fun x h9 hq => hq.elim)
  obtain ⟨z53, rfl, hM⟩ := hq
  refine zV_goto (tgt := 311) O dL_acts_301 (by decide) ?_
  exact zV_iret O rfl ⟨_, rfl, hM⟩ (Nat.le_of_ble_eq_true rfl) (Nat.le_of_ble_eq_true rfl) dL_acts_311
def mL_acts (x1 : Int) (h : Hp) (Q : Int → Hp → Prop) : Prop := (((0 : Int) ≤ x1 ∧ (0 : Int) < 14) ∧ (mX7_size 0 h (fun z55 h56 => (((0 : Int) ≤ x1 ∧ (0 : Int) < 14) ∧ (((x1 % 14) = 0 → (((0 : Int) ≤ (x1 / 14) ∧ (0 : Int) < 2) ∧ (((0 : Int) ≤ (x1 / 14) ∧ (0 : Int) < 2) ∧ (((0 : Int) ≤ ((x1 / 14) / 2) ∧ (0 : Int) < 25) ∧ (zr (1 + (((x1 / 14) / 2) % 25)) ∧ (mX7_addHost ((x1 / 14) % 2) (1 + (((x1 / 14) / 2) % 25)) h56 (fun z57 h58 => (Q z57 h58)))))))) ∧ ((x1 % 14) = 1 → ((¬ z55 = 0 → (((0 : Int) ≤ (x1 / 14) ∧ (0 : Int) < z55) ∧ (mX7_removeHost ((x1 / 14) % z55) h56 (fun z59 h60 => (Q z59 h60))))) ∧ (z55 = 0 → (Q (-9) h56)))) ∧ ((x1 % 14) = 2 → ((¬ z55 = 0 → (((0 : Int) ≤ (x1 / 14) ∧ (0 : Int) < z55) ∧ (((0 : Int) ≤ (x1 / 14) ∧ (0 : Int) < 16) ∧ (((0 : Int) ≤ ((x1 / 14) / 16) ∧ (0 : Int) < 25) ∧ (zr (1 + (((x1 / 14) / 16) % 25)) ∧ (mX7_size 3 h56 (fun z61 h62 => (((0 : Int) ≤ (x1 / 14) ∧ (0 : Int) < 1024) ∧ (((0 : Int) ≤ ((x1 / 14) / 1024) ∧ (0 : Int) < 2) ∧ (zr (z61 + (((x1 / 14) / 1024) % 2)) ∧ (zr (1 + (min 8 (z61 + (((x1 / 14) / 1024) % 2)))) ∧ (mX7_plan ((x1 / 14) % z55) (1 + (((x1 / 14) / 16) % 25)) (1 + (min 8 (z61 + (((x1 / 14) / 1024) % 2)))) h62 (fun z63 h64 => (Q z63 h64)))))))))))))) ∧ (z55 = 0 → (Q (-9) h56)))) ∧ ((x1 % 14) = 3 → ((¬ z55 = 0 → (((0 : Int) ≤ (x1 / 14) ∧ (0 : Int) < z55) ∧ (((0 : Int) ≤ (x1 / 14) ∧ (0 : Int) < 16) ∧ (((0 : Int) ≤ ((x1 / 14) / 16) ∧ (0 : Int) < 25) ∧ (zr (1 + (((x1 / 14) / 16) % 25)) ∧ (mX7_size 3 h56 (fun z65 h66 => (((0 : Int) ≤ (x1 / 14) ∧ (0 : Int) < 1024) ∧ (((0 : Int) ≤ ((x1 / 14) / 1024) ∧ (0 : Int) < 2) ∧ (zr (z65 + (((x1 / 14) / 1024) % 2)) ∧ (zr (1 + (min 8 (z65 + (((x1 / 14) / 1024) % 2)))) ∧ (mX7_plan ((x1 / 14) % z55) (1 + (((x1 / 14) / 16) % 25)) (1 + (min 8 (z65 + (((x1 / 14) / 1024) % 2)))) h66 (fun z67 h68 => (Q z67 h68)))))))))))))) ∧ (z55 = 0 → (Q (-9) h56)))) ∧ ((x1 % 14) = 4 → ((¬ z55 = 0 → (((0 : Int) ≤ (x1 / 14) ∧ (0 : Int) < z55) ∧ (((0 : Int) ≤ (x1 / 14) ∧ (0 : Int) < 16) ∧ (((0 : Int) ≤ ((x1 / 14) / 16) ∧ (0 : Int) < 25) ∧ (zr (1 + (((x1 / 14) / 16) % 25)) ∧ (mX7_size 3 h56 (fun z69 h70 => (((0 : Int) ≤ (x1 / 14) ∧ (0 : Int) < 1024) ∧ (((0 : Int) ≤ ((x1 / 14) / 1024) ∧ (0 : Int) < 2) ∧ (zr (z69 + (((x1 / 14) / 1024) % 2)) ∧ (zr (1 + (min 8 (z69 + (((x1 / 14) / 1024) % 2)))) ∧ (mX7_plan ((x1 / 14) % z55) (1 + (((x1 / 14) / 16) % 25)) (1 + (min 8 (z69 + (((x1 / 14) / 1024) % 2)))) h70 (fun z71 h72 => (Q z71 h72)))))))))))))) ∧ (z55 = 0 → (Q (-9) h56)))) ∧ ((x1 % 14) = 5 → (mX7_settle h56 (fun z73 h74 => (Q z73 h74)))) ∧ ((x1 % 14) = 6 → (mX7_wave h56 (fun z75 h76 => (Q z75 h76)))) ∧ ((x1 % 14) = 7 → (mX7_wave h56 (fun z77 h78 => (Q z77 h78)))) ∧ ((x1 % 14) = 8 → (mX7_back h56 (fun z79 h80 => (Q z79 h80)))) ∧ ((x1 % 14) = 9 → (mX7_size 8 h56 (fun z81 h82 => ((¬ z81 = 0 → (mX7_close h82 (fun z83 h84 => (Q z83 h84)))) ∧ (z81 = 0 → (mX7_open h82 (fun z85 h86 => (Q z85 h86)))))))) ∧ ((x1 % 14) = 10 → (((0 : Int) ≤ (x1 / 14) ∧ (0 : Int) < 2) ∧ (((0 : Int) ≤ (x1 / 14) ∧ (0 : Int) < 2) ∧ (((0 : Int) ≤ ((x1 / 14) / 2) ∧ (0 : Int) < 2) ∧ ((¬ (((x1 / 14) / 2) % 2) = 0 → (mL_acts_b212 Q (x1 / 14) 0 ((x1 / 14) % 2) h56)) ∧ ((((x1 / 14) / 2) % 2) = 0 → (mL_acts_b212 Q (x1 / 14) 1 ((x1 / 14) % 2) h56))))))) ∧ ((x1 % 14) = 11 → (mX7_size 1 h56 (fun z87 h88 => ((¬ z87 = 0 → (mX7_size 1 h88 (fun z89 h90 => (((0 : Int) ≤ (x1 / 14) ∧ (0 : Int) < z89) ∧ (mX7_removeRule ((x1 / 14) % z89) h90 (fun z91 h92 => (Q z91 h92))))))) ∧ (z87 = 0 → (Q (-9) h88)))))) ∧ ((x1 % 14) = 12 → (((0 : Int) ≤ (x1 / 14) ∧ (0 : Int) < 4) ∧ (mX7_setKeep ((x1 / 14) % 4) h56 (fun z93 h94 => (Q z93 h94))))) ∧ (((x1 % 14) < 0 ∨ 12 < (x1 % 14)) → ((¬ z55 = 0 → (((0 : Int) ≤ (x1 / 14) ∧ (0 : Int) < 3) ∧ ((¬ ((x1 / 14) % 3) = 0 → (((0 : Int) ≤ (x1 / 14) ∧ (0 : Int) < z55) ∧ (mX7_unplan ((x1 / 14) % z55) h56 (fun z95 h96 => (Q z95 h96))))) ∧ (((x1 / 14) % 3) = 0 → (((0 : Int) ≤ (x1 / 14) ∧ (0 : Int) < 3) ∧ (((0 : Int) ≤ ((x1 / 14) / 3) ∧ (0 : Int) < z55) ∧ (((0 : Int) ≤ (x1 / 14) ∧ (0 : Int) < 64) ∧ (((0 : Int) ≤ ((x1 / 14) / 64) ∧ (0 : Int) < 2) ∧ ((¬ (((x1 / 14) / 64) % 2) = 0 → (mL_acts_b298 Q 0 (((x1 / 14) / 3) % z55) h56)) ∧ ((((x1 / 14) / 64) % 2) = 0 → (mL_acts_b298 Q 1 (((x1 / 14) / 3) % z55) h56))))))))))) ∧ (z55 = 0 → (Q (-9) h56)))))))))
set_option maxHeartbeats 4000000 in
set_option maxRecDepth 100000 in
theorem sL_acts {l0 : Launch} {x1 : Int} {h : Hp} {Q : Int → Hp → Prop}  (hM : mL_acts x1 h Q) : zSp l0 yL_acts cL_acts 4 (some .int) 185 (8) 0 0 [aR 169, aI x1] h (qI Q) xN := by
  unfold mL_acts at hM
  refine zSp_intro zpn_RL (Nat.le_of_ble_eq_true rfl) (fun a O => ?_)
  show zV a (8, 0, 0, (qI Q), xN) 0 0 0 [some (aR 169), some (aI x1), none, none] [] h
  refine zV_iload_n O dL_acts_0 rfl rfl ?_
  refine zV_bipush (z := 14) O ⟨by omega, by omega⟩ rfl dL_acts_1 ?_
  obtain ⟨hc, hM⟩ := hM
  refine zV_idiv O dL_acts_3 hc ?_
  refine zV_istore_n O dL_acts_4 rfl (Nat.le_of_ble_eq_true rfl) rfl ?_
  refine zV_aload_n O dL_acts_5 rfl rfl ?_
  refine zV_iconst (z := 0) O ⟨by omega, by omega⟩ dL_acts_6 ?_
  refine zV_callV (as := [aI 0]) (st := []) O zc_X7_size (Or.inl zl_RL_82) zi_690 zi_691 zt_169 rfl rfl (by decide) (Nat.le_of_ble_eq_true rfl) rfl rfl (Nat.le_of_ble_eq_true rfl) (Nat.le_of_ble_eq_true rfl) (Nat.le_of_ble_eq_true rfl) (Nat.le_of_ble_eq_true rfl) (Nat.le_of_ble_eq_true rfl) (Nat.le_of_ble_eq_true rfl) dL_acts_7 (sX7_size hM) (fun r h56 hq => ?_) (fun x h9 hq => hq.elim)
  obtain ⟨z55, rfl, hM⟩ := hq
  refine zV_istore_n O dL_acts_10 rfl (Nat.le_of_ble_eq_true rfl) rfl ?_
  refine zV_iload_n O dL_acts_11 rfl rfl ?_
  refine zV_bipush (z := 14) O ⟨by omega, by omega⟩ rfl dL_acts_12 ?_
  obtain ⟨hc, hM⟩ := hM
  refine zV_irem O dL_acts_14 hc ?_
  by_cases hc0 : (x1 % 14) = 0
  · replace hM := hM.1 hc0
    refine zV_tableIn (tgt := 80) O dL_acts_15 (by omega) (by omega) (by rw [hc0]; rfl) (by decide) ?_
    refine zV_aload_n O dL_acts_80 rfl rfl ?_
    refine zV_iload_n O dL_acts_81 rfl rfl ?_
    refine zV_iconst (z := 2) O ⟨by omega, by omega⟩ dL_acts_82 ?_
    obtain ⟨hc, hM⟩ := hM
    refine zV_irem O dL_acts_83 hc ?_
    refine zV_iconst (z := 1) O ⟨by omega, by omega⟩ dL_acts_84 ?_
    refine zV_iload_n O dL_acts_85 rfl rfl ?_
    refine zV_iconst (z := 2) O ⟨by omega, by omega⟩ dL_acts_86 ?_
    obtain ⟨hc, hM⟩ := hM
    refine zV_idiv O dL_acts_87 hc ?_
    refine zV_bipush (z := 25) O ⟨by omega, by omega⟩ rfl dL_acts_88 ?_
    obtain ⟨hc, hM⟩ := hM
    refine zV_irem O dL_acts_90 hc ?_
    obtain ⟨hc, hM⟩ := hM
    refine zV_iadd O dL_acts_91 hc ?_
    refine zV_callV (as := [aI ((x1 / 14) % 2), aI (1 + (((x1 / 14) / 2) % 25))]) (st := []) O zc_X7_addHost (Or.inl zl_RL_84) zi_857 zi_858 zt_169 rfl rfl (by decide) (Nat.le_of_ble_eq_true rfl) rfl rfl (Nat.le_of_ble_eq_true rfl) (Nat.le_of_ble_eq_true rfl) (Nat.le_of_ble_eq_true rfl) (Nat.le_of_ble_eq_true rfl) (Nat.le_of_ble_eq_true rfl) (Nat.le_of_ble_eq_true rfl) dL_acts_92 (sX7_addHost hM) (fun r h58 hq => ?_) (fun x h9 hq => hq.elim)
    obtain ⟨z57, rfl, hM⟩ := hq
    exact zV_iret O rfl ⟨_, rfl, hM⟩ (Nat.le_of_ble_eq_true rfl) (Nat.le_of_ble_eq_true rfl) dL_acts_95
  by_cases hc1 : (x1 % 14) = 1
  · replace hM := hM.2.1 hc1
    refine zV_tableIn (tgt := 96) O dL_acts_15 (by omega) (by omega) (by rw [hc1]; rfl) (by decide) ?_
    refine zV_iload_n O dL_acts_96 rfl rfl ?_
    refine zV_if_ne (tgt := 105) O dL_acts_97 (by decide) (fun hc => ?_) (fun hc => ?_)
    · replace hM := hM.1 hc
      refine zV_aload_n O dL_acts_105 rfl rfl ?_
      refine zV_iload_n O dL_acts_106 rfl rfl ?_
      refine zV_iload_n O dL_acts_107 rfl rfl ?_
      obtain ⟨hc, hM⟩ := hM
      refine zV_irem O dL_acts_108 hc ?_
      refine zV_callV (as := [aI ((x1 / 14) % z55)]) (st := []) O zc_X7_removeHost (Or.inl zl_RL_88) zi_866 zi_867 zt_169 rfl rfl (by decide) (Nat.le_of_ble_eq_true rfl) rfl rfl (Nat.le_of_ble_eq_true rfl) (Nat.le_of_ble_eq_true rfl) (Nat.le_of_ble_eq_true rfl) (Nat.le_of_ble_eq_true rfl) (Nat.le_of_ble_eq_true rfl) (Nat.le_of_ble_eq_true rfl) dL_acts_109 (sX7_removeHost hM) (fun r h60 hq => ?_) (fun x h9 hq => hq.elim)
      obtain ⟨z59, rfl, hM⟩ := hq
      exact zV_iret O rfl ⟨_, rfl, hM⟩ (Nat.le_of_ble_eq_true rfl) (Nat.le_of_ble_eq_true rfl) dL_acts_112
    · replace hM := hM.2 hc
      refine zV_bipush (z := -9) O ⟨by omega, by omega⟩ rfl dL_acts_100 ?_
      refine zV_goto (tgt := 112) O dL_acts_102 (by decide) ?_
      exact zV_iret O rfl ⟨_, rfl, hM⟩ (Nat.le_of_ble_eq_true rfl) (Nat.le_of_ble_eq_true rfl) dL_acts_112
  by_cases hc2 : (x1 % 14) = 2
  · replace hM := hM.2.2.1 hc2
    refine zV_tableIn (tgt := 113) O dL_acts_15 (by omega) (by omega) (by rw [hc2]; rfl) (by decide) ?_
    refine zV_iload_n O dL_acts_113 rfl rfl ?_
    refine zV_if_ne (tgt := 122) O dL_acts_114 (by decide) (fun hc => ?_) (fun hc => ?_)
    · replace hM := hM.1 hc
      refine zV_aload_n O dL_acts_122 rfl rfl ?_
      refine zV_iload_n O dL_acts_123 rfl rfl ?_
      refine zV_iload_n O dL_acts_124 rfl rfl ?_
      obtain ⟨hc, hM⟩ := hM
      refine zV_irem O dL_acts_125 hc ?_
      refine zV_iconst (z := 1) O ⟨by omega, by omega⟩ dL_acts_126 ?_
      refine zV_iload_n O dL_acts_127 rfl rfl ?_
      refine zV_bipush (z := 16) O ⟨by omega, by omega⟩ rfl dL_acts_128 ?_
      obtain ⟨hc, hM⟩ := hM
      refine zV_idiv O dL_acts_130 hc ?_
      refine zV_bipush (z := 25) O ⟨by omega, by omega⟩ rfl dL_acts_131 ?_
      obtain ⟨hc, hM⟩ := hM
      refine zV_irem O dL_acts_133 hc ?_
      obtain ⟨hc, hM⟩ := hM
      refine zV_iadd O dL_acts_134 hc ?_
      refine zV_iconst (z := 1) O ⟨by omega, by omega⟩ dL_acts_135 ?_
      refine zV_bipush (z := 8) O ⟨by omega, by omega⟩ rfl dL_acts_136 ?_
      refine zV_aload_n O dL_acts_138 rfl rfl ?_
      refine zV_iconst (z := 3) O ⟨by omega, by omega⟩ dL_acts_139 ?_
      refine zV_callV (as := [aI 3]) (st := [aI 8, aI 1, aI (1 + (((x1 / 14) / 16) % 25)), aI ((x1 / 14) % z55), aR 169]) O zc_X7_size (Or.inl zl_RL_82) zi_690 zi_691 zt_169 rfl rfl (by decide) (Nat.le_of_ble_eq_true rfl) rfl rfl (Nat.le_of_ble_eq_true rfl) (Nat.le_of_ble_eq_true rfl) (Nat.le_of_ble_eq_true rfl) (Nat.le_of_ble_eq_true rfl) (Nat.le_of_ble_eq_true rfl) (Nat.le_of_ble_eq_true rfl) dL_acts_140 (sX7_size hM) (fun r h62 hq => ?_) (fun x h9 hq => hq.elim)
      obtain ⟨z61, rfl, hM⟩ := hq
      refine zV_iload_n O dL_acts_143 rfl rfl ?_
      refine zV_sipush (z := 1024) O ⟨by omega, by omega⟩ rfl dL_acts_144 ?_
      obtain ⟨hc, hM⟩ := hM
      refine zV_idiv O dL_acts_147 hc ?_
      refine zV_iconst (z := 2) O ⟨by omega, by omega⟩ dL_acts_148 ?_
      obtain ⟨hc, hM⟩ := hM
      refine zV_irem O dL_acts_149 hc ?_
      obtain ⟨hc, hM⟩ := hM
      refine zV_iadd O dL_acts_150 hc ?_
      refine zV_min O zi_873 zi_538 zi_88 zi_539 (Nat.le_of_ble_eq_true rfl) (Nat.le_of_ble_eq_true rfl) (Nat.le_of_ble_eq_true rfl) (Nat.le_of_ble_eq_true rfl) dL_acts_151 ?_
      obtain ⟨hc, hM⟩ := hM
      refine zV_iadd O dL_acts_154 hc ?_
      refine zV_callV (as := [aI ((x1 / 14) % z55), aI (1 + (((x1 / 14) / 16) % 25)), aI (1 + (min 8 (z61 + (((x1 / 14) / 1024) % 2))))]) (st := []) O zc_X7_plan (Or.inl zl_RL_96) zi_875 zi_876 zt_169 rfl rfl (by decide) (Nat.le_of_ble_eq_true rfl) rfl rfl (Nat.le_of_ble_eq_true rfl) (Nat.le_of_ble_eq_true rfl) (Nat.le_of_ble_eq_true rfl) (Nat.le_of_ble_eq_true rfl) (Nat.le_of_ble_eq_true rfl) (Nat.le_of_ble_eq_true rfl) dL_acts_155 (sX7_plan hM) (fun r h64 hq => ?_) (fun x h9 hq => hq.elim)
      obtain ⟨z63, rfl, hM⟩ := hq
      exact zV_iret O rfl ⟨_, rfl, hM⟩ (Nat.le_of_ble_eq_true rfl) (Nat.le_of_ble_eq_true rfl) dL_acts_158
    · replace hM := hM.2 hc
      refine zV_bipush (z := -9) O ⟨by omega, by omega⟩ rfl dL_acts_117 ?_
      refine zV_goto (tgt := 158) O dL_acts_119 (by decide) ?_
      exact zV_iret O rfl ⟨_, rfl, hM⟩ (Nat.le_of_ble_eq_true rfl) (Nat.le_of_ble_eq_true rfl) dL_acts_158
  by_cases hc3 : (x1 % 14) = 3
  · replace hM := hM.2.2.2.1 hc3
    refine zV_tableIn (tgt := 113) O dL_acts_15 (by omega) (by omega) (by rw [hc3]; rfl) (by decide) ?_
    refine zV_iload_n O dL_acts_113 rfl rfl ?_
    refine zV_if_ne (tgt := 122) O dL_acts_114 (by decide) (fun hc => ?_) (fun hc => ?_)
    · replace hM := hM.1 hc
      refine zV_aload_n O dL_acts_122 rfl rfl ?_
      refine zV_iload_n O dL_acts_123 rfl rfl ?_
      refine zV_iload_n O dL_acts_124 rfl rfl ?_
      obtain ⟨hc, hM⟩ := hM
      refine zV_irem O dL_acts_125 hc ?_
      refine zV_iconst (z := 1) O ⟨by omega, by omega⟩ dL_acts_126 ?_
      refine zV_iload_n O dL_acts_127 rfl rfl ?_
      refine zV_bipush (z := 16) O ⟨by omega, by omega⟩ rfl dL_acts_128 ?_
      obtain ⟨hc, hM⟩ := hM
      refine zV_idiv O dL_acts_130 hc ?_
      refine zV_bipush (z := 25) O ⟨by omega, by omega⟩ rfl dL_acts_131 ?_
      obtain ⟨hc, hM⟩ := hM
      refine zV_irem O dL_acts_133 hc ?_
      obtain ⟨hc, hM⟩ := hM
      refine zV_iadd O dL_acts_134 hc ?_
      refine zV_iconst (z := 1) O ⟨by omega, by omega⟩ dL_acts_135 ?_
      refine zV_bipush (z := 8) O ⟨by omega, by omega⟩ rfl dL_acts_136 ?_
      refine zV_aload_n O dL_acts_138 rfl rfl ?_
      refine zV_iconst (z := 3) O ⟨by omega, by omega⟩ dL_acts_139 ?_
      refine zV_callV (as := [aI 3]) (st := [aI 8, aI 1, aI (1 + (((x1 / 14) / 16) % 25)), aI ((x1 / 14) % z55), aR 169]) O zc_X7_size (Or.inl zl_RL_82) zi_690 zi_691 zt_169 rfl rfl (by decide) (Nat.le_of_ble_eq_true rfl) rfl rfl (Nat.le_of_ble_eq_true rfl) (Nat.le_of_ble_eq_true rfl) (Nat.le_of_ble_eq_true rfl) (Nat.le_of_ble_eq_true rfl) (Nat.le_of_ble_eq_true rfl) (Nat.le_of_ble_eq_true rfl) dL_acts_140 (sX7_size hM) (fun r h66 hq => ?_) (fun x h9 hq => hq.elim)
      obtain ⟨z65, rfl, hM⟩ := hq
      refine zV_iload_n O dL_acts_143 rfl rfl ?_
      refine zV_sipush (z := 1024) O ⟨by omega, by omega⟩ rfl dL_acts_144 ?_
      obtain ⟨hc, hM⟩ := hM
      refine zV_idiv O dL_acts_147 hc ?_
      refine zV_iconst (z := 2) O ⟨by omega, by omega⟩ dL_acts_148 ?_
      obtain ⟨hc, hM⟩ := hM
      refine zV_irem O dL_acts_149 hc ?_
      obtain ⟨hc, hM⟩ := hM
      refine zV_iadd O dL_acts_150 hc ?_
      refine zV_min O zi_873 zi_538 zi_88 zi_539 (Nat.le_of_ble_eq_true rfl) (Nat.le_of_ble_eq_true rfl) (Nat.le_of_ble_eq_true rfl) (Nat.le_of_ble_eq_true rfl) dL_acts_151 ?_
      obtain ⟨hc, hM⟩ := hM
      refine zV_iadd O dL_acts_154 hc ?_
      refine zV_callV (as := [aI ((x1 / 14) % z55), aI (1 + (((x1 / 14) / 16) % 25)), aI (1 + (min 8 (z65 + (((x1 / 14) / 1024) % 2))))]) (st := []) O zc_X7_plan (Or.inl zl_RL_96) zi_875 zi_876 zt_169 rfl rfl (by decide) (Nat.le_of_ble_eq_true rfl) rfl rfl (Nat.le_of_ble_eq_true rfl) (Nat.le_of_ble_eq_true rfl) (Nat.le_of_ble_eq_true rfl) (Nat.le_of_ble_eq_true rfl) (Nat.le_of_ble_eq_true rfl) (Nat.le_of_ble_eq_true rfl) dL_acts_155 (sX7_plan hM) (fun r h68 hq => ?_) (fun x h9 hq => hq.elim)
      obtain ⟨z67, rfl, hM⟩ := hq
      exact zV_iret O rfl ⟨_, rfl, hM⟩ (Nat.le_of_ble_eq_true rfl) (Nat.le_of_ble_eq_true rfl) dL_acts_158
    · replace hM := hM.2 hc
      refine zV_bipush (z := -9) O ⟨by omega, by omega⟩ rfl dL_acts_117 ?_
      refine zV_goto (tgt := 158) O dL_acts_119 (by decide) ?_
      exact zV_iret O rfl ⟨_, rfl, hM⟩ (Nat.le_of_ble_eq_true rfl) (Nat.le_of_ble_eq_true rfl) dL_acts_158
  by_cases hc4 : (x1 % 14) = 4
  · replace hM := hM.2.2.2.2.1 hc4
    refine zV_tableIn (tgt := 113) O dL_acts_15 (by omega) (by omega) (by rw [hc4]; rfl) (by decide) ?_
    refine zV_iload_n O dL_acts_113 rfl rfl ?_
    refine zV_if_ne (tgt := 122) O dL_acts_114 (by decide) (fun hc => ?_) (fun hc => ?_)
    · replace hM := hM.1 hc
      refine zV_aload_n O dL_acts_122 rfl rfl ?_
      refine zV_iload_n O dL_acts_123 rfl rfl ?_
      refine zV_iload_n O dL_acts_124 rfl rfl ?_
      obtain ⟨hc, hM⟩ := hM
      refine zV_irem O dL_acts_125 hc ?_
      refine zV_iconst (z := 1) O ⟨by omega, by omega⟩ dL_acts_126 ?_
      refine zV_iload_n O dL_acts_127 rfl rfl ?_
      refine zV_bipush (z := 16) O ⟨by omega, by omega⟩ rfl dL_acts_128 ?_
      obtain ⟨hc, hM⟩ := hM
      refine zV_idiv O dL_acts_130 hc ?_
      refine zV_bipush (z := 25) O ⟨by omega, by omega⟩ rfl dL_acts_131 ?_
      obtain ⟨hc, hM⟩ := hM
      refine zV_irem O dL_acts_133 hc ?_
      obtain ⟨hc, hM⟩ := hM
      refine zV_iadd O dL_acts_134 hc ?_
      refine zV_iconst (z := 1) O ⟨by omega, by omega⟩ dL_acts_135 ?_
      refine zV_bipush (z := 8) O ⟨by omega, by omega⟩ rfl dL_acts_136 ?_
      refine zV_aload_n O dL_acts_138 rfl rfl ?_
      refine zV_iconst (z := 3) O ⟨by omega, by omega⟩ dL_acts_139 ?_
      refine zV_callV (as := [aI 3]) (st := [aI 8, aI 1, aI (1 + (((x1 / 14) / 16) % 25)), aI ((x1 / 14) % z55), aR 169]) O zc_X7_size (Or.inl zl_RL_82) zi_690 zi_691 zt_169 rfl rfl (by decide) (Nat.le_of_ble_eq_true rfl) rfl rfl (Nat.le_of_ble_eq_true rfl) (Nat.le_of_ble_eq_true rfl) (Nat.le_of_ble_eq_true rfl) (Nat.le_of_ble_eq_true rfl) (Nat.le_of_ble_eq_true rfl) (Nat.le_of_ble_eq_true rfl) dL_acts_140 (sX7_size hM) (fun r h70 hq => ?_) (fun x h9 hq => hq.elim)
      obtain ⟨z69, rfl, hM⟩ := hq
      refine zV_iload_n O dL_acts_143 rfl rfl ?_
      refine zV_sipush (z := 1024) O ⟨by omega, by omega⟩ rfl dL_acts_144 ?_
      obtain ⟨hc, hM⟩ := hM
      refine zV_idiv O dL_acts_147 hc ?_
      refine zV_iconst (z := 2) O ⟨by omega, by omega⟩ dL_acts_148 ?_
      obtain ⟨hc, hM⟩ := hM
      refine zV_irem O dL_acts_149 hc ?_
      obtain ⟨hc, hM⟩ := hM
      refine zV_iadd O dL_acts_150 hc ?_
      refine zV_min O zi_873 zi_538 zi_88 zi_539 (Nat.le_of_ble_eq_true rfl) (Nat.le_of_ble_eq_true rfl) (Nat.le_of_ble_eq_true rfl) (Nat.le_of_ble_eq_true rfl) dL_acts_151 ?_
      obtain ⟨hc, hM⟩ := hM
      refine zV_iadd O dL_acts_154 hc ?_
      refine zV_callV (as := [aI ((x1 / 14) % z55), aI (1 + (((x1 / 14) / 16) % 25)), aI (1 + (min 8 (z69 + (((x1 / 14) / 1024) % 2))))]) (st := []) O zc_X7_plan (Or.inl zl_RL_96) zi_875 zi_876 zt_169 rfl rfl (by decide) (Nat.le_of_ble_eq_true rfl) rfl rfl (Nat.le_of_ble_eq_true rfl) (Nat.le_of_ble_eq_true rfl) (Nat.le_of_ble_eq_true rfl) (Nat.le_of_ble_eq_true rfl) (Nat.le_of_ble_eq_true rfl) (Nat.le_of_ble_eq_true rfl) dL_acts_155 (sX7_plan hM) (fun r h72 hq => ?_) (fun x h9 hq => hq.elim)
      obtain ⟨z71, rfl, hM⟩ := hq
      exact zV_iret O rfl ⟨_, rfl, hM⟩ (Nat.le_of_ble_eq_true rfl) (Nat.le_of_ble_eq_true rfl) dL_acts_158
    · replace hM := hM.2 hc
      refine zV_bipush (z := -9) O ⟨by omega, by omega⟩ rfl dL_acts_117 ?_
      refine zV_goto (tgt := 158) O dL_acts_119 (by decide) ?_
      exact zV_iret O rfl ⟨_, rfl, hM⟩ (Nat.le_of_ble_eq_true rfl) (Nat.le_of_ble_eq_true rfl) dL_acts_158
  by_cases hc5 : (x1 % 14) = 5
  · replace hM := hM.2.2.2.2.2.1 hc5
    refine zV_tableIn (tgt := 159) O dL_acts_15 (by omega) (by omega) (by rw [hc5]; rfl) (by decide) ?_
    refine zV_aload_n O dL_acts_159 rfl rfl ?_
    refine zV_callV (as := []) (st := []) O zc_X7_settle (Or.inl zl_RL_100) zi_880 zi_881 zt_169 rfl rfl (by decide) (Nat.le_of_ble_eq_true rfl) rfl rfl (Nat.le_of_ble_eq_true rfl) (Nat.le_of_ble_eq_true rfl) (Nat.le_of_ble_eq_true rfl) (Nat.le_of_ble_eq_true rfl) (Nat.le_of_ble_eq_true rfl) (Nat.le_of_ble_eq_true rfl) dL_acts_160 (sX7_settle hM) (fun r h74 hq => ?_) (fun x h9 hq => hq.elim)
    obtain ⟨z73, rfl, hM⟩ := hq
    exact zV_iret O rfl ⟨_, rfl, hM⟩ (Nat.le_of_ble_eq_true rfl) (Nat.le_of_ble_eq_true rfl) dL_acts_163
  by_cases hc6 : (x1 % 14) = 6
  · replace hM := hM.2.2.2.2.2.2.1 hc6
    refine zV_tableIn (tgt := 164) O dL_acts_15 (by omega) (by omega) (by rw [hc6]; rfl) (by decide) ?_
    refine zV_aload_n O dL_acts_164 rfl rfl ?_
    refine zV_callV (as := []) (st := []) O zc_X7_wave (Or.inl zl_RL_103) zi_832 zi_833 zt_169 rfl rfl (by decide) (Nat.le_of_ble_eq_true rfl) rfl rfl (Nat.le_of_ble_eq_true rfl) (Nat.le_of_ble_eq_true rfl) (Nat.le_of_ble_eq_true rfl) (Nat.le_of_ble_eq_true rfl) (Nat.le_of_ble_eq_true rfl) (Nat.le_of_ble_eq_true rfl) dL_acts_165 (sX7_wave hM) (fun r h76 hq => ?_) (fun x h9 hq => hq.elim)
    obtain ⟨z75, rfl, hM⟩ := hq
    exact zV_iret O rfl ⟨_, rfl, hM⟩ (Nat.le_of_ble_eq_true rfl) (Nat.le_of_ble_eq_true rfl) dL_acts_168
  by_cases hc7 : (x1 % 14) = 7
  · replace hM := hM.2.2.2.2.2.2.2.1 hc7
    refine zV_tableIn (tgt := 164) O dL_acts_15 (by omega) (by omega) (by rw [hc7]; rfl) (by decide) ?_
    refine zV_aload_n O dL_acts_164 rfl rfl ?_
    refine zV_callV (as := []) (st := []) O zc_X7_wave (Or.inl zl_RL_103) zi_832 zi_833 zt_169 rfl rfl (by decide) (Nat.le_of_ble_eq_true rfl) rfl rfl (Nat.le_of_ble_eq_true rfl) (Nat.le_of_ble_eq_true rfl) (Nat.le_of_ble_eq_true rfl) (Nat.le_of_ble_eq_true rfl) (Nat.le_of_ble_eq_true rfl) (Nat.le_of_ble_eq_true rfl) dL_acts_165 (sX7_wave hM) (fun r h78 hq => ?_) (fun x h9 hq => hq.elim)
    obtain ⟨z77, rfl, hM⟩ := hq
    exact zV_iret O rfl ⟨_, rfl, hM⟩ (Nat.le_of_ble_eq_true rfl) (Nat.le_of_ble_eq_true rfl) dL_acts_168
  by_cases hc8 : (x1 % 14) = 8
  · replace hM := hM.2.2.2.2.2.2.2.2.1 hc8
    refine zV_tableIn (tgt := 169) O dL_acts_15 (by omega) (by omega) (by rw [hc8]; rfl) (by decide) ?_
    refine zV_aload_n O dL_acts_169 rfl rfl ?_
    refine zV_callV (as := []) (st := []) O zc_X7_back (Or.inl zl_RL_106) zi_909 zi_910 zt_169 rfl rfl (by decide) (Nat.le_of_ble_eq_true rfl) rfl rfl (Nat.le_of_ble_eq_true rfl) (Nat.le_of_ble_eq_true rfl) (Nat.le_of_ble_eq_true rfl) (Nat.le_of_ble_eq_true rfl) (Nat.le_of_ble_eq_true rfl) (Nat.le_of_ble_eq_true rfl) dL_acts_170 (sX7_back hM) (fun r h80 hq => ?_) (fun x h9 hq => hq.elim)
    obtain ⟨z79, rfl, hM⟩ := hq
    exact zV_iret O rfl ⟨_, rfl, hM⟩ (Nat.le_of_ble_eq_true rfl) (Nat.le_of_ble_eq_true rfl) dL_acts_173
  by_cases hc9 : (x1 % 14) = 9
  · replace hM := hM.2.2.2.2.2.2.2.2.2.1 hc9
    refine zV_tableIn (tgt := 174) O dL_acts_15 (by omega) (by omega) (by rw [hc9]; rfl) (by decide) ?_
    refine zV_aload_n O dL_acts_174 rfl rfl ?_
    refine zV_bipush (z := 8) O ⟨by omega, by omega⟩ rfl dL_acts_175 ?_
    refine zV_callV (as := [aI 8]) (st := []) O zc_X7_size (Or.inl zl_RL_82) zi_690 zi_691 zt_169 rfl rfl (by decide) (Nat.le_of_ble_eq_true rfl) rfl rfl (Nat.le_of_ble_eq_true rfl) (Nat.le_of_ble_eq_true rfl) (Nat.le_of_ble_eq_true rfl) (Nat.le_of_ble_eq_true rfl) (Nat.le_of_ble_eq_true rfl) (Nat.le_of_ble_eq_true rfl) dL_acts_177 (sX7_size hM) (fun r h82 hq => ?_) (fun x h9 hq => hq.elim)
    obtain ⟨z81, rfl, hM⟩ := hq
    refine zV_if_ne (tgt := 190) O dL_acts_180 (by decide) (fun hc => ?_) (fun hc => ?_)
    · replace hM := hM.1 hc
      refine zV_aload_n O dL_acts_190 rfl rfl ?_
      refine zV_callV (as := []) (st := []) O zc_X7_close (Or.inl zl_RL_112) zi_929 zi_930 zt_169 rfl rfl (by decide) (Nat.le_of_ble_eq_true rfl) rfl rfl (Nat.le_of_ble_eq_true rfl) (Nat.le_of_ble_eq_true rfl) (Nat.le_of_ble_eq_true rfl) (Nat.le_of_ble_eq_true rfl) (Nat.le_of_ble_eq_true rfl) (Nat.le_of_ble_eq_true rfl) dL_acts_191 (sX7_close hM) (fun r h84 hq => ?_) (fun x h9 hq => hq.elim)
      obtain ⟨z83, rfl, hM⟩ := hq
      exact zV_iret O rfl ⟨_, rfl, hM⟩ (Nat.le_of_ble_eq_true rfl) (Nat.le_of_ble_eq_true rfl) dL_acts_194
    · replace hM := hM.2 hc
      refine zV_aload_n O dL_acts_183 rfl rfl ?_
      refine zV_callV (as := []) (st := []) O zc_X7_open (Or.inl zl_RL_109) zi_925 zi_926 zt_169 rfl rfl (by decide) (Nat.le_of_ble_eq_true rfl) rfl rfl (Nat.le_of_ble_eq_true rfl) (Nat.le_of_ble_eq_true rfl) (Nat.le_of_ble_eq_true rfl) (Nat.le_of_ble_eq_true rfl) (Nat.le_of_ble_eq_true rfl) (Nat.le_of_ble_eq_true rfl) dL_acts_184 (sX7_open hM) (fun r h86 hq => ?_) (fun x h9 hq => hq.elim)
      obtain ⟨z85, rfl, hM⟩ := hq
      refine zV_goto (tgt := 194) O dL_acts_187 (by decide) ?_
      exact zV_iret O rfl ⟨_, rfl, hM⟩ (Nat.le_of_ble_eq_true rfl) (Nat.le_of_ble_eq_true rfl) dL_acts_194
  by_cases hc10 : (x1 % 14) = 10
  · replace hM := hM.2.2.2.2.2.2.2.2.2.2.1 hc10
    refine zV_tableIn (tgt := 195) O dL_acts_15 (by omega) (by omega) (by rw [hc10]; rfl) (by decide) ?_
    refine zV_aload_n O dL_acts_195 rfl rfl ?_
    refine zV_iload_n O dL_acts_196 rfl rfl ?_
    refine zV_iconst (z := 2) O ⟨by omega, by omega⟩ dL_acts_197 ?_
    obtain ⟨hc, hM⟩ := hM
    refine zV_irem O dL_acts_198 hc ?_
    refine zV_iload_n O dL_acts_199 rfl rfl ?_
    refine zV_iconst (z := 2) O ⟨by omega, by omega⟩ dL_acts_200 ?_
    obtain ⟨hc, hM⟩ := hM
    refine zV_idiv O dL_acts_201 hc ?_
    refine zV_iconst (z := 2) O ⟨by omega, by omega⟩ dL_acts_202 ?_
    obtain ⟨hc, hM⟩ := hM
    refine zV_irem O dL_acts_203 hc ?_
    refine zV_if_ne (tgt := 211) O dL_acts_204 (by decide) (fun hc => ?_) (fun hc => ?_)
    · replace hM := hM.1 hc
      refine zV_iconst (z := 0) O ⟨by omega, by omega⟩ dL_acts_211 ?_
      refine zV_sub (ls2 := [none, none, some (aI (x1 / 14)), none]) ⟨rfl, trivial⟩ ?_
      exact sL_acts_b212 O (Or.inl rfl) hM
    · replace hM := hM.2 hc
      refine zV_iconst (z := 1) O ⟨by omega, by omega⟩ dL_acts_207 ?_
      refine zV_goto (tgt := 212) O dL_acts_208 (by decide) ?_
      refine zV_sub (ls2 := [none, none, some (aI (x1 / 14)), none]) ⟨rfl, trivial⟩ ?_
      exact sL_acts_b212 O (Or.inr rfl) hM
  by_cases hc11 : (x1 % 14) = 11
  · replace hM := hM.2.2.2.2.2.2.2.2.2.2.2.1 hc11
    refine zV_tableIn (tgt := 230) O dL_acts_15 (by omega) (by omega) (by rw [hc11]; rfl) (by decide) ?_
    refine zV_aload_n O dL_acts_230 rfl rfl ?_
    refine zV_iconst (z := 1) O ⟨by omega, by omega⟩ dL_acts_231 ?_
    refine zV_callV (as := [aI 1]) (st := []) O zc_X7_size (Or.inl zl_RL_82) zi_690 zi_691 zt_169 rfl rfl (by decide) (Nat.le_of_ble_eq_true rfl) rfl rfl (Nat.le_of_ble_eq_true rfl) (Nat.le_of_ble_eq_true rfl) (Nat.le_of_ble_eq_true rfl) (Nat.le_of_ble_eq_true rfl) (Nat.le_of_ble_eq_true rfl) (Nat.le_of_ble_eq_true rfl) dL_acts_232 (sX7_size hM) (fun r h88 hq => ?_) (fun x h9 hq => hq.elim)
    obtain ⟨z87, rfl, hM⟩ := hq
    refine zV_if_ne (tgt := 243) O dL_acts_235 (by decide) (fun hc => ?_) (fun hc => ?_)
    · replace hM := hM.1 hc
      refine zV_aload_n O dL_acts_243 rfl rfl ?_
      refine zV_iload_n O dL_acts_244 rfl rfl ?_
      refine zV_aload_n O dL_acts_245 rfl rfl ?_
      refine zV_iconst (z := 1) O ⟨by omega, by omega⟩ dL_acts_246 ?_
      refine zV_callV (as := [aI 1]) (st := [aI (x1 / 14), aR 169]) O zc_X7_size (Or.inl zl_RL_82) zi_690 zi_691 zt_169 rfl rfl (by decide) (Nat.le_of_ble_eq_true rfl) rfl rfl (Nat.le_of_ble_eq_true rfl) (Nat.le_of_ble_eq_true rfl) (Nat.le_of_ble_eq_true rfl) (Nat.le_of_ble_eq_true rfl) (Nat.le_of_ble_eq_true rfl) (Nat.le_of_ble_eq_true rfl) dL_acts_247 (sX7_size hM) (fun r h90 hq => ?_) (fun x h9 hq => hq.elim)
      obtain ⟨z89, rfl, hM⟩ := hq
      obtain ⟨hc, hM⟩ := hM
      refine zV_irem O dL_acts_250 hc ?_
      refine zV_callV (as := [aI ((x1 / 14) % z89)]) (st := []) O zc_X7_removeRule (Or.inl zl_RL_119) zi_945 zi_946 zt_169 rfl rfl (by decide) (Nat.le_of_ble_eq_true rfl) rfl rfl (Nat.le_of_ble_eq_true rfl) (Nat.le_of_ble_eq_true rfl) (Nat.le_of_ble_eq_true rfl) (Nat.le_of_ble_eq_true rfl) (Nat.le_of_ble_eq_true rfl) (Nat.le_of_ble_eq_true rfl) dL_acts_251 (sX7_removeRule hM) (fun r h92 hq => ?_) (fun x h9 hq => hq.elim)
      obtain ⟨z91, rfl, hM⟩ := hq
      exact zV_iret O rfl ⟨_, rfl, hM⟩ (Nat.le_of_ble_eq_true rfl) (Nat.le_of_ble_eq_true rfl) dL_acts_254
    · replace hM := hM.2 hc
      refine zV_bipush (z := -9) O ⟨by omega, by omega⟩ rfl dL_acts_238 ?_
      refine zV_goto (tgt := 254) O dL_acts_240 (by decide) ?_
      exact zV_iret O rfl ⟨_, rfl, hM⟩ (Nat.le_of_ble_eq_true rfl) (Nat.le_of_ble_eq_true rfl) dL_acts_254
  by_cases hc12 : (x1 % 14) = 12
  · replace hM := hM.2.2.2.2.2.2.2.2.2.2.2.2.1 hc12
    refine zV_tableIn (tgt := 255) O dL_acts_15 (by omega) (by omega) (by rw [hc12]; rfl) (by decide) ?_
    refine zV_aload_n O dL_acts_255 rfl rfl ?_
    refine zV_iload_n O dL_acts_256 rfl rfl ?_
    refine zV_iconst (z := 4) O ⟨by omega, by omega⟩ dL_acts_257 ?_
    obtain ⟨hc, hM⟩ := hM
    refine zV_irem O dL_acts_258 hc ?_
    refine zV_callV (as := [aI ((x1 / 14) % 4)]) (st := []) O zc_X7_setKeep (Or.inl zl_RL_122) zi_957 zi_958 zt_169 rfl rfl (by decide) (Nat.le_of_ble_eq_true rfl) rfl rfl (Nat.le_of_ble_eq_true rfl) (Nat.le_of_ble_eq_true rfl) (Nat.le_of_ble_eq_true rfl) (Nat.le_of_ble_eq_true rfl) (Nat.le_of_ble_eq_true rfl) (Nat.le_of_ble_eq_true rfl) dL_acts_259 (sX7_setKeep hM) (fun r h94 hq => ?_) (fun x h9 hq => hq.elim)
    obtain ⟨z93, rfl, hM⟩ := hq
    exact zV_iret O rfl ⟨_, rfl, hM⟩ (Nat.le_of_ble_eq_true rfl) (Nat.le_of_ble_eq_true rfl) dL_acts_262
  have hc : (x1 % 14) < 0 ∨ 12 < (x1 % 14) := by omega
  replace hM := hM.2.2.2.2.2.2.2.2.2.2.2.2.2 hc
  refine zV_tableOut (tgt := 263) O dL_acts_15 hc (by decide) ?_
  refine zV_iload_n O dL_acts_263 rfl rfl ?_
  refine zV_if_ne (tgt := 272) O dL_acts_264 (by decide) (fun hc => ?_) (fun hc => ?_)
  · replace hM := hM.1 hc
    refine zV_iload_n O dL_acts_272 rfl rfl ?_
    refine zV_iconst (z := 3) O ⟨by omega, by omega⟩ dL_acts_273 ?_
    obtain ⟨hc, hM⟩ := hM
    refine zV_irem O dL_acts_274 hc ?_
    refine zV_if_ne (tgt := 304) O dL_acts_275 (by decide) (fun hc => ?_) (fun hc => ?_)
    · replace hM := hM.1 hc
      refine zV_aload_n O dL_acts_304 rfl rfl ?_
      refine zV_iload_n O dL_acts_305 rfl rfl ?_
      refine zV_iload_n O dL_acts_306 rfl rfl ?_
      obtain ⟨hc, hM⟩ := hM
      refine zV_irem O dL_acts_307 hc ?_
      refine zV_callV (as := [aI ((x1 / 14) % z55)]) (st := []) O zc_X7_unplan (Or.inl zl_RL_129) zi_965 zi_966 zt_169 rfl rfl (by decide) (Nat.le_of_ble_eq_true rfl) rfl rfl (Nat.le_of_ble_eq_true rfl) (Nat.le_of_ble_eq_true rfl) (Nat.le_of_ble_eq_true rfl) (Nat.le_of_ble_eq_true rfl) (Nat.le_of_ble_eq_true rfl) (Nat.le_of_ble_eq_true rfl) dL_acts_308 (sX7_unplan hM) (fun r h96 hq => ?_) (fun x h9 hq => hq.elim)
      obtain ⟨z95, rfl, hM⟩ := hq
      exact zV_iret O rfl ⟨_, rfl, hM⟩ (Nat.le_of_ble_eq_true rfl) (Nat.le_of_ble_eq_true rfl) dL_acts_311
    · replace hM := hM.2 hc
      refine zV_aload_n O dL_acts_278 rfl rfl ?_
      refine zV_iload_n O dL_acts_279 rfl rfl ?_
      refine zV_iconst (z := 3) O ⟨by omega, by omega⟩ dL_acts_280 ?_
      obtain ⟨hc, hM⟩ := hM
      refine zV_idiv O dL_acts_281 hc ?_
      refine zV_iload_n O dL_acts_282 rfl rfl ?_
      obtain ⟨hc, hM⟩ := hM
      refine zV_irem O dL_acts_283 hc ?_
      refine zV_iload_n O dL_acts_284 rfl rfl ?_
      refine zV_bipush (z := 64) O ⟨by omega, by omega⟩ rfl dL_acts_285 ?_
      obtain ⟨hc, hM⟩ := hM
      refine zV_idiv O dL_acts_287 hc ?_
      refine zV_iconst (z := 2) O ⟨by omega, by omega⟩ dL_acts_288 ?_
      obtain ⟨hc, hM⟩ := hM
      refine zV_irem O dL_acts_289 hc ?_
      refine zV_if_ne (tgt := 297) O dL_acts_290 (by decide) (fun hc => ?_) (fun hc => ?_)
      · replace hM := hM.1 hc
        refine zV_iconst (z := 0) O ⟨by omega, by omega⟩ dL_acts_297 ?_
        refine zV_sub (ls2 := [none, none, none, none]) trivial ?_
        exact sL_acts_b298 O (Or.inl rfl) hM
      · replace hM := hM.2 hc
        refine zV_iconst (z := 1) O ⟨by omega, by omega⟩ dL_acts_293 ?_
        refine zV_goto (tgt := 298) O dL_acts_294 (by decide) ?_
        refine zV_sub (ls2 := [none, none, none, none]) trivial ?_
        exact sL_acts_b298 O (Or.inr rfl) hM
  · replace hM := hM.2 hc
    refine zV_bipush (z := -9) O ⟨by omega, by omega⟩ rfl dL_acts_267 ?_
    refine zV_goto (tgt := 311) O dL_acts_269 (by decide) ?_
    exact zV_iret O rfl ⟨_, rfl, hM⟩ (Nat.le_of_ble_eq_true rfl) (Nat.le_of_ble_eq_true rfl) dL_acts_311
def mL_isWave_b469 (Q : Int → Hp → Prop) : Nat → Int → Int → Int → Hp → Prop
  | 0 => fun _ _ _ _ => False
  | fu469 + 1 => fun v1 v2 v12 h => ((v1 ≤ v12 → (mX7_undo h (fun z91 h92 => ((z91 < 0 → (Q 0 h92)) ∧ (¬ z91 < 0 → (mX7_size 3 h92 (fun z93 h94 => ((¬ z93 = v2 → (Q 0 h94)) ∧ (z93 = v2 → (Q 1 h94)))))))))) ∧ (¬ v1 ≤ v12 → (mX7_host v12 1 h (fun z95 => (zgk 0 h 187 v12 ∧ ((¬ z95 = (rd h 187 v12) → (Q 0 h)) ∧ (z95 = (rd h 187 v12) → (mX7_host v12 2 h (fun z96 => (zgk 0 h 188 v12 ∧ ((z96 = (rd h 188 v12) → (zr (v12 + 1) ∧ ((mL_isWave_b469 Q fu469) v1 v2 (v12 + 1) h))) ∧ (¬ z96 = (rd h 188 v12) → (Q 0 h)))))))))))))
set_option maxHeartbeats 4000000 in
set_option maxRecDepth 100000 in
theorem sL_isWave_b469 {l0 : Launch} {a : ZC}  {Q : Int → Hp → Prop}  (O : zOk l0 a cL_isWave RL 13 (some .boolean) 189 []) (hN : a.2.2.2 = 189)   : ∀ (ff : Nat) (v1 : Int) (v2 : Int) (v12 : Int) (h : Hp), mL_isWave_b469 Q ff v1 v2 v12 h → zV a (8, 2, 80, (qZ Q), xN) 2 80 469 [some (aR 169), some (aI v1), some (aI v2), none, none, none, some (aR 187), some (aR 188), none, none, none, none, some (aI v12)] [] h := by
  intro ff
  induction ff with
  | zero => intro v1 v2 v12 h hM; exact hM.elim
  | succ ff ih =>
    have hK469 := ih
    intro v1 v2 v12 h hM
    unfold mL_isWave_b469 at hM
    refine zV_iload O dL_isWave_469 rfl ?_
    refine zV_iload_n O dL_isWave_471 rfl rfl ?_
    refine zV_icmp_ge (tgt := 513) O dL_isWave_472 (by decide) (fun hc => ?_) (fun hc => ?_)
    · replace hM := hM.1 hc
      refine zV_aload_n O dL_isWave_513 rfl rfl ?_
      refine zV_callV (as := []) (st := []) O zc_X7_undo (Or.inl zl_RL_176) zi_846 zi_847 zt_169 rfl rfl (by decide) (Nat.le_of_ble_eq_true rfl) rfl rfl (Nat.le_of_ble_eq_true rfl) (Nat.le_of_ble_eq_true rfl) (Nat.le_of_ble_eq_true rfl) (Nat.le_of_ble_eq_true rfl) (Nat.le_of_ble_eq_true rfl) (Nat.le_of_ble_eq_true rfl) dL_isWave_514 (sX7_undo hM) (fun r h92 hq => ?_) (fun x h9 hq => hq.elim)
      obtain ⟨z91, rfl, hM⟩ := hq
      refine zV_if_lt (tgt := 533) O dL_isWave_517 (by decide) (fun hc => ?_) (fun hc => ?_)
      · replace hM := hM.1 hc
        refine zV_iconst (z := 0) O ⟨by omega, by omega⟩ dL_isWave_533 ?_
        exact zV_zret O rfl (Or.inl rfl) ⟨_, rfl, (Or.inl rfl), hM⟩ (Nat.le_of_ble_eq_true rfl) (Nat.le_of_ble_eq_true rfl) dL_isWave_534
      · replace hM := hM.2 hc
        refine zV_aload_n O dL_isWave_520 rfl rfl ?_
        refine zV_iconst (z := 3) O ⟨by omega, by omega⟩ dL_isWave_521 ?_
        refine zV_callV (as := [aI 3]) (st := []) O zc_X7_size (Or.inl zl_RL_82) zi_690 zi_691 zt_169 rfl rfl (by decide) (Nat.le_of_ble_eq_true rfl) rfl rfl (Nat.le_of_ble_eq_true rfl) (Nat.le_of_ble_eq_true rfl) (Nat.le_of_ble_eq_true rfl) (Nat.le_of_ble_eq_true rfl) (Nat.le_of_ble_eq_true rfl) (Nat.le_of_ble_eq_true rfl) dL_isWave_522 (sX7_size hM) (fun r h94 hq => ?_) (fun x h9 hq => hq.elim)
        obtain ⟨z93, rfl, hM⟩ := hq
        refine zV_iload_n O dL_isWave_525 rfl rfl ?_
        refine zV_icmp_ne (tgt := 533) O dL_isWave_526 (by decide) (fun hc => ?_) (fun hc => ?_)
        · replace hM := hM.1 hc
          refine zV_iconst (z := 0) O ⟨by omega, by omega⟩ dL_isWave_533 ?_
          exact zV_zret O rfl (Or.inl rfl) ⟨_, rfl, (Or.inl rfl), hM⟩ (Nat.le_of_ble_eq_true rfl) (Nat.le_of_ble_eq_true rfl) dL_isWave_534
        · replace hM := hM.2 hc
          refine zV_iconst (z := 1) O ⟨by omega, by omega⟩ dL_isWave_529 ?_
          refine zV_goto (tgt := 534) O dL_isWave_530 (by decide) ?_
          exact zV_zret O rfl (Or.inr rfl) ⟨_, rfl, (Or.inr rfl), hM⟩ (Nat.le_of_ble_eq_true rfl) (Nat.le_of_ble_eq_true rfl) dL_isWave_534
    · replace hM := hM.2 hc
      refine zV_aload_n O dL_isWave_475 rfl rfl ?_
      refine zV_iload O dL_isWave_476 rfl ?_
      refine zV_iconst (z := 1) O ⟨by omega, by omega⟩ dL_isWave_478 ?_
      refine zV_callV (as := [aI v12, aI 1]) (st := []) O zc_X7_host (Or.inl zl_RL_132) zi_746 zi_747 zt_169 rfl rfl (by decide) (Nat.le_of_ble_eq_true rfl) rfl rfl (Nat.le_of_ble_eq_true rfl) (Nat.le_of_ble_eq_true rfl) (Nat.le_of_ble_eq_true rfl) (Nat.le_of_ble_eq_true rfl) (Nat.le_of_ble_eq_true rfl) (Nat.le_of_ble_eq_true rfl) dL_isWave_479 (sX7_host hM) (fun r h9 hq => ?_) (fun x h9 hq => hq.elim)
      obtain ⟨rfl, z95, rfl, hM⟩ := hq
      refine zV_aload O dL_isWave_482 rfl ?_
      refine zV_iload O dL_isWave_484 rfl ?_
      obtain ⟨hc, hM⟩ := hM
      refine zV_ialdG O rfl (by decide) hc dL_isWave_486 ?_
      refine zV_icmp_ne (tgt := 505) O dL_isWave_487 (by decide) (fun hc => ?_) (fun hc => ?_)
      · replace hM := hM.1 hc
        refine zV_iconst (z := 0) O ⟨by omega, by omega⟩ dL_isWave_505 ?_
        exact zV_zret O rfl (Or.inl rfl) ⟨_, rfl, (Or.inl rfl), hM⟩ (Nat.le_of_ble_eq_true rfl) (Nat.le_of_ble_eq_true rfl) dL_isWave_506
      · replace hM := hM.2 hc
        refine zV_aload_n O dL_isWave_490 rfl rfl ?_
        refine zV_iload O dL_isWave_491 rfl ?_
        refine zV_iconst (z := 2) O ⟨by omega, by omega⟩ dL_isWave_493 ?_
        refine zV_callV (as := [aI v12, aI 2]) (st := []) O zc_X7_host (Or.inl zl_RL_132) zi_746 zi_747 zt_169 rfl rfl (by decide) (Nat.le_of_ble_eq_true rfl) rfl rfl (Nat.le_of_ble_eq_true rfl) (Nat.le_of_ble_eq_true rfl) (Nat.le_of_ble_eq_true rfl) (Nat.le_of_ble_eq_true rfl) (Nat.le_of_ble_eq_true rfl) (Nat.le_of_ble_eq_true rfl) dL_isWave_494 (sX7_host hM) (fun r h9 hq => ?_) (fun x h9 hq => hq.elim)
        obtain ⟨rfl, z96, rfl, hM⟩ := hq
        refine zV_aload O dL_isWave_497 rfl ?_
        refine zV_iload O dL_isWave_499 rfl ?_
        obtain ⟨hc, hM⟩ := hM
        refine zV_ialdG O rfl (by decide) hc dL_isWave_501 ?_
        refine zV_icmp_eq (tgt := 507) O dL_isWave_502 (by decide) (fun hc => ?_) (fun hc => ?_)
        · replace hM := hM.1 hc
          obtain ⟨hc, hM⟩ := hM
          refine zV_iinc O dL_isWave_507 rfl (Nat.le_of_ble_eq_true rfl) rfl hc ?_
          refine zV_goto (tgt := 469) O dL_isWave_510 (by decide) ?_
          exact hK469 _ _ _ _ hM
        · replace hM := hM.2 hc
          refine zV_iconst (z := 0) O ⟨by omega, by omega⟩ dL_isWave_505 ?_
          exact zV_zret O rfl (Or.inl rfl) ⟨_, rfl, (Or.inl rfl), hM⟩ (Nat.le_of_ble_eq_true rfl) (Nat.le_of_ble_eq_true rfl) dL_isWave_506
def mL_isWave_b402 (Q : Int → Hp → Prop) (v1 : Int) (v2 : Int) (v3 : Int) (v4 : Int) (v9 : Int) (s0 : Int) (s1 : Int) (h : Hp) : Prop := ((s1 = s0 → (mX7_wave h (fun z97 h98 => ((v9 = 0 → ((¬ z97 = v4 → (Q 0 h98)) ∧ (z97 = v4 → (mX7_size 3 h98 (fun z99 h100 => ((¬ z99 = v3 → (Q 0 h100)) ∧ (z99 = v3 → (mX7_plans v3 h100 (fun z101 => ((z101 = 0 → (∃ ff, mL_isWave_b469 Q ff v1 v2 0 h100)) ∧ (¬ z101 = 0 → (Q 0 h100)))))))))))) ∧ (¬ v9 = 0 → ((¬ z97 = v9 → (Q 0 h98)) ∧ (z97 = v9 → (mX7_size 3 h98 (fun z102 h103 => ((¬ z102 = v2 → (Q 0 h103)) ∧ (z102 = v2 → (Q 1 h103)))))))))))) ∧ (¬ s1 = s0 → (Q 0 h)))
set_option maxHeartbeats 4000000 in
set_option maxRecDepth 100000 in
theorem sL_isWave_b402 {l0 : Launch} {a : ZC}  {Q : Int → Hp → Prop}  (O : zOk l0 a cL_isWave RL 13 (some .boolean) 189 []) (hN : a.2.2.2 = 189)   {v1 : Int} {v2 : Int} {v3 : Int} {v4 : Int} {v9 : Int} {s0 : Int} {s1 : Int} {h : Hp}  (hM : mL_isWave_b402 Q v1 v2 v3 v4 v9 s0 s1 h) : zV a (8, 2, 80, (qZ Q), xN) 2 80 402 [some (aR 169), some (aI v1), some (aI v2), some (aI v3), some (aI v4), none, some (aR 187), some (aR 188), none, some (aI v9), none, none, none] [aI s0, aI s1] h := by
  unfold mL_isWave_b402 at hM
  refine zV_icmp_eq (tgt := 407) O dL_isWave_402 (by decide) (fun hc => ?_) (fun hc => ?_)
  · replace hM := hM.1 hc
    refine zV_aload_n O dL_isWave_407 rfl rfl ?_
    refine zV_callV (as := []) (st := []) O zc_X7_wave (Or.inl zl_RL_103) zi_832 zi_833 zt_169 rfl rfl (by decide) (Nat.le_of_ble_eq_true rfl) rfl rfl (Nat.le_of_ble_eq_true rfl) (Nat.le_of_ble_eq_true rfl) (Nat.le_of_ble_eq_true rfl) (Nat.le_of_ble_eq_true rfl) (Nat.le_of_ble_eq_true rfl) (Nat.le_of_ble_eq_true rfl) dL_isWave_408 (sX7_wave hM) (fun r h98 hq => ?_) (fun x h9 hq => hq.elim)
    obtain ⟨z97, rfl, hM⟩ := hq
    refine zV_istore O dL_isWave_411 (Nat.le_of_ble_eq_true rfl) rfl ?_
    refine zV_iload O dL_isWave_413 rfl ?_
    refine zV_if_eq (tgt := 440) O dL_isWave_415 (by decide) (fun hc => ?_) (fun hc => ?_)
    · replace hM := hM.1 hc
      refine zV_iload O dL_isWave_440 rfl ?_
      refine zV_iload O dL_isWave_442 rfl ?_
      refine zV_icmp_ne (tgt := 464) O dL_isWave_444 (by decide) (fun hc => ?_) (fun hc => ?_)
      · replace hM := hM.1 hc
        refine zV_iconst (z := 0) O ⟨by omega, by omega⟩ dL_isWave_464 ?_
        exact zV_zret O rfl (Or.inl rfl) ⟨_, rfl, (Or.inl rfl), hM⟩ (Nat.le_of_ble_eq_true rfl) (Nat.le_of_ble_eq_true rfl) dL_isWave_465
      · replace hM := hM.2 hc
        refine zV_aload_n O dL_isWave_447 rfl rfl ?_
        refine zV_iconst (z := 3) O ⟨by omega, by omega⟩ dL_isWave_448 ?_
        refine zV_callV (as := [aI 3]) (st := []) O zc_X7_size (Or.inl zl_RL_82) zi_690 zi_691 zt_169 rfl rfl (by decide) (Nat.le_of_ble_eq_true rfl) rfl rfl (Nat.le_of_ble_eq_true rfl) (Nat.le_of_ble_eq_true rfl) (Nat.le_of_ble_eq_true rfl) (Nat.le_of_ble_eq_true rfl) (Nat.le_of_ble_eq_true rfl) (Nat.le_of_ble_eq_true rfl) dL_isWave_449 (sX7_size hM) (fun r h100 hq => ?_) (fun x h9 hq => hq.elim)
        obtain ⟨z99, rfl, hM⟩ := hq
        refine zV_iload_n O dL_isWave_452 rfl rfl ?_
        refine zV_icmp_ne (tgt := 464) O dL_isWave_453 (by decide) (fun hc => ?_) (fun hc => ?_)
        · replace hM := hM.1 hc
          refine zV_iconst (z := 0) O ⟨by omega, by omega⟩ dL_isWave_464 ?_
          exact zV_zret O rfl (Or.inl rfl) ⟨_, rfl, (Or.inl rfl), hM⟩ (Nat.le_of_ble_eq_true rfl) (Nat.le_of_ble_eq_true rfl) dL_isWave_465
        · replace hM := hM.2 hc
          refine zV_aload_n O dL_isWave_456 rfl rfl ?_
          refine zV_iload_n O dL_isWave_457 rfl rfl ?_
          refine zV_callV (as := [aI v3]) (st := []) O zc_X7_plans (Or.inl zl_RL_170) zi_786 zi_787 zt_169 rfl rfl (by decide) (Nat.le_of_ble_eq_true rfl) rfl rfl (Nat.le_of_ble_eq_true rfl) (Nat.le_of_ble_eq_true rfl) (Nat.le_of_ble_eq_true rfl) (Nat.le_of_ble_eq_true rfl) (Nat.le_of_ble_eq_true rfl) (Nat.le_of_ble_eq_true rfl) dL_isWave_458 (sX7_plans hM) (fun r h9 hq => ?_) (fun x h9 hq => hq.elim)
          obtain ⟨rfl, z101, rfl, hM⟩ := hq
          refine zV_if_eq (tgt := 466) O dL_isWave_461 (by decide) (fun hc => ?_) (fun hc => ?_)
          · replace hM := hM.1 hc
            refine zV_iconst (z := 0) O ⟨by omega, by omega⟩ dL_isWave_466 ?_
            refine zV_istore O dL_isWave_467 (Nat.le_of_ble_eq_true rfl) rfl ?_
            refine zV_sub (ls2 := [some (aR 169), some (aI v1), some (aI v2), none, none, none, some (aR 187), some (aR 188), none, none, none, none, some (aI 0)]) ⟨rfl, rfl, rfl, rfl, rfl, rfl, trivial⟩ ?_
            obtain ⟨ff, hM⟩ := hM
            exact sL_isWave_b469 O hN ff _ _ _ _ hM
          · replace hM := hM.2 hc
            refine zV_iconst (z := 0) O ⟨by omega, by omega⟩ dL_isWave_464 ?_
            exact zV_zret O rfl (Or.inl rfl) ⟨_, rfl, (Or.inl rfl), hM⟩ (Nat.le_of_ble_eq_true rfl) (Nat.le_of_ble_eq_true rfl) dL_isWave_465
    · replace hM := hM.2 hc
      refine zV_iload O dL_isWave_418 rfl ?_
      refine zV_iload O dL_isWave_420 rfl ?_
      refine zV_icmp_ne (tgt := 438) O dL_isWave_422 (by decide) (fun hc => ?_) (fun hc => ?_)
      · replace hM := hM.1 hc
        refine zV_iconst (z := 0) O ⟨by omega, by omega⟩ dL_isWave_438 ?_
        exact zV_zret O rfl (Or.inl rfl) ⟨_, rfl, (Or.inl rfl), hM⟩ (Nat.le_of_ble_eq_true rfl) (Nat.le_of_ble_eq_true rfl) dL_isWave_439
      · replace hM := hM.2 hc
        refine zV_aload_n O dL_isWave_425 rfl rfl ?_
        refine zV_iconst (z := 3) O ⟨by omega, by omega⟩ dL_isWave_426 ?_
        refine zV_callV (as := [aI 3]) (st := []) O zc_X7_size (Or.inl zl_RL_82) zi_690 zi_691 zt_169 rfl rfl (by decide) (Nat.le_of_ble_eq_true rfl) rfl rfl (Nat.le_of_ble_eq_true rfl) (Nat.le_of_ble_eq_true rfl) (Nat.le_of_ble_eq_true rfl) (Nat.le_of_ble_eq_true rfl) (Nat.le_of_ble_eq_true rfl) (Nat.le_of_ble_eq_true rfl) dL_isWave_427 (sX7_size hM) (fun r h103 hq => ?_) (fun x h9 hq => hq.elim)
        obtain ⟨z102, rfl, hM⟩ := hq
        refine zV_iload_n O dL_isWave_430 rfl rfl ?_
        refine zV_icmp_ne (tgt := 438) O dL_isWave_431 (by decide) (fun hc => ?_) (fun hc => ?_)
        · replace hM := hM.1 hc
          refine zV_iconst (z := 0) O ⟨by omega, by omega⟩ dL_isWave_438 ?_
          exact zV_zret O rfl (Or.inl rfl) ⟨_, rfl, (Or.inl rfl), hM⟩ (Nat.le_of_ble_eq_true rfl) (Nat.le_of_ble_eq_true rfl) dL_isWave_439
        · replace hM := hM.2 hc
          refine zV_iconst (z := 1) O ⟨by omega, by omega⟩ dL_isWave_434 ?_
          refine zV_goto (tgt := 439) O dL_isWave_435 (by decide) ?_
          exact zV_zret O rfl (Or.inr rfl) ⟨_, rfl, (Or.inr rfl), hM⟩ (Nat.le_of_ble_eq_true rfl) (Nat.le_of_ble_eq_true rfl) dL_isWave_439
  · replace hM := hM.2 hc
    refine zV_iconst (z := 0) O ⟨by omega, by omega⟩ dL_isWave_405 ?_
    exact zV_zret O rfl (Or.inl rfl) ⟨_, rfl, (Or.inl rfl), hM⟩ (Nat.le_of_ble_eq_true rfl) (Nat.le_of_ble_eq_true rfl) dL_isWave_406
def mL_isWave_b377 (Q : Int → Hp → Prop) (v1 : Int) (v2 : Int) (v3 : Int) (v4 : Int) (v9 : Int) (s0 : Int) (h : Hp) : Prop := (mX7_whyNot h (fun z104 h105 => ((¬ z104 = v9 → (Q 0 h105)) ∧ (z104 = v9 → ((¬ v2 = (9 : Int) → (mL_isWave_b402 Q v1 v2 v3 v4 v9 v4 s0 h105)) ∧ (v2 = (9 : Int) → (mL_isWave_b402 Q v1 v2 v3 v4 v9 0 s0 h105)))))))
set_option maxHeartbeats 4000000 in
set_option maxRecDepth 100000 in
theorem sL_isWave_b377 {l0 : Launch} {a : ZC}  {Q : Int → Hp → Prop}  (O : zOk l0 a cL_isWave RL 13 (some .boolean) 189 []) (hN : a.2.2.2 = 189)   {v1 : Int} {v2 : Int} {v3 : Int} {v4 : Int} {v9 : Int} {s0 : Int} {h : Hp}  (hM : mL_isWave_b377 Q v1 v2 v3 v4 v9 s0 h) : zV a (8, 2, 80, (qZ Q), xN) 2 80 377 [some (aR 169), some (aI v1), some (aI v2), some (aI v3), some (aI v4), none, some (aR 187), some (aR 188), none, some (aI v9), none, none, none] [aI s0] h := by
  unfold mL_isWave_b377 at hM
  refine zV_istore O dL_isWave_377 (Nat.le_of_ble_eq_true rfl) rfl ?_
  refine zV_aload_n O dL_isWave_379 rfl rfl ?_
  refine zV_callV (as := []) (st := []) O zc_X7_whyNot (Or.inl zl_RL_173) zi_794 zi_795 zt_169 rfl rfl (by decide) (Nat.le_of_ble_eq_true rfl) rfl rfl (Nat.le_of_ble_eq_true rfl) (Nat.le_of_ble_eq_true rfl) (Nat.le_of_ble_eq_true rfl) (Nat.le_of_ble_eq_true rfl) (Nat.le_of_ble_eq_true rfl) (Nat.le_of_ble_eq_true rfl) dL_isWave_380 (sX7_whyNot hM) (fun r h105 hq => ?_) (fun x h9 hq => hq.elim)
  obtain ⟨z104, rfl, hM⟩ := hq
  refine zV_iload O dL_isWave_383 rfl ?_
  refine zV_icmp_ne (tgt := 405) O dL_isWave_385 (by decide) (fun hc => ?_) (fun hc => ?_)
  · replace hM := hM.1 hc
    refine zV_iconst (z := 0) O ⟨by omega, by omega⟩ dL_isWave_405 ?_
    exact zV_zret O rfl (Or.inl rfl) ⟨_, rfl, (Or.inl rfl), hM⟩ (Nat.le_of_ble_eq_true rfl) (Nat.le_of_ble_eq_true rfl) dL_isWave_406
  · replace hM := hM.2 hc
    refine zV_iload O dL_isWave_388 rfl ?_
    refine zV_iload_n O dL_isWave_390 rfl rfl ?_
    refine zV_bipush (z := 9) O ⟨by omega, by omega⟩ rfl dL_isWave_391 ?_
    refine zV_icmp_ne (tgt := 400) O dL_isWave_393 (by decide) (fun hc => ?_) (fun hc => ?_)
    · replace hM := hM.1 hc
      refine zV_iload O dL_isWave_400 rfl ?_
      refine zV_sub (ls2 := [some (aR 169), some (aI v1), some (aI v2), some (aI v3), some (aI v4), none, some (aR 187), some (aR 188), none, some (aI v9), none, none, none]) ⟨rfl, rfl, rfl, rfl, rfl, rfl, rfl, rfl, trivial⟩ ?_
      exact sL_isWave_b402 O hN hM
    · replace hM := hM.2 hc
      refine zV_iconst (z := 0) O ⟨by omega, by omega⟩ dL_isWave_396 ?_
      refine zV_goto (tgt := 402) O dL_isWave_397 (by decide) ?_
      refine zV_sub (ls2 := [some (aR 169), some (aI v1), some (aI v2), some (aI v3), some (aI v4), none, some (aR 187), some (aR 188), none, some (aI v9), none, none, none]) ⟨rfl, rfl, rfl, rfl, rfl, rfl, rfl, rfl, trivial⟩ ?_
      exact sL_isWave_b402 O hN hM
def mL_isWave_b360 (Q : Int → Hp → Prop) (v1 : Int) (v2 : Int) (v3 : Int) (v4 : Int) (s0 : Int) (h : Hp) : Prop := ((¬ v2 = (9 : Int) → (mX7_plans v3 h (fun z106 => (mL_isWave_b377 Q v1 v2 v3 v4 s0 z106 h)))) ∧ (v2 = (9 : Int) → (mL_isWave_b377 Q v1 v2 v3 v4 s0 0 h)))
set_option maxHeartbeats 4000000 in
set_option maxRecDepth 100000 in
theorem sL_isWave_b360 {l0 : Launch} {a : ZC}  {Q : Int → Hp → Prop}  (O : zOk l0 a cL_isWave RL 13 (some .boolean) 189 []) (hN : a.2.2.2 = 189)   {v1 : Int} {v2 : Int} {v3 : Int} {v4 : Int} {s0 : Int} {h : Hp}  (hM : mL_isWave_b360 Q v1 v2 v3 v4 s0 h) : zV a (8, 2, 80, (qZ Q), xN) 2 80 360 [some (aR 169), some (aI v1), some (aI v2), some (aI v3), some (aI v4), none, some (aR 187), some (aR 188), none, none, none, none, none] [aI s0] h := by
  unfold mL_isWave_b360 at hM
  refine zV_istore O dL_isWave_360 (Nat.le_of_ble_eq_true rfl) rfl ?_
  refine zV_iload_n O dL_isWave_362 rfl rfl ?_
  refine zV_bipush (z := 9) O ⟨by omega, by omega⟩ rfl dL_isWave_363 ?_
  refine zV_icmp_ne (tgt := 372) O dL_isWave_365 (by decide) (fun hc => ?_) (fun hc => ?_)
  · replace hM := hM.1 hc
    refine zV_aload_n O dL_isWave_372 rfl rfl ?_
    refine zV_iload_n O dL_isWave_373 rfl rfl ?_
    refine zV_callV (as := [aI v3]) (st := []) O zc_X7_plans (Or.inl zl_RL_170) zi_786 zi_787 zt_169 rfl rfl (by decide) (Nat.le_of_ble_eq_true rfl) rfl rfl (Nat.le_of_ble_eq_true rfl) (Nat.le_of_ble_eq_true rfl) (Nat.le_of_ble_eq_true rfl) (Nat.le_of_ble_eq_true rfl) (Nat.le_of_ble_eq_true rfl) (Nat.le_of_ble_eq_true rfl) dL_isWave_374 (sX7_plans hM) (fun r h9 hq => ?_) (fun x h9 hq => hq.elim)
    obtain ⟨rfl, z106, rfl, hM⟩ := hq
    exact sL_isWave_b377 O hN hM
  · replace hM := hM.2 hc
    refine zV_iconst (z := 0) O ⟨by omega, by omega⟩ dL_isWave_368 ?_
    refine zV_goto (tgt := 377) O dL_isWave_369 (by decide) ?_
    exact sL_isWave_b377 O hN hM
def mL_isWave_b314 (Q : Int → Hp → Prop) (K217 : Int → Int → Int → Int → Int → Int → Int → Hp → Prop) (K226 : Int → Int → Int → Int → Int → Int → Int → Int → Hp → Prop) (v1 : Int) (v2 : Int) (v3 : Int) (v4 : Int) (v5 : Int) (v9 : Int) (v10 : Int) (s0 : Int) (h : Hp) : Prop := (zr (v10 + 1) ∧ (K226 v1 v2 v3 v4 v5 s0 v9 (v10 + 1) h))
set_option maxHeartbeats 4000000 in
set_option maxRecDepth 100000 in
theorem sL_isWave_b314 {l0 : Launch} {a : ZC}  {Q : Int → Hp → Prop} {K217 : Int → Int → Int → Int → Int → Int → Int → Hp → Prop} {K226 : Int → Int → Int → Int → Int → Int → Int → Int → Hp → Prop} (O : zOk l0 a cL_isWave RL 13 (some .boolean) 189 []) (hN : a.2.2.2 = 189)  (hK217 : ∀ (v1 : Int) (v2 : Int) (v3 : Int) (v4 : Int) (v5 : Int) (v8 : Int) (v9 : Int) (h : Hp), (v5 = 0 ∨ v5 = 1) → (v8 = 0 ∨ v8 = 1) → K217 v1 v2 v3 v4 v5 v8 v9 h → zV a (8, 2, 80, (qZ Q), xN) 2 80 217 [some (aR 169), some (aI v1), some (aI v2), some (aI v3), some (aI v4), some (aI v5), some (aR 187), some (aR 188), some (aI v8), some (aI v9), none, none, none] [] h) (hK226 : ∀ (v1 : Int) (v2 : Int) (v3 : Int) (v4 : Int) (v5 : Int) (v8 : Int) (v9 : Int) (v10 : Int) (h : Hp), (v5 = 0 ∨ v5 = 1) → (v8 = 0 ∨ v8 = 1) → K226 v1 v2 v3 v4 v5 v8 v9 v10 h → zV a (8, 2, 80, (qZ Q), xN) 2 80 226 [some (aR 169), some (aI v1), some (aI v2), some (aI v3), some (aI v4), some (aI v5), some (aR 187), some (aR 188), some (aI v8), some (aI v9), some (aI v10), none, none] [] h) {v1 : Int} {v2 : Int} {v3 : Int} {v4 : Int} {v5 : Int} {v9 : Int} {v10 : Int} {s0 : Int} {h : Hp} (hz_v5 : v5 = 0 ∨ v5 = 1) (hz_s0 : s0 = 0 ∨ s0 = 1) (hM : mL_isWave_b314 Q K217 K226 v1 v2 v3 v4 v5 v9 v10 s0 h) : zV a (8, 2, 80, (qZ Q), xN) 2 80 314 [some (aR 169), some (aI v1), some (aI v2), some (aI v3), some (aI v4), some (aI v5), some (aR 187), some (aR 188), none, some (aI v9), some (aI v10), none, none] [aI s0] h := by
  unfold mL_isWave_b314 at hM
  refine zV_istore O dL_isWave_314 (Nat.le_of_ble_eq_true rfl) rfl ?_
  obtain ⟨hc, hM⟩ := hM
  refine zV_iinc O dL_isWave_316 rfl (Nat.le_of_ble_eq_true rfl) rfl hc ?_
  refine zV_goto (tgt := 226) O dL_isWave_319 (by decide) ?_
  exact hK226 _ _ _ _ _ _ _ _ _ hz_v5 hz_s0 hM
def mL_isWave_b309 (Q : Int → Hp → Prop) (K217 : Int → Int → Int → Int → Int → Int → Int → Hp → Prop) (K226 : Int → Int → Int → Int → Int → Int → Int → Int → Hp → Prop) (v1 : Int) (v2 : Int) (v3 : Int) (v4 : Int) (v5 : Int) (v9 : Int) (v10 : Int) (h : Hp) : Prop := (mL_isWave_b314 Q K217 K226 v1 v2 v3 v4 v5 v9 v10 1 h)
set_option maxHeartbeats 4000000 in
set_option maxRecDepth 100000 in
theorem sL_isWave_b309 {l0 : Launch} {a : ZC}  {Q : Int → Hp → Prop} {K217 : Int → Int → Int → Int → Int → Int → Int → Hp → Prop} {K226 : Int → Int → Int → Int → Int → Int → Int → Int → Hp → Prop} (O : zOk l0 a cL_isWave RL 13 (some .boolean) 189 []) (hN : a.2.2.2 = 189)  (hK217 : ∀ (v1 : Int) (v2 : Int) (v3 : Int) (v4 : Int) (v5 : Int) (v8 : Int) (v9 : Int) (h : Hp), (v5 = 0 ∨ v5 = 1) → (v8 = 0 ∨ v8 = 1) → K217 v1 v2 v3 v4 v5 v8 v9 h → zV a (8, 2, 80, (qZ Q), xN) 2 80 217 [some (aR 169), some (aI v1), some (aI v2), some (aI v3), some (aI v4), some (aI v5), some (aR 187), some (aR 188), some (aI v8), some (aI v9), none, none, none] [] h) (hK226 : ∀ (v1 : Int) (v2 : Int) (v3 : Int) (v4 : Int) (v5 : Int) (v8 : Int) (v9 : Int) (v10 : Int) (h : Hp), (v5 = 0 ∨ v5 = 1) → (v8 = 0 ∨ v8 = 1) → K226 v1 v2 v3 v4 v5 v8 v9 v10 h → zV a (8, 2, 80, (qZ Q), xN) 2 80 226 [some (aR 169), some (aI v1), some (aI v2), some (aI v3), some (aI v4), some (aI v5), some (aR 187), some (aR 188), some (aI v8), some (aI v9), some (aI v10), none, none] [] h) {v1 : Int} {v2 : Int} {v3 : Int} {v4 : Int} {v5 : Int} {v9 : Int} {v10 : Int} {h : Hp} (hz_v5 : v5 = 0 ∨ v5 = 1) (hM : mL_isWave_b309 Q K217 K226 v1 v2 v3 v4 v5 v9 v10 h) : zV a (8, 2, 80, (qZ Q), xN) 2 80 309 [some (aR 169), some (aI v1), some (aI v2), some (aI v3), some (aI v4), some (aI v5), some (aR 187), some (aR 188), none, some (aI v9), some (aI v10), none, none] [] h := by
  unfold mL_isWave_b309 at hM
  refine zV_iconst (z := 1) O ⟨by omega, by omega⟩ dL_isWave_309 ?_
  refine zV_goto (tgt := 314) O dL_isWave_310 (by decide) ?_
  exact sL_isWave_b314 O hN hK217 hK226 hz_v5 (Or.inr rfl) hM
def mL_isWave_b313 (Q : Int → Hp → Prop) (K217 : Int → Int → Int → Int → Int → Int → Int → Hp → Prop) (K226 : Int → Int → Int → Int → Int → Int → Int → Int → Hp → Prop) (v1 : Int) (v2 : Int) (v3 : Int) (v4 : Int) (v5 : Int) (v9 : Int) (v10 : Int) (h : Hp) : Prop := (mL_isWave_b314 Q K217 K226 v1 v2 v3 v4 v5 v9 v10 0 h)
set_option maxHeartbeats 4000000 in
set_option maxRecDepth 100000 in
theorem sL_isWave_b313 {l0 : Launch} {a : ZC}  {Q : Int → Hp → Prop} {K217 : Int → Int → Int → Int → Int → Int → Int → Hp → Prop} {K226 : Int → Int → Int → Int → Int → Int → Int → Int → Hp → Prop} (O : zOk l0 a cL_isWave RL 13 (some .boolean) 189 []) (hN : a.2.2.2 = 189)  (hK217 : ∀ (v1 : Int) (v2 : Int) (v3 : Int) (v4 : Int) (v5 : Int) (v8 : Int) (v9 : Int) (h : Hp), (v5 = 0 ∨ v5 = 1) → (v8 = 0 ∨ v8 = 1) → K217 v1 v2 v3 v4 v5 v8 v9 h → zV a (8, 2, 80, (qZ Q), xN) 2 80 217 [some (aR 169), some (aI v1), some (aI v2), some (aI v3), some (aI v4), some (aI v5), some (aR 187), some (aR 188), some (aI v8), some (aI v9), none, none, none] [] h) (hK226 : ∀ (v1 : Int) (v2 : Int) (v3 : Int) (v4 : Int) (v5 : Int) (v8 : Int) (v9 : Int) (v10 : Int) (h : Hp), (v5 = 0 ∨ v5 = 1) → (v8 = 0 ∨ v8 = 1) → K226 v1 v2 v3 v4 v5 v8 v9 v10 h → zV a (8, 2, 80, (qZ Q), xN) 2 80 226 [some (aR 169), some (aI v1), some (aI v2), some (aI v3), some (aI v4), some (aI v5), some (aR 187), some (aR 188), some (aI v8), some (aI v9), some (aI v10), none, none] [] h) {v1 : Int} {v2 : Int} {v3 : Int} {v4 : Int} {v5 : Int} {v9 : Int} {v10 : Int} {h : Hp} (hz_v5 : v5 = 0 ∨ v5 = 1) (hM : mL_isWave_b313 Q K217 K226 v1 v2 v3 v4 v5 v9 v10 h) : zV a (8, 2, 80, (qZ Q), xN) 2 80 313 [some (aR 169), some (aI v1), some (aI v2), some (aI v3), some (aI v4), some (aI v5), some (aR 187), some (aR 188), none, some (aI v9), some (aI v10), none, none] [] h := by
  unfold mL_isWave_b313 at hM
  refine zV_iconst (z := 0) O ⟨by omega, by omega⟩ dL_isWave_313 ?_
  exact sL_isWave_b314 O hN hK217 hK226 hz_v5 (Or.inl rfl) hM
def mL_isWave_b226 (Q : Int → Hp → Prop) (K217 : Int → Int → Int → Int → Int → Int → Int → Hp → Prop) : Nat → Int → Int → Int → Int → Int → Int → Int → Int → Hp → Prop
  | 0 => fun _ _ _ _ _ _ _ _ _ => False
  | fu226 + 1 => fun v1 v2 v3 v4 v5 v8 v9 v10 h => ((v9 ≤ v10 → (zr (v9 + 1) ∧ (K217 v1 v2 v3 v4 v5 v8 (v9 + 1) h))) ∧ (¬ v9 ≤ v10 → ((¬ v8 = 0 → (mL_isWave_b309 Q K217 (mL_isWave_b226 Q K217 fu226) v1 v2 v3 v4 v5 v9 v10 h)) ∧ (v8 = 0 → (mL_areOfNet v9 v10 h (fun z107 h108 => ((z107 = 0 → (mL_isWave_b313 Q K217 (mL_isWave_b226 Q K217 fu226) v1 v2 v3 v4 v5 v9 v10 h108)) ∧ (¬ z107 = 0 → (zgk 0 h108 187 v9 ∧ (zgk 0 h108 187 v10 ∧ (((rd h108 187 v9) = (rd h108 187 v10) → (mL_isWave_b309 Q K217 (mL_isWave_b226 Q K217 fu226) v1 v2 v3 v4 v5 v9 v10 h108)) ∧ (¬ (rd h108 187 v9) = (rd h108 187 v10) → (zgk 0 h108 187 v9 ∧ (zgk 0 h108 188 v10 ∧ (((rd h108 187 v9) = (rd h108 188 v10) → (mL_isWave_b309 Q K217 (mL_isWave_b226 Q K217 fu226) v1 v2 v3 v4 v5 v9 v10 h108)) ∧ (¬ (rd h108 187 v9) = (rd h108 188 v10) → (zgk 0 h108 188 v9 ∧ (zgk 0 h108 187 v10 ∧ (((rd h108 188 v9) = (rd h108 187 v10) → (mL_isWave_b309 Q K217 (mL_isWave_b226 Q K217 fu226) v1 v2 v3 v4 v5 v9 v10 h108)) ∧ (¬ (rd h108 188 v9) = (rd h108 187 v10) → (zgk 0 h108 188 v9 ∧ (((rd h108 188 v9) ≤ 0 → (mL_isWave_b313 Q K217 (mL_isWave_b226 Q K217 fu226) v1 v2 v3 v4 v5 v9 v10 h108)) ∧ (¬ (rd h108 188 v9) ≤ 0 → (zgk 0 h108 188 v9 ∧ (zgk 0 h108 188 v10 ∧ ((¬ (rd h108 188 v9) = (rd h108 188 v10) → (mL_isWave_b313 Q K217 (mL_isWave_b226 Q K217 fu226) v1 v2 v3 v4 v5 v9 v10 h108)) ∧ ((rd h108 188 v9) = (rd h108 188 v10) → (mL_isWave_b309 Q K217 (mL_isWave_b226 Q K217 fu226) v1 v2 v3 v4 v5 v9 v10 h108))))))))))))))))))))))))))))
set_option maxHeartbeats 4000000 in
set_option maxRecDepth 100000 in
theorem sL_isWave_b226 {l0 : Launch} {a : ZC}  {Q : Int → Hp → Prop} {K217 : Int → Int → Int → Int → Int → Int → Int → Hp → Prop} (O : zOk l0 a cL_isWave RL 13 (some .boolean) 189 []) (hN : a.2.2.2 = 189)  (hK217 : ∀ (v1 : Int) (v2 : Int) (v3 : Int) (v4 : Int) (v5 : Int) (v8 : Int) (v9 : Int) (h : Hp), (v5 = 0 ∨ v5 = 1) → (v8 = 0 ∨ v8 = 1) → K217 v1 v2 v3 v4 v5 v8 v9 h → zV a (8, 2, 80, (qZ Q), xN) 2 80 217 [some (aR 169), some (aI v1), some (aI v2), some (aI v3), some (aI v4), some (aI v5), some (aR 187), some (aR 188), some (aI v8), some (aI v9), none, none, none] [] h) : ∀ (ff : Nat) (v1 : Int) (v2 : Int) (v3 : Int) (v4 : Int) (v5 : Int) (v8 : Int) (v9 : Int) (v10 : Int) (h : Hp), (v5 = 0 ∨ v5 = 1) → (v8 = 0 ∨ v8 = 1) → mL_isWave_b226 Q K217 ff v1 v2 v3 v4 v5 v8 v9 v10 h → zV a (8, 2, 80, (qZ Q), xN) 2 80 226 [some (aR 169), some (aI v1), some (aI v2), some (aI v3), some (aI v4), some (aI v5), some (aR 187), some (aR 188), some (aI v8), some (aI v9), some (aI v10), none, none] [] h := by
  intro ff
  induction ff with
  | zero => intro v1 v2 v3 v4 v5 v8 v9 v10 h hz_v5 hz_v8 hM; exact hM.elim
  | succ ff ih =>
    have hK226 := ih
    intro v1 v2 v3 v4 v5 v8 v9 v10 h hz_v5 hz_v8 hM
    unfold mL_isWave_b226 at hM
    refine zV_iload O dL_isWave_226 rfl ?_
    refine zV_iload O dL_isWave_228 rfl ?_
    refine zV_icmp_ge (tgt := 322) O dL_isWave_230 (by decide) (fun hc => ?_) (fun hc => ?_)
    · replace hM := hM.1 hc
      obtain ⟨hc, hM⟩ := hM
      refine zV_iinc O dL_isWave_322 rfl (Nat.le_of_ble_eq_true rfl) rfl hc ?_
      refine zV_goto (tgt := 217) O dL_isWave_325 (by decide) ?_
      refine zV_sub (ls2 := [some (aR 169), some (aI v1), some (aI v2), some (aI v3), some (aI v4), some (aI v5), some (aR 187), some (aR 188), some (aI v8), some (aI (v9 + 1)), none, none, none]) ⟨rfl, rfl, rfl, rfl, rfl, rfl, rfl, rfl, rfl, rfl, trivial⟩ ?_
      exact hK217 _ _ _ _ _ _ _ _ hz_v5 hz_v8 hM
    · replace hM := hM.2 hc
      refine zV_iload O dL_isWave_233 rfl ?_
      refine zV_if_ne (tgt := 309) O dL_isWave_235 (by decide) (fun hc => ?_) (fun hc => ?_)
      · replace hM := hM.1 hc
        refine zV_sub (ls2 := [some (aR 169), some (aI v1), some (aI v2), some (aI v3), some (aI v4), some (aI v5), some (aR 187), some (aR 188), none, some (aI v9), some (aI v10), none, none]) ⟨rfl, rfl, rfl, rfl, rfl, rfl, rfl, rfl, rfl, rfl, trivial⟩ ?_
        exact sL_isWave_b309 O hN hK217 hK226 hz_v5 hM
      · replace hM := hM.2 hc
        refine zV_aload_n O dL_isWave_238 rfl rfl ?_
        refine zV_iload O dL_isWave_239 rfl ?_
        refine zV_iload O dL_isWave_241 rfl ?_
        refine zV_callS (as := [aR 169, aI v9, aI v10]) (st := []) O zc_L_areOfNet (Or.inl zl_RL_158) zi_755 (Nat.le_of_ble_eq_true rfl) rfl rfl (Nat.le_of_ble_eq_true rfl) (Nat.le_of_ble_eq_true rfl) (Nat.le_of_ble_eq_true rfl) (Nat.le_of_ble_eq_true rfl) (Nat.le_of_ble_eq_true rfl) (Nat.le_of_ble_eq_true rfl) dL_isWave_243 (sL_areOfNet hM) (fun r h108 hq => ?_) (fun x h9 hq => hq.elim)
        obtain ⟨z107, rfl, hzz107, hM⟩ := hq
        refine zV_if_eq (tgt := 313) O dL_isWave_246 (by decide) (fun hc => ?_) (fun hc => ?_)
        · replace hM := hM.1 hc
          refine zV_sub (ls2 := [some (aR 169), some (aI v1), some (aI v2), some (aI v3), some (aI v4), some (aI v5), some (aR 187), some (aR 188), none, some (aI v9), some (aI v10), none, none]) ⟨rfl, rfl, rfl, rfl, rfl, rfl, rfl, rfl, rfl, rfl, trivial⟩ ?_
          exact sL_isWave_b313 O hN hK217 hK226 hz_v5 hM
        · replace hM := hM.2 hc
          refine zV_aload O dL_isWave_249 rfl ?_
          refine zV_iload O dL_isWave_251 rfl ?_
          obtain ⟨hc, hM⟩ := hM
          refine zV_ialdG O rfl (by decide) hc dL_isWave_253 ?_
          refine zV_aload O dL_isWave_254 rfl ?_
          refine zV_iload O dL_isWave_256 rfl ?_
          obtain ⟨hc, hM⟩ := hM
          refine zV_ialdG O rfl (by decide) hc dL_isWave_258 ?_
          refine zV_icmp_eq (tgt := 309) O dL_isWave_259 (by decide) (fun hc => ?_) (fun hc => ?_)
          · replace hM := hM.1 hc
            refine zV_sub (ls2 := [some (aR 169), some (aI v1), some (aI v2), some (aI v3), some (aI v4), some (aI v5), some (aR 187), some (aR 188), none, some (aI v9), some (aI v10), none, none]) ⟨rfl, rfl, rfl, rfl, rfl, rfl, rfl, rfl, rfl, rfl, trivial⟩ ?_
            exact sL_isWave_b309 O hN hK217 hK226 hz_v5 hM
          · replace hM := hM.2 hc
            refine zV_aload O dL_isWave_262 rfl ?_
            refine zV_iload O dL_isWave_264 rfl ?_
            obtain ⟨hc, hM⟩ := hM
            refine zV_ialdG O rfl (by decide) hc dL_isWave_266 ?_
            refine zV_aload O dL_isWave_267 rfl ?_
            refine zV_iload O dL_isWave_269 rfl ?_
            obtain ⟨hc, hM⟩ := hM
            refine zV_ialdG O rfl (by decide) hc dL_isWave_271 ?_
            refine zV_icmp_eq (tgt := 309) O dL_isWave_272 (by decide) (fun hc => ?_) (fun hc => ?_)
            · replace hM := hM.1 hc
              refine zV_sub (ls2 := [some (aR 169), some (aI v1), some (aI v2), some (aI v3), some (aI v4), some (aI v5), some (aR 187), some (aR 188), none, some (aI v9), some (aI v10), none, none]) ⟨rfl, rfl, rfl, rfl, rfl, rfl, rfl, rfl, rfl, rfl, trivial⟩ ?_
              exact sL_isWave_b309 O hN hK217 hK226 hz_v5 hM
            · replace hM := hM.2 hc
              refine zV_aload O dL_isWave_275 rfl ?_
              refine zV_iload O dL_isWave_277 rfl ?_
              obtain ⟨hc, hM⟩ := hM
              refine zV_ialdG O rfl (by decide) hc dL_isWave_279 ?_
              refine zV_aload O dL_isWave_280 rfl ?_
              refine zV_iload O dL_isWave_282 rfl ?_
              obtain ⟨hc, hM⟩ := hM
              refine zV_ialdG O rfl (by decide) hc dL_isWave_284 ?_
              refine zV_icmp_eq (tgt := 309) O dL_isWave_285 (by decide) (fun hc => ?_) (fun hc => ?_)
              · replace hM := hM.1 hc
                refine zV_sub (ls2 := [some (aR 169), some (aI v1), some (aI v2), some (aI v3), some (aI v4), some (aI v5), some (aR 187), some (aR 188), none, some (aI v9), some (aI v10), none, none]) ⟨rfl, rfl, rfl, rfl, rfl, rfl, rfl, rfl, rfl, rfl, trivial⟩ ?_
                exact sL_isWave_b309 O hN hK217 hK226 hz_v5 hM
              · replace hM := hM.2 hc
                refine zV_aload O dL_isWave_288 rfl ?_
                refine zV_iload O dL_isWave_290 rfl ?_
                obtain ⟨hc, hM⟩ := hM
                refine zV_ialdG O rfl (by decide) hc dL_isWave_292 ?_
                refine zV_if_le (tgt := 313) O dL_isWave_293 (by decide) (fun hc => ?_) (fun hc => ?_)
                · replace hM := hM.1 hc
                  refine zV_sub (ls2 := [some (aR 169), some (aI v1), some (aI v2), some (aI v3), some (aI v4), some (aI v5), some (aR 187), some (aR 188), none, some (aI v9), some (aI v10), none, none]) ⟨rfl, rfl, rfl, rfl, rfl, rfl, rfl, rfl, rfl, rfl, trivial⟩ ?_
                  exact sL_isWave_b313 O hN hK217 hK226 hz_v5 hM
                · replace hM := hM.2 hc
                  refine zV_aload O dL_isWave_296 rfl ?_
                  refine zV_iload O dL_isWave_298 rfl ?_
                  obtain ⟨hc, hM⟩ := hM
                  refine zV_ialdG O rfl (by decide) hc dL_isWave_300 ?_
                  refine zV_aload O dL_isWave_301 rfl ?_
                  refine zV_iload O dL_isWave_303 rfl ?_
                  obtain ⟨hc, hM⟩ := hM
                  refine zV_ialdG O rfl (by decide) hc dL_isWave_305 ?_
                  refine zV_icmp_ne (tgt := 313) O dL_isWave_306 (by decide) (fun hc => ?_) (fun hc => ?_)
                  · replace hM := hM.1 hc
                    refine zV_sub (ls2 := [some (aR 169), some (aI v1), some (aI v2), some (aI v3), some (aI v4), some (aI v5), some (aR 187), some (aR 188), none, some (aI v9), some (aI v10), none, none]) ⟨rfl, rfl, rfl, rfl, rfl, rfl, rfl, rfl, rfl, rfl, trivial⟩ ?_
                    exact sL_isWave_b313 O hN hK217 hK226 hz_v5 hM
                  · replace hM := hM.2 hc
                    refine zV_sub (ls2 := [some (aR 169), some (aI v1), some (aI v2), some (aI v3), some (aI v4), some (aI v5), some (aR 187), some (aR 188), none, some (aI v9), some (aI v10), none, none]) ⟨rfl, rfl, rfl, rfl, rfl, rfl, rfl, rfl, rfl, rfl, trivial⟩ ?_
                    exact sL_isWave_b309 O hN hK217 hK226 hz_v5 hM
def mL_isWave_b217 (Q : Int → Hp → Prop) : Nat → Int → Int → Int → Int → Int → Int → Int → Hp → Prop
  | 0 => fun _ _ _ _ _ _ _ _ => False
  | fu217 + 1 => fun v1 v2 v3 v4 v5 v8 v9 h => ((v1 ≤ v9 → ((¬ v2 = (9 : Int) → ((v5 = 0 → ((v8 = 0 → (mL_isWave_b360 Q v1 v2 v3 v4 0 h)) ∧ (¬ v8 = 0 → (mL_isWave_b360 Q v1 v2 v3 v4 (-4) h)))) ∧ (¬ v5 = 0 → (mL_isWave_b360 Q v1 v2 v3 v4 (-3) h)))) ∧ (v2 = (9 : Int) → (mL_isWave_b360 Q v1 v2 v3 v4 (-2) h)))) ∧ (¬ v1 ≤ v9 → (∃ ff, mL_isWave_b226 Q (mL_isWave_b217 Q fu217) ff v1 v2 v3 v4 v5 v8 v9 0 h)))
set_option maxHeartbeats 4000000 in
set_option maxRecDepth 100000 in
theorem sL_isWave_b217 {l0 : Launch} {a : ZC}  {Q : Int → Hp → Prop}  (O : zOk l0 a cL_isWave RL 13 (some .boolean) 189 []) (hN : a.2.2.2 = 189)   : ∀ (ff : Nat) (v1 : Int) (v2 : Int) (v3 : Int) (v4 : Int) (v5 : Int) (v8 : Int) (v9 : Int) (h : Hp), (v5 = 0 ∨ v5 = 1) → (v8 = 0 ∨ v8 = 1) → mL_isWave_b217 Q ff v1 v2 v3 v4 v5 v8 v9 h → zV a (8, 2, 80, (qZ Q), xN) 2 80 217 [some (aR 169), some (aI v1), some (aI v2), some (aI v3), some (aI v4), some (aI v5), some (aR 187), some (aR 188), some (aI v8), some (aI v9), none, none, none] [] h := by
  intro ff
  induction ff with
  | zero => intro v1 v2 v3 v4 v5 v8 v9 h hz_v5 hz_v8 hM; exact hM.elim
  | succ ff ih =>
    have hK217 := ih
    intro v1 v2 v3 v4 v5 v8 v9 h hz_v5 hz_v8 hM
    unfold mL_isWave_b217 at hM
    refine zV_iload O dL_isWave_217 rfl ?_
    refine zV_iload_n O dL_isWave_219 rfl rfl ?_
    refine zV_icmp_ge (tgt := 328) O dL_isWave_220 (by decide) (fun hc => ?_) (fun hc => ?_)
    · replace hM := hM.1 hc
      refine zV_iload_n O dL_isWave_328 rfl rfl ?_
      refine zV_bipush (z := 9) O ⟨by omega, by omega⟩ rfl dL_isWave_329 ?_
      refine zV_icmp_ne (tgt := 339) O dL_isWave_331 (by decide) (fun hc => ?_) (fun hc => ?_)
      · replace hM := hM.1 hc
        refine zV_iload O dL_isWave_339 rfl ?_
        refine zV_if_eq (tgt := 349) O dL_isWave_341 (by decide) (fun hc => ?_) (fun hc => ?_)
        · replace hM := hM.1 hc
          refine zV_iload O dL_isWave_349 rfl ?_
          refine zV_if_eq (tgt := 359) O dL_isWave_351 (by decide) (fun hc => ?_) (fun hc => ?_)
          · replace hM := hM.1 hc
            refine zV_iconst (z := 0) O ⟨by omega, by omega⟩ dL_isWave_359 ?_
            refine zV_sub (ls2 := [some (aR 169), some (aI v1), some (aI v2), some (aI v3), some (aI v4), none, some (aR 187), some (aR 188), none, none, none, none, none]) ⟨rfl, rfl, rfl, rfl, rfl, rfl, rfl, trivial⟩ ?_
            exact sL_isWave_b360 O hN hM
          · replace hM := hM.2 hc
            refine zV_bipush (z := -4) O ⟨by omega, by omega⟩ rfl dL_isWave_354 ?_
            refine zV_goto (tgt := 360) O dL_isWave_356 (by decide) ?_
            refine zV_sub (ls2 := [some (aR 169), some (aI v1), some (aI v2), some (aI v3), some (aI v4), none, some (aR 187), some (aR 188), none, none, none, none, none]) ⟨rfl, rfl, rfl, rfl, rfl, rfl, rfl, trivial⟩ ?_
            exact sL_isWave_b360 O hN hM
        · replace hM := hM.2 hc
          refine zV_bipush (z := -3) O ⟨by omega, by omega⟩ rfl dL_isWave_344 ?_
          refine zV_goto (tgt := 360) O dL_isWave_346 (by decide) ?_
          refine zV_sub (ls2 := [some (aR 169), some (aI v1), some (aI v2), some (aI v3), some (aI v4), none, some (aR 187), some (aR 188), none, none, none, none, none]) ⟨rfl, rfl, rfl, rfl, rfl, rfl, rfl, trivial⟩ ?_
          exact sL_isWave_b360 O hN hM
      · replace hM := hM.2 hc
        refine zV_bipush (z := -2) O ⟨by omega, by omega⟩ rfl dL_isWave_334 ?_
        refine zV_goto (tgt := 360) O dL_isWave_336 (by decide) ?_
        refine zV_sub (ls2 := [some (aR 169), some (aI v1), some (aI v2), some (aI v3), some (aI v4), none, some (aR 187), some (aR 188), none, none, none, none, none]) ⟨rfl, rfl, rfl, rfl, rfl, rfl, rfl, trivial⟩ ?_
        exact sL_isWave_b360 O hN hM
    · replace hM := hM.2 hc
      refine zV_iconst (z := 0) O ⟨by omega, by omega⟩ dL_isWave_223 ?_
      refine zV_istore O dL_isWave_224 (Nat.le_of_ble_eq_true rfl) rfl ?_
      obtain ⟨ff, hM⟩ := hM
      exact sL_isWave_b226 O hN hK217 ff _ _ _ _ _ _ _ _ _ hz_v5 hz_v8 hM
def mL_isWave_b204 (Q : Int → Hp → Prop) (K35 : Int → Int → Int → Int → Int → Int → Hp → Prop) (v1 : Int) (v2 : Int) (v3 : Int) (v4 : Int) (v5 : Int) (v8 : Int) (s0 : Int) (s1 : Int) (h : Hp) : Prop := (zgk 0 h 188 s1 ∧ (∀ h109 : Hp, h109 = wr h 188 s1 s0 → (zr (v8 + 1) ∧ (K35 v1 v2 v3 v4 v5 (v8 + 1) h109))))
set_option maxHeartbeats 4000000 in
set_option maxRecDepth 100000 in
theorem sL_isWave_b204 {l0 : Launch} {a : ZC}  {Q : Int → Hp → Prop} {K35 : Int → Int → Int → Int → Int → Int → Hp → Prop} (O : zOk l0 a cL_isWave RL 13 (some .boolean) 189 []) (hN : a.2.2.2 = 189)  (hK35 : ∀ (v1 : Int) (v2 : Int) (v3 : Int) (v4 : Int) (v5 : Int) (v8 : Int) (h : Hp), (v5 = 0 ∨ v5 = 1) → K35 v1 v2 v3 v4 v5 v8 h → zV a (8, 2, 80, (qZ Q), xN) 2 80 35 [some (aR 169), some (aI v1), some (aI v2), some (aI v3), some (aI v4), some (aI v5), some (aR 187), some (aR 188), some (aI v8), none, none, none, none] [] h) {v1 : Int} {v2 : Int} {v3 : Int} {v4 : Int} {v5 : Int} {v8 : Int} {s0 : Int} {s1 : Int} {h : Hp} (hz_v5 : v5 = 0 ∨ v5 = 1) (hM : mL_isWave_b204 Q K35 v1 v2 v3 v4 v5 v8 s0 s1 h) : zV a (8, 2, 80, (qZ Q), xN) 2 80 204 [some (aR 169), some (aI v1), some (aI v2), some (aI v3), some (aI v4), some (aI v5), some (aR 187), some (aR 188), some (aI v8), none, none, none, none] [aI s0, aI s1, aR 188] h := by
  unfold mL_isWave_b204 at hM
  obtain ⟨hc, hM⟩ := hM
  refine zV_iastG O rfl (by decide) hc dL_isWave_204 ?_
  have hM := hM (hu h 188 (Int.toNat s1) s0) rfl
  generalize hu h 188 (Int.toNat s1) s0 = h109 at hM ⊢
  obtain ⟨hc, hM⟩ := hM
  refine zV_iinc O dL_isWave_205 rfl (Nat.le_of_ble_eq_true rfl) rfl hc ?_
  refine zV_goto (tgt := 35) O dL_isWave_208 (by decide) ?_
  exact hK35 _ _ _ _ _ _ _ hz_v5 hM
def mL_isWave_b156 (Q : Int → Hp → Prop) (K35 : Int → Int → Int → Int → Int → Int → Hp → Prop) (v1 : Int) (v2 : Int) (v3 : Int) (v4 : Int) (v5 : Int) (v8 : Int) (v9 : Int) (v11 : Int) (s0 : Int) (s1 : Int) (h : Hp) : Prop := (zgk 0 h 187 s1 ∧ (∀ h110 : Hp, h110 = wr h 187 s1 s0 → ((v9 = 0 → ((v11 = 0 → (mL_isWave_b204 Q K35 v1 v2 v3 v4 v5 v8 0 v8 h110)) ∧ (¬ v11 = 0 → (mX7_host v8 2 h110 (fun z111 => (mL_isWave_b204 Q K35 v1 v2 v3 v4 v5 v8 z111 v8 h110)))))) ∧ (¬ v9 = 0 → (mX7_size 4 h110 (fun z112 h113 => ((z112 ≤ 0 → (mL_isWave_b204 Q K35 v1 v2 v3 v4 v5 v8 0 v8 h113)) ∧ (¬ z112 ≤ 0 → (mX7_host v8 1 h113 (fun z114 => (mL_isWave_b204 Q K35 v1 v2 v3 v4 v5 v8 z114 v8 h113)))))))))))
set_option maxHeartbeats 4000000 in
set_option maxRecDepth 100000 in
theorem sL_isWave_b156 {l0 : Launch} {a : ZC}  {Q : Int → Hp → Prop} {K35 : Int → Int → Int → Int → Int → Int → Hp → Prop} (O : zOk l0 a cL_isWave RL 13 (some .boolean) 189 []) (hN : a.2.2.2 = 189)  (hK35 : ∀ (v1 : Int) (v2 : Int) (v3 : Int) (v4 : Int) (v5 : Int) (v8 : Int) (h : Hp), (v5 = 0 ∨ v5 = 1) → K35 v1 v2 v3 v4 v5 v8 h → zV a (8, 2, 80, (qZ Q), xN) 2 80 35 [some (aR 169), some (aI v1), some (aI v2), some (aI v3), some (aI v4), some (aI v5), some (aR 187), some (aR 188), some (aI v8), none, none, none, none] [] h) {v1 : Int} {v2 : Int} {v3 : Int} {v4 : Int} {v5 : Int} {v8 : Int} {v9 : Int} {v11 : Int} {s0 : Int} {s1 : Int} {h : Hp} (hz_v5 : v5 = 0 ∨ v5 = 1) (hz_v9 : v9 = 0 ∨ v9 = 1) (hz_v11 : v11 = 0 ∨ v11 = 1) (hM : mL_isWave_b156 Q K35 v1 v2 v3 v4 v5 v8 v9 v11 s0 s1 h) : zV a (8, 2, 80, (qZ Q), xN) 2 80 156 [some (aR 169), some (aI v1), some (aI v2), some (aI v3), some (aI v4), some (aI v5), some (aR 187), some (aR 188), some (aI v8), some (aI v9), none, some (aI v11), none] [aI s0, aI s1, aR 187] h := by
  unfold mL_isWave_b156 at hM
  obtain ⟨hc, hM⟩ := hM
  refine zV_iastG O rfl (by decide) hc dL_isWave_156 ?_
  have hM := hM (hu h 187 (Int.toNat s1) s0) rfl
  generalize hu h 187 (Int.toNat s1) s0 = h110 at hM ⊢
  refine zV_aload O dL_isWave_157 rfl ?_
  refine zV_iload O dL_isWave_159 rfl ?_
  refine zV_iload O dL_isWave_161 rfl ?_
  refine zV_if_eq (tgt := 188) O dL_isWave_163 (by decide) (fun hc => ?_) (fun hc => ?_)
  · replace hM := hM.1 hc
    refine zV_iload O dL_isWave_188 rfl ?_
    refine zV_if_eq (tgt := 203) O dL_isWave_190 (by decide) (fun hc => ?_) (fun hc => ?_)
    · replace hM := hM.1 hc
      refine zV_iconst (z := 0) O ⟨by omega, by omega⟩ dL_isWave_203 ?_
      refine zV_sub (ls2 := [some (aR 169), some (aI v1), some (aI v2), some (aI v3), some (aI v4), some (aI v5), some (aR 187), some (aR 188), some (aI v8), none, none, none, none]) ⟨rfl, rfl, rfl, rfl, rfl, rfl, rfl, rfl, rfl, trivial⟩ ?_
      exact sL_isWave_b204 O hN hK35 hz_v5 hM
    · replace hM := hM.2 hc
      refine zV_aload_n O dL_isWave_193 rfl rfl ?_
      refine zV_iload O dL_isWave_194 rfl ?_
      refine zV_iconst (z := 2) O ⟨by omega, by omega⟩ dL_isWave_196 ?_
      refine zV_callV (as := [aI v8, aI 2]) (st := [aI v8, aR 188]) O zc_X7_host (Or.inl zl_RL_132) zi_746 zi_747 zt_169 rfl rfl (by decide) (Nat.le_of_ble_eq_true rfl) rfl rfl (Nat.le_of_ble_eq_true rfl) (Nat.le_of_ble_eq_true rfl) (Nat.le_of_ble_eq_true rfl) (Nat.le_of_ble_eq_true rfl) (Nat.le_of_ble_eq_true rfl) (Nat.le_of_ble_eq_true rfl) dL_isWave_197 (sX7_host hM) (fun r h9 hq => ?_) (fun x h9 hq => hq.elim)
      obtain ⟨rfl, z111, rfl, hM⟩ := hq
      refine zV_goto (tgt := 204) O dL_isWave_200 (by decide) ?_
      refine zV_sub (ls2 := [some (aR 169), some (aI v1), some (aI v2), some (aI v3), some (aI v4), some (aI v5), some (aR 187), some (aR 188), some (aI v8), none, none, none, none]) ⟨rfl, rfl, rfl, rfl, rfl, rfl, rfl, rfl, rfl, trivial⟩ ?_
      exact sL_isWave_b204 O hN hK35 hz_v5 hM
  · replace hM := hM.2 hc
    refine zV_aload_n O dL_isWave_166 rfl rfl ?_
    refine zV_iconst (z := 4) O ⟨by omega, by omega⟩ dL_isWave_167 ?_
    refine zV_callV (as := [aI 4]) (st := [aI v8, aR 188]) O zc_X7_size (Or.inl zl_RL_82) zi_690 zi_691 zt_169 rfl rfl (by decide) (Nat.le_of_ble_eq_true rfl) rfl rfl (Nat.le_of_ble_eq_true rfl) (Nat.le_of_ble_eq_true rfl) (Nat.le_of_ble_eq_true rfl) (Nat.le_of_ble_eq_true rfl) (Nat.le_of_ble_eq_true rfl) (Nat.le_of_ble_eq_true rfl) dL_isWave_168 (sX7_size hM) (fun r h113 hq => ?_) (fun x h9 hq => hq.elim)
    obtain ⟨z112, rfl, hM⟩ := hq
    refine zV_if_le (tgt := 184) O dL_isWave_171 (by decide) (fun hc => ?_) (fun hc => ?_)
    · replace hM := hM.1 hc
      refine zV_iconst (z := 0) O ⟨by omega, by omega⟩ dL_isWave_184 ?_
      refine zV_goto (tgt := 204) O dL_isWave_185 (by decide) ?_
      refine zV_sub (ls2 := [some (aR 169), some (aI v1), some (aI v2), some (aI v3), some (aI v4), some (aI v5), some (aR 187), some (aR 188), some (aI v8), none, none, none, none]) ⟨rfl, rfl, rfl, rfl, rfl, rfl, rfl, rfl, rfl, trivial⟩ ?_
      exact sL_isWave_b204 O hN hK35 hz_v5 hM
    · replace hM := hM.2 hc
      refine zV_aload_n O dL_isWave_174 rfl rfl ?_
      refine zV_iload O dL_isWave_175 rfl ?_
      refine zV_iconst (z := 1) O ⟨by omega, by omega⟩ dL_isWave_177 ?_
      refine zV_callV (as := [aI v8, aI 1]) (st := [aI v8, aR 188]) O zc_X7_host (Or.inl zl_RL_132) zi_746 zi_747 zt_169 rfl rfl (by decide) (Nat.le_of_ble_eq_true rfl) rfl rfl (Nat.le_of_ble_eq_true rfl) (Nat.le_of_ble_eq_true rfl) (Nat.le_of_ble_eq_true rfl) (Nat.le_of_ble_eq_true rfl) (Nat.le_of_ble_eq_true rfl) (Nat.le_of_ble_eq_true rfl) dL_isWave_178 (sX7_host hM) (fun r h9 hq => ?_) (fun x h9 hq => hq.elim)
      obtain ⟨rfl, z114, rfl, hM⟩ := hq
      refine zV_goto (tgt := 204) O dL_isWave_181 (by decide) ?_
      refine zV_sub (ls2 := [some (aR 169), some (aI v1), some (aI v2), some (aI v3), some (aI v4), some (aI v5), some (aR 187), some (aR 188), some (aI v8), none, none, none, none]) ⟨rfl, rfl, rfl, rfl, rfl, rfl, rfl, rfl, rfl, trivial⟩ ?_
      exact sL_isWave_b204 O hN hK35 hz_v5 hM
def mL_isWave_b128 (Q : Int → Hp → Prop) (K35 : Int → Int → Int → Int → Int → Int → Hp → Prop) (v1 : Int) (v2 : Int) (v3 : Int) (v4 : Int) (v8 : Int) (v9 : Int) (v11 : Int) (s0 : Int) (h : Hp) : Prop := ((v9 = 0 → (mX7_host v8 1 h (fun z115 => (mL_isWave_b156 Q K35 v1 v2 v3 v4 s0 v8 v9 v11 z115 v8 h)))) ∧ (¬ v9 = 0 → (mX7_host v8 4 h (fun z116 => (mL_isWave_b156 Q K35 v1 v2 v3 v4 s0 v8 v9 v11 z116 v8 h)))))
set_option maxHeartbeats 4000000 in
set_option maxRecDepth 100000 in
theorem sL_isWave_b128 {l0 : Launch} {a : ZC}  {Q : Int → Hp → Prop} {K35 : Int → Int → Int → Int → Int → Int → Hp → Prop} (O : zOk l0 a cL_isWave RL 13 (some .boolean) 189 []) (hN : a.2.2.2 = 189)  (hK35 : ∀ (v1 : Int) (v2 : Int) (v3 : Int) (v4 : Int) (v5 : Int) (v8 : Int) (h : Hp), (v5 = 0 ∨ v5 = 1) → K35 v1 v2 v3 v4 v5 v8 h → zV a (8, 2, 80, (qZ Q), xN) 2 80 35 [some (aR 169), some (aI v1), some (aI v2), some (aI v3), some (aI v4), some (aI v5), some (aR 187), some (aR 188), some (aI v8), none, none, none, none] [] h) {v1 : Int} {v2 : Int} {v3 : Int} {v4 : Int} {v8 : Int} {v9 : Int} {v11 : Int} {s0 : Int} {h : Hp} (hz_v9 : v9 = 0 ∨ v9 = 1) (hz_v11 : v11 = 0 ∨ v11 = 1) (hz_s0 : s0 = 0 ∨ s0 = 1) (hM : mL_isWave_b128 Q K35 v1 v2 v3 v4 v8 v9 v11 s0 h) : zV a (8, 2, 80, (qZ Q), xN) 2 80 128 [some (aR 169), some (aI v1), some (aI v2), some (aI v3), some (aI v4), none, some (aR 187), some (aR 188), some (aI v8), some (aI v9), none, some (aI v11), none] [aI s0] h := by
  unfold mL_isWave_b128 at hM
  refine zV_istore O dL_isWave_128 (Nat.le_of_ble_eq_true rfl) rfl ?_
  refine zV_aload O dL_isWave_130 rfl ?_
  refine zV_iload O dL_isWave_132 rfl ?_
  refine zV_iload O dL_isWave_134 rfl ?_
  refine zV_if_eq (tgt := 149) O dL_isWave_136 (by decide) (fun hc => ?_) (fun hc => ?_)
  · replace hM := hM.1 hc
    refine zV_aload_n O dL_isWave_149 rfl rfl ?_
    refine zV_iload O dL_isWave_150 rfl ?_
    refine zV_iconst (z := 1) O ⟨by omega, by omega⟩ dL_isWave_152 ?_
    refine zV_callV (as := [aI v8, aI 1]) (st := [aI v8, aR 187]) O zc_X7_host (Or.inl zl_RL_132) zi_746 zi_747 zt_169 rfl rfl (by decide) (Nat.le_of_ble_eq_true rfl) rfl rfl (Nat.le_of_ble_eq_true rfl) (Nat.le_of_ble_eq_true rfl) (Nat.le_of_ble_eq_true rfl) (Nat.le_of_ble_eq_true rfl) (Nat.le_of_ble_eq_true rfl) (Nat.le_of_ble_eq_true rfl) dL_isWave_153 (sX7_host hM) (fun r h9 hq => ?_) (fun x h9 hq => hq.elim)
    obtain ⟨rfl, z115, rfl, hM⟩ := hq
    exact sL_isWave_b156 O hN hK35 hz_s0 hz_v9 hz_v11 hM
  · replace hM := hM.2 hc
    refine zV_aload_n O dL_isWave_139 rfl rfl ?_
    refine zV_iload O dL_isWave_140 rfl ?_
    refine zV_iconst (z := 4) O ⟨by omega, by omega⟩ dL_isWave_142 ?_
    refine zV_callV (as := [aI v8, aI 4]) (st := [aI v8, aR 187]) O zc_X7_host (Or.inl zl_RL_132) zi_746 zi_747 zt_169 rfl rfl (by decide) (Nat.le_of_ble_eq_true rfl) rfl rfl (Nat.le_of_ble_eq_true rfl) (Nat.le_of_ble_eq_true rfl) (Nat.le_of_ble_eq_true rfl) (Nat.le_of_ble_eq_true rfl) (Nat.le_of_ble_eq_true rfl) (Nat.le_of_ble_eq_true rfl) dL_isWave_143 (sX7_host hM) (fun r h9 hq => ?_) (fun x h9 hq => hq.elim)
    obtain ⟨rfl, z116, rfl, hM⟩ := hq
    refine zV_goto (tgt := 156) O dL_isWave_146 (by decide) ?_
    exact sL_isWave_b156 O hN hK35 hz_s0 hz_v9 hz_v11 hM
def mL_isWave_b123 (Q : Int → Hp → Prop) (K35 : Int → Int → Int → Int → Int → Int → Hp → Prop) (v1 : Int) (v2 : Int) (v3 : Int) (v4 : Int) (v8 : Int) (v9 : Int) (v11 : Int) (h : Hp) : Prop := (mL_isWave_b128 Q K35 v1 v2 v3 v4 v8 v9 v11 1 h)
set_option maxHeartbeats 4000000 in
set_option maxRecDepth 100000 in
theorem sL_isWave_b123 {l0 : Launch} {a : ZC}  {Q : Int → Hp → Prop} {K35 : Int → Int → Int → Int → Int → Int → Hp → Prop} (O : zOk l0 a cL_isWave RL 13 (some .boolean) 189 []) (hN : a.2.2.2 = 189)  (hK35 : ∀ (v1 : Int) (v2 : Int) (v3 : Int) (v4 : Int) (v5 : Int) (v8 : Int) (h : Hp), (v5 = 0 ∨ v5 = 1) → K35 v1 v2 v3 v4 v5 v8 h → zV a (8, 2, 80, (qZ Q), xN) 2 80 35 [some (aR 169), some (aI v1), some (aI v2), some (aI v3), some (aI v4), some (aI v5), some (aR 187), some (aR 188), some (aI v8), none, none, none, none] [] h) {v1 : Int} {v2 : Int} {v3 : Int} {v4 : Int} {v8 : Int} {v9 : Int} {v11 : Int} {h : Hp} (hz_v9 : v9 = 0 ∨ v9 = 1) (hz_v11 : v11 = 0 ∨ v11 = 1) (hM : mL_isWave_b123 Q K35 v1 v2 v3 v4 v8 v9 v11 h) : zV a (8, 2, 80, (qZ Q), xN) 2 80 123 [some (aR 169), some (aI v1), some (aI v2), some (aI v3), some (aI v4), none, some (aR 187), some (aR 188), some (aI v8), some (aI v9), none, some (aI v11), none] [] h := by
  unfold mL_isWave_b123 at hM
  refine zV_iconst (z := 1) O ⟨by omega, by omega⟩ dL_isWave_123 ?_
  refine zV_goto (tgt := 128) O dL_isWave_124 (by decide) ?_
  exact sL_isWave_b128 O hN hK35 hz_v9 hz_v11 (Or.inr rfl) hM
def mL_isWave_b127 (Q : Int → Hp → Prop) (K35 : Int → Int → Int → Int → Int → Int → Hp → Prop) (v1 : Int) (v2 : Int) (v3 : Int) (v4 : Int) (v8 : Int) (v9 : Int) (v11 : Int) (h : Hp) : Prop := (mL_isWave_b128 Q K35 v1 v2 v3 v4 v8 v9 v11 0 h)
set_option maxHeartbeats 4000000 in
set_option maxRecDepth 100000 in
theorem sL_isWave_b127 {l0 : Launch} {a : ZC}  {Q : Int → Hp → Prop} {K35 : Int → Int → Int → Int → Int → Int → Hp → Prop} (O : zOk l0 a cL_isWave RL 13 (some .boolean) 189 []) (hN : a.2.2.2 = 189)  (hK35 : ∀ (v1 : Int) (v2 : Int) (v3 : Int) (v4 : Int) (v5 : Int) (v8 : Int) (h : Hp), (v5 = 0 ∨ v5 = 1) → K35 v1 v2 v3 v4 v5 v8 h → zV a (8, 2, 80, (qZ Q), xN) 2 80 35 [some (aR 169), some (aI v1), some (aI v2), some (aI v3), some (aI v4), some (aI v5), some (aR 187), some (aR 188), some (aI v8), none, none, none, none] [] h) {v1 : Int} {v2 : Int} {v3 : Int} {v4 : Int} {v8 : Int} {v9 : Int} {v11 : Int} {h : Hp} (hz_v9 : v9 = 0 ∨ v9 = 1) (hz_v11 : v11 = 0 ∨ v11 = 1) (hM : mL_isWave_b127 Q K35 v1 v2 v3 v4 v8 v9 v11 h) : zV a (8, 2, 80, (qZ Q), xN) 2 80 127 [some (aR 169), some (aI v1), some (aI v2), some (aI v3), some (aI v4), none, some (aR 187), some (aR 188), some (aI v8), some (aI v9), none, some (aI v11), none] [] h := by
  unfold mL_isWave_b127 at hM
  refine zV_iconst (z := 0) O ⟨by omega, by omega⟩ dL_isWave_127 ?_
  exact sL_isWave_b128 O hN hK35 hz_v9 hz_v11 (Or.inl rfl) hM
def mL_isWave_b105 (Q : Int → Hp → Prop) (K35 : Int → Int → Int → Int → Int → Int → Hp → Prop) (v1 : Int) (v2 : Int) (v3 : Int) (v5 : Int) (v8 : Int) (v9 : Int) (v11 : Int) (s0 : Int) (s1 : Int) (h : Hp) : Prop := (zr (s1 + s0) ∧ ((¬ v5 = 0 → (mL_isWave_b123 Q K35 v1 v2 v3 (s1 + s0) v8 v9 v11 h)) ∧ (v5 = 0 → ((v9 = 0 → (mL_isWave_b127 Q K35 v1 v2 v3 (s1 + s0) v8 v9 v11 h)) ∧ (¬ v9 = 0 → ((v11 = 0 → (mL_isWave_b127 Q K35 v1 v2 v3 (s1 + s0) v8 v9 v11 h)) ∧ (¬ v11 = 0 → (mL_isWave_b123 Q K35 v1 v2 v3 (s1 + s0) v8 v9 v11 h))))))))
set_option maxHeartbeats 4000000 in
set_option maxRecDepth 100000 in
theorem sL_isWave_b105 {l0 : Launch} {a : ZC}  {Q : Int → Hp → Prop} {K35 : Int → Int → Int → Int → Int → Int → Hp → Prop} (O : zOk l0 a cL_isWave RL 13 (some .boolean) 189 []) (hN : a.2.2.2 = 189)  (hK35 : ∀ (v1 : Int) (v2 : Int) (v3 : Int) (v4 : Int) (v5 : Int) (v8 : Int) (h : Hp), (v5 = 0 ∨ v5 = 1) → K35 v1 v2 v3 v4 v5 v8 h → zV a (8, 2, 80, (qZ Q), xN) 2 80 35 [some (aR 169), some (aI v1), some (aI v2), some (aI v3), some (aI v4), some (aI v5), some (aR 187), some (aR 188), some (aI v8), none, none, none, none] [] h) {v1 : Int} {v2 : Int} {v3 : Int} {v5 : Int} {v8 : Int} {v9 : Int} {v11 : Int} {s0 : Int} {s1 : Int} {h : Hp} (hz_v5 : v5 = 0 ∨ v5 = 1) (hz_v9 : v9 = 0 ∨ v9 = 1) (hz_v11 : v11 = 0 ∨ v11 = 1) (hz_s0 : s0 = 0 ∨ s0 = 1) (hM : mL_isWave_b105 Q K35 v1 v2 v3 v5 v8 v9 v11 s0 s1 h) : zV a (8, 2, 80, (qZ Q), xN) 2 80 105 [some (aR 169), some (aI v1), some (aI v2), some (aI v3), none, some (aI v5), some (aR 187), some (aR 188), some (aI v8), some (aI v9), none, some (aI v11), none] [aI s0, aI s1] h := by
  unfold mL_isWave_b105 at hM
  obtain ⟨hc, hM⟩ := hM
  refine zV_iadd O dL_isWave_105 hc ?_
  refine zV_istore O dL_isWave_106 (Nat.le_of_ble_eq_true rfl) rfl ?_
  refine zV_iload O dL_isWave_108 rfl ?_
  refine zV_if_ne (tgt := 123) O dL_isWave_110 (by decide) (fun hc => ?_) (fun hc => ?_)
  · replace hM := hM.1 hc
    refine zV_sub (ls2 := [some (aR 169), some (aI v1), some (aI v2), some (aI v3), some (aI (s1 + s0)), none, some (aR 187), some (aR 188), some (aI v8), some (aI v9), none, some (aI v11), none]) ⟨rfl, rfl, rfl, rfl, rfl, rfl, rfl, rfl, rfl, rfl, trivial⟩ ?_
    exact sL_isWave_b123 O hN hK35 hz_v9 hz_v11 hM
  · replace hM := hM.2 hc
    refine zV_iload O dL_isWave_113 rfl ?_
    refine zV_if_eq (tgt := 127) O dL_isWave_115 (by decide) (fun hc => ?_) (fun hc => ?_)
    · replace hM := hM.1 hc
      refine zV_sub (ls2 := [some (aR 169), some (aI v1), some (aI v2), some (aI v3), some (aI (s1 + s0)), none, some (aR 187), some (aR 188), some (aI v8), some (aI v9), none, some (aI v11), none]) ⟨rfl, rfl, rfl, rfl, rfl, rfl, rfl, rfl, rfl, rfl, trivial⟩ ?_
      exact sL_isWave_b127 O hN hK35 hz_v9 hz_v11 hM
    · replace hM := hM.2 hc
      refine zV_iload O dL_isWave_118 rfl ?_
      refine zV_if_eq (tgt := 127) O dL_isWave_120 (by decide) (fun hc => ?_) (fun hc => ?_)
      · replace hM := hM.1 hc
        refine zV_sub (ls2 := [some (aR 169), some (aI v1), some (aI v2), some (aI v3), some (aI (s1 + s0)), none, some (aR 187), some (aR 188), some (aI v8), some (aI v9), none, some (aI v11), none]) ⟨rfl, rfl, rfl, rfl, rfl, rfl, rfl, rfl, rfl, rfl, trivial⟩ ?_
        exact sL_isWave_b127 O hN hK35 hz_v9 hz_v11 hM
      · replace hM := hM.2 hc
        refine zV_sub (ls2 := [some (aR 169), some (aI v1), some (aI v2), some (aI v3), some (aI (s1 + s0)), none, some (aR 187), some (aR 188), some (aI v8), some (aI v9), none, some (aI v11), none]) ⟨rfl, rfl, rfl, rfl, rfl, rfl, rfl, rfl, rfl, rfl, trivial⟩ ?_
        exact sL_isWave_b123 O hN hK35 hz_v9 hz_v11 hM
def mL_isWave_b91 (Q : Int → Hp → Prop) (K35 : Int → Int → Int → Int → Int → Int → Hp → Prop) (v1 : Int) (v2 : Int) (v3 : Int) (v4 : Int) (v5 : Int) (v8 : Int) (v9 : Int) (s0 : Int) (h : Hp) : Prop := ((v9 = 0 → (mL_isWave_b105 Q K35 v1 v2 v3 v5 v8 v9 s0 0 v4 h)) ∧ (¬ v9 = 0 → (mL_isWave_b105 Q K35 v1 v2 v3 v5 v8 v9 s0 1 v4 h)))
set_option maxHeartbeats 4000000 in
set_option maxRecDepth 100000 in
theorem sL_isWave_b91 {l0 : Launch} {a : ZC}  {Q : Int → Hp → Prop} {K35 : Int → Int → Int → Int → Int → Int → Hp → Prop} (O : zOk l0 a cL_isWave RL 13 (some .boolean) 189 []) (hN : a.2.2.2 = 189)  (hK35 : ∀ (v1 : Int) (v2 : Int) (v3 : Int) (v4 : Int) (v5 : Int) (v8 : Int) (h : Hp), (v5 = 0 ∨ v5 = 1) → K35 v1 v2 v3 v4 v5 v8 h → zV a (8, 2, 80, (qZ Q), xN) 2 80 35 [some (aR 169), some (aI v1), some (aI v2), some (aI v3), some (aI v4), some (aI v5), some (aR 187), some (aR 188), some (aI v8), none, none, none, none] [] h) {v1 : Int} {v2 : Int} {v3 : Int} {v4 : Int} {v5 : Int} {v8 : Int} {v9 : Int} {s0 : Int} {h : Hp} (hz_v5 : v5 = 0 ∨ v5 = 1) (hz_v9 : v9 = 0 ∨ v9 = 1) (hz_s0 : s0 = 0 ∨ s0 = 1) (hM : mL_isWave_b91 Q K35 v1 v2 v3 v4 v5 v8 v9 s0 h) : zV a (8, 2, 80, (qZ Q), xN) 2 80 91 [some (aR 169), some (aI v1), some (aI v2), some (aI v3), some (aI v4), some (aI v5), some (aR 187), some (aR 188), some (aI v8), some (aI v9), none, none, none] [aI s0] h := by
  unfold mL_isWave_b91 at hM
  refine zV_istore O dL_isWave_91 (Nat.le_of_ble_eq_true rfl) rfl ?_
  refine zV_iload O dL_isWave_93 rfl ?_
  refine zV_iload O dL_isWave_95 rfl ?_
  refine zV_if_eq (tgt := 104) O dL_isWave_97 (by decide) (fun hc => ?_) (fun hc => ?_)
  · replace hM := hM.1 hc
    refine zV_iconst (z := 0) O ⟨by omega, by omega⟩ dL_isWave_104 ?_
    refine zV_sub (ls2 := [some (aR 169), some (aI v1), some (aI v2), some (aI v3), none, some (aI v5), some (aR 187), some (aR 188), some (aI v8), some (aI v9), none, some (aI s0), none]) ⟨rfl, rfl, rfl, rfl, rfl, rfl, rfl, rfl, rfl, rfl, trivial⟩ ?_
    exact sL_isWave_b105 O hN hK35 hz_v5 hz_v9 hz_s0 (Or.inl rfl) hM
  · replace hM := hM.2 hc
    refine zV_iconst (z := 1) O ⟨by omega, by omega⟩ dL_isWave_100 ?_
    refine zV_goto (tgt := 105) O dL_isWave_101 (by decide) ?_
    refine zV_sub (ls2 := [some (aR 169), some (aI v1), some (aI v2), some (aI v3), none, some (aI v5), some (aR 187), some (aR 188), some (aI v8), some (aI v9), none, some (aI s0), none]) ⟨rfl, rfl, rfl, rfl, rfl, rfl, rfl, rfl, rfl, rfl, trivial⟩ ?_
    exact sL_isWave_b105 O hN hK35 hz_v5 hz_v9 hz_s0 (Or.inr rfl) hM
def mL_isWave_b90 (Q : Int → Hp → Prop) (K35 : Int → Int → Int → Int → Int → Int → Hp → Prop) (v1 : Int) (v2 : Int) (v3 : Int) (v4 : Int) (v5 : Int) (v8 : Int) (v9 : Int) (h : Hp) : Prop := (mL_isWave_b91 Q K35 v1 v2 v3 v4 v5 v8 v9 0 h)
set_option maxHeartbeats 4000000 in
set_option maxRecDepth 100000 in
theorem sL_isWave_b90 {l0 : Launch} {a : ZC}  {Q : Int → Hp → Prop} {K35 : Int → Int → Int → Int → Int → Int → Hp → Prop} (O : zOk l0 a cL_isWave RL 13 (some .boolean) 189 []) (hN : a.2.2.2 = 189)  (hK35 : ∀ (v1 : Int) (v2 : Int) (v3 : Int) (v4 : Int) (v5 : Int) (v8 : Int) (h : Hp), (v5 = 0 ∨ v5 = 1) → K35 v1 v2 v3 v4 v5 v8 h → zV a (8, 2, 80, (qZ Q), xN) 2 80 35 [some (aR 169), some (aI v1), some (aI v2), some (aI v3), some (aI v4), some (aI v5), some (aR 187), some (aR 188), some (aI v8), none, none, none, none] [] h) {v1 : Int} {v2 : Int} {v3 : Int} {v4 : Int} {v5 : Int} {v8 : Int} {v9 : Int} {h : Hp} (hz_v5 : v5 = 0 ∨ v5 = 1) (hz_v9 : v9 = 0 ∨ v9 = 1) (hM : mL_isWave_b90 Q K35 v1 v2 v3 v4 v5 v8 v9 h) : zV a (8, 2, 80, (qZ Q), xN) 2 80 90 [some (aR 169), some (aI v1), some (aI v2), some (aI v3), some (aI v4), some (aI v5), some (aR 187), some (aR 188), some (aI v8), some (aI v9), none, none, none] [] h := by
  unfold mL_isWave_b90 at hM
  refine zV_iconst (z := 0) O ⟨by omega, by omega⟩ dL_isWave_90 ?_
  exact sL_isWave_b91 O hN hK35 hz_v5 hz_v9 (Or.inl rfl) hM
def mL_isWave_b57 (Q : Int → Hp → Prop) (K35 : Int → Int → Int → Int → Int → Int → Hp → Prop) (v1 : Int) (v2 : Int) (v3 : Int) (v4 : Int) (v5 : Int) (v8 : Int) (s0 : Int) (h : Hp) : Prop := (mX7_host v8 6 h (fun z117 => ((z117 ≤ 0 → (mL_isWave_b90 Q K35 v1 v2 v3 v4 v5 v8 s0 h)) ∧ (¬ z117 ≤ 0 → (mX7_size 4 h (fun z118 h119 => (zr (z117 + z118) ∧ (((z117 + z118) ≤ v3 → (mL_isWave_b90 Q K35 v1 v2 v3 v4 v5 v8 s0 h119)) ∧ (¬ (z117 + z118) ≤ v3 → (mL_isWave_b91 Q K35 v1 v2 v3 v4 v5 v8 s0 1 h119))))))))))
set_option maxHeartbeats 4000000 in
set_option maxRecDepth 100000 in
theorem sL_isWave_b57 {l0 : Launch} {a : ZC}  {Q : Int → Hp → Prop} {K35 : Int → Int → Int → Int → Int → Int → Hp → Prop} (O : zOk l0 a cL_isWave RL 13 (some .boolean) 189 []) (hN : a.2.2.2 = 189)  (hK35 : ∀ (v1 : Int) (v2 : Int) (v3 : Int) (v4 : Int) (v5 : Int) (v8 : Int) (h : Hp), (v5 = 0 ∨ v5 = 1) → K35 v1 v2 v3 v4 v5 v8 h → zV a (8, 2, 80, (qZ Q), xN) 2 80 35 [some (aR 169), some (aI v1), some (aI v2), some (aI v3), some (aI v4), some (aI v5), some (aR 187), some (aR 188), some (aI v8), none, none, none, none] [] h) {v1 : Int} {v2 : Int} {v3 : Int} {v4 : Int} {v5 : Int} {v8 : Int} {s0 : Int} {h : Hp} (hz_v5 : v5 = 0 ∨ v5 = 1) (hz_s0 : s0 = 0 ∨ s0 = 1) (hM : mL_isWave_b57 Q K35 v1 v2 v3 v4 v5 v8 s0 h) : zV a (8, 2, 80, (qZ Q), xN) 2 80 57 [some (aR 169), some (aI v1), some (aI v2), some (aI v3), some (aI v4), some (aI v5), some (aR 187), some (aR 188), some (aI v8), none, none, none, none] [aI s0] h := by
  unfold mL_isWave_b57 at hM
  refine zV_istore O dL_isWave_57 (Nat.le_of_ble_eq_true rfl) rfl ?_
  refine zV_aload_n O dL_isWave_59 rfl rfl ?_
  refine zV_iload O dL_isWave_60 rfl ?_
  refine zV_bipush (z := 6) O ⟨by omega, by omega⟩ rfl dL_isWave_62 ?_
  refine zV_callV (as := [aI v8, aI 6]) (st := []) O zc_X7_host (Or.inl zl_RL_132) zi_746 zi_747 zt_169 rfl rfl (by decide) (Nat.le_of_ble_eq_true rfl) rfl rfl (Nat.le_of_ble_eq_true rfl) (Nat.le_of_ble_eq_true rfl) (Nat.le_of_ble_eq_true rfl) (Nat.le_of_ble_eq_true rfl) (Nat.le_of_ble_eq_true rfl) (Nat.le_of_ble_eq_true rfl) dL_isWave_64 (sX7_host hM) (fun r h9 hq => ?_) (fun x h9 hq => hq.elim)
  obtain ⟨rfl, z117, rfl, hM⟩ := hq
  refine zV_istore O dL_isWave_67 (Nat.le_of_ble_eq_true rfl) rfl ?_
  refine zV_iload O dL_isWave_69 rfl ?_
  refine zV_if_le (tgt := 90) O dL_isWave_71 (by decide) (fun hc => ?_) (fun hc => ?_)
  · replace hM := hM.1 hc
    refine zV_sub (ls2 := [some (aR 169), some (aI v1), some (aI v2), some (aI v3), some (aI v4), some (aI v5), some (aR 187), some (aR 188), some (aI v8), some (aI s0), none, none, none]) ⟨rfl, rfl, rfl, rfl, rfl, rfl, rfl, rfl, rfl, rfl, trivial⟩ ?_
    exact sL_isWave_b90 O hN hK35 hz_v5 hz_s0 hM
  · replace hM := hM.2 hc
    refine zV_iload_n O dL_isWave_74 rfl rfl ?_
    refine zV_iload O dL_isWave_75 rfl ?_
    refine zV_aload_n O dL_isWave_77 rfl rfl ?_
    refine zV_iconst (z := 4) O ⟨by omega, by omega⟩ dL_isWave_78 ?_
    refine zV_callV (as := [aI 4]) (st := [aI z117, aI v3]) O zc_X7_size (Or.inl zl_RL_82) zi_690 zi_691 zt_169 rfl rfl (by decide) (Nat.le_of_ble_eq_true rfl) rfl rfl (Nat.le_of_ble_eq_true rfl) (Nat.le_of_ble_eq_true rfl) (Nat.le_of_ble_eq_true rfl) (Nat.le_of_ble_eq_true rfl) (Nat.le_of_ble_eq_true rfl) (Nat.le_of_ble_eq_true rfl) dL_isWave_79 (sX7_size hM) (fun r h119 hq => ?_) (fun x h9 hq => hq.elim)
    obtain ⟨z118, rfl, hM⟩ := hq
    obtain ⟨hc, hM⟩ := hM
    refine zV_iadd O dL_isWave_82 hc ?_
    refine zV_icmp_ge (tgt := 90) O dL_isWave_83 (by decide) (fun hc => ?_) (fun hc => ?_)
    · replace hM := hM.1 hc
      refine zV_sub (ls2 := [some (aR 169), some (aI v1), some (aI v2), some (aI v3), some (aI v4), some (aI v5), some (aR 187), some (aR 188), some (aI v8), some (aI s0), none, none, none]) ⟨rfl, rfl, rfl, rfl, rfl, rfl, rfl, rfl, rfl, rfl, trivial⟩ ?_
      exact sL_isWave_b90 O hN hK35 hz_v5 hz_s0 hM
    · replace hM := hM.2 hc
      refine zV_iconst (z := 1) O ⟨by omega, by omega⟩ dL_isWave_86 ?_
      refine zV_goto (tgt := 91) O dL_isWave_87 (by decide) ?_
      refine zV_sub (ls2 := [some (aR 169), some (aI v1), some (aI v2), some (aI v3), some (aI v4), some (aI v5), some (aR 187), some (aR 188), some (aI v8), some (aI s0), none, none, none]) ⟨rfl, rfl, rfl, rfl, rfl, rfl, rfl, rfl, rfl, rfl, trivial⟩ ?_
      exact sL_isWave_b91 O hN hK35 hz_v5 hz_s0 (Or.inr rfl) hM
def mL_isWave_b35 (Q : Int → Hp → Prop) : Nat → Int → Int → Int → Int → Int → Int → Hp → Prop
  | 0 => fun _ _ _ _ _ _ _ => False
  | fu35 + 1 => fun v1 v2 v3 v4 v5 v8 h => ((v1 ≤ v8 → (∃ ff, mL_isWave_b217 Q ff v1 v2 v3 v4 v5 0 0 h)) ∧ (¬ v1 ≤ v8 → (mX7_host v8 5 h (fun z120 => ((¬ z120 = v3 → (mL_isWave_b57 Q (mL_isWave_b35 Q fu35) v1 v2 v3 v4 v5 v8 0 h)) ∧ (z120 = v3 → (mL_isWave_b57 Q (mL_isWave_b35 Q fu35) v1 v2 v3 v4 v5 v8 1 h)))))))
set_option maxHeartbeats 4000000 in
set_option maxRecDepth 100000 in
theorem sL_isWave_b35 {l0 : Launch} {a : ZC}  {Q : Int → Hp → Prop}  (O : zOk l0 a cL_isWave RL 13 (some .boolean) 189 []) (hN : a.2.2.2 = 189)   : ∀ (ff : Nat) (v1 : Int) (v2 : Int) (v3 : Int) (v4 : Int) (v5 : Int) (v8 : Int) (h : Hp), (v5 = 0 ∨ v5 = 1) → mL_isWave_b35 Q ff v1 v2 v3 v4 v5 v8 h → zV a (8, 2, 80, (qZ Q), xN) 2 80 35 [some (aR 169), some (aI v1), some (aI v2), some (aI v3), some (aI v4), some (aI v5), some (aR 187), some (aR 188), some (aI v8), none, none, none, none] [] h := by
  intro ff
  induction ff with
  | zero => intro v1 v2 v3 v4 v5 v8 h hz_v5 hM; exact hM.elim
  | succ ff ih =>
    have hK35 := ih
    intro v1 v2 v3 v4 v5 v8 h hz_v5 hM
    unfold mL_isWave_b35 at hM
    refine zV_iload O dL_isWave_35 rfl ?_
    refine zV_iload_n O dL_isWave_37 rfl rfl ?_
    refine zV_icmp_ge (tgt := 211) O dL_isWave_38 (by decide) (fun hc => ?_) (fun hc => ?_)
    · replace hM := hM.1 hc
      refine zV_iconst (z := 0) O ⟨by omega, by omega⟩ dL_isWave_211 ?_
      refine zV_istore O dL_isWave_212 (Nat.le_of_ble_eq_true rfl) rfl ?_
      refine zV_iconst (z := 0) O ⟨by omega, by omega⟩ dL_isWave_214 ?_
      refine zV_istore O dL_isWave_215 (Nat.le_of_ble_eq_true rfl) rfl ?_
      obtain ⟨ff, hM⟩ := hM
      exact sL_isWave_b217 O hN ff _ _ _ _ _ _ _ _ hz_v5 (Or.inl rfl) hM
    · replace hM := hM.2 hc
      refine zV_aload_n O dL_isWave_41 rfl rfl ?_
      refine zV_iload O dL_isWave_42 rfl ?_
      refine zV_iconst (z := 5) O ⟨by omega, by omega⟩ dL_isWave_44 ?_
      refine zV_callV (as := [aI v8, aI 5]) (st := []) O zc_X7_host (Or.inl zl_RL_132) zi_746 zi_747 zt_169 rfl rfl (by decide) (Nat.le_of_ble_eq_true rfl) rfl rfl (Nat.le_of_ble_eq_true rfl) (Nat.le_of_ble_eq_true rfl) (Nat.le_of_ble_eq_true rfl) (Nat.le_of_ble_eq_true rfl) (Nat.le_of_ble_eq_true rfl) (Nat.le_of_ble_eq_true rfl) dL_isWave_45 (sX7_host hM) (fun r h9 hq => ?_) (fun x h9 hq => hq.elim)
      obtain ⟨rfl, z120, rfl, hM⟩ := hq
      refine zV_iload_n O dL_isWave_48 rfl rfl ?_
      refine zV_icmp_ne (tgt := 56) O dL_isWave_49 (by decide) (fun hc => ?_) (fun hc => ?_)
      · replace hM := hM.1 hc
        refine zV_iconst (z := 0) O ⟨by omega, by omega⟩ dL_isWave_56 ?_
        exact sL_isWave_b57 O hN hK35 hz_v5 (Or.inl rfl) hM
      · replace hM := hM.2 hc
        refine zV_iconst (z := 1) O ⟨by omega, by omega⟩ dL_isWave_52 ?_
        refine zV_goto (tgt := 57) O dL_isWave_53 (by decide) ?_
        exact sL_isWave_b57 O hN hK35 hz_v5 (Or.inr rfl) hM
def mL_isWave  (h : Hp) (Q : Int → Hp → Prop) : Prop := (mX7_size 0 h (fun z121 h122 => (mX7_size 3 h122 (fun z123 h124 => (zr (z123 + 1) ∧ (((0 : Int) ≤ z121 ∧ z121 ≤ 40) ∧ (∀ h125 : Hp, h125 = hnw h124 187 0 z121 → (((0 : Int) ≤ z121 ∧ z121 ≤ 40) ∧ (∀ h126 : Hp, h126 = hnw h125 188 0 z121 → (∃ ff, mL_isWave_b35 Q ff z121 z123 (z123 + 1) 0 0 0 h126))))))))))
set_option maxHeartbeats 4000000 in
set_option maxRecDepth 100000 in
theorem sL_isWave {l0 : Launch}  {h : Hp} {Q : Int → Hp → Prop}  (hM : mL_isWave  h Q) : zSpA l0 yL_isWave cL_isWave 13 (some .boolean) (8) 2 80 [aR 169] h (qZ Q) xN 187 := by
  unfold mL_isWave at hM
  refine zSpA_intro zpn_RL (Nat.le_of_ble_eq_true rfl) (fun a O hN => ?_)
  show zV a (8, 2, 80, (qZ Q), xN) 0 0 0 [some (aR 169), none, none, none, none, none, none, none, none, none, none, none, none] [] h
  refine zV_aload_n O dL_isWave_0 rfl rfl ?_
  refine zV_iconst (z := 0) O ⟨by omega, by omega⟩ dL_isWave_1 ?_
  refine zV_callV (as := [aI 0]) (st := []) O zc_X7_size (Or.inl zl_RL_82) zi_690 zi_691 zt_169 rfl rfl (by decide) (Nat.le_of_ble_eq_true rfl) rfl rfl (Nat.le_of_ble_eq_true rfl) (Nat.le_of_ble_eq_true rfl) (Nat.le_of_ble_eq_true rfl) (Nat.le_of_ble_eq_true rfl) (Nat.le_of_ble_eq_true rfl) (Nat.le_of_ble_eq_true rfl) dL_isWave_2 (sX7_size hM) (fun r h122 hq => ?_) (fun x h9 hq => hq.elim)
  obtain ⟨z121, rfl, hM⟩ := hq
  refine zV_istore_n O dL_isWave_5 rfl (Nat.le_of_ble_eq_true rfl) rfl ?_
  refine zV_aload_n O dL_isWave_6 rfl rfl ?_
  refine zV_iconst (z := 3) O ⟨by omega, by omega⟩ dL_isWave_7 ?_
  refine zV_callV (as := [aI 3]) (st := []) O zc_X7_size (Or.inl zl_RL_82) zi_690 zi_691 zt_169 rfl rfl (by decide) (Nat.le_of_ble_eq_true rfl) rfl rfl (Nat.le_of_ble_eq_true rfl) (Nat.le_of_ble_eq_true rfl) (Nat.le_of_ble_eq_true rfl) (Nat.le_of_ble_eq_true rfl) (Nat.le_of_ble_eq_true rfl) (Nat.le_of_ble_eq_true rfl) dL_isWave_8 (sX7_size hM) (fun r h124 hq => ?_) (fun x h9 hq => hq.elim)
  obtain ⟨z123, rfl, hM⟩ := hq
  refine zV_istore_n O dL_isWave_11 rfl (Nat.le_of_ble_eq_true rfl) rfl ?_
  refine zV_iload_n O dL_isWave_12 rfl rfl ?_
  refine zV_iconst (z := 1) O ⟨by omega, by omega⟩ dL_isWave_13 ?_
  obtain ⟨hc, hM⟩ := hM
  refine zV_iadd O dL_isWave_14 hc ?_
  refine zV_istore_n O dL_isWave_15 rfl (Nat.le_of_ble_eq_true rfl) rfl ?_
  refine zV_iconst (z := 0) O ⟨by omega, by omega⟩ dL_isWave_16 ?_
  refine zV_istore O dL_isWave_17 (Nat.le_of_ble_eq_true rfl) rfl ?_
  refine zV_iconst (z := 0) O ⟨by omega, by omega⟩ dL_isWave_19 ?_
  refine zV_istore O dL_isWave_20 (Nat.le_of_ble_eq_true rfl) rfl ?_
  refine zV_iload_n O dL_isWave_22 rfl rfl ?_
  obtain ⟨hc, hM⟩ := hM
  refine zV_newG O hN rfl (L := 40) (ti := 0) (by decide) hc (by decide) (Nat.le_of_ble_eq_true rfl) (Nat.le_of_ble_eq_true rfl) (by rfl) dL_isWave_23 (by decide) (fun a O hN X => ?_)
  have hM := hM _ rfl
  generalize hnw h124 187 0 z121 = h125 at hM ⊢
  refine zV_astore O dL_isWave_25 (Nat.le_of_ble_eq_true rfl) rfl ?_
  refine zV_iload_n O dL_isWave_27 rfl rfl ?_
  obtain ⟨hc, hM⟩ := hM
  refine zV_newG O hN rfl (L := 40) (ti := 0) (by decide) hc (by decide) (Nat.le_of_ble_eq_true rfl) (Nat.le_of_ble_eq_true rfl) (by rfl) dL_isWave_28 (by decide) (fun a O hN X => ?_)
  have hM := hM _ rfl
  generalize hnw h125 188 0 z121 = h126 at hM ⊢
  refine zV_astore O dL_isWave_30 (Nat.le_of_ble_eq_true rfl) rfl ?_
  refine zV_iconst (z := 0) O ⟨by omega, by omega⟩ dL_isWave_32 ?_
  refine zV_istore O dL_isWave_33 (Nat.le_of_ble_eq_true rfl) rfl ?_
  obtain ⟨ff, hM⟩ := hM
  exact sL_isWave_b35 O hN ff _ _ _ _ _ _ _ (Or.inl rfl) hM
