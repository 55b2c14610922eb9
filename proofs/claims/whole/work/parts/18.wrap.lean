def mL_clash (x1 : Int) (h : Hp) (Q : Int → Hp → Prop) : Prop := (mX7_clash x1 h (fun z4 h5 => (((0 : Int) ≤ 0 ∧ (0 : Int) < 1) ∧ (∀ h6 : Hp, h6 = wr h5 197 0 z4 → (Q 0 h6)))) (fun x h5 => (x = 1 ∧ (Q 1 h5))))
set_option maxHeartbeats 4000000 in
set_option maxRecDepth 100000 in
theorem sL_clash {l0 : Launch} {x1 : Int} {h : Hp} {Q : Int → Hp → Prop}  (hM : mL_clash x1 h Q) : zSpH l0 yL_clash cL_clash 4 (some .int) [(0, 9, 12, 18)] 198 9 1 6 [aR 169, aI x1, aR 197] h (qI Q) xN := by
  unfold mL_clash at hM
  refine zSpH_intro zpn_RL (Nat.le_of_ble_eq_true rfl) (fun a O => ?_)
  show zV a (9, 1, 6, (qI Q), xN) 0 0 0 [some (aR 169), some (aI x1), some (aR 197), none] [] h
  refine zV_aload_n O dL_clash_0 rfl rfl ?_
  refine zV_iconst (z := 0) O ⟨by omega, by omega⟩ dL_clash_1 ?_
  refine zV_aload_n O dL_clash_2 rfl rfl ?_
  refine zV_iload_n O dL_clash_3 rfl rfl ?_
  refine zV_callV (as := [aI x1]) (st := [aI 0, aR 197]) O zc_X7_clash (Or.inl zl_RL_30) zi_1039 zi_1040 zt_169 rfl rfl (by decide) (Nat.le_of_ble_eq_true rfl) rfl rfl (Nat.le_of_ble_eq_true rfl) (Nat.le_of_ble_eq_true rfl) (Nat.le_of_ble_eq_true rfl) (Nat.le_of_ble_eq_true rfl) (Nat.le_of_ble_eq_true rfl) (Nat.le_of_ble_eq_true rfl) dL_clash_4 (sX7_clash hM) (fun r h5 hq => ?_) (fun x h9 hq => ?_)
  · obtain ⟨z4, rfl, hM⟩ := hq
    refine zV_i2l O dL_clash_7 ?_
    obtain ⟨hc, hM⟩ := hM
    refine zV_last O zt_197 (by decide) hc dL_clash_8 ?_
    have hM := hM (hu h5 197 (Int.toNat 0) z4) rfl
    generalize hu h5 197 (Int.toNat 0) z4 = h6 at hM ⊢
    refine zV_goto (tgt := 15) O dL_clash_9 (by decide) ?_
    refine zV_iconst (z := 0) O ⟨by omega, by omega⟩ dL_clash_15 ?_
    exact zV_iret O rfl ⟨_, rfl, hM⟩ (Nat.le_of_ble_eq_true rfl) (Nat.le_of_ble_eq_true rfl) dL_clash_16
  · obtain ⟨rfl, hM⟩ := hq
    refine zU_catch1 O (by decide) (by decide) zca_RL_18.1 zca_RL_18.2 (fun q9 => ?_)
    refine zV_astoreA_n O dL_clash_12 rfl (Nat.le_of_ble_eq_true rfl) rfl ?_
    refine zV_iconst (z := 1) O ⟨by omega, by omega⟩ dL_clash_13 ?_
    exact zV_iret O rfl ⟨_, rfl, hM⟩ (Nat.le_of_ble_eq_true rfl) (Nat.le_of_ble_eq_true rfl) dL_clash_14
def mL_clashesIn (x1 : Int) (h : Hp) (Q : Int → Hp → Prop) : Prop := (mX7_clashesIn x1 h (fun z4 h5 => (((0 : Int) ≤ 0 ∧ (0 : Int) < 1) ∧ (∀ h6 : Hp, h6 = wr h5 197 0 z4 → (Q 0 h6)))) (fun x h5 => (x = 0 ∧ (Q 1 h5))))
set_option maxHeartbeats 4000000 in
set_option maxRecDepth 100000 in
theorem sL_clashesIn {l0 : Launch} {x1 : Int} {h : Hp} {Q : Int → Hp → Prop}  (hM : mL_clashesIn x1 h Q) : zSpH l0 yL_clashesIn cL_clashesIn 4 (some .int) [(0, 9, 12, 13)] 198 9 1 6 [aR 169, aI x1, aR 197] h (qI Q) xN := by
  unfold mL_clashesIn at hM
  refine zSpH_intro zpn_RL (Nat.le_of_ble_eq_true rfl) (fun a O => ?_)
  show zV a (9, 1, 6, (qI Q), xN) 0 0 0 [some (aR 169), some (aI x1), some (aR 197), none] [] h
  refine zV_aload_n O dL_clashesIn_0 rfl rfl ?_
  refine zV_iconst (z := 0) O ⟨by omega, by omega⟩ dL_clashesIn_1 ?_
  refine zV_aload_n O dL_clashesIn_2 rfl rfl ?_
  refine zV_iload_n O dL_clashesIn_3 rfl rfl ?_
  refine zV_callV (as := [aI x1]) (st := [aI 0, aR 197]) O zc_X7_clashesIn (Or.inl zl_RL_50) zi_1106 zi_1107 zt_169 rfl rfl (by decide) (Nat.le_of_ble_eq_true rfl) rfl rfl (Nat.le_of_ble_eq_true rfl) (Nat.le_of_ble_eq_true rfl) (Nat.le_of_ble_eq_true rfl) (Nat.le_of_ble_eq_true rfl) (Nat.le_of_ble_eq_true rfl) (Nat.le_of_ble_eq_true rfl) dL_clashesIn_4 (sX7_clashesIn hM) (fun r h5 hq => ?_) (fun x h9 hq => ?_)
  · obtain ⟨z4, rfl, hM⟩ := hq
    refine zV_i2l O dL_clashesIn_7 ?_
    obtain ⟨hc, hM⟩ := hM
    refine zV_last O zt_197 (by decide) hc dL_clashesIn_8 ?_
    have hM := hM (hu h5 197 (Int.toNat 0) z4) rfl
    generalize hu h5 197 (Int.toNat 0) z4 = h6 at hM ⊢
    refine zV_goto (tgt := 15) O dL_clashesIn_9 (by decide) ?_
    refine zV_iconst (z := 0) O ⟨by omega, by omega⟩ dL_clashesIn_15 ?_
    exact zV_iret O rfl ⟨_, rfl, hM⟩ (Nat.le_of_ble_eq_true rfl) (Nat.le_of_ble_eq_true rfl) dL_clashesIn_16
  · obtain ⟨rfl, hM⟩ := hq
    refine zU_catch1 O (by decide) (by decide) zca_RL_13.1 zca_RL_13.2 (fun q9 => ?_)
    refine zV_astoreA_n O dL_clashesIn_12 rfl (Nat.le_of_ble_eq_true rfl) rfl ?_
    refine zV_iconst (z := 1) O ⟨by omega, by omega⟩ dL_clashesIn_13 ?_
    exact zV_iret O rfl ⟨_, rfl, hM⟩ (Nat.le_of_ble_eq_true rfl) (Nat.le_of_ble_eq_true rfl) dL_clashesIn_14
def mL_setKeep (x1 : Int) (h : Hp) (Q : Int → Hp → Prop) : Prop := (mX7_setKeep x1 h (fun z4 h5 => (((0 : Int) ≤ 0 ∧ (0 : Int) < 1) ∧ (∀ h6 : Hp, h6 = wr h5 197 0 z4 → (Q 0 h6)))) (fun x h5 => (x = 0 ∧ (Q 1 h5))))
set_option maxHeartbeats 4000000 in
set_option maxRecDepth 100000 in
theorem sL_setKeep {l0 : Launch} {x1 : Int} {h : Hp} {Q : Int → Hp → Prop}  (hM : mL_setKeep x1 h Q) : zSpH l0 yL_setKeep cL_setKeep 4 (some .int) [(0, 9, 12, 13)] 198 9 1 6 [aR 169, aI x1, aR 197] h (qI Q) xN := by
  unfold mL_setKeep at hM
  refine zSpH_intro zpn_RL (Nat.le_of_ble_eq_true rfl) (fun a O => ?_)
  show zV a (9, 1, 6, (qI Q), xN) 0 0 0 [some (aR 169), some (aI x1), some (aR 197), none] [] h
  refine zV_aload_n O dL_setKeep_0 rfl rfl ?_
  refine zV_iconst (z := 0) O ⟨by omega, by omega⟩ dL_setKeep_1 ?_
  refine zV_aload_n O dL_setKeep_2 rfl rfl ?_
  refine zV_iload_n O dL_setKeep_3 rfl rfl ?_
  refine zV_callV (as := [aI x1]) (st := [aI 0, aR 197]) O zc_X7_setKeep (Or.inl zl_RL_72) zi_1169 zi_1170 zt_169 rfl rfl (by decide) (Nat.le_of_ble_eq_true rfl) rfl rfl (Nat.le_of_ble_eq_true rfl) (Nat.le_of_ble_eq_true rfl) (Nat.le_of_ble_eq_true rfl) (Nat.le_of_ble_eq_true rfl) (Nat.le_of_ble_eq_true rfl) (Nat.le_of_ble_eq_true rfl) dL_setKeep_4 (sX7_setKeep hM) (fun r h5 hq => ?_) (fun x h9 hq => ?_)
  · obtain ⟨z4, rfl, hM⟩ := hq
    refine zV_i2l O dL_setKeep_7 ?_
    obtain ⟨hc, hM⟩ := hM
    refine zV_last O zt_197 (by decide) hc dL_setKeep_8 ?_
    have hM := hM (hu h5 197 (Int.toNat 0) z4) rfl
    generalize hu h5 197 (Int.toNat 0) z4 = h6 at hM ⊢
    refine zV_goto (tgt := 15) O dL_setKeep_9 (by decide) ?_
    refine zV_iconst (z := 0) O ⟨by omega, by omega⟩ dL_setKeep_15 ?_
    exact zV_iret O rfl ⟨_, rfl, hM⟩ (Nat.le_of_ble_eq_true rfl) (Nat.le_of_ble_eq_true rfl) dL_setKeep_16
  · obtain ⟨rfl, hM⟩ := hq
    refine zU_catch1 O (by decide) (by decide) zca_RL_13.1 zca_RL_13.2 (fun q9 => ?_)
    refine zV_astoreA_n O dL_setKeep_12 rfl (Nat.le_of_ble_eq_true rfl) rfl ?_
    refine zV_iconst (z := 1) O ⟨by omega, by omega⟩ dL_setKeep_13 ?_
    exact zV_iret O rfl ⟨_, rfl, hM⟩ (Nat.le_of_ble_eq_true rfl) (Nat.le_of_ble_eq_true rfl) dL_setKeep_14
def mL_size (x1 : Int) (h : Hp) (Q : Int → Hp → Prop) : Prop := (mX7_size x1 h (fun z4 h5 => (((0 : Int) ≤ 0 ∧ (0 : Int) < 1) ∧ (∀ h6 : Hp, h6 = wr h5 197 0 z4 → (Q 0 h6)))) (fun x h5 => (x = 1 ∧ (Q 1 h5))))
set_option maxHeartbeats 4000000 in
set_option maxRecDepth 100000 in
theorem sL_size {l0 : Launch} {x1 : Int} {h : Hp} {Q : Int → Hp → Prop}  (hM : mL_size x1 h Q) : zSpH l0 yL_size cL_size 4 (some .int) [(0, 9, 12, 18)] 198 9 1 6 [aR 169, aI x1, aR 197] h (qI Q) xN := by
  unfold mL_size at hM
  refine zSpH_intro zpn_RL (Nat.le_of_ble_eq_true rfl) (fun a O => ?_)
  show zV a (9, 1, 6, (qI Q), xN) 0 0 0 [some (aR 169), some (aI x1), some (aR 197), none] [] h
  refine zV_aload_n O dL_size_0 rfl rfl ?_
  refine zV_iconst (z := 0) O ⟨by omega, by omega⟩ dL_size_1 ?_
  refine zV_aload_n O dL_size_2 rfl rfl ?_
  refine zV_iload_n O dL_size_3 rfl rfl ?_
  refine zV_callV (as := [aI x1]) (st := [aI 0, aR 197]) O zc_X7_size (Or.inl zl_RL_15) zi_973 zi_974 zt_169 rfl rfl (by decide) (Nat.le_of_ble_eq_true rfl) rfl rfl (Nat.le_of_ble_eq_true rfl) (Nat.le_of_ble_eq_true rfl) (Nat.le_of_ble_eq_true rfl) (Nat.le_of_ble_eq_true rfl) (Nat.le_of_ble_eq_true rfl) (Nat.le_of_ble_eq_true rfl) dL_size_4 (sX7_size hM) (fun r h5 hq => ?_) (fun x h9 hq => ?_)
  · obtain ⟨z4, rfl, hM⟩ := hq
    refine zV_i2l O dL_size_7 ?_
    obtain ⟨hc, hM⟩ := hM
    refine zV_last O zt_197 (by decide) hc dL_size_8 ?_
    have hM := hM (hu h5 197 (Int.toNat 0) z4) rfl
    generalize hu h5 197 (Int.toNat 0) z4 = h6 at hM ⊢
    refine zV_goto (tgt := 15) O dL_size_9 (by decide) ?_
    refine zV_iconst (z := 0) O ⟨by omega, by omega⟩ dL_size_15 ?_
    exact zV_iret O rfl ⟨_, rfl, hM⟩ (Nat.le_of_ble_eq_true rfl) (Nat.le_of_ble_eq_true rfl) dL_size_16
  · obtain ⟨rfl, hM⟩ := hq
    refine zU_catch1 O (by decide) (by decide) zca_RL_18.1 zca_RL_18.2 (fun q9 => ?_)
    refine zV_astoreA_n O dL_size_12 rfl (Nat.le_of_ble_eq_true rfl) rfl ?_
    refine zV_iconst (z := 1) O ⟨by omega, by omega⟩ dL_size_13 ?_
    exact zV_iret O rfl ⟨_, rfl, hM⟩ (Nat.le_of_ble_eq_true rfl) (Nat.le_of_ble_eq_true rfl) dL_size_14
def mL_addHost (x1 : Int) (x2 : Int) (h : Hp) (Q : Int → Hp → Prop) : Prop := (mX7_addHost x1 x2 h (fun z4 h5 => (((0 : Int) ≤ 0 ∧ (0 : Int) < 1) ∧ (∀ h6 : Hp, h6 = wr h5 197 0 z4 → (Q 0 h6)))) (fun x h5 => (x = 1 ∧ (Q 1 h5)) ∨ (x = 0 ∧ (Q 2 h5))))
set_option maxHeartbeats 4000000 in
set_option maxRecDepth 100000 in
theorem sL_addHost {l0 : Launch} {x1 : Int} {x2 : Int} {h : Hp} {Q : Int → Hp → Prop}  (hM : mL_addHost x1 x2 h Q) : zSpH l0 yL_addHost cL_addHost 5 (some .int) [(0, 10, 13, 18), (0, 10, 17, 13)] 198 10 2 12 [aR 169, aI x1, aI x2, aR 197] h (qI Q) xN := by
  unfold mL_addHost at hM
  refine zSpH_intro zpn_RL (Nat.le_of_ble_eq_true rfl) (fun a O => ?_)
  show zV a (10, 2, 12, (qI Q), xN) 0 0 0 [some (aR 169), some (aI x1), some (aI x2), some (aR 197), none] [] h
  refine zV_aload_n O dL_addHost_0 rfl rfl ?_
  refine zV_iconst (z := 0) O ⟨by omega, by omega⟩ dL_addHost_1 ?_
  refine zV_aload_n O dL_addHost_2 rfl rfl ?_
  refine zV_iload_n O dL_addHost_3 rfl rfl ?_
  refine zV_iload_n O dL_addHost_4 rfl rfl ?_
  refine zV_callV (as := [aI x1, aI x2]) (st := [aI 0, aR 197]) O zc_X7_addHost (Or.inl zl_RL_53) zi_1113 zi_1114 zt_169 rfl rfl (by decide) (Nat.le_of_ble_eq_true rfl) rfl rfl (Nat.le_of_ble_eq_true rfl) (Nat.le_of_ble_eq_true rfl) (Nat.le_of_ble_eq_true rfl) (Nat.le_of_ble_eq_true rfl) (Nat.le_of_ble_eq_true rfl) (Nat.le_of_ble_eq_true rfl) dL_addHost_5 (sX7_addHost hM) (fun r h5 hq => ?_) (fun x h9 hq => ?_)
  · obtain ⟨z4, rfl, hM⟩ := hq
    refine zV_i2l O dL_addHost_8 ?_
    obtain ⟨hc, hM⟩ := hM
    refine zV_last O zt_197 (by decide) hc dL_addHost_9 ?_
    have hM := hM (hu h5 197 (Int.toNat 0) z4) rfl
    generalize hu h5 197 (Int.toNat 0) z4 = h6 at hM ⊢
    refine zV_goto (tgt := 21) O dL_addHost_10 (by decide) ?_
    refine zV_iconst (z := 0) O ⟨by omega, by omega⟩ dL_addHost_21 ?_
    exact zV_iret O rfl ⟨_, rfl, hM⟩ (Nat.le_of_ble_eq_true rfl) (Nat.le_of_ble_eq_true rfl) dL_addHost_22
  · obtain (⟨rfl, hM⟩ | ⟨rfl, hM⟩) := hq
    · refine zU_catch1 O (by decide) (by decide) zca_RL_18.1 zca_RL_18.2 (fun q9 => ?_)
      refine zV_astoreA O dL_addHost_13 (Nat.le_of_ble_eq_true rfl) rfl ?_
      refine zV_iconst (z := 1) O ⟨by omega, by omega⟩ dL_addHost_15 ?_
      exact zV_iret O rfl ⟨_, rfl, hM⟩ (Nat.le_of_ble_eq_true rfl) (Nat.le_of_ble_eq_true rfl) dL_addHost_16
    · refine zU_catch2 O (by decide) zca_RL_18.1 (by decide) (by decide) zca_RL_13.1 zca_RL_13.2 (fun q9 => ?_)
      refine zV_astoreA O dL_addHost_17 (Nat.le_of_ble_eq_true rfl) rfl ?_
      refine zV_iconst (z := 2) O ⟨by omega, by omega⟩ dL_addHost_19 ?_
      exact zV_iret O rfl ⟨_, rfl, hM⟩ (Nat.le_of_ble_eq_true rfl) (Nat.le_of_ble_eq_true rfl) dL_addHost_20
def mL_addRule (x1 : Int) (x2 : Int) (x3 : Int) (x4 : Int) (h : Hp) (Q : Int → Hp → Prop) : Prop := (mX7_addRule x1 x2 x3 x4 h (fun z4 h5 => (((0 : Int) ≤ 0 ∧ (0 : Int) < 1) ∧ (∀ h6 : Hp, h6 = wr h5 197 0 z4 → (Q 0 h6)))) (fun x h5 => (x = 1 ∧ (Q 1 h5)) ∨ (x = 0 ∧ (Q 2 h5))))
set_option maxHeartbeats 4000000 in
set_option maxRecDepth 100000 in
theorem sL_addRule {l0 : Launch} {x1 : Int} {x2 : Int} {x3 : Int} {x4 : Int} {h : Hp} {Q : Int → Hp → Prop}  (hM : mL_addRule x1 x2 x3 x4 h Q) : zSpH l0 yL_addRule cL_addRule 7 (some .int) [(0, 14, 17, 18), (0, 14, 21, 13)] 198 10 3 18 [aR 169, aI x1, aI x2, aI x3, aI x4, aR 197] h (qI Q) xN := by
  unfold mL_addRule at hM
  refine zSpH_intro zpn_RL (Nat.le_of_ble_eq_true rfl) (fun a O => ?_)
  show zV a (10, 3, 18, (qI Q), xN) 0 0 0 [some (aR 169), some (aI x1), some (aI x2), some (aI x3), some (aI x4), some (aR 197), none] [] h
  refine zV_aload O dL_addRule_0 rfl ?_
  refine zV_iconst (z := 0) O ⟨by omega, by omega⟩ dL_addRule_2 ?_
  refine zV_aload_n O dL_addRule_3 rfl rfl ?_
  refine zV_iload_n O dL_addRule_4 rfl rfl ?_
  refine zV_iload_n O dL_addRule_5 rfl rfl ?_
  refine zV_iload_n O dL_addRule_6 rfl rfl ?_
  refine zV_iload O dL_addRule_7 rfl ?_
  refine zV_callV (as := [aI x1, aI x2, aI x3, aI x4]) (st := [aI 0, aR 197]) O zc_X7_addRule (Or.inl zl_RL_65) zi_1147 zi_1148 zt_169 rfl rfl (by decide) (Nat.le_of_ble_eq_true rfl) rfl rfl (Nat.le_of_ble_eq_true rfl) (Nat.le_of_ble_eq_true rfl) (Nat.le_of_ble_eq_true rfl) (Nat.le_of_ble_eq_true rfl) (Nat.le_of_ble_eq_true rfl) (Nat.le_of_ble_eq_true rfl) dL_addRule_9 (sX7_addRule hM) (fun r h5 hq => ?_) (fun x h9 hq => ?_)
  · obtain ⟨z4, rfl, hM⟩ := hq
    refine zV_i2l O dL_addRule_12 ?_
    obtain ⟨hc, hM⟩ := hM
    refine zV_last O zt_197 (by decide) hc dL_addRule_13 ?_
    have hM := hM (hu h5 197 (Int.toNat 0) z4) rfl
    generalize hu h5 197 (Int.toNat 0) z4 = h6 at hM ⊢
    refine zV_goto (tgt := 25) O dL_addRule_14 (by decide) ?_
    refine zV_iconst (z := 0) O ⟨by omega, by omega⟩ dL_addRule_25 ?_
    exact zV_iret O rfl ⟨_, rfl, hM⟩ (Nat.le_of_ble_eq_true rfl) (Nat.le_of_ble_eq_true rfl) dL_addRule_26
  · obtain (⟨rfl, hM⟩ | ⟨rfl, hM⟩) := hq
    · refine zU_catch1 O (by decide) (by decide) zca_RL_18.1 zca_RL_18.2 (fun q9 => ?_)
      refine zV_astoreA O dL_addRule_17 (Nat.le_of_ble_eq_true rfl) rfl ?_
      refine zV_iconst (z := 1) O ⟨by omega, by omega⟩ dL_addRule_19 ?_
      exact zV_iret O rfl ⟨_, rfl, hM⟩ (Nat.le_of_ble_eq_true rfl) (Nat.le_of_ble_eq_true rfl) dL_addRule_20
    · refine zU_catch2 O (by decide) zca_RL_18.1 (by decide) (by decide) zca_RL_13.1 zca_RL_13.2 (fun q9 => ?_)
      refine zV_astoreA O dL_addRule_21 (Nat.le_of_ble_eq_true rfl) rfl ?_
      refine zV_iconst (z := 2) O ⟨by omega, by omega⟩ dL_addRule_23 ?_
      exact zV_iret O rfl ⟨_, rfl, hM⟩ (Nat.le_of_ble_eq_true rfl) (Nat.le_of_ble_eq_true rfl) dL_addRule_24
def mL_allows_b18 (Q : Int → Hp → Prop) (s0 : Int) (s1 : Int) (h : Hp) : Prop := (((0 : Int) ≤ s1 ∧ s1 < 1) ∧ (∀ h4 : Hp, h4 = wr h 197 s1 s0 → (Q 0 h4)))
set_option maxHeartbeats 4000000 in
set_option maxRecDepth 100000 in
theorem sL_allows_b18 {l0 : Launch} {a : ZC}  {Q : Int → Hp → Prop}  (O : zOk l0 a cL_allows RL 6 (some .int) 198 [(0, 19, 22, 18), (0, 19, 26, 13)])   {s0 : Int} {s1 : Int} {h : Hp} (hz_s1 : s1 = 0 ∨ s1 = 1) (hM : mL_allows_b18 Q s0 s1 h) : zV a (10, 3, 18, (qI Q), xN) 3 18 18 [none, none, none, none, none, none] [aL s0, aI s1, aR 197] h := by
  unfold mL_allows_b18 at hM
  obtain ⟨hc, hM⟩ := hM
  refine zV_last O zt_197 (by decide) hc dL_allows_18 ?_
  have hM := hM (hu h 197 (Int.toNat s1) s0) rfl
  generalize hu h 197 (Int.toNat s1) s0 = h4 at hM ⊢
  refine zV_goto (tgt := 30) O dL_allows_19 (by decide) ?_
  refine zV_iconst (z := 0) O ⟨by omega, by omega⟩ dL_allows_30 ?_
  exact zV_iret O rfl ⟨_, rfl, hM⟩ (Nat.le_of_ble_eq_true rfl) (Nat.le_of_ble_eq_true rfl) dL_allows_31
def mL_allows (x1 : Int) (x2 : Int) (x3 : Int) (h : Hp) (Q : Int → Hp → Prop) : Prop := (mX7_allows x1 x2 x3 h (fun z5 => ((z5 = 0 → (mL_allows_b18 Q 0 0 h)) ∧ (¬ z5 = 0 → (mL_allows_b18 Q 1 0 h)))) (fun x => (x = 1 ∧ (Q 1 h)) ∨ (x = 0 ∧ (Q 2 h))))
set_option maxHeartbeats 4000000 in
set_option maxRecDepth 100000 in
theorem sL_allows {l0 : Launch} {x1 : Int} {x2 : Int} {x3 : Int} {h : Hp} {Q : Int → Hp → Prop}  (hM : mL_allows x1 x2 x3 h Q) : zSpH l0 yL_allows cL_allows 6 (some .int) [(0, 19, 22, 18), (0, 19, 26, 13)] 198 10 3 18 [aR 169, aI x1, aI x2, aI x3, aR 197] h (qI Q) xN := by
  unfold mL_allows at hM
  refine zSpH_intro zpn_RL (Nat.le_of_ble_eq_true rfl) (fun a O => ?_)
  show zV a (10, 3, 18, (qI Q), xN) 0 0 0 [some (aR 169), some (aI x1), some (aI x2), some (aI x3), some (aR 197), none] [] h
  refine zV_aload O dL_allows_0 rfl ?_
  refine zV_iconst (z := 0) O ⟨by omega, by omega⟩ dL_allows_2 ?_
  refine zV_aload_n O dL_allows_3 rfl rfl ?_
  refine zV_iload_n O dL_allows_4 rfl rfl ?_
  refine zV_iload_n O dL_allows_5 rfl rfl ?_
  refine zV_iload_n O dL_allows_6 rfl rfl ?_
  refine zV_callV (as := [aI x1, aI x2, aI x3]) (st := [aI 0, aR 197]) O zc_X7_allows (Or.inl zl_RL_43) zi_1091 zi_1092 zt_169 rfl rfl (by decide) (Nat.le_of_ble_eq_true rfl) rfl rfl (Nat.le_of_ble_eq_true rfl) (Nat.le_of_ble_eq_true rfl) (Nat.le_of_ble_eq_true rfl) (Nat.le_of_ble_eq_true rfl) (Nat.le_of_ble_eq_true rfl) (Nat.le_of_ble_eq_true rfl) dL_allows_7 (sX7_allows hM) (fun r h9 hq => ?_) (fun x h9 hq => ?_)
  · obtain ⟨rfl, z5, rfl, hzz5, hM⟩ := hq
    refine zV_if_eq (tgt := 17) O dL_allows_10 (by decide) (fun hc => ?_) (fun hc => ?_)
    · replace hM := hM.1 hc
      refine zV_lconst (z := 0) O ⟨by omega, by omega⟩ rfl dL_allows_17 ?_
      refine zV_sub (ls2 := [none, none, none, none, none, none]) trivial ?_
      exact sL_allows_b18 O (Or.inl rfl) hM
    · replace hM := hM.2 hc
      refine zV_lconst (z := 1) O ⟨by omega, by omega⟩ rfl dL_allows_13 ?_
      refine zV_goto (tgt := 18) O dL_allows_14 (by decide) ?_
      refine zV_sub (ls2 := [none, none, none, none, none, none]) trivial ?_
      exact sL_allows_b18 O (Or.inl rfl) hM
  · obtain ⟨rfl, (⟨rfl, hM⟩ | ⟨rfl, hM⟩)⟩ := hq
    · refine zU_catch1 O (by decide) (by decide) zca_RL_18.1 zca_RL_18.2 (fun q9 => ?_)
      refine zV_astoreA O dL_allows_22 (Nat.le_of_ble_eq_true rfl) rfl ?_
      refine zV_iconst (z := 1) O ⟨by omega, by omega⟩ dL_allows_24 ?_
      exact zV_iret O rfl ⟨_, rfl, hM⟩ (Nat.le_of_ble_eq_true rfl) (Nat.le_of_ble_eq_true rfl) dL_allows_25
    · refine zU_catch2 O (by decide) zca_RL_18.1 (by decide) (by decide) zca_RL_13.1 zca_RL_13.2 (fun q9 => ?_)
      refine zV_astoreA O dL_allows_26 (Nat.le_of_ble_eq_true rfl) rfl ?_
      refine zV_iconst (z := 2) O ⟨by omega, by omega⟩ dL_allows_28 ?_
      exact zV_iret O rfl ⟨_, rfl, hM⟩ (Nat.le_of_ble_eq_true rfl) (Nat.le_of_ble_eq_true rfl) dL_allows_29
def mL_decides (x1 : Int) (x2 : Int) (x3 : Int) (h : Hp) (Q : Int → Hp → Prop) : Prop := (mX7_decides x1 x2 x3 h (fun z3 => (((0 : Int) ≤ 0 ∧ (0 : Int) < 1) ∧ (∀ h4 : Hp, h4 = wr h 197 0 z3 → (Q 0 h4)))) (fun x => (x = 1 ∧ (Q 1 h)) ∨ (x = 0 ∧ (Q 2 h))))
set_option maxHeartbeats 4000000 in
set_option maxRecDepth 100000 in
theorem sL_decides {l0 : Launch} {x1 : Int} {x2 : Int} {x3 : Int} {h : Hp} {Q : Int → Hp → Prop}  (hM : mL_decides x1 x2 x3 h Q) : zSpH l0 yL_decides cL_decides 6 (some .int) [(0, 12, 15, 18), (0, 12, 19, 13)] 198 10 3 18 [aR 169, aI x1, aI x2, aI x3, aR 197] h (qI Q) xN := by
  unfold mL_decides at hM
  refine zSpH_intro zpn_RL (Nat.le_of_ble_eq_true rfl) (fun a O => ?_)
  show zV a (10, 3, 18, (qI Q), xN) 0 0 0 [some (aR 169), some (aI x1), some (aI x2), some (aI x3), some (aR 197), none] [] h
  refine zV_aload O dL_decides_0 rfl ?_
  refine zV_iconst (z := 0) O ⟨by omega, by omega⟩ dL_decides_2 ?_
  refine zV_aload_n O dL_decides_3 rfl rfl ?_
  refine zV_iload_n O dL_decides_4 rfl rfl ?_
  refine zV_iload_n O dL_decides_5 rfl rfl ?_
  refine zV_iload_n O dL_decides_6 rfl rfl ?_
  refine zV_callV (as := [aI x1, aI x2, aI x3]) (st := [aI 0, aR 197]) O zc_X7_decides (Or.inl zl_RL_39) zi_1072 zi_1073 zt_169 rfl rfl (by decide) (Nat.le_of_ble_eq_true rfl) rfl rfl (Nat.le_of_ble_eq_true rfl) (Nat.le_of_ble_eq_true rfl) (Nat.le_of_ble_eq_true rfl) (Nat.le_of_ble_eq_true rfl) (Nat.le_of_ble_eq_true rfl) (Nat.le_of_ble_eq_true rfl) dL_decides_7 (sX7_decides hM) (fun r h9 hq => ?_) (fun x h9 hq => ?_)
  · obtain ⟨rfl, z3, rfl, hM⟩ := hq
    refine zV_i2l O dL_decides_10 ?_
    obtain ⟨hc, hM⟩ := hM
    refine zV_last O zt_197 (by decide) hc dL_decides_11 ?_
    have hM := hM (hu h 197 (Int.toNat 0) z3) rfl
    generalize hu h 197 (Int.toNat 0) z3 = h4 at hM ⊢
    refine zV_goto (tgt := 23) O dL_decides_12 (by decide) ?_
    refine zV_iconst (z := 0) O ⟨by omega, by omega⟩ dL_decides_23 ?_
    exact zV_iret O rfl ⟨_, rfl, hM⟩ (Nat.le_of_ble_eq_true rfl) (Nat.le_of_ble_eq_true rfl) dL_decides_24
  · obtain ⟨rfl, (⟨rfl, hM⟩ | ⟨rfl, hM⟩)⟩ := hq
    · refine zU_catch1 O (by decide) (by decide) zca_RL_18.1 zca_RL_18.2 (fun q9 => ?_)
      refine zV_astoreA O dL_decides_15 (Nat.le_of_ble_eq_true rfl) rfl ?_
      refine zV_iconst (z := 1) O ⟨by omega, by omega⟩ dL_decides_17 ?_
      exact zV_iret O rfl ⟨_, rfl, hM⟩ (Nat.le_of_ble_eq_true rfl) (Nat.le_of_ble_eq_true rfl) dL_decides_18
    · refine zU_catch2 O (by decide) zca_RL_18.1 (by decide) (by decide) zca_RL_13.1 zca_RL_13.2 (fun q9 => ?_)
      refine zV_astoreA O dL_decides_19 (Nat.le_of_ble_eq_true rfl) rfl ?_
      refine zV_iconst (z := 2) O ⟨by omega, by omega⟩ dL_decides_21 ?_
      exact zV_iret O rfl ⟨_, rfl, hM⟩ (Nat.le_of_ble_eq_true rfl) (Nat.le_of_ble_eq_true rfl) dL_decides_22
def mL_format (x1 : Int) (h : Hp) (Q : Int → Hp → Prop) : Prop := (mX7_format x1 h (fun z4 h5 => (((0 : Int) ≤ 0 ∧ (0 : Int) < 1) ∧ (∀ h6 : Hp, h6 = wr h5 197 0 z4 → (Q 0 h6)))) (fun x h5 => (x = 1 ∧ (Q 1 h5))))
set_option maxHeartbeats 4000000 in
set_option maxRecDepth 100000 in
theorem sL_format {l0 : Launch} {x1 : Int} {h : Hp} {Q : Int → Hp → Prop}  (hM : mL_format x1 h Q) : zSpH l0 yL_format cL_format 4 (some .int) [(0, 9, 12, 18)] 198 10 1 6 [aR 169, aI x1, aR 197] h (qI Q) xN := by
  unfold mL_format at hM
  refine zSpH_intro zpn_RL (Nat.le_of_ble_eq_true rfl) (fun a O => ?_)
  show zV a (10, 1, 6, (qI Q), xN) 0 0 0 [some (aR 169), some (aI x1), some (aR 197), none] [] h
  refine zV_aload_n O dL_format_0 rfl rfl ?_
  refine zV_iconst (z := 0) O ⟨by omega, by omega⟩ dL_format_1 ?_
  refine zV_aload_n O dL_format_2 rfl rfl ?_
  refine zV_iload_n O dL_format_3 rfl rfl ?_
  refine zV_callV (as := [aI x1]) (st := [aI 0, aR 197]) O zc_X7_format (Or.inl zl_RL_79) zi_1183 zi_1184 zt_169 rfl rfl (by decide) (Nat.le_of_ble_eq_true rfl) rfl rfl (Nat.le_of_ble_eq_true rfl) (Nat.le_of_ble_eq_true rfl) (Nat.le_of_ble_eq_true rfl) (Nat.le_of_ble_eq_true rfl) (Nat.le_of_ble_eq_true rfl) (Nat.le_of_ble_eq_true rfl) dL_format_4 (sX7_format hM) (fun r h5 hq => ?_) (fun x h9 hq => ?_)
  · obtain ⟨z4, rfl, hM⟩ := hq
    refine zV_i2l O dL_format_7 ?_
    obtain ⟨hc, hM⟩ := hM
    refine zV_last O zt_197 (by decide) hc dL_format_8 ?_
    have hM := hM (hu h5 197 (Int.toNat 0) z4) rfl
    generalize hu h5 197 (Int.toNat 0) z4 = h6 at hM ⊢
    refine zV_goto (tgt := 15) O dL_format_9 (by decide) ?_
    refine zV_iconst (z := 0) O ⟨by omega, by omega⟩ dL_format_15 ?_
    exact zV_iret O rfl ⟨_, rfl, hM⟩ (Nat.le_of_ble_eq_true rfl) (Nat.le_of_ble_eq_true rfl) dL_format_16
  · obtain ⟨rfl, hM⟩ := hq
    refine zU_catch1 O (by decide) (by decide) zca_RL_18.1 zca_RL_18.2 (fun q9 => ?_)
    refine zV_astoreA_n O dL_format_12 rfl (Nat.le_of_ble_eq_true rfl) rfl ?_
    refine zV_iconst (z := 1) O ⟨by omega, by omega⟩ dL_format_13 ?_
    exact zV_iret O rfl ⟨_, rfl, hM⟩ (Nat.le_of_ble_eq_true rfl) (Nat.le_of_ble_eq_true rfl) dL_format_14
def mL_holder (x1 : Int) (x2 : Int) (h : Hp) (Q : Int → Hp → Prop) : Prop := (mX7_holder x1 x2 h (fun z3 => (((0 : Int) ≤ 0 ∧ (0 : Int) < 1) ∧ (∀ h4 : Hp, h4 = wr h 197 0 z3 → (Q 0 h4)))) (fun x => (x = 1 ∧ (Q 1 h)) ∨ (x = 0 ∧ (Q 2 h))))
set_option maxHeartbeats 4000000 in
set_option maxRecDepth 100000 in
theorem sL_holder {l0 : Launch} {x1 : Int} {x2 : Int} {h : Hp} {Q : Int → Hp → Prop}  (hM : mL_holder x1 x2 h Q) : zSpH l0 yL_holder cL_holder 5 (some .int) [(0, 10, 13, 18), (0, 10, 17, 13)] 198 10 2 12 [aR 169, aI x1, aI x2, aR 197] h (qI Q) xN := by
  unfold mL_holder at hM
  refine zSpH_intro zpn_RL (Nat.le_of_ble_eq_true rfl) (fun a O => ?_)
  show zV a (10, 2, 12, (qI Q), xN) 0 0 0 [some (aR 169), some (aI x1), some (aI x2), some (aR 197), none] [] h
  refine zV_aload_n O dL_holder_0 rfl rfl ?_
  refine zV_iconst (z := 0) O ⟨by omega, by omega⟩ dL_holder_1 ?_
  refine zV_aload_n O dL_holder_2 rfl rfl ?_
  refine zV_iload_n O dL_holder_3 rfl rfl ?_
  refine zV_iload_n O dL_holder_4 rfl rfl ?_
  refine zV_callV (as := [aI x1, aI x2]) (st := [aI 0, aR 197]) O zc_X7_holder (Or.inl zl_RL_27) zi_1025 zi_1026 zt_169 rfl rfl (by decide) (Nat.le_of_ble_eq_true rfl) rfl rfl (Nat.le_of_ble_eq_true rfl) (Nat.le_of_ble_eq_true rfl) (Nat.le_of_ble_eq_true rfl) (Nat.le_of_ble_eq_true rfl) (Nat.le_of_ble_eq_true rfl) (Nat.le_of_ble_eq_true rfl) dL_holder_5 (sX7_holder hM) (fun r h9 hq => ?_) (fun x h9 hq => ?_)
  · obtain ⟨rfl, z3, rfl, hM⟩ := hq
    refine zV_i2l O dL_holder_8 ?_
    obtain ⟨hc, hM⟩ := hM
    refine zV_last O zt_197 (by decide) hc dL_holder_9 ?_
    have hM := hM (hu h 197 (Int.toNat 0) z3) rfl
    generalize hu h 197 (Int.toNat 0) z3 = h4 at hM ⊢
    refine zV_goto (tgt := 21) O dL_holder_10 (by decide) ?_
    refine zV_iconst (z := 0) O ⟨by omega, by omega⟩ dL_holder_21 ?_
    exact zV_iret O rfl ⟨_, rfl, hM⟩ (Nat.le_of_ble_eq_true rfl) (Nat.le_of_ble_eq_true rfl) dL_holder_22
  · obtain ⟨rfl, (⟨rfl, hM⟩ | ⟨rfl, hM⟩)⟩ := hq
    · refine zU_catch1 O (by decide) (by decide) zca_RL_18.1 zca_RL_18.2 (fun q9 => ?_)
      refine zV_astoreA O dL_holder_13 (Nat.le_of_ble_eq_true rfl) rfl ?_
      refine zV_iconst (z := 1) O ⟨by omega, by omega⟩ dL_holder_15 ?_
      exact zV_iret O rfl ⟨_, rfl, hM⟩ (Nat.le_of_ble_eq_true rfl) (Nat.le_of_ble_eq_true rfl) dL_holder_16
    · refine zU_catch2 O (by decide) zca_RL_18.1 (by decide) (by decide) zca_RL_13.1 zca_RL_13.2 (fun q9 => ?_)
      refine zV_astoreA O dL_holder_17 (Nat.le_of_ble_eq_true rfl) rfl ?_
      refine zV_iconst (z := 2) O ⟨by omega, by omega⟩ dL_holder_19 ?_
      exact zV_iret O rfl ⟨_, rfl, hM⟩ (Nat.le_of_ble_eq_true rfl) (Nat.le_of_ble_eq_true rfl) dL_holder_20
def mL_host (x1 : Int) (x2 : Int) (h : Hp) (Q : Int → Hp → Prop) : Prop := (mX7_host x1 x2 h (fun z3 => (((0 : Int) ≤ 0 ∧ (0 : Int) < 1) ∧ (∀ h4 : Hp, h4 = wr h 197 0 z3 → (Q 0 h4)))) (fun x => (x = 1 ∧ (Q 1 h))))
set_option maxHeartbeats 4000000 in
set_option maxRecDepth 100000 in
theorem sL_host {l0 : Launch} {x1 : Int} {x2 : Int} {h : Hp} {Q : Int → Hp → Prop}  (hM : mL_host x1 x2 h Q) : zSpH l0 yL_host cL_host 5 (some .int) [(0, 10, 13, 18)] 198 10 2 12 [aR 169, aI x1, aI x2, aR 197] h (qI Q) xN := by
  unfold mL_host at hM
  refine zSpH_intro zpn_RL (Nat.le_of_ble_eq_true rfl) (fun a O => ?_)
  show zV a (10, 2, 12, (qI Q), xN) 0 0 0 [some (aR 169), some (aI x1), some (aI x2), some (aR 197), none] [] h
  refine zV_aload_n O dL_host_0 rfl rfl ?_
  refine zV_iconst (z := 0) O ⟨by omega, by omega⟩ dL_host_1 ?_
  refine zV_aload_n O dL_host_2 rfl rfl ?_
  refine zV_iload_n O dL_host_3 rfl rfl ?_
  refine zV_iload_n O dL_host_4 rfl rfl ?_
  refine zV_callV (as := [aI x1, aI x2]) (st := [aI 0, aR 197]) O zc_X7_host (Or.inl zl_RL_20) zi_1003 zi_1004 zt_169 rfl rfl (by decide) (Nat.le_of_ble_eq_true rfl) rfl rfl (Nat.le_of_ble_eq_true rfl) (Nat.le_of_ble_eq_true rfl) (Nat.le_of_ble_eq_true rfl) (Nat.le_of_ble_eq_true rfl) (Nat.le_of_ble_eq_true rfl) (Nat.le_of_ble_eq_true rfl) dL_host_5 (sX7_host hM) (fun r h9 hq => ?_) (fun x h9 hq => ?_)
  · obtain ⟨rfl, z3, rfl, hM⟩ := hq
    refine zV_i2l O dL_host_8 ?_
    obtain ⟨hc, hM⟩ := hM
    refine zV_last O zt_197 (by decide) hc dL_host_9 ?_
    have hM := hM (hu h 197 (Int.toNat 0) z3) rfl
    generalize hu h 197 (Int.toNat 0) z3 = h4 at hM ⊢
    refine zV_goto (tgt := 17) O dL_host_10 (by decide) ?_
    refine zV_iconst (z := 0) O ⟨by omega, by omega⟩ dL_host_17 ?_
    exact zV_iret O rfl ⟨_, rfl, hM⟩ (Nat.le_of_ble_eq_true rfl) (Nat.le_of_ble_eq_true rfl) dL_host_18
  · obtain ⟨rfl, rfl, hM⟩ := hq
    refine zU_catch1 O (by decide) (by decide) zca_RL_18.1 zca_RL_18.2 (fun q9 => ?_)
    refine zV_astoreA O dL_host_13 (Nat.le_of_ble_eq_true rfl) rfl ?_
    refine zV_iconst (z := 1) O ⟨by omega, by omega⟩ dL_host_15 ?_
    exact zV_iret O rfl ⟨_, rfl, hM⟩ (Nat.le_of_ble_eq_true rfl) (Nat.le_of_ble_eq_true rfl) dL_host_16
def mL_name (x1 : Int) (x2 : Int) (h : Hp) (Q : Int → Hp → Prop) : Prop := (mX7_name x1 x2 h (fun z3 => (((0 : Int) ≤ 0 ∧ (0 : Int) < 1) ∧ (∀ h4 : Hp, h4 = wr h 197 0 z3 → (Q 0 h4)))) (fun x => (x = 1 ∧ (Q 1 h))))
set_option maxHeartbeats 4000000 in
set_option maxRecDepth 100000 in
theorem sL_name {l0 : Launch} {x1 : Int} {x2 : Int} {h : Hp} {Q : Int → Hp → Prop}  (hM : mL_name x1 x2 h Q) : zSpH l0 yL_name cL_name 5 (some .int) [(0, 10, 13, 18)] 198 10 1 6 [aR 169, aI x1, aI x2, aR 197] h (qI Q) xN := by
  unfold mL_name at hM
  refine zSpH_intro zpn_RL (Nat.le_of_ble_eq_true rfl) (fun a O => ?_)
  show zV a (10, 1, 6, (qI Q), xN) 0 0 0 [some (aR 169), some (aI x1), some (aI x2), some (aR 197), none] [] h
  refine zV_aload_n O dL_name_0 rfl rfl ?_
  refine zV_iconst (z := 0) O ⟨by omega, by omega⟩ dL_name_1 ?_
  refine zV_aload_n O dL_name_2 rfl rfl ?_
  refine zV_iload_n O dL_name_3 rfl rfl ?_
  refine zV_iload_n O dL_name_4 rfl rfl ?_
  refine zV_callV (as := [aI x1, aI x2]) (st := [aI 0, aR 197]) O zc_X7_name (Or.inl zl_RL_24) zi_1015 zi_1016 zt_169 rfl rfl (by decide) (Nat.le_of_ble_eq_true rfl) rfl rfl (Nat.le_of_ble_eq_true rfl) (Nat.le_of_ble_eq_true rfl) (Nat.le_of_ble_eq_true rfl) (Nat.le_of_ble_eq_true rfl) (Nat.le_of_ble_eq_true rfl) (Nat.le_of_ble_eq_true rfl) dL_name_5 (sX7_name hM) (fun r h9 hq => ?_) (fun x h9 hq => ?_)
  · obtain ⟨rfl, z3, rfl, hM⟩ := hq
    refine zV_i2l O dL_name_8 ?_
    obtain ⟨hc, hM⟩ := hM
    refine zV_last O zt_197 (by decide) hc dL_name_9 ?_
    have hM := hM (hu h 197 (Int.toNat 0) z3) rfl
    generalize hu h 197 (Int.toNat 0) z3 = h4 at hM ⊢
    refine zV_goto (tgt := 17) O dL_name_10 (by decide) ?_
    refine zV_iconst (z := 0) O ⟨by omega, by omega⟩ dL_name_17 ?_
    exact zV_iret O rfl ⟨_, rfl, hM⟩ (Nat.le_of_ble_eq_true rfl) (Nat.le_of_ble_eq_true rfl) dL_name_18
  · obtain ⟨rfl, rfl, hM⟩ := hq
    refine zU_catch1 O (by decide) (by decide) zca_RL_18.1 zca_RL_18.2 (fun q9 => ?_)
    refine zV_astoreA O dL_name_13 (Nat.le_of_ble_eq_true rfl) rfl ?_
    refine zV_iconst (z := 1) O ⟨by omega, by omega⟩ dL_name_15 ?_
    exact zV_iret O rfl ⟨_, rfl, hM⟩ (Nat.le_of_ble_eq_true rfl) (Nat.le_of_ble_eq_true rfl) dL_name_16
def mL_plan (x1 : Int) (x2 : Int) (x3 : Int) (h : Hp) (Q : Int → Hp → Prop) : Prop := (mX7_plan x1 x2 x3 h (fun z4 h5 => (((0 : Int) ≤ 0 ∧ (0 : Int) < 1) ∧ (∀ h6 : Hp, h6 = wr h5 197 0 z4 → (Q 0 h6)))) (fun x h5 => (x = 1 ∧ (Q 1 h5)) ∨ (x = 0 ∧ (Q 2 h5))))
set_option maxHeartbeats 4000000 in
set_option maxRecDepth 100000 in
theorem sL_plan {l0 : Launch} {x1 : Int} {x2 : Int} {x3 : Int} {h : Hp} {Q : Int → Hp → Prop}  (hM : mL_plan x1 x2 x3 h Q) : zSpH l0 yL_plan cL_plan 6 (some .int) [(0, 12, 15, 18), (0, 12, 19, 13)] 198 10 3 18 [aR 169, aI x1, aI x2, aI x3, aR 197] h (qI Q) xN := by
  unfold mL_plan at hM
  refine zSpH_intro zpn_RL (Nat.le_of_ble_eq_true rfl) (fun a O => ?_)
  show zV a (10, 3, 18, (qI Q), xN) 0 0 0 [some (aR 169), some (aI x1), some (aI x2), some (aI x3), some (aR 197), none] [] h
  refine zV_aload O dL_plan_0 rfl ?_
  refine zV_iconst (z := 0) O ⟨by omega, by omega⟩ dL_plan_2 ?_
  refine zV_aload_n O dL_plan_3 rfl rfl ?_
  refine zV_iload_n O dL_plan_4 rfl rfl ?_
  refine zV_iload_n O dL_plan_5 rfl rfl ?_
  refine zV_iload_n O dL_plan_6 rfl rfl ?_
  refine zV_callV (as := [aI x1, aI x2, aI x3]) (st := [aI 0, aR 197]) O zc_X7_plan (Or.inl zl_RL_59) zi_1133 zi_1134 zt_169 rfl rfl (by decide) (Nat.le_of_ble_eq_true rfl) rfl rfl (Nat.le_of_ble_eq_true rfl) (Nat.le_of_ble_eq_true rfl) (Nat.le_of_ble_eq_true rfl) (Nat.le_of_ble_eq_true rfl) (Nat.le_of_ble_eq_true rfl) (Nat.le_of_ble_eq_true rfl) dL_plan_7 (sX7_plan hM) (fun r h5 hq => ?_) (fun x h9 hq => ?_)
  · obtain ⟨z4, rfl, hM⟩ := hq
    refine zV_i2l O dL_plan_10 ?_
    obtain ⟨hc, hM⟩ := hM
    refine zV_last O zt_197 (by decide) hc dL_plan_11 ?_
    have hM := hM (hu h5 197 (Int.toNat 0) z4) rfl
    generalize hu h5 197 (Int.toNat 0) z4 = h6 at hM ⊢
    refine zV_goto (tgt := 23) O dL_plan_12 (by decide) ?_
    refine zV_iconst (z := 0) O ⟨by omega, by omega⟩ dL_plan_23 ?_
    exact zV_iret O rfl ⟨_, rfl, hM⟩ (Nat.le_of_ble_eq_true rfl) (Nat.le_of_ble_eq_true rfl) dL_plan_24
  · obtain (⟨rfl, hM⟩ | ⟨rfl, hM⟩) := hq
    · refine zU_catch1 O (by decide) (by decide) zca_RL_18.1 zca_RL_18.2 (fun q9 => ?_)
      refine zV_astoreA O dL_plan_15 (Nat.le_of_ble_eq_true rfl) rfl ?_
      refine zV_iconst (z := 1) O ⟨by omega, by omega⟩ dL_plan_17 ?_
      exact zV_iret O rfl ⟨_, rfl, hM⟩ (Nat.le_of_ble_eq_true rfl) (Nat.le_of_ble_eq_true rfl) dL_plan_18
    · refine zU_catch2 O (by decide) zca_RL_18.1 (by decide) (by decide) zca_RL_13.1 zca_RL_13.2 (fun q9 => ?_)
      refine zV_astoreA O dL_plan_19 (Nat.le_of_ble_eq_true rfl) rfl ?_
      refine zV_iconst (z := 2) O ⟨by omega, by omega⟩ dL_plan_21 ?_
      exact zV_iret O rfl ⟨_, rfl, hM⟩ (Nat.le_of_ble_eq_true rfl) (Nat.le_of_ble_eq_true rfl) dL_plan_22
def mL_plans (x1 : Int) (h : Hp) (Q : Int → Hp → Prop) : Prop := (mX7_plans x1 h (fun z3 => (((0 : Int) ≤ 0 ∧ (0 : Int) < 1) ∧ (∀ h4 : Hp, h4 = wr h 197 0 z3 → (Q 0 h4)))) (fun x => (x = 0 ∧ (Q 1 h))))
set_option maxHeartbeats 4000000 in
set_option maxRecDepth 100000 in
theorem sL_plans {l0 : Launch} {x1 : Int} {h : Hp} {Q : Int → Hp → Prop}  (hM : mL_plans x1 h Q) : zSpH l0 yL_plans cL_plans 4 (some .int) [(0, 9, 12, 13)] 198 10 1 6 [aR 169, aI x1, aR 197] h (qI Q) xN := by
  unfold mL_plans at hM
  refine zSpH_intro zpn_RL (Nat.le_of_ble_eq_true rfl) (fun a O => ?_)
  show zV a (10, 1, 6, (qI Q), xN) 0 0 0 [some (aR 169), some (aI x1), some (aR 197), none] [] h
  refine zV_aload_n O dL_plans_0 rfl rfl ?_
  refine zV_iconst (z := 0) O ⟨by omega, by omega⟩ dL_plans_1 ?_
  refine zV_aload_n O dL_plans_2 rfl rfl ?_
  refine zV_iload_n O dL_plans_3 rfl rfl ?_
  refine zV_callV (as := [aI x1]) (st := [aI 0, aR 197]) O zc_X7_plans (Or.inl zl_RL_33) zi_1050 zi_1051 zt_169 rfl rfl (by decide) (Nat.le_of_ble_eq_true rfl) rfl rfl (Nat.le_of_ble_eq_true rfl) (Nat.le_of_ble_eq_true rfl) (Nat.le_of_ble_eq_true rfl) (Nat.le_of_ble_eq_true rfl) (Nat.le_of_ble_eq_true rfl) (Nat.le_of_ble_eq_true rfl) dL_plans_4 (sX7_plans hM) (fun r h9 hq => ?_) (fun x h9 hq => ?_)
  · obtain ⟨rfl, z3, rfl, hM⟩ := hq
    refine zV_i2l O dL_plans_7 ?_
    obtain ⟨hc, hM⟩ := hM
    refine zV_last O zt_197 (by decide) hc dL_plans_8 ?_
    have hM := hM (hu h 197 (Int.toNat 0) z3) rfl
    generalize hu h 197 (Int.toNat 0) z3 = h4 at hM ⊢
    refine zV_goto (tgt := 15) O dL_plans_9 (by decide) ?_
    refine zV_iconst (z := 0) O ⟨by omega, by omega⟩ dL_plans_15 ?_
    exact zV_iret O rfl ⟨_, rfl, hM⟩ (Nat.le_of_ble_eq_true rfl) (Nat.le_of_ble_eq_true rfl) dL_plans_16
  · obtain ⟨rfl, rfl, hM⟩ := hq
    refine zU_catch1 O (by decide) (by decide) zca_RL_13.1 zca_RL_13.2 (fun q9 => ?_)
    refine zV_astoreA_n O dL_plans_12 rfl (Nat.le_of_ble_eq_true rfl) rfl ?_
    refine zV_iconst (z := 1) O ⟨by omega, by omega⟩ dL_plans_13 ?_
    exact zV_iret O rfl ⟨_, rfl, hM⟩ (Nat.le_of_ble_eq_true rfl) (Nat.le_of_ble_eq_true rfl) dL_plans_14
def mL_reach (x1 : Int) (h : Hp) (Q : Int → Hp → Prop) : Prop := (mX7_reach x1 h (fun z3 => (((0 : Int) ≤ 0 ∧ (0 : Int) < 1) ∧ (∀ h4 : Hp, h4 = wr h 197 0 z3 → (Q 0 h4)))) (fun x => (x = 1 ∧ (Q 1 h))))
set_option maxHeartbeats 4000000 in
set_option maxRecDepth 100000 in
theorem sL_reach {l0 : Launch} {x1 : Int} {h : Hp} {Q : Int → Hp → Prop}  (hM : mL_reach x1 h Q) : zSpH l0 yL_reach cL_reach 4 (some .int) [(0, 9, 12, 18)] 198 10 1 6 [aR 169, aI x1, aR 197] h (qI Q) xN := by
  unfold mL_reach at hM
  refine zSpH_intro zpn_RL (Nat.le_of_ble_eq_true rfl) (fun a O => ?_)
  show zV a (10, 1, 6, (qI Q), xN) 0 0 0 [some (aR 169), some (aI x1), some (aR 197), none] [] h
  refine zV_aload_n O dL_reach_0 rfl rfl ?_
  refine zV_iconst (z := 0) O ⟨by omega, by omega⟩ dL_reach_1 ?_
  refine zV_aload_n O dL_reach_2 rfl rfl ?_
  refine zV_iload_n O dL_reach_3 rfl rfl ?_
  refine zV_callV (as := [aI x1]) (st := [aI 0, aR 197]) O zc_X7_reach (Or.inl zl_RL_47) zi_1099 zi_1100 zt_169 rfl rfl (by decide) (Nat.le_of_ble_eq_true rfl) rfl rfl (Nat.le_of_ble_eq_true rfl) (Nat.le_of_ble_eq_true rfl) (Nat.le_of_ble_eq_true rfl) (Nat.le_of_ble_eq_true rfl) (Nat.le_of_ble_eq_true rfl) (Nat.le_of_ble_eq_true rfl) dL_reach_4 (sX7_reach hM) (fun r h9 hq => ?_) (fun x h9 hq => ?_)
  · obtain ⟨rfl, z3, rfl, hM⟩ := hq
    refine zV_i2l O dL_reach_7 ?_
    obtain ⟨hc, hM⟩ := hM
    refine zV_last O zt_197 (by decide) hc dL_reach_8 ?_
    have hM := hM (hu h 197 (Int.toNat 0) z3) rfl
    generalize hu h 197 (Int.toNat 0) z3 = h4 at hM ⊢
    refine zV_goto (tgt := 15) O dL_reach_9 (by decide) ?_
    refine zV_iconst (z := 0) O ⟨by omega, by omega⟩ dL_reach_15 ?_
    exact zV_iret O rfl ⟨_, rfl, hM⟩ (Nat.le_of_ble_eq_true rfl) (Nat.le_of_ble_eq_true rfl) dL_reach_16
  · obtain ⟨rfl, rfl, hM⟩ := hq
    refine zU_catch1 O (by decide) (by decide) zca_RL_18.1 zca_RL_18.2 (fun q9 => ?_)
    refine zV_astoreA_n O dL_reach_12 rfl (Nat.le_of_ble_eq_true rfl) rfl ?_
    refine zV_iconst (z := 1) O ⟨by omega, by omega⟩ dL_reach_13 ?_
    exact zV_iret O rfl ⟨_, rfl, hM⟩ (Nat.le_of_ble_eq_true rfl) (Nat.le_of_ble_eq_true rfl) dL_reach_14
def mL_removeHost (x1 : Int) (h : Hp) (Q : Int → Hp → Prop) : Prop := (mX7_removeHost x1 h (fun z4 h5 => (((0 : Int) ≤ 0 ∧ (0 : Int) < 1) ∧ (∀ h6 : Hp, h6 = wr h5 197 0 z4 → (Q 0 h6)))) (fun x h5 => (x = 1 ∧ (Q 1 h5))))
set_option maxHeartbeats 4000000 in
set_option maxRecDepth 100000 in
theorem sL_removeHost {l0 : Launch} {x1 : Int} {h : Hp} {Q : Int → Hp → Prop}  (hM : mL_removeHost x1 h Q) : zSpH l0 yL_removeHost cL_removeHost 4 (some .int) [(0, 9, 12, 18)] 198 10 1 6 [aR 169, aI x1, aR 197] h (qI Q) xN := by
  unfold mL_removeHost at hM
  refine zSpH_intro zpn_RL (Nat.le_of_ble_eq_true rfl) (fun a O => ?_)
  show zV a (10, 1, 6, (qI Q), xN) 0 0 0 [some (aR 169), some (aI x1), some (aR 197), none] [] h
  refine zV_aload_n O dL_removeHost_0 rfl rfl ?_
  refine zV_iconst (z := 0) O ⟨by omega, by omega⟩ dL_removeHost_1 ?_
  refine zV_aload_n O dL_removeHost_2 rfl rfl ?_
  refine zV_iload_n O dL_removeHost_3 rfl rfl ?_
  refine zV_callV (as := [aI x1]) (st := [aI 0, aR 197]) O zc_X7_removeHost (Or.inl zl_RL_56) zi_1122 zi_1123 zt_169 rfl rfl (by decide) (Nat.le_of_ble_eq_true rfl) rfl rfl (Nat.le_of_ble_eq_true rfl) (Nat.le_of_ble_eq_true rfl) (Nat.le_of_ble_eq_true rfl) (Nat.le_of_ble_eq_true rfl) (Nat.le_of_ble_eq_true rfl) (Nat.le_of_ble_eq_true rfl) dL_removeHost_4 (sX7_removeHost hM) (fun r h5 hq => ?_) (fun x h9 hq => ?_)
  · obtain ⟨z4, rfl, hM⟩ := hq
    refine zV_i2l O dL_removeHost_7 ?_
    obtain ⟨hc, hM⟩ := hM
    refine zV_last O zt_197 (by decide) hc dL_removeHost_8 ?_
    have hM := hM (hu h5 197 (Int.toNat 0) z4) rfl
    generalize hu h5 197 (Int.toNat 0) z4 = h6 at hM ⊢
    refine zV_goto (tgt := 15) O dL_removeHost_9 (by decide) ?_
    refine zV_iconst (z := 0) O ⟨by omega, by omega⟩ dL_removeHost_15 ?_
    exact zV_iret O rfl ⟨_, rfl, hM⟩ (Nat.le_of_ble_eq_true rfl) (Nat.le_of_ble_eq_true rfl) dL_removeHost_16
  · obtain ⟨rfl, hM⟩ := hq
    refine zU_catch1 O (by decide) (by decide) zca_RL_18.1 zca_RL_18.2 (fun q9 => ?_)
    refine zV_astoreA_n O dL_removeHost_12 rfl (Nat.le_of_ble_eq_true rfl) rfl ?_
    refine zV_iconst (z := 1) O ⟨by omega, by omega⟩ dL_removeHost_13 ?_
    exact zV_iret O rfl ⟨_, rfl, hM⟩ (Nat.le_of_ble_eq_true rfl) (Nat.le_of_ble_eq_true rfl) dL_removeHost_14
def mL_removeRule (x1 : Int) (h : Hp) (Q : Int → Hp → Prop) : Prop := (mX7_removeRule x1 h (fun z4 h5 => (((0 : Int) ≤ 0 ∧ (0 : Int) < 1) ∧ (∀ h6 : Hp, h6 = wr h5 197 0 z4 → (Q 0 h6)))) (fun x h5 => (x = 1 ∧ (Q 1 h5))))
set_option maxHeartbeats 4000000 in
set_option maxRecDepth 100000 in
theorem sL_removeRule {l0 : Launch} {x1 : Int} {h : Hp} {Q : Int → Hp → Prop}  (hM : mL_removeRule x1 h Q) : zSpH l0 yL_removeRule cL_removeRule 4 (some .int) [(0, 9, 12, 18)] 198 10 1 6 [aR 169, aI x1, aR 197] h (qI Q) xN := by
  unfold mL_removeRule at hM
  refine zSpH_intro zpn_RL (Nat.le_of_ble_eq_true rfl) (fun a O => ?_)
  show zV a (10, 1, 6, (qI Q), xN) 0 0 0 [some (aR 169), some (aI x1), some (aR 197), none] [] h
  refine zV_aload_n O dL_removeRule_0 rfl rfl ?_
  refine zV_iconst (z := 0) O ⟨by omega, by omega⟩ dL_removeRule_1 ?_
  refine zV_aload_n O dL_removeRule_2 rfl rfl ?_
  refine zV_iload_n O dL_removeRule_3 rfl rfl ?_
  refine zV_callV (as := [aI x1]) (st := [aI 0, aR 197]) O zc_X7_removeRule (Or.inl zl_RL_69) zi_1158 zi_1159 zt_169 rfl rfl (by decide) (Nat.le_of_ble_eq_true rfl) rfl rfl (Nat.le_of_ble_eq_true rfl) (Nat.le_of_ble_eq_true rfl) (Nat.le_of_ble_eq_true rfl) (Nat.le_of_ble_eq_true rfl) (Nat.le_of_ble_eq_true rfl) (Nat.le_of_ble_eq_true rfl) dL_removeRule_4 (sX7_removeRule hM) (fun r h5 hq => ?_) (fun x h9 hq => ?_)
  · obtain ⟨z4, rfl, hM⟩ := hq
    refine zV_i2l O dL_removeRule_7 ?_
    obtain ⟨hc, hM⟩ := hM
    refine zV_last O zt_197 (by decide) hc dL_removeRule_8 ?_
    have hM := hM (hu h5 197 (Int.toNat 0) z4) rfl
    generalize hu h5 197 (Int.toNat 0) z4 = h6 at hM ⊢
    refine zV_goto (tgt := 15) O dL_removeRule_9 (by decide) ?_
    refine zV_iconst (z := 0) O ⟨by omega, by omega⟩ dL_removeRule_15 ?_
    exact zV_iret O rfl ⟨_, rfl, hM⟩ (Nat.le_of_ble_eq_true rfl) (Nat.le_of_ble_eq_true rfl) dL_removeRule_16
  · obtain ⟨rfl, hM⟩ := hq
    refine zU_catch1 O (by decide) (by decide) zca_RL_18.1 zca_RL_18.2 (fun q9 => ?_)
    refine zV_astoreA_n O dL_removeRule_12 rfl (Nat.le_of_ble_eq_true rfl) rfl ?_
    refine zV_iconst (z := 1) O ⟨by omega, by omega⟩ dL_removeRule_13 ?_
    exact zV_iret O rfl ⟨_, rfl, hM⟩ (Nat.le_of_ble_eq_true rfl) (Nat.le_of_ble_eq_true rfl) dL_removeRule_14
def mL_rule (x1 : Int) (x2 : Int) (h : Hp) (Q : Int → Hp → Prop) : Prop := (mX7_rule x1 x2 h (fun z3 => (((0 : Int) ≤ 0 ∧ (0 : Int) < 1) ∧ (∀ h4 : Hp, h4 = wr h 197 0 z3 → (Q 0 h4)))) (fun x => (x = 1 ∧ (Q 1 h))))
set_option maxHeartbeats 4000000 in
set_option maxRecDepth 100000 in
theorem sL_rule {l0 : Launch} {x1 : Int} {x2 : Int} {h : Hp} {Q : Int → Hp → Prop}  (hM : mL_rule x1 x2 h Q) : zSpH l0 yL_rule cL_rule 5 (some .int) [(0, 10, 13, 18)] 198 10 2 12 [aR 169, aI x1, aI x2, aR 197] h (qI Q) xN := by
  unfold mL_rule at hM
  refine zSpH_intro zpn_RL (Nat.le_of_ble_eq_true rfl) (fun a O => ?_)
  show zV a (10, 2, 12, (qI Q), xN) 0 0 0 [some (aR 169), some (aI x1), some (aI x2), some (aR 197), none] [] h
  refine zV_aload_n O dL_rule_0 rfl rfl ?_
  refine zV_iconst (z := 0) O ⟨by omega, by omega⟩ dL_rule_1 ?_
  refine zV_aload_n O dL_rule_2 rfl rfl ?_
  refine zV_iload_n O dL_rule_3 rfl rfl ?_
  refine zV_iload_n O dL_rule_4 rfl rfl ?_
  refine zV_callV (as := [aI x1, aI x2]) (st := [aI 0, aR 197]) O zc_X7_rule (Or.inl zl_RL_36) zi_1061 zi_1062 zt_169 rfl rfl (by decide) (Nat.le_of_ble_eq_true rfl) rfl rfl (Nat.le_of_ble_eq_true rfl) (Nat.le_of_ble_eq_true rfl) (Nat.le_of_ble_eq_true rfl) (Nat.le_of_ble_eq_true rfl) (Nat.le_of_ble_eq_true rfl) (Nat.le_of_ble_eq_true rfl) dL_rule_5 (sX7_rule hM) (fun r h9 hq => ?_) (fun x h9 hq => ?_)
  · obtain ⟨rfl, z3, rfl, hM⟩ := hq
    refine zV_i2l O dL_rule_8 ?_
    obtain ⟨hc, hM⟩ := hM
    refine zV_last O zt_197 (by decide) hc dL_rule_9 ?_
    have hM := hM (hu h 197 (Int.toNat 0) z3) rfl
    generalize hu h 197 (Int.toNat 0) z3 = h4 at hM ⊢
    refine zV_goto (tgt := 17) O dL_rule_10 (by decide) ?_
    refine zV_iconst (z := 0) O ⟨by omega, by omega⟩ dL_rule_17 ?_
    exact zV_iret O rfl ⟨_, rfl, hM⟩ (Nat.le_of_ble_eq_true rfl) (Nat.le_of_ble_eq_true rfl) dL_rule_18
  · obtain ⟨rfl, rfl, hM⟩ := hq
    refine zU_catch1 O (by decide) (by decide) zca_RL_18.1 zca_RL_18.2 (fun q9 => ?_)
    refine zV_astoreA O dL_rule_13 (Nat.le_of_ble_eq_true rfl) rfl ?_
    refine zV_iconst (z := 1) O ⟨by omega, by omega⟩ dL_rule_15 ?_
    exact zV_iret O rfl ⟨_, rfl, hM⟩ (Nat.le_of_ble_eq_true rfl) (Nat.le_of_ble_eq_true rfl) dL_rule_16
def mL_setPinned (x1 : Int) (x2 : Int) (h : Hp) (Q : Int → Hp → Prop) : Prop := (mX7_setPinned x1 x2 h (fun z4 h5 => (((0 : Int) ≤ 0 ∧ (0 : Int) < 1) ∧ (∀ h6 : Hp, h6 = wr h5 197 0 z4 → (Q 0 h6)))) (fun x h5 => (x = 1 ∧ (Q 1 h5))))
set_option maxHeartbeats 4000000 in
set_option maxRecDepth 100000 in
theorem sL_setPinned {l0 : Launch} {x1 : Int} {x2 : Int} {h : Hp} {Q : Int → Hp → Prop}  (hM : mL_setPinned x1 x2 h Q) : zSpH l0 yL_setPinned cL_setPinned 5 (some .int) [(0, 10, 13, 18)] 198 10 1 6 [aR 169, aI x1, aI x2, aR 197] h (qI Q) xN := by
  unfold mL_setPinned at hM
  refine zSpH_intro zpn_RL (Nat.le_of_ble_eq_true rfl) (fun a O => ?_)
  show zV a (10, 1, 6, (qI Q), xN) 0 0 0 [some (aR 169), some (aI x1), some (aI x2), some (aR 197), none] [] h
  refine zV_aload_n O dL_setPinned_0 rfl rfl ?_
  refine zV_iconst (z := 0) O ⟨by omega, by omega⟩ dL_setPinned_1 ?_
  refine zV_aload_n O dL_setPinned_2 rfl rfl ?_
  refine zV_iload_n O dL_setPinned_3 rfl rfl ?_
  refine zV_iload_n O dL_setPinned_4 rfl rfl ?_
  refine zV_callV (as := [aI x1, aI x2]) (st := [aI 0, aR 197]) O zc_X7_setPinned (Or.inl zl_RL_75) zi_1176 zi_1177 zt_169 rfl rfl (by decide) (Nat.le_of_ble_eq_true rfl) rfl rfl (Nat.le_of_ble_eq_true rfl) (Nat.le_of_ble_eq_true rfl) (Nat.le_of_ble_eq_true rfl) (Nat.le_of_ble_eq_true rfl) (Nat.le_of_ble_eq_true rfl) (Nat.le_of_ble_eq_true rfl) dL_setPinned_5 (sX7_setPinned hM) (fun r h5 hq => ?_) (fun x h9 hq => ?_)
  · obtain ⟨z4, rfl, hM⟩ := hq
    refine zV_i2l O dL_setPinned_8 ?_
    obtain ⟨hc, hM⟩ := hM
    refine zV_last O zt_197 (by decide) hc dL_setPinned_9 ?_
    have hM := hM (hu h5 197 (Int.toNat 0) z4) rfl
    generalize hu h5 197 (Int.toNat 0) z4 = h6 at hM ⊢
    refine zV_goto (tgt := 17) O dL_setPinned_10 (by decide) ?_
    refine zV_iconst (z := 0) O ⟨by omega, by omega⟩ dL_setPinned_17 ?_
    exact zV_iret O rfl ⟨_, rfl, hM⟩ (Nat.le_of_ble_eq_true rfl) (Nat.le_of_ble_eq_true rfl) dL_setPinned_18
  · obtain ⟨rfl, hM⟩ := hq
    refine zU_catch1 O (by decide) (by decide) zca_RL_18.1 zca_RL_18.2 (fun q9 => ?_)
    refine zV_astoreA O dL_setPinned_13 (Nat.le_of_ble_eq_true rfl) rfl ?_
    refine zV_iconst (z := 1) O ⟨by omega, by omega⟩ dL_setPinned_15 ?_
    exact zV_iret O rfl ⟨_, rfl, hM⟩ (Nat.le_of_ble_eq_true rfl) (Nat.le_of_ble_eq_true rfl) dL_setPinned_16
def mL_unplan (x1 : Int) (h : Hp) (Q : Int → Hp → Prop) : Prop := (mX7_unplan x1 h (fun z4 h5 => (((0 : Int) ≤ 0 ∧ (0 : Int) < 1) ∧ (∀ h6 : Hp, h6 = wr h5 197 0 z4 → (Q 0 h6)))) (fun x h5 => (x = 1 ∧ (Q 1 h5))))
set_option maxHeartbeats 4000000 in
set_option maxRecDepth 100000 in
theorem sL_unplan {l0 : Launch} {x1 : Int} {h : Hp} {Q : Int → Hp → Prop}  (hM : mL_unplan x1 h Q) : zSpH l0 yL_unplan cL_unplan 4 (some .int) [(0, 9, 12, 18)] 198 10 1 6 [aR 169, aI x1, aR 197] h (qI Q) xN := by
  unfold mL_unplan at hM
  refine zSpH_intro zpn_RL (Nat.le_of_ble_eq_true rfl) (fun a O => ?_)
  show zV a (10, 1, 6, (qI Q), xN) 0 0 0 [some (aR 169), some (aI x1), some (aR 197), none] [] h
  refine zV_aload_n O dL_unplan_0 rfl rfl ?_
  refine zV_iconst (z := 0) O ⟨by omega, by omega⟩ dL_unplan_1 ?_
  refine zV_aload_n O dL_unplan_2 rfl rfl ?_
  refine zV_iload_n O dL_unplan_3 rfl rfl ?_
  refine zV_callV (as := [aI x1]) (st := [aI 0, aR 197]) O zc_X7_unplan (Or.inl zl_RL_62) zi_1140 zi_1141 zt_169 rfl rfl (by decide) (Nat.le_of_ble_eq_true rfl) rfl rfl (Nat.le_of_ble_eq_true rfl) (Nat.le_of_ble_eq_true rfl) (Nat.le_of_ble_eq_true rfl) (Nat.le_of_ble_eq_true rfl) (Nat.le_of_ble_eq_true rfl) (Nat.le_of_ble_eq_true rfl) dL_unplan_4 (sX7_unplan hM) (fun r h5 hq => ?_) (fun x h9 hq => ?_)
  · obtain ⟨z4, rfl, hM⟩ := hq
    refine zV_i2l O dL_unplan_7 ?_
    obtain ⟨hc, hM⟩ := hM
    refine zV_last O zt_197 (by decide) hc dL_unplan_8 ?_
    have hM := hM (hu h5 197 (Int.toNat 0) z4) rfl
    generalize hu h5 197 (Int.toNat 0) z4 = h6 at hM ⊢
    refine zV_goto (tgt := 15) O dL_unplan_9 (by decide) ?_
    refine zV_iconst (z := 0) O ⟨by omega, by omega⟩ dL_unplan_15 ?_
    exact zV_iret O rfl ⟨_, rfl, hM⟩ (Nat.le_of_ble_eq_true rfl) (Nat.le_of_ble_eq_true rfl) dL_unplan_16
  · obtain ⟨rfl, hM⟩ := hq
    refine zU_catch1 O (by decide) (by decide) zca_RL_18.1 zca_RL_18.2 (fun q9 => ?_)
    refine zV_astoreA_n O dL_unplan_12 rfl (Nat.le_of_ble_eq_true rfl) rfl ?_
    refine zV_iconst (z := 1) O ⟨by omega, by omega⟩ dL_unplan_13 ?_
    exact zV_iret O rfl ⟨_, rfl, hM⟩ (Nat.le_of_ble_eq_true rfl) (Nat.le_of_ble_eq_true rfl) dL_unplan_14
def mL_load (x1 : Int) (h : Hp) (Q : Int → Hp → Prop) : Prop := (mX7_load x1 h (fun z4 h5 => (((0 : Int) ≤ 0 ∧ (0 : Int) < 1) ∧ (∀ h6 : Hp, h6 = wr h5 197 0 z4 → (Q 0 h6)))) (fun x h5 => (x = 0 ∧ (Q 1 h5))))
set_option maxHeartbeats 4000000 in
set_option maxRecDepth 100000 in
theorem sL_load {l0 : Launch} {x1 : Int} {h : Hp} {Q : Int → Hp → Prop}  (hM : mL_load x1 h Q) : zSpH l0 yL_load cL_load 4 (some .int) [(0, 9, 12, 13)] 198 12 1 6 [aR 169, aI x1, aR 197] h (qI Q) xN := by
  unfold mL_load at hM
  refine zSpH_intro zpn_RL (Nat.le_of_ble_eq_true rfl) (fun a O => ?_)
  show zV a (12, 1, 6, (qI Q), xN) 0 0 0 [some (aR 169), some (aI x1), some (aR 197), none] [] h
  refine zV_aload_n O dL_load_0 rfl rfl ?_
  refine zV_iconst (z := 0) O ⟨by omega, by omega⟩ dL_load_1 ?_
  refine zV_aload_n O dL_load_2 rfl rfl ?_
  refine zV_iload_n O dL_load_3 rfl rfl ?_
  refine zV_callV (as := [aI x1]) (st := [aI 0, aR 197]) O zc_X7_load (Or.inl zl_RL_7) zi_736 zi_737 zt_169 rfl rfl (by decide) (Nat.le_of_ble_eq_true rfl) rfl rfl (Nat.le_of_ble_eq_true rfl) (Nat.le_of_ble_eq_true rfl) (Nat.le_of_ble_eq_true rfl) (Nat.le_of_ble_eq_true rfl) (Nat.le_of_ble_eq_true rfl) (Nat.le_of_ble_eq_true rfl) dL_load_4 (sX7_load hM) (fun r h5 hq => ?_) (fun x h9 hq => ?_)
  · obtain ⟨z4, rfl, hM⟩ := hq
    refine zV_i2l O dL_load_7 ?_
    obtain ⟨hc, hM⟩ := hM
    refine zV_last O zt_197 (by decide) hc dL_load_8 ?_
    have hM := hM (hu h5 197 (Int.toNat 0) z4) rfl
    generalize hu h5 197 (Int.toNat 0) z4 = h6 at hM ⊢
    refine zV_goto (tgt := 15) O dL_load_9 (by decide) ?_
    refine zV_iconst (z := 0) O ⟨by omega, by omega⟩ dL_load_15 ?_
    exact zV_iret O rfl ⟨_, rfl, hM⟩ (Nat.le_of_ble_eq_true rfl) (Nat.le_of_ble_eq_true rfl) dL_load_16
  · obtain ⟨rfl, hM⟩ := hq
    refine zU_catch1 O (by decide) (by decide) zca_RL_13.1 zca_RL_13.2 (fun q9 => ?_)
    refine zV_astoreA_n O dL_load_12 rfl (Nat.le_of_ble_eq_true rfl) rfl ?_
    refine zV_iconst (z := 1) O ⟨by omega, by omega⟩ dL_load_13 ?_
    exact zV_iret O rfl ⟨_, rfl, hM⟩ (Nat.le_of_ble_eq_true rfl) (Nat.le_of_ble_eq_true rfl) dL_load_14
def mL_query (x1 : Int) (h : Hp) (Q : Int → Hp → Prop) : Prop := (mX7_query x1 h (fun z4 h5 => (((0 : Int) ≤ 0 ∧ (0 : Int) < 1) ∧ (∀ h6 : Hp, h6 = wr h5 197 0 z4 → (Q 0 h6)))) (fun x h5 => (x = 0 ∧ (Q 1 h5))))
set_option maxHeartbeats 4000000 in
set_option maxRecDepth 100000 in
theorem sL_query {l0 : Launch} {x1 : Int} {h : Hp} {Q : Int → Hp → Prop}  (hM : mL_query x1 h Q) : zSpH l0 yL_query cL_query 4 (some .int) [(0, 9, 12, 13)] 198 43 1 6 [aR 169, aI x1, aR 197] h (qI Q) xN := by
  unfold mL_query at hM
  refine zSpH_intro zpn_RL (Nat.le_of_ble_eq_true rfl) (fun a O => ?_)
  show zV a (43, 1, 6, (qI Q), xN) 0 0 0 [some (aR 169), some (aI x1), some (aR 197), none] [] h
  refine zV_aload_n O dL_query_0 rfl rfl ?_
  refine zV_iconst (z := 0) O ⟨by omega, by omega⟩ dL_query_1 ?_
  refine zV_aload_n O dL_query_2 rfl rfl ?_
  refine zV_iload_n O dL_query_3 rfl rfl ?_
  refine zV_callV (as := [aI x1]) (st := [aI 0, aR 197]) O zc_X7_query (Or.inl zl_RL_82) zi_1208 zi_1209 zt_169 rfl rfl (by decide) (Nat.le_of_ble_eq_true rfl) rfl rfl (Nat.le_of_ble_eq_true rfl) (Nat.le_of_ble_eq_true rfl) (Nat.le_of_ble_eq_true rfl) (Nat.le_of_ble_eq_true rfl) (Nat.le_of_ble_eq_true rfl) (Nat.le_of_ble_eq_true rfl) dL_query_4 (sX7_query hM) (fun r h5 hq => ?_) (fun x h9 hq => ?_)
  · obtain ⟨z4, rfl, hM⟩ := hq
    refine zV_i2l O dL_query_7 ?_
    obtain ⟨hc, hM⟩ := hM
    refine zV_last O zt_197 (by decide) hc dL_query_8 ?_
    have hM := hM (hu h5 197 (Int.toNat 0) z4) rfl
    generalize hu h5 197 (Int.toNat 0) z4 = h6 at hM ⊢
    refine zV_goto (tgt := 15) O dL_query_9 (by decide) ?_
    refine zV_iconst (z := 0) O ⟨by omega, by omega⟩ dL_query_15 ?_
    exact zV_iret O rfl ⟨_, rfl, hM⟩ (Nat.le_of_ble_eq_true rfl) (Nat.le_of_ble_eq_true rfl) dL_query_16
  · obtain ⟨rfl, hM⟩ := hq
    refine zU_catch1 O (by decide) (by decide) zca_RL_13.1 zca_RL_13.2 (fun q9 => ?_)
    refine zV_astoreA_n O dL_query_12 rfl (Nat.le_of_ble_eq_true rfl) rfl ?_
    refine zV_iconst (z := 1) O ⟨by omega, by omega⟩ dL_query_13 ?_
    exact zV_iret O rfl ⟨_, rfl, hM⟩ (Nat.le_of_ble_eq_true rfl) (Nat.le_of_ble_eq_true rfl) dL_query_14
