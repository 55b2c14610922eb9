def mX7_errorPosition  (h : Hp) (Q : Int → Prop) : Prop := (Q (h 169 10))
set_option maxHeartbeats 4000000 in
set_option maxRecDepth 100000 in
theorem sX7_errorPosition {l0 : Launch}  {h : Hp} {Q : Int → Prop}  (hM : mX7_errorPosition  h Q) : zSp l0 yX7_errorPosition cX7_errorPosition 1 (some .int) 185 (1) 0 0 [aR 169] h (qPI h Q) xN := by
  unfold mX7_errorPosition at hM
  refine zSp_intro zpn_RX7 (Nat.le_of_ble_eq_true rfl) (fun a O => ?_)
  show zV a (1, 0, 0, (qPI h Q), xN) 0 0 0 [some (aR 169)] [] h
  refine zV_aload_n O dX7_errorPosition_0 rfl rfl ?_
  refine zV_getI O zf_RX7_68 zt_169 rfl (by decide) dX7_errorPosition_1 ?_
  exact zV_iret O rfl ⟨rfl, _, rfl, hM⟩ (Nat.le_of_ble_eq_true rfl) (Nat.le_of_ble_eq_true rfl) dX7_errorPosition_4
def mX7_needHost (x1 : Int) (h : Hp) (Q : Prop) : Prop := ((x1 < 0 → False) ∧ (¬ x1 < 0 → ((x1 < (h 0 0) → Q) ∧ (¬ x1 < (h 0 0) → False))))
set_option maxHeartbeats 4000000 in
set_option maxRecDepth 100000 in
theorem sX7_needHost {l0 : Launch} {x1 : Int} {h : Hp} {Q : Prop}  (hM : mX7_needHost x1 h Q) : zSp l0 yX7_needHost cX7_needHost 2 none 185 (1) 0 0 [aR 169, aI x1] h (qPV h Q) xN := by
  unfold mX7_needHost at hM
  refine zSp_intro zpn_RX7 (Nat.le_of_ble_eq_true rfl) (fun a O => ?_)
  show zV a (1, 0, 0, (qPV h Q), xN) 0 0 0 [some (aR 169), some (aI x1)] [] h
  refine zV_iload_n O dX7_needHost_0 rfl rfl ?_
  refine zV_if_lt (tgt := 15) O dX7_needHost_1 (by decide) (fun hc => ?_) (fun hc => ?_)
  · replace hM := hM.1 hc
    exact hM.elim
  · replace hM := hM.2 hc
    refine zV_iload_n O dX7_needHost_4 rfl rfl ?_
    refine zV_aload_n O dX7_needHost_5 rfl rfl ?_
    refine zV_getR O zf_RX7_10 zt_169 rfl (by decide) dX7_needHost_6 ?_
    refine zV_getI O zf_RX7_104 (zN_o zisN_0) rfl (zN_lt0 zisN_0) dX7_needHost_9 ?_
    refine zV_icmp_lt (tgt := 23) O dX7_needHost_12 (by decide) (fun hc => ?_) (fun hc => ?_)
    · replace hM := hM.1 hc
      exact zV_vret O rfl ⟨rfl, rfl, hM⟩ (Nat.le_of_ble_eq_true rfl) (Nat.le_of_ble_eq_true rfl) dX7_needHost_23
    · replace hM := hM.2 hc
      exact hM.elim
def mX7_needNumber (x0 : Int) (h : Hp) (Q : Prop) : Prop := ((x0 < (1 : Int) → False) ∧ (¬ x0 < (1 : Int) → ((x0 ≤ (250 : Int) → Q) ∧ (¬ x0 ≤ (250 : Int) → False))))
set_option maxHeartbeats 4000000 in
set_option maxRecDepth 100000 in
theorem sX7_needNumber {l0 : Launch} {x0 : Int} {h : Hp} {Q : Prop}  (hM : mX7_needNumber x0 h Q) : zSp l0 yX7_needNumber cX7_needNumber 1 none 185 (1) 0 0 [aI x0] h (qPV h Q) xN := by
  unfold mX7_needNumber at hM
  refine zSp_intro zpn_RX7 (Nat.le_of_ble_eq_true rfl) (fun a O => ?_)
  show zV a (1, 0, 0, (qPV h Q), xN) 0 0 0 [some (aI x0)] [] h
  refine zV_iload_n O dX7_needNumber_0 rfl rfl ?_
  refine zV_iconst (z := 1) O ⟨by omega, by omega⟩ dX7_needNumber_1 ?_
  refine zV_icmp_lt (tgt := 12) O dX7_needNumber_2 (by decide) (fun hc => ?_) (fun hc => ?_)
  · replace hM := hM.1 hc
    exact hM.elim
  · replace hM := hM.2 hc
    refine zV_iload_n O dX7_needNumber_5 rfl rfl ?_
    refine zV_sipush (z := 250) O ⟨by omega, by omega⟩ rfl dX7_needNumber_6 ?_
    refine zV_icmp_le (tgt := 20) O dX7_needNumber_9 (by decide) (fun hc => ?_) (fun hc => ?_)
    · replace hM := hM.1 hc
      exact zV_vret O rfl ⟨rfl, rfl, hM⟩ (Nat.le_of_ble_eq_true rfl) (Nat.le_of_ble_eq_true rfl) dX7_needNumber_20
    · replace hM := hM.2 hc
      exact hM.elim
def mX7_needOffice (x0 : Int) (h : Hp) (Q : Prop) : Prop := ((x0 < 0 → False) ∧ (¬ x0 < 0 → ((x0 < (2 : Int) → Q) ∧ (¬ x0 < (2 : Int) → False))))
set_option maxHeartbeats 4000000 in
set_option maxRecDepth 100000 in
theorem sX7_needOffice {l0 : Launch} {x0 : Int} {h : Hp} {Q : Prop}  (hM : mX7_needOffice x0 h Q) : zSp l0 yX7_needOffice cX7_needOffice 1 none 185 (1) 0 0 [aI x0] h (qPV h Q) xN := by
  unfold mX7_needOffice at hM
  refine zSp_intro zpn_RX7 (Nat.le_of_ble_eq_true rfl) (fun a O => ?_)
  show zV a (1, 0, 0, (qPV h Q), xN) 0 0 0 [some (aI x0)] [] h
  refine zV_iload_n O dX7_needOffice_0 rfl rfl ?_
  refine zV_if_lt (tgt := 9) O dX7_needOffice_1 (by decide) (fun hc => ?_) (fun hc => ?_)
  · replace hM := hM.1 hc
    exact hM.elim
  · replace hM := hM.2 hc
    refine zV_iload_n O dX7_needOffice_4 rfl rfl ?_
    refine zV_iconst (z := 2) O ⟨by omega, by omega⟩ dX7_needOffice_5 ?_
    refine zV_icmp_lt (tgt := 17) O dX7_needOffice_6 (by decide) (fun hc => ?_) (fun hc => ?_)
    · replace hM := hM.1 hc
      exact zV_vret O rfl ⟨rfl, rfl, hM⟩ (Nat.le_of_ble_eq_true rfl) (Nat.le_of_ble_eq_true rfl) dX7_needOffice_17
    · replace hM := hM.2 hc
      exact hM.elim
def mX7_needRule (x1 : Int) (h : Hp) (Q : Prop) : Prop := ((x1 < 0 → False) ∧ (¬ x1 < 0 → ((x1 < (h 0 1) → Q) ∧ (¬ x1 < (h 0 1) → False))))
set_option maxHeartbeats 4000000 in
set_option maxRecDepth 100000 in
theorem sX7_needRule {l0 : Launch} {x1 : Int} {h : Hp} {Q : Prop}  (hM : mX7_needRule x1 h Q) : zSp l0 yX7_needRule cX7_needRule 2 none 185 (1) 0 0 [aR 169, aI x1] h (qPV h Q) xN := by
  unfold mX7_needRule at hM
  refine zSp_intro zpn_RX7 (Nat.le_of_ble_eq_true rfl) (fun a O => ?_)
  show zV a (1, 0, 0, (qPV h Q), xN) 0 0 0 [some (aR 169), some (aI x1)] [] h
  refine zV_iload_n O dX7_needRule_0 rfl rfl ?_
  refine zV_if_lt (tgt := 15) O dX7_needRule_1 (by decide) (fun hc => ?_) (fun hc => ?_)
  · replace hM := hM.1 hc
    exact hM.elim
  · replace hM := hM.2 hc
    refine zV_iload_n O dX7_needRule_4 rfl rfl ?_
    refine zV_aload_n O dX7_needRule_5 rfl rfl ?_
    refine zV_getR O zf_RX7_10 zt_169 rfl (by decide) dX7_needRule_6 ?_
    refine zV_getI O zf_RX7_107 (zN_o zisN_0) rfl (zN_lt0 zisN_0) dX7_needRule_9 ?_
    refine zV_icmp_lt (tgt := 23) O dX7_needRule_12 (by decide) (fun hc => ?_) (fun hc => ?_)
    · replace hM := hM.1 hc
      exact zV_vret O rfl ⟨rfl, rfl, hM⟩ (Nat.le_of_ble_eq_true rfl) (Nat.le_of_ble_eq_true rfl) dX7_needRule_23
    · replace hM := hM.2 hc
      exact hM.elim
def mX7_needSide (x0 : Int) (h : Hp) (Q : Prop) : Prop := ((x0 < 0 → False) ∧ (¬ x0 < 0 → ((x0 ≤ (250 : Int) → Q) ∧ (¬ x0 ≤ (250 : Int) → False))))
set_option maxHeartbeats 4000000 in
set_option maxRecDepth 100000 in
theorem sX7_needSide {l0 : Launch} {x0 : Int} {h : Hp} {Q : Prop}  (hM : mX7_needSide x0 h Q) : zSp l0 yX7_needSide cX7_needSide 1 none 185 (1) 0 0 [aI x0] h (qPV h Q) xN := by
  unfold mX7_needSide at hM
  refine zSp_intro zpn_RX7 (Nat.le_of_ble_eq_true rfl) (fun a O => ?_)
  show zV a (1, 0, 0, (qPV h Q), xN) 0 0 0 [some (aI x0)] [] h
  refine zV_iload_n O dX7_needSide_0 rfl rfl ?_
  refine zV_if_lt (tgt := 11) O dX7_needSide_1 (by decide) (fun hc => ?_) (fun hc => ?_)
  · replace hM := hM.1 hc
    exact hM.elim
  · replace hM := hM.2 hc
    refine zV_iload_n O dX7_needSide_4 rfl rfl ?_
    refine zV_sipush (z := 250) O ⟨by omega, by omega⟩ rfl dX7_needSide_5 ?_
    refine zV_icmp_le (tgt := 19) O dX7_needSide_8 (by decide) (fun hc => ?_) (fun hc => ?_)
    · replace hM := hM.1 hc
      exact zV_vret O rfl ⟨rfl, rfl, hM⟩ (Nat.le_of_ble_eq_true rfl) (Nat.le_of_ble_eq_true rfl) dX7_needSide_19
    · replace hM := hM.2 hc
      exact hM.elim
def mX7_needWave (x0 : Int) (h : Hp) (Q : Prop) : Prop := ((x0 < (1 : Int) → False) ∧ (¬ x0 < (1 : Int) → ((x0 ≤ (9 : Int) → Q) ∧ (¬ x0 ≤ (9 : Int) → False))))
set_option maxHeartbeats 4000000 in
set_option maxRecDepth 100000 in
theorem sX7_needWave {l0 : Launch} {x0 : Int} {h : Hp} {Q : Prop}  (hM : mX7_needWave x0 h Q) : zSp l0 yX7_needWave cX7_needWave 1 none 185 (1) 0 0 [aI x0] h (qPV h Q) xN := by
  unfold mX7_needWave at hM
  refine zSp_intro zpn_RX7 (Nat.le_of_ble_eq_true rfl) (fun a O => ?_)
  show zV a (1, 0, 0, (qPV h Q), xN) 0 0 0 [some (aI x0)] [] h
  refine zV_iload_n O dX7_needWave_0 rfl rfl ?_
  refine zV_iconst (z := 1) O ⟨by omega, by omega⟩ dX7_needWave_1 ?_
  refine zV_icmp_lt (tgt := 11) O dX7_needWave_2 (by decide) (fun hc => ?_) (fun hc => ?_)
  · replace hM := hM.1 hc
    exact hM.elim
  · replace hM := hM.2 hc
    refine zV_iload_n O dX7_needWave_5 rfl rfl ?_
    refine zV_bipush (z := 9) O ⟨by omega, by omega⟩ rfl dX7_needWave_6 ?_
    refine zV_icmp_le (tgt := 19) O dX7_needWave_8 (by decide) (fun hc => ?_) (fun hc => ?_)
    · replace hM := hM.1 hc
      exact zV_vret O rfl ⟨rfl, rfl, hM⟩ (Nat.le_of_ble_eq_true rfl) (Nat.le_of_ble_eq_true rfl) dX7_needWave_19
    · replace hM := hM.2 hc
      exact hM.elim
def mX7_feed (x1 : Int) (x2 : Int) (x3 : Int) (x4 : Int) (x5 : Int) (h : Hp) (Q : Int → Hp → Prop) : Prop := (zr ((h 176 1) + 20) ∧ ((((h 176 1) + 20) ≤ (900 : Int) → (mX6_append x1 h (fun h6 => (mX6_append x2 h6 (fun h7 => (mX6_append x3 h7 (fun h8 => (mX6_append x4 h8 (fun h9 => (mX6_append x5 h9 (fun h10 => (Q (h10 176 1) h10)))))))))))) ∧ (¬ ((h 176 1) + 20) ≤ (900 : Int) → (Q (-1) h))))
set_option maxHeartbeats 4000000 in
set_option maxRecDepth 100000 in
theorem sX7_feed {l0 : Launch} {x1 : Int} {x2 : Int} {x3 : Int} {x4 : Int} {x5 : Int} {h : Hp} {Q : Int → Hp → Prop}  (hM : mX7_feed x1 x2 x3 x4 x5 h Q) : zSp l0 yX7_feed cX7_feed 6 (some .int) 185 (2) 0 0 [aR 169, aI x1, aI x2, aI x3, aI x4, aI x5] h (qI Q) xN := by
  unfold mX7_feed at hM
  refine zSp_intro zpn_RX7 (Nat.le_of_ble_eq_true rfl) (fun a O => ?_)
  show zV a (2, 0, 0, (qI Q), xN) 0 0 0 [some (aR 169), some (aI x1), some (aI x2), some (aI x3), some (aI x4), some (aI x5)] [] h
  refine zV_aload_n O dX7_feed_0 rfl rfl ?_
  refine zV_getR O zf_RX7_39 zt_169 rfl (by decide) dX7_feed_1 ?_
  refine zV_getI O zf_RX7_75 zt_176 rfl (by decide) dX7_feed_4 ?_
  refine zV_bipush (z := 20) O ⟨by omega, by omega⟩ rfl dX7_feed_7 ?_
  obtain ⟨hc, hM⟩ := hM
  refine zV_iadd O dX7_feed_9 hc ?_
  refine zV_sipush (z := 900) O ⟨by omega, by omega⟩ rfl dX7_feed_10 ?_
  refine zV_icmp_le (tgt := 18) O dX7_feed_13 (by decide) (fun hc => ?_) (fun hc => ?_)
  · replace hM := hM.1 hc
    refine zV_aload_n O dX7_feed_18 rfl rfl ?_
    refine zV_getR O zf_RX7_39 zt_169 rfl (by decide) dX7_feed_19 ?_
    refine zV_iload_n O dX7_feed_22 rfl rfl ?_
    refine zV_callV (as := [aI x1]) (st := []) O zc_X6_append (Or.inr ⟨_, zl_RX7_78⟩) zi_464 zi_6 zt_176 rfl rfl (by decide) (Nat.le_of_ble_eq_true rfl) rfl rfl (Nat.le_of_ble_eq_true rfl) (Nat.le_of_ble_eq_true rfl) (Nat.le_of_ble_eq_true rfl) (Nat.le_of_ble_eq_true rfl) (Nat.le_of_ble_eq_true rfl) (Nat.le_of_ble_eq_true rfl) dX7_feed_23 (sX6_append hM) (fun r h6 hq => ?_) (fun x h9 hq => hq.elim)
    obtain ⟨rfl, hM⟩ := hq
    refine zV_aload_n O dX7_feed_26 rfl rfl ?_
    refine zV_getR O zf_RX7_39 zt_169 rfl (by decide) dX7_feed_27 ?_
    refine zV_iload_n O dX7_feed_30 rfl rfl ?_
    refine zV_callV (as := [aI x2]) (st := []) O zc_X6_append (Or.inr ⟨_, zl_RX7_78⟩) zi_464 zi_6 zt_176 rfl rfl (by decide) (Nat.le_of_ble_eq_true rfl) rfl rfl (Nat.le_of_ble_eq_true rfl) (Nat.le_of_ble_eq_true rfl) (Nat.le_of_ble_eq_true rfl) (Nat.le_of_ble_eq_true rfl) (Nat.le_of_ble_eq_true rfl) (Nat.le_of_ble_eq_true rfl) dX7_feed_31 (sX6_append hM) (fun r h7 hq => ?_) (fun x h9 hq => hq.elim)
    obtain ⟨rfl, hM⟩ := hq
    refine zV_aload_n O dX7_feed_34 rfl rfl ?_
    refine zV_getR O zf_RX7_39 zt_169 rfl (by decide) dX7_feed_35 ?_
    refine zV_iload_n O dX7_feed_38 rfl rfl ?_
    refine zV_callV (as := [aI x3]) (st := []) O zc_X6_append (Or.inr ⟨_, zl_RX7_78⟩) zi_464 zi_6 zt_176 rfl rfl (by decide) (Nat.le_of_ble_eq_true rfl) rfl rfl (Nat.le_of_ble_eq_true rfl) (Nat.le_of_ble_eq_true rfl) (Nat.le_of_ble_eq_true rfl) (Nat.le_of_ble_eq_true rfl) (Nat.le_of_ble_eq_true rfl) (Nat.le_of_ble_eq_true rfl) dX7_feed_39 (sX6_append hM) (fun r h8 hq => ?_) (fun x h9 hq => hq.elim)
    obtain ⟨rfl, hM⟩ := hq
    refine zV_aload_n O dX7_feed_42 rfl rfl ?_
    refine zV_getR O zf_RX7_39 zt_169 rfl (by decide) dX7_feed_43 ?_
    refine zV_iload O dX7_feed_46 rfl ?_
    refine zV_callV (as := [aI x4]) (st := []) O zc_X6_append (Or.inr ⟨_, zl_RX7_78⟩) zi_464 zi_6 zt_176 rfl rfl (by decide) (Nat.le_of_ble_eq_true rfl) rfl rfl (Nat.le_of_ble_eq_true rfl) (Nat.le_of_ble_eq_true rfl) (Nat.le_of_ble_eq_true rfl) (Nat.le_of_ble_eq_true rfl) (Nat.le_of_ble_eq_true rfl) (Nat.le_of_ble_eq_true rfl) dX7_feed_48 (sX6_append hM) (fun r h9 hq => ?_) (fun x h9 hq => hq.elim)
    obtain ⟨rfl, hM⟩ := hq
    refine zV_aload_n O dX7_feed_51 rfl rfl ?_
    refine zV_getR O zf_RX7_39 zt_169 rfl (by decide) dX7_feed_52 ?_
    refine zV_iload O dX7_feed_55 rfl ?_
    refine zV_callV (as := [aI x5]) (st := []) O zc_X6_append (Or.inr ⟨_, zl_RX7_78⟩) zi_464 zi_6 zt_176 rfl rfl (by decide) (Nat.le_of_ble_eq_true rfl) rfl rfl (Nat.le_of_ble_eq_true rfl) (Nat.le_of_ble_eq_true rfl) (Nat.le_of_ble_eq_true rfl) (Nat.le_of_ble_eq_true rfl) (Nat.le_of_ble_eq_true rfl) (Nat.le_of_ble_eq_true rfl) dX7_feed_57 (sX6_append hM) (fun r h10 hq => ?_) (fun x h9 hq => hq.elim)
    obtain ⟨rfl, hM⟩ := hq
    refine zV_aload_n O dX7_feed_60 rfl rfl ?_
    refine zV_getR O zf_RX7_39 zt_169 rfl (by decide) dX7_feed_61 ?_
    refine zV_getI O zf_RX7_75 zt_176 rfl (by decide) dX7_feed_64 ?_
    exact zV_iret O rfl ⟨_, rfl, hM⟩ (Nat.le_of_ble_eq_true rfl) (Nat.le_of_ble_eq_true rfl) dX7_feed_67
  · replace hM := hM.2 hc
    refine zV_iconst (z := -1) O ⟨by omega, by omega⟩ dX7_feed_16 ?_
    exact zV_iret O rfl ⟨_, rfl, hM⟩ (Nat.le_of_ble_eq_true rfl) (Nat.le_of_ble_eq_true rfl) dX7_feed_17
def mX7_plans (x1 : Int) (h : Hp) (Q : Int → Prop) : Prop := (mX7_needWave x1 h ((mX3_plansIn 0 x1 h (fun z2 => (Q z2)))))
set_option maxHeartbeats 4000000 in
set_option maxRecDepth 100000 in
theorem sX7_plans {l0 : Launch} {x1 : Int} {h : Hp} {Q : Int → Prop}  (hM : mX7_plans x1 h Q) : zSp l0 yX7_plans cX7_plans 2 (some .int) 185 (2) 0 0 [aR 169, aI x1] h (qPI h Q) xN := by
  unfold mX7_plans at hM
  refine zSp_intro zpn_RX7 (Nat.le_of_ble_eq_true rfl) (fun a O => ?_)
  show zV a (2, 0, 0, (qPI h Q), xN) 0 0 0 [some (aR 169), some (aI x1)] [] h
  refine zV_iload_n O dX7_plans_0 rfl rfl ?_
  refine zV_callS (as := [aI x1]) (st := []) O zc_X7_needWave (Or.inl zl_RX7_191) zi_790 (Nat.le_of_ble_eq_true rfl) rfl rfl (Nat.le_of_ble_eq_true rfl) (Nat.le_of_ble_eq_true rfl) (Nat.le_of_ble_eq_true rfl) (Nat.le_of_ble_eq_true rfl) (Nat.le_of_ble_eq_true rfl) (Nat.le_of_ble_eq_true rfl) dX7_plans_1 (sX7_needWave hM) (fun r h9 hq => ?_) (fun x h9 hq => hq.elim)
  obtain ⟨rfl, rfl, hM⟩ := hq
  refine zV_aload_n O dX7_plans_4 rfl rfl ?_
  refine zV_getR O zf_RX7_10 zt_169 rfl (by decide) dX7_plans_5 ?_
  refine zV_iload_n O dX7_plans_8 rfl rfl ?_
  refine zV_callV (as := [aI x1]) (st := []) O zc_X3_plansIn (Or.inr ⟨_, zl_RX7_194⟩) zi_668 zi_35 (zN_o zisN_0) rfl rfl (zN_lt0 zisN_0) (Nat.le_of_ble_eq_true rfl) rfl rfl (Nat.le_of_ble_eq_true rfl) (Nat.le_of_ble_eq_true rfl) (Nat.le_of_ble_eq_true rfl) (Nat.le_of_ble_eq_true rfl) (Nat.le_of_ble_eq_true rfl) (Nat.le_of_ble_eq_true rfl) dX7_plans_9 (sX3_plansIn zisN_0 hM) (fun r h9 hq => ?_) (fun x h9 hq => hq.elim)
  obtain ⟨rfl, z2, rfl, hM⟩ := hq
  exact zV_iret O rfl ⟨rfl, _, rfl, hM⟩ (Nat.le_of_ble_eq_true rfl) (Nat.le_of_ble_eq_true rfl) dX7_plans_12
def mX7_host (x1 : Int) (x2 : Int) (h : Hp) (Q : Int → Prop) : Prop := (mX7_needHost x1 h (((x2 = 0 → (((0 : Int) ≤ x1 ∧ x1 < 40) ∧ (Q (rd h 2 x1)))) ∧ (x2 = 1 → (((0 : Int) ≤ x1 ∧ x1 < 40) ∧ (Q (rd h 3 x1)))) ∧ (x2 = 2 → (mX3_keptBy 0 x1 h (fun z2 => (Q z2)))) ∧ (x2 = 3 → (((0 : Int) ≤ x1 ∧ x1 < 40) ∧ (Q (rd h 4 x1)))) ∧ (x2 = 4 → (((0 : Int) ≤ x1 ∧ x1 < 40) ∧ (Q (rd h 5 x1)))) ∧ (x2 = 5 → (((0 : Int) ≤ x1 ∧ x1 < 40) ∧ (Q (rd h 6 x1)))) ∧ (x2 = 6 → (((0 : Int) ≤ x1 ∧ x1 < 40) ∧ (Q (rd h 7 x1)))) ∧ ((x2 < 0 ∨ 6 < x2) → False))))
set_option maxHeartbeats 4000000 in
set_option maxRecDepth 100000 in
theorem sX7_host {l0 : Launch} {x1 : Int} {x2 : Int} {h : Hp} {Q : Int → Prop}  (hM : mX7_host x1 x2 h Q) : zSp l0 yX7_host cX7_host 3 (some .int) 185 (3) 0 0 [aR 169, aI x1, aI x2] h (qPI h Q) xN := by
  unfold mX7_host at hM
  refine zSp_intro zpn_RX7 (Nat.le_of_ble_eq_true rfl) (fun a O => ?_)
  show zV a (3, 0, 0, (qPI h Q), xN) 0 0 0 [some (aR 169), some (aI x1), some (aI x2)] [] h
  refine zV_aload_n O dX7_host_0 rfl rfl ?_
  refine zV_iload_n O dX7_host_1 rfl rfl ?_
  refine zV_callV (as := [aI x1]) (st := []) O zc_X7_needHost (Or.inl zl_RX7_141) zi_751 zi_45 zt_169 rfl rfl (by decide) (Nat.le_of_ble_eq_true rfl) rfl rfl (Nat.le_of_ble_eq_true rfl) (Nat.le_of_ble_eq_true rfl) (Nat.le_of_ble_eq_true rfl) (Nat.le_of_ble_eq_true rfl) (Nat.le_of_ble_eq_true rfl) (Nat.le_of_ble_eq_true rfl) dX7_host_2 (sX7_needHost hM) (fun r h9 hq => ?_) (fun x h9 hq => hq.elim)
  obtain ⟨rfl, rfl, hM⟩ := hq
  refine zV_iload_n O dX7_host_5 rfl rfl ?_
  by_cases hc0 : x2 = 0
  · replace hM := hM.1 hc0
    refine zV_tableIn (tgt := 48) O dX7_host_6 (by omega) (by omega) (by rw [hc0]; rfl) (by decide) ?_
    refine zV_aload_n O dX7_host_48 rfl rfl ?_
    refine zV_getR O zf_RX7_10 zt_169 rfl (by decide) dX7_host_49 ?_
    refine zV_getR O zf_RX7_144 (zN_o zisN_0) rfl (zN_lt0 zisN_0) dX7_host_52 ?_
    refine zV_iload_n O dX7_host_55 rfl rfl ?_
    obtain ⟨hc, hM⟩ := hM
    refine zV_iald O zt_2 (by decide) hc dX7_host_56 ?_
    exact zV_iret O rfl ⟨rfl, _, rfl, hM⟩ (Nat.le_of_ble_eq_true rfl) (Nat.le_of_ble_eq_true rfl) dX7_host_57
  by_cases hc1 : x2 = 1
  · replace hM := hM.2.1 hc1
    refine zV_tableIn (tgt := 58) O dX7_host_6 (by omega) (by omega) (by rw [hc1]; rfl) (by decide) ?_
    refine zV_aload_n O dX7_host_58 rfl rfl ?_
    refine zV_getR O zf_RX7_10 zt_169 rfl (by decide) dX7_host_59 ?_
    refine zV_getR O zf_RX7_148 (zN_o zisN_0) rfl (zN_lt0 zisN_0) dX7_host_62 ?_
    refine zV_iload_n O dX7_host_65 rfl rfl ?_
    obtain ⟨hc, hM⟩ := hM
    refine zV_iald O zt_3 (by decide) hc dX7_host_66 ?_
    exact zV_iret O rfl ⟨rfl, _, rfl, hM⟩ (Nat.le_of_ble_eq_true rfl) (Nat.le_of_ble_eq_true rfl) dX7_host_67
  by_cases hc2 : x2 = 2
  · replace hM := hM.2.2.1 hc2
    refine zV_tableIn (tgt := 68) O dX7_host_6 (by omega) (by omega) (by rw [hc2]; rfl) (by decide) ?_
    refine zV_aload_n O dX7_host_68 rfl rfl ?_
    refine zV_getR O zf_RX7_10 zt_169 rfl (by decide) dX7_host_69 ?_
    refine zV_iload_n O dX7_host_72 rfl rfl ?_
    refine zV_callV (as := [aI x1]) (st := []) O zc_X3_keptBy (Or.inr ⟨_, zl_RX7_151⟩) zi_630 zi_27 (zN_o zisN_0) rfl rfl (zN_lt0 zisN_0) (Nat.le_of_ble_eq_true rfl) rfl rfl (Nat.le_of_ble_eq_true rfl) (Nat.le_of_ble_eq_true rfl) (Nat.le_of_ble_eq_true rfl) (Nat.le_of_ble_eq_true rfl) (Nat.le_of_ble_eq_true rfl) (Nat.le_of_ble_eq_true rfl) dX7_host_73 (sX3_keptBy zisN_0 hM) (fun r h9 hq => ?_) (fun x h9 hq => hq.elim)
    obtain ⟨rfl, z2, rfl, hM⟩ := hq
    exact zV_iret O rfl ⟨rfl, _, rfl, hM⟩ (Nat.le_of_ble_eq_true rfl) (Nat.le_of_ble_eq_true rfl) dX7_host_76
  by_cases hc3 : x2 = 3
  · replace hM := hM.2.2.2.1 hc3
    refine zV_tableIn (tgt := 77) O dX7_host_6 (by omega) (by omega) (by rw [hc3]; rfl) (by decide) ?_
    refine zV_aload_n O dX7_host_77 rfl rfl ?_
    refine zV_getR O zf_RX7_10 zt_169 rfl (by decide) dX7_host_78 ?_
    refine zV_getR O zf_RX7_155 (zN_o zisN_0) rfl (zN_lt0 zisN_0) dX7_host_81 ?_
    refine zV_iload_n O dX7_host_84 rfl rfl ?_
    obtain ⟨hc, hM⟩ := hM
    refine zV_iald O zt_4 (by decide) hc dX7_host_85 ?_
    exact zV_iret O rfl ⟨rfl, _, rfl, hM⟩ (Nat.le_of_ble_eq_true rfl) (Nat.le_of_ble_eq_true rfl) dX7_host_86
  by_cases hc4 : x2 = 4
  · replace hM := hM.2.2.2.2.1 hc4
    refine zV_tableIn (tgt := 87) O dX7_host_6 (by omega) (by omega) (by rw [hc4]; rfl) (by decide) ?_
    refine zV_aload_n O dX7_host_87 rfl rfl ?_
    refine zV_getR O zf_RX7_10 zt_169 rfl (by decide) dX7_host_88 ?_
    refine zV_getR O zf_RX7_158 (zN_o zisN_0) rfl (zN_lt0 zisN_0) dX7_host_91 ?_
    refine zV_iload_n O dX7_host_94 rfl rfl ?_
    obtain ⟨hc, hM⟩ := hM
    refine zV_iald O zt_5 (by decide) hc dX7_host_95 ?_
    exact zV_iret O rfl ⟨rfl, _, rfl, hM⟩ (Nat.le_of_ble_eq_true rfl) (Nat.le_of_ble_eq_true rfl) dX7_host_96
  by_cases hc5 : x2 = 5
  · replace hM := hM.2.2.2.2.2.1 hc5
    refine zV_tableIn (tgt := 97) O dX7_host_6 (by omega) (by omega) (by rw [hc5]; rfl) (by decide) ?_
    refine zV_aload_n O dX7_host_97 rfl rfl ?_
    refine zV_getR O zf_RX7_10 zt_169 rfl (by decide) dX7_host_98 ?_
    refine zV_getR O zf_RX7_161 (zN_o zisN_0) rfl (zN_lt0 zisN_0) dX7_host_101 ?_
    refine zV_iload_n O dX7_host_104 rfl rfl ?_
    obtain ⟨hc, hM⟩ := hM
    refine zV_iald O zt_6 (by decide) hc dX7_host_105 ?_
    exact zV_iret O rfl ⟨rfl, _, rfl, hM⟩ (Nat.le_of_ble_eq_true rfl) (Nat.le_of_ble_eq_true rfl) dX7_host_106
  by_cases hc6 : x2 = 6
  · replace hM := hM.2.2.2.2.2.2.1 hc6
    refine zV_tableIn (tgt := 107) O dX7_host_6 (by omega) (by omega) (by rw [hc6]; rfl) (by decide) ?_
    refine zV_aload_n O dX7_host_107 rfl rfl ?_
    refine zV_getR O zf_RX7_10 zt_169 rfl (by decide) dX7_host_108 ?_
    refine zV_getR O zf_RX7_164 (zN_o zisN_0) rfl (zN_lt0 zisN_0) dX7_host_111 ?_
    refine zV_iload_n O dX7_host_114 rfl rfl ?_
    obtain ⟨hc, hM⟩ := hM
    refine zV_iald O zt_7 (by decide) hc dX7_host_115 ?_
    exact zV_iret O rfl ⟨rfl, _, rfl, hM⟩ (Nat.le_of_ble_eq_true rfl) (Nat.le_of_ble_eq_true rfl) dX7_host_116
  have hc : x2 < 0 ∨ 6 < x2 := by omega
  replace hM := hM.2.2.2.2.2.2.2 hc
  refine zV_tableOut (tgt := 117) O dX7_host_6 hc (by decide) ?_
  exact hM.elim
def mX7_clash (x1 : Int) (h : Hp) (Q : Int → Hp → Prop) : Prop := (mX5_count 0 h (fun h3 => (mX5_clashAt x1 h3 (fun z4 => ((¬ z4 = 0 → (Q z4 h3)) ∧ (z4 = 0 → False))))))
set_option maxHeartbeats 4000000 in
set_option maxRecDepth 100000 in
theorem sX7_clash {l0 : Launch} {x1 : Int} {h : Hp} {Q : Int → Hp → Prop}  (hM : mX7_clash x1 h Q) : zSp l0 yX7_clash cX7_clash 3 (some .int) 185 (4) 0 0 [aR 169, aI x1] h (qI Q) xN := by
  unfold mX7_clash at hM
  refine zSp_intro zpn_RX7 (Nat.le_of_ble_eq_true rfl) (fun a O => ?_)
  show zV a (4, 0, 0, (qI Q), xN) 0 0 0 [some (aR 169), some (aI x1), none] [] h
  refine zV_aload_n O dX7_clash_0 rfl rfl ?_
  refine zV_getR O zf_RX7_32 zt_169 rfl (by decide) dX7_clash_1 ?_
  refine zV_aload_n O dX7_clash_4 rfl rfl ?_
  refine zV_getR O zf_RX7_10 zt_169 rfl (by decide) dX7_clash_5 ?_
  refine zV_callV (as := [aR 0]) (st := []) O zc_X5_count (Or.inr ⟨_, zl_RX7_185⟩) zi_703 zi_41 zt_172 rfl rfl (by decide) (Nat.le_of_ble_eq_true rfl) rfl rfl (Nat.le_of_ble_eq_true rfl) (Nat.le_of_ble_eq_true rfl) (Nat.le_of_ble_eq_true rfl) (Nat.le_of_ble_eq_true rfl) (Nat.le_of_ble_eq_true rfl) (Nat.le_of_ble_eq_true rfl) dX7_clash_8 (sX5_count zisN_0 hM) (fun r h3 hq => ?_) (fun x h9 hq => hq.elim)
  obtain ⟨rfl, hM⟩ := hq
  refine zV_aload_n O dX7_clash_11 rfl rfl ?_
  refine zV_getR O zf_RX7_32 zt_169 rfl (by decide) dX7_clash_12 ?_
  refine zV_iload_n O dX7_clash_15 rfl rfl ?_
  refine zV_callV (as := [aI x1]) (st := []) O zc_X5_clashAt (Or.inr ⟨_, zl_RX7_188⟩) zi_780 zi_46 zt_172 rfl rfl (by decide) (Nat.le_of_ble_eq_true rfl) rfl rfl (Nat.le_of_ble_eq_true rfl) (Nat.le_of_ble_eq_true rfl) (Nat.le_of_ble_eq_true rfl) (Nat.le_of_ble_eq_true rfl) (Nat.le_of_ble_eq_true rfl) (Nat.le_of_ble_eq_true rfl) dX7_clash_16 (sX5_clashAt hM) (fun r h9 hq => ?_) (fun x h9 hq => hq.elim)
  obtain ⟨rfl, z4, rfl, hM⟩ := hq
  refine zV_istore_n O dX7_clash_19 rfl (Nat.le_of_ble_eq_true rfl) rfl ?_
  refine zV_iload_n O dX7_clash_20 rfl rfl ?_
  refine zV_if_ne (tgt := 32) O dX7_clash_21 (by decide) (fun hc => ?_) (fun hc => ?_)
  · replace hM := hM.1 hc
    refine zV_iload_n O dX7_clash_32 rfl rfl ?_
    exact zV_iret O rfl ⟨_, rfl, hM⟩ (Nat.le_of_ble_eq_true rfl) (Nat.le_of_ble_eq_true rfl) dX7_clash_33
  · replace hM := hM.2 hc
    exact hM.elim
def mX7_clashCount (o1 : Nat) (h : Hp) (Q : Int → Hp → Prop) : Prop := (mX5_count o1 h (fun h3 => (mX5_clashes h3 (fun z4 => (Q z4 h3)))))
set_option maxHeartbeats 4000000 in
set_option maxRecDepth 100000 in
theorem sX7_clashCount {l0 : Launch} {o1 : Nat} {h : Hp} {Q : Int → Hp → Prop} (hN1 : zisN o1) (hM : mX7_clashCount o1 h Q) : zSp l0 yX7_clashCount cX7_clashCount 2 (some .int) 185 (4) 0 0 [aR 169, aR o1] h (qI Q) xN := by
  unfold mX7_clashCount at hM
  refine zSp_intro zpn_RX7 (Nat.le_of_ble_eq_true rfl) (fun a O => ?_)
  show zV a (4, 0, 0, (qI Q), xN) 0 0 0 [some (aR 169), some (aR o1)] [] h
  refine zV_aload_n O dX7_clashCount_0 rfl rfl ?_
  refine zV_getR O zf_RX7_32 zt_169 rfl (by decide) dX7_clashCount_1 ?_
  refine zV_aload_n O dX7_clashCount_4 rfl rfl ?_
  refine zV_callV (as := [aR o1]) (st := []) O zc_X5_count (Or.inr ⟨_, zl_RX7_185⟩) zi_703 zi_41 zt_172 rfl rfl (by decide) (Nat.le_of_ble_eq_true rfl) rfl rfl (Nat.le_of_ble_eq_true rfl) (Nat.le_of_ble_eq_true rfl) (Nat.le_of_ble_eq_true rfl) (Nat.le_of_ble_eq_true rfl) (Nat.le_of_ble_eq_true rfl) (Nat.le_of_ble_eq_true rfl) dX7_clashCount_5 (sX5_count hN1 hM) (fun r h3 hq => ?_) (fun x h9 hq => hq.elim)
  obtain ⟨rfl, hM⟩ := hq
  refine zV_aload_n O dX7_clashCount_8 rfl rfl ?_
  refine zV_getR O zf_RX7_32 zt_169 rfl (by decide) dX7_clashCount_9 ?_
  refine zV_callV (as := []) (st := []) O zc_X5_clashes (Or.inr ⟨_, zl_RX7_336⟩) zi_714 zi_42 zt_172 rfl rfl (by decide) (Nat.le_of_ble_eq_true rfl) rfl rfl (Nat.le_of_ble_eq_true rfl) (Nat.le_of_ble_eq_true rfl) (Nat.le_of_ble_eq_true rfl) (Nat.le_of_ble_eq_true rfl) (Nat.le_of_ble_eq_true rfl) (Nat.le_of_ble_eq_true rfl) dX7_clashCount_12 (sX5_clashes hM) (fun r h9 hq => ?_) (fun x h9 hq => hq.elim)
  obtain ⟨rfl, z4, rfl, hM⟩ := hq
  exact zV_iret O rfl ⟨_, rfl, hM⟩ (Nat.le_of_ble_eq_true rfl) (Nat.le_of_ble_eq_true rfl) dX7_clashCount_15
def mX7_heldTwice (o1 : Nat) (h : Hp) (Q : Int → Hp → Prop) : Prop := (mX5_count o1 h (fun h4 => (mX5_smallestTwice (h4 o1 7) h4 (fun z6 => (Q z6 h4)))))
set_option maxHeartbeats 4000000 in
set_option maxRecDepth 100000 in
theorem sX7_heldTwice {l0 : Launch} {o1 : Nat} {h : Hp} {Q : Int → Hp → Prop} (hN1 : zisN o1) (hM : mX7_heldTwice o1 h Q) : zSp l0 yX7_heldTwice cX7_heldTwice 2 (some .int) 185 (4) 0 0 [aR 169, aR o1] h (qI Q) xN := by
  unfold mX7_heldTwice at hM
  refine zSp_intro zpn_RX7 (Nat.le_of_ble_eq_true rfl) (fun a O => ?_)
  show zV a (4, 0, 0, (qI Q), xN) 0 0 0 [some (aR 169), some (aR o1)] [] h
  refine zV_aload_n O dX7_heldTwice_0 rfl rfl ?_
  refine zV_getR O zf_RX7_32 zt_169 rfl (by decide) dX7_heldTwice_1 ?_
  refine zV_aload_n O dX7_heldTwice_4 rfl rfl ?_
  refine zV_callV (as := [aR o1]) (st := []) O zc_X5_count (Or.inr ⟨_, zl_RX7_185⟩) zi_703 zi_41 zt_172 rfl rfl (by decide) (Nat.le_of_ble_eq_true rfl) rfl rfl (Nat.le_of_ble_eq_true rfl) (Nat.le_of_ble_eq_true rfl) (Nat.le_of_ble_eq_true rfl) (Nat.le_of_ble_eq_true rfl) (Nat.le_of_ble_eq_true rfl) (Nat.le_of_ble_eq_true rfl) dX7_heldTwice_5 (sX5_count hN1 hM) (fun r h4 hq => ?_) (fun x h9 hq => hq.elim)
  obtain ⟨rfl, hM⟩ := hq
  refine zV_aload_n O dX7_heldTwice_8 rfl rfl ?_
  refine zV_getR O zf_RX7_32 zt_169 rfl (by decide) dX7_heldTwice_9 ?_
  refine zV_aload_n O dX7_heldTwice_12 rfl rfl ?_
  refine zV_getZ O zf_RX7_128 (zN_o hN1) rfl (zN_lt0 hN1) dX7_heldTwice_13 (fun hz5 => ?_)
  refine zV_callV (as := [aI (h4 o1 7)]) (st := []) O zc_X5_smallestTwice (Or.inr ⟨_, zl_RX7_339⟩) zi_828 zi_54 zt_172 rfl rfl (by decide) (Nat.le_of_ble_eq_true rfl) rfl rfl (Nat.le_of_ble_eq_true rfl) (Nat.le_of_ble_eq_true rfl) (Nat.le_of_ble_eq_true rfl) (Nat.le_of_ble_eq_true rfl) (Nat.le_of_ble_eq_true rfl) (Nat.le_of_ble_eq_true rfl) dX7_heldTwice_16 (sX5_smallestTwice hM) (fun r h9 hq => ?_) (fun x h9 hq => hq.elim)
  obtain ⟨rfl, z6, rfl, hM⟩ := hq
  exact zV_iret O rfl ⟨_, rfl, hM⟩ (Nat.le_of_ble_eq_true rfl) (Nat.le_of_ble_eq_true rfl) dX7_heldTwice_19
def mX7_holder (x1 : Int) (x2 : Int) (h : Hp) (Q : Int → Prop) : Prop := (mX7_needOffice x1 h ((mX7_needNumber x2 h ((mX3_holderInOffice 0 x1 x2 h (fun z2 => (Q z2)))))))
set_option maxHeartbeats 4000000 in
set_option maxRecDepth 100000 in
theorem sX7_holder {l0 : Launch} {x1 : Int} {x2 : Int} {h : Hp} {Q : Int → Prop}  (hM : mX7_holder x1 x2 h Q) : zSp l0 yX7_holder cX7_holder 3 (some .int) 185 (4) 0 0 [aR 169, aI x1, aI x2] h (qPI h Q) xN := by
  unfold mX7_holder at hM
  refine zSp_intro zpn_RX7 (Nat.le_of_ble_eq_true rfl) (fun a O => ?_)
  show zV a (4, 0, 0, (qPI h Q), xN) 0 0 0 [some (aR 169), some (aI x1), some (aI x2)] [] h
  refine zV_iload_n O dX7_holder_0 rfl rfl ?_
  refine zV_callS (as := [aI x1]) (st := []) O zc_X7_needOffice (Or.inl zl_RX7_175) zi_768 (Nat.le_of_ble_eq_true rfl) rfl rfl (Nat.le_of_ble_eq_true rfl) (Nat.le_of_ble_eq_true rfl) (Nat.le_of_ble_eq_true rfl) (Nat.le_of_ble_eq_true rfl) (Nat.le_of_ble_eq_true rfl) (Nat.le_of_ble_eq_true rfl) dX7_holder_1 (sX7_needOffice hM) (fun r h9 hq => ?_) (fun x h9 hq => hq.elim)
  obtain ⟨rfl, rfl, hM⟩ := hq
  refine zV_iload_n O dX7_holder_4 rfl rfl ?_
  refine zV_callS (as := [aI x2]) (st := []) O zc_X7_needNumber (Or.inl zl_RX7_178) zi_771 (Nat.le_of_ble_eq_true rfl) rfl rfl (Nat.le_of_ble_eq_true rfl) (Nat.le_of_ble_eq_true rfl) (Nat.le_of_ble_eq_true rfl) (Nat.le_of_ble_eq_true rfl) (Nat.le_of_ble_eq_true rfl) (Nat.le_of_ble_eq_true rfl) dX7_holder_5 (sX7_needNumber hM) (fun r h9 hq => ?_) (fun x h9 hq => hq.elim)
  obtain ⟨rfl, rfl, hM⟩ := hq
  refine zV_aload_n O dX7_holder_8 rfl rfl ?_
  refine zV_getR O zf_RX7_10 zt_169 rfl (by decide) dX7_holder_9 ?_
  refine zV_iload_n O dX7_holder_12 rfl rfl ?_
  refine zV_iload_n O dX7_holder_13 rfl rfl ?_
  refine zV_callV (as := [aI x1, aI x2]) (st := []) O zc_X3_holderInOffice (Or.inr ⟨_, zl_RX7_181⟩) zi_626 zi_26 (zN_o zisN_0) rfl rfl (zN_lt0 zisN_0) (Nat.le_of_ble_eq_true rfl) rfl rfl (Nat.le_of_ble_eq_true rfl) (Nat.le_of_ble_eq_true rfl) (Nat.le_of_ble_eq_true rfl) (Nat.le_of_ble_eq_true rfl) (Nat.le_of_ble_eq_true rfl) (Nat.le_of_ble_eq_true rfl) dX7_holder_14 (sX3_holderInOffice zisN_0 hM) (fun r h9 hq => ?_) (fun x h9 hq => hq.elim)
  obtain ⟨rfl, z2, rfl, hM⟩ := hq
  exact zV_iret O rfl ⟨rfl, _, rfl, hM⟩ (Nat.le_of_ble_eq_true rfl) (Nat.le_of_ble_eq_true rfl) dX7_holder_17
def mX7_size (x1 : Int) (h : Hp) (Q : Int → Hp → Prop) : Prop := ((x1 = 0 → (Q (h 0 0) h)) ∧ (x1 = 1 → (Q (h 0 1) h)) ∧ (x1 = 2 → (mX3_planCount 0 h (fun z6 => (Q z6 h)))) ∧ (x1 = 3 → (Q (h 0 2) h)) ∧ (x1 = 4 → (Q (h 0 3) h)) ∧ (x1 = 5 → (Q (h 0 4) h)) ∧ (x1 = 6 → (Q (h 0 5) h)) ∧ (x1 = 7 → (Q (h 0 6) h)) ∧ (x1 = 8 → (((h 0 7) = 0 → (Q 0 h)) ∧ (¬ (h 0 7) = 0 → (Q 1 h)))) ∧ (x1 = 9 → (mX7_clashCount 0 h (fun z8 h9 => (Q z8 h9)))) ∧ (x1 = 10 → (mX3_keeperCount 0 h (fun z10 => (Q z10 h)))) ∧ ((x1 < 0 ∨ 10 < x1) → False))
set_option maxHeartbeats 4000000 in
set_option maxRecDepth 100000 in
theorem sX7_size {l0 : Launch} {x1 : Int} {h : Hp} {Q : Int → Hp → Prop}  (hM : mX7_size x1 h Q) : zSp l0 yX7_size cX7_size 2 (some .int) 185 (5) 0 0 [aR 169, aI x1] h (qI Q) xN := by
  unfold mX7_size at hM
  refine zSp_intro zpn_RX7 (Nat.le_of_ble_eq_true rfl) (fun a O => ?_)
  show zV a (5, 0, 0, (qI Q), xN) 0 0 0 [some (aR 169), some (aI x1)] [] h
  refine zV_iload_n O dX7_size_0 rfl rfl ?_
  by_cases hc0 : x1 = 0
  · replace hM := hM.1 hc0
    refine zV_tableIn (tgt := 60) O dX7_size_1 (by omega) (by omega) (by rw [hc0]; rfl) (by decide) ?_
    refine zV_aload_n O dX7_size_60 rfl rfl ?_
    refine zV_getR O zf_RX7_10 zt_169 rfl (by decide) dX7_size_61 ?_
    refine zV_getI O zf_RX7_104 (zN_o zisN_0) rfl (zN_lt0 zisN_0) dX7_size_64 ?_
    exact zV_iret O rfl ⟨_, rfl, hM⟩ (Nat.le_of_ble_eq_true rfl) (Nat.le_of_ble_eq_true rfl) dX7_size_67
  by_cases hc1 : x1 = 1
  · replace hM := hM.2.1 hc1
    refine zV_tableIn (tgt := 68) O dX7_size_1 (by omega) (by omega) (by rw [hc1]; rfl) (by decide) ?_
    refine zV_aload_n O dX7_size_68 rfl rfl ?_
    refine zV_getR O zf_RX7_10 zt_169 rfl (by decide) dX7_size_69 ?_
    refine zV_getI O zf_RX7_107 (zN_o zisN_0) rfl (zN_lt0 zisN_0) dX7_size_72 ?_
    exact zV_iret O rfl ⟨_, rfl, hM⟩ (Nat.le_of_ble_eq_true rfl) (Nat.le_of_ble_eq_true rfl) dX7_size_75
  by_cases hc2 : x1 = 2
  · replace hM := hM.2.2.1 hc2
    refine zV_tableIn (tgt := 76) O dX7_size_1 (by omega) (by omega) (by rw [hc2]; rfl) (by decide) ?_
    refine zV_aload_n O dX7_size_76 rfl rfl ?_
    refine zV_getR O zf_RX7_10 zt_169 rfl (by decide) dX7_size_77 ?_
    refine zV_callV (as := []) (st := []) O zc_X3_planCount (Or.inr ⟨_, zl_RX7_110⟩) zi_695 zi_39 (zN_o zisN_0) rfl rfl (zN_lt0 zisN_0) (Nat.le_of_ble_eq_true rfl) rfl rfl (Nat.le_of_ble_eq_true rfl) (Nat.le_of_ble_eq_true rfl) (Nat.le_of_ble_eq_true rfl) (Nat.le_of_ble_eq_true rfl) (Nat.le_of_ble_eq_true rfl) (Nat.le_of_ble_eq_true rfl) dX7_size_80 (sX3_planCount zisN_0 hM) (fun r h9 hq => ?_) (fun x h9 hq => hq.elim)
    obtain ⟨rfl, z6, rfl, hM⟩ := hq
    exact zV_iret O rfl ⟨_, rfl, hM⟩ (Nat.le_of_ble_eq_true rfl) (Nat.le_of_ble_eq_true rfl) dX7_size_83
  by_cases hc3 : x1 = 3
  · replace hM := hM.2.2.2.1 hc3
    refine zV_tableIn (tgt := 84) O dX7_size_1 (by omega) (by omega) (by rw [hc3]; rfl) (by decide) ?_
    refine zV_aload_n O dX7_size_84 rfl rfl ?_
    refine zV_getR O zf_RX7_10 zt_169 rfl (by decide) dX7_size_85 ?_
    refine zV_getI O zf_RX7_113 (zN_o zisN_0) rfl (zN_lt0 zisN_0) dX7_size_88 ?_
    exact zV_iret O rfl ⟨_, rfl, hM⟩ (Nat.le_of_ble_eq_true rfl) (Nat.le_of_ble_eq_true rfl) dX7_size_91
  by_cases hc4 : x1 = 4
  · replace hM := hM.2.2.2.2.1 hc4
    refine zV_tableIn (tgt := 92) O dX7_size_1 (by omega) (by omega) (by rw [hc4]; rfl) (by decide) ?_
    refine zV_aload_n O dX7_size_92 rfl rfl ?_
    refine zV_getR O zf_RX7_10 zt_169 rfl (by decide) dX7_size_93 ?_
    refine zV_getI O zf_RX7_116 (zN_o zisN_0) rfl (zN_lt0 zisN_0) dX7_size_96 ?_
    exact zV_iret O rfl ⟨_, rfl, hM⟩ (Nat.le_of_ble_eq_true rfl) (Nat.le_of_ble_eq_true rfl) dX7_size_99
  by_cases hc5 : x1 = 5
  · replace hM := hM.2.2.2.2.2.1 hc5
    refine zV_tableIn (tgt := 100) O dX7_size_1 (by omega) (by omega) (by rw [hc5]; rfl) (by decide) ?_
    refine zV_aload_n O dX7_size_100 rfl rfl ?_
    refine zV_getR O zf_RX7_10 zt_169 rfl (by decide) dX7_size_101 ?_
    refine zV_getI O zf_RX7_119 (zN_o zisN_0) rfl (zN_lt0 zisN_0) dX7_size_104 ?_
    exact zV_iret O rfl ⟨_, rfl, hM⟩ (Nat.le_of_ble_eq_true rfl) (Nat.le_of_ble_eq_true rfl) dX7_size_107
  by_cases hc6 : x1 = 6
  · replace hM := hM.2.2.2.2.2.2.1 hc6
    refine zV_tableIn (tgt := 108) O dX7_size_1 (by omega) (by omega) (by rw [hc6]; rfl) (by decide) ?_
    refine zV_aload_n O dX7_size_108 rfl rfl ?_
    refine zV_getR O zf_RX7_10 zt_169 rfl (by decide) dX7_size_109 ?_
    refine zV_getI O zf_RX7_122 (zN_o zisN_0) rfl (zN_lt0 zisN_0) dX7_size_112 ?_
    exact zV_iret O rfl ⟨_, rfl, hM⟩ (Nat.le_of_ble_eq_true rfl) (Nat.le_of_ble_eq_true rfl) dX7_size_115
  by_cases hc7 : x1 = 7
  · replace hM := hM.2.2.2.2.2.2.2.1 hc7
    refine zV_tableIn (tgt := 116) O dX7_size_1 (by omega) (by omega) (by rw [hc7]; rfl) (by decide) ?_
    refine zV_aload_n O dX7_size_116 rfl rfl ?_
    refine zV_getR O zf_RX7_10 zt_169 rfl (by decide) dX7_size_117 ?_
    refine zV_getI O zf_RX7_125 (zN_o zisN_0) rfl (zN_lt0 zisN_0) dX7_size_120 ?_
    exact zV_iret O rfl ⟨_, rfl, hM⟩ (Nat.le_of_ble_eq_true rfl) (Nat.le_of_ble_eq_true rfl) dX7_size_123
  by_cases hc8 : x1 = 8
  · replace hM := hM.2.2.2.2.2.2.2.2.1 hc8
    refine zV_tableIn (tgt := 124) O dX7_size_1 (by omega) (by omega) (by rw [hc8]; rfl) (by decide) ?_
    refine zV_aload_n O dX7_size_124 rfl rfl ?_
    refine zV_getR O zf_RX7_10 zt_169 rfl (by decide) dX7_size_125 ?_
    refine zV_getZ O zf_RX7_128 (zN_o zisN_0) rfl (zN_lt0 zisN_0) dX7_size_128 (fun hz7 => ?_)
    refine zV_if_eq (tgt := 138) O dX7_size_131 (by decide) (fun hc => ?_) (fun hc => ?_)
    · replace hM := hM.1 hc
      refine zV_iconst (z := 0) O ⟨by omega, by omega⟩ dX7_size_138 ?_
      exact zV_iret O rfl ⟨_, rfl, hM⟩ (Nat.le_of_ble_eq_true rfl) (Nat.le_of_ble_eq_true rfl) dX7_size_139
    · replace hM := hM.2 hc
      refine zV_iconst (z := 1) O ⟨by omega, by omega⟩ dX7_size_134 ?_
      refine zV_goto (tgt := 139) O dX7_size_135 (by decide) ?_
      exact zV_iret O rfl ⟨_, rfl, hM⟩ (Nat.le_of_ble_eq_true rfl) (Nat.le_of_ble_eq_true rfl) dX7_size_139
  by_cases hc9 : x1 = 9
  · replace hM := hM.2.2.2.2.2.2.2.2.2.1 hc9
    refine zV_tableIn (tgt := 140) O dX7_size_1 (by omega) (by omega) (by rw [hc9]; rfl) (by decide) ?_
    refine zV_aload_n O dX7_size_140 rfl rfl ?_
    refine zV_aload_n O dX7_size_141 rfl rfl ?_
    refine zV_getR O zf_RX7_10 zt_169 rfl (by decide) dX7_size_142 ?_
    refine zV_callV (as := [aR 0]) (st := []) O zc_X7_clashCount (Or.inl zl_RX7_131) zi_699 zi_40 zt_169 rfl rfl (by decide) (Nat.le_of_ble_eq_true rfl) rfl rfl (Nat.le_of_ble_eq_true rfl) (Nat.le_of_ble_eq_true rfl) (Nat.le_of_ble_eq_true rfl) (Nat.le_of_ble_eq_true rfl) (Nat.le_of_ble_eq_true rfl) (Nat.le_of_ble_eq_true rfl) dX7_size_145 (sX7_clashCount zisN_0 hM) (fun r h9 hq => ?_) (fun x h9 hq => hq.elim)
    obtain ⟨z8, rfl, hM⟩ := hq
    exact zV_iret O rfl ⟨_, rfl, hM⟩ (Nat.le_of_ble_eq_true rfl) (Nat.le_of_ble_eq_true rfl) dX7_size_148
  by_cases hc10 : x1 = 10
  · replace hM := hM.2.2.2.2.2.2.2.2.2.2.1 hc10
    refine zV_tableIn (tgt := 149) O dX7_size_1 (by omega) (by omega) (by rw [hc10]; rfl) (by decide) ?_
    refine zV_aload_n O dX7_size_149 rfl rfl ?_
    refine zV_getR O zf_RX7_10 zt_169 rfl (by decide) dX7_size_150 ?_
    refine zV_callV (as := []) (st := []) O zc_X3_keeperCount (Or.inr ⟨_, zl_RX7_135⟩) zi_722 zi_44 (zN_o zisN_0) rfl rfl (zN_lt0 zisN_0) (Nat.le_of_ble_eq_true rfl) rfl rfl (Nat.le_of_ble_eq_true rfl) (Nat.le_of_ble_eq_true rfl) (Nat.le_of_ble_eq_true rfl) (Nat.le_of_ble_eq_true rfl) (Nat.le_of_ble_eq_true rfl) (Nat.le_of_ble_eq_true rfl) dX7_size_153 (sX3_keeperCount zisN_0 hM) (fun r h9 hq => ?_) (fun x h9 hq => hq.elim)
    obtain ⟨rfl, z10, rfl, hM⟩ := hq
    exact zV_iret O rfl ⟨_, rfl, hM⟩ (Nat.le_of_ble_eq_true rfl) (Nat.le_of_ble_eq_true rfl) dX7_size_156
  have hc : x1 < 0 ∨ 10 < x1 := by omega
  replace hM := hM.2.2.2.2.2.2.2.2.2.2.2 hc
  refine zV_tableOut (tgt := 157) O dX7_size_1 hc (by decide) ?_
  exact hM.elim
def mX7_tryWave  (h : Hp) (Q : Int → Hp → Prop) : Prop := (((h 13 2) < (9 : Int) → (mX3_keeperWouldMove 13 h (fun z6 => ((z6 = 0 → (mX3_doWave 13 h (fun z7 h8 => (mX7_heldTwice 13 h8 (fun z9 h10 => ((z9 = 0 → (Q z7 h10)) ∧ (¬ z9 = 0 → (Q (-4) h10)))))))) ∧ (¬ z6 = 0 → (Q (-3) h)))))) ∧ (¬ (h 13 2) < (9 : Int) → (Q (-2) h)))
set_option maxHeartbeats 4000000 in
set_option maxRecDepth 100000 in
theorem sX7_tryWave {l0 : Launch}  {h : Hp} {Q : Int → Hp → Prop}  (hM : mX7_tryWave  h Q) : zSp l0 yX7_tryWave cX7_tryWave 2 (some .int) 185 (5) 0 0 [aR 169] h (qI Q) xN := by
  unfold mX7_tryWave at hM
  refine zSp_intro zpn_RX7 (Nat.le_of_ble_eq_true rfl) (fun a O => ?_)
  show zV a (5, 0, 0, (qI Q), xN) 0 0 0 [some (aR 169), none] [] h
  refine zV_aload_n O dX7_tryWave_0 rfl rfl ?_
  refine zV_getR O zf_RX7_16 zt_169 rfl (by decide) dX7_tryWave_1 ?_
  refine zV_getI O zf_RX7_113 (zN_o zisN_13) rfl (zN_lt0 zisN_13) dX7_tryWave_4 ?_
  refine zV_bipush (z := 9) O ⟨by omega, by omega⟩ rfl dX7_tryWave_7 ?_
  refine zV_icmp_lt (tgt := 15) O dX7_tryWave_9 (by decide) (fun hc => ?_) (fun hc => ?_)
  · replace hM := hM.1 hc
    refine zV_aload_n O dX7_tryWave_15 rfl rfl ?_
    refine zV_getR O zf_RX7_16 zt_169 rfl (by decide) dX7_tryWave_16 ?_
    refine zV_callV (as := []) (st := []) O zc_X3_keeperWouldMove (Or.inr ⟨_, zl_RX7_343⟩) zi_803 zi_48 (zN_o zisN_13) rfl rfl (zN_lt0 zisN_13) (Nat.le_of_ble_eq_true rfl) rfl rfl (Nat.le_of_ble_eq_true rfl) (Nat.le_of_ble_eq_true rfl) (Nat.le_of_ble_eq_true rfl) (Nat.le_of_ble_eq_true rfl) (Nat.le_of_ble_eq_true rfl) (Nat.le_of_ble_eq_true rfl) dX7_tryWave_19 (sX3_keeperWouldMove zisN_13 hM) (fun r h9 hq => ?_) (fun x h9 hq => hq.elim)
    obtain ⟨rfl, z6, rfl, hzz6, hM⟩ := hq
    refine zV_if_eq (tgt := 28) O dX7_tryWave_22 (by decide) (fun hc => ?_) (fun hc => ?_)
    · replace hM := hM.1 hc
      refine zV_aload_n O dX7_tryWave_28 rfl rfl ?_
      refine zV_getR O zf_RX7_16 zt_169 rfl (by decide) dX7_tryWave_29 ?_
      refine zV_callV (as := []) (st := []) O zc_X3_doWave (Or.inr ⟨_, zl_RX7_234⟩) zi_807 zi_49 (zN_o zisN_13) rfl rfl (zN_lt0 zisN_13) (Nat.le_of_ble_eq_true rfl) rfl rfl (Nat.le_of_ble_eq_true rfl) (Nat.le_of_ble_eq_true rfl) (Nat.le_of_ble_eq_true rfl) (Nat.le_of_ble_eq_true rfl) (Nat.le_of_ble_eq_true rfl) (Nat.le_of_ble_eq_true rfl) dX7_tryWave_32 (sX3_doWave zisN_13 hM) (fun r h8 hq => ?_) (fun x h9 hq => hq.elim)
      obtain ⟨z7, rfl, hM⟩ := hq
      refine zV_istore_n O dX7_tryWave_35 rfl (Nat.le_of_ble_eq_true rfl) rfl ?_
      refine zV_aload_n O dX7_tryWave_36 rfl rfl ?_
      refine zV_aload_n O dX7_tryWave_37 rfl rfl ?_
      refine zV_getR O zf_RX7_16 zt_169 rfl (by decide) dX7_tryWave_38 ?_
      refine zV_callV (as := [aR 13]) (st := []) O zc_X7_heldTwice (Or.inl zl_RX7_237) zi_824 zi_53 zt_169 rfl rfl (by decide) (Nat.le_of_ble_eq_true rfl) rfl rfl (Nat.le_of_ble_eq_true rfl) (Nat.le_of_ble_eq_true rfl) (Nat.le_of_ble_eq_true rfl) (Nat.le_of_ble_eq_true rfl) (Nat.le_of_ble_eq_true rfl) (Nat.le_of_ble_eq_true rfl) dX7_tryWave_41 (sX7_heldTwice zisN_13 hM) (fun r h10 hq => ?_) (fun x h9 hq => hq.elim)
      obtain ⟨z9, rfl, hM⟩ := hq
      refine zV_if_eq (tgt := 52) O dX7_tryWave_44 (by decide) (fun hc => ?_) (fun hc => ?_)
      · replace hM := hM.1 hc
        refine zV_iload_n O dX7_tryWave_52 rfl rfl ?_
        exact zV_iret O rfl ⟨_, rfl, hM⟩ (Nat.le_of_ble_eq_true rfl) (Nat.le_of_ble_eq_true rfl) dX7_tryWave_53
      · replace hM := hM.2 hc
        refine zV_bipush (z := -4) O ⟨by omega, by omega⟩ rfl dX7_tryWave_47 ?_
        refine zV_goto (tgt := 53) O dX7_tryWave_49 (by decide) ?_
        exact zV_iret O rfl ⟨_, rfl, hM⟩ (Nat.le_of_ble_eq_true rfl) (Nat.le_of_ble_eq_true rfl) dX7_tryWave_53
    · replace hM := hM.2 hc
      refine zV_bipush (z := -3) O ⟨by omega, by omega⟩ rfl dX7_tryWave_25 ?_
      exact zV_iret O rfl ⟨_, rfl, hM⟩ (Nat.le_of_ble_eq_true rfl) (Nat.le_of_ble_eq_true rfl) dX7_tryWave_27
  · replace hM := hM.2 hc
    refine zV_bipush (z := -2) O ⟨by omega, by omega⟩ rfl dX7_tryWave_12 ?_
    exact zV_iret O rfl ⟨_, rfl, hM⟩ (Nat.le_of_ble_eq_true rfl) (Nat.le_of_ble_eq_true rfl) dX7_tryWave_14
def mX7_addHost (x1 : Int) (x2 : Int) (h : Hp) (Q : Int → Hp → Prop) : Prop := (mX7_needOffice x1 h ((mX7_needNumber x2 h ((((h 0 0) < (40 : Int) → (mX3_holderInNet 0 x1 x2 h (fun z5 => ((z5 = ((-1) : Int) → (mX0_add 0 h (fun h6 => (mX3_appendHost 0 0 x1 x2 h6 (fun z7 h8 => (Q z7 h8)))))) ∧ (¬ z5 = ((-1) : Int) → (Q (-3) h)))))) ∧ (¬ (h 0 0) < (40 : Int) → (Q (-2) h)))))))
set_option maxHeartbeats 4000000 in
set_option maxRecDepth 100000 in
theorem sX7_addHost {l0 : Launch} {x1 : Int} {x2 : Int} {h : Hp} {Q : Int → Hp → Prop}  (hM : mX7_addHost x1 x2 h Q) : zSp l0 yX7_addHost cX7_addHost 3 (some .int) 185 (6) 0 0 [aR 169, aI x1, aI x2] h (qI Q) xN := by
  unfold mX7_addHost at hM
  refine zSp_intro zpn_RX7 (Nat.le_of_ble_eq_true rfl) (fun a O => ?_)
  show zV a (6, 0, 0, (qI Q), xN) 0 0 0 [some (aR 169), some (aI x1), some (aI x2)] [] h
  refine zV_iload_n O dX7_addHost_0 rfl rfl ?_
  refine zV_callS (as := [aI x1]) (st := []) O zc_X7_needOffice (Or.inl zl_RX7_175) zi_768 (Nat.le_of_ble_eq_true rfl) rfl rfl (Nat.le_of_ble_eq_true rfl) (Nat.le_of_ble_eq_true rfl) (Nat.le_of_ble_eq_true rfl) (Nat.le_of_ble_eq_true rfl) (Nat.le_of_ble_eq_true rfl) (Nat.le_of_ble_eq_true rfl) dX7_addHost_1 (sX7_needOffice hM) (fun r h9 hq => ?_) (fun x h9 hq => hq.elim)
  obtain ⟨rfl, rfl, hM⟩ := hq
  refine zV_iload_n O dX7_addHost_4 rfl rfl ?_
  refine zV_callS (as := [aI x2]) (st := []) O zc_X7_needNumber (Or.inl zl_RX7_178) zi_771 (Nat.le_of_ble_eq_true rfl) rfl rfl (Nat.le_of_ble_eq_true rfl) (Nat.le_of_ble_eq_true rfl) (Nat.le_of_ble_eq_true rfl) (Nat.le_of_ble_eq_true rfl) (Nat.le_of_ble_eq_true rfl) (Nat.le_of_ble_eq_true rfl) dX7_addHost_5 (sX7_needNumber hM) (fun r h9 hq => ?_) (fun x h9 hq => hq.elim)
  obtain ⟨rfl, rfl, hM⟩ := hq
  refine zV_aload_n O dX7_addHost_8 rfl rfl ?_
  refine zV_getR O zf_RX7_10 zt_169 rfl (by decide) dX7_addHost_9 ?_
  refine zV_getI O zf_RX7_104 (zN_o zisN_0) rfl (zN_lt0 zisN_0) dX7_addHost_12 ?_
  refine zV_bipush (z := 40) O ⟨by omega, by omega⟩ rfl dX7_addHost_15 ?_
  refine zV_icmp_lt (tgt := 23) O dX7_addHost_17 (by decide) (fun hc => ?_) (fun hc => ?_)
  · replace hM := hM.1 hc
    refine zV_aload_n O dX7_addHost_23 rfl rfl ?_
    refine zV_getR O zf_RX7_10 zt_169 rfl (by decide) dX7_addHost_24 ?_
    refine zV_iload_n O dX7_addHost_27 rfl rfl ?_
    refine zV_iload_n O dX7_addHost_28 rfl rfl ?_
    refine zV_callV (as := [aI x1, aI x2]) (st := []) O zc_X3_holderInNet (Or.inr ⟨_, zl_RX7_246⟩) zi_862 zi_58 (zN_o zisN_0) rfl rfl (zN_lt0 zisN_0) (Nat.le_of_ble_eq_true rfl) rfl rfl (Nat.le_of_ble_eq_true rfl) (Nat.le_of_ble_eq_true rfl) (Nat.le_of_ble_eq_true rfl) (Nat.le_of_ble_eq_true rfl) (Nat.le_of_ble_eq_true rfl) (Nat.le_of_ble_eq_true rfl) dX7_addHost_29 (sX3_holderInNet zisN_0 hM) (fun r h9 hq => ?_) (fun x h9 hq => hq.elim)
    obtain ⟨rfl, z5, rfl, hM⟩ := hq
    refine zV_iconst (z := -1) O ⟨by omega, by omega⟩ dX7_addHost_32 ?_
    refine zV_icmp_eq (tgt := 39) O dX7_addHost_33 (by decide) (fun hc => ?_) (fun hc => ?_)
    · replace hM := hM.1 hc
      refine zV_aload_n O dX7_addHost_39 rfl rfl ?_
      refine zV_getR O zf_RX7_25 zt_169 rfl (by decide) dX7_addHost_40 ?_
      refine zV_aload_n O dX7_addHost_43 rfl rfl ?_
      refine zV_getR O zf_RX7_10 zt_169 rfl (by decide) dX7_addHost_44 ?_
      refine zV_callV (as := [aR 0]) (st := []) O zc_X0_add (Or.inr ⟨_, zl_RX7_249⟩) zi_841 zi_56 zt_170 rfl rfl (by decide) (Nat.le_of_ble_eq_true rfl) rfl rfl (Nat.le_of_ble_eq_true rfl) (Nat.le_of_ble_eq_true rfl) (Nat.le_of_ble_eq_true rfl) (Nat.le_of_ble_eq_true rfl) (Nat.le_of_ble_eq_true rfl) (Nat.le_of_ble_eq_true rfl) dX7_addHost_47 (sX0_add zisN_0 hM) (fun r h6 hq => ?_) (fun x h9 hq => hq.elim)
      obtain ⟨rfl, hM⟩ := hq
      refine zV_aload_n O dX7_addHost_50 rfl rfl ?_
      refine zV_getR O zf_RX7_10 zt_169 rfl (by decide) dX7_addHost_51 ?_
      refine zV_lconst (z := 0) O ⟨by omega, by omega⟩ rfl dX7_addHost_54 ?_
      refine zV_iload_n O dX7_addHost_55 rfl rfl ?_
      refine zV_iload_n O dX7_addHost_56 rfl rfl ?_
      refine zV_callV (as := [aL 0, aI x1, aI x2]) (st := []) O zc_X3_appendHost (Or.inr ⟨_, zl_RX7_252⟩) zi_642 zi_30 (zN_o zisN_0) rfl rfl (zN_lt0 zisN_0) (Nat.le_of_ble_eq_true rfl) rfl rfl (Nat.le_of_ble_eq_true rfl) (Nat.le_of_ble_eq_true rfl) (Nat.le_of_ble_eq_true rfl) (Nat.le_of_ble_eq_true rfl) (Nat.le_of_ble_eq_true rfl) (Nat.le_of_ble_eq_true rfl) dX7_addHost_57 (sX3_appendHost zisN_0 hM) (fun r h8 hq => ?_) (fun x h9 hq => hq.elim)
      obtain ⟨z7, rfl, hM⟩ := hq
      exact zV_iret O rfl ⟨_, rfl, hM⟩ (Nat.le_of_ble_eq_true rfl) (Nat.le_of_ble_eq_true rfl) dX7_addHost_60
    · replace hM := hM.2 hc
      refine zV_bipush (z := -3) O ⟨by omega, by omega⟩ rfl dX7_addHost_36 ?_
      exact zV_iret O rfl ⟨_, rfl, hM⟩ (Nat.le_of_ble_eq_true rfl) (Nat.le_of_ble_eq_true rfl) dX7_addHost_38
  · replace hM := hM.2 hc
    refine zV_bipush (z := -2) O ⟨by omega, by omega⟩ rfl dX7_addHost_20 ?_
    exact zV_iret O rfl ⟨_, rfl, hM⟩ (Nat.le_of_ble_eq_true rfl) (Nat.le_of_ble_eq_true rfl) dX7_addHost_22
def mX7_addRule (x1 : Int) (x2 : Int) (x3 : Int) (x4 : Int) (h : Hp) (Q : Int → Hp → Prop) : Prop := (mX7_needOffice x1 h ((mX7_needSide x3 h ((mX7_needSide x4 h ((((h 0 1) < (30 : Int) → (mX0_add 0 h (fun h4 => (mX3_appendRule 0 x1 x2 x3 x4 h4 (fun z5 h6 => (Q z5 h6)))))) ∧ (¬ (h 0 1) < (30 : Int) → (Q (-2) h)))))))))
set_option maxHeartbeats 4000000 in
set_option maxRecDepth 100000 in
theorem sX7_addRule {l0 : Launch} {x1 : Int} {x2 : Int} {x3 : Int} {x4 : Int} {h : Hp} {Q : Int → Hp → Prop}  (hM : mX7_addRule x1 x2 x3 x4 h Q) : zSp l0 yX7_addRule cX7_addRule 5 (some .int) 185 (6) 0 0 [aR 169, aI x1, aI x2, aI x3, aI x4] h (qI Q) xN := by
  unfold mX7_addRule at hM
  refine zSp_intro zpn_RX7 (Nat.le_of_ble_eq_true rfl) (fun a O => ?_)
  show zV a (6, 0, 0, (qI Q), xN) 0 0 0 [some (aR 169), some (aI x1), some (aI x2), some (aI x3), some (aI x4)] [] h
  refine zV_iload_n O dX7_addRule_0 rfl rfl ?_
  refine zV_callS (as := [aI x1]) (st := []) O zc_X7_needOffice (Or.inl zl_RX7_175) zi_768 (Nat.le_of_ble_eq_true rfl) rfl rfl (Nat.le_of_ble_eq_true rfl) (Nat.le_of_ble_eq_true rfl) (Nat.le_of_ble_eq_true rfl) (Nat.le_of_ble_eq_true rfl) (Nat.le_of_ble_eq_true rfl) (Nat.le_of_ble_eq_true rfl) dX7_addRule_1 (sX7_needOffice hM) (fun r h9 hq => ?_) (fun x h9 hq => hq.elim)
  obtain ⟨rfl, rfl, hM⟩ := hq
  refine zV_iload_n O dX7_addRule_4 rfl rfl ?_
  refine zV_callS (as := [aI x3]) (st := []) O zc_X7_needSide (Or.inl zl_RX7_284) zi_941 (Nat.le_of_ble_eq_true rfl) rfl rfl (Nat.le_of_ble_eq_true rfl) (Nat.le_of_ble_eq_true rfl) (Nat.le_of_ble_eq_true rfl) (Nat.le_of_ble_eq_true rfl) (Nat.le_of_ble_eq_true rfl) (Nat.le_of_ble_eq_true rfl) dX7_addRule_5 (sX7_needSide hM) (fun r h9 hq => ?_) (fun x h9 hq => hq.elim)
  obtain ⟨rfl, rfl, hM⟩ := hq
  refine zV_iload O dX7_addRule_8 rfl ?_
  refine zV_callS (as := [aI x4]) (st := []) O zc_X7_needSide (Or.inl zl_RX7_284) zi_941 (Nat.le_of_ble_eq_true rfl) rfl rfl (Nat.le_of_ble_eq_true rfl) (Nat.le_of_ble_eq_true rfl) (Nat.le_of_ble_eq_true rfl) (Nat.le_of_ble_eq_true rfl) (Nat.le_of_ble_eq_true rfl) (Nat.le_of_ble_eq_true rfl) dX7_addRule_10 (sX7_needSide hM) (fun r h9 hq => ?_) (fun x h9 hq => hq.elim)
  obtain ⟨rfl, rfl, hM⟩ := hq
  refine zV_aload_n O dX7_addRule_13 rfl rfl ?_
  refine zV_getR O zf_RX7_10 zt_169 rfl (by decide) dX7_addRule_14 ?_
  refine zV_getI O zf_RX7_107 (zN_o zisN_0) rfl (zN_lt0 zisN_0) dX7_addRule_17 ?_
  refine zV_bipush (z := 30) O ⟨by omega, by omega⟩ rfl dX7_addRule_20 ?_
  refine zV_icmp_lt (tgt := 28) O dX7_addRule_22 (by decide) (fun hc => ?_) (fun hc => ?_)
  · replace hM := hM.1 hc
    refine zV_aload_n O dX7_addRule_28 rfl rfl ?_
    refine zV_getR O zf_RX7_25 zt_169 rfl (by decide) dX7_addRule_29 ?_
    refine zV_aload_n O dX7_addRule_32 rfl rfl ?_
    refine zV_getR O zf_RX7_10 zt_169 rfl (by decide) dX7_addRule_33 ?_
    refine zV_callV (as := [aR 0]) (st := []) O zc_X0_add (Or.inr ⟨_, zl_RX7_249⟩) zi_841 zi_56 zt_170 rfl rfl (by decide) (Nat.le_of_ble_eq_true rfl) rfl rfl (Nat.le_of_ble_eq_true rfl) (Nat.le_of_ble_eq_true rfl) (Nat.le_of_ble_eq_true rfl) (Nat.le_of_ble_eq_true rfl) (Nat.le_of_ble_eq_true rfl) (Nat.le_of_ble_eq_true rfl) dX7_addRule_36 (sX0_add zisN_0 hM) (fun r h4 hq => ?_) (fun x h9 hq => hq.elim)
    obtain ⟨rfl, hM⟩ := hq
    refine zV_aload_n O dX7_addRule_39 rfl rfl ?_
    refine zV_getR O zf_RX7_10 zt_169 rfl (by decide) dX7_addRule_40 ?_
    refine zV_iload_n O dX7_addRule_43 rfl rfl ?_
    refine zV_iload_n O dX7_addRule_44 rfl rfl ?_
    refine zV_iload_n O dX7_addRule_45 rfl rfl ?_
    refine zV_iload O dX7_addRule_46 rfl ?_
    refine zV_callV (as := [aI x1, aI x2, aI x3, aI x4]) (st := []) O zc_X3_appendRule (Or.inr ⟨_, zl_RX7_287⟩) zi_659 zi_33 (zN_o zisN_0) rfl rfl (zN_lt0 zisN_0) (Nat.le_of_ble_eq_true rfl) rfl rfl (Nat.le_of_ble_eq_true rfl) (Nat.le_of_ble_eq_true rfl) (Nat.le_of_ble_eq_true rfl) (Nat.le_of_ble_eq_true rfl) (Nat.le_of_ble_eq_true rfl) (Nat.le_of_ble_eq_true rfl) dX7_addRule_48 (sX3_appendRule zisN_0 hM) (fun r h6 hq => ?_) (fun x h9 hq => hq.elim)
    obtain ⟨z5, rfl, hM⟩ := hq
    exact zV_iret O rfl ⟨_, rfl, hM⟩ (Nat.le_of_ble_eq_true rfl) (Nat.le_of_ble_eq_true rfl) dX7_addRule_51
  · replace hM := hM.2 hc
    refine zV_bipush (z := -2) O ⟨by omega, by omega⟩ rfl dX7_addRule_25 ?_
    exact zV_iret O rfl ⟨_, rfl, hM⟩ (Nat.le_of_ble_eq_true rfl) (Nat.le_of_ble_eq_true rfl) dX7_addRule_27
def mX7_adoptTrial  (h : Hp) (Q : Hp → Prop) : Prop := (mX0_add 0 h (fun h3 => (mX3_copyFrom 0 13 h3 (fun h4 => (Q h4)))))
set_option maxHeartbeats 4000000 in
set_option maxRecDepth 100000 in
theorem sX7_adoptTrial {l0 : Launch}  {h : Hp} {Q : Hp → Prop}  (hM : mX7_adoptTrial  h Q) : zSp l0 yX7_adoptTrial cX7_adoptTrial 1 none 185 (6) 0 0 [aR 169] h (qV Q) xN := by
  unfold mX7_adoptTrial at hM
  refine zSp_intro zpn_RX7 (Nat.le_of_ble_eq_true rfl) (fun a O => ?_)
  show zV a (6, 0, 0, (qV Q), xN) 0 0 0 [some (aR 169)] [] h
  refine zV_aload_n O dX7_adoptTrial_0 rfl rfl ?_
  refine zV_getR O zf_RX7_25 zt_169 rfl (by decide) dX7_adoptTrial_1 ?_
  refine zV_aload_n O dX7_adoptTrial_4 rfl rfl ?_
  refine zV_getR O zf_RX7_10 zt_169 rfl (by decide) dX7_adoptTrial_5 ?_
  refine zV_callV (as := [aR 0]) (st := []) O zc_X0_add (Or.inr ⟨_, zl_RX7_249⟩) zi_841 zi_56 zt_170 rfl rfl (by decide) (Nat.le_of_ble_eq_true rfl) rfl rfl (Nat.le_of_ble_eq_true rfl) (Nat.le_of_ble_eq_true rfl) (Nat.le_of_ble_eq_true rfl) (Nat.le_of_ble_eq_true rfl) (Nat.le_of_ble_eq_true rfl) (Nat.le_of_ble_eq_true rfl) dX7_adoptTrial_8 (sX0_add zisN_0 hM) (fun r h3 hq => ?_) (fun x h9 hq => hq.elim)
  obtain ⟨rfl, hM⟩ := hq
  refine zV_aload_n O dX7_adoptTrial_11 rfl rfl ?_
  refine zV_getR O zf_RX7_10 zt_169 rfl (by decide) dX7_adoptTrial_12 ?_
  refine zV_aload_n O dX7_adoptTrial_15 rfl rfl ?_
  refine zV_getR O zf_RX7_16 zt_169 rfl (by decide) dX7_adoptTrial_16 ?_
  refine zV_callV (as := [aR 13]) (st := []) O zc_X3_copyFrom (Or.inr ⟨_, zl_RX7_95⟩) zi_676 zi_37 (zN_o zisN_0) rfl rfl (zN_lt0 zisN_0) (Nat.le_of_ble_eq_true rfl) rfl rfl (Nat.le_of_ble_eq_true rfl) (Nat.le_of_ble_eq_true rfl) (Nat.le_of_ble_eq_true rfl) (Nat.le_of_ble_eq_true rfl) (Nat.le_of_ble_eq_true rfl) (Nat.le_of_ble_eq_true rfl) dX7_adoptTrial_19 (sX3_copyFrom zisN_0 zisN_13 hM) (fun r h4 hq => ?_) (fun x h9 hq => hq.elim)
  obtain ⟨rfl, hM⟩ := hq
  exact zV_vret O rfl ⟨rfl, hM⟩ (Nat.le_of_ble_eq_true rfl) (Nat.le_of_ble_eq_true rfl) dX7_adoptTrial_22
def mX7_close  (h : Hp) (Q : Int → Hp → Prop) : Prop := ((¬ (h 0 7) = 0 → (mX0_add 0 h (fun h6 => (∀ h7 : Hp, h7 = hu h6 0 7 0 → (mX3_hostsOfOffice 0 0 h7 (fun z8 => (Q z8 h7))))))) ∧ ((h 0 7) = 0 → (Q (-2) h)))
set_option maxHeartbeats 4000000 in
set_option maxRecDepth 100000 in
theorem sX7_close {l0 : Launch}  {h : Hp} {Q : Int → Hp → Prop}  (hM : mX7_close  h Q) : zSp l0 yX7_close cX7_close 1 (some .int) 185 (6) 0 0 [aR 169] h (qI Q) xN := by
  unfold mX7_close at hM
  refine zSp_intro zpn_RX7 (Nat.le_of_ble_eq_true rfl) (fun a O => ?_)
  show zV a (6, 0, 0, (qI Q), xN) 0 0 0 [some (aR 169)] [] h
  refine zV_aload_n O dX7_close_0 rfl rfl ?_
  refine zV_getR O zf_RX7_10 zt_169 rfl (by decide) dX7_close_1 ?_
  refine zV_getZ O zf_RX7_128 (zN_o zisN_0) rfl (zN_lt0 zisN_0) dX7_close_4 (fun hz5 => ?_)
  refine zV_if_ne (tgt := 13) O dX7_close_7 (by decide) (fun hc => ?_) (fun hc => ?_)
  · replace hM := hM.1 hc
    refine zV_aload_n O dX7_close_13 rfl rfl ?_
    refine zV_getR O zf_RX7_25 zt_169 rfl (by decide) dX7_close_14 ?_
    refine zV_aload_n O dX7_close_17 rfl rfl ?_
    refine zV_getR O zf_RX7_10 zt_169 rfl (by decide) dX7_close_18 ?_
    refine zV_callV (as := [aR 0]) (st := []) O zc_X0_add (Or.inr ⟨_, zl_RX7_249⟩) zi_841 zi_56 zt_170 rfl rfl (by decide) (Nat.le_of_ble_eq_true rfl) rfl rfl (Nat.le_of_ble_eq_true rfl) (Nat.le_of_ble_eq_true rfl) (Nat.le_of_ble_eq_true rfl) (Nat.le_of_ble_eq_true rfl) (Nat.le_of_ble_eq_true rfl) (Nat.le_of_ble_eq_true rfl) dX7_close_21 (sX0_add zisN_0 hM) (fun r h6 hq => ?_) (fun x h9 hq => hq.elim)
    obtain ⟨rfl, hM⟩ := hq
    refine zV_aload_n O dX7_close_24 rfl rfl ?_
    refine zV_getR O zf_RX7_10 zt_169 rfl (by decide) dX7_close_25 ?_
    refine zV_iconst (z := 0) O ⟨by omega, by omega⟩ dX7_close_28 ?_
    refine zV_putZ O zf_RX7_128 (zN_o zisN_0) rfl (zN_lt0 zisN_0) (Or.inl rfl) dX7_close_29 ?_
    have hM := hM _ rfl
    generalize hu h6 0 7 0 = h7 at hM ⊢
    refine zV_aload_n O dX7_close_32 rfl rfl ?_
    refine zV_getR O zf_RX7_10 zt_169 rfl (by decide) dX7_close_33 ?_
    refine zV_iconst (z := 0) O ⟨by omega, by omega⟩ dX7_close_36 ?_
    refine zV_callV (as := [aI 0]) (st := []) O zc_X3_hostsOfOffice (Or.inr ⟨_, zl_RX7_281⟩) zi_934 zi_68 (zN_o zisN_0) rfl rfl (zN_lt0 zisN_0) (Nat.le_of_ble_eq_true rfl) rfl rfl (Nat.le_of_ble_eq_true rfl) (Nat.le_of_ble_eq_true rfl) (Nat.le_of_ble_eq_true rfl) (Nat.le_of_ble_eq_true rfl) (Nat.le_of_ble_eq_true rfl) (Nat.le_of_ble_eq_true rfl) dX7_close_37 (sX3_hostsOfOffice zisN_0 hM) (fun r h9 hq => ?_) (fun x h9 hq => hq.elim)
    obtain ⟨rfl, z8, rfl, hM⟩ := hq
    exact zV_iret O rfl ⟨_, rfl, hM⟩ (Nat.le_of_ble_eq_true rfl) (Nat.le_of_ble_eq_true rfl) dX7_close_40
  · replace hM := hM.2 hc
    refine zV_bipush (z := -2) O ⟨by omega, by omega⟩ rfl dX7_close_10 ?_
    exact zV_iret O rfl ⟨_, rfl, hM⟩ (Nat.le_of_ble_eq_true rfl) (Nat.le_of_ble_eq_true rfl) dX7_close_12
def mX7_open  (h : Hp) (Q : Int → Hp → Prop) : Prop := (((h 0 7) = 0 → (mX7_clashCount 0 h (fun z7 h8 => ((z7 ≤ 0 → (mX0_add 0 h8 (fun h9 => (∀ h10 : Hp, h10 = hu h9 0 7 1 → (Q (h10 0 0) h10))))) ∧ (¬ z7 ≤ 0 → (Q (-3) h8)))))) ∧ (¬ (h 0 7) = 0 → (Q (-2) h)))
set_option maxHeartbeats 4000000 in
set_option maxRecDepth 100000 in
theorem sX7_open {l0 : Launch}  {h : Hp} {Q : Int → Hp → Prop}  (hM : mX7_open  h Q) : zSp l0 yX7_open cX7_open 1 (some .int) 185 (6) 0 0 [aR 169] h (qI Q) xN := by
  unfold mX7_open at hM
  refine zSp_intro zpn_RX7 (Nat.le_of_ble_eq_true rfl) (fun a O => ?_)
  show zV a (6, 0, 0, (qI Q), xN) 0 0 0 [some (aR 169)] [] h
  refine zV_aload_n O dX7_open_0 rfl rfl ?_
  refine zV_getR O zf_RX7_10 zt_169 rfl (by decide) dX7_open_1 ?_
  refine zV_getZ O zf_RX7_128 (zN_o zisN_0) rfl (zN_lt0 zisN_0) dX7_open_4 (fun hz6 => ?_)
  refine zV_if_eq (tgt := 13) O dX7_open_7 (by decide) (fun hc => ?_) (fun hc => ?_)
  · replace hM := hM.1 hc
    refine zV_aload_n O dX7_open_13 rfl rfl ?_
    refine zV_aload_n O dX7_open_14 rfl rfl ?_
    refine zV_getR O zf_RX7_10 zt_169 rfl (by decide) dX7_open_15 ?_
    refine zV_callV (as := [aR 0]) (st := []) O zc_X7_clashCount (Or.inl zl_RX7_131) zi_699 zi_40 zt_169 rfl rfl (by decide) (Nat.le_of_ble_eq_true rfl) rfl rfl (Nat.le_of_ble_eq_true rfl) (Nat.le_of_ble_eq_true rfl) (Nat.le_of_ble_eq_true rfl) (Nat.le_of_ble_eq_true rfl) (Nat.le_of_ble_eq_true rfl) (Nat.le_of_ble_eq_true rfl) dX7_open_18 (sX7_clashCount zisN_0 hM) (fun r h8 hq => ?_) (fun x h9 hq => hq.elim)
    obtain ⟨z7, rfl, hM⟩ := hq
    refine zV_if_le (tgt := 27) O dX7_open_21 (by decide) (fun hc => ?_) (fun hc => ?_)
    · replace hM := hM.1 hc
      refine zV_aload_n O dX7_open_27 rfl rfl ?_
      refine zV_getR O zf_RX7_25 zt_169 rfl (by decide) dX7_open_28 ?_
      refine zV_aload_n O dX7_open_31 rfl rfl ?_
      refine zV_getR O zf_RX7_10 zt_169 rfl (by decide) dX7_open_32 ?_
      refine zV_callV (as := [aR 0]) (st := []) O zc_X0_add (Or.inr ⟨_, zl_RX7_249⟩) zi_841 zi_56 zt_170 rfl rfl (by decide) (Nat.le_of_ble_eq_true rfl) rfl rfl (Nat.le_of_ble_eq_true rfl) (Nat.le_of_ble_eq_true rfl) (Nat.le_of_ble_eq_true rfl) (Nat.le_of_ble_eq_true rfl) (Nat.le_of_ble_eq_true rfl) (Nat.le_of_ble_eq_true rfl) dX7_open_35 (sX0_add zisN_0 hM) (fun r h9 hq => ?_) (fun x h9 hq => hq.elim)
      obtain ⟨rfl, hM⟩ := hq
      refine zV_aload_n O dX7_open_38 rfl rfl ?_
      refine zV_getR O zf_RX7_10 zt_169 rfl (by decide) dX7_open_39 ?_
      refine zV_iconst (z := 1) O ⟨by omega, by omega⟩ dX7_open_42 ?_
      refine zV_putZ O zf_RX7_128 (zN_o zisN_0) rfl (zN_lt0 zisN_0) (Or.inr rfl) dX7_open_43 ?_
      have hM := hM _ rfl
      generalize hu h9 0 7 1 = h10 at hM ⊢
      refine zV_aload_n O dX7_open_46 rfl rfl ?_
      refine zV_getR O zf_RX7_10 zt_169 rfl (by decide) dX7_open_47 ?_
      refine zV_getI O zf_RX7_104 (zN_o zisN_0) rfl (zN_lt0 zisN_0) dX7_open_50 ?_
      exact zV_iret O rfl ⟨_, rfl, hM⟩ (Nat.le_of_ble_eq_true rfl) (Nat.le_of_ble_eq_true rfl) dX7_open_53
    · replace hM := hM.2 hc
      refine zV_bipush (z := -3) O ⟨by omega, by omega⟩ rfl dX7_open_24 ?_
      exact zV_iret O rfl ⟨_, rfl, hM⟩ (Nat.le_of_ble_eq_true rfl) (Nat.le_of_ble_eq_true rfl) dX7_open_26
  · replace hM := hM.2 hc
    refine zV_bipush (z := -2) O ⟨by omega, by omega⟩ rfl dX7_open_10 ?_
    exact zV_iret O rfl ⟨_, rfl, hM⟩ (Nat.le_of_ble_eq_true rfl) (Nat.le_of_ble_eq_true rfl) dX7_open_12
def mX7_plan_b69 (Q : Int → Hp → Prop) (v1 : Int) (v2 : Int) (v3 : Int) (s0 : Int) (s1 : Int) (h : Hp) : Prop := (zr (s1 - s0) ∧ (((s1 - s0) < (h 0 4) → (mX0_add 0 h (fun h6 => (mX3_setPlan 0 v1 v2 v3 h6 (fun h7 => (zr ((s1 - s0) + 1) ∧ (Q ((s1 - s0) + 1) h7))))))) ∧ (¬ (s1 - s0) < (h 0 4) → (Q (-4) h))))
set_option maxHeartbeats 4000000 in
set_option maxRecDepth 100000 in
theorem sX7_plan_b69 {l0 : Launch} {a : ZC}  {Q : Int → Hp → Prop}  (O : zOk l0 a cX7_plan RX7 5 (some .int) 185 [])   {v1 : Int} {v2 : Int} {v3 : Int} {s0 : Int} {s1 : Int} {h : Hp} (hz_s0 : s0 = 0 ∨ s0 = 1) (hM : mX7_plan_b69 Q v1 v2 v3 s0 s1 h) : zV a (6, 0, 0, (qI Q), xN) 0 0 69 [some (aR 169), some (aI v1), some (aI v2), some (aI v3), none] [aI s0, aI s1] h := by
  unfold mX7_plan_b69 at hM
  obtain ⟨hc, hM⟩ := hM
  refine zV_isub O dX7_plan_69 hc ?_
  refine zV_istore O dX7_plan_70 (Nat.le_of_ble_eq_true rfl) rfl ?_
  refine zV_iload O dX7_plan_72 rfl ?_
  refine zV_aload_n O dX7_plan_74 rfl rfl ?_
  refine zV_getR O zf_RX7_10 zt_169 rfl (by decide) dX7_plan_75 ?_
  refine zV_getI O zf_RX7_119 (zN_o zisN_0) rfl (zN_lt0 zisN_0) dX7_plan_78 ?_
  refine zV_icmp_lt (tgt := 87) O dX7_plan_81 (by decide) (fun hc => ?_) (fun hc => ?_)
  · replace hM := hM.1 hc
    refine zV_aload_n O dX7_plan_87 rfl rfl ?_
    refine zV_getR O zf_RX7_25 zt_169 rfl (by decide) dX7_plan_88 ?_
    refine zV_aload_n O dX7_plan_91 rfl rfl ?_
    refine zV_getR O zf_RX7_10 zt_169 rfl (by decide) dX7_plan_92 ?_
    refine zV_callV (as := [aR 0]) (st := []) O zc_X0_add (Or.inr ⟨_, zl_RX7_249⟩) zi_841 zi_56 zt_170 rfl rfl (by decide) (Nat.le_of_ble_eq_true rfl) rfl rfl (Nat.le_of_ble_eq_true rfl) (Nat.le_of_ble_eq_true rfl) (Nat.le_of_ble_eq_true rfl) (Nat.le_of_ble_eq_true rfl) (Nat.le_of_ble_eq_true rfl) (Nat.le_of_ble_eq_true rfl) dX7_plan_95 (sX0_add zisN_0 hM) (fun r h6 hq => ?_) (fun x h9 hq => hq.elim)
    obtain ⟨rfl, hM⟩ := hq
    refine zV_aload_n O dX7_plan_98 rfl rfl ?_
    refine zV_getR O zf_RX7_10 zt_169 rfl (by decide) dX7_plan_99 ?_
    refine zV_iload_n O dX7_plan_102 rfl rfl ?_
    refine zV_iload_n O dX7_plan_103 rfl rfl ?_
    refine zV_iload_n O dX7_plan_104 rfl rfl ?_
    refine zV_callV (as := [aI v1, aI v2, aI v3]) (st := []) O zc_X3_setPlan (Or.inr ⟨_, zl_RX7_259⟩) zi_672 zi_36 (zN_o zisN_0) rfl rfl (zN_lt0 zisN_0) (Nat.le_of_ble_eq_true rfl) rfl rfl (Nat.le_of_ble_eq_true rfl) (Nat.le_of_ble_eq_true rfl) (Nat.le_of_ble_eq_true rfl) (Nat.le_of_ble_eq_true rfl) (Nat.le_of_ble_eq_true rfl) (Nat.le_of_ble_eq_true rfl) dX7_plan_105 (sX3_setPlan zisN_0 hM) (fun r h7 hq => ?_) (fun x h9 hq => hq.elim)
    obtain ⟨rfl, hM⟩ := hq
    refine zV_iload O dX7_plan_108 rfl ?_
    refine zV_iconst (z := 1) O ⟨by omega, by omega⟩ dX7_plan_110 ?_
    obtain ⟨hc, hM⟩ := hM
    refine zV_iadd O dX7_plan_111 hc ?_
    exact zV_iret O rfl ⟨_, rfl, hM⟩ (Nat.le_of_ble_eq_true rfl) (Nat.le_of_ble_eq_true rfl) dX7_plan_112
  · replace hM := hM.2 hc
    refine zV_bipush (z := -4) O ⟨by omega, by omega⟩ rfl dX7_plan_84 ?_
    exact zV_iret O rfl ⟨_, rfl, hM⟩ (Nat.le_of_ble_eq_true rfl) (Nat.le_of_ble_eq_true rfl) dX7_plan_86
def mX7_plan (x1 : Int) (x2 : Int) (x3 : Int) (h : Hp) (Q : Int → Hp → Prop) : Prop := (mX7_needHost x1 h ((mX7_needNumber x2 h ((mX7_needWave x3 h ((((0 : Int) ≤ x1 ∧ x1 < 40) ∧ ((¬ (rd h 4 x1) = (1 : Int) → (((h 0 2) < x3 → (mX3_plansIn 0 x3 h (fun z8 => (((0 : Int) ≤ x1 ∧ x1 < 40) ∧ ((¬ (rd h 6 x1) = x3 → (mX7_plan_b69 Q x1 x2 x3 0 z8 h)) ∧ ((rd h 6 x1) = x3 → (mX7_plan_b69 Q x1 x2 x3 1 z8 h))))))) ∧ (¬ (h 0 2) < x3 → (Q (-3) h)))) ∧ ((rd h 4 x1) = (1 : Int) → (Q (-2) h))))))))))
set_option maxHeartbeats 4000000 in
set_option maxRecDepth 100000 in
theorem sX7_plan {l0 : Launch} {x1 : Int} {x2 : Int} {x3 : Int} {h : Hp} {Q : Int → Hp → Prop}  (hM : mX7_plan x1 x2 x3 h Q) : zSp l0 yX7_plan cX7_plan 5 (some .int) 185 (6) 0 0 [aR 169, aI x1, aI x2, aI x3] h (qI Q) xN := by
  unfold mX7_plan at hM
  refine zSp_intro zpn_RX7 (Nat.le_of_ble_eq_true rfl) (fun a O => ?_)
  show zV a (6, 0, 0, (qI Q), xN) 0 0 0 [some (aR 169), some (aI x1), some (aI x2), some (aI x3), none] [] h
  refine zV_aload_n O dX7_plan_0 rfl rfl ?_
  refine zV_iload_n O dX7_plan_1 rfl rfl ?_
  refine zV_callV (as := [aI x1]) (st := []) O zc_X7_needHost (Or.inl zl_RX7_141) zi_751 zi_45 zt_169 rfl rfl (by decide) (Nat.le_of_ble_eq_true rfl) rfl rfl (Nat.le_of_ble_eq_true rfl) (Nat.le_of_ble_eq_true rfl) (Nat.le_of_ble_eq_true rfl) (Nat.le_of_ble_eq_true rfl) (Nat.le_of_ble_eq_true rfl) (Nat.le_of_ble_eq_true rfl) dX7_plan_2 (sX7_needHost hM) (fun r h9 hq => ?_) (fun x h9 hq => hq.elim)
  obtain ⟨rfl, rfl, hM⟩ := hq
  refine zV_iload_n O dX7_plan_5 rfl rfl ?_
  refine zV_callS (as := [aI x2]) (st := []) O zc_X7_needNumber (Or.inl zl_RX7_178) zi_771 (Nat.le_of_ble_eq_true rfl) rfl rfl (Nat.le_of_ble_eq_true rfl) (Nat.le_of_ble_eq_true rfl) (Nat.le_of_ble_eq_true rfl) (Nat.le_of_ble_eq_true rfl) (Nat.le_of_ble_eq_true rfl) (Nat.le_of_ble_eq_true rfl) dX7_plan_6 (sX7_needNumber hM) (fun r h9 hq => ?_) (fun x h9 hq => hq.elim)
  obtain ⟨rfl, rfl, hM⟩ := hq
  refine zV_iload_n O dX7_plan_9 rfl rfl ?_
  refine zV_callS (as := [aI x3]) (st := []) O zc_X7_needWave (Or.inl zl_RX7_191) zi_790 (Nat.le_of_ble_eq_true rfl) rfl rfl (Nat.le_of_ble_eq_true rfl) (Nat.le_of_ble_eq_true rfl) (Nat.le_of_ble_eq_true rfl) (Nat.le_of_ble_eq_true rfl) (Nat.le_of_ble_eq_true rfl) (Nat.le_of_ble_eq_true rfl) dX7_plan_10 (sX7_needWave hM) (fun r h9 hq => ?_) (fun x h9 hq => hq.elim)
  obtain ⟨rfl, rfl, hM⟩ := hq
  refine zV_aload_n O dX7_plan_13 rfl rfl ?_
  refine zV_getR O zf_RX7_10 zt_169 rfl (by decide) dX7_plan_14 ?_
  refine zV_getR O zf_RX7_155 (zN_o zisN_0) rfl (zN_lt0 zisN_0) dX7_plan_17 ?_
  refine zV_iload_n O dX7_plan_20 rfl rfl ?_
  obtain ⟨hc, hM⟩ := hM
  refine zV_iald O zt_4 (by decide) hc dX7_plan_21 ?_
  refine zV_iconst (z := 1) O ⟨by omega, by omega⟩ dX7_plan_22 ?_
  refine zV_icmp_ne (tgt := 29) O dX7_plan_23 (by decide) (fun hc => ?_) (fun hc => ?_)
  · replace hM := hM.1 hc
    refine zV_iload_n O dX7_plan_29 rfl rfl ?_
    refine zV_aload_n O dX7_plan_30 rfl rfl ?_
    refine zV_getR O zf_RX7_10 zt_169 rfl (by decide) dX7_plan_31 ?_
    refine zV_getI O zf_RX7_113 (zN_o zisN_0) rfl (zN_lt0 zisN_0) dX7_plan_34 ?_
    refine zV_icmp_gt (tgt := 43) O dX7_plan_37 (by decide) (fun hc => ?_) (fun hc => ?_)
    · replace hM := hM.1 hc
      refine zV_aload_n O dX7_plan_43 rfl rfl ?_
      refine zV_getR O zf_RX7_10 zt_169 rfl (by decide) dX7_plan_44 ?_
      refine zV_iload_n O dX7_plan_47 rfl rfl ?_
      refine zV_callV (as := [aI x3]) (st := []) O zc_X3_plansIn (Or.inr ⟨_, zl_RX7_194⟩) zi_668 zi_35 (zN_o zisN_0) rfl rfl (zN_lt0 zisN_0) (Nat.le_of_ble_eq_true rfl) rfl rfl (Nat.le_of_ble_eq_true rfl) (Nat.le_of_ble_eq_true rfl) (Nat.le_of_ble_eq_true rfl) (Nat.le_of_ble_eq_true rfl) (Nat.le_of_ble_eq_true rfl) (Nat.le_of_ble_eq_true rfl) dX7_plan_48 (sX3_plansIn zisN_0 hM) (fun r h9 hq => ?_) (fun x h9 hq => hq.elim)
      obtain ⟨rfl, z8, rfl, hM⟩ := hq
      refine zV_aload_n O dX7_plan_51 rfl rfl ?_
      refine zV_getR O zf_RX7_10 zt_169 rfl (by decide) dX7_plan_52 ?_
      refine zV_getR O zf_RX7_161 (zN_o zisN_0) rfl (zN_lt0 zisN_0) dX7_plan_55 ?_
      refine zV_iload_n O dX7_plan_58 rfl rfl ?_
      obtain ⟨hc, hM⟩ := hM
      refine zV_iald O zt_6 (by decide) hc dX7_plan_59 ?_
      refine zV_iload_n O dX7_plan_60 rfl rfl ?_
      refine zV_icmp_ne (tgt := 68) O dX7_plan_61 (by decide) (fun hc => ?_) (fun hc => ?_)
      · replace hM := hM.1 hc
        refine zV_iconst (z := 0) O ⟨by omega, by omega⟩ dX7_plan_68 ?_
        exact sX7_plan_b69 O (Or.inl rfl) hM
      · replace hM := hM.2 hc
        refine zV_iconst (z := 1) O ⟨by omega, by omega⟩ dX7_plan_64 ?_
        refine zV_goto (tgt := 69) O dX7_plan_65 (by decide) ?_
        exact sX7_plan_b69 O (Or.inr rfl) hM
    · replace hM := hM.2 hc
      refine zV_bipush (z := -3) O ⟨by omega, by omega⟩ rfl dX7_plan_40 ?_
      exact zV_iret O rfl ⟨_, rfl, hM⟩ (Nat.le_of_ble_eq_true rfl) (Nat.le_of_ble_eq_true rfl) dX7_plan_42
  · replace hM := hM.2 hc
    refine zV_bipush (z := -2) O ⟨by omega, by omega⟩ rfl dX7_plan_26 ?_
    exact zV_iret O rfl ⟨_, rfl, hM⟩ (Nat.le_of_ble_eq_true rfl) (Nat.le_of_ble_eq_true rfl) dX7_plan_28
def mX7_removeHost (x1 : Int) (h : Hp) (Q : Int → Hp → Prop) : Prop := (mX7_needHost x1 h ((mX0_add 0 h (fun h3 => (mX3_dropHost 0 x1 h3 (fun h4 => (Q (h4 0 0) h4)))))))
set_option maxHeartbeats 4000000 in
set_option maxRecDepth 100000 in
theorem sX7_removeHost {l0 : Launch} {x1 : Int} {h : Hp} {Q : Int → Hp → Prop}  (hM : mX7_removeHost x1 h Q) : zSp l0 yX7_removeHost cX7_removeHost 2 (some .int) 185 (6) 0 0 [aR 169, aI x1] h (qI Q) xN := by
  unfold mX7_removeHost at hM
  refine zSp_intro zpn_RX7 (Nat.le_of_ble_eq_true rfl) (fun a O => ?_)
  show zV a (6, 0, 0, (qI Q), xN) 0 0 0 [some (aR 169), some (aI x1)] [] h
  refine zV_aload_n O dX7_removeHost_0 rfl rfl ?_
  refine zV_iload_n O dX7_removeHost_1 rfl rfl ?_
  refine zV_callV (as := [aI x1]) (st := []) O zc_X7_needHost (Or.inl zl_RX7_141) zi_751 zi_45 zt_169 rfl rfl (by decide) (Nat.le_of_ble_eq_true rfl) rfl rfl (Nat.le_of_ble_eq_true rfl) (Nat.le_of_ble_eq_true rfl) (Nat.le_of_ble_eq_true rfl) (Nat.le_of_ble_eq_true rfl) (Nat.le_of_ble_eq_true rfl) (Nat.le_of_ble_eq_true rfl) dX7_removeHost_2 (sX7_needHost hM) (fun r h9 hq => ?_) (fun x h9 hq => hq.elim)
  obtain ⟨rfl, rfl, hM⟩ := hq
  refine zV_aload_n O dX7_removeHost_5 rfl rfl ?_
  refine zV_getR O zf_RX7_25 zt_169 rfl (by decide) dX7_removeHost_6 ?_
  refine zV_aload_n O dX7_removeHost_9 rfl rfl ?_
  refine zV_getR O zf_RX7_10 zt_169 rfl (by decide) dX7_removeHost_10 ?_
  refine zV_callV (as := [aR 0]) (st := []) O zc_X0_add (Or.inr ⟨_, zl_RX7_249⟩) zi_841 zi_56 zt_170 rfl rfl (by decide) (Nat.le_of_ble_eq_true rfl) rfl rfl (Nat.le_of_ble_eq_true rfl) (Nat.le_of_ble_eq_true rfl) (Nat.le_of_ble_eq_true rfl) (Nat.le_of_ble_eq_true rfl) (Nat.le_of_ble_eq_true rfl) (Nat.le_of_ble_eq_true rfl) dX7_removeHost_13 (sX0_add zisN_0 hM) (fun r h3 hq => ?_) (fun x h9 hq => hq.elim)
  obtain ⟨rfl, hM⟩ := hq
  refine zV_aload_n O dX7_removeHost_16 rfl rfl ?_
  refine zV_getR O zf_RX7_10 zt_169 rfl (by decide) dX7_removeHost_17 ?_
  refine zV_iload_n O dX7_removeHost_20 rfl rfl ?_
  refine zV_callV (as := [aI x1]) (st := []) O zc_X3_dropHost (Or.inr ⟨_, zl_RX7_256⟩) zi_871 zi_59 (zN_o zisN_0) rfl rfl (zN_lt0 zisN_0) (Nat.le_of_ble_eq_true rfl) rfl rfl (Nat.le_of_ble_eq_true rfl) (Nat.le_of_ble_eq_true rfl) (Nat.le_of_ble_eq_true rfl) (Nat.le_of_ble_eq_true rfl) (Nat.le_of_ble_eq_true rfl) (Nat.le_of_ble_eq_true rfl) dX7_removeHost_21 (sX3_dropHost zisN_0 hM) (fun r h4 hq => ?_) (fun x h9 hq => hq.elim)
  obtain ⟨rfl, hM⟩ := hq
  refine zV_aload_n O dX7_removeHost_24 rfl rfl ?_
  refine zV_getR O zf_RX7_10 zt_169 rfl (by decide) dX7_removeHost_25 ?_
  refine zV_getI O zf_RX7_104 (zN_o zisN_0) rfl (zN_lt0 zisN_0) dX7_removeHost_28 ?_
  exact zV_iret O rfl ⟨_, rfl, hM⟩ (Nat.le_of_ble_eq_true rfl) (Nat.le_of_ble_eq_true rfl) dX7_removeHost_31
def mX7_removeRule (x1 : Int) (h : Hp) (Q : Int → Hp → Prop) : Prop := (mX7_needRule x1 h ((mX0_add 0 h (fun h3 => (mX3_dropRule 0 x1 h3 (fun h4 => (Q (h4 0 1) h4)))))))
set_option maxHeartbeats 4000000 in
set_option maxRecDepth 100000 in
theorem sX7_removeRule {l0 : Launch} {x1 : Int} {h : Hp} {Q : Int → Hp → Prop}  (hM : mX7_removeRule x1 h Q) : zSp l0 yX7_removeRule cX7_removeRule 2 (some .int) 185 (6) 0 0 [aR 169, aI x1] h (qI Q) xN := by
  unfold mX7_removeRule at hM
  refine zSp_intro zpn_RX7 (Nat.le_of_ble_eq_true rfl) (fun a O => ?_)
  show zV a (6, 0, 0, (qI Q), xN) 0 0 0 [some (aR 169), some (aI x1)] [] h
  refine zV_aload_n O dX7_removeRule_0 rfl rfl ?_
  refine zV_iload_n O dX7_removeRule_1 rfl rfl ?_
  refine zV_callV (as := [aI x1]) (st := []) O zc_X7_needRule (Or.inl zl_RX7_197) zi_950 zi_69 zt_169 rfl rfl (by decide) (Nat.le_of_ble_eq_true rfl) rfl rfl (Nat.le_of_ble_eq_true rfl) (Nat.le_of_ble_eq_true rfl) (Nat.le_of_ble_eq_true rfl) (Nat.le_of_ble_eq_true rfl) (Nat.le_of_ble_eq_true rfl) (Nat.le_of_ble_eq_true rfl) dX7_removeRule_2 (sX7_needRule hM) (fun r h9 hq => ?_) (fun x h9 hq => hq.elim)
  obtain ⟨rfl, rfl, hM⟩ := hq
  refine zV_aload_n O dX7_removeRule_5 rfl rfl ?_
  refine zV_getR O zf_RX7_25 zt_169 rfl (by decide) dX7_removeRule_6 ?_
  refine zV_aload_n O dX7_removeRule_9 rfl rfl ?_
  refine zV_getR O zf_RX7_10 zt_169 rfl (by decide) dX7_removeRule_10 ?_
  refine zV_callV (as := [aR 0]) (st := []) O zc_X0_add (Or.inr ⟨_, zl_RX7_249⟩) zi_841 zi_56 zt_170 rfl rfl (by decide) (Nat.le_of_ble_eq_true rfl) rfl rfl (Nat.le_of_ble_eq_true rfl) (Nat.le_of_ble_eq_true rfl) (Nat.le_of_ble_eq_true rfl) (Nat.le_of_ble_eq_true rfl) (Nat.le_of_ble_eq_true rfl) (Nat.le_of_ble_eq_true rfl) dX7_removeRule_13 (sX0_add zisN_0 hM) (fun r h3 hq => ?_) (fun x h9 hq => hq.elim)
  obtain ⟨rfl, hM⟩ := hq
  refine zV_aload_n O dX7_removeRule_16 rfl rfl ?_
  refine zV_getR O zf_RX7_10 zt_169 rfl (by decide) dX7_removeRule_17 ?_
  refine zV_iload_n O dX7_removeRule_20 rfl rfl ?_
  refine zV_callV (as := [aI x1]) (st := []) O zc_X3_dropRule (Or.inr ⟨_, zl_RX7_291⟩) zi_954 zi_70 (zN_o zisN_0) rfl rfl (zN_lt0 zisN_0) (Nat.le_of_ble_eq_true rfl) rfl rfl (Nat.le_of_ble_eq_true rfl) (Nat.le_of_ble_eq_true rfl) (Nat.le_of_ble_eq_true rfl) (Nat.le_of_ble_eq_true rfl) (Nat.le_of_ble_eq_true rfl) (Nat.le_of_ble_eq_true rfl) dX7_removeRule_21 (sX3_dropRule zisN_0 hM) (fun r h4 hq => ?_) (fun x h9 hq => hq.elim)
  obtain ⟨rfl, hM⟩ := hq
  refine zV_aload_n O dX7_removeRule_24 rfl rfl ?_
  refine zV_getR O zf_RX7_10 zt_169 rfl (by decide) dX7_removeRule_25 ?_
  refine zV_getI O zf_RX7_107 (zN_o zisN_0) rfl (zN_lt0 zisN_0) dX7_removeRule_28 ?_
  exact zV_iret O rfl ⟨_, rfl, hM⟩ (Nat.le_of_ble_eq_true rfl) (Nat.le_of_ble_eq_true rfl) dX7_removeRule_31
def mX7_setPinned_b43 (Q : Int → Hp → Prop) (v1 : Int) (v2 : Int) (v3 : Int) (s0 : Int) (s1 : Int) (h : Hp) : Prop := (((0 : Int) ≤ s1 ∧ s1 < 40) ∧ (∀ h6 : Hp, h6 = wr h 4 s1 s0 → ((v2 = 0 → (Q v3 h6)) ∧ (¬ v2 = 0 → (mX3_setPlan 0 v1 0 0 h6 (fun h7 => (Q v3 h7)))))))
set_option maxHeartbeats 4000000 in
set_option maxRecDepth 100000 in
theorem sX7_setPinned_b43 {l0 : Launch} {a : ZC}  {Q : Int → Hp → Prop}  (O : zOk l0 a cX7_setPinned RX7 4 (some .int) 185 [])   {v1 : Int} {v2 : Int} {v3 : Int} {s0 : Int} {s1 : Int} {h : Hp} (hz_s0 : s0 = 0 ∨ s0 = 1) (hM : mX7_setPinned_b43 Q v1 v2 v3 s0 s1 h) : zV a (6, 0, 0, (qI Q), xN) 0 0 43 [some (aR 169), some (aI v1), some (aI v2), some (aI v3)] [aI s0, aI s1, aR 4] h := by
  unfold mX7_setPinned_b43 at hM
  obtain ⟨hc, hM⟩ := hM
  refine zV_iast O zt_4 (by decide) hc dX7_setPinned_43 ?_
  have hM := hM (hu h 4 (Int.toNat s1) s0) rfl
  generalize hu h 4 (Int.toNat s1) s0 = h6 at hM ⊢
  refine zV_iload_n O dX7_setPinned_44 rfl rfl ?_
  refine zV_if_eq (tgt := 58) O dX7_setPinned_45 (by decide) (fun hc => ?_) (fun hc => ?_)
  · replace hM := hM.1 hc
    refine zV_iload_n O dX7_setPinned_58 rfl rfl ?_
    exact zV_iret O rfl ⟨_, rfl, hM⟩ (Nat.le_of_ble_eq_true rfl) (Nat.le_of_ble_eq_true rfl) dX7_setPinned_59
  · replace hM := hM.2 hc
    refine zV_aload_n O dX7_setPinned_48 rfl rfl ?_
    refine zV_getR O zf_RX7_10 zt_169 rfl (by decide) dX7_setPinned_49 ?_
    refine zV_iload_n O dX7_setPinned_52 rfl rfl ?_
    refine zV_iconst (z := 0) O ⟨by omega, by omega⟩ dX7_setPinned_53 ?_
    refine zV_iconst (z := 0) O ⟨by omega, by omega⟩ dX7_setPinned_54 ?_
    refine zV_callV (as := [aI v1, aI 0, aI 0]) (st := []) O zc_X3_setPlan (Or.inr ⟨_, zl_RX7_259⟩) zi_672 zi_36 (zN_o zisN_0) rfl rfl (zN_lt0 zisN_0) (Nat.le_of_ble_eq_true rfl) rfl rfl (Nat.le_of_ble_eq_true rfl) (Nat.le_of_ble_eq_true rfl) (Nat.le_of_ble_eq_true rfl) (Nat.le_of_ble_eq_true rfl) (Nat.le_of_ble_eq_true rfl) (Nat.le_of_ble_eq_true rfl) dX7_setPinned_55 (sX3_setPlan zisN_0 hM) (fun r h7 hq => ?_) (fun x h9 hq => hq.elim)
    obtain ⟨rfl, hM⟩ := hq
    refine zV_iload_n O dX7_setPinned_58 rfl rfl ?_
    exact zV_iret O rfl ⟨_, rfl, hM⟩ (Nat.le_of_ble_eq_true rfl) (Nat.le_of_ble_eq_true rfl) dX7_setPinned_59
def mX7_setPinned (x1 : Int) (x2 : Int) (h : Hp) (Q : Int → Hp → Prop) : Prop := (mX7_needHost x1 h ((mX0_add 0 h (fun h8 => (((0 : Int) ≤ x1 ∧ x1 < 40) ∧ ((x2 = 0 → (mX7_setPinned_b43 Q x1 x2 (rd h8 4 x1) 0 x1 h8)) ∧ (¬ x2 = 0 → (mX7_setPinned_b43 Q x1 x2 (rd h8 4 x1) 1 x1 h8))))))))
set_option maxHeartbeats 4000000 in
set_option maxRecDepth 100000 in
theorem sX7_setPinned {l0 : Launch} {x1 : Int} {x2 : Int} {h : Hp} {Q : Int → Hp → Prop}  (hM : mX7_setPinned x1 x2 h Q) : zSp l0 yX7_setPinned cX7_setPinned 4 (some .int) 185 (6) 0 0 [aR 169, aI x1, aI x2] h (qI Q) xN := by
  unfold mX7_setPinned at hM
  refine zSp_intro zpn_RX7 (Nat.le_of_ble_eq_true rfl) (fun a O => ?_)
  show zV a (6, 0, 0, (qI Q), xN) 0 0 0 [some (aR 169), some (aI x1), some (aI x2), none] [] h
  refine zV_aload_n O dX7_setPinned_0 rfl rfl ?_
  refine zV_iload_n O dX7_setPinned_1 rfl rfl ?_
  refine zV_callV (as := [aI x1]) (st := []) O zc_X7_needHost (Or.inl zl_RX7_141) zi_751 zi_45 zt_169 rfl rfl (by decide) (Nat.le_of_ble_eq_true rfl) rfl rfl (Nat.le_of_ble_eq_true rfl) (Nat.le_of_ble_eq_true rfl) (Nat.le_of_ble_eq_true rfl) (Nat.le_of_ble_eq_true rfl) (Nat.le_of_ble_eq_true rfl) (Nat.le_of_ble_eq_true rfl) dX7_setPinned_2 (sX7_needHost hM) (fun r h9 hq => ?_) (fun x h9 hq => hq.elim)
  obtain ⟨rfl, rfl, hM⟩ := hq
  refine zV_aload_n O dX7_setPinned_5 rfl rfl ?_
  refine zV_getR O zf_RX7_25 zt_169 rfl (by decide) dX7_setPinned_6 ?_
  refine zV_aload_n O dX7_setPinned_9 rfl rfl ?_
  refine zV_getR O zf_RX7_10 zt_169 rfl (by decide) dX7_setPinned_10 ?_
  refine zV_callV (as := [aR 0]) (st := []) O zc_X0_add (Or.inr ⟨_, zl_RX7_249⟩) zi_841 zi_56 zt_170 rfl rfl (by decide) (Nat.le_of_ble_eq_true rfl) rfl rfl (Nat.le_of_ble_eq_true rfl) (Nat.le_of_ble_eq_true rfl) (Nat.le_of_ble_eq_true rfl) (Nat.le_of_ble_eq_true rfl) (Nat.le_of_ble_eq_true rfl) (Nat.le_of_ble_eq_true rfl) dX7_setPinned_13 (sX0_add zisN_0 hM) (fun r h8 hq => ?_) (fun x h9 hq => hq.elim)
  obtain ⟨rfl, hM⟩ := hq
  refine zV_aload_n O dX7_setPinned_16 rfl rfl ?_
  refine zV_getR O zf_RX7_10 zt_169 rfl (by decide) dX7_setPinned_17 ?_
  refine zV_getR O zf_RX7_155 (zN_o zisN_0) rfl (zN_lt0 zisN_0) dX7_setPinned_20 ?_
  refine zV_iload_n O dX7_setPinned_23 rfl rfl ?_
  obtain ⟨hc, hM⟩ := hM
  refine zV_iald O zt_4 (by decide) hc dX7_setPinned_24 ?_
  refine zV_istore_n O dX7_setPinned_25 rfl (Nat.le_of_ble_eq_true rfl) rfl ?_
  refine zV_aload_n O dX7_setPinned_26 rfl rfl ?_
  refine zV_getR O zf_RX7_10 zt_169 rfl (by decide) dX7_setPinned_27 ?_
  refine zV_getR O zf_RX7_155 (zN_o zisN_0) rfl (zN_lt0 zisN_0) dX7_setPinned_30 ?_
  refine zV_iload_n O dX7_setPinned_33 rfl rfl ?_
  refine zV_iload_n O dX7_setPinned_34 rfl rfl ?_
  refine zV_if_eq (tgt := 42) O dX7_setPinned_35 (by decide) (fun hc => ?_) (fun hc => ?_)
  · replace hM := hM.1 hc
    refine zV_iconst (z := 0) O ⟨by omega, by omega⟩ dX7_setPinned_42 ?_
    exact sX7_setPinned_b43 O (Or.inl rfl) hM
  · replace hM := hM.2 hc
    refine zV_iconst (z := 1) O ⟨by omega, by omega⟩ dX7_setPinned_38 ?_
    refine zV_goto (tgt := 43) O dX7_setPinned_39 (by decide) ?_
    exact sX7_setPinned_b43 O (Or.inr rfl) hM
def mX7_settle_b142 (Q : Int → Hp → Prop) (K26 : Int → Int → Hp → Prop) (v1 : Int) (v2 : Int) (h : Hp) : Prop := (zr (v2 + 1) ∧ (K26 v1 (v2 + 1) h))
set_option maxHeartbeats 4000000 in
set_option maxRecDepth 100000 in
theorem sX7_settle_b142 {l0 : Launch} {a : ZC}  {Q : Int → Hp → Prop} {K26 : Int → Int → Hp → Prop} (O : zOk l0 a cX7_settle RX7 6 (some .int) 185 [])  (hK26 : ∀ (v1 : Int) (v2 : Int) (h : Hp), K26 v1 v2 h → zV a (6, 0, 0, (qI Q), xN) 0 0 26 [some (aR 169), some (aI v1), some (aI v2), none, none, none] [] h) {v1 : Int} {v2 : Int} {h : Hp}  (hM : mX7_settle_b142 Q K26 v1 v2 h) : zV a (6, 0, 0, (qI Q), xN) 0 0 142 [some (aR 169), some (aI v1), some (aI v2), none, none, none] [] h := by
  unfold mX7_settle_b142 at hM
  obtain ⟨hc, hM⟩ := hM
  refine zV_iinc O dX7_settle_142 rfl (Nat.le_of_ble_eq_true rfl) rfl hc ?_
  refine zV_goto (tgt := 26) O dX7_settle_145 (by decide) ?_
  exact hK26 _ _ _ hM
def mX7_settle_b56 (Q : Int → Hp → Prop) (K26 : Int → Int → Hp → Prop) (v1 : Int) (v2 : Int) (s0 : Int) (h : Hp) : Prop := ((s0 = ((-1) : Int) → (mX7_settle_b142 Q K26 v1 v2 h)) ∧ (¬ s0 = ((-1) : Int) → (((0 : Int) ≤ s0 ∧ s0 < 40) ∧ ((¬ (rd h 6 s0) = 0 → (mX7_settle_b142 Q K26 v1 v2 h)) ∧ ((rd h 6 s0) = 0 → (mX5_smallestFree (h 0 5) (h 0 6) h (fun z21 => (mX3_firstWaveWithRoom 0 h (fun z22 => ((z21 = 0 → (Q v1 h)) ∧ (¬ z21 = 0 → ((¬ z22 = 0 → (mX3_setPlan 0 s0 z21 z22 h (fun h23 => (mX5_countPlan z21 h23 (fun h24 => (zr (v1 + 1) ∧ (mX7_settle_b142 Q K26 (v1 + 1) v2 h24))))))) ∧ (z22 = 0 → (Q v1 h))))))))))))))
set_option maxHeartbeats 4000000 in
set_option maxRecDepth 100000 in
theorem sX7_settle_b56 {l0 : Launch} {a : ZC}  {Q : Int → Hp → Prop} {K26 : Int → Int → Hp → Prop} (O : zOk l0 a cX7_settle RX7 6 (some .int) 185 [])  (hK26 : ∀ (v1 : Int) (v2 : Int) (h : Hp), K26 v1 v2 h → zV a (6, 0, 0, (qI Q), xN) 0 0 26 [some (aR 169), some (aI v1), some (aI v2), none, none, none] [] h) {v1 : Int} {v2 : Int} {s0 : Int} {h : Hp}  (hM : mX7_settle_b56 Q K26 v1 v2 s0 h) : zV a (6, 0, 0, (qI Q), xN) 0 0 56 [some (aR 169), some (aI v1), some (aI v2), none, none, none] [aI s0] h := by
  unfold mX7_settle_b56 at hM
  refine zV_istore_n O dX7_settle_56 rfl (Nat.le_of_ble_eq_true rfl) rfl ?_
  refine zV_iload_n O dX7_settle_57 rfl rfl ?_
  refine zV_iconst (z := -1) O ⟨by omega, by omega⟩ dX7_settle_58 ?_
  refine zV_icmp_eq (tgt := 142) O dX7_settle_59 (by decide) (fun hc => ?_) (fun hc => ?_)
  · replace hM := hM.1 hc
    refine zV_sub (ls2 := [some (aR 169), some (aI v1), some (aI v2), none, none, none]) ⟨rfl, rfl, rfl, trivial⟩ ?_
    exact sX7_settle_b142 O hK26 hM
  · replace hM := hM.2 hc
    refine zV_aload_n O dX7_settle_62 rfl rfl ?_
    refine zV_getR O zf_RX7_10 zt_169 rfl (by decide) dX7_settle_63 ?_
    refine zV_getR O zf_RX7_161 (zN_o zisN_0) rfl (zN_lt0 zisN_0) dX7_settle_66 ?_
    refine zV_iload_n O dX7_settle_69 rfl rfl ?_
    obtain ⟨hc, hM⟩ := hM
    refine zV_iald O zt_6 (by decide) hc dX7_settle_70 ?_
    refine zV_if_ne (tgt := 142) O dX7_settle_71 (by decide) (fun hc => ?_) (fun hc => ?_)
    · replace hM := hM.1 hc
      refine zV_sub (ls2 := [some (aR 169), some (aI v1), some (aI v2), none, none, none]) ⟨rfl, rfl, rfl, trivial⟩ ?_
      exact sX7_settle_b142 O hK26 hM
    · replace hM := hM.2 hc
      refine zV_aload_n O dX7_settle_74 rfl rfl ?_
      refine zV_getR O zf_RX7_32 zt_169 rfl (by decide) dX7_settle_75 ?_
      refine zV_aload_n O dX7_settle_78 rfl rfl ?_
      refine zV_getR O zf_RX7_10 zt_169 rfl (by decide) dX7_settle_79 ?_
      refine zV_getI O zf_RX7_122 (zN_o zisN_0) rfl (zN_lt0 zisN_0) dX7_settle_82 ?_
      refine zV_aload_n O dX7_settle_85 rfl rfl ?_
      refine zV_getR O zf_RX7_10 zt_169 rfl (by decide) dX7_settle_86 ?_
      refine zV_getI O zf_RX7_125 (zN_o zisN_0) rfl (zN_lt0 zisN_0) dX7_settle_89 ?_
      refine zV_callV (as := [aI (h 0 5), aI (h 0 6)]) (st := []) O zc_X5_smallestFree (Or.inr ⟨_, zl_RX7_223⟩) zi_894 zi_62 zt_172 rfl rfl (by decide) (Nat.le_of_ble_eq_true rfl) rfl rfl (Nat.le_of_ble_eq_true rfl) (Nat.le_of_ble_eq_true rfl) (Nat.le_of_ble_eq_true rfl) (Nat.le_of_ble_eq_true rfl) (Nat.le_of_ble_eq_true rfl) (Nat.le_of_ble_eq_true rfl) dX7_settle_92 (sX5_smallestFree hM) (fun r h9 hq => ?_) (fun x h9 hq => hq.elim)
      obtain ⟨rfl, z21, rfl, hM⟩ := hq
      refine zV_istore O dX7_settle_95 (Nat.le_of_ble_eq_true rfl) rfl ?_
      refine zV_aload_n O dX7_settle_97 rfl rfl ?_
      refine zV_getR O zf_RX7_10 zt_169 rfl (by decide) dX7_settle_98 ?_
      refine zV_callV (as := []) (st := []) O zc_X3_firstWaveWithRoom (Or.inr ⟨_, zl_RX7_269⟩) zi_901 zi_63 (zN_o zisN_0) rfl rfl (zN_lt0 zisN_0) (Nat.le_of_ble_eq_true rfl) rfl rfl (Nat.le_of_ble_eq_true rfl) (Nat.le_of_ble_eq_true rfl) (Nat.le_of_ble_eq_true rfl) (Nat.le_of_ble_eq_true rfl) (Nat.le_of_ble_eq_true rfl) (Nat.le_of_ble_eq_true rfl) dX7_settle_101 (sX3_firstWaveWithRoom zisN_0 hM) (fun r h9 hq => ?_) (fun x h9 hq => hq.elim)
      obtain ⟨rfl, z22, rfl, hM⟩ := hq
      refine zV_istore O dX7_settle_104 (Nat.le_of_ble_eq_true rfl) rfl ?_
      refine zV_iload O dX7_settle_106 rfl ?_
      refine zV_if_eq (tgt := 116) O dX7_settle_108 (by decide) (fun hc => ?_) (fun hc => ?_)
      · replace hM := hM.1 hc
        refine zV_iload_n O dX7_settle_116 rfl rfl ?_
        exact zV_iret O rfl ⟨_, rfl, hM⟩ (Nat.le_of_ble_eq_true rfl) (Nat.le_of_ble_eq_true rfl) dX7_settle_117
      · replace hM := hM.2 hc
        refine zV_iload O dX7_settle_111 rfl ?_
        refine zV_if_ne (tgt := 118) O dX7_settle_113 (by decide) (fun hc => ?_) (fun hc => ?_)
        · replace hM := hM.1 hc
          refine zV_aload_n O dX7_settle_118 rfl rfl ?_
          refine zV_getR O zf_RX7_10 zt_169 rfl (by decide) dX7_settle_119 ?_
          refine zV_iload_n O dX7_settle_122 rfl rfl ?_
          refine zV_iload O dX7_settle_123 rfl ?_
          refine zV_iload O dX7_settle_125 rfl ?_
          refine zV_callV (as := [aI s0, aI z21, aI z22]) (st := []) O zc_X3_setPlan (Or.inr ⟨_, zl_RX7_259⟩) zi_672 zi_36 (zN_o zisN_0) rfl rfl (zN_lt0 zisN_0) (Nat.le_of_ble_eq_true rfl) rfl rfl (Nat.le_of_ble_eq_true rfl) (Nat.le_of_ble_eq_true rfl) (Nat.le_of_ble_eq_true rfl) (Nat.le_of_ble_eq_true rfl) (Nat.le_of_ble_eq_true rfl) (Nat.le_of_ble_eq_true rfl) dX7_settle_127 (sX3_setPlan zisN_0 hM) (fun r h23 hq => ?_) (fun x h9 hq => hq.elim)
          obtain ⟨rfl, hM⟩ := hq
          refine zV_aload_n O dX7_settle_130 rfl rfl ?_
          refine zV_getR O zf_RX7_32 zt_169 rfl (by decide) dX7_settle_131 ?_
          refine zV_iload O dX7_settle_134 rfl ?_
          refine zV_callV (as := [aI z21]) (st := []) O zc_X5_countPlan (Or.inr ⟨_, zl_RX7_272⟩) zi_906 zi_64 zt_172 rfl rfl (by decide) (Nat.le_of_ble_eq_true rfl) rfl rfl (Nat.le_of_ble_eq_true rfl) (Nat.le_of_ble_eq_true rfl) (Nat.le_of_ble_eq_true rfl) (Nat.le_of_ble_eq_true rfl) (Nat.le_of_ble_eq_true rfl) (Nat.le_of_ble_eq_true rfl) dX7_settle_136 (sX5_countPlan hM) (fun r h24 hq => ?_) (fun x h9 hq => hq.elim)
          obtain ⟨rfl, hM⟩ := hq
          obtain ⟨hc, hM⟩ := hM
          refine zV_iinc O dX7_settle_139 rfl (Nat.le_of_ble_eq_true rfl) rfl hc ?_
          refine zV_sub (ls2 := [some (aR 169), some (aI (v1 + 1)), some (aI v2), none, none, none]) ⟨rfl, rfl, rfl, trivial⟩ ?_
          exact sX7_settle_b142 O hK26 hM
        · replace hM := hM.2 hc
          refine zV_iload_n O dX7_settle_116 rfl rfl ?_
          exact zV_iret O rfl ⟨_, rfl, hM⟩ (Nat.le_of_ble_eq_true rfl) (Nat.le_of_ble_eq_true rfl) dX7_settle_117
def mX7_settle_b26 (Q : Int → Hp → Prop) : Nat → Int → Int → Hp → Prop
  | 0 => fun _ _ _ => False
  | fu26 + 1 => fun v1 v2 h => (((250 : Int) < v2 → (Q v1 h)) ∧ (¬ (250 : Int) < v2 → (mX5_isClash v2 h (fun z25 => ((z25 = 0 → (mX7_settle_b56 Q (mX7_settle_b26 Q fu26) v1 v2 (-1) h)) ∧ (¬ z25 = 0 → (mX3_chosenToMove 0 v2 h (fun z26 => (mX7_settle_b56 Q (mX7_settle_b26 Q fu26) v1 v2 z26 h)))))))))
set_option maxHeartbeats 4000000 in
set_option maxRecDepth 100000 in
theorem sX7_settle_b26 {l0 : Launch} {a : ZC}  {Q : Int → Hp → Prop}  (O : zOk l0 a cX7_settle RX7 6 (some .int) 185 [])   : ∀ (ff : Nat) (v1 : Int) (v2 : Int) (h : Hp), mX7_settle_b26 Q ff v1 v2 h → zV a (6, 0, 0, (qI Q), xN) 0 0 26 [some (aR 169), some (aI v1), some (aI v2), none, none, none] [] h := by
  intro ff
  induction ff with
  | zero => intro v1 v2 h hM; exact hM.elim
  | succ ff ih =>
    have hK26 := ih
    intro v1 v2 h hM
    unfold mX7_settle_b26 at hM
    refine zV_iload_n O dX7_settle_26 rfl rfl ?_
    refine zV_sipush (z := 250) O ⟨by omega, by omega⟩ rfl dX7_settle_27 ?_
    refine zV_icmp_gt (tgt := 148) O dX7_settle_30 (by decide) (fun hc => ?_) (fun hc => ?_)
    · replace hM := hM.1 hc
      refine zV_iload_n O dX7_settle_148 rfl rfl ?_
      exact zV_iret O rfl ⟨_, rfl, hM⟩ (Nat.le_of_ble_eq_true rfl) (Nat.le_of_ble_eq_true rfl) dX7_settle_149
    · replace hM := hM.2 hc
      refine zV_aload_n O dX7_settle_33 rfl rfl ?_
      refine zV_getR O zf_RX7_32 zt_169 rfl (by decide) dX7_settle_34 ?_
      refine zV_iload_n O dX7_settle_37 rfl rfl ?_
      refine zV_callV (as := [aI v2]) (st := []) O zc_X5_isClash (Or.inr ⟨_, zl_RX7_263⟩) zi_718 zi_43 zt_172 rfl rfl (by decide) (Nat.le_of_ble_eq_true rfl) rfl rfl (Nat.le_of_ble_eq_true rfl) (Nat.le_of_ble_eq_true rfl) (Nat.le_of_ble_eq_true rfl) (Nat.le_of_ble_eq_true rfl) (Nat.le_of_ble_eq_true rfl) (Nat.le_of_ble_eq_true rfl) dX7_settle_38 (sX5_isClash hM) (fun r h9 hq => ?_) (fun x h9 hq => hq.elim)
      obtain ⟨rfl, z25, rfl, hzz25, hM⟩ := hq
      refine zV_if_eq (tgt := 55) O dX7_settle_41 (by decide) (fun hc => ?_) (fun hc => ?_)
      · replace hM := hM.1 hc
        refine zV_iconst (z := -1) O ⟨by omega, by omega⟩ dX7_settle_55 ?_
        exact sX7_settle_b56 O hK26 hM
      · replace hM := hM.2 hc
        refine zV_aload_n O dX7_settle_44 rfl rfl ?_
        refine zV_getR O zf_RX7_10 zt_169 rfl (by decide) dX7_settle_45 ?_
        refine zV_iload_n O dX7_settle_48 rfl rfl ?_
        refine zV_callV (as := [aI v2]) (st := []) O zc_X3_chosenToMove (Or.inr ⟨_, zl_RX7_266⟩) zi_886 zi_60 (zN_o zisN_0) rfl rfl (zN_lt0 zisN_0) (Nat.le_of_ble_eq_true rfl) rfl rfl (Nat.le_of_ble_eq_true rfl) (Nat.le_of_ble_eq_true rfl) (Nat.le_of_ble_eq_true rfl) (Nat.le_of_ble_eq_true rfl) (Nat.le_of_ble_eq_true rfl) (Nat.le_of_ble_eq_true rfl) dX7_settle_49 (sX3_chosenToMove zisN_0 hM) (fun r h9 hq => ?_) (fun x h9 hq => hq.elim)
        obtain ⟨rfl, z26, rfl, hM⟩ := hq
        refine zV_goto (tgt := 56) O dX7_settle_52 (by decide) ?_
        exact sX7_settle_b56 O hK26 hM
def mX7_settle  (h : Hp) (Q : Int → Hp → Prop) : Prop := (mX0_add 0 h (fun h27 => (mX5_count 0 h27 (fun h28 => (∃ ff, mX7_settle_b26 Q ff 0 1 h28)))))
set_option maxHeartbeats 4000000 in
set_option maxRecDepth 100000 in
theorem sX7_settle {l0 : Launch}  {h : Hp} {Q : Int → Hp → Prop}  (hM : mX7_settle  h Q) : zSp l0 yX7_settle cX7_settle 6 (some .int) 185 (6) 0 0 [aR 169] h (qI Q) xN := by
  unfold mX7_settle at hM
  refine zSp_intro zpn_RX7 (Nat.le_of_ble_eq_true rfl) (fun a O => ?_)
  show zV a (6, 0, 0, (qI Q), xN) 0 0 0 [some (aR 169), none, none, none, none, none] [] h
  refine zV_aload_n O dX7_settle_0 rfl rfl ?_
  refine zV_getR O zf_RX7_25 zt_169 rfl (by decide) dX7_settle_1 ?_
  refine zV_aload_n O dX7_settle_4 rfl rfl ?_
  refine zV_getR O zf_RX7_10 zt_169 rfl (by decide) dX7_settle_5 ?_
  refine zV_callV (as := [aR 0]) (st := []) O zc_X0_add (Or.inr ⟨_, zl_RX7_249⟩) zi_841 zi_56 zt_170 rfl rfl (by decide) (Nat.le_of_ble_eq_true rfl) rfl rfl (Nat.le_of_ble_eq_true rfl) (Nat.le_of_ble_eq_true rfl) (Nat.le_of_ble_eq_true rfl) (Nat.le_of_ble_eq_true rfl) (Nat.le_of_ble_eq_true rfl) (Nat.le_of_ble_eq_true rfl) dX7_settle_8 (sX0_add zisN_0 hM) (fun r h27 hq => ?_) (fun x h9 hq => hq.elim)
  obtain ⟨rfl, hM⟩ := hq
  refine zV_aload_n O dX7_settle_11 rfl rfl ?_
  refine zV_getR O zf_RX7_32 zt_169 rfl (by decide) dX7_settle_12 ?_
  refine zV_aload_n O dX7_settle_15 rfl rfl ?_
  refine zV_getR O zf_RX7_10 zt_169 rfl (by decide) dX7_settle_16 ?_
  refine zV_callV (as := [aR 0]) (st := []) O zc_X5_count (Or.inr ⟨_, zl_RX7_185⟩) zi_703 zi_41 zt_172 rfl rfl (by decide) (Nat.le_of_ble_eq_true rfl) rfl rfl (Nat.le_of_ble_eq_true rfl) (Nat.le_of_ble_eq_true rfl) (Nat.le_of_ble_eq_true rfl) (Nat.le_of_ble_eq_true rfl) (Nat.le_of_ble_eq_true rfl) (Nat.le_of_ble_eq_true rfl) dX7_settle_19 (sX5_count zisN_0 hM) (fun r h28 hq => ?_) (fun x h9 hq => hq.elim)
  obtain ⟨rfl, hM⟩ := hq
  refine zV_iconst (z := 0) O ⟨by omega, by omega⟩ dX7_settle_22 ?_
  refine zV_istore_n O dX7_settle_23 rfl (Nat.le_of_ble_eq_true rfl) rfl ?_
  refine zV_iconst (z := 1) O ⟨by omega, by omega⟩ dX7_settle_24 ?_
  refine zV_istore_n O dX7_settle_25 rfl (Nat.le_of_ble_eq_true rfl) rfl ?_
  obtain ⟨ff, hM⟩ := hM
  exact sX7_settle_b26 O ff _ _ _ hM
def mX7_undo  (h : Hp) (Q : Int → Hp → Prop) : Prop := ((¬ (h 170 2) = 0 → (mX0_takeNewest 0 h (fun h2 => (Q (h2 170 2) h2)))) ∧ ((h 170 2) = 0 → (Q (-1) h)))
set_option maxHeartbeats 4000000 in
set_option maxRecDepth 100000 in
theorem sX7_undo {l0 : Launch}  {h : Hp} {Q : Int → Hp → Prop}  (hM : mX7_undo  h Q) : zSp l0 yX7_undo cX7_undo 1 (some .int) 185 (6) 0 0 [aR 169] h (qI Q) xN := by
  unfold mX7_undo at hM
  refine zSp_intro zpn_RX7 (Nat.le_of_ble_eq_true rfl) (fun a O => ?_)
  show zV a (6, 0, 0, (qI Q), xN) 0 0 0 [some (aR 169)] [] h
  refine zV_aload_n O dX7_undo_0 rfl rfl ?_
  refine zV_getR O zf_RX7_25 zt_169 rfl (by decide) dX7_undo_1 ?_
  refine zV_getI O zf_RX7_311 zt_170 rfl (by decide) dX7_undo_4 ?_
  refine zV_if_ne (tgt := 12) O dX7_undo_7 (by decide) (fun hc => ?_) (fun hc => ?_)
  · replace hM := hM.1 hc
    refine zV_aload_n O dX7_undo_12 rfl rfl ?_
    refine zV_getR O zf_RX7_25 zt_169 rfl (by decide) dX7_undo_13 ?_
    refine zV_aload_n O dX7_undo_16 rfl rfl ?_
    refine zV_getR O zf_RX7_10 zt_169 rfl (by decide) dX7_undo_17 ?_
    refine zV_callV (as := [aR 0]) (st := []) O zc_X0_takeNewest (Or.inr ⟨_, zl_RX7_313⟩) zi_851 zi_57 zt_170 rfl rfl (by decide) (Nat.le_of_ble_eq_true rfl) rfl rfl (Nat.le_of_ble_eq_true rfl) (Nat.le_of_ble_eq_true rfl) (Nat.le_of_ble_eq_true rfl) (Nat.le_of_ble_eq_true rfl) (Nat.le_of_ble_eq_true rfl) (Nat.le_of_ble_eq_true rfl) dX7_undo_20 (sX0_takeNewest zisN_0 hM) (fun r h2 hq => ?_) (fun x h9 hq => hq.elim)
    obtain ⟨rfl, hM⟩ := hq
    refine zV_aload_n O dX7_undo_23 rfl rfl ?_
    refine zV_getR O zf_RX7_25 zt_169 rfl (by decide) dX7_undo_24 ?_
    refine zV_getI O zf_RX7_311 zt_170 rfl (by decide) dX7_undo_27 ?_
    exact zV_iret O rfl ⟨_, rfl, hM⟩ (Nat.le_of_ble_eq_true rfl) (Nat.le_of_ble_eq_true rfl) dX7_undo_30
  · replace hM := hM.2 hc
    refine zV_iconst (z := -1) O ⟨by omega, by omega⟩ dX7_undo_10 ?_
    exact zV_iret O rfl ⟨_, rfl, hM⟩ (Nat.le_of_ble_eq_true rfl) (Nat.le_of_ble_eq_true rfl) dX7_undo_11
def mX7_unplan (x1 : Int) (h : Hp) (Q : Int → Hp → Prop) : Prop := (mX7_needHost x1 h ((mX0_add 0 h (fun h3 => (((0 : Int) ≤ x1 ∧ x1 < 40) ∧ (mX3_setPlan 0 x1 0 0 h3 (fun h4 => (Q (rd h3 6 x1) h4))))))))
set_option maxHeartbeats 4000000 in
set_option maxRecDepth 100000 in
theorem sX7_unplan {l0 : Launch} {x1 : Int} {h : Hp} {Q : Int → Hp → Prop}  (hM : mX7_unplan x1 h Q) : zSp l0 yX7_unplan cX7_unplan 3 (some .int) 185 (6) 0 0 [aR 169, aI x1] h (qI Q) xN := by
  unfold mX7_unplan at hM
  refine zSp_intro zpn_RX7 (Nat.le_of_ble_eq_true rfl) (fun a O => ?_)
  show zV a (6, 0, 0, (qI Q), xN) 0 0 0 [some (aR 169), some (aI x1), none] [] h
  refine zV_aload_n O dX7_unplan_0 rfl rfl ?_
  refine zV_iload_n O dX7_unplan_1 rfl rfl ?_
  refine zV_callV (as := [aI x1]) (st := []) O zc_X7_needHost (Or.inl zl_RX7_141) zi_751 zi_45 zt_169 rfl rfl (by decide) (Nat.le_of_ble_eq_true rfl) rfl rfl (Nat.le_of_ble_eq_true rfl) (Nat.le_of_ble_eq_true rfl) (Nat.le_of_ble_eq_true rfl) (Nat.le_of_ble_eq_true rfl) (Nat.le_of_ble_eq_true rfl) (Nat.le_of_ble_eq_true rfl) dX7_unplan_2 (sX7_needHost hM) (fun r h9 hq => ?_) (fun x h9 hq => hq.elim)
  obtain ⟨rfl, rfl, hM⟩ := hq
  refine zV_aload_n O dX7_unplan_5 rfl rfl ?_
  refine zV_getR O zf_RX7_25 zt_169 rfl (by decide) dX7_unplan_6 ?_
  refine zV_aload_n O dX7_unplan_9 rfl rfl ?_
  refine zV_getR O zf_RX7_10 zt_169 rfl (by decide) dX7_unplan_10 ?_
  refine zV_callV (as := [aR 0]) (st := []) O zc_X0_add (Or.inr ⟨_, zl_RX7_249⟩) zi_841 zi_56 zt_170 rfl rfl (by decide) (Nat.le_of_ble_eq_true rfl) rfl rfl (Nat.le_of_ble_eq_true rfl) (Nat.le_of_ble_eq_true rfl) (Nat.le_of_ble_eq_true rfl) (Nat.le_of_ble_eq_true rfl) (Nat.le_of_ble_eq_true rfl) (Nat.le_of_ble_eq_true rfl) dX7_unplan_13 (sX0_add zisN_0 hM) (fun r h3 hq => ?_) (fun x h9 hq => hq.elim)
  obtain ⟨rfl, hM⟩ := hq
  refine zV_aload_n O dX7_unplan_16 rfl rfl ?_
  refine zV_getR O zf_RX7_10 zt_169 rfl (by decide) dX7_unplan_17 ?_
  refine zV_getR O zf_RX7_161 (zN_o zisN_0) rfl (zN_lt0 zisN_0) dX7_unplan_20 ?_
  refine zV_iload_n O dX7_unplan_23 rfl rfl ?_
  obtain ⟨hc, hM⟩ := hM
  refine zV_iald O zt_6 (by decide) hc dX7_unplan_24 ?_
  refine zV_istore_n O dX7_unplan_25 rfl (Nat.le_of_ble_eq_true rfl) rfl ?_
  refine zV_aload_n O dX7_unplan_26 rfl rfl ?_
  refine zV_getR O zf_RX7_10 zt_169 rfl (by decide) dX7_unplan_27 ?_
  refine zV_iload_n O dX7_unplan_30 rfl rfl ?_
  refine zV_iconst (z := 0) O ⟨by omega, by omega⟩ dX7_unplan_31 ?_
  refine zV_iconst (z := 0) O ⟨by omega, by omega⟩ dX7_unplan_32 ?_
  refine zV_callV (as := [aI x1, aI 0, aI 0]) (st := []) O zc_X3_setPlan (Or.inr ⟨_, zl_RX7_259⟩) zi_672 zi_36 (zN_o zisN_0) rfl rfl (zN_lt0 zisN_0) (Nat.le_of_ble_eq_true rfl) rfl rfl (Nat.le_of_ble_eq_true rfl) (Nat.le_of_ble_eq_true rfl) (Nat.le_of_ble_eq_true rfl) (Nat.le_of_ble_eq_true rfl) (Nat.le_of_ble_eq_true rfl) (Nat.le_of_ble_eq_true rfl) dX7_unplan_33 (sX3_setPlan zisN_0 hM) (fun r h4 hq => ?_) (fun x h9 hq => hq.elim)
  obtain ⟨rfl, hM⟩ := hq
  refine zV_iload_n O dX7_unplan_36 rfl rfl ?_
  exact zV_iret O rfl ⟨_, rfl, hM⟩ (Nat.le_of_ble_eq_true rfl) (Nat.le_of_ble_eq_true rfl) dX7_unplan_37
def mX7_whyNot  (h : Hp) (Q : Int → Hp → Prop) : Prop := (mX3_copyFrom 13 0 h (fun h4 => (mX7_tryWave h4 (fun z5 h6 => (Q (min 0 z5) h6)))))
set_option maxHeartbeats 4000000 in
set_option maxRecDepth 100000 in
theorem sX7_whyNot {l0 : Launch}  {h : Hp} {Q : Int → Hp → Prop}  (hM : mX7_whyNot  h Q) : zSp l0 yX7_whyNot cX7_whyNot 1 (some .int) 185 (6) 0 0 [aR 169] h (qI Q) xN := by
  unfold mX7_whyNot at hM
  refine zSp_intro zpn_RX7 (Nat.le_of_ble_eq_true rfl) (fun a O => ?_)
  show zV a (6, 0, 0, (qI Q), xN) 0 0 0 [some (aR 169)] [] h
  refine zV_aload_n O dX7_whyNot_0 rfl rfl ?_
  refine zV_getR O zf_RX7_16 zt_169 rfl (by decide) dX7_whyNot_1 ?_
  refine zV_aload_n O dX7_whyNot_4 rfl rfl ?_
  refine zV_getR O zf_RX7_10 zt_169 rfl (by decide) dX7_whyNot_5 ?_
  refine zV_callV (as := [aR 0]) (st := []) O zc_X3_copyFrom (Or.inr ⟨_, zl_RX7_95⟩) zi_676 zi_37 (zN_o zisN_13) rfl rfl (zN_lt0 zisN_13) (Nat.le_of_ble_eq_true rfl) rfl rfl (Nat.le_of_ble_eq_true rfl) (Nat.le_of_ble_eq_true rfl) (Nat.le_of_ble_eq_true rfl) (Nat.le_of_ble_eq_true rfl) (Nat.le_of_ble_eq_true rfl) (Nat.le_of_ble_eq_true rfl) dX7_whyNot_8 (sX3_copyFrom zisN_13 zisN_0 hM) (fun r h4 hq => ?_) (fun x h9 hq => hq.elim)
  obtain ⟨rfl, hM⟩ := hq
  refine zV_iconst (z := 0) O ⟨by omega, by omega⟩ dX7_whyNot_11 ?_
  refine zV_aload_n O dX7_whyNot_12 rfl rfl ?_
  refine zV_callV (as := []) (st := [aI 0]) O zc_X7_tryWave (Or.inl zl_RX7_226) zi_799 zi_47 zt_169 rfl rfl (by decide) (Nat.le_of_ble_eq_true rfl) rfl rfl (Nat.le_of_ble_eq_true rfl) (Nat.le_of_ble_eq_true rfl) (Nat.le_of_ble_eq_true rfl) (Nat.le_of_ble_eq_true rfl) (Nat.le_of_ble_eq_true rfl) (Nat.le_of_ble_eq_true rfl) dX7_whyNot_13 (sX7_tryWave hM) (fun r h6 hq => ?_) (fun x h9 hq => hq.elim)
  obtain ⟨z5, rfl, hM⟩ := hq
  refine zV_min O zi_830 zi_538 zi_88 zi_539 (Nat.le_of_ble_eq_true rfl) (Nat.le_of_ble_eq_true rfl) (Nat.le_of_ble_eq_true rfl) (Nat.le_of_ble_eq_true rfl) dX7_whyNot_16 ?_
  exact zV_iret O rfl ⟨_, rfl, hM⟩ (Nat.le_of_ble_eq_true rfl) (Nat.le_of_ble_eq_true rfl) dX7_whyNot_19
def mX7_back  (h : Hp) (Q : Int → Hp → Prop) : Prop := ((¬ (h 0 2) = 0 → (mX3_copyFrom 13 0 h (fun h6 => (mX3_undoWave 13 h6 (fun h7 => (mX7_heldTwice 13 h7 (fun z8 h9 => ((z8 = 0 → (mX7_adoptTrial h9 (fun h10 => (Q (h10 0 2) h10)))) ∧ (¬ z8 = 0 → (Q (-3) h9)))))))))) ∧ ((h 0 2) = 0 → (Q (-2) h)))
set_option maxHeartbeats 4000000 in
set_option maxRecDepth 100000 in
theorem sX7_back {l0 : Launch}  {h : Hp} {Q : Int → Hp → Prop}  (hM : mX7_back  h Q) : zSp l0 yX7_back cX7_back 1 (some .int) 185 (7) 0 0 [aR 169] h (qI Q) xN := by
  unfold mX7_back at hM
  refine zSp_intro zpn_RX7 (Nat.le_of_ble_eq_true rfl) (fun a O => ?_)
  show zV a (7, 0, 0, (qI Q), xN) 0 0 0 [some (aR 169)] [] h
  refine zV_aload_n O dX7_back_0 rfl rfl ?_
  refine zV_getR O zf_RX7_10 zt_169 rfl (by decide) dX7_back_1 ?_
  refine zV_getI O zf_RX7_113 (zN_o zisN_0) rfl (zN_lt0 zisN_0) dX7_back_4 ?_
  refine zV_if_ne (tgt := 13) O dX7_back_7 (by decide) (fun hc => ?_) (fun hc => ?_)
  · replace hM := hM.1 hc
    refine zV_aload_n O dX7_back_13 rfl rfl ?_
    refine zV_getR O zf_RX7_16 zt_169 rfl (by decide) dX7_back_14 ?_
    refine zV_aload_n O dX7_back_17 rfl rfl ?_
    refine zV_getR O zf_RX7_10 zt_169 rfl (by decide) dX7_back_18 ?_
    refine zV_callV (as := [aR 0]) (st := []) O zc_X3_copyFrom (Or.inr ⟨_, zl_RX7_95⟩) zi_676 zi_37 (zN_o zisN_13) rfl rfl (zN_lt0 zisN_13) (Nat.le_of_ble_eq_true rfl) rfl rfl (Nat.le_of_ble_eq_true rfl) (Nat.le_of_ble_eq_true rfl) (Nat.le_of_ble_eq_true rfl) (Nat.le_of_ble_eq_true rfl) (Nat.le_of_ble_eq_true rfl) (Nat.le_of_ble_eq_true rfl) dX7_back_21 (sX3_copyFrom zisN_13 zisN_0 hM) (fun r h6 hq => ?_) (fun x h9 hq => hq.elim)
    obtain ⟨rfl, hM⟩ := hq
    refine zV_aload_n O dX7_back_24 rfl rfl ?_
    refine zV_getR O zf_RX7_16 zt_169 rfl (by decide) dX7_back_25 ?_
    refine zV_callV (as := []) (st := []) O zc_X3_undoWave (Or.inr ⟨_, zl_RX7_278⟩) zi_914 zi_65 (zN_o zisN_13) rfl rfl (zN_lt0 zisN_13) (Nat.le_of_ble_eq_true rfl) rfl rfl (Nat.le_of_ble_eq_true rfl) (Nat.le_of_ble_eq_true rfl) (Nat.le_of_ble_eq_true rfl) (Nat.le_of_ble_eq_true rfl) (Nat.le_of_ble_eq_true rfl) (Nat.le_of_ble_eq_true rfl) dX7_back_28 (sX3_undoWave zisN_13 hM) (fun r h7 hq => ?_) (fun x h9 hq => hq.elim)
    obtain ⟨rfl, hM⟩ := hq
    refine zV_aload_n O dX7_back_31 rfl rfl ?_
    refine zV_aload_n O dX7_back_32 rfl rfl ?_
    refine zV_getR O zf_RX7_16 zt_169 rfl (by decide) dX7_back_33 ?_
    refine zV_callV (as := [aR 13]) (st := []) O zc_X7_heldTwice (Or.inl zl_RX7_237) zi_824 zi_53 zt_169 rfl rfl (by decide) (Nat.le_of_ble_eq_true rfl) rfl rfl (Nat.le_of_ble_eq_true rfl) (Nat.le_of_ble_eq_true rfl) (Nat.le_of_ble_eq_true rfl) (Nat.le_of_ble_eq_true rfl) (Nat.le_of_ble_eq_true rfl) (Nat.le_of_ble_eq_true rfl) dX7_back_36 (sX7_heldTwice zisN_13 hM) (fun r h9 hq => ?_) (fun x h9 hq => hq.elim)
    obtain ⟨z8, rfl, hM⟩ := hq
    refine zV_if_eq (tgt := 45) O dX7_back_39 (by decide) (fun hc => ?_) (fun hc => ?_)
    · replace hM := hM.1 hc
      refine zV_aload_n O dX7_back_45 rfl rfl ?_
      refine zV_callV (as := []) (st := []) O zc_X7_adoptTrial (Or.inl zl_RX7_275) zi_837 zi_55 zt_169 rfl rfl (by decide) (Nat.le_of_ble_eq_true rfl) rfl rfl (Nat.le_of_ble_eq_true rfl) (Nat.le_of_ble_eq_true rfl) (Nat.le_of_ble_eq_true rfl) (Nat.le_of_ble_eq_true rfl) (Nat.le_of_ble_eq_true rfl) (Nat.le_of_ble_eq_true rfl) dX7_back_46 (sX7_adoptTrial hM) (fun r h10 hq => ?_) (fun x h9 hq => hq.elim)
      obtain ⟨rfl, hM⟩ := hq
      refine zV_aload_n O dX7_back_49 rfl rfl ?_
      refine zV_getR O zf_RX7_10 zt_169 rfl (by decide) dX7_back_50 ?_
      refine zV_getI O zf_RX7_113 (zN_o zisN_0) rfl (zN_lt0 zisN_0) dX7_back_53 ?_
      exact zV_iret O rfl ⟨_, rfl, hM⟩ (Nat.le_of_ble_eq_true rfl) (Nat.le_of_ble_eq_true rfl) dX7_back_56
    · replace hM := hM.2 hc
      refine zV_bipush (z := -3) O ⟨by omega, by omega⟩ rfl dX7_back_42 ?_
      exact zV_iret O rfl ⟨_, rfl, hM⟩ (Nat.le_of_ble_eq_true rfl) (Nat.le_of_ble_eq_true rfl) dX7_back_44
  · replace hM := hM.2 hc
    refine zV_bipush (z := -2) O ⟨by omega, by omega⟩ rfl dX7_back_10 ?_
    exact zV_iret O rfl ⟨_, rfl, hM⟩ (Nat.le_of_ble_eq_true rfl) (Nat.le_of_ble_eq_true rfl) dX7_back_12
def mX7_setKeep (x1 : Int) (h : Hp) (Q : Int → Hp → Prop) : Prop := ((x1 < 0 → False) ∧ (¬ x1 < 0 → ((x1 ≤ (3 : Int) → (mX3_copyFrom 13 0 h (fun h6 => (∀ h7 : Hp, h7 = hu h6 13 3 x1 → (mX7_heldTwice 13 h7 (fun z8 h9 => ((z8 = 0 → (mX7_adoptTrial h9 (fun h10 => (Q (h 0 3) h10)))) ∧ (¬ z8 = 0 → (Q (-2) h9))))))))) ∧ (¬ x1 ≤ (3 : Int) → False))))
set_option maxHeartbeats 4000000 in
set_option maxRecDepth 100000 in
theorem sX7_setKeep {l0 : Launch} {x1 : Int} {h : Hp} {Q : Int → Hp → Prop}  (hM : mX7_setKeep x1 h Q) : zSp l0 yX7_setKeep cX7_setKeep 3 (some .int) 185 (7) 0 0 [aR 169, aI x1] h (qI Q) xN := by
  unfold mX7_setKeep at hM
  refine zSp_intro zpn_RX7 (Nat.le_of_ble_eq_true rfl) (fun a O => ?_)
  show zV a (7, 0, 0, (qI Q), xN) 0 0 0 [some (aR 169), some (aI x1), none] [] h
  refine zV_iload_n O dX7_setKeep_0 rfl rfl ?_
  refine zV_if_lt (tgt := 9) O dX7_setKeep_1 (by decide) (fun hc => ?_) (fun hc => ?_)
  · replace hM := hM.1 hc
    exact hM.elim
  · replace hM := hM.2 hc
    refine zV_iload_n O dX7_setKeep_4 rfl rfl ?_
    refine zV_iconst (z := 3) O ⟨by omega, by omega⟩ dX7_setKeep_5 ?_
    refine zV_icmp_le (tgt := 17) O dX7_setKeep_6 (by decide) (fun hc => ?_) (fun hc => ?_)
    · replace hM := hM.1 hc
      refine zV_aload_n O dX7_setKeep_17 rfl rfl ?_
      refine zV_getR O zf_RX7_10 zt_169 rfl (by decide) dX7_setKeep_18 ?_
      refine zV_getI O zf_RX7_116 (zN_o zisN_0) rfl (zN_lt0 zisN_0) dX7_setKeep_21 ?_
      refine zV_istore_n O dX7_setKeep_24 rfl (Nat.le_of_ble_eq_true rfl) rfl ?_
      refine zV_aload_n O dX7_setKeep_25 rfl rfl ?_
      refine zV_getR O zf_RX7_16 zt_169 rfl (by decide) dX7_setKeep_26 ?_
      refine zV_aload_n O dX7_setKeep_29 rfl rfl ?_
      refine zV_getR O zf_RX7_10 zt_169 rfl (by decide) dX7_setKeep_30 ?_
      refine zV_callV (as := [aR 0]) (st := []) O zc_X3_copyFrom (Or.inr ⟨_, zl_RX7_95⟩) zi_676 zi_37 (zN_o zisN_13) rfl rfl (zN_lt0 zisN_13) (Nat.le_of_ble_eq_true rfl) rfl rfl (Nat.le_of_ble_eq_true rfl) (Nat.le_of_ble_eq_true rfl) (Nat.le_of_ble_eq_true rfl) (Nat.le_of_ble_eq_true rfl) (Nat.le_of_ble_eq_true rfl) (Nat.le_of_ble_eq_true rfl) dX7_setKeep_33 (sX3_copyFrom zisN_13 zisN_0 hM) (fun r h6 hq => ?_) (fun x h9 hq => hq.elim)
      obtain ⟨rfl, hM⟩ := hq
      refine zV_aload_n O dX7_setKeep_36 rfl rfl ?_
      refine zV_getR O zf_RX7_16 zt_169 rfl (by decide) dX7_setKeep_37 ?_
      refine zV_iload_n O dX7_setKeep_40 rfl rfl ?_
      refine zV_putI O zf_RX7_116 (zN_o zisN_13) rfl (zN_lt0 zisN_13) dX7_setKeep_41 ?_
      have hM := hM _ rfl
      generalize hu h6 13 3 x1 = h7 at hM ⊢
      refine zV_aload_n O dX7_setKeep_44 rfl rfl ?_
      refine zV_aload_n O dX7_setKeep_45 rfl rfl ?_
      refine zV_getR O zf_RX7_16 zt_169 rfl (by decide) dX7_setKeep_46 ?_
      refine zV_callV (as := [aR 13]) (st := []) O zc_X7_heldTwice (Or.inl zl_RX7_237) zi_824 zi_53 zt_169 rfl rfl (by decide) (Nat.le_of_ble_eq_true rfl) rfl rfl (Nat.le_of_ble_eq_true rfl) (Nat.le_of_ble_eq_true rfl) (Nat.le_of_ble_eq_true rfl) (Nat.le_of_ble_eq_true rfl) (Nat.le_of_ble_eq_true rfl) (Nat.le_of_ble_eq_true rfl) dX7_setKeep_49 (sX7_heldTwice zisN_13 hM) (fun r h9 hq => ?_) (fun x h9 hq => hq.elim)
      obtain ⟨z8, rfl, hM⟩ := hq
      refine zV_if_eq (tgt := 58) O dX7_setKeep_52 (by decide) (fun hc => ?_) (fun hc => ?_)
      · replace hM := hM.1 hc
        refine zV_aload_n O dX7_setKeep_58 rfl rfl ?_
        refine zV_callV (as := []) (st := []) O zc_X7_adoptTrial (Or.inl zl_RX7_275) zi_837 zi_55 zt_169 rfl rfl (by decide) (Nat.le_of_ble_eq_true rfl) rfl rfl (Nat.le_of_ble_eq_true rfl) (Nat.le_of_ble_eq_true rfl) (Nat.le_of_ble_eq_true rfl) (Nat.le_of_ble_eq_true rfl) (Nat.le_of_ble_eq_true rfl) (Nat.le_of_ble_eq_true rfl) dX7_setKeep_59 (sX7_adoptTrial hM) (fun r h10 hq => ?_) (fun x h9 hq => hq.elim)
        obtain ⟨rfl, hM⟩ := hq
        refine zV_iload_n O dX7_setKeep_62 rfl rfl ?_
        exact zV_iret O rfl ⟨_, rfl, hM⟩ (Nat.le_of_ble_eq_true rfl) (Nat.le_of_ble_eq_true rfl) dX7_setKeep_63
      · replace hM := hM.2 hc
        refine zV_bipush (z := -2) O ⟨by omega, by omega⟩ rfl dX7_setKeep_55 ?_
        exact zV_iret O rfl ⟨_, rfl, hM⟩ (Nat.le_of_ble_eq_true rfl) (Nat.le_of_ble_eq_true rfl) dX7_setKeep_57
    · replace hM := hM.2 hc
      exact hM.elim
def mX7_wave  (h : Hp) (Q : Int → Hp → Prop) : Prop := (mX3_copyFrom 13 0 h (fun h5 => (mX7_tryWave h5 (fun z6 h7 => ((z6 < 0 → (Q z6 h7)) ∧ (¬ z6 < 0 → (mX7_adoptTrial h7 (fun h8 => (Q z6 h8)))))))))
set_option maxHeartbeats 4000000 in
set_option maxRecDepth 100000 in
theorem sX7_wave {l0 : Launch}  {h : Hp} {Q : Int → Hp → Prop}  (hM : mX7_wave  h Q) : zSp l0 yX7_wave cX7_wave 2 (some .int) 185 (7) 0 0 [aR 169] h (qI Q) xN := by
  unfold mX7_wave at hM
  refine zSp_intro zpn_RX7 (Nat.le_of_ble_eq_true rfl) (fun a O => ?_)
  show zV a (7, 0, 0, (qI Q), xN) 0 0 0 [some (aR 169), none] [] h
  refine zV_aload_n O dX7_wave_0 rfl rfl ?_
  refine zV_getR O zf_RX7_16 zt_169 rfl (by decide) dX7_wave_1 ?_
  refine zV_aload_n O dX7_wave_4 rfl rfl ?_
  refine zV_getR O zf_RX7_10 zt_169 rfl (by decide) dX7_wave_5 ?_
  refine zV_callV (as := [aR 0]) (st := []) O zc_X3_copyFrom (Or.inr ⟨_, zl_RX7_95⟩) zi_676 zi_37 (zN_o zisN_13) rfl rfl (zN_lt0 zisN_13) (Nat.le_of_ble_eq_true rfl) rfl rfl (Nat.le_of_ble_eq_true rfl) (Nat.le_of_ble_eq_true rfl) (Nat.le_of_ble_eq_true rfl) (Nat.le_of_ble_eq_true rfl) (Nat.le_of_ble_eq_true rfl) (Nat.le_of_ble_eq_true rfl) dX7_wave_8 (sX3_copyFrom zisN_13 zisN_0 hM) (fun r h5 hq => ?_) (fun x h9 hq => hq.elim)
  obtain ⟨rfl, hM⟩ := hq
  refine zV_aload_n O dX7_wave_11 rfl rfl ?_
  refine zV_callV (as := []) (st := []) O zc_X7_tryWave (Or.inl zl_RX7_226) zi_799 zi_47 zt_169 rfl rfl (by decide) (Nat.le_of_ble_eq_true rfl) rfl rfl (Nat.le_of_ble_eq_true rfl) (Nat.le_of_ble_eq_true rfl) (Nat.le_of_ble_eq_true rfl) (Nat.le_of_ble_eq_true rfl) (Nat.le_of_ble_eq_true rfl) (Nat.le_of_ble_eq_true rfl) dX7_wave_12 (sX7_tryWave hM) (fun r h7 hq => ?_) (fun x h9 hq => hq.elim)
  obtain ⟨z6, rfl, hM⟩ := hq
  refine zV_istore_n O dX7_wave_15 rfl (Nat.le_of_ble_eq_true rfl) rfl ?_
  refine zV_iload_n O dX7_wave_16 rfl rfl ?_
  refine zV_if_lt (tgt := 24) O dX7_wave_17 (by decide) (fun hc => ?_) (fun hc => ?_)
  · replace hM := hM.1 hc
    refine zV_iload_n O dX7_wave_24 rfl rfl ?_
    exact zV_iret O rfl ⟨_, rfl, hM⟩ (Nat.le_of_ble_eq_true rfl) (Nat.le_of_ble_eq_true rfl) dX7_wave_25
  · replace hM := hM.2 hc
    refine zV_aload_n O dX7_wave_20 rfl rfl ?_
    refine zV_callV (as := []) (st := []) O zc_X7_adoptTrial (Or.inl zl_RX7_275) zi_837 zi_55 zt_169 rfl rfl (by decide) (Nat.le_of_ble_eq_true rfl) rfl rfl (Nat.le_of_ble_eq_true rfl) (Nat.le_of_ble_eq_true rfl) (Nat.le_of_ble_eq_true rfl) (Nat.le_of_ble_eq_true rfl) (Nat.le_of_ble_eq_true rfl) (Nat.le_of_ble_eq_true rfl) dX7_wave_21 (sX7_adoptTrial hM) (fun r h8 hq => ?_) (fun x h9 hq => hq.elim)
    obtain ⟨rfl, hM⟩ := hq
    refine zV_iload_n O dX7_wave_24 rfl rfl ?_
    exact zV_iret O rfl ⟨_, rfl, hM⟩ (Nat.le_of_ble_eq_true rfl) (Nat.le_of_ble_eq_true rfl) dX7_wave_25
def mX7_load (x1 : Int) (h : Hp) (Q : Int → Hp → Prop) : Prop := ((x1 < 0 → False) ∧ (¬ x1 < 0 → ((x1 ≤ (h 176 1) → (mX6_begin x1 h (fun h9 => (mX2_readText h9 (fun z10 h11 => ((z10 = 0 → (∀ h12 : Hp, h12 = hu h11 169 10 (-1) → (mX3_copyFrom 0 13 h12 (fun h13 => (mX0_clear h13 (fun h14 => (∀ h15 : Hp, h15 = hu h14 169 3 0 → (Q (h15 0 0) h15)))))))) ∧ (¬ z10 = 0 → (∀ h16 : Hp, h16 = hu h11 169 10 (h11 176 5) → (zr ((-10) - z10) ∧ (Q ((-10) - z10) h16)))))))))) ∧ (¬ x1 ≤ (h 176 1) → False))))
set_option maxHeartbeats 4000000 in
set_option maxRecDepth 100000 in
theorem sX7_load {l0 : Launch} {x1 : Int} {h : Hp} {Q : Int → Hp → Prop}  (hM : mX7_load x1 h Q) : zSp l0 yX7_load cX7_load 3 (some .int) 185 (9) 0 0 [aR 169, aI x1] h (qI Q) xN := by
  unfold mX7_load at hM
  refine zSp_intro zpn_RX7 (Nat.le_of_ble_eq_true rfl) (fun a O => ?_)
  show zV a (9, 0, 0, (qI Q), xN) 0 0 0 [some (aR 169), some (aI x1), none] [] h
  refine zV_iload_n O dX7_load_0 rfl rfl ?_
  refine zV_if_lt (tgt := 15) O dX7_load_1 (by decide) (fun hc => ?_) (fun hc => ?_)
  · replace hM := hM.1 hc
    exact hM.elim
  · replace hM := hM.2 hc
    refine zV_iload_n O dX7_load_4 rfl rfl ?_
    refine zV_aload_n O dX7_load_5 rfl rfl ?_
    refine zV_getR O zf_RX7_39 zt_169 rfl (by decide) dX7_load_6 ?_
    refine zV_getI O zf_RX7_75 zt_176 rfl (by decide) dX7_load_9 ?_
    refine zV_icmp_le (tgt := 23) O dX7_load_12 (by decide) (fun hc => ?_) (fun hc => ?_)
    · replace hM := hM.1 hc
      refine zV_aload_n O dX7_load_23 rfl rfl ?_
      refine zV_getR O zf_RX7_39 zt_169 rfl (by decide) dX7_load_24 ?_
      refine zV_iload_n O dX7_load_27 rfl rfl ?_
      refine zV_callV (as := [aI x1]) (st := []) O zc_X6_begin (Or.inr ⟨_, zl_RX7_85⟩) zi_535 zi_8 zt_176 rfl rfl (by decide) (Nat.le_of_ble_eq_true rfl) rfl rfl (Nat.le_of_ble_eq_true rfl) (Nat.le_of_ble_eq_true rfl) (Nat.le_of_ble_eq_true rfl) (Nat.le_of_ble_eq_true rfl) (Nat.le_of_ble_eq_true rfl) (Nat.le_of_ble_eq_true rfl) dX7_load_28 (sX6_begin hM) (fun r h9 hq => ?_) (fun x h9 hq => hq.elim)
      obtain ⟨rfl, hM⟩ := hq
      refine zV_aload_n O dX7_load_31 rfl rfl ?_
      refine zV_getR O zf_RX7_48 zt_169 rfl (by decide) dX7_load_32 ?_
      refine zV_callV (as := []) (st := []) O zc_X2_readText (Or.inr ⟨_, zl_RX7_88⟩) zi_552 zi_10 zt_178 rfl rfl (by decide) (Nat.le_of_ble_eq_true rfl) rfl rfl (Nat.le_of_ble_eq_true rfl) (Nat.le_of_ble_eq_true rfl) (Nat.le_of_ble_eq_true rfl) (Nat.le_of_ble_eq_true rfl) (Nat.le_of_ble_eq_true rfl) (Nat.le_of_ble_eq_true rfl) dX7_load_35 (sX2_readText hM) (fun r h11 hq => ?_) (fun x h9 hq => hq.elim)
      obtain ⟨z10, rfl, hM⟩ := hq
      refine zV_istore_n O dX7_load_38 rfl (Nat.le_of_ble_eq_true rfl) rfl ?_
      refine zV_iload_n O dX7_load_39 rfl rfl ?_
      refine zV_if_eq (tgt := 59) O dX7_load_40 (by decide) (fun hc => ?_) (fun hc => ?_)
      · replace hM := hM.1 hc
        refine zV_aload_n O dX7_load_59 rfl rfl ?_
        refine zV_iconst (z := -1) O ⟨by omega, by omega⟩ dX7_load_60 ?_
        refine zV_putI O zf_RX7_68 zt_169 rfl (by decide) dX7_load_61 ?_
        have hM := hM _ rfl
        generalize hu h11 169 10 (-1) = h12 at hM ⊢
        refine zV_aload_n O dX7_load_64 rfl rfl ?_
        refine zV_getR O zf_RX7_10 zt_169 rfl (by decide) dX7_load_65 ?_
        refine zV_aload_n O dX7_load_68 rfl rfl ?_
        refine zV_getR O zf_RX7_16 zt_169 rfl (by decide) dX7_load_69 ?_
        refine zV_callV (as := [aR 13]) (st := []) O zc_X3_copyFrom (Or.inr ⟨_, zl_RX7_95⟩) zi_676 zi_37 (zN_o zisN_0) rfl rfl (zN_lt0 zisN_0) (Nat.le_of_ble_eq_true rfl) rfl rfl (Nat.le_of_ble_eq_true rfl) (Nat.le_of_ble_eq_true rfl) (Nat.le_of_ble_eq_true rfl) (Nat.le_of_ble_eq_true rfl) (Nat.le_of_ble_eq_true rfl) (Nat.le_of_ble_eq_true rfl) dX7_load_72 (sX3_copyFrom zisN_0 zisN_13 hM) (fun r h13 hq => ?_) (fun x h9 hq => hq.elim)
        obtain ⟨rfl, hM⟩ := hq
        refine zV_aload_n O dX7_load_75 rfl rfl ?_
        refine zV_getR O zf_RX7_25 zt_169 rfl (by decide) dX7_load_76 ?_
        refine zV_callV (as := []) (st := []) O zc_X0_clear (Or.inr ⟨_, zl_RX7_99⟩) zi_683 zi_38 zt_170 rfl rfl (by decide) (Nat.le_of_ble_eq_true rfl) rfl rfl (Nat.le_of_ble_eq_true rfl) (Nat.le_of_ble_eq_true rfl) (Nat.le_of_ble_eq_true rfl) (Nat.le_of_ble_eq_true rfl) (Nat.le_of_ble_eq_true rfl) (Nat.le_of_ble_eq_true rfl) dX7_load_79 (sX0_clear hM) (fun r h14 hq => ?_) (fun x h9 hq => hq.elim)
        obtain ⟨rfl, hM⟩ := hq
        refine zV_aload_n O dX7_load_82 rfl rfl ?_
        refine zV_iconst (z := 0) O ⟨by omega, by omega⟩ dX7_load_83 ?_
        refine zV_putZ O zf_RX7_100 zt_169 rfl (by decide) (Or.inl rfl) dX7_load_84 ?_
        have hM := hM _ rfl
        generalize hu h14 169 3 0 = h15 at hM ⊢
        refine zV_aload_n O dX7_load_87 rfl rfl ?_
        refine zV_getR O zf_RX7_10 zt_169 rfl (by decide) dX7_load_88 ?_
        refine zV_getI O zf_RX7_104 (zN_o zisN_0) rfl (zN_lt0 zisN_0) dX7_load_91 ?_
        exact zV_iret O rfl ⟨_, rfl, hM⟩ (Nat.le_of_ble_eq_true rfl) (Nat.le_of_ble_eq_true rfl) dX7_load_94
      · replace hM := hM.2 hc
        refine zV_aload_n O dX7_load_43 rfl rfl ?_
        refine zV_aload_n O dX7_load_44 rfl rfl ?_
        refine zV_getR O zf_RX7_39 zt_169 rfl (by decide) dX7_load_45 ?_
        refine zV_getI O zf_RX7_92 zt_176 rfl (by decide) dX7_load_48 ?_
        refine zV_putI O zf_RX7_68 zt_169 rfl (by decide) dX7_load_51 ?_
        have hM := hM _ rfl
        generalize hu h11 169 10 (h11 176 5) = h16 at hM ⊢
        refine zV_bipush (z := -10) O ⟨by omega, by omega⟩ rfl dX7_load_54 ?_
        refine zV_iload_n O dX7_load_56 rfl rfl ?_
        obtain ⟨hc, hM⟩ := hM
        refine zV_isub O dX7_load_57 hc ?_
        exact zV_iret O rfl ⟨_, rfl, hM⟩ (Nat.le_of_ble_eq_true rfl) (Nat.le_of_ble_eq_true rfl) dX7_load_58
    · replace hM := hM.2 hc
      exact hM.elim
