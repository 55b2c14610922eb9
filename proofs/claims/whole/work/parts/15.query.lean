def mX4_addStep (x1 : Int) (h : Hp) (Q : Hp → Prop) : Prop := (((203 : Int) ≤ (h 179 2) → (Q h)) ∧ (¬ (203 : Int) ≤ (h 179 2) → (((0 : Int) ≤ (h 179 2) ∧ (h 179 2) < 203) ∧ (∀ h3 : Hp, h3 = wr h 180 (h 179 2) x1 → (zr ((h3 179 2) + 1) ∧ (∀ h4 : Hp, h4 = hu h3 179 2 ((h3 179 2) + 1) → (Q h4)))))))
set_option maxHeartbeats 4000000 in
set_option maxRecDepth 100000 in
theorem sX4_addStep {l0 : Launch} {x1 : Int} {h : Hp} {Q : Hp → Prop}  (hM : mX4_addStep x1 h Q) : zSp l0 yX4_addStep cX4_addStep 2 none 185 (1) 0 0 [aR 179, aI x1] h (qV Q) xN := by
  unfold mX4_addStep at hM
  refine zSp_intro zpn_RX4 (Nat.le_of_ble_eq_true rfl) (fun a O => ?_)
  show zV a (1, 0, 0, (qV Q), xN) 0 0 0 [some (aR 179), some (aI x1)] [] h
  refine zV_aload_n O dX4_addStep_0 rfl rfl ?_
  refine zV_getI O zf_RX4_30 zt_179 rfl (by decide) dX4_addStep_1 ?_
  refine zV_sipush (z := 203) O ⟨by omega, by omega⟩ rfl dX4_addStep_4 ?_
  refine zV_icmp_ge (tgt := 30) O dX4_addStep_7 (by decide) (fun hc => ?_) (fun hc => ?_)
  · replace hM := hM.1 hc
    exact zV_vret O rfl ⟨rfl, hM⟩ (Nat.le_of_ble_eq_true rfl) (Nat.le_of_ble_eq_true rfl) dX4_addStep_30
  · replace hM := hM.2 hc
    refine zV_aload_n O dX4_addStep_10 rfl rfl ?_
    refine zV_getR O zf_RX4_11 zt_179 rfl (by decide) dX4_addStep_11 ?_
    refine zV_aload_n O dX4_addStep_14 rfl rfl ?_
    refine zV_getI O zf_RX4_30 zt_179 rfl (by decide) dX4_addStep_15 ?_
    refine zV_iload_n O dX4_addStep_18 rfl rfl ?_
    obtain ⟨hc, hM⟩ := hM
    refine zV_iast O zt_180 (by decide) hc dX4_addStep_19 ?_
    have hM := hM (hu h 180 (Int.toNat (h 179 2)) x1) rfl
    generalize hu h 180 (Int.toNat (h 179 2)) x1 = h3 at hM ⊢
    refine zV_aload_n O dX4_addStep_20 rfl rfl ?_
    refine zV_dup O rfl dX4_addStep_21 ?_
    refine zV_getI O zf_RX4_30 zt_179 rfl (by decide) dX4_addStep_22 ?_
    refine zV_iconst (z := 1) O ⟨by omega, by omega⟩ dX4_addStep_25 ?_
    obtain ⟨hc, hM⟩ := hM
    refine zV_iadd O dX4_addStep_26 hc ?_
    refine zV_putI O zf_RX4_30 zt_179 rfl (by decide) dX4_addStep_27 ?_
    have hM := hM _ rfl
    generalize hu h3 179 2 ((h3 179 2) + 1) = h4 at hM ⊢
    exact zV_vret O rfl ⟨rfl, hM⟩ (Nat.le_of_ble_eq_true rfl) (Nat.le_of_ble_eq_true rfl) dX4_addStep_30
def mX4_pop  (h : Hp) (Q : Int → Hp → Prop) : Prop := (((1 : Int) ≤ (h 179 6) → (zr ((h 179 6) - 1) ∧ (∀ h2 : Hp, h2 = hu h 179 6 ((h 179 6) - 1) → (((0 : Int) ≤ (h2 179 6) ∧ (h2 179 6) < 203) ∧ (Q (rd h2 181 (h2 179 6)) h2))))) ∧ (¬ (1 : Int) ≤ (h 179 6) → (Q 0 h)))
set_option maxHeartbeats 4000000 in
set_option maxRecDepth 100000 in
theorem sX4_pop {l0 : Launch}  {h : Hp} {Q : Int → Hp → Prop}  (hM : mX4_pop  h Q) : zSp l0 yX4_pop cX4_pop 1 (some .long) 185 (1) 0 0 [aR 179] h (qL Q) xN := by
  unfold mX4_pop at hM
  refine zSp_intro zpn_RX4 (Nat.le_of_ble_eq_true rfl) (fun a O => ?_)
  show zV a (1, 0, 0, (qL Q), xN) 0 0 0 [some (aR 179)] [] h
  refine zV_aload_n O dX4_pop_0 rfl rfl ?_
  refine zV_getI O zf_RX4_107 zt_179 rfl (by decide) dX4_pop_1 ?_
  refine zV_iconst (z := 1) O ⟨by omega, by omega⟩ dX4_pop_4 ?_
  refine zV_icmp_ge (tgt := 10) O dX4_pop_5 (by decide) (fun hc => ?_) (fun hc => ?_)
  · replace hM := hM.1 hc
    refine zV_aload_n O dX4_pop_10 rfl rfl ?_
    refine zV_dup O rfl dX4_pop_11 ?_
    refine zV_getI O zf_RX4_107 zt_179 rfl (by decide) dX4_pop_12 ?_
    refine zV_iconst (z := 1) O ⟨by omega, by omega⟩ dX4_pop_15 ?_
    obtain ⟨hc, hM⟩ := hM
    refine zV_isub O dX4_pop_16 hc ?_
    refine zV_putI O zf_RX4_107 zt_179 rfl (by decide) dX4_pop_17 ?_
    have hM := hM _ rfl
    generalize hu h 179 6 ((h 179 6) - 1) = h2 at hM ⊢
    refine zV_aload_n O dX4_pop_20 rfl rfl ?_
    refine zV_getR O zf_RX4_15 zt_179 rfl (by decide) dX4_pop_21 ?_
    refine zV_aload_n O dX4_pop_24 rfl rfl ?_
    refine zV_getI O zf_RX4_107 zt_179 rfl (by decide) dX4_pop_25 ?_
    obtain ⟨hc, hM⟩ := hM
    refine zV_lald O zt_181 (by decide) hc dX4_pop_28 ?_
    exact zV_lret O rfl ⟨_, rfl, hM⟩ (Nat.le_of_ble_eq_true rfl) (Nat.le_of_ble_eq_true rfl) dX4_pop_29
  · replace hM := hM.2 hc
    refine zV_lconst (z := 0) O ⟨by omega, by omega⟩ rfl dX4_pop_8 ?_
    exact zV_lret O rfl ⟨_, rfl, hM⟩ (Nat.le_of_ble_eq_true rfl) (Nat.le_of_ble_eq_true rfl) dX4_pop_9
def mX4_push (x1 : Int) (h : Hp) (Q : Hp → Prop) : Prop := (((203 : Int) ≤ (h 179 6) → (Q h)) ∧ (¬ (203 : Int) ≤ (h 179 6) → (((0 : Int) ≤ (h 179 6) ∧ (h 179 6) < 203) ∧ (∀ h3 : Hp, h3 = wr h 181 (h 179 6) x1 → (zr ((h3 179 6) + 1) ∧ (∀ h4 : Hp, h4 = hu h3 179 6 ((h3 179 6) + 1) → (Q h4)))))))
set_option maxHeartbeats 4000000 in
set_option maxRecDepth 100000 in
theorem sX4_push {l0 : Launch} {x1 : Int} {h : Hp} {Q : Hp → Prop}  (hM : mX4_push x1 h Q) : zSp l0 yX4_push cX4_push 3 none 185 (1) 0 0 [aR 179, aL x1] h (qV Q) xN := by
  unfold mX4_push at hM
  refine zSp_intro zpn_RX4 (Nat.le_of_ble_eq_true rfl) (fun a O => ?_)
  show zV a (1, 0, 0, (qV Q), xN) 0 0 0 [some (aR 179), some (aL x1), none] [] h
  refine zV_aload_n O dX4_push_0 rfl rfl ?_
  refine zV_getI O zf_RX4_107 zt_179 rfl (by decide) dX4_push_1 ?_
  refine zV_sipush (z := 203) O ⟨by omega, by omega⟩ rfl dX4_push_4 ?_
  refine zV_icmp_ge (tgt := 30) O dX4_push_7 (by decide) (fun hc => ?_) (fun hc => ?_)
  · replace hM := hM.1 hc
    exact zV_vret O rfl ⟨rfl, hM⟩ (Nat.le_of_ble_eq_true rfl) (Nat.le_of_ble_eq_true rfl) dX4_push_30
  · replace hM := hM.2 hc
    refine zV_aload_n O dX4_push_10 rfl rfl ?_
    refine zV_getR O zf_RX4_15 zt_179 rfl (by decide) dX4_push_11 ?_
    refine zV_aload_n O dX4_push_14 rfl rfl ?_
    refine zV_getI O zf_RX4_107 zt_179 rfl (by decide) dX4_push_15 ?_
    refine zV_lload_n O dX4_push_18 rfl rfl ?_
    obtain ⟨hc, hM⟩ := hM
    refine zV_last O zt_181 (by decide) hc dX4_push_19 ?_
    have hM := hM (hu h 181 (Int.toNat (h 179 6)) x1) rfl
    generalize hu h 181 (Int.toNat (h 179 6)) x1 = h3 at hM ⊢
    refine zV_aload_n O dX4_push_20 rfl rfl ?_
    refine zV_dup O rfl dX4_push_21 ?_
    refine zV_getI O zf_RX4_107 zt_179 rfl (by decide) dX4_push_22 ?_
    refine zV_iconst (z := 1) O ⟨by omega, by omega⟩ dX4_push_25 ?_
    obtain ⟨hc, hM⟩ := hM
    refine zV_iadd O dX4_push_26 hc ?_
    refine zV_putI O zf_RX4_107 zt_179 rfl (by decide) dX4_push_27 ?_
    have hM := hM _ rfl
    generalize hu h3 179 6 ((h3 179 6) + 1) = h4 at hM ⊢
    exact zV_vret O rfl ⟨rfl, hM⟩ (Nat.le_of_ble_eq_true rfl) (Nat.le_of_ble_eq_true rfl) dX4_push_30
def mX4_valueFor (x1 : Int) (x2 : Int) (o3 : Nat) (h : Hp) (Q : Int → Prop) : Prop := ((x2 = -9 → (((0 : Int) ≤ x1 ∧ x1 < 40) ∧ (Q (rd h 182 x1)))) ∧ (x2 = -8 → (((0 : Int) ≤ x1 ∧ x1 < 40) ∧ (mX5_isClash (rd h (o3 + 3) x1) h (fun z5 => ((¬ z5 = 0 → (Q 1)) ∧ (z5 = 0 → (mX3_keptBy o3 x1 h (fun z6 => (mX5_isClash z6 h (fun z7 => ((z7 = 0 → (Q 0)) ∧ (¬ z7 = 0 → (Q 1))))))))))))) ∧ (x2 = -7 → (((0 : Int) ≤ x1 ∧ x1 < 40) ∧ (Q (rd h (o3 + 6) x1)))) ∧ (x2 = -6 → (((0 : Int) ≤ x1 ∧ x1 < 40) ∧ (Q (rd h (o3 + 5) x1)))) ∧ (x2 = -5 → (((0 : Int) ≤ x1 ∧ x1 < 40) ∧ (Q (rd h (o3 + 4) x1)))) ∧ (x2 = -4 → (mX3_keptBy o3 x1 h (fun z8 => (Q z8)))) ∧ (x2 = -3 → (((0 : Int) ≤ x1 ∧ x1 < 40) ∧ (Q (rd h (o3 + 3) x1)))) ∧ (x2 = -2 → (((0 : Int) ≤ x1 ∧ x1 < 40) ∧ (Q (rd h (o3 + 2) x1)))) ∧ (x2 = -1 → (Q x1)) ∧ ((x2 < -9 ∨ -1 < x2) → (Q x2)))
set_option maxHeartbeats 4000000 in
set_option maxRecDepth 100000 in
theorem sX4_valueFor {l0 : Launch} {x1 : Int} {x2 : Int} {o3 : Nat} {h : Hp} {Q : Int → Prop} (hN3 : zisN o3) (hM : mX4_valueFor x1 x2 o3 h Q) : zSp l0 yX4_valueFor cX4_valueFor 5 (some .int) 185 (3) 0 0 [aR 179, aI x1, aI x2, aR o3, aR 172] h (qPI h Q) xN := by
  unfold mX4_valueFor at hM
  refine zSp_intro zpn_RX4 (Nat.le_of_ble_eq_true rfl) (fun a O => ?_)
  show zV a (3, 0, 0, (qPI h Q), xN) 0 0 0 [some (aR 179), some (aI x1), some (aI x2), some (aR o3), some (aR 172)] [] h
  refine zV_iload_n O dX4_valueFor_0 rfl rfl ?_
  by_cases hc0 : x2 = -9
  · replace hM := hM.1 hc0
    refine zV_tableIn (tgt := 128) O dX4_valueFor_1 (by omega) (by omega) (by rw [hc0]; rfl) (by decide) ?_
    refine zV_aload_n O dX4_valueFor_128 rfl rfl ?_
    refine zV_getR O zf_RX4_19 zt_179 rfl (by decide) dX4_valueFor_129 ?_
    refine zV_iload_n O dX4_valueFor_132 rfl rfl ?_
    obtain ⟨hc, hM⟩ := hM
    refine zV_iald O zt_182 (by decide) hc dX4_valueFor_133 ?_
    exact zV_iret O rfl ⟨rfl, _, rfl, hM⟩ (Nat.le_of_ble_eq_true rfl) (Nat.le_of_ble_eq_true rfl) dX4_valueFor_134
  by_cases hc1 : x2 = -8
  · replace hM := hM.2.1 hc1
    refine zV_tableIn (tgt := 95) O dX4_valueFor_1 (by omega) (by omega) (by rw [hc1]; rfl) (by decide) ?_
    refine zV_aload O dX4_valueFor_95 rfl ?_
    refine zV_aload_n O dX4_valueFor_97 rfl rfl ?_
    refine zV_getR O zf_RX4_141 (zN_o hN3) rfl (zN_lt0 hN3) dX4_valueFor_98 ?_
    refine zV_iload_n O dX4_valueFor_101 rfl rfl ?_
    obtain ⟨hc, hM⟩ := hM
    refine zV_iald O (zN_a3 hN3) (zN_lt hN3 (k := 3) (by decide)) hc dX4_valueFor_102 ?_
    refine zV_callV (as := [aI (rd h (o3 + 3) x1)]) (st := []) O zc_X5_isClash (Or.inr ⟨_, zl_RX4_154⟩) zi_574 zi_17 zt_172 rfl rfl (by decide) (Nat.le_of_ble_eq_true rfl) rfl rfl (Nat.le_of_ble_eq_true rfl) (Nat.le_of_ble_eq_true rfl) (Nat.le_of_ble_eq_true rfl) (Nat.le_of_ble_eq_true rfl) (Nat.le_of_ble_eq_true rfl) (Nat.le_of_ble_eq_true rfl) dX4_valueFor_103 (sX5_isClash hM) (fun r h9 hq => ?_) (fun x h9 hq => hq.elim)
    obtain ⟨rfl, z5, rfl, hzz5, hM⟩ := hq
    refine zV_if_ne (tgt := 122) O dX4_valueFor_106 (by decide) (fun hc => ?_) (fun hc => ?_)
    · replace hM := hM.1 hc
      refine zV_iconst (z := 1) O ⟨by omega, by omega⟩ dX4_valueFor_122 ?_
      refine zV_goto (tgt := 127) O dX4_valueFor_123 (by decide) ?_
      exact zV_iret O rfl ⟨rfl, _, rfl, hM⟩ (Nat.le_of_ble_eq_true rfl) (Nat.le_of_ble_eq_true rfl) dX4_valueFor_127
    · replace hM := hM.2 hc
      refine zV_aload O dX4_valueFor_109 rfl ?_
      refine zV_aload_n O dX4_valueFor_111 rfl rfl ?_
      refine zV_iload_n O dX4_valueFor_112 rfl rfl ?_
      refine zV_callV (as := [aI x1]) (st := [aR 172]) O zc_X3_keptBy (Or.inr ⟨_, zl_RX4_143⟩) zi_505 zi_3 (zN_o hN3) rfl rfl (zN_lt0 hN3) (Nat.le_of_ble_eq_true rfl) rfl rfl (Nat.le_of_ble_eq_true rfl) (Nat.le_of_ble_eq_true rfl) (Nat.le_of_ble_eq_true rfl) (Nat.le_of_ble_eq_true rfl) (Nat.le_of_ble_eq_true rfl) (Nat.le_of_ble_eq_true rfl) dX4_valueFor_113 (sX3_keptBy hN3 hM) (fun r h9 hq => ?_) (fun x h9 hq => hq.elim)
      obtain ⟨rfl, z6, rfl, hM⟩ := hq
      refine zV_callV (as := [aI z6]) (st := []) O zc_X5_isClash (Or.inr ⟨_, zl_RX4_154⟩) zi_574 zi_17 zt_172 rfl rfl (by decide) (Nat.le_of_ble_eq_true rfl) rfl rfl (Nat.le_of_ble_eq_true rfl) (Nat.le_of_ble_eq_true rfl) (Nat.le_of_ble_eq_true rfl) (Nat.le_of_ble_eq_true rfl) (Nat.le_of_ble_eq_true rfl) (Nat.le_of_ble_eq_true rfl) dX4_valueFor_116 (sX5_isClash hM) (fun r h9 hq => ?_) (fun x h9 hq => hq.elim)
      obtain ⟨rfl, z7, rfl, hzz7, hM⟩ := hq
      refine zV_if_eq (tgt := 126) O dX4_valueFor_119 (by decide) (fun hc => ?_) (fun hc => ?_)
      · replace hM := hM.1 hc
        refine zV_iconst (z := 0) O ⟨by omega, by omega⟩ dX4_valueFor_126 ?_
        exact zV_iret O rfl ⟨rfl, _, rfl, hM⟩ (Nat.le_of_ble_eq_true rfl) (Nat.le_of_ble_eq_true rfl) dX4_valueFor_127
      · replace hM := hM.2 hc
        refine zV_iconst (z := 1) O ⟨by omega, by omega⟩ dX4_valueFor_122 ?_
        refine zV_goto (tgt := 127) O dX4_valueFor_123 (by decide) ?_
        exact zV_iret O rfl ⟨rfl, _, rfl, hM⟩ (Nat.le_of_ble_eq_true rfl) (Nat.le_of_ble_eq_true rfl) dX4_valueFor_127
  by_cases hc2 : x2 = -7
  · replace hM := hM.2.2.1 hc2
    refine zV_tableIn (tgt := 88) O dX4_valueFor_1 (by omega) (by omega) (by rw [hc2]; rfl) (by decide) ?_
    refine zV_aload_n O dX4_valueFor_88 rfl rfl ?_
    refine zV_getR O zf_RX4_151 (zN_o hN3) rfl (zN_lt0 hN3) dX4_valueFor_89 ?_
    refine zV_iload_n O dX4_valueFor_92 rfl rfl ?_
    obtain ⟨hc, hM⟩ := hM
    refine zV_iald O (zN_a6 hN3) (zN_lt hN3 (k := 6) (by decide)) hc dX4_valueFor_93 ?_
    exact zV_iret O rfl ⟨rfl, _, rfl, hM⟩ (Nat.le_of_ble_eq_true rfl) (Nat.le_of_ble_eq_true rfl) dX4_valueFor_94
  by_cases hc3 : x2 = -6
  · replace hM := hM.2.2.2.1 hc3
    refine zV_tableIn (tgt := 81) O dX4_valueFor_1 (by omega) (by omega) (by rw [hc3]; rfl) (by decide) ?_
    refine zV_aload_n O dX4_valueFor_81 rfl rfl ?_
    refine zV_getR O zf_RX4_148 (zN_o hN3) rfl (zN_lt0 hN3) dX4_valueFor_82 ?_
    refine zV_iload_n O dX4_valueFor_85 rfl rfl ?_
    obtain ⟨hc, hM⟩ := hM
    refine zV_iald O (zN_a5 hN3) (zN_lt hN3 (k := 5) (by decide)) hc dX4_valueFor_86 ?_
    exact zV_iret O rfl ⟨rfl, _, rfl, hM⟩ (Nat.le_of_ble_eq_true rfl) (Nat.le_of_ble_eq_true rfl) dX4_valueFor_87
  by_cases hc4 : x2 = -5
  · replace hM := hM.2.2.2.2.1 hc4
    refine zV_tableIn (tgt := 74) O dX4_valueFor_1 (by omega) (by omega) (by rw [hc4]; rfl) (by decide) ?_
    refine zV_aload_n O dX4_valueFor_74 rfl rfl ?_
    refine zV_getR O zf_RX4_146 (zN_o hN3) rfl (zN_lt0 hN3) dX4_valueFor_75 ?_
    refine zV_iload_n O dX4_valueFor_78 rfl rfl ?_
    obtain ⟨hc, hM⟩ := hM
    refine zV_iald O (zN_a4 hN3) (zN_lt hN3 (k := 4) (by decide)) hc dX4_valueFor_79 ?_
    exact zV_iret O rfl ⟨rfl, _, rfl, hM⟩ (Nat.le_of_ble_eq_true rfl) (Nat.le_of_ble_eq_true rfl) dX4_valueFor_80
  by_cases hc5 : x2 = -4
  · replace hM := hM.2.2.2.2.2.1 hc5
    refine zV_tableIn (tgt := 68) O dX4_valueFor_1 (by omega) (by omega) (by rw [hc5]; rfl) (by decide) ?_
    refine zV_aload_n O dX4_valueFor_68 rfl rfl ?_
    refine zV_iload_n O dX4_valueFor_69 rfl rfl ?_
    refine zV_callV (as := [aI x1]) (st := []) O zc_X3_keptBy (Or.inr ⟨_, zl_RX4_143⟩) zi_505 zi_3 (zN_o hN3) rfl rfl (zN_lt0 hN3) (Nat.le_of_ble_eq_true rfl) rfl rfl (Nat.le_of_ble_eq_true rfl) (Nat.le_of_ble_eq_true rfl) (Nat.le_of_ble_eq_true rfl) (Nat.le_of_ble_eq_true rfl) (Nat.le_of_ble_eq_true rfl) (Nat.le_of_ble_eq_true rfl) dX4_valueFor_70 (sX3_keptBy hN3 hM) (fun r h9 hq => ?_) (fun x h9 hq => hq.elim)
    obtain ⟨rfl, z8, rfl, hM⟩ := hq
    exact zV_iret O rfl ⟨rfl, _, rfl, hM⟩ (Nat.le_of_ble_eq_true rfl) (Nat.le_of_ble_eq_true rfl) dX4_valueFor_73
  by_cases hc6 : x2 = -3
  · replace hM := hM.2.2.2.2.2.2.1 hc6
    refine zV_tableIn (tgt := 61) O dX4_valueFor_1 (by omega) (by omega) (by rw [hc6]; rfl) (by decide) ?_
    refine zV_aload_n O dX4_valueFor_61 rfl rfl ?_
    refine zV_getR O zf_RX4_141 (zN_o hN3) rfl (zN_lt0 hN3) dX4_valueFor_62 ?_
    refine zV_iload_n O dX4_valueFor_65 rfl rfl ?_
    obtain ⟨hc, hM⟩ := hM
    refine zV_iald O (zN_a3 hN3) (zN_lt hN3 (k := 3) (by decide)) hc dX4_valueFor_66 ?_
    exact zV_iret O rfl ⟨rfl, _, rfl, hM⟩ (Nat.le_of_ble_eq_true rfl) (Nat.le_of_ble_eq_true rfl) dX4_valueFor_67
  by_cases hc7 : x2 = -2
  · replace hM := hM.2.2.2.2.2.2.2.1 hc7
    refine zV_tableIn (tgt := 54) O dX4_valueFor_1 (by omega) (by omega) (by rw [hc7]; rfl) (by decide) ?_
    refine zV_aload_n O dX4_valueFor_54 rfl rfl ?_
    refine zV_getR O zf_RX4_139 (zN_o hN3) rfl (zN_lt0 hN3) dX4_valueFor_55 ?_
    refine zV_iload_n O dX4_valueFor_58 rfl rfl ?_
    obtain ⟨hc, hM⟩ := hM
    refine zV_iald O (zN_a2 hN3) (zN_lt hN3 (k := 2) (by decide)) hc dX4_valueFor_59 ?_
    exact zV_iret O rfl ⟨rfl, _, rfl, hM⟩ (Nat.le_of_ble_eq_true rfl) (Nat.le_of_ble_eq_true rfl) dX4_valueFor_60
  by_cases hc8 : x2 = -1
  · replace hM := hM.2.2.2.2.2.2.2.2.1 hc8
    refine zV_tableIn (tgt := 52) O dX4_valueFor_1 (by omega) (by omega) (by rw [hc8]; rfl) (by decide) ?_
    refine zV_iload_n O dX4_valueFor_52 rfl rfl ?_
    exact zV_iret O rfl ⟨rfl, _, rfl, hM⟩ (Nat.le_of_ble_eq_true rfl) (Nat.le_of_ble_eq_true rfl) dX4_valueFor_53
  have hc : x2 < -9 ∨ -1 < x2 := by omega
  replace hM := hM.2.2.2.2.2.2.2.2.2 hc
  refine zV_tableOut (tgt := 135) O dX4_valueFor_1 hc (by decide) ?_
  refine zV_iload_n O dX4_valueFor_135 rfl rfl ?_
  exact zV_iret O rfl ⟨rfl, _, rfl, hM⟩ (Nat.le_of_ble_eq_true rfl) (Nat.le_of_ble_eq_true rfl) dX4_valueFor_136
def mX4_findReaches_b10 (o1 : Nat) (Q : Hp → Prop) : Nat → Int → Hp → Prop
  | 0 => fun _ _ => False
  | fu10 + 1 => fun v2 h => (((h o1 0) ≤ v2 → (∀ h11 : Hp, h11 = hu h 179 8 1 → (Q h11))) ∧ (¬ (h o1 0) ≤ v2 → (mX3_reachOf o1 v2 h (fun z12 => (((0 : Int) ≤ v2 ∧ v2 < 40) ∧ (∀ h13 : Hp, h13 = wr h 182 v2 z12 → (zr (v2 + 1) ∧ ((mX4_findReaches_b10 o1 Q fu10) (v2 + 1) h13))))))))
set_option maxHeartbeats 4000000 in
set_option maxRecDepth 100000 in
theorem sX4_findReaches_b10 {l0 : Launch} {a : ZC} {o1 : Nat} {Q : Hp → Prop}  (O : zOk l0 a cX4_findReaches RX4 3 none 185 []) (hN1 : zisN o1)  : ∀ (ff : Nat) (v2 : Int) (h : Hp), mX4_findReaches_b10 o1 Q ff v2 h → zV a (4, 0, 0, (qV Q), xN) 0 0 10 [some (aR 179), some (aR o1), some (aI v2)] [] h := by
  intro ff
  induction ff with
  | zero => intro v2 h hM; exact hM.elim
  | succ ff ih =>
    have hK10 := ih
    intro v2 h hM
    unfold mX4_findReaches_b10 at hM
    refine zV_iload_n O dX4_findReaches_10 rfl rfl ?_
    refine zV_aload_n O dX4_findReaches_11 rfl rfl ?_
    refine zV_getI O zf_RX4_102 (zN_o hN1) rfl (zN_lt0 hN1) dX4_findReaches_12 ?_
    refine zV_icmp_ge (tgt := 35) O dX4_findReaches_15 (by decide) (fun hc => ?_) (fun hc => ?_)
    · replace hM := hM.1 hc
      refine zV_aload_n O dX4_findReaches_35 rfl rfl ?_
      refine zV_iconst (z := 1) O ⟨by omega, by omega⟩ dX4_findReaches_36 ?_
      refine zV_putZ O zf_RX4_110 zt_179 rfl (by decide) (Or.inr rfl) dX4_findReaches_37 ?_
      have hM := hM _ rfl
      generalize hu h 179 8 1 = h11 at hM ⊢
      exact zV_vret O rfl ⟨rfl, hM⟩ (Nat.le_of_ble_eq_true rfl) (Nat.le_of_ble_eq_true rfl) dX4_findReaches_40
    · replace hM := hM.2 hc
      refine zV_aload_n O dX4_findReaches_18 rfl rfl ?_
      refine zV_getR O zf_RX4_19 zt_179 rfl (by decide) dX4_findReaches_19 ?_
      refine zV_iload_n O dX4_findReaches_22 rfl rfl ?_
      refine zV_aload_n O dX4_findReaches_23 rfl rfl ?_
      refine zV_iload_n O dX4_findReaches_24 rfl rfl ?_
      refine zV_callV (as := [aI v2]) (st := [aI v2, aR 182]) O zc_X3_reachOf (Or.inr ⟨_, zl_RX4_135⟩) zi_617 zi_22 (zN_o hN1) rfl rfl (zN_lt0 hN1) (Nat.le_of_ble_eq_true rfl) rfl rfl (Nat.le_of_ble_eq_true rfl) (Nat.le_of_ble_eq_true rfl) (Nat.le_of_ble_eq_true rfl) (Nat.le_of_ble_eq_true rfl) (Nat.le_of_ble_eq_true rfl) (Nat.le_of_ble_eq_true rfl) dX4_findReaches_25 (sX3_reachOf hN1 hM) (fun r h9 hq => ?_) (fun x h9 hq => hq.elim)
      obtain ⟨rfl, z12, rfl, hM⟩ := hq
      obtain ⟨hc, hM⟩ := hM
      refine zV_iast O zt_182 (by decide) hc dX4_findReaches_28 ?_
      have hM := hM (hu h 182 (Int.toNat v2) z12) rfl
      generalize hu h 182 (Int.toNat v2) z12 = h13 at hM ⊢
      obtain ⟨hc, hM⟩ := hM
      refine zV_iinc O dX4_findReaches_29 rfl (Nat.le_of_ble_eq_true rfl) rfl hc ?_
      refine zV_goto (tgt := 10) O dX4_findReaches_32 (by decide) ?_
      exact hK10 _ _ hM
def mX4_findReaches (o1 : Nat) (h : Hp) (Q : Hp → Prop) : Prop := (((h 179 8) = 0 → (∃ ff, mX4_findReaches_b10 o1 Q ff 0 h)) ∧ (¬ (h 179 8) = 0 → (Q h)))
set_option maxHeartbeats 4000000 in
set_option maxRecDepth 100000 in
theorem sX4_findReaches {l0 : Launch} {o1 : Nat} {h : Hp} {Q : Hp → Prop} (hN1 : zisN o1) (hM : mX4_findReaches o1 h Q) : zSp l0 yX4_findReaches cX4_findReaches 3 none 185 (4) 0 0 [aR 179, aR o1] h (qV Q) xN := by
  unfold mX4_findReaches at hM
  refine zSp_intro zpn_RX4 (Nat.le_of_ble_eq_true rfl) (fun a O => ?_)
  show zV a (4, 0, 0, (qV Q), xN) 0 0 0 [some (aR 179), some (aR o1), none] [] h
  refine zV_aload_n O dX4_findReaches_0 rfl rfl ?_
  refine zV_getZ O zf_RX4_110 zt_179 rfl (by decide) dX4_findReaches_1 (fun hz14 => ?_)
  refine zV_if_eq (tgt := 8) O dX4_findReaches_4 (by decide) (fun hc => ?_) (fun hc => ?_)
  · replace hM := hM.1 hc
    refine zV_iconst (z := 0) O ⟨by omega, by omega⟩ dX4_findReaches_8 ?_
    refine zV_istore_n O dX4_findReaches_9 rfl (Nat.le_of_ble_eq_true rfl) rfl ?_
    obtain ⟨ff, hM⟩ := hM
    exact sX4_findReaches_b10 O hN1 ff _ _ hM
  · replace hM := hM.2 hc
    exact zV_vret O rfl ⟨rfl, hM⟩ (Nat.le_of_ble_eq_true rfl) (Nat.le_of_ble_eq_true rfl) dX4_findReaches_7
def mX4_compared_b108 (o4 : Nat) (Q : Int → Hp → Prop) (K24 : Int → Int → Int → Int → Int → Hp → Prop) (v1 : Int) (v2 : Int) (v3 : Int) (v6 : Int) (v8 : Int) (h : Hp) : Prop := (zr (v8 + 1) ∧ (K24 v1 v2 v3 v6 (v8 + 1) h))
set_option maxHeartbeats 4000000 in
set_option maxRecDepth 100000 in
theorem sX4_compared_b108 {l0 : Launch} {a : ZC} {o4 : Nat} {Q : Int → Hp → Prop} {K24 : Int → Int → Int → Int → Int → Hp → Prop} (O : zOk l0 a cX4_compared RX4 11 (some .long) 185 []) (hN4 : zisN o4) (hK24 : ∀ (v1 : Int) (v2 : Int) (v3 : Int) (v6 : Int) (v8 : Int) (h : Hp), K24 v1 v2 v3 v6 v8 h → zV a (5, 0, 0, (qL Q), xN) 0 0 24 [some (aR 179), some (aI v1), some (aI v2), some (aI v3), some (aR o4), some (aR 172), some (aL v6), none, some (aI v8), none, none] [] h) {v1 : Int} {v2 : Int} {v3 : Int} {v6 : Int} {v8 : Int} {h : Hp}  (hM : mX4_compared_b108 o4 Q K24 v1 v2 v3 v6 v8 h) : zV a (5, 0, 0, (qL Q), xN) 0 0 108 [some (aR 179), some (aI v1), some (aI v2), some (aI v3), some (aR o4), some (aR 172), some (aL v6), none, some (aI v8), none, none] [] h := by
  unfold mX4_compared_b108 at hM
  obtain ⟨hc, hM⟩ := hM
  refine zV_iinc O dX4_compared_108 rfl (Nat.le_of_ble_eq_true rfl) rfl hc ?_
  refine zV_goto (tgt := 24) O dX4_compared_111 (by decide) ?_
  exact hK24 _ _ _ _ _ _ hM
def mX4_compared_b99 (o4 : Nat) (Q : Int → Hp → Prop) (K24 : Int → Int → Int → Int → Int → Hp → Prop) (v1 : Int) (v2 : Int) (v3 : Int) (v6 : Int) (v8 : Int) (h : Hp) : Prop := (mX4_compared_b108 o4 Q K24 v1 v2 v3 (zlor v6 (zlshl 1 v8)) v8 h)
set_option maxHeartbeats 4000000 in
set_option maxRecDepth 100000 in
theorem sX4_compared_b99 {l0 : Launch} {a : ZC} {o4 : Nat} {Q : Int → Hp → Prop} {K24 : Int → Int → Int → Int → Int → Hp → Prop} (O : zOk l0 a cX4_compared RX4 11 (some .long) 185 []) (hN4 : zisN o4) (hK24 : ∀ (v1 : Int) (v2 : Int) (v3 : Int) (v6 : Int) (v8 : Int) (h : Hp), K24 v1 v2 v3 v6 v8 h → zV a (5, 0, 0, (qL Q), xN) 0 0 24 [some (aR 179), some (aI v1), some (aI v2), some (aI v3), some (aR o4), some (aR 172), some (aL v6), none, some (aI v8), none, none] [] h) {v1 : Int} {v2 : Int} {v3 : Int} {v6 : Int} {v8 : Int} {h : Hp}  (hM : mX4_compared_b99 o4 Q K24 v1 v2 v3 v6 v8 h) : zV a (5, 0, 0, (qL Q), xN) 0 0 99 [some (aR 179), some (aI v1), some (aI v2), some (aI v3), some (aR o4), some (aR 172), some (aL v6), none, some (aI v8), none, none] [] h := by
  unfold mX4_compared_b99 at hM
  refine zV_lload O dX4_compared_99 rfl ?_
  refine zV_lconst (z := 1) O ⟨by omega, by omega⟩ rfl dX4_compared_101 ?_
  refine zV_iload O dX4_compared_102 rfl ?_
  refine zV_lshl O dX4_compared_104 ?_
  refine zV_lor O dX4_compared_105 ?_
  refine zV_lstore O dX4_compared_106 (Nat.le_of_ble_eq_true rfl) rfl ?_
  exact sX4_compared_b108 O hN4 hK24 hM
def mX4_compared_b24 (o4 : Nat) (Q : Int → Hp → Prop) : Nat → Int → Int → Int → Int → Int → Hp → Prop
  | 0 => fun _ _ _ _ _ _ => False
  | fu24 + 1 => fun v1 v2 v3 v6 v8 h => (((h o4 0) ≤ v8 → (Q v6 h)) ∧ (¬ (h o4 0) ≤ v8 → (mX4_valueFor v8 v2 o4 h (fun z9 => (mX4_valueFor v8 v3 o4 h (fun z10 => ((¬ v1 = (60 : Int) → ((¬ v1 = (61 : Int) → ((z9 ≤ z10 → (mX4_compared_b108 o4 Q (mX4_compared_b24 o4 Q fu24) v1 v2 v3 v6 v8 h)) ∧ (¬ z9 ≤ z10 → (mX4_compared_b99 o4 Q (mX4_compared_b24 o4 Q fu24) v1 v2 v3 v6 v8 h)))) ∧ (v1 = (61 : Int) → ((¬ z9 = z10 → (mX4_compared_b108 o4 Q (mX4_compared_b24 o4 Q fu24) v1 v2 v3 v6 v8 h)) ∧ (z9 = z10 → (mX4_compared_b99 o4 Q (mX4_compared_b24 o4 Q fu24) v1 v2 v3 v6 v8 h)))))) ∧ (v1 = (60 : Int) → ((z10 ≤ z9 → (mX4_compared_b108 o4 Q (mX4_compared_b24 o4 Q fu24) v1 v2 v3 v6 v8 h)) ∧ (¬ z10 ≤ z9 → (mX4_compared_b99 o4 Q (mX4_compared_b24 o4 Q fu24) v1 v2 v3 v6 v8 h)))))))))))
set_option maxHeartbeats 4000000 in
set_option maxRecDepth 100000 in
theorem sX4_compared_b24 {l0 : Launch} {a : ZC} {o4 : Nat} {Q : Int → Hp → Prop}  (O : zOk l0 a cX4_compared RX4 11 (some .long) 185 []) (hN4 : zisN o4)  : ∀ (ff : Nat) (v1 : Int) (v2 : Int) (v3 : Int) (v6 : Int) (v8 : Int) (h : Hp), mX4_compared_b24 o4 Q ff v1 v2 v3 v6 v8 h → zV a (5, 0, 0, (qL Q), xN) 0 0 24 [some (aR 179), some (aI v1), some (aI v2), some (aI v3), some (aR o4), some (aR 172), some (aL v6), none, some (aI v8), none, none] [] h := by
  intro ff
  induction ff with
  | zero => intro v1 v2 v3 v6 v8 h hM; exact hM.elim
  | succ ff ih =>
    have hK24 := ih
    intro v1 v2 v3 v6 v8 h hM
    unfold mX4_compared_b24 at hM
    refine zV_iload O dX4_compared_24 rfl ?_
    refine zV_aload O dX4_compared_26 rfl ?_
    refine zV_getI O zf_RX4_102 (zN_o hN4) rfl (zN_lt0 hN4) dX4_compared_28 ?_
    refine zV_icmp_ge (tgt := 114) O dX4_compared_31 (by decide) (fun hc => ?_) (fun hc => ?_)
    · replace hM := hM.1 hc
      refine zV_lload O dX4_compared_114 rfl ?_
      exact zV_lret O rfl ⟨_, rfl, hM⟩ (Nat.le_of_ble_eq_true rfl) (Nat.le_of_ble_eq_true rfl) dX4_compared_116
    · replace hM := hM.2 hc
      refine zV_aload_n O dX4_compared_34 rfl rfl ?_
      refine zV_iload O dX4_compared_35 rfl ?_
      refine zV_iload_n O dX4_compared_37 rfl rfl ?_
      refine zV_aload O dX4_compared_38 rfl ?_
      refine zV_aload O dX4_compared_40 rfl ?_
      refine zV_callV (as := [aI v8, aI v2, aR o4, aR 172]) (st := []) O zc_X4_valueFor (Or.inl zl_RX4_131) zi_1281 zi_90 zt_179 rfl rfl (by decide) (Nat.le_of_ble_eq_true rfl) rfl rfl (Nat.le_of_ble_eq_true rfl) (Nat.le_of_ble_eq_true rfl) (Nat.le_of_ble_eq_true rfl) (Nat.le_of_ble_eq_true rfl) (Nat.le_of_ble_eq_true rfl) (Nat.le_of_ble_eq_true rfl) dX4_compared_42 (sX4_valueFor hN4 hM) (fun r h9 hq => ?_) (fun x h9 hq => hq.elim)
      obtain ⟨rfl, z9, rfl, hM⟩ := hq
      refine zV_istore O dX4_compared_45 (Nat.le_of_ble_eq_true rfl) rfl ?_
      refine zV_aload_n O dX4_compared_47 rfl rfl ?_
      refine zV_iload O dX4_compared_48 rfl ?_
      refine zV_iload_n O dX4_compared_50 rfl rfl ?_
      refine zV_aload O dX4_compared_51 rfl ?_
      refine zV_aload O dX4_compared_53 rfl ?_
      refine zV_callV (as := [aI v8, aI v3, aR o4, aR 172]) (st := []) O zc_X4_valueFor (Or.inl zl_RX4_131) zi_1281 zi_90 zt_179 rfl rfl (by decide) (Nat.le_of_ble_eq_true rfl) rfl rfl (Nat.le_of_ble_eq_true rfl) (Nat.le_of_ble_eq_true rfl) (Nat.le_of_ble_eq_true rfl) (Nat.le_of_ble_eq_true rfl) (Nat.le_of_ble_eq_true rfl) (Nat.le_of_ble_eq_true rfl) dX4_compared_55 (sX4_valueFor hN4 hM) (fun r h9 hq => ?_) (fun x h9 hq => hq.elim)
      obtain ⟨rfl, z10, rfl, hM⟩ := hq
      refine zV_istore O dX4_compared_58 (Nat.le_of_ble_eq_true rfl) rfl ?_
      refine zV_iload_n O dX4_compared_60 rfl rfl ?_
      refine zV_bipush (z := 60) O ⟨by omega, by omega⟩ rfl dX4_compared_61 ?_
      refine zV_icmp_ne (tgt := 76) O dX4_compared_63 (by decide) (fun hc => ?_) (fun hc => ?_)
      · replace hM := hM.1 hc
        refine zV_iload_n O dX4_compared_76 rfl rfl ?_
        refine zV_bipush (z := 61) O ⟨by omega, by omega⟩ rfl dX4_compared_77 ?_
        refine zV_icmp_ne (tgt := 92) O dX4_compared_79 (by decide) (fun hc => ?_) (fun hc => ?_)
        · replace hM := hM.1 hc
          refine zV_iload O dX4_compared_92 rfl ?_
          refine zV_iload O dX4_compared_94 rfl ?_
          refine zV_icmp_le (tgt := 108) O dX4_compared_96 (by decide) (fun hc => ?_) (fun hc => ?_)
          · replace hM := hM.1 hc
            refine zV_sub (ls2 := [some (aR 179), some (aI v1), some (aI v2), some (aI v3), some (aR o4), some (aR 172), some (aL v6), none, some (aI v8), none, none]) ⟨rfl, rfl, rfl, rfl, rfl, rfl, rfl, rfl, trivial⟩ ?_
            exact sX4_compared_b108 O hN4 hK24 hM
          · replace hM := hM.2 hc
            refine zV_sub (ls2 := [some (aR 179), some (aI v1), some (aI v2), some (aI v3), some (aR o4), some (aR 172), some (aL v6), none, some (aI v8), none, none]) ⟨rfl, rfl, rfl, rfl, rfl, rfl, rfl, rfl, trivial⟩ ?_
            exact sX4_compared_b99 O hN4 hK24 hM
        · replace hM := hM.2 hc
          refine zV_iload O dX4_compared_82 rfl ?_
          refine zV_iload O dX4_compared_84 rfl ?_
          refine zV_icmp_ne (tgt := 108) O dX4_compared_86 (by decide) (fun hc => ?_) (fun hc => ?_)
          · replace hM := hM.1 hc
            refine zV_sub (ls2 := [some (aR 179), some (aI v1), some (aI v2), some (aI v3), some (aR o4), some (aR 172), some (aL v6), none, some (aI v8), none, none]) ⟨rfl, rfl, rfl, rfl, rfl, rfl, rfl, rfl, trivial⟩ ?_
            exact sX4_compared_b108 O hN4 hK24 hM
          · replace hM := hM.2 hc
            refine zV_goto (tgt := 99) O dX4_compared_89 (by decide) ?_
            refine zV_sub (ls2 := [some (aR 179), some (aI v1), some (aI v2), some (aI v3), some (aR o4), some (aR 172), some (aL v6), none, some (aI v8), none, none]) ⟨rfl, rfl, rfl, rfl, rfl, rfl, rfl, rfl, trivial⟩ ?_
            exact sX4_compared_b99 O hN4 hK24 hM
      · replace hM := hM.2 hc
        refine zV_iload O dX4_compared_66 rfl ?_
        refine zV_iload O dX4_compared_68 rfl ?_
        refine zV_icmp_ge (tgt := 108) O dX4_compared_70 (by decide) (fun hc => ?_) (fun hc => ?_)
        · replace hM := hM.1 hc
          refine zV_sub (ls2 := [some (aR 179), some (aI v1), some (aI v2), some (aI v3), some (aR o4), some (aR 172), some (aL v6), none, some (aI v8), none, none]) ⟨rfl, rfl, rfl, rfl, rfl, rfl, rfl, rfl, trivial⟩ ?_
          exact sX4_compared_b108 O hN4 hK24 hM
        · replace hM := hM.2 hc
          refine zV_goto (tgt := 99) O dX4_compared_73 (by decide) ?_
          refine zV_sub (ls2 := [some (aR 179), some (aI v1), some (aI v2), some (aI v3), some (aR o4), some (aR 172), some (aL v6), none, some (aI v8), none, none]) ⟨rfl, rfl, rfl, rfl, rfl, rfl, rfl, rfl, trivial⟩ ?_
          exact sX4_compared_b99 O hN4 hK24 hM
def mX4_compared_b18 (o4 : Nat) (Q : Int → Hp → Prop) (v1 : Int) (v2 : Int) (v3 : Int) (h : Hp) : Prop := (∃ ff, mX4_compared_b24 o4 Q ff v1 v2 v3 0 0 h)
set_option maxHeartbeats 4000000 in
set_option maxRecDepth 100000 in
theorem sX4_compared_b18 {l0 : Launch} {a : ZC} {o4 : Nat} {Q : Int → Hp → Prop}  (O : zOk l0 a cX4_compared RX4 11 (some .long) 185 []) (hN4 : zisN o4)  {v1 : Int} {v2 : Int} {v3 : Int} {h : Hp}  (hM : mX4_compared_b18 o4 Q v1 v2 v3 h) : zV a (5, 0, 0, (qL Q), xN) 0 0 18 [some (aR 179), some (aI v1), some (aI v2), some (aI v3), some (aR o4), some (aR 172), none, none, none, none, none] [] h := by
  unfold mX4_compared_b18 at hM
  refine zV_lconst (z := 0) O ⟨by omega, by omega⟩ rfl dX4_compared_18 ?_
  refine zV_lstore O dX4_compared_19 (Nat.le_of_ble_eq_true rfl) rfl ?_
  refine zV_iconst (z := 0) O ⟨by omega, by omega⟩ dX4_compared_21 ?_
  refine zV_istore O dX4_compared_22 (Nat.le_of_ble_eq_true rfl) rfl ?_
  obtain ⟨ff, hM⟩ := hM
  exact sX4_compared_b24 O hN4 ff _ _ _ _ _ _ hM
def mX4_compared_b12 (o4 : Nat) (Q : Int → Hp → Prop) (v1 : Int) (v2 : Int) (v3 : Int) (h : Hp) : Prop := (mX4_findReaches o4 h (fun h11 => (mX4_compared_b18 o4 Q v1 v2 v3 h11)))
set_option maxHeartbeats 4000000 in
set_option maxRecDepth 100000 in
theorem sX4_compared_b12 {l0 : Launch} {a : ZC} {o4 : Nat} {Q : Int → Hp → Prop}  (O : zOk l0 a cX4_compared RX4 11 (some .long) 185 []) (hN4 : zisN o4)  {v1 : Int} {v2 : Int} {v3 : Int} {h : Hp}  (hM : mX4_compared_b12 o4 Q v1 v2 v3 h) : zV a (5, 0, 0, (qL Q), xN) 0 0 12 [some (aR 179), some (aI v1), some (aI v2), some (aI v3), some (aR o4), some (aR 172), none, none, none, none, none] [] h := by
  unfold mX4_compared_b12 at hM
  refine zV_aload_n O dX4_compared_12 rfl rfl ?_
  refine zV_aload O dX4_compared_13 rfl ?_
  refine zV_callV (as := [aR o4]) (st := []) O zc_X4_findReaches (Or.inl zl_RX4_127) zi_1276 zi_89 zt_179 rfl rfl (by decide) (Nat.le_of_ble_eq_true rfl) rfl rfl (Nat.le_of_ble_eq_true rfl) (Nat.le_of_ble_eq_true rfl) (Nat.le_of_ble_eq_true rfl) (Nat.le_of_ble_eq_true rfl) (Nat.le_of_ble_eq_true rfl) (Nat.le_of_ble_eq_true rfl) dX4_compared_15 (sX4_findReaches hN4 hM) (fun r h11 hq => ?_) (fun x h9 hq => hq.elim)
  obtain ⟨rfl, hM⟩ := hq
  exact sX4_compared_b18 O hN4 hM
def mX4_compared (x1 : Int) (x2 : Int) (x3 : Int) (o4 : Nat) (h : Hp) (Q : Int → Hp → Prop) : Prop := ((x2 = ((-9) : Int) → (mX4_compared_b12 o4 Q x1 x2 x3 h)) ∧ (¬ x2 = ((-9) : Int) → ((¬ x3 = ((-9) : Int) → (mX4_compared_b18 o4 Q x1 x2 x3 h)) ∧ (x3 = ((-9) : Int) → (mX4_compared_b12 o4 Q x1 x2 x3 h)))))
set_option maxHeartbeats 4000000 in
set_option maxRecDepth 100000 in
theorem sX4_compared {l0 : Launch} {x1 : Int} {x2 : Int} {x3 : Int} {o4 : Nat} {h : Hp} {Q : Int → Hp → Prop} (hN4 : zisN o4) (hM : mX4_compared x1 x2 x3 o4 h Q) : zSp l0 yX4_compared cX4_compared 11 (some .long) 185 (5) 0 0 [aR 179, aI x1, aI x2, aI x3, aR o4, aR 172] h (qL Q) xN := by
  unfold mX4_compared at hM
  refine zSp_intro zpn_RX4 (Nat.le_of_ble_eq_true rfl) (fun a O => ?_)
  show zV a (5, 0, 0, (qL Q), xN) 0 0 0 [some (aR 179), some (aI x1), some (aI x2), some (aI x3), some (aR o4), some (aR 172), none, none, none, none, none] [] h
  refine zV_iload_n O dX4_compared_0 rfl rfl ?_
  refine zV_bipush (z := -9) O ⟨by omega, by omega⟩ rfl dX4_compared_1 ?_
  refine zV_icmp_eq (tgt := 12) O dX4_compared_3 (by decide) (fun hc => ?_) (fun hc => ?_)
  · replace hM := hM.1 hc
    exact sX4_compared_b12 O hN4 hM
  · replace hM := hM.2 hc
    refine zV_iload_n O dX4_compared_6 rfl rfl ?_
    refine zV_bipush (z := -9) O ⟨by omega, by omega⟩ rfl dX4_compared_7 ?_
    refine zV_icmp_ne (tgt := 18) O dX4_compared_9 (by decide) (fun hc => ?_) (fun hc => ?_)
    · replace hM := hM.1 hc
      exact sX4_compared_b18 O hN4 hM
    · replace hM := hM.2 hc
      exact sX4_compared_b12 O hN4 hM
def mX4_hostsThatPass_b151 (o1 : Nat) (Q : Int → Hp → Prop) (K22 : Int → Int → Hp → Prop) (v3 : Int) (v5 : Int) (h : Hp) : Prop := (K22 v3 v5 h)
set_option maxHeartbeats 4000000 in
set_option maxRecDepth 100000 in
theorem sX4_hostsThatPass_b151 {l0 : Launch} {a : ZC} {o1 : Nat} {Q : Int → Hp → Prop} {K22 : Int → Int → Hp → Prop} (O : zOk l0 a cX4_hostsThatPass RX4 7 (some .long) 185 []) (hN1 : zisN o1) (hK22 : ∀ (v3 : Int) (v5 : Int) (h : Hp), K22 v3 v5 h → zV a (6, 0, 0, (qL Q), xN) 0 0 22 [some (aR 179), some (aR o1), some (aR 172), some (aL v3), none, some (aI v5), none] [] h) {v3 : Int} {v5 : Int} {h : Hp}  (hM : mX4_hostsThatPass_b151 o1 Q K22 v3 v5 h) : zV a (6, 0, 0, (qL Q), xN) 0 0 151 [some (aR 179), some (aR o1), some (aR 172), some (aL v3), none, some (aI v5), none] [] h := by
  unfold mX4_hostsThatPass_b151 at hM
  refine zV_goto (tgt := 22) O dX4_hostsThatPass_151 (by decide) ?_
  exact hK22 _ _ _ hM
def mX4_hostsThatPass_b22 (o1 : Nat) (Q : Int → Hp → Prop) : Nat → Int → Int → Hp → Prop
  | 0 => fun _ _ _ => False
  | fu22 + 1 => fun v3 v5 h => (((h 179 2) ≤ v5 → (mX4_pop h (fun z57 h58 => (Q z57 h58)))) ∧ (¬ (h 179 2) ≤ v5 → (((0 : Int) ≤ v5 ∧ v5 < 203) ∧ (zr (v5 + 1) ∧ ((¬ (rd h 180 v5) = 0 → ((¬ (rd h 180 v5) = (1 : Int) → ((¬ (rd h 180 v5) = (2 : Int) → (zr ((v5 + 1) + 1) ∧ (((h 179 2) ≤ ((v5 + 1) + 1) → (mX4_hostsThatPass_b151 o1 Q (mX4_hostsThatPass_b22 o1 Q fu22) v3 (v5 + 1) h)) ∧ (¬ (h 179 2) ≤ ((v5 + 1) + 1) → (((0 : Int) ≤ (v5 + 1) ∧ (v5 + 1) < 203) ∧ (zr ((v5 + 1) + 1) ∧ (((0 : Int) ≤ ((v5 + 1) + 1) ∧ ((v5 + 1) + 1) < 203) ∧ (mX4_compared (rd h 180 v5) (rd h 180 (v5 + 1)) (rd h 180 ((v5 + 1) + 1)) o1 h (fun z59 h60 => (mX4_push z59 h60 (fun h61 => (zr ((v5 + 1) + 2) ∧ (mX4_hostsThatPass_b151 o1 Q (mX4_hostsThatPass_b22 o1 Q fu22) v3 ((v5 + 1) + 2) h61))))))))))))) ∧ ((rd h 180 v5) = (2 : Int) → (mX4_pop h (fun z62 h63 => (mX4_pop h63 (fun z64 h65 => (mX4_push (zlor z62 z64) h65 (fun h66 => (mX4_hostsThatPass_b151 o1 Q (mX4_hostsThatPass_b22 o1 Q fu22) v3 (v5 + 1) h66)))))))))) ∧ ((rd h 180 v5) = (1 : Int) → (mX4_pop h (fun z67 h68 => (mX4_pop h68 (fun z69 h70 => (mX4_push (zland z67 z69) h70 (fun h71 => (mX4_hostsThatPass_b151 o1 Q (mX4_hostsThatPass_b22 o1 Q fu22) v3 (v5 + 1) h71)))))))))) ∧ ((rd h 180 v5) = 0 → (mX4_pop h (fun z72 h73 => (mX4_push (zland v3 (zlxor z72 (-1))) h73 (fun h74 => (mX4_hostsThatPass_b151 o1 Q (mX4_hostsThatPass_b22 o1 Q fu22) v3 (v5 + 1) h74)))))))))))
set_option maxHeartbeats 4000000 in
set_option maxRecDepth 100000 in
theorem sX4_hostsThatPass_b22 {l0 : Launch} {a : ZC} {o1 : Nat} {Q : Int → Hp → Prop}  (O : zOk l0 a cX4_hostsThatPass RX4 7 (some .long) 185 []) (hN1 : zisN o1)  : ∀ (ff : Nat) (v3 : Int) (v5 : Int) (h : Hp), mX4_hostsThatPass_b22 o1 Q ff v3 v5 h → zV a (6, 0, 0, (qL Q), xN) 0 0 22 [some (aR 179), some (aR o1), some (aR 172), some (aL v3), none, some (aI v5), none] [] h := by
  intro ff
  induction ff with
  | zero => intro v3 v5 h hM; exact hM.elim
  | succ ff ih =>
    have hK22 := ih
    intro v3 v5 h hM
    unfold mX4_hostsThatPass_b22 at hM
    refine zV_iload O dX4_hostsThatPass_22 rfl ?_
    refine zV_aload_n O dX4_hostsThatPass_24 rfl rfl ?_
    refine zV_getI O zf_RX4_30 zt_179 rfl (by decide) dX4_hostsThatPass_25 ?_
    refine zV_icmp_ge (tgt := 154) O dX4_hostsThatPass_28 (by decide) (fun hc => ?_) (fun hc => ?_)
    · replace hM := hM.1 hc
      refine zV_aload_n O dX4_hostsThatPass_154 rfl rfl ?_
      refine zV_callV (as := []) (st := []) O zc_X4_pop (Or.inl zl_RX4_113) zi_1263 zi_86 zt_179 rfl rfl (by decide) (Nat.le_of_ble_eq_true rfl) rfl rfl (Nat.le_of_ble_eq_true rfl) (Nat.le_of_ble_eq_true rfl) (Nat.le_of_ble_eq_true rfl) (Nat.le_of_ble_eq_true rfl) (Nat.le_of_ble_eq_true rfl) (Nat.le_of_ble_eq_true rfl) dX4_hostsThatPass_155 (sX4_pop hM) (fun r h58 hq => ?_) (fun x h9 hq => hq.elim)
      obtain ⟨z57, rfl, hM⟩ := hq
      exact zV_lret O rfl ⟨_, rfl, hM⟩ (Nat.le_of_ble_eq_true rfl) (Nat.le_of_ble_eq_true rfl) dX4_hostsThatPass_158
    · replace hM := hM.2 hc
      refine zV_aload_n O dX4_hostsThatPass_31 rfl rfl ?_
      refine zV_getR O zf_RX4_11 zt_179 rfl (by decide) dX4_hostsThatPass_32 ?_
      refine zV_iload O dX4_hostsThatPass_35 rfl ?_
      obtain ⟨hc, hM⟩ := hM
      refine zV_iald O zt_180 (by decide) hc dX4_hostsThatPass_37 ?_
      refine zV_istore O dX4_hostsThatPass_38 (Nat.le_of_ble_eq_true rfl) rfl ?_
      obtain ⟨hc, hM⟩ := hM
      refine zV_iinc O dX4_hostsThatPass_40 rfl (Nat.le_of_ble_eq_true rfl) rfl hc ?_
      refine zV_iload O dX4_hostsThatPass_43 rfl ?_
      refine zV_if_ne (tgt := 65) O dX4_hostsThatPass_45 (by decide) (fun hc => ?_) (fun hc => ?_)
      · replace hM := hM.1 hc
        refine zV_iload O dX4_hostsThatPass_65 rfl ?_
        refine zV_iconst (z := 1) O ⟨by omega, by omega⟩ dX4_hostsThatPass_67 ?_
        refine zV_icmp_ne (tgt := 87) O dX4_hostsThatPass_68 (by decide) (fun hc => ?_) (fun hc => ?_)
        · replace hM := hM.1 hc
          refine zV_iload O dX4_hostsThatPass_87 rfl ?_
          refine zV_iconst (z := 2) O ⟨by omega, by omega⟩ dX4_hostsThatPass_89 ?_
          refine zV_icmp_ne (tgt := 109) O dX4_hostsThatPass_90 (by decide) (fun hc => ?_) (fun hc => ?_)
          · replace hM := hM.1 hc
            refine zV_iload O dX4_hostsThatPass_109 rfl ?_
            refine zV_iconst (z := 1) O ⟨by omega, by omega⟩ dX4_hostsThatPass_111 ?_
            obtain ⟨hc, hM⟩ := hM
            refine zV_iadd O dX4_hostsThatPass_112 hc ?_
            refine zV_aload_n O dX4_hostsThatPass_113 rfl rfl ?_
            refine zV_getI O zf_RX4_30 zt_179 rfl (by decide) dX4_hostsThatPass_114 ?_
            refine zV_icmp_ge (tgt := 151) O dX4_hostsThatPass_117 (by decide) (fun hc => ?_) (fun hc => ?_)
            · replace hM := hM.1 hc
              refine zV_sub (ls2 := [some (aR 179), some (aR o1), some (aR 172), some (aL v3), none, some (aI (v5 + 1)), none]) ⟨rfl, rfl, rfl, rfl, rfl, trivial⟩ ?_
              exact sX4_hostsThatPass_b151 O hN1 hK22 hM
            · replace hM := hM.2 hc
              refine zV_aload_n O dX4_hostsThatPass_120 rfl rfl ?_
              refine zV_aload_n O dX4_hostsThatPass_121 rfl rfl ?_
              refine zV_iload O dX4_hostsThatPass_122 rfl ?_
              refine zV_aload_n O dX4_hostsThatPass_124 rfl rfl ?_
              refine zV_getR O zf_RX4_11 zt_179 rfl (by decide) dX4_hostsThatPass_125 ?_
              refine zV_iload O dX4_hostsThatPass_128 rfl ?_
              obtain ⟨hc, hM⟩ := hM
              refine zV_iald O zt_180 (by decide) hc dX4_hostsThatPass_130 ?_
              refine zV_aload_n O dX4_hostsThatPass_131 rfl rfl ?_
              refine zV_getR O zf_RX4_11 zt_179 rfl (by decide) dX4_hostsThatPass_132 ?_
              refine zV_iload O dX4_hostsThatPass_135 rfl ?_
              refine zV_iconst (z := 1) O ⟨by omega, by omega⟩ dX4_hostsThatPass_137 ?_
              obtain ⟨hc, hM⟩ := hM
              refine zV_iadd O dX4_hostsThatPass_138 hc ?_
              obtain ⟨hc, hM⟩ := hM
              refine zV_iald O zt_180 (by decide) hc dX4_hostsThatPass_139 ?_
              refine zV_aload_n O dX4_hostsThatPass_140 rfl rfl ?_
              refine zV_aload_n O dX4_hostsThatPass_141 rfl rfl ?_
              refine zV_callV (as := [aI (rd h 180 v5), aI (rd h 180 (v5 + 1)), aI (rd h 180 ((v5 + 1) + 1)), aR o1, aR 172]) (st := [aR 179]) O zc_X4_compared (Or.inl zl_RX4_123) zi_1272 zi_88 zt_179 rfl rfl (by decide) (Nat.le_of_ble_eq_true rfl) rfl rfl (Nat.le_of_ble_eq_true rfl) (Nat.le_of_ble_eq_true rfl) (Nat.le_of_ble_eq_true rfl) (Nat.le_of_ble_eq_true rfl) (Nat.le_of_ble_eq_true rfl) (Nat.le_of_ble_eq_true rfl) dX4_hostsThatPass_142 (sX4_compared hN1 hM) (fun r h60 hq => ?_) (fun x h9 hq => hq.elim)
              obtain ⟨z59, rfl, hM⟩ := hq
              refine zV_callV (as := [aL z59]) (st := []) O zc_X4_push (Or.inl zl_RX4_119) zi_1268 zi_87 zt_179 rfl rfl (by decide) (Nat.le_of_ble_eq_true rfl) rfl rfl (Nat.le_of_ble_eq_true rfl) (Nat.le_of_ble_eq_true rfl) (Nat.le_of_ble_eq_true rfl) (Nat.le_of_ble_eq_true rfl) (Nat.le_of_ble_eq_true rfl) (Nat.le_of_ble_eq_true rfl) dX4_hostsThatPass_145 (sX4_push hM) (fun r h61 hq => ?_) (fun x h9 hq => hq.elim)
              obtain ⟨rfl, hM⟩ := hq
              obtain ⟨hc, hM⟩ := hM
              refine zV_iinc O dX4_hostsThatPass_148 rfl (Nat.le_of_ble_eq_true rfl) rfl hc ?_
              refine zV_sub (ls2 := [some (aR 179), some (aR o1), some (aR 172), some (aL v3), none, some (aI ((v5 + 1) + 2)), none]) ⟨rfl, rfl, rfl, rfl, rfl, trivial⟩ ?_
              exact sX4_hostsThatPass_b151 O hN1 hK22 hM
          · replace hM := hM.2 hc
            refine zV_aload_n O dX4_hostsThatPass_93 rfl rfl ?_
            refine zV_aload_n O dX4_hostsThatPass_94 rfl rfl ?_
            refine zV_callV (as := []) (st := [aR 179]) O zc_X4_pop (Or.inl zl_RX4_113) zi_1263 zi_86 zt_179 rfl rfl (by decide) (Nat.le_of_ble_eq_true rfl) rfl rfl (Nat.le_of_ble_eq_true rfl) (Nat.le_of_ble_eq_true rfl) (Nat.le_of_ble_eq_true rfl) (Nat.le_of_ble_eq_true rfl) (Nat.le_of_ble_eq_true rfl) (Nat.le_of_ble_eq_true rfl) dX4_hostsThatPass_95 (sX4_pop hM) (fun r h63 hq => ?_) (fun x h9 hq => hq.elim)
            obtain ⟨z62, rfl, hM⟩ := hq
            refine zV_aload_n O dX4_hostsThatPass_98 rfl rfl ?_
            refine zV_callV (as := []) (st := [aL z62, aR 179]) O zc_X4_pop (Or.inl zl_RX4_113) zi_1263 zi_86 zt_179 rfl rfl (by decide) (Nat.le_of_ble_eq_true rfl) rfl rfl (Nat.le_of_ble_eq_true rfl) (Nat.le_of_ble_eq_true rfl) (Nat.le_of_ble_eq_true rfl) (Nat.le_of_ble_eq_true rfl) (Nat.le_of_ble_eq_true rfl) (Nat.le_of_ble_eq_true rfl) dX4_hostsThatPass_99 (sX4_pop hM) (fun r h65 hq => ?_) (fun x h9 hq => hq.elim)
            obtain ⟨z64, rfl, hM⟩ := hq
            refine zV_lor O dX4_hostsThatPass_102 ?_
            refine zV_callV (as := [aL (zlor z62 z64)]) (st := []) O zc_X4_push (Or.inl zl_RX4_119) zi_1268 zi_87 zt_179 rfl rfl (by decide) (Nat.le_of_ble_eq_true rfl) rfl rfl (Nat.le_of_ble_eq_true rfl) (Nat.le_of_ble_eq_true rfl) (Nat.le_of_ble_eq_true rfl) (Nat.le_of_ble_eq_true rfl) (Nat.le_of_ble_eq_true rfl) (Nat.le_of_ble_eq_true rfl) dX4_hostsThatPass_103 (sX4_push hM) (fun r h66 hq => ?_) (fun x h9 hq => hq.elim)
            obtain ⟨rfl, hM⟩ := hq
            refine zV_goto (tgt := 151) O dX4_hostsThatPass_106 (by decide) ?_
            refine zV_sub (ls2 := [some (aR 179), some (aR o1), some (aR 172), some (aL v3), none, some (aI (v5 + 1)), none]) ⟨rfl, rfl, rfl, rfl, rfl, trivial⟩ ?_
            exact sX4_hostsThatPass_b151 O hN1 hK22 hM
        · replace hM := hM.2 hc
          refine zV_aload_n O dX4_hostsThatPass_71 rfl rfl ?_
          refine zV_aload_n O dX4_hostsThatPass_72 rfl rfl ?_
          refine zV_callV (as := []) (st := [aR 179]) O zc_X4_pop (Or.inl zl_RX4_113) zi_1263 zi_86 zt_179 rfl rfl (by decide) (Nat.le_of_ble_eq_true rfl) rfl rfl (Nat.le_of_ble_eq_true rfl) (Nat.le_of_ble_eq_true rfl) (Nat.le_of_ble_eq_true rfl) (Nat.le_of_ble_eq_true rfl) (Nat.le_of_ble_eq_true rfl) (Nat.le_of_ble_eq_true rfl) dX4_hostsThatPass_73 (sX4_pop hM) (fun r h68 hq => ?_) (fun x h9 hq => hq.elim)
          obtain ⟨z67, rfl, hM⟩ := hq
          refine zV_aload_n O dX4_hostsThatPass_76 rfl rfl ?_
          refine zV_callV (as := []) (st := [aL z67, aR 179]) O zc_X4_pop (Or.inl zl_RX4_113) zi_1263 zi_86 zt_179 rfl rfl (by decide) (Nat.le_of_ble_eq_true rfl) rfl rfl (Nat.le_of_ble_eq_true rfl) (Nat.le_of_ble_eq_true rfl) (Nat.le_of_ble_eq_true rfl) (Nat.le_of_ble_eq_true rfl) (Nat.le_of_ble_eq_true rfl) (Nat.le_of_ble_eq_true rfl) dX4_hostsThatPass_77 (sX4_pop hM) (fun r h70 hq => ?_) (fun x h9 hq => hq.elim)
          obtain ⟨z69, rfl, hM⟩ := hq
          refine zV_land O dX4_hostsThatPass_80 ?_
          refine zV_callV (as := [aL (zland z67 z69)]) (st := []) O zc_X4_push (Or.inl zl_RX4_119) zi_1268 zi_87 zt_179 rfl rfl (by decide) (Nat.le_of_ble_eq_true rfl) rfl rfl (Nat.le_of_ble_eq_true rfl) (Nat.le_of_ble_eq_true rfl) (Nat.le_of_ble_eq_true rfl) (Nat.le_of_ble_eq_true rfl) (Nat.le_of_ble_eq_true rfl) (Nat.le_of_ble_eq_true rfl) dX4_hostsThatPass_81 (sX4_push hM) (fun r h71 hq => ?_) (fun x h9 hq => hq.elim)
          obtain ⟨rfl, hM⟩ := hq
          refine zV_goto (tgt := 151) O dX4_hostsThatPass_84 (by decide) ?_
          refine zV_sub (ls2 := [some (aR 179), some (aR o1), some (aR 172), some (aL v3), none, some (aI (v5 + 1)), none]) ⟨rfl, rfl, rfl, rfl, rfl, trivial⟩ ?_
          exact sX4_hostsThatPass_b151 O hN1 hK22 hM
      · replace hM := hM.2 hc
        refine zV_aload_n O dX4_hostsThatPass_48 rfl rfl ?_
        refine zV_lload_n O dX4_hostsThatPass_49 rfl rfl ?_
        refine zV_aload_n O dX4_hostsThatPass_50 rfl rfl ?_
        refine zV_callV (as := []) (st := [aL v3, aR 179]) O zc_X4_pop (Or.inl zl_RX4_113) zi_1263 zi_86 zt_179 rfl rfl (by decide) (Nat.le_of_ble_eq_true rfl) rfl rfl (Nat.le_of_ble_eq_true rfl) (Nat.le_of_ble_eq_true rfl) (Nat.le_of_ble_eq_true rfl) (Nat.le_of_ble_eq_true rfl) (Nat.le_of_ble_eq_true rfl) (Nat.le_of_ble_eq_true rfl) dX4_hostsThatPass_51 (sX4_pop hM) (fun r h73 hq => ?_) (fun x h9 hq => hq.elim)
        obtain ⟨z72, rfl, hM⟩ := hq
        refine zV_ldc2 (z := -1) O ⟨by omega, by omega⟩ zi_1265.1 zi_1265.2 dX4_hostsThatPass_54 ?_
        refine zV_lxor O dX4_hostsThatPass_57 ?_
        refine zV_land O dX4_hostsThatPass_58 ?_
        refine zV_callV (as := [aL (zland v3 (zlxor z72 (-1)))]) (st := []) O zc_X4_push (Or.inl zl_RX4_119) zi_1268 zi_87 zt_179 rfl rfl (by decide) (Nat.le_of_ble_eq_true rfl) rfl rfl (Nat.le_of_ble_eq_true rfl) (Nat.le_of_ble_eq_true rfl) (Nat.le_of_ble_eq_true rfl) (Nat.le_of_ble_eq_true rfl) (Nat.le_of_ble_eq_true rfl) (Nat.le_of_ble_eq_true rfl) dX4_hostsThatPass_59 (sX4_push hM) (fun r h74 hq => ?_) (fun x h9 hq => hq.elim)
        obtain ⟨rfl, hM⟩ := hq
        refine zV_goto (tgt := 151) O dX4_hostsThatPass_62 (by decide) ?_
        refine zV_sub (ls2 := [some (aR 179), some (aR o1), some (aR 172), some (aL v3), none, some (aI (v5 + 1)), none]) ⟨rfl, rfl, rfl, rfl, rfl, trivial⟩ ?_
        exact sX4_hostsThatPass_b151 O hN1 hK22 hM
def mX4_hostsThatPass (o1 : Nat) (h : Hp) (Q : Int → Hp → Prop) : Prop := (zr6 ((zlshl 1 (h o1 0)) - 1) ∧ (∀ h75 : Hp, h75 = hu h 179 6 0 → (∀ h76 : Hp, h76 = hu h75 179 8 0 → (∃ ff, mX4_hostsThatPass_b22 o1 Q ff ((zlshl 1 (h o1 0)) - 1) 0 h76))))
set_option maxHeartbeats 4000000 in
set_option maxRecDepth 100000 in
theorem sX4_hostsThatPass {l0 : Launch} {o1 : Nat} {h : Hp} {Q : Int → Hp → Prop} (hN1 : zisN o1) (hM : mX4_hostsThatPass o1 h Q) : zSp l0 yX4_hostsThatPass cX4_hostsThatPass 7 (some .long) 185 (6) 0 0 [aR 179, aR o1, aR 172] h (qL Q) xN := by
  unfold mX4_hostsThatPass at hM
  refine zSp_intro zpn_RX4 (Nat.le_of_ble_eq_true rfl) (fun a O => ?_)
  show zV a (6, 0, 0, (qL Q), xN) 0 0 0 [some (aR 179), some (aR o1), some (aR 172), none, none, none, none] [] h
  refine zV_lconst (z := 1) O ⟨by omega, by omega⟩ rfl dX4_hostsThatPass_0 ?_
  refine zV_aload_n O dX4_hostsThatPass_1 rfl rfl ?_
  refine zV_getI O zf_RX4_102 (zN_o hN1) rfl (zN_lt0 hN1) dX4_hostsThatPass_2 ?_
  refine zV_lshl O dX4_hostsThatPass_5 ?_
  refine zV_lconst (z := 1) O ⟨by omega, by omega⟩ rfl dX4_hostsThatPass_6 ?_
  obtain ⟨hc, hM⟩ := hM
  refine zV_lsub O dX4_hostsThatPass_7 hc ?_
  refine zV_lstore_n O dX4_hostsThatPass_8 rfl (Nat.le_of_ble_eq_true rfl) rfl ?_
  refine zV_aload_n O dX4_hostsThatPass_9 rfl rfl ?_
  refine zV_iconst (z := 0) O ⟨by omega, by omega⟩ dX4_hostsThatPass_10 ?_
  refine zV_putI O zf_RX4_107 zt_179 rfl (by decide) dX4_hostsThatPass_11 ?_
  have hM := hM _ rfl
  generalize hu h 179 6 0 = h75 at hM ⊢
  refine zV_aload_n O dX4_hostsThatPass_14 rfl rfl ?_
  refine zV_iconst (z := 0) O ⟨by omega, by omega⟩ dX4_hostsThatPass_15 ?_
  refine zV_putZ O zf_RX4_110 zt_179 rfl (by decide) (Or.inl rfl) dX4_hostsThatPass_16 ?_
  have hM := hM _ rfl
  generalize hu h75 179 8 0 = h76 at hM ⊢
  refine zV_iconst (z := 0) O ⟨by omega, by omega⟩ dX4_hostsThatPass_19 ?_
  refine zV_istore O dX4_hostsThatPass_20 (Nat.le_of_ble_eq_true rfl) rfl ?_
  obtain ⟨ff, hM⟩ := hM
  exact sX4_hostsThatPass_b22 O hN1 ff _ _ _ hM
def mX4_property  (h : Hp) (Q : Int → Prop) : Prop := (mX6_isWord 14 h (fun z10 => ((z10 = 0 → (mX6_isWord 15 h (fun z11 => ((z11 = 0 → (mX6_isWord 16 h (fun z12 => ((z12 = 0 → (mX6_isWord 17 h (fun z13 => ((z13 = 0 → (mX6_isWord 18 h (fun z14 => ((z14 = 0 → (mX6_isWord 19 h (fun z15 => ((z15 = 0 → (mX6_isWord 20 h (fun z16 => ((z16 = 0 → (mX6_isWord 21 h (fun z17 => ((z17 = 0 → (mX6_isWord 22 h (fun z18 => ((z18 = 0 → (Q 0)) ∧ (¬ z18 = 0 → (Q (-9))))))) ∧ (¬ z17 = 0 → (Q (-8))))))) ∧ (¬ z16 = 0 → (Q (-7))))))) ∧ (¬ z15 = 0 → (Q (-6))))))) ∧ (¬ z14 = 0 → (Q (-5))))))) ∧ (¬ z13 = 0 → (Q (-4))))))) ∧ (¬ z12 = 0 → (Q (-3))))))) ∧ (¬ z11 = 0 → (Q (-2))))))) ∧ (¬ z10 = 0 → (Q (-1))))))
set_option maxHeartbeats 4000000 in
set_option maxRecDepth 100000 in
theorem sX4_property {l0 : Launch}  {h : Hp} {Q : Int → Prop}  (hM : mX4_property  h Q) : zSp l0 yX4_property cX4_property 1 (some .int) 185 (8) 0 0 [aR 179] h (qPI h Q) xN := by
  unfold mX4_property at hM
  refine zSp_intro zpn_RX4 (Nat.le_of_ble_eq_true rfl) (fun a O => ?_)
  show zV a (8, 0, 0, (qPI h Q), xN) 0 0 0 [some (aR 179)] [] h
  refine zV_aload_n O dX4_property_0 rfl rfl ?_
  refine zV_getR O zf_RX4_22 zt_179 rfl (by decide) dX4_property_1 ?_
  refine zV_ldcS (w := 14) O ⟨by decide, rfl, rfl⟩ dX4_property_4 ?_
  refine zV_callV (as := [aR (1000 + 14)]) (st := []) O zc_X6_isWord (Or.inr ⟨_, zl_RX4_35⟩) zi_832 zi_45 zt_176 rfl rfl (by decide) (Nat.le_of_ble_eq_true rfl) rfl rfl (Nat.le_of_ble_eq_true rfl) (Nat.le_of_ble_eq_true rfl) (Nat.le_of_ble_eq_true rfl) (Nat.le_of_ble_eq_true rfl) (Nat.le_of_ble_eq_true rfl) (Nat.le_of_ble_eq_true rfl) dX4_property_6 (sX6_isWord (by decide : 14 < zSN) hM) (fun r h9 hq => ?_) (fun x h9 hq => hq.elim)
  obtain ⟨rfl, z10, rfl, hzz10, hM⟩ := hq
  refine zV_if_eq (tgt := 16) O dX4_property_9 (by decide) (fun hc => ?_) (fun hc => ?_)
  · replace hM := hM.1 hc
    refine zV_aload_n O dX4_property_16 rfl rfl ?_
    refine zV_getR O zf_RX4_22 zt_179 rfl (by decide) dX4_property_17 ?_
    refine zV_ldcS (w := 15) O ⟨by decide, rfl, rfl⟩ dX4_property_20 ?_
    refine zV_callV (as := [aR (1000 + 15)]) (st := []) O zc_X6_isWord (Or.inr ⟨_, zl_RX4_35⟩) zi_832 zi_45 zt_176 rfl rfl (by decide) (Nat.le_of_ble_eq_true rfl) rfl rfl (Nat.le_of_ble_eq_true rfl) (Nat.le_of_ble_eq_true rfl) (Nat.le_of_ble_eq_true rfl) (Nat.le_of_ble_eq_true rfl) (Nat.le_of_ble_eq_true rfl) (Nat.le_of_ble_eq_true rfl) dX4_property_22 (sX6_isWord (by decide : 15 < zSN) hM) (fun r h9 hq => ?_) (fun x h9 hq => hq.elim)
    obtain ⟨rfl, z11, rfl, hzz11, hM⟩ := hq
    refine zV_if_eq (tgt := 33) O dX4_property_25 (by decide) (fun hc => ?_) (fun hc => ?_)
    · replace hM := hM.1 hc
      refine zV_aload_n O dX4_property_33 rfl rfl ?_
      refine zV_getR O zf_RX4_22 zt_179 rfl (by decide) dX4_property_34 ?_
      refine zV_ldcS (w := 16) O ⟨by decide, rfl, rfl⟩ dX4_property_37 ?_
      refine zV_callV (as := [aR (1000 + 16)]) (st := []) O zc_X6_isWord (Or.inr ⟨_, zl_RX4_35⟩) zi_832 zi_45 zt_176 rfl rfl (by decide) (Nat.le_of_ble_eq_true rfl) rfl rfl (Nat.le_of_ble_eq_true rfl) (Nat.le_of_ble_eq_true rfl) (Nat.le_of_ble_eq_true rfl) (Nat.le_of_ble_eq_true rfl) (Nat.le_of_ble_eq_true rfl) (Nat.le_of_ble_eq_true rfl) dX4_property_39 (sX6_isWord (by decide : 16 < zSN) hM) (fun r h9 hq => ?_) (fun x h9 hq => hq.elim)
      obtain ⟨rfl, z12, rfl, hzz12, hM⟩ := hq
      refine zV_if_eq (tgt := 50) O dX4_property_42 (by decide) (fun hc => ?_) (fun hc => ?_)
      · replace hM := hM.1 hc
        refine zV_aload_n O dX4_property_50 rfl rfl ?_
        refine zV_getR O zf_RX4_22 zt_179 rfl (by decide) dX4_property_51 ?_
        refine zV_ldcS (w := 17) O ⟨by decide, rfl, rfl⟩ dX4_property_54 ?_
        refine zV_callV (as := [aR (1000 + 17)]) (st := []) O zc_X6_isWord (Or.inr ⟨_, zl_RX4_35⟩) zi_832 zi_45 zt_176 rfl rfl (by decide) (Nat.le_of_ble_eq_true rfl) rfl rfl (Nat.le_of_ble_eq_true rfl) (Nat.le_of_ble_eq_true rfl) (Nat.le_of_ble_eq_true rfl) (Nat.le_of_ble_eq_true rfl) (Nat.le_of_ble_eq_true rfl) (Nat.le_of_ble_eq_true rfl) dX4_property_56 (sX6_isWord (by decide : 17 < zSN) hM) (fun r h9 hq => ?_) (fun x h9 hq => hq.elim)
        obtain ⟨rfl, z13, rfl, hzz13, hM⟩ := hq
        refine zV_if_eq (tgt := 67) O dX4_property_59 (by decide) (fun hc => ?_) (fun hc => ?_)
        · replace hM := hM.1 hc
          refine zV_aload_n O dX4_property_67 rfl rfl ?_
          refine zV_getR O zf_RX4_22 zt_179 rfl (by decide) dX4_property_68 ?_
          refine zV_ldcS (w := 18) O ⟨by decide, rfl, rfl⟩ dX4_property_71 ?_
          refine zV_callV (as := [aR (1000 + 18)]) (st := []) O zc_X6_isWord (Or.inr ⟨_, zl_RX4_35⟩) zi_832 zi_45 zt_176 rfl rfl (by decide) (Nat.le_of_ble_eq_true rfl) rfl rfl (Nat.le_of_ble_eq_true rfl) (Nat.le_of_ble_eq_true rfl) (Nat.le_of_ble_eq_true rfl) (Nat.le_of_ble_eq_true rfl) (Nat.le_of_ble_eq_true rfl) (Nat.le_of_ble_eq_true rfl) dX4_property_73 (sX6_isWord (by decide : 18 < zSN) hM) (fun r h9 hq => ?_) (fun x h9 hq => hq.elim)
          obtain ⟨rfl, z14, rfl, hzz14, hM⟩ := hq
          refine zV_if_eq (tgt := 84) O dX4_property_76 (by decide) (fun hc => ?_) (fun hc => ?_)
          · replace hM := hM.1 hc
            refine zV_aload_n O dX4_property_84 rfl rfl ?_
            refine zV_getR O zf_RX4_22 zt_179 rfl (by decide) dX4_property_85 ?_
            refine zV_ldcS (w := 19) O ⟨by decide, rfl, rfl⟩ dX4_property_88 ?_
            refine zV_callV (as := [aR (1000 + 19)]) (st := []) O zc_X6_isWord (Or.inr ⟨_, zl_RX4_35⟩) zi_832 zi_45 zt_176 rfl rfl (by decide) (Nat.le_of_ble_eq_true rfl) rfl rfl (Nat.le_of_ble_eq_true rfl) (Nat.le_of_ble_eq_true rfl) (Nat.le_of_ble_eq_true rfl) (Nat.le_of_ble_eq_true rfl) (Nat.le_of_ble_eq_true rfl) (Nat.le_of_ble_eq_true rfl) dX4_property_90 (sX6_isWord (by decide : 19 < zSN) hM) (fun r h9 hq => ?_) (fun x h9 hq => hq.elim)
            obtain ⟨rfl, z15, rfl, hzz15, hM⟩ := hq
            refine zV_if_eq (tgt := 101) O dX4_property_93 (by decide) (fun hc => ?_) (fun hc => ?_)
            · replace hM := hM.1 hc
              refine zV_aload_n O dX4_property_101 rfl rfl ?_
              refine zV_getR O zf_RX4_22 zt_179 rfl (by decide) dX4_property_102 ?_
              refine zV_ldcS (w := 20) O ⟨by decide, rfl, rfl⟩ dX4_property_105 ?_
              refine zV_callV (as := [aR (1000 + 20)]) (st := []) O zc_X6_isWord (Or.inr ⟨_, zl_RX4_35⟩) zi_832 zi_45 zt_176 rfl rfl (by decide) (Nat.le_of_ble_eq_true rfl) rfl rfl (Nat.le_of_ble_eq_true rfl) (Nat.le_of_ble_eq_true rfl) (Nat.le_of_ble_eq_true rfl) (Nat.le_of_ble_eq_true rfl) (Nat.le_of_ble_eq_true rfl) (Nat.le_of_ble_eq_true rfl) dX4_property_107 (sX6_isWord (by decide : 20 < zSN) hM) (fun r h9 hq => ?_) (fun x h9 hq => hq.elim)
              obtain ⟨rfl, z16, rfl, hzz16, hM⟩ := hq
              refine zV_if_eq (tgt := 118) O dX4_property_110 (by decide) (fun hc => ?_) (fun hc => ?_)
              · replace hM := hM.1 hc
                refine zV_aload_n O dX4_property_118 rfl rfl ?_
                refine zV_getR O zf_RX4_22 zt_179 rfl (by decide) dX4_property_119 ?_
                refine zV_ldcS (w := 21) O ⟨by decide, rfl, rfl⟩ dX4_property_122 ?_
                refine zV_callV (as := [aR (1000 + 21)]) (st := []) O zc_X6_isWord (Or.inr ⟨_, zl_RX4_35⟩) zi_832 zi_45 zt_176 rfl rfl (by decide) (Nat.le_of_ble_eq_true rfl) rfl rfl (Nat.le_of_ble_eq_true rfl) (Nat.le_of_ble_eq_true rfl) (Nat.le_of_ble_eq_true rfl) (Nat.le_of_ble_eq_true rfl) (Nat.le_of_ble_eq_true rfl) (Nat.le_of_ble_eq_true rfl) dX4_property_124 (sX6_isWord (by decide : 21 < zSN) hM) (fun r h9 hq => ?_) (fun x h9 hq => hq.elim)
                obtain ⟨rfl, z17, rfl, hzz17, hM⟩ := hq
                refine zV_if_eq (tgt := 135) O dX4_property_127 (by decide) (fun hc => ?_) (fun hc => ?_)
                · replace hM := hM.1 hc
                  refine zV_aload_n O dX4_property_135 rfl rfl ?_
                  refine zV_getR O zf_RX4_22 zt_179 rfl (by decide) dX4_property_136 ?_
                  refine zV_ldcS (w := 22) O ⟨by decide, rfl, rfl⟩ dX4_property_139 ?_
                  refine zV_callV (as := [aR (1000 + 22)]) (st := []) O zc_X6_isWord (Or.inr ⟨_, zl_RX4_35⟩) zi_832 zi_45 zt_176 rfl rfl (by decide) (Nat.le_of_ble_eq_true rfl) rfl rfl (Nat.le_of_ble_eq_true rfl) (Nat.le_of_ble_eq_true rfl) (Nat.le_of_ble_eq_true rfl) (Nat.le_of_ble_eq_true rfl) (Nat.le_of_ble_eq_true rfl) (Nat.le_of_ble_eq_true rfl) dX4_property_141 (sX6_isWord (by decide : 22 < zSN) hM) (fun r h9 hq => ?_) (fun x h9 hq => hq.elim)
                  obtain ⟨rfl, z18, rfl, hzz18, hM⟩ := hq
                  refine zV_if_eq (tgt := 152) O dX4_property_144 (by decide) (fun hc => ?_) (fun hc => ?_)
                  · replace hM := hM.1 hc
                    refine zV_iconst (z := 0) O ⟨by omega, by omega⟩ dX4_property_152 ?_
                    exact zV_iret O rfl ⟨rfl, _, rfl, hM⟩ (Nat.le_of_ble_eq_true rfl) (Nat.le_of_ble_eq_true rfl) dX4_property_153
                  · replace hM := hM.2 hc
                    refine zV_bipush (z := -9) O ⟨by omega, by omega⟩ rfl dX4_property_147 ?_
                    refine zV_goto (tgt := 153) O dX4_property_149 (by decide) ?_
                    exact zV_iret O rfl ⟨rfl, _, rfl, hM⟩ (Nat.le_of_ble_eq_true rfl) (Nat.le_of_ble_eq_true rfl) dX4_property_153
                · replace hM := hM.2 hc
                  refine zV_bipush (z := -8) O ⟨by omega, by omega⟩ rfl dX4_property_130 ?_
                  refine zV_goto (tgt := 153) O dX4_property_132 (by decide) ?_
                  exact zV_iret O rfl ⟨rfl, _, rfl, hM⟩ (Nat.le_of_ble_eq_true rfl) (Nat.le_of_ble_eq_true rfl) dX4_property_153
              · replace hM := hM.2 hc
                refine zV_bipush (z := -7) O ⟨by omega, by omega⟩ rfl dX4_property_113 ?_
                refine zV_goto (tgt := 153) O dX4_property_115 (by decide) ?_
                exact zV_iret O rfl ⟨rfl, _, rfl, hM⟩ (Nat.le_of_ble_eq_true rfl) (Nat.le_of_ble_eq_true rfl) dX4_property_153
            · replace hM := hM.2 hc
              refine zV_bipush (z := -6) O ⟨by omega, by omega⟩ rfl dX4_property_96 ?_
              refine zV_goto (tgt := 153) O dX4_property_98 (by decide) ?_
              exact zV_iret O rfl ⟨rfl, _, rfl, hM⟩ (Nat.le_of_ble_eq_true rfl) (Nat.le_of_ble_eq_true rfl) dX4_property_153
          · replace hM := hM.2 hc
            refine zV_bipush (z := -5) O ⟨by omega, by omega⟩ rfl dX4_property_79 ?_
            refine zV_goto (tgt := 153) O dX4_property_81 (by decide) ?_
            exact zV_iret O rfl ⟨rfl, _, rfl, hM⟩ (Nat.le_of_ble_eq_true rfl) (Nat.le_of_ble_eq_true rfl) dX4_property_153
        · replace hM := hM.2 hc
          refine zV_bipush (z := -4) O ⟨by omega, by omega⟩ rfl dX4_property_62 ?_
          refine zV_goto (tgt := 153) O dX4_property_64 (by decide) ?_
          exact zV_iret O rfl ⟨rfl, _, rfl, hM⟩ (Nat.le_of_ble_eq_true rfl) (Nat.le_of_ble_eq_true rfl) dX4_property_153
      · replace hM := hM.2 hc
        refine zV_bipush (z := -3) O ⟨by omega, by omega⟩ rfl dX4_property_45 ?_
        refine zV_goto (tgt := 153) O dX4_property_47 (by decide) ?_
        exact zV_iret O rfl ⟨rfl, _, rfl, hM⟩ (Nat.le_of_ble_eq_true rfl) (Nat.le_of_ble_eq_true rfl) dX4_property_153
    · replace hM := hM.2 hc
      refine zV_bipush (z := -2) O ⟨by omega, by omega⟩ rfl dX4_property_28 ?_
      refine zV_goto (tgt := 153) O dX4_property_30 (by decide) ?_
      exact zV_iret O rfl ⟨rfl, _, rfl, hM⟩ (Nat.le_of_ble_eq_true rfl) (Nat.le_of_ble_eq_true rfl) dX4_property_153
  · replace hM := hM.2 hc
    refine zV_iconst (z := -1) O ⟨by omega, by omega⟩ dX4_property_12 ?_
    refine zV_goto (tgt := 153) O dX4_property_13 (by decide) ?_
    exact zV_iret O rfl ⟨rfl, _, rfl, hM⟩ (Nat.le_of_ble_eq_true rfl) (Nat.le_of_ble_eq_true rfl) dX4_property_153
def mX4_readValue_b49 (Q : Int → Hp → Prop) (v1 : Int) (h : Hp) : Prop := ((v1 ≤ (9999 : Int) → (mX6_advance h (fun h8 => (Q v1 h8)))) ∧ (¬ v1 ≤ (9999 : Int) → (∀ h9 : Hp, h9 = hu h 179 4 2 → (Q v1 h9))))
set_option maxHeartbeats 4000000 in
set_option maxRecDepth 100000 in
theorem sX4_readValue_b49 {l0 : Launch} {a : ZC}  {Q : Int → Hp → Prop}  (O : zOk l0 a cX4_readValue RX4 2 (some .int) 185 [])   {v1 : Int} {h : Hp}  (hM : mX4_readValue_b49 Q v1 h) : zV a (9, 0, 0, (qI Q), xN) 0 0 49 [some (aR 179), some (aI v1)] [] h := by
  unfold mX4_readValue_b49 at hM
  refine zV_iload_n O dX4_readValue_49 rfl rfl ?_
  refine zV_sipush (z := 9999) O ⟨by omega, by omega⟩ rfl dX4_readValue_50 ?_
  refine zV_icmp_le (tgt := 64) O dX4_readValue_53 (by decide) (fun hc => ?_) (fun hc => ?_)
  · replace hM := hM.1 hc
    refine zV_aload_n O dX4_readValue_64 rfl rfl ?_
    refine zV_getR O zf_RX4_22 zt_179 rfl (by decide) dX4_readValue_65 ?_
    refine zV_callV (as := []) (st := []) O zc_X6_advance (Or.inr ⟨_, zl_RX4_46⟩) zi_808 zi_41 zt_176 rfl rfl (by decide) (Nat.le_of_ble_eq_true rfl) rfl rfl (Nat.le_of_ble_eq_true rfl) (Nat.le_of_ble_eq_true rfl) (Nat.le_of_ble_eq_true rfl) (Nat.le_of_ble_eq_true rfl) (Nat.le_of_ble_eq_true rfl) (Nat.le_of_ble_eq_true rfl) dX4_readValue_68 (sX6_advance hM) (fun r h8 hq => ?_) (fun x h9 hq => hq.elim)
    obtain ⟨rfl, hM⟩ := hq
    refine zV_iload_n O dX4_readValue_71 rfl rfl ?_
    exact zV_iret O rfl ⟨_, rfl, hM⟩ (Nat.le_of_ble_eq_true rfl) (Nat.le_of_ble_eq_true rfl) dX4_readValue_72
  · replace hM := hM.2 hc
    refine zV_aload_n O dX4_readValue_56 rfl rfl ?_
    refine zV_iconst (z := 2) O ⟨by omega, by omega⟩ dX4_readValue_57 ?_
    refine zV_putI O zf_RX4_26 zt_179 rfl (by decide) dX4_readValue_58 ?_
    have hM := hM _ rfl
    generalize hu h 179 4 2 = h9 at hM ⊢
    refine zV_goto (tgt := 71) O dX4_readValue_61 (by decide) ?_
    refine zV_iload_n O dX4_readValue_71 rfl rfl ?_
    exact zV_iret O rfl ⟨_, rfl, hM⟩ (Nat.le_of_ble_eq_true rfl) (Nat.le_of_ble_eq_true rfl) dX4_readValue_72
def mX4_readValue_b25 (Q : Int → Hp → Prop) (s0 : Int) (h : Hp) : Prop := (((h 176 4) = (2 : Int) → (mX4_readValue_b49 Q s0 h)) ∧ (¬ (h 176 4) = (2 : Int) → ((¬ s0 = 0 → (mX4_readValue_b49 Q s0 h)) ∧ (s0 = 0 → (∀ h10 : Hp, h10 = hu h 179 4 1 → (Q s0 h10))))))
set_option maxHeartbeats 4000000 in
set_option maxRecDepth 100000 in
theorem sX4_readValue_b25 {l0 : Launch} {a : ZC}  {Q : Int → Hp → Prop}  (O : zOk l0 a cX4_readValue RX4 2 (some .int) 185 [])   {s0 : Int} {h : Hp}  (hM : mX4_readValue_b25 Q s0 h) : zV a (9, 0, 0, (qI Q), xN) 0 0 25 [some (aR 179), none] [aI s0] h := by
  unfold mX4_readValue_b25 at hM
  refine zV_istore_n O dX4_readValue_25 rfl (Nat.le_of_ble_eq_true rfl) rfl ?_
  refine zV_aload_n O dX4_readValue_26 rfl rfl ?_
  refine zV_getR O zf_RX4_22 zt_179 rfl (by decide) dX4_readValue_27 ?_
  refine zV_getI O zf_RX4_53 zt_176 rfl (by decide) dX4_readValue_30 ?_
  refine zV_iconst (z := 2) O ⟨by omega, by omega⟩ dX4_readValue_33 ?_
  refine zV_icmp_eq (tgt := 49) O dX4_readValue_34 (by decide) (fun hc => ?_) (fun hc => ?_)
  · replace hM := hM.1 hc
    exact sX4_readValue_b49 O hM
  · replace hM := hM.2 hc
    refine zV_iload_n O dX4_readValue_37 rfl rfl ?_
    refine zV_if_ne (tgt := 49) O dX4_readValue_38 (by decide) (fun hc => ?_) (fun hc => ?_)
    · replace hM := hM.1 hc
      exact sX4_readValue_b49 O hM
    · replace hM := hM.2 hc
      refine zV_aload_n O dX4_readValue_41 rfl rfl ?_
      refine zV_iconst (z := 1) O ⟨by omega, by omega⟩ dX4_readValue_42 ?_
      refine zV_putI O zf_RX4_26 zt_179 rfl (by decide) dX4_readValue_43 ?_
      have hM := hM _ rfl
      generalize hu h 179 4 1 = h10 at hM ⊢
      refine zV_goto (tgt := 71) O dX4_readValue_46 (by decide) ?_
      refine zV_iload_n O dX4_readValue_71 rfl rfl ?_
      exact zV_iret O rfl ⟨_, rfl, hM⟩ (Nat.le_of_ble_eq_true rfl) (Nat.le_of_ble_eq_true rfl) dX4_readValue_72
def mX4_readValue  (h : Hp) (Q : Int → Hp → Prop) : Prop := ((¬ (h 176 4) = (2 : Int) → (mX4_property h (fun z11 => (mX4_readValue_b25 Q z11 h)))) ∧ ((h 176 4) = (2 : Int) → (mX4_readValue_b25 Q (h 176 6) h)))
set_option maxHeartbeats 4000000 in
set_option maxRecDepth 100000 in
theorem sX4_readValue {l0 : Launch}  {h : Hp} {Q : Int → Hp → Prop}  (hM : mX4_readValue  h Q) : zSp l0 yX4_readValue cX4_readValue 2 (some .int) 185 (9) 0 0 [aR 179] h (qI Q) xN := by
  unfold mX4_readValue at hM
  refine zSp_intro zpn_RX4 (Nat.le_of_ble_eq_true rfl) (fun a O => ?_)
  show zV a (9, 0, 0, (qI Q), xN) 0 0 0 [some (aR 179), none] [] h
  refine zV_aload_n O dX4_readValue_0 rfl rfl ?_
  refine zV_getR O zf_RX4_22 zt_179 rfl (by decide) dX4_readValue_1 ?_
  refine zV_getI O zf_RX4_53 zt_176 rfl (by decide) dX4_readValue_4 ?_
  refine zV_iconst (z := 2) O ⟨by omega, by omega⟩ dX4_readValue_7 ?_
  refine zV_icmp_ne (tgt := 21) O dX4_readValue_8 (by decide) (fun hc => ?_) (fun hc => ?_)
  · replace hM := hM.1 hc
    refine zV_aload_n O dX4_readValue_21 rfl rfl ?_
    refine zV_callV (as := []) (st := []) O zc_X4_property (Or.inl zl_RX4_82) zi_1239 zi_83 zt_179 rfl rfl (by decide) (Nat.le_of_ble_eq_true rfl) rfl rfl (Nat.le_of_ble_eq_true rfl) (Nat.le_of_ble_eq_true rfl) (Nat.le_of_ble_eq_true rfl) (Nat.le_of_ble_eq_true rfl) (Nat.le_of_ble_eq_true rfl) (Nat.le_of_ble_eq_true rfl) dX4_readValue_22 (sX4_property hM) (fun r h9 hq => ?_) (fun x h9 hq => hq.elim)
    obtain ⟨rfl, z11, rfl, hM⟩ := hq
    exact sX4_readValue_b25 O hM
  · replace hM := hM.2 hc
    refine zV_aload_n O dX4_readValue_11 rfl rfl ?_
    refine zV_getR O zf_RX4_22 zt_179 rfl (by decide) dX4_readValue_12 ?_
    refine zV_getI O zf_RX4_79 zt_176 rfl (by decide) dX4_readValue_15 ?_
    refine zV_goto (tgt := 25) O dX4_readValue_18 (by decide) ?_
    exact sX4_readValue_b25 O hM
def mX4_readComparison_b91 (Q : Hp → Prop) (v1 : Int) (s0 : Int) (h : Hp) : Prop := (mX6_advance h (fun h23 => (mX4_readValue h23 (fun z24 h25 => (mX4_addStep s0 h25 (fun h26 => (mX4_addStep v1 h26 (fun h27 => (mX4_addStep z24 h27 (fun h28 => (Q h28)))))))))))
set_option maxHeartbeats 4000000 in
set_option maxRecDepth 100000 in
theorem sX4_readComparison_b91 {l0 : Launch} {a : ZC}  {Q : Hp → Prop}  (O : zOk l0 a cX4_readComparison RX4 4 none 185 [])   {v1 : Int} {s0 : Int} {h : Hp}  (hM : mX4_readComparison_b91 Q v1 s0 h) : zV a (10, 0, 0, (qV Q), xN) 0 0 91 [some (aR 179), some (aI v1), none, none] [aI s0] h := by
  unfold mX4_readComparison_b91 at hM
  refine zV_istore_n O dX4_readComparison_91 rfl (Nat.le_of_ble_eq_true rfl) rfl ?_
  refine zV_aload_n O dX4_readComparison_92 rfl rfl ?_
  refine zV_getR O zf_RX4_22 zt_179 rfl (by decide) dX4_readComparison_93 ?_
  refine zV_callV (as := []) (st := []) O zc_X6_advance (Or.inr ⟨_, zl_RX4_46⟩) zi_808 zi_41 zt_176 rfl rfl (by decide) (Nat.le_of_ble_eq_true rfl) rfl rfl (Nat.le_of_ble_eq_true rfl) (Nat.le_of_ble_eq_true rfl) (Nat.le_of_ble_eq_true rfl) (Nat.le_of_ble_eq_true rfl) (Nat.le_of_ble_eq_true rfl) (Nat.le_of_ble_eq_true rfl) dX4_readComparison_96 (sX6_advance hM) (fun r h23 hq => ?_) (fun x h9 hq => hq.elim)
  obtain ⟨rfl, hM⟩ := hq
  refine zV_aload_n O dX4_readComparison_99 rfl rfl ?_
  refine zV_callV (as := []) (st := []) O zc_X4_readValue (Or.inl zl_RX4_75) zi_1235 zi_82 zt_179 rfl rfl (by decide) (Nat.le_of_ble_eq_true rfl) rfl rfl (Nat.le_of_ble_eq_true rfl) (Nat.le_of_ble_eq_true rfl) (Nat.le_of_ble_eq_true rfl) (Nat.le_of_ble_eq_true rfl) (Nat.le_of_ble_eq_true rfl) (Nat.le_of_ble_eq_true rfl) dX4_readComparison_100 (sX4_readValue hM) (fun r h25 hq => ?_) (fun x h9 hq => hq.elim)
  obtain ⟨z24, rfl, hM⟩ := hq
  refine zV_istore_n O dX4_readComparison_103 rfl (Nat.le_of_ble_eq_true rfl) rfl ?_
  refine zV_aload_n O dX4_readComparison_104 rfl rfl ?_
  refine zV_iload_n O dX4_readComparison_105 rfl rfl ?_
  refine zV_callV (as := [aI s0]) (st := []) O zc_X4_addStep (Or.inl zl_RX4_63) zi_1252 zi_84 zt_179 rfl rfl (by decide) (Nat.le_of_ble_eq_true rfl) rfl rfl (Nat.le_of_ble_eq_true rfl) (Nat.le_of_ble_eq_true rfl) (Nat.le_of_ble_eq_true rfl) (Nat.le_of_ble_eq_true rfl) (Nat.le_of_ble_eq_true rfl) (Nat.le_of_ble_eq_true rfl) dX4_readComparison_106 (sX4_addStep hM) (fun r h26 hq => ?_) (fun x h9 hq => hq.elim)
  obtain ⟨rfl, hM⟩ := hq
  refine zV_aload_n O dX4_readComparison_109 rfl rfl ?_
  refine zV_iload_n O dX4_readComparison_110 rfl rfl ?_
  refine zV_callV (as := [aI v1]) (st := []) O zc_X4_addStep (Or.inl zl_RX4_63) zi_1252 zi_84 zt_179 rfl rfl (by decide) (Nat.le_of_ble_eq_true rfl) rfl rfl (Nat.le_of_ble_eq_true rfl) (Nat.le_of_ble_eq_true rfl) (Nat.le_of_ble_eq_true rfl) (Nat.le_of_ble_eq_true rfl) (Nat.le_of_ble_eq_true rfl) (Nat.le_of_ble_eq_true rfl) dX4_readComparison_111 (sX4_addStep hM) (fun r h27 hq => ?_) (fun x h9 hq => hq.elim)
  obtain ⟨rfl, hM⟩ := hq
  refine zV_aload_n O dX4_readComparison_114 rfl rfl ?_
  refine zV_iload_n O dX4_readComparison_115 rfl rfl ?_
  refine zV_callV (as := [aI z24]) (st := []) O zc_X4_addStep (Or.inl zl_RX4_63) zi_1252 zi_84 zt_179 rfl rfl (by decide) (Nat.le_of_ble_eq_true rfl) rfl rfl (Nat.le_of_ble_eq_true rfl) (Nat.le_of_ble_eq_true rfl) (Nat.le_of_ble_eq_true rfl) (Nat.le_of_ble_eq_true rfl) (Nat.le_of_ble_eq_true rfl) (Nat.le_of_ble_eq_true rfl) dX4_readComparison_116 (sX4_addStep hM) (fun r h28 hq => ?_) (fun x h9 hq => hq.elim)
  obtain ⟨rfl, hM⟩ := hq
  exact zV_vret O rfl ⟨rfl, hM⟩ (Nat.le_of_ble_eq_true rfl) (Nat.le_of_ble_eq_true rfl) dX4_readComparison_119
def mX4_readComparison_b55 (Q : Hp → Prop) (v1 : Int) (h : Hp) : Prop := (mX6_isSign 60 h (fun z29 => ((z29 = 0 → (mX6_isSign 61 h (fun z30 => ((z30 = 0 → (mX4_readComparison_b91 Q v1 62 h)) ∧ (¬ z30 = 0 → (mX4_readComparison_b91 Q v1 61 h)))))) ∧ (¬ z29 = 0 → (mX4_readComparison_b91 Q v1 60 h)))))
set_option maxHeartbeats 4000000 in
set_option maxRecDepth 100000 in
theorem sX4_readComparison_b55 {l0 : Launch} {a : ZC}  {Q : Hp → Prop}  (O : zOk l0 a cX4_readComparison RX4 4 none 185 [])   {v1 : Int} {h : Hp}  (hM : mX4_readComparison_b55 Q v1 h) : zV a (10, 0, 0, (qV Q), xN) 0 0 55 [some (aR 179), some (aI v1), none, none] [] h := by
  unfold mX4_readComparison_b55 at hM
  refine zV_aload_n O dX4_readComparison_55 rfl rfl ?_
  refine zV_getR O zf_RX4_22 zt_179 rfl (by decide) dX4_readComparison_56 ?_
  refine zV_bipush (z := 60) O ⟨by omega, by omega⟩ rfl dX4_readComparison_59 ?_
  refine zV_callV (as := [aI 60]) (st := []) O zc_X6_isSign (Or.inr ⟨_, zl_RX4_68⟩) zi_916 zi_53 zt_176 rfl rfl (by decide) (Nat.le_of_ble_eq_true rfl) rfl rfl (Nat.le_of_ble_eq_true rfl) (Nat.le_of_ble_eq_true rfl) (Nat.le_of_ble_eq_true rfl) (Nat.le_of_ble_eq_true rfl) (Nat.le_of_ble_eq_true rfl) (Nat.le_of_ble_eq_true rfl) dX4_readComparison_61 (sX6_isSign hM) (fun r h9 hq => ?_) (fun x h9 hq => hq.elim)
  obtain ⟨rfl, z29, rfl, hzz29, hM⟩ := hq
  refine zV_if_eq (tgt := 72) O dX4_readComparison_64 (by decide) (fun hc => ?_) (fun hc => ?_)
  · replace hM := hM.1 hc
    refine zV_aload_n O dX4_readComparison_72 rfl rfl ?_
    refine zV_getR O zf_RX4_22 zt_179 rfl (by decide) dX4_readComparison_73 ?_
    refine zV_bipush (z := 61) O ⟨by omega, by omega⟩ rfl dX4_readComparison_76 ?_
    refine zV_callV (as := [aI 61]) (st := []) O zc_X6_isSign (Or.inr ⟨_, zl_RX4_68⟩) zi_916 zi_53 zt_176 rfl rfl (by decide) (Nat.le_of_ble_eq_true rfl) rfl rfl (Nat.le_of_ble_eq_true rfl) (Nat.le_of_ble_eq_true rfl) (Nat.le_of_ble_eq_true rfl) (Nat.le_of_ble_eq_true rfl) (Nat.le_of_ble_eq_true rfl) (Nat.le_of_ble_eq_true rfl) dX4_readComparison_78 (sX6_isSign hM) (fun r h9 hq => ?_) (fun x h9 hq => hq.elim)
    obtain ⟨rfl, z30, rfl, hzz30, hM⟩ := hq
    refine zV_if_eq (tgt := 89) O dX4_readComparison_81 (by decide) (fun hc => ?_) (fun hc => ?_)
    · replace hM := hM.1 hc
      refine zV_bipush (z := 62) O ⟨by omega, by omega⟩ rfl dX4_readComparison_89 ?_
      exact sX4_readComparison_b91 O hM
    · replace hM := hM.2 hc
      refine zV_bipush (z := 61) O ⟨by omega, by omega⟩ rfl dX4_readComparison_84 ?_
      refine zV_goto (tgt := 91) O dX4_readComparison_86 (by decide) ?_
      exact sX4_readComparison_b91 O hM
  · replace hM := hM.2 hc
    refine zV_bipush (z := 60) O ⟨by omega, by omega⟩ rfl dX4_readComparison_67 ?_
    refine zV_goto (tgt := 91) O dX4_readComparison_69 (by decide) ?_
    exact sX4_readComparison_b91 O hM
def mX4_readComparison  (h : Hp) (Q : Hp → Prop) : Prop := (mX4_readValue h (fun z31 h32 => (((h32 179 4) = 0 → (mX6_isSign 60 h32 (fun z33 => ((¬ z33 = 0 → (mX4_readComparison_b55 Q z31 h32)) ∧ (z33 = 0 → (mX6_isSign 61 h32 (fun z34 => ((¬ z34 = 0 → (mX4_readComparison_b55 Q z31 h32)) ∧ (z34 = 0 → (mX6_isSign 62 h32 (fun z35 => ((¬ z35 = 0 → (mX4_readComparison_b55 Q z31 h32)) ∧ (z35 = 0 → (∀ h36 : Hp, h36 = hu h32 179 4 1 → (Q h36))))))))))))))) ∧ (¬ (h32 179 4) = 0 → (Q h32)))))
set_option maxHeartbeats 4000000 in
set_option maxRecDepth 100000 in
theorem sX4_readComparison {l0 : Launch}  {h : Hp} {Q : Hp → Prop}  (hM : mX4_readComparison  h Q) : zSp l0 yX4_readComparison cX4_readComparison 4 none 185 (10) 0 0 [aR 179] h (qV Q) xN := by
  unfold mX4_readComparison at hM
  refine zSp_intro zpn_RX4 (Nat.le_of_ble_eq_true rfl) (fun a O => ?_)
  show zV a (10, 0, 0, (qV Q), xN) 0 0 0 [some (aR 179), none, none, none] [] h
  refine zV_aload_n O dX4_readComparison_0 rfl rfl ?_
  refine zV_callV (as := []) (st := []) O zc_X4_readValue (Or.inl zl_RX4_75) zi_1235 zi_82 zt_179 rfl rfl (by decide) (Nat.le_of_ble_eq_true rfl) rfl rfl (Nat.le_of_ble_eq_true rfl) (Nat.le_of_ble_eq_true rfl) (Nat.le_of_ble_eq_true rfl) (Nat.le_of_ble_eq_true rfl) (Nat.le_of_ble_eq_true rfl) (Nat.le_of_ble_eq_true rfl) dX4_readComparison_1 (sX4_readValue hM) (fun r h32 hq => ?_) (fun x h9 hq => hq.elim)
  obtain ⟨z31, rfl, hM⟩ := hq
  refine zV_istore_n O dX4_readComparison_4 rfl (Nat.le_of_ble_eq_true rfl) rfl ?_
  refine zV_aload_n O dX4_readComparison_5 rfl rfl ?_
  refine zV_getI O zf_RX4_26 zt_179 rfl (by decide) dX4_readComparison_6 ?_
  refine zV_if_eq (tgt := 13) O dX4_readComparison_9 (by decide) (fun hc => ?_) (fun hc => ?_)
  · replace hM := hM.1 hc
    refine zV_aload_n O dX4_readComparison_13 rfl rfl ?_
    refine zV_getR O zf_RX4_22 zt_179 rfl (by decide) dX4_readComparison_14 ?_
    refine zV_bipush (z := 60) O ⟨by omega, by omega⟩ rfl dX4_readComparison_17 ?_
    refine zV_callV (as := [aI 60]) (st := []) O zc_X6_isSign (Or.inr ⟨_, zl_RX4_68⟩) zi_916 zi_53 zt_176 rfl rfl (by decide) (Nat.le_of_ble_eq_true rfl) rfl rfl (Nat.le_of_ble_eq_true rfl) (Nat.le_of_ble_eq_true rfl) (Nat.le_of_ble_eq_true rfl) (Nat.le_of_ble_eq_true rfl) (Nat.le_of_ble_eq_true rfl) (Nat.le_of_ble_eq_true rfl) dX4_readComparison_19 (sX6_isSign hM) (fun r h9 hq => ?_) (fun x h9 hq => hq.elim)
    obtain ⟨rfl, z33, rfl, hzz33, hM⟩ := hq
    refine zV_if_ne (tgt := 55) O dX4_readComparison_22 (by decide) (fun hc => ?_) (fun hc => ?_)
    · replace hM := hM.1 hc
      exact sX4_readComparison_b55 O hM
    · replace hM := hM.2 hc
      refine zV_aload_n O dX4_readComparison_25 rfl rfl ?_
      refine zV_getR O zf_RX4_22 zt_179 rfl (by decide) dX4_readComparison_26 ?_
      refine zV_bipush (z := 61) O ⟨by omega, by omega⟩ rfl dX4_readComparison_29 ?_
      refine zV_callV (as := [aI 61]) (st := []) O zc_X6_isSign (Or.inr ⟨_, zl_RX4_68⟩) zi_916 zi_53 zt_176 rfl rfl (by decide) (Nat.le_of_ble_eq_true rfl) rfl rfl (Nat.le_of_ble_eq_true rfl) (Nat.le_of_ble_eq_true rfl) (Nat.le_of_ble_eq_true rfl) (Nat.le_of_ble_eq_true rfl) (Nat.le_of_ble_eq_true rfl) (Nat.le_of_ble_eq_true rfl) dX4_readComparison_31 (sX6_isSign hM) (fun r h9 hq => ?_) (fun x h9 hq => hq.elim)
      obtain ⟨rfl, z34, rfl, hzz34, hM⟩ := hq
      refine zV_if_ne (tgt := 55) O dX4_readComparison_34 (by decide) (fun hc => ?_) (fun hc => ?_)
      · replace hM := hM.1 hc
        exact sX4_readComparison_b55 O hM
      · replace hM := hM.2 hc
        refine zV_aload_n O dX4_readComparison_37 rfl rfl ?_
        refine zV_getR O zf_RX4_22 zt_179 rfl (by decide) dX4_readComparison_38 ?_
        refine zV_bipush (z := 62) O ⟨by omega, by omega⟩ rfl dX4_readComparison_41 ?_
        refine zV_callV (as := [aI 62]) (st := []) O zc_X6_isSign (Or.inr ⟨_, zl_RX4_68⟩) zi_916 zi_53 zt_176 rfl rfl (by decide) (Nat.le_of_ble_eq_true rfl) rfl rfl (Nat.le_of_ble_eq_true rfl) (Nat.le_of_ble_eq_true rfl) (Nat.le_of_ble_eq_true rfl) (Nat.le_of_ble_eq_true rfl) (Nat.le_of_ble_eq_true rfl) (Nat.le_of_ble_eq_true rfl) dX4_readComparison_43 (sX6_isSign hM) (fun r h9 hq => ?_) (fun x h9 hq => hq.elim)
        obtain ⟨rfl, z35, rfl, hzz35, hM⟩ := hq
        refine zV_if_ne (tgt := 55) O dX4_readComparison_46 (by decide) (fun hc => ?_) (fun hc => ?_)
        · replace hM := hM.1 hc
          exact sX4_readComparison_b55 O hM
        · replace hM := hM.2 hc
          refine zV_aload_n O dX4_readComparison_49 rfl rfl ?_
          refine zV_iconst (z := 1) O ⟨by omega, by omega⟩ dX4_readComparison_50 ?_
          refine zV_putI O zf_RX4_26 zt_179 rfl (by decide) dX4_readComparison_51 ?_
          have hM := hM _ rfl
          generalize hu h32 179 4 1 = h36 at hM ⊢
          exact zV_vret O rfl ⟨rfl, hM⟩ (Nat.le_of_ble_eq_true rfl) (Nat.le_of_ble_eq_true rfl) dX4_readComparison_54
  · replace hM := hM.2 hc
    exact zV_vret O rfl ⟨rfl, hM⟩ (Nat.le_of_ble_eq_true rfl) (Nat.le_of_ble_eq_true rfl) dX4_readComparison_12
def mX4_readFactor_b98 (RreadTest RreadFactor : Int → Hp → (Hp → Prop) → Prop) (Q : Hp → Prop) (h : Hp) : Prop := ((¬ (h 179 4) = 0 → (Q h)) ∧ ((h 179 4) = 0 → (mX6_advance h (fun h20 => (Q h20)))))
set_option maxHeartbeats 4000000 in
set_option maxRecDepth 100000 in
theorem sX4_readFactor_b98 {l0 : Launch} {a : ZC} {fu : Nat} {RreadTest RreadFactor : Int → Hp → (Hp → Prop) → Prop} {Q : Hp → Prop}  (O : zOk l0 a cX4_readFactor RX4 3 none 185 []) (hRreadTest : ∀ (x : Int) (h : Hp) (Q : Hp → Prop), RreadTest x h Q → zSp l0 yX4_readTest cX4_readTest 5 none 185 (fu + 11) 0 0 [aR 179, aI x] h (qV Q) xN) (hRreadFactor : ∀ (x : Int) (h : Hp) (Q : Hp → Prop), RreadFactor x h Q → zSp l0 yX4_readFactor cX4_readFactor 3 none 185 (fu + 11) 0 0 [aR 179, aI x] h (qV Q) xN) (hfu : fu ≤ 100)   {h : Hp}  (hM : mX4_readFactor_b98 RreadTest RreadFactor Q h) : zV a (fu + 12, 0, 0, (qV Q), xN) 0 0 98 [some (aR 179), none, none] [] h := by
  unfold mX4_readFactor_b98 at hM
  refine zV_aload_n O dX4_readFactor_98 rfl rfl ?_
  refine zV_getI O zf_RX4_26 zt_179 rfl (by decide) dX4_readFactor_99 ?_
  refine zV_if_ne (tgt := 112) O dX4_readFactor_102 (by decide) (fun hc => ?_) (fun hc => ?_)
  · replace hM := hM.1 hc
    exact zV_vret O rfl ⟨rfl, hM⟩ (Nat.le_of_ble_eq_true rfl) (Nat.le_of_ble_eq_true rfl) dX4_readFactor_112
  · replace hM := hM.2 hc
    refine zV_aload_n O dX4_readFactor_105 rfl rfl ?_
    refine zV_getR O zf_RX4_22 zt_179 rfl (by decide) dX4_readFactor_106 ?_
    refine zV_callV (as := []) (st := []) O zc_X6_advance (Or.inr ⟨_, zl_RX4_46⟩) zi_808 zi_41 zt_176 rfl rfl (by decide) (Nat.le_of_ble_eq_true rfl) rfl rfl (Nat.le_of_ble_eq_true rfl) (show 2 + 1 ≤ fu + 12 by omega) (show fu + 12 ≤ 2048 by omega) (Nat.le_of_ble_eq_true rfl) (Nat.le_of_ble_eq_true rfl) (Nat.le_of_ble_eq_true rfl) dX4_readFactor_109 (sX6_advance hM) (fun r h20 hq => ?_) (fun x h9 hq => hq.elim)
    obtain ⟨rfl, hM⟩ := hq
    exact zV_vret O rfl ⟨rfl, hM⟩ (Nat.le_of_ble_eq_true rfl) (Nat.le_of_ble_eq_true rfl) dX4_readFactor_112
def mX4_readFactor_b31 (RreadTest RreadFactor : Int → Hp → (Hp → Prop) → Prop) (Q : Hp → Prop) (v1 : Int) (v2 : Int) (h : Hp) : Prop := ((v1 < (6 : Int) → (mX6_advance h (fun h21 => ((v2 = 0 → (zr (v1 + 1) ∧ (RreadTest (v1 + 1) h21 (fun h22 => ((¬ (h22 179 4) = 0 → (mX4_readFactor_b98 RreadTest RreadFactor Q h22)) ∧ ((h22 179 4) = 0 → (mX6_isSign 41 h22 (fun z23 => ((¬ z23 = 0 → (mX4_readFactor_b98 RreadTest RreadFactor Q h22)) ∧ (z23 = 0 → (∀ h24 : Hp, h24 = hu h22 179 4 1 → (mX4_readFactor_b98 RreadTest RreadFactor Q h24)))))))))))) ∧ (¬ v2 = 0 → (zr (v1 + 1) ∧ (RreadFactor (v1 + 1) h21 (fun h25 => (mX4_addStep 0 h25 (fun h26 => (Q h26))))))))))) ∧ (¬ v1 < (6 : Int) → (∀ h27 : Hp, h27 = hu h 179 4 3 → (Q h27))))
set_option maxHeartbeats 4000000 in
set_option maxRecDepth 100000 in
theorem sX4_readFactor_b31 {l0 : Launch} {a : ZC} {fu : Nat} {RreadTest RreadFactor : Int → Hp → (Hp → Prop) → Prop} {Q : Hp → Prop}  (O : zOk l0 a cX4_readFactor RX4 3 none 185 []) (hRreadTest : ∀ (x : Int) (h : Hp) (Q : Hp → Prop), RreadTest x h Q → zSp l0 yX4_readTest cX4_readTest 5 none 185 (fu + 11) 0 0 [aR 179, aI x] h (qV Q) xN) (hRreadFactor : ∀ (x : Int) (h : Hp) (Q : Hp → Prop), RreadFactor x h Q → zSp l0 yX4_readFactor cX4_readFactor 3 none 185 (fu + 11) 0 0 [aR 179, aI x] h (qV Q) xN) (hfu : fu ≤ 100)  {v1 : Int} {v2 : Int} {h : Hp} (hz_v2 : v2 = 0 ∨ v2 = 1) (hM : mX4_readFactor_b31 RreadTest RreadFactor Q v1 v2 h) : zV a (fu + 12, 0, 0, (qV Q), xN) 0 0 31 [some (aR 179), some (aI v1), some (aI v2)] [] h := by
  unfold mX4_readFactor_b31 at hM
  refine zV_iload_n O dX4_readFactor_31 rfl rfl ?_
  refine zV_bipush (z := 6) O ⟨by omega, by omega⟩ rfl dX4_readFactor_32 ?_
  refine zV_icmp_lt (tgt := 43) O dX4_readFactor_34 (by decide) (fun hc => ?_) (fun hc => ?_)
  · replace hM := hM.1 hc
    refine zV_aload_n O dX4_readFactor_43 rfl rfl ?_
    refine zV_getR O zf_RX4_22 zt_179 rfl (by decide) dX4_readFactor_44 ?_
    refine zV_callV (as := []) (st := []) O zc_X6_advance (Or.inr ⟨_, zl_RX4_46⟩) zi_808 zi_41 zt_176 rfl rfl (by decide) (Nat.le_of_ble_eq_true rfl) rfl rfl (Nat.le_of_ble_eq_true rfl) (show 2 + 1 ≤ fu + 12 by omega) (show fu + 12 ≤ 2048 by omega) (Nat.le_of_ble_eq_true rfl) (Nat.le_of_ble_eq_true rfl) (Nat.le_of_ble_eq_true rfl) dX4_readFactor_47 (sX6_advance hM) (fun r h21 hq => ?_) (fun x h9 hq => hq.elim)
    obtain ⟨rfl, hM⟩ := hq
    refine zV_iload_n O dX4_readFactor_50 rfl rfl ?_
    refine zV_if_eq (tgt := 67) O dX4_readFactor_51 (by decide) (fun hc => ?_) (fun hc => ?_)
    · replace hM := hM.1 hc
      refine zV_aload_n O dX4_readFactor_67 rfl rfl ?_
      refine zV_iload_n O dX4_readFactor_68 rfl rfl ?_
      refine zV_iconst (z := 1) O ⟨by omega, by omega⟩ dX4_readFactor_69 ?_
      obtain ⟨hc, hM⟩ := hM
      refine zV_iadd O dX4_readFactor_70 hc ?_
      refine zV_callV (as := [aI (v1 + 1)]) (st := []) O zc_X4_readTest (Or.inl zl_RX4_49) zi_1221 zi_79 zt_179 rfl rfl (by decide) (Nat.le_of_ble_eq_true rfl) rfl rfl (Nat.le_of_ble_eq_true rfl) (show fu + 11 + 1 ≤ fu + 12 by omega) (show fu + 12 ≤ 2048 by omega) (Nat.le_of_ble_eq_true rfl) (Nat.le_of_ble_eq_true rfl) (Nat.le_of_ble_eq_true rfl) dX4_readFactor_71 (hRreadTest _ _ _ hM) (fun r h22 hq => ?_) (fun x h9 hq => hq.elim)
      obtain ⟨rfl, hM⟩ := hq
      refine zV_aload_n O dX4_readFactor_74 rfl rfl ?_
      refine zV_getI O zf_RX4_26 zt_179 rfl (by decide) dX4_readFactor_75 ?_
      refine zV_if_ne (tgt := 98) O dX4_readFactor_78 (by decide) (fun hc => ?_) (fun hc => ?_)
      · replace hM := hM.1 hc
        refine zV_sub (ls2 := [some (aR 179), none, none]) ⟨rfl, trivial⟩ ?_
        exact sX4_readFactor_b98 O hRreadTest hRreadFactor hfu hM
      · replace hM := hM.2 hc
        refine zV_aload_n O dX4_readFactor_81 rfl rfl ?_
        refine zV_getR O zf_RX4_22 zt_179 rfl (by decide) dX4_readFactor_82 ?_
        refine zV_bipush (z := 41) O ⟨by omega, by omega⟩ rfl dX4_readFactor_85 ?_
        refine zV_callV (as := [aI 41]) (st := []) O zc_X6_isSign (Or.inr ⟨_, zl_RX4_68⟩) zi_916 zi_53 zt_176 rfl rfl (by decide) (Nat.le_of_ble_eq_true rfl) rfl rfl (Nat.le_of_ble_eq_true rfl) (show 1 + 1 ≤ fu + 12 by omega) (show fu + 12 ≤ 2048 by omega) (Nat.le_of_ble_eq_true rfl) (Nat.le_of_ble_eq_true rfl) (Nat.le_of_ble_eq_true rfl) dX4_readFactor_87 (sX6_isSign hM) (fun r h9 hq => ?_) (fun x h9 hq => hq.elim)
        obtain ⟨rfl, z23, rfl, hzz23, hM⟩ := hq
        refine zV_if_ne (tgt := 98) O dX4_readFactor_90 (by decide) (fun hc => ?_) (fun hc => ?_)
        · replace hM := hM.1 hc
          refine zV_sub (ls2 := [some (aR 179), none, none]) ⟨rfl, trivial⟩ ?_
          exact sX4_readFactor_b98 O hRreadTest hRreadFactor hfu hM
        · replace hM := hM.2 hc
          refine zV_aload_n O dX4_readFactor_93 rfl rfl ?_
          refine zV_iconst (z := 1) O ⟨by omega, by omega⟩ dX4_readFactor_94 ?_
          refine zV_putI O zf_RX4_26 zt_179 rfl (by decide) dX4_readFactor_95 ?_
          have hM := hM _ rfl
          generalize hu h22 179 4 1 = h24 at hM ⊢
          refine zV_sub (ls2 := [some (aR 179), none, none]) ⟨rfl, trivial⟩ ?_
          exact sX4_readFactor_b98 O hRreadTest hRreadFactor hfu hM
    · replace hM := hM.2 hc
      refine zV_aload_n O dX4_readFactor_54 rfl rfl ?_
      refine zV_iload_n O dX4_readFactor_55 rfl rfl ?_
      refine zV_iconst (z := 1) O ⟨by omega, by omega⟩ dX4_readFactor_56 ?_
      obtain ⟨hc, hM⟩ := hM
      refine zV_iadd O dX4_readFactor_57 hc ?_
      refine zV_callV (as := [aI (v1 + 1)]) (st := []) O zc_X4_readFactor (Or.inl zl_RX4_56) zi_1225 zi_80 zt_179 rfl rfl (by decide) (Nat.le_of_ble_eq_true rfl) rfl rfl (Nat.le_of_ble_eq_true rfl) (show fu + 11 + 1 ≤ fu + 12 by omega) (show fu + 12 ≤ 2048 by omega) (Nat.le_of_ble_eq_true rfl) (Nat.le_of_ble_eq_true rfl) (Nat.le_of_ble_eq_true rfl) dX4_readFactor_58 (hRreadFactor _ _ _ hM) (fun r h25 hq => ?_) (fun x h9 hq => hq.elim)
      obtain ⟨rfl, hM⟩ := hq
      refine zV_aload_n O dX4_readFactor_61 rfl rfl ?_
      refine zV_iconst (z := 0) O ⟨by omega, by omega⟩ dX4_readFactor_62 ?_
      refine zV_callV (as := [aI 0]) (st := []) O zc_X4_addStep (Or.inl zl_RX4_63) zi_1252 zi_84 zt_179 rfl rfl (by decide) (Nat.le_of_ble_eq_true rfl) rfl rfl (Nat.le_of_ble_eq_true rfl) (show 1 + 1 ≤ fu + 12 by omega) (show fu + 12 ≤ 2048 by omega) (Nat.le_of_ble_eq_true rfl) (Nat.le_of_ble_eq_true rfl) (Nat.le_of_ble_eq_true rfl) dX4_readFactor_63 (sX4_addStep hM) (fun r h26 hq => ?_) (fun x h9 hq => hq.elim)
      obtain ⟨rfl, hM⟩ := hq
      exact zV_vret O rfl ⟨rfl, hM⟩ (Nat.le_of_ble_eq_true rfl) (Nat.le_of_ble_eq_true rfl) dX4_readFactor_66
  · replace hM := hM.2 hc
    refine zV_aload_n O dX4_readFactor_37 rfl rfl ?_
    refine zV_iconst (z := 3) O ⟨by omega, by omega⟩ dX4_readFactor_38 ?_
    refine zV_putI O zf_RX4_26 zt_179 rfl (by decide) dX4_readFactor_39 ?_
    have hM := hM _ rfl
    generalize hu h 179 4 3 = h27 at hM ⊢
    exact zV_vret O rfl ⟨rfl, hM⟩ (Nat.le_of_ble_eq_true rfl) (Nat.le_of_ble_eq_true rfl) dX4_readFactor_42
def mX4_readFactorF (RreadTest RreadFactor : Int → Hp → (Hp → Prop) → Prop) (x1 : Int) (h : Hp) (Q : Hp → Prop) : Prop := (mX6_isWord 13 h (fun z28 => ((¬ z28 = 0 → (mX4_readFactor_b31 RreadTest RreadFactor Q x1 z28 h)) ∧ (z28 = 0 → (mX6_isSign 40 h (fun z29 => ((¬ z29 = 0 → (mX4_readFactor_b31 RreadTest RreadFactor Q x1 z28 h)) ∧ (z29 = 0 → (mX4_readComparison h (fun h30 => (Q h30)))))))))))
set_option maxHeartbeats 4000000 in
set_option maxRecDepth 100000 in
theorem sX4_readFactorF {l0 : Launch} {fu : Nat} {RreadTest RreadFactor : Int → Hp → (Hp → Prop) → Prop} {x1 : Int} {h : Hp} {Q : Hp → Prop} (hRreadTest : ∀ (x : Int) (h : Hp) (Q : Hp → Prop), RreadTest x h Q → zSp l0 yX4_readTest cX4_readTest 5 none 185 (fu + 11) 0 0 [aR 179, aI x] h (qV Q) xN) (hRreadFactor : ∀ (x : Int) (h : Hp) (Q : Hp → Prop), RreadFactor x h Q → zSp l0 yX4_readFactor cX4_readFactor 3 none 185 (fu + 11) 0 0 [aR 179, aI x] h (qV Q) xN) (hfu : fu ≤ 100) (hM : mX4_readFactorF RreadTest RreadFactor x1 h Q) : zSp l0 yX4_readFactor cX4_readFactor 3 none 185 (fu + 12) 0 0 [aR 179, aI x1] h (qV Q) xN := by
  unfold mX4_readFactorF at hM
  refine zSp_intro zpn_RX4 (Nat.le_of_ble_eq_true rfl) (fun a O => ?_)
  show zV a (fu + 12, 0, 0, (qV Q), xN) 0 0 0 [some (aR 179), some (aI x1), none] [] h
  refine zV_aload_n O dX4_readFactor_0 rfl rfl ?_
  refine zV_getR O zf_RX4_22 zt_179 rfl (by decide) dX4_readFactor_1 ?_
  refine zV_ldcS (w := 13) O ⟨by decide, rfl, rfl⟩ dX4_readFactor_4 ?_
  refine zV_callV (as := [aR (1000 + 13)]) (st := []) O zc_X6_isWord (Or.inr ⟨_, zl_RX4_35⟩) zi_832 zi_45 zt_176 rfl rfl (by decide) (Nat.le_of_ble_eq_true rfl) rfl rfl (Nat.le_of_ble_eq_true rfl) (show 7 + 1 ≤ fu + 12 by omega) (show fu + 12 ≤ 2048 by omega) (Nat.le_of_ble_eq_true rfl) (Nat.le_of_ble_eq_true rfl) (Nat.le_of_ble_eq_true rfl) dX4_readFactor_6 (sX6_isWord (by decide : 13 < zSN) hM) (fun r h9 hq => ?_) (fun x h9 hq => hq.elim)
  obtain ⟨rfl, z28, rfl, hzz28, hM⟩ := hq
  refine zV_istore_n O dX4_readFactor_9 rfl (Nat.le_of_ble_eq_true rfl) rfl ?_
  refine zV_iload_n O dX4_readFactor_10 rfl rfl ?_
  refine zV_if_ne (tgt := 31) O dX4_readFactor_11 (by decide) (fun hc => ?_) (fun hc => ?_)
  · replace hM := hM.1 hc
    exact sX4_readFactor_b31 O hRreadTest hRreadFactor hfu hzz28 hM
  · replace hM := hM.2 hc
    refine zV_aload_n O dX4_readFactor_14 rfl rfl ?_
    refine zV_getR O zf_RX4_22 zt_179 rfl (by decide) dX4_readFactor_15 ?_
    refine zV_bipush (z := 40) O ⟨by omega, by omega⟩ rfl dX4_readFactor_18 ?_
    refine zV_callV (as := [aI 40]) (st := []) O zc_X6_isSign (Or.inr ⟨_, zl_RX4_68⟩) zi_916 zi_53 zt_176 rfl rfl (by decide) (Nat.le_of_ble_eq_true rfl) rfl rfl (Nat.le_of_ble_eq_true rfl) (show 1 + 1 ≤ fu + 12 by omega) (show fu + 12 ≤ 2048 by omega) (Nat.le_of_ble_eq_true rfl) (Nat.le_of_ble_eq_true rfl) (Nat.le_of_ble_eq_true rfl) dX4_readFactor_20 (sX6_isSign hM) (fun r h9 hq => ?_) (fun x h9 hq => hq.elim)
    obtain ⟨rfl, z29, rfl, hzz29, hM⟩ := hq
    refine zV_if_ne (tgt := 31) O dX4_readFactor_23 (by decide) (fun hc => ?_) (fun hc => ?_)
    · replace hM := hM.1 hc
      exact sX4_readFactor_b31 O hRreadTest hRreadFactor hfu hzz28 hM
    · replace hM := hM.2 hc
      refine zV_aload_n O dX4_readFactor_26 rfl rfl ?_
      refine zV_callV (as := []) (st := []) O zc_X4_readComparison (Or.inl zl_RX4_72) zi_1231 zi_81 zt_179 rfl rfl (by decide) (Nat.le_of_ble_eq_true rfl) rfl rfl (Nat.le_of_ble_eq_true rfl) (show 10 + 1 ≤ fu + 12 by omega) (show fu + 12 ≤ 2048 by omega) (Nat.le_of_ble_eq_true rfl) (Nat.le_of_ble_eq_true rfl) (Nat.le_of_ble_eq_true rfl) dX4_readFactor_27 (sX4_readComparison hM) (fun r h30 hq => ?_) (fun x h9 hq => hq.elim)
      obtain ⟨rfl, hM⟩ := hq
      exact zV_vret O rfl ⟨rfl, hM⟩ (Nat.le_of_ble_eq_true rfl) (Nat.le_of_ble_eq_true rfl) dX4_readFactor_30
def mX4_readTest_b115 (RreadTest RreadFactor : Int → Hp → (Hp → Prop) → Prop) (Q : Hp → Prop) (v2 : Int) (h : Hp) : Prop := ((v2 = 0 → (Q h)) ∧ (¬ v2 = 0 → (mX4_addStep 2 h (fun h25 => (Q h25)))))
set_option maxHeartbeats 4000000 in
set_option maxRecDepth 100000 in
theorem sX4_readTest_b115 {l0 : Launch} {a : ZC} {fu : Nat} {RreadTest RreadFactor : Int → Hp → (Hp → Prop) → Prop} {Q : Hp → Prop}  (O : zOk l0 a cX4_readTest RX4 5 none 185 []) (hRreadTest : ∀ (x : Int) (h : Hp) (Q : Hp → Prop), RreadTest x h Q → zSp l0 yX4_readTest cX4_readTest 5 none 185 (fu + 11) 0 0 [aR 179, aI x] h (qV Q) xN) (hRreadFactor : ∀ (x : Int) (h : Hp) (Q : Hp → Prop), RreadFactor x h Q → zSp l0 yX4_readFactor cX4_readFactor 3 none 185 (fu + 11) 0 0 [aR 179, aI x] h (qV Q) xN) (hfu : fu ≤ 100)  {v2 : Int} {h : Hp} (hz_v2 : v2 = 0 ∨ v2 = 1) (hM : mX4_readTest_b115 RreadTest RreadFactor Q v2 h) : zV a (fu + 12, 0, 0, (qV Q), xN) 0 0 115 [some (aR 179), none, some (aI v2), none, none] [] h := by
  unfold mX4_readTest_b115 at hM
  refine zV_iload_n O dX4_readTest_115 rfl rfl ?_
  refine zV_if_eq (tgt := 124) O dX4_readTest_116 (by decide) (fun hc => ?_) (fun hc => ?_)
  · replace hM := hM.1 hc
    exact zV_vret O rfl ⟨rfl, hM⟩ (Nat.le_of_ble_eq_true rfl) (Nat.le_of_ble_eq_true rfl) dX4_readTest_124
  · replace hM := hM.2 hc
    refine zV_aload_n O dX4_readTest_119 rfl rfl ?_
    refine zV_iconst (z := 2) O ⟨by omega, by omega⟩ dX4_readTest_120 ?_
    refine zV_callV (as := [aI 2]) (st := []) O zc_X4_addStep (Or.inl zl_RX4_63) zi_1252 zi_84 zt_179 rfl rfl (by decide) (Nat.le_of_ble_eq_true rfl) rfl rfl (Nat.le_of_ble_eq_true rfl) (show 1 + 1 ≤ fu + 12 by omega) (show fu + 12 ≤ 2048 by omega) (Nat.le_of_ble_eq_true rfl) (Nat.le_of_ble_eq_true rfl) (Nat.le_of_ble_eq_true rfl) dX4_readTest_121 (sX4_addStep hM) (fun r h25 hq => ?_) (fun x h9 hq => hq.elim)
    obtain ⟨rfl, hM⟩ := hq
    exact zV_vret O rfl ⟨rfl, hM⟩ (Nat.le_of_ble_eq_true rfl) (Nat.le_of_ble_eq_true rfl) dX4_readTest_124
def mX4_readTest_b109 (RreadTest RreadFactor : Int → Hp → (Hp → Prop) → Prop) (Q : Hp → Prop) (K9 : Int → Int → Int → Hp → Prop) (v1 : Int) (v2 : Int) (v3 : Int) (h : Hp) : Prop := (zr (v3 + 1) ∧ (K9 v1 v2 (v3 + 1) h))
set_option maxHeartbeats 4000000 in
set_option maxRecDepth 100000 in
theorem sX4_readTest_b109 {l0 : Launch} {a : ZC} {fu : Nat} {RreadTest RreadFactor : Int → Hp → (Hp → Prop) → Prop} {Q : Hp → Prop} {K9 : Int → Int → Int → Hp → Prop} (O : zOk l0 a cX4_readTest RX4 5 none 185 []) (hRreadTest : ∀ (x : Int) (h : Hp) (Q : Hp → Prop), RreadTest x h Q → zSp l0 yX4_readTest cX4_readTest 5 none 185 (fu + 11) 0 0 [aR 179, aI x] h (qV Q) xN) (hRreadFactor : ∀ (x : Int) (h : Hp) (Q : Hp → Prop), RreadFactor x h Q → zSp l0 yX4_readFactor cX4_readFactor 3 none 185 (fu + 11) 0 0 [aR 179, aI x] h (qV Q) xN) (hfu : fu ≤ 100) (hK9 : ∀ (v1 : Int) (v2 : Int) (v3 : Int) (h : Hp), (v2 = 0 ∨ v2 = 1) → K9 v1 v2 v3 h → zV a (fu + 12, 0, 0, (qV Q), xN) 0 0 9 [some (aR 179), some (aI v1), some (aI v2), some (aI v3), none] [] h) {v1 : Int} {v2 : Int} {v3 : Int} {h : Hp} (hz_v2 : v2 = 0 ∨ v2 = 1) (hM : mX4_readTest_b109 RreadTest RreadFactor Q K9 v1 v2 v3 h) : zV a (fu + 12, 0, 0, (qV Q), xN) 0 0 109 [some (aR 179), some (aI v1), some (aI v2), some (aI v3), none] [] h := by
  unfold mX4_readTest_b109 at hM
  obtain ⟨hc, hM⟩ := hM
  refine zV_iinc O dX4_readTest_109 rfl (Nat.le_of_ble_eq_true rfl) rfl hc ?_
  refine zV_goto (tgt := 9) O dX4_readTest_112 (by decide) ?_
  exact hK9 _ _ _ _ hz_v2 hM
def mX4_readTest_b93 (RreadTest RreadFactor : Int → Hp → (Hp → Prop) → Prop) (Q : Hp → Prop) (K9 : Int → Int → Int → Hp → Prop) (v1 : Int) (v3 : Int) (v4 : Int) (s0 : Int) (h : Hp) : Prop := (RreadFactor v1 h (fun h26 => ((v4 = 0 → (mX4_readTest_b109 RreadTest RreadFactor Q K9 v1 s0 v3 h26)) ∧ (¬ v4 = 0 → (mX4_addStep 1 h26 (fun h27 => (mX4_readTest_b109 RreadTest RreadFactor Q K9 v1 s0 v3 h27)))))))
set_option maxHeartbeats 4000000 in
set_option maxRecDepth 100000 in
theorem sX4_readTest_b93 {l0 : Launch} {a : ZC} {fu : Nat} {RreadTest RreadFactor : Int → Hp → (Hp → Prop) → Prop} {Q : Hp → Prop} {K9 : Int → Int → Int → Hp → Prop} (O : zOk l0 a cX4_readTest RX4 5 none 185 []) (hRreadTest : ∀ (x : Int) (h : Hp) (Q : Hp → Prop), RreadTest x h Q → zSp l0 yX4_readTest cX4_readTest 5 none 185 (fu + 11) 0 0 [aR 179, aI x] h (qV Q) xN) (hRreadFactor : ∀ (x : Int) (h : Hp) (Q : Hp → Prop), RreadFactor x h Q → zSp l0 yX4_readFactor cX4_readFactor 3 none 185 (fu + 11) 0 0 [aR 179, aI x] h (qV Q) xN) (hfu : fu ≤ 100) (hK9 : ∀ (v1 : Int) (v2 : Int) (v3 : Int) (h : Hp), (v2 = 0 ∨ v2 = 1) → K9 v1 v2 v3 h → zV a (fu + 12, 0, 0, (qV Q), xN) 0 0 9 [some (aR 179), some (aI v1), some (aI v2), some (aI v3), none] [] h) {v1 : Int} {v3 : Int} {v4 : Int} {s0 : Int} {h : Hp} (hz_v4 : v4 = 0 ∨ v4 = 1) (hz_s0 : s0 = 0 ∨ s0 = 1) (hM : mX4_readTest_b93 RreadTest RreadFactor Q K9 v1 v3 v4 s0 h) : zV a (fu + 12, 0, 0, (qV Q), xN) 0 0 93 [some (aR 179), some (aI v1), none, some (aI v3), some (aI v4)] [aI s0] h := by
  unfold mX4_readTest_b93 at hM
  refine zV_istore_n O dX4_readTest_93 rfl (Nat.le_of_ble_eq_true rfl) rfl ?_
  refine zV_aload_n O dX4_readTest_94 rfl rfl ?_
  refine zV_iload_n O dX4_readTest_95 rfl rfl ?_
  refine zV_callV (as := [aI v1]) (st := []) O zc_X4_readFactor (Or.inl zl_RX4_56) zi_1225 zi_80 zt_179 rfl rfl (by decide) (Nat.le_of_ble_eq_true rfl) rfl rfl (Nat.le_of_ble_eq_true rfl) (show fu + 11 + 1 ≤ fu + 12 by omega) (show fu + 12 ≤ 2048 by omega) (Nat.le_of_ble_eq_true rfl) (Nat.le_of_ble_eq_true rfl) (Nat.le_of_ble_eq_true rfl) dX4_readTest_96 (hRreadFactor _ _ _ hM) (fun r h26 hq => ?_) (fun x h9 hq => hq.elim)
  obtain ⟨rfl, hM⟩ := hq
  refine zV_iload O dX4_readTest_99 rfl ?_
  refine zV_if_eq (tgt := 109) O dX4_readTest_101 (by decide) (fun hc => ?_) (fun hc => ?_)
  · replace hM := hM.1 hc
    refine zV_sub (ls2 := [some (aR 179), some (aI v1), some (aI s0), some (aI v3), none]) ⟨rfl, rfl, rfl, rfl, trivial⟩ ?_
    exact sX4_readTest_b109 O hRreadTest hRreadFactor hfu hK9 hz_s0 hM
  · replace hM := hM.2 hc
    refine zV_aload_n O dX4_readTest_104 rfl rfl ?_
    refine zV_iconst (z := 1) O ⟨by omega, by omega⟩ dX4_readTest_105 ?_
    refine zV_callV (as := [aI 1]) (st := []) O zc_X4_addStep (Or.inl zl_RX4_63) zi_1252 zi_84 zt_179 rfl rfl (by decide) (Nat.le_of_ble_eq_true rfl) rfl rfl (Nat.le_of_ble_eq_true rfl) (show 1 + 1 ≤ fu + 12 by omega) (show fu + 12 ≤ 2048 by omega) (Nat.le_of_ble_eq_true rfl) (Nat.le_of_ble_eq_true rfl) (Nat.le_of_ble_eq_true rfl) dX4_readTest_106 (sX4_addStep hM) (fun r h27 hq => ?_) (fun x h9 hq => hq.elim)
    obtain ⟨rfl, hM⟩ := hq
    refine zV_sub (ls2 := [some (aR 179), some (aI v1), some (aI s0), some (aI v3), none]) ⟨rfl, rfl, rfl, rfl, trivial⟩ ?_
    exact sX4_readTest_b109 O hRreadTest hRreadFactor hfu hK9 hz_s0 hM
def mX4_readTest_b88 (RreadTest RreadFactor : Int → Hp → (Hp → Prop) → Prop) (Q : Hp → Prop) (K9 : Int → Int → Int → Hp → Prop) (v1 : Int) (v3 : Int) (v4 : Int) (h : Hp) : Prop := (mX4_readTest_b93 RreadTest RreadFactor Q K9 v1 v3 v4 1 h)
set_option maxHeartbeats 4000000 in
set_option maxRecDepth 100000 in
theorem sX4_readTest_b88 {l0 : Launch} {a : ZC} {fu : Nat} {RreadTest RreadFactor : Int → Hp → (Hp → Prop) → Prop} {Q : Hp → Prop} {K9 : Int → Int → Int → Hp → Prop} (O : zOk l0 a cX4_readTest RX4 5 none 185 []) (hRreadTest : ∀ (x : Int) (h : Hp) (Q : Hp → Prop), RreadTest x h Q → zSp l0 yX4_readTest cX4_readTest 5 none 185 (fu + 11) 0 0 [aR 179, aI x] h (qV Q) xN) (hRreadFactor : ∀ (x : Int) (h : Hp) (Q : Hp → Prop), RreadFactor x h Q → zSp l0 yX4_readFactor cX4_readFactor 3 none 185 (fu + 11) 0 0 [aR 179, aI x] h (qV Q) xN) (hfu : fu ≤ 100) (hK9 : ∀ (v1 : Int) (v2 : Int) (v3 : Int) (h : Hp), (v2 = 0 ∨ v2 = 1) → K9 v1 v2 v3 h → zV a (fu + 12, 0, 0, (qV Q), xN) 0 0 9 [some (aR 179), some (aI v1), some (aI v2), some (aI v3), none] [] h) {v1 : Int} {v3 : Int} {v4 : Int} {h : Hp} (hz_v4 : v4 = 0 ∨ v4 = 1) (hM : mX4_readTest_b88 RreadTest RreadFactor Q K9 v1 v3 v4 h) : zV a (fu + 12, 0, 0, (qV Q), xN) 0 0 88 [some (aR 179), some (aI v1), none, some (aI v3), some (aI v4)] [] h := by
  unfold mX4_readTest_b88 at hM
  refine zV_iconst (z := 1) O ⟨by omega, by omega⟩ dX4_readTest_88 ?_
  refine zV_goto (tgt := 93) O dX4_readTest_89 (by decide) ?_
  exact sX4_readTest_b93 O hRreadTest hRreadFactor hfu hK9 hz_v4 (Or.inr rfl) hM
def mX4_readTest_b79 (RreadTest RreadFactor : Int → Hp → (Hp → Prop) → Prop) (Q : Hp → Prop) (K9 : Int → Int → Int → Hp → Prop) (v1 : Int) (v2 : Int) (v3 : Int) (v4 : Int) (h : Hp) : Prop := ((¬ v2 = 0 → (mX4_readTest_b88 RreadTest RreadFactor Q K9 v1 v3 v4 h)) ∧ (v2 = 0 → ((¬ v4 = 0 → (mX4_readTest_b93 RreadTest RreadFactor Q K9 v1 v3 v4 0 h)) ∧ (v4 = 0 → (mX4_readTest_b88 RreadTest RreadFactor Q K9 v1 v3 v4 h)))))
set_option maxHeartbeats 4000000 in
set_option maxRecDepth 100000 in
theorem sX4_readTest_b79 {l0 : Launch} {a : ZC} {fu : Nat} {RreadTest RreadFactor : Int → Hp → (Hp → Prop) → Prop} {Q : Hp → Prop} {K9 : Int → Int → Int → Hp → Prop} (O : zOk l0 a cX4_readTest RX4 5 none 185 []) (hRreadTest : ∀ (x : Int) (h : Hp) (Q : Hp → Prop), RreadTest x h Q → zSp l0 yX4_readTest cX4_readTest 5 none 185 (fu + 11) 0 0 [aR 179, aI x] h (qV Q) xN) (hRreadFactor : ∀ (x : Int) (h : Hp) (Q : Hp → Prop), RreadFactor x h Q → zSp l0 yX4_readFactor cX4_readFactor 3 none 185 (fu + 11) 0 0 [aR 179, aI x] h (qV Q) xN) (hfu : fu ≤ 100) (hK9 : ∀ (v1 : Int) (v2 : Int) (v3 : Int) (h : Hp), (v2 = 0 ∨ v2 = 1) → K9 v1 v2 v3 h → zV a (fu + 12, 0, 0, (qV Q), xN) 0 0 9 [some (aR 179), some (aI v1), some (aI v2), some (aI v3), none] [] h) {v1 : Int} {v2 : Int} {v3 : Int} {v4 : Int} {h : Hp} (hz_v2 : v2 = 0 ∨ v2 = 1) (hz_v4 : v4 = 0 ∨ v4 = 1) (hM : mX4_readTest_b79 RreadTest RreadFactor Q K9 v1 v2 v3 v4 h) : zV a (fu + 12, 0, 0, (qV Q), xN) 0 0 79 [some (aR 179), some (aI v1), some (aI v2), some (aI v3), some (aI v4)] [] h := by
  unfold mX4_readTest_b79 at hM
  refine zV_iload_n O dX4_readTest_79 rfl rfl ?_
  refine zV_if_ne (tgt := 88) O dX4_readTest_80 (by decide) (fun hc => ?_) (fun hc => ?_)
  · replace hM := hM.1 hc
    refine zV_sub (ls2 := [some (aR 179), some (aI v1), none, some (aI v3), some (aI v4)]) ⟨rfl, rfl, rfl, rfl, trivial⟩ ?_
    exact sX4_readTest_b88 O hRreadTest hRreadFactor hfu hK9 hz_v4 hM
  · replace hM := hM.2 hc
    refine zV_iload O dX4_readTest_83 rfl ?_
    refine zV_if_ne (tgt := 92) O dX4_readTest_85 (by decide) (fun hc => ?_) (fun hc => ?_)
    · replace hM := hM.1 hc
      refine zV_iconst (z := 0) O ⟨by omega, by omega⟩ dX4_readTest_92 ?_
      refine zV_sub (ls2 := [some (aR 179), some (aI v1), none, some (aI v3), some (aI v4)]) ⟨rfl, rfl, rfl, rfl, trivial⟩ ?_
      exact sX4_readTest_b93 O hRreadTest hRreadFactor hfu hK9 hz_v4 (Or.inl rfl) hM
    · replace hM := hM.2 hc
      refine zV_sub (ls2 := [some (aR 179), some (aI v1), none, some (aI v3), some (aI v4)]) ⟨rfl, rfl, rfl, rfl, trivial⟩ ?_
      exact sX4_readTest_b88 O hRreadTest hRreadFactor hfu hK9 hz_v4 hM
def mX4_readTest_b47 (RreadTest RreadFactor : Int → Hp → (Hp → Prop) → Prop) (Q : Hp → Prop) (K9 : Int → Int → Int → Hp → Prop) (v1 : Int) (v2 : Int) (v3 : Int) (h : Hp) : Prop := (mX6_isWord 23 h (fun z28 => (mX6_advance h (fun h29 => ((¬ z28 = 0 → (mX4_readTest_b79 RreadTest RreadFactor Q K9 v1 v2 v3 z28 h29)) ∧ (z28 = 0 → ((v2 = 0 → (mX4_readTest_b79 RreadTest RreadFactor Q K9 v1 v2 v3 z28 h29)) ∧ (¬ v2 = 0 → (mX4_addStep 2 h29 (fun h30 => (mX4_readTest_b79 RreadTest RreadFactor Q K9 v1 v2 v3 z28 h30)))))))))))
set_option maxHeartbeats 4000000 in
set_option maxRecDepth 100000 in
theorem sX4_readTest_b47 {l0 : Launch} {a : ZC} {fu : Nat} {RreadTest RreadFactor : Int → Hp → (Hp → Prop) → Prop} {Q : Hp → Prop} {K9 : Int → Int → Int → Hp → Prop} (O : zOk l0 a cX4_readTest RX4 5 none 185 []) (hRreadTest : ∀ (x : Int) (h : Hp) (Q : Hp → Prop), RreadTest x h Q → zSp l0 yX4_readTest cX4_readTest 5 none 185 (fu + 11) 0 0 [aR 179, aI x] h (qV Q) xN) (hRreadFactor : ∀ (x : Int) (h : Hp) (Q : Hp → Prop), RreadFactor x h Q → zSp l0 yX4_readFactor cX4_readFactor 3 none 185 (fu + 11) 0 0 [aR 179, aI x] h (qV Q) xN) (hfu : fu ≤ 100) (hK9 : ∀ (v1 : Int) (v2 : Int) (v3 : Int) (h : Hp), (v2 = 0 ∨ v2 = 1) → K9 v1 v2 v3 h → zV a (fu + 12, 0, 0, (qV Q), xN) 0 0 9 [some (aR 179), some (aI v1), some (aI v2), some (aI v3), none] [] h) {v1 : Int} {v2 : Int} {v3 : Int} {h : Hp} (hz_v2 : v2 = 0 ∨ v2 = 1) (hM : mX4_readTest_b47 RreadTest RreadFactor Q K9 v1 v2 v3 h) : zV a (fu + 12, 0, 0, (qV Q), xN) 0 0 47 [some (aR 179), some (aI v1), some (aI v2), some (aI v3), none] [] h := by
  unfold mX4_readTest_b47 at hM
  refine zV_aload_n O dX4_readTest_47 rfl rfl ?_
  refine zV_getR O zf_RX4_22 zt_179 rfl (by decide) dX4_readTest_48 ?_
  refine zV_ldcS (w := 23) O ⟨by decide, rfl, rfl⟩ dX4_readTest_51 ?_
  refine zV_callV (as := [aR (1000 + 23)]) (st := []) O zc_X6_isWord (Or.inr ⟨_, zl_RX4_35⟩) zi_832 zi_45 zt_176 rfl rfl (by decide) (Nat.le_of_ble_eq_true rfl) rfl rfl (Nat.le_of_ble_eq_true rfl) (show 7 + 1 ≤ fu + 12 by omega) (show fu + 12 ≤ 2048 by omega) (Nat.le_of_ble_eq_true rfl) (Nat.le_of_ble_eq_true rfl) (Nat.le_of_ble_eq_true rfl) dX4_readTest_53 (sX6_isWord (by decide : 23 < zSN) hM) (fun r h9 hq => ?_) (fun x h9 hq => hq.elim)
  obtain ⟨rfl, z28, rfl, hzz28, hM⟩ := hq
  refine zV_istore O dX4_readTest_56 (Nat.le_of_ble_eq_true rfl) rfl ?_
  refine zV_aload_n O dX4_readTest_58 rfl rfl ?_
  refine zV_getR O zf_RX4_22 zt_179 rfl (by decide) dX4_readTest_59 ?_
  refine zV_callV (as := []) (st := []) O zc_X6_advance (Or.inr ⟨_, zl_RX4_46⟩) zi_808 zi_41 zt_176 rfl rfl (by decide) (Nat.le_of_ble_eq_true rfl) rfl rfl (Nat.le_of_ble_eq_true rfl) (show 2 + 1 ≤ fu + 12 by omega) (show fu + 12 ≤ 2048 by omega) (Nat.le_of_ble_eq_true rfl) (Nat.le_of_ble_eq_true rfl) (Nat.le_of_ble_eq_true rfl) dX4_readTest_62 (sX6_advance hM) (fun r h29 hq => ?_) (fun x h9 hq => hq.elim)
  obtain ⟨rfl, hM⟩ := hq
  refine zV_iload O dX4_readTest_65 rfl ?_
  refine zV_if_ne (tgt := 79) O dX4_readTest_67 (by decide) (fun hc => ?_) (fun hc => ?_)
  · replace hM := hM.1 hc
    exact sX4_readTest_b79 O hRreadTest hRreadFactor hfu hK9 hz_v2 hzz28 hM
  · replace hM := hM.2 hc
    refine zV_iload_n O dX4_readTest_70 rfl rfl ?_
    refine zV_if_eq (tgt := 79) O dX4_readTest_71 (by decide) (fun hc => ?_) (fun hc => ?_)
    · replace hM := hM.1 hc
      exact sX4_readTest_b79 O hRreadTest hRreadFactor hfu hK9 hz_v2 hzz28 hM
    · replace hM := hM.2 hc
      refine zV_aload_n O dX4_readTest_74 rfl rfl ?_
      refine zV_iconst (z := 2) O ⟨by omega, by omega⟩ dX4_readTest_75 ?_
      refine zV_callV (as := [aI 2]) (st := []) O zc_X4_addStep (Or.inl zl_RX4_63) zi_1252 zi_84 zt_179 rfl rfl (by decide) (Nat.le_of_ble_eq_true rfl) rfl rfl (Nat.le_of_ble_eq_true rfl) (show 1 + 1 ≤ fu + 12 by omega) (show fu + 12 ≤ 2048 by omega) (Nat.le_of_ble_eq_true rfl) (Nat.le_of_ble_eq_true rfl) (Nat.le_of_ble_eq_true rfl) dX4_readTest_76 (sX4_addStep hM) (fun r h30 hq => ?_) (fun x h9 hq => hq.elim)
      obtain ⟨rfl, hM⟩ := hq
      exact sX4_readTest_b79 O hRreadTest hRreadFactor hfu hK9 hz_v2 hzz28 hM
def mX4_readTest_b9 (RreadTest RreadFactor : Int → Hp → (Hp → Prop) → Prop) (Q : Hp → Prop) : Nat → Int → Int → Int → Hp → Prop
  | 0 => fun _ _ _ _ => False
  | fu9 + 1 => fun v1 v2 v3 h => (((200 : Int) ≤ v3 → (mX4_readTest_b115 RreadTest RreadFactor Q v2 h)) ∧ (¬ (200 : Int) ≤ v3 → ((¬ (h 179 4) = 0 → (mX4_readTest_b115 RreadTest RreadFactor Q v2 h)) ∧ ((h 179 4) = 0 → (mX6_isWord 23 h (fun z31 => ((¬ z31 = 0 → (mX4_readTest_b47 RreadTest RreadFactor Q (mX4_readTest_b9 RreadTest RreadFactor Q fu9) v1 v2 v3 h)) ∧ (z31 = 0 → (mX6_isWord 24 h (fun z32 => ((z32 = 0 → (mX4_readTest_b115 RreadTest RreadFactor Q v2 h)) ∧ (¬ z32 = 0 → (mX4_readTest_b47 RreadTest RreadFactor Q (mX4_readTest_b9 RreadTest RreadFactor Q fu9) v1 v2 v3 h)))))))))))))
set_option maxHeartbeats 4000000 in
set_option maxRecDepth 100000 in
theorem sX4_readTest_b9 {l0 : Launch} {a : ZC} {fu : Nat} {RreadTest RreadFactor : Int → Hp → (Hp → Prop) → Prop} {Q : Hp → Prop}  (O : zOk l0 a cX4_readTest RX4 5 none 185 []) (hRreadTest : ∀ (x : Int) (h : Hp) (Q : Hp → Prop), RreadTest x h Q → zSp l0 yX4_readTest cX4_readTest 5 none 185 (fu + 11) 0 0 [aR 179, aI x] h (qV Q) xN) (hRreadFactor : ∀ (x : Int) (h : Hp) (Q : Hp → Prop), RreadFactor x h Q → zSp l0 yX4_readFactor cX4_readFactor 3 none 185 (fu + 11) 0 0 [aR 179, aI x] h (qV Q) xN) (hfu : fu ≤ 100)  : ∀ (ff : Nat) (v1 : Int) (v2 : Int) (v3 : Int) (h : Hp), (v2 = 0 ∨ v2 = 1) → mX4_readTest_b9 RreadTest RreadFactor Q ff v1 v2 v3 h → zV a (fu + 12, 0, 0, (qV Q), xN) 0 0 9 [some (aR 179), some (aI v1), some (aI v2), some (aI v3), none] [] h := by
  intro ff
  induction ff with
  | zero => intro v1 v2 v3 h hz_v2 hM; exact hM.elim
  | succ ff ih =>
    have hK9 := ih
    intro v1 v2 v3 h hz_v2 hM
    unfold mX4_readTest_b9 at hM
    refine zV_iload_n O dX4_readTest_9 rfl rfl ?_
    refine zV_sipush (z := 200) O ⟨by omega, by omega⟩ rfl dX4_readTest_10 ?_
    refine zV_icmp_ge (tgt := 115) O dX4_readTest_13 (by decide) (fun hc => ?_) (fun hc => ?_)
    · replace hM := hM.1 hc
      refine zV_sub (ls2 := [some (aR 179), none, some (aI v2), none, none]) ⟨rfl, rfl, trivial⟩ ?_
      exact sX4_readTest_b115 O hRreadTest hRreadFactor hfu hz_v2 hM
    · replace hM := hM.2 hc
      refine zV_aload_n O dX4_readTest_16 rfl rfl ?_
      refine zV_getI O zf_RX4_26 zt_179 rfl (by decide) dX4_readTest_17 ?_
      refine zV_if_ne (tgt := 115) O dX4_readTest_20 (by decide) (fun hc => ?_) (fun hc => ?_)
      · replace hM := hM.1 hc
        refine zV_sub (ls2 := [some (aR 179), none, some (aI v2), none, none]) ⟨rfl, rfl, trivial⟩ ?_
        exact sX4_readTest_b115 O hRreadTest hRreadFactor hfu hz_v2 hM
      · replace hM := hM.2 hc
        refine zV_aload_n O dX4_readTest_23 rfl rfl ?_
        refine zV_getR O zf_RX4_22 zt_179 rfl (by decide) dX4_readTest_24 ?_
        refine zV_ldcS (w := 23) O ⟨by decide, rfl, rfl⟩ dX4_readTest_27 ?_
        refine zV_callV (as := [aR (1000 + 23)]) (st := []) O zc_X6_isWord (Or.inr ⟨_, zl_RX4_35⟩) zi_832 zi_45 zt_176 rfl rfl (by decide) (Nat.le_of_ble_eq_true rfl) rfl rfl (Nat.le_of_ble_eq_true rfl) (show 7 + 1 ≤ fu + 12 by omega) (show fu + 12 ≤ 2048 by omega) (Nat.le_of_ble_eq_true rfl) (Nat.le_of_ble_eq_true rfl) (Nat.le_of_ble_eq_true rfl) dX4_readTest_29 (sX6_isWord (by decide : 23 < zSN) hM) (fun r h9 hq => ?_) (fun x h9 hq => hq.elim)
        obtain ⟨rfl, z31, rfl, hzz31, hM⟩ := hq
        refine zV_if_ne (tgt := 47) O dX4_readTest_32 (by decide) (fun hc => ?_) (fun hc => ?_)
        · replace hM := hM.1 hc
          exact sX4_readTest_b47 O hRreadTest hRreadFactor hfu hK9 hz_v2 hM
        · replace hM := hM.2 hc
          refine zV_aload_n O dX4_readTest_35 rfl rfl ?_
          refine zV_getR O zf_RX4_22 zt_179 rfl (by decide) dX4_readTest_36 ?_
          refine zV_ldcS (w := 24) O ⟨by decide, rfl, rfl⟩ dX4_readTest_39 ?_
          refine zV_callV (as := [aR (1000 + 24)]) (st := []) O zc_X6_isWord (Or.inr ⟨_, zl_RX4_35⟩) zi_832 zi_45 zt_176 rfl rfl (by decide) (Nat.le_of_ble_eq_true rfl) rfl rfl (Nat.le_of_ble_eq_true rfl) (show 7 + 1 ≤ fu + 12 by omega) (show fu + 12 ≤ 2048 by omega) (Nat.le_of_ble_eq_true rfl) (Nat.le_of_ble_eq_true rfl) (Nat.le_of_ble_eq_true rfl) dX4_readTest_41 (sX6_isWord (by decide : 24 < zSN) hM) (fun r h9 hq => ?_) (fun x h9 hq => hq.elim)
          obtain ⟨rfl, z32, rfl, hzz32, hM⟩ := hq
          refine zV_if_eq (tgt := 115) O dX4_readTest_44 (by decide) (fun hc => ?_) (fun hc => ?_)
          · replace hM := hM.1 hc
            refine zV_sub (ls2 := [some (aR 179), none, some (aI v2), none, none]) ⟨rfl, rfl, trivial⟩ ?_
            exact sX4_readTest_b115 O hRreadTest hRreadFactor hfu hz_v2 hM
          · replace hM := hM.2 hc
            exact sX4_readTest_b47 O hRreadTest hRreadFactor hfu hK9 hz_v2 hM
def mX4_readTestF (RreadTest RreadFactor : Int → Hp → (Hp → Prop) → Prop) (x1 : Int) (h : Hp) (Q : Hp → Prop) : Prop := (RreadFactor x1 h (fun h33 => (∃ ff, mX4_readTest_b9 RreadTest RreadFactor Q ff x1 0 0 h33)))
set_option maxHeartbeats 4000000 in
set_option maxRecDepth 100000 in
theorem sX4_readTestF {l0 : Launch} {fu : Nat} {RreadTest RreadFactor : Int → Hp → (Hp → Prop) → Prop} {x1 : Int} {h : Hp} {Q : Hp → Prop} (hRreadTest : ∀ (x : Int) (h : Hp) (Q : Hp → Prop), RreadTest x h Q → zSp l0 yX4_readTest cX4_readTest 5 none 185 (fu + 11) 0 0 [aR 179, aI x] h (qV Q) xN) (hRreadFactor : ∀ (x : Int) (h : Hp) (Q : Hp → Prop), RreadFactor x h Q → zSp l0 yX4_readFactor cX4_readFactor 3 none 185 (fu + 11) 0 0 [aR 179, aI x] h (qV Q) xN) (hfu : fu ≤ 100) (hM : mX4_readTestF RreadTest RreadFactor x1 h Q) : zSp l0 yX4_readTest cX4_readTest 5 none 185 (fu + 12) 0 0 [aR 179, aI x1] h (qV Q) xN := by
  unfold mX4_readTestF at hM
  refine zSp_intro zpn_RX4 (Nat.le_of_ble_eq_true rfl) (fun a O => ?_)
  show zV a (fu + 12, 0, 0, (qV Q), xN) 0 0 0 [some (aR 179), some (aI x1), none, none, none] [] h
  refine zV_iconst (z := 0) O ⟨by omega, by omega⟩ dX4_readTest_0 ?_
  refine zV_istore_n O dX4_readTest_1 rfl (Nat.le_of_ble_eq_true rfl) rfl ?_
  refine zV_aload_n O dX4_readTest_2 rfl rfl ?_
  refine zV_iload_n O dX4_readTest_3 rfl rfl ?_
  refine zV_callV (as := [aI x1]) (st := []) O zc_X4_readFactor (Or.inl zl_RX4_56) zi_1225 zi_80 zt_179 rfl rfl (by decide) (Nat.le_of_ble_eq_true rfl) rfl rfl (Nat.le_of_ble_eq_true rfl) (show fu + 11 + 1 ≤ fu + 12 by omega) (show fu + 12 ≤ 2048 by omega) (Nat.le_of_ble_eq_true rfl) (Nat.le_of_ble_eq_true rfl) (Nat.le_of_ble_eq_true rfl) dX4_readTest_4 (hRreadFactor _ _ _ hM) (fun r h33 hq => ?_) (fun x h9 hq => hq.elim)
  obtain ⟨rfl, hM⟩ := hq
  refine zV_iconst (z := 0) O ⟨by omega, by omega⟩ dX4_readTest_7 ?_
  refine zV_istore_n O dX4_readTest_8 rfl (Nat.le_of_ble_eq_true rfl) rfl ?_
  obtain ⟨ff, hM⟩ := hM
  exact sX4_readTest_b9 O hRreadTest hRreadFactor hfu ff _ _ _ _ (Or.inl rfl) hM
def mX4_rec : Nat → Bool → Int → Hp → (Hp → Prop) → Prop
  | 0, _, _, _, _ => False
  | n + 1, true, x, h, Q => mX4_readTestF (mX4_rec n true) (mX4_rec n false) x h Q
  | n + 1, false, x, h, Q => mX4_readFactorF (mX4_rec n true) (mX4_rec n false) x h Q
theorem sX4_rec {l0 : Launch} : ∀ n : Nat, n ≤ 100 → (∀ (x : Int) (h : Hp) (Q : Hp → Prop), mX4_rec n true x h Q → zSp l0 yX4_readTest cX4_readTest 5 none 185 (n + 11) 0 0 [aR 179, aI x] h (qV Q) xN) ∧ (∀ (x : Int) (h : Hp) (Q : Hp → Prop), mX4_rec n false x h Q → zSp l0 yX4_readFactor cX4_readFactor 3 none 185 (n + 11) 0 0 [aR 179, aI x] h (qV Q) xN) := by
  intro n
  induction n with
  | zero => intro _; exact ⟨fun x h Q hM => by simp only [mX4_rec] at hM, fun x h Q hM => by simp only [mX4_rec] at hM⟩
  | succ n ih =>
    intro hn
    obtain ⟨h1, h2⟩ := ih (by omega)
    refine ⟨fun x h Q hM => ?_, fun x h Q hM => ?_⟩
    · simp only [mX4_rec] at hM
      exact sX4_readTestF (fu := n) h1 h2 (by omega) hM
    · simp only [mX4_rec] at hM
      exact sX4_readFactorF (fu := n) h1 h2 (by omega) hM
def mX4_readQuery_b78 (Q : Int → Hp → Prop) (h : Hp) : Prop := (Q (h 179 4) h)
set_option maxHeartbeats 4000000 in
set_option maxRecDepth 100000 in
theorem sX4_readQuery_b78 {l0 : Launch} {a : ZC}  {Q : Int → Hp → Prop}  (O : zOk l0 a cX4_readQuery RX4 1 (some .int) 185 [])    {h : Hp}  (hM : mX4_readQuery_b78 Q h) : zV a (41, 0, 0, (qI Q), xN) 0 0 78 [some (aR 179)] [] h := by
  unfold mX4_readQuery_b78 at hM
  refine zV_aload_n O dX4_readQuery_78 rfl rfl ?_
  refine zV_getI O zf_RX4_26 zt_179 rfl (by decide) dX4_readQuery_79 ?_
  exact zV_iret O rfl ⟨_, rfl, hM⟩ (Nat.le_of_ble_eq_true rfl) (Nat.le_of_ble_eq_true rfl) dX4_readQuery_82
def mX4_readQuery_b44 (Q : Int → Hp → Prop) (h : Hp) : Prop := (mX6_advance h (fun h13 => (∃ fu, fu ≤ 20 ∧ mX4_rec fu true 0 h13 (fun h14 => ((¬ (h14 179 4) = 0 → (mX4_readQuery_b78 Q h14)) ∧ ((h14 179 4) = 0 → (((h14 176 4) = 0 → (mX4_readQuery_b78 Q h14)) ∧ (¬ (h14 176 4) = 0 → (∀ h15 : Hp, h15 = hu h14 179 4 1 → (mX4_readQuery_b78 Q h15))))))))))
set_option maxHeartbeats 4000000 in
set_option maxRecDepth 100000 in
theorem sX4_readQuery_b44 {l0 : Launch} {a : ZC}  {Q : Int → Hp → Prop}  (O : zOk l0 a cX4_readQuery RX4 1 (some .int) 185 [])    {h : Hp}  (hM : mX4_readQuery_b44 Q h) : zV a (41, 0, 0, (qI Q), xN) 0 0 44 [some (aR 179)] [] h := by
  unfold mX4_readQuery_b44 at hM
  refine zV_aload_n O dX4_readQuery_44 rfl rfl ?_
  refine zV_getR O zf_RX4_22 zt_179 rfl (by decide) dX4_readQuery_45 ?_
  refine zV_callV (as := []) (st := []) O zc_X6_advance (Or.inr ⟨_, zl_RX4_46⟩) zi_808 zi_41 zt_176 rfl rfl (by decide) (Nat.le_of_ble_eq_true rfl) rfl rfl (Nat.le_of_ble_eq_true rfl) (Nat.le_of_ble_eq_true rfl) (Nat.le_of_ble_eq_true rfl) (Nat.le_of_ble_eq_true rfl) (Nat.le_of_ble_eq_true rfl) (Nat.le_of_ble_eq_true rfl) dX4_readQuery_48 (sX6_advance hM) (fun r h13 hq => ?_) (fun x h9 hq => hq.elim)
  obtain ⟨rfl, hM⟩ := hq
  refine zV_aload_n O dX4_readQuery_51 rfl rfl ?_
  refine zV_iconst (z := 0) O ⟨by omega, by omega⟩ dX4_readQuery_52 ?_
  obtain ⟨fu, hfu, hM⟩ := hM
  refine zV_callV (as := [aI 0]) (st := []) O zc_X4_readTest (Or.inl zl_RX4_49) zi_1221 zi_79 zt_179 rfl rfl (by decide) (Nat.le_of_ble_eq_true rfl) rfl rfl (Nat.le_of_ble_eq_true rfl) (show fu + 11 + 1 ≤ 41 by omega) (Nat.le_of_ble_eq_true rfl) (Nat.le_of_ble_eq_true rfl) (Nat.le_of_ble_eq_true rfl) (Nat.le_of_ble_eq_true rfl) dX4_readQuery_53 ((sX4_rec fu (by omega)).1 _ _ _ hM) (fun r h14 hq => ?_) (fun x h9 hq => hq.elim)
  obtain ⟨rfl, hM⟩ := hq
  refine zV_aload_n O dX4_readQuery_56 rfl rfl ?_
  refine zV_getI O zf_RX4_26 zt_179 rfl (by decide) dX4_readQuery_57 ?_
  refine zV_if_ne (tgt := 78) O dX4_readQuery_60 (by decide) (fun hc => ?_) (fun hc => ?_)
  · replace hM := hM.1 hc
    exact sX4_readQuery_b78 O hM
  · replace hM := hM.2 hc
    refine zV_aload_n O dX4_readQuery_63 rfl rfl ?_
    refine zV_getR O zf_RX4_22 zt_179 rfl (by decide) dX4_readQuery_64 ?_
    refine zV_getI O zf_RX4_53 zt_176 rfl (by decide) dX4_readQuery_67 ?_
    refine zV_if_eq (tgt := 78) O dX4_readQuery_70 (by decide) (fun hc => ?_) (fun hc => ?_)
    · replace hM := hM.1 hc
      exact sX4_readQuery_b78 O hM
    · replace hM := hM.2 hc
      refine zV_aload_n O dX4_readQuery_73 rfl rfl ?_
      refine zV_iconst (z := 1) O ⟨by omega, by omega⟩ dX4_readQuery_74 ?_
      refine zV_putI O zf_RX4_26 zt_179 rfl (by decide) dX4_readQuery_75 ?_
      have hM := hM _ rfl
      generalize hu h14 179 4 1 = h15 at hM ⊢
      exact sX4_readQuery_b78 O hM
def mX4_readQuery  (h : Hp) (Q : Int → Hp → Prop) : Prop := (∀ h16 : Hp, h16 = hu h 179 4 0 → (∀ h17 : Hp, h17 = hu h16 179 2 0 → (mX6_isWord 11 h17 (fun z18 => (∀ h19 : Hp, h19 = hu h17 179 3 z18 → ((¬ (h19 179 3) = 0 → (mX4_readQuery_b44 Q h19)) ∧ ((h19 179 3) = 0 → (mX6_isWord 12 h19 (fun z21 => ((¬ z21 = 0 → (mX4_readQuery_b44 Q h19)) ∧ (z21 = 0 → (Q 1 h19))))))))))))
set_option maxHeartbeats 4000000 in
set_option maxRecDepth 100000 in
theorem sX4_readQuery {l0 : Launch}  {h : Hp} {Q : Int → Hp → Prop}  (hM : mX4_readQuery  h Q) : zSp l0 yX4_readQuery cX4_readQuery 1 (some .int) 185 (41) 0 0 [aR 179] h (qI Q) xN := by
  unfold mX4_readQuery at hM
  refine zSp_intro zpn_RX4 (Nat.le_of_ble_eq_true rfl) (fun a O => ?_)
  show zV a (41, 0, 0, (qI Q), xN) 0 0 0 [some (aR 179)] [] h
  refine zV_aload_n O dX4_readQuery_0 rfl rfl ?_
  refine zV_iconst (z := 0) O ⟨by omega, by omega⟩ dX4_readQuery_1 ?_
  refine zV_putI O zf_RX4_26 zt_179 rfl (by decide) dX4_readQuery_2 ?_
  have hM := hM _ rfl
  generalize hu h 179 4 0 = h16 at hM ⊢
  refine zV_aload_n O dX4_readQuery_5 rfl rfl ?_
  refine zV_iconst (z := 0) O ⟨by omega, by omega⟩ dX4_readQuery_6 ?_
  refine zV_putI O zf_RX4_30 zt_179 rfl (by decide) dX4_readQuery_7 ?_
  have hM := hM _ rfl
  generalize hu h16 179 2 0 = h17 at hM ⊢
  refine zV_aload_n O dX4_readQuery_10 rfl rfl ?_
  refine zV_aload_n O dX4_readQuery_11 rfl rfl ?_
  refine zV_getR O zf_RX4_22 zt_179 rfl (by decide) dX4_readQuery_12 ?_
  refine zV_ldcS (w := 11) O ⟨by decide, rfl, rfl⟩ dX4_readQuery_15 ?_
  refine zV_callV (as := [aR (1000 + 11)]) (st := [aR 179]) O zc_X6_isWord (Or.inr ⟨_, zl_RX4_35⟩) zi_832 zi_45 zt_176 rfl rfl (by decide) (Nat.le_of_ble_eq_true rfl) rfl rfl (Nat.le_of_ble_eq_true rfl) (Nat.le_of_ble_eq_true rfl) (Nat.le_of_ble_eq_true rfl) (Nat.le_of_ble_eq_true rfl) (Nat.le_of_ble_eq_true rfl) (Nat.le_of_ble_eq_true rfl) dX4_readQuery_17 (sX6_isWord (by decide : 11 < zSN) hM) (fun r h9 hq => ?_) (fun x h9 hq => hq.elim)
  obtain ⟨rfl, z18, rfl, hzz18, hM⟩ := hq
  refine zV_putZ O zf_RX4_41 zt_179 rfl (by decide) hzz18 dX4_readQuery_20 ?_
  have hM := hM _ rfl
  generalize hu h17 179 3 z18 = h19 at hM ⊢
  refine zV_aload_n O dX4_readQuery_23 rfl rfl ?_
  refine zV_getZ O zf_RX4_41 zt_179 rfl (by decide) dX4_readQuery_24 (fun hz20 => ?_)
  refine zV_if_ne (tgt := 44) O dX4_readQuery_27 (by decide) (fun hc => ?_) (fun hc => ?_)
  · replace hM := hM.1 hc
    exact sX4_readQuery_b44 O hM
  · replace hM := hM.2 hc
    refine zV_aload_n O dX4_readQuery_30 rfl rfl ?_
    refine zV_getR O zf_RX4_22 zt_179 rfl (by decide) dX4_readQuery_31 ?_
    refine zV_ldcS (w := 12) O ⟨by decide, rfl, rfl⟩ dX4_readQuery_34 ?_
    refine zV_callV (as := [aR (1000 + 12)]) (st := []) O zc_X6_isWord (Or.inr ⟨_, zl_RX4_35⟩) zi_832 zi_45 zt_176 rfl rfl (by decide) (Nat.le_of_ble_eq_true rfl) rfl rfl (Nat.le_of_ble_eq_true rfl) (Nat.le_of_ble_eq_true rfl) (Nat.le_of_ble_eq_true rfl) (Nat.le_of_ble_eq_true rfl) (Nat.le_of_ble_eq_true rfl) (Nat.le_of_ble_eq_true rfl) dX4_readQuery_36 (sX6_isWord (by decide : 12 < zSN) hM) (fun r h9 hq => ?_) (fun x h9 hq => hq.elim)
    obtain ⟨rfl, z21, rfl, hzz21, hM⟩ := hq
    refine zV_if_ne (tgt := 44) O dX4_readQuery_39 (by decide) (fun hc => ?_) (fun hc => ?_)
    · replace hM := hM.1 hc
      exact sX4_readQuery_b44 O hM
    · replace hM := hM.2 hc
      refine zV_iconst (z := 1) O ⟨by omega, by omega⟩ dX4_readQuery_42 ?_
      exact zV_iret O rfl ⟨_, rfl, hM⟩ (Nat.le_of_ble_eq_true rfl) (Nat.le_of_ble_eq_true rfl) dX4_readQuery_43
