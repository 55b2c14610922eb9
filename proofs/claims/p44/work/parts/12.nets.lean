def mX3_appendHost_b87 (o : Nat) (Q : Int → Hp → Prop) : Nat → Int → Int → Hp → Prop
  | 0 => fun _ _ _ => False
  | fu87 + 1 => fun v5 v6 h => (((10 : Int) ≤ v6 → (Q v5 h)) ∧ (¬ (10 : Int) ≤ v6 → (zr (v5 * 10) ∧ (zr ((v5 * 10) + v6) ∧ (((0 : Int) ≤ ((v5 * 10) + v6) ∧ ((v5 * 10) + v6) < 400) ∧ (∀ h12 : Hp, h12 = wr h (o + 8) ((v5 * 10) + v6) 0 → (zr (v6 + 1) ∧ ((mX3_appendHost_b87 o Q fu87) v5 (v6 + 1) h12))))))))
set_option maxHeartbeats 4000000 in
set_option maxRecDepth 100000 in
theorem sX3_appendHost_b87 {l0 : Launch} {a : ZC} {o : Nat} {Q : Int → Hp → Prop}  (O : zOk l0 a cX3_appendHost RX3 7 (some .int) 185 []) (hN : zisN o)  : ∀ (ff : Nat) (v5 : Int) (v6 : Int) (h : Hp), mX3_appendHost_b87 o Q ff v5 v6 h → zV a (1, 0, 0, (qI Q), xN) 0 0 87 [some (aR o), none, none, none, none, some (aI v5), some (aI v6)] [] h := by
  intro ff
  induction ff with
  | zero => intro v5 v6 h hM; exact hM.elim
  | succ ff ih =>
    have hK87 := ih
    intro v5 v6 h hM
    unfold mX3_appendHost_b87 at hM
    refine zV_iload O dX3_appendHost_87 rfl ?_
    refine zV_bipush (z := 10) O ⟨by omega, by omega⟩ rfl dX3_appendHost_89 ?_
    refine zV_icmp_ge (tgt := 114) O dX3_appendHost_91 (by decide) (fun hc => ?_) (fun hc => ?_)
    · replace hM := hM.1 hc
      refine zV_iload O dX3_appendHost_114 rfl ?_
      exact zV_iret O rfl ⟨_, rfl, hM⟩ (Nat.le_of_ble_eq_true rfl) (Nat.le_of_ble_eq_true rfl) dX3_appendHost_116
    · replace hM := hM.2 hc
      refine zV_aload_n O dX3_appendHost_94 rfl rfl ?_
      refine zV_getR O zf_RX3_34 (zN_o hN) rfl (zN_lt0 hN) dX3_appendHost_95 ?_
      refine zV_iload O dX3_appendHost_98 rfl ?_
      refine zV_bipush (z := 10) O ⟨by omega, by omega⟩ rfl dX3_appendHost_100 ?_
      obtain ⟨hc, hM⟩ := hM
      refine zV_imul O dX3_appendHost_102 hc ?_
      refine zV_iload O dX3_appendHost_103 rfl ?_
      obtain ⟨hc, hM⟩ := hM
      refine zV_iadd O dX3_appendHost_105 hc ?_
      refine zV_iconst (z := 0) O ⟨by omega, by omega⟩ dX3_appendHost_106 ?_
      obtain ⟨hc, hM⟩ := hM
      refine zV_iast O (zN_a8 hN) (zN_lt hN (k := 8) (by decide)) hc dX3_appendHost_107 ?_
      have hM := hM (hu h (o + 8) (Int.toNat ((v5 * 10) + v6)) 0) rfl
      generalize hu h (o + 8) (Int.toNat ((v5 * 10) + v6)) 0 = h12 at hM ⊢
      obtain ⟨hc, hM⟩ := hM
      refine zV_iinc O dX3_appendHost_108 rfl (Nat.le_of_ble_eq_true rfl) rfl hc ?_
      refine zV_goto (tgt := 87) O dX3_appendHost_111 (by decide) ?_
      exact hK87 _ _ _ hM
def mX3_appendHost (o : Nat) (x1 : Int) (x3 : Int) (x4 : Int) (h : Hp) (Q : Int → Hp → Prop) : Prop := (((h o 0) < (40 : Int) → (zr ((h o 0) + 1) ∧ (∀ h13 : Hp, h13 = hu h o 0 ((h o 0) + 1) → (((0 : Int) ≤ (h o 0) ∧ (h o 0) < 40) ∧ (∀ h14 : Hp, h14 = wr h13 (o + 1) (h o 0) x1 → (((0 : Int) ≤ (h o 0) ∧ (h o 0) < 40) ∧ (∀ h15 : Hp, h15 = wr h14 (o + 2) (h o 0) x3 → (((0 : Int) ≤ (h o 0) ∧ (h o 0) < 40) ∧ (∀ h16 : Hp, h16 = wr h15 (o + 3) (h o 0) x4 → (((0 : Int) ≤ (h o 0) ∧ (h o 0) < 40) ∧ (∀ h17 : Hp, h17 = wr h16 (o + 4) (h o 0) 0 → (((0 : Int) ≤ (h o 0) ∧ (h o 0) < 40) ∧ (∀ h18 : Hp, h18 = wr h17 (o + 5) (h o 0) 0 → (((0 : Int) ≤ (h o 0) ∧ (h o 0) < 40) ∧ (∀ h19 : Hp, h19 = wr h18 (o + 6) (h o 0) 0 → (((0 : Int) ≤ (h o 0) ∧ (h o 0) < 40) ∧ (∀ h20 : Hp, h20 = wr h19 (o + 7) (h o 0) 0 → (∃ ff, mX3_appendHost_b87 o Q ff (h o 0) 0 h20)))))))))))))))))) ∧ (¬ (h o 0) < (40 : Int) → (Q (-1) h)))
set_option maxHeartbeats 4000000 in
set_option maxRecDepth 100000 in
theorem sX3_appendHost {l0 : Launch} {o : Nat} {x1 : Int} {x3 : Int} {x4 : Int} {h : Hp} {Q : Int → Hp → Prop} (hN : zisN o) (hM : mX3_appendHost o x1 x3 x4 h Q) : zSp l0 yX3_appendHost cX3_appendHost 7 (some .int) 185 (1) 0 0 [aR o, aL x1, aI x3, aI x4] h (qI Q) xN := by
  unfold mX3_appendHost at hM
  refine zSp_intro zpn_RX3 (Nat.le_of_ble_eq_true rfl) (fun a O => ?_)
  show zV a (1, 0, 0, (qI Q), xN) 0 0 0 [some (aR o), some (aL x1), none, some (aI x3), some (aI x4), none, none] [] h
  refine zV_aload_n O dX3_appendHost_0 rfl rfl ?_
  refine zV_getI O zf_RX3_49 (zN_o hN) rfl (zN_lt0 hN) dX3_appendHost_1 ?_
  refine zV_bipush (z := 40) O ⟨by omega, by omega⟩ rfl dX3_appendHost_4 ?_
  refine zV_icmp_lt (tgt := 11) O dX3_appendHost_6 (by decide) (fun hc => ?_) (fun hc => ?_)
  · replace hM := hM.1 hc
    refine zV_aload_n O dX3_appendHost_11 rfl rfl ?_
    refine zV_getI O zf_RX3_49 (zN_o hN) rfl (zN_lt0 hN) dX3_appendHost_12 ?_
    refine zV_istore O dX3_appendHost_15 (Nat.le_of_ble_eq_true rfl) rfl ?_
    refine zV_aload_n O dX3_appendHost_17 rfl rfl ?_
    refine zV_dup O rfl dX3_appendHost_18 ?_
    refine zV_getI O zf_RX3_49 (zN_o hN) rfl (zN_lt0 hN) dX3_appendHost_19 ?_
    refine zV_iconst (z := 1) O ⟨by omega, by omega⟩ dX3_appendHost_22 ?_
    obtain ⟨hc, hM⟩ := hM
    refine zV_iadd O dX3_appendHost_23 hc ?_
    refine zV_putI O zf_RX3_49 (zN_o hN) rfl (zN_lt0 hN) dX3_appendHost_24 ?_
    have hM := hM _ rfl
    generalize hu h o 0 ((h o 0) + 1) = h13 at hM ⊢
    refine zV_aload_n O dX3_appendHost_27 rfl rfl ?_
    refine zV_getR O zf_RX3_9 (zN_o hN) rfl (zN_lt0 hN) dX3_appendHost_28 ?_
    refine zV_iload O dX3_appendHost_31 rfl ?_
    refine zV_lload_n O dX3_appendHost_33 rfl rfl ?_
    obtain ⟨hc, hM⟩ := hM
    refine zV_last O (zN_a1 hN) (zN_lt hN (k := 1) (by decide)) hc dX3_appendHost_34 ?_
    have hM := hM (hu h13 (o + 1) (Int.toNat (h o 0)) x1) rfl
    generalize hu h13 (o + 1) (Int.toNat (h o 0)) x1 = h14 at hM ⊢
    refine zV_aload_n O dX3_appendHost_35 rfl rfl ?_
    refine zV_getR O zf_RX3_15 (zN_o hN) rfl (zN_lt0 hN) dX3_appendHost_36 ?_
    refine zV_iload O dX3_appendHost_39 rfl ?_
    refine zV_iload_n O dX3_appendHost_41 rfl rfl ?_
    obtain ⟨hc, hM⟩ := hM
    refine zV_iast O (zN_a2 hN) (zN_lt hN (k := 2) (by decide)) hc dX3_appendHost_42 ?_
    have hM := hM (hu h14 (o + 2) (Int.toNat (h o 0)) x3) rfl
    generalize hu h14 (o + 2) (Int.toNat (h o 0)) x3 = h15 at hM ⊢
    refine zV_aload_n O dX3_appendHost_43 rfl rfl ?_
    refine zV_getR O zf_RX3_19 (zN_o hN) rfl (zN_lt0 hN) dX3_appendHost_44 ?_
    refine zV_iload O dX3_appendHost_47 rfl ?_
    refine zV_iload O dX3_appendHost_49 rfl ?_
    obtain ⟨hc, hM⟩ := hM
    refine zV_iast O (zN_a3 hN) (zN_lt hN (k := 3) (by decide)) hc dX3_appendHost_51 ?_
    have hM := hM (hu h15 (o + 3) (Int.toNat (h o 0)) x4) rfl
    generalize hu h15 (o + 3) (Int.toNat (h o 0)) x4 = h16 at hM ⊢
    refine zV_aload_n O dX3_appendHost_52 rfl rfl ?_
    refine zV_getR O zf_RX3_22 (zN_o hN) rfl (zN_lt0 hN) dX3_appendHost_53 ?_
    refine zV_iload O dX3_appendHost_56 rfl ?_
    refine zV_iconst (z := 0) O ⟨by omega, by omega⟩ dX3_appendHost_58 ?_
    obtain ⟨hc, hM⟩ := hM
    refine zV_iast O (zN_a4 hN) (zN_lt hN (k := 4) (by decide)) hc dX3_appendHost_59 ?_
    have hM := hM (hu h16 (o + 4) (Int.toNat (h o 0)) 0) rfl
    generalize hu h16 (o + 4) (Int.toNat (h o 0)) 0 = h17 at hM ⊢
    refine zV_aload_n O dX3_appendHost_60 rfl rfl ?_
    refine zV_getR O zf_RX3_25 (zN_o hN) rfl (zN_lt0 hN) dX3_appendHost_61 ?_
    refine zV_iload O dX3_appendHost_64 rfl ?_
    refine zV_iconst (z := 0) O ⟨by omega, by omega⟩ dX3_appendHost_66 ?_
    obtain ⟨hc, hM⟩ := hM
    refine zV_iast O (zN_a5 hN) (zN_lt hN (k := 5) (by decide)) hc dX3_appendHost_67 ?_
    have hM := hM (hu h17 (o + 5) (Int.toNat (h o 0)) 0) rfl
    generalize hu h17 (o + 5) (Int.toNat (h o 0)) 0 = h18 at hM ⊢
    refine zV_aload_n O dX3_appendHost_68 rfl rfl ?_
    refine zV_getR O zf_RX3_28 (zN_o hN) rfl (zN_lt0 hN) dX3_appendHost_69 ?_
    refine zV_iload O dX3_appendHost_72 rfl ?_
    refine zV_iconst (z := 0) O ⟨by omega, by omega⟩ dX3_appendHost_74 ?_
    obtain ⟨hc, hM⟩ := hM
    refine zV_iast O (zN_a6 hN) (zN_lt hN (k := 6) (by decide)) hc dX3_appendHost_75 ?_
    have hM := hM (hu h18 (o + 6) (Int.toNat (h o 0)) 0) rfl
    generalize hu h18 (o + 6) (Int.toNat (h o 0)) 0 = h19 at hM ⊢
    refine zV_aload_n O dX3_appendHost_76 rfl rfl ?_
    refine zV_getR O zf_RX3_31 (zN_o hN) rfl (zN_lt0 hN) dX3_appendHost_77 ?_
    refine zV_iload O dX3_appendHost_80 rfl ?_
    refine zV_iconst (z := 0) O ⟨by omega, by omega⟩ dX3_appendHost_82 ?_
    obtain ⟨hc, hM⟩ := hM
    refine zV_iast O (zN_a7 hN) (zN_lt hN (k := 7) (by decide)) hc dX3_appendHost_83 ?_
    have hM := hM (hu h19 (o + 7) (Int.toNat (h o 0)) 0) rfl
    generalize hu h19 (o + 7) (Int.toNat (h o 0)) 0 = h20 at hM ⊢
    refine zV_iconst (z := 0) O ⟨by omega, by omega⟩ dX3_appendHost_84 ?_
    refine zV_istore O dX3_appendHost_85 (Nat.le_of_ble_eq_true rfl) rfl ?_
    refine zV_sub (ls2 := [some (aR o), none, none, none, none, some (aI (h o 0)), some (aI 0)]) ⟨rfl, rfl, rfl, trivial⟩ ?_
    obtain ⟨ff, hM⟩ := hM
    exact sX3_appendHost_b87 O hN ff _ _ _ hM
  · replace hM := hM.2 hc
    refine zV_iconst (z := -1) O ⟨by omega, by omega⟩ dX3_appendHost_9 ?_
    exact zV_iret O rfl ⟨_, rfl, hM⟩ (Nat.le_of_ble_eq_true rfl) (Nat.le_of_ble_eq_true rfl) dX3_appendHost_10
def mX3_appendRule_b50 (o : Nat) (Q : Int → Hp → Prop) (v3 : Int) (v4 : Int) (v5 : Int) (s0 : Int) (s1 : Int) (h : Hp) : Prop := (((0 : Int) ≤ s1 ∧ s1 < 30) ∧ (∀ h9 : Hp, h9 = wr h (o + 10) s1 s0 → (((0 : Int) ≤ v5 ∧ v5 < 30) ∧ (∀ h10 : Hp, h10 = wr h9 (o + 11) v5 v3 → (((0 : Int) ≤ v5 ∧ v5 < 30) ∧ (∀ h11 : Hp, h11 = wr h10 (o + 12) v5 v4 → (Q v5 h11)))))))
set_option maxHeartbeats 4000000 in
set_option maxRecDepth 100000 in
theorem sX3_appendRule_b50 {l0 : Launch} {a : ZC} {o : Nat} {Q : Int → Hp → Prop}  (O : zOk l0 a cX3_appendRule RX3 6 (some .int) 185 []) (hN : zisN o)  {v3 : Int} {v4 : Int} {v5 : Int} {s0 : Int} {s1 : Int} {h : Hp} (hz_s0 : s0 = 0 ∨ s0 = 1) (hM : mX3_appendRule_b50 o Q v3 v4 v5 s0 s1 h) : zV a (1, 0, 0, (qI Q), xN) 0 0 50 [some (aR o), none, none, some (aI v3), some (aI v4), some (aI v5)] [aI s0, aI s1, aR (o + 10)] h := by
  unfold mX3_appendRule_b50 at hM
  obtain ⟨hc, hM⟩ := hM
  refine zV_iast O (zN_a10 hN) (zN_lt hN (k := 10) (by decide)) hc dX3_appendRule_50 ?_
  have hM := hM (hu h (o + 10) (Int.toNat s1) s0) rfl
  generalize hu h (o + 10) (Int.toNat s1) s0 = h9 at hM ⊢
  refine zV_aload_n O dX3_appendRule_51 rfl rfl ?_
  refine zV_getR O zf_RX3_43 (zN_o hN) rfl (zN_lt0 hN) dX3_appendRule_52 ?_
  refine zV_iload O dX3_appendRule_55 rfl ?_
  refine zV_iload_n O dX3_appendRule_57 rfl rfl ?_
  obtain ⟨hc, hM⟩ := hM
  refine zV_iast O (zN_a11 hN) (zN_lt hN (k := 11) (by decide)) hc dX3_appendRule_58 ?_
  have hM := hM (hu h9 (o + 11) (Int.toNat v5) v3) rfl
  generalize hu h9 (o + 11) (Int.toNat v5) v3 = h10 at hM ⊢
  refine zV_aload_n O dX3_appendRule_59 rfl rfl ?_
  refine zV_getR O zf_RX3_46 (zN_o hN) rfl (zN_lt0 hN) dX3_appendRule_60 ?_
  refine zV_iload O dX3_appendRule_63 rfl ?_
  refine zV_iload O dX3_appendRule_65 rfl ?_
  obtain ⟨hc, hM⟩ := hM
  refine zV_iast O (zN_a12 hN) (zN_lt hN (k := 12) (by decide)) hc dX3_appendRule_67 ?_
  have hM := hM (hu h10 (o + 12) (Int.toNat v5) v4) rfl
  generalize hu h10 (o + 12) (Int.toNat v5) v4 = h11 at hM ⊢
  refine zV_iload O dX3_appendRule_68 rfl ?_
  exact zV_iret O rfl ⟨_, rfl, hM⟩ (Nat.le_of_ble_eq_true rfl) (Nat.le_of_ble_eq_true rfl) dX3_appendRule_70
def mX3_appendRule (o : Nat) (x1 : Int) (x2 : Int) (x3 : Int) (x4 : Int) (h : Hp) (Q : Int → Hp → Prop) : Prop := (((h o 1) < (30 : Int) → (zr ((h o 1) + 1) ∧ (∀ h12 : Hp, h12 = hu h o 1 ((h o 1) + 1) → (((0 : Int) ≤ (h o 1) ∧ (h o 1) < 30) ∧ (∀ h13 : Hp, h13 = wr h12 (o + 9) (h o 1) x1 → ((x2 = 0 → (mX3_appendRule_b50 o Q x3 x4 (h o 1) 0 (h o 1) h13)) ∧ (¬ x2 = 0 → (mX3_appendRule_b50 o Q x3 x4 (h o 1) 1 (h o 1) h13)))))))) ∧ (¬ (h o 1) < (30 : Int) → (Q (-1) h)))
set_option maxHeartbeats 4000000 in
set_option maxRecDepth 100000 in
theorem sX3_appendRule {l0 : Launch} {o : Nat} {x1 : Int} {x2 : Int} {x3 : Int} {x4 : Int} {h : Hp} {Q : Int → Hp → Prop} (hN : zisN o) (hM : mX3_appendRule o x1 x2 x3 x4 h Q) : zSp l0 yX3_appendRule cX3_appendRule 6 (some .int) 185 (1) 0 0 [aR o, aI x1, aI x2, aI x3, aI x4] h (qI Q) xN := by
  unfold mX3_appendRule at hM
  refine zSp_intro zpn_RX3 (Nat.le_of_ble_eq_true rfl) (fun a O => ?_)
  show zV a (1, 0, 0, (qI Q), xN) 0 0 0 [some (aR o), some (aI x1), some (aI x2), some (aI x3), some (aI x4), none] [] h
  refine zV_aload_n O dX3_appendRule_0 rfl rfl ?_
  refine zV_getI O zf_RX3_53 (zN_o hN) rfl (zN_lt0 hN) dX3_appendRule_1 ?_
  refine zV_bipush (z := 30) O ⟨by omega, by omega⟩ rfl dX3_appendRule_4 ?_
  refine zV_icmp_lt (tgt := 11) O dX3_appendRule_6 (by decide) (fun hc => ?_) (fun hc => ?_)
  · replace hM := hM.1 hc
    refine zV_aload_n O dX3_appendRule_11 rfl rfl ?_
    refine zV_getI O zf_RX3_53 (zN_o hN) rfl (zN_lt0 hN) dX3_appendRule_12 ?_
    refine zV_istore O dX3_appendRule_15 (Nat.le_of_ble_eq_true rfl) rfl ?_
    refine zV_aload_n O dX3_appendRule_17 rfl rfl ?_
    refine zV_dup O rfl dX3_appendRule_18 ?_
    refine zV_getI O zf_RX3_53 (zN_o hN) rfl (zN_lt0 hN) dX3_appendRule_19 ?_
    refine zV_iconst (z := 1) O ⟨by omega, by omega⟩ dX3_appendRule_22 ?_
    obtain ⟨hc, hM⟩ := hM
    refine zV_iadd O dX3_appendRule_23 hc ?_
    refine zV_putI O zf_RX3_53 (zN_o hN) rfl (zN_lt0 hN) dX3_appendRule_24 ?_
    have hM := hM _ rfl
    generalize hu h o 1 ((h o 1) + 1) = h12 at hM ⊢
    refine zV_aload_n O dX3_appendRule_27 rfl rfl ?_
    refine zV_getR O zf_RX3_37 (zN_o hN) rfl (zN_lt0 hN) dX3_appendRule_28 ?_
    refine zV_iload O dX3_appendRule_31 rfl ?_
    refine zV_iload_n O dX3_appendRule_33 rfl rfl ?_
    obtain ⟨hc, hM⟩ := hM
    refine zV_iast O (zN_a9 hN) (zN_lt hN (k := 9) (by decide)) hc dX3_appendRule_34 ?_
    have hM := hM (hu h12 (o + 9) (Int.toNat (h o 1)) x1) rfl
    generalize hu h12 (o + 9) (Int.toNat (h o 1)) x1 = h13 at hM ⊢
    refine zV_aload_n O dX3_appendRule_35 rfl rfl ?_
    refine zV_getR O zf_RX3_40 (zN_o hN) rfl (zN_lt0 hN) dX3_appendRule_36 ?_
    refine zV_iload O dX3_appendRule_39 rfl ?_
    refine zV_iload_n O dX3_appendRule_41 rfl rfl ?_
    refine zV_if_eq (tgt := 49) O dX3_appendRule_42 (by decide) (fun hc => ?_) (fun hc => ?_)
    · replace hM := hM.1 hc
      refine zV_iconst (z := 0) O ⟨by omega, by omega⟩ dX3_appendRule_49 ?_
      refine zV_sub (ls2 := [some (aR o), none, none, some (aI x3), some (aI x4), some (aI (h o 1))]) ⟨rfl, rfl, rfl, rfl, trivial⟩ ?_
      exact sX3_appendRule_b50 O hN (Or.inl rfl) hM
    · replace hM := hM.2 hc
      refine zV_iconst (z := 1) O ⟨by omega, by omega⟩ dX3_appendRule_45 ?_
      refine zV_goto (tgt := 50) O dX3_appendRule_46 (by decide) ?_
      refine zV_sub (ls2 := [some (aR o), none, none, some (aI x3), some (aI x4), some (aI (h o 1))]) ⟨rfl, rfl, rfl, rfl, trivial⟩ ?_
      exact sX3_appendRule_b50 O hN (Or.inr rfl) hM
  · replace hM := hM.2 hc
    refine zV_iconst (z := -1) O ⟨by omega, by omega⟩ dX3_appendRule_9 ?_
    exact zV_iret O rfl ⟨_, rfl, hM⟩ (Nat.le_of_ble_eq_true rfl) (Nat.le_of_ble_eq_true rfl) dX3_appendRule_10
def mX3_clear (o : Nat) (h : Hp) (Q : Hp → Prop) : Prop := (∀ h9 : Hp, h9 = hu h o 0 0 → (∀ h10 : Hp, h10 = hu h9 o 1 0 → (∀ h11 : Hp, h11 = hu h10 o 2 0 → (∀ h12 : Hp, h12 = hu h11 o 3 1 → (∀ h13 : Hp, h13 = hu h12 o 4 3 → (∀ h14 : Hp, h14 = hu h13 o 5 200 → (∀ h15 : Hp, h15 = hu h14 o 6 250 → (∀ h16 : Hp, h16 = hu h15 o 7 0 → (Q h16)))))))))
set_option maxHeartbeats 4000000 in
set_option maxRecDepth 100000 in
theorem sX3_clear {l0 : Launch} {o : Nat} {h : Hp} {Q : Hp → Prop} (hN : zisN o) (hM : mX3_clear o h Q) : zSp l0 yX3_clear cX3_clear 1 none 185 (1) 0 0 [aR o] h (qV Q) xN := by
  unfold mX3_clear at hM
  refine zSp_intro zpn_RX3 (Nat.le_of_ble_eq_true rfl) (fun a O => ?_)
  show zV a (1, 0, 0, (qV Q), xN) 0 0 0 [some (aR o)] [] h
  refine zV_aload_n O dX3_clear_0 rfl rfl ?_
  refine zV_iconst (z := 0) O ⟨by omega, by omega⟩ dX3_clear_1 ?_
  refine zV_putI O zf_RX3_49 (zN_o hN) rfl (zN_lt0 hN) dX3_clear_2 ?_
  have hM := hM _ rfl
  generalize hu h o 0 0 = h9 at hM ⊢
  refine zV_aload_n O dX3_clear_5 rfl rfl ?_
  refine zV_iconst (z := 0) O ⟨by omega, by omega⟩ dX3_clear_6 ?_
  refine zV_putI O zf_RX3_53 (zN_o hN) rfl (zN_lt0 hN) dX3_clear_7 ?_
  have hM := hM _ rfl
  generalize hu h9 o 1 0 = h10 at hM ⊢
  refine zV_aload_n O dX3_clear_10 rfl rfl ?_
  refine zV_iconst (z := 0) O ⟨by omega, by omega⟩ dX3_clear_11 ?_
  refine zV_putI O zf_RX3_56 (zN_o hN) rfl (zN_lt0 hN) dX3_clear_12 ?_
  have hM := hM _ rfl
  generalize hu h10 o 2 0 = h11 at hM ⊢
  refine zV_aload_n O dX3_clear_15 rfl rfl ?_
  refine zV_iconst (z := 1) O ⟨by omega, by omega⟩ dX3_clear_16 ?_
  refine zV_putI O zf_RX3_59 (zN_o hN) rfl (zN_lt0 hN) dX3_clear_17 ?_
  have hM := hM _ rfl
  generalize hu h11 o 3 1 = h12 at hM ⊢
  refine zV_aload_n O dX3_clear_20 rfl rfl ?_
  refine zV_iconst (z := 3) O ⟨by omega, by omega⟩ dX3_clear_21 ?_
  refine zV_putI O zf_RX3_62 (zN_o hN) rfl (zN_lt0 hN) dX3_clear_22 ?_
  have hM := hM _ rfl
  generalize hu h12 o 4 3 = h13 at hM ⊢
  refine zV_aload_n O dX3_clear_25 rfl rfl ?_
  refine zV_sipush (z := 200) O ⟨by omega, by omega⟩ rfl dX3_clear_26 ?_
  refine zV_putI O zf_RX3_65 (zN_o hN) rfl (zN_lt0 hN) dX3_clear_29 ?_
  have hM := hM _ rfl
  generalize hu h13 o 5 200 = h14 at hM ⊢
  refine zV_aload_n O dX3_clear_32 rfl rfl ?_
  refine zV_sipush (z := 250) O ⟨by omega, by omega⟩ rfl dX3_clear_33 ?_
  refine zV_putI O zf_RX3_68 (zN_o hN) rfl (zN_lt0 hN) dX3_clear_36 ?_
  have hM := hM _ rfl
  generalize hu h14 o 6 250 = h15 at hM ⊢
  refine zV_aload_n O dX3_clear_39 rfl rfl ?_
  refine zV_iconst (z := 0) O ⟨by omega, by omega⟩ dX3_clear_40 ?_
  refine zV_putZ O zf_RX3_71 (zN_o hN) rfl (zN_lt0 hN) (Or.inl rfl) dX3_clear_41 ?_
  have hM := hM _ rfl
  generalize hu h15 o 7 0 = h16 at hM ⊢
  exact zV_vret O rfl ⟨rfl, hM⟩ (Nat.le_of_ble_eq_true rfl) (Nat.le_of_ble_eq_true rfl) dX3_clear_44
def mX3_hostNamed_b2 (o : Nat) (h : Hp) (Q : Int → Prop) : Nat → Int → Int → Prop
  | 0 => fun _ _ => False
  | fu2 + 1 => fun v1 v3 => (((h o 0) ≤ v3 → (Q (-1))) ∧ (¬ (h o 0) ≤ v3 → (((0 : Int) ≤ v3 ∧ v3 < 40) ∧ ((¬ (zlcmp (rd h (o + 1) v3) v1) = 0 → (zr (v3 + 1) ∧ ((mX3_hostNamed_b2 o h Q fu2) v1 (v3 + 1)))) ∧ ((zlcmp (rd h (o + 1) v3) v1) = 0 → (Q v3))))))
set_option maxHeartbeats 4000000 in
set_option maxRecDepth 100000 in
theorem sX3_hostNamed_b2 {l0 : Launch} {a : ZC} {o : Nat} {h : Hp} {Q : Int → Prop}  (O : zOk l0 a cX3_hostNamed RX3 4 (some .int) 185 []) (hN : zisN o)  : ∀ (ff : Nat) (v1 : Int) (v3 : Int) , mX3_hostNamed_b2 o h Q ff v1 v3 → zV a (1, 0, 0, (qPI h Q), xN) 0 0 2 [some (aR o), some (aL v1), none, some (aI v3)] [] h := by
  intro ff
  induction ff with
  | zero => intro v1 v3 hM; exact hM.elim
  | succ ff ih =>
    have hK2 := ih
    intro v1 v3 hM
    unfold mX3_hostNamed_b2 at hM
    refine zV_iload_n O dX3_hostNamed_2 rfl rfl ?_
    refine zV_aload_n O dX3_hostNamed_3 rfl rfl ?_
    refine zV_getI O zf_RX3_49 (zN_o hN) rfl (zN_lt0 hN) dX3_hostNamed_4 ?_
    refine zV_icmp_ge (tgt := 29) O dX3_hostNamed_7 (by decide) (fun hc => ?_) (fun hc => ?_)
    · replace hM := hM.1 hc
      refine zV_iconst (z := -1) O ⟨by omega, by omega⟩ dX3_hostNamed_29 ?_
      exact zV_iret O rfl ⟨rfl, _, rfl, hM⟩ (Nat.le_of_ble_eq_true rfl) (Nat.le_of_ble_eq_true rfl) dX3_hostNamed_30
    · replace hM := hM.2 hc
      refine zV_aload_n O dX3_hostNamed_10 rfl rfl ?_
      refine zV_getR O zf_RX3_9 (zN_o hN) rfl (zN_lt0 hN) dX3_hostNamed_11 ?_
      refine zV_iload_n O dX3_hostNamed_14 rfl rfl ?_
      obtain ⟨hc, hM⟩ := hM
      refine zV_lald O (zN_a1 hN) (zN_lt hN (k := 1) (by decide)) hc dX3_hostNamed_15 ?_
      refine zV_lload_n O dX3_hostNamed_16 rfl rfl ?_
      refine zV_lcmp O dX3_hostNamed_17 ?_
      refine zV_if_ne (tgt := 23) O dX3_hostNamed_18 (by decide) (fun hc => ?_) (fun hc => ?_)
      · replace hM := hM.1 hc
        obtain ⟨hc, hM⟩ := hM
        refine zV_iinc O dX3_hostNamed_23 rfl (Nat.le_of_ble_eq_true rfl) rfl hc ?_
        refine zV_goto (tgt := 2) O dX3_hostNamed_26 (by decide) ?_
        exact hK2 _ _ hM
      · replace hM := hM.2 hc
        refine zV_iload_n O dX3_hostNamed_21 rfl rfl ?_
        exact zV_iret O rfl ⟨rfl, _, rfl, hM⟩ (Nat.le_of_ble_eq_true rfl) (Nat.le_of_ble_eq_true rfl) dX3_hostNamed_22
def mX3_hostNamed (o : Nat) (x1 : Int) (h : Hp) (Q : Int → Prop) : Prop := (∃ ff, mX3_hostNamed_b2 o h Q ff x1 0)
set_option maxHeartbeats 4000000 in
set_option maxRecDepth 100000 in
theorem sX3_hostNamed {l0 : Launch} {o : Nat} {x1 : Int} {h : Hp} {Q : Int → Prop} (hN : zisN o) (hM : mX3_hostNamed o x1 h Q) : zSp l0 yX3_hostNamed cX3_hostNamed 4 (some .int) 185 (1) 0 0 [aR o, aL x1] h (qPI h Q) xN := by
  unfold mX3_hostNamed at hM
  refine zSp_intro zpn_RX3 (Nat.le_of_ble_eq_true rfl) (fun a O => ?_)
  show zV a (1, 0, 0, (qPI h Q), xN) 0 0 0 [some (aR o), some (aL x1), none, none] [] h
  refine zV_iconst (z := 0) O ⟨by omega, by omega⟩ dX3_hostNamed_0 ?_
  refine zV_istore_n O dX3_hostNamed_1 rfl (Nat.le_of_ble_eq_true rfl) rfl ?_
  obtain ⟨ff, hM⟩ := hM
  exact sX3_hostNamed_b2 O hN ff _ _ hM
def mX3_hostsOfOffice_b28 (o : Nat) (h : Hp) (Q : Int → Prop) (K4 : Int → Int → Int → Prop) (v1 : Int) (v3 : Int) (s0 : Int) (s1 : Int) : Prop := (zr (s1 + s0) ∧ (zr (v3 + 1) ∧ (K4 v1 (s1 + s0) (v3 + 1))))
set_option maxHeartbeats 4000000 in
set_option maxRecDepth 100000 in
theorem sX3_hostsOfOffice_b28 {l0 : Launch} {a : ZC} {o : Nat} {h : Hp} {Q : Int → Prop} {K4 : Int → Int → Int → Prop} (O : zOk l0 a cX3_hostsOfOffice RX3 4 (some .int) 185 []) (hN : zisN o) (hK4 : ∀ (v1 : Int) (v2 : Int) (v3 : Int), K4 v1 v2 v3 → zV a (1, 0, 0, (qPI h Q), xN) 0 0 4 [some (aR o), some (aI v1), some (aI v2), some (aI v3)] [] h) {v1 : Int} {v3 : Int} {s0 : Int} {s1 : Int}  (hz_s0 : s0 = 0 ∨ s0 = 1) (hM : mX3_hostsOfOffice_b28 o h Q K4 v1 v3 s0 s1) : zV a (1, 0, 0, (qPI h Q), xN) 0 0 28 [some (aR o), some (aI v1), none, some (aI v3)] [aI s0, aI s1] h := by
  unfold mX3_hostsOfOffice_b28 at hM
  obtain ⟨hc, hM⟩ := hM
  refine zV_iadd O dX3_hostsOfOffice_28 hc ?_
  refine zV_istore_n O dX3_hostsOfOffice_29 rfl (Nat.le_of_ble_eq_true rfl) rfl ?_
  obtain ⟨hc, hM⟩ := hM
  refine zV_iinc O dX3_hostsOfOffice_30 rfl (Nat.le_of_ble_eq_true rfl) rfl hc ?_
  refine zV_goto (tgt := 4) O dX3_hostsOfOffice_33 (by decide) ?_
  exact hK4 _ _ _ hM
def mX3_hostsOfOffice_b4 (o : Nat) (h : Hp) (Q : Int → Prop) : Nat → Int → Int → Int → Prop
  | 0 => fun _ _ _ => False
  | fu4 + 1 => fun v1 v2 v3 => (((h o 0) ≤ v3 → (Q v2)) ∧ (¬ (h o 0) ≤ v3 → (((0 : Int) ≤ v3 ∧ v3 < 40) ∧ ((¬ (rd h (o + 2) v3) = v1 → (mX3_hostsOfOffice_b28 o h Q (mX3_hostsOfOffice_b4 o h Q fu4) v1 v3 0 v2)) ∧ ((rd h (o + 2) v3) = v1 → (mX3_hostsOfOffice_b28 o h Q (mX3_hostsOfOffice_b4 o h Q fu4) v1 v3 1 v2))))))
set_option maxHeartbeats 4000000 in
set_option maxRecDepth 100000 in
theorem sX3_hostsOfOffice_b4 {l0 : Launch} {a : ZC} {o : Nat} {h : Hp} {Q : Int → Prop}  (O : zOk l0 a cX3_hostsOfOffice RX3 4 (some .int) 185 []) (hN : zisN o)  : ∀ (ff : Nat) (v1 : Int) (v2 : Int) (v3 : Int) , mX3_hostsOfOffice_b4 o h Q ff v1 v2 v3 → zV a (1, 0, 0, (qPI h Q), xN) 0 0 4 [some (aR o), some (aI v1), some (aI v2), some (aI v3)] [] h := by
  intro ff
  induction ff with
  | zero => intro v1 v2 v3 hM; exact hM.elim
  | succ ff ih =>
    have hK4 := ih
    intro v1 v2 v3 hM
    unfold mX3_hostsOfOffice_b4 at hM
    refine zV_iload_n O dX3_hostsOfOffice_4 rfl rfl ?_
    refine zV_aload_n O dX3_hostsOfOffice_5 rfl rfl ?_
    refine zV_getI O zf_RX3_49 (zN_o hN) rfl (zN_lt0 hN) dX3_hostsOfOffice_6 ?_
    refine zV_icmp_ge (tgt := 36) O dX3_hostsOfOffice_9 (by decide) (fun hc => ?_) (fun hc => ?_)
    · replace hM := hM.1 hc
      refine zV_iload_n O dX3_hostsOfOffice_36 rfl rfl ?_
      exact zV_iret O rfl ⟨rfl, _, rfl, hM⟩ (Nat.le_of_ble_eq_true rfl) (Nat.le_of_ble_eq_true rfl) dX3_hostsOfOffice_37
    · replace hM := hM.2 hc
      refine zV_iload_n O dX3_hostsOfOffice_12 rfl rfl ?_
      refine zV_aload_n O dX3_hostsOfOffice_13 rfl rfl ?_
      refine zV_getR O zf_RX3_15 (zN_o hN) rfl (zN_lt0 hN) dX3_hostsOfOffice_14 ?_
      refine zV_iload_n O dX3_hostsOfOffice_17 rfl rfl ?_
      obtain ⟨hc, hM⟩ := hM
      refine zV_iald O (zN_a2 hN) (zN_lt hN (k := 2) (by decide)) hc dX3_hostsOfOffice_18 ?_
      refine zV_iload_n O dX3_hostsOfOffice_19 rfl rfl ?_
      refine zV_icmp_ne (tgt := 27) O dX3_hostsOfOffice_20 (by decide) (fun hc => ?_) (fun hc => ?_)
      · replace hM := hM.1 hc
        refine zV_iconst (z := 0) O ⟨by omega, by omega⟩ dX3_hostsOfOffice_27 ?_
        refine zV_sub (ls2 := [some (aR o), some (aI v1), none, some (aI v3)]) ⟨rfl, rfl, rfl, trivial⟩ ?_
        exact sX3_hostsOfOffice_b28 O hN hK4 (Or.inl rfl) hM
      · replace hM := hM.2 hc
        refine zV_iconst (z := 1) O ⟨by omega, by omega⟩ dX3_hostsOfOffice_23 ?_
        refine zV_goto (tgt := 28) O dX3_hostsOfOffice_24 (by decide) ?_
        refine zV_sub (ls2 := [some (aR o), some (aI v1), none, some (aI v3)]) ⟨rfl, rfl, rfl, trivial⟩ ?_
        exact sX3_hostsOfOffice_b28 O hN hK4 (Or.inr rfl) hM
def mX3_hostsOfOffice (o : Nat) (x1 : Int) (h : Hp) (Q : Int → Prop) : Prop := (∃ ff, mX3_hostsOfOffice_b4 o h Q ff x1 0 0)
set_option maxHeartbeats 4000000 in
set_option maxRecDepth 100000 in
theorem sX3_hostsOfOffice {l0 : Launch} {o : Nat} {x1 : Int} {h : Hp} {Q : Int → Prop} (hN : zisN o) (hM : mX3_hostsOfOffice o x1 h Q) : zSp l0 yX3_hostsOfOffice cX3_hostsOfOffice 4 (some .int) 185 (1) 0 0 [aR o, aI x1] h (qPI h Q) xN := by
  unfold mX3_hostsOfOffice at hM
  refine zSp_intro zpn_RX3 (Nat.le_of_ble_eq_true rfl) (fun a O => ?_)
  show zV a (1, 0, 0, (qPI h Q), xN) 0 0 0 [some (aR o), some (aI x1), none, none] [] h
  refine zV_iconst (z := 0) O ⟨by omega, by omega⟩ dX3_hostsOfOffice_0 ?_
  refine zV_istore_n O dX3_hostsOfOffice_1 rfl (Nat.le_of_ble_eq_true rfl) rfl ?_
  refine zV_iconst (z := 0) O ⟨by omega, by omega⟩ dX3_hostsOfOffice_2 ?_
  refine zV_istore_n O dX3_hostsOfOffice_3 rfl (Nat.le_of_ble_eq_true rfl) rfl ?_
  obtain ⟨ff, hM⟩ := hM
  exact sX3_hostsOfOffice_b4 O hN ff _ _ _ hM
def mX3_inNet (o : Nat) (x1 : Int) (x2 : Int) (h : Hp) (Q : Int → Prop) : Prop := ((¬ (h o 7) = 0 → (Q 1)) ∧ ((h o 7) = 0 → ((¬ x1 = x2 → (Q 0)) ∧ (x1 = x2 → (Q 1)))))
set_option maxHeartbeats 4000000 in
set_option maxRecDepth 100000 in
theorem sX3_inNet {l0 : Launch} {o : Nat} {x1 : Int} {x2 : Int} {h : Hp} {Q : Int → Prop} (hN : zisN o) (hM : mX3_inNet o x1 x2 h Q) : zSp l0 yX3_inNet cX3_inNet 3 (some .boolean) 185 (1) 0 0 [aR o, aI x1, aI x2] h (qPZ h Q) xN := by
  unfold mX3_inNet at hM
  refine zSp_intro zpn_RX3 (Nat.le_of_ble_eq_true rfl) (fun a O => ?_)
  show zV a (1, 0, 0, (qPZ h Q), xN) 0 0 0 [some (aR o), some (aI x1), some (aI x2)] [] h
  refine zV_aload_n O dX3_inNet_0 rfl rfl ?_
  refine zV_getZ O zf_RX3_71 (zN_o hN) rfl (zN_lt0 hN) dX3_inNet_1 (fun hz2 => ?_)
  refine zV_if_ne (tgt := 12) O dX3_inNet_4 (by decide) (fun hc => ?_) (fun hc => ?_)
  · replace hM := hM.1 hc
    refine zV_iconst (z := 1) O ⟨by omega, by omega⟩ dX3_inNet_12 ?_
    refine zV_goto (tgt := 17) O dX3_inNet_13 (by decide) ?_
    exact zV_zret O rfl (Or.inr rfl) ⟨rfl, _, rfl, (Or.inr rfl), hM⟩ (Nat.le_of_ble_eq_true rfl) (Nat.le_of_ble_eq_true rfl) dX3_inNet_17
  · replace hM := hM.2 hc
    refine zV_iload_n O dX3_inNet_7 rfl rfl ?_
    refine zV_iload_n O dX3_inNet_8 rfl rfl ?_
    refine zV_icmp_ne (tgt := 16) O dX3_inNet_9 (by decide) (fun hc => ?_) (fun hc => ?_)
    · replace hM := hM.1 hc
      refine zV_iconst (z := 0) O ⟨by omega, by omega⟩ dX3_inNet_16 ?_
      exact zV_zret O rfl (Or.inl rfl) ⟨rfl, _, rfl, (Or.inl rfl), hM⟩ (Nat.le_of_ble_eq_true rfl) (Nat.le_of_ble_eq_true rfl) dX3_inNet_17
    · replace hM := hM.2 hc
      refine zV_iconst (z := 1) O ⟨by omega, by omega⟩ dX3_inNet_12 ?_
      refine zV_goto (tgt := 17) O dX3_inNet_13 (by decide) ?_
      exact zV_zret O rfl (Or.inr rfl) ⟨rfl, _, rfl, (Or.inr rfl), hM⟩ (Nat.le_of_ble_eq_true rfl) (Nat.le_of_ble_eq_true rfl) dX3_inNet_17
def mX3_keepsAt (o : Nat) (x1 : Int) (x2 : Int) (h : Hp) (Q : Int → Prop) : Prop := (((0 : Int) ≤ x1 ∧ x1 < 40) ∧ (((rd h (o + 7) x1) ≤ 0 → (Q 0)) ∧ (¬ (rd h (o + 7) x1) ≤ 0 → (zr ((rd h (o + 7) x1) + (h o 3)) ∧ ((((rd h (o + 7) x1) + (h o 3)) ≤ x2 → (Q 0)) ∧ (¬ ((rd h (o + 7) x1) + (h o 3)) ≤ x2 → (Q 1)))))))
set_option maxHeartbeats 4000000 in
set_option maxRecDepth 100000 in
theorem sX3_keepsAt {l0 : Launch} {o : Nat} {x1 : Int} {x2 : Int} {h : Hp} {Q : Int → Prop} (hN : zisN o) (hM : mX3_keepsAt o x1 x2 h Q) : zSp l0 yX3_keepsAt cX3_keepsAt 4 (some .boolean) 185 (1) 0 0 [aR o, aI x1, aI x2] h (qPZ h Q) xN := by
  unfold mX3_keepsAt at hM
  refine zSp_intro zpn_RX3 (Nat.le_of_ble_eq_true rfl) (fun a O => ?_)
  show zV a (1, 0, 0, (qPZ h Q), xN) 0 0 0 [some (aR o), some (aI x1), some (aI x2), none] [] h
  refine zV_aload_n O dX3_keepsAt_0 rfl rfl ?_
  refine zV_getR O zf_RX3_31 (zN_o hN) rfl (zN_lt0 hN) dX3_keepsAt_1 ?_
  refine zV_iload_n O dX3_keepsAt_4 rfl rfl ?_
  obtain ⟨hc, hM⟩ := hM
  refine zV_iald O (zN_a7 hN) (zN_lt hN (k := 7) (by decide)) hc dX3_keepsAt_5 ?_
  refine zV_istore_n O dX3_keepsAt_6 rfl (Nat.le_of_ble_eq_true rfl) rfl ?_
  refine zV_iload_n O dX3_keepsAt_7 rfl rfl ?_
  refine zV_if_le (tgt := 25) O dX3_keepsAt_8 (by decide) (fun hc => ?_) (fun hc => ?_)
  · replace hM := hM.1 hc
    refine zV_iconst (z := 0) O ⟨by omega, by omega⟩ dX3_keepsAt_25 ?_
    exact zV_zret O rfl (Or.inl rfl) ⟨rfl, _, rfl, (Or.inl rfl), hM⟩ (Nat.le_of_ble_eq_true rfl) (Nat.le_of_ble_eq_true rfl) dX3_keepsAt_26
  · replace hM := hM.2 hc
    refine zV_iload_n O dX3_keepsAt_11 rfl rfl ?_
    refine zV_iload_n O dX3_keepsAt_12 rfl rfl ?_
    refine zV_aload_n O dX3_keepsAt_13 rfl rfl ?_
    refine zV_getI O zf_RX3_59 (zN_o hN) rfl (zN_lt0 hN) dX3_keepsAt_14 ?_
    obtain ⟨hc, hM⟩ := hM
    refine zV_iadd O dX3_keepsAt_17 hc ?_
    refine zV_icmp_ge (tgt := 25) O dX3_keepsAt_18 (by decide) (fun hc => ?_) (fun hc => ?_)
    · replace hM := hM.1 hc
      refine zV_iconst (z := 0) O ⟨by omega, by omega⟩ dX3_keepsAt_25 ?_
      exact zV_zret O rfl (Or.inl rfl) ⟨rfl, _, rfl, (Or.inl rfl), hM⟩ (Nat.le_of_ble_eq_true rfl) (Nat.le_of_ble_eq_true rfl) dX3_keepsAt_26
    · replace hM := hM.2 hc
      refine zV_iconst (z := 1) O ⟨by omega, by omega⟩ dX3_keepsAt_21 ?_
      refine zV_goto (tgt := 26) O dX3_keepsAt_22 (by decide) ?_
      exact zV_zret O rfl (Or.inr rfl) ⟨rfl, _, rfl, (Or.inr rfl), hM⟩ (Nat.le_of_ble_eq_true rfl) (Nat.le_of_ble_eq_true rfl) dX3_keepsAt_26
def mX3_movableWith_b41 (o : Nat) (h : Hp) (Q : Int → Prop) (K2 : Int → Int → Int → Prop) (v1 : Int) (v2 : Int) (v3 : Int) : Prop := (zr (v3 + 1) ∧ (K2 v1 v2 (v3 + 1)))
set_option maxHeartbeats 4000000 in
set_option maxRecDepth 100000 in
theorem sX3_movableWith_b41 {l0 : Launch} {a : ZC} {o : Nat} {h : Hp} {Q : Int → Prop} {K2 : Int → Int → Int → Prop} (O : zOk l0 a cX3_movableWith RX3 4 (some .int) 185 []) (hN : zisN o) (hK2 : ∀ (v1 : Int) (v2 : Int) (v3 : Int), K2 v1 v2 v3 → zV a (1, 0, 0, (qPI h Q), xN) 0 0 2 [some (aR o), some (aI v1), some (aI v2), some (aI v3)] [] h) {v1 : Int} {v2 : Int} {v3 : Int}   (hM : mX3_movableWith_b41 o h Q K2 v1 v2 v3) : zV a (1, 0, 0, (qPI h Q), xN) 0 0 41 [some (aR o), some (aI v1), some (aI v2), some (aI v3)] [] h := by
  unfold mX3_movableWith_b41 at hM
  obtain ⟨hc, hM⟩ := hM
  refine zV_iinc O dX3_movableWith_41 rfl (Nat.le_of_ble_eq_true rfl) rfl hc ?_
  refine zV_goto (tgt := 2) O dX3_movableWith_44 (by decide) ?_
  exact hK2 _ _ _ hM
def mX3_movableWith_b2 (o : Nat) (h : Hp) (Q : Int → Prop) : Nat → Int → Int → Int → Prop
  | 0 => fun _ _ _ => False
  | fu2 + 1 => fun v1 v2 v3 => (((h o 0) ≤ v3 → (Q (-1))) ∧ (¬ (h o 0) ≤ v3 → (((0 : Int) ≤ v3 ∧ v3 < 40) ∧ ((¬ (rd h (o + 2) v3) = v1 → (mX3_movableWith_b41 o h Q (mX3_movableWith_b2 o h Q fu2) v1 v2 v3)) ∧ ((rd h (o + 2) v3) = v1 → (((0 : Int) ≤ v3 ∧ v3 < 40) ∧ ((¬ (rd h (o + 3) v3) = v2 → (mX3_movableWith_b41 o h Q (mX3_movableWith_b2 o h Q fu2) v1 v2 v3)) ∧ ((rd h (o + 3) v3) = v2 → (((0 : Int) ≤ v3 ∧ v3 < 40) ∧ ((¬ (rd h (o + 4) v3) = 0 → (mX3_movableWith_b41 o h Q (mX3_movableWith_b2 o h Q fu2) v1 v2 v3)) ∧ ((rd h (o + 4) v3) = 0 → (Q v3))))))))))))
set_option maxHeartbeats 4000000 in
set_option maxRecDepth 100000 in
theorem sX3_movableWith_b2 {l0 : Launch} {a : ZC} {o : Nat} {h : Hp} {Q : Int → Prop}  (O : zOk l0 a cX3_movableWith RX3 4 (some .int) 185 []) (hN : zisN o)  : ∀ (ff : Nat) (v1 : Int) (v2 : Int) (v3 : Int) , mX3_movableWith_b2 o h Q ff v1 v2 v3 → zV a (1, 0, 0, (qPI h Q), xN) 0 0 2 [some (aR o), some (aI v1), some (aI v2), some (aI v3)] [] h := by
  intro ff
  induction ff with
  | zero => intro v1 v2 v3 hM; exact hM.elim
  | succ ff ih =>
    have hK2 := ih
    intro v1 v2 v3 hM
    unfold mX3_movableWith_b2 at hM
    refine zV_iload_n O dX3_movableWith_2 rfl rfl ?_
    refine zV_aload_n O dX3_movableWith_3 rfl rfl ?_
    refine zV_getI O zf_RX3_49 (zN_o hN) rfl (zN_lt0 hN) dX3_movableWith_4 ?_
    refine zV_icmp_ge (tgt := 47) O dX3_movableWith_7 (by decide) (fun hc => ?_) (fun hc => ?_)
    · replace hM := hM.1 hc
      refine zV_iconst (z := -1) O ⟨by omega, by omega⟩ dX3_movableWith_47 ?_
      exact zV_iret O rfl ⟨rfl, _, rfl, hM⟩ (Nat.le_of_ble_eq_true rfl) (Nat.le_of_ble_eq_true rfl) dX3_movableWith_48
    · replace hM := hM.2 hc
      refine zV_aload_n O dX3_movableWith_10 rfl rfl ?_
      refine zV_getR O zf_RX3_15 (zN_o hN) rfl (zN_lt0 hN) dX3_movableWith_11 ?_
      refine zV_iload_n O dX3_movableWith_14 rfl rfl ?_
      obtain ⟨hc, hM⟩ := hM
      refine zV_iald O (zN_a2 hN) (zN_lt hN (k := 2) (by decide)) hc dX3_movableWith_15 ?_
      refine zV_iload_n O dX3_movableWith_16 rfl rfl ?_
      refine zV_icmp_ne (tgt := 41) O dX3_movableWith_17 (by decide) (fun hc => ?_) (fun hc => ?_)
      · replace hM := hM.1 hc
        exact sX3_movableWith_b41 O hN hK2 hM
      · replace hM := hM.2 hc
        refine zV_aload_n O dX3_movableWith_20 rfl rfl ?_
        refine zV_getR O zf_RX3_19 (zN_o hN) rfl (zN_lt0 hN) dX3_movableWith_21 ?_
        refine zV_iload_n O dX3_movableWith_24 rfl rfl ?_
        obtain ⟨hc, hM⟩ := hM
        refine zV_iald O (zN_a3 hN) (zN_lt hN (k := 3) (by decide)) hc dX3_movableWith_25 ?_
        refine zV_iload_n O dX3_movableWith_26 rfl rfl ?_
        refine zV_icmp_ne (tgt := 41) O dX3_movableWith_27 (by decide) (fun hc => ?_) (fun hc => ?_)
        · replace hM := hM.1 hc
          exact sX3_movableWith_b41 O hN hK2 hM
        · replace hM := hM.2 hc
          refine zV_aload_n O dX3_movableWith_30 rfl rfl ?_
          refine zV_getR O zf_RX3_22 (zN_o hN) rfl (zN_lt0 hN) dX3_movableWith_31 ?_
          refine zV_iload_n O dX3_movableWith_34 rfl rfl ?_
          obtain ⟨hc, hM⟩ := hM
          refine zV_iald O (zN_a4 hN) (zN_lt hN (k := 4) (by decide)) hc dX3_movableWith_35 ?_
          refine zV_if_ne (tgt := 41) O dX3_movableWith_36 (by decide) (fun hc => ?_) (fun hc => ?_)
          · replace hM := hM.1 hc
            exact sX3_movableWith_b41 O hN hK2 hM
          · replace hM := hM.2 hc
            refine zV_iload_n O dX3_movableWith_39 rfl rfl ?_
            exact zV_iret O rfl ⟨rfl, _, rfl, hM⟩ (Nat.le_of_ble_eq_true rfl) (Nat.le_of_ble_eq_true rfl) dX3_movableWith_40
def mX3_movableWith (o : Nat) (x1 : Int) (x2 : Int) (h : Hp) (Q : Int → Prop) : Prop := (∃ ff, mX3_movableWith_b2 o h Q ff x1 x2 0)
set_option maxHeartbeats 4000000 in
set_option maxRecDepth 100000 in
theorem sX3_movableWith {l0 : Launch} {o : Nat} {x1 : Int} {x2 : Int} {h : Hp} {Q : Int → Prop} (hN : zisN o) (hM : mX3_movableWith o x1 x2 h Q) : zSp l0 yX3_movableWith cX3_movableWith 4 (some .int) 185 (1) 0 0 [aR o, aI x1, aI x2] h (qPI h Q) xN := by
  unfold mX3_movableWith at hM
  refine zSp_intro zpn_RX3 (Nat.le_of_ble_eq_true rfl) (fun a O => ?_)
  show zV a (1, 0, 0, (qPI h Q), xN) 0 0 0 [some (aR o), some (aI x1), some (aI x2), none] [] h
  refine zV_iconst (z := 0) O ⟨by omega, by omega⟩ dX3_movableWith_0 ?_
  refine zV_istore_n O dX3_movableWith_1 rfl (Nat.le_of_ble_eq_true rfl) rfl ?_
  obtain ⟨ff, hM⟩ := hM
  exact sX3_movableWith_b2 O hN ff _ _ _ hM
def mX3_numberAhead (o : Nat) (x1 : Int) (x2 : Int) (h : Hp) (Q : Int → Prop) : Prop := ((x1 < 0 → (Q 0)) ∧ (¬ x1 < 0 → (((h o 0) ≤ x1 → (Q 0)) ∧ (¬ (h o 0) ≤ x1 → ((x2 < 0 → (Q 0)) ∧ (¬ x2 < 0 → (((10 : Int) ≤ x2 → (Q 0)) ∧ (¬ (10 : Int) ≤ x2 → (zr (x1 * 10) ∧ (zr ((x1 * 10) + x2) ∧ (((0 : Int) ≤ ((x1 * 10) + x2) ∧ ((x1 * 10) + x2) < 400) ∧ (Q (rd h (o + 8) ((x1 * 10) + x2))))))))))))))
set_option maxHeartbeats 4000000 in
set_option maxRecDepth 100000 in
theorem sX3_numberAhead {l0 : Launch} {o : Nat} {x1 : Int} {x2 : Int} {h : Hp} {Q : Int → Prop} (hN : zisN o) (hM : mX3_numberAhead o x1 x2 h Q) : zSp l0 yX3_numberAhead cX3_numberAhead 3 (some .int) 185 (1) 0 0 [aR o, aI x1, aI x2] h (qPI h Q) xN := by
  unfold mX3_numberAhead at hM
  refine zSp_intro zpn_RX3 (Nat.le_of_ble_eq_true rfl) (fun a O => ?_)
  show zV a (1, 0, 0, (qPI h Q), xN) 0 0 0 [some (aR o), some (aI x1), some (aI x2)] [] h
  refine zV_iload_n O dX3_numberAhead_0 rfl rfl ?_
  refine zV_if_lt (tgt := 36) O dX3_numberAhead_1 (by decide) (fun hc => ?_) (fun hc => ?_)
  · replace hM := hM.1 hc
    refine zV_iconst (z := 0) O ⟨by omega, by omega⟩ dX3_numberAhead_36 ?_
    exact zV_iret O rfl ⟨rfl, _, rfl, hM⟩ (Nat.le_of_ble_eq_true rfl) (Nat.le_of_ble_eq_true rfl) dX3_numberAhead_37
  · replace hM := hM.2 hc
    refine zV_iload_n O dX3_numberAhead_4 rfl rfl ?_
    refine zV_aload_n O dX3_numberAhead_5 rfl rfl ?_
    refine zV_getI O zf_RX3_49 (zN_o hN) rfl (zN_lt0 hN) dX3_numberAhead_6 ?_
    refine zV_icmp_ge (tgt := 36) O dX3_numberAhead_9 (by decide) (fun hc => ?_) (fun hc => ?_)
    · replace hM := hM.1 hc
      refine zV_iconst (z := 0) O ⟨by omega, by omega⟩ dX3_numberAhead_36 ?_
      exact zV_iret O rfl ⟨rfl, _, rfl, hM⟩ (Nat.le_of_ble_eq_true rfl) (Nat.le_of_ble_eq_true rfl) dX3_numberAhead_37
    · replace hM := hM.2 hc
      refine zV_iload_n O dX3_numberAhead_12 rfl rfl ?_
      refine zV_if_lt (tgt := 36) O dX3_numberAhead_13 (by decide) (fun hc => ?_) (fun hc => ?_)
      · replace hM := hM.1 hc
        refine zV_iconst (z := 0) O ⟨by omega, by omega⟩ dX3_numberAhead_36 ?_
        exact zV_iret O rfl ⟨rfl, _, rfl, hM⟩ (Nat.le_of_ble_eq_true rfl) (Nat.le_of_ble_eq_true rfl) dX3_numberAhead_37
      · replace hM := hM.2 hc
        refine zV_iload_n O dX3_numberAhead_16 rfl rfl ?_
        refine zV_bipush (z := 10) O ⟨by omega, by omega⟩ rfl dX3_numberAhead_17 ?_
        refine zV_icmp_ge (tgt := 36) O dX3_numberAhead_19 (by decide) (fun hc => ?_) (fun hc => ?_)
        · replace hM := hM.1 hc
          refine zV_iconst (z := 0) O ⟨by omega, by omega⟩ dX3_numberAhead_36 ?_
          exact zV_iret O rfl ⟨rfl, _, rfl, hM⟩ (Nat.le_of_ble_eq_true rfl) (Nat.le_of_ble_eq_true rfl) dX3_numberAhead_37
        · replace hM := hM.2 hc
          refine zV_aload_n O dX3_numberAhead_22 rfl rfl ?_
          refine zV_getR O zf_RX3_34 (zN_o hN) rfl (zN_lt0 hN) dX3_numberAhead_23 ?_
          refine zV_iload_n O dX3_numberAhead_26 rfl rfl ?_
          refine zV_bipush (z := 10) O ⟨by omega, by omega⟩ rfl dX3_numberAhead_27 ?_
          obtain ⟨hc, hM⟩ := hM
          refine zV_imul O dX3_numberAhead_29 hc ?_
          refine zV_iload_n O dX3_numberAhead_30 rfl rfl ?_
          obtain ⟨hc, hM⟩ := hM
          refine zV_iadd O dX3_numberAhead_31 hc ?_
          obtain ⟨hc, hM⟩ := hM
          refine zV_iald O (zN_a8 hN) (zN_lt hN (k := 8) (by decide)) hc dX3_numberAhead_32 ?_
          refine zV_goto (tgt := 37) O dX3_numberAhead_33 (by decide) ?_
          exact zV_iret O rfl ⟨rfl, _, rfl, hM⟩ (Nat.le_of_ble_eq_true rfl) (Nat.le_of_ble_eq_true rfl) dX3_numberAhead_37
def mX3_planCount_b27 (o : Nat) (h : Hp) (Q : Int → Prop) (K4 : Int → Int → Prop) (v2 : Int) (s0 : Int) (s1 : Int) : Prop := (zr (s1 + s0) ∧ (zr (v2 + 1) ∧ (K4 (s1 + s0) (v2 + 1))))
set_option maxHeartbeats 4000000 in
set_option maxRecDepth 100000 in
theorem sX3_planCount_b27 {l0 : Launch} {a : ZC} {o : Nat} {h : Hp} {Q : Int → Prop} {K4 : Int → Int → Prop} (O : zOk l0 a cX3_planCount RX3 3 (some .int) 185 []) (hN : zisN o) (hK4 : ∀ (v1 : Int) (v2 : Int), K4 v1 v2 → zV a (1, 0, 0, (qPI h Q), xN) 0 0 4 [some (aR o), some (aI v1), some (aI v2)] [] h) {v2 : Int} {s0 : Int} {s1 : Int}  (hz_s0 : s0 = 0 ∨ s0 = 1) (hM : mX3_planCount_b27 o h Q K4 v2 s0 s1) : zV a (1, 0, 0, (qPI h Q), xN) 0 0 27 [some (aR o), none, some (aI v2)] [aI s0, aI s1] h := by
  unfold mX3_planCount_b27 at hM
  obtain ⟨hc, hM⟩ := hM
  refine zV_iadd O dX3_planCount_27 hc ?_
  refine zV_istore_n O dX3_planCount_28 rfl (Nat.le_of_ble_eq_true rfl) rfl ?_
  obtain ⟨hc, hM⟩ := hM
  refine zV_iinc O dX3_planCount_29 rfl (Nat.le_of_ble_eq_true rfl) rfl hc ?_
  refine zV_goto (tgt := 4) O dX3_planCount_32 (by decide) ?_
  exact hK4 _ _ hM
def mX3_planCount_b4 (o : Nat) (h : Hp) (Q : Int → Prop) : Nat → Int → Int → Prop
  | 0 => fun _ _ => False
  | fu4 + 1 => fun v1 v2 => (((h o 0) ≤ v2 → (Q v1)) ∧ (¬ (h o 0) ≤ v2 → (((0 : Int) ≤ v2 ∧ v2 < 40) ∧ (((rd h (o + 6) v2) = 0 → (mX3_planCount_b27 o h Q (mX3_planCount_b4 o h Q fu4) v2 0 v1)) ∧ (¬ (rd h (o + 6) v2) = 0 → (mX3_planCount_b27 o h Q (mX3_planCount_b4 o h Q fu4) v2 1 v1))))))
set_option maxHeartbeats 4000000 in
set_option maxRecDepth 100000 in
theorem sX3_planCount_b4 {l0 : Launch} {a : ZC} {o : Nat} {h : Hp} {Q : Int → Prop}  (O : zOk l0 a cX3_planCount RX3 3 (some .int) 185 []) (hN : zisN o)  : ∀ (ff : Nat) (v1 : Int) (v2 : Int) , mX3_planCount_b4 o h Q ff v1 v2 → zV a (1, 0, 0, (qPI h Q), xN) 0 0 4 [some (aR o), some (aI v1), some (aI v2)] [] h := by
  intro ff
  induction ff with
  | zero => intro v1 v2 hM; exact hM.elim
  | succ ff ih =>
    have hK4 := ih
    intro v1 v2 hM
    unfold mX3_planCount_b4 at hM
    refine zV_iload_n O dX3_planCount_4 rfl rfl ?_
    refine zV_aload_n O dX3_planCount_5 rfl rfl ?_
    refine zV_getI O zf_RX3_49 (zN_o hN) rfl (zN_lt0 hN) dX3_planCount_6 ?_
    refine zV_icmp_ge (tgt := 35) O dX3_planCount_9 (by decide) (fun hc => ?_) (fun hc => ?_)
    · replace hM := hM.1 hc
      refine zV_iload_n O dX3_planCount_35 rfl rfl ?_
      exact zV_iret O rfl ⟨rfl, _, rfl, hM⟩ (Nat.le_of_ble_eq_true rfl) (Nat.le_of_ble_eq_true rfl) dX3_planCount_36
    · replace hM := hM.2 hc
      refine zV_iload_n O dX3_planCount_12 rfl rfl ?_
      refine zV_aload_n O dX3_planCount_13 rfl rfl ?_
      refine zV_getR O zf_RX3_28 (zN_o hN) rfl (zN_lt0 hN) dX3_planCount_14 ?_
      refine zV_iload_n O dX3_planCount_17 rfl rfl ?_
      obtain ⟨hc, hM⟩ := hM
      refine zV_iald O (zN_a6 hN) (zN_lt hN (k := 6) (by decide)) hc dX3_planCount_18 ?_
      refine zV_if_eq (tgt := 26) O dX3_planCount_19 (by decide) (fun hc => ?_) (fun hc => ?_)
      · replace hM := hM.1 hc
        refine zV_iconst (z := 0) O ⟨by omega, by omega⟩ dX3_planCount_26 ?_
        refine zV_sub (ls2 := [some (aR o), none, some (aI v2)]) ⟨rfl, rfl, trivial⟩ ?_
        exact sX3_planCount_b27 O hN hK4 (Or.inl rfl) hM
      · replace hM := hM.2 hc
        refine zV_iconst (z := 1) O ⟨by omega, by omega⟩ dX3_planCount_22 ?_
        refine zV_goto (tgt := 27) O dX3_planCount_23 (by decide) ?_
        refine zV_sub (ls2 := [some (aR o), none, some (aI v2)]) ⟨rfl, rfl, trivial⟩ ?_
        exact sX3_planCount_b27 O hN hK4 (Or.inr rfl) hM
def mX3_planCount (o : Nat) (h : Hp) (Q : Int → Prop) : Prop := (∃ ff, mX3_planCount_b4 o h Q ff 0 0)
set_option maxHeartbeats 4000000 in
set_option maxRecDepth 100000 in
theorem sX3_planCount {l0 : Launch} {o : Nat} {h : Hp} {Q : Int → Prop} (hN : zisN o) (hM : mX3_planCount o h Q) : zSp l0 yX3_planCount cX3_planCount 3 (some .int) 185 (1) 0 0 [aR o] h (qPI h Q) xN := by
  unfold mX3_planCount at hM
  refine zSp_intro zpn_RX3 (Nat.le_of_ble_eq_true rfl) (fun a O => ?_)
  show zV a (1, 0, 0, (qPI h Q), xN) 0 0 0 [some (aR o), none, none] [] h
  refine zV_iconst (z := 0) O ⟨by omega, by omega⟩ dX3_planCount_0 ?_
  refine zV_istore_n O dX3_planCount_1 rfl (Nat.le_of_ble_eq_true rfl) rfl ?_
  refine zV_iconst (z := 0) O ⟨by omega, by omega⟩ dX3_planCount_2 ?_
  refine zV_istore_n O dX3_planCount_3 rfl (Nat.le_of_ble_eq_true rfl) rfl ?_
  obtain ⟨ff, hM⟩ := hM
  exact sX3_planCount_b4 O hN ff _ _ hM
def mX3_plansIn_b28 (o : Nat) (h : Hp) (Q : Int → Prop) (K4 : Int → Int → Int → Prop) (v1 : Int) (v3 : Int) (s0 : Int) (s1 : Int) : Prop := (zr (s1 + s0) ∧ (zr (v3 + 1) ∧ (K4 v1 (s1 + s0) (v3 + 1))))
set_option maxHeartbeats 4000000 in
set_option maxRecDepth 100000 in
theorem sX3_plansIn_b28 {l0 : Launch} {a : ZC} {o : Nat} {h : Hp} {Q : Int → Prop} {K4 : Int → Int → Int → Prop} (O : zOk l0 a cX3_plansIn RX3 4 (some .int) 185 []) (hN : zisN o) (hK4 : ∀ (v1 : Int) (v2 : Int) (v3 : Int), K4 v1 v2 v3 → zV a (1, 0, 0, (qPI h Q), xN) 0 0 4 [some (aR o), some (aI v1), some (aI v2), some (aI v3)] [] h) {v1 : Int} {v3 : Int} {s0 : Int} {s1 : Int}  (hz_s0 : s0 = 0 ∨ s0 = 1) (hM : mX3_plansIn_b28 o h Q K4 v1 v3 s0 s1) : zV a (1, 0, 0, (qPI h Q), xN) 0 0 28 [some (aR o), some (aI v1), none, some (aI v3)] [aI s0, aI s1] h := by
  unfold mX3_plansIn_b28 at hM
  obtain ⟨hc, hM⟩ := hM
  refine zV_iadd O dX3_plansIn_28 hc ?_
  refine zV_istore_n O dX3_plansIn_29 rfl (Nat.le_of_ble_eq_true rfl) rfl ?_
  obtain ⟨hc, hM⟩ := hM
  refine zV_iinc O dX3_plansIn_30 rfl (Nat.le_of_ble_eq_true rfl) rfl hc ?_
  refine zV_goto (tgt := 4) O dX3_plansIn_33 (by decide) ?_
  exact hK4 _ _ _ hM
def mX3_plansIn_b4 (o : Nat) (h : Hp) (Q : Int → Prop) : Nat → Int → Int → Int → Prop
  | 0 => fun _ _ _ => False
  | fu4 + 1 => fun v1 v2 v3 => (((h o 0) ≤ v3 → (Q v2)) ∧ (¬ (h o 0) ≤ v3 → (((0 : Int) ≤ v3 ∧ v3 < 40) ∧ ((¬ (rd h (o + 6) v3) = v1 → (mX3_plansIn_b28 o h Q (mX3_plansIn_b4 o h Q fu4) v1 v3 0 v2)) ∧ ((rd h (o + 6) v3) = v1 → (mX3_plansIn_b28 o h Q (mX3_plansIn_b4 o h Q fu4) v1 v3 1 v2))))))
set_option maxHeartbeats 4000000 in
set_option maxRecDepth 100000 in
theorem sX3_plansIn_b4 {l0 : Launch} {a : ZC} {o : Nat} {h : Hp} {Q : Int → Prop}  (O : zOk l0 a cX3_plansIn RX3 4 (some .int) 185 []) (hN : zisN o)  : ∀ (ff : Nat) (v1 : Int) (v2 : Int) (v3 : Int) , mX3_plansIn_b4 o h Q ff v1 v2 v3 → zV a (1, 0, 0, (qPI h Q), xN) 0 0 4 [some (aR o), some (aI v1), some (aI v2), some (aI v3)] [] h := by
  intro ff
  induction ff with
  | zero => intro v1 v2 v3 hM; exact hM.elim
  | succ ff ih =>
    have hK4 := ih
    intro v1 v2 v3 hM
    unfold mX3_plansIn_b4 at hM
    refine zV_iload_n O dX3_plansIn_4 rfl rfl ?_
    refine zV_aload_n O dX3_plansIn_5 rfl rfl ?_
    refine zV_getI O zf_RX3_49 (zN_o hN) rfl (zN_lt0 hN) dX3_plansIn_6 ?_
    refine zV_icmp_ge (tgt := 36) O dX3_plansIn_9 (by decide) (fun hc => ?_) (fun hc => ?_)
    · replace hM := hM.1 hc
      refine zV_iload_n O dX3_plansIn_36 rfl rfl ?_
      exact zV_iret O rfl ⟨rfl, _, rfl, hM⟩ (Nat.le_of_ble_eq_true rfl) (Nat.le_of_ble_eq_true rfl) dX3_plansIn_37
    · replace hM := hM.2 hc
      refine zV_iload_n O dX3_plansIn_12 rfl rfl ?_
      refine zV_aload_n O dX3_plansIn_13 rfl rfl ?_
      refine zV_getR O zf_RX3_28 (zN_o hN) rfl (zN_lt0 hN) dX3_plansIn_14 ?_
      refine zV_iload_n O dX3_plansIn_17 rfl rfl ?_
      obtain ⟨hc, hM⟩ := hM
      refine zV_iald O (zN_a6 hN) (zN_lt hN (k := 6) (by decide)) hc dX3_plansIn_18 ?_
      refine zV_iload_n O dX3_plansIn_19 rfl rfl ?_
      refine zV_icmp_ne (tgt := 27) O dX3_plansIn_20 (by decide) (fun hc => ?_) (fun hc => ?_)
      · replace hM := hM.1 hc
        refine zV_iconst (z := 0) O ⟨by omega, by omega⟩ dX3_plansIn_27 ?_
        refine zV_sub (ls2 := [some (aR o), some (aI v1), none, some (aI v3)]) ⟨rfl, rfl, rfl, trivial⟩ ?_
        exact sX3_plansIn_b28 O hN hK4 (Or.inl rfl) hM
      · replace hM := hM.2 hc
        refine zV_iconst (z := 1) O ⟨by omega, by omega⟩ dX3_plansIn_23 ?_
        refine zV_goto (tgt := 28) O dX3_plansIn_24 (by decide) ?_
        refine zV_sub (ls2 := [some (aR o), some (aI v1), none, some (aI v3)]) ⟨rfl, rfl, rfl, trivial⟩ ?_
        exact sX3_plansIn_b28 O hN hK4 (Or.inr rfl) hM
def mX3_plansIn (o : Nat) (x1 : Int) (h : Hp) (Q : Int → Prop) : Prop := (∃ ff, mX3_plansIn_b4 o h Q ff x1 0 0)
set_option maxHeartbeats 4000000 in
set_option maxRecDepth 100000 in
theorem sX3_plansIn {l0 : Launch} {o : Nat} {x1 : Int} {h : Hp} {Q : Int → Prop} (hN : zisN o) (hM : mX3_plansIn o x1 h Q) : zSp l0 yX3_plansIn cX3_plansIn 4 (some .int) 185 (1) 0 0 [aR o, aI x1] h (qPI h Q) xN := by
  unfold mX3_plansIn at hM
  refine zSp_intro zpn_RX3 (Nat.le_of_ble_eq_true rfl) (fun a O => ?_)
  show zV a (1, 0, 0, (qPI h Q), xN) 0 0 0 [some (aR o), some (aI x1), none, none] [] h
  refine zV_iconst (z := 0) O ⟨by omega, by omega⟩ dX3_plansIn_0 ?_
  refine zV_istore_n O dX3_plansIn_1 rfl (Nat.le_of_ble_eq_true rfl) rfl ?_
  refine zV_iconst (z := 0) O ⟨by omega, by omega⟩ dX3_plansIn_2 ?_
  refine zV_istore_n O dX3_plansIn_3 rfl (Nat.le_of_ble_eq_true rfl) rfl ?_
  obtain ⟨ff, hM⟩ := hM
  exact sX3_plansIn_b4 O hN ff _ _ _ hM
def mX3_setPlan (o : Nat) (x1 : Int) (x2 : Int) (x3 : Int) (h : Hp) (Q : Hp → Prop) : Prop := (((0 : Int) ≤ x1 ∧ x1 < 40) ∧ (∀ h3 : Hp, h3 = wr h (o + 5) x1 x2 → (((0 : Int) ≤ x1 ∧ x1 < 40) ∧ (∀ h4 : Hp, h4 = wr h3 (o + 6) x1 x3 → (Q h4)))))
set_option maxHeartbeats 4000000 in
set_option maxRecDepth 100000 in
theorem sX3_setPlan {l0 : Launch} {o : Nat} {x1 : Int} {x2 : Int} {x3 : Int} {h : Hp} {Q : Hp → Prop} (hN : zisN o) (hM : mX3_setPlan o x1 x2 x3 h Q) : zSp l0 yX3_setPlan cX3_setPlan 4 none 185 (1) 0 0 [aR o, aI x1, aI x2, aI x3] h (qV Q) xN := by
  unfold mX3_setPlan at hM
  refine zSp_intro zpn_RX3 (Nat.le_of_ble_eq_true rfl) (fun a O => ?_)
  show zV a (1, 0, 0, (qV Q), xN) 0 0 0 [some (aR o), some (aI x1), some (aI x2), some (aI x3)] [] h
  refine zV_aload_n O dX3_setPlan_0 rfl rfl ?_
  refine zV_getR O zf_RX3_25 (zN_o hN) rfl (zN_lt0 hN) dX3_setPlan_1 ?_
  refine zV_iload_n O dX3_setPlan_4 rfl rfl ?_
  refine zV_iload_n O dX3_setPlan_5 rfl rfl ?_
  obtain ⟨hc, hM⟩ := hM
  refine zV_iast O (zN_a5 hN) (zN_lt hN (k := 5) (by decide)) hc dX3_setPlan_6 ?_
  have hM := hM (hu h (o + 5) (Int.toNat x1) x2) rfl
  generalize hu h (o + 5) (Int.toNat x1) x2 = h3 at hM ⊢
  refine zV_aload_n O dX3_setPlan_7 rfl rfl ?_
  refine zV_getR O zf_RX3_28 (zN_o hN) rfl (zN_lt0 hN) dX3_setPlan_8 ?_
  refine zV_iload_n O dX3_setPlan_11 rfl rfl ?_
  refine zV_iload_n O dX3_setPlan_12 rfl rfl ?_
  obtain ⟨hc, hM⟩ := hM
  refine zV_iast O (zN_a6 hN) (zN_lt hN (k := 6) (by decide)) hc dX3_setPlan_13 ?_
  have hM := hM (hu h3 (o + 6) (Int.toNat x1) x3) rfl
  generalize hu h3 (o + 6) (Int.toNat x1) x3 = h4 at hM ⊢
  exact zV_vret O rfl ⟨rfl, hM⟩ (Nat.le_of_ble_eq_true rfl) (Nat.le_of_ble_eq_true rfl) dX3_setPlan_14
def mX3_chosenToMove (o : Nat) (x1 : Int) (h : Hp) (Q : Int → Prop) : Prop := (mX3_movableWith o 1 x1 h (fun z3 => ((z3 = ((-1) : Int) → (mX3_movableWith o 0 x1 h (fun z4 => (Q z4)))) ∧ (¬ z3 = ((-1) : Int) → (Q z3)))))
set_option maxHeartbeats 4000000 in
set_option maxRecDepth 100000 in
theorem sX3_chosenToMove {l0 : Launch} {o : Nat} {x1 : Int} {h : Hp} {Q : Int → Prop} (hN : zisN o) (hM : mX3_chosenToMove o x1 h Q) : zSp l0 yX3_chosenToMove cX3_chosenToMove 3 (some .int) 185 (2) 0 0 [aR o, aI x1] h (qPI h Q) xN := by
  unfold mX3_chosenToMove at hM
  refine zSp_intro zpn_RX3 (Nat.le_of_ble_eq_true rfl) (fun a O => ?_)
  show zV a (2, 0, 0, (qPI h Q), xN) 0 0 0 [some (aR o), some (aI x1), none] [] h
  refine zV_aload_n O dX3_chosenToMove_0 rfl rfl ?_
  refine zV_iconst (z := 1) O ⟨by omega, by omega⟩ dX3_chosenToMove_1 ?_
  refine zV_iload_n O dX3_chosenToMove_2 rfl rfl ?_
  refine zV_callV (as := [aI 1, aI x1]) (st := []) O zc_X3_movableWith (Or.inl zl_RX3_99) zi_890 zi_61 (zN_o hN) rfl rfl (zN_lt0 hN) (Nat.le_of_ble_eq_true rfl) rfl rfl (Nat.le_of_ble_eq_true rfl) (Nat.le_of_ble_eq_true rfl) (Nat.le_of_ble_eq_true rfl) (Nat.le_of_ble_eq_true rfl) (Nat.le_of_ble_eq_true rfl) (Nat.le_of_ble_eq_true rfl) dX3_chosenToMove_3 (sX3_movableWith hN hM) (fun r h9 hq => ?_) (fun x h9 hq => hq.elim)
  obtain ⟨rfl, z3, rfl, hM⟩ := hq
  refine zV_istore_n O dX3_chosenToMove_6 rfl (Nat.le_of_ble_eq_true rfl) rfl ?_
  refine zV_iload_n O dX3_chosenToMove_7 rfl rfl ?_
  refine zV_iconst (z := -1) O ⟨by omega, by omega⟩ dX3_chosenToMove_8 ?_
  refine zV_icmp_eq (tgt := 16) O dX3_chosenToMove_9 (by decide) (fun hc => ?_) (fun hc => ?_)
  · replace hM := hM.1 hc
    refine zV_aload_n O dX3_chosenToMove_16 rfl rfl ?_
    refine zV_iconst (z := 0) O ⟨by omega, by omega⟩ dX3_chosenToMove_17 ?_
    refine zV_iload_n O dX3_chosenToMove_18 rfl rfl ?_
    refine zV_callV (as := [aI 0, aI x1]) (st := []) O zc_X3_movableWith (Or.inl zl_RX3_99) zi_890 zi_61 (zN_o hN) rfl rfl (zN_lt0 hN) (Nat.le_of_ble_eq_true rfl) rfl rfl (Nat.le_of_ble_eq_true rfl) (Nat.le_of_ble_eq_true rfl) (Nat.le_of_ble_eq_true rfl) (Nat.le_of_ble_eq_true rfl) (Nat.le_of_ble_eq_true rfl) (Nat.le_of_ble_eq_true rfl) dX3_chosenToMove_19 (sX3_movableWith hN hM) (fun r h9 hq => ?_) (fun x h9 hq => hq.elim)
    obtain ⟨rfl, z4, rfl, hM⟩ := hq
    exact zV_iret O rfl ⟨rfl, _, rfl, hM⟩ (Nat.le_of_ble_eq_true rfl) (Nat.le_of_ble_eq_true rfl) dX3_chosenToMove_22
  · replace hM := hM.2 hc
    refine zV_iload_n O dX3_chosenToMove_12 rfl rfl ?_
    refine zV_goto (tgt := 22) O dX3_chosenToMove_13 (by decide) ?_
    exact zV_iret O rfl ⟨rfl, _, rfl, hM⟩ (Nat.le_of_ble_eq_true rfl) (Nat.le_of_ble_eq_true rfl) dX3_chosenToMove_22
def mX3_firstWaveWithRoom_b7 (o : Nat) (h : Hp) (Q : Int → Prop) : Nat → Int → Prop
  | 0 => fun _ => False
  | fu7 + 1 => fun v1 => (((9 : Int) < v1 → (Q 0)) ∧ (¬ (9 : Int) < v1 → (mX3_plansIn o v1 h (fun z3 => (((h o 4) ≤ z3 → (zr (v1 + 1) ∧ ((mX3_firstWaveWithRoom_b7 o h Q fu7) (v1 + 1)))) ∧ (¬ (h o 4) ≤ z3 → (Q v1)))))))
set_option maxHeartbeats 4000000 in
set_option maxRecDepth 100000 in
theorem sX3_firstWaveWithRoom_b7 {l0 : Launch} {a : ZC} {o : Nat} {h : Hp} {Q : Int → Prop}  (O : zOk l0 a cX3_firstWaveWithRoom RX3 2 (some .int) 185 []) (hN : zisN o)  : ∀ (ff : Nat) (v1 : Int) , mX3_firstWaveWithRoom_b7 o h Q ff v1 → zV a (2, 0, 0, (qPI h Q), xN) 0 0 7 [some (aR o), some (aI v1)] [] h := by
  intro ff
  induction ff with
  | zero => intro v1 hM; exact hM.elim
  | succ ff ih =>
    have hK7 := ih
    intro v1 hM
    unfold mX3_firstWaveWithRoom_b7 at hM
    refine zV_iload_n O dX3_firstWaveWithRoom_7 rfl rfl ?_
    refine zV_bipush (z := 9) O ⟨by omega, by omega⟩ rfl dX3_firstWaveWithRoom_8 ?_
    refine zV_icmp_gt (tgt := 33) O dX3_firstWaveWithRoom_10 (by decide) (fun hc => ?_) (fun hc => ?_)
    · replace hM := hM.1 hc
      refine zV_iconst (z := 0) O ⟨by omega, by omega⟩ dX3_firstWaveWithRoom_33 ?_
      exact zV_iret O rfl ⟨rfl, _, rfl, hM⟩ (Nat.le_of_ble_eq_true rfl) (Nat.le_of_ble_eq_true rfl) dX3_firstWaveWithRoom_34
    · replace hM := hM.2 hc
      refine zV_aload_n O dX3_firstWaveWithRoom_13 rfl rfl ?_
      refine zV_iload_n O dX3_firstWaveWithRoom_14 rfl rfl ?_
      refine zV_callV (as := [aI v1]) (st := []) O zc_X3_plansIn (Or.inl zl_RX3_85) zi_668 zi_35 (zN_o hN) rfl rfl (zN_lt0 hN) (Nat.le_of_ble_eq_true rfl) rfl rfl (Nat.le_of_ble_eq_true rfl) (Nat.le_of_ble_eq_true rfl) (Nat.le_of_ble_eq_true rfl) (Nat.le_of_ble_eq_true rfl) (Nat.le_of_ble_eq_true rfl) (Nat.le_of_ble_eq_true rfl) dX3_firstWaveWithRoom_15 (sX3_plansIn hN hM) (fun r h9 hq => ?_) (fun x h9 hq => hq.elim)
      obtain ⟨rfl, z3, rfl, hM⟩ := hq
      refine zV_aload_n O dX3_firstWaveWithRoom_18 rfl rfl ?_
      refine zV_getI O zf_RX3_62 (zN_o hN) rfl (zN_lt0 hN) dX3_firstWaveWithRoom_19 ?_
      refine zV_icmp_ge (tgt := 27) O dX3_firstWaveWithRoom_22 (by decide) (fun hc => ?_) (fun hc => ?_)
      · replace hM := hM.1 hc
        obtain ⟨hc, hM⟩ := hM
        refine zV_iinc O dX3_firstWaveWithRoom_27 rfl (Nat.le_of_ble_eq_true rfl) rfl hc ?_
        refine zV_goto (tgt := 7) O dX3_firstWaveWithRoom_30 (by decide) ?_
        exact hK7 _ hM
      · replace hM := hM.2 hc
        refine zV_iload_n O dX3_firstWaveWithRoom_25 rfl rfl ?_
        exact zV_iret O rfl ⟨rfl, _, rfl, hM⟩ (Nat.le_of_ble_eq_true rfl) (Nat.le_of_ble_eq_true rfl) dX3_firstWaveWithRoom_26
def mX3_firstWaveWithRoom (o : Nat) (h : Hp) (Q : Int → Prop) : Prop := (zr ((h o 2) + 1) ∧ (∃ ff, mX3_firstWaveWithRoom_b7 o h Q ff ((h o 2) + 1)))
set_option maxHeartbeats 4000000 in
set_option maxRecDepth 100000 in
theorem sX3_firstWaveWithRoom {l0 : Launch} {o : Nat} {h : Hp} {Q : Int → Prop} (hN : zisN o) (hM : mX3_firstWaveWithRoom o h Q) : zSp l0 yX3_firstWaveWithRoom cX3_firstWaveWithRoom 2 (some .int) 185 (2) 0 0 [aR o] h (qPI h Q) xN := by
  unfold mX3_firstWaveWithRoom at hM
  refine zSp_intro zpn_RX3 (Nat.le_of_ble_eq_true rfl) (fun a O => ?_)
  show zV a (2, 0, 0, (qPI h Q), xN) 0 0 0 [some (aR o), none] [] h
  refine zV_aload_n O dX3_firstWaveWithRoom_0 rfl rfl ?_
  refine zV_getI O zf_RX3_56 (zN_o hN) rfl (zN_lt0 hN) dX3_firstWaveWithRoom_1 ?_
  refine zV_iconst (z := 1) O ⟨by omega, by omega⟩ dX3_firstWaveWithRoom_4 ?_
  obtain ⟨hc, hM⟩ := hM
  refine zV_iadd O dX3_firstWaveWithRoom_5 hc ?_
  refine zV_istore_n O dX3_firstWaveWithRoom_6 rfl (Nat.le_of_ble_eq_true rfl) rfl ?_
  obtain ⟨ff, hM⟩ := hM
  exact sX3_firstWaveWithRoom_b7 O hN ff _ hM
def mX3_keeperWouldMove_b41 (o : Nat) (h : Hp) (Q : Int → Prop) (K2 : Int → Prop) (v1 : Int) : Prop := (zr (v1 + 1) ∧ (K2 (v1 + 1)))
set_option maxHeartbeats 4000000 in
set_option maxRecDepth 100000 in
theorem sX3_keeperWouldMove_b41 {l0 : Launch} {a : ZC} {o : Nat} {h : Hp} {Q : Int → Prop} {K2 : Int → Prop} (O : zOk l0 a cX3_keeperWouldMove RX3 2 (some .boolean) 185 []) (hN : zisN o) (hK2 : ∀ (v1 : Int), K2 v1 → zV a (2, 0, 0, (qPZ h Q), xN) 0 0 2 [some (aR o), some (aI v1)] [] h) {v1 : Int}   (hM : mX3_keeperWouldMove_b41 o h Q K2 v1) : zV a (2, 0, 0, (qPZ h Q), xN) 0 0 41 [some (aR o), some (aI v1)] [] h := by
  unfold mX3_keeperWouldMove_b41 at hM
  obtain ⟨hc, hM⟩ := hM
  refine zV_iinc O dX3_keeperWouldMove_41 rfl (Nat.le_of_ble_eq_true rfl) rfl hc ?_
  refine zV_goto (tgt := 2) O dX3_keeperWouldMove_44 (by decide) ?_
  exact hK2 _ hM
def mX3_keeperWouldMove_b2 (o : Nat) (h : Hp) (Q : Int → Prop) : Nat → Int → Prop
  | 0 => fun _ => False
  | fu2 + 1 => fun v1 => (((h o 0) ≤ v1 → (Q 0)) ∧ (¬ (h o 0) ≤ v1 → (((0 : Int) ≤ v1 ∧ v1 < 40) ∧ (zr ((h o 2) + 1) ∧ ((¬ (rd h (o + 6) v1) = ((h o 2) + 1) → (mX3_keeperWouldMove_b41 o h Q (mX3_keeperWouldMove_b2 o h Q fu2) v1)) ∧ ((rd h (o + 6) v1) = ((h o 2) + 1) → (zr ((h o 2) + 1) ∧ (mX3_keepsAt o v1 ((h o 2) + 1) h (fun z4 => ((z4 = 0 → (mX3_keeperWouldMove_b41 o h Q (mX3_keeperWouldMove_b2 o h Q fu2) v1)) ∧ (¬ z4 = 0 → (Q 1))))))))))))
set_option maxHeartbeats 4000000 in
set_option maxRecDepth 100000 in
theorem sX3_keeperWouldMove_b2 {l0 : Launch} {a : ZC} {o : Nat} {h : Hp} {Q : Int → Prop}  (O : zOk l0 a cX3_keeperWouldMove RX3 2 (some .boolean) 185 []) (hN : zisN o)  : ∀ (ff : Nat) (v1 : Int) , mX3_keeperWouldMove_b2 o h Q ff v1 → zV a (2, 0, 0, (qPZ h Q), xN) 0 0 2 [some (aR o), some (aI v1)] [] h := by
  intro ff
  induction ff with
  | zero => intro v1 hM; exact hM.elim
  | succ ff ih =>
    have hK2 := ih
    intro v1 hM
    unfold mX3_keeperWouldMove_b2 at hM
    refine zV_iload_n O dX3_keeperWouldMove_2 rfl rfl ?_
    refine zV_aload_n O dX3_keeperWouldMove_3 rfl rfl ?_
    refine zV_getI O zf_RX3_49 (zN_o hN) rfl (zN_lt0 hN) dX3_keeperWouldMove_4 ?_
    refine zV_icmp_ge (tgt := 47) O dX3_keeperWouldMove_7 (by decide) (fun hc => ?_) (fun hc => ?_)
    · replace hM := hM.1 hc
      refine zV_iconst (z := 0) O ⟨by omega, by omega⟩ dX3_keeperWouldMove_47 ?_
      exact zV_zret O rfl (Or.inl rfl) ⟨rfl, _, rfl, (Or.inl rfl), hM⟩ (Nat.le_of_ble_eq_true rfl) (Nat.le_of_ble_eq_true rfl) dX3_keeperWouldMove_48
    · replace hM := hM.2 hc
      refine zV_aload_n O dX3_keeperWouldMove_10 rfl rfl ?_
      refine zV_getR O zf_RX3_28 (zN_o hN) rfl (zN_lt0 hN) dX3_keeperWouldMove_11 ?_
      refine zV_iload_n O dX3_keeperWouldMove_14 rfl rfl ?_
      obtain ⟨hc, hM⟩ := hM
      refine zV_iald O (zN_a6 hN) (zN_lt hN (k := 6) (by decide)) hc dX3_keeperWouldMove_15 ?_
      refine zV_aload_n O dX3_keeperWouldMove_16 rfl rfl ?_
      refine zV_getI O zf_RX3_56 (zN_o hN) rfl (zN_lt0 hN) dX3_keeperWouldMove_17 ?_
      refine zV_iconst (z := 1) O ⟨by omega, by omega⟩ dX3_keeperWouldMove_20 ?_
      obtain ⟨hc, hM⟩ := hM
      refine zV_iadd O dX3_keeperWouldMove_21 hc ?_
      refine zV_icmp_ne (tgt := 41) O dX3_keeperWouldMove_22 (by decide) (fun hc => ?_) (fun hc => ?_)
      · replace hM := hM.1 hc
        exact sX3_keeperWouldMove_b41 O hN hK2 hM
      · replace hM := hM.2 hc
        refine zV_aload_n O dX3_keeperWouldMove_25 rfl rfl ?_
        refine zV_iload_n O dX3_keeperWouldMove_26 rfl rfl ?_
        refine zV_aload_n O dX3_keeperWouldMove_27 rfl rfl ?_
        refine zV_getI O zf_RX3_56 (zN_o hN) rfl (zN_lt0 hN) dX3_keeperWouldMove_28 ?_
        refine zV_iconst (z := 1) O ⟨by omega, by omega⟩ dX3_keeperWouldMove_31 ?_
        obtain ⟨hc, hM⟩ := hM
        refine zV_iadd O dX3_keeperWouldMove_32 hc ?_
        refine zV_callV (as := [aI v1, aI ((h o 2) + 1)]) (st := []) O zc_X3_keepsAt (Or.inl zl_RX3_88) zi_634 zi_28 (zN_o hN) rfl rfl (zN_lt0 hN) (Nat.le_of_ble_eq_true rfl) rfl rfl (Nat.le_of_ble_eq_true rfl) (Nat.le_of_ble_eq_true rfl) (Nat.le_of_ble_eq_true rfl) (Nat.le_of_ble_eq_true rfl) (Nat.le_of_ble_eq_true rfl) (Nat.le_of_ble_eq_true rfl) dX3_keeperWouldMove_33 (sX3_keepsAt hN hM) (fun r h9 hq => ?_) (fun x h9 hq => hq.elim)
        obtain ⟨rfl, z4, rfl, hzz4, hM⟩ := hq
        refine zV_if_eq (tgt := 41) O dX3_keeperWouldMove_36 (by decide) (fun hc => ?_) (fun hc => ?_)
        · replace hM := hM.1 hc
          exact sX3_keeperWouldMove_b41 O hN hK2 hM
        · replace hM := hM.2 hc
          refine zV_iconst (z := 1) O ⟨by omega, by omega⟩ dX3_keeperWouldMove_39 ?_
          exact zV_zret O rfl (Or.inr rfl) ⟨rfl, _, rfl, (Or.inr rfl), hM⟩ (Nat.le_of_ble_eq_true rfl) (Nat.le_of_ble_eq_true rfl) dX3_keeperWouldMove_40
def mX3_keeperWouldMove (o : Nat) (h : Hp) (Q : Int → Prop) : Prop := (∃ ff, mX3_keeperWouldMove_b2 o h Q ff 0)
set_option maxHeartbeats 4000000 in
set_option maxRecDepth 100000 in
theorem sX3_keeperWouldMove {l0 : Launch} {o : Nat} {h : Hp} {Q : Int → Prop} (hN : zisN o) (hM : mX3_keeperWouldMove o h Q) : zSp l0 yX3_keeperWouldMove cX3_keeperWouldMove 2 (some .boolean) 185 (2) 0 0 [aR o] h (qPZ h Q) xN := by
  unfold mX3_keeperWouldMove at hM
  refine zSp_intro zpn_RX3 (Nat.le_of_ble_eq_true rfl) (fun a O => ?_)
  show zV a (2, 0, 0, (qPZ h Q), xN) 0 0 0 [some (aR o), none] [] h
  refine zV_iconst (z := 0) O ⟨by omega, by omega⟩ dX3_keeperWouldMove_0 ?_
  refine zV_istore_n O dX3_keeperWouldMove_1 rfl (Nat.le_of_ble_eq_true rfl) rfl ?_
  obtain ⟨ff, hM⟩ := hM
  exact sX3_keeperWouldMove_b2 O hN ff _ hM
def mX3_keptBy (o : Nat) (x1 : Int) (h : Hp) (Q : Int → Prop) : Prop := (mX3_keepsAt o x1 (h o 2) h (fun z3 => ((z3 = 0 → (Q 0)) ∧ (¬ z3 = 0 → (((0 : Int) ≤ x1 ∧ x1 < 40) ∧ (mX3_numberAhead o x1 (rd h (o + 7) x1) h (fun z4 => (Q z4))))))))
set_option maxHeartbeats 4000000 in
set_option maxRecDepth 100000 in
theorem sX3_keptBy {l0 : Launch} {o : Nat} {x1 : Int} {h : Hp} {Q : Int → Prop} (hN : zisN o) (hM : mX3_keptBy o x1 h Q) : zSp l0 yX3_keptBy cX3_keptBy 2 (some .int) 185 (2) 0 0 [aR o, aI x1] h (qPI h Q) xN := by
  unfold mX3_keptBy at hM
  refine zSp_intro zpn_RX3 (Nat.le_of_ble_eq_true rfl) (fun a O => ?_)
  show zV a (2, 0, 0, (qPI h Q), xN) 0 0 0 [some (aR o), some (aI x1)] [] h
  refine zV_aload_n O dX3_keptBy_0 rfl rfl ?_
  refine zV_iload_n O dX3_keptBy_1 rfl rfl ?_
  refine zV_aload_n O dX3_keptBy_2 rfl rfl ?_
  refine zV_getI O zf_RX3_56 (zN_o hN) rfl (zN_lt0 hN) dX3_keptBy_3 ?_
  refine zV_callV (as := [aI x1, aI (h o 2)]) (st := []) O zc_X3_keepsAt (Or.inl zl_RX3_88) zi_634 zi_28 (zN_o hN) rfl rfl (zN_lt0 hN) (Nat.le_of_ble_eq_true rfl) rfl rfl (Nat.le_of_ble_eq_true rfl) (Nat.le_of_ble_eq_true rfl) (Nat.le_of_ble_eq_true rfl) (Nat.le_of_ble_eq_true rfl) (Nat.le_of_ble_eq_true rfl) (Nat.le_of_ble_eq_true rfl) dX3_keptBy_6 (sX3_keepsAt hN hM) (fun r h9 hq => ?_) (fun x h9 hq => hq.elim)
  obtain ⟨rfl, z3, rfl, hzz3, hM⟩ := hq
  refine zV_if_eq (tgt := 26) O dX3_keptBy_9 (by decide) (fun hc => ?_) (fun hc => ?_)
  · replace hM := hM.1 hc
    refine zV_iconst (z := 0) O ⟨by omega, by omega⟩ dX3_keptBy_26 ?_
    exact zV_iret O rfl ⟨rfl, _, rfl, hM⟩ (Nat.le_of_ble_eq_true rfl) (Nat.le_of_ble_eq_true rfl) dX3_keptBy_27
  · replace hM := hM.2 hc
    refine zV_aload_n O dX3_keptBy_12 rfl rfl ?_
    refine zV_iload_n O dX3_keptBy_13 rfl rfl ?_
    refine zV_aload_n O dX3_keptBy_14 rfl rfl ?_
    refine zV_getR O zf_RX3_31 (zN_o hN) rfl (zN_lt0 hN) dX3_keptBy_15 ?_
    refine zV_iload_n O dX3_keptBy_18 rfl rfl ?_
    obtain ⟨hc, hM⟩ := hM
    refine zV_iald O (zN_a7 hN) (zN_lt hN (k := 7) (by decide)) hc dX3_keptBy_19 ?_
    refine zV_callV (as := [aI x1, aI (rd h (o + 7) x1)]) (st := []) O zc_X3_numberAhead (Or.inl zl_RX3_92) zi_638 zi_29 (zN_o hN) rfl rfl (zN_lt0 hN) (Nat.le_of_ble_eq_true rfl) rfl rfl (Nat.le_of_ble_eq_true rfl) (Nat.le_of_ble_eq_true rfl) (Nat.le_of_ble_eq_true rfl) (Nat.le_of_ble_eq_true rfl) (Nat.le_of_ble_eq_true rfl) (Nat.le_of_ble_eq_true rfl) dX3_keptBy_20 (sX3_numberAhead hN hM) (fun r h9 hq => ?_) (fun x h9 hq => hq.elim)
    obtain ⟨rfl, z4, rfl, hM⟩ := hq
    refine zV_goto (tgt := 27) O dX3_keptBy_23 (by decide) ?_
    exact zV_iret O rfl ⟨rfl, _, rfl, hM⟩ (Nat.le_of_ble_eq_true rfl) (Nat.le_of_ble_eq_true rfl) dX3_keptBy_27
def mX3_numberedInNet_b36 (o : Nat) (h : Hp) (Q : Int → Prop) (K2 : Int → Int → Int → Prop) (v1 : Int) (v2 : Int) (v3 : Int) : Prop := (zr (v3 + 1) ∧ (K2 v1 v2 (v3 + 1)))
set_option maxHeartbeats 4000000 in
set_option maxRecDepth 100000 in
theorem sX3_numberedInNet_b36 {l0 : Launch} {a : ZC} {o : Nat} {h : Hp} {Q : Int → Prop} {K2 : Int → Int → Int → Prop} (O : zOk l0 a cX3_numberedInNet RX3 4 (some .int) 185 []) (hN : zisN o) (hK2 : ∀ (v1 : Int) (v2 : Int) (v3 : Int), K2 v1 v2 v3 → zV a (2, 0, 0, (qPI h Q), xN) 0 0 2 [some (aR o), some (aI v1), some (aI v2), some (aI v3)] [] h) {v1 : Int} {v2 : Int} {v3 : Int}   (hM : mX3_numberedInNet_b36 o h Q K2 v1 v2 v3) : zV a (2, 0, 0, (qPI h Q), xN) 0 0 36 [some (aR o), some (aI v1), some (aI v2), some (aI v3)] [] h := by
  unfold mX3_numberedInNet_b36 at hM
  obtain ⟨hc, hM⟩ := hM
  refine zV_iinc O dX3_numberedInNet_36 rfl (Nat.le_of_ble_eq_true rfl) rfl hc ?_
  refine zV_goto (tgt := 2) O dX3_numberedInNet_39 (by decide) ?_
  exact hK2 _ _ _ hM
def mX3_numberedInNet_b2 (o : Nat) (h : Hp) (Q : Int → Prop) : Nat → Int → Int → Int → Prop
  | 0 => fun _ _ _ => False
  | fu2 + 1 => fun v1 v2 v3 => (((h o 0) ≤ v3 → (Q (-1))) ∧ (¬ (h o 0) ≤ v3 → (((0 : Int) ≤ v3 ∧ v3 < 40) ∧ (mX3_inNet o (rd h (o + 2) v3) v1 h (fun z4 => ((z4 = 0 → (mX3_numberedInNet_b36 o h Q (mX3_numberedInNet_b2 o h Q fu2) v1 v2 v3)) ∧ (¬ z4 = 0 → (((0 : Int) ≤ v3 ∧ v3 < 40) ∧ ((¬ (rd h (o + 3) v3) = v2 → (mX3_numberedInNet_b36 o h Q (mX3_numberedInNet_b2 o h Q fu2) v1 v2 v3)) ∧ ((rd h (o + 3) v3) = v2 → (Q v3)))))))))))
set_option maxHeartbeats 4000000 in
set_option maxRecDepth 100000 in
theorem sX3_numberedInNet_b2 {l0 : Launch} {a : ZC} {o : Nat} {h : Hp} {Q : Int → Prop}  (O : zOk l0 a cX3_numberedInNet RX3 4 (some .int) 185 []) (hN : zisN o)  : ∀ (ff : Nat) (v1 : Int) (v2 : Int) (v3 : Int) , mX3_numberedInNet_b2 o h Q ff v1 v2 v3 → zV a (2, 0, 0, (qPI h Q), xN) 0 0 2 [some (aR o), some (aI v1), some (aI v2), some (aI v3)] [] h := by
  intro ff
  induction ff with
  | zero => intro v1 v2 v3 hM; exact hM.elim
  | succ ff ih =>
    have hK2 := ih
    intro v1 v2 v3 hM
    unfold mX3_numberedInNet_b2 at hM
    refine zV_iload_n O dX3_numberedInNet_2 rfl rfl ?_
    refine zV_aload_n O dX3_numberedInNet_3 rfl rfl ?_
    refine zV_getI O zf_RX3_49 (zN_o hN) rfl (zN_lt0 hN) dX3_numberedInNet_4 ?_
    refine zV_icmp_ge (tgt := 42) O dX3_numberedInNet_7 (by decide) (fun hc => ?_) (fun hc => ?_)
    · replace hM := hM.1 hc
      refine zV_iconst (z := -1) O ⟨by omega, by omega⟩ dX3_numberedInNet_42 ?_
      exact zV_iret O rfl ⟨rfl, _, rfl, hM⟩ (Nat.le_of_ble_eq_true rfl) (Nat.le_of_ble_eq_true rfl) dX3_numberedInNet_43
    · replace hM := hM.2 hc
      refine zV_aload_n O dX3_numberedInNet_10 rfl rfl ?_
      refine zV_aload_n O dX3_numberedInNet_11 rfl rfl ?_
      refine zV_getR O zf_RX3_15 (zN_o hN) rfl (zN_lt0 hN) dX3_numberedInNet_12 ?_
      refine zV_iload_n O dX3_numberedInNet_15 rfl rfl ?_
      obtain ⟨hc, hM⟩ := hM
      refine zV_iald O (zN_a2 hN) (zN_lt hN (k := 2) (by decide)) hc dX3_numberedInNet_16 ?_
      refine zV_iload_n O dX3_numberedInNet_17 rfl rfl ?_
      refine zV_callV (as := [aI (rd h (o + 2) v3), aI v1]) (st := []) O zc_X3_inNet (Or.inl zl_RX3_96) zi_819 zi_52 (zN_o hN) rfl rfl (zN_lt0 hN) (Nat.le_of_ble_eq_true rfl) rfl rfl (Nat.le_of_ble_eq_true rfl) (Nat.le_of_ble_eq_true rfl) (Nat.le_of_ble_eq_true rfl) (Nat.le_of_ble_eq_true rfl) (Nat.le_of_ble_eq_true rfl) (Nat.le_of_ble_eq_true rfl) dX3_numberedInNet_18 (sX3_inNet hN hM) (fun r h9 hq => ?_) (fun x h9 hq => hq.elim)
      obtain ⟨rfl, z4, rfl, hzz4, hM⟩ := hq
      refine zV_if_eq (tgt := 36) O dX3_numberedInNet_21 (by decide) (fun hc => ?_) (fun hc => ?_)
      · replace hM := hM.1 hc
        exact sX3_numberedInNet_b36 O hN hK2 hM
      · replace hM := hM.2 hc
        refine zV_aload_n O dX3_numberedInNet_24 rfl rfl ?_
        refine zV_getR O zf_RX3_19 (zN_o hN) rfl (zN_lt0 hN) dX3_numberedInNet_25 ?_
        refine zV_iload_n O dX3_numberedInNet_28 rfl rfl ?_
        obtain ⟨hc, hM⟩ := hM
        refine zV_iald O (zN_a3 hN) (zN_lt hN (k := 3) (by decide)) hc dX3_numberedInNet_29 ?_
        refine zV_iload_n O dX3_numberedInNet_30 rfl rfl ?_
        refine zV_icmp_ne (tgt := 36) O dX3_numberedInNet_31 (by decide) (fun hc => ?_) (fun hc => ?_)
        · replace hM := hM.1 hc
          exact sX3_numberedInNet_b36 O hN hK2 hM
        · replace hM := hM.2 hc
          refine zV_iload_n O dX3_numberedInNet_34 rfl rfl ?_
          exact zV_iret O rfl ⟨rfl, _, rfl, hM⟩ (Nat.le_of_ble_eq_true rfl) (Nat.le_of_ble_eq_true rfl) dX3_numberedInNet_35
def mX3_numberedInNet (o : Nat) (x1 : Int) (x2 : Int) (h : Hp) (Q : Int → Prop) : Prop := (∃ ff, mX3_numberedInNet_b2 o h Q ff x1 x2 0)
set_option maxHeartbeats 4000000 in
set_option maxRecDepth 100000 in
theorem sX3_numberedInNet {l0 : Launch} {o : Nat} {x1 : Int} {x2 : Int} {h : Hp} {Q : Int → Prop} (hN : zisN o) (hM : mX3_numberedInNet o x1 x2 h Q) : zSp l0 yX3_numberedInNet cX3_numberedInNet 4 (some .int) 185 (2) 0 0 [aR o, aI x1, aI x2] h (qPI h Q) xN := by
  unfold mX3_numberedInNet at hM
  refine zSp_intro zpn_RX3 (Nat.le_of_ble_eq_true rfl) (fun a O => ?_)
  show zV a (2, 0, 0, (qPI h Q), xN) 0 0 0 [some (aR o), some (aI x1), some (aI x2), none] [] h
  refine zV_iconst (z := 0) O ⟨by omega, by omega⟩ dX3_numberedInNet_0 ?_
  refine zV_istore_n O dX3_numberedInNet_1 rfl (Nat.le_of_ble_eq_true rfl) rfl ?_
  obtain ⟨ff, hM⟩ := hM
  exact sX3_numberedInNet_b2 O hN ff _ _ _ hM
def mX3_undoMove_b89 (o : Nat) (Q : Hp → Prop) (v1 : Int) (v2 : Int) (h : Hp) : Prop := (((0 : Int) ≤ v1 ∧ v1 < 40) ∧ (∀ h12 : Hp, h12 = wr h (o + 7) v1 v2 → (Q h12)))
set_option maxHeartbeats 4000000 in
set_option maxRecDepth 100000 in
theorem sX3_undoMove_b89 {l0 : Launch} {a : ZC} {o : Nat} {Q : Hp → Prop}  (O : zOk l0 a cX3_undoMove RX3 3 none 185 []) (hN : zisN o)  {v1 : Int} {v2 : Int} {h : Hp}  (hM : mX3_undoMove_b89 o Q v1 v2 h) : zV a (2, 0, 0, (qV Q), xN) 0 0 89 [some (aR o), some (aI v1), some (aI v2)] [] h := by
  unfold mX3_undoMove_b89 at hM
  refine zV_aload_n O dX3_undoMove_89 rfl rfl ?_
  refine zV_getR O zf_RX3_31 (zN_o hN) rfl (zN_lt0 hN) dX3_undoMove_90 ?_
  refine zV_iload_n O dX3_undoMove_93 rfl rfl ?_
  refine zV_iload_n O dX3_undoMove_94 rfl rfl ?_
  obtain ⟨hc, hM⟩ := hM
  refine zV_iast O (zN_a7 hN) (zN_lt hN (k := 7) (by decide)) hc dX3_undoMove_95 ?_
  have hM := hM (hu h (o + 7) (Int.toNat v1) v2) rfl
  generalize hu h (o + 7) (Int.toNat v1) v2 = h12 at hM ⊢
  exact zV_vret O rfl ⟨rfl, hM⟩ (Nat.le_of_ble_eq_true rfl) (Nat.le_of_ble_eq_true rfl) dX3_undoMove_96
def mX3_undoMove_b70 (o : Nat) (Q : Hp → Prop) : Nat → Int → Int → Hp → Prop
  | 0 => fun _ _ _ => False
  | fu70 + 1 => fun v1 v2 h => ((v2 ≤ 0 → (mX3_undoMove_b89 o Q v1 v2 h)) ∧ (¬ v2 ≤ 0 → (mX3_numberAhead o v1 v2 h (fun z13 => ((¬ z13 = 0 → (mX3_undoMove_b89 o Q v1 v2 h)) ∧ (z13 = 0 → (zr (v2 + (-1)) ∧ ((mX3_undoMove_b70 o Q fu70) v1 (v2 + (-1)) h))))))))
set_option maxHeartbeats 4000000 in
set_option maxRecDepth 100000 in
theorem sX3_undoMove_b70 {l0 : Launch} {a : ZC} {o : Nat} {Q : Hp → Prop}  (O : zOk l0 a cX3_undoMove RX3 3 none 185 []) (hN : zisN o)  : ∀ (ff : Nat) (v1 : Int) (v2 : Int) (h : Hp), mX3_undoMove_b70 o Q ff v1 v2 h → zV a (2, 0, 0, (qV Q), xN) 0 0 70 [some (aR o), some (aI v1), some (aI v2)] [] h := by
  intro ff
  induction ff with
  | zero => intro v1 v2 h hM; exact hM.elim
  | succ ff ih =>
    have hK70 := ih
    intro v1 v2 h hM
    unfold mX3_undoMove_b70 at hM
    refine zV_iload_n O dX3_undoMove_70 rfl rfl ?_
    refine zV_if_le (tgt := 89) O dX3_undoMove_71 (by decide) (fun hc => ?_) (fun hc => ?_)
    · replace hM := hM.1 hc
      exact sX3_undoMove_b89 O hN hM
    · replace hM := hM.2 hc
      refine zV_aload_n O dX3_undoMove_74 rfl rfl ?_
      refine zV_iload_n O dX3_undoMove_75 rfl rfl ?_
      refine zV_iload_n O dX3_undoMove_76 rfl rfl ?_
      refine zV_callV (as := [aI v1, aI v2]) (st := []) O zc_X3_numberAhead (Or.inl zl_RX3_92) zi_638 zi_29 (zN_o hN) rfl rfl (zN_lt0 hN) (Nat.le_of_ble_eq_true rfl) rfl rfl (Nat.le_of_ble_eq_true rfl) (Nat.le_of_ble_eq_true rfl) (Nat.le_of_ble_eq_true rfl) (Nat.le_of_ble_eq_true rfl) (Nat.le_of_ble_eq_true rfl) (Nat.le_of_ble_eq_true rfl) dX3_undoMove_77 (sX3_numberAhead hN hM) (fun r h9 hq => ?_) (fun x h9 hq => hq.elim)
      obtain ⟨rfl, z13, rfl, hM⟩ := hq
      refine zV_if_ne (tgt := 89) O dX3_undoMove_80 (by decide) (fun hc => ?_) (fun hc => ?_)
      · replace hM := hM.1 hc
        exact sX3_undoMove_b89 O hN hM
      · replace hM := hM.2 hc
        obtain ⟨hc, hM⟩ := hM
        refine zV_iinc O dX3_undoMove_83 rfl (Nat.le_of_ble_eq_true rfl) rfl hc ?_
        refine zV_goto (tgt := 70) O dX3_undoMove_86 (by decide) ?_
        exact hK70 _ _ _ hM
def mX3_undoMove_b33 (o : Nat) (Q : Hp → Prop) (v1 : Int) (h : Hp) : Prop := (mX3_numberAhead o v1 (h o 2) h (fun z14 => (((0 : Int) ≤ v1 ∧ v1 < 40) ∧ (∀ h15 : Hp, h15 = wr h (o + 3) v1 z14 → (zr (v1 * 10) ∧ (zr ((v1 * 10) + (h15 o 2)) ∧ (((0 : Int) ≤ ((v1 * 10) + (h15 o 2)) ∧ ((v1 * 10) + (h15 o 2)) < 400) ∧ (∀ h16 : Hp, h16 = wr h15 (o + 8) ((v1 * 10) + (h15 o 2)) 0 → (zr ((h16 o 2) - 1) ∧ (∃ ff, mX3_undoMove_b70 o Q ff v1 ((h16 o 2) - 1) h16))))))))))
set_option maxHeartbeats 4000000 in
set_option maxRecDepth 100000 in
theorem sX3_undoMove_b33 {l0 : Launch} {a : ZC} {o : Nat} {Q : Hp → Prop}  (O : zOk l0 a cX3_undoMove RX3 3 none 185 []) (hN : zisN o)  {v1 : Int} {h : Hp}  (hM : mX3_undoMove_b33 o Q v1 h) : zV a (2, 0, 0, (qV Q), xN) 0 0 33 [some (aR o), some (aI v1), none] [] h := by
  unfold mX3_undoMove_b33 at hM
  refine zV_aload_n O dX3_undoMove_33 rfl rfl ?_
  refine zV_getR O zf_RX3_19 (zN_o hN) rfl (zN_lt0 hN) dX3_undoMove_34 ?_
  refine zV_iload_n O dX3_undoMove_37 rfl rfl ?_
  refine zV_aload_n O dX3_undoMove_38 rfl rfl ?_
  refine zV_iload_n O dX3_undoMove_39 rfl rfl ?_
  refine zV_aload_n O dX3_undoMove_40 rfl rfl ?_
  refine zV_getI O zf_RX3_56 (zN_o hN) rfl (zN_lt0 hN) dX3_undoMove_41 ?_
  refine zV_callV (as := [aI v1, aI (h o 2)]) (st := [aI v1, aR (o + 3)]) O zc_X3_numberAhead (Or.inl zl_RX3_92) zi_638 zi_29 (zN_o hN) rfl rfl (zN_lt0 hN) (Nat.le_of_ble_eq_true rfl) rfl rfl (Nat.le_of_ble_eq_true rfl) (Nat.le_of_ble_eq_true rfl) (Nat.le_of_ble_eq_true rfl) (Nat.le_of_ble_eq_true rfl) (Nat.le_of_ble_eq_true rfl) (Nat.le_of_ble_eq_true rfl) dX3_undoMove_44 (sX3_numberAhead hN hM) (fun r h9 hq => ?_) (fun x h9 hq => hq.elim)
  obtain ⟨rfl, z14, rfl, hM⟩ := hq
  obtain ⟨hc, hM⟩ := hM
  refine zV_iast O (zN_a3 hN) (zN_lt hN (k := 3) (by decide)) hc dX3_undoMove_47 ?_
  have hM := hM (hu h (o + 3) (Int.toNat v1) z14) rfl
  generalize hu h (o + 3) (Int.toNat v1) z14 = h15 at hM ⊢
  refine zV_aload_n O dX3_undoMove_48 rfl rfl ?_
  refine zV_getR O zf_RX3_34 (zN_o hN) rfl (zN_lt0 hN) dX3_undoMove_49 ?_
  refine zV_iload_n O dX3_undoMove_52 rfl rfl ?_
  refine zV_bipush (z := 10) O ⟨by omega, by omega⟩ rfl dX3_undoMove_53 ?_
  obtain ⟨hc, hM⟩ := hM
  refine zV_imul O dX3_undoMove_55 hc ?_
  refine zV_aload_n O dX3_undoMove_56 rfl rfl ?_
  refine zV_getI O zf_RX3_56 (zN_o hN) rfl (zN_lt0 hN) dX3_undoMove_57 ?_
  obtain ⟨hc, hM⟩ := hM
  refine zV_iadd O dX3_undoMove_60 hc ?_
  refine zV_iconst (z := 0) O ⟨by omega, by omega⟩ dX3_undoMove_61 ?_
  obtain ⟨hc, hM⟩ := hM
  refine zV_iast O (zN_a8 hN) (zN_lt hN (k := 8) (by decide)) hc dX3_undoMove_62 ?_
  have hM := hM (hu h15 (o + 8) (Int.toNat ((v1 * 10) + (h15 o 2))) 0) rfl
  generalize hu h15 (o + 8) (Int.toNat ((v1 * 10) + (h15 o 2))) 0 = h16 at hM ⊢
  refine zV_aload_n O dX3_undoMove_63 rfl rfl ?_
  refine zV_getI O zf_RX3_56 (zN_o hN) rfl (zN_lt0 hN) dX3_undoMove_64 ?_
  refine zV_iconst (z := 1) O ⟨by omega, by omega⟩ dX3_undoMove_67 ?_
  obtain ⟨hc, hM⟩ := hM
  refine zV_isub O dX3_undoMove_68 hc ?_
  refine zV_istore_n O dX3_undoMove_69 rfl (Nat.le_of_ble_eq_true rfl) rfl ?_
  obtain ⟨ff, hM⟩ := hM
  exact sX3_undoMove_b70 O hN ff _ _ _ hM
def mX3_undoMove (o : Nat) (x1 : Int) (h : Hp) (Q : Hp → Prop) : Prop := (((0 : Int) ≤ x1 ∧ x1 < 40) ∧ ((¬ (rd h (o + 6) x1) = 0 → (mX3_undoMove_b33 o Q x1 h)) ∧ ((rd h (o + 6) x1) = 0 → (((0 : Int) ≤ x1 ∧ x1 < 40) ∧ ((¬ (rd h (o + 4) x1) = 0 → (mX3_undoMove_b33 o Q x1 h)) ∧ ((rd h (o + 4) x1) = 0 → (((0 : Int) ≤ x1 ∧ x1 < 40) ∧ (mX3_setPlan o x1 (rd h (o + 3) x1) (h o 2) h (fun h17 => (mX3_undoMove_b33 o Q x1 h17))))))))))
set_option maxHeartbeats 4000000 in
set_option maxRecDepth 100000 in
theorem sX3_undoMove {l0 : Launch} {o : Nat} {x1 : Int} {h : Hp} {Q : Hp → Prop} (hN : zisN o) (hM : mX3_undoMove o x1 h Q) : zSp l0 yX3_undoMove cX3_undoMove 3 none 185 (2) 0 0 [aR o, aI x1] h (qV Q) xN := by
  unfold mX3_undoMove at hM
  refine zSp_intro zpn_RX3 (Nat.le_of_ble_eq_true rfl) (fun a O => ?_)
  show zV a (2, 0, 0, (qV Q), xN) 0 0 0 [some (aR o), some (aI x1), none] [] h
  refine zV_aload_n O dX3_undoMove_0 rfl rfl ?_
  refine zV_getR O zf_RX3_28 (zN_o hN) rfl (zN_lt0 hN) dX3_undoMove_1 ?_
  refine zV_iload_n O dX3_undoMove_4 rfl rfl ?_
  obtain ⟨hc, hM⟩ := hM
  refine zV_iald O (zN_a6 hN) (zN_lt hN (k := 6) (by decide)) hc dX3_undoMove_5 ?_
  refine zV_if_ne (tgt := 33) O dX3_undoMove_6 (by decide) (fun hc => ?_) (fun hc => ?_)
  · replace hM := hM.1 hc
    exact sX3_undoMove_b33 O hN hM
  · replace hM := hM.2 hc
    refine zV_aload_n O dX3_undoMove_9 rfl rfl ?_
    refine zV_getR O zf_RX3_22 (zN_o hN) rfl (zN_lt0 hN) dX3_undoMove_10 ?_
    refine zV_iload_n O dX3_undoMove_13 rfl rfl ?_
    obtain ⟨hc, hM⟩ := hM
    refine zV_iald O (zN_a4 hN) (zN_lt hN (k := 4) (by decide)) hc dX3_undoMove_14 ?_
    refine zV_if_ne (tgt := 33) O dX3_undoMove_15 (by decide) (fun hc => ?_) (fun hc => ?_)
    · replace hM := hM.1 hc
      exact sX3_undoMove_b33 O hN hM
    · replace hM := hM.2 hc
      refine zV_aload_n O dX3_undoMove_18 rfl rfl ?_
      refine zV_iload_n O dX3_undoMove_19 rfl rfl ?_
      refine zV_aload_n O dX3_undoMove_20 rfl rfl ?_
      refine zV_getR O zf_RX3_19 (zN_o hN) rfl (zN_lt0 hN) dX3_undoMove_21 ?_
      refine zV_iload_n O dX3_undoMove_24 rfl rfl ?_
      obtain ⟨hc, hM⟩ := hM
      refine zV_iald O (zN_a3 hN) (zN_lt hN (k := 3) (by decide)) hc dX3_undoMove_25 ?_
      refine zV_aload_n O dX3_undoMove_26 rfl rfl ?_
      refine zV_getI O zf_RX3_56 (zN_o hN) rfl (zN_lt0 hN) dX3_undoMove_27 ?_
      refine zV_callV (as := [aI x1, aI (rd h (o + 3) x1), aI (h o 2)]) (st := []) O zc_X3_setPlan (Or.inl zl_RX3_123) zi_672 zi_36 (zN_o hN) rfl rfl (zN_lt0 hN) (Nat.le_of_ble_eq_true rfl) rfl rfl (Nat.le_of_ble_eq_true rfl) (Nat.le_of_ble_eq_true rfl) (Nat.le_of_ble_eq_true rfl) (Nat.le_of_ble_eq_true rfl) (Nat.le_of_ble_eq_true rfl) (Nat.le_of_ble_eq_true rfl) dX3_undoMove_30 (sX3_setPlan hN hM) (fun r h17 hq => ?_) (fun x h9 hq => hq.elim)
      obtain ⟨rfl, hM⟩ := hq
      exact sX3_undoMove_b33 O hN hM
def mX3_holderInNet_b45 (o : Nat) (h : Hp) (Q : Int → Prop) (K2 : Int → Int → Int → Prop) (v1 : Int) (v2 : Int) (v3 : Int) : Prop := (zr (v3 + 1) ∧ (K2 v1 v2 (v3 + 1)))
set_option maxHeartbeats 4000000 in
set_option maxRecDepth 100000 in
theorem sX3_holderInNet_b45 {l0 : Launch} {a : ZC} {o : Nat} {h : Hp} {Q : Int → Prop} {K2 : Int → Int → Int → Prop} (O : zOk l0 a cX3_holderInNet RX3 4 (some .int) 185 []) (hN : zisN o) (hK2 : ∀ (v1 : Int) (v2 : Int) (v3 : Int), K2 v1 v2 v3 → zV a (3, 0, 0, (qPI h Q), xN) 0 0 2 [some (aR o), some (aI v1), some (aI v2), some (aI v3)] [] h) {v1 : Int} {v2 : Int} {v3 : Int}   (hM : mX3_holderInNet_b45 o h Q K2 v1 v2 v3) : zV a (3, 0, 0, (qPI h Q), xN) 0 0 45 [some (aR o), some (aI v1), some (aI v2), some (aI v3)] [] h := by
  unfold mX3_holderInNet_b45 at hM
  obtain ⟨hc, hM⟩ := hM
  refine zV_iinc O dX3_holderInNet_45 rfl (Nat.le_of_ble_eq_true rfl) rfl hc ?_
  refine zV_goto (tgt := 2) O dX3_holderInNet_48 (by decide) ?_
  exact hK2 _ _ _ hM
def mX3_holderInNet_b2 (o : Nat) (h : Hp) (Q : Int → Prop) : Nat → Int → Int → Int → Prop
  | 0 => fun _ _ _ => False
  | fu2 + 1 => fun v1 v2 v3 => (((h o 0) ≤ v3 → (Q (-1))) ∧ (¬ (h o 0) ≤ v3 → (((0 : Int) ≤ v3 ∧ v3 < 40) ∧ (mX3_inNet o (rd h (o + 2) v3) v1 h (fun z7 => ((z7 = 0 → (mX3_holderInNet_b45 o h Q (mX3_holderInNet_b2 o h Q fu2) v1 v2 v3)) ∧ (¬ z7 = 0 → (((0 : Int) ≤ v3 ∧ v3 < 40) ∧ (((rd h (o + 3) v3) = v2 → (Q v3)) ∧ (¬ (rd h (o + 3) v3) = v2 → (mX3_keptBy o v3 h (fun z8 => ((¬ z8 = v2 → (mX3_holderInNet_b45 o h Q (mX3_holderInNet_b2 o h Q fu2) v1 v2 v3)) ∧ (z8 = v2 → (Q v3)))))))))))))))
set_option maxHeartbeats 4000000 in
set_option maxRecDepth 100000 in
theorem sX3_holderInNet_b2 {l0 : Launch} {a : ZC} {o : Nat} {h : Hp} {Q : Int → Prop}  (O : zOk l0 a cX3_holderInNet RX3 4 (some .int) 185 []) (hN : zisN o)  : ∀ (ff : Nat) (v1 : Int) (v2 : Int) (v3 : Int) , mX3_holderInNet_b2 o h Q ff v1 v2 v3 → zV a (3, 0, 0, (qPI h Q), xN) 0 0 2 [some (aR o), some (aI v1), some (aI v2), some (aI v3)] [] h := by
  intro ff
  induction ff with
  | zero => intro v1 v2 v3 hM; exact hM.elim
  | succ ff ih =>
    have hK2 := ih
    intro v1 v2 v3 hM
    unfold mX3_holderInNet_b2 at hM
    refine zV_iload_n O dX3_holderInNet_2 rfl rfl ?_
    refine zV_aload_n O dX3_holderInNet_3 rfl rfl ?_
    refine zV_getI O zf_RX3_49 (zN_o hN) rfl (zN_lt0 hN) dX3_holderInNet_4 ?_
    refine zV_icmp_ge (tgt := 51) O dX3_holderInNet_7 (by decide) (fun hc => ?_) (fun hc => ?_)
    · replace hM := hM.1 hc
      refine zV_iconst (z := -1) O ⟨by omega, by omega⟩ dX3_holderInNet_51 ?_
      exact zV_iret O rfl ⟨rfl, _, rfl, hM⟩ (Nat.le_of_ble_eq_true rfl) (Nat.le_of_ble_eq_true rfl) dX3_holderInNet_52
    · replace hM := hM.2 hc
      refine zV_aload_n O dX3_holderInNet_10 rfl rfl ?_
      refine zV_aload_n O dX3_holderInNet_11 rfl rfl ?_
      refine zV_getR O zf_RX3_15 (zN_o hN) rfl (zN_lt0 hN) dX3_holderInNet_12 ?_
      refine zV_iload_n O dX3_holderInNet_15 rfl rfl ?_
      obtain ⟨hc, hM⟩ := hM
      refine zV_iald O (zN_a2 hN) (zN_lt hN (k := 2) (by decide)) hc dX3_holderInNet_16 ?_
      refine zV_iload_n O dX3_holderInNet_17 rfl rfl ?_
      refine zV_callV (as := [aI (rd h (o + 2) v3), aI v1]) (st := []) O zc_X3_inNet (Or.inl zl_RX3_96) zi_819 zi_52 (zN_o hN) rfl rfl (zN_lt0 hN) (Nat.le_of_ble_eq_true rfl) rfl rfl (Nat.le_of_ble_eq_true rfl) (Nat.le_of_ble_eq_true rfl) (Nat.le_of_ble_eq_true rfl) (Nat.le_of_ble_eq_true rfl) (Nat.le_of_ble_eq_true rfl) (Nat.le_of_ble_eq_true rfl) dX3_holderInNet_18 (sX3_inNet hN hM) (fun r h9 hq => ?_) (fun x h9 hq => hq.elim)
      obtain ⟨rfl, z7, rfl, hzz7, hM⟩ := hq
      refine zV_if_eq (tgt := 45) O dX3_holderInNet_21 (by decide) (fun hc => ?_) (fun hc => ?_)
      · replace hM := hM.1 hc
        exact sX3_holderInNet_b45 O hN hK2 hM
      · replace hM := hM.2 hc
        refine zV_aload_n O dX3_holderInNet_24 rfl rfl ?_
        refine zV_getR O zf_RX3_19 (zN_o hN) rfl (zN_lt0 hN) dX3_holderInNet_25 ?_
        refine zV_iload_n O dX3_holderInNet_28 rfl rfl ?_
        obtain ⟨hc, hM⟩ := hM
        refine zV_iald O (zN_a3 hN) (zN_lt hN (k := 3) (by decide)) hc dX3_holderInNet_29 ?_
        refine zV_iload_n O dX3_holderInNet_30 rfl rfl ?_
        refine zV_icmp_eq (tgt := 43) O dX3_holderInNet_31 (by decide) (fun hc => ?_) (fun hc => ?_)
        · replace hM := hM.1 hc
          refine zV_iload_n O dX3_holderInNet_43 rfl rfl ?_
          exact zV_iret O rfl ⟨rfl, _, rfl, hM⟩ (Nat.le_of_ble_eq_true rfl) (Nat.le_of_ble_eq_true rfl) dX3_holderInNet_44
        · replace hM := hM.2 hc
          refine zV_aload_n O dX3_holderInNet_34 rfl rfl ?_
          refine zV_iload_n O dX3_holderInNet_35 rfl rfl ?_
          refine zV_callV (as := [aI v3]) (st := []) O zc_X3_keptBy (Or.inl zl_RX3_81) zi_630 zi_27 (zN_o hN) rfl rfl (zN_lt0 hN) (Nat.le_of_ble_eq_true rfl) rfl rfl (Nat.le_of_ble_eq_true rfl) (Nat.le_of_ble_eq_true rfl) (Nat.le_of_ble_eq_true rfl) (Nat.le_of_ble_eq_true rfl) (Nat.le_of_ble_eq_true rfl) (Nat.le_of_ble_eq_true rfl) dX3_holderInNet_36 (sX3_keptBy hN hM) (fun r h9 hq => ?_) (fun x h9 hq => hq.elim)
          obtain ⟨rfl, z8, rfl, hM⟩ := hq
          refine zV_iload_n O dX3_holderInNet_39 rfl rfl ?_
          refine zV_icmp_ne (tgt := 45) O dX3_holderInNet_40 (by decide) (fun hc => ?_) (fun hc => ?_)
          · replace hM := hM.1 hc
            exact sX3_holderInNet_b45 O hN hK2 hM
          · replace hM := hM.2 hc
            refine zV_iload_n O dX3_holderInNet_43 rfl rfl ?_
            exact zV_iret O rfl ⟨rfl, _, rfl, hM⟩ (Nat.le_of_ble_eq_true rfl) (Nat.le_of_ble_eq_true rfl) dX3_holderInNet_44
def mX3_holderInNet (o : Nat) (x1 : Int) (x2 : Int) (h : Hp) (Q : Int → Prop) : Prop := (∃ ff, mX3_holderInNet_b2 o h Q ff x1 x2 0)
set_option maxHeartbeats 4000000 in
set_option maxRecDepth 100000 in
theorem sX3_holderInNet {l0 : Launch} {o : Nat} {x1 : Int} {x2 : Int} {h : Hp} {Q : Int → Prop} (hN : zisN o) (hM : mX3_holderInNet o x1 x2 h Q) : zSp l0 yX3_holderInNet cX3_holderInNet 4 (some .int) 185 (3) 0 0 [aR o, aI x1, aI x2] h (qPI h Q) xN := by
  unfold mX3_holderInNet at hM
  refine zSp_intro zpn_RX3 (Nat.le_of_ble_eq_true rfl) (fun a O => ?_)
  show zV a (3, 0, 0, (qPI h Q), xN) 0 0 0 [some (aR o), some (aI x1), some (aI x2), none] [] h
  refine zV_iconst (z := 0) O ⟨by omega, by omega⟩ dX3_holderInNet_0 ?_
  refine zV_istore_n O dX3_holderInNet_1 rfl (Nat.le_of_ble_eq_true rfl) rfl ?_
  obtain ⟨ff, hM⟩ := hM
  exact sX3_holderInNet_b2 O hN ff _ _ _ hM
def mX3_holderInOffice_b41 (o : Nat) (h : Hp) (Q : Int → Prop) (K2 : Int → Int → Int → Prop) (v1 : Int) (v2 : Int) (v3 : Int) : Prop := (zr (v3 + 1) ∧ (K2 v1 v2 (v3 + 1)))
set_option maxHeartbeats 4000000 in
set_option maxRecDepth 100000 in
theorem sX3_holderInOffice_b41 {l0 : Launch} {a : ZC} {o : Nat} {h : Hp} {Q : Int → Prop} {K2 : Int → Int → Int → Prop} (O : zOk l0 a cX3_holderInOffice RX3 4 (some .int) 185 []) (hN : zisN o) (hK2 : ∀ (v1 : Int) (v2 : Int) (v3 : Int), K2 v1 v2 v3 → zV a (3, 0, 0, (qPI h Q), xN) 0 0 2 [some (aR o), some (aI v1), some (aI v2), some (aI v3)] [] h) {v1 : Int} {v2 : Int} {v3 : Int}   (hM : mX3_holderInOffice_b41 o h Q K2 v1 v2 v3) : zV a (3, 0, 0, (qPI h Q), xN) 0 0 41 [some (aR o), some (aI v1), some (aI v2), some (aI v3)] [] h := by
  unfold mX3_holderInOffice_b41 at hM
  obtain ⟨hc, hM⟩ := hM
  refine zV_iinc O dX3_holderInOffice_41 rfl (Nat.le_of_ble_eq_true rfl) rfl hc ?_
  refine zV_goto (tgt := 2) O dX3_holderInOffice_44 (by decide) ?_
  exact hK2 _ _ _ hM
def mX3_holderInOffice_b2 (o : Nat) (h : Hp) (Q : Int → Prop) : Nat → Int → Int → Int → Prop
  | 0 => fun _ _ _ => False
  | fu2 + 1 => fun v1 v2 v3 => (((h o 0) ≤ v3 → (Q (-1))) ∧ (¬ (h o 0) ≤ v3 → (((0 : Int) ≤ v3 ∧ v3 < 40) ∧ ((¬ (rd h (o + 2) v3) = v1 → (mX3_holderInOffice_b41 o h Q (mX3_holderInOffice_b2 o h Q fu2) v1 v2 v3)) ∧ ((rd h (o + 2) v3) = v1 → (((0 : Int) ≤ v3 ∧ v3 < 40) ∧ (((rd h (o + 3) v3) = v2 → (Q v3)) ∧ (¬ (rd h (o + 3) v3) = v2 → (mX3_keptBy o v3 h (fun z4 => ((¬ z4 = v2 → (mX3_holderInOffice_b41 o h Q (mX3_holderInOffice_b2 o h Q fu2) v1 v2 v3)) ∧ (z4 = v2 → (Q v3)))))))))))))
set_option maxHeartbeats 4000000 in
set_option maxRecDepth 100000 in
theorem sX3_holderInOffice_b2 {l0 : Launch} {a : ZC} {o : Nat} {h : Hp} {Q : Int → Prop}  (O : zOk l0 a cX3_holderInOffice RX3 4 (some .int) 185 []) (hN : zisN o)  : ∀ (ff : Nat) (v1 : Int) (v2 : Int) (v3 : Int) , mX3_holderInOffice_b2 o h Q ff v1 v2 v3 → zV a (3, 0, 0, (qPI h Q), xN) 0 0 2 [some (aR o), some (aI v1), some (aI v2), some (aI v3)] [] h := by
  intro ff
  induction ff with
  | zero => intro v1 v2 v3 hM; exact hM.elim
  | succ ff ih =>
    have hK2 := ih
    intro v1 v2 v3 hM
    unfold mX3_holderInOffice_b2 at hM
    refine zV_iload_n O dX3_holderInOffice_2 rfl rfl ?_
    refine zV_aload_n O dX3_holderInOffice_3 rfl rfl ?_
    refine zV_getI O zf_RX3_49 (zN_o hN) rfl (zN_lt0 hN) dX3_holderInOffice_4 ?_
    refine zV_icmp_ge (tgt := 47) O dX3_holderInOffice_7 (by decide) (fun hc => ?_) (fun hc => ?_)
    · replace hM := hM.1 hc
      refine zV_iconst (z := -1) O ⟨by omega, by omega⟩ dX3_holderInOffice_47 ?_
      exact zV_iret O rfl ⟨rfl, _, rfl, hM⟩ (Nat.le_of_ble_eq_true rfl) (Nat.le_of_ble_eq_true rfl) dX3_holderInOffice_48
    · replace hM := hM.2 hc
      refine zV_aload_n O dX3_holderInOffice_10 rfl rfl ?_
      refine zV_getR O zf_RX3_15 (zN_o hN) rfl (zN_lt0 hN) dX3_holderInOffice_11 ?_
      refine zV_iload_n O dX3_holderInOffice_14 rfl rfl ?_
      obtain ⟨hc, hM⟩ := hM
      refine zV_iald O (zN_a2 hN) (zN_lt hN (k := 2) (by decide)) hc dX3_holderInOffice_15 ?_
      refine zV_iload_n O dX3_holderInOffice_16 rfl rfl ?_
      refine zV_icmp_ne (tgt := 41) O dX3_holderInOffice_17 (by decide) (fun hc => ?_) (fun hc => ?_)
      · replace hM := hM.1 hc
        exact sX3_holderInOffice_b41 O hN hK2 hM
      · replace hM := hM.2 hc
        refine zV_aload_n O dX3_holderInOffice_20 rfl rfl ?_
        refine zV_getR O zf_RX3_19 (zN_o hN) rfl (zN_lt0 hN) dX3_holderInOffice_21 ?_
        refine zV_iload_n O dX3_holderInOffice_24 rfl rfl ?_
        obtain ⟨hc, hM⟩ := hM
        refine zV_iald O (zN_a3 hN) (zN_lt hN (k := 3) (by decide)) hc dX3_holderInOffice_25 ?_
        refine zV_iload_n O dX3_holderInOffice_26 rfl rfl ?_
        refine zV_icmp_eq (tgt := 39) O dX3_holderInOffice_27 (by decide) (fun hc => ?_) (fun hc => ?_)
        · replace hM := hM.1 hc
          refine zV_iload_n O dX3_holderInOffice_39 rfl rfl ?_
          exact zV_iret O rfl ⟨rfl, _, rfl, hM⟩ (Nat.le_of_ble_eq_true rfl) (Nat.le_of_ble_eq_true rfl) dX3_holderInOffice_40
        · replace hM := hM.2 hc
          refine zV_aload_n O dX3_holderInOffice_30 rfl rfl ?_
          refine zV_iload_n O dX3_holderInOffice_31 rfl rfl ?_
          refine zV_callV (as := [aI v3]) (st := []) O zc_X3_keptBy (Or.inl zl_RX3_81) zi_630 zi_27 (zN_o hN) rfl rfl (zN_lt0 hN) (Nat.le_of_ble_eq_true rfl) rfl rfl (Nat.le_of_ble_eq_true rfl) (Nat.le_of_ble_eq_true rfl) (Nat.le_of_ble_eq_true rfl) (Nat.le_of_ble_eq_true rfl) (Nat.le_of_ble_eq_true rfl) (Nat.le_of_ble_eq_true rfl) dX3_holderInOffice_32 (sX3_keptBy hN hM) (fun r h9 hq => ?_) (fun x h9 hq => hq.elim)
          obtain ⟨rfl, z4, rfl, hM⟩ := hq
          refine zV_iload_n O dX3_holderInOffice_35 rfl rfl ?_
          refine zV_icmp_ne (tgt := 41) O dX3_holderInOffice_36 (by decide) (fun hc => ?_) (fun hc => ?_)
          · replace hM := hM.1 hc
            exact sX3_holderInOffice_b41 O hN hK2 hM
          · replace hM := hM.2 hc
            refine zV_iload_n O dX3_holderInOffice_39 rfl rfl ?_
            exact zV_iret O rfl ⟨rfl, _, rfl, hM⟩ (Nat.le_of_ble_eq_true rfl) (Nat.le_of_ble_eq_true rfl) dX3_holderInOffice_40
def mX3_holderInOffice (o : Nat) (x1 : Int) (x2 : Int) (h : Hp) (Q : Int → Prop) : Prop := (∃ ff, mX3_holderInOffice_b2 o h Q ff x1 x2 0)
set_option maxHeartbeats 4000000 in
set_option maxRecDepth 100000 in
theorem sX3_holderInOffice {l0 : Launch} {o : Nat} {x1 : Int} {x2 : Int} {h : Hp} {Q : Int → Prop} (hN : zisN o) (hM : mX3_holderInOffice o x1 x2 h Q) : zSp l0 yX3_holderInOffice cX3_holderInOffice 4 (some .int) 185 (3) 0 0 [aR o, aI x1, aI x2] h (qPI h Q) xN := by
  unfold mX3_holderInOffice at hM
  refine zSp_intro zpn_RX3 (Nat.le_of_ble_eq_true rfl) (fun a O => ?_)
  show zV a (3, 0, 0, (qPI h Q), xN) 0 0 0 [some (aR o), some (aI x1), some (aI x2), none] [] h
  refine zV_iconst (z := 0) O ⟨by omega, by omega⟩ dX3_holderInOffice_0 ?_
  refine zV_istore_n O dX3_holderInOffice_1 rfl (Nat.le_of_ble_eq_true rfl) rfl ?_
  obtain ⟨ff, hM⟩ := hM
  exact sX3_holderInOffice_b2 O hN ff _ _ _ hM
def mX3_keeperCount_b26 (o : Nat) (h : Hp) (Q : Int → Prop) (K4 : Int → Int → Prop) (v2 : Int) (s0 : Int) (s1 : Int) : Prop := (zr (s1 + s0) ∧ (zr (v2 + 1) ∧ (K4 (s1 + s0) (v2 + 1))))
set_option maxHeartbeats 4000000 in
set_option maxRecDepth 100000 in
theorem sX3_keeperCount_b26 {l0 : Launch} {a : ZC} {o : Nat} {h : Hp} {Q : Int → Prop} {K4 : Int → Int → Prop} (O : zOk l0 a cX3_keeperCount RX3 3 (some .int) 185 []) (hN : zisN o) (hK4 : ∀ (v1 : Int) (v2 : Int), K4 v1 v2 → zV a (3, 0, 0, (qPI h Q), xN) 0 0 4 [some (aR o), some (aI v1), some (aI v2)] [] h) {v2 : Int} {s0 : Int} {s1 : Int}  (hz_s0 : s0 = 0 ∨ s0 = 1) (hM : mX3_keeperCount_b26 o h Q K4 v2 s0 s1) : zV a (3, 0, 0, (qPI h Q), xN) 0 0 26 [some (aR o), none, some (aI v2)] [aI s0, aI s1] h := by
  unfold mX3_keeperCount_b26 at hM
  obtain ⟨hc, hM⟩ := hM
  refine zV_iadd O dX3_keeperCount_26 hc ?_
  refine zV_istore_n O dX3_keeperCount_27 rfl (Nat.le_of_ble_eq_true rfl) rfl ?_
  obtain ⟨hc, hM⟩ := hM
  refine zV_iinc O dX3_keeperCount_28 rfl (Nat.le_of_ble_eq_true rfl) rfl hc ?_
  refine zV_goto (tgt := 4) O dX3_keeperCount_31 (by decide) ?_
  exact hK4 _ _ hM
def mX3_keeperCount_b4 (o : Nat) (h : Hp) (Q : Int → Prop) : Nat → Int → Int → Prop
  | 0 => fun _ _ => False
  | fu4 + 1 => fun v1 v2 => (((h o 0) ≤ v2 → (Q v1)) ∧ (¬ (h o 0) ≤ v2 → (mX3_keptBy o v2 h (fun z4 => ((z4 = 0 → (mX3_keeperCount_b26 o h Q (mX3_keeperCount_b4 o h Q fu4) v2 0 v1)) ∧ (¬ z4 = 0 → (mX3_keeperCount_b26 o h Q (mX3_keeperCount_b4 o h Q fu4) v2 1 v1)))))))
set_option maxHeartbeats 4000000 in
set_option maxRecDepth 100000 in
theorem sX3_keeperCount_b4 {l0 : Launch} {a : ZC} {o : Nat} {h : Hp} {Q : Int → Prop}  (O : zOk l0 a cX3_keeperCount RX3 3 (some .int) 185 []) (hN : zisN o)  : ∀ (ff : Nat) (v1 : Int) (v2 : Int) , mX3_keeperCount_b4 o h Q ff v1 v2 → zV a (3, 0, 0, (qPI h Q), xN) 0 0 4 [some (aR o), some (aI v1), some (aI v2)] [] h := by
  intro ff
  induction ff with
  | zero => intro v1 v2 hM; exact hM.elim
  | succ ff ih =>
    have hK4 := ih
    intro v1 v2 hM
    unfold mX3_keeperCount_b4 at hM
    refine zV_iload_n O dX3_keeperCount_4 rfl rfl ?_
    refine zV_aload_n O dX3_keeperCount_5 rfl rfl ?_
    refine zV_getI O zf_RX3_49 (zN_o hN) rfl (zN_lt0 hN) dX3_keeperCount_6 ?_
    refine zV_icmp_ge (tgt := 34) O dX3_keeperCount_9 (by decide) (fun hc => ?_) (fun hc => ?_)
    · replace hM := hM.1 hc
      refine zV_iload_n O dX3_keeperCount_34 rfl rfl ?_
      exact zV_iret O rfl ⟨rfl, _, rfl, hM⟩ (Nat.le_of_ble_eq_true rfl) (Nat.le_of_ble_eq_true rfl) dX3_keeperCount_35
    · replace hM := hM.2 hc
      refine zV_iload_n O dX3_keeperCount_12 rfl rfl ?_
      refine zV_aload_n O dX3_keeperCount_13 rfl rfl ?_
      refine zV_iload_n O dX3_keeperCount_14 rfl rfl ?_
      refine zV_callV (as := [aI v2]) (st := [aI v1]) O zc_X3_keptBy (Or.inl zl_RX3_81) zi_630 zi_27 (zN_o hN) rfl rfl (zN_lt0 hN) (Nat.le_of_ble_eq_true rfl) rfl rfl (Nat.le_of_ble_eq_true rfl) (Nat.le_of_ble_eq_true rfl) (Nat.le_of_ble_eq_true rfl) (Nat.le_of_ble_eq_true rfl) (Nat.le_of_ble_eq_true rfl) (Nat.le_of_ble_eq_true rfl) dX3_keeperCount_15 (sX3_keptBy hN hM) (fun r h9 hq => ?_) (fun x h9 hq => hq.elim)
      obtain ⟨rfl, z4, rfl, hM⟩ := hq
      refine zV_if_eq (tgt := 25) O dX3_keeperCount_18 (by decide) (fun hc => ?_) (fun hc => ?_)
      · replace hM := hM.1 hc
        refine zV_iconst (z := 0) O ⟨by omega, by omega⟩ dX3_keeperCount_25 ?_
        refine zV_sub (ls2 := [some (aR o), none, some (aI v2)]) ⟨rfl, rfl, trivial⟩ ?_
        exact sX3_keeperCount_b26 O hN hK4 (Or.inl rfl) hM
      · replace hM := hM.2 hc
        refine zV_iconst (z := 1) O ⟨by omega, by omega⟩ dX3_keeperCount_21 ?_
        refine zV_goto (tgt := 26) O dX3_keeperCount_22 (by decide) ?_
        refine zV_sub (ls2 := [some (aR o), none, some (aI v2)]) ⟨rfl, rfl, trivial⟩ ?_
        exact sX3_keeperCount_b26 O hN hK4 (Or.inr rfl) hM
def mX3_keeperCount (o : Nat) (h : Hp) (Q : Int → Prop) : Prop := (∃ ff, mX3_keeperCount_b4 o h Q ff 0 0)
set_option maxHeartbeats 4000000 in
set_option maxRecDepth 100000 in
theorem sX3_keeperCount {l0 : Launch} {o : Nat} {h : Hp} {Q : Int → Prop} (hN : zisN o) (hM : mX3_keeperCount o h Q) : zSp l0 yX3_keeperCount cX3_keeperCount 3 (some .int) 185 (3) 0 0 [aR o] h (qPI h Q) xN := by
  unfold mX3_keeperCount at hM
  refine zSp_intro zpn_RX3 (Nat.le_of_ble_eq_true rfl) (fun a O => ?_)
  show zV a (3, 0, 0, (qPI h Q), xN) 0 0 0 [some (aR o), none, none] [] h
  refine zV_iconst (z := 0) O ⟨by omega, by omega⟩ dX3_keeperCount_0 ?_
  refine zV_istore_n O dX3_keeperCount_1 rfl (Nat.le_of_ble_eq_true rfl) rfl ?_
  refine zV_iconst (z := 0) O ⟨by omega, by omega⟩ dX3_keeperCount_2 ?_
  refine zV_istore_n O dX3_keeperCount_3 rfl (Nat.le_of_ble_eq_true rfl) rfl ?_
  obtain ⟨ff, hM⟩ := hM
  exact sX3_keeperCount_b4 O hN ff _ _ hM
def mX3_sideAheadOfWave (o : Nat) (x1 : Int) (x2 : Int) (h : Hp) (Q : Int → Prop) : Prop := (mX3_numberedInNet o x1 x2 h (fun z3 => ((z3 = ((-1) : Int) → (Q x2)) ∧ (¬ z3 = ((-1) : Int) → (((0 : Int) ≤ z3 ∧ z3 < 40) ∧ ((¬ (rd h (o + 7) z3) = (h o 2) → (Q x2)) ∧ ((rd h (o + 7) z3) = (h o 2) → (mX3_numberAhead o z3 (h o 2) h (fun z4 => (Q z4))))))))))
set_option maxHeartbeats 4000000 in
set_option maxRecDepth 100000 in
theorem sX3_sideAheadOfWave {l0 : Launch} {o : Nat} {x1 : Int} {x2 : Int} {h : Hp} {Q : Int → Prop} (hN : zisN o) (hM : mX3_sideAheadOfWave o x1 x2 h Q) : zSp l0 yX3_sideAheadOfWave cX3_sideAheadOfWave 4 (some .int) 185 (3) 0 0 [aR o, aI x1, aI x2] h (qPI h Q) xN := by
  unfold mX3_sideAheadOfWave at hM
  refine zSp_intro zpn_RX3 (Nat.le_of_ble_eq_true rfl) (fun a O => ?_)
  show zV a (3, 0, 0, (qPI h Q), xN) 0 0 0 [some (aR o), some (aI x1), some (aI x2), none] [] h
  refine zV_aload_n O dX3_sideAheadOfWave_0 rfl rfl ?_
  refine zV_iload_n O dX3_sideAheadOfWave_1 rfl rfl ?_
  refine zV_iload_n O dX3_sideAheadOfWave_2 rfl rfl ?_
  refine zV_callV (as := [aI x1, aI x2]) (st := []) O zc_X3_numberedInNet (Or.inl zl_RX3_127) zi_815 zi_51 (zN_o hN) rfl rfl (zN_lt0 hN) (Nat.le_of_ble_eq_true rfl) rfl rfl (Nat.le_of_ble_eq_true rfl) (Nat.le_of_ble_eq_true rfl) (Nat.le_of_ble_eq_true rfl) (Nat.le_of_ble_eq_true rfl) (Nat.le_of_ble_eq_true rfl) (Nat.le_of_ble_eq_true rfl) dX3_sideAheadOfWave_3 (sX3_numberedInNet hN hM) (fun r h9 hq => ?_) (fun x h9 hq => hq.elim)
  obtain ⟨rfl, z3, rfl, hM⟩ := hq
  refine zV_istore_n O dX3_sideAheadOfWave_6 rfl (Nat.le_of_ble_eq_true rfl) rfl ?_
  refine zV_iload_n O dX3_sideAheadOfWave_7 rfl rfl ?_
  refine zV_iconst (z := -1) O ⟨by omega, by omega⟩ dX3_sideAheadOfWave_8 ?_
  refine zV_icmp_eq (tgt := 37) O dX3_sideAheadOfWave_9 (by decide) (fun hc => ?_) (fun hc => ?_)
  · replace hM := hM.1 hc
    refine zV_iload_n O dX3_sideAheadOfWave_37 rfl rfl ?_
    exact zV_iret O rfl ⟨rfl, _, rfl, hM⟩ (Nat.le_of_ble_eq_true rfl) (Nat.le_of_ble_eq_true rfl) dX3_sideAheadOfWave_38
  · replace hM := hM.2 hc
    refine zV_aload_n O dX3_sideAheadOfWave_12 rfl rfl ?_
    refine zV_getR O zf_RX3_31 (zN_o hN) rfl (zN_lt0 hN) dX3_sideAheadOfWave_13 ?_
    refine zV_iload_n O dX3_sideAheadOfWave_16 rfl rfl ?_
    obtain ⟨hc, hM⟩ := hM
    refine zV_iald O (zN_a7 hN) (zN_lt hN (k := 7) (by decide)) hc dX3_sideAheadOfWave_17 ?_
    refine zV_aload_n O dX3_sideAheadOfWave_18 rfl rfl ?_
    refine zV_getI O zf_RX3_56 (zN_o hN) rfl (zN_lt0 hN) dX3_sideAheadOfWave_19 ?_
    refine zV_icmp_ne (tgt := 37) O dX3_sideAheadOfWave_22 (by decide) (fun hc => ?_) (fun hc => ?_)
    · replace hM := hM.1 hc
      refine zV_iload_n O dX3_sideAheadOfWave_37 rfl rfl ?_
      exact zV_iret O rfl ⟨rfl, _, rfl, hM⟩ (Nat.le_of_ble_eq_true rfl) (Nat.le_of_ble_eq_true rfl) dX3_sideAheadOfWave_38
    · replace hM := hM.2 hc
      refine zV_aload_n O dX3_sideAheadOfWave_25 rfl rfl ?_
      refine zV_iload_n O dX3_sideAheadOfWave_26 rfl rfl ?_
      refine zV_aload_n O dX3_sideAheadOfWave_27 rfl rfl ?_
      refine zV_getI O zf_RX3_56 (zN_o hN) rfl (zN_lt0 hN) dX3_sideAheadOfWave_28 ?_
      refine zV_callV (as := [aI z3, aI (h o 2)]) (st := []) O zc_X3_numberAhead (Or.inl zl_RX3_92) zi_638 zi_29 (zN_o hN) rfl rfl (zN_lt0 hN) (Nat.le_of_ble_eq_true rfl) rfl rfl (Nat.le_of_ble_eq_true rfl) (Nat.le_of_ble_eq_true rfl) (Nat.le_of_ble_eq_true rfl) (Nat.le_of_ble_eq_true rfl) (Nat.le_of_ble_eq_true rfl) (Nat.le_of_ble_eq_true rfl) dX3_sideAheadOfWave_31 (sX3_numberAhead hN hM) (fun r h9 hq => ?_) (fun x h9 hq => hq.elim)
      obtain ⟨rfl, z4, rfl, hM⟩ := hq
      refine zV_goto (tgt := 38) O dX3_sideAheadOfWave_34 (by decide) ?_
      exact zV_iret O rfl ⟨rfl, _, rfl, hM⟩ (Nat.le_of_ble_eq_true rfl) (Nat.le_of_ble_eq_true rfl) dX3_sideAheadOfWave_38
def mX3_sideBehindWave (o : Nat) (x1 : Int) (x2 : Int) (h : Hp) (Q : Int → Prop) : Prop := (mX3_numberedInNet o x1 x2 h (fun z2 => ((z2 = ((-1) : Int) → (Q x2)) ∧ (¬ z2 = ((-1) : Int) → (((0 : Int) ≤ z2 ∧ z2 < 40) ∧ ((¬ (rd h (o + 6) z2) = (h o 2) → (Q x2)) ∧ ((rd h (o + 6) z2) = (h o 2) → (((0 : Int) ≤ z2 ∧ z2 < 40) ∧ (Q (rd h (o + 5) z2))))))))))
set_option maxHeartbeats 4000000 in
set_option maxRecDepth 100000 in
theorem sX3_sideBehindWave {l0 : Launch} {o : Nat} {x1 : Int} {x2 : Int} {h : Hp} {Q : Int → Prop} (hN : zisN o) (hM : mX3_sideBehindWave o x1 x2 h Q) : zSp l0 yX3_sideBehindWave cX3_sideBehindWave 4 (some .int) 185 (3) 0 0 [aR o, aI x1, aI x2] h (qPI h Q) xN := by
  unfold mX3_sideBehindWave at hM
  refine zSp_intro zpn_RX3 (Nat.le_of_ble_eq_true rfl) (fun a O => ?_)
  show zV a (3, 0, 0, (qPI h Q), xN) 0 0 0 [some (aR o), some (aI x1), some (aI x2), none] [] h
  refine zV_aload_n O dX3_sideBehindWave_0 rfl rfl ?_
  refine zV_iload_n O dX3_sideBehindWave_1 rfl rfl ?_
  refine zV_iload_n O dX3_sideBehindWave_2 rfl rfl ?_
  refine zV_callV (as := [aI x1, aI x2]) (st := []) O zc_X3_numberedInNet (Or.inl zl_RX3_127) zi_815 zi_51 (zN_o hN) rfl rfl (zN_lt0 hN) (Nat.le_of_ble_eq_true rfl) rfl rfl (Nat.le_of_ble_eq_true rfl) (Nat.le_of_ble_eq_true rfl) (Nat.le_of_ble_eq_true rfl) (Nat.le_of_ble_eq_true rfl) (Nat.le_of_ble_eq_true rfl) (Nat.le_of_ble_eq_true rfl) dX3_sideBehindWave_3 (sX3_numberedInNet hN hM) (fun r h9 hq => ?_) (fun x h9 hq => hq.elim)
  obtain ⟨rfl, z2, rfl, hM⟩ := hq
  refine zV_istore_n O dX3_sideBehindWave_6 rfl (Nat.le_of_ble_eq_true rfl) rfl ?_
  refine zV_iload_n O dX3_sideBehindWave_7 rfl rfl ?_
  refine zV_iconst (z := -1) O ⟨by omega, by omega⟩ dX3_sideBehindWave_8 ?_
  refine zV_icmp_eq (tgt := 34) O dX3_sideBehindWave_9 (by decide) (fun hc => ?_) (fun hc => ?_)
  · replace hM := hM.1 hc
    refine zV_iload_n O dX3_sideBehindWave_34 rfl rfl ?_
    exact zV_iret O rfl ⟨rfl, _, rfl, hM⟩ (Nat.le_of_ble_eq_true rfl) (Nat.le_of_ble_eq_true rfl) dX3_sideBehindWave_35
  · replace hM := hM.2 hc
    refine zV_aload_n O dX3_sideBehindWave_12 rfl rfl ?_
    refine zV_getR O zf_RX3_28 (zN_o hN) rfl (zN_lt0 hN) dX3_sideBehindWave_13 ?_
    refine zV_iload_n O dX3_sideBehindWave_16 rfl rfl ?_
    obtain ⟨hc, hM⟩ := hM
    refine zV_iald O (zN_a6 hN) (zN_lt hN (k := 6) (by decide)) hc dX3_sideBehindWave_17 ?_
    refine zV_aload_n O dX3_sideBehindWave_18 rfl rfl ?_
    refine zV_getI O zf_RX3_56 (zN_o hN) rfl (zN_lt0 hN) dX3_sideBehindWave_19 ?_
    refine zV_icmp_ne (tgt := 34) O dX3_sideBehindWave_22 (by decide) (fun hc => ?_) (fun hc => ?_)
    · replace hM := hM.1 hc
      refine zV_iload_n O dX3_sideBehindWave_34 rfl rfl ?_
      exact zV_iret O rfl ⟨rfl, _, rfl, hM⟩ (Nat.le_of_ble_eq_true rfl) (Nat.le_of_ble_eq_true rfl) dX3_sideBehindWave_35
    · replace hM := hM.2 hc
      refine zV_aload_n O dX3_sideBehindWave_25 rfl rfl ?_
      refine zV_getR O zf_RX3_25 (zN_o hN) rfl (zN_lt0 hN) dX3_sideBehindWave_26 ?_
      refine zV_iload_n O dX3_sideBehindWave_29 rfl rfl ?_
      obtain ⟨hc, hM⟩ := hM
      refine zV_iald O (zN_a5 hN) (zN_lt hN (k := 5) (by decide)) hc dX3_sideBehindWave_30 ?_
      refine zV_goto (tgt := 35) O dX3_sideBehindWave_31 (by decide) ?_
      exact zV_iret O rfl ⟨rfl, _, rfl, hM⟩ (Nat.le_of_ble_eq_true rfl) (Nat.le_of_ble_eq_true rfl) dX3_sideBehindWave_35
def mX3_copyFrom (o : Nat) (o1 : Nat) (h : Hp) (Q : Hp → Prop) : Prop := (∀ h22 : Hp, h22 = hu h o 0 (h o1 0) → (∀ h23 : Hp, h23 = hu h22 o 1 (h22 o1 1) → (∀ h24 : Hp, h24 = hu h23 o 2 (h23 o1 2) → (∀ h25 : Hp, h25 = hu h24 o 3 (h24 o1 3) → (∀ h26 : Hp, h26 = hu h25 o 4 (h25 o1 4) → (∀ h27 : Hp, h27 = hu h26 o 5 (h26 o1 5) → (∀ h28 : Hp, h28 = hu h27 o 6 (h27 o1 6) → (∀ h30 : Hp, h30 = hu h28 o 7 (h28 o1 7) → (((0 : Int) ≤ 0 ∧ (0 : Int) ≤ 0 ∧ (0 : Int) ≤ 40 ∧ (0 : Int) + 40 ≤ 40 ∧ (0 : Int) + 40 ≤ 40) ∧ (∀ h31 : Hp, h31 = rcp h30 (o1 + 1) 0 (o + 1) 0 40 → (((0 : Int) ≤ 0 ∧ (0 : Int) ≤ 0 ∧ (0 : Int) ≤ 40 ∧ (0 : Int) + 40 ≤ 40 ∧ (0 : Int) + 40 ≤ 40) ∧ (∀ h32 : Hp, h32 = rcp h31 (o1 + 2) 0 (o + 2) 0 40 → (((0 : Int) ≤ 0 ∧ (0 : Int) ≤ 0 ∧ (0 : Int) ≤ 40 ∧ (0 : Int) + 40 ≤ 40 ∧ (0 : Int) + 40 ≤ 40) ∧ (∀ h33 : Hp, h33 = rcp h32 (o1 + 3) 0 (o + 3) 0 40 → (((0 : Int) ≤ 0 ∧ (0 : Int) ≤ 0 ∧ (0 : Int) ≤ 40 ∧ (0 : Int) + 40 ≤ 40 ∧ (0 : Int) + 40 ≤ 40) ∧ (∀ h34 : Hp, h34 = rcp h33 (o1 + 4) 0 (o + 4) 0 40 → (((0 : Int) ≤ 0 ∧ (0 : Int) ≤ 0 ∧ (0 : Int) ≤ 40 ∧ (0 : Int) + 40 ≤ 40 ∧ (0 : Int) + 40 ≤ 40) ∧ (∀ h35 : Hp, h35 = rcp h34 (o1 + 5) 0 (o + 5) 0 40 → (((0 : Int) ≤ 0 ∧ (0 : Int) ≤ 0 ∧ (0 : Int) ≤ 40 ∧ (0 : Int) + 40 ≤ 40 ∧ (0 : Int) + 40 ≤ 40) ∧ (∀ h36 : Hp, h36 = rcp h35 (o1 + 6) 0 (o + 6) 0 40 → (((0 : Int) ≤ 0 ∧ (0 : Int) ≤ 0 ∧ (0 : Int) ≤ 40 ∧ (0 : Int) + 40 ≤ 40 ∧ (0 : Int) + 40 ≤ 40) ∧ (∀ h37 : Hp, h37 = rcp h36 (o1 + 7) 0 (o + 7) 0 40 → (((0 : Int) ≤ 0 ∧ (0 : Int) ≤ 0 ∧ (0 : Int) ≤ 400 ∧ (0 : Int) + 400 ≤ 400 ∧ (0 : Int) + 400 ≤ 400) ∧ (∀ h38 : Hp, h38 = rcp h37 (o1 + 8) 0 (o + 8) 0 400 → (((0 : Int) ≤ 0 ∧ (0 : Int) ≤ 0 ∧ (0 : Int) ≤ 30 ∧ (0 : Int) + 30 ≤ 30 ∧ (0 : Int) + 30 ≤ 30) ∧ (∀ h39 : Hp, h39 = rcp h38 (o1 + 9) 0 (o + 9) 0 30 → (((0 : Int) ≤ 0 ∧ (0 : Int) ≤ 0 ∧ (0 : Int) ≤ 30 ∧ (0 : Int) + 30 ≤ 30 ∧ (0 : Int) + 30 ≤ 30) ∧ (∀ h40 : Hp, h40 = rcp h39 (o1 + 10) 0 (o + 10) 0 30 → (((0 : Int) ≤ 0 ∧ (0 : Int) ≤ 0 ∧ (0 : Int) ≤ 30 ∧ (0 : Int) + 30 ≤ 30 ∧ (0 : Int) + 30 ≤ 30) ∧ (∀ h41 : Hp, h41 = rcp h40 (o1 + 11) 0 (o + 11) 0 30 → (((0 : Int) ≤ 0 ∧ (0 : Int) ≤ 0 ∧ (0 : Int) ≤ 30 ∧ (0 : Int) + 30 ≤ 30 ∧ (0 : Int) + 30 ≤ 30) ∧ (∀ h42 : Hp, h42 = rcp h41 (o1 + 12) 0 (o + 12) 0 30 → (Q h42)))))))))))))))))))))))))))))))))
set_option maxHeartbeats 4000000 in
set_option maxRecDepth 100000 in
theorem sX3_copyFrom {l0 : Launch} {o : Nat} {o1 : Nat} {h : Hp} {Q : Hp → Prop} (hN : zisN o) (hN1 : zisN o1) (hM : mX3_copyFrom o o1 h Q) : zSp l0 yX3_copyFrom cX3_copyFrom 2 none 185 (4) 0 0 [aR o, aR o1] h (qV Q) xN := by
  unfold mX3_copyFrom at hM
  refine zSp_intro zpn_RX3 (Nat.le_of_ble_eq_true rfl) (fun a O => ?_)
  show zV a (4, 0, 0, (qV Q), xN) 0 0 0 [some (aR o), some (aR o1)] [] h
  refine zV_aload_n O dX3_copyFrom_0 rfl rfl ?_
  refine zV_aload_n O dX3_copyFrom_1 rfl rfl ?_
  refine zV_getI O zf_RX3_49 (zN_o hN1) rfl (zN_lt0 hN1) dX3_copyFrom_2 ?_
  refine zV_putI O zf_RX3_49 (zN_o hN) rfl (zN_lt0 hN) dX3_copyFrom_5 ?_
  have hM := hM _ rfl
  generalize hu h o 0 (h o1 0) = h22 at hM ⊢
  refine zV_aload_n O dX3_copyFrom_8 rfl rfl ?_
  refine zV_aload_n O dX3_copyFrom_9 rfl rfl ?_
  refine zV_getI O zf_RX3_53 (zN_o hN1) rfl (zN_lt0 hN1) dX3_copyFrom_10 ?_
  refine zV_putI O zf_RX3_53 (zN_o hN) rfl (zN_lt0 hN) dX3_copyFrom_13 ?_
  have hM := hM _ rfl
  generalize hu h22 o 1 (h22 o1 1) = h23 at hM ⊢
  refine zV_aload_n O dX3_copyFrom_16 rfl rfl ?_
  refine zV_aload_n O dX3_copyFrom_17 rfl rfl ?_
  refine zV_getI O zf_RX3_56 (zN_o hN1) rfl (zN_lt0 hN1) dX3_copyFrom_18 ?_
  refine zV_putI O zf_RX3_56 (zN_o hN) rfl (zN_lt0 hN) dX3_copyFrom_21 ?_
  have hM := hM _ rfl
  generalize hu h23 o 2 (h23 o1 2) = h24 at hM ⊢
  refine zV_aload_n O dX3_copyFrom_24 rfl rfl ?_
  refine zV_aload_n O dX3_copyFrom_25 rfl rfl ?_
  refine zV_getI O zf_RX3_59 (zN_o hN1) rfl (zN_lt0 hN1) dX3_copyFrom_26 ?_
  refine zV_putI O zf_RX3_59 (zN_o hN) rfl (zN_lt0 hN) dX3_copyFrom_29 ?_
  have hM := hM _ rfl
  generalize hu h24 o 3 (h24 o1 3) = h25 at hM ⊢
  refine zV_aload_n O dX3_copyFrom_32 rfl rfl ?_
  refine zV_aload_n O dX3_copyFrom_33 rfl rfl ?_
  refine zV_getI O zf_RX3_62 (zN_o hN1) rfl (zN_lt0 hN1) dX3_copyFrom_34 ?_
  refine zV_putI O zf_RX3_62 (zN_o hN) rfl (zN_lt0 hN) dX3_copyFrom_37 ?_
  have hM := hM _ rfl
  generalize hu h25 o 4 (h25 o1 4) = h26 at hM ⊢
  refine zV_aload_n O dX3_copyFrom_40 rfl rfl ?_
  refine zV_aload_n O dX3_copyFrom_41 rfl rfl ?_
  refine zV_getI O zf_RX3_65 (zN_o hN1) rfl (zN_lt0 hN1) dX3_copyFrom_42 ?_
  refine zV_putI O zf_RX3_65 (zN_o hN) rfl (zN_lt0 hN) dX3_copyFrom_45 ?_
  have hM := hM _ rfl
  generalize hu h26 o 5 (h26 o1 5) = h27 at hM ⊢
  refine zV_aload_n O dX3_copyFrom_48 rfl rfl ?_
  refine zV_aload_n O dX3_copyFrom_49 rfl rfl ?_
  refine zV_getI O zf_RX3_68 (zN_o hN1) rfl (zN_lt0 hN1) dX3_copyFrom_50 ?_
  refine zV_putI O zf_RX3_68 (zN_o hN) rfl (zN_lt0 hN) dX3_copyFrom_53 ?_
  have hM := hM _ rfl
  generalize hu h27 o 6 (h27 o1 6) = h28 at hM ⊢
  refine zV_aload_n O dX3_copyFrom_56 rfl rfl ?_
  refine zV_aload_n O dX3_copyFrom_57 rfl rfl ?_
  refine zV_getZ O zf_RX3_71 (zN_o hN1) rfl (zN_lt0 hN1) dX3_copyFrom_58 (fun hz29 => ?_)
  refine zV_putZ O zf_RX3_71 (zN_o hN) rfl (zN_lt0 hN) hz29 dX3_copyFrom_61 ?_
  have hM := hM _ rfl
  generalize hu h28 o 7 (h28 o1 7) = h30 at hM ⊢
  refine zV_aload_n O dX3_copyFrom_64 rfl rfl ?_
  refine zV_getR O zf_RX3_9 (zN_o hN1) rfl (zN_lt0 hN1) dX3_copyFrom_65 ?_
  refine zV_iconst (z := 0) O ⟨by omega, by omega⟩ dX3_copyFrom_68 ?_
  refine zV_aload_n O dX3_copyFrom_69 rfl rfl ?_
  refine zV_getR O zf_RX3_9 (zN_o hN) rfl (zN_lt0 hN) dX3_copyFrom_70 ?_
  refine zV_iconst (z := 0) O ⟨by omega, by omega⟩ dX3_copyFrom_73 ?_
  refine zV_bipush (z := 40) O ⟨by omega, by omega⟩ rfl dX3_copyFrom_74 ?_
  obtain ⟨⟨c1, c2, c3, c4, c5⟩, hM⟩ := hM
  refine zV_copyL O zi_678 zi_680 zi_679 zi_89 (zN_a1 hN1) (zN_a1 hN) (zN_lt hN1 (k := 1) (by decide)) (zN_lt hN (k := 1) (by decide)) c1 c2 c3 c4 c5 (Nat.le_of_ble_eq_true rfl) (Nat.le_of_ble_eq_true rfl) dX3_copyFrom_76 ?_
  have hM := hM (hcp h30 (o1 + 1) (Int.toNat 0) (o + 1) (Int.toNat 0) (Int.toNat 40)) rfl
  generalize hcp h30 (o1 + 1) (Int.toNat 0) (o + 1) (Int.toNat 0) (Int.toNat 40) = h31 at hM ⊢
  refine zV_aload_n O dX3_copyFrom_79 rfl rfl ?_
  refine zV_getR O zf_RX3_15 (zN_o hN1) rfl (zN_lt0 hN1) dX3_copyFrom_80 ?_
  refine zV_iconst (z := 0) O ⟨by omega, by omega⟩ dX3_copyFrom_83 ?_
  refine zV_aload_n O dX3_copyFrom_84 rfl rfl ?_
  refine zV_getR O zf_RX3_15 (zN_o hN) rfl (zN_lt0 hN) dX3_copyFrom_85 ?_
  refine zV_iconst (z := 0) O ⟨by omega, by omega⟩ dX3_copyFrom_88 ?_
  refine zV_bipush (z := 40) O ⟨by omega, by omega⟩ rfl dX3_copyFrom_89 ?_
  obtain ⟨⟨c1, c2, c3, c4, c5⟩, hM⟩ := hM
  refine zV_copyI O zi_678 zi_680 zi_679 zi_89 (zN_a2 hN1) (zN_a2 hN) (zN_lt hN1 (k := 2) (by decide)) (zN_lt hN (k := 2) (by decide)) c1 c2 c3 c4 c5 (Nat.le_of_ble_eq_true rfl) (Nat.le_of_ble_eq_true rfl) dX3_copyFrom_91 ?_
  have hM := hM (hcp h31 (o1 + 2) (Int.toNat 0) (o + 2) (Int.toNat 0) (Int.toNat 40)) rfl
  generalize hcp h31 (o1 + 2) (Int.toNat 0) (o + 2) (Int.toNat 0) (Int.toNat 40) = h32 at hM ⊢
  refine zV_aload_n O dX3_copyFrom_94 rfl rfl ?_
  refine zV_getR O zf_RX3_19 (zN_o hN1) rfl (zN_lt0 hN1) dX3_copyFrom_95 ?_
  refine zV_iconst (z := 0) O ⟨by omega, by omega⟩ dX3_copyFrom_98 ?_
  refine zV_aload_n O dX3_copyFrom_99 rfl rfl ?_
  refine zV_getR O zf_RX3_19 (zN_o hN) rfl (zN_lt0 hN) dX3_copyFrom_100 ?_
  refine zV_iconst (z := 0) O ⟨by omega, by omega⟩ dX3_copyFrom_103 ?_
  refine zV_bipush (z := 40) O ⟨by omega, by omega⟩ rfl dX3_copyFrom_104 ?_
  obtain ⟨⟨c1, c2, c3, c4, c5⟩, hM⟩ := hM
  refine zV_copyI O zi_678 zi_680 zi_679 zi_89 (zN_a3 hN1) (zN_a3 hN) (zN_lt hN1 (k := 3) (by decide)) (zN_lt hN (k := 3) (by decide)) c1 c2 c3 c4 c5 (Nat.le_of_ble_eq_true rfl) (Nat.le_of_ble_eq_true rfl) dX3_copyFrom_106 ?_
  have hM := hM (hcp h32 (o1 + 3) (Int.toNat 0) (o + 3) (Int.toNat 0) (Int.toNat 40)) rfl
  generalize hcp h32 (o1 + 3) (Int.toNat 0) (o + 3) (Int.toNat 0) (Int.toNat 40) = h33 at hM ⊢
  refine zV_aload_n O dX3_copyFrom_109 rfl rfl ?_
  refine zV_getR O zf_RX3_22 (zN_o hN1) rfl (zN_lt0 hN1) dX3_copyFrom_110 ?_
  refine zV_iconst (z := 0) O ⟨by omega, by omega⟩ dX3_copyFrom_113 ?_
  refine zV_aload_n O dX3_copyFrom_114 rfl rfl ?_
  refine zV_getR O zf_RX3_22 (zN_o hN) rfl (zN_lt0 hN) dX3_copyFrom_115 ?_
  refine zV_iconst (z := 0) O ⟨by omega, by omega⟩ dX3_copyFrom_118 ?_
  refine zV_bipush (z := 40) O ⟨by omega, by omega⟩ rfl dX3_copyFrom_119 ?_
  obtain ⟨⟨c1, c2, c3, c4, c5⟩, hM⟩ := hM
  refine zV_copyI O zi_678 zi_680 zi_679 zi_89 (zN_a4 hN1) (zN_a4 hN) (zN_lt hN1 (k := 4) (by decide)) (zN_lt hN (k := 4) (by decide)) c1 c2 c3 c4 c5 (Nat.le_of_ble_eq_true rfl) (Nat.le_of_ble_eq_true rfl) dX3_copyFrom_121 ?_
  have hM := hM (hcp h33 (o1 + 4) (Int.toNat 0) (o + 4) (Int.toNat 0) (Int.toNat 40)) rfl
  generalize hcp h33 (o1 + 4) (Int.toNat 0) (o + 4) (Int.toNat 0) (Int.toNat 40) = h34 at hM ⊢
  refine zV_aload_n O dX3_copyFrom_124 rfl rfl ?_
  refine zV_getR O zf_RX3_25 (zN_o hN1) rfl (zN_lt0 hN1) dX3_copyFrom_125 ?_
  refine zV_iconst (z := 0) O ⟨by omega, by omega⟩ dX3_copyFrom_128 ?_
  refine zV_aload_n O dX3_copyFrom_129 rfl rfl ?_
  refine zV_getR O zf_RX3_25 (zN_o hN) rfl (zN_lt0 hN) dX3_copyFrom_130 ?_
  refine zV_iconst (z := 0) O ⟨by omega, by omega⟩ dX3_copyFrom_133 ?_
  refine zV_bipush (z := 40) O ⟨by omega, by omega⟩ rfl dX3_copyFrom_134 ?_
  obtain ⟨⟨c1, c2, c3, c4, c5⟩, hM⟩ := hM
  refine zV_copyI O zi_678 zi_680 zi_679 zi_89 (zN_a5 hN1) (zN_a5 hN) (zN_lt hN1 (k := 5) (by decide)) (zN_lt hN (k := 5) (by decide)) c1 c2 c3 c4 c5 (Nat.le_of_ble_eq_true rfl) (Nat.le_of_ble_eq_true rfl) dX3_copyFrom_136 ?_
  have hM := hM (hcp h34 (o1 + 5) (Int.toNat 0) (o + 5) (Int.toNat 0) (Int.toNat 40)) rfl
  generalize hcp h34 (o1 + 5) (Int.toNat 0) (o + 5) (Int.toNat 0) (Int.toNat 40) = h35 at hM ⊢
  refine zV_aload_n O dX3_copyFrom_139 rfl rfl ?_
  refine zV_getR O zf_RX3_28 (zN_o hN1) rfl (zN_lt0 hN1) dX3_copyFrom_140 ?_
  refine zV_iconst (z := 0) O ⟨by omega, by omega⟩ dX3_copyFrom_143 ?_
  refine zV_aload_n O dX3_copyFrom_144 rfl rfl ?_
  refine zV_getR O zf_RX3_28 (zN_o hN) rfl (zN_lt0 hN) dX3_copyFrom_145 ?_
  refine zV_iconst (z := 0) O ⟨by omega, by omega⟩ dX3_copyFrom_148 ?_
  refine zV_bipush (z := 40) O ⟨by omega, by omega⟩ rfl dX3_copyFrom_149 ?_
  obtain ⟨⟨c1, c2, c3, c4, c5⟩, hM⟩ := hM
  refine zV_copyI O zi_678 zi_680 zi_679 zi_89 (zN_a6 hN1) (zN_a6 hN) (zN_lt hN1 (k := 6) (by decide)) (zN_lt hN (k := 6) (by decide)) c1 c2 c3 c4 c5 (Nat.le_of_ble_eq_true rfl) (Nat.le_of_ble_eq_true rfl) dX3_copyFrom_151 ?_
  have hM := hM (hcp h35 (o1 + 6) (Int.toNat 0) (o + 6) (Int.toNat 0) (Int.toNat 40)) rfl
  generalize hcp h35 (o1 + 6) (Int.toNat 0) (o + 6) (Int.toNat 0) (Int.toNat 40) = h36 at hM ⊢
  refine zV_aload_n O dX3_copyFrom_154 rfl rfl ?_
  refine zV_getR O zf_RX3_31 (zN_o hN1) rfl (zN_lt0 hN1) dX3_copyFrom_155 ?_
  refine zV_iconst (z := 0) O ⟨by omega, by omega⟩ dX3_copyFrom_158 ?_
  refine zV_aload_n O dX3_copyFrom_159 rfl rfl ?_
  refine zV_getR O zf_RX3_31 (zN_o hN) rfl (zN_lt0 hN) dX3_copyFrom_160 ?_
  refine zV_iconst (z := 0) O ⟨by omega, by omega⟩ dX3_copyFrom_163 ?_
  refine zV_bipush (z := 40) O ⟨by omega, by omega⟩ rfl dX3_copyFrom_164 ?_
  obtain ⟨⟨c1, c2, c3, c4, c5⟩, hM⟩ := hM
  refine zV_copyI O zi_678 zi_680 zi_679 zi_89 (zN_a7 hN1) (zN_a7 hN) (zN_lt hN1 (k := 7) (by decide)) (zN_lt hN (k := 7) (by decide)) c1 c2 c3 c4 c5 (Nat.le_of_ble_eq_true rfl) (Nat.le_of_ble_eq_true rfl) dX3_copyFrom_166 ?_
  have hM := hM (hcp h36 (o1 + 7) (Int.toNat 0) (o + 7) (Int.toNat 0) (Int.toNat 40)) rfl
  generalize hcp h36 (o1 + 7) (Int.toNat 0) (o + 7) (Int.toNat 0) (Int.toNat 40) = h37 at hM ⊢
  refine zV_aload_n O dX3_copyFrom_169 rfl rfl ?_
  refine zV_getR O zf_RX3_34 (zN_o hN1) rfl (zN_lt0 hN1) dX3_copyFrom_170 ?_
  refine zV_iconst (z := 0) O ⟨by omega, by omega⟩ dX3_copyFrom_173 ?_
  refine zV_aload_n O dX3_copyFrom_174 rfl rfl ?_
  refine zV_getR O zf_RX3_34 (zN_o hN) rfl (zN_lt0 hN) dX3_copyFrom_175 ?_
  refine zV_iconst (z := 0) O ⟨by omega, by omega⟩ dX3_copyFrom_178 ?_
  refine zV_sipush (z := 400) O ⟨by omega, by omega⟩ rfl dX3_copyFrom_179 ?_
  obtain ⟨⟨c1, c2, c3, c4, c5⟩, hM⟩ := hM
  refine zV_copyI O zi_678 zi_680 zi_679 zi_89 (zN_a8 hN1) (zN_a8 hN) (zN_lt hN1 (k := 8) (by decide)) (zN_lt hN (k := 8) (by decide)) c1 c2 c3 c4 c5 (Nat.le_of_ble_eq_true rfl) (Nat.le_of_ble_eq_true rfl) dX3_copyFrom_182 ?_
  have hM := hM (hcp h37 (o1 + 8) (Int.toNat 0) (o + 8) (Int.toNat 0) (Int.toNat 400)) rfl
  generalize hcp h37 (o1 + 8) (Int.toNat 0) (o + 8) (Int.toNat 0) (Int.toNat 400) = h38 at hM ⊢
  refine zV_aload_n O dX3_copyFrom_185 rfl rfl ?_
  refine zV_getR O zf_RX3_37 (zN_o hN1) rfl (zN_lt0 hN1) dX3_copyFrom_186 ?_
  refine zV_iconst (z := 0) O ⟨by omega, by omega⟩ dX3_copyFrom_189 ?_
  refine zV_aload_n O dX3_copyFrom_190 rfl rfl ?_
  refine zV_getR O zf_RX3_37 (zN_o hN) rfl (zN_lt0 hN) dX3_copyFrom_191 ?_
  refine zV_iconst (z := 0) O ⟨by omega, by omega⟩ dX3_copyFrom_194 ?_
  refine zV_bipush (z := 30) O ⟨by omega, by omega⟩ rfl dX3_copyFrom_195 ?_
  obtain ⟨⟨c1, c2, c3, c4, c5⟩, hM⟩ := hM
  refine zV_copyI O zi_678 zi_680 zi_679 zi_89 (zN_a9 hN1) (zN_a9 hN) (zN_lt hN1 (k := 9) (by decide)) (zN_lt hN (k := 9) (by decide)) c1 c2 c3 c4 c5 (Nat.le_of_ble_eq_true rfl) (Nat.le_of_ble_eq_true rfl) dX3_copyFrom_197 ?_
  have hM := hM (hcp h38 (o1 + 9) (Int.toNat 0) (o + 9) (Int.toNat 0) (Int.toNat 30)) rfl
  generalize hcp h38 (o1 + 9) (Int.toNat 0) (o + 9) (Int.toNat 0) (Int.toNat 30) = h39 at hM ⊢
  refine zV_aload_n O dX3_copyFrom_200 rfl rfl ?_
  refine zV_getR O zf_RX3_40 (zN_o hN1) rfl (zN_lt0 hN1) dX3_copyFrom_201 ?_
  refine zV_iconst (z := 0) O ⟨by omega, by omega⟩ dX3_copyFrom_204 ?_
  refine zV_aload_n O dX3_copyFrom_205 rfl rfl ?_
  refine zV_getR O zf_RX3_40 (zN_o hN) rfl (zN_lt0 hN) dX3_copyFrom_206 ?_
  refine zV_iconst (z := 0) O ⟨by omega, by omega⟩ dX3_copyFrom_209 ?_
  refine zV_bipush (z := 30) O ⟨by omega, by omega⟩ rfl dX3_copyFrom_210 ?_
  obtain ⟨⟨c1, c2, c3, c4, c5⟩, hM⟩ := hM
  refine zV_copyI O zi_678 zi_680 zi_679 zi_89 (zN_a10 hN1) (zN_a10 hN) (zN_lt hN1 (k := 10) (by decide)) (zN_lt hN (k := 10) (by decide)) c1 c2 c3 c4 c5 (Nat.le_of_ble_eq_true rfl) (Nat.le_of_ble_eq_true rfl) dX3_copyFrom_212 ?_
  have hM := hM (hcp h39 (o1 + 10) (Int.toNat 0) (o + 10) (Int.toNat 0) (Int.toNat 30)) rfl
  generalize hcp h39 (o1 + 10) (Int.toNat 0) (o + 10) (Int.toNat 0) (Int.toNat 30) = h40 at hM ⊢
  refine zV_aload_n O dX3_copyFrom_215 rfl rfl ?_
  refine zV_getR O zf_RX3_43 (zN_o hN1) rfl (zN_lt0 hN1) dX3_copyFrom_216 ?_
  refine zV_iconst (z := 0) O ⟨by omega, by omega⟩ dX3_copyFrom_219 ?_
  refine zV_aload_n O dX3_copyFrom_220 rfl rfl ?_
  refine zV_getR O zf_RX3_43 (zN_o hN) rfl (zN_lt0 hN) dX3_copyFrom_221 ?_
  refine zV_iconst (z := 0) O ⟨by omega, by omega⟩ dX3_copyFrom_224 ?_
  refine zV_bipush (z := 30) O ⟨by omega, by omega⟩ rfl dX3_copyFrom_225 ?_
  obtain ⟨⟨c1, c2, c3, c4, c5⟩, hM⟩ := hM
  refine zV_copyI O zi_678 zi_680 zi_679 zi_89 (zN_a11 hN1) (zN_a11 hN) (zN_lt hN1 (k := 11) (by decide)) (zN_lt hN (k := 11) (by decide)) c1 c2 c3 c4 c5 (Nat.le_of_ble_eq_true rfl) (Nat.le_of_ble_eq_true rfl) dX3_copyFrom_227 ?_
  have hM := hM (hcp h40 (o1 + 11) (Int.toNat 0) (o + 11) (Int.toNat 0) (Int.toNat 30)) rfl
  generalize hcp h40 (o1 + 11) (Int.toNat 0) (o + 11) (Int.toNat 0) (Int.toNat 30) = h41 at hM ⊢
  refine zV_aload_n O dX3_copyFrom_230 rfl rfl ?_
  refine zV_getR O zf_RX3_46 (zN_o hN1) rfl (zN_lt0 hN1) dX3_copyFrom_231 ?_
  refine zV_iconst (z := 0) O ⟨by omega, by omega⟩ dX3_copyFrom_234 ?_
  refine zV_aload_n O dX3_copyFrom_235 rfl rfl ?_
  refine zV_getR O zf_RX3_46 (zN_o hN) rfl (zN_lt0 hN) dX3_copyFrom_236 ?_
  refine zV_iconst (z := 0) O ⟨by omega, by omega⟩ dX3_copyFrom_239 ?_
  refine zV_bipush (z := 30) O ⟨by omega, by omega⟩ rfl dX3_copyFrom_240 ?_
  obtain ⟨⟨c1, c2, c3, c4, c5⟩, hM⟩ := hM
  refine zV_copyI O zi_678 zi_680 zi_679 zi_89 (zN_a12 hN1) (zN_a12 hN) (zN_lt hN1 (k := 12) (by decide)) (zN_lt hN (k := 12) (by decide)) c1 c2 c3 c4 c5 (Nat.le_of_ble_eq_true rfl) (Nat.le_of_ble_eq_true rfl) dX3_copyFrom_242 ?_
  have hM := hM (hcp h41 (o1 + 12) (Int.toNat 0) (o + 12) (Int.toNat 0) (Int.toNat 30)) rfl
  generalize hcp h41 (o1 + 12) (Int.toNat 0) (o + 12) (Int.toNat 0) (Int.toNat 30) = h42 at hM ⊢
  exact zV_vret O rfl ⟨rfl, hM⟩ (Nat.le_of_ble_eq_true rfl) (Nat.le_of_ble_eq_true rfl) dX3_copyFrom_245
def mX3_doWave_b158 (o : Nat) (Q : Int → Hp → Prop) (K85 : Int → Int → Hp → Prop) (v1 : Int) (v2 : Int) (h : Hp) : Prop := (zr (v2 + 1) ∧ (K85 v1 (v2 + 1) h))
set_option maxHeartbeats 4000000 in
set_option maxRecDepth 100000 in
theorem sX3_doWave_b158 {l0 : Launch} {a : ZC} {o : Nat} {Q : Int → Hp → Prop} {K85 : Int → Int → Hp → Prop} (O : zOk l0 a cX3_doWave RX3 3 (some .int) 185 []) (hN : zisN o) (hK85 : ∀ (v1 : Int) (v2 : Int) (h : Hp), K85 v1 v2 h → zV a (4, 0, 0, (qI Q), xN) 0 0 85 [some (aR o), some (aI v1), some (aI v2)] [] h) {v1 : Int} {v2 : Int} {h : Hp}  (hM : mX3_doWave_b158 o Q K85 v1 v2 h) : zV a (4, 0, 0, (qI Q), xN) 0 0 158 [some (aR o), some (aI v1), some (aI v2)] [] h := by
  unfold mX3_doWave_b158 at hM
  obtain ⟨hc, hM⟩ := hM
  refine zV_iinc O dX3_doWave_158 rfl (Nat.le_of_ble_eq_true rfl) rfl hc ?_
  refine zV_goto (tgt := 85) O dX3_doWave_161 (by decide) ?_
  exact hK85 _ _ _ hM
def mX3_doWave_b85 (o : Nat) (Q : Int → Hp → Prop) : Nat → Int → Int → Hp → Prop
  | 0 => fun _ _ _ => False
  | fu85 + 1 => fun v1 v2 h => (((h o 0) ≤ v2 → (Q v1 h)) ∧ (¬ (h o 0) ≤ v2 → (((0 : Int) ≤ v2 ∧ v2 < 40) ∧ ((¬ (rd h (o + 6) v2) = (h o 2) → (mX3_doWave_b158 o Q (mX3_doWave_b85 o Q fu85) v1 v2 h)) ∧ ((rd h (o + 6) v2) = (h o 2) → (zr (v2 * 10) ∧ (zr ((v2 * 10) + (h o 2)) ∧ (((0 : Int) ≤ v2 ∧ v2 < 40) ∧ (((0 : Int) ≤ ((v2 * 10) + (h o 2)) ∧ ((v2 * 10) + (h o 2)) < 400) ∧ (∀ h26 : Hp, h26 = wr h (o + 8) ((v2 * 10) + (h o 2)) (rd h (o + 3) v2) → (((0 : Int) ≤ v2 ∧ v2 < 40) ∧ (∀ h27 : Hp, h27 = wr h26 (o + 7) v2 (h26 o 2) → (((0 : Int) ≤ v2 ∧ v2 < 40) ∧ (((0 : Int) ≤ v2 ∧ v2 < 40) ∧ (∀ h28 : Hp, h28 = wr h27 (o + 3) v2 (rd h27 (o + 5) v2) → (mX3_setPlan o v2 0 0 h28 (fun h29 => (zr (v1 + 1) ∧ (mX3_doWave_b158 o Q (mX3_doWave_b85 o Q fu85) (v1 + 1) v2 h29)))))))))))))))))))
set_option maxHeartbeats 4000000 in
set_option maxRecDepth 100000 in
theorem sX3_doWave_b85 {l0 : Launch} {a : ZC} {o : Nat} {Q : Int → Hp → Prop}  (O : zOk l0 a cX3_doWave RX3 3 (some .int) 185 []) (hN : zisN o)  : ∀ (ff : Nat) (v1 : Int) (v2 : Int) (h : Hp), mX3_doWave_b85 o Q ff v1 v2 h → zV a (4, 0, 0, (qI Q), xN) 0 0 85 [some (aR o), some (aI v1), some (aI v2)] [] h := by
  intro ff
  induction ff with
  | zero => intro v1 v2 h hM; exact hM.elim
  | succ ff ih =>
    have hK85 := ih
    intro v1 v2 h hM
    unfold mX3_doWave_b85 at hM
    refine zV_iload_n O dX3_doWave_85 rfl rfl ?_
    refine zV_aload_n O dX3_doWave_86 rfl rfl ?_
    refine zV_getI O zf_RX3_49 (zN_o hN) rfl (zN_lt0 hN) dX3_doWave_87 ?_
    refine zV_icmp_ge (tgt := 164) O dX3_doWave_90 (by decide) (fun hc => ?_) (fun hc => ?_)
    · replace hM := hM.1 hc
      refine zV_iload_n O dX3_doWave_164 rfl rfl ?_
      exact zV_iret O rfl ⟨_, rfl, hM⟩ (Nat.le_of_ble_eq_true rfl) (Nat.le_of_ble_eq_true rfl) dX3_doWave_165
    · replace hM := hM.2 hc
      refine zV_aload_n O dX3_doWave_93 rfl rfl ?_
      refine zV_getR O zf_RX3_28 (zN_o hN) rfl (zN_lt0 hN) dX3_doWave_94 ?_
      refine zV_iload_n O dX3_doWave_97 rfl rfl ?_
      obtain ⟨hc, hM⟩ := hM
      refine zV_iald O (zN_a6 hN) (zN_lt hN (k := 6) (by decide)) hc dX3_doWave_98 ?_
      refine zV_aload_n O dX3_doWave_99 rfl rfl ?_
      refine zV_getI O zf_RX3_56 (zN_o hN) rfl (zN_lt0 hN) dX3_doWave_100 ?_
      refine zV_icmp_ne (tgt := 158) O dX3_doWave_103 (by decide) (fun hc => ?_) (fun hc => ?_)
      · replace hM := hM.1 hc
        exact sX3_doWave_b158 O hN hK85 hM
      · replace hM := hM.2 hc
        refine zV_aload_n O dX3_doWave_106 rfl rfl ?_
        refine zV_getR O zf_RX3_34 (zN_o hN) rfl (zN_lt0 hN) dX3_doWave_107 ?_
        refine zV_iload_n O dX3_doWave_110 rfl rfl ?_
        refine zV_bipush (z := 10) O ⟨by omega, by omega⟩ rfl dX3_doWave_111 ?_
        obtain ⟨hc, hM⟩ := hM
        refine zV_imul O dX3_doWave_113 hc ?_
        refine zV_aload_n O dX3_doWave_114 rfl rfl ?_
        refine zV_getI O zf_RX3_56 (zN_o hN) rfl (zN_lt0 hN) dX3_doWave_115 ?_
        obtain ⟨hc, hM⟩ := hM
        refine zV_iadd O dX3_doWave_118 hc ?_
        refine zV_aload_n O dX3_doWave_119 rfl rfl ?_
        refine zV_getR O zf_RX3_19 (zN_o hN) rfl (zN_lt0 hN) dX3_doWave_120 ?_
        refine zV_iload_n O dX3_doWave_123 rfl rfl ?_
        obtain ⟨hc, hM⟩ := hM
        refine zV_iald O (zN_a3 hN) (zN_lt hN (k := 3) (by decide)) hc dX3_doWave_124 ?_
        obtain ⟨hc, hM⟩ := hM
        refine zV_iast O (zN_a8 hN) (zN_lt hN (k := 8) (by decide)) hc dX3_doWave_125 ?_
        have hM := hM (hu h (o + 8) (Int.toNat ((v2 * 10) + (h o 2))) (rd h (o + 3) v2)) rfl
        generalize hu h (o + 8) (Int.toNat ((v2 * 10) + (h o 2))) (rd h (o + 3) v2) = h26 at hM ⊢
        refine zV_aload_n O dX3_doWave_126 rfl rfl ?_
        refine zV_getR O zf_RX3_31 (zN_o hN) rfl (zN_lt0 hN) dX3_doWave_127 ?_
        refine zV_iload_n O dX3_doWave_130 rfl rfl ?_
        refine zV_aload_n O dX3_doWave_131 rfl rfl ?_
        refine zV_getI O zf_RX3_56 (zN_o hN) rfl (zN_lt0 hN) dX3_doWave_132 ?_
        obtain ⟨hc, hM⟩ := hM
        refine zV_iast O (zN_a7 hN) (zN_lt hN (k := 7) (by decide)) hc dX3_doWave_135 ?_
        have hM := hM (hu h26 (o + 7) (Int.toNat v2) (h26 o 2)) rfl
        generalize hu h26 (o + 7) (Int.toNat v2) (h26 o 2) = h27 at hM ⊢
        refine zV_aload_n O dX3_doWave_136 rfl rfl ?_
        refine zV_getR O zf_RX3_19 (zN_o hN) rfl (zN_lt0 hN) dX3_doWave_137 ?_
        refine zV_iload_n O dX3_doWave_140 rfl rfl ?_
        refine zV_aload_n O dX3_doWave_141 rfl rfl ?_
        refine zV_getR O zf_RX3_25 (zN_o hN) rfl (zN_lt0 hN) dX3_doWave_142 ?_
        refine zV_iload_n O dX3_doWave_145 rfl rfl ?_
        obtain ⟨hc, hM⟩ := hM
        refine zV_iald O (zN_a5 hN) (zN_lt hN (k := 5) (by decide)) hc dX3_doWave_146 ?_
        obtain ⟨hc, hM⟩ := hM
        refine zV_iast O (zN_a3 hN) (zN_lt hN (k := 3) (by decide)) hc dX3_doWave_147 ?_
        have hM := hM (hu h27 (o + 3) (Int.toNat v2) (rd h27 (o + 5) v2)) rfl
        generalize hu h27 (o + 3) (Int.toNat v2) (rd h27 (o + 5) v2) = h28 at hM ⊢
        refine zV_aload_n O dX3_doWave_148 rfl rfl ?_
        refine zV_iload_n O dX3_doWave_149 rfl rfl ?_
        refine zV_iconst (z := 0) O ⟨by omega, by omega⟩ dX3_doWave_150 ?_
        refine zV_iconst (z := 0) O ⟨by omega, by omega⟩ dX3_doWave_151 ?_
        refine zV_callV (as := [aI v2, aI 0, aI 0]) (st := []) O zc_X3_setPlan (Or.inl zl_RX3_123) zi_672 zi_36 (zN_o hN) rfl rfl (zN_lt0 hN) (Nat.le_of_ble_eq_true rfl) rfl rfl (Nat.le_of_ble_eq_true rfl) (Nat.le_of_ble_eq_true rfl) (Nat.le_of_ble_eq_true rfl) (Nat.le_of_ble_eq_true rfl) (Nat.le_of_ble_eq_true rfl) (Nat.le_of_ble_eq_true rfl) dX3_doWave_152 (sX3_setPlan hN hM) (fun r h29 hq => ?_) (fun x h9 hq => hq.elim)
        obtain ⟨rfl, hM⟩ := hq
        obtain ⟨hc, hM⟩ := hM
        refine zV_iinc O dX3_doWave_155 rfl (Nat.le_of_ble_eq_true rfl) rfl hc ?_
        exact sX3_doWave_b158 O hN hK85 hM
def mX3_doWave_b23 (o : Nat) (Q : Int → Hp → Prop) : Nat → Int → Hp → Prop
  | 0 => fun _ _ => False
  | fu23 + 1 => fun v1 h => (((h o 1) ≤ v1 → (∃ ff, mX3_doWave_b85 o Q ff 0 0 h)) ∧ (¬ (h o 1) ≤ v1 → (((0 : Int) ≤ v1 ∧ v1 < 30) ∧ (((0 : Int) ≤ v1 ∧ v1 < 30) ∧ (mX3_sideBehindWave o (rd h (o + 9) v1) (rd h (o + 11) v1) h (fun z30 => (((0 : Int) ≤ v1 ∧ v1 < 30) ∧ (∀ h31 : Hp, h31 = wr h (o + 11) v1 z30 → (((0 : Int) ≤ v1 ∧ v1 < 30) ∧ (((0 : Int) ≤ v1 ∧ v1 < 30) ∧ (mX3_sideBehindWave o (rd h31 (o + 9) v1) (rd h31 (o + 12) v1) h31 (fun z32 => (((0 : Int) ≤ v1 ∧ v1 < 30) ∧ (∀ h33 : Hp, h33 = wr h31 (o + 12) v1 z32 → (zr (v1 + 1) ∧ ((mX3_doWave_b23 o Q fu23) (v1 + 1) h33))))))))))))))))
set_option maxHeartbeats 4000000 in
set_option maxRecDepth 100000 in
theorem sX3_doWave_b23 {l0 : Launch} {a : ZC} {o : Nat} {Q : Int → Hp → Prop}  (O : zOk l0 a cX3_doWave RX3 3 (some .int) 185 []) (hN : zisN o)  : ∀ (ff : Nat) (v1 : Int) (h : Hp), mX3_doWave_b23 o Q ff v1 h → zV a (4, 0, 0, (qI Q), xN) 0 0 23 [some (aR o), some (aI v1), none] [] h := by
  intro ff
  induction ff with
  | zero => intro v1 h hM; exact hM.elim
  | succ ff ih =>
    have hK23 := ih
    intro v1 h hM
    unfold mX3_doWave_b23 at hM
    refine zV_iload_n O dX3_doWave_23 rfl rfl ?_
    refine zV_aload_n O dX3_doWave_24 rfl rfl ?_
    refine zV_getI O zf_RX3_53 (zN_o hN) rfl (zN_lt0 hN) dX3_doWave_25 ?_
    refine zV_icmp_ge (tgt := 81) O dX3_doWave_28 (by decide) (fun hc => ?_) (fun hc => ?_)
    · replace hM := hM.1 hc
      refine zV_iconst (z := 0) O ⟨by omega, by omega⟩ dX3_doWave_81 ?_
      refine zV_istore_n O dX3_doWave_82 rfl (Nat.le_of_ble_eq_true rfl) rfl ?_
      refine zV_iconst (z := 0) O ⟨by omega, by omega⟩ dX3_doWave_83 ?_
      refine zV_istore_n O dX3_doWave_84 rfl (Nat.le_of_ble_eq_true rfl) rfl ?_
      obtain ⟨ff, hM⟩ := hM
      exact sX3_doWave_b85 O hN ff _ _ _ hM
    · replace hM := hM.2 hc
      refine zV_aload_n O dX3_doWave_31 rfl rfl ?_
      refine zV_getR O zf_RX3_43 (zN_o hN) rfl (zN_lt0 hN) dX3_doWave_32 ?_
      refine zV_iload_n O dX3_doWave_35 rfl rfl ?_
      refine zV_aload_n O dX3_doWave_36 rfl rfl ?_
      refine zV_aload_n O dX3_doWave_37 rfl rfl ?_
      refine zV_getR O zf_RX3_37 (zN_o hN) rfl (zN_lt0 hN) dX3_doWave_38 ?_
      refine zV_iload_n O dX3_doWave_41 rfl rfl ?_
      obtain ⟨hc, hM⟩ := hM
      refine zV_iald O (zN_a9 hN) (zN_lt hN (k := 9) (by decide)) hc dX3_doWave_42 ?_
      refine zV_aload_n O dX3_doWave_43 rfl rfl ?_
      refine zV_getR O zf_RX3_43 (zN_o hN) rfl (zN_lt0 hN) dX3_doWave_44 ?_
      refine zV_iload_n O dX3_doWave_47 rfl rfl ?_
      obtain ⟨hc, hM⟩ := hM
      refine zV_iald O (zN_a11 hN) (zN_lt hN (k := 11) (by decide)) hc dX3_doWave_48 ?_
      refine zV_callV (as := [aI (rd h (o + 9) v1), aI (rd h (o + 11) v1)]) (st := [aI v1, aR (o + 11)]) O zc_X3_sideBehindWave (Or.inl zl_RX3_120) zi_811 zi_50 (zN_o hN) rfl rfl (zN_lt0 hN) (Nat.le_of_ble_eq_true rfl) rfl rfl (Nat.le_of_ble_eq_true rfl) (Nat.le_of_ble_eq_true rfl) (Nat.le_of_ble_eq_true rfl) (Nat.le_of_ble_eq_true rfl) (Nat.le_of_ble_eq_true rfl) (Nat.le_of_ble_eq_true rfl) dX3_doWave_49 (sX3_sideBehindWave hN hM) (fun r h9 hq => ?_) (fun x h9 hq => hq.elim)
      obtain ⟨rfl, z30, rfl, hM⟩ := hq
      obtain ⟨hc, hM⟩ := hM
      refine zV_iast O (zN_a11 hN) (zN_lt hN (k := 11) (by decide)) hc dX3_doWave_52 ?_
      have hM := hM (hu h (o + 11) (Int.toNat v1) z30) rfl
      generalize hu h (o + 11) (Int.toNat v1) z30 = h31 at hM ⊢
      refine zV_aload_n O dX3_doWave_53 rfl rfl ?_
      refine zV_getR O zf_RX3_46 (zN_o hN) rfl (zN_lt0 hN) dX3_doWave_54 ?_
      refine zV_iload_n O dX3_doWave_57 rfl rfl ?_
      refine zV_aload_n O dX3_doWave_58 rfl rfl ?_
      refine zV_aload_n O dX3_doWave_59 rfl rfl ?_
      refine zV_getR O zf_RX3_37 (zN_o hN) rfl (zN_lt0 hN) dX3_doWave_60 ?_
      refine zV_iload_n O dX3_doWave_63 rfl rfl ?_
      obtain ⟨hc, hM⟩ := hM
      refine zV_iald O (zN_a9 hN) (zN_lt hN (k := 9) (by decide)) hc dX3_doWave_64 ?_
      refine zV_aload_n O dX3_doWave_65 rfl rfl ?_
      refine zV_getR O zf_RX3_46 (zN_o hN) rfl (zN_lt0 hN) dX3_doWave_66 ?_
      refine zV_iload_n O dX3_doWave_69 rfl rfl ?_
      obtain ⟨hc, hM⟩ := hM
      refine zV_iald O (zN_a12 hN) (zN_lt hN (k := 12) (by decide)) hc dX3_doWave_70 ?_
      refine zV_callV (as := [aI (rd h31 (o + 9) v1), aI (rd h31 (o + 12) v1)]) (st := [aI v1, aR (o + 12)]) O zc_X3_sideBehindWave (Or.inl zl_RX3_120) zi_811 zi_50 (zN_o hN) rfl rfl (zN_lt0 hN) (Nat.le_of_ble_eq_true rfl) rfl rfl (Nat.le_of_ble_eq_true rfl) (Nat.le_of_ble_eq_true rfl) (Nat.le_of_ble_eq_true rfl) (Nat.le_of_ble_eq_true rfl) (Nat.le_of_ble_eq_true rfl) (Nat.le_of_ble_eq_true rfl) dX3_doWave_71 (sX3_sideBehindWave hN hM) (fun r h9 hq => ?_) (fun x h9 hq => hq.elim)
      obtain ⟨rfl, z32, rfl, hM⟩ := hq
      obtain ⟨hc, hM⟩ := hM
      refine zV_iast O (zN_a12 hN) (zN_lt hN (k := 12) (by decide)) hc dX3_doWave_74 ?_
      have hM := hM (hu h31 (o + 12) (Int.toNat v1) z32) rfl
      generalize hu h31 (o + 12) (Int.toNat v1) z32 = h33 at hM ⊢
      obtain ⟨hc, hM⟩ := hM
      refine zV_iinc O dX3_doWave_75 rfl (Nat.le_of_ble_eq_true rfl) rfl hc ?_
      refine zV_goto (tgt := 23) O dX3_doWave_78 (by decide) ?_
      exact hK23 _ _ hM
def mX3_doWave (o : Nat) (h : Hp) (Q : Int → Hp → Prop) : Prop := (((h o 2) < (9 : Int) → (zr ((h o 2) + 1) ∧ (∀ h34 : Hp, h34 = hu h o 2 ((h o 2) + 1) → (∃ ff, mX3_doWave_b23 o Q ff 0 h34)))) ∧ (¬ (h o 2) < (9 : Int) → (Q 0 h)))
set_option maxHeartbeats 4000000 in
set_option maxRecDepth 100000 in
theorem sX3_doWave {l0 : Launch} {o : Nat} {h : Hp} {Q : Int → Hp → Prop} (hN : zisN o) (hM : mX3_doWave o h Q) : zSp l0 yX3_doWave cX3_doWave 3 (some .int) 185 (4) 0 0 [aR o] h (qI Q) xN := by
  unfold mX3_doWave at hM
  refine zSp_intro zpn_RX3 (Nat.le_of_ble_eq_true rfl) (fun a O => ?_)
  show zV a (4, 0, 0, (qI Q), xN) 0 0 0 [some (aR o), none, none] [] h
  refine zV_aload_n O dX3_doWave_0 rfl rfl ?_
  refine zV_getI O zf_RX3_56 (zN_o hN) rfl (zN_lt0 hN) dX3_doWave_1 ?_
  refine zV_bipush (z := 9) O ⟨by omega, by omega⟩ rfl dX3_doWave_4 ?_
  refine zV_icmp_lt (tgt := 11) O dX3_doWave_6 (by decide) (fun hc => ?_) (fun hc => ?_)
  · replace hM := hM.1 hc
    refine zV_aload_n O dX3_doWave_11 rfl rfl ?_
    refine zV_dup O rfl dX3_doWave_12 ?_
    refine zV_getI O zf_RX3_56 (zN_o hN) rfl (zN_lt0 hN) dX3_doWave_13 ?_
    refine zV_iconst (z := 1) O ⟨by omega, by omega⟩ dX3_doWave_16 ?_
    obtain ⟨hc, hM⟩ := hM
    refine zV_iadd O dX3_doWave_17 hc ?_
    refine zV_putI O zf_RX3_56 (zN_o hN) rfl (zN_lt0 hN) dX3_doWave_18 ?_
    have hM := hM _ rfl
    generalize hu h o 2 ((h o 2) + 1) = h34 at hM ⊢
    refine zV_iconst (z := 0) O ⟨by omega, by omega⟩ dX3_doWave_21 ?_
    refine zV_istore_n O dX3_doWave_22 rfl (Nat.le_of_ble_eq_true rfl) rfl ?_
    obtain ⟨ff, hM⟩ := hM
    exact sX3_doWave_b23 O hN ff _ _ hM
  · replace hM := hM.2 hc
    refine zV_iconst (z := 0) O ⟨by omega, by omega⟩ dX3_doWave_9 ?_
    exact zV_iret O rfl ⟨_, rfl, hM⟩ (Nat.le_of_ble_eq_true rfl) (Nat.le_of_ble_eq_true rfl) dX3_doWave_10
def mX3_dropHost (o : Nat) (x1 : Int) (h : Hp) (Q : Hp → Prop) : Prop := (zr ((h o 0) - x1) ∧ (zr (((h o 0) - x1) - 1) ∧ ((x1 < 0 → (Q h)) ∧ (¬ x1 < 0 → ((0 ≤ (((h o 0) - x1) - 1) → (zr (x1 + 1) ∧ (((0 : Int) ≤ (x1 + 1) ∧ (0 : Int) ≤ x1 ∧ (0 : Int) ≤ (((h o 0) - x1) - 1) ∧ ((x1 + 1) : Int) + (((h o 0) - x1) - 1) ≤ 40 ∧ (x1 : Int) + (((h o 0) - x1) - 1) ≤ 40) ∧ (∀ h10 : Hp, h10 = rcp h (o + 1) (x1 + 1) (o + 1) x1 (((h o 0) - x1) - 1) → (zr (x1 + 1) ∧ (((0 : Int) ≤ (x1 + 1) ∧ (0 : Int) ≤ x1 ∧ (0 : Int) ≤ (((h o 0) - x1) - 1) ∧ ((x1 + 1) : Int) + (((h o 0) - x1) - 1) ≤ 40 ∧ (x1 : Int) + (((h o 0) - x1) - 1) ≤ 40) ∧ (∀ h11 : Hp, h11 = rcp h10 (o + 2) (x1 + 1) (o + 2) x1 (((h o 0) - x1) - 1) → (zr (x1 + 1) ∧ (((0 : Int) ≤ (x1 + 1) ∧ (0 : Int) ≤ x1 ∧ (0 : Int) ≤ (((h o 0) - x1) - 1) ∧ ((x1 + 1) : Int) + (((h o 0) - x1) - 1) ≤ 40 ∧ (x1 : Int) + (((h o 0) - x1) - 1) ≤ 40) ∧ (∀ h12 : Hp, h12 = rcp h11 (o + 3) (x1 + 1) (o + 3) x1 (((h o 0) - x1) - 1) → (zr (x1 + 1) ∧ (((0 : Int) ≤ (x1 + 1) ∧ (0 : Int) ≤ x1 ∧ (0 : Int) ≤ (((h o 0) - x1) - 1) ∧ ((x1 + 1) : Int) + (((h o 0) - x1) - 1) ≤ 40 ∧ (x1 : Int) + (((h o 0) - x1) - 1) ≤ 40) ∧ (∀ h13 : Hp, h13 = rcp h12 (o + 4) (x1 + 1) (o + 4) x1 (((h o 0) - x1) - 1) → (zr (x1 + 1) ∧ (((0 : Int) ≤ (x1 + 1) ∧ (0 : Int) ≤ x1 ∧ (0 : Int) ≤ (((h o 0) - x1) - 1) ∧ ((x1 + 1) : Int) + (((h o 0) - x1) - 1) ≤ 40 ∧ (x1 : Int) + (((h o 0) - x1) - 1) ≤ 40) ∧ (∀ h14 : Hp, h14 = rcp h13 (o + 5) (x1 + 1) (o + 5) x1 (((h o 0) - x1) - 1) → (zr (x1 + 1) ∧ (((0 : Int) ≤ (x1 + 1) ∧ (0 : Int) ≤ x1 ∧ (0 : Int) ≤ (((h o 0) - x1) - 1) ∧ ((x1 + 1) : Int) + (((h o 0) - x1) - 1) ≤ 40 ∧ (x1 : Int) + (((h o 0) - x1) - 1) ≤ 40) ∧ (∀ h15 : Hp, h15 = rcp h14 (o + 6) (x1 + 1) (o + 6) x1 (((h o 0) - x1) - 1) → (zr (x1 + 1) ∧ (((0 : Int) ≤ (x1 + 1) ∧ (0 : Int) ≤ x1 ∧ (0 : Int) ≤ (((h o 0) - x1) - 1) ∧ ((x1 + 1) : Int) + (((h o 0) - x1) - 1) ≤ 40 ∧ (x1 : Int) + (((h o 0) - x1) - 1) ≤ 40) ∧ (∀ h16 : Hp, h16 = rcp h15 (o + 7) (x1 + 1) (o + 7) x1 (((h o 0) - x1) - 1) → (zr (x1 + 1) ∧ (zr ((x1 + 1) * 10) ∧ (zr (x1 * 10) ∧ (zr ((((h o 0) - x1) - 1) * 10) ∧ (((0 : Int) ≤ ((x1 + 1) * 10) ∧ (0 : Int) ≤ (x1 * 10) ∧ (0 : Int) ≤ ((((h o 0) - x1) - 1) * 10) ∧ (((x1 + 1) * 10) : Int) + ((((h o 0) - x1) - 1) * 10) ≤ 400 ∧ ((x1 * 10) : Int) + ((((h o 0) - x1) - 1) * 10) ≤ 400) ∧ (∀ h17 : Hp, h17 = rcp h16 (o + 8) ((x1 + 1) * 10) (o + 8) (x1 * 10) ((((h o 0) - x1) - 1) * 10) → (zr ((h17 o 0) - 1) ∧ (∀ h18 : Hp, h18 = hu h17 o 0 ((h17 o 0) - 1) → (Q h18))))))))))))))))))))))))))))))) ∧ (¬ 0 ≤ (((h o 0) - x1) - 1) → (Q h)))))))
set_option maxHeartbeats 4000000 in
set_option maxRecDepth 100000 in
theorem sX3_dropHost {l0 : Launch} {o : Nat} {x1 : Int} {h : Hp} {Q : Hp → Prop} (hN : zisN o) (hM : mX3_dropHost o x1 h Q) : zSp l0 yX3_dropHost cX3_dropHost 3 none 185 (4) 0 0 [aR o, aI x1] h (qV Q) xN := by
  unfold mX3_dropHost at hM
  refine zSp_intro zpn_RX3 (Nat.le_of_ble_eq_true rfl) (fun a O => ?_)
  show zV a (4, 0, 0, (qV Q), xN) 0 0 0 [some (aR o), some (aI x1), none] [] h
  refine zV_aload_n O dX3_dropHost_0 rfl rfl ?_
  refine zV_getI O zf_RX3_49 (zN_o hN) rfl (zN_lt0 hN) dX3_dropHost_1 ?_
  refine zV_iload_n O dX3_dropHost_4 rfl rfl ?_
  obtain ⟨hc, hM⟩ := hM
  refine zV_isub O dX3_dropHost_5 hc ?_
  refine zV_iconst (z := 1) O ⟨by omega, by omega⟩ dX3_dropHost_6 ?_
  obtain ⟨hc, hM⟩ := hM
  refine zV_isub O dX3_dropHost_7 hc ?_
  refine zV_istore_n O dX3_dropHost_8 rfl (Nat.le_of_ble_eq_true rfl) rfl ?_
  refine zV_iload_n O dX3_dropHost_9 rfl rfl ?_
  refine zV_if_lt (tgt := 17) O dX3_dropHost_10 (by decide) (fun hc => ?_) (fun hc => ?_)
  · replace hM := hM.1 hc
    exact zV_vret O rfl ⟨rfl, hM⟩ (Nat.le_of_ble_eq_true rfl) (Nat.le_of_ble_eq_true rfl) dX3_dropHost_17
  · replace hM := hM.2 hc
    refine zV_iload_n O dX3_dropHost_13 rfl rfl ?_
    refine zV_if_ge (tgt := 18) O dX3_dropHost_14 (by decide) (fun hc => ?_) (fun hc => ?_)
    · replace hM := hM.1 hc
      refine zV_aload_n O dX3_dropHost_18 rfl rfl ?_
      refine zV_getR O zf_RX3_9 (zN_o hN) rfl (zN_lt0 hN) dX3_dropHost_19 ?_
      refine zV_iload_n O dX3_dropHost_22 rfl rfl ?_
      refine zV_iconst (z := 1) O ⟨by omega, by omega⟩ dX3_dropHost_23 ?_
      obtain ⟨hc, hM⟩ := hM
      refine zV_iadd O dX3_dropHost_24 hc ?_
      refine zV_aload_n O dX3_dropHost_25 rfl rfl ?_
      refine zV_getR O zf_RX3_9 (zN_o hN) rfl (zN_lt0 hN) dX3_dropHost_26 ?_
      refine zV_iload_n O dX3_dropHost_29 rfl rfl ?_
      refine zV_iload_n O dX3_dropHost_30 rfl rfl ?_
      obtain ⟨⟨c1, c2, c3, c4, c5⟩, hM⟩ := hM
      refine zV_copyL O zi_678 zi_680 zi_679 zi_89 (zN_a1 hN) (zN_a1 hN) (zN_lt hN (k := 1) (by decide)) (zN_lt hN (k := 1) (by decide)) c1 c2 c3 c4 c5 (Nat.le_of_ble_eq_true rfl) (Nat.le_of_ble_eq_true rfl) dX3_dropHost_31 ?_
      have hM := hM (hcp h (o + 1) (Int.toNat (x1 + 1)) (o + 1) (Int.toNat x1) (Int.toNat (((h o 0) - x1) - 1))) rfl
      generalize hcp h (o + 1) (Int.toNat (x1 + 1)) (o + 1) (Int.toNat x1) (Int.toNat (((h o 0) - x1) - 1)) = h10 at hM ⊢
      refine zV_aload_n O dX3_dropHost_34 rfl rfl ?_
      refine zV_getR O zf_RX3_15 (zN_o hN) rfl (zN_lt0 hN) dX3_dropHost_35 ?_
      refine zV_iload_n O dX3_dropHost_38 rfl rfl ?_
      refine zV_iconst (z := 1) O ⟨by omega, by omega⟩ dX3_dropHost_39 ?_
      obtain ⟨hc, hM⟩ := hM
      refine zV_iadd O dX3_dropHost_40 hc ?_
      refine zV_aload_n O dX3_dropHost_41 rfl rfl ?_
      refine zV_getR O zf_RX3_15 (zN_o hN) rfl (zN_lt0 hN) dX3_dropHost_42 ?_
      refine zV_iload_n O dX3_dropHost_45 rfl rfl ?_
      refine zV_iload_n O dX3_dropHost_46 rfl rfl ?_
      obtain ⟨⟨c1, c2, c3, c4, c5⟩, hM⟩ := hM
      refine zV_copyI O zi_678 zi_680 zi_679 zi_89 (zN_a2 hN) (zN_a2 hN) (zN_lt hN (k := 2) (by decide)) (zN_lt hN (k := 2) (by decide)) c1 c2 c3 c4 c5 (Nat.le_of_ble_eq_true rfl) (Nat.le_of_ble_eq_true rfl) dX3_dropHost_47 ?_
      have hM := hM (hcp h10 (o + 2) (Int.toNat (x1 + 1)) (o + 2) (Int.toNat x1) (Int.toNat (((h o 0) - x1) - 1))) rfl
      generalize hcp h10 (o + 2) (Int.toNat (x1 + 1)) (o + 2) (Int.toNat x1) (Int.toNat (((h o 0) - x1) - 1)) = h11 at hM ⊢
      refine zV_aload_n O dX3_dropHost_50 rfl rfl ?_
      refine zV_getR O zf_RX3_19 (zN_o hN) rfl (zN_lt0 hN) dX3_dropHost_51 ?_
      refine zV_iload_n O dX3_dropHost_54 rfl rfl ?_
      refine zV_iconst (z := 1) O ⟨by omega, by omega⟩ dX3_dropHost_55 ?_
      obtain ⟨hc, hM⟩ := hM
      refine zV_iadd O dX3_dropHost_56 hc ?_
      refine zV_aload_n O dX3_dropHost_57 rfl rfl ?_
      refine zV_getR O zf_RX3_19 (zN_o hN) rfl (zN_lt0 hN) dX3_dropHost_58 ?_
      refine zV_iload_n O dX3_dropHost_61 rfl rfl ?_
      refine zV_iload_n O dX3_dropHost_62 rfl rfl ?_
      obtain ⟨⟨c1, c2, c3, c4, c5⟩, hM⟩ := hM
      refine zV_copyI O zi_678 zi_680 zi_679 zi_89 (zN_a3 hN) (zN_a3 hN) (zN_lt hN (k := 3) (by decide)) (zN_lt hN (k := 3) (by decide)) c1 c2 c3 c4 c5 (Nat.le_of_ble_eq_true rfl) (Nat.le_of_ble_eq_true rfl) dX3_dropHost_63 ?_
      have hM := hM (hcp h11 (o + 3) (Int.toNat (x1 + 1)) (o + 3) (Int.toNat x1) (Int.toNat (((h o 0) - x1) - 1))) rfl
      generalize hcp h11 (o + 3) (Int.toNat (x1 + 1)) (o + 3) (Int.toNat x1) (Int.toNat (((h o 0) - x1) - 1)) = h12 at hM ⊢
      refine zV_aload_n O dX3_dropHost_66 rfl rfl ?_
      refine zV_getR O zf_RX3_22 (zN_o hN) rfl (zN_lt0 hN) dX3_dropHost_67 ?_
      refine zV_iload_n O dX3_dropHost_70 rfl rfl ?_
      refine zV_iconst (z := 1) O ⟨by omega, by omega⟩ dX3_dropHost_71 ?_
      obtain ⟨hc, hM⟩ := hM
      refine zV_iadd O dX3_dropHost_72 hc ?_
      refine zV_aload_n O dX3_dropHost_73 rfl rfl ?_
      refine zV_getR O zf_RX3_22 (zN_o hN) rfl (zN_lt0 hN) dX3_dropHost_74 ?_
      refine zV_iload_n O dX3_dropHost_77 rfl rfl ?_
      refine zV_iload_n O dX3_dropHost_78 rfl rfl ?_
      obtain ⟨⟨c1, c2, c3, c4, c5⟩, hM⟩ := hM
      refine zV_copyI O zi_678 zi_680 zi_679 zi_89 (zN_a4 hN) (zN_a4 hN) (zN_lt hN (k := 4) (by decide)) (zN_lt hN (k := 4) (by decide)) c1 c2 c3 c4 c5 (Nat.le_of_ble_eq_true rfl) (Nat.le_of_ble_eq_true rfl) dX3_dropHost_79 ?_
      have hM := hM (hcp h12 (o + 4) (Int.toNat (x1 + 1)) (o + 4) (Int.toNat x1) (Int.toNat (((h o 0) - x1) - 1))) rfl
      generalize hcp h12 (o + 4) (Int.toNat (x1 + 1)) (o + 4) (Int.toNat x1) (Int.toNat (((h o 0) - x1) - 1)) = h13 at hM ⊢
      refine zV_aload_n O dX3_dropHost_82 rfl rfl ?_
      refine zV_getR O zf_RX3_25 (zN_o hN) rfl (zN_lt0 hN) dX3_dropHost_83 ?_
      refine zV_iload_n O dX3_dropHost_86 rfl rfl ?_
      refine zV_iconst (z := 1) O ⟨by omega, by omega⟩ dX3_dropHost_87 ?_
      obtain ⟨hc, hM⟩ := hM
      refine zV_iadd O dX3_dropHost_88 hc ?_
      refine zV_aload_n O dX3_dropHost_89 rfl rfl ?_
      refine zV_getR O zf_RX3_25 (zN_o hN) rfl (zN_lt0 hN) dX3_dropHost_90 ?_
      refine zV_iload_n O dX3_dropHost_93 rfl rfl ?_
      refine zV_iload_n O dX3_dropHost_94 rfl rfl ?_
      obtain ⟨⟨c1, c2, c3, c4, c5⟩, hM⟩ := hM
      refine zV_copyI O zi_678 zi_680 zi_679 zi_89 (zN_a5 hN) (zN_a5 hN) (zN_lt hN (k := 5) (by decide)) (zN_lt hN (k := 5) (by decide)) c1 c2 c3 c4 c5 (Nat.le_of_ble_eq_true rfl) (Nat.le_of_ble_eq_true rfl) dX3_dropHost_95 ?_
      have hM := hM (hcp h13 (o + 5) (Int.toNat (x1 + 1)) (o + 5) (Int.toNat x1) (Int.toNat (((h o 0) - x1) - 1))) rfl
      generalize hcp h13 (o + 5) (Int.toNat (x1 + 1)) (o + 5) (Int.toNat x1) (Int.toNat (((h o 0) - x1) - 1)) = h14 at hM ⊢
      refine zV_aload_n O dX3_dropHost_98 rfl rfl ?_
      refine zV_getR O zf_RX3_28 (zN_o hN) rfl (zN_lt0 hN) dX3_dropHost_99 ?_
      refine zV_iload_n O dX3_dropHost_102 rfl rfl ?_
      refine zV_iconst (z := 1) O ⟨by omega, by omega⟩ dX3_dropHost_103 ?_
      obtain ⟨hc, hM⟩ := hM
      refine zV_iadd O dX3_dropHost_104 hc ?_
      refine zV_aload_n O dX3_dropHost_105 rfl rfl ?_
      refine zV_getR O zf_RX3_28 (zN_o hN) rfl (zN_lt0 hN) dX3_dropHost_106 ?_
      refine zV_iload_n O dX3_dropHost_109 rfl rfl ?_
      refine zV_iload_n O dX3_dropHost_110 rfl rfl ?_
      obtain ⟨⟨c1, c2, c3, c4, c5⟩, hM⟩ := hM
      refine zV_copyI O zi_678 zi_680 zi_679 zi_89 (zN_a6 hN) (zN_a6 hN) (zN_lt hN (k := 6) (by decide)) (zN_lt hN (k := 6) (by decide)) c1 c2 c3 c4 c5 (Nat.le_of_ble_eq_true rfl) (Nat.le_of_ble_eq_true rfl) dX3_dropHost_111 ?_
      have hM := hM (hcp h14 (o + 6) (Int.toNat (x1 + 1)) (o + 6) (Int.toNat x1) (Int.toNat (((h o 0) - x1) - 1))) rfl
      generalize hcp h14 (o + 6) (Int.toNat (x1 + 1)) (o + 6) (Int.toNat x1) (Int.toNat (((h o 0) - x1) - 1)) = h15 at hM ⊢
      refine zV_aload_n O dX3_dropHost_114 rfl rfl ?_
      refine zV_getR O zf_RX3_31 (zN_o hN) rfl (zN_lt0 hN) dX3_dropHost_115 ?_
      refine zV_iload_n O dX3_dropHost_118 rfl rfl ?_
      refine zV_iconst (z := 1) O ⟨by omega, by omega⟩ dX3_dropHost_119 ?_
      obtain ⟨hc, hM⟩ := hM
      refine zV_iadd O dX3_dropHost_120 hc ?_
      refine zV_aload_n O dX3_dropHost_121 rfl rfl ?_
      refine zV_getR O zf_RX3_31 (zN_o hN) rfl (zN_lt0 hN) dX3_dropHost_122 ?_
      refine zV_iload_n O dX3_dropHost_125 rfl rfl ?_
      refine zV_iload_n O dX3_dropHost_126 rfl rfl ?_
      obtain ⟨⟨c1, c2, c3, c4, c5⟩, hM⟩ := hM
      refine zV_copyI O zi_678 zi_680 zi_679 zi_89 (zN_a7 hN) (zN_a7 hN) (zN_lt hN (k := 7) (by decide)) (zN_lt hN (k := 7) (by decide)) c1 c2 c3 c4 c5 (Nat.le_of_ble_eq_true rfl) (Nat.le_of_ble_eq_true rfl) dX3_dropHost_127 ?_
      have hM := hM (hcp h15 (o + 7) (Int.toNat (x1 + 1)) (o + 7) (Int.toNat x1) (Int.toNat (((h o 0) - x1) - 1))) rfl
      generalize hcp h15 (o + 7) (Int.toNat (x1 + 1)) (o + 7) (Int.toNat x1) (Int.toNat (((h o 0) - x1) - 1)) = h16 at hM ⊢
      refine zV_aload_n O dX3_dropHost_130 rfl rfl ?_
      refine zV_getR O zf_RX3_34 (zN_o hN) rfl (zN_lt0 hN) dX3_dropHost_131 ?_
      refine zV_iload_n O dX3_dropHost_134 rfl rfl ?_
      refine zV_iconst (z := 1) O ⟨by omega, by omega⟩ dX3_dropHost_135 ?_
      obtain ⟨hc, hM⟩ := hM
      refine zV_iadd O dX3_dropHost_136 hc ?_
      refine zV_bipush (z := 10) O ⟨by omega, by omega⟩ rfl dX3_dropHost_137 ?_
      obtain ⟨hc, hM⟩ := hM
      refine zV_imul O dX3_dropHost_139 hc ?_
      refine zV_aload_n O dX3_dropHost_140 rfl rfl ?_
      refine zV_getR O zf_RX3_34 (zN_o hN) rfl (zN_lt0 hN) dX3_dropHost_141 ?_
      refine zV_iload_n O dX3_dropHost_144 rfl rfl ?_
      refine zV_bipush (z := 10) O ⟨by omega, by omega⟩ rfl dX3_dropHost_145 ?_
      obtain ⟨hc, hM⟩ := hM
      refine zV_imul O dX3_dropHost_147 hc ?_
      refine zV_iload_n O dX3_dropHost_148 rfl rfl ?_
      refine zV_bipush (z := 10) O ⟨by omega, by omega⟩ rfl dX3_dropHost_149 ?_
      obtain ⟨hc, hM⟩ := hM
      refine zV_imul O dX3_dropHost_151 hc ?_
      obtain ⟨⟨c1, c2, c3, c4, c5⟩, hM⟩ := hM
      refine zV_copyI O zi_678 zi_680 zi_679 zi_89 (zN_a8 hN) (zN_a8 hN) (zN_lt hN (k := 8) (by decide)) (zN_lt hN (k := 8) (by decide)) c1 c2 c3 c4 c5 (Nat.le_of_ble_eq_true rfl) (Nat.le_of_ble_eq_true rfl) dX3_dropHost_152 ?_
      have hM := hM (hcp h16 (o + 8) (Int.toNat ((x1 + 1) * 10)) (o + 8) (Int.toNat (x1 * 10)) (Int.toNat ((((h o 0) - x1) - 1) * 10))) rfl
      generalize hcp h16 (o + 8) (Int.toNat ((x1 + 1) * 10)) (o + 8) (Int.toNat (x1 * 10)) (Int.toNat ((((h o 0) - x1) - 1) * 10)) = h17 at hM ⊢
      refine zV_aload_n O dX3_dropHost_155 rfl rfl ?_
      refine zV_dup O rfl dX3_dropHost_156 ?_
      refine zV_getI O zf_RX3_49 (zN_o hN) rfl (zN_lt0 hN) dX3_dropHost_157 ?_
      refine zV_iconst (z := 1) O ⟨by omega, by omega⟩ dX3_dropHost_160 ?_
      obtain ⟨hc, hM⟩ := hM
      refine zV_isub O dX3_dropHost_161 hc ?_
      refine zV_putI O zf_RX3_49 (zN_o hN) rfl (zN_lt0 hN) dX3_dropHost_162 ?_
      have hM := hM _ rfl
      generalize hu h17 o 0 ((h17 o 0) - 1) = h18 at hM ⊢
      exact zV_vret O rfl ⟨rfl, hM⟩ (Nat.le_of_ble_eq_true rfl) (Nat.le_of_ble_eq_true rfl) dX3_dropHost_165
    · replace hM := hM.2 hc
      exact zV_vret O rfl ⟨rfl, hM⟩ (Nat.le_of_ble_eq_true rfl) (Nat.le_of_ble_eq_true rfl) dX3_dropHost_17
def mX3_dropRule (o : Nat) (x1 : Int) (h : Hp) (Q : Hp → Prop) : Prop := (zr ((h o 1) - x1) ∧ (zr (((h o 1) - x1) - 1) ∧ ((x1 < 0 → (Q h)) ∧ (¬ x1 < 0 → ((0 ≤ (((h o 1) - x1) - 1) → (zr (x1 + 1) ∧ (((0 : Int) ≤ (x1 + 1) ∧ (0 : Int) ≤ x1 ∧ (0 : Int) ≤ (((h o 1) - x1) - 1) ∧ ((x1 + 1) : Int) + (((h o 1) - x1) - 1) ≤ 30 ∧ (x1 : Int) + (((h o 1) - x1) - 1) ≤ 30) ∧ (∀ h6 : Hp, h6 = rcp h (o + 9) (x1 + 1) (o + 9) x1 (((h o 1) - x1) - 1) → (zr (x1 + 1) ∧ (((0 : Int) ≤ (x1 + 1) ∧ (0 : Int) ≤ x1 ∧ (0 : Int) ≤ (((h o 1) - x1) - 1) ∧ ((x1 + 1) : Int) + (((h o 1) - x1) - 1) ≤ 30 ∧ (x1 : Int) + (((h o 1) - x1) - 1) ≤ 30) ∧ (∀ h7 : Hp, h7 = rcp h6 (o + 10) (x1 + 1) (o + 10) x1 (((h o 1) - x1) - 1) → (zr (x1 + 1) ∧ (((0 : Int) ≤ (x1 + 1) ∧ (0 : Int) ≤ x1 ∧ (0 : Int) ≤ (((h o 1) - x1) - 1) ∧ ((x1 + 1) : Int) + (((h o 1) - x1) - 1) ≤ 30 ∧ (x1 : Int) + (((h o 1) - x1) - 1) ≤ 30) ∧ (∀ h8 : Hp, h8 = rcp h7 (o + 11) (x1 + 1) (o + 11) x1 (((h o 1) - x1) - 1) → (zr (x1 + 1) ∧ (((0 : Int) ≤ (x1 + 1) ∧ (0 : Int) ≤ x1 ∧ (0 : Int) ≤ (((h o 1) - x1) - 1) ∧ ((x1 + 1) : Int) + (((h o 1) - x1) - 1) ≤ 30 ∧ (x1 : Int) + (((h o 1) - x1) - 1) ≤ 30) ∧ (∀ h9 : Hp, h9 = rcp h8 (o + 12) (x1 + 1) (o + 12) x1 (((h o 1) - x1) - 1) → (zr ((h9 o 1) - 1) ∧ (∀ h10 : Hp, h10 = hu h9 o 1 ((h9 o 1) - 1) → (Q h10)))))))))))))))) ∧ (¬ 0 ≤ (((h o 1) - x1) - 1) → (Q h)))))))
set_option maxHeartbeats 4000000 in
set_option maxRecDepth 100000 in
theorem sX3_dropRule {l0 : Launch} {o : Nat} {x1 : Int} {h : Hp} {Q : Hp → Prop} (hN : zisN o) (hM : mX3_dropRule o x1 h Q) : zSp l0 yX3_dropRule cX3_dropRule 3 none 185 (4) 0 0 [aR o, aI x1] h (qV Q) xN := by
  unfold mX3_dropRule at hM
  refine zSp_intro zpn_RX3 (Nat.le_of_ble_eq_true rfl) (fun a O => ?_)
  show zV a (4, 0, 0, (qV Q), xN) 0 0 0 [some (aR o), some (aI x1), none] [] h
  refine zV_aload_n O dX3_dropRule_0 rfl rfl ?_
  refine zV_getI O zf_RX3_53 (zN_o hN) rfl (zN_lt0 hN) dX3_dropRule_1 ?_
  refine zV_iload_n O dX3_dropRule_4 rfl rfl ?_
  obtain ⟨hc, hM⟩ := hM
  refine zV_isub O dX3_dropRule_5 hc ?_
  refine zV_iconst (z := 1) O ⟨by omega, by omega⟩ dX3_dropRule_6 ?_
  obtain ⟨hc, hM⟩ := hM
  refine zV_isub O dX3_dropRule_7 hc ?_
  refine zV_istore_n O dX3_dropRule_8 rfl (Nat.le_of_ble_eq_true rfl) rfl ?_
  refine zV_iload_n O dX3_dropRule_9 rfl rfl ?_
  refine zV_if_lt (tgt := 17) O dX3_dropRule_10 (by decide) (fun hc => ?_) (fun hc => ?_)
  · replace hM := hM.1 hc
    exact zV_vret O rfl ⟨rfl, hM⟩ (Nat.le_of_ble_eq_true rfl) (Nat.le_of_ble_eq_true rfl) dX3_dropRule_17
  · replace hM := hM.2 hc
    refine zV_iload_n O dX3_dropRule_13 rfl rfl ?_
    refine zV_if_ge (tgt := 18) O dX3_dropRule_14 (by decide) (fun hc => ?_) (fun hc => ?_)
    · replace hM := hM.1 hc
      refine zV_aload_n O dX3_dropRule_18 rfl rfl ?_
      refine zV_getR O zf_RX3_37 (zN_o hN) rfl (zN_lt0 hN) dX3_dropRule_19 ?_
      refine zV_iload_n O dX3_dropRule_22 rfl rfl ?_
      refine zV_iconst (z := 1) O ⟨by omega, by omega⟩ dX3_dropRule_23 ?_
      obtain ⟨hc, hM⟩ := hM
      refine zV_iadd O dX3_dropRule_24 hc ?_
      refine zV_aload_n O dX3_dropRule_25 rfl rfl ?_
      refine zV_getR O zf_RX3_37 (zN_o hN) rfl (zN_lt0 hN) dX3_dropRule_26 ?_
      refine zV_iload_n O dX3_dropRule_29 rfl rfl ?_
      refine zV_iload_n O dX3_dropRule_30 rfl rfl ?_
      obtain ⟨⟨c1, c2, c3, c4, c5⟩, hM⟩ := hM
      refine zV_copyI O zi_678 zi_680 zi_679 zi_89 (zN_a9 hN) (zN_a9 hN) (zN_lt hN (k := 9) (by decide)) (zN_lt hN (k := 9) (by decide)) c1 c2 c3 c4 c5 (Nat.le_of_ble_eq_true rfl) (Nat.le_of_ble_eq_true rfl) dX3_dropRule_31 ?_
      have hM := hM (hcp h (o + 9) (Int.toNat (x1 + 1)) (o + 9) (Int.toNat x1) (Int.toNat (((h o 1) - x1) - 1))) rfl
      generalize hcp h (o + 9) (Int.toNat (x1 + 1)) (o + 9) (Int.toNat x1) (Int.toNat (((h o 1) - x1) - 1)) = h6 at hM ⊢
      refine zV_aload_n O dX3_dropRule_34 rfl rfl ?_
      refine zV_getR O zf_RX3_40 (zN_o hN) rfl (zN_lt0 hN) dX3_dropRule_35 ?_
      refine zV_iload_n O dX3_dropRule_38 rfl rfl ?_
      refine zV_iconst (z := 1) O ⟨by omega, by omega⟩ dX3_dropRule_39 ?_
      obtain ⟨hc, hM⟩ := hM
      refine zV_iadd O dX3_dropRule_40 hc ?_
      refine zV_aload_n O dX3_dropRule_41 rfl rfl ?_
      refine zV_getR O zf_RX3_40 (zN_o hN) rfl (zN_lt0 hN) dX3_dropRule_42 ?_
      refine zV_iload_n O dX3_dropRule_45 rfl rfl ?_
      refine zV_iload_n O dX3_dropRule_46 rfl rfl ?_
      obtain ⟨⟨c1, c2, c3, c4, c5⟩, hM⟩ := hM
      refine zV_copyI O zi_678 zi_680 zi_679 zi_89 (zN_a10 hN) (zN_a10 hN) (zN_lt hN (k := 10) (by decide)) (zN_lt hN (k := 10) (by decide)) c1 c2 c3 c4 c5 (Nat.le_of_ble_eq_true rfl) (Nat.le_of_ble_eq_true rfl) dX3_dropRule_47 ?_
      have hM := hM (hcp h6 (o + 10) (Int.toNat (x1 + 1)) (o + 10) (Int.toNat x1) (Int.toNat (((h o 1) - x1) - 1))) rfl
      generalize hcp h6 (o + 10) (Int.toNat (x1 + 1)) (o + 10) (Int.toNat x1) (Int.toNat (((h o 1) - x1) - 1)) = h7 at hM ⊢
      refine zV_aload_n O dX3_dropRule_50 rfl rfl ?_
      refine zV_getR O zf_RX3_43 (zN_o hN) rfl (zN_lt0 hN) dX3_dropRule_51 ?_
      refine zV_iload_n O dX3_dropRule_54 rfl rfl ?_
      refine zV_iconst (z := 1) O ⟨by omega, by omega⟩ dX3_dropRule_55 ?_
      obtain ⟨hc, hM⟩ := hM
      refine zV_iadd O dX3_dropRule_56 hc ?_
      refine zV_aload_n O dX3_dropRule_57 rfl rfl ?_
      refine zV_getR O zf_RX3_43 (zN_o hN) rfl (zN_lt0 hN) dX3_dropRule_58 ?_
      refine zV_iload_n O dX3_dropRule_61 rfl rfl ?_
      refine zV_iload_n O dX3_dropRule_62 rfl rfl ?_
      obtain ⟨⟨c1, c2, c3, c4, c5⟩, hM⟩ := hM
      refine zV_copyI O zi_678 zi_680 zi_679 zi_89 (zN_a11 hN) (zN_a11 hN) (zN_lt hN (k := 11) (by decide)) (zN_lt hN (k := 11) (by decide)) c1 c2 c3 c4 c5 (Nat.le_of_ble_eq_true rfl) (Nat.le_of_ble_eq_true rfl) dX3_dropRule_63 ?_
      have hM := hM (hcp h7 (o + 11) (Int.toNat (x1 + 1)) (o + 11) (Int.toNat x1) (Int.toNat (((h o 1) - x1) - 1))) rfl
      generalize hcp h7 (o + 11) (Int.toNat (x1 + 1)) (o + 11) (Int.toNat x1) (Int.toNat (((h o 1) - x1) - 1)) = h8 at hM ⊢
      refine zV_aload_n O dX3_dropRule_66 rfl rfl ?_
      refine zV_getR O zf_RX3_46 (zN_o hN) rfl (zN_lt0 hN) dX3_dropRule_67 ?_
      refine zV_iload_n O dX3_dropRule_70 rfl rfl ?_
      refine zV_iconst (z := 1) O ⟨by omega, by omega⟩ dX3_dropRule_71 ?_
      obtain ⟨hc, hM⟩ := hM
      refine zV_iadd O dX3_dropRule_72 hc ?_
      refine zV_aload_n O dX3_dropRule_73 rfl rfl ?_
      refine zV_getR O zf_RX3_46 (zN_o hN) rfl (zN_lt0 hN) dX3_dropRule_74 ?_
      refine zV_iload_n O dX3_dropRule_77 rfl rfl ?_
      refine zV_iload_n O dX3_dropRule_78 rfl rfl ?_
      obtain ⟨⟨c1, c2, c3, c4, c5⟩, hM⟩ := hM
      refine zV_copyI O zi_678 zi_680 zi_679 zi_89 (zN_a12 hN) (zN_a12 hN) (zN_lt hN (k := 12) (by decide)) (zN_lt hN (k := 12) (by decide)) c1 c2 c3 c4 c5 (Nat.le_of_ble_eq_true rfl) (Nat.le_of_ble_eq_true rfl) dX3_dropRule_79 ?_
      have hM := hM (hcp h8 (o + 12) (Int.toNat (x1 + 1)) (o + 12) (Int.toNat x1) (Int.toNat (((h o 1) - x1) - 1))) rfl
      generalize hcp h8 (o + 12) (Int.toNat (x1 + 1)) (o + 12) (Int.toNat x1) (Int.toNat (((h o 1) - x1) - 1)) = h9 at hM ⊢
      refine zV_aload_n O dX3_dropRule_82 rfl rfl ?_
      refine zV_dup O rfl dX3_dropRule_83 ?_
      refine zV_getI O zf_RX3_53 (zN_o hN) rfl (zN_lt0 hN) dX3_dropRule_84 ?_
      refine zV_iconst (z := 1) O ⟨by omega, by omega⟩ dX3_dropRule_87 ?_
      obtain ⟨hc, hM⟩ := hM
      refine zV_isub O dX3_dropRule_88 hc ?_
      refine zV_putI O zf_RX3_53 (zN_o hN) rfl (zN_lt0 hN) dX3_dropRule_89 ?_
      have hM := hM _ rfl
      generalize hu h9 o 1 ((h9 o 1) - 1) = h10 at hM ⊢
      exact zV_vret O rfl ⟨rfl, hM⟩ (Nat.le_of_ble_eq_true rfl) (Nat.le_of_ble_eq_true rfl) dX3_dropRule_92
    · replace hM := hM.2 hc
      exact zV_vret O rfl ⟨rfl, hM⟩ (Nat.le_of_ble_eq_true rfl) (Nat.le_of_ble_eq_true rfl) dX3_dropRule_17
def mX3_undoWave_b97 (o : Nat) (Q : Hp → Prop) (K71 : Int → Hp → Prop) (v1 : Int) (h : Hp) : Prop := (zr (v1 + 1) ∧ (K71 (v1 + 1) h))
set_option maxHeartbeats 4000000 in
set_option maxRecDepth 100000 in
theorem sX3_undoWave_b97 {l0 : Launch} {a : ZC} {o : Nat} {Q : Hp → Prop} {K71 : Int → Hp → Prop} (O : zOk l0 a cX3_undoWave RX3 2 none 185 []) (hN : zisN o) (hK71 : ∀ (v1 : Int) (h : Hp), K71 v1 h → zV a (4, 0, 0, (qV Q), xN) 0 0 71 [some (aR o), some (aI v1)] [] h) {v1 : Int} {h : Hp}  (hM : mX3_undoWave_b97 o Q K71 v1 h) : zV a (4, 0, 0, (qV Q), xN) 0 0 97 [some (aR o), some (aI v1)] [] h := by
  unfold mX3_undoWave_b97 at hM
  obtain ⟨hc, hM⟩ := hM
  refine zV_iinc O dX3_undoWave_97 rfl (Nat.le_of_ble_eq_true rfl) rfl hc ?_
  refine zV_goto (tgt := 71) O dX3_undoWave_100 (by decide) ?_
  exact hK71 _ _ hM
def mX3_undoWave_b71 (o : Nat) (Q : Hp → Prop) : Nat → Int → Hp → Prop
  | 0 => fun _ _ => False
  | fu71 + 1 => fun v1 h => (((h o 0) ≤ v1 → (zr ((h o 2) - 1) ∧ (∀ h19 : Hp, h19 = hu h o 2 ((h o 2) - 1) → (Q h19)))) ∧ (¬ (h o 0) ≤ v1 → (((0 : Int) ≤ v1 ∧ v1 < 40) ∧ ((¬ (rd h (o + 7) v1) = (h o 2) → (mX3_undoWave_b97 o Q (mX3_undoWave_b71 o Q fu71) v1 h)) ∧ ((rd h (o + 7) v1) = (h o 2) → (mX3_undoMove o v1 h (fun h20 => (mX3_undoWave_b97 o Q (mX3_undoWave_b71 o Q fu71) v1 h20))))))))
set_option maxHeartbeats 4000000 in
set_option maxRecDepth 100000 in
theorem sX3_undoWave_b71 {l0 : Launch} {a : ZC} {o : Nat} {Q : Hp → Prop}  (O : zOk l0 a cX3_undoWave RX3 2 none 185 []) (hN : zisN o)  : ∀ (ff : Nat) (v1 : Int) (h : Hp), mX3_undoWave_b71 o Q ff v1 h → zV a (4, 0, 0, (qV Q), xN) 0 0 71 [some (aR o), some (aI v1)] [] h := by
  intro ff
  induction ff with
  | zero => intro v1 h hM; exact hM.elim
  | succ ff ih =>
    have hK71 := ih
    intro v1 h hM
    unfold mX3_undoWave_b71 at hM
    refine zV_iload_n O dX3_undoWave_71 rfl rfl ?_
    refine zV_aload_n O dX3_undoWave_72 rfl rfl ?_
    refine zV_getI O zf_RX3_49 (zN_o hN) rfl (zN_lt0 hN) dX3_undoWave_73 ?_
    refine zV_icmp_ge (tgt := 103) O dX3_undoWave_76 (by decide) (fun hc => ?_) (fun hc => ?_)
    · replace hM := hM.1 hc
      refine zV_aload_n O dX3_undoWave_103 rfl rfl ?_
      refine zV_dup O rfl dX3_undoWave_104 ?_
      refine zV_getI O zf_RX3_56 (zN_o hN) rfl (zN_lt0 hN) dX3_undoWave_105 ?_
      refine zV_iconst (z := 1) O ⟨by omega, by omega⟩ dX3_undoWave_108 ?_
      obtain ⟨hc, hM⟩ := hM
      refine zV_isub O dX3_undoWave_109 hc ?_
      refine zV_putI O zf_RX3_56 (zN_o hN) rfl (zN_lt0 hN) dX3_undoWave_110 ?_
      have hM := hM _ rfl
      generalize hu h o 2 ((h o 2) - 1) = h19 at hM ⊢
      exact zV_vret O rfl ⟨rfl, hM⟩ (Nat.le_of_ble_eq_true rfl) (Nat.le_of_ble_eq_true rfl) dX3_undoWave_113
    · replace hM := hM.2 hc
      refine zV_aload_n O dX3_undoWave_79 rfl rfl ?_
      refine zV_getR O zf_RX3_31 (zN_o hN) rfl (zN_lt0 hN) dX3_undoWave_80 ?_
      refine zV_iload_n O dX3_undoWave_83 rfl rfl ?_
      obtain ⟨hc, hM⟩ := hM
      refine zV_iald O (zN_a7 hN) (zN_lt hN (k := 7) (by decide)) hc dX3_undoWave_84 ?_
      refine zV_aload_n O dX3_undoWave_85 rfl rfl ?_
      refine zV_getI O zf_RX3_56 (zN_o hN) rfl (zN_lt0 hN) dX3_undoWave_86 ?_
      refine zV_icmp_ne (tgt := 97) O dX3_undoWave_89 (by decide) (fun hc => ?_) (fun hc => ?_)
      · replace hM := hM.1 hc
        exact sX3_undoWave_b97 O hN hK71 hM
      · replace hM := hM.2 hc
        refine zV_aload_n O dX3_undoWave_92 rfl rfl ?_
        refine zV_iload_n O dX3_undoWave_93 rfl rfl ?_
        refine zV_callV (as := [aI v1]) (st := []) O zc_X3_undoMove (Or.inl zl_RX3_133) zi_922 zi_67 (zN_o hN) rfl rfl (zN_lt0 hN) (Nat.le_of_ble_eq_true rfl) rfl rfl (Nat.le_of_ble_eq_true rfl) (Nat.le_of_ble_eq_true rfl) (Nat.le_of_ble_eq_true rfl) (Nat.le_of_ble_eq_true rfl) (Nat.le_of_ble_eq_true rfl) (Nat.le_of_ble_eq_true rfl) dX3_undoWave_94 (sX3_undoMove hN hM) (fun r h20 hq => ?_) (fun x h9 hq => hq.elim)
        obtain ⟨rfl, hM⟩ := hq
        exact sX3_undoWave_b97 O hN hK71 hM
def mX3_undoWave_b11 (o : Nat) (Q : Hp → Prop) : Nat → Int → Hp → Prop
  | 0 => fun _ _ => False
  | fu11 + 1 => fun v1 h => (((h o 1) ≤ v1 → (∃ ff, mX3_undoWave_b71 o Q ff 0 h)) ∧ (¬ (h o 1) ≤ v1 → (((0 : Int) ≤ v1 ∧ v1 < 30) ∧ (((0 : Int) ≤ v1 ∧ v1 < 30) ∧ (mX3_sideAheadOfWave o (rd h (o + 9) v1) (rd h (o + 11) v1) h (fun z21 => (((0 : Int) ≤ v1 ∧ v1 < 30) ∧ (∀ h22 : Hp, h22 = wr h (o + 11) v1 z21 → (((0 : Int) ≤ v1 ∧ v1 < 30) ∧ (((0 : Int) ≤ v1 ∧ v1 < 30) ∧ (mX3_sideAheadOfWave o (rd h22 (o + 9) v1) (rd h22 (o + 12) v1) h22 (fun z23 => (((0 : Int) ≤ v1 ∧ v1 < 30) ∧ (∀ h24 : Hp, h24 = wr h22 (o + 12) v1 z23 → (zr (v1 + 1) ∧ ((mX3_undoWave_b11 o Q fu11) (v1 + 1) h24))))))))))))))))
set_option maxHeartbeats 4000000 in
set_option maxRecDepth 100000 in
theorem sX3_undoWave_b11 {l0 : Launch} {a : ZC} {o : Nat} {Q : Hp → Prop}  (O : zOk l0 a cX3_undoWave RX3 2 none 185 []) (hN : zisN o)  : ∀ (ff : Nat) (v1 : Int) (h : Hp), mX3_undoWave_b11 o Q ff v1 h → zV a (4, 0, 0, (qV Q), xN) 0 0 11 [some (aR o), some (aI v1)] [] h := by
  intro ff
  induction ff with
  | zero => intro v1 h hM; exact hM.elim
  | succ ff ih =>
    have hK11 := ih
    intro v1 h hM
    unfold mX3_undoWave_b11 at hM
    refine zV_iload_n O dX3_undoWave_11 rfl rfl ?_
    refine zV_aload_n O dX3_undoWave_12 rfl rfl ?_
    refine zV_getI O zf_RX3_53 (zN_o hN) rfl (zN_lt0 hN) dX3_undoWave_13 ?_
    refine zV_icmp_ge (tgt := 69) O dX3_undoWave_16 (by decide) (fun hc => ?_) (fun hc => ?_)
    · replace hM := hM.1 hc
      refine zV_iconst (z := 0) O ⟨by omega, by omega⟩ dX3_undoWave_69 ?_
      refine zV_istore_n O dX3_undoWave_70 rfl (Nat.le_of_ble_eq_true rfl) rfl ?_
      obtain ⟨ff, hM⟩ := hM
      exact sX3_undoWave_b71 O hN ff _ _ hM
    · replace hM := hM.2 hc
      refine zV_aload_n O dX3_undoWave_19 rfl rfl ?_
      refine zV_getR O zf_RX3_43 (zN_o hN) rfl (zN_lt0 hN) dX3_undoWave_20 ?_
      refine zV_iload_n O dX3_undoWave_23 rfl rfl ?_
      refine zV_aload_n O dX3_undoWave_24 rfl rfl ?_
      refine zV_aload_n O dX3_undoWave_25 rfl rfl ?_
      refine zV_getR O zf_RX3_37 (zN_o hN) rfl (zN_lt0 hN) dX3_undoWave_26 ?_
      refine zV_iload_n O dX3_undoWave_29 rfl rfl ?_
      obtain ⟨hc, hM⟩ := hM
      refine zV_iald O (zN_a9 hN) (zN_lt hN (k := 9) (by decide)) hc dX3_undoWave_30 ?_
      refine zV_aload_n O dX3_undoWave_31 rfl rfl ?_
      refine zV_getR O zf_RX3_43 (zN_o hN) rfl (zN_lt0 hN) dX3_undoWave_32 ?_
      refine zV_iload_n O dX3_undoWave_35 rfl rfl ?_
      obtain ⟨hc, hM⟩ := hM
      refine zV_iald O (zN_a11 hN) (zN_lt hN (k := 11) (by decide)) hc dX3_undoWave_36 ?_
      refine zV_callV (as := [aI (rd h (o + 9) v1), aI (rd h (o + 11) v1)]) (st := [aI v1, aR (o + 11)]) O zc_X3_sideAheadOfWave (Or.inl zl_RX3_130) zi_918 zi_66 (zN_o hN) rfl rfl (zN_lt0 hN) (Nat.le_of_ble_eq_true rfl) rfl rfl (Nat.le_of_ble_eq_true rfl) (Nat.le_of_ble_eq_true rfl) (Nat.le_of_ble_eq_true rfl) (Nat.le_of_ble_eq_true rfl) (Nat.le_of_ble_eq_true rfl) (Nat.le_of_ble_eq_true rfl) dX3_undoWave_37 (sX3_sideAheadOfWave hN hM) (fun r h9 hq => ?_) (fun x h9 hq => hq.elim)
      obtain ⟨rfl, z21, rfl, hM⟩ := hq
      obtain ⟨hc, hM⟩ := hM
      refine zV_iast O (zN_a11 hN) (zN_lt hN (k := 11) (by decide)) hc dX3_undoWave_40 ?_
      have hM := hM (hu h (o + 11) (Int.toNat v1) z21) rfl
      generalize hu h (o + 11) (Int.toNat v1) z21 = h22 at hM ⊢
      refine zV_aload_n O dX3_undoWave_41 rfl rfl ?_
      refine zV_getR O zf_RX3_46 (zN_o hN) rfl (zN_lt0 hN) dX3_undoWave_42 ?_
      refine zV_iload_n O dX3_undoWave_45 rfl rfl ?_
      refine zV_aload_n O dX3_undoWave_46 rfl rfl ?_
      refine zV_aload_n O dX3_undoWave_47 rfl rfl ?_
      refine zV_getR O zf_RX3_37 (zN_o hN) rfl (zN_lt0 hN) dX3_undoWave_48 ?_
      refine zV_iload_n O dX3_undoWave_51 rfl rfl ?_
      obtain ⟨hc, hM⟩ := hM
      refine zV_iald O (zN_a9 hN) (zN_lt hN (k := 9) (by decide)) hc dX3_undoWave_52 ?_
      refine zV_aload_n O dX3_undoWave_53 rfl rfl ?_
      refine zV_getR O zf_RX3_46 (zN_o hN) rfl (zN_lt0 hN) dX3_undoWave_54 ?_
      refine zV_iload_n O dX3_undoWave_57 rfl rfl ?_
      obtain ⟨hc, hM⟩ := hM
      refine zV_iald O (zN_a12 hN) (zN_lt hN (k := 12) (by decide)) hc dX3_undoWave_58 ?_
      refine zV_callV (as := [aI (rd h22 (o + 9) v1), aI (rd h22 (o + 12) v1)]) (st := [aI v1, aR (o + 12)]) O zc_X3_sideAheadOfWave (Or.inl zl_RX3_130) zi_918 zi_66 (zN_o hN) rfl rfl (zN_lt0 hN) (Nat.le_of_ble_eq_true rfl) rfl rfl (Nat.le_of_ble_eq_true rfl) (Nat.le_of_ble_eq_true rfl) (Nat.le_of_ble_eq_true rfl) (Nat.le_of_ble_eq_true rfl) (Nat.le_of_ble_eq_true rfl) (Nat.le_of_ble_eq_true rfl) dX3_undoWave_59 (sX3_sideAheadOfWave hN hM) (fun r h9 hq => ?_) (fun x h9 hq => hq.elim)
      obtain ⟨rfl, z23, rfl, hM⟩ := hq
      obtain ⟨hc, hM⟩ := hM
      refine zV_iast O (zN_a12 hN) (zN_lt hN (k := 12) (by decide)) hc dX3_undoWave_62 ?_
      have hM := hM (hu h22 (o + 12) (Int.toNat v1) z23) rfl
      generalize hu h22 (o + 12) (Int.toNat v1) z23 = h24 at hM ⊢
      obtain ⟨hc, hM⟩ := hM
      refine zV_iinc O dX3_undoWave_63 rfl (Nat.le_of_ble_eq_true rfl) rfl hc ?_
      refine zV_goto (tgt := 11) O dX3_undoWave_66 (by decide) ?_
      exact hK11 _ _ hM
def mX3_undoWave (o : Nat) (h : Hp) (Q : Hp → Prop) : Prop := (((1 : Int) ≤ (h o 2) → (∃ ff, mX3_undoWave_b11 o Q ff 0 h)) ∧ (¬ (1 : Int) ≤ (h o 2) → (Q h)))
set_option maxHeartbeats 4000000 in
set_option maxRecDepth 100000 in
theorem sX3_undoWave {l0 : Launch} {o : Nat} {h : Hp} {Q : Hp → Prop} (hN : zisN o) (hM : mX3_undoWave o h Q) : zSp l0 yX3_undoWave cX3_undoWave 2 none 185 (4) 0 0 [aR o] h (qV Q) xN := by
  unfold mX3_undoWave at hM
  refine zSp_intro zpn_RX3 (Nat.le_of_ble_eq_true rfl) (fun a O => ?_)
  show zV a (4, 0, 0, (qV Q), xN) 0 0 0 [some (aR o), none] [] h
  refine zV_aload_n O dX3_undoWave_0 rfl rfl ?_
  refine zV_getI O zf_RX3_56 (zN_o hN) rfl (zN_lt0 hN) dX3_undoWave_1 ?_
  refine zV_iconst (z := 1) O ⟨by omega, by omega⟩ dX3_undoWave_4 ?_
  refine zV_icmp_ge (tgt := 9) O dX3_undoWave_5 (by decide) (fun hc => ?_) (fun hc => ?_)
  · replace hM := hM.1 hc
    refine zV_iconst (z := 0) O ⟨by omega, by omega⟩ dX3_undoWave_9 ?_
    refine zV_istore_n O dX3_undoWave_10 rfl (Nat.le_of_ble_eq_true rfl) rfl ?_
    obtain ⟨ff, hM⟩ := hM
    exact sX3_undoWave_b11 O hN ff _ _ hM
  · replace hM := hM.2 hc
    exact zV_vret O rfl ⟨rfl, hM⟩ (Nat.le_of_ble_eq_true rfl) (Nat.le_of_ble_eq_true rfl) dX3_undoWave_8
