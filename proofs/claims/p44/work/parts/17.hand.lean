theorem zSpA_to {l : Launch} {y : MethodName} {cc : ByteArray} {mL : Nat} {ret : Option FieldType} {d mc ms : Nat} {as : List AV} {h : Hp} {Q : Option AV → Hp → Prop} {QX : Nat → Hp → Prop} {N0 N : Nat} (sp : zSpA l y cc mL ret d mc ms as h Q QX N0) (hN : N = N0) : zSpA l y cc mL ret d mc ms as h Q QX N := by
  rw [hN]
  exact sp
theorem zand30 (z : Int) : 0 ≤ zand z 1073741823 ∧ zand z 1073741823 ≤ 1073741823 := by
  have h1 : (Int32.ofInt z &&& Int32.ofInt 1073741823).toBitVec.toNat ≤ 1073741823 := by
    show ((Int32.ofInt z).toBitVec &&& (Int32.ofInt 1073741823).toBitVec).toNat ≤ _
    rw [BitVec.toNat_and]
    exact Nat.and_le_right
  have h2 : zand z 1073741823 = ((Int32.ofInt z &&& Int32.ofInt 1073741823).toBitVec.toNat : Int) := by
    show (Int32.ofInt z &&& Int32.ofInt 1073741823).toBitVec.toInt = _
    rw [BitVec.toInt_eq_toNat_cond, if_pos (by omega)]
  omega
def mL_cell (x1 : Int) (h : Hp) (Q : Int → Prop) : Prop := 0 ≤ x1 ∧ ∀ z, 0 ≤ z → z ≤ 1073741823 → Q z
theorem sL_cell {l0 : Launch} {x1 : Int} {h : Hp} {Q : Int → Prop} (hM : mL_cell x1 h Q) : zSp l0 yL_cell cL_cell 2 (some .int) 185 (1) 0 0 [aR 999, aI x1] h (qPI h Q) xN := by
  obtain ⟨h0, hM⟩ := hM
  refine zSp_intro zpn_RL (Nat.le_of_ble_eq_true rfl) (fun a O => ?_)
  show zV a (1, 0, 0, (qPI h Q), xN) 0 0 0 [some (aR 999), some (aI x1)] [] h
  refine zV_iload_n O dL_cell_0 rfl rfl ?_
  refine zV_aload_n O dL_cell_1 rfl rfl ?_
  refine zV_scl O dL_cell_2 (fun s1 s2 => ?_)
  refine zV_icmp_ge (tgt := 15) O dL_cell_3 (by decide) (fun hc => ?_) (fun hc => ?_)
  · refine zV_iconst (z := 0) O ⟨by omega, by omega⟩ dL_cell_15 ?_
    exact zV_iret O rfl ⟨rfl, _, rfl, hM 0 (by omega) (by omega)⟩ (Nat.le_of_ble_eq_true rfl) (Nat.le_of_ble_eq_true rfl) dL_cell_16
  · refine zV_aload_n O dL_cell_6 rfl rfl ?_
    refine zV_iload_n O dL_cell_7 rfl rfl ?_
    refine zV_scd O ⟨h0, by omega⟩ dL_cell_8 (fun z hz => ?_)
    refine zV_ldc (z := 1073741823) O ⟨by omega, by omega⟩ zi_382.1 zi_382.2 dL_cell_9 ?_
    refine zV_iand O dL_cell_11 ?_
    refine zV_goto (tgt := 16) O dL_cell_12 (by decide) ?_
    exact zV_iret O rfl ⟨rfl, _, rfl, hM _ (zand30 z).1 (zand30 z).2⟩ (Nat.le_of_ble_eq_true rfl) (Nat.le_of_ble_eq_true rfl) dL_cell_16
def mL_feeds_b63 (Q : Int → Hp → Prop) (K2 : Int → Hp → Prop) (K17 : Int → Int → Hp → Prop) (v2 : Int) (v4 : Int) (s0 : Int) (s1 : Int) (s2 : Int) (h : Hp) : Prop := (zgk 0 h 188 s2 ∧ (∀ h19 : Hp, h19 = wr h 188 s2 (zior s1 s0) → (zr (v4 + 1) ∧ (K17 v2 (v4 + 1) h19))))
set_option maxHeartbeats 4000000 in
set_option maxRecDepth 100000 in
theorem sL_feeds_b63 {l0 : Launch} {a : ZC} {k n : Nat}  {Q : Int → Hp → Prop} {K2 : Int → Hp → Prop} {K17 : Int → Int → Hp → Prop} (O : zOk l0 a cL_feeds RL 5 (some .int) 189 []) (hN : a.2.2.2 = 189)  (hK2 : ∀ (v2 : Int) (h : Hp), K2 v2 h → zV a (3, 25, 125, (qI Q), xN) k n 2 [some (aR 185), some (aR 169), some (aI v2), none, none] [] h) (hK17 : ∀ (v2 : Int) (v4 : Int) (h : Hp), K17 v2 v4 h → zV a (3, 25, 125, (qI Q), xN) k n 17 [some (aR 185), some (aR 169), some (aI v2), some (aR 188), some (aI v4)] [] h) {v2 : Int} {v4 : Int} {s0 : Int} {s1 : Int} {s2 : Int} {h : Hp}  (hM : mL_feeds_b63 Q K2 K17 v2 v4 s0 s1 s2 h) : zV a (3, 25, 125, (qI Q), xN) k n 63 [some (aR 185), some (aR 169), some (aI v2), some (aR 188), some (aI v4)] [aI s0, aI s1, aI s2, aR 188] h := by
  unfold mL_feeds_b63 at hM
  refine zV_ior O dL_feeds_63 ?_
  obtain ⟨hc, hM⟩ := hM
  refine zV_iastG O rfl (by decide) hc dL_feeds_64 ?_
  have hM := hM (hu h 188 (Int.toNat s2) (zior s1 s0)) rfl
  generalize hu h 188 (Int.toNat s2) (zior s1 s0) = h19 at hM ⊢
  obtain ⟨hc, hM⟩ := hM
  refine zV_iinc O dL_feeds_65 rfl (Nat.le_of_ble_eq_true rfl) rfl hc ?_
  refine zV_goto (tgt := 17) O dL_feeds_68 (by decide) ?_
  exact hK17 _ _ _ hM
def mL_feeds_b17 (Q : Int → Hp → Prop) (K2 : Int → Hp → Prop) : Nat → Int → Int → Hp → Prop
  | 0 => fun _ _ _ => False
  | fu17 + 1 => fun v2 v4 h => (((20 : Int) ≤ v4 → (zgk 0 h 188 0 ∧ (zgk 0 h 188 1 ∧ (zgk 0 h 188 2 ∧ (zgk 0 h 188 3 ∧ (zgk 0 h 188 4 ∧ (mX7_feed (rd h 188 0) (rd h 188 1) (rd h 188 2) (rd h 188 3) (rd h 188 4) h (fun z20 h21 => (zr (v2 + 20) ∧ (K2 (v2 + 20) h21)))))))))) ∧ (¬ (20 : Int) ≤ v4 → (((0 : Int) ≤ v4 ∧ (0 : Int) < 4) ∧ (((0 : Int) ≤ v4 ∧ (0 : Int) < 4) ∧ (zgk 0 h 188 (v4 / 4) ∧ (zr (v2 + v4) ∧ (((h 185 1) ≤ (v2 + v4) → (mL_feeds_b63 Q K2 (mL_feeds_b17 Q K2 fu17) v2 v4 32 (zishl (rd h 188 (v4 / 4)) 8) (v4 / 4) h)) ∧ (¬ (h 185 1) ≤ (v2 + v4) → (zr (v2 + v4) ∧ (((0 : Int) ≤ (v2 + v4) ∧ (v2 + v4) < 1000) ∧ (mL_feeds_b63 Q K2 (mL_feeds_b17 Q K2 fu17) v2 v4 (rd h 186 (v2 + v4)) (zishl (rd h 188 (v4 / 4)) 8) (v4 / 4) h)))))))))))
set_option maxHeartbeats 4000000 in
set_option maxRecDepth 100000 in
theorem sL_feeds_b17 {l0 : Launch} {a : ZC} {k n : Nat}  {Q : Int → Hp → Prop} {K2 : Int → Hp → Prop} (O : zOk l0 a cL_feeds RL 5 (some .int) 189 []) (hN : a.2.2.2 = 189) (hkn : k ≤ 25 ∧ n ≤ 125)  (hK2 : ∀ (v2 : Int) (h : Hp), K2 v2 h → zV a (3, 25, 125, (qI Q), xN) k n 2 [some (aR 185), some (aR 169), some (aI v2), none, none] [] h) : ∀ (ff : Nat) (v2 : Int) (v4 : Int) (h : Hp), mL_feeds_b17 Q K2 ff v2 v4 h → zV a (3, 25, 125, (qI Q), xN) k n 17 [some (aR 185), some (aR 169), some (aI v2), some (aR 188), some (aI v4)] [] h := by
  intro ff
  induction ff with
  | zero => intro v2 v4 h hM; exact hM.elim
  | succ ff ih =>
    have hK17 := ih
    intro v2 v4 h hM
    unfold mL_feeds_b17 at hM
    refine zV_iload O dL_feeds_17 rfl ?_
    refine zV_bipush (z := 20) O ⟨by omega, by omega⟩ rfl dL_feeds_19 ?_
    refine zV_icmp_ge (tgt := 71) O dL_feeds_21 (by decide) (fun hc => ?_) (fun hc => ?_)
    · replace hM := hM.1 hc
      refine zV_aload_n O dL_feeds_71 rfl rfl ?_
      refine zV_aload_n O dL_feeds_72 rfl rfl ?_
      refine zV_iconst (z := 0) O ⟨by omega, by omega⟩ dL_feeds_73 ?_
      obtain ⟨hc, hM⟩ := hM
      refine zV_ialdG O rfl (by decide) hc dL_feeds_74 ?_
      refine zV_aload_n O dL_feeds_75 rfl rfl ?_
      refine zV_iconst (z := 1) O ⟨by omega, by omega⟩ dL_feeds_76 ?_
      obtain ⟨hc, hM⟩ := hM
      refine zV_ialdG O rfl (by decide) hc dL_feeds_77 ?_
      refine zV_aload_n O dL_feeds_78 rfl rfl ?_
      refine zV_iconst (z := 2) O ⟨by omega, by omega⟩ dL_feeds_79 ?_
      obtain ⟨hc, hM⟩ := hM
      refine zV_ialdG O rfl (by decide) hc dL_feeds_80 ?_
      refine zV_aload_n O dL_feeds_81 rfl rfl ?_
      refine zV_iconst (z := 3) O ⟨by omega, by omega⟩ dL_feeds_82 ?_
      obtain ⟨hc, hM⟩ := hM
      refine zV_ialdG O rfl (by decide) hc dL_feeds_83 ?_
      refine zV_aload_n O dL_feeds_84 rfl rfl ?_
      refine zV_iconst (z := 4) O ⟨by omega, by omega⟩ dL_feeds_85 ?_
      obtain ⟨hc, hM⟩ := hM
      refine zV_ialdG O rfl (by decide) hc dL_feeds_86 ?_
      refine zV_callV (as := [aI (rd h 188 0), aI (rd h 188 1), aI (rd h 188 2), aI (rd h 188 3), aI (rd h 188 4)]) (st := []) O zc_X7_feed (Or.inl zl_RL_34) zi_459 zi_460 zt_169 rfl rfl (by decide) (Nat.le_of_ble_eq_true rfl) rfl rfl (Nat.le_of_ble_eq_true rfl) (Nat.le_of_ble_eq_true rfl) (Nat.le_of_ble_eq_true rfl) (Nat.le_of_ble_eq_true rfl) (show _ ≤ 25 by omega) (show _ ≤ 125 by omega) dL_feeds_87 (sX7_feed hM) (fun r h21 hq => ?_) (fun x h9 hq => hq.elim)
      obtain ⟨z20, rfl, hM⟩ := hq
      refine zV_pop O rfl dL_feeds_90 ?_
      obtain ⟨hc, hM⟩ := hM
      refine zV_iinc O dL_feeds_91 rfl (Nat.le_of_ble_eq_true rfl) rfl hc ?_
      refine zV_goto (tgt := 2) O dL_feeds_94 (by decide) ?_
      refine zV_sub (ls2 := [some (aR 185), some (aR 169), some (aI (v2 + 20)), none, none]) ⟨rfl, rfl, rfl, trivial⟩ ?_
      exact hK2 _ _ hM
    · replace hM := hM.2 hc
      refine zV_aload_n O dL_feeds_24 rfl rfl ?_
      refine zV_iload O dL_feeds_25 rfl ?_
      refine zV_iconst (z := 4) O ⟨by omega, by omega⟩ dL_feeds_27 ?_
      obtain ⟨hc, hM⟩ := hM
      refine zV_idiv O dL_feeds_28 hc ?_
      refine zV_aload_n O dL_feeds_29 rfl rfl ?_
      refine zV_iload O dL_feeds_30 rfl ?_
      refine zV_iconst (z := 4) O ⟨by omega, by omega⟩ dL_feeds_32 ?_
      obtain ⟨hc, hM⟩ := hM
      refine zV_idiv O dL_feeds_33 hc ?_
      obtain ⟨hc, hM⟩ := hM
      refine zV_ialdG O rfl (by decide) hc dL_feeds_34 ?_
      refine zV_bipush (z := 8) O ⟨by omega, by omega⟩ rfl dL_feeds_35 ?_
      refine zV_ishl O dL_feeds_37 ?_
      refine zV_iload_n O dL_feeds_38 rfl rfl ?_
      refine zV_iload O dL_feeds_39 rfl ?_
      obtain ⟨hc, hM⟩ := hM
      refine zV_iadd O dL_feeds_41 hc ?_
      refine zV_aload_n O dL_feeds_42 rfl rfl ?_
      refine zV_getI O zf_RL_19 zt_185 rfl (by decide) dL_feeds_43 ?_
      refine zV_icmp_ge (tgt := 61) O dL_feeds_46 (by decide) (fun hc => ?_) (fun hc => ?_)
      · replace hM := hM.1 hc
        refine zV_bipush (z := 32) O ⟨by omega, by omega⟩ rfl dL_feeds_61 ?_
        exact sL_feeds_b63 O hN hK2 hK17 hM
      · replace hM := hM.2 hc
        refine zV_aload_n O dL_feeds_49 rfl rfl ?_
        refine zV_getR O zf_RL_7 zt_185 rfl (by decide) dL_feeds_50 ?_
        refine zV_iload_n O dL_feeds_53 rfl rfl ?_
        refine zV_iload O dL_feeds_54 rfl ?_
        obtain ⟨hc, hM⟩ := hM
        refine zV_iadd O dL_feeds_56 hc ?_
        obtain ⟨hc, hM⟩ := hM
        refine zV_iald O zt_186 (by decide) hc dL_feeds_57 ?_
        refine zV_goto (tgt := 63) O dL_feeds_58 (by decide) ?_
        exact sL_feeds_b63 O hN hK2 hK17 hM
def mL_feeds_b2 (Q : Int → Hp → Prop) : Nat → Int → Hp → Prop
  | 0 => fun _ _ => False
  | fu2 + 1 => fun v2 h => (((h 185 1) ≤ v2 → (∀ h22 : Hp, h22 = hu h 185 1 0 → (Q (h 185 1) h22))) ∧ (¬ (h 185 1) ≤ v2 → (((0 : Int) ≤ 5 ∧ (5 : Int) ≤ 5) ∧ (∀ h23 : Hp, h23 = hnw h 188 0 5 → (∃ ff, mL_feeds_b17 Q (mL_feeds_b2 Q fu2) ff v2 0 h23)))))
set_option maxHeartbeats 4000000 in
set_option maxRecDepth 100000 in
theorem sL_feeds_b2 {l0 : Launch} {a : ZC}  {Q : Int → Hp → Prop}  (O : zOk l0 a cL_feeds RL 5 (some .int) 188 []) (hN : a.2.2.2 = 188)   : ∀ (ff : Nat) (k n : Nat) (v2 : Int) (h : Hp), k + 1 * ff ≤ 25 → n + 5 * ff ≤ 125 → mL_feeds_b2 Q ff v2 h → zV a (3, 25, 125, (qI Q), xN) k n 2 [some (aR 185), some (aR 169), some (aI v2), none, none] [] h := by
  intro ff
  induction ff with
  | zero => intro k n v2 h hk hn hM; exact hM.elim
  | succ ff ih =>
    intro k n v2 h hk hn hM
    unfold mL_feeds_b2 at hM
    refine zV_iload_n O dL_feeds_2 rfl rfl ?_
    refine zV_aload_n O dL_feeds_3 rfl rfl ?_
    refine zV_getI O zf_RL_19 zt_185 rfl (by decide) dL_feeds_4 ?_
    refine zV_icmp_ge (tgt := 97) O dL_feeds_7 (by decide) (fun hc => ?_) (fun hc => ?_)
    · replace hM := hM.1 hc
      refine zV_aload_n O dL_feeds_97 rfl rfl ?_
      refine zV_getI O zf_RL_19 zt_185 rfl (by decide) dL_feeds_98 ?_
      refine zV_istore_n O dL_feeds_101 rfl (Nat.le_of_ble_eq_true rfl) rfl ?_
      refine zV_aload_n O dL_feeds_102 rfl rfl ?_
      refine zV_iconst (z := 0) O ⟨by omega, by omega⟩ dL_feeds_103 ?_
      refine zV_putI O zf_RL_19 zt_185 rfl (by decide) dL_feeds_104 ?_
      have hM := hM _ rfl
      generalize hu h 185 1 0 = h22 at hM ⊢
      refine zV_iload_n O dL_feeds_107 rfl rfl ?_
      exact zV_iret O rfl ⟨_, rfl, hM⟩ (show _ ≤ 25 by omega) (show _ ≤ 125 by omega) dL_feeds_108
    · replace hM := hM.2 hc
      refine zV_iconst (z := 5) O ⟨by omega, by omega⟩ dL_feeds_10 ?_
      obtain ⟨hc, hM⟩ := hM
      refine zV_newG O hN rfl (L := 5) (ti := 0) (by decide) hc (by decide) (show _ ≤ 25 by omega) (show _ ≤ 125 by omega) (by rfl) dL_feeds_11 (by decide) (fun a O hN X => ?_)
      have hK2 : ∀ (v2 : Int) (h : Hp), mL_feeds_b2 Q ff v2 h → zV a (3, 25, 125, (qI Q), xN) (k + 1) (n + 5) 2 [some (aR 185), some (aR 169), some (aI v2), none, none] [] h := fun v2 h hk2 => zV_back X (by rfl) (by decide) (ih (k + 1) (n + 5) v2 h (by omega) (by omega) hk2)
      have hM := hM _ rfl
      generalize hnw h 188 0 5 = h23 at hM ⊢
      refine zV_astore_n O dL_feeds_13 rfl (Nat.le_of_ble_eq_true rfl) rfl ?_
      refine zV_iconst (z := 0) O ⟨by omega, by omega⟩ dL_feeds_14 ?_
      refine zV_istore O dL_feeds_15 (Nat.le_of_ble_eq_true rfl) rfl ?_
      obtain ⟨ff, hM⟩ := hM
      exact sL_feeds_b17 O hN ⟨show k + 1 ≤ 25 by omega, show n + 5 ≤ 125 by omega⟩ hK2 ff _ _ _ hM
def mL_feeds  (h : Hp) (Q : Int → Hp → Prop) : Prop := (∃ ff, ff ≤ 25 ∧ mL_feeds_b2 Q ff 0 h)
set_option maxHeartbeats 4000000 in
set_option maxRecDepth 100000 in
theorem sL_feeds {l0 : Launch}  {h : Hp} {Q : Int → Hp → Prop}  (hM : mL_feeds  h Q) : zSpA l0 yL_feeds cL_feeds 5 (some .int) (3) 25 125 [aR 185, aR 169] h (qI Q) xN 188 := by
  unfold mL_feeds at hM
  refine zSpA_intro zpn_RL (Nat.le_of_ble_eq_true rfl) (fun a O hN => ?_)
  show zV a (3, 25, 125, (qI Q), xN) 0 0 0 [some (aR 185), some (aR 169), none, none, none] [] h
  refine zV_iconst (z := 0) O ⟨by omega, by omega⟩ dL_feeds_0 ?_
  refine zV_istore_n O dL_feeds_1 rfl (Nat.le_of_ble_eq_true rfl) rfl ?_
  obtain ⟨ff, hf, hM⟩ := hM
  exact sL_feeds_b2 O hN ff 0 0 _ _ (by omega) (by omega) hM
