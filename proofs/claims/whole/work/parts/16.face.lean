def mX7_errorPosition  (h : Hp) (Q : Int → Prop) : Prop := (Q (h 169 10))
set_option maxHeartbeats 4000000 in
set_option maxRecDepth 100000 in
theorem sX7_errorPosition {l0 : Launch}  {h : Hp} {Q : Int → Prop}  (hM : mX7_errorPosition  h Q) : zSp l0 yX7_errorPosition cX7_errorPosition 1 (some .int) 185 (1) 0 0 [aR 169] h (qPI h Q) xN := by
  unfold mX7_errorPosition at hM
  refine zSp_intro zpn_RX7 (Nat.le_of_ble_eq_true rfl) (fun a O => ?_)
  show zV a (1, 0, 0, (qPI h Q), xN) 0 0 0 [some (aR 169)] [] h
  refine zV_aload_n O dX7_errorPosition_0 rfl rfl ?_
  refine zV_getI O zf_RX7_68 zt_169 rfl (by decide) dX7_errorPosition_1 ?_
  exact zV_iret O rfl ⟨rfl, _, rfl, hM⟩ (Nat.le_of_ble_eq_true rfl) (Nat.le_of_ble_eq_true rfl) dX7_errorPosition_4
def mX7_smallestOf_b2 (h : Hp) (Q : Int → Prop) : Nat → Int → Int → Prop
  | 0 => fun _ _ => False
  | fu2 + 1 => fun v0 v2 => (((40 : Int) ≤ v2 → (Q (-1))) ∧ (¬ (40 : Int) ≤ v2 → ((¬ (zlcmp (zland (zlushr v0 v2) 1) 1) = 0 → (zr (v2 + 1) ∧ ((mX7_smallestOf_b2 h Q fu2) v0 (v2 + 1)))) ∧ ((zlcmp (zland (zlushr v0 v2) 1) 1) = 0 → (Q v2)))))
set_option maxHeartbeats 4000000 in
set_option maxRecDepth 100000 in
theorem sX7_smallestOf_b2 {l0 : Launch} {a : ZC}  {h : Hp} {Q : Int → Prop}  (O : zOk l0 a cX7_smallestOf RX7 3 (some .int) 185 [])   : ∀ (ff : Nat) (v0 : Int) (v2 : Int) , mX7_smallestOf_b2 h Q ff v0 v2 → zV a (1, 0, 0, (qPI h Q), xN) 0 0 2 [some (aL v0), none, some (aI v2)] [] h := by
  intro ff
  induction ff with
  | zero => intro v0 v2 hM; exact hM.elim
  | succ ff ih =>
    have hK2 := ih
    intro v0 v2 hM
    unfold mX7_smallestOf_b2 at hM
    refine zV_iload_n O dX7_smallestOf_2 rfl rfl ?_
    refine zV_bipush (z := 40) O ⟨by omega, by omega⟩ rfl dX7_smallestOf_3 ?_
    refine zV_icmp_ge (tgt := 26) O dX7_smallestOf_5 (by decide) (fun hc => ?_) (fun hc => ?_)
    · replace hM := hM.1 hc
      refine zV_iconst (z := -1) O ⟨by omega, by omega⟩ dX7_smallestOf_26 ?_
      exact zV_iret O rfl ⟨rfl, _, rfl, hM⟩ (Nat.le_of_ble_eq_true rfl) (Nat.le_of_ble_eq_true rfl) dX7_smallestOf_27
    · replace hM := hM.2 hc
      refine zV_lload_n O dX7_smallestOf_8 rfl rfl ?_
      refine zV_iload_n O dX7_smallestOf_9 rfl rfl ?_
      refine zV_lushr O dX7_smallestOf_10 ?_
      refine zV_lconst (z := 1) O ⟨by omega, by omega⟩ rfl dX7_smallestOf_11 ?_
      refine zV_land O dX7_smallestOf_12 ?_
      refine zV_lconst (z := 1) O ⟨by omega, by omega⟩ rfl dX7_smallestOf_13 ?_
      refine zV_lcmp O dX7_smallestOf_14 ?_
      refine zV_if_ne (tgt := 20) O dX7_smallestOf_15 (by decide) (fun hc => ?_) (fun hc => ?_)
      · replace hM := hM.1 hc
        obtain ⟨hc, hM⟩ := hM
        refine zV_iinc O dX7_smallestOf_20 rfl (Nat.le_of_ble_eq_true rfl) rfl hc ?_
        refine zV_goto (tgt := 2) O dX7_smallestOf_23 (by decide) ?_
        exact hK2 _ _ hM
      · replace hM := hM.2 hc
        refine zV_iload_n O dX7_smallestOf_18 rfl rfl ?_
        exact zV_iret O rfl ⟨rfl, _, rfl, hM⟩ (Nat.le_of_ble_eq_true rfl) (Nat.le_of_ble_eq_true rfl) dX7_smallestOf_19
def mX7_smallestOf (x0 : Int) (h : Hp) (Q : Int → Prop) : Prop := (∃ ff, mX7_smallestOf_b2 h Q ff x0 0)
set_option maxHeartbeats 4000000 in
set_option maxRecDepth 100000 in
theorem sX7_smallestOf {l0 : Launch} {x0 : Int} {h : Hp} {Q : Int → Prop}  (hM : mX7_smallestOf x0 h Q) : zSp l0 yX7_smallestOf cX7_smallestOf 3 (some .int) 185 (1) 0 0 [aL x0] h (qPI h Q) xN := by
  unfold mX7_smallestOf at hM
  refine zSp_intro zpn_RX7 (Nat.le_of_ble_eq_true rfl) (fun a O => ?_)
  show zV a (1, 0, 0, (qPI h Q), xN) 0 0 0 [some (aL x0), none, none] [] h
  refine zV_iconst (z := 0) O ⟨by omega, by omega⟩ dX7_smallestOf_0 ?_
  refine zV_istore_n O dX7_smallestOf_1 rfl (Nat.le_of_ble_eq_true rfl) rfl ?_
  obtain ⟨ff, hM⟩ := hM
  exact sX7_smallestOf_b2 O ff _ _ hM
def mX7_undoCount  (h : Hp) (Q : Int → Prop) : Prop := (Q (h 170 2))
set_option maxHeartbeats 4000000 in
set_option maxRecDepth 100000 in
theorem sX7_undoCount {l0 : Launch}  {h : Hp} {Q : Int → Prop}  (hM : mX7_undoCount  h Q) : zSp l0 yX7_undoCount cX7_undoCount 1 (some .int) 185 (1) 0 0 [aR 169] h (qPI h Q) xN := by
  unfold mX7_undoCount at hM
  refine zSp_intro zpn_RX7 (Nat.le_of_ble_eq_true rfl) (fun a O => ?_)
  show zV a (1, 0, 0, (qPI h Q), xN) 0 0 0 [some (aR 169)] [] h
  refine zV_aload_n O dX7_undoCount_0 rfl rfl ?_
  refine zV_getR O zf_RX7_25 zt_169 rfl (by decide) dX7_undoCount_1 ?_
  refine zV_getI O zf_RX7_311 zt_170 rfl (by decide) dX7_undoCount_4 ?_
  exact zV_iret O rfl ⟨rfl, _, rfl, hM⟩ (Nat.le_of_ble_eq_true rfl) (Nat.le_of_ble_eq_true rfl) dX7_undoCount_7
def mX7_feed (x1 : Int) (x2 : Int) (x3 : Int) (x4 : Int) (x5 : Int) (h : Hp) (Q : Int → Hp → Prop) : Prop := (zr ((h 176 1) + 20) ∧ ((((h 176 1) + 20) ≤ (900 : Int) → (mX6_append x1 h (fun h6 => (mX6_append x2 h6 (fun h7 => (mX6_append x3 h7 (fun h8 => (mX6_append x4 h8 (fun h9 => (mX6_append x5 h9 (fun h10 => (Q (h10 176 1) h10)))))))))))) ∧ (¬ ((h 176 1) + 20) ≤ (900 : Int) → (Q (-1) h))))
set_option maxHeartbeats 4000000 in
set_option maxRecDepth 100000 in
theorem sX7_feed {l0 : Launch} {x1 : Int} {x2 : Int} {x3 : Int} {x4 : Int} {x5 : Int} {h : Hp} {Q : Int → Hp → Prop}  (hM : mX7_feed x1 x2 x3 x4 x5 h Q) : zSp l0 yX7_feed cX7_feed 6 (some .int) 185 (2) 0 0 [aR 169, aI x1, aI x2, aI x3, aI x4, aI x5] h (qI Q) xN := by
  unfold mX7_feed at hM
  refine zSp_intro zpn_RX7 (Nat.le_of_ble_eq_true rfl) (fun a O => ?_)
  show zV a (2, 0, 0, (qI Q), xN) 0 0 0 [some (aR 169), some (aI x1), some (aI x2), some (aI x3), some (aI x4), some (aI x5)] [] h
  refine zV_aload_n O dX7_feed_0 rfl rfl ?_
  refine zV_getR O zf_RX7_39 zt_169 rfl (by decide) dX7_feed_1 ?_
  refine zV_getI O zf_RX7_75 zt_176 rfl (by decide) dX7_feed_4 ?_
  refine zV_bipush (z := 20) O ⟨by omega, by omega⟩ rfl dX7_feed_7 ?_
  obtain ⟨hc, hM⟩ := hM
  refine zV_iadd O dX7_feed_9 hc ?_
  refine zV_sipush (z := 900) O ⟨by omega, by omega⟩ rfl dX7_feed_10 ?_
  refine zV_icmp_le (tgt := 18) O dX7_feed_13 (by decide) (fun hc => ?_) (fun hc => ?_)
  · replace hM := hM.1 hc
    refine zV_aload_n O dX7_feed_18 rfl rfl ?_
    refine zV_getR O zf_RX7_39 zt_169 rfl (by decide) dX7_feed_19 ?_
    refine zV_iload_n O dX7_feed_22 rfl rfl ?_
    refine zV_callV (as := [aI x1]) (st := []) O zc_X6_append (Or.inr ⟨_, zl_RX7_78⟩) zi_486 zi_1 zt_176 rfl rfl (by decide) (Nat.le_of_ble_eq_true rfl) rfl rfl (Nat.le_of_ble_eq_true rfl) (Nat.le_of_ble_eq_true rfl) (Nat.le_of_ble_eq_true rfl) (Nat.le_of_ble_eq_true rfl) (Nat.le_of_ble_eq_true rfl) (Nat.le_of_ble_eq_true rfl) dX7_feed_23 (sX6_append hM) (fun r h6 hq => ?_) (fun x h9 hq => hq.elim)
    obtain ⟨rfl, hM⟩ := hq
    refine zV_aload_n O dX7_feed_26 rfl rfl ?_
    refine zV_getR O zf_RX7_39 zt_169 rfl (by decide) dX7_feed_27 ?_
    refine zV_iload_n O dX7_feed_30 rfl rfl ?_
    refine zV_callV (as := [aI x2]) (st := []) O zc_X6_append (Or.inr ⟨_, zl_RX7_78⟩) zi_486 zi_1 zt_176 rfl rfl (by decide) (Nat.le_of_ble_eq_true rfl) rfl rfl (Nat.le_of_ble_eq_true rfl) (Nat.le_of_ble_eq_true rfl) (Nat.le_of_ble_eq_true rfl) (Nat.le_of_ble_eq_true rfl) (Nat.le_of_ble_eq_true rfl) (Nat.le_of_ble_eq_true rfl) dX7_feed_31 (sX6_append hM) (fun r h7 hq => ?_) (fun x h9 hq => hq.elim)
    obtain ⟨rfl, hM⟩ := hq
    refine zV_aload_n O dX7_feed_34 rfl rfl ?_
    refine zV_getR O zf_RX7_39 zt_169 rfl (by decide) dX7_feed_35 ?_
    refine zV_iload_n O dX7_feed_38 rfl rfl ?_
    refine zV_callV (as := [aI x3]) (st := []) O zc_X6_append (Or.inr ⟨_, zl_RX7_78⟩) zi_486 zi_1 zt_176 rfl rfl (by decide) (Nat.le_of_ble_eq_true rfl) rfl rfl (Nat.le_of_ble_eq_true rfl) (Nat.le_of_ble_eq_true rfl) (Nat.le_of_ble_eq_true rfl) (Nat.le_of_ble_eq_true rfl) (Nat.le_of_ble_eq_true rfl) (Nat.le_of_ble_eq_true rfl) dX7_feed_39 (sX6_append hM) (fun r h8 hq => ?_) (fun x h9 hq => hq.elim)
    obtain ⟨rfl, hM⟩ := hq
    refine zV_aload_n O dX7_feed_42 rfl rfl ?_
    refine zV_getR O zf_RX7_39 zt_169 rfl (by decide) dX7_feed_43 ?_
    refine zV_iload O dX7_feed_46 rfl ?_
    refine zV_callV (as := [aI x4]) (st := []) O zc_X6_append (Or.inr ⟨_, zl_RX7_78⟩) zi_486 zi_1 zt_176 rfl rfl (by decide) (Nat.le_of_ble_eq_true rfl) rfl rfl (Nat.le_of_ble_eq_true rfl) (Nat.le_of_ble_eq_true rfl) (Nat.le_of_ble_eq_true rfl) (Nat.le_of_ble_eq_true rfl) (Nat.le_of_ble_eq_true rfl) (Nat.le_of_ble_eq_true rfl) dX7_feed_48 (sX6_append hM) (fun r h9 hq => ?_) (fun x h9 hq => hq.elim)
    obtain ⟨rfl, hM⟩ := hq
    refine zV_aload_n O dX7_feed_51 rfl rfl ?_
    refine zV_getR O zf_RX7_39 zt_169 rfl (by decide) dX7_feed_52 ?_
    refine zV_iload O dX7_feed_55 rfl ?_
    refine zV_callV (as := [aI x5]) (st := []) O zc_X6_append (Or.inr ⟨_, zl_RX7_78⟩) zi_486 zi_1 zt_176 rfl rfl (by decide) (Nat.le_of_ble_eq_true rfl) rfl rfl (Nat.le_of_ble_eq_true rfl) (Nat.le_of_ble_eq_true rfl) (Nat.le_of_ble_eq_true rfl) (Nat.le_of_ble_eq_true rfl) (Nat.le_of_ble_eq_true rfl) (Nat.le_of_ble_eq_true rfl) dX7_feed_57 (sX6_append hM) (fun r h10 hq => ?_) (fun x h9 hq => hq.elim)
    obtain ⟨rfl, hM⟩ := hq
    refine zV_aload_n O dX7_feed_60 rfl rfl ?_
    refine zV_getR O zf_RX7_39 zt_169 rfl (by decide) dX7_feed_61 ?_
    refine zV_getI O zf_RX7_75 zt_176 rfl (by decide) dX7_feed_64 ?_
    exact zV_iret O rfl ⟨_, rfl, hM⟩ (Nat.le_of_ble_eq_true rfl) (Nat.le_of_ble_eq_true rfl) dX7_feed_67
  · replace hM := hM.2 hc
    refine zV_iconst (z := -1) O ⟨by omega, by omega⟩ dX7_feed_16 ?_
    exact zV_iret O rfl ⟨_, rfl, hM⟩ (Nat.le_of_ble_eq_true rfl) (Nat.le_of_ble_eq_true rfl) dX7_feed_17
def mX7_formattedByte (x1 : Int) (h : Hp) (Q : Int → Prop) : Prop := (mX1_byteAt x1 h (fun z2 => (Q z2)))
set_option maxHeartbeats 4000000 in
set_option maxRecDepth 100000 in
theorem sX7_formattedByte {l0 : Launch} {x1 : Int} {h : Hp} {Q : Int → Prop}  (hM : mX7_formattedByte x1 h Q) : zSp l0 yX7_formattedByte cX7_formattedByte 2 (some .int) 185 (2) 0 0 [aR 169, aI x1] h (qPI h Q) xN := by
  unfold mX7_formattedByte at hM
  refine zSp_intro zpn_RX7 (Nat.le_of_ble_eq_true rfl) (fun a O => ?_)
  show zV a (2, 0, 0, (qPI h Q), xN) 0 0 0 [some (aR 169), some (aI x1)] [] h
  refine zV_aload_n O dX7_formattedByte_0 rfl rfl ?_
  refine zV_getR O zf_RX7_64 zt_169 rfl (by decide) dX7_formattedByte_1 ?_
  refine zV_iload_n O dX7_formattedByte_4 rfl rfl ?_
  refine zV_callV (as := [aI x1]) (st := []) O zc_X1_byteAt (Or.inr ⟨_, zl_RX7_308⟩) zi_705 zi_36 zt_183 rfl rfl (by decide) (Nat.le_of_ble_eq_true rfl) rfl rfl (Nat.le_of_ble_eq_true rfl) (Nat.le_of_ble_eq_true rfl) (Nat.le_of_ble_eq_true rfl) (Nat.le_of_ble_eq_true rfl) (Nat.le_of_ble_eq_true rfl) (Nat.le_of_ble_eq_true rfl) dX7_formattedByte_5 (sX1_byteAt hM) (fun r h9 hq => ?_) (fun x h9 hq => hq.elim)
  obtain ⟨rfl, z2, rfl, hM⟩ := hq
  exact zV_iret O rfl ⟨rfl, _, rfl, hM⟩ (Nat.le_of_ble_eq_true rfl) (Nat.le_of_ble_eq_true rfl) dX7_formattedByte_8
def mX7_movedShare  (h : Hp) (Q : UInt32 → Prop) : Prop := ((¬ (h 0 0) = 0 → (mX3_movedCount 0 h (fun z2 => (vf_n32 (FP.fdiv (FP.i2f (Int32.ofInt z2)) (FP.i2f (Int32.ofInt (h 0 0)))) ∧ (Q (FP.fdiv (FP.i2f (Int32.ofInt z2)) (FP.i2f (Int32.ofInt (h 0 0))))))))) ∧ ((h 0 0) = 0 → (Q FP.fconst0)))
set_option maxHeartbeats 4000000 in
set_option maxRecDepth 100000 in
theorem sX7_movedShare {l0 : Launch}  {h : Hp} {Q : UInt32 → Prop}  (hM : mX7_movedShare  h Q) : zSp l0 yX7_movedShare cX7_movedShare 1 (some .float) 185 (2) 0 0 [aR 169] h (qPF h Q) xN := by
  unfold mX7_movedShare at hM
  refine zSp_intro zpn_RX7 (Nat.le_of_ble_eq_true rfl) (fun a O => ?_)
  show zV a (2, 0, 0, (qPF h Q), xN) 0 0 0 [some (aR 169)] [] h
  refine zV_aload_n O dX7_movedShare_0 rfl rfl ?_
  refine zV_getR O zf_RX7_10 zt_169 rfl (by decide) dX7_movedShare_1 ?_
  refine zV_getI O zf_RX7_104 (zN_o zisN_0) rfl (zN_lt0 zisN_0) dX7_movedShare_4 ?_
  refine zV_if_ne (tgt := 12) O dX7_movedShare_7 (by decide) (fun hc => ?_) (fun hc => ?_)
  · replace hM := hM.1 hc
    refine zV_aload_n O dX7_movedShare_12 rfl rfl ?_
    refine zV_getR O zf_RX7_10 zt_169 rfl (by decide) dX7_movedShare_13 ?_
    refine zV_callV (as := []) (st := []) O zc_X3_movedCount (Or.inr ⟨_, zl_RX7_243⟩) zi_609 zi_21 (zN_o zisN_0) rfl rfl (zN_lt0 zisN_0) (Nat.le_of_ble_eq_true rfl) rfl rfl (Nat.le_of_ble_eq_true rfl) (Nat.le_of_ble_eq_true rfl) (Nat.le_of_ble_eq_true rfl) (Nat.le_of_ble_eq_true rfl) (Nat.le_of_ble_eq_true rfl) (Nat.le_of_ble_eq_true rfl) dX7_movedShare_16 (sX3_movedCount zisN_0 hM) (fun r h9 hq => ?_) (fun x h9 hq => hq.elim)
    obtain ⟨rfl, z2, rfl, hM⟩ := hq
    refine zV_i2f O dX7_movedShare_19 ?_
    refine zV_aload_n O dX7_movedShare_20 rfl rfl ?_
    refine zV_getR O zf_RX7_10 zt_169 rfl (by decide) dX7_movedShare_21 ?_
    refine zV_getI O zf_RX7_104 (zN_o zisN_0) rfl (zN_lt0 zisN_0) dX7_movedShare_24 ?_
    refine zV_i2f O dX7_movedShare_27 ?_
    obtain ⟨hc, hM⟩ := hM
    refine zV_fdiv O dX7_movedShare_28 hc ?_
    exact zV_fret O rfl ⟨rfl, _, rfl, hM⟩ (Nat.le_of_ble_eq_true rfl) (Nat.le_of_ble_eq_true rfl) dX7_movedShare_29
  · replace hM := hM.2 hc
    refine zV_fconst0 O dX7_movedShare_10 ?_
    exact zV_fret O rfl ⟨rfl, _, rfl, hM⟩ (Nat.le_of_ble_eq_true rfl) (Nat.le_of_ble_eq_true rfl) dX7_movedShare_11
def mX7_clashCount (o1 : Nat) (h : Hp) (Q : Int → Hp → Prop) : Prop := (mX5_count o1 h (fun h3 => (mX5_clashes h3 (fun z4 => (Q z4 h3)))))
set_option maxHeartbeats 4000000 in
set_option maxRecDepth 100000 in
theorem sX7_clashCount {l0 : Launch} {o1 : Nat} {h : Hp} {Q : Int → Hp → Prop} (hN1 : zisN o1) (hM : mX7_clashCount o1 h Q) : zSp l0 yX7_clashCount cX7_clashCount 2 (some .int) 185 (4) 0 0 [aR 169, aR o1] h (qI Q) xN := by
  unfold mX7_clashCount at hM
  refine zSp_intro zpn_RX7 (Nat.le_of_ble_eq_true rfl) (fun a O => ?_)
  show zV a (4, 0, 0, (qI Q), xN) 0 0 0 [some (aR 169), some (aR o1)] [] h
  refine zV_aload_n O dX7_clashCount_0 rfl rfl ?_
  refine zV_getR O zf_RX7_32 zt_169 rfl (by decide) dX7_clashCount_1 ?_
  refine zV_aload_n O dX7_clashCount_4 rfl rfl ?_
  refine zV_callV (as := [aR o1]) (st := []) O zc_X5_count (Or.inr ⟨_, zl_RX7_185⟩) zi_498 zi_2 zt_172 rfl rfl (by decide) (Nat.le_of_ble_eq_true rfl) rfl rfl (Nat.le_of_ble_eq_true rfl) (Nat.le_of_ble_eq_true rfl) (Nat.le_of_ble_eq_true rfl) (Nat.le_of_ble_eq_true rfl) (Nat.le_of_ble_eq_true rfl) (Nat.le_of_ble_eq_true rfl) dX7_clashCount_5 (sX5_count hN1 hM) (fun r h3 hq => ?_) (fun x h9 hq => hq.elim)
  obtain ⟨rfl, hM⟩ := hq
  refine zV_aload_n O dX7_clashCount_8 rfl rfl ?_
  refine zV_getR O zf_RX7_32 zt_169 rfl (by decide) dX7_clashCount_9 ?_
  refine zV_callV (as := []) (st := []) O zc_X5_clashes (Or.inr ⟨_, zl_RX7_336⟩) zi_601 zi_20 zt_172 rfl rfl (by decide) (Nat.le_of_ble_eq_true rfl) rfl rfl (Nat.le_of_ble_eq_true rfl) (Nat.le_of_ble_eq_true rfl) (Nat.le_of_ble_eq_true rfl) (Nat.le_of_ble_eq_true rfl) (Nat.le_of_ble_eq_true rfl) (Nat.le_of_ble_eq_true rfl) dX7_clashCount_12 (sX5_clashes hM) (fun r h9 hq => ?_) (fun x h9 hq => hq.elim)
  obtain ⟨rfl, z4, rfl, hM⟩ := hq
  exact zV_iret O rfl ⟨_, rfl, hM⟩ (Nat.le_of_ble_eq_true rfl) (Nat.le_of_ble_eq_true rfl) dX7_clashCount_15
def mX7_freeNumber  (h : Hp) (Q : Int → Hp → Prop) : Prop := (mX5_count 0 h (fun h3 => (mX5_smallestFree (h3 0 5) (h3 0 6) h3 (fun z4 => ((¬ z4 = 0 → (Q z4 h3)) ∧ (z4 = 0 → (Q (-1) h3)))))))
set_option maxHeartbeats 4000000 in
set_option maxRecDepth 100000 in
theorem sX7_freeNumber {l0 : Launch}  {h : Hp} {Q : Int → Hp → Prop}  (hM : mX7_freeNumber  h Q) : zSp l0 yX7_freeNumber cX7_freeNumber 2 (some .int) 185 (4) 0 0 [aR 169] h (qI Q) xN := by
  unfold mX7_freeNumber at hM
  refine zSp_intro zpn_RX7 (Nat.le_of_ble_eq_true rfl) (fun a O => ?_)
  show zV a (4, 0, 0, (qI Q), xN) 0 0 0 [some (aR 169), none] [] h
  refine zV_aload_n O dX7_freeNumber_0 rfl rfl ?_
  refine zV_getR O zf_RX7_32 zt_169 rfl (by decide) dX7_freeNumber_1 ?_
  refine zV_aload_n O dX7_freeNumber_4 rfl rfl ?_
  refine zV_getR O zf_RX7_10 zt_169 rfl (by decide) dX7_freeNumber_5 ?_
  refine zV_callV (as := [aR 0]) (st := []) O zc_X5_count (Or.inr ⟨_, zl_RX7_185⟩) zi_498 zi_2 zt_172 rfl rfl (by decide) (Nat.le_of_ble_eq_true rfl) rfl rfl (Nat.le_of_ble_eq_true rfl) (Nat.le_of_ble_eq_true rfl) (Nat.le_of_ble_eq_true rfl) (Nat.le_of_ble_eq_true rfl) (Nat.le_of_ble_eq_true rfl) (Nat.le_of_ble_eq_true rfl) dX7_freeNumber_8 (sX5_count zisN_0 hM) (fun r h3 hq => ?_) (fun x h9 hq => hq.elim)
  obtain ⟨rfl, hM⟩ := hq
  refine zV_aload_n O dX7_freeNumber_11 rfl rfl ?_
  refine zV_getR O zf_RX7_32 zt_169 rfl (by decide) dX7_freeNumber_12 ?_
  refine zV_aload_n O dX7_freeNumber_15 rfl rfl ?_
  refine zV_getR O zf_RX7_10 zt_169 rfl (by decide) dX7_freeNumber_16 ?_
  refine zV_getI O zf_RX7_122 (zN_o zisN_0) rfl (zN_lt0 zisN_0) dX7_freeNumber_19 ?_
  refine zV_aload_n O dX7_freeNumber_22 rfl rfl ?_
  refine zV_getR O zf_RX7_10 zt_169 rfl (by decide) dX7_freeNumber_23 ?_
  refine zV_getI O zf_RX7_125 (zN_o zisN_0) rfl (zN_lt0 zisN_0) dX7_freeNumber_26 ?_
  refine zV_callV (as := [aI (h3 0 5), aI (h3 0 6)]) (st := []) O zc_X5_smallestFree (Or.inr ⟨_, zl_RX7_223⟩) zi_520 zi_6 zt_172 rfl rfl (by decide) (Nat.le_of_ble_eq_true rfl) rfl rfl (Nat.le_of_ble_eq_true rfl) (Nat.le_of_ble_eq_true rfl) (Nat.le_of_ble_eq_true rfl) (Nat.le_of_ble_eq_true rfl) (Nat.le_of_ble_eq_true rfl) (Nat.le_of_ble_eq_true rfl) dX7_freeNumber_29 (sX5_smallestFree hM) (fun r h9 hq => ?_) (fun x h9 hq => hq.elim)
  obtain ⟨rfl, z4, rfl, hM⟩ := hq
  refine zV_istore_n O dX7_freeNumber_32 rfl (Nat.le_of_ble_eq_true rfl) rfl ?_
  refine zV_iload_n O dX7_freeNumber_33 rfl rfl ?_
  refine zV_if_ne (tgt := 41) O dX7_freeNumber_34 (by decide) (fun hc => ?_) (fun hc => ?_)
  · replace hM := hM.1 hc
    refine zV_iload_n O dX7_freeNumber_41 rfl rfl ?_
    exact zV_iret O rfl ⟨_, rfl, hM⟩ (Nat.le_of_ble_eq_true rfl) (Nat.le_of_ble_eq_true rfl) dX7_freeNumber_42
  · replace hM := hM.2 hc
    refine zV_iconst (z := -1) O ⟨by omega, by omega⟩ dX7_freeNumber_37 ?_
    refine zV_goto (tgt := 42) O dX7_freeNumber_38 (by decide) ?_
    exact zV_iret O rfl ⟨_, rfl, hM⟩ (Nat.le_of_ble_eq_true rfl) (Nat.le_of_ble_eq_true rfl) dX7_freeNumber_42
def mX7_heldTwice (o1 : Nat) (h : Hp) (Q : Int → Hp → Prop) : Prop := (mX5_count o1 h (fun h4 => (mX5_smallestTwice (h4 o1 7) h4 (fun z6 => (Q z6 h4)))))
set_option maxHeartbeats 4000000 in
set_option maxRecDepth 100000 in
theorem sX7_heldTwice {l0 : Launch} {o1 : Nat} {h : Hp} {Q : Int → Hp → Prop} (hN1 : zisN o1) (hM : mX7_heldTwice o1 h Q) : zSp l0 yX7_heldTwice cX7_heldTwice 2 (some .int) 185 (4) 0 0 [aR 169, aR o1] h (qI Q) xN := by
  unfold mX7_heldTwice at hM
  refine zSp_intro zpn_RX7 (Nat.le_of_ble_eq_true rfl) (fun a O => ?_)
  show zV a (4, 0, 0, (qI Q), xN) 0 0 0 [some (aR 169), some (aR o1)] [] h
  refine zV_aload_n O dX7_heldTwice_0 rfl rfl ?_
  refine zV_getR O zf_RX7_32 zt_169 rfl (by decide) dX7_heldTwice_1 ?_
  refine zV_aload_n O dX7_heldTwice_4 rfl rfl ?_
  refine zV_callV (as := [aR o1]) (st := []) O zc_X5_count (Or.inr ⟨_, zl_RX7_185⟩) zi_498 zi_2 zt_172 rfl rfl (by decide) (Nat.le_of_ble_eq_true rfl) rfl rfl (Nat.le_of_ble_eq_true rfl) (Nat.le_of_ble_eq_true rfl) (Nat.le_of_ble_eq_true rfl) (Nat.le_of_ble_eq_true rfl) (Nat.le_of_ble_eq_true rfl) (Nat.le_of_ble_eq_true rfl) dX7_heldTwice_5 (sX5_count hN1 hM) (fun r h4 hq => ?_) (fun x h9 hq => hq.elim)
  obtain ⟨rfl, hM⟩ := hq
  refine zV_aload_n O dX7_heldTwice_8 rfl rfl ?_
  refine zV_getR O zf_RX7_32 zt_169 rfl (by decide) dX7_heldTwice_9 ?_
  refine zV_aload_n O dX7_heldTwice_12 rfl rfl ?_
  refine zV_getZ O zf_RX7_128 (zN_o hN1) rfl (zN_lt0 hN1) dX7_heldTwice_13 (fun hz5 => ?_)
  refine zV_callV (as := [aI (h4 o1 7)]) (st := []) O zc_X5_smallestTwice (Or.inr ⟨_, zl_RX7_339⟩) zi_570 zi_16 zt_172 rfl rfl (by decide) (Nat.le_of_ble_eq_true rfl) rfl rfl (Nat.le_of_ble_eq_true rfl) (Nat.le_of_ble_eq_true rfl) (Nat.le_of_ble_eq_true rfl) (Nat.le_of_ble_eq_true rfl) (Nat.le_of_ble_eq_true rfl) (Nat.le_of_ble_eq_true rfl) dX7_heldTwice_16 (sX5_smallestTwice hM) (fun r h9 hq => ?_) (fun x h9 hq => hq.elim)
  obtain ⟨rfl, z6, rfl, hM⟩ := hq
  exact zV_iret O rfl ⟨_, rfl, hM⟩ (Nat.le_of_ble_eq_true rfl) (Nat.le_of_ble_eq_true rfl) dX7_heldTwice_19
def mX7_meanReach_b16 (h : Hp) (Q : UInt64 → Prop) : Nat → Int → Int → Prop
  | 0 => fun _ _ => False
  | fu16 + 1 => fun v1 v2 => (((h 0 0) ≤ v2 → (vf_n64 (FP.ddiv (FP.i2d (Int32.ofInt v1)) (FP.i2d (Int32.ofInt (h 0 0)))) ∧ (Q (FP.ddiv (FP.i2d (Int32.ofInt v1)) (FP.i2d (Int32.ofInt (h 0 0))))))) ∧ (¬ (h 0 0) ≤ v2 → (mX3_reachOf 0 v2 h (fun z4 => (zr (v1 + z4) ∧ (zr (v2 + 1) ∧ ((mX7_meanReach_b16 h Q fu16) (v1 + z4) (v2 + 1))))))))
set_option maxHeartbeats 4000000 in
set_option maxRecDepth 100000 in
theorem sX7_meanReach_b16 {l0 : Launch} {a : ZC}  {h : Hp} {Q : UInt64 → Prop}  (O : zOk l0 a cX7_meanReach RX7 3 (some .double) 185 [])   : ∀ (ff : Nat) (v1 : Int) (v2 : Int) , mX7_meanReach_b16 h Q ff v1 v2 → zV a (4, 0, 0, (qPD h Q), xN) 0 0 16 [some (aR 169), some (aI v1), some (aI v2)] [] h := by
  intro ff
  induction ff with
  | zero => intro v1 v2 hM; exact hM.elim
  | succ ff ih =>
    have hK16 := ih
    intro v1 v2 hM
    unfold mX7_meanReach_b16 at hM
    refine zV_iload_n O dX7_meanReach_16 rfl rfl ?_
    refine zV_aload_n O dX7_meanReach_17 rfl rfl ?_
    refine zV_getR O zf_RX7_10 zt_169 rfl (by decide) dX7_meanReach_18 ?_
    refine zV_getI O zf_RX7_104 (zN_o zisN_0) rfl (zN_lt0 zisN_0) dX7_meanReach_21 ?_
    refine zV_icmp_ge (tgt := 44) O dX7_meanReach_24 (by decide) (fun hc => ?_) (fun hc => ?_)
    · replace hM := hM.1 hc
      refine zV_iload_n O dX7_meanReach_44 rfl rfl ?_
      refine zV_i2d O dX7_meanReach_45 ?_
      refine zV_aload_n O dX7_meanReach_46 rfl rfl ?_
      refine zV_getR O zf_RX7_10 zt_169 rfl (by decide) dX7_meanReach_47 ?_
      refine zV_getI O zf_RX7_104 (zN_o zisN_0) rfl (zN_lt0 zisN_0) dX7_meanReach_50 ?_
      refine zV_i2d O dX7_meanReach_53 ?_
      obtain ⟨hc, hM⟩ := hM
      refine zV_ddiv O dX7_meanReach_54 hc ?_
      exact zV_dret O rfl ⟨rfl, _, rfl, hM⟩ (Nat.le_of_ble_eq_true rfl) (Nat.le_of_ble_eq_true rfl) dX7_meanReach_55
    · replace hM := hM.2 hc
      refine zV_iload_n O dX7_meanReach_27 rfl rfl ?_
      refine zV_aload_n O dX7_meanReach_28 rfl rfl ?_
      refine zV_getR O zf_RX7_10 zt_169 rfl (by decide) dX7_meanReach_29 ?_
      refine zV_iload_n O dX7_meanReach_32 rfl rfl ?_
      refine zV_callV (as := [aI v2]) (st := [aI v1]) O zc_X3_reachOf (Or.inr ⟨_, zl_RX7_220⟩) zi_617 zi_22 (zN_o zisN_0) rfl rfl (zN_lt0 zisN_0) (Nat.le_of_ble_eq_true rfl) rfl rfl (Nat.le_of_ble_eq_true rfl) (Nat.le_of_ble_eq_true rfl) (Nat.le_of_ble_eq_true rfl) (Nat.le_of_ble_eq_true rfl) (Nat.le_of_ble_eq_true rfl) (Nat.le_of_ble_eq_true rfl) dX7_meanReach_33 (sX3_reachOf zisN_0 hM) (fun r h9 hq => ?_) (fun x h9 hq => hq.elim)
      obtain ⟨rfl, z4, rfl, hM⟩ := hq
      obtain ⟨hc, hM⟩ := hM
      refine zV_iadd O dX7_meanReach_36 hc ?_
      refine zV_istore_n O dX7_meanReach_37 rfl (Nat.le_of_ble_eq_true rfl) rfl ?_
      obtain ⟨hc, hM⟩ := hM
      refine zV_iinc O dX7_meanReach_38 rfl (Nat.le_of_ble_eq_true rfl) rfl hc ?_
      refine zV_goto (tgt := 16) O dX7_meanReach_41 (by decide) ?_
      exact hK16 _ _ hM
def mX7_meanReach  (h : Hp) (Q : UInt64 → Prop) : Prop := ((¬ (h 0 0) = 0 → (∃ ff, mX7_meanReach_b16 h Q ff 0 0)) ∧ ((h 0 0) = 0 → (Q FP.dconst0)))
set_option maxHeartbeats 4000000 in
set_option maxRecDepth 100000 in
theorem sX7_meanReach {l0 : Launch}  {h : Hp} {Q : UInt64 → Prop}  (hM : mX7_meanReach  h Q) : zSp l0 yX7_meanReach cX7_meanReach 3 (some .double) 185 (4) 0 0 [aR 169] h (qPD h Q) xN := by
  unfold mX7_meanReach at hM
  refine zSp_intro zpn_RX7 (Nat.le_of_ble_eq_true rfl) (fun a O => ?_)
  show zV a (4, 0, 0, (qPD h Q), xN) 0 0 0 [some (aR 169), none, none] [] h
  refine zV_aload_n O dX7_meanReach_0 rfl rfl ?_
  refine zV_getR O zf_RX7_10 zt_169 rfl (by decide) dX7_meanReach_1 ?_
  refine zV_getI O zf_RX7_104 (zN_o zisN_0) rfl (zN_lt0 zisN_0) dX7_meanReach_4 ?_
  refine zV_if_ne (tgt := 12) O dX7_meanReach_7 (by decide) (fun hc => ?_) (fun hc => ?_)
  · replace hM := hM.1 hc
    refine zV_iconst (z := 0) O ⟨by omega, by omega⟩ dX7_meanReach_12 ?_
    refine zV_istore_n O dX7_meanReach_13 rfl (Nat.le_of_ble_eq_true rfl) rfl ?_
    refine zV_iconst (z := 0) O ⟨by omega, by omega⟩ dX7_meanReach_14 ?_
    refine zV_istore_n O dX7_meanReach_15 rfl (Nat.le_of_ble_eq_true rfl) rfl ?_
    obtain ⟨ff, hM⟩ := hM
    exact sX7_meanReach_b16 O ff _ _ hM
  · replace hM := hM.2 hc
    refine zV_dconst0 O dX7_meanReach_10 ?_
    exact zV_dret O rfl ⟨rfl, _, rfl, hM⟩ (Nat.le_of_ble_eq_true rfl) (Nat.le_of_ble_eq_true rfl) dX7_meanReach_11
def mX7_conflict  (h : Hp) (Q : Int → Hp → Prop) : Prop := (((h 0 2) < (9 : Int) → (mX3_copyFrom 13 0 h (fun h6 => (mX3_doWave 13 h6 (fun z7 h8 => (mX7_heldTwice 13 h8 (fun z9 h10 => ((¬ z9 = 0 → (Q z9 h10)) ∧ (z9 = 0 → (Q (-1) h10)))))))))) ∧ (¬ (h 0 2) < (9 : Int) → (Q (-1) h)))
set_option maxHeartbeats 4000000 in
set_option maxRecDepth 100000 in
theorem sX7_conflict {l0 : Launch}  {h : Hp} {Q : Int → Hp → Prop}  (hM : mX7_conflict  h Q) : zSp l0 yX7_conflict cX7_conflict 2 (some .int) 185 (5) 0 0 [aR 169] h (qI Q) xN := by
  unfold mX7_conflict at hM
  refine zSp_intro zpn_RX7 (Nat.le_of_ble_eq_true rfl) (fun a O => ?_)
  show zV a (5, 0, 0, (qI Q), xN) 0 0 0 [some (aR 169), none] [] h
  refine zV_aload_n O dX7_conflict_0 rfl rfl ?_
  refine zV_getR O zf_RX7_10 zt_169 rfl (by decide) dX7_conflict_1 ?_
  refine zV_getI O zf_RX7_113 (zN_o zisN_0) rfl (zN_lt0 zisN_0) dX7_conflict_4 ?_
  refine zV_bipush (z := 9) O ⟨by omega, by omega⟩ rfl dX7_conflict_7 ?_
  refine zV_icmp_lt (tgt := 14) O dX7_conflict_9 (by decide) (fun hc => ?_) (fun hc => ?_)
  · replace hM := hM.1 hc
    refine zV_aload_n O dX7_conflict_14 rfl rfl ?_
    refine zV_getR O zf_RX7_16 zt_169 rfl (by decide) dX7_conflict_15 ?_
    refine zV_aload_n O dX7_conflict_18 rfl rfl ?_
    refine zV_getR O zf_RX7_10 zt_169 rfl (by decide) dX7_conflict_19 ?_
    refine zV_callV (as := [aR 0]) (st := []) O zc_X3_copyFrom (Or.inr ⟨_, zl_RX7_95⟩) zi_531 zi_7 (zN_o zisN_13) rfl rfl (zN_lt0 zisN_13) (Nat.le_of_ble_eq_true rfl) rfl rfl (Nat.le_of_ble_eq_true rfl) (Nat.le_of_ble_eq_true rfl) (Nat.le_of_ble_eq_true rfl) (Nat.le_of_ble_eq_true rfl) (Nat.le_of_ble_eq_true rfl) (Nat.le_of_ble_eq_true rfl) dX7_conflict_22 (sX3_copyFrom zisN_13 zisN_0 hM) (fun r h6 hq => ?_) (fun x h9 hq => hq.elim)
    obtain ⟨rfl, hM⟩ := hq
    refine zV_aload_n O dX7_conflict_25 rfl rfl ?_
    refine zV_getR O zf_RX7_16 zt_169 rfl (by decide) dX7_conflict_26 ?_
    refine zV_callV (as := []) (st := []) O zc_X3_doWave (Or.inr ⟨_, zl_RX7_234⟩) zi_546 zi_10 (zN_o zisN_13) rfl rfl (zN_lt0 zisN_13) (Nat.le_of_ble_eq_true rfl) rfl rfl (Nat.le_of_ble_eq_true rfl) (Nat.le_of_ble_eq_true rfl) (Nat.le_of_ble_eq_true rfl) (Nat.le_of_ble_eq_true rfl) (Nat.le_of_ble_eq_true rfl) (Nat.le_of_ble_eq_true rfl) dX7_conflict_29 (sX3_doWave zisN_13 hM) (fun r h8 hq => ?_) (fun x h9 hq => hq.elim)
    obtain ⟨z7, rfl, hM⟩ := hq
    refine zV_pop O rfl dX7_conflict_32 ?_
    refine zV_aload_n O dX7_conflict_33 rfl rfl ?_
    refine zV_aload_n O dX7_conflict_34 rfl rfl ?_
    refine zV_getR O zf_RX7_16 zt_169 rfl (by decide) dX7_conflict_35 ?_
    refine zV_callV (as := [aR 13]) (st := []) O zc_X7_heldTwice (Or.inl zl_RX7_237) zi_566 zi_15 zt_169 rfl rfl (by decide) (Nat.le_of_ble_eq_true rfl) rfl rfl (Nat.le_of_ble_eq_true rfl) (Nat.le_of_ble_eq_true rfl) (Nat.le_of_ble_eq_true rfl) (Nat.le_of_ble_eq_true rfl) (Nat.le_of_ble_eq_true rfl) (Nat.le_of_ble_eq_true rfl) dX7_conflict_38 (sX7_heldTwice zisN_13 hM) (fun r h10 hq => ?_) (fun x h9 hq => hq.elim)
    obtain ⟨z9, rfl, hM⟩ := hq
    refine zV_istore_n O dX7_conflict_41 rfl (Nat.le_of_ble_eq_true rfl) rfl ?_
    refine zV_iload_n O dX7_conflict_42 rfl rfl ?_
    refine zV_if_ne (tgt := 50) O dX7_conflict_43 (by decide) (fun hc => ?_) (fun hc => ?_)
    · replace hM := hM.1 hc
      refine zV_iload_n O dX7_conflict_50 rfl rfl ?_
      exact zV_iret O rfl ⟨_, rfl, hM⟩ (Nat.le_of_ble_eq_true rfl) (Nat.le_of_ble_eq_true rfl) dX7_conflict_51
    · replace hM := hM.2 hc
      refine zV_iconst (z := -1) O ⟨by omega, by omega⟩ dX7_conflict_46 ?_
      refine zV_goto (tgt := 51) O dX7_conflict_47 (by decide) ?_
      exact zV_iret O rfl ⟨_, rfl, hM⟩ (Nat.le_of_ble_eq_true rfl) (Nat.le_of_ble_eq_true rfl) dX7_conflict_51
  · replace hM := hM.2 hc
    refine zV_iconst (z := -1) O ⟨by omega, by omega⟩ dX7_conflict_12 ?_
    exact zV_iret O rfl ⟨_, rfl, hM⟩ (Nat.le_of_ble_eq_true rfl) (Nat.le_of_ble_eq_true rfl) dX7_conflict_13
def mX7_restoreSnapshot  (h : Hp) (Q : Int → Hp → Prop) : Prop := ((¬ (h 169 3) = 0 → (mX3_copyFrom 0 26 h (fun h5 => (mX0_clear h5 (fun h6 => (Q 1 h6)))))) ∧ ((h 169 3) = 0 → (Q 0 h)))
set_option maxHeartbeats 4000000 in
set_option maxRecDepth 100000 in
theorem sX7_restoreSnapshot {l0 : Launch}  {h : Hp} {Q : Int → Hp → Prop}  (hM : mX7_restoreSnapshot  h Q) : zSp l0 yX7_restoreSnapshot cX7_restoreSnapshot 1 (some .boolean) 185 (5) 0 0 [aR 169] h (qZ Q) xN := by
  unfold mX7_restoreSnapshot at hM
  refine zSp_intro zpn_RX7 (Nat.le_of_ble_eq_true rfl) (fun a O => ?_)
  show zV a (5, 0, 0, (qZ Q), xN) 0 0 0 [some (aR 169)] [] h
  refine zV_aload_n O dX7_restoreSnapshot_0 rfl rfl ?_
  refine zV_getZ O zf_RX7_100 zt_169 rfl (by decide) dX7_restoreSnapshot_1 (fun hz4 => ?_)
  refine zV_if_ne (tgt := 9) O dX7_restoreSnapshot_4 (by decide) (fun hc => ?_) (fun hc => ?_)
  · replace hM := hM.1 hc
    refine zV_aload_n O dX7_restoreSnapshot_9 rfl rfl ?_
    refine zV_getR O zf_RX7_10 zt_169 rfl (by decide) dX7_restoreSnapshot_10 ?_
    refine zV_aload_n O dX7_restoreSnapshot_13 rfl rfl ?_
    refine zV_getR O zf_RX7_19 zt_169 rfl (by decide) dX7_restoreSnapshot_14 ?_
    refine zV_callV (as := [aR 26]) (st := []) O zc_X3_copyFrom (Or.inr ⟨_, zl_RX7_95⟩) zi_531 zi_7 (zN_o zisN_0) rfl rfl (zN_lt0 zisN_0) (Nat.le_of_ble_eq_true rfl) rfl rfl (Nat.le_of_ble_eq_true rfl) (Nat.le_of_ble_eq_true rfl) (Nat.le_of_ble_eq_true rfl) (Nat.le_of_ble_eq_true rfl) (Nat.le_of_ble_eq_true rfl) (Nat.le_of_ble_eq_true rfl) dX7_restoreSnapshot_17 (sX3_copyFrom zisN_0 zisN_26 hM) (fun r h5 hq => ?_) (fun x h9 hq => hq.elim)
    obtain ⟨rfl, hM⟩ := hq
    refine zV_aload_n O dX7_restoreSnapshot_20 rfl rfl ?_
    refine zV_getR O zf_RX7_25 zt_169 rfl (by decide) dX7_restoreSnapshot_21 ?_
    refine zV_callV (as := []) (st := []) O zc_X0_clear (Or.inr ⟨_, zl_RX7_99⟩) zi_729 zi_38 zt_170 rfl rfl (by decide) (Nat.le_of_ble_eq_true rfl) rfl rfl (Nat.le_of_ble_eq_true rfl) (Nat.le_of_ble_eq_true rfl) (Nat.le_of_ble_eq_true rfl) (Nat.le_of_ble_eq_true rfl) (Nat.le_of_ble_eq_true rfl) (Nat.le_of_ble_eq_true rfl) dX7_restoreSnapshot_24 (sX0_clear hM) (fun r h6 hq => ?_) (fun x h9 hq => hq.elim)
    obtain ⟨rfl, hM⟩ := hq
    refine zV_iconst (z := 1) O ⟨by omega, by omega⟩ dX7_restoreSnapshot_27 ?_
    exact zV_zret O rfl (Or.inr rfl) ⟨_, rfl, (Or.inr rfl), hM⟩ (Nat.le_of_ble_eq_true rfl) (Nat.le_of_ble_eq_true rfl) dX7_restoreSnapshot_28
  · replace hM := hM.2 hc
    refine zV_iconst (z := 0) O ⟨by omega, by omega⟩ dX7_restoreSnapshot_7 ?_
    exact zV_zret O rfl (Or.inl rfl) ⟨_, rfl, (Or.inl rfl), hM⟩ (Nat.le_of_ble_eq_true rfl) (Nat.le_of_ble_eq_true rfl) dX7_restoreSnapshot_8
def mX7_saveSnapshot  (h : Hp) (Q : Hp → Prop) : Prop := (mX3_copyFrom 26 0 h (fun h3 => (∀ h4 : Hp, h4 = hu h3 169 3 1 → (Q h4))))
set_option maxHeartbeats 4000000 in
set_option maxRecDepth 100000 in
theorem sX7_saveSnapshot {l0 : Launch}  {h : Hp} {Q : Hp → Prop}  (hM : mX7_saveSnapshot  h Q) : zSp l0 yX7_saveSnapshot cX7_saveSnapshot 1 none 185 (5) 0 0 [aR 169] h (qV Q) xN := by
  unfold mX7_saveSnapshot at hM
  refine zSp_intro zpn_RX7 (Nat.le_of_ble_eq_true rfl) (fun a O => ?_)
  show zV a (5, 0, 0, (qV Q), xN) 0 0 0 [some (aR 169)] [] h
  refine zV_aload_n O dX7_saveSnapshot_0 rfl rfl ?_
  refine zV_getR O zf_RX7_19 zt_169 rfl (by decide) dX7_saveSnapshot_1 ?_
  refine zV_aload_n O dX7_saveSnapshot_4 rfl rfl ?_
  refine zV_getR O zf_RX7_10 zt_169 rfl (by decide) dX7_saveSnapshot_5 ?_
  refine zV_callV (as := [aR 0]) (st := []) O zc_X3_copyFrom (Or.inr ⟨_, zl_RX7_95⟩) zi_531 zi_7 (zN_o zisN_26) rfl rfl (zN_lt0 zisN_26) (Nat.le_of_ble_eq_true rfl) rfl rfl (Nat.le_of_ble_eq_true rfl) (Nat.le_of_ble_eq_true rfl) (Nat.le_of_ble_eq_true rfl) (Nat.le_of_ble_eq_true rfl) (Nat.le_of_ble_eq_true rfl) (Nat.le_of_ble_eq_true rfl) dX7_saveSnapshot_8 (sX3_copyFrom zisN_26 zisN_0 hM) (fun r h3 hq => ?_) (fun x h9 hq => hq.elim)
  obtain ⟨rfl, hM⟩ := hq
  refine zV_aload_n O dX7_saveSnapshot_11 rfl rfl ?_
  refine zV_iconst (z := 1) O ⟨by omega, by omega⟩ dX7_saveSnapshot_12 ?_
  refine zV_putZ O zf_RX7_100 zt_169 rfl (by decide) (Or.inr rfl) dX7_saveSnapshot_13 ?_
  have hM := hM _ rfl
  generalize hu h3 169 3 1 = h4 at hM ⊢
  exact zV_vret O rfl ⟨rfl, hM⟩ (Nat.le_of_ble_eq_true rfl) (Nat.le_of_ble_eq_true rfl) dX7_saveSnapshot_16
def mX7_tryWave  (h : Hp) (Q : Int → Hp → Prop) : Prop := (((h 13 2) < (9 : Int) → (mX3_keeperWouldMove 13 h (fun z6 => ((z6 = 0 → (mX3_doWave 13 h (fun z7 h8 => (mX7_heldTwice 13 h8 (fun z9 h10 => ((z9 = 0 → (Q z7 h10)) ∧ (¬ z9 = 0 → (Q (-4) h10)))))))) ∧ (¬ z6 = 0 → (Q (-3) h)))))) ∧ (¬ (h 13 2) < (9 : Int) → (Q (-2) h)))
set_option maxHeartbeats 4000000 in
set_option maxRecDepth 100000 in
theorem sX7_tryWave {l0 : Launch}  {h : Hp} {Q : Int → Hp → Prop}  (hM : mX7_tryWave  h Q) : zSp l0 yX7_tryWave cX7_tryWave 2 (some .int) 185 (5) 0 0 [aR 169] h (qI Q) xN := by
  unfold mX7_tryWave at hM
  refine zSp_intro zpn_RX7 (Nat.le_of_ble_eq_true rfl) (fun a O => ?_)
  show zV a (5, 0, 0, (qI Q), xN) 0 0 0 [some (aR 169), none] [] h
  refine zV_aload_n O dX7_tryWave_0 rfl rfl ?_
  refine zV_getR O zf_RX7_16 zt_169 rfl (by decide) dX7_tryWave_1 ?_
  refine zV_getI O zf_RX7_113 (zN_o zisN_13) rfl (zN_lt0 zisN_13) dX7_tryWave_4 ?_
  refine zV_bipush (z := 9) O ⟨by omega, by omega⟩ rfl dX7_tryWave_7 ?_
  refine zV_icmp_lt (tgt := 15) O dX7_tryWave_9 (by decide) (fun hc => ?_) (fun hc => ?_)
  · replace hM := hM.1 hc
    refine zV_aload_n O dX7_tryWave_15 rfl rfl ?_
    refine zV_getR O zf_RX7_16 zt_169 rfl (by decide) dX7_tryWave_16 ?_
    refine zV_callV (as := []) (st := []) O zc_X3_keeperWouldMove (Or.inr ⟨_, zl_RX7_343⟩) zi_542 zi_9 (zN_o zisN_13) rfl rfl (zN_lt0 zisN_13) (Nat.le_of_ble_eq_true rfl) rfl rfl (Nat.le_of_ble_eq_true rfl) (Nat.le_of_ble_eq_true rfl) (Nat.le_of_ble_eq_true rfl) (Nat.le_of_ble_eq_true rfl) (Nat.le_of_ble_eq_true rfl) (Nat.le_of_ble_eq_true rfl) dX7_tryWave_19 (sX3_keeperWouldMove zisN_13 hM) (fun r h9 hq => ?_) (fun x h9 hq => hq.elim)
    obtain ⟨rfl, z6, rfl, hzz6, hM⟩ := hq
    refine zV_if_eq (tgt := 28) O dX7_tryWave_22 (by decide) (fun hc => ?_) (fun hc => ?_)
    · replace hM := hM.1 hc
      refine zV_aload_n O dX7_tryWave_28 rfl rfl ?_
      refine zV_getR O zf_RX7_16 zt_169 rfl (by decide) dX7_tryWave_29 ?_
      refine zV_callV (as := []) (st := []) O zc_X3_doWave (Or.inr ⟨_, zl_RX7_234⟩) zi_546 zi_10 (zN_o zisN_13) rfl rfl (zN_lt0 zisN_13) (Nat.le_of_ble_eq_true rfl) rfl rfl (Nat.le_of_ble_eq_true rfl) (Nat.le_of_ble_eq_true rfl) (Nat.le_of_ble_eq_true rfl) (Nat.le_of_ble_eq_true rfl) (Nat.le_of_ble_eq_true rfl) (Nat.le_of_ble_eq_true rfl) dX7_tryWave_32 (sX3_doWave zisN_13 hM) (fun r h8 hq => ?_) (fun x h9 hq => hq.elim)
      obtain ⟨z7, rfl, hM⟩ := hq
      refine zV_istore_n O dX7_tryWave_35 rfl (Nat.le_of_ble_eq_true rfl) rfl ?_
      refine zV_aload_n O dX7_tryWave_36 rfl rfl ?_
      refine zV_aload_n O dX7_tryWave_37 rfl rfl ?_
      refine zV_getR O zf_RX7_16 zt_169 rfl (by decide) dX7_tryWave_38 ?_
      refine zV_callV (as := [aR 13]) (st := []) O zc_X7_heldTwice (Or.inl zl_RX7_237) zi_566 zi_15 zt_169 rfl rfl (by decide) (Nat.le_of_ble_eq_true rfl) rfl rfl (Nat.le_of_ble_eq_true rfl) (Nat.le_of_ble_eq_true rfl) (Nat.le_of_ble_eq_true rfl) (Nat.le_of_ble_eq_true rfl) (Nat.le_of_ble_eq_true rfl) (Nat.le_of_ble_eq_true rfl) dX7_tryWave_41 (sX7_heldTwice zisN_13 hM) (fun r h10 hq => ?_) (fun x h9 hq => hq.elim)
      obtain ⟨z9, rfl, hM⟩ := hq
      refine zV_if_eq (tgt := 52) O dX7_tryWave_44 (by decide) (fun hc => ?_) (fun hc => ?_)
      · replace hM := hM.1 hc
        refine zV_iload_n O dX7_tryWave_52 rfl rfl ?_
        exact zV_iret O rfl ⟨_, rfl, hM⟩ (Nat.le_of_ble_eq_true rfl) (Nat.le_of_ble_eq_true rfl) dX7_tryWave_53
      · replace hM := hM.2 hc
        refine zV_bipush (z := -4) O ⟨by omega, by omega⟩ rfl dX7_tryWave_47 ?_
        refine zV_goto (tgt := 53) O dX7_tryWave_49 (by decide) ?_
        exact zV_iret O rfl ⟨_, rfl, hM⟩ (Nat.le_of_ble_eq_true rfl) (Nat.le_of_ble_eq_true rfl) dX7_tryWave_53
    · replace hM := hM.2 hc
      refine zV_bipush (z := -3) O ⟨by omega, by omega⟩ rfl dX7_tryWave_25 ?_
      exact zV_iret O rfl ⟨_, rfl, hM⟩ (Nat.le_of_ble_eq_true rfl) (Nat.le_of_ble_eq_true rfl) dX7_tryWave_27
  · replace hM := hM.2 hc
    refine zV_bipush (z := -2) O ⟨by omega, by omega⟩ rfl dX7_tryWave_12 ?_
    exact zV_iret O rfl ⟨_, rfl, hM⟩ (Nat.le_of_ble_eq_true rfl) (Nat.le_of_ble_eq_true rfl) dX7_tryWave_14
def mX7_adoptTrial  (h : Hp) (Q : Hp → Prop) : Prop := (mX0_add 0 h (fun h3 => (mX3_copyFrom 0 13 h3 (fun h4 => (Q h4)))))
set_option maxHeartbeats 4000000 in
set_option maxRecDepth 100000 in
theorem sX7_adoptTrial {l0 : Launch}  {h : Hp} {Q : Hp → Prop}  (hM : mX7_adoptTrial  h Q) : zSp l0 yX7_adoptTrial cX7_adoptTrial 1 none 185 (6) 0 0 [aR 169] h (qV Q) xN := by
  unfold mX7_adoptTrial at hM
  refine zSp_intro zpn_RX7 (Nat.le_of_ble_eq_true rfl) (fun a O => ?_)
  show zV a (6, 0, 0, (qV Q), xN) 0 0 0 [some (aR 169)] [] h
  refine zV_aload_n O dX7_adoptTrial_0 rfl rfl ?_
  refine zV_getR O zf_RX7_25 zt_169 rfl (by decide) dX7_adoptTrial_1 ?_
  refine zV_aload_n O dX7_adoptTrial_4 rfl rfl ?_
  refine zV_getR O zf_RX7_10 zt_169 rfl (by decide) dX7_adoptTrial_5 ?_
  refine zV_callV (as := [aR 0]) (st := []) O zc_X0_add (Or.inr ⟨_, zl_RX7_249⟩) zi_637 zi_25 zt_170 rfl rfl (by decide) (Nat.le_of_ble_eq_true rfl) rfl rfl (Nat.le_of_ble_eq_true rfl) (Nat.le_of_ble_eq_true rfl) (Nat.le_of_ble_eq_true rfl) (Nat.le_of_ble_eq_true rfl) (Nat.le_of_ble_eq_true rfl) (Nat.le_of_ble_eq_true rfl) dX7_adoptTrial_8 (sX0_add zisN_0 hM) (fun r h3 hq => ?_) (fun x h9 hq => hq.elim)
  obtain ⟨rfl, hM⟩ := hq
  refine zV_aload_n O dX7_adoptTrial_11 rfl rfl ?_
  refine zV_getR O zf_RX7_10 zt_169 rfl (by decide) dX7_adoptTrial_12 ?_
  refine zV_aload_n O dX7_adoptTrial_15 rfl rfl ?_
  refine zV_getR O zf_RX7_16 zt_169 rfl (by decide) dX7_adoptTrial_16 ?_
  refine zV_callV (as := [aR 13]) (st := []) O zc_X3_copyFrom (Or.inr ⟨_, zl_RX7_95⟩) zi_531 zi_7 (zN_o zisN_0) rfl rfl (zN_lt0 zisN_0) (Nat.le_of_ble_eq_true rfl) rfl rfl (Nat.le_of_ble_eq_true rfl) (Nat.le_of_ble_eq_true rfl) (Nat.le_of_ble_eq_true rfl) (Nat.le_of_ble_eq_true rfl) (Nat.le_of_ble_eq_true rfl) (Nat.le_of_ble_eq_true rfl) dX7_adoptTrial_19 (sX3_copyFrom zisN_0 zisN_13 hM) (fun r h4 hq => ?_) (fun x h9 hq => hq.elim)
  obtain ⟨rfl, hM⟩ := hq
  exact zV_vret O rfl ⟨rfl, hM⟩ (Nat.le_of_ble_eq_true rfl) (Nat.le_of_ble_eq_true rfl) dX7_adoptTrial_22
def mX7_close  (h : Hp) (Q : Int → Hp → Prop) : Prop := ((¬ (h 0 7) = 0 → (mX0_add 0 h (fun h6 => (∀ h7 : Hp, h7 = hu h6 0 7 0 → (mX3_hostsOfOffice 0 0 h7 (fun z8 => (Q z8 h7))))))) ∧ ((h 0 7) = 0 → (Q (-2) h)))
set_option maxHeartbeats 4000000 in
set_option maxRecDepth 100000 in
theorem sX7_close {l0 : Launch}  {h : Hp} {Q : Int → Hp → Prop}  (hM : mX7_close  h Q) : zSp l0 yX7_close cX7_close 1 (some .int) 185 (6) 0 0 [aR 169] h (qI Q) xN := by
  unfold mX7_close at hM
  refine zSp_intro zpn_RX7 (Nat.le_of_ble_eq_true rfl) (fun a O => ?_)
  show zV a (6, 0, 0, (qI Q), xN) 0 0 0 [some (aR 169)] [] h
  refine zV_aload_n O dX7_close_0 rfl rfl ?_
  refine zV_getR O zf_RX7_10 zt_169 rfl (by decide) dX7_close_1 ?_
  refine zV_getZ O zf_RX7_128 (zN_o zisN_0) rfl (zN_lt0 zisN_0) dX7_close_4 (fun hz5 => ?_)
  refine zV_if_ne (tgt := 13) O dX7_close_7 (by decide) (fun hc => ?_) (fun hc => ?_)
  · replace hM := hM.1 hc
    refine zV_aload_n O dX7_close_13 rfl rfl ?_
    refine zV_getR O zf_RX7_25 zt_169 rfl (by decide) dX7_close_14 ?_
    refine zV_aload_n O dX7_close_17 rfl rfl ?_
    refine zV_getR O zf_RX7_10 zt_169 rfl (by decide) dX7_close_18 ?_
    refine zV_callV (as := [aR 0]) (st := []) O zc_X0_add (Or.inr ⟨_, zl_RX7_249⟩) zi_637 zi_25 zt_170 rfl rfl (by decide) (Nat.le_of_ble_eq_true rfl) rfl rfl (Nat.le_of_ble_eq_true rfl) (Nat.le_of_ble_eq_true rfl) (Nat.le_of_ble_eq_true rfl) (Nat.le_of_ble_eq_true rfl) (Nat.le_of_ble_eq_true rfl) (Nat.le_of_ble_eq_true rfl) dX7_close_21 (sX0_add zisN_0 hM) (fun r h6 hq => ?_) (fun x h9 hq => hq.elim)
    obtain ⟨rfl, hM⟩ := hq
    refine zV_aload_n O dX7_close_24 rfl rfl ?_
    refine zV_getR O zf_RX7_10 zt_169 rfl (by decide) dX7_close_25 ?_
    refine zV_iconst (z := 0) O ⟨by omega, by omega⟩ dX7_close_28 ?_
    refine zV_putZ O zf_RX7_128 (zN_o zisN_0) rfl (zN_lt0 zisN_0) (Or.inl rfl) dX7_close_29 ?_
    have hM := hM _ rfl
    generalize hu h6 0 7 0 = h7 at hM ⊢
    refine zV_aload_n O dX7_close_32 rfl rfl ?_
    refine zV_getR O zf_RX7_10 zt_169 rfl (by decide) dX7_close_33 ?_
    refine zV_iconst (z := 0) O ⟨by omega, by omega⟩ dX7_close_36 ?_
    refine zV_callV (as := [aI 0]) (st := []) O zc_X3_hostsOfOffice (Or.inr ⟨_, zl_RX7_281⟩) zi_697 zi_35 (zN_o zisN_0) rfl rfl (zN_lt0 zisN_0) (Nat.le_of_ble_eq_true rfl) rfl rfl (Nat.le_of_ble_eq_true rfl) (Nat.le_of_ble_eq_true rfl) (Nat.le_of_ble_eq_true rfl) (Nat.le_of_ble_eq_true rfl) (Nat.le_of_ble_eq_true rfl) (Nat.le_of_ble_eq_true rfl) dX7_close_37 (sX3_hostsOfOffice zisN_0 hM) (fun r h9 hq => ?_) (fun x h9 hq => hq.elim)
    obtain ⟨rfl, z8, rfl, hM⟩ := hq
    exact zV_iret O rfl ⟨_, rfl, hM⟩ (Nat.le_of_ble_eq_true rfl) (Nat.le_of_ble_eq_true rfl) dX7_close_40
  · replace hM := hM.2 hc
    refine zV_bipush (z := -2) O ⟨by omega, by omega⟩ rfl dX7_close_10 ?_
    exact zV_iret O rfl ⟨_, rfl, hM⟩ (Nat.le_of_ble_eq_true rfl) (Nat.le_of_ble_eq_true rfl) dX7_close_12
def mX7_open  (h : Hp) (Q : Int → Hp → Prop) : Prop := (((h 0 7) = 0 → (mX7_clashCount 0 h (fun z7 h8 => ((z7 ≤ 0 → (mX0_add 0 h8 (fun h9 => (∀ h10 : Hp, h10 = hu h9 0 7 1 → (Q (h10 0 0) h10))))) ∧ (¬ z7 ≤ 0 → (Q (-3) h8)))))) ∧ (¬ (h 0 7) = 0 → (Q (-2) h)))
set_option maxHeartbeats 4000000 in
set_option maxRecDepth 100000 in
theorem sX7_open {l0 : Launch}  {h : Hp} {Q : Int → Hp → Prop}  (hM : mX7_open  h Q) : zSp l0 yX7_open cX7_open 1 (some .int) 185 (6) 0 0 [aR 169] h (qI Q) xN := by
  unfold mX7_open at hM
  refine zSp_intro zpn_RX7 (Nat.le_of_ble_eq_true rfl) (fun a O => ?_)
  show zV a (6, 0, 0, (qI Q), xN) 0 0 0 [some (aR 169)] [] h
  refine zV_aload_n O dX7_open_0 rfl rfl ?_
  refine zV_getR O zf_RX7_10 zt_169 rfl (by decide) dX7_open_1 ?_
  refine zV_getZ O zf_RX7_128 (zN_o zisN_0) rfl (zN_lt0 zisN_0) dX7_open_4 (fun hz6 => ?_)
  refine zV_if_eq (tgt := 13) O dX7_open_7 (by decide) (fun hc => ?_) (fun hc => ?_)
  · replace hM := hM.1 hc
    refine zV_aload_n O dX7_open_13 rfl rfl ?_
    refine zV_aload_n O dX7_open_14 rfl rfl ?_
    refine zV_getR O zf_RX7_10 zt_169 rfl (by decide) dX7_open_15 ?_
    refine zV_callV (as := [aR 0]) (st := []) O zc_X7_clashCount (Or.inl zl_RX7_131) zi_597 zi_19 zt_169 rfl rfl (by decide) (Nat.le_of_ble_eq_true rfl) rfl rfl (Nat.le_of_ble_eq_true rfl) (Nat.le_of_ble_eq_true rfl) (Nat.le_of_ble_eq_true rfl) (Nat.le_of_ble_eq_true rfl) (Nat.le_of_ble_eq_true rfl) (Nat.le_of_ble_eq_true rfl) dX7_open_18 (sX7_clashCount zisN_0 hM) (fun r h8 hq => ?_) (fun x h9 hq => hq.elim)
    obtain ⟨z7, rfl, hM⟩ := hq
    refine zV_if_le (tgt := 27) O dX7_open_21 (by decide) (fun hc => ?_) (fun hc => ?_)
    · replace hM := hM.1 hc
      refine zV_aload_n O dX7_open_27 rfl rfl ?_
      refine zV_getR O zf_RX7_25 zt_169 rfl (by decide) dX7_open_28 ?_
      refine zV_aload_n O dX7_open_31 rfl rfl ?_
      refine zV_getR O zf_RX7_10 zt_169 rfl (by decide) dX7_open_32 ?_
      refine zV_callV (as := [aR 0]) (st := []) O zc_X0_add (Or.inr ⟨_, zl_RX7_249⟩) zi_637 zi_25 zt_170 rfl rfl (by decide) (Nat.le_of_ble_eq_true rfl) rfl rfl (Nat.le_of_ble_eq_true rfl) (Nat.le_of_ble_eq_true rfl) (Nat.le_of_ble_eq_true rfl) (Nat.le_of_ble_eq_true rfl) (Nat.le_of_ble_eq_true rfl) (Nat.le_of_ble_eq_true rfl) dX7_open_35 (sX0_add zisN_0 hM) (fun r h9 hq => ?_) (fun x h9 hq => hq.elim)
      obtain ⟨rfl, hM⟩ := hq
      refine zV_aload_n O dX7_open_38 rfl rfl ?_
      refine zV_getR O zf_RX7_10 zt_169 rfl (by decide) dX7_open_39 ?_
      refine zV_iconst (z := 1) O ⟨by omega, by omega⟩ dX7_open_42 ?_
      refine zV_putZ O zf_RX7_128 (zN_o zisN_0) rfl (zN_lt0 zisN_0) (Or.inr rfl) dX7_open_43 ?_
      have hM := hM _ rfl
      generalize hu h9 0 7 1 = h10 at hM ⊢
      refine zV_aload_n O dX7_open_46 rfl rfl ?_
      refine zV_getR O zf_RX7_10 zt_169 rfl (by decide) dX7_open_47 ?_
      refine zV_getI O zf_RX7_104 (zN_o zisN_0) rfl (zN_lt0 zisN_0) dX7_open_50 ?_
      exact zV_iret O rfl ⟨_, rfl, hM⟩ (Nat.le_of_ble_eq_true rfl) (Nat.le_of_ble_eq_true rfl) dX7_open_53
    · replace hM := hM.2 hc
      refine zV_bipush (z := -3) O ⟨by omega, by omega⟩ rfl dX7_open_24 ?_
      exact zV_iret O rfl ⟨_, rfl, hM⟩ (Nat.le_of_ble_eq_true rfl) (Nat.le_of_ble_eq_true rfl) dX7_open_26
  · replace hM := hM.2 hc
    refine zV_bipush (z := -2) O ⟨by omega, by omega⟩ rfl dX7_open_10 ?_
    exact zV_iret O rfl ⟨_, rfl, hM⟩ (Nat.le_of_ble_eq_true rfl) (Nat.le_of_ble_eq_true rfl) dX7_open_12
def mX7_openIn_b13 (Q : Int → Hp → Prop) : Nat → Int → Hp → Prop
  | 0 => fun _ _ => False
  | fu13 + 1 => fun v1 h => (((9 : Int) < v1 → (Q (-1) h)) ∧ (¬ (9 : Int) < v1 → (mX7_clashCount 13 h (fun z14 h15 => ((¬ z14 = 0 → (mX7_tryWave h15 (fun z16 h17 => ((0 ≤ z16 → (zr (v1 + 1) ∧ ((mX7_openIn_b13 Q fu13) (v1 + 1) h17))) ∧ (¬ 0 ≤ z16 → (Q (-1) h17)))))) ∧ (z14 = 0 → (Q v1 h15)))))))
set_option maxHeartbeats 4000000 in
set_option maxRecDepth 100000 in
theorem sX7_openIn_b13 {l0 : Launch} {a : ZC}  {Q : Int → Hp → Prop}  (O : zOk l0 a cX7_openIn RX7 2 (some .int) 185 [])   : ∀ (ff : Nat) (v1 : Int) (h : Hp), mX7_openIn_b13 Q ff v1 h → zV a (6, 0, 0, (qI Q), xN) 0 0 13 [some (aR 169), some (aI v1)] [] h := by
  intro ff
  induction ff with
  | zero => intro v1 h hM; exact hM.elim
  | succ ff ih =>
    have hK13 := ih
    intro v1 h hM
    unfold mX7_openIn_b13 at hM
    refine zV_iload_n O dX7_openIn_13 rfl rfl ?_
    refine zV_bipush (z := 9) O ⟨by omega, by omega⟩ rfl dX7_openIn_14 ?_
    refine zV_icmp_gt (tgt := 47) O dX7_openIn_16 (by decide) (fun hc => ?_) (fun hc => ?_)
    · replace hM := hM.1 hc
      refine zV_iconst (z := -1) O ⟨by omega, by omega⟩ dX7_openIn_47 ?_
      exact zV_iret O rfl ⟨_, rfl, hM⟩ (Nat.le_of_ble_eq_true rfl) (Nat.le_of_ble_eq_true rfl) dX7_openIn_48
    · replace hM := hM.2 hc
      refine zV_aload_n O dX7_openIn_19 rfl rfl ?_
      refine zV_aload_n O dX7_openIn_20 rfl rfl ?_
      refine zV_getR O zf_RX7_16 zt_169 rfl (by decide) dX7_openIn_21 ?_
      refine zV_callV (as := [aR 13]) (st := []) O zc_X7_clashCount (Or.inl zl_RX7_131) zi_597 zi_19 zt_169 rfl rfl (by decide) (Nat.le_of_ble_eq_true rfl) rfl rfl (Nat.le_of_ble_eq_true rfl) (Nat.le_of_ble_eq_true rfl) (Nat.le_of_ble_eq_true rfl) (Nat.le_of_ble_eq_true rfl) (Nat.le_of_ble_eq_true rfl) (Nat.le_of_ble_eq_true rfl) dX7_openIn_24 (sX7_clashCount zisN_13 hM) (fun r h15 hq => ?_) (fun x h9 hq => hq.elim)
      obtain ⟨z14, rfl, hM⟩ := hq
      refine zV_if_ne (tgt := 32) O dX7_openIn_27 (by decide) (fun hc => ?_) (fun hc => ?_)
      · replace hM := hM.1 hc
        refine zV_aload_n O dX7_openIn_32 rfl rfl ?_
        refine zV_callV (as := []) (st := []) O zc_X7_tryWave (Or.inl zl_RX7_226) zi_538 zi_8 zt_169 rfl rfl (by decide) (Nat.le_of_ble_eq_true rfl) rfl rfl (Nat.le_of_ble_eq_true rfl) (Nat.le_of_ble_eq_true rfl) (Nat.le_of_ble_eq_true rfl) (Nat.le_of_ble_eq_true rfl) (Nat.le_of_ble_eq_true rfl) (Nat.le_of_ble_eq_true rfl) dX7_openIn_33 (sX7_tryWave hM) (fun r h17 hq => ?_) (fun x h9 hq => hq.elim)
        obtain ⟨z16, rfl, hM⟩ := hq
        refine zV_if_ge (tgt := 41) O dX7_openIn_36 (by decide) (fun hc => ?_) (fun hc => ?_)
        · replace hM := hM.1 hc
          obtain ⟨hc, hM⟩ := hM
          refine zV_iinc O dX7_openIn_41 rfl (Nat.le_of_ble_eq_true rfl) rfl hc ?_
          refine zV_goto (tgt := 13) O dX7_openIn_44 (by decide) ?_
          exact hK13 _ _ hM
        · replace hM := hM.2 hc
          refine zV_iconst (z := -1) O ⟨by omega, by omega⟩ dX7_openIn_39 ?_
          exact zV_iret O rfl ⟨_, rfl, hM⟩ (Nat.le_of_ble_eq_true rfl) (Nat.le_of_ble_eq_true rfl) dX7_openIn_40
      · replace hM := hM.2 hc
        refine zV_iload_n O dX7_openIn_30 rfl rfl ?_
        exact zV_iret O rfl ⟨_, rfl, hM⟩ (Nat.le_of_ble_eq_true rfl) (Nat.le_of_ble_eq_true rfl) dX7_openIn_31
def mX7_openIn  (h : Hp) (Q : Int → Hp → Prop) : Prop := (mX3_copyFrom 13 0 h (fun h18 => (∃ ff, mX7_openIn_b13 Q ff 0 h18)))
set_option maxHeartbeats 4000000 in
set_option maxRecDepth 100000 in
theorem sX7_openIn {l0 : Launch}  {h : Hp} {Q : Int → Hp → Prop}  (hM : mX7_openIn  h Q) : zSp l0 yX7_openIn cX7_openIn 2 (some .int) 185 (6) 0 0 [aR 169] h (qI Q) xN := by
  unfold mX7_openIn at hM
  refine zSp_intro zpn_RX7 (Nat.le_of_ble_eq_true rfl) (fun a O => ?_)
  show zV a (6, 0, 0, (qI Q), xN) 0 0 0 [some (aR 169), none] [] h
  refine zV_aload_n O dX7_openIn_0 rfl rfl ?_
  refine zV_getR O zf_RX7_16 zt_169 rfl (by decide) dX7_openIn_1 ?_
  refine zV_aload_n O dX7_openIn_4 rfl rfl ?_
  refine zV_getR O zf_RX7_10 zt_169 rfl (by decide) dX7_openIn_5 ?_
  refine zV_callV (as := [aR 0]) (st := []) O zc_X3_copyFrom (Or.inr ⟨_, zl_RX7_95⟩) zi_531 zi_7 (zN_o zisN_13) rfl rfl (zN_lt0 zisN_13) (Nat.le_of_ble_eq_true rfl) rfl rfl (Nat.le_of_ble_eq_true rfl) (Nat.le_of_ble_eq_true rfl) (Nat.le_of_ble_eq_true rfl) (Nat.le_of_ble_eq_true rfl) (Nat.le_of_ble_eq_true rfl) (Nat.le_of_ble_eq_true rfl) dX7_openIn_8 (sX3_copyFrom zisN_13 zisN_0 hM) (fun r h18 hq => ?_) (fun x h9 hq => hq.elim)
  obtain ⟨rfl, hM⟩ := hq
  refine zV_iconst (z := 0) O ⟨by omega, by omega⟩ dX7_openIn_11 ?_
  refine zV_istore_n O dX7_openIn_12 rfl (Nat.le_of_ble_eq_true rfl) rfl ?_
  obtain ⟨ff, hM⟩ := hM
  exact sX7_openIn_b13 O ff _ _ hM
def mX7_rewrites  (h : Hp) (Q : Int → Hp → Prop) : Prop := (mX3_copyFrom 13 0 h (fun h5 => (mX7_tryWave h5 (fun z6 h7 => ((0 ≤ z6 → (mX3_sidesUnlike 13 0 h7 (fun z8 => (Q z8 h7)))) ∧ (¬ 0 ≤ z6 → (Q (-1) h7)))))))
set_option maxHeartbeats 4000000 in
set_option maxRecDepth 100000 in
theorem sX7_rewrites {l0 : Launch}  {h : Hp} {Q : Int → Hp → Prop}  (hM : mX7_rewrites  h Q) : zSp l0 yX7_rewrites cX7_rewrites 1 (some .int) 185 (6) 0 0 [aR 169] h (qI Q) xN := by
  unfold mX7_rewrites at hM
  refine zSp_intro zpn_RX7 (Nat.le_of_ble_eq_true rfl) (fun a O => ?_)
  show zV a (6, 0, 0, (qI Q), xN) 0 0 0 [some (aR 169)] [] h
  refine zV_aload_n O dX7_rewrites_0 rfl rfl ?_
  refine zV_getR O zf_RX7_16 zt_169 rfl (by decide) dX7_rewrites_1 ?_
  refine zV_aload_n O dX7_rewrites_4 rfl rfl ?_
  refine zV_getR O zf_RX7_10 zt_169 rfl (by decide) dX7_rewrites_5 ?_
  refine zV_callV (as := [aR 0]) (st := []) O zc_X3_copyFrom (Or.inr ⟨_, zl_RX7_95⟩) zi_531 zi_7 (zN_o zisN_13) rfl rfl (zN_lt0 zisN_13) (Nat.le_of_ble_eq_true rfl) rfl rfl (Nat.le_of_ble_eq_true rfl) (Nat.le_of_ble_eq_true rfl) (Nat.le_of_ble_eq_true rfl) (Nat.le_of_ble_eq_true rfl) (Nat.le_of_ble_eq_true rfl) (Nat.le_of_ble_eq_true rfl) dX7_rewrites_8 (sX3_copyFrom zisN_13 zisN_0 hM) (fun r h5 hq => ?_) (fun x h9 hq => hq.elim)
  obtain ⟨rfl, hM⟩ := hq
  refine zV_aload_n O dX7_rewrites_11 rfl rfl ?_
  refine zV_callV (as := []) (st := []) O zc_X7_tryWave (Or.inl zl_RX7_226) zi_538 zi_8 zt_169 rfl rfl (by decide) (Nat.le_of_ble_eq_true rfl) rfl rfl (Nat.le_of_ble_eq_true rfl) (Nat.le_of_ble_eq_true rfl) (Nat.le_of_ble_eq_true rfl) (Nat.le_of_ble_eq_true rfl) (Nat.le_of_ble_eq_true rfl) (Nat.le_of_ble_eq_true rfl) dX7_rewrites_12 (sX7_tryWave hM) (fun r h7 hq => ?_) (fun x h9 hq => hq.elim)
  obtain ⟨z6, rfl, hM⟩ := hq
  refine zV_if_ge (tgt := 22) O dX7_rewrites_15 (by decide) (fun hc => ?_) (fun hc => ?_)
  · replace hM := hM.1 hc
    refine zV_aload_n O dX7_rewrites_22 rfl rfl ?_
    refine zV_getR O zf_RX7_16 zt_169 rfl (by decide) dX7_rewrites_23 ?_
    refine zV_aload_n O dX7_rewrites_26 rfl rfl ?_
    refine zV_getR O zf_RX7_10 zt_169 rfl (by decide) dX7_rewrites_27 ?_
    refine zV_callV (as := [aR 0]) (st := []) O zc_X3_sidesUnlike (Or.inr ⟨_, zl_RX7_240⟩) zi_589 zi_18 (zN_o zisN_13) rfl rfl (zN_lt0 zisN_13) (Nat.le_of_ble_eq_true rfl) rfl rfl (Nat.le_of_ble_eq_true rfl) (Nat.le_of_ble_eq_true rfl) (Nat.le_of_ble_eq_true rfl) (Nat.le_of_ble_eq_true rfl) (Nat.le_of_ble_eq_true rfl) (Nat.le_of_ble_eq_true rfl) dX7_rewrites_30 (sX3_sidesUnlike zisN_13 zisN_0 hM) (fun r h9 hq => ?_) (fun x h9 hq => hq.elim)
    obtain ⟨rfl, z8, rfl, hM⟩ := hq
    exact zV_iret O rfl ⟨_, rfl, hM⟩ (Nat.le_of_ble_eq_true rfl) (Nat.le_of_ble_eq_true rfl) dX7_rewrites_33
  · replace hM := hM.2 hc
    refine zV_iconst (z := -1) O ⟨by omega, by omega⟩ dX7_rewrites_18 ?_
    refine zV_goto (tgt := 33) O dX7_rewrites_19 (by decide) ?_
    exact zV_iret O rfl ⟨_, rfl, hM⟩ (Nat.le_of_ble_eq_true rfl) (Nat.le_of_ble_eq_true rfl) dX7_rewrites_33
def mX7_settle_b142 (Q : Int → Hp → Prop) (K26 : Int → Int → Hp → Prop) (v1 : Int) (v2 : Int) (h : Hp) : Prop := (zr (v2 + 1) ∧ (K26 v1 (v2 + 1) h))
set_option maxHeartbeats 4000000 in
set_option maxRecDepth 100000 in
theorem sX7_settle_b142 {l0 : Launch} {a : ZC}  {Q : Int → Hp → Prop} {K26 : Int → Int → Hp → Prop} (O : zOk l0 a cX7_settle RX7 6 (some .int) 185 [])  (hK26 : ∀ (v1 : Int) (v2 : Int) (h : Hp), K26 v1 v2 h → zV a (6, 0, 0, (qI Q), xN) 0 0 26 [some (aR 169), some (aI v1), some (aI v2), none, none, none] [] h) {v1 : Int} {v2 : Int} {h : Hp}  (hM : mX7_settle_b142 Q K26 v1 v2 h) : zV a (6, 0, 0, (qI Q), xN) 0 0 142 [some (aR 169), some (aI v1), some (aI v2), none, none, none] [] h := by
  unfold mX7_settle_b142 at hM
  obtain ⟨hc, hM⟩ := hM
  refine zV_iinc O dX7_settle_142 rfl (Nat.le_of_ble_eq_true rfl) rfl hc ?_
  refine zV_goto (tgt := 26) O dX7_settle_145 (by decide) ?_
  exact hK26 _ _ _ hM
def mX7_settle_b56 (Q : Int → Hp → Prop) (K26 : Int → Int → Hp → Prop) (v1 : Int) (v2 : Int) (s0 : Int) (h : Hp) : Prop := ((s0 = ((-1) : Int) → (mX7_settle_b142 Q K26 v1 v2 h)) ∧ (¬ s0 = ((-1) : Int) → (((0 : Int) ≤ s0 ∧ s0 < 40) ∧ ((¬ (rd h 6 s0) = 0 → (mX7_settle_b142 Q K26 v1 v2 h)) ∧ ((rd h 6 s0) = 0 → (mX5_smallestFree (h 0 5) (h 0 6) h (fun z21 => (mX3_firstWaveWithRoom 0 h (fun z22 => ((z21 = 0 → (Q v1 h)) ∧ (¬ z21 = 0 → ((¬ z22 = 0 → (mX3_setPlan 0 s0 z21 z22 h (fun h23 => (mX5_countPlan z21 h23 (fun h24 => (zr (v1 + 1) ∧ (mX7_settle_b142 Q K26 (v1 + 1) v2 h24))))))) ∧ (z22 = 0 → (Q v1 h))))))))))))))
set_option maxHeartbeats 4000000 in
set_option maxRecDepth 100000 in
theorem sX7_settle_b56 {l0 : Launch} {a : ZC}  {Q : Int → Hp → Prop} {K26 : Int → Int → Hp → Prop} (O : zOk l0 a cX7_settle RX7 6 (some .int) 185 [])  (hK26 : ∀ (v1 : Int) (v2 : Int) (h : Hp), K26 v1 v2 h → zV a (6, 0, 0, (qI Q), xN) 0 0 26 [some (aR 169), some (aI v1), some (aI v2), none, none, none] [] h) {v1 : Int} {v2 : Int} {s0 : Int} {h : Hp}  (hM : mX7_settle_b56 Q K26 v1 v2 s0 h) : zV a (6, 0, 0, (qI Q), xN) 0 0 56 [some (aR 169), some (aI v1), some (aI v2), none, none, none] [aI s0] h := by
  unfold mX7_settle_b56 at hM
  refine zV_istore_n O dX7_settle_56 rfl (Nat.le_of_ble_eq_true rfl) rfl ?_
  refine zV_iload_n O dX7_settle_57 rfl rfl ?_
  refine zV_iconst (z := -1) O ⟨by omega, by omega⟩ dX7_settle_58 ?_
  refine zV_icmp_eq (tgt := 142) O dX7_settle_59 (by decide) (fun hc => ?_) (fun hc => ?_)
  · replace hM := hM.1 hc
    refine zV_sub (ls2 := [some (aR 169), some (aI v1), some (aI v2), none, none, none]) ⟨rfl, rfl, rfl, trivial⟩ ?_
    exact sX7_settle_b142 O hK26 hM
  · replace hM := hM.2 hc
    refine zV_aload_n O dX7_settle_62 rfl rfl ?_
    refine zV_getR O zf_RX7_10 zt_169 rfl (by decide) dX7_settle_63 ?_
    refine zV_getR O zf_RX7_161 (zN_o zisN_0) rfl (zN_lt0 zisN_0) dX7_settle_66 ?_
    refine zV_iload_n O dX7_settle_69 rfl rfl ?_
    obtain ⟨hc, hM⟩ := hM
    refine zV_iald O zt_6 (by decide) hc dX7_settle_70 ?_
    refine zV_if_ne (tgt := 142) O dX7_settle_71 (by decide) (fun hc => ?_) (fun hc => ?_)
    · replace hM := hM.1 hc
      refine zV_sub (ls2 := [some (aR 169), some (aI v1), some (aI v2), none, none, none]) ⟨rfl, rfl, rfl, trivial⟩ ?_
      exact sX7_settle_b142 O hK26 hM
    · replace hM := hM.2 hc
      refine zV_aload_n O dX7_settle_74 rfl rfl ?_
      refine zV_getR O zf_RX7_32 zt_169 rfl (by decide) dX7_settle_75 ?_
      refine zV_aload_n O dX7_settle_78 rfl rfl ?_
      refine zV_getR O zf_RX7_10 zt_169 rfl (by decide) dX7_settle_79 ?_
      refine zV_getI O zf_RX7_122 (zN_o zisN_0) rfl (zN_lt0 zisN_0) dX7_settle_82 ?_
      refine zV_aload_n O dX7_settle_85 rfl rfl ?_
      refine zV_getR O zf_RX7_10 zt_169 rfl (by decide) dX7_settle_86 ?_
      refine zV_getI O zf_RX7_125 (zN_o zisN_0) rfl (zN_lt0 zisN_0) dX7_settle_89 ?_
      refine zV_callV (as := [aI (h 0 5), aI (h 0 6)]) (st := []) O zc_X5_smallestFree (Or.inr ⟨_, zl_RX7_223⟩) zi_520 zi_6 zt_172 rfl rfl (by decide) (Nat.le_of_ble_eq_true rfl) rfl rfl (Nat.le_of_ble_eq_true rfl) (Nat.le_of_ble_eq_true rfl) (Nat.le_of_ble_eq_true rfl) (Nat.le_of_ble_eq_true rfl) (Nat.le_of_ble_eq_true rfl) (Nat.le_of_ble_eq_true rfl) dX7_settle_92 (sX5_smallestFree hM) (fun r h9 hq => ?_) (fun x h9 hq => hq.elim)
      obtain ⟨rfl, z21, rfl, hM⟩ := hq
      refine zV_istore O dX7_settle_95 (Nat.le_of_ble_eq_true rfl) rfl ?_
      refine zV_aload_n O dX7_settle_97 rfl rfl ?_
      refine zV_getR O zf_RX7_10 zt_169 rfl (by decide) dX7_settle_98 ?_
      refine zV_callV (as := []) (st := []) O zc_X3_firstWaveWithRoom (Or.inr ⟨_, zl_RX7_269⟩) zi_652 zi_28 (zN_o zisN_0) rfl rfl (zN_lt0 zisN_0) (Nat.le_of_ble_eq_true rfl) rfl rfl (Nat.le_of_ble_eq_true rfl) (Nat.le_of_ble_eq_true rfl) (Nat.le_of_ble_eq_true rfl) (Nat.le_of_ble_eq_true rfl) (Nat.le_of_ble_eq_true rfl) (Nat.le_of_ble_eq_true rfl) dX7_settle_101 (sX3_firstWaveWithRoom zisN_0 hM) (fun r h9 hq => ?_) (fun x h9 hq => hq.elim)
      obtain ⟨rfl, z22, rfl, hM⟩ := hq
      refine zV_istore O dX7_settle_104 (Nat.le_of_ble_eq_true rfl) rfl ?_
      refine zV_iload O dX7_settle_106 rfl ?_
      refine zV_if_eq (tgt := 116) O dX7_settle_108 (by decide) (fun hc => ?_) (fun hc => ?_)
      · replace hM := hM.1 hc
        refine zV_iload_n O dX7_settle_116 rfl rfl ?_
        exact zV_iret O rfl ⟨_, rfl, hM⟩ (Nat.le_of_ble_eq_true rfl) (Nat.le_of_ble_eq_true rfl) dX7_settle_117
      · replace hM := hM.2 hc
        refine zV_iload O dX7_settle_111 rfl ?_
        refine zV_if_ne (tgt := 118) O dX7_settle_113 (by decide) (fun hc => ?_) (fun hc => ?_)
        · replace hM := hM.1 hc
          refine zV_aload_n O dX7_settle_118 rfl rfl ?_
          refine zV_getR O zf_RX7_10 zt_169 rfl (by decide) dX7_settle_119 ?_
          refine zV_iload_n O dX7_settle_122 rfl rfl ?_
          refine zV_iload O dX7_settle_123 rfl ?_
          refine zV_iload O dX7_settle_125 rfl ?_
          refine zV_callV (as := [aI s0, aI z21, aI z22]) (st := []) O zc_X3_setPlan (Or.inr ⟨_, zl_RX7_259⟩) zi_562 zi_14 (zN_o zisN_0) rfl rfl (zN_lt0 zisN_0) (Nat.le_of_ble_eq_true rfl) rfl rfl (Nat.le_of_ble_eq_true rfl) (Nat.le_of_ble_eq_true rfl) (Nat.le_of_ble_eq_true rfl) (Nat.le_of_ble_eq_true rfl) (Nat.le_of_ble_eq_true rfl) (Nat.le_of_ble_eq_true rfl) dX7_settle_127 (sX3_setPlan zisN_0 hM) (fun r h23 hq => ?_) (fun x h9 hq => hq.elim)
          obtain ⟨rfl, hM⟩ := hq
          refine zV_aload_n O dX7_settle_130 rfl rfl ?_
          refine zV_getR O zf_RX7_32 zt_169 rfl (by decide) dX7_settle_131 ?_
          refine zV_iload O dX7_settle_134 rfl ?_
          refine zV_callV (as := [aI z21]) (st := []) O zc_X5_countPlan (Or.inr ⟨_, zl_RX7_272⟩) zi_661 zi_30 zt_172 rfl rfl (by decide) (Nat.le_of_ble_eq_true rfl) rfl rfl (Nat.le_of_ble_eq_true rfl) (Nat.le_of_ble_eq_true rfl) (Nat.le_of_ble_eq_true rfl) (Nat.le_of_ble_eq_true rfl) (Nat.le_of_ble_eq_true rfl) (Nat.le_of_ble_eq_true rfl) dX7_settle_136 (sX5_countPlan hM) (fun r h24 hq => ?_) (fun x h9 hq => hq.elim)
          obtain ⟨rfl, hM⟩ := hq
          obtain ⟨hc, hM⟩ := hM
          refine zV_iinc O dX7_settle_139 rfl (Nat.le_of_ble_eq_true rfl) rfl hc ?_
          refine zV_sub (ls2 := [some (aR 169), some (aI (v1 + 1)), some (aI v2), none, none, none]) ⟨rfl, rfl, rfl, trivial⟩ ?_
          exact sX7_settle_b142 O hK26 hM
        · replace hM := hM.2 hc
          refine zV_iload_n O dX7_settle_116 rfl rfl ?_
          exact zV_iret O rfl ⟨_, rfl, hM⟩ (Nat.le_of_ble_eq_true rfl) (Nat.le_of_ble_eq_true rfl) dX7_settle_117
def mX7_settle_b26 (Q : Int → Hp → Prop) : Nat → Int → Int → Hp → Prop
  | 0 => fun _ _ _ => False
  | fu26 + 1 => fun v1 v2 h => (((250 : Int) < v2 → (Q v1 h)) ∧ (¬ (250 : Int) < v2 → (mX5_isClash v2 h (fun z25 => ((z25 = 0 → (mX7_settle_b56 Q (mX7_settle_b26 Q fu26) v1 v2 (-1) h)) ∧ (¬ z25 = 0 → (mX3_chosenToMove 0 v2 h (fun z26 => (mX7_settle_b56 Q (mX7_settle_b26 Q fu26) v1 v2 z26 h)))))))))
set_option maxHeartbeats 4000000 in
set_option maxRecDepth 100000 in
theorem sX7_settle_b26 {l0 : Launch} {a : ZC}  {Q : Int → Hp → Prop}  (O : zOk l0 a cX7_settle RX7 6 (some .int) 185 [])   : ∀ (ff : Nat) (v1 : Int) (v2 : Int) (h : Hp), mX7_settle_b26 Q ff v1 v2 h → zV a (6, 0, 0, (qI Q), xN) 0 0 26 [some (aR 169), some (aI v1), some (aI v2), none, none, none] [] h := by
  intro ff
  induction ff with
  | zero => intro v1 v2 h hM; exact hM.elim
  | succ ff ih =>
    have hK26 := ih
    intro v1 v2 h hM
    unfold mX7_settle_b26 at hM
    refine zV_iload_n O dX7_settle_26 rfl rfl ?_
    refine zV_sipush (z := 250) O ⟨by omega, by omega⟩ rfl dX7_settle_27 ?_
    refine zV_icmp_gt (tgt := 148) O dX7_settle_30 (by decide) (fun hc => ?_) (fun hc => ?_)
    · replace hM := hM.1 hc
      refine zV_iload_n O dX7_settle_148 rfl rfl ?_
      exact zV_iret O rfl ⟨_, rfl, hM⟩ (Nat.le_of_ble_eq_true rfl) (Nat.le_of_ble_eq_true rfl) dX7_settle_149
    · replace hM := hM.2 hc
      refine zV_aload_n O dX7_settle_33 rfl rfl ?_
      refine zV_getR O zf_RX7_32 zt_169 rfl (by decide) dX7_settle_34 ?_
      refine zV_iload_n O dX7_settle_37 rfl rfl ?_
      refine zV_callV (as := [aI v2]) (st := []) O zc_X5_isClash (Or.inr ⟨_, zl_RX7_263⟩) zi_574 zi_17 zt_172 rfl rfl (by decide) (Nat.le_of_ble_eq_true rfl) rfl rfl (Nat.le_of_ble_eq_true rfl) (Nat.le_of_ble_eq_true rfl) (Nat.le_of_ble_eq_true rfl) (Nat.le_of_ble_eq_true rfl) (Nat.le_of_ble_eq_true rfl) (Nat.le_of_ble_eq_true rfl) dX7_settle_38 (sX5_isClash hM) (fun r h9 hq => ?_) (fun x h9 hq => hq.elim)
      obtain ⟨rfl, z25, rfl, hzz25, hM⟩ := hq
      refine zV_if_eq (tgt := 55) O dX7_settle_41 (by decide) (fun hc => ?_) (fun hc => ?_)
      · replace hM := hM.1 hc
        refine zV_iconst (z := -1) O ⟨by omega, by omega⟩ dX7_settle_55 ?_
        exact sX7_settle_b56 O hK26 hM
      · replace hM := hM.2 hc
        refine zV_aload_n O dX7_settle_44 rfl rfl ?_
        refine zV_getR O zf_RX7_10 zt_169 rfl (by decide) dX7_settle_45 ?_
        refine zV_iload_n O dX7_settle_48 rfl rfl ?_
        refine zV_callV (as := [aI v2]) (st := []) O zc_X3_chosenToMove (Or.inr ⟨_, zl_RX7_266⟩) zi_644 zi_26 (zN_o zisN_0) rfl rfl (zN_lt0 zisN_0) (Nat.le_of_ble_eq_true rfl) rfl rfl (Nat.le_of_ble_eq_true rfl) (Nat.le_of_ble_eq_true rfl) (Nat.le_of_ble_eq_true rfl) (Nat.le_of_ble_eq_true rfl) (Nat.le_of_ble_eq_true rfl) (Nat.le_of_ble_eq_true rfl) dX7_settle_49 (sX3_chosenToMove zisN_0 hM) (fun r h9 hq => ?_) (fun x h9 hq => hq.elim)
        obtain ⟨rfl, z26, rfl, hM⟩ := hq
        refine zV_goto (tgt := 56) O dX7_settle_52 (by decide) ?_
        exact sX7_settle_b56 O hK26 hM
def mX7_settle  (h : Hp) (Q : Int → Hp → Prop) : Prop := (mX0_add 0 h (fun h27 => (mX5_count 0 h27 (fun h28 => (∃ ff, mX7_settle_b26 Q ff 0 1 h28)))))
set_option maxHeartbeats 4000000 in
set_option maxRecDepth 100000 in
theorem sX7_settle {l0 : Launch}  {h : Hp} {Q : Int → Hp → Prop}  (hM : mX7_settle  h Q) : zSp l0 yX7_settle cX7_settle 6 (some .int) 185 (6) 0 0 [aR 169] h (qI Q) xN := by
  unfold mX7_settle at hM
  refine zSp_intro zpn_RX7 (Nat.le_of_ble_eq_true rfl) (fun a O => ?_)
  show zV a (6, 0, 0, (qI Q), xN) 0 0 0 [some (aR 169), none, none, none, none, none] [] h
  refine zV_aload_n O dX7_settle_0 rfl rfl ?_
  refine zV_getR O zf_RX7_25 zt_169 rfl (by decide) dX7_settle_1 ?_
  refine zV_aload_n O dX7_settle_4 rfl rfl ?_
  refine zV_getR O zf_RX7_10 zt_169 rfl (by decide) dX7_settle_5 ?_
  refine zV_callV (as := [aR 0]) (st := []) O zc_X0_add (Or.inr ⟨_, zl_RX7_249⟩) zi_637 zi_25 zt_170 rfl rfl (by decide) (Nat.le_of_ble_eq_true rfl) rfl rfl (Nat.le_of_ble_eq_true rfl) (Nat.le_of_ble_eq_true rfl) (Nat.le_of_ble_eq_true rfl) (Nat.le_of_ble_eq_true rfl) (Nat.le_of_ble_eq_true rfl) (Nat.le_of_ble_eq_true rfl) dX7_settle_8 (sX0_add zisN_0 hM) (fun r h27 hq => ?_) (fun x h9 hq => hq.elim)
  obtain ⟨rfl, hM⟩ := hq
  refine zV_aload_n O dX7_settle_11 rfl rfl ?_
  refine zV_getR O zf_RX7_32 zt_169 rfl (by decide) dX7_settle_12 ?_
  refine zV_aload_n O dX7_settle_15 rfl rfl ?_
  refine zV_getR O zf_RX7_10 zt_169 rfl (by decide) dX7_settle_16 ?_
  refine zV_callV (as := [aR 0]) (st := []) O zc_X5_count (Or.inr ⟨_, zl_RX7_185⟩) zi_498 zi_2 zt_172 rfl rfl (by decide) (Nat.le_of_ble_eq_true rfl) rfl rfl (Nat.le_of_ble_eq_true rfl) (Nat.le_of_ble_eq_true rfl) (Nat.le_of_ble_eq_true rfl) (Nat.le_of_ble_eq_true rfl) (Nat.le_of_ble_eq_true rfl) (Nat.le_of_ble_eq_true rfl) dX7_settle_19 (sX5_count zisN_0 hM) (fun r h28 hq => ?_) (fun x h9 hq => hq.elim)
  obtain ⟨rfl, hM⟩ := hq
  refine zV_iconst (z := 0) O ⟨by omega, by omega⟩ dX7_settle_22 ?_
  refine zV_istore_n O dX7_settle_23 rfl (Nat.le_of_ble_eq_true rfl) rfl ?_
  refine zV_iconst (z := 1) O ⟨by omega, by omega⟩ dX7_settle_24 ?_
  refine zV_istore_n O dX7_settle_25 rfl (Nat.le_of_ble_eq_true rfl) rfl ?_
  obtain ⟨ff, hM⟩ := hM
  exact sX7_settle_b26 O ff _ _ _ hM
def mX7_undo  (h : Hp) (Q : Int → Hp → Prop) : Prop := ((¬ (h 170 2) = 0 → (mX0_takeNewest 0 h (fun h2 => (Q (h2 170 2) h2)))) ∧ ((h 170 2) = 0 → (Q (-1) h)))
set_option maxHeartbeats 4000000 in
set_option maxRecDepth 100000 in
theorem sX7_undo {l0 : Launch}  {h : Hp} {Q : Int → Hp → Prop}  (hM : mX7_undo  h Q) : zSp l0 yX7_undo cX7_undo 1 (some .int) 185 (6) 0 0 [aR 169] h (qI Q) xN := by
  unfold mX7_undo at hM
  refine zSp_intro zpn_RX7 (Nat.le_of_ble_eq_true rfl) (fun a O => ?_)
  show zV a (6, 0, 0, (qI Q), xN) 0 0 0 [some (aR 169)] [] h
  refine zV_aload_n O dX7_undo_0 rfl rfl ?_
  refine zV_getR O zf_RX7_25 zt_169 rfl (by decide) dX7_undo_1 ?_
  refine zV_getI O zf_RX7_311 zt_170 rfl (by decide) dX7_undo_4 ?_
  refine zV_if_ne (tgt := 12) O dX7_undo_7 (by decide) (fun hc => ?_) (fun hc => ?_)
  · replace hM := hM.1 hc
    refine zV_aload_n O dX7_undo_12 rfl rfl ?_
    refine zV_getR O zf_RX7_25 zt_169 rfl (by decide) dX7_undo_13 ?_
    refine zV_aload_n O dX7_undo_16 rfl rfl ?_
    refine zV_getR O zf_RX7_10 zt_169 rfl (by decide) dX7_undo_17 ?_
    refine zV_callV (as := [aR 0]) (st := []) O zc_X0_takeNewest (Or.inr ⟨_, zl_RX7_313⟩) zi_717 zi_37 zt_170 rfl rfl (by decide) (Nat.le_of_ble_eq_true rfl) rfl rfl (Nat.le_of_ble_eq_true rfl) (Nat.le_of_ble_eq_true rfl) (Nat.le_of_ble_eq_true rfl) (Nat.le_of_ble_eq_true rfl) (Nat.le_of_ble_eq_true rfl) (Nat.le_of_ble_eq_true rfl) dX7_undo_20 (sX0_takeNewest zisN_0 hM) (fun r h2 hq => ?_) (fun x h9 hq => hq.elim)
    obtain ⟨rfl, hM⟩ := hq
    refine zV_aload_n O dX7_undo_23 rfl rfl ?_
    refine zV_getR O zf_RX7_25 zt_169 rfl (by decide) dX7_undo_24 ?_
    refine zV_getI O zf_RX7_311 zt_170 rfl (by decide) dX7_undo_27 ?_
    exact zV_iret O rfl ⟨_, rfl, hM⟩ (Nat.le_of_ble_eq_true rfl) (Nat.le_of_ble_eq_true rfl) dX7_undo_30
  · replace hM := hM.2 hc
    refine zV_iconst (z := -1) O ⟨by omega, by omega⟩ dX7_undo_10 ?_
    exact zV_iret O rfl ⟨_, rfl, hM⟩ (Nat.le_of_ble_eq_true rfl) (Nat.le_of_ble_eq_true rfl) dX7_undo_11
def mX7_whyNot  (h : Hp) (Q : Int → Hp → Prop) : Prop := (mX3_copyFrom 13 0 h (fun h4 => (mX7_tryWave h4 (fun z5 h6 => (Q (min 0 z5) h6)))))
set_option maxHeartbeats 4000000 in
set_option maxRecDepth 100000 in
theorem sX7_whyNot {l0 : Launch}  {h : Hp} {Q : Int → Hp → Prop}  (hM : mX7_whyNot  h Q) : zSp l0 yX7_whyNot cX7_whyNot 1 (some .int) 185 (6) 0 0 [aR 169] h (qI Q) xN := by
  unfold mX7_whyNot at hM
  refine zSp_intro zpn_RX7 (Nat.le_of_ble_eq_true rfl) (fun a O => ?_)
  show zV a (6, 0, 0, (qI Q), xN) 0 0 0 [some (aR 169)] [] h
  refine zV_aload_n O dX7_whyNot_0 rfl rfl ?_
  refine zV_getR O zf_RX7_16 zt_169 rfl (by decide) dX7_whyNot_1 ?_
  refine zV_aload_n O dX7_whyNot_4 rfl rfl ?_
  refine zV_getR O zf_RX7_10 zt_169 rfl (by decide) dX7_whyNot_5 ?_
  refine zV_callV (as := [aR 0]) (st := []) O zc_X3_copyFrom (Or.inr ⟨_, zl_RX7_95⟩) zi_531 zi_7 (zN_o zisN_13) rfl rfl (zN_lt0 zisN_13) (Nat.le_of_ble_eq_true rfl) rfl rfl (Nat.le_of_ble_eq_true rfl) (Nat.le_of_ble_eq_true rfl) (Nat.le_of_ble_eq_true rfl) (Nat.le_of_ble_eq_true rfl) (Nat.le_of_ble_eq_true rfl) (Nat.le_of_ble_eq_true rfl) dX7_whyNot_8 (sX3_copyFrom zisN_13 zisN_0 hM) (fun r h4 hq => ?_) (fun x h9 hq => hq.elim)
  obtain ⟨rfl, hM⟩ := hq
  refine zV_iconst (z := 0) O ⟨by omega, by omega⟩ dX7_whyNot_11 ?_
  refine zV_aload_n O dX7_whyNot_12 rfl rfl ?_
  refine zV_callV (as := []) (st := [aI 0]) O zc_X7_tryWave (Or.inl zl_RX7_226) zi_538 zi_8 zt_169 rfl rfl (by decide) (Nat.le_of_ble_eq_true rfl) rfl rfl (Nat.le_of_ble_eq_true rfl) (Nat.le_of_ble_eq_true rfl) (Nat.le_of_ble_eq_true rfl) (Nat.le_of_ble_eq_true rfl) (Nat.le_of_ble_eq_true rfl) (Nat.le_of_ble_eq_true rfl) dX7_whyNot_13 (sX7_tryWave hM) (fun r h6 hq => ?_) (fun x h9 hq => hq.elim)
  obtain ⟨z5, rfl, hM⟩ := hq
  refine zV_min O zi_576 zi_577 zi_180 zi_578 (Nat.le_of_ble_eq_true rfl) (Nat.le_of_ble_eq_true rfl) (Nat.le_of_ble_eq_true rfl) (Nat.le_of_ble_eq_true rfl) dX7_whyNot_16 ?_
  exact zV_iret O rfl ⟨_, rfl, hM⟩ (Nat.le_of_ble_eq_true rfl) (Nat.le_of_ble_eq_true rfl) dX7_whyNot_19
def mX7_back  (h : Hp) (Q : Int → Hp → Prop) : Prop := ((¬ (h 0 2) = 0 → (mX3_copyFrom 13 0 h (fun h6 => (mX3_undoWave 13 h6 (fun h7 => (mX7_heldTwice 13 h7 (fun z8 h9 => ((z8 = 0 → (mX7_adoptTrial h9 (fun h10 => (Q (h10 0 2) h10)))) ∧ (¬ z8 = 0 → (Q (-3) h9)))))))))) ∧ ((h 0 2) = 0 → (Q (-2) h)))
set_option maxHeartbeats 4000000 in
set_option maxRecDepth 100000 in
theorem sX7_back {l0 : Launch}  {h : Hp} {Q : Int → Hp → Prop}  (hM : mX7_back  h Q) : zSp l0 yX7_back cX7_back 1 (some .int) 185 (7) 0 0 [aR 169] h (qI Q) xN := by
  unfold mX7_back at hM
  refine zSp_intro zpn_RX7 (Nat.le_of_ble_eq_true rfl) (fun a O => ?_)
  show zV a (7, 0, 0, (qI Q), xN) 0 0 0 [some (aR 169)] [] h
  refine zV_aload_n O dX7_back_0 rfl rfl ?_
  refine zV_getR O zf_RX7_10 zt_169 rfl (by decide) dX7_back_1 ?_
  refine zV_getI O zf_RX7_113 (zN_o zisN_0) rfl (zN_lt0 zisN_0) dX7_back_4 ?_
  refine zV_if_ne (tgt := 13) O dX7_back_7 (by decide) (fun hc => ?_) (fun hc => ?_)
  · replace hM := hM.1 hc
    refine zV_aload_n O dX7_back_13 rfl rfl ?_
    refine zV_getR O zf_RX7_16 zt_169 rfl (by decide) dX7_back_14 ?_
    refine zV_aload_n O dX7_back_17 rfl rfl ?_
    refine zV_getR O zf_RX7_10 zt_169 rfl (by decide) dX7_back_18 ?_
    refine zV_callV (as := [aR 0]) (st := []) O zc_X3_copyFrom (Or.inr ⟨_, zl_RX7_95⟩) zi_531 zi_7 (zN_o zisN_13) rfl rfl (zN_lt0 zisN_13) (Nat.le_of_ble_eq_true rfl) rfl rfl (Nat.le_of_ble_eq_true rfl) (Nat.le_of_ble_eq_true rfl) (Nat.le_of_ble_eq_true rfl) (Nat.le_of_ble_eq_true rfl) (Nat.le_of_ble_eq_true rfl) (Nat.le_of_ble_eq_true rfl) dX7_back_21 (sX3_copyFrom zisN_13 zisN_0 hM) (fun r h6 hq => ?_) (fun x h9 hq => hq.elim)
    obtain ⟨rfl, hM⟩ := hq
    refine zV_aload_n O dX7_back_24 rfl rfl ?_
    refine zV_getR O zf_RX7_16 zt_169 rfl (by decide) dX7_back_25 ?_
    refine zV_callV (as := []) (st := []) O zc_X3_undoWave (Or.inr ⟨_, zl_RX7_278⟩) zi_677 zi_32 (zN_o zisN_13) rfl rfl (zN_lt0 zisN_13) (Nat.le_of_ble_eq_true rfl) rfl rfl (Nat.le_of_ble_eq_true rfl) (Nat.le_of_ble_eq_true rfl) (Nat.le_of_ble_eq_true rfl) (Nat.le_of_ble_eq_true rfl) (Nat.le_of_ble_eq_true rfl) (Nat.le_of_ble_eq_true rfl) dX7_back_28 (sX3_undoWave zisN_13 hM) (fun r h7 hq => ?_) (fun x h9 hq => hq.elim)
    obtain ⟨rfl, hM⟩ := hq
    refine zV_aload_n O dX7_back_31 rfl rfl ?_
    refine zV_aload_n O dX7_back_32 rfl rfl ?_
    refine zV_getR O zf_RX7_16 zt_169 rfl (by decide) dX7_back_33 ?_
    refine zV_callV (as := [aR 13]) (st := []) O zc_X7_heldTwice (Or.inl zl_RX7_237) zi_566 zi_15 zt_169 rfl rfl (by decide) (Nat.le_of_ble_eq_true rfl) rfl rfl (Nat.le_of_ble_eq_true rfl) (Nat.le_of_ble_eq_true rfl) (Nat.le_of_ble_eq_true rfl) (Nat.le_of_ble_eq_true rfl) (Nat.le_of_ble_eq_true rfl) (Nat.le_of_ble_eq_true rfl) dX7_back_36 (sX7_heldTwice zisN_13 hM) (fun r h9 hq => ?_) (fun x h9 hq => hq.elim)
    obtain ⟨z8, rfl, hM⟩ := hq
    refine zV_if_eq (tgt := 45) O dX7_back_39 (by decide) (fun hc => ?_) (fun hc => ?_)
    · replace hM := hM.1 hc
      refine zV_aload_n O dX7_back_45 rfl rfl ?_
      refine zV_callV (as := []) (st := []) O zc_X7_adoptTrial (Or.inl zl_RX7_275) zi_669 zi_31 zt_169 rfl rfl (by decide) (Nat.le_of_ble_eq_true rfl) rfl rfl (Nat.le_of_ble_eq_true rfl) (Nat.le_of_ble_eq_true rfl) (Nat.le_of_ble_eq_true rfl) (Nat.le_of_ble_eq_true rfl) (Nat.le_of_ble_eq_true rfl) (Nat.le_of_ble_eq_true rfl) dX7_back_46 (sX7_adoptTrial hM) (fun r h10 hq => ?_) (fun x h9 hq => hq.elim)
      obtain ⟨rfl, hM⟩ := hq
      refine zV_aload_n O dX7_back_49 rfl rfl ?_
      refine zV_getR O zf_RX7_10 zt_169 rfl (by decide) dX7_back_50 ?_
      refine zV_getI O zf_RX7_113 (zN_o zisN_0) rfl (zN_lt0 zisN_0) dX7_back_53 ?_
      exact zV_iret O rfl ⟨_, rfl, hM⟩ (Nat.le_of_ble_eq_true rfl) (Nat.le_of_ble_eq_true rfl) dX7_back_56
    · replace hM := hM.2 hc
      refine zV_bipush (z := -3) O ⟨by omega, by omega⟩ rfl dX7_back_42 ?_
      exact zV_iret O rfl ⟨_, rfl, hM⟩ (Nat.le_of_ble_eq_true rfl) (Nat.le_of_ble_eq_true rfl) dX7_back_44
  · replace hM := hM.2 hc
    refine zV_bipush (z := -2) O ⟨by omega, by omega⟩ rfl dX7_back_10 ?_
    exact zV_iret O rfl ⟨_, rfl, hM⟩ (Nat.le_of_ble_eq_true rfl) (Nat.le_of_ble_eq_true rfl) dX7_back_12
def mX7_wave  (h : Hp) (Q : Int → Hp → Prop) : Prop := (mX3_copyFrom 13 0 h (fun h5 => (mX7_tryWave h5 (fun z6 h7 => ((z6 < 0 → (Q z6 h7)) ∧ (¬ z6 < 0 → (mX7_adoptTrial h7 (fun h8 => (Q z6 h8)))))))))
set_option maxHeartbeats 4000000 in
set_option maxRecDepth 100000 in
theorem sX7_wave {l0 : Launch}  {h : Hp} {Q : Int → Hp → Prop}  (hM : mX7_wave  h Q) : zSp l0 yX7_wave cX7_wave 2 (some .int) 185 (7) 0 0 [aR 169] h (qI Q) xN := by
  unfold mX7_wave at hM
  refine zSp_intro zpn_RX7 (Nat.le_of_ble_eq_true rfl) (fun a O => ?_)
  show zV a (7, 0, 0, (qI Q), xN) 0 0 0 [some (aR 169), none] [] h
  refine zV_aload_n O dX7_wave_0 rfl rfl ?_
  refine zV_getR O zf_RX7_16 zt_169 rfl (by decide) dX7_wave_1 ?_
  refine zV_aload_n O dX7_wave_4 rfl rfl ?_
  refine zV_getR O zf_RX7_10 zt_169 rfl (by decide) dX7_wave_5 ?_
  refine zV_callV (as := [aR 0]) (st := []) O zc_X3_copyFrom (Or.inr ⟨_, zl_RX7_95⟩) zi_531 zi_7 (zN_o zisN_13) rfl rfl (zN_lt0 zisN_13) (Nat.le_of_ble_eq_true rfl) rfl rfl (Nat.le_of_ble_eq_true rfl) (Nat.le_of_ble_eq_true rfl) (Nat.le_of_ble_eq_true rfl) (Nat.le_of_ble_eq_true rfl) (Nat.le_of_ble_eq_true rfl) (Nat.le_of_ble_eq_true rfl) dX7_wave_8 (sX3_copyFrom zisN_13 zisN_0 hM) (fun r h5 hq => ?_) (fun x h9 hq => hq.elim)
  obtain ⟨rfl, hM⟩ := hq
  refine zV_aload_n O dX7_wave_11 rfl rfl ?_
  refine zV_callV (as := []) (st := []) O zc_X7_tryWave (Or.inl zl_RX7_226) zi_538 zi_8 zt_169 rfl rfl (by decide) (Nat.le_of_ble_eq_true rfl) rfl rfl (Nat.le_of_ble_eq_true rfl) (Nat.le_of_ble_eq_true rfl) (Nat.le_of_ble_eq_true rfl) (Nat.le_of_ble_eq_true rfl) (Nat.le_of_ble_eq_true rfl) (Nat.le_of_ble_eq_true rfl) dX7_wave_12 (sX7_tryWave hM) (fun r h7 hq => ?_) (fun x h9 hq => hq.elim)
  obtain ⟨z6, rfl, hM⟩ := hq
  refine zV_istore_n O dX7_wave_15 rfl (Nat.le_of_ble_eq_true rfl) rfl ?_
  refine zV_iload_n O dX7_wave_16 rfl rfl ?_
  refine zV_if_lt (tgt := 24) O dX7_wave_17 (by decide) (fun hc => ?_) (fun hc => ?_)
  · replace hM := hM.1 hc
    refine zV_iload_n O dX7_wave_24 rfl rfl ?_
    exact zV_iret O rfl ⟨_, rfl, hM⟩ (Nat.le_of_ble_eq_true rfl) (Nat.le_of_ble_eq_true rfl) dX7_wave_25
  · replace hM := hM.2 hc
    refine zV_aload_n O dX7_wave_20 rfl rfl ?_
    refine zV_callV (as := []) (st := []) O zc_X7_adoptTrial (Or.inl zl_RX7_275) zi_669 zi_31 zt_169 rfl rfl (by decide) (Nat.le_of_ble_eq_true rfl) rfl rfl (Nat.le_of_ble_eq_true rfl) (Nat.le_of_ble_eq_true rfl) (Nat.le_of_ble_eq_true rfl) (Nat.le_of_ble_eq_true rfl) (Nat.le_of_ble_eq_true rfl) (Nat.le_of_ble_eq_true rfl) dX7_wave_21 (sX7_adoptTrial hM) (fun r h8 hq => ?_) (fun x h9 hq => hq.elim)
    obtain ⟨rfl, hM⟩ := hq
    refine zV_iload_n O dX7_wave_24 rfl rfl ?_
    exact zV_iret O rfl ⟨_, rfl, hM⟩ (Nat.le_of_ble_eq_true rfl) (Nat.le_of_ble_eq_true rfl) dX7_wave_25
def mX7_clash (x1 : Int) (h : Hp) (Q : Int → Hp → Prop) (QX : Nat → Hp → Prop) : Prop := (mX5_count 0 h (fun h3 => (mX5_clashAt x1 h3 (fun z4 => ((¬ z4 = 0 → (Q z4 h3)) ∧ (z4 = 0 → (QX 1 h3)))))))
set_option maxHeartbeats 4000000 in
set_option maxRecDepth 100000 in
theorem sX7_clash {l0 : Launch} {x1 : Int} {h : Hp} {Q : Int → Hp → Prop} {QX : Nat → Hp → Prop}  (hM : mX7_clash x1 h Q QX) : zSp l0 yX7_clash cX7_clash 3 (some .int) 185 (8) 1 6 [aR 169, aI x1] h (qI Q) QX := by
  unfold mX7_clash at hM
  refine zSp_intro zpn_RX7 (Nat.le_of_ble_eq_true rfl) (fun a O => ?_)
  show zV a (8, 1, 6, (qI Q), QX) 0 0 0 [some (aR 169), some (aI x1), none] [] h
  refine zV_aload_n O dX7_clash_0 rfl rfl ?_
  refine zV_getR O zf_RX7_32 zt_169 rfl (by decide) dX7_clash_1 ?_
  refine zV_aload_n O dX7_clash_4 rfl rfl ?_
  refine zV_getR O zf_RX7_10 zt_169 rfl (by decide) dX7_clash_5 ?_
  refine zV_callV (as := [aR 0]) (st := []) O zc_X5_count (Or.inr ⟨_, zl_RX7_185⟩) zi_498 zi_2 zt_172 rfl rfl (by decide) (Nat.le_of_ble_eq_true rfl) rfl rfl (Nat.le_of_ble_eq_true rfl) (Nat.le_of_ble_eq_true rfl) (Nat.le_of_ble_eq_true rfl) (Nat.le_of_ble_eq_true rfl) (Nat.le_of_ble_eq_true rfl) (Nat.le_of_ble_eq_true rfl) dX7_clash_8 (sX5_count zisN_0 hM) (fun r h3 hq => ?_) (fun x h9 hq => hq.elim)
  obtain ⟨rfl, hM⟩ := hq
  refine zV_aload_n O dX7_clash_11 rfl rfl ?_
  refine zV_getR O zf_RX7_32 zt_169 rfl (by decide) dX7_clash_12 ?_
  refine zV_iload_n O dX7_clash_15 rfl rfl ?_
  refine zV_callV (as := [aI x1]) (st := []) O zc_X5_clashAt (Or.inr ⟨_, zl_RX7_188⟩) zi_1044 zi_67 zt_172 rfl rfl (by decide) (Nat.le_of_ble_eq_true rfl) rfl rfl (Nat.le_of_ble_eq_true rfl) (Nat.le_of_ble_eq_true rfl) (Nat.le_of_ble_eq_true rfl) (Nat.le_of_ble_eq_true rfl) (Nat.le_of_ble_eq_true rfl) (Nat.le_of_ble_eq_true rfl) dX7_clash_16 (sX5_clashAt hM) (fun r h9 hq => ?_) (fun x h9 hq => hq.elim)
  obtain ⟨rfl, z4, rfl, hM⟩ := hq
  refine zV_istore_n O dX7_clash_19 rfl (Nat.le_of_ble_eq_true rfl) rfl ?_
  refine zV_iload_n O dX7_clash_20 rfl rfl ?_
  refine zV_if_ne (tgt := 32) O dX7_clash_21 (by decide) (fun hc => ?_) (fun hc => ?_)
  · replace hM := hM.1 hc
    refine zV_iload_n O dX7_clash_32 rfl rfl ?_
    exact zV_iret O rfl ⟨_, rfl, hM⟩ (Nat.le_of_ble_eq_true rfl) (Nat.le_of_ble_eq_true rfl) dX7_clash_33
  · replace hM := hM.2 hc
    exact zV_throw (x := 1) O (by decide) (by decide) zth_RX7_138.1 zth_RX7_138.2.1 zth_RX7_138.2.2.1 zth_RX7_138.2.2.2 dX7_clash_24 dX7_clash_27 dX7_clash_28 dX7_clash_31 (Nat.le_of_ble_eq_true rfl) (Nat.le_of_ble_eq_true rfl) hM (Nat.le_of_ble_eq_true rfl) (Nat.le_of_ble_eq_true rfl)
def mX7_clashesIn_b31 (Q : Int → Hp → Prop) (QX : Nat → Hp → Prop) : Nat → Int → Int → Hp → Prop
  | 0 => fun _ _ _ => False
  | fu31 + 1 => fun v1 v2 h => ((v1 ≤ v2 → (mX7_clashCount 13 h (fun z14 h15 => (Q z14 h15)))) ∧ (¬ v1 ≤ v2 → (mX7_tryWave h (fun z16 h17 => ((0 ≤ z16 → (zr (v2 + 1) ∧ ((mX7_clashesIn_b31 Q QX fu31) v1 (v2 + 1) h17))) ∧ (¬ 0 ≤ z16 → (Q (-1) h17)))))))
set_option maxHeartbeats 4000000 in
set_option maxRecDepth 100000 in
theorem sX7_clashesIn_b31 {l0 : Launch} {a : ZC}  {Q : Int → Hp → Prop} {QX : Nat → Hp → Prop}  (O : zOk l0 a cX7_clashesIn RX7 3 (some .int) 185 [])   : ∀ (ff : Nat) (v1 : Int) (v2 : Int) (h : Hp), mX7_clashesIn_b31 Q QX ff v1 v2 h → zV a (8, 1, 6, (qI Q), QX) 0 0 31 [some (aR 169), some (aI v1), some (aI v2)] [] h := by
  intro ff
  induction ff with
  | zero => intro v1 v2 h hM; exact hM.elim
  | succ ff ih =>
    have hK31 := ih
    intro v1 v2 h hM
    unfold mX7_clashesIn_b31 at hM
    refine zV_iload_n O dX7_clashesIn_31 rfl rfl ?_
    refine zV_iload_n O dX7_clashesIn_32 rfl rfl ?_
    refine zV_icmp_ge (tgt := 51) O dX7_clashesIn_33 (by decide) (fun hc => ?_) (fun hc => ?_)
    · replace hM := hM.1 hc
      refine zV_aload_n O dX7_clashesIn_51 rfl rfl ?_
      refine zV_aload_n O dX7_clashesIn_52 rfl rfl ?_
      refine zV_getR O zf_RX7_16 zt_169 rfl (by decide) dX7_clashesIn_53 ?_
      refine zV_callV (as := [aR 13]) (st := []) O zc_X7_clashCount (Or.inl zl_RX7_131) zi_597 zi_19 zt_169 rfl rfl (by decide) (Nat.le_of_ble_eq_true rfl) rfl rfl (Nat.le_of_ble_eq_true rfl) (Nat.le_of_ble_eq_true rfl) (Nat.le_of_ble_eq_true rfl) (Nat.le_of_ble_eq_true rfl) (Nat.le_of_ble_eq_true rfl) (Nat.le_of_ble_eq_true rfl) dX7_clashesIn_56 (sX7_clashCount zisN_13 hM) (fun r h15 hq => ?_) (fun x h9 hq => hq.elim)
      obtain ⟨z14, rfl, hM⟩ := hq
      exact zV_iret O rfl ⟨_, rfl, hM⟩ (Nat.le_of_ble_eq_true rfl) (Nat.le_of_ble_eq_true rfl) dX7_clashesIn_59
    · replace hM := hM.2 hc
      refine zV_aload_n O dX7_clashesIn_36 rfl rfl ?_
      refine zV_callV (as := []) (st := []) O zc_X7_tryWave (Or.inl zl_RX7_226) zi_538 zi_8 zt_169 rfl rfl (by decide) (Nat.le_of_ble_eq_true rfl) rfl rfl (Nat.le_of_ble_eq_true rfl) (Nat.le_of_ble_eq_true rfl) (Nat.le_of_ble_eq_true rfl) (Nat.le_of_ble_eq_true rfl) (Nat.le_of_ble_eq_true rfl) (Nat.le_of_ble_eq_true rfl) dX7_clashesIn_37 (sX7_tryWave hM) (fun r h17 hq => ?_) (fun x h9 hq => hq.elim)
      obtain ⟨z16, rfl, hM⟩ := hq
      refine zV_if_ge (tgt := 45) O dX7_clashesIn_40 (by decide) (fun hc => ?_) (fun hc => ?_)
      · replace hM := hM.1 hc
        obtain ⟨hc, hM⟩ := hM
        refine zV_iinc O dX7_clashesIn_45 rfl (Nat.le_of_ble_eq_true rfl) rfl hc ?_
        refine zV_goto (tgt := 31) O dX7_clashesIn_48 (by decide) ?_
        exact hK31 _ _ _ hM
      · replace hM := hM.2 hc
        refine zV_iconst (z := -1) O ⟨by omega, by omega⟩ dX7_clashesIn_43 ?_
        exact zV_iret O rfl ⟨_, rfl, hM⟩ (Nat.le_of_ble_eq_true rfl) (Nat.le_of_ble_eq_true rfl) dX7_clashesIn_44
def mX7_clashesIn (x1 : Int) (h : Hp) (Q : Int → Hp → Prop) (QX : Nat → Hp → Prop) : Prop := ((x1 < 0 → (QX 0 h)) ∧ (¬ x1 < 0 → ((x1 ≤ (9 : Int) → (mX3_copyFrom 13 0 h (fun h18 => (∃ ff, mX7_clashesIn_b31 Q QX ff x1 0 h18)))) ∧ (¬ x1 ≤ (9 : Int) → (QX 0 h)))))
set_option maxHeartbeats 4000000 in
set_option maxRecDepth 100000 in
theorem sX7_clashesIn {l0 : Launch} {x1 : Int} {h : Hp} {Q : Int → Hp → Prop} {QX : Nat → Hp → Prop}  (hM : mX7_clashesIn x1 h Q QX) : zSp l0 yX7_clashesIn cX7_clashesIn 3 (some .int) 185 (8) 1 6 [aR 169, aI x1] h (qI Q) QX := by
  unfold mX7_clashesIn at hM
  refine zSp_intro zpn_RX7 (Nat.le_of_ble_eq_true rfl) (fun a O => ?_)
  show zV a (8, 1, 6, (qI Q), QX) 0 0 0 [some (aR 169), some (aI x1), none] [] h
  refine zV_iload_n O dX7_clashesIn_0 rfl rfl ?_
  refine zV_if_lt (tgt := 10) O dX7_clashesIn_1 (by decide) (fun hc => ?_) (fun hc => ?_)
  · replace hM := hM.1 hc
    exact zV_throw (x := 0) O (by decide) (by decide) zth_RX7_82.1 zth_RX7_82.2.1 zth_RX7_82.2.2.1 zth_RX7_82.2.2.2 dX7_clashesIn_10 dX7_clashesIn_13 dX7_clashesIn_14 dX7_clashesIn_17 (Nat.le_of_ble_eq_true rfl) (Nat.le_of_ble_eq_true rfl) hM (Nat.le_of_ble_eq_true rfl) (Nat.le_of_ble_eq_true rfl)
  · replace hM := hM.2 hc
    refine zV_iload_n O dX7_clashesIn_4 rfl rfl ?_
    refine zV_bipush (z := 9) O ⟨by omega, by omega⟩ rfl dX7_clashesIn_5 ?_
    refine zV_icmp_le (tgt := 18) O dX7_clashesIn_7 (by decide) (fun hc => ?_) (fun hc => ?_)
    · replace hM := hM.1 hc
      refine zV_aload_n O dX7_clashesIn_18 rfl rfl ?_
      refine zV_getR O zf_RX7_16 zt_169 rfl (by decide) dX7_clashesIn_19 ?_
      refine zV_aload_n O dX7_clashesIn_22 rfl rfl ?_
      refine zV_getR O zf_RX7_10 zt_169 rfl (by decide) dX7_clashesIn_23 ?_
      refine zV_callV (as := [aR 0]) (st := []) O zc_X3_copyFrom (Or.inr ⟨_, zl_RX7_95⟩) zi_531 zi_7 (zN_o zisN_13) rfl rfl (zN_lt0 zisN_13) (Nat.le_of_ble_eq_true rfl) rfl rfl (Nat.le_of_ble_eq_true rfl) (Nat.le_of_ble_eq_true rfl) (Nat.le_of_ble_eq_true rfl) (Nat.le_of_ble_eq_true rfl) (Nat.le_of_ble_eq_true rfl) (Nat.le_of_ble_eq_true rfl) dX7_clashesIn_26 (sX3_copyFrom zisN_13 zisN_0 hM) (fun r h18 hq => ?_) (fun x h9 hq => hq.elim)
      obtain ⟨rfl, hM⟩ := hq
      refine zV_iconst (z := 0) O ⟨by omega, by omega⟩ dX7_clashesIn_29 ?_
      refine zV_istore_n O dX7_clashesIn_30 rfl (Nat.le_of_ble_eq_true rfl) rfl ?_
      obtain ⟨ff, hM⟩ := hM
      exact sX7_clashesIn_b31 O ff _ _ _ hM
    · replace hM := hM.2 hc
      exact zV_throw (x := 0) O (by decide) (by decide) zth_RX7_82.1 zth_RX7_82.2.1 zth_RX7_82.2.2.1 zth_RX7_82.2.2.2 dX7_clashesIn_10 dX7_clashesIn_13 dX7_clashesIn_14 dX7_clashesIn_17 (Nat.le_of_ble_eq_true rfl) (Nat.le_of_ble_eq_true rfl) hM (Nat.le_of_ble_eq_true rfl) (Nat.le_of_ble_eq_true rfl)
def mX7_needHost (x1 : Int) (h : Hp) (Q : Prop) (QX : Nat → Prop) : Prop := ((x1 < 0 → (QX 1)) ∧ (¬ x1 < 0 → ((x1 < (h 0 0) → Q) ∧ (¬ x1 < (h 0 0) → (QX 1)))))
set_option maxHeartbeats 4000000 in
set_option maxRecDepth 100000 in
theorem sX7_needHost {l0 : Launch} {x1 : Int} {h : Hp} {Q : Prop} {QX : Nat → Prop}  (hM : mX7_needHost x1 h Q QX) : zSp l0 yX7_needHost cX7_needHost 2 none 185 (8) 1 6 [aR 169, aI x1] h (qPV h Q) (xP h QX) := by
  unfold mX7_needHost at hM
  refine zSp_intro zpn_RX7 (Nat.le_of_ble_eq_true rfl) (fun a O => ?_)
  show zV a (8, 1, 6, (qPV h Q), (xP h QX)) 0 0 0 [some (aR 169), some (aI x1)] [] h
  refine zV_iload_n O dX7_needHost_0 rfl rfl ?_
  refine zV_if_lt (tgt := 15) O dX7_needHost_1 (by decide) (fun hc => ?_) (fun hc => ?_)
  · replace hM := hM.1 hc
    exact zV_throw (x := 1) O (by decide) (by decide) zth_RX7_138.1 zth_RX7_138.2.1 zth_RX7_138.2.2.1 zth_RX7_138.2.2.2 dX7_needHost_15 dX7_needHost_18 dX7_needHost_19 dX7_needHost_22 (Nat.le_of_ble_eq_true rfl) (Nat.le_of_ble_eq_true rfl) ⟨rfl, hM⟩ (Nat.le_of_ble_eq_true rfl) (Nat.le_of_ble_eq_true rfl)
  · replace hM := hM.2 hc
    refine zV_iload_n O dX7_needHost_4 rfl rfl ?_
    refine zV_aload_n O dX7_needHost_5 rfl rfl ?_
    refine zV_getR O zf_RX7_10 zt_169 rfl (by decide) dX7_needHost_6 ?_
    refine zV_getI O zf_RX7_104 (zN_o zisN_0) rfl (zN_lt0 zisN_0) dX7_needHost_9 ?_
    refine zV_icmp_lt (tgt := 23) O dX7_needHost_12 (by decide) (fun hc => ?_) (fun hc => ?_)
    · replace hM := hM.1 hc
      exact zV_vret O rfl ⟨rfl, rfl, hM⟩ (Nat.le_of_ble_eq_true rfl) (Nat.le_of_ble_eq_true rfl) dX7_needHost_23
    · replace hM := hM.2 hc
      exact zV_throw (x := 1) O (by decide) (by decide) zth_RX7_138.1 zth_RX7_138.2.1 zth_RX7_138.2.2.1 zth_RX7_138.2.2.2 dX7_needHost_15 dX7_needHost_18 dX7_needHost_19 dX7_needHost_22 (Nat.le_of_ble_eq_true rfl) (Nat.le_of_ble_eq_true rfl) ⟨rfl, hM⟩ (Nat.le_of_ble_eq_true rfl) (Nat.le_of_ble_eq_true rfl)
def mX7_needNumber (x0 : Int) (h : Hp) (Q : Prop) (QX : Nat → Prop) : Prop := ((x0 < (1 : Int) → (QX 0)) ∧ (¬ x0 < (1 : Int) → ((x0 ≤ (250 : Int) → Q) ∧ (¬ x0 ≤ (250 : Int) → (QX 0)))))
set_option maxHeartbeats 4000000 in
set_option maxRecDepth 100000 in
theorem sX7_needNumber {l0 : Launch} {x0 : Int} {h : Hp} {Q : Prop} {QX : Nat → Prop}  (hM : mX7_needNumber x0 h Q QX) : zSp l0 yX7_needNumber cX7_needNumber 1 none 185 (8) 1 6 [aI x0] h (qPV h Q) (xP h QX) := by
  unfold mX7_needNumber at hM
  refine zSp_intro zpn_RX7 (Nat.le_of_ble_eq_true rfl) (fun a O => ?_)
  show zV a (8, 1, 6, (qPV h Q), (xP h QX)) 0 0 0 [some (aI x0)] [] h
  refine zV_iload_n O dX7_needNumber_0 rfl rfl ?_
  refine zV_iconst (z := 1) O ⟨by omega, by omega⟩ dX7_needNumber_1 ?_
  refine zV_icmp_lt (tgt := 12) O dX7_needNumber_2 (by decide) (fun hc => ?_) (fun hc => ?_)
  · replace hM := hM.1 hc
    exact zV_throw (x := 0) O (by decide) (by decide) zth_RX7_82.1 zth_RX7_82.2.1 zth_RX7_82.2.2.1 zth_RX7_82.2.2.2 dX7_needNumber_12 dX7_needNumber_15 dX7_needNumber_16 dX7_needNumber_19 (Nat.le_of_ble_eq_true rfl) (Nat.le_of_ble_eq_true rfl) ⟨rfl, hM⟩ (Nat.le_of_ble_eq_true rfl) (Nat.le_of_ble_eq_true rfl)
  · replace hM := hM.2 hc
    refine zV_iload_n O dX7_needNumber_5 rfl rfl ?_
    refine zV_sipush (z := 250) O ⟨by omega, by omega⟩ rfl dX7_needNumber_6 ?_
    refine zV_icmp_le (tgt := 20) O dX7_needNumber_9 (by decide) (fun hc => ?_) (fun hc => ?_)
    · replace hM := hM.1 hc
      exact zV_vret O rfl ⟨rfl, rfl, hM⟩ (Nat.le_of_ble_eq_true rfl) (Nat.le_of_ble_eq_true rfl) dX7_needNumber_20
    · replace hM := hM.2 hc
      exact zV_throw (x := 0) O (by decide) (by decide) zth_RX7_82.1 zth_RX7_82.2.1 zth_RX7_82.2.2.1 zth_RX7_82.2.2.2 dX7_needNumber_12 dX7_needNumber_15 dX7_needNumber_16 dX7_needNumber_19 (Nat.le_of_ble_eq_true rfl) (Nat.le_of_ble_eq_true rfl) ⟨rfl, hM⟩ (Nat.le_of_ble_eq_true rfl) (Nat.le_of_ble_eq_true rfl)
def mX7_needOffice (x0 : Int) (h : Hp) (Q : Prop) (QX : Nat → Prop) : Prop := ((x0 < 0 → (QX 1)) ∧ (¬ x0 < 0 → ((x0 < (2 : Int) → Q) ∧ (¬ x0 < (2 : Int) → (QX 1)))))
set_option maxHeartbeats 4000000 in
set_option maxRecDepth 100000 in
theorem sX7_needOffice {l0 : Launch} {x0 : Int} {h : Hp} {Q : Prop} {QX : Nat → Prop}  (hM : mX7_needOffice x0 h Q QX) : zSp l0 yX7_needOffice cX7_needOffice 1 none 185 (8) 1 6 [aI x0] h (qPV h Q) (xP h QX) := by
  unfold mX7_needOffice at hM
  refine zSp_intro zpn_RX7 (Nat.le_of_ble_eq_true rfl) (fun a O => ?_)
  show zV a (8, 1, 6, (qPV h Q), (xP h QX)) 0 0 0 [some (aI x0)] [] h
  refine zV_iload_n O dX7_needOffice_0 rfl rfl ?_
  refine zV_if_lt (tgt := 9) O dX7_needOffice_1 (by decide) (fun hc => ?_) (fun hc => ?_)
  · replace hM := hM.1 hc
    exact zV_throw (x := 1) O (by decide) (by decide) zth_RX7_138.1 zth_RX7_138.2.1 zth_RX7_138.2.2.1 zth_RX7_138.2.2.2 dX7_needOffice_9 dX7_needOffice_12 dX7_needOffice_13 dX7_needOffice_16 (Nat.le_of_ble_eq_true rfl) (Nat.le_of_ble_eq_true rfl) ⟨rfl, hM⟩ (Nat.le_of_ble_eq_true rfl) (Nat.le_of_ble_eq_true rfl)
  · replace hM := hM.2 hc
    refine zV_iload_n O dX7_needOffice_4 rfl rfl ?_
    refine zV_iconst (z := 2) O ⟨by omega, by omega⟩ dX7_needOffice_5 ?_
    refine zV_icmp_lt (tgt := 17) O dX7_needOffice_6 (by decide) (fun hc => ?_) (fun hc => ?_)
    · replace hM := hM.1 hc
      exact zV_vret O rfl ⟨rfl, rfl, hM⟩ (Nat.le_of_ble_eq_true rfl) (Nat.le_of_ble_eq_true rfl) dX7_needOffice_17
    · replace hM := hM.2 hc
      exact zV_throw (x := 1) O (by decide) (by decide) zth_RX7_138.1 zth_RX7_138.2.1 zth_RX7_138.2.2.1 zth_RX7_138.2.2.2 dX7_needOffice_9 dX7_needOffice_12 dX7_needOffice_13 dX7_needOffice_16 (Nat.le_of_ble_eq_true rfl) (Nat.le_of_ble_eq_true rfl) ⟨rfl, hM⟩ (Nat.le_of_ble_eq_true rfl) (Nat.le_of_ble_eq_true rfl)
def mX7_needRule (x1 : Int) (h : Hp) (Q : Prop) (QX : Nat → Prop) : Prop := ((x1 < 0 → (QX 1)) ∧ (¬ x1 < 0 → ((x1 < (h 0 1) → Q) ∧ (¬ x1 < (h 0 1) → (QX 1)))))
set_option maxHeartbeats 4000000 in
set_option maxRecDepth 100000 in
theorem sX7_needRule {l0 : Launch} {x1 : Int} {h : Hp} {Q : Prop} {QX : Nat → Prop}  (hM : mX7_needRule x1 h Q QX) : zSp l0 yX7_needRule cX7_needRule 2 none 185 (8) 1 6 [aR 169, aI x1] h (qPV h Q) (xP h QX) := by
  unfold mX7_needRule at hM
  refine zSp_intro zpn_RX7 (Nat.le_of_ble_eq_true rfl) (fun a O => ?_)
  show zV a (8, 1, 6, (qPV h Q), (xP h QX)) 0 0 0 [some (aR 169), some (aI x1)] [] h
  refine zV_iload_n O dX7_needRule_0 rfl rfl ?_
  refine zV_if_lt (tgt := 15) O dX7_needRule_1 (by decide) (fun hc => ?_) (fun hc => ?_)
  · replace hM := hM.1 hc
    exact zV_throw (x := 1) O (by decide) (by decide) zth_RX7_138.1 zth_RX7_138.2.1 zth_RX7_138.2.2.1 zth_RX7_138.2.2.2 dX7_needRule_15 dX7_needRule_18 dX7_needRule_19 dX7_needRule_22 (Nat.le_of_ble_eq_true rfl) (Nat.le_of_ble_eq_true rfl) ⟨rfl, hM⟩ (Nat.le_of_ble_eq_true rfl) (Nat.le_of_ble_eq_true rfl)
  · replace hM := hM.2 hc
    refine zV_iload_n O dX7_needRule_4 rfl rfl ?_
    refine zV_aload_n O dX7_needRule_5 rfl rfl ?_
    refine zV_getR O zf_RX7_10 zt_169 rfl (by decide) dX7_needRule_6 ?_
    refine zV_getI O zf_RX7_107 (zN_o zisN_0) rfl (zN_lt0 zisN_0) dX7_needRule_9 ?_
    refine zV_icmp_lt (tgt := 23) O dX7_needRule_12 (by decide) (fun hc => ?_) (fun hc => ?_)
    · replace hM := hM.1 hc
      exact zV_vret O rfl ⟨rfl, rfl, hM⟩ (Nat.le_of_ble_eq_true rfl) (Nat.le_of_ble_eq_true rfl) dX7_needRule_23
    · replace hM := hM.2 hc
      exact zV_throw (x := 1) O (by decide) (by decide) zth_RX7_138.1 zth_RX7_138.2.1 zth_RX7_138.2.2.1 zth_RX7_138.2.2.2 dX7_needRule_15 dX7_needRule_18 dX7_needRule_19 dX7_needRule_22 (Nat.le_of_ble_eq_true rfl) (Nat.le_of_ble_eq_true rfl) ⟨rfl, hM⟩ (Nat.le_of_ble_eq_true rfl) (Nat.le_of_ble_eq_true rfl)
def mX7_needSide (x0 : Int) (h : Hp) (Q : Prop) (QX : Nat → Prop) : Prop := ((x0 < 0 → (QX 0)) ∧ (¬ x0 < 0 → ((x0 ≤ (250 : Int) → Q) ∧ (¬ x0 ≤ (250 : Int) → (QX 0)))))
set_option maxHeartbeats 4000000 in
set_option maxRecDepth 100000 in
theorem sX7_needSide {l0 : Launch} {x0 : Int} {h : Hp} {Q : Prop} {QX : Nat → Prop}  (hM : mX7_needSide x0 h Q QX) : zSp l0 yX7_needSide cX7_needSide 1 none 185 (8) 1 6 [aI x0] h (qPV h Q) (xP h QX) := by
  unfold mX7_needSide at hM
  refine zSp_intro zpn_RX7 (Nat.le_of_ble_eq_true rfl) (fun a O => ?_)
  show zV a (8, 1, 6, (qPV h Q), (xP h QX)) 0 0 0 [some (aI x0)] [] h
  refine zV_iload_n O dX7_needSide_0 rfl rfl ?_
  refine zV_if_lt (tgt := 11) O dX7_needSide_1 (by decide) (fun hc => ?_) (fun hc => ?_)
  · replace hM := hM.1 hc
    exact zV_throw (x := 0) O (by decide) (by decide) zth_RX7_82.1 zth_RX7_82.2.1 zth_RX7_82.2.2.1 zth_RX7_82.2.2.2 dX7_needSide_11 dX7_needSide_14 dX7_needSide_15 dX7_needSide_18 (Nat.le_of_ble_eq_true rfl) (Nat.le_of_ble_eq_true rfl) ⟨rfl, hM⟩ (Nat.le_of_ble_eq_true rfl) (Nat.le_of_ble_eq_true rfl)
  · replace hM := hM.2 hc
    refine zV_iload_n O dX7_needSide_4 rfl rfl ?_
    refine zV_sipush (z := 250) O ⟨by omega, by omega⟩ rfl dX7_needSide_5 ?_
    refine zV_icmp_le (tgt := 19) O dX7_needSide_8 (by decide) (fun hc => ?_) (fun hc => ?_)
    · replace hM := hM.1 hc
      exact zV_vret O rfl ⟨rfl, rfl, hM⟩ (Nat.le_of_ble_eq_true rfl) (Nat.le_of_ble_eq_true rfl) dX7_needSide_19
    · replace hM := hM.2 hc
      exact zV_throw (x := 0) O (by decide) (by decide) zth_RX7_82.1 zth_RX7_82.2.1 zth_RX7_82.2.2.1 zth_RX7_82.2.2.2 dX7_needSide_11 dX7_needSide_14 dX7_needSide_15 dX7_needSide_18 (Nat.le_of_ble_eq_true rfl) (Nat.le_of_ble_eq_true rfl) ⟨rfl, hM⟩ (Nat.le_of_ble_eq_true rfl) (Nat.le_of_ble_eq_true rfl)
def mX7_needWave (x0 : Int) (h : Hp) (Q : Prop) (QX : Nat → Prop) : Prop := ((x0 < (1 : Int) → (QX 0)) ∧ (¬ x0 < (1 : Int) → ((x0 ≤ (9 : Int) → Q) ∧ (¬ x0 ≤ (9 : Int) → (QX 0)))))
set_option maxHeartbeats 4000000 in
set_option maxRecDepth 100000 in
theorem sX7_needWave {l0 : Launch} {x0 : Int} {h : Hp} {Q : Prop} {QX : Nat → Prop}  (hM : mX7_needWave x0 h Q QX) : zSp l0 yX7_needWave cX7_needWave 1 none 185 (8) 1 6 [aI x0] h (qPV h Q) (xP h QX) := by
  unfold mX7_needWave at hM
  refine zSp_intro zpn_RX7 (Nat.le_of_ble_eq_true rfl) (fun a O => ?_)
  show zV a (8, 1, 6, (qPV h Q), (xP h QX)) 0 0 0 [some (aI x0)] [] h
  refine zV_iload_n O dX7_needWave_0 rfl rfl ?_
  refine zV_iconst (z := 1) O ⟨by omega, by omega⟩ dX7_needWave_1 ?_
  refine zV_icmp_lt (tgt := 11) O dX7_needWave_2 (by decide) (fun hc => ?_) (fun hc => ?_)
  · replace hM := hM.1 hc
    exact zV_throw (x := 0) O (by decide) (by decide) zth_RX7_82.1 zth_RX7_82.2.1 zth_RX7_82.2.2.1 zth_RX7_82.2.2.2 dX7_needWave_11 dX7_needWave_14 dX7_needWave_15 dX7_needWave_18 (Nat.le_of_ble_eq_true rfl) (Nat.le_of_ble_eq_true rfl) ⟨rfl, hM⟩ (Nat.le_of_ble_eq_true rfl) (Nat.le_of_ble_eq_true rfl)
  · replace hM := hM.2 hc
    refine zV_iload_n O dX7_needWave_5 rfl rfl ?_
    refine zV_bipush (z := 9) O ⟨by omega, by omega⟩ rfl dX7_needWave_6 ?_
    refine zV_icmp_le (tgt := 19) O dX7_needWave_8 (by decide) (fun hc => ?_) (fun hc => ?_)
    · replace hM := hM.1 hc
      exact zV_vret O rfl ⟨rfl, rfl, hM⟩ (Nat.le_of_ble_eq_true rfl) (Nat.le_of_ble_eq_true rfl) dX7_needWave_19
    · replace hM := hM.2 hc
      exact zV_throw (x := 0) O (by decide) (by decide) zth_RX7_82.1 zth_RX7_82.2.1 zth_RX7_82.2.2.1 zth_RX7_82.2.2.2 dX7_needWave_11 dX7_needWave_14 dX7_needWave_15 dX7_needWave_18 (Nat.le_of_ble_eq_true rfl) (Nat.le_of_ble_eq_true rfl) ⟨rfl, hM⟩ (Nat.le_of_ble_eq_true rfl) (Nat.le_of_ble_eq_true rfl)
def mX7_setKeep (x1 : Int) (h : Hp) (Q : Int → Hp → Prop) (QX : Nat → Hp → Prop) : Prop := ((x1 < 0 → (QX 0 h)) ∧ (¬ x1 < 0 → ((x1 ≤ (3 : Int) → (mX3_copyFrom 13 0 h (fun h6 => (∀ h7 : Hp, h7 = hu h6 13 3 x1 → (mX7_heldTwice 13 h7 (fun z8 h9 => ((z8 = 0 → (mX7_adoptTrial h9 (fun h10 => (Q (h 0 3) h10)))) ∧ (¬ z8 = 0 → (Q (-2) h9))))))))) ∧ (¬ x1 ≤ (3 : Int) → (QX 0 h)))))
set_option maxHeartbeats 4000000 in
set_option maxRecDepth 100000 in
theorem sX7_setKeep {l0 : Launch} {x1 : Int} {h : Hp} {Q : Int → Hp → Prop} {QX : Nat → Hp → Prop}  (hM : mX7_setKeep x1 h Q QX) : zSp l0 yX7_setKeep cX7_setKeep 3 (some .int) 185 (8) 1 6 [aR 169, aI x1] h (qI Q) QX := by
  unfold mX7_setKeep at hM
  refine zSp_intro zpn_RX7 (Nat.le_of_ble_eq_true rfl) (fun a O => ?_)
  show zV a (8, 1, 6, (qI Q), QX) 0 0 0 [some (aR 169), some (aI x1), none] [] h
  refine zV_iload_n O dX7_setKeep_0 rfl rfl ?_
  refine zV_if_lt (tgt := 9) O dX7_setKeep_1 (by decide) (fun hc => ?_) (fun hc => ?_)
  · replace hM := hM.1 hc
    exact zV_throw (x := 0) O (by decide) (by decide) zth_RX7_82.1 zth_RX7_82.2.1 zth_RX7_82.2.2.1 zth_RX7_82.2.2.2 dX7_setKeep_9 dX7_setKeep_12 dX7_setKeep_13 dX7_setKeep_16 (Nat.le_of_ble_eq_true rfl) (Nat.le_of_ble_eq_true rfl) hM (Nat.le_of_ble_eq_true rfl) (Nat.le_of_ble_eq_true rfl)
  · replace hM := hM.2 hc
    refine zV_iload_n O dX7_setKeep_4 rfl rfl ?_
    refine zV_iconst (z := 3) O ⟨by omega, by omega⟩ dX7_setKeep_5 ?_
    refine zV_icmp_le (tgt := 17) O dX7_setKeep_6 (by decide) (fun hc => ?_) (fun hc => ?_)
    · replace hM := hM.1 hc
      refine zV_aload_n O dX7_setKeep_17 rfl rfl ?_
      refine zV_getR O zf_RX7_10 zt_169 rfl (by decide) dX7_setKeep_18 ?_
      refine zV_getI O zf_RX7_116 (zN_o zisN_0) rfl (zN_lt0 zisN_0) dX7_setKeep_21 ?_
      refine zV_istore_n O dX7_setKeep_24 rfl (Nat.le_of_ble_eq_true rfl) rfl ?_
      refine zV_aload_n O dX7_setKeep_25 rfl rfl ?_
      refine zV_getR O zf_RX7_16 zt_169 rfl (by decide) dX7_setKeep_26 ?_
      refine zV_aload_n O dX7_setKeep_29 rfl rfl ?_
      refine zV_getR O zf_RX7_10 zt_169 rfl (by decide) dX7_setKeep_30 ?_
      refine zV_callV (as := [aR 0]) (st := []) O zc_X3_copyFrom (Or.inr ⟨_, zl_RX7_95⟩) zi_531 zi_7 (zN_o zisN_13) rfl rfl (zN_lt0 zisN_13) (Nat.le_of_ble_eq_true rfl) rfl rfl (Nat.le_of_ble_eq_true rfl) (Nat.le_of_ble_eq_true rfl) (Nat.le_of_ble_eq_true rfl) (Nat.le_of_ble_eq_true rfl) (Nat.le_of_ble_eq_true rfl) (Nat.le_of_ble_eq_true rfl) dX7_setKeep_33 (sX3_copyFrom zisN_13 zisN_0 hM) (fun r h6 hq => ?_) (fun x h9 hq => hq.elim)
      obtain ⟨rfl, hM⟩ := hq
      refine zV_aload_n O dX7_setKeep_36 rfl rfl ?_
      refine zV_getR O zf_RX7_16 zt_169 rfl (by decide) dX7_setKeep_37 ?_
      refine zV_iload_n O dX7_setKeep_40 rfl rfl ?_
      refine zV_putI O zf_RX7_116 (zN_o zisN_13) rfl (zN_lt0 zisN_13) dX7_setKeep_41 ?_
      have hM := hM _ rfl
      generalize hu h6 13 3 x1 = h7 at hM ⊢
      refine zV_aload_n O dX7_setKeep_44 rfl rfl ?_
      refine zV_aload_n O dX7_setKeep_45 rfl rfl ?_
      refine zV_getR O zf_RX7_16 zt_169 rfl (by decide) dX7_setKeep_46 ?_
      refine zV_callV (as := [aR 13]) (st := []) O zc_X7_heldTwice (Or.inl zl_RX7_237) zi_566 zi_15 zt_169 rfl rfl (by decide) (Nat.le_of_ble_eq_true rfl) rfl rfl (Nat.le_of_ble_eq_true rfl) (Nat.le_of_ble_eq_true rfl) (Nat.le_of_ble_eq_true rfl) (Nat.le_of_ble_eq_true rfl) (Nat.le_of_ble_eq_true rfl) (Nat.le_of_ble_eq_true rfl) dX7_setKeep_49 (sX7_heldTwice zisN_13 hM) (fun r h9 hq => ?_) (fun x h9 hq => hq.elim)
      obtain ⟨z8, rfl, hM⟩ := hq
      refine zV_if_eq (tgt := 58) O dX7_setKeep_52 (by decide) (fun hc => ?_) (fun hc => ?_)
      · replace hM := hM.1 hc
        refine zV_aload_n O dX7_setKeep_58 rfl rfl ?_
        refine zV_callV (as := []) (st := []) O zc_X7_adoptTrial (Or.inl zl_RX7_275) zi_669 zi_31 zt_169 rfl rfl (by decide) (Nat.le_of_ble_eq_true rfl) rfl rfl (Nat.le_of_ble_eq_true rfl) (Nat.le_of_ble_eq_true rfl) (Nat.le_of_ble_eq_true rfl) (Nat.le_of_ble_eq_true rfl) (Nat.le_of_ble_eq_true rfl) (Nat.le_of_ble_eq_true rfl) dX7_setKeep_59 (sX7_adoptTrial hM) (fun r h10 hq => ?_) (fun x h9 hq => hq.elim)
        obtain ⟨rfl, hM⟩ := hq
        refine zV_iload_n O dX7_setKeep_62 rfl rfl ?_
        exact zV_iret O rfl ⟨_, rfl, hM⟩ (Nat.le_of_ble_eq_true rfl) (Nat.le_of_ble_eq_true rfl) dX7_setKeep_63
      · replace hM := hM.2 hc
        refine zV_bipush (z := -2) O ⟨by omega, by omega⟩ rfl dX7_setKeep_55 ?_
        exact zV_iret O rfl ⟨_, rfl, hM⟩ (Nat.le_of_ble_eq_true rfl) (Nat.le_of_ble_eq_true rfl) dX7_setKeep_57
    · replace hM := hM.2 hc
      exact zV_throw (x := 0) O (by decide) (by decide) zth_RX7_82.1 zth_RX7_82.2.1 zth_RX7_82.2.2.1 zth_RX7_82.2.2.2 dX7_setKeep_9 dX7_setKeep_12 dX7_setKeep_13 dX7_setKeep_16 (Nat.le_of_ble_eq_true rfl) (Nat.le_of_ble_eq_true rfl) hM (Nat.le_of_ble_eq_true rfl) (Nat.le_of_ble_eq_true rfl)
def mX7_size (x1 : Int) (h : Hp) (Q : Int → Hp → Prop) (QX : Nat → Hp → Prop) : Prop := ((x1 = 0 → (Q (h 0 0) h)) ∧ (x1 = 1 → (Q (h 0 1) h)) ∧ (x1 = 2 → (mX3_planCount 0 h (fun z6 => (Q z6 h)))) ∧ (x1 = 3 → (Q (h 0 2) h)) ∧ (x1 = 4 → (Q (h 0 3) h)) ∧ (x1 = 5 → (Q (h 0 4) h)) ∧ (x1 = 6 → (Q (h 0 5) h)) ∧ (x1 = 7 → (Q (h 0 6) h)) ∧ (x1 = 8 → (((h 0 7) = 0 → (Q 0 h)) ∧ (¬ (h 0 7) = 0 → (Q 1 h)))) ∧ (x1 = 9 → (mX7_clashCount 0 h (fun z8 h9 => (Q z8 h9)))) ∧ (x1 = 10 → (mX3_keeperCount 0 h (fun z10 => (Q z10 h)))) ∧ ((x1 < 0 ∨ 10 < x1) → (QX 1 h)))
set_option maxHeartbeats 4000000 in
set_option maxRecDepth 100000 in
theorem sX7_size {l0 : Launch} {x1 : Int} {h : Hp} {Q : Int → Hp → Prop} {QX : Nat → Hp → Prop}  (hM : mX7_size x1 h Q QX) : zSp l0 yX7_size cX7_size 2 (some .int) 185 (8) 1 6 [aR 169, aI x1] h (qI Q) QX := by
  unfold mX7_size at hM
  refine zSp_intro zpn_RX7 (Nat.le_of_ble_eq_true rfl) (fun a O => ?_)
  show zV a (8, 1, 6, (qI Q), QX) 0 0 0 [some (aR 169), some (aI x1)] [] h
  refine zV_iload_n O dX7_size_0 rfl rfl ?_
  by_cases hc0 : x1 = 0
  · replace hM := hM.1 hc0
    refine zV_tableIn (tgt := 60) O dX7_size_1 (by omega) (by omega) (by rw [hc0]; rfl) (by decide) ?_
    refine zV_aload_n O dX7_size_60 rfl rfl ?_
    refine zV_getR O zf_RX7_10 zt_169 rfl (by decide) dX7_size_61 ?_
    refine zV_getI O zf_RX7_104 (zN_o zisN_0) rfl (zN_lt0 zisN_0) dX7_size_64 ?_
    exact zV_iret O rfl ⟨_, rfl, hM⟩ (Nat.le_of_ble_eq_true rfl) (Nat.le_of_ble_eq_true rfl) dX7_size_67
  by_cases hc1 : x1 = 1
  · replace hM := hM.2.1 hc1
    refine zV_tableIn (tgt := 68) O dX7_size_1 (by omega) (by omega) (by rw [hc1]; rfl) (by decide) ?_
    refine zV_aload_n O dX7_size_68 rfl rfl ?_
    refine zV_getR O zf_RX7_10 zt_169 rfl (by decide) dX7_size_69 ?_
    refine zV_getI O zf_RX7_107 (zN_o zisN_0) rfl (zN_lt0 zisN_0) dX7_size_72 ?_
    exact zV_iret O rfl ⟨_, rfl, hM⟩ (Nat.le_of_ble_eq_true rfl) (Nat.le_of_ble_eq_true rfl) dX7_size_75
  by_cases hc2 : x1 = 2
  · replace hM := hM.2.2.1 hc2
    refine zV_tableIn (tgt := 76) O dX7_size_1 (by omega) (by omega) (by rw [hc2]; rfl) (by decide) ?_
    refine zV_aload_n O dX7_size_76 rfl rfl ?_
    refine zV_getR O zf_RX7_10 zt_169 rfl (by decide) dX7_size_77 ?_
    refine zV_callV (as := []) (st := []) O zc_X3_planCount (Or.inr ⟨_, zl_RX7_110⟩) zi_978 zi_64 (zN_o zisN_0) rfl rfl (zN_lt0 zisN_0) (Nat.le_of_ble_eq_true rfl) rfl rfl (Nat.le_of_ble_eq_true rfl) (Nat.le_of_ble_eq_true rfl) (Nat.le_of_ble_eq_true rfl) (Nat.le_of_ble_eq_true rfl) (Nat.le_of_ble_eq_true rfl) (Nat.le_of_ble_eq_true rfl) dX7_size_80 (sX3_planCount zisN_0 hM) (fun r h9 hq => ?_) (fun x h9 hq => hq.elim)
    obtain ⟨rfl, z6, rfl, hM⟩ := hq
    exact zV_iret O rfl ⟨_, rfl, hM⟩ (Nat.le_of_ble_eq_true rfl) (Nat.le_of_ble_eq_true rfl) dX7_size_83
  by_cases hc3 : x1 = 3
  · replace hM := hM.2.2.2.1 hc3
    refine zV_tableIn (tgt := 84) O dX7_size_1 (by omega) (by omega) (by rw [hc3]; rfl) (by decide) ?_
    refine zV_aload_n O dX7_size_84 rfl rfl ?_
    refine zV_getR O zf_RX7_10 zt_169 rfl (by decide) dX7_size_85 ?_
    refine zV_getI O zf_RX7_113 (zN_o zisN_0) rfl (zN_lt0 zisN_0) dX7_size_88 ?_
    exact zV_iret O rfl ⟨_, rfl, hM⟩ (Nat.le_of_ble_eq_true rfl) (Nat.le_of_ble_eq_true rfl) dX7_size_91
  by_cases hc4 : x1 = 4
  · replace hM := hM.2.2.2.2.1 hc4
    refine zV_tableIn (tgt := 92) O dX7_size_1 (by omega) (by omega) (by rw [hc4]; rfl) (by decide) ?_
    refine zV_aload_n O dX7_size_92 rfl rfl ?_
    refine zV_getR O zf_RX7_10 zt_169 rfl (by decide) dX7_size_93 ?_
    refine zV_getI O zf_RX7_116 (zN_o zisN_0) rfl (zN_lt0 zisN_0) dX7_size_96 ?_
    exact zV_iret O rfl ⟨_, rfl, hM⟩ (Nat.le_of_ble_eq_true rfl) (Nat.le_of_ble_eq_true rfl) dX7_size_99
  by_cases hc5 : x1 = 5
  · replace hM := hM.2.2.2.2.2.1 hc5
    refine zV_tableIn (tgt := 100) O dX7_size_1 (by omega) (by omega) (by rw [hc5]; rfl) (by decide) ?_
    refine zV_aload_n O dX7_size_100 rfl rfl ?_
    refine zV_getR O zf_RX7_10 zt_169 rfl (by decide) dX7_size_101 ?_
    refine zV_getI O zf_RX7_119 (zN_o zisN_0) rfl (zN_lt0 zisN_0) dX7_size_104 ?_
    exact zV_iret O rfl ⟨_, rfl, hM⟩ (Nat.le_of_ble_eq_true rfl) (Nat.le_of_ble_eq_true rfl) dX7_size_107
  by_cases hc6 : x1 = 6
  · replace hM := hM.2.2.2.2.2.2.1 hc6
    refine zV_tableIn (tgt := 108) O dX7_size_1 (by omega) (by omega) (by rw [hc6]; rfl) (by decide) ?_
    refine zV_aload_n O dX7_size_108 rfl rfl ?_
    refine zV_getR O zf_RX7_10 zt_169 rfl (by decide) dX7_size_109 ?_
    refine zV_getI O zf_RX7_122 (zN_o zisN_0) rfl (zN_lt0 zisN_0) dX7_size_112 ?_
    exact zV_iret O rfl ⟨_, rfl, hM⟩ (Nat.le_of_ble_eq_true rfl) (Nat.le_of_ble_eq_true rfl) dX7_size_115
  by_cases hc7 : x1 = 7
  · replace hM := hM.2.2.2.2.2.2.2.1 hc7
    refine zV_tableIn (tgt := 116) O dX7_size_1 (by omega) (by omega) (by rw [hc7]; rfl) (by decide) ?_
    refine zV_aload_n O dX7_size_116 rfl rfl ?_
    refine zV_getR O zf_RX7_10 zt_169 rfl (by decide) dX7_size_117 ?_
    refine zV_getI O zf_RX7_125 (zN_o zisN_0) rfl (zN_lt0 zisN_0) dX7_size_120 ?_
    exact zV_iret O rfl ⟨_, rfl, hM⟩ (Nat.le_of_ble_eq_true rfl) (Nat.le_of_ble_eq_true rfl) dX7_size_123
  by_cases hc8 : x1 = 8
  · replace hM := hM.2.2.2.2.2.2.2.2.1 hc8
    refine zV_tableIn (tgt := 124) O dX7_size_1 (by omega) (by omega) (by rw [hc8]; rfl) (by decide) ?_
    refine zV_aload_n O dX7_size_124 rfl rfl ?_
    refine zV_getR O zf_RX7_10 zt_169 rfl (by decide) dX7_size_125 ?_
    refine zV_getZ O zf_RX7_128 (zN_o zisN_0) rfl (zN_lt0 zisN_0) dX7_size_128 (fun hz7 => ?_)
    refine zV_if_eq (tgt := 138) O dX7_size_131 (by decide) (fun hc => ?_) (fun hc => ?_)
    · replace hM := hM.1 hc
      refine zV_iconst (z := 0) O ⟨by omega, by omega⟩ dX7_size_138 ?_
      exact zV_iret O rfl ⟨_, rfl, hM⟩ (Nat.le_of_ble_eq_true rfl) (Nat.le_of_ble_eq_true rfl) dX7_size_139
    · replace hM := hM.2 hc
      refine zV_iconst (z := 1) O ⟨by omega, by omega⟩ dX7_size_134 ?_
      refine zV_goto (tgt := 139) O dX7_size_135 (by decide) ?_
      exact zV_iret O rfl ⟨_, rfl, hM⟩ (Nat.le_of_ble_eq_true rfl) (Nat.le_of_ble_eq_true rfl) dX7_size_139
  by_cases hc9 : x1 = 9
  · replace hM := hM.2.2.2.2.2.2.2.2.2.1 hc9
    refine zV_tableIn (tgt := 140) O dX7_size_1 (by omega) (by omega) (by rw [hc9]; rfl) (by decide) ?_
    refine zV_aload_n O dX7_size_140 rfl rfl ?_
    refine zV_aload_n O dX7_size_141 rfl rfl ?_
    refine zV_getR O zf_RX7_10 zt_169 rfl (by decide) dX7_size_142 ?_
    refine zV_callV (as := [aR 0]) (st := []) O zc_X7_clashCount (Or.inl zl_RX7_131) zi_597 zi_19 zt_169 rfl rfl (by decide) (Nat.le_of_ble_eq_true rfl) rfl rfl (Nat.le_of_ble_eq_true rfl) (Nat.le_of_ble_eq_true rfl) (Nat.le_of_ble_eq_true rfl) (Nat.le_of_ble_eq_true rfl) (Nat.le_of_ble_eq_true rfl) (Nat.le_of_ble_eq_true rfl) dX7_size_145 (sX7_clashCount zisN_0 hM) (fun r h9 hq => ?_) (fun x h9 hq => hq.elim)
    obtain ⟨z8, rfl, hM⟩ := hq
    exact zV_iret O rfl ⟨_, rfl, hM⟩ (Nat.le_of_ble_eq_true rfl) (Nat.le_of_ble_eq_true rfl) dX7_size_148
  by_cases hc10 : x1 = 10
  · replace hM := hM.2.2.2.2.2.2.2.2.2.2.1 hc10
    refine zV_tableIn (tgt := 149) O dX7_size_1 (by omega) (by omega) (by rw [hc10]; rfl) (by decide) ?_
    refine zV_aload_n O dX7_size_149 rfl rfl ?_
    refine zV_getR O zf_RX7_10 zt_169 rfl (by decide) dX7_size_150 ?_
    refine zV_callV (as := []) (st := []) O zc_X3_keeperCount (Or.inr ⟨_, zl_RX7_135⟩) zi_982 zi_65 (zN_o zisN_0) rfl rfl (zN_lt0 zisN_0) (Nat.le_of_ble_eq_true rfl) rfl rfl (Nat.le_of_ble_eq_true rfl) (Nat.le_of_ble_eq_true rfl) (Nat.le_of_ble_eq_true rfl) (Nat.le_of_ble_eq_true rfl) (Nat.le_of_ble_eq_true rfl) (Nat.le_of_ble_eq_true rfl) dX7_size_153 (sX3_keeperCount zisN_0 hM) (fun r h9 hq => ?_) (fun x h9 hq => hq.elim)
    obtain ⟨rfl, z10, rfl, hM⟩ := hq
    exact zV_iret O rfl ⟨_, rfl, hM⟩ (Nat.le_of_ble_eq_true rfl) (Nat.le_of_ble_eq_true rfl) dX7_size_156
  have hc : x1 < 0 ∨ 10 < x1 := by omega
  replace hM := hM.2.2.2.2.2.2.2.2.2.2.2 hc
  refine zV_tableOut (tgt := 157) O dX7_size_1 hc (by decide) ?_
  exact zV_throw (x := 1) O (by decide) (by decide) zth_RX7_138.1 zth_RX7_138.2.1 zth_RX7_138.2.2.1 zth_RX7_138.2.2.2 dX7_size_157 dX7_size_160 dX7_size_161 dX7_size_164 (Nat.le_of_ble_eq_true rfl) (Nat.le_of_ble_eq_true rfl) hM (Nat.le_of_ble_eq_true rfl) (Nat.le_of_ble_eq_true rfl)
def mX7_addHost (x1 : Int) (x2 : Int) (h : Hp) (Q : Int → Hp → Prop) (QX : Nat → Hp → Prop) : Prop := (mX7_needOffice x1 h ((mX7_needNumber x2 h ((((h 0 0) < (40 : Int) → (mX3_holderInNet 0 x1 x2 h (fun z5 => ((z5 = ((-1) : Int) → (mX0_add 0 h (fun h6 => (mX3_appendHost 0 0 x1 x2 h6 (fun z7 h8 => (Q z7 h8)))))) ∧ (¬ z5 = ((-1) : Int) → (Q (-3) h)))))) ∧ (¬ (h 0 0) < (40 : Int) → (Q (-2) h)))) (fun x => QX x h))) (fun x => QX x h))
set_option maxHeartbeats 4000000 in
set_option maxRecDepth 100000 in
theorem sX7_addHost {l0 : Launch} {x1 : Int} {x2 : Int} {h : Hp} {Q : Int → Hp → Prop} {QX : Nat → Hp → Prop}  (hM : mX7_addHost x1 x2 h Q QX) : zSp l0 yX7_addHost cX7_addHost 3 (some .int) 185 (9) 2 12 [aR 169, aI x1, aI x2] h (qI Q) QX := by
  unfold mX7_addHost at hM
  refine zSp_intro zpn_RX7 (Nat.le_of_ble_eq_true rfl) (fun a O => ?_)
  show zV a (9, 2, 12, (qI Q), QX) 0 0 0 [some (aR 169), some (aI x1), some (aI x2)] [] h
  refine zV_iload_n O dX7_addHost_0 rfl rfl ?_
  refine zV_callS (as := [aI x1]) (st := []) O zc_X7_needOffice (Or.inl zl_RX7_175) zi_1029 (Nat.le_of_ble_eq_true rfl) rfl rfl (Nat.le_of_ble_eq_true rfl) (Nat.le_of_ble_eq_true rfl) (Nat.le_of_ble_eq_true rfl) (Nat.le_of_ble_eq_true rfl) (Nat.le_of_ble_eq_true rfl) (Nat.le_of_ble_eq_true rfl) dX7_addHost_1 (sX7_needOffice hM) (fun r h9 hq => ?_) (fun x h9 hq => by obtain ⟨rfl, hq⟩ := hq; exact zU_out O hq (Nat.le_of_ble_eq_true rfl) (Nat.le_of_ble_eq_true rfl))
  obtain ⟨rfl, rfl, hM⟩ := hq
  refine zV_iload_n O dX7_addHost_4 rfl rfl ?_
  refine zV_callS (as := [aI x2]) (st := []) O zc_X7_needNumber (Or.inl zl_RX7_178) zi_1032 (Nat.le_of_ble_eq_true rfl) rfl rfl (Nat.le_of_ble_eq_true rfl) (Nat.le_of_ble_eq_true rfl) (Nat.le_of_ble_eq_true rfl) (Nat.le_of_ble_eq_true rfl) (Nat.le_of_ble_eq_true rfl) (Nat.le_of_ble_eq_true rfl) dX7_addHost_5 (sX7_needNumber hM) (fun r h9 hq => ?_) (fun x h9 hq => by obtain ⟨rfl, hq⟩ := hq; exact zU_out O hq (Nat.le_of_ble_eq_true rfl) (Nat.le_of_ble_eq_true rfl))
  obtain ⟨rfl, rfl, hM⟩ := hq
  refine zV_aload_n O dX7_addHost_8 rfl rfl ?_
  refine zV_getR O zf_RX7_10 zt_169 rfl (by decide) dX7_addHost_9 ?_
  refine zV_getI O zf_RX7_104 (zN_o zisN_0) rfl (zN_lt0 zisN_0) dX7_addHost_12 ?_
  refine zV_bipush (z := 40) O ⟨by omega, by omega⟩ rfl dX7_addHost_15 ?_
  refine zV_icmp_lt (tgt := 23) O dX7_addHost_17 (by decide) (fun hc => ?_) (fun hc => ?_)
  · replace hM := hM.1 hc
    refine zV_aload_n O dX7_addHost_23 rfl rfl ?_
    refine zV_getR O zf_RX7_10 zt_169 rfl (by decide) dX7_addHost_24 ?_
    refine zV_iload_n O dX7_addHost_27 rfl rfl ?_
    refine zV_iload_n O dX7_addHost_28 rfl rfl ?_
    refine zV_callV (as := [aI x1, aI x2]) (st := []) O zc_X3_holderInNet (Or.inr ⟨_, zl_RX7_246⟩) zi_1085 zi_71 (zN_o zisN_0) rfl rfl (zN_lt0 zisN_0) (Nat.le_of_ble_eq_true rfl) rfl rfl (Nat.le_of_ble_eq_true rfl) (Nat.le_of_ble_eq_true rfl) (Nat.le_of_ble_eq_true rfl) (Nat.le_of_ble_eq_true rfl) (Nat.le_of_ble_eq_true rfl) (Nat.le_of_ble_eq_true rfl) dX7_addHost_29 (sX3_holderInNet zisN_0 hM) (fun r h9 hq => ?_) (fun x h9 hq => hq.elim)
    obtain ⟨rfl, z5, rfl, hM⟩ := hq
    refine zV_iconst (z := -1) O ⟨by omega, by omega⟩ dX7_addHost_32 ?_
    refine zV_icmp_eq (tgt := 39) O dX7_addHost_33 (by decide) (fun hc => ?_) (fun hc => ?_)
    · replace hM := hM.1 hc
      refine zV_aload_n O dX7_addHost_39 rfl rfl ?_
      refine zV_getR O zf_RX7_25 zt_169 rfl (by decide) dX7_addHost_40 ?_
      refine zV_aload_n O dX7_addHost_43 rfl rfl ?_
      refine zV_getR O zf_RX7_10 zt_169 rfl (by decide) dX7_addHost_44 ?_
      refine zV_callV (as := [aR 0]) (st := []) O zc_X0_add (Or.inr ⟨_, zl_RX7_249⟩) zi_637 zi_25 zt_170 rfl rfl (by decide) (Nat.le_of_ble_eq_true rfl) rfl rfl (Nat.le_of_ble_eq_true rfl) (Nat.le_of_ble_eq_true rfl) (Nat.le_of_ble_eq_true rfl) (Nat.le_of_ble_eq_true rfl) (Nat.le_of_ble_eq_true rfl) (Nat.le_of_ble_eq_true rfl) dX7_addHost_47 (sX0_add zisN_0 hM) (fun r h6 hq => ?_) (fun x h9 hq => hq.elim)
      obtain ⟨rfl, hM⟩ := hq
      refine zV_aload_n O dX7_addHost_50 rfl rfl ?_
      refine zV_getR O zf_RX7_10 zt_169 rfl (by decide) dX7_addHost_51 ?_
      refine zV_lconst (z := 0) O ⟨by omega, by omega⟩ rfl dX7_addHost_54 ?_
      refine zV_iload_n O dX7_addHost_55 rfl rfl ?_
      refine zV_iload_n O dX7_addHost_56 rfl rfl ?_
      refine zV_callV (as := [aL 0, aI x1, aI x2]) (st := []) O zc_X3_appendHost (Or.inr ⟨_, zl_RX7_252⟩) zi_942 zi_59 (zN_o zisN_0) rfl rfl (zN_lt0 zisN_0) (Nat.le_of_ble_eq_true rfl) rfl rfl (Nat.le_of_ble_eq_true rfl) (Nat.le_of_ble_eq_true rfl) (Nat.le_of_ble_eq_true rfl) (Nat.le_of_ble_eq_true rfl) (Nat.le_of_ble_eq_true rfl) (Nat.le_of_ble_eq_true rfl) dX7_addHost_57 (sX3_appendHost zisN_0 hM) (fun r h8 hq => ?_) (fun x h9 hq => hq.elim)
      obtain ⟨z7, rfl, hM⟩ := hq
      exact zV_iret O rfl ⟨_, rfl, hM⟩ (Nat.le_of_ble_eq_true rfl) (Nat.le_of_ble_eq_true rfl) dX7_addHost_60
    · replace hM := hM.2 hc
      refine zV_bipush (z := -3) O ⟨by omega, by omega⟩ rfl dX7_addHost_36 ?_
      exact zV_iret O rfl ⟨_, rfl, hM⟩ (Nat.le_of_ble_eq_true rfl) (Nat.le_of_ble_eq_true rfl) dX7_addHost_38
  · replace hM := hM.2 hc
    refine zV_bipush (z := -2) O ⟨by omega, by omega⟩ rfl dX7_addHost_20 ?_
    exact zV_iret O rfl ⟨_, rfl, hM⟩ (Nat.le_of_ble_eq_true rfl) (Nat.le_of_ble_eq_true rfl) dX7_addHost_22
def mX7_addRule (x1 : Int) (x2 : Int) (x3 : Int) (x4 : Int) (h : Hp) (Q : Int → Hp → Prop) (QX : Nat → Hp → Prop) : Prop := (mX7_needOffice x1 h ((mX7_needSide x3 h ((mX7_needSide x4 h ((((h 0 1) < (30 : Int) → (mX0_add 0 h (fun h4 => (mX3_appendRule 0 x1 x2 x3 x4 h4 (fun z5 h6 => (Q z5 h6)))))) ∧ (¬ (h 0 1) < (30 : Int) → (Q (-2) h)))) (fun x => QX x h))) (fun x => QX x h))) (fun x => QX x h))
set_option maxHeartbeats 4000000 in
set_option maxRecDepth 100000 in
theorem sX7_addRule {l0 : Launch} {x1 : Int} {x2 : Int} {x3 : Int} {x4 : Int} {h : Hp} {Q : Int → Hp → Prop} {QX : Nat → Hp → Prop}  (hM : mX7_addRule x1 x2 x3 x4 h Q QX) : zSp l0 yX7_addRule cX7_addRule 5 (some .int) 185 (9) 3 18 [aR 169, aI x1, aI x2, aI x3, aI x4] h (qI Q) QX := by
  unfold mX7_addRule at hM
  refine zSp_intro zpn_RX7 (Nat.le_of_ble_eq_true rfl) (fun a O => ?_)
  show zV a (9, 3, 18, (qI Q), QX) 0 0 0 [some (aR 169), some (aI x1), some (aI x2), some (aI x3), some (aI x4)] [] h
  refine zV_iload_n O dX7_addRule_0 rfl rfl ?_
  refine zV_callS (as := [aI x1]) (st := []) O zc_X7_needOffice (Or.inl zl_RX7_175) zi_1029 (Nat.le_of_ble_eq_true rfl) rfl rfl (Nat.le_of_ble_eq_true rfl) (Nat.le_of_ble_eq_true rfl) (Nat.le_of_ble_eq_true rfl) (Nat.le_of_ble_eq_true rfl) (Nat.le_of_ble_eq_true rfl) (Nat.le_of_ble_eq_true rfl) dX7_addRule_1 (sX7_needOffice hM) (fun r h9 hq => ?_) (fun x h9 hq => by obtain ⟨rfl, hq⟩ := hq; exact zU_out O hq (Nat.le_of_ble_eq_true rfl) (Nat.le_of_ble_eq_true rfl))
  obtain ⟨rfl, rfl, hM⟩ := hq
  refine zV_iload_n O dX7_addRule_4 rfl rfl ?_
  refine zV_callS (as := [aI x3]) (st := []) O zc_X7_needSide (Or.inl zl_RX7_284) zi_1151 (Nat.le_of_ble_eq_true rfl) rfl rfl (Nat.le_of_ble_eq_true rfl) (Nat.le_of_ble_eq_true rfl) (Nat.le_of_ble_eq_true rfl) (Nat.le_of_ble_eq_true rfl) (Nat.le_of_ble_eq_true rfl) (Nat.le_of_ble_eq_true rfl) dX7_addRule_5 (sX7_needSide hM) (fun r h9 hq => ?_) (fun x h9 hq => by obtain ⟨rfl, hq⟩ := hq; exact zU_out O hq (Nat.le_of_ble_eq_true rfl) (Nat.le_of_ble_eq_true rfl))
  obtain ⟨rfl, rfl, hM⟩ := hq
  refine zV_iload O dX7_addRule_8 rfl ?_
  refine zV_callS (as := [aI x4]) (st := []) O zc_X7_needSide (Or.inl zl_RX7_284) zi_1151 (Nat.le_of_ble_eq_true rfl) rfl rfl (Nat.le_of_ble_eq_true rfl) (Nat.le_of_ble_eq_true rfl) (Nat.le_of_ble_eq_true rfl) (Nat.le_of_ble_eq_true rfl) (Nat.le_of_ble_eq_true rfl) (Nat.le_of_ble_eq_true rfl) dX7_addRule_10 (sX7_needSide hM) (fun r h9 hq => ?_) (fun x h9 hq => by obtain ⟨rfl, hq⟩ := hq; exact zU_out O hq (Nat.le_of_ble_eq_true rfl) (Nat.le_of_ble_eq_true rfl))
  obtain ⟨rfl, rfl, hM⟩ := hq
  refine zV_aload_n O dX7_addRule_13 rfl rfl ?_
  refine zV_getR O zf_RX7_10 zt_169 rfl (by decide) dX7_addRule_14 ?_
  refine zV_getI O zf_RX7_107 (zN_o zisN_0) rfl (zN_lt0 zisN_0) dX7_addRule_17 ?_
  refine zV_bipush (z := 30) O ⟨by omega, by omega⟩ rfl dX7_addRule_20 ?_
  refine zV_icmp_lt (tgt := 28) O dX7_addRule_22 (by decide) (fun hc => ?_) (fun hc => ?_)
  · replace hM := hM.1 hc
    refine zV_aload_n O dX7_addRule_28 rfl rfl ?_
    refine zV_getR O zf_RX7_25 zt_169 rfl (by decide) dX7_addRule_29 ?_
    refine zV_aload_n O dX7_addRule_32 rfl rfl ?_
    refine zV_getR O zf_RX7_10 zt_169 rfl (by decide) dX7_addRule_33 ?_
    refine zV_callV (as := [aR 0]) (st := []) O zc_X0_add (Or.inr ⟨_, zl_RX7_249⟩) zi_637 zi_25 zt_170 rfl rfl (by decide) (Nat.le_of_ble_eq_true rfl) rfl rfl (Nat.le_of_ble_eq_true rfl) (Nat.le_of_ble_eq_true rfl) (Nat.le_of_ble_eq_true rfl) (Nat.le_of_ble_eq_true rfl) (Nat.le_of_ble_eq_true rfl) (Nat.le_of_ble_eq_true rfl) dX7_addRule_36 (sX0_add zisN_0 hM) (fun r h4 hq => ?_) (fun x h9 hq => hq.elim)
    obtain ⟨rfl, hM⟩ := hq
    refine zV_aload_n O dX7_addRule_39 rfl rfl ?_
    refine zV_getR O zf_RX7_10 zt_169 rfl (by decide) dX7_addRule_40 ?_
    refine zV_iload_n O dX7_addRule_43 rfl rfl ?_
    refine zV_iload_n O dX7_addRule_44 rfl rfl ?_
    refine zV_iload_n O dX7_addRule_45 rfl rfl ?_
    refine zV_iload O dX7_addRule_46 rfl ?_
    refine zV_callV (as := [aI x1, aI x2, aI x3, aI x4]) (st := []) O zc_X3_appendRule (Or.inr ⟨_, zl_RX7_287⟩) zi_959 zi_62 (zN_o zisN_0) rfl rfl (zN_lt0 zisN_0) (Nat.le_of_ble_eq_true rfl) rfl rfl (Nat.le_of_ble_eq_true rfl) (Nat.le_of_ble_eq_true rfl) (Nat.le_of_ble_eq_true rfl) (Nat.le_of_ble_eq_true rfl) (Nat.le_of_ble_eq_true rfl) (Nat.le_of_ble_eq_true rfl) dX7_addRule_48 (sX3_appendRule zisN_0 hM) (fun r h6 hq => ?_) (fun x h9 hq => hq.elim)
    obtain ⟨z5, rfl, hM⟩ := hq
    exact zV_iret O rfl ⟨_, rfl, hM⟩ (Nat.le_of_ble_eq_true rfl) (Nat.le_of_ble_eq_true rfl) dX7_addRule_51
  · replace hM := hM.2 hc
    refine zV_bipush (z := -2) O ⟨by omega, by omega⟩ rfl dX7_addRule_25 ?_
    exact zV_iret O rfl ⟨_, rfl, hM⟩ (Nat.le_of_ble_eq_true rfl) (Nat.le_of_ble_eq_true rfl) dX7_addRule_27
def mX7_allows (x1 : Int) (x2 : Int) (x3 : Int) (h : Hp) (Q : Int → Prop) (QX : Nat → Prop) : Prop := (mX7_needOffice x1 h ((mX7_needNumber x2 h ((mX7_needNumber x3 h ((mX3_decidingRule 0 x1 x2 x3 h (fun z3 => (mX3_isAllowing 0 z3 h (fun z4 => (Q z4)))))) QX)) QX)) QX)
set_option maxHeartbeats 4000000 in
set_option maxRecDepth 100000 in
theorem sX7_allows {l0 : Launch} {x1 : Int} {x2 : Int} {x3 : Int} {h : Hp} {Q : Int → Prop} {QX : Nat → Prop}  (hM : mX7_allows x1 x2 x3 h Q QX) : zSp l0 yX7_allows cX7_allows 5 (some .boolean) 185 (9) 3 18 [aR 169, aI x1, aI x2, aI x3] h (qPZ h Q) (xP h QX) := by
  unfold mX7_allows at hM
  refine zSp_intro zpn_RX7 (Nat.le_of_ble_eq_true rfl) (fun a O => ?_)
  show zV a (9, 3, 18, (qPZ h Q), (xP h QX)) 0 0 0 [some (aR 169), some (aI x1), some (aI x2), some (aI x3), none] [] h
  refine zV_iload_n O dX7_allows_0 rfl rfl ?_
  refine zV_callS (as := [aI x1]) (st := []) O zc_X7_needOffice (Or.inl zl_RX7_175) zi_1029 (Nat.le_of_ble_eq_true rfl) rfl rfl (Nat.le_of_ble_eq_true rfl) (Nat.le_of_ble_eq_true rfl) (Nat.le_of_ble_eq_true rfl) (Nat.le_of_ble_eq_true rfl) (Nat.le_of_ble_eq_true rfl) (Nat.le_of_ble_eq_true rfl) dX7_allows_1 (sX7_needOffice hM) (fun r h9 hq => ?_) (fun x h9 hq => by obtain ⟨rfl, hq⟩ := hq; exact zU_out O ⟨rfl, hq⟩ (Nat.le_of_ble_eq_true rfl) (Nat.le_of_ble_eq_true rfl))
  obtain ⟨rfl, rfl, hM⟩ := hq
  refine zV_iload_n O dX7_allows_4 rfl rfl ?_
  refine zV_callS (as := [aI x2]) (st := []) O zc_X7_needNumber (Or.inl zl_RX7_178) zi_1032 (Nat.le_of_ble_eq_true rfl) rfl rfl (Nat.le_of_ble_eq_true rfl) (Nat.le_of_ble_eq_true rfl) (Nat.le_of_ble_eq_true rfl) (Nat.le_of_ble_eq_true rfl) (Nat.le_of_ble_eq_true rfl) (Nat.le_of_ble_eq_true rfl) dX7_allows_5 (sX7_needNumber hM) (fun r h9 hq => ?_) (fun x h9 hq => by obtain ⟨rfl, hq⟩ := hq; exact zU_out O ⟨rfl, hq⟩ (Nat.le_of_ble_eq_true rfl) (Nat.le_of_ble_eq_true rfl))
  obtain ⟨rfl, rfl, hM⟩ := hq
  refine zV_iload_n O dX7_allows_8 rfl rfl ?_
  refine zV_callS (as := [aI x3]) (st := []) O zc_X7_needNumber (Or.inl zl_RX7_178) zi_1032 (Nat.le_of_ble_eq_true rfl) rfl rfl (Nat.le_of_ble_eq_true rfl) (Nat.le_of_ble_eq_true rfl) (Nat.le_of_ble_eq_true rfl) (Nat.le_of_ble_eq_true rfl) (Nat.le_of_ble_eq_true rfl) (Nat.le_of_ble_eq_true rfl) dX7_allows_9 (sX7_needNumber hM) (fun r h9 hq => ?_) (fun x h9 hq => by obtain ⟨rfl, hq⟩ := hq; exact zU_out O ⟨rfl, hq⟩ (Nat.le_of_ble_eq_true rfl) (Nat.le_of_ble_eq_true rfl))
  obtain ⟨rfl, rfl, hM⟩ := hq
  refine zV_aload_n O dX7_allows_12 rfl rfl ?_
  refine zV_getR O zf_RX7_10 zt_169 rfl (by decide) dX7_allows_13 ?_
  refine zV_iload_n O dX7_allows_16 rfl rfl ?_
  refine zV_iload_n O dX7_allows_17 rfl rfl ?_
  refine zV_iload_n O dX7_allows_18 rfl rfl ?_
  refine zV_callV (as := [aI x1, aI x2, aI x3]) (st := []) O zc_X3_decidingRule (Or.inr ⟨_, zl_RX7_212⟩) zi_1077 zi_69 (zN_o zisN_0) rfl rfl (zN_lt0 zisN_0) (Nat.le_of_ble_eq_true rfl) rfl rfl (Nat.le_of_ble_eq_true rfl) (Nat.le_of_ble_eq_true rfl) (Nat.le_of_ble_eq_true rfl) (Nat.le_of_ble_eq_true rfl) (Nat.le_of_ble_eq_true rfl) (Nat.le_of_ble_eq_true rfl) dX7_allows_19 (sX3_decidingRule zisN_0 hM) (fun r h9 hq => ?_) (fun x h9 hq => hq.elim)
  obtain ⟨rfl, z3, rfl, hM⟩ := hq
  refine zV_istore O dX7_allows_22 (Nat.le_of_ble_eq_true rfl) rfl ?_
  refine zV_aload_n O dX7_allows_24 rfl rfl ?_
  refine zV_getR O zf_RX7_10 zt_169 rfl (by decide) dX7_allows_25 ?_
  refine zV_iload O dX7_allows_28 rfl ?_
  refine zV_callV (as := [aI z3]) (st := []) O zc_X3_isAllowing (Or.inr ⟨_, zl_RX7_216⟩) zi_629 zi_24 (zN_o zisN_0) rfl rfl (zN_lt0 zisN_0) (Nat.le_of_ble_eq_true rfl) rfl rfl (Nat.le_of_ble_eq_true rfl) (Nat.le_of_ble_eq_true rfl) (Nat.le_of_ble_eq_true rfl) (Nat.le_of_ble_eq_true rfl) (Nat.le_of_ble_eq_true rfl) (Nat.le_of_ble_eq_true rfl) dX7_allows_30 (sX3_isAllowing zisN_0 hM) (fun r h9 hq => ?_) (fun x h9 hq => hq.elim)
  obtain ⟨rfl, z4, rfl, hzz4, hM⟩ := hq
  exact zV_zret O rfl hzz4 ⟨rfl, _, rfl, hzz4, hM⟩ (Nat.le_of_ble_eq_true rfl) (Nat.le_of_ble_eq_true rfl) dX7_allows_33
def mX7_decides (x1 : Int) (x2 : Int) (x3 : Int) (h : Hp) (Q : Int → Prop) (QX : Nat → Prop) : Prop := (mX7_needOffice x1 h ((mX7_needNumber x2 h ((mX7_needNumber x3 h ((mX3_decidingRule 0 x1 x2 x3 h (fun z2 => (Q z2)))) QX)) QX)) QX)
set_option maxHeartbeats 4000000 in
set_option maxRecDepth 100000 in
theorem sX7_decides {l0 : Launch} {x1 : Int} {x2 : Int} {x3 : Int} {h : Hp} {Q : Int → Prop} {QX : Nat → Prop}  (hM : mX7_decides x1 x2 x3 h Q QX) : zSp l0 yX7_decides cX7_decides 4 (some .int) 185 (9) 3 18 [aR 169, aI x1, aI x2, aI x3] h (qPI h Q) (xP h QX) := by
  unfold mX7_decides at hM
  refine zSp_intro zpn_RX7 (Nat.le_of_ble_eq_true rfl) (fun a O => ?_)
  show zV a (9, 3, 18, (qPI h Q), (xP h QX)) 0 0 0 [some (aR 169), some (aI x1), some (aI x2), some (aI x3)] [] h
  refine zV_iload_n O dX7_decides_0 rfl rfl ?_
  refine zV_callS (as := [aI x1]) (st := []) O zc_X7_needOffice (Or.inl zl_RX7_175) zi_1029 (Nat.le_of_ble_eq_true rfl) rfl rfl (Nat.le_of_ble_eq_true rfl) (Nat.le_of_ble_eq_true rfl) (Nat.le_of_ble_eq_true rfl) (Nat.le_of_ble_eq_true rfl) (Nat.le_of_ble_eq_true rfl) (Nat.le_of_ble_eq_true rfl) dX7_decides_1 (sX7_needOffice hM) (fun r h9 hq => ?_) (fun x h9 hq => by obtain ⟨rfl, hq⟩ := hq; exact zU_out O ⟨rfl, hq⟩ (Nat.le_of_ble_eq_true rfl) (Nat.le_of_ble_eq_true rfl))
  obtain ⟨rfl, rfl, hM⟩ := hq
  refine zV_iload_n O dX7_decides_4 rfl rfl ?_
  refine zV_callS (as := [aI x2]) (st := []) O zc_X7_needNumber (Or.inl zl_RX7_178) zi_1032 (Nat.le_of_ble_eq_true rfl) rfl rfl (Nat.le_of_ble_eq_true rfl) (Nat.le_of_ble_eq_true rfl) (Nat.le_of_ble_eq_true rfl) (Nat.le_of_ble_eq_true rfl) (Nat.le_of_ble_eq_true rfl) (Nat.le_of_ble_eq_true rfl) dX7_decides_5 (sX7_needNumber hM) (fun r h9 hq => ?_) (fun x h9 hq => by obtain ⟨rfl, hq⟩ := hq; exact zU_out O ⟨rfl, hq⟩ (Nat.le_of_ble_eq_true rfl) (Nat.le_of_ble_eq_true rfl))
  obtain ⟨rfl, rfl, hM⟩ := hq
  refine zV_iload_n O dX7_decides_8 rfl rfl ?_
  refine zV_callS (as := [aI x3]) (st := []) O zc_X7_needNumber (Or.inl zl_RX7_178) zi_1032 (Nat.le_of_ble_eq_true rfl) rfl rfl (Nat.le_of_ble_eq_true rfl) (Nat.le_of_ble_eq_true rfl) (Nat.le_of_ble_eq_true rfl) (Nat.le_of_ble_eq_true rfl) (Nat.le_of_ble_eq_true rfl) (Nat.le_of_ble_eq_true rfl) dX7_decides_9 (sX7_needNumber hM) (fun r h9 hq => ?_) (fun x h9 hq => by obtain ⟨rfl, hq⟩ := hq; exact zU_out O ⟨rfl, hq⟩ (Nat.le_of_ble_eq_true rfl) (Nat.le_of_ble_eq_true rfl))
  obtain ⟨rfl, rfl, hM⟩ := hq
  refine zV_aload_n O dX7_decides_12 rfl rfl ?_
  refine zV_getR O zf_RX7_10 zt_169 rfl (by decide) dX7_decides_13 ?_
  refine zV_iload_n O dX7_decides_16 rfl rfl ?_
  refine zV_iload_n O dX7_decides_17 rfl rfl ?_
  refine zV_iload_n O dX7_decides_18 rfl rfl ?_
  refine zV_callV (as := [aI x1, aI x2, aI x3]) (st := []) O zc_X3_decidingRule (Or.inr ⟨_, zl_RX7_212⟩) zi_1077 zi_69 (zN_o zisN_0) rfl rfl (zN_lt0 zisN_0) (Nat.le_of_ble_eq_true rfl) rfl rfl (Nat.le_of_ble_eq_true rfl) (Nat.le_of_ble_eq_true rfl) (Nat.le_of_ble_eq_true rfl) (Nat.le_of_ble_eq_true rfl) (Nat.le_of_ble_eq_true rfl) (Nat.le_of_ble_eq_true rfl) dX7_decides_19 (sX3_decidingRule zisN_0 hM) (fun r h9 hq => ?_) (fun x h9 hq => hq.elim)
  obtain ⟨rfl, z2, rfl, hM⟩ := hq
  exact zV_iret O rfl ⟨rfl, _, rfl, hM⟩ (Nat.le_of_ble_eq_true rfl) (Nat.le_of_ble_eq_true rfl) dX7_decides_22
def mX7_format_b185 (Q : Int → Hp → Prop) (QX : Nat → Hp → Prop) (h : Hp) : Prop := (Q (h 183 1) h)
set_option maxHeartbeats 4000000 in
set_option maxRecDepth 100000 in
theorem sX7_format_b185 {l0 : Launch} {a : ZC}  {Q : Int → Hp → Prop} {QX : Nat → Hp → Prop}  (O : zOk l0 a cX7_format RX7 3 (some .int) 185 [])    {h : Hp}  (hM : mX7_format_b185 Q QX h) : zV a (9, 1, 6, (qI Q), QX) 1 6 185 [some (aR 169), none, none] [] h := by
  unfold mX7_format_b185 at hM
  refine zV_aload_n O dX7_format_185 rfl rfl ?_
  refine zV_getR O zf_RX7_64 zt_169 rfl (by decide) dX7_format_186 ?_
  refine zV_getI O zf_RX7_305 zt_183 rfl (by decide) dX7_format_189 ?_
  exact zV_iret O rfl ⟨_, rfl, hM⟩ (Nat.le_of_ble_eq_true rfl) (Nat.le_of_ble_eq_true rfl) dX7_format_192
def mX7_format_b105 (Q : Int → Hp → Prop) (QX : Nat → Hp → Prop) (v1 : Int) (h : Hp) : Prop := (((0 : Int) ≤ v1 ∧ v1 < 40) ∧ (((rd h 6 v1) = 0 → (mX7_format_b185 Q QX h)) ∧ (¬ (rd h 6 v1) = 0 → (mX1_addSign 32 h (fun h22 => (mX1_addSign 62 h22 (fun h23 => (mX1_addSign 32 h23 (fun h24 => (((0 : Int) ≤ v1 ∧ v1 < 40) ∧ (mX1_addNumber (rd h24 5 v1) h24 (fun h25 => (mX1_addSign 64 h25 (fun h26 => (((0 : Int) ≤ v1 ∧ v1 < 40) ∧ (mX1_addNumber (rd h26 6 v1) h26 (fun h27 => (mX7_format_b185 Q QX h27))))))))))))))))))
set_option maxHeartbeats 4000000 in
set_option maxRecDepth 100000 in
theorem sX7_format_b105 {l0 : Launch} {a : ZC}  {Q : Int → Hp → Prop} {QX : Nat → Hp → Prop}  (O : zOk l0 a cX7_format RX7 3 (some .int) 185 [])   {v1 : Int} {h : Hp}  (hM : mX7_format_b105 Q QX v1 h) : zV a (9, 1, 6, (qI Q), QX) 1 6 105 [some (aR 169), some (aI v1), none] [] h := by
  unfold mX7_format_b105 at hM
  refine zV_aload_n O dX7_format_105 rfl rfl ?_
  refine zV_getR O zf_RX7_10 zt_169 rfl (by decide) dX7_format_106 ?_
  refine zV_getR O zf_RX7_161 (zN_o zisN_0) rfl (zN_lt0 zisN_0) dX7_format_109 ?_
  refine zV_iload_n O dX7_format_112 rfl rfl ?_
  obtain ⟨hc, hM⟩ := hM
  refine zV_iald O zt_6 (by decide) hc dX7_format_113 ?_
  refine zV_if_eq (tgt := 185) O dX7_format_114 (by decide) (fun hc => ?_) (fun hc => ?_)
  · replace hM := hM.1 hc
    refine zV_sub (ls2 := [some (aR 169), none, none]) ⟨rfl, trivial⟩ ?_
    exact sX7_format_b185 O hM
  · replace hM := hM.2 hc
    refine zV_aload_n O dX7_format_117 rfl rfl ?_
    refine zV_getR O zf_RX7_64 zt_169 rfl (by decide) dX7_format_118 ?_
    refine zV_bipush (z := 32) O ⟨by omega, by omega⟩ rfl dX7_format_121 ?_
    refine zV_callV (as := [aI 32]) (st := []) O zc_X1_addSign (Or.inr ⟨_, zl_RX7_299⟩) zi_1197 zi_76 zt_183 rfl rfl (by decide) (Nat.le_of_ble_eq_true rfl) rfl rfl (Nat.le_of_ble_eq_true rfl) (Nat.le_of_ble_eq_true rfl) (Nat.le_of_ble_eq_true rfl) (Nat.le_of_ble_eq_true rfl) (Nat.le_of_ble_eq_true rfl) (Nat.le_of_ble_eq_true rfl) dX7_format_123 (sX1_addSign hM) (fun r h22 hq => ?_) (fun x h9 hq => hq.elim)
    obtain ⟨rfl, hM⟩ := hq
    refine zV_aload_n O dX7_format_126 rfl rfl ?_
    refine zV_getR O zf_RX7_64 zt_169 rfl (by decide) dX7_format_127 ?_
    refine zV_bipush (z := 62) O ⟨by omega, by omega⟩ rfl dX7_format_130 ?_
    refine zV_callV (as := [aI 62]) (st := []) O zc_X1_addSign (Or.inr ⟨_, zl_RX7_299⟩) zi_1197 zi_76 zt_183 rfl rfl (by decide) (Nat.le_of_ble_eq_true rfl) rfl rfl (Nat.le_of_ble_eq_true rfl) (Nat.le_of_ble_eq_true rfl) (Nat.le_of_ble_eq_true rfl) (Nat.le_of_ble_eq_true rfl) (Nat.le_of_ble_eq_true rfl) (Nat.le_of_ble_eq_true rfl) dX7_format_132 (sX1_addSign hM) (fun r h23 hq => ?_) (fun x h9 hq => hq.elim)
    obtain ⟨rfl, hM⟩ := hq
    refine zV_aload_n O dX7_format_135 rfl rfl ?_
    refine zV_getR O zf_RX7_64 zt_169 rfl (by decide) dX7_format_136 ?_
    refine zV_bipush (z := 32) O ⟨by omega, by omega⟩ rfl dX7_format_139 ?_
    refine zV_callV (as := [aI 32]) (st := []) O zc_X1_addSign (Or.inr ⟨_, zl_RX7_299⟩) zi_1197 zi_76 zt_183 rfl rfl (by decide) (Nat.le_of_ble_eq_true rfl) rfl rfl (Nat.le_of_ble_eq_true rfl) (Nat.le_of_ble_eq_true rfl) (Nat.le_of_ble_eq_true rfl) (Nat.le_of_ble_eq_true rfl) (Nat.le_of_ble_eq_true rfl) (Nat.le_of_ble_eq_true rfl) dX7_format_141 (sX1_addSign hM) (fun r h24 hq => ?_) (fun x h9 hq => hq.elim)
    obtain ⟨rfl, hM⟩ := hq
    refine zV_aload_n O dX7_format_144 rfl rfl ?_
    refine zV_getR O zf_RX7_64 zt_169 rfl (by decide) dX7_format_145 ?_
    refine zV_aload_n O dX7_format_148 rfl rfl ?_
    refine zV_getR O zf_RX7_10 zt_169 rfl (by decide) dX7_format_149 ?_
    refine zV_getR O zf_RX7_158 (zN_o zisN_0) rfl (zN_lt0 zisN_0) dX7_format_152 ?_
    refine zV_iload_n O dX7_format_155 rfl rfl ?_
    obtain ⟨hc, hM⟩ := hM
    refine zV_iald O zt_5 (by decide) hc dX7_format_156 ?_
    refine zV_callV (as := [aI (rd h24 5 v1)]) (st := []) O zc_X1_addNumber (Or.inr ⟨_, zl_RX7_302⟩) zi_1202 zi_77 zt_183 rfl rfl (by decide) (Nat.le_of_ble_eq_true rfl) rfl rfl (Nat.le_of_ble_eq_true rfl) (Nat.le_of_ble_eq_true rfl) (Nat.le_of_ble_eq_true rfl) (Nat.le_of_ble_eq_true rfl) (Nat.le_of_ble_eq_true rfl) (Nat.le_of_ble_eq_true rfl) dX7_format_157 (sX1_addNumber hM) (fun r h25 hq => ?_) (fun x h9 hq => hq.elim)
    obtain ⟨rfl, hM⟩ := hq
    refine zV_aload_n O dX7_format_160 rfl rfl ?_
    refine zV_getR O zf_RX7_64 zt_169 rfl (by decide) dX7_format_161 ?_
    refine zV_bipush (z := 64) O ⟨by omega, by omega⟩ rfl dX7_format_164 ?_
    refine zV_callV (as := [aI 64]) (st := []) O zc_X1_addSign (Or.inr ⟨_, zl_RX7_299⟩) zi_1197 zi_76 zt_183 rfl rfl (by decide) (Nat.le_of_ble_eq_true rfl) rfl rfl (Nat.le_of_ble_eq_true rfl) (Nat.le_of_ble_eq_true rfl) (Nat.le_of_ble_eq_true rfl) (Nat.le_of_ble_eq_true rfl) (Nat.le_of_ble_eq_true rfl) (Nat.le_of_ble_eq_true rfl) dX7_format_166 (sX1_addSign hM) (fun r h26 hq => ?_) (fun x h9 hq => hq.elim)
    obtain ⟨rfl, hM⟩ := hq
    refine zV_aload_n O dX7_format_169 rfl rfl ?_
    refine zV_getR O zf_RX7_64 zt_169 rfl (by decide) dX7_format_170 ?_
    refine zV_aload_n O dX7_format_173 rfl rfl ?_
    refine zV_getR O zf_RX7_10 zt_169 rfl (by decide) dX7_format_174 ?_
    refine zV_getR O zf_RX7_161 (zN_o zisN_0) rfl (zN_lt0 zisN_0) dX7_format_177 ?_
    refine zV_iload_n O dX7_format_180 rfl rfl ?_
    obtain ⟨hc, hM⟩ := hM
    refine zV_iald O zt_6 (by decide) hc dX7_format_181 ?_
    refine zV_callV (as := [aI (rd h26 6 v1)]) (st := []) O zc_X1_addNumber (Or.inr ⟨_, zl_RX7_302⟩) zi_1202 zi_77 zt_183 rfl rfl (by decide) (Nat.le_of_ble_eq_true rfl) rfl rfl (Nat.le_of_ble_eq_true rfl) (Nat.le_of_ble_eq_true rfl) (Nat.le_of_ble_eq_true rfl) (Nat.le_of_ble_eq_true rfl) (Nat.le_of_ble_eq_true rfl) (Nat.le_of_ble_eq_true rfl) dX7_format_182 (sX1_addNumber hM) (fun r h27 hq => ?_) (fun x h9 hq => hq.elim)
    obtain ⟨rfl, hM⟩ := hq
    refine zV_sub (ls2 := [some (aR 169), none, none]) ⟨rfl, trivial⟩ ?_
    exact sX7_format_b185 O hM
def mX7_format_b83 (Q : Int → Hp → Prop) (QX : Nat → Hp → Prop) (v1 : Int) (h : Hp) : Prop := (((0 : Int) ≤ v1 ∧ v1 < 40) ∧ ((¬ (rd h 4 v1) = (1 : Int) → (mX7_format_b105 Q QX v1 h)) ∧ ((rd h 4 v1) = (1 : Int) → (mX1_addSign 33 h (fun h28 => (mX7_format_b105 Q QX v1 h28))))))
set_option maxHeartbeats 4000000 in
set_option maxRecDepth 100000 in
theorem sX7_format_b83 {l0 : Launch} {a : ZC}  {Q : Int → Hp → Prop} {QX : Nat → Hp → Prop}  (O : zOk l0 a cX7_format RX7 3 (some .int) 185 [])   {v1 : Int} {h : Hp}  (hM : mX7_format_b83 Q QX v1 h) : zV a (9, 1, 6, (qI Q), QX) 1 6 83 [some (aR 169), some (aI v1), none] [] h := by
  unfold mX7_format_b83 at hM
  refine zV_aload_n O dX7_format_83 rfl rfl ?_
  refine zV_getR O zf_RX7_10 zt_169 rfl (by decide) dX7_format_84 ?_
  refine zV_getR O zf_RX7_155 (zN_o zisN_0) rfl (zN_lt0 zisN_0) dX7_format_87 ?_
  refine zV_iload_n O dX7_format_90 rfl rfl ?_
  obtain ⟨hc, hM⟩ := hM
  refine zV_iald O zt_4 (by decide) hc dX7_format_91 ?_
  refine zV_iconst (z := 1) O ⟨by omega, by omega⟩ dX7_format_92 ?_
  refine zV_icmp_ne (tgt := 105) O dX7_format_93 (by decide) (fun hc => ?_) (fun hc => ?_)
  · replace hM := hM.1 hc
    exact sX7_format_b105 O hM
  · replace hM := hM.2 hc
    refine zV_aload_n O dX7_format_96 rfl rfl ?_
    refine zV_getR O zf_RX7_64 zt_169 rfl (by decide) dX7_format_97 ?_
    refine zV_bipush (z := 33) O ⟨by omega, by omega⟩ rfl dX7_format_100 ?_
    refine zV_callV (as := [aI 33]) (st := []) O zc_X1_addSign (Or.inr ⟨_, zl_RX7_299⟩) zi_1197 zi_76 zt_183 rfl rfl (by decide) (Nat.le_of_ble_eq_true rfl) rfl rfl (Nat.le_of_ble_eq_true rfl) (Nat.le_of_ble_eq_true rfl) (Nat.le_of_ble_eq_true rfl) (Nat.le_of_ble_eq_true rfl) (Nat.le_of_ble_eq_true rfl) (Nat.le_of_ble_eq_true rfl) dX7_format_102 (sX1_addSign hM) (fun r h28 hq => ?_) (fun x h9 hq => hq.elim)
    obtain ⟨rfl, hM⟩ := hq
    exact sX7_format_b105 O hM
def mX7_format (x1 : Int) (h : Hp) (Q : Int → Hp → Prop) (QX : Nat → Hp → Prop) : Prop := (mX7_needHost x1 h ((mX1_clear h (fun h29 => (((0 : Int) ≤ x1 ∧ x1 < 40) ∧ (mX1_addName (rd h29 1 x1) h29 (fun h30 => (mX1_addSign 32 h30 (fun h31 => (((0 : Int) ≤ x1 ∧ x1 < 40) ∧ (mX1_addNumber (rd h31 3 x1) h31 (fun h32 => (mX3_keptBy 0 x1 h32 (fun z33 => ((z33 = 0 → (mX7_format_b83 Q QX x1 h32)) ∧ (¬ z33 = 0 → (mX1_addSign 43 h32 (fun h34 => (mX1_addNumber z33 h34 (fun h35 => (mX7_format_b83 Q QX x1 h35)))))))))))))))))))) (fun x => QX x h))
set_option maxHeartbeats 4000000 in
set_option maxRecDepth 100000 in
theorem sX7_format {l0 : Launch} {x1 : Int} {h : Hp} {Q : Int → Hp → Prop} {QX : Nat → Hp → Prop}  (hM : mX7_format x1 h Q QX) : zSp l0 yX7_format cX7_format 3 (some .int) 185 (9) 1 6 [aR 169, aI x1] h (qI Q) QX := by
  unfold mX7_format at hM
  refine zSp_intro zpn_RX7 (Nat.le_of_ble_eq_true rfl) (fun a O => ?_)
  show zV a (9, 1, 6, (qI Q), QX) 0 0 0 [some (aR 169), some (aI x1), none] [] h
  refine zV_aload_n O dX7_format_0 rfl rfl ?_
  refine zV_iload_n O dX7_format_1 rfl rfl ?_
  refine zV_callV (as := [aI x1]) (st := []) O zc_X7_needHost (Or.inl zl_RX7_141) zi_1008 zi_66 zt_169 rfl rfl (by decide) (Nat.le_of_ble_eq_true rfl) rfl rfl (Nat.le_of_ble_eq_true rfl) (Nat.le_of_ble_eq_true rfl) (Nat.le_of_ble_eq_true rfl) (Nat.le_of_ble_eq_true rfl) (Nat.le_of_ble_eq_true rfl) (Nat.le_of_ble_eq_true rfl) dX7_format_2 (sX7_needHost hM) (fun r h9 hq => ?_) (fun x h9 hq => by obtain ⟨rfl, hq⟩ := hq; exact zU_out O hq (Nat.le_of_ble_eq_true rfl) (Nat.le_of_ble_eq_true rfl))
  obtain ⟨rfl, rfl, hM⟩ := hq
  refine zV_aload_n O dX7_format_5 rfl rfl ?_
  refine zV_getR O zf_RX7_64 zt_169 rfl (by decide) dX7_format_6 ?_
  refine zV_callV (as := []) (st := []) O zc_X1_clear (Or.inr ⟨_, zl_RX7_294⟩) zi_1188 zi_74 zt_183 rfl rfl (by decide) (Nat.le_of_ble_eq_true rfl) rfl rfl (Nat.le_of_ble_eq_true rfl) (Nat.le_of_ble_eq_true rfl) (Nat.le_of_ble_eq_true rfl) (Nat.le_of_ble_eq_true rfl) (Nat.le_of_ble_eq_true rfl) (Nat.le_of_ble_eq_true rfl) dX7_format_9 (sX1_clear hM) (fun r h29 hq => ?_) (fun x h9 hq => hq.elim)
  obtain ⟨rfl, hM⟩ := hq
  refine zV_aload_n O dX7_format_12 rfl rfl ?_
  refine zV_getR O zf_RX7_64 zt_169 rfl (by decide) dX7_format_13 ?_
  refine zV_aload_n O dX7_format_16 rfl rfl ?_
  refine zV_getR O zf_RX7_10 zt_169 rfl (by decide) dX7_format_17 ?_
  refine zV_getR O zf_RX7_167 (zN_o zisN_0) rfl (zN_lt0 zisN_0) dX7_format_20 ?_
  refine zV_iload_n O dX7_format_23 rfl rfl ?_
  obtain ⟨hc, hM⟩ := hM
  refine zV_lald O zt_1 (by decide) hc dX7_format_24 ?_
  refine zV_callV (as := [aL (rd h29 1 x1)]) (st := []) O zc_X1_addName (Or.inr ⟨_, zl_RX7_295⟩) zi_1192 zi_75 zt_183 rfl rfl (by decide) (Nat.le_of_ble_eq_true rfl) rfl rfl (Nat.le_of_ble_eq_true rfl) (Nat.le_of_ble_eq_true rfl) (Nat.le_of_ble_eq_true rfl) (Nat.le_of_ble_eq_true rfl) (Nat.le_of_ble_eq_true rfl) (Nat.le_of_ble_eq_true rfl) dX7_format_25 (sX1_addName hM) (fun r h30 hq => ?_) (fun x h9 hq => hq.elim)
  obtain ⟨rfl, hM⟩ := hq
  refine zV_aload_n O dX7_format_28 rfl rfl ?_
  refine zV_getR O zf_RX7_64 zt_169 rfl (by decide) dX7_format_29 ?_
  refine zV_bipush (z := 32) O ⟨by omega, by omega⟩ rfl dX7_format_32 ?_
  refine zV_callV (as := [aI 32]) (st := []) O zc_X1_addSign (Or.inr ⟨_, zl_RX7_299⟩) zi_1197 zi_76 zt_183 rfl rfl (by decide) (Nat.le_of_ble_eq_true rfl) rfl rfl (Nat.le_of_ble_eq_true rfl) (Nat.le_of_ble_eq_true rfl) (Nat.le_of_ble_eq_true rfl) (Nat.le_of_ble_eq_true rfl) (Nat.le_of_ble_eq_true rfl) (Nat.le_of_ble_eq_true rfl) dX7_format_34 (sX1_addSign hM) (fun r h31 hq => ?_) (fun x h9 hq => hq.elim)
  obtain ⟨rfl, hM⟩ := hq
  refine zV_aload_n O dX7_format_37 rfl rfl ?_
  refine zV_getR O zf_RX7_64 zt_169 rfl (by decide) dX7_format_38 ?_
  refine zV_aload_n O dX7_format_41 rfl rfl ?_
  refine zV_getR O zf_RX7_10 zt_169 rfl (by decide) dX7_format_42 ?_
  refine zV_getR O zf_RX7_148 (zN_o zisN_0) rfl (zN_lt0 zisN_0) dX7_format_45 ?_
  refine zV_iload_n O dX7_format_48 rfl rfl ?_
  obtain ⟨hc, hM⟩ := hM
  refine zV_iald O zt_3 (by decide) hc dX7_format_49 ?_
  refine zV_callV (as := [aI (rd h31 3 x1)]) (st := []) O zc_X1_addNumber (Or.inr ⟨_, zl_RX7_302⟩) zi_1202 zi_77 zt_183 rfl rfl (by decide) (Nat.le_of_ble_eq_true rfl) rfl rfl (Nat.le_of_ble_eq_true rfl) (Nat.le_of_ble_eq_true rfl) (Nat.le_of_ble_eq_true rfl) (Nat.le_of_ble_eq_true rfl) (Nat.le_of_ble_eq_true rfl) (Nat.le_of_ble_eq_true rfl) dX7_format_50 (sX1_addNumber hM) (fun r h32 hq => ?_) (fun x h9 hq => hq.elim)
  obtain ⟨rfl, hM⟩ := hq
  refine zV_aload_n O dX7_format_53 rfl rfl ?_
  refine zV_getR O zf_RX7_10 zt_169 rfl (by decide) dX7_format_54 ?_
  refine zV_iload_n O dX7_format_57 rfl rfl ?_
  refine zV_callV (as := [aI x1]) (st := []) O zc_X3_keptBy (Or.inr ⟨_, zl_RX7_151⟩) zi_505 zi_3 (zN_o zisN_0) rfl rfl (zN_lt0 zisN_0) (Nat.le_of_ble_eq_true rfl) rfl rfl (Nat.le_of_ble_eq_true rfl) (Nat.le_of_ble_eq_true rfl) (Nat.le_of_ble_eq_true rfl) (Nat.le_of_ble_eq_true rfl) (Nat.le_of_ble_eq_true rfl) (Nat.le_of_ble_eq_true rfl) dX7_format_58 (sX3_keptBy zisN_0 hM) (fun r h9 hq => ?_) (fun x h9 hq => hq.elim)
  obtain ⟨rfl, z33, rfl, hM⟩ := hq
  refine zV_istore_n O dX7_format_61 rfl (Nat.le_of_ble_eq_true rfl) rfl ?_
  refine zV_iload_n O dX7_format_62 rfl rfl ?_
  refine zV_if_eq (tgt := 83) O dX7_format_63 (by decide) (fun hc => ?_) (fun hc => ?_)
  · replace hM := hM.1 hc
    refine zV_sub (ls2 := [some (aR 169), some (aI x1), none]) ⟨rfl, rfl, trivial⟩ ?_
    exact sX7_format_b83 O hM
  · replace hM := hM.2 hc
    refine zV_aload_n O dX7_format_66 rfl rfl ?_
    refine zV_getR O zf_RX7_64 zt_169 rfl (by decide) dX7_format_67 ?_
    refine zV_bipush (z := 43) O ⟨by omega, by omega⟩ rfl dX7_format_70 ?_
    refine zV_callV (as := [aI 43]) (st := []) O zc_X1_addSign (Or.inr ⟨_, zl_RX7_299⟩) zi_1197 zi_76 zt_183 rfl rfl (by decide) (Nat.le_of_ble_eq_true rfl) rfl rfl (Nat.le_of_ble_eq_true rfl) (Nat.le_of_ble_eq_true rfl) (Nat.le_of_ble_eq_true rfl) (Nat.le_of_ble_eq_true rfl) (Nat.le_of_ble_eq_true rfl) (Nat.le_of_ble_eq_true rfl) dX7_format_72 (sX1_addSign hM) (fun r h34 hq => ?_) (fun x h9 hq => hq.elim)
    obtain ⟨rfl, hM⟩ := hq
    refine zV_aload_n O dX7_format_75 rfl rfl ?_
    refine zV_getR O zf_RX7_64 zt_169 rfl (by decide) dX7_format_76 ?_
    refine zV_iload_n O dX7_format_79 rfl rfl ?_
    refine zV_callV (as := [aI z33]) (st := []) O zc_X1_addNumber (Or.inr ⟨_, zl_RX7_302⟩) zi_1202 zi_77 zt_183 rfl rfl (by decide) (Nat.le_of_ble_eq_true rfl) rfl rfl (Nat.le_of_ble_eq_true rfl) (Nat.le_of_ble_eq_true rfl) (Nat.le_of_ble_eq_true rfl) (Nat.le_of_ble_eq_true rfl) (Nat.le_of_ble_eq_true rfl) (Nat.le_of_ble_eq_true rfl) dX7_format_80 (sX1_addNumber hM) (fun r h35 hq => ?_) (fun x h9 hq => hq.elim)
    obtain ⟨rfl, hM⟩ := hq
    refine zV_sub (ls2 := [some (aR 169), some (aI x1), none]) ⟨rfl, rfl, trivial⟩ ?_
    exact sX7_format_b83 O hM
def mX7_holder (x1 : Int) (x2 : Int) (h : Hp) (Q : Int → Prop) (QX : Nat → Prop) : Prop := (mX7_needOffice x1 h ((mX7_needNumber x2 h ((mX3_holderInOffice 0 x1 x2 h (fun z2 => (Q z2)))) QX)) QX)
set_option maxHeartbeats 4000000 in
set_option maxRecDepth 100000 in
theorem sX7_holder {l0 : Launch} {x1 : Int} {x2 : Int} {h : Hp} {Q : Int → Prop} {QX : Nat → Prop}  (hM : mX7_holder x1 x2 h Q QX) : zSp l0 yX7_holder cX7_holder 3 (some .int) 185 (9) 2 12 [aR 169, aI x1, aI x2] h (qPI h Q) (xP h QX) := by
  unfold mX7_holder at hM
  refine zSp_intro zpn_RX7 (Nat.le_of_ble_eq_true rfl) (fun a O => ?_)
  show zV a (9, 2, 12, (qPI h Q), (xP h QX)) 0 0 0 [some (aR 169), some (aI x1), some (aI x2)] [] h
  refine zV_iload_n O dX7_holder_0 rfl rfl ?_
  refine zV_callS (as := [aI x1]) (st := []) O zc_X7_needOffice (Or.inl zl_RX7_175) zi_1029 (Nat.le_of_ble_eq_true rfl) rfl rfl (Nat.le_of_ble_eq_true rfl) (Nat.le_of_ble_eq_true rfl) (Nat.le_of_ble_eq_true rfl) (Nat.le_of_ble_eq_true rfl) (Nat.le_of_ble_eq_true rfl) (Nat.le_of_ble_eq_true rfl) dX7_holder_1 (sX7_needOffice hM) (fun r h9 hq => ?_) (fun x h9 hq => by obtain ⟨rfl, hq⟩ := hq; exact zU_out O ⟨rfl, hq⟩ (Nat.le_of_ble_eq_true rfl) (Nat.le_of_ble_eq_true rfl))
  obtain ⟨rfl, rfl, hM⟩ := hq
  refine zV_iload_n O dX7_holder_4 rfl rfl ?_
  refine zV_callS (as := [aI x2]) (st := []) O zc_X7_needNumber (Or.inl zl_RX7_178) zi_1032 (Nat.le_of_ble_eq_true rfl) rfl rfl (Nat.le_of_ble_eq_true rfl) (Nat.le_of_ble_eq_true rfl) (Nat.le_of_ble_eq_true rfl) (Nat.le_of_ble_eq_true rfl) (Nat.le_of_ble_eq_true rfl) (Nat.le_of_ble_eq_true rfl) dX7_holder_5 (sX7_needNumber hM) (fun r h9 hq => ?_) (fun x h9 hq => by obtain ⟨rfl, hq⟩ := hq; exact zU_out O ⟨rfl, hq⟩ (Nat.le_of_ble_eq_true rfl) (Nat.le_of_ble_eq_true rfl))
  obtain ⟨rfl, rfl, hM⟩ := hq
  refine zV_aload_n O dX7_holder_8 rfl rfl ?_
  refine zV_getR O zf_RX7_10 zt_169 rfl (by decide) dX7_holder_9 ?_
  refine zV_iload_n O dX7_holder_12 rfl rfl ?_
  refine zV_iload_n O dX7_holder_13 rfl rfl ?_
  refine zV_callV (as := [aI x1, aI x2]) (st := []) O zc_X3_holderInOffice (Or.inr ⟨_, zl_RX7_181⟩) zi_938 zi_58 (zN_o zisN_0) rfl rfl (zN_lt0 zisN_0) (Nat.le_of_ble_eq_true rfl) rfl rfl (Nat.le_of_ble_eq_true rfl) (Nat.le_of_ble_eq_true rfl) (Nat.le_of_ble_eq_true rfl) (Nat.le_of_ble_eq_true rfl) (Nat.le_of_ble_eq_true rfl) (Nat.le_of_ble_eq_true rfl) dX7_holder_14 (sX3_holderInOffice zisN_0 hM) (fun r h9 hq => ?_) (fun x h9 hq => hq.elim)
  obtain ⟨rfl, z2, rfl, hM⟩ := hq
  exact zV_iret O rfl ⟨rfl, _, rfl, hM⟩ (Nat.le_of_ble_eq_true rfl) (Nat.le_of_ble_eq_true rfl) dX7_holder_17
def mX7_host (x1 : Int) (x2 : Int) (h : Hp) (Q : Int → Prop) (QX : Nat → Prop) : Prop := (mX7_needHost x1 h (((x2 = 0 → (((0 : Int) ≤ x1 ∧ x1 < 40) ∧ (Q (rd h 2 x1)))) ∧ (x2 = 1 → (((0 : Int) ≤ x1 ∧ x1 < 40) ∧ (Q (rd h 3 x1)))) ∧ (x2 = 2 → (mX3_keptBy 0 x1 h (fun z2 => (Q z2)))) ∧ (x2 = 3 → (((0 : Int) ≤ x1 ∧ x1 < 40) ∧ (Q (rd h 4 x1)))) ∧ (x2 = 4 → (((0 : Int) ≤ x1 ∧ x1 < 40) ∧ (Q (rd h 5 x1)))) ∧ (x2 = 5 → (((0 : Int) ≤ x1 ∧ x1 < 40) ∧ (Q (rd h 6 x1)))) ∧ (x2 = 6 → (((0 : Int) ≤ x1 ∧ x1 < 40) ∧ (Q (rd h 7 x1)))) ∧ ((x2 < 0 ∨ 6 < x2) → (QX 1)))) QX)
set_option maxHeartbeats 4000000 in
set_option maxRecDepth 100000 in
theorem sX7_host {l0 : Launch} {x1 : Int} {x2 : Int} {h : Hp} {Q : Int → Prop} {QX : Nat → Prop}  (hM : mX7_host x1 x2 h Q QX) : zSp l0 yX7_host cX7_host 3 (some .int) 185 (9) 2 12 [aR 169, aI x1, aI x2] h (qPI h Q) (xP h QX) := by
  unfold mX7_host at hM
  refine zSp_intro zpn_RX7 (Nat.le_of_ble_eq_true rfl) (fun a O => ?_)
  show zV a (9, 2, 12, (qPI h Q), (xP h QX)) 0 0 0 [some (aR 169), some (aI x1), some (aI x2)] [] h
  refine zV_aload_n O dX7_host_0 rfl rfl ?_
  refine zV_iload_n O dX7_host_1 rfl rfl ?_
  refine zV_callV (as := [aI x1]) (st := []) O zc_X7_needHost (Or.inl zl_RX7_141) zi_1008 zi_66 zt_169 rfl rfl (by decide) (Nat.le_of_ble_eq_true rfl) rfl rfl (Nat.le_of_ble_eq_true rfl) (Nat.le_of_ble_eq_true rfl) (Nat.le_of_ble_eq_true rfl) (Nat.le_of_ble_eq_true rfl) (Nat.le_of_ble_eq_true rfl) (Nat.le_of_ble_eq_true rfl) dX7_host_2 (sX7_needHost hM) (fun r h9 hq => ?_) (fun x h9 hq => by obtain ⟨rfl, hq⟩ := hq; exact zU_out O ⟨rfl, hq⟩ (Nat.le_of_ble_eq_true rfl) (Nat.le_of_ble_eq_true rfl))
  obtain ⟨rfl, rfl, hM⟩ := hq
  refine zV_iload_n O dX7_host_5 rfl rfl ?_
  by_cases hc0 : x2 = 0
  · replace hM := hM.1 hc0
    refine zV_tableIn (tgt := 48) O dX7_host_6 (by omega) (by omega) (by rw [hc0]; rfl) (by decide) ?_
    refine zV_aload_n O dX7_host_48 rfl rfl ?_
    refine zV_getR O zf_RX7_10 zt_169 rfl (by decide) dX7_host_49 ?_
    refine zV_getR O zf_RX7_144 (zN_o zisN_0) rfl (zN_lt0 zisN_0) dX7_host_52 ?_
    refine zV_iload_n O dX7_host_55 rfl rfl ?_
    obtain ⟨hc, hM⟩ := hM
    refine zV_iald O zt_2 (by decide) hc dX7_host_56 ?_
    exact zV_iret O rfl ⟨rfl, _, rfl, hM⟩ (Nat.le_of_ble_eq_true rfl) (Nat.le_of_ble_eq_true rfl) dX7_host_57
  by_cases hc1 : x2 = 1
  · replace hM := hM.2.1 hc1
    refine zV_tableIn (tgt := 58) O dX7_host_6 (by omega) (by omega) (by rw [hc1]; rfl) (by decide) ?_
    refine zV_aload_n O dX7_host_58 rfl rfl ?_
    refine zV_getR O zf_RX7_10 zt_169 rfl (by decide) dX7_host_59 ?_
    refine zV_getR O zf_RX7_148 (zN_o zisN_0) rfl (zN_lt0 zisN_0) dX7_host_62 ?_
    refine zV_iload_n O dX7_host_65 rfl rfl ?_
    obtain ⟨hc, hM⟩ := hM
    refine zV_iald O zt_3 (by decide) hc dX7_host_66 ?_
    exact zV_iret O rfl ⟨rfl, _, rfl, hM⟩ (Nat.le_of_ble_eq_true rfl) (Nat.le_of_ble_eq_true rfl) dX7_host_67
  by_cases hc2 : x2 = 2
  · replace hM := hM.2.2.1 hc2
    refine zV_tableIn (tgt := 68) O dX7_host_6 (by omega) (by omega) (by rw [hc2]; rfl) (by decide) ?_
    refine zV_aload_n O dX7_host_68 rfl rfl ?_
    refine zV_getR O zf_RX7_10 zt_169 rfl (by decide) dX7_host_69 ?_
    refine zV_iload_n O dX7_host_72 rfl rfl ?_
    refine zV_callV (as := [aI x1]) (st := []) O zc_X3_keptBy (Or.inr ⟨_, zl_RX7_151⟩) zi_505 zi_3 (zN_o zisN_0) rfl rfl (zN_lt0 zisN_0) (Nat.le_of_ble_eq_true rfl) rfl rfl (Nat.le_of_ble_eq_true rfl) (Nat.le_of_ble_eq_true rfl) (Nat.le_of_ble_eq_true rfl) (Nat.le_of_ble_eq_true rfl) (Nat.le_of_ble_eq_true rfl) (Nat.le_of_ble_eq_true rfl) dX7_host_73 (sX3_keptBy zisN_0 hM) (fun r h9 hq => ?_) (fun x h9 hq => hq.elim)
    obtain ⟨rfl, z2, rfl, hM⟩ := hq
    exact zV_iret O rfl ⟨rfl, _, rfl, hM⟩ (Nat.le_of_ble_eq_true rfl) (Nat.le_of_ble_eq_true rfl) dX7_host_76
  by_cases hc3 : x2 = 3
  · replace hM := hM.2.2.2.1 hc3
    refine zV_tableIn (tgt := 77) O dX7_host_6 (by omega) (by omega) (by rw [hc3]; rfl) (by decide) ?_
    refine zV_aload_n O dX7_host_77 rfl rfl ?_
    refine zV_getR O zf_RX7_10 zt_169 rfl (by decide) dX7_host_78 ?_
    refine zV_getR O zf_RX7_155 (zN_o zisN_0) rfl (zN_lt0 zisN_0) dX7_host_81 ?_
    refine zV_iload_n O dX7_host_84 rfl rfl ?_
    obtain ⟨hc, hM⟩ := hM
    refine zV_iald O zt_4 (by decide) hc dX7_host_85 ?_
    exact zV_iret O rfl ⟨rfl, _, rfl, hM⟩ (Nat.le_of_ble_eq_true rfl) (Nat.le_of_ble_eq_true rfl) dX7_host_86
  by_cases hc4 : x2 = 4
  · replace hM := hM.2.2.2.2.1 hc4
    refine zV_tableIn (tgt := 87) O dX7_host_6 (by omega) (by omega) (by rw [hc4]; rfl) (by decide) ?_
    refine zV_aload_n O dX7_host_87 rfl rfl ?_
    refine zV_getR O zf_RX7_10 zt_169 rfl (by decide) dX7_host_88 ?_
    refine zV_getR O zf_RX7_158 (zN_o zisN_0) rfl (zN_lt0 zisN_0) dX7_host_91 ?_
    refine zV_iload_n O dX7_host_94 rfl rfl ?_
    obtain ⟨hc, hM⟩ := hM
    refine zV_iald O zt_5 (by decide) hc dX7_host_95 ?_
    exact zV_iret O rfl ⟨rfl, _, rfl, hM⟩ (Nat.le_of_ble_eq_true rfl) (Nat.le_of_ble_eq_true rfl) dX7_host_96
  by_cases hc5 : x2 = 5
  · replace hM := hM.2.2.2.2.2.1 hc5
    refine zV_tableIn (tgt := 97) O dX7_host_6 (by omega) (by omega) (by rw [hc5]; rfl) (by decide) ?_
    refine zV_aload_n O dX7_host_97 rfl rfl ?_
    refine zV_getR O zf_RX7_10 zt_169 rfl (by decide) dX7_host_98 ?_
    refine zV_getR O zf_RX7_161 (zN_o zisN_0) rfl (zN_lt0 zisN_0) dX7_host_101 ?_
    refine zV_iload_n O dX7_host_104 rfl rfl ?_
    obtain ⟨hc, hM⟩ := hM
    refine zV_iald O zt_6 (by decide) hc dX7_host_105 ?_
    exact zV_iret O rfl ⟨rfl, _, rfl, hM⟩ (Nat.le_of_ble_eq_true rfl) (Nat.le_of_ble_eq_true rfl) dX7_host_106
  by_cases hc6 : x2 = 6
  · replace hM := hM.2.2.2.2.2.2.1 hc6
    refine zV_tableIn (tgt := 107) O dX7_host_6 (by omega) (by omega) (by rw [hc6]; rfl) (by decide) ?_
    refine zV_aload_n O dX7_host_107 rfl rfl ?_
    refine zV_getR O zf_RX7_10 zt_169 rfl (by decide) dX7_host_108 ?_
    refine zV_getR O zf_RX7_164 (zN_o zisN_0) rfl (zN_lt0 zisN_0) dX7_host_111 ?_
    refine zV_iload_n O dX7_host_114 rfl rfl ?_
    obtain ⟨hc, hM⟩ := hM
    refine zV_iald O zt_7 (by decide) hc dX7_host_115 ?_
    exact zV_iret O rfl ⟨rfl, _, rfl, hM⟩ (Nat.le_of_ble_eq_true rfl) (Nat.le_of_ble_eq_true rfl) dX7_host_116
  have hc : x2 < 0 ∨ 6 < x2 := by omega
  replace hM := hM.2.2.2.2.2.2.2 hc
  refine zV_tableOut (tgt := 117) O dX7_host_6 hc (by decide) ?_
  exact zV_throw (x := 1) O (by decide) (by decide) zth_RX7_138.1 zth_RX7_138.2.1 zth_RX7_138.2.2.1 zth_RX7_138.2.2.2 dX7_host_117 dX7_host_120 dX7_host_121 dX7_host_124 (Nat.le_of_ble_eq_true rfl) (Nat.le_of_ble_eq_true rfl) ⟨rfl, hM⟩ (Nat.le_of_ble_eq_true rfl) (Nat.le_of_ble_eq_true rfl)
def mX7_name (x1 : Int) (x2 : Int) (h : Hp) (Q : Int → Prop) (QX : Nat → Prop) : Prop := (mX7_needHost x1 h (((x2 < 0 → (Q (-1))) ∧ (¬ x2 < 0 → ((x2 < (8 : Int) → (((0 : Int) ≤ x1 ∧ x1 < 40) ∧ (mX7_letterOf (rd h 1 x1) x2 h (fun z2 => ((¬ z2 = 0 → (Q z2)) ∧ (z2 = 0 → (Q (-1)))))))) ∧ (¬ x2 < (8 : Int) → (Q (-1))))))) QX)
set_option maxHeartbeats 4000000 in
set_option maxRecDepth 100000 in
theorem sX7_name {l0 : Launch} {x1 : Int} {x2 : Int} {h : Hp} {Q : Int → Prop} {QX : Nat → Prop}  (hM : mX7_name x1 x2 h Q QX) : zSp l0 yX7_name cX7_name 4 (some .int) 185 (9) 1 6 [aR 169, aI x1, aI x2] h (qPI h Q) (xP h QX) := by
  unfold mX7_name at hM
  refine zSp_intro zpn_RX7 (Nat.le_of_ble_eq_true rfl) (fun a O => ?_)
  show zV a (9, 1, 6, (qPI h Q), (xP h QX)) 0 0 0 [some (aR 169), some (aI x1), some (aI x2), none] [] h
  refine zV_aload_n O dX7_name_0 rfl rfl ?_
  refine zV_iload_n O dX7_name_1 rfl rfl ?_
  refine zV_callV (as := [aI x1]) (st := []) O zc_X7_needHost (Or.inl zl_RX7_141) zi_1008 zi_66 zt_169 rfl rfl (by decide) (Nat.le_of_ble_eq_true rfl) rfl rfl (Nat.le_of_ble_eq_true rfl) (Nat.le_of_ble_eq_true rfl) (Nat.le_of_ble_eq_true rfl) (Nat.le_of_ble_eq_true rfl) (Nat.le_of_ble_eq_true rfl) (Nat.le_of_ble_eq_true rfl) dX7_name_2 (sX7_needHost hM) (fun r h9 hq => ?_) (fun x h9 hq => by obtain ⟨rfl, hq⟩ := hq; exact zU_out O ⟨rfl, hq⟩ (Nat.le_of_ble_eq_true rfl) (Nat.le_of_ble_eq_true rfl))
  obtain ⟨rfl, rfl, hM⟩ := hq
  refine zV_iload_n O dX7_name_5 rfl rfl ?_
  refine zV_if_lt (tgt := 15) O dX7_name_6 (by decide) (fun hc => ?_) (fun hc => ?_)
  · replace hM := hM.1 hc
    refine zV_iconst (z := -1) O ⟨by omega, by omega⟩ dX7_name_15 ?_
    exact zV_iret O rfl ⟨rfl, _, rfl, hM⟩ (Nat.le_of_ble_eq_true rfl) (Nat.le_of_ble_eq_true rfl) dX7_name_16
  · replace hM := hM.2 hc
    refine zV_iload_n O dX7_name_9 rfl rfl ?_
    refine zV_bipush (z := 8) O ⟨by omega, by omega⟩ rfl dX7_name_10 ?_
    refine zV_icmp_lt (tgt := 17) O dX7_name_12 (by decide) (fun hc => ?_) (fun hc => ?_)
    · replace hM := hM.1 hc
      refine zV_aload_n O dX7_name_17 rfl rfl ?_
      refine zV_getR O zf_RX7_10 zt_169 rfl (by decide) dX7_name_18 ?_
      refine zV_getR O zf_RX7_167 (zN_o zisN_0) rfl (zN_lt0 zisN_0) dX7_name_21 ?_
      refine zV_iload_n O dX7_name_24 rfl rfl ?_
      obtain ⟨hc, hM⟩ := hM
      refine zV_lald O zt_1 (by decide) hc dX7_name_25 ?_
      refine zV_iload_n O dX7_name_26 rfl rfl ?_
      refine zV_callS (as := [aL (rd h 1 x1), aI x2]) (st := []) O zc_X7_letterOf (Or.inl zl_RX7_171) zi_1019 (Nat.le_of_ble_eq_true rfl) rfl rfl (Nat.le_of_ble_eq_true rfl) (Nat.le_of_ble_eq_true rfl) (Nat.le_of_ble_eq_true rfl) (Nat.le_of_ble_eq_true rfl) (Nat.le_of_ble_eq_true rfl) (Nat.le_of_ble_eq_true rfl) dX7_name_27 (sX7_letterOf hM) (fun r h9 hq => ?_) (fun x h9 hq => hq.elim)
      obtain ⟨rfl, z2, rfl, hM⟩ := hq
      refine zV_istore_n O dX7_name_30 rfl (Nat.le_of_ble_eq_true rfl) rfl ?_
      refine zV_iload_n O dX7_name_31 rfl rfl ?_
      refine zV_if_ne (tgt := 39) O dX7_name_32 (by decide) (fun hc => ?_) (fun hc => ?_)
      · replace hM := hM.1 hc
        refine zV_iload_n O dX7_name_39 rfl rfl ?_
        exact zV_iret O rfl ⟨rfl, _, rfl, hM⟩ (Nat.le_of_ble_eq_true rfl) (Nat.le_of_ble_eq_true rfl) dX7_name_40
      · replace hM := hM.2 hc
        refine zV_iconst (z := -1) O ⟨by omega, by omega⟩ dX7_name_35 ?_
        refine zV_goto (tgt := 40) O dX7_name_36 (by decide) ?_
        exact zV_iret O rfl ⟨rfl, _, rfl, hM⟩ (Nat.le_of_ble_eq_true rfl) (Nat.le_of_ble_eq_true rfl) dX7_name_40
    · replace hM := hM.2 hc
      refine zV_iconst (z := -1) O ⟨by omega, by omega⟩ dX7_name_15 ?_
      exact zV_iret O rfl ⟨rfl, _, rfl, hM⟩ (Nat.le_of_ble_eq_true rfl) (Nat.le_of_ble_eq_true rfl) dX7_name_16
def mX7_plan_b69 (Q : Int → Hp → Prop) (QX : Nat → Hp → Prop) (v1 : Int) (v2 : Int) (v3 : Int) (s0 : Int) (s1 : Int) (h : Hp) : Prop := (zr (s1 - s0) ∧ (((s1 - s0) < (h 0 4) → (mX0_add 0 h (fun h6 => (mX3_setPlan 0 v1 v2 v3 h6 (fun h7 => (zr ((s1 - s0) + 1) ∧ (Q ((s1 - s0) + 1) h7))))))) ∧ (¬ (s1 - s0) < (h 0 4) → (Q (-4) h))))
set_option maxHeartbeats 4000000 in
set_option maxRecDepth 100000 in
theorem sX7_plan_b69 {l0 : Launch} {a : ZC}  {Q : Int → Hp → Prop} {QX : Nat → Hp → Prop}  (O : zOk l0 a cX7_plan RX7 5 (some .int) 185 [])   {v1 : Int} {v2 : Int} {v3 : Int} {s0 : Int} {s1 : Int} {h : Hp} (hz_s0 : s0 = 0 ∨ s0 = 1) (hM : mX7_plan_b69 Q QX v1 v2 v3 s0 s1 h) : zV a (9, 3, 18, (qI Q), QX) 3 18 69 [some (aR 169), some (aI v1), some (aI v2), some (aI v3), none] [aI s0, aI s1] h := by
  unfold mX7_plan_b69 at hM
  obtain ⟨hc, hM⟩ := hM
  refine zV_isub O dX7_plan_69 hc ?_
  refine zV_istore O dX7_plan_70 (Nat.le_of_ble_eq_true rfl) rfl ?_
  refine zV_iload O dX7_plan_72 rfl ?_
  refine zV_aload_n O dX7_plan_74 rfl rfl ?_
  refine zV_getR O zf_RX7_10 zt_169 rfl (by decide) dX7_plan_75 ?_
  refine zV_getI O zf_RX7_119 (zN_o zisN_0) rfl (zN_lt0 zisN_0) dX7_plan_78 ?_
  refine zV_icmp_lt (tgt := 87) O dX7_plan_81 (by decide) (fun hc => ?_) (fun hc => ?_)
  · replace hM := hM.1 hc
    refine zV_aload_n O dX7_plan_87 rfl rfl ?_
    refine zV_getR O zf_RX7_25 zt_169 rfl (by decide) dX7_plan_88 ?_
    refine zV_aload_n O dX7_plan_91 rfl rfl ?_
    refine zV_getR O zf_RX7_10 zt_169 rfl (by decide) dX7_plan_92 ?_
    refine zV_callV (as := [aR 0]) (st := []) O zc_X0_add (Or.inr ⟨_, zl_RX7_249⟩) zi_637 zi_25 zt_170 rfl rfl (by decide) (Nat.le_of_ble_eq_true rfl) rfl rfl (Nat.le_of_ble_eq_true rfl) (Nat.le_of_ble_eq_true rfl) (Nat.le_of_ble_eq_true rfl) (Nat.le_of_ble_eq_true rfl) (Nat.le_of_ble_eq_true rfl) (Nat.le_of_ble_eq_true rfl) dX7_plan_95 (sX0_add zisN_0 hM) (fun r h6 hq => ?_) (fun x h9 hq => hq.elim)
    obtain ⟨rfl, hM⟩ := hq
    refine zV_aload_n O dX7_plan_98 rfl rfl ?_
    refine zV_getR O zf_RX7_10 zt_169 rfl (by decide) dX7_plan_99 ?_
    refine zV_iload_n O dX7_plan_102 rfl rfl ?_
    refine zV_iload_n O dX7_plan_103 rfl rfl ?_
    refine zV_iload_n O dX7_plan_104 rfl rfl ?_
    refine zV_callV (as := [aI v1, aI v2, aI v3]) (st := []) O zc_X3_setPlan (Or.inr ⟨_, zl_RX7_259⟩) zi_562 zi_14 (zN_o zisN_0) rfl rfl (zN_lt0 zisN_0) (Nat.le_of_ble_eq_true rfl) rfl rfl (Nat.le_of_ble_eq_true rfl) (Nat.le_of_ble_eq_true rfl) (Nat.le_of_ble_eq_true rfl) (Nat.le_of_ble_eq_true rfl) (Nat.le_of_ble_eq_true rfl) (Nat.le_of_ble_eq_true rfl) dX7_plan_105 (sX3_setPlan zisN_0 hM) (fun r h7 hq => ?_) (fun x h9 hq => hq.elim)
    obtain ⟨rfl, hM⟩ := hq
    refine zV_iload O dX7_plan_108 rfl ?_
    refine zV_iconst (z := 1) O ⟨by omega, by omega⟩ dX7_plan_110 ?_
    obtain ⟨hc, hM⟩ := hM
    refine zV_iadd O dX7_plan_111 hc ?_
    exact zV_iret O rfl ⟨_, rfl, hM⟩ (Nat.le_of_ble_eq_true rfl) (Nat.le_of_ble_eq_true rfl) dX7_plan_112
  · replace hM := hM.2 hc
    refine zV_bipush (z := -4) O ⟨by omega, by omega⟩ rfl dX7_plan_84 ?_
    exact zV_iret O rfl ⟨_, rfl, hM⟩ (Nat.le_of_ble_eq_true rfl) (Nat.le_of_ble_eq_true rfl) dX7_plan_86
def mX7_plan (x1 : Int) (x2 : Int) (x3 : Int) (h : Hp) (Q : Int → Hp → Prop) (QX : Nat → Hp → Prop) : Prop := (mX7_needHost x1 h ((mX7_needNumber x2 h ((mX7_needWave x3 h ((((0 : Int) ≤ x1 ∧ x1 < 40) ∧ ((¬ (rd h 4 x1) = (1 : Int) → (((h 0 2) < x3 → (mX3_plansIn 0 x3 h (fun z8 => (((0 : Int) ≤ x1 ∧ x1 < 40) ∧ ((¬ (rd h 6 x1) = x3 → (mX7_plan_b69 Q QX x1 x2 x3 0 z8 h)) ∧ ((rd h 6 x1) = x3 → (mX7_plan_b69 Q QX x1 x2 x3 1 z8 h))))))) ∧ (¬ (h 0 2) < x3 → (Q (-3) h)))) ∧ ((rd h 4 x1) = (1 : Int) → (Q (-2) h))))) (fun x => QX x h))) (fun x => QX x h))) (fun x => QX x h))
set_option maxHeartbeats 4000000 in
set_option maxRecDepth 100000 in
theorem sX7_plan {l0 : Launch} {x1 : Int} {x2 : Int} {x3 : Int} {h : Hp} {Q : Int → Hp → Prop} {QX : Nat → Hp → Prop}  (hM : mX7_plan x1 x2 x3 h Q QX) : zSp l0 yX7_plan cX7_plan 5 (some .int) 185 (9) 3 18 [aR 169, aI x1, aI x2, aI x3] h (qI Q) QX := by
  unfold mX7_plan at hM
  refine zSp_intro zpn_RX7 (Nat.le_of_ble_eq_true rfl) (fun a O => ?_)
  show zV a (9, 3, 18, (qI Q), QX) 0 0 0 [some (aR 169), some (aI x1), some (aI x2), some (aI x3), none] [] h
  refine zV_aload_n O dX7_plan_0 rfl rfl ?_
  refine zV_iload_n O dX7_plan_1 rfl rfl ?_
  refine zV_callV (as := [aI x1]) (st := []) O zc_X7_needHost (Or.inl zl_RX7_141) zi_1008 zi_66 zt_169 rfl rfl (by decide) (Nat.le_of_ble_eq_true rfl) rfl rfl (Nat.le_of_ble_eq_true rfl) (Nat.le_of_ble_eq_true rfl) (Nat.le_of_ble_eq_true rfl) (Nat.le_of_ble_eq_true rfl) (Nat.le_of_ble_eq_true rfl) (Nat.le_of_ble_eq_true rfl) dX7_plan_2 (sX7_needHost hM) (fun r h9 hq => ?_) (fun x h9 hq => by obtain ⟨rfl, hq⟩ := hq; exact zU_out O hq (Nat.le_of_ble_eq_true rfl) (Nat.le_of_ble_eq_true rfl))
  obtain ⟨rfl, rfl, hM⟩ := hq
  refine zV_iload_n O dX7_plan_5 rfl rfl ?_
  refine zV_callS (as := [aI x2]) (st := []) O zc_X7_needNumber (Or.inl zl_RX7_178) zi_1032 (Nat.le_of_ble_eq_true rfl) rfl rfl (Nat.le_of_ble_eq_true rfl) (Nat.le_of_ble_eq_true rfl) (Nat.le_of_ble_eq_true rfl) (Nat.le_of_ble_eq_true rfl) (Nat.le_of_ble_eq_true rfl) (Nat.le_of_ble_eq_true rfl) dX7_plan_6 (sX7_needNumber hM) (fun r h9 hq => ?_) (fun x h9 hq => by obtain ⟨rfl, hq⟩ := hq; exact zU_out O hq (Nat.le_of_ble_eq_true rfl) (Nat.le_of_ble_eq_true rfl))
  obtain ⟨rfl, rfl, hM⟩ := hq
  refine zV_iload_n O dX7_plan_9 rfl rfl ?_
  refine zV_callS (as := [aI x3]) (st := []) O zc_X7_needWave (Or.inl zl_RX7_191) zi_1054 (Nat.le_of_ble_eq_true rfl) rfl rfl (Nat.le_of_ble_eq_true rfl) (Nat.le_of_ble_eq_true rfl) (Nat.le_of_ble_eq_true rfl) (Nat.le_of_ble_eq_true rfl) (Nat.le_of_ble_eq_true rfl) (Nat.le_of_ble_eq_true rfl) dX7_plan_10 (sX7_needWave hM) (fun r h9 hq => ?_) (fun x h9 hq => by obtain ⟨rfl, hq⟩ := hq; exact zU_out O hq (Nat.le_of_ble_eq_true rfl) (Nat.le_of_ble_eq_true rfl))
  obtain ⟨rfl, rfl, hM⟩ := hq
  refine zV_aload_n O dX7_plan_13 rfl rfl ?_
  refine zV_getR O zf_RX7_10 zt_169 rfl (by decide) dX7_plan_14 ?_
  refine zV_getR O zf_RX7_155 (zN_o zisN_0) rfl (zN_lt0 zisN_0) dX7_plan_17 ?_
  refine zV_iload_n O dX7_plan_20 rfl rfl ?_
  obtain ⟨hc, hM⟩ := hM
  refine zV_iald O zt_4 (by decide) hc dX7_plan_21 ?_
  refine zV_iconst (z := 1) O ⟨by omega, by omega⟩ dX7_plan_22 ?_
  refine zV_icmp_ne (tgt := 29) O dX7_plan_23 (by decide) (fun hc => ?_) (fun hc => ?_)
  · replace hM := hM.1 hc
    refine zV_iload_n O dX7_plan_29 rfl rfl ?_
    refine zV_aload_n O dX7_plan_30 rfl rfl ?_
    refine zV_getR O zf_RX7_10 zt_169 rfl (by decide) dX7_plan_31 ?_
    refine zV_getI O zf_RX7_113 (zN_o zisN_0) rfl (zN_lt0 zisN_0) dX7_plan_34 ?_
    refine zV_icmp_gt (tgt := 43) O dX7_plan_37 (by decide) (fun hc => ?_) (fun hc => ?_)
    · replace hM := hM.1 hc
      refine zV_aload_n O dX7_plan_43 rfl rfl ?_
      refine zV_getR O zf_RX7_10 zt_169 rfl (by decide) dX7_plan_44 ?_
      refine zV_iload_n O dX7_plan_47 rfl rfl ?_
      refine zV_callV (as := [aI x3]) (st := []) O zc_X3_plansIn (Or.inr ⟨_, zl_RX7_194⟩) zi_656 zi_29 (zN_o zisN_0) rfl rfl (zN_lt0 zisN_0) (Nat.le_of_ble_eq_true rfl) rfl rfl (Nat.le_of_ble_eq_true rfl) (Nat.le_of_ble_eq_true rfl) (Nat.le_of_ble_eq_true rfl) (Nat.le_of_ble_eq_true rfl) (Nat.le_of_ble_eq_true rfl) (Nat.le_of_ble_eq_true rfl) dX7_plan_48 (sX3_plansIn zisN_0 hM) (fun r h9 hq => ?_) (fun x h9 hq => hq.elim)
      obtain ⟨rfl, z8, rfl, hM⟩ := hq
      refine zV_aload_n O dX7_plan_51 rfl rfl ?_
      refine zV_getR O zf_RX7_10 zt_169 rfl (by decide) dX7_plan_52 ?_
      refine zV_getR O zf_RX7_161 (zN_o zisN_0) rfl (zN_lt0 zisN_0) dX7_plan_55 ?_
      refine zV_iload_n O dX7_plan_58 rfl rfl ?_
      obtain ⟨hc, hM⟩ := hM
      refine zV_iald O zt_6 (by decide) hc dX7_plan_59 ?_
      refine zV_iload_n O dX7_plan_60 rfl rfl ?_
      refine zV_icmp_ne (tgt := 68) O dX7_plan_61 (by decide) (fun hc => ?_) (fun hc => ?_)
      · replace hM := hM.1 hc
        refine zV_iconst (z := 0) O ⟨by omega, by omega⟩ dX7_plan_68 ?_
        exact sX7_plan_b69 O (Or.inl rfl) hM
      · replace hM := hM.2 hc
        refine zV_iconst (z := 1) O ⟨by omega, by omega⟩ dX7_plan_64 ?_
        refine zV_goto (tgt := 69) O dX7_plan_65 (by decide) ?_
        exact sX7_plan_b69 O (Or.inr rfl) hM
    · replace hM := hM.2 hc
      refine zV_bipush (z := -3) O ⟨by omega, by omega⟩ rfl dX7_plan_40 ?_
      exact zV_iret O rfl ⟨_, rfl, hM⟩ (Nat.le_of_ble_eq_true rfl) (Nat.le_of_ble_eq_true rfl) dX7_plan_42
  · replace hM := hM.2 hc
    refine zV_bipush (z := -2) O ⟨by omega, by omega⟩ rfl dX7_plan_26 ?_
    exact zV_iret O rfl ⟨_, rfl, hM⟩ (Nat.le_of_ble_eq_true rfl) (Nat.le_of_ble_eq_true rfl) dX7_plan_28
def mX7_plans (x1 : Int) (h : Hp) (Q : Int → Prop) (QX : Nat → Prop) : Prop := (mX7_needWave x1 h ((mX3_plansIn 0 x1 h (fun z2 => (Q z2)))) QX)
set_option maxHeartbeats 4000000 in
set_option maxRecDepth 100000 in
theorem sX7_plans {l0 : Launch} {x1 : Int} {h : Hp} {Q : Int → Prop} {QX : Nat → Prop}  (hM : mX7_plans x1 h Q QX) : zSp l0 yX7_plans cX7_plans 2 (some .int) 185 (9) 1 6 [aR 169, aI x1] h (qPI h Q) (xP h QX) := by
  unfold mX7_plans at hM
  refine zSp_intro zpn_RX7 (Nat.le_of_ble_eq_true rfl) (fun a O => ?_)
  show zV a (9, 1, 6, (qPI h Q), (xP h QX)) 0 0 0 [some (aR 169), some (aI x1)] [] h
  refine zV_iload_n O dX7_plans_0 rfl rfl ?_
  refine zV_callS (as := [aI x1]) (st := []) O zc_X7_needWave (Or.inl zl_RX7_191) zi_1054 (Nat.le_of_ble_eq_true rfl) rfl rfl (Nat.le_of_ble_eq_true rfl) (Nat.le_of_ble_eq_true rfl) (Nat.le_of_ble_eq_true rfl) (Nat.le_of_ble_eq_true rfl) (Nat.le_of_ble_eq_true rfl) (Nat.le_of_ble_eq_true rfl) dX7_plans_1 (sX7_needWave hM) (fun r h9 hq => ?_) (fun x h9 hq => by obtain ⟨rfl, hq⟩ := hq; exact zU_out O ⟨rfl, hq⟩ (Nat.le_of_ble_eq_true rfl) (Nat.le_of_ble_eq_true rfl))
  obtain ⟨rfl, rfl, hM⟩ := hq
  refine zV_aload_n O dX7_plans_4 rfl rfl ?_
  refine zV_getR O zf_RX7_10 zt_169 rfl (by decide) dX7_plans_5 ?_
  refine zV_iload_n O dX7_plans_8 rfl rfl ?_
  refine zV_callV (as := [aI x1]) (st := []) O zc_X3_plansIn (Or.inr ⟨_, zl_RX7_194⟩) zi_656 zi_29 (zN_o zisN_0) rfl rfl (zN_lt0 zisN_0) (Nat.le_of_ble_eq_true rfl) rfl rfl (Nat.le_of_ble_eq_true rfl) (Nat.le_of_ble_eq_true rfl) (Nat.le_of_ble_eq_true rfl) (Nat.le_of_ble_eq_true rfl) (Nat.le_of_ble_eq_true rfl) (Nat.le_of_ble_eq_true rfl) dX7_plans_9 (sX3_plansIn zisN_0 hM) (fun r h9 hq => ?_) (fun x h9 hq => hq.elim)
  obtain ⟨rfl, z2, rfl, hM⟩ := hq
  exact zV_iret O rfl ⟨rfl, _, rfl, hM⟩ (Nat.le_of_ble_eq_true rfl) (Nat.le_of_ble_eq_true rfl) dX7_plans_12
def mX7_reach (x1 : Int) (h : Hp) (Q : Int → Prop) (QX : Nat → Prop) : Prop := (mX7_needHost x1 h ((mX3_reachOf 0 x1 h (fun z2 => (Q z2)))) QX)
set_option maxHeartbeats 4000000 in
set_option maxRecDepth 100000 in
theorem sX7_reach {l0 : Launch} {x1 : Int} {h : Hp} {Q : Int → Prop} {QX : Nat → Prop}  (hM : mX7_reach x1 h Q QX) : zSp l0 yX7_reach cX7_reach 2 (some .int) 185 (9) 1 6 [aR 169, aI x1] h (qPI h Q) (xP h QX) := by
  unfold mX7_reach at hM
  refine zSp_intro zpn_RX7 (Nat.le_of_ble_eq_true rfl) (fun a O => ?_)
  show zV a (9, 1, 6, (qPI h Q), (xP h QX)) 0 0 0 [some (aR 169), some (aI x1)] [] h
  refine zV_aload_n O dX7_reach_0 rfl rfl ?_
  refine zV_iload_n O dX7_reach_1 rfl rfl ?_
  refine zV_callV (as := [aI x1]) (st := []) O zc_X7_needHost (Or.inl zl_RX7_141) zi_1008 zi_66 zt_169 rfl rfl (by decide) (Nat.le_of_ble_eq_true rfl) rfl rfl (Nat.le_of_ble_eq_true rfl) (Nat.le_of_ble_eq_true rfl) (Nat.le_of_ble_eq_true rfl) (Nat.le_of_ble_eq_true rfl) (Nat.le_of_ble_eq_true rfl) (Nat.le_of_ble_eq_true rfl) dX7_reach_2 (sX7_needHost hM) (fun r h9 hq => ?_) (fun x h9 hq => by obtain ⟨rfl, hq⟩ := hq; exact zU_out O ⟨rfl, hq⟩ (Nat.le_of_ble_eq_true rfl) (Nat.le_of_ble_eq_true rfl))
  obtain ⟨rfl, rfl, hM⟩ := hq
  refine zV_aload_n O dX7_reach_5 rfl rfl ?_
  refine zV_getR O zf_RX7_10 zt_169 rfl (by decide) dX7_reach_6 ?_
  refine zV_iload_n O dX7_reach_9 rfl rfl ?_
  refine zV_callV (as := [aI x1]) (st := []) O zc_X3_reachOf (Or.inr ⟨_, zl_RX7_220⟩) zi_617 zi_22 (zN_o zisN_0) rfl rfl (zN_lt0 zisN_0) (Nat.le_of_ble_eq_true rfl) rfl rfl (Nat.le_of_ble_eq_true rfl) (Nat.le_of_ble_eq_true rfl) (Nat.le_of_ble_eq_true rfl) (Nat.le_of_ble_eq_true rfl) (Nat.le_of_ble_eq_true rfl) (Nat.le_of_ble_eq_true rfl) dX7_reach_10 (sX3_reachOf zisN_0 hM) (fun r h9 hq => ?_) (fun x h9 hq => hq.elim)
  obtain ⟨rfl, z2, rfl, hM⟩ := hq
  exact zV_iret O rfl ⟨rfl, _, rfl, hM⟩ (Nat.le_of_ble_eq_true rfl) (Nat.le_of_ble_eq_true rfl) dX7_reach_13
def mX7_removeHost (x1 : Int) (h : Hp) (Q : Int → Hp → Prop) (QX : Nat → Hp → Prop) : Prop := (mX7_needHost x1 h ((mX0_add 0 h (fun h3 => (mX3_dropHost 0 x1 h3 (fun h4 => (Q (h4 0 0) h4)))))) (fun x => QX x h))
set_option maxHeartbeats 4000000 in
set_option maxRecDepth 100000 in
theorem sX7_removeHost {l0 : Launch} {x1 : Int} {h : Hp} {Q : Int → Hp → Prop} {QX : Nat → Hp → Prop}  (hM : mX7_removeHost x1 h Q QX) : zSp l0 yX7_removeHost cX7_removeHost 2 (some .int) 185 (9) 1 6 [aR 169, aI x1] h (qI Q) QX := by
  unfold mX7_removeHost at hM
  refine zSp_intro zpn_RX7 (Nat.le_of_ble_eq_true rfl) (fun a O => ?_)
  show zV a (9, 1, 6, (qI Q), QX) 0 0 0 [some (aR 169), some (aI x1)] [] h
  refine zV_aload_n O dX7_removeHost_0 rfl rfl ?_
  refine zV_iload_n O dX7_removeHost_1 rfl rfl ?_
  refine zV_callV (as := [aI x1]) (st := []) O zc_X7_needHost (Or.inl zl_RX7_141) zi_1008 zi_66 zt_169 rfl rfl (by decide) (Nat.le_of_ble_eq_true rfl) rfl rfl (Nat.le_of_ble_eq_true rfl) (Nat.le_of_ble_eq_true rfl) (Nat.le_of_ble_eq_true rfl) (Nat.le_of_ble_eq_true rfl) (Nat.le_of_ble_eq_true rfl) (Nat.le_of_ble_eq_true rfl) dX7_removeHost_2 (sX7_needHost hM) (fun r h9 hq => ?_) (fun x h9 hq => by obtain ⟨rfl, hq⟩ := hq; exact zU_out O hq (Nat.le_of_ble_eq_true rfl) (Nat.le_of_ble_eq_true rfl))
  obtain ⟨rfl, rfl, hM⟩ := hq
  refine zV_aload_n O dX7_removeHost_5 rfl rfl ?_
  refine zV_getR O zf_RX7_25 zt_169 rfl (by decide) dX7_removeHost_6 ?_
  refine zV_aload_n O dX7_removeHost_9 rfl rfl ?_
  refine zV_getR O zf_RX7_10 zt_169 rfl (by decide) dX7_removeHost_10 ?_
  refine zV_callV (as := [aR 0]) (st := []) O zc_X0_add (Or.inr ⟨_, zl_RX7_249⟩) zi_637 zi_25 zt_170 rfl rfl (by decide) (Nat.le_of_ble_eq_true rfl) rfl rfl (Nat.le_of_ble_eq_true rfl) (Nat.le_of_ble_eq_true rfl) (Nat.le_of_ble_eq_true rfl) (Nat.le_of_ble_eq_true rfl) (Nat.le_of_ble_eq_true rfl) (Nat.le_of_ble_eq_true rfl) dX7_removeHost_13 (sX0_add zisN_0 hM) (fun r h3 hq => ?_) (fun x h9 hq => hq.elim)
  obtain ⟨rfl, hM⟩ := hq
  refine zV_aload_n O dX7_removeHost_16 rfl rfl ?_
  refine zV_getR O zf_RX7_10 zt_169 rfl (by decide) dX7_removeHost_17 ?_
  refine zV_iload_n O dX7_removeHost_20 rfl rfl ?_
  refine zV_callV (as := [aI x1]) (st := []) O zc_X3_dropHost (Or.inr ⟨_, zl_RX7_256⟩) zi_1127 zi_72 (zN_o zisN_0) rfl rfl (zN_lt0 zisN_0) (Nat.le_of_ble_eq_true rfl) rfl rfl (Nat.le_of_ble_eq_true rfl) (Nat.le_of_ble_eq_true rfl) (Nat.le_of_ble_eq_true rfl) (Nat.le_of_ble_eq_true rfl) (Nat.le_of_ble_eq_true rfl) (Nat.le_of_ble_eq_true rfl) dX7_removeHost_21 (sX3_dropHost zisN_0 hM) (fun r h4 hq => ?_) (fun x h9 hq => hq.elim)
  obtain ⟨rfl, hM⟩ := hq
  refine zV_aload_n O dX7_removeHost_24 rfl rfl ?_
  refine zV_getR O zf_RX7_10 zt_169 rfl (by decide) dX7_removeHost_25 ?_
  refine zV_getI O zf_RX7_104 (zN_o zisN_0) rfl (zN_lt0 zisN_0) dX7_removeHost_28 ?_
  exact zV_iret O rfl ⟨_, rfl, hM⟩ (Nat.le_of_ble_eq_true rfl) (Nat.le_of_ble_eq_true rfl) dX7_removeHost_31
def mX7_removeRule (x1 : Int) (h : Hp) (Q : Int → Hp → Prop) (QX : Nat → Hp → Prop) : Prop := (mX7_needRule x1 h ((mX0_add 0 h (fun h3 => (mX3_dropRule 0 x1 h3 (fun h4 => (Q (h4 0 1) h4)))))) (fun x => QX x h))
set_option maxHeartbeats 4000000 in
set_option maxRecDepth 100000 in
theorem sX7_removeRule {l0 : Launch} {x1 : Int} {h : Hp} {Q : Int → Hp → Prop} {QX : Nat → Hp → Prop}  (hM : mX7_removeRule x1 h Q QX) : zSp l0 yX7_removeRule cX7_removeRule 2 (some .int) 185 (9) 1 6 [aR 169, aI x1] h (qI Q) QX := by
  unfold mX7_removeRule at hM
  refine zSp_intro zpn_RX7 (Nat.le_of_ble_eq_true rfl) (fun a O => ?_)
  show zV a (9, 1, 6, (qI Q), QX) 0 0 0 [some (aR 169), some (aI x1)] [] h
  refine zV_aload_n O dX7_removeRule_0 rfl rfl ?_
  refine zV_iload_n O dX7_removeRule_1 rfl rfl ?_
  refine zV_callV (as := [aI x1]) (st := []) O zc_X7_needRule (Or.inl zl_RX7_197) zi_1066 zi_68 zt_169 rfl rfl (by decide) (Nat.le_of_ble_eq_true rfl) rfl rfl (Nat.le_of_ble_eq_true rfl) (Nat.le_of_ble_eq_true rfl) (Nat.le_of_ble_eq_true rfl) (Nat.le_of_ble_eq_true rfl) (Nat.le_of_ble_eq_true rfl) (Nat.le_of_ble_eq_true rfl) dX7_removeRule_2 (sX7_needRule hM) (fun r h9 hq => ?_) (fun x h9 hq => by obtain ⟨rfl, hq⟩ := hq; exact zU_out O hq (Nat.le_of_ble_eq_true rfl) (Nat.le_of_ble_eq_true rfl))
  obtain ⟨rfl, rfl, hM⟩ := hq
  refine zV_aload_n O dX7_removeRule_5 rfl rfl ?_
  refine zV_getR O zf_RX7_25 zt_169 rfl (by decide) dX7_removeRule_6 ?_
  refine zV_aload_n O dX7_removeRule_9 rfl rfl ?_
  refine zV_getR O zf_RX7_10 zt_169 rfl (by decide) dX7_removeRule_10 ?_
  refine zV_callV (as := [aR 0]) (st := []) O zc_X0_add (Or.inr ⟨_, zl_RX7_249⟩) zi_637 zi_25 zt_170 rfl rfl (by decide) (Nat.le_of_ble_eq_true rfl) rfl rfl (Nat.le_of_ble_eq_true rfl) (Nat.le_of_ble_eq_true rfl) (Nat.le_of_ble_eq_true rfl) (Nat.le_of_ble_eq_true rfl) (Nat.le_of_ble_eq_true rfl) (Nat.le_of_ble_eq_true rfl) dX7_removeRule_13 (sX0_add zisN_0 hM) (fun r h3 hq => ?_) (fun x h9 hq => hq.elim)
  obtain ⟨rfl, hM⟩ := hq
  refine zV_aload_n O dX7_removeRule_16 rfl rfl ?_
  refine zV_getR O zf_RX7_10 zt_169 rfl (by decide) dX7_removeRule_17 ?_
  refine zV_iload_n O dX7_removeRule_20 rfl rfl ?_
  refine zV_callV (as := [aI x1]) (st := []) O zc_X3_dropRule (Or.inr ⟨_, zl_RX7_291⟩) zi_1163 zi_73 (zN_o zisN_0) rfl rfl (zN_lt0 zisN_0) (Nat.le_of_ble_eq_true rfl) rfl rfl (Nat.le_of_ble_eq_true rfl) (Nat.le_of_ble_eq_true rfl) (Nat.le_of_ble_eq_true rfl) (Nat.le_of_ble_eq_true rfl) (Nat.le_of_ble_eq_true rfl) (Nat.le_of_ble_eq_true rfl) dX7_removeRule_21 (sX3_dropRule zisN_0 hM) (fun r h4 hq => ?_) (fun x h9 hq => hq.elim)
  obtain ⟨rfl, hM⟩ := hq
  refine zV_aload_n O dX7_removeRule_24 rfl rfl ?_
  refine zV_getR O zf_RX7_10 zt_169 rfl (by decide) dX7_removeRule_25 ?_
  refine zV_getI O zf_RX7_107 (zN_o zisN_0) rfl (zN_lt0 zisN_0) dX7_removeRule_28 ?_
  exact zV_iret O rfl ⟨_, rfl, hM⟩ (Nat.le_of_ble_eq_true rfl) (Nat.le_of_ble_eq_true rfl) dX7_removeRule_31
def mX7_rule (x1 : Int) (x2 : Int) (h : Hp) (Q : Int → Prop) (QX : Nat → Prop) : Prop := (mX7_needRule x1 h (((x2 = 0 → (((0 : Int) ≤ x1 ∧ x1 < 30) ∧ (Q (rd h 9 x1)))) ∧ (x2 = 1 → (((0 : Int) ≤ x1 ∧ x1 < 30) ∧ (Q (rd h 10 x1)))) ∧ (x2 = 2 → (((0 : Int) ≤ x1 ∧ x1 < 30) ∧ (Q (rd h 11 x1)))) ∧ (x2 = 3 → (((0 : Int) ≤ x1 ∧ x1 < 30) ∧ (Q (rd h 12 x1)))) ∧ ((x2 < 0 ∨ 3 < x2) → (QX 1)))) QX)
set_option maxHeartbeats 4000000 in
set_option maxRecDepth 100000 in
theorem sX7_rule {l0 : Launch} {x1 : Int} {x2 : Int} {h : Hp} {Q : Int → Prop} {QX : Nat → Prop}  (hM : mX7_rule x1 x2 h Q QX) : zSp l0 yX7_rule cX7_rule 3 (some .int) 185 (9) 2 12 [aR 169, aI x1, aI x2] h (qPI h Q) (xP h QX) := by
  unfold mX7_rule at hM
  refine zSp_intro zpn_RX7 (Nat.le_of_ble_eq_true rfl) (fun a O => ?_)
  show zV a (9, 2, 12, (qPI h Q), (xP h QX)) 0 0 0 [some (aR 169), some (aI x1), some (aI x2)] [] h
  refine zV_aload_n O dX7_rule_0 rfl rfl ?_
  refine zV_iload_n O dX7_rule_1 rfl rfl ?_
  refine zV_callV (as := [aI x1]) (st := []) O zc_X7_needRule (Or.inl zl_RX7_197) zi_1066 zi_68 zt_169 rfl rfl (by decide) (Nat.le_of_ble_eq_true rfl) rfl rfl (Nat.le_of_ble_eq_true rfl) (Nat.le_of_ble_eq_true rfl) (Nat.le_of_ble_eq_true rfl) (Nat.le_of_ble_eq_true rfl) (Nat.le_of_ble_eq_true rfl) (Nat.le_of_ble_eq_true rfl) dX7_rule_2 (sX7_needRule hM) (fun r h9 hq => ?_) (fun x h9 hq => by obtain ⟨rfl, hq⟩ := hq; exact zU_out O ⟨rfl, hq⟩ (Nat.le_of_ble_eq_true rfl) (Nat.le_of_ble_eq_true rfl))
  obtain ⟨rfl, rfl, hM⟩ := hq
  refine zV_iload_n O dX7_rule_5 rfl rfl ?_
  by_cases hc0 : x2 = 0
  · replace hM := hM.1 hc0
    refine zV_tableIn (tgt := 36) O dX7_rule_6 (by omega) (by omega) (by rw [hc0]; rfl) (by decide) ?_
    refine zV_aload_n O dX7_rule_36 rfl rfl ?_
    refine zV_getR O zf_RX7_10 zt_169 rfl (by decide) dX7_rule_37 ?_
    refine zV_getR O zf_RX7_200 (zN_o zisN_0) rfl (zN_lt0 zisN_0) dX7_rule_40 ?_
    refine zV_iload_n O dX7_rule_43 rfl rfl ?_
    obtain ⟨hc, hM⟩ := hM
    refine zV_iald O zt_9 (by decide) hc dX7_rule_44 ?_
    exact zV_iret O rfl ⟨rfl, _, rfl, hM⟩ (Nat.le_of_ble_eq_true rfl) (Nat.le_of_ble_eq_true rfl) dX7_rule_45
  by_cases hc1 : x2 = 1
  · replace hM := hM.2.1 hc1
    refine zV_tableIn (tgt := 46) O dX7_rule_6 (by omega) (by omega) (by rw [hc1]; rfl) (by decide) ?_
    refine zV_aload_n O dX7_rule_46 rfl rfl ?_
    refine zV_getR O zf_RX7_10 zt_169 rfl (by decide) dX7_rule_47 ?_
    refine zV_getR O zf_RX7_203 (zN_o zisN_0) rfl (zN_lt0 zisN_0) dX7_rule_50 ?_
    refine zV_iload_n O dX7_rule_53 rfl rfl ?_
    obtain ⟨hc, hM⟩ := hM
    refine zV_iald O zt_10 (by decide) hc dX7_rule_54 ?_
    exact zV_iret O rfl ⟨rfl, _, rfl, hM⟩ (Nat.le_of_ble_eq_true rfl) (Nat.le_of_ble_eq_true rfl) dX7_rule_55
  by_cases hc2 : x2 = 2
  · replace hM := hM.2.2.1 hc2
    refine zV_tableIn (tgt := 56) O dX7_rule_6 (by omega) (by omega) (by rw [hc2]; rfl) (by decide) ?_
    refine zV_aload_n O dX7_rule_56 rfl rfl ?_
    refine zV_getR O zf_RX7_10 zt_169 rfl (by decide) dX7_rule_57 ?_
    refine zV_getR O zf_RX7_206 (zN_o zisN_0) rfl (zN_lt0 zisN_0) dX7_rule_60 ?_
    refine zV_iload_n O dX7_rule_63 rfl rfl ?_
    obtain ⟨hc, hM⟩ := hM
    refine zV_iald O zt_11 (by decide) hc dX7_rule_64 ?_
    exact zV_iret O rfl ⟨rfl, _, rfl, hM⟩ (Nat.le_of_ble_eq_true rfl) (Nat.le_of_ble_eq_true rfl) dX7_rule_65
  by_cases hc3 : x2 = 3
  · replace hM := hM.2.2.2.1 hc3
    refine zV_tableIn (tgt := 66) O dX7_rule_6 (by omega) (by omega) (by rw [hc3]; rfl) (by decide) ?_
    refine zV_aload_n O dX7_rule_66 rfl rfl ?_
    refine zV_getR O zf_RX7_10 zt_169 rfl (by decide) dX7_rule_67 ?_
    refine zV_getR O zf_RX7_209 (zN_o zisN_0) rfl (zN_lt0 zisN_0) dX7_rule_70 ?_
    refine zV_iload_n O dX7_rule_73 rfl rfl ?_
    obtain ⟨hc, hM⟩ := hM
    refine zV_iald O zt_12 (by decide) hc dX7_rule_74 ?_
    exact zV_iret O rfl ⟨rfl, _, rfl, hM⟩ (Nat.le_of_ble_eq_true rfl) (Nat.le_of_ble_eq_true rfl) dX7_rule_75
  have hc : x2 < 0 ∨ 3 < x2 := by omega
  replace hM := hM.2.2.2.2 hc
  refine zV_tableOut (tgt := 76) O dX7_rule_6 hc (by decide) ?_
  exact zV_throw (x := 1) O (by decide) (by decide) zth_RX7_138.1 zth_RX7_138.2.1 zth_RX7_138.2.2.1 zth_RX7_138.2.2.2 dX7_rule_76 dX7_rule_79 dX7_rule_80 dX7_rule_83 (Nat.le_of_ble_eq_true rfl) (Nat.le_of_ble_eq_true rfl) ⟨rfl, hM⟩ (Nat.le_of_ble_eq_true rfl) (Nat.le_of_ble_eq_true rfl)
def mX7_setPinned_b43 (Q : Int → Hp → Prop) (QX : Nat → Hp → Prop) (v1 : Int) (v2 : Int) (v3 : Int) (s0 : Int) (s1 : Int) (h : Hp) : Prop := (((0 : Int) ≤ s1 ∧ s1 < 40) ∧ (∀ h6 : Hp, h6 = wr h 4 s1 s0 → ((v2 = 0 → (Q v3 h6)) ∧ (¬ v2 = 0 → (mX3_setPlan 0 v1 0 0 h6 (fun h7 => (Q v3 h7)))))))
set_option maxHeartbeats 4000000 in
set_option maxRecDepth 100000 in
theorem sX7_setPinned_b43 {l0 : Launch} {a : ZC}  {Q : Int → Hp → Prop} {QX : Nat → Hp → Prop}  (O : zOk l0 a cX7_setPinned RX7 4 (some .int) 185 [])   {v1 : Int} {v2 : Int} {v3 : Int} {s0 : Int} {s1 : Int} {h : Hp} (hz_s0 : s0 = 0 ∨ s0 = 1) (hM : mX7_setPinned_b43 Q QX v1 v2 v3 s0 s1 h) : zV a (9, 1, 6, (qI Q), QX) 1 6 43 [some (aR 169), some (aI v1), some (aI v2), some (aI v3)] [aI s0, aI s1, aR 4] h := by
  unfold mX7_setPinned_b43 at hM
  obtain ⟨hc, hM⟩ := hM
  refine zV_iast O zt_4 (by decide) hc dX7_setPinned_43 ?_
  have hM := hM (hu h 4 (Int.toNat s1) s0) rfl
  generalize hu h 4 (Int.toNat s1) s0 = h6 at hM ⊢
  refine zV_iload_n O dX7_setPinned_44 rfl rfl ?_
  refine zV_if_eq (tgt := 58) O dX7_setPinned_45 (by decide) (fun hc => ?_) (fun hc => ?_)
  · replace hM := hM.1 hc
    refine zV_iload_n O dX7_setPinned_58 rfl rfl ?_
    exact zV_iret O rfl ⟨_, rfl, hM⟩ (Nat.le_of_ble_eq_true rfl) (Nat.le_of_ble_eq_true rfl) dX7_setPinned_59
  · replace hM := hM.2 hc
    refine zV_aload_n O dX7_setPinned_48 rfl rfl ?_
    refine zV_getR O zf_RX7_10 zt_169 rfl (by decide) dX7_setPinned_49 ?_
    refine zV_iload_n O dX7_setPinned_52 rfl rfl ?_
    refine zV_iconst (z := 0) O ⟨by omega, by omega⟩ dX7_setPinned_53 ?_
    refine zV_iconst (z := 0) O ⟨by omega, by omega⟩ dX7_setPinned_54 ?_
    refine zV_callV (as := [aI v1, aI 0, aI 0]) (st := []) O zc_X3_setPlan (Or.inr ⟨_, zl_RX7_259⟩) zi_562 zi_14 (zN_o zisN_0) rfl rfl (zN_lt0 zisN_0) (Nat.le_of_ble_eq_true rfl) rfl rfl (Nat.le_of_ble_eq_true rfl) (Nat.le_of_ble_eq_true rfl) (Nat.le_of_ble_eq_true rfl) (Nat.le_of_ble_eq_true rfl) (Nat.le_of_ble_eq_true rfl) (Nat.le_of_ble_eq_true rfl) dX7_setPinned_55 (sX3_setPlan zisN_0 hM) (fun r h7 hq => ?_) (fun x h9 hq => hq.elim)
    obtain ⟨rfl, hM⟩ := hq
    refine zV_iload_n O dX7_setPinned_58 rfl rfl ?_
    exact zV_iret O rfl ⟨_, rfl, hM⟩ (Nat.le_of_ble_eq_true rfl) (Nat.le_of_ble_eq_true rfl) dX7_setPinned_59
def mX7_setPinned (x1 : Int) (x2 : Int) (h : Hp) (Q : Int → Hp → Prop) (QX : Nat → Hp → Prop) : Prop := (mX7_needHost x1 h ((mX0_add 0 h (fun h8 => (((0 : Int) ≤ x1 ∧ x1 < 40) ∧ ((x2 = 0 → (mX7_setPinned_b43 Q QX x1 x2 (rd h8 4 x1) 0 x1 h8)) ∧ (¬ x2 = 0 → (mX7_setPinned_b43 Q QX x1 x2 (rd h8 4 x1) 1 x1 h8))))))) (fun x => QX x h))
set_option maxHeartbeats 4000000 in
set_option maxRecDepth 100000 in
theorem sX7_setPinned {l0 : Launch} {x1 : Int} {x2 : Int} {h : Hp} {Q : Int → Hp → Prop} {QX : Nat → Hp → Prop}  (hM : mX7_setPinned x1 x2 h Q QX) : zSp l0 yX7_setPinned cX7_setPinned 4 (some .int) 185 (9) 1 6 [aR 169, aI x1, aI x2] h (qI Q) QX := by
  unfold mX7_setPinned at hM
  refine zSp_intro zpn_RX7 (Nat.le_of_ble_eq_true rfl) (fun a O => ?_)
  show zV a (9, 1, 6, (qI Q), QX) 0 0 0 [some (aR 169), some (aI x1), some (aI x2), none] [] h
  refine zV_aload_n O dX7_setPinned_0 rfl rfl ?_
  refine zV_iload_n O dX7_setPinned_1 rfl rfl ?_
  refine zV_callV (as := [aI x1]) (st := []) O zc_X7_needHost (Or.inl zl_RX7_141) zi_1008 zi_66 zt_169 rfl rfl (by decide) (Nat.le_of_ble_eq_true rfl) rfl rfl (Nat.le_of_ble_eq_true rfl) (Nat.le_of_ble_eq_true rfl) (Nat.le_of_ble_eq_true rfl) (Nat.le_of_ble_eq_true rfl) (Nat.le_of_ble_eq_true rfl) (Nat.le_of_ble_eq_true rfl) dX7_setPinned_2 (sX7_needHost hM) (fun r h9 hq => ?_) (fun x h9 hq => by obtain ⟨rfl, hq⟩ := hq; exact zU_out O hq (Nat.le_of_ble_eq_true rfl) (Nat.le_of_ble_eq_true rfl))
  obtain ⟨rfl, rfl, hM⟩ := hq
  refine zV_aload_n O dX7_setPinned_5 rfl rfl ?_
  refine zV_getR O zf_RX7_25 zt_169 rfl (by decide) dX7_setPinned_6 ?_
  refine zV_aload_n O dX7_setPinned_9 rfl rfl ?_
  refine zV_getR O zf_RX7_10 zt_169 rfl (by decide) dX7_setPinned_10 ?_
  refine zV_callV (as := [aR 0]) (st := []) O zc_X0_add (Or.inr ⟨_, zl_RX7_249⟩) zi_637 zi_25 zt_170 rfl rfl (by decide) (Nat.le_of_ble_eq_true rfl) rfl rfl (Nat.le_of_ble_eq_true rfl) (Nat.le_of_ble_eq_true rfl) (Nat.le_of_ble_eq_true rfl) (Nat.le_of_ble_eq_true rfl) (Nat.le_of_ble_eq_true rfl) (Nat.le_of_ble_eq_true rfl) dX7_setPinned_13 (sX0_add zisN_0 hM) (fun r h8 hq => ?_) (fun x h9 hq => hq.elim)
  obtain ⟨rfl, hM⟩ := hq
  refine zV_aload_n O dX7_setPinned_16 rfl rfl ?_
  refine zV_getR O zf_RX7_10 zt_169 rfl (by decide) dX7_setPinned_17 ?_
  refine zV_getR O zf_RX7_155 (zN_o zisN_0) rfl (zN_lt0 zisN_0) dX7_setPinned_20 ?_
  refine zV_iload_n O dX7_setPinned_23 rfl rfl ?_
  obtain ⟨hc, hM⟩ := hM
  refine zV_iald O zt_4 (by decide) hc dX7_setPinned_24 ?_
  refine zV_istore_n O dX7_setPinned_25 rfl (Nat.le_of_ble_eq_true rfl) rfl ?_
  refine zV_aload_n O dX7_setPinned_26 rfl rfl ?_
  refine zV_getR O zf_RX7_10 zt_169 rfl (by decide) dX7_setPinned_27 ?_
  refine zV_getR O zf_RX7_155 (zN_o zisN_0) rfl (zN_lt0 zisN_0) dX7_setPinned_30 ?_
  refine zV_iload_n O dX7_setPinned_33 rfl rfl ?_
  refine zV_iload_n O dX7_setPinned_34 rfl rfl ?_
  refine zV_if_eq (tgt := 42) O dX7_setPinned_35 (by decide) (fun hc => ?_) (fun hc => ?_)
  · replace hM := hM.1 hc
    refine zV_iconst (z := 0) O ⟨by omega, by omega⟩ dX7_setPinned_42 ?_
    exact sX7_setPinned_b43 O (Or.inl rfl) hM
  · replace hM := hM.2 hc
    refine zV_iconst (z := 1) O ⟨by omega, by omega⟩ dX7_setPinned_38 ?_
    refine zV_goto (tgt := 43) O dX7_setPinned_39 (by decide) ?_
    exact sX7_setPinned_b43 O (Or.inr rfl) hM
def mX7_unplan (x1 : Int) (h : Hp) (Q : Int → Hp → Prop) (QX : Nat → Hp → Prop) : Prop := (mX7_needHost x1 h ((mX0_add 0 h (fun h3 => (((0 : Int) ≤ x1 ∧ x1 < 40) ∧ (mX3_setPlan 0 x1 0 0 h3 (fun h4 => (Q (rd h3 6 x1) h4))))))) (fun x => QX x h))
set_option maxHeartbeats 4000000 in
set_option maxRecDepth 100000 in
theorem sX7_unplan {l0 : Launch} {x1 : Int} {h : Hp} {Q : Int → Hp → Prop} {QX : Nat → Hp → Prop}  (hM : mX7_unplan x1 h Q QX) : zSp l0 yX7_unplan cX7_unplan 3 (some .int) 185 (9) 1 6 [aR 169, aI x1] h (qI Q) QX := by
  unfold mX7_unplan at hM
  refine zSp_intro zpn_RX7 (Nat.le_of_ble_eq_true rfl) (fun a O => ?_)
  show zV a (9, 1, 6, (qI Q), QX) 0 0 0 [some (aR 169), some (aI x1), none] [] h
  refine zV_aload_n O dX7_unplan_0 rfl rfl ?_
  refine zV_iload_n O dX7_unplan_1 rfl rfl ?_
  refine zV_callV (as := [aI x1]) (st := []) O zc_X7_needHost (Or.inl zl_RX7_141) zi_1008 zi_66 zt_169 rfl rfl (by decide) (Nat.le_of_ble_eq_true rfl) rfl rfl (Nat.le_of_ble_eq_true rfl) (Nat.le_of_ble_eq_true rfl) (Nat.le_of_ble_eq_true rfl) (Nat.le_of_ble_eq_true rfl) (Nat.le_of_ble_eq_true rfl) (Nat.le_of_ble_eq_true rfl) dX7_unplan_2 (sX7_needHost hM) (fun r h9 hq => ?_) (fun x h9 hq => by obtain ⟨rfl, hq⟩ := hq; exact zU_out O hq (Nat.le_of_ble_eq_true rfl) (Nat.le_of_ble_eq_true rfl))
  obtain ⟨rfl, rfl, hM⟩ := hq
  refine zV_aload_n O dX7_unplan_5 rfl rfl ?_
  refine zV_getR O zf_RX7_25 zt_169 rfl (by decide) dX7_unplan_6 ?_
  refine zV_aload_n O dX7_unplan_9 rfl rfl ?_
  refine zV_getR O zf_RX7_10 zt_169 rfl (by decide) dX7_unplan_10 ?_
  refine zV_callV (as := [aR 0]) (st := []) O zc_X0_add (Or.inr ⟨_, zl_RX7_249⟩) zi_637 zi_25 zt_170 rfl rfl (by decide) (Nat.le_of_ble_eq_true rfl) rfl rfl (Nat.le_of_ble_eq_true rfl) (Nat.le_of_ble_eq_true rfl) (Nat.le_of_ble_eq_true rfl) (Nat.le_of_ble_eq_true rfl) (Nat.le_of_ble_eq_true rfl) (Nat.le_of_ble_eq_true rfl) dX7_unplan_13 (sX0_add zisN_0 hM) (fun r h3 hq => ?_) (fun x h9 hq => hq.elim)
  obtain ⟨rfl, hM⟩ := hq
  refine zV_aload_n O dX7_unplan_16 rfl rfl ?_
  refine zV_getR O zf_RX7_10 zt_169 rfl (by decide) dX7_unplan_17 ?_
  refine zV_getR O zf_RX7_161 (zN_o zisN_0) rfl (zN_lt0 zisN_0) dX7_unplan_20 ?_
  refine zV_iload_n O dX7_unplan_23 rfl rfl ?_
  obtain ⟨hc, hM⟩ := hM
  refine zV_iald O zt_6 (by decide) hc dX7_unplan_24 ?_
  refine zV_istore_n O dX7_unplan_25 rfl (Nat.le_of_ble_eq_true rfl) rfl ?_
  refine zV_aload_n O dX7_unplan_26 rfl rfl ?_
  refine zV_getR O zf_RX7_10 zt_169 rfl (by decide) dX7_unplan_27 ?_
  refine zV_iload_n O dX7_unplan_30 rfl rfl ?_
  refine zV_iconst (z := 0) O ⟨by omega, by omega⟩ dX7_unplan_31 ?_
  refine zV_iconst (z := 0) O ⟨by omega, by omega⟩ dX7_unplan_32 ?_
  refine zV_callV (as := [aI x1, aI 0, aI 0]) (st := []) O zc_X3_setPlan (Or.inr ⟨_, zl_RX7_259⟩) zi_562 zi_14 (zN_o zisN_0) rfl rfl (zN_lt0 zisN_0) (Nat.le_of_ble_eq_true rfl) rfl rfl (Nat.le_of_ble_eq_true rfl) (Nat.le_of_ble_eq_true rfl) (Nat.le_of_ble_eq_true rfl) (Nat.le_of_ble_eq_true rfl) (Nat.le_of_ble_eq_true rfl) (Nat.le_of_ble_eq_true rfl) dX7_unplan_33 (sX3_setPlan zisN_0 hM) (fun r h4 hq => ?_) (fun x h9 hq => hq.elim)
  obtain ⟨rfl, hM⟩ := hq
  refine zV_iload_n O dX7_unplan_36 rfl rfl ?_
  exact zV_iret O rfl ⟨_, rfl, hM⟩ (Nat.le_of_ble_eq_true rfl) (Nat.le_of_ble_eq_true rfl) dX7_unplan_37
def mX7_load (x1 : Int) (h : Hp) (Q : Int → Hp → Prop) (QX : Nat → Hp → Prop) : Prop := ((x1 < 0 → (QX 0 h)) ∧ (¬ x1 < 0 → ((x1 ≤ (h 176 1) → (mX6_begin x1 h (fun h9 => (mX2_readText h9 (fun z10 h11 => ((z10 = 0 → (∀ h12 : Hp, h12 = hu h11 169 10 (-1) → (mX3_copyFrom 0 13 h12 (fun h13 => (mX0_clear h13 (fun h14 => (∀ h15 : Hp, h15 = hu h14 169 3 0 → (Q (h15 0 0) h15)))))))) ∧ (¬ z10 = 0 → (∀ h16 : Hp, h16 = hu h11 169 10 (h11 176 5) → (zr ((-10) - z10) ∧ (Q ((-10) - z10) h16)))))))))) ∧ (¬ x1 ≤ (h 176 1) → (QX 0 h)))))
set_option maxHeartbeats 4000000 in
set_option maxRecDepth 100000 in
theorem sX7_load {l0 : Launch} {x1 : Int} {h : Hp} {Q : Int → Hp → Prop} {QX : Nat → Hp → Prop}  (hM : mX7_load x1 h Q QX) : zSp l0 yX7_load cX7_load 3 (some .int) 185 (11) 1 6 [aR 169, aI x1] h (qI Q) QX := by
  unfold mX7_load at hM
  refine zSp_intro zpn_RX7 (Nat.le_of_ble_eq_true rfl) (fun a O => ?_)
  show zV a (11, 1, 6, (qI Q), QX) 0 0 0 [some (aR 169), some (aI x1), none] [] h
  refine zV_iload_n O dX7_load_0 rfl rfl ?_
  refine zV_if_lt (tgt := 15) O dX7_load_1 (by decide) (fun hc => ?_) (fun hc => ?_)
  · replace hM := hM.1 hc
    exact zV_throw (x := 0) O (by decide) (by decide) zth_RX7_82.1 zth_RX7_82.2.1 zth_RX7_82.2.2.1 zth_RX7_82.2.2.2 dX7_load_15 dX7_load_18 dX7_load_19 dX7_load_22 (Nat.le_of_ble_eq_true rfl) (Nat.le_of_ble_eq_true rfl) hM (Nat.le_of_ble_eq_true rfl) (Nat.le_of_ble_eq_true rfl)
  · replace hM := hM.2 hc
    refine zV_iload_n O dX7_load_4 rfl rfl ?_
    refine zV_aload_n O dX7_load_5 rfl rfl ?_
    refine zV_getR O zf_RX7_39 zt_169 rfl (by decide) dX7_load_6 ?_
    refine zV_getI O zf_RX7_75 zt_176 rfl (by decide) dX7_load_9 ?_
    refine zV_icmp_le (tgt := 23) O dX7_load_12 (by decide) (fun hc => ?_) (fun hc => ?_)
    · replace hM := hM.1 hc
      refine zV_aload_n O dX7_load_23 rfl rfl ?_
      refine zV_getR O zf_RX7_39 zt_169 rfl (by decide) dX7_load_24 ?_
      refine zV_iload_n O dX7_load_27 rfl rfl ?_
      refine zV_callV (as := [aI x1]) (st := []) O zc_X6_begin (Or.inr ⟨_, zl_RX7_85⟩) zi_803 zi_40 zt_176 rfl rfl (by decide) (Nat.le_of_ble_eq_true rfl) rfl rfl (Nat.le_of_ble_eq_true rfl) (Nat.le_of_ble_eq_true rfl) (Nat.le_of_ble_eq_true rfl) (Nat.le_of_ble_eq_true rfl) (Nat.le_of_ble_eq_true rfl) (Nat.le_of_ble_eq_true rfl) dX7_load_28 (sX6_begin hM) (fun r h9 hq => ?_) (fun x h9 hq => hq.elim)
      obtain ⟨rfl, hM⟩ := hq
      refine zV_aload_n O dX7_load_31 rfl rfl ?_
      refine zV_getR O zf_RX7_48 zt_169 rfl (by decide) dX7_load_32 ?_
      refine zV_callV (as := []) (st := []) O zc_X2_readText (Or.inr ⟨_, zl_RX7_88⟩) zi_818 zi_42 zt_178 rfl rfl (by decide) (Nat.le_of_ble_eq_true rfl) rfl rfl (Nat.le_of_ble_eq_true rfl) (Nat.le_of_ble_eq_true rfl) (Nat.le_of_ble_eq_true rfl) (Nat.le_of_ble_eq_true rfl) (Nat.le_of_ble_eq_true rfl) (Nat.le_of_ble_eq_true rfl) dX7_load_35 (sX2_readText hM) (fun r h11 hq => ?_) (fun x h9 hq => hq.elim)
      obtain ⟨z10, rfl, hM⟩ := hq
      refine zV_istore_n O dX7_load_38 rfl (Nat.le_of_ble_eq_true rfl) rfl ?_
      refine zV_iload_n O dX7_load_39 rfl rfl ?_
      refine zV_if_eq (tgt := 59) O dX7_load_40 (by decide) (fun hc => ?_) (fun hc => ?_)
      · replace hM := hM.1 hc
        refine zV_aload_n O dX7_load_59 rfl rfl ?_
        refine zV_iconst (z := -1) O ⟨by omega, by omega⟩ dX7_load_60 ?_
        refine zV_putI O zf_RX7_68 zt_169 rfl (by decide) dX7_load_61 ?_
        have hM := hM _ rfl
        generalize hu h11 169 10 (-1) = h12 at hM ⊢
        refine zV_aload_n O dX7_load_64 rfl rfl ?_
        refine zV_getR O zf_RX7_10 zt_169 rfl (by decide) dX7_load_65 ?_
        refine zV_aload_n O dX7_load_68 rfl rfl ?_
        refine zV_getR O zf_RX7_16 zt_169 rfl (by decide) dX7_load_69 ?_
        refine zV_callV (as := [aR 13]) (st := []) O zc_X3_copyFrom (Or.inr ⟨_, zl_RX7_95⟩) zi_531 zi_7 (zN_o zisN_0) rfl rfl (zN_lt0 zisN_0) (Nat.le_of_ble_eq_true rfl) rfl rfl (Nat.le_of_ble_eq_true rfl) (Nat.le_of_ble_eq_true rfl) (Nat.le_of_ble_eq_true rfl) (Nat.le_of_ble_eq_true rfl) (Nat.le_of_ble_eq_true rfl) (Nat.le_of_ble_eq_true rfl) dX7_load_72 (sX3_copyFrom zisN_0 zisN_13 hM) (fun r h13 hq => ?_) (fun x h9 hq => hq.elim)
        obtain ⟨rfl, hM⟩ := hq
        refine zV_aload_n O dX7_load_75 rfl rfl ?_
        refine zV_getR O zf_RX7_25 zt_169 rfl (by decide) dX7_load_76 ?_
        refine zV_callV (as := []) (st := []) O zc_X0_clear (Or.inr ⟨_, zl_RX7_99⟩) zi_729 zi_38 zt_170 rfl rfl (by decide) (Nat.le_of_ble_eq_true rfl) rfl rfl (Nat.le_of_ble_eq_true rfl) (Nat.le_of_ble_eq_true rfl) (Nat.le_of_ble_eq_true rfl) (Nat.le_of_ble_eq_true rfl) (Nat.le_of_ble_eq_true rfl) (Nat.le_of_ble_eq_true rfl) dX7_load_79 (sX0_clear hM) (fun r h14 hq => ?_) (fun x h9 hq => hq.elim)
        obtain ⟨rfl, hM⟩ := hq
        refine zV_aload_n O dX7_load_82 rfl rfl ?_
        refine zV_iconst (z := 0) O ⟨by omega, by omega⟩ dX7_load_83 ?_
        refine zV_putZ O zf_RX7_100 zt_169 rfl (by decide) (Or.inl rfl) dX7_load_84 ?_
        have hM := hM _ rfl
        generalize hu h14 169 3 0 = h15 at hM ⊢
        refine zV_aload_n O dX7_load_87 rfl rfl ?_
        refine zV_getR O zf_RX7_10 zt_169 rfl (by decide) dX7_load_88 ?_
        refine zV_getI O zf_RX7_104 (zN_o zisN_0) rfl (zN_lt0 zisN_0) dX7_load_91 ?_
        exact zV_iret O rfl ⟨_, rfl, hM⟩ (Nat.le_of_ble_eq_true rfl) (Nat.le_of_ble_eq_true rfl) dX7_load_94
      · replace hM := hM.2 hc
        refine zV_aload_n O dX7_load_43 rfl rfl ?_
        refine zV_aload_n O dX7_load_44 rfl rfl ?_
        refine zV_getR O zf_RX7_39 zt_169 rfl (by decide) dX7_load_45 ?_
        refine zV_getI O zf_RX7_92 zt_176 rfl (by decide) dX7_load_48 ?_
        refine zV_putI O zf_RX7_68 zt_169 rfl (by decide) dX7_load_51 ?_
        have hM := hM _ rfl
        generalize hu h11 169 10 (h11 176 5) = h16 at hM ⊢
        refine zV_bipush (z := -10) O ⟨by omega, by omega⟩ rfl dX7_load_54 ?_
        refine zV_iload_n O dX7_load_56 rfl rfl ?_
        obtain ⟨hc, hM⟩ := hM
        refine zV_isub O dX7_load_57 hc ?_
        exact zV_iret O rfl ⟨_, rfl, hM⟩ (Nat.le_of_ble_eq_true rfl) (Nat.le_of_ble_eq_true rfl) dX7_load_58
    · replace hM := hM.2 hc
      exact zV_throw (x := 0) O (by decide) (by decide) zth_RX7_82.1 zth_RX7_82.2.1 zth_RX7_82.2.2.1 zth_RX7_82.2.2.2 dX7_load_15 dX7_load_18 dX7_load_19 dX7_load_22 (Nat.le_of_ble_eq_true rfl) (Nat.le_of_ble_eq_true rfl) hM (Nat.le_of_ble_eq_true rfl) (Nat.le_of_ble_eq_true rfl)
def mX7_query (x1 : Int) (h : Hp) (Q : Int → Hp → Prop) (QX : Nat → Hp → Prop) : Prop := ((x1 < 0 → (QX 0 h)) ∧ (¬ x1 < 0 → (((200 : Int) < x1 → (QX 0 h)) ∧ (¬ (200 : Int) < x1 → ((x1 ≤ (h 176 1) → (mX6_begin x1 h (fun h12 => (mX4_readQuery h12 (fun z13 h14 => ((z13 = 0 → (∀ h15 : Hp, h15 = hu h14 169 10 (-1) → (mX5_count 0 h15 (fun h16 => (mX4_hostsThatPass 0 h16 (fun z17 h18 => (((h18 179 3) = 0 → (mX7_smallestOf z17 h18 (fun z20 => (Q z20 h18)))) ∧ (¬ (h18 179 3) = 0 → (mJ13_bitCount_95d88 z17 h18 (fun z21 => (Q z21 h18))))))))))) ∧ (¬ z13 = 0 → (∀ h22 : Hp, h22 = hu h14 169 10 (h14 176 5) → (zr ((-1000000000) - z13) ∧ (Q ((-1000000000) - z13) h22)))))))))) ∧ (¬ x1 ≤ (h 176 1) → (QX 0 h)))))))
set_option maxHeartbeats 4000000 in
set_option maxRecDepth 100000 in
theorem sX7_query {l0 : Launch} {x1 : Int} {h : Hp} {Q : Int → Hp → Prop} {QX : Nat → Hp → Prop}  (hM : mX7_query x1 h Q QX) : zSp l0 yX7_query cX7_query 5 (some .int) 185 (42) 1 6 [aR 169, aI x1] h (qI Q) QX := by
  unfold mX7_query at hM
  refine zSp_intro zpn_RX7 (Nat.le_of_ble_eq_true rfl) (fun a O => ?_)
  show zV a (42, 1, 6, (qI Q), QX) 0 0 0 [some (aR 169), some (aI x1), none, none, none] [] h
  refine zV_iload_n O dX7_query_0 rfl rfl ?_
  refine zV_if_lt (tgt := 22) O dX7_query_1 (by decide) (fun hc => ?_) (fun hc => ?_)
  · replace hM := hM.1 hc
    exact zV_throw (x := 0) O (by decide) (by decide) zth_RX7_82.1 zth_RX7_82.2.1 zth_RX7_82.2.2.1 zth_RX7_82.2.2.2 dX7_query_22 dX7_query_25 dX7_query_26 dX7_query_29 (Nat.le_of_ble_eq_true rfl) (Nat.le_of_ble_eq_true rfl) hM (Nat.le_of_ble_eq_true rfl) (Nat.le_of_ble_eq_true rfl)
  · replace hM := hM.2 hc
    refine zV_iload_n O dX7_query_4 rfl rfl ?_
    refine zV_sipush (z := 200) O ⟨by omega, by omega⟩ rfl dX7_query_5 ?_
    refine zV_icmp_gt (tgt := 22) O dX7_query_8 (by decide) (fun hc => ?_) (fun hc => ?_)
    · replace hM := hM.1 hc
      exact zV_throw (x := 0) O (by decide) (by decide) zth_RX7_82.1 zth_RX7_82.2.1 zth_RX7_82.2.2.1 zth_RX7_82.2.2.2 dX7_query_22 dX7_query_25 dX7_query_26 dX7_query_29 (Nat.le_of_ble_eq_true rfl) (Nat.le_of_ble_eq_true rfl) hM (Nat.le_of_ble_eq_true rfl) (Nat.le_of_ble_eq_true rfl)
    · replace hM := hM.2 hc
      refine zV_iload_n O dX7_query_11 rfl rfl ?_
      refine zV_aload_n O dX7_query_12 rfl rfl ?_
      refine zV_getR O zf_RX7_39 zt_169 rfl (by decide) dX7_query_13 ?_
      refine zV_getI O zf_RX7_75 zt_176 rfl (by decide) dX7_query_16 ?_
      refine zV_icmp_le (tgt := 30) O dX7_query_19 (by decide) (fun hc => ?_) (fun hc => ?_)
      · replace hM := hM.1 hc
        refine zV_aload_n O dX7_query_30 rfl rfl ?_
        refine zV_getR O zf_RX7_39 zt_169 rfl (by decide) dX7_query_31 ?_
        refine zV_iload_n O dX7_query_34 rfl rfl ?_
        refine zV_callV (as := [aI x1]) (st := []) O zc_X6_begin (Or.inr ⟨_, zl_RX7_85⟩) zi_803 zi_40 zt_176 rfl rfl (by decide) (Nat.le_of_ble_eq_true rfl) rfl rfl (Nat.le_of_ble_eq_true rfl) (Nat.le_of_ble_eq_true rfl) (Nat.le_of_ble_eq_true rfl) (Nat.le_of_ble_eq_true rfl) (Nat.le_of_ble_eq_true rfl) (Nat.le_of_ble_eq_true rfl) dX7_query_35 (sX6_begin hM) (fun r h12 hq => ?_) (fun x h9 hq => hq.elim)
        obtain ⟨rfl, hM⟩ := hq
        refine zV_aload_n O dX7_query_38 rfl rfl ?_
        refine zV_getR O zf_RX7_57 zt_169 rfl (by decide) dX7_query_39 ?_
        refine zV_callV (as := []) (st := []) O zc_X4_readQuery (Or.inr ⟨_, zl_RX7_316⟩) zi_1213 zi_78 zt_179 rfl rfl (by decide) (Nat.le_of_ble_eq_true rfl) rfl rfl (Nat.le_of_ble_eq_true rfl) (Nat.le_of_ble_eq_true rfl) (Nat.le_of_ble_eq_true rfl) (Nat.le_of_ble_eq_true rfl) (Nat.le_of_ble_eq_true rfl) (Nat.le_of_ble_eq_true rfl) dX7_query_42 (sX4_readQuery hM) (fun r h14 hq => ?_) (fun x h9 hq => hq.elim)
        obtain ⟨z13, rfl, hM⟩ := hq
        refine zV_istore_n O dX7_query_45 rfl (Nat.le_of_ble_eq_true rfl) rfl ?_
        refine zV_iload_n O dX7_query_46 rfl rfl ?_
        refine zV_if_eq (tgt := 67) O dX7_query_47 (by decide) (fun hc => ?_) (fun hc => ?_)
        · replace hM := hM.1 hc
          refine zV_aload_n O dX7_query_67 rfl rfl ?_
          refine zV_iconst (z := -1) O ⟨by omega, by omega⟩ dX7_query_68 ?_
          refine zV_putI O zf_RX7_68 zt_169 rfl (by decide) dX7_query_69 ?_
          have hM := hM _ rfl
          generalize hu h14 169 10 (-1) = h15 at hM ⊢
          refine zV_aload_n O dX7_query_72 rfl rfl ?_
          refine zV_getR O zf_RX7_32 zt_169 rfl (by decide) dX7_query_73 ?_
          refine zV_aload_n O dX7_query_76 rfl rfl ?_
          refine zV_getR O zf_RX7_10 zt_169 rfl (by decide) dX7_query_77 ?_
          refine zV_callV (as := [aR 0]) (st := []) O zc_X5_count (Or.inr ⟨_, zl_RX7_185⟩) zi_498 zi_2 zt_172 rfl rfl (by decide) (Nat.le_of_ble_eq_true rfl) rfl rfl (Nat.le_of_ble_eq_true rfl) (Nat.le_of_ble_eq_true rfl) (Nat.le_of_ble_eq_true rfl) (Nat.le_of_ble_eq_true rfl) (Nat.le_of_ble_eq_true rfl) (Nat.le_of_ble_eq_true rfl) dX7_query_80 (sX5_count zisN_0 hM) (fun r h16 hq => ?_) (fun x h9 hq => hq.elim)
          obtain ⟨rfl, hM⟩ := hq
          refine zV_aload_n O dX7_query_83 rfl rfl ?_
          refine zV_getR O zf_RX7_57 zt_169 rfl (by decide) dX7_query_84 ?_
          refine zV_aload_n O dX7_query_87 rfl rfl ?_
          refine zV_getR O zf_RX7_10 zt_169 rfl (by decide) dX7_query_88 ?_
          refine zV_aload_n O dX7_query_91 rfl rfl ?_
          refine zV_getR O zf_RX7_32 zt_169 rfl (by decide) dX7_query_92 ?_
          refine zV_callV (as := [aR 0, aR 172]) (st := []) O zc_X4_hostsThatPass (Or.inr ⟨_, zl_RX7_320⟩) zi_1259 zi_85 zt_179 rfl rfl (by decide) (Nat.le_of_ble_eq_true rfl) rfl rfl (Nat.le_of_ble_eq_true rfl) (Nat.le_of_ble_eq_true rfl) (Nat.le_of_ble_eq_true rfl) (Nat.le_of_ble_eq_true rfl) (Nat.le_of_ble_eq_true rfl) (Nat.le_of_ble_eq_true rfl) dX7_query_95 (sX4_hostsThatPass zisN_0 hM) (fun r h18 hq => ?_) (fun x h9 hq => hq.elim)
          obtain ⟨z17, rfl, hM⟩ := hq
          refine zV_lstore_n O dX7_query_98 rfl (Nat.le_of_ble_eq_true rfl) rfl ?_
          refine zV_aload_n O dX7_query_99 rfl rfl ?_
          refine zV_getR O zf_RX7_57 zt_169 rfl (by decide) dX7_query_100 ?_
          refine zV_getZ O zf_RX7_324 zt_179 rfl (by decide) dX7_query_103 (fun hz19 => ?_)
          refine zV_if_eq (tgt := 116) O dX7_query_106 (by decide) (fun hc => ?_) (fun hc => ?_)
          · replace hM := hM.1 hc
            refine zV_lload_n O dX7_query_116 rfl rfl ?_
            refine zV_callS (as := [aL z17]) (st := []) O zc_X7_smallestOf (Or.inl zl_RX7_333) zi_1292 (Nat.le_of_ble_eq_true rfl) rfl rfl (Nat.le_of_ble_eq_true rfl) (Nat.le_of_ble_eq_true rfl) (Nat.le_of_ble_eq_true rfl) (Nat.le_of_ble_eq_true rfl) (Nat.le_of_ble_eq_true rfl) (Nat.le_of_ble_eq_true rfl) dX7_query_117 (sX7_smallestOf hM) (fun r h9 hq => ?_) (fun x h9 hq => hq.elim)
            obtain ⟨rfl, z20, rfl, hM⟩ := hq
            exact zV_iret O rfl ⟨_, rfl, hM⟩ (Nat.le_of_ble_eq_true rfl) (Nat.le_of_ble_eq_true rfl) dX7_query_120
          · replace hM := hM.2 hc
            refine zV_lload_n O dX7_query_109 rfl rfl ?_
            refine zV_callS (as := [aL z17]) (st := []) O zc_J13_bitCount_95d88 (Or.inl zl_RX7_327) zi_1286 (Nat.le_of_ble_eq_true rfl) rfl rfl (Nat.le_of_ble_eq_true rfl) (Nat.le_of_ble_eq_true rfl) (Nat.le_of_ble_eq_true rfl) (Nat.le_of_ble_eq_true rfl) (Nat.le_of_ble_eq_true rfl) (Nat.le_of_ble_eq_true rfl) dX7_query_110 (sJ13_bitCount_95d88 hM) (fun r h9 hq => ?_) (fun x h9 hq => hq.elim)
            obtain ⟨rfl, z21, rfl, hM⟩ := hq
            refine zV_goto (tgt := 120) O dX7_query_113 (by decide) ?_
            exact zV_iret O rfl ⟨_, rfl, hM⟩ (Nat.le_of_ble_eq_true rfl) (Nat.le_of_ble_eq_true rfl) dX7_query_120
        · replace hM := hM.2 hc
          refine zV_aload_n O dX7_query_50 rfl rfl ?_
          refine zV_aload_n O dX7_query_51 rfl rfl ?_
          refine zV_getR O zf_RX7_39 zt_169 rfl (by decide) dX7_query_52 ?_
          refine zV_getI O zf_RX7_92 zt_176 rfl (by decide) dX7_query_55 ?_
          refine zV_putI O zf_RX7_68 zt_169 rfl (by decide) dX7_query_58 ?_
          have hM := hM _ rfl
          generalize hu h14 169 10 (h14 176 5) = h22 at hM ⊢
          refine zV_ldcw (z := -1000000000) O ⟨by omega, by omega⟩ zi_1256.1 zi_1256.2 dX7_query_61 ?_
          refine zV_iload_n O dX7_query_64 rfl rfl ?_
          obtain ⟨hc, hM⟩ := hM
          refine zV_isub O dX7_query_65 hc ?_
          exact zV_iret O rfl ⟨_, rfl, hM⟩ (Nat.le_of_ble_eq_true rfl) (Nat.le_of_ble_eq_true rfl) dX7_query_66
      · replace hM := hM.2 hc
        exact zV_throw (x := 0) O (by decide) (by decide) zth_RX7_82.1 zth_RX7_82.2.1 zth_RX7_82.2.2.1 zth_RX7_82.2.2.2 dX7_query_22 dX7_query_25 dX7_query_26 dX7_query_29 (Nat.le_of_ble_eq_true rfl) (Nat.le_of_ble_eq_true rfl) hM (Nat.le_of_ble_eq_true rfl) (Nat.le_of_ble_eq_true rfl)
