def mJ7_fill_53178_b5 (r0 n0 : Nat) (Q : Hp → Prop) : Nat → Int → Int → Int → Hp → Prop
  | 0 => fun _ _ _ _ => False
  | fu5 + 1 => fun v1 v2 v3 h => ((v3 ≤ v2 → (Q h)) ∧ (¬ v3 ≤ v2 → (((0 : Int) ≤ v2 ∧ v2 < n0) ∧ (∀ h4 : Hp, h4 = wr h r0 v2 v1 → (zr (v2 + 1) ∧ ((mJ7_fill_53178_b5 r0 n0 Q fu5) v1 (v2 + 1) v3 h4))))))
set_option maxHeartbeats 4000000 in
set_option maxRecDepth 100000 in
theorem sJ7_fill_53178_b5 {l0 : Launch} {a : ZC} {r0 n0 : Nat} {Q : Hp → Prop}  (O : zOk l0 a cJ7_fill_53178 RJ7 4 none 185 []) (hr0 : zT[r0]? = some (.inl (0, n0))) (hl0 : r0 < 185) (hz0 : zr n0)  : ∀ (ff : Nat) (v1 : Int) (v2 : Int) (v3 : Int) (h : Hp), mJ7_fill_53178_b5 r0 n0 Q ff v1 v2 v3 h → zV a (1, 0, 0, (qV Q), xN) 0 0 5 [some (aR r0), some (aI v1), some (aI v2), some (aI v3)] [] h := by
  intro ff
  induction ff with
  | zero => intro v1 v2 v3 h hM; exact hM.elim
  | succ ff ih =>
    have hK5 := ih
    intro v1 v2 v3 h hM
    unfold mJ7_fill_53178_b5 at hM
    refine zV_iload_n O dJ7_fill_53178_5 rfl rfl ?_
    refine zV_iload_n O dJ7_fill_53178_6 rfl rfl ?_
    refine zV_icmp_ge (tgt := 20) O dJ7_fill_53178_7 (by decide) (fun hc => ?_) (fun hc => ?_)
    · replace hM := hM.1 hc
      exact zV_vret O rfl ⟨rfl, hM⟩ (Nat.le_of_ble_eq_true rfl) (Nat.le_of_ble_eq_true rfl) dJ7_fill_53178_20
    · replace hM := hM.2 hc
      refine zV_aload_n O dJ7_fill_53178_10 rfl rfl ?_
      refine zV_iload_n O dJ7_fill_53178_11 rfl rfl ?_
      refine zV_iload_n O dJ7_fill_53178_12 rfl rfl ?_
      obtain ⟨hc, hM⟩ := hM
      refine zV_iast O hr0 hl0 hc dJ7_fill_53178_13 ?_
      have hM := hM (hu h r0 (Int.toNat v2) v1) rfl
      generalize hu h r0 (Int.toNat v2) v1 = h4 at hM ⊢
      obtain ⟨hc, hM⟩ := hM
      refine zV_iinc O dJ7_fill_53178_14 rfl (Nat.le_of_ble_eq_true rfl) rfl hc ?_
      refine zV_goto (tgt := 5) O dJ7_fill_53178_17 (by decide) ?_
      exact hK5 _ _ _ _ hM
def mJ7_fill_53178 (r0 n0 : Nat) (x1 : Int) (h : Hp) (Q : Hp → Prop) : Prop := (∃ ff, mJ7_fill_53178_b5 r0 n0 Q ff x1 0 n0 h)
set_option maxHeartbeats 4000000 in
set_option maxRecDepth 100000 in
theorem sJ7_fill_53178 {l0 : Launch} {r0 n0 : Nat} {x1 : Int} {h : Hp} {Q : Hp → Prop} (hr0 : zT[r0]? = some (.inl (0, n0))) (hl0 : r0 < 185) (hz0 : zr n0) (hM : mJ7_fill_53178 r0 n0 x1 h Q) : zSp l0 yJ7_fill_53178 cJ7_fill_53178 4 none 185 (1) 0 0 [aR r0, aI x1] h (qV Q) xN := by
  unfold mJ7_fill_53178 at hM
  refine zSp_intro zpn_RJ7 (Nat.le_of_ble_eq_true rfl) (fun a O => ?_)
  show zV a (1, 0, 0, (qV Q), xN) 0 0 0 [some (aR r0), some (aI x1), none, none] [] h
  refine zV_iconst (z := 0) O ⟨by omega, by omega⟩ dJ7_fill_53178_0 ?_
  refine zV_istore_n O dJ7_fill_53178_1 rfl (Nat.le_of_ble_eq_true rfl) rfl ?_
  refine zV_aload_n O dJ7_fill_53178_2 rfl rfl ?_
  refine zV_alen O hr0 (by decide) hz0 hl0 dJ7_fill_53178_3 ?_
  refine zV_istore_n O dJ7_fill_53178_4 rfl (Nat.le_of_ble_eq_true rfl) rfl ?_
  obtain ⟨ff, hM⟩ := hM
  exact sJ7_fill_53178_b5 O hr0 hl0 hz0 ff _ _ _ _ hM
def mX0_clear  (h : Hp) (Q : Hp → Prop) : Prop := (∀ h2 : Hp, h2 = hu h 170 2 0 → (Q h2))
set_option maxHeartbeats 4000000 in
set_option maxRecDepth 100000 in
theorem sX0_clear {l0 : Launch}  {h : Hp} {Q : Hp → Prop}  (hM : mX0_clear  h Q) : zSp l0 yX0_clear cX0_clear 1 none 185 (1) 0 0 [aR 170] h (qV Q) xN := by
  unfold mX0_clear at hM
  refine zSp_intro zpn_RX0 (Nat.le_of_ble_eq_true rfl) (fun a O => ?_)
  show zV a (1, 0, 0, (qV Q), xN) 0 0 0 [some (aR 170)] [] h
  refine zV_aload_n O dX0_clear_0 rfl rfl ?_
  refine zV_iconst (z := 0) O ⟨by omega, by omega⟩ dX0_clear_1 ?_
  refine zV_putI O zf_RX0_18 zt_170 rfl (by decide) dX0_clear_2 ?_
  have hM := hM _ rfl
  generalize hu h 170 2 0 = h2 at hM ⊢
  exact zV_vret O rfl ⟨rfl, hM⟩ (Nat.le_of_ble_eq_true rfl) (Nat.le_of_ble_eq_true rfl) dX0_clear_5
def mX5_addOne (r0 n0 : Nat) (x1 : Int) (h : Hp) (Q : Hp → Prop) : Prop := ((x1 < 0 → (Q h)) ∧ (¬ x1 < 0 → ((n0 ≤ x1 → (Q h)) ∧ (¬ n0 ≤ x1 → (((0 : Int) ≤ x1 ∧ x1 < n0) ∧ (zr ((rd h r0 x1) + 1) ∧ (((0 : Int) ≤ x1 ∧ x1 < n0) ∧ (∀ h2 : Hp, h2 = wr h r0 x1 ((rd h r0 x1) + 1) → (Q h2)))))))))
set_option maxHeartbeats 4000000 in
set_option maxRecDepth 100000 in
theorem sX5_addOne {l0 : Launch} {r0 n0 : Nat} {x1 : Int} {h : Hp} {Q : Hp → Prop} (hr0 : zT[r0]? = some (.inl (0, n0))) (hl0 : r0 < 185) (hz0 : zr n0) (hM : mX5_addOne r0 n0 x1 h Q) : zSp l0 yX5_addOne cX5_addOne 2 none 185 (1) 0 0 [aR r0, aI x1] h (qV Q) xN := by
  unfold mX5_addOne at hM
  refine zSp_intro zpn_RX5 (Nat.le_of_ble_eq_true rfl) (fun a O => ?_)
  show zV a (1, 0, 0, (qV Q), xN) 0 0 0 [some (aR r0), some (aI x1)] [] h
  refine zV_iload_n O dX5_addOne_0 rfl rfl ?_
  refine zV_if_lt (tgt := 17) O dX5_addOne_1 (by decide) (fun hc => ?_) (fun hc => ?_)
  · replace hM := hM.1 hc
    exact zV_vret O rfl ⟨rfl, hM⟩ (Nat.le_of_ble_eq_true rfl) (Nat.le_of_ble_eq_true rfl) dX5_addOne_17
  · replace hM := hM.2 hc
    refine zV_iload_n O dX5_addOne_4 rfl rfl ?_
    refine zV_aload_n O dX5_addOne_5 rfl rfl ?_
    refine zV_alen O hr0 (by decide) hz0 hl0 dX5_addOne_6 ?_
    refine zV_icmp_ge (tgt := 17) O dX5_addOne_7 (by decide) (fun hc => ?_) (fun hc => ?_)
    · replace hM := hM.1 hc
      exact zV_vret O rfl ⟨rfl, hM⟩ (Nat.le_of_ble_eq_true rfl) (Nat.le_of_ble_eq_true rfl) dX5_addOne_17
    · replace hM := hM.2 hc
      refine zV_aload_n O dX5_addOne_10 rfl rfl ?_
      refine zV_iload_n O dX5_addOne_11 rfl rfl ?_
      refine zV_dup2 O rfl rfl dX5_addOne_12 ?_
      obtain ⟨hc, hM⟩ := hM
      refine zV_iald O hr0 hl0 hc dX5_addOne_13 ?_
      refine zV_iconst (z := 1) O ⟨by omega, by omega⟩ dX5_addOne_14 ?_
      obtain ⟨hc, hM⟩ := hM
      refine zV_iadd O dX5_addOne_15 hc ?_
      obtain ⟨hc, hM⟩ := hM
      refine zV_iast O hr0 hl0 hc dX5_addOne_16 ?_
      have hM := hM (hu h r0 (Int.toNat x1) ((rd h r0 x1) + 1)) rfl
      generalize hu h r0 (Int.toNat x1) ((rd h r0 x1) + 1) = h2 at hM ⊢
      exact zV_vret O rfl ⟨rfl, hM⟩ (Nat.le_of_ble_eq_true rfl) (Nat.le_of_ble_eq_true rfl) dX5_addOne_17
def mX5_isClash (x1 : Int) (h : Hp) (Q : Int → Prop) : Prop := ((x1 < (1 : Int) → (Q 0)) ∧ (¬ x1 < (1 : Int) → (((250 : Int) < x1 → (Q 0)) ∧ (¬ (250 : Int) < x1 → (((0 : Int) ≤ x1 ∧ x1 < 251) ∧ (((rd h 173 x1) ≤ 0 → (Q 0)) ∧ (¬ (rd h 173 x1) ≤ 0 → (((0 : Int) ≤ x1 ∧ x1 < 251) ∧ (((rd h 174 x1) ≤ 0 → (Q 0)) ∧ (¬ (rd h 174 x1) ≤ 0 → (Q 1)))))))))))
set_option maxHeartbeats 4000000 in
set_option maxRecDepth 100000 in
theorem sX5_isClash {l0 : Launch} {x1 : Int} {h : Hp} {Q : Int → Prop}  (hM : mX5_isClash x1 h Q) : zSp l0 yX5_isClash cX5_isClash 2 (some .boolean) 185 (1) 0 0 [aR 172, aI x1] h (qPZ h Q) xN := by
  unfold mX5_isClash at hM
  refine zSp_intro zpn_RX5 (Nat.le_of_ble_eq_true rfl) (fun a O => ?_)
  show zV a (1, 0, 0, (qPZ h Q), xN) 0 0 0 [some (aR 172), some (aI x1)] [] h
  refine zV_iload_n O dX5_isClash_0 rfl rfl ?_
  refine zV_iconst (z := 1) O ⟨by omega, by omega⟩ dX5_isClash_1 ?_
  refine zV_icmp_lt (tgt := 34) O dX5_isClash_2 (by decide) (fun hc => ?_) (fun hc => ?_)
  · replace hM := hM.1 hc
    refine zV_iconst (z := 0) O ⟨by omega, by omega⟩ dX5_isClash_34 ?_
    exact zV_zret O rfl (Or.inl rfl) ⟨rfl, _, rfl, (Or.inl rfl), hM⟩ (Nat.le_of_ble_eq_true rfl) (Nat.le_of_ble_eq_true rfl) dX5_isClash_35
  · replace hM := hM.2 hc
    refine zV_iload_n O dX5_isClash_5 rfl rfl ?_
    refine zV_sipush (z := 250) O ⟨by omega, by omega⟩ rfl dX5_isClash_6 ?_
    refine zV_icmp_gt (tgt := 34) O dX5_isClash_9 (by decide) (fun hc => ?_) (fun hc => ?_)
    · replace hM := hM.1 hc
      refine zV_iconst (z := 0) O ⟨by omega, by omega⟩ dX5_isClash_34 ?_
      exact zV_zret O rfl (Or.inl rfl) ⟨rfl, _, rfl, (Or.inl rfl), hM⟩ (Nat.le_of_ble_eq_true rfl) (Nat.le_of_ble_eq_true rfl) dX5_isClash_35
    · replace hM := hM.2 hc
      refine zV_aload_n O dX5_isClash_12 rfl rfl ?_
      refine zV_getR O zf_RX5_9 zt_172 rfl (by decide) dX5_isClash_13 ?_
      refine zV_iload_n O dX5_isClash_16 rfl rfl ?_
      obtain ⟨hc, hM⟩ := hM
      refine zV_iald O zt_173 (by decide) hc dX5_isClash_17 ?_
      refine zV_if_le (tgt := 34) O dX5_isClash_18 (by decide) (fun hc => ?_) (fun hc => ?_)
      · replace hM := hM.1 hc
        refine zV_iconst (z := 0) O ⟨by omega, by omega⟩ dX5_isClash_34 ?_
        exact zV_zret O rfl (Or.inl rfl) ⟨rfl, _, rfl, (Or.inl rfl), hM⟩ (Nat.le_of_ble_eq_true rfl) (Nat.le_of_ble_eq_true rfl) dX5_isClash_35
      · replace hM := hM.2 hc
        refine zV_aload_n O dX5_isClash_21 rfl rfl ?_
        refine zV_getR O zf_RX5_15 zt_172 rfl (by decide) dX5_isClash_22 ?_
        refine zV_iload_n O dX5_isClash_25 rfl rfl ?_
        obtain ⟨hc, hM⟩ := hM
        refine zV_iald O zt_174 (by decide) hc dX5_isClash_26 ?_
        refine zV_if_le (tgt := 34) O dX5_isClash_27 (by decide) (fun hc => ?_) (fun hc => ?_)
        · replace hM := hM.1 hc
          refine zV_iconst (z := 0) O ⟨by omega, by omega⟩ dX5_isClash_34 ?_
          exact zV_zret O rfl (Or.inl rfl) ⟨rfl, _, rfl, (Or.inl rfl), hM⟩ (Nat.le_of_ble_eq_true rfl) (Nat.le_of_ble_eq_true rfl) dX5_isClash_35
        · replace hM := hM.2 hc
          refine zV_iconst (z := 1) O ⟨by omega, by omega⟩ dX5_isClash_30 ?_
          refine zV_goto (tgt := 35) O dX5_isClash_31 (by decide) ?_
          exact zV_zret O rfl (Or.inr rfl) ⟨rfl, _, rfl, (Or.inr rfl), hM⟩ (Nat.le_of_ble_eq_true rfl) (Nat.le_of_ble_eq_true rfl) dX5_isClash_35
def mX5_clashAt_b29 (h : Hp) (Q : Int → Prop) (K4 : Int → Int → Int → Prop) (v1 : Int) (v2 : Int) (v3 : Int) : Prop := (zr (v3 + 1) ∧ (K4 v1 v2 (v3 + 1)))
set_option maxHeartbeats 4000000 in
set_option maxRecDepth 100000 in
theorem sX5_clashAt_b29 {l0 : Launch} {a : ZC}  {h : Hp} {Q : Int → Prop} {K4 : Int → Int → Int → Prop} (O : zOk l0 a cX5_clashAt RX5 4 (some .int) 185 [])  (hK4 : ∀ (v1 : Int) (v2 : Int) (v3 : Int), K4 v1 v2 v3 → zV a (2, 0, 0, (qPI h Q), xN) 0 0 4 [some (aR 172), some (aI v1), some (aI v2), some (aI v3)] [] h) {v1 : Int} {v2 : Int} {v3 : Int}   (hM : mX5_clashAt_b29 h Q K4 v1 v2 v3) : zV a (2, 0, 0, (qPI h Q), xN) 0 0 29 [some (aR 172), some (aI v1), some (aI v2), some (aI v3)] [] h := by
  unfold mX5_clashAt_b29 at hM
  obtain ⟨hc, hM⟩ := hM
  refine zV_iinc O dX5_clashAt_29 rfl (Nat.le_of_ble_eq_true rfl) rfl hc ?_
  refine zV_goto (tgt := 4) O dX5_clashAt_32 (by decide) ?_
  exact hK4 _ _ _ hM
def mX5_clashAt_b4 (h : Hp) (Q : Int → Prop) : Nat → Int → Int → Int → Prop
  | 0 => fun _ _ _ => False
  | fu4 + 1 => fun v1 v2 v3 => (((250 : Int) < v3 → (Q 0)) ∧ (¬ (250 : Int) < v3 → (mX5_isClash v3 h (fun z4 => ((z4 = 0 → (mX5_clashAt_b29 h Q (mX5_clashAt_b4 h Q fu4) v1 v2 v3)) ∧ (¬ z4 = 0 → ((¬ v2 = v1 → (zr (v2 + 1) ∧ (mX5_clashAt_b29 h Q (mX5_clashAt_b4 h Q fu4) v1 (v2 + 1) v3))) ∧ (v2 = v1 → (Q v3)))))))))
set_option maxHeartbeats 4000000 in
set_option maxRecDepth 100000 in
theorem sX5_clashAt_b4 {l0 : Launch} {a : ZC}  {h : Hp} {Q : Int → Prop}  (O : zOk l0 a cX5_clashAt RX5 4 (some .int) 185 [])   : ∀ (ff : Nat) (v1 : Int) (v2 : Int) (v3 : Int) , mX5_clashAt_b4 h Q ff v1 v2 v3 → zV a (2, 0, 0, (qPI h Q), xN) 0 0 4 [some (aR 172), some (aI v1), some (aI v2), some (aI v3)] [] h := by
  intro ff
  induction ff with
  | zero => intro v1 v2 v3 hM; exact hM.elim
  | succ ff ih =>
    have hK4 := ih
    intro v1 v2 v3 hM
    unfold mX5_clashAt_b4 at hM
    refine zV_iload_n O dX5_clashAt_4 rfl rfl ?_
    refine zV_sipush (z := 250) O ⟨by omega, by omega⟩ rfl dX5_clashAt_5 ?_
    refine zV_icmp_gt (tgt := 35) O dX5_clashAt_8 (by decide) (fun hc => ?_) (fun hc => ?_)
    · replace hM := hM.1 hc
      refine zV_iconst (z := 0) O ⟨by omega, by omega⟩ dX5_clashAt_35 ?_
      exact zV_iret O rfl ⟨rfl, _, rfl, hM⟩ (Nat.le_of_ble_eq_true rfl) (Nat.le_of_ble_eq_true rfl) dX5_clashAt_36
    · replace hM := hM.2 hc
      refine zV_aload_n O dX5_clashAt_11 rfl rfl ?_
      refine zV_iload_n O dX5_clashAt_12 rfl rfl ?_
      refine zV_callV (as := [aI v3]) (st := []) O zc_X5_isClash (Or.inl zl_RX5_49) zi_718 zi_43 zt_172 rfl rfl (by decide) (Nat.le_of_ble_eq_true rfl) rfl rfl (Nat.le_of_ble_eq_true rfl) (Nat.le_of_ble_eq_true rfl) (Nat.le_of_ble_eq_true rfl) (Nat.le_of_ble_eq_true rfl) (Nat.le_of_ble_eq_true rfl) (Nat.le_of_ble_eq_true rfl) dX5_clashAt_13 (sX5_isClash hM) (fun r h9 hq => ?_) (fun x h9 hq => hq.elim)
      obtain ⟨rfl, z4, rfl, hzz4, hM⟩ := hq
      refine zV_if_eq (tgt := 29) O dX5_clashAt_16 (by decide) (fun hc => ?_) (fun hc => ?_)
      · replace hM := hM.1 hc
        exact sX5_clashAt_b29 O hK4 hM
      · replace hM := hM.2 hc
        refine zV_iload_n O dX5_clashAt_19 rfl rfl ?_
        refine zV_iload_n O dX5_clashAt_20 rfl rfl ?_
        refine zV_icmp_ne (tgt := 26) O dX5_clashAt_21 (by decide) (fun hc => ?_) (fun hc => ?_)
        · replace hM := hM.1 hc
          obtain ⟨hc, hM⟩ := hM
          refine zV_iinc O dX5_clashAt_26 rfl (Nat.le_of_ble_eq_true rfl) rfl hc ?_
          exact sX5_clashAt_b29 O hK4 hM
        · replace hM := hM.2 hc
          refine zV_iload_n O dX5_clashAt_24 rfl rfl ?_
          exact zV_iret O rfl ⟨rfl, _, rfl, hM⟩ (Nat.le_of_ble_eq_true rfl) (Nat.le_of_ble_eq_true rfl) dX5_clashAt_25
def mX5_clashAt (x1 : Int) (h : Hp) (Q : Int → Prop) : Prop := (∃ ff, mX5_clashAt_b4 h Q ff x1 0 1)
set_option maxHeartbeats 4000000 in
set_option maxRecDepth 100000 in
theorem sX5_clashAt {l0 : Launch} {x1 : Int} {h : Hp} {Q : Int → Prop}  (hM : mX5_clashAt x1 h Q) : zSp l0 yX5_clashAt cX5_clashAt 4 (some .int) 185 (2) 0 0 [aR 172, aI x1] h (qPI h Q) xN := by
  unfold mX5_clashAt at hM
  refine zSp_intro zpn_RX5 (Nat.le_of_ble_eq_true rfl) (fun a O => ?_)
  show zV a (2, 0, 0, (qPI h Q), xN) 0 0 0 [some (aR 172), some (aI x1), none, none] [] h
  refine zV_iconst (z := 0) O ⟨by omega, by omega⟩ dX5_clashAt_0 ?_
  refine zV_istore_n O dX5_clashAt_1 rfl (Nat.le_of_ble_eq_true rfl) rfl ?_
  refine zV_iconst (z := 1) O ⟨by omega, by omega⟩ dX5_clashAt_2 ?_
  refine zV_istore_n O dX5_clashAt_3 rfl (Nat.le_of_ble_eq_true rfl) rfl ?_
  obtain ⟨ff, hM⟩ := hM
  exact sX5_clashAt_b4 O ff _ _ _ hM
def mX5_clashes_b25 (h : Hp) (Q : Int → Prop) (K4 : Int → Int → Prop) (v2 : Int) (s0 : Int) (s1 : Int) : Prop := (zr (s1 + s0) ∧ (zr (v2 + 1) ∧ (K4 (s1 + s0) (v2 + 1))))
set_option maxHeartbeats 4000000 in
set_option maxRecDepth 100000 in
theorem sX5_clashes_b25 {l0 : Launch} {a : ZC}  {h : Hp} {Q : Int → Prop} {K4 : Int → Int → Prop} (O : zOk l0 a cX5_clashes RX5 3 (some .int) 185 [])  (hK4 : ∀ (v1 : Int) (v2 : Int), K4 v1 v2 → zV a (2, 0, 0, (qPI h Q), xN) 0 0 4 [some (aR 172), some (aI v1), some (aI v2)] [] h) {v2 : Int} {s0 : Int} {s1 : Int}  (hz_s0 : s0 = 0 ∨ s0 = 1) (hM : mX5_clashes_b25 h Q K4 v2 s0 s1) : zV a (2, 0, 0, (qPI h Q), xN) 0 0 25 [some (aR 172), none, some (aI v2)] [aI s0, aI s1] h := by
  unfold mX5_clashes_b25 at hM
  obtain ⟨hc, hM⟩ := hM
  refine zV_iadd O dX5_clashes_25 hc ?_
  refine zV_istore_n O dX5_clashes_26 rfl (Nat.le_of_ble_eq_true rfl) rfl ?_
  obtain ⟨hc, hM⟩ := hM
  refine zV_iinc O dX5_clashes_27 rfl (Nat.le_of_ble_eq_true rfl) rfl hc ?_
  refine zV_goto (tgt := 4) O dX5_clashes_30 (by decide) ?_
  exact hK4 _ _ hM
def mX5_clashes_b4 (h : Hp) (Q : Int → Prop) : Nat → Int → Int → Prop
  | 0 => fun _ _ => False
  | fu4 + 1 => fun v1 v2 => (((250 : Int) < v2 → (Q v1)) ∧ (¬ (250 : Int) < v2 → (mX5_isClash v2 h (fun z4 => ((z4 = 0 → (mX5_clashes_b25 h Q (mX5_clashes_b4 h Q fu4) v2 0 v1)) ∧ (¬ z4 = 0 → (mX5_clashes_b25 h Q (mX5_clashes_b4 h Q fu4) v2 1 v1)))))))
set_option maxHeartbeats 4000000 in
set_option maxRecDepth 100000 in
theorem sX5_clashes_b4 {l0 : Launch} {a : ZC}  {h : Hp} {Q : Int → Prop}  (O : zOk l0 a cX5_clashes RX5 3 (some .int) 185 [])   : ∀ (ff : Nat) (v1 : Int) (v2 : Int) , mX5_clashes_b4 h Q ff v1 v2 → zV a (2, 0, 0, (qPI h Q), xN) 0 0 4 [some (aR 172), some (aI v1), some (aI v2)] [] h := by
  intro ff
  induction ff with
  | zero => intro v1 v2 hM; exact hM.elim
  | succ ff ih =>
    have hK4 := ih
    intro v1 v2 hM
    unfold mX5_clashes_b4 at hM
    refine zV_iload_n O dX5_clashes_4 rfl rfl ?_
    refine zV_sipush (z := 250) O ⟨by omega, by omega⟩ rfl dX5_clashes_5 ?_
    refine zV_icmp_gt (tgt := 33) O dX5_clashes_8 (by decide) (fun hc => ?_) (fun hc => ?_)
    · replace hM := hM.1 hc
      refine zV_iload_n O dX5_clashes_33 rfl rfl ?_
      exact zV_iret O rfl ⟨rfl, _, rfl, hM⟩ (Nat.le_of_ble_eq_true rfl) (Nat.le_of_ble_eq_true rfl) dX5_clashes_34
    · replace hM := hM.2 hc
      refine zV_iload_n O dX5_clashes_11 rfl rfl ?_
      refine zV_aload_n O dX5_clashes_12 rfl rfl ?_
      refine zV_iload_n O dX5_clashes_13 rfl rfl ?_
      refine zV_callV (as := [aI v2]) (st := [aI v1]) O zc_X5_isClash (Or.inl zl_RX5_49) zi_718 zi_43 zt_172 rfl rfl (by decide) (Nat.le_of_ble_eq_true rfl) rfl rfl (Nat.le_of_ble_eq_true rfl) (Nat.le_of_ble_eq_true rfl) (Nat.le_of_ble_eq_true rfl) (Nat.le_of_ble_eq_true rfl) (Nat.le_of_ble_eq_true rfl) (Nat.le_of_ble_eq_true rfl) dX5_clashes_14 (sX5_isClash hM) (fun r h9 hq => ?_) (fun x h9 hq => hq.elim)
      obtain ⟨rfl, z4, rfl, hzz4, hM⟩ := hq
      refine zV_if_eq (tgt := 24) O dX5_clashes_17 (by decide) (fun hc => ?_) (fun hc => ?_)
      · replace hM := hM.1 hc
        refine zV_iconst (z := 0) O ⟨by omega, by omega⟩ dX5_clashes_24 ?_
        refine zV_sub (ls2 := [some (aR 172), none, some (aI v2)]) ⟨rfl, rfl, trivial⟩ ?_
        exact sX5_clashes_b25 O hK4 (Or.inl rfl) hM
      · replace hM := hM.2 hc
        refine zV_iconst (z := 1) O ⟨by omega, by omega⟩ dX5_clashes_20 ?_
        refine zV_goto (tgt := 25) O dX5_clashes_21 (by decide) ?_
        refine zV_sub (ls2 := [some (aR 172), none, some (aI v2)]) ⟨rfl, rfl, trivial⟩ ?_
        exact sX5_clashes_b25 O hK4 (Or.inr rfl) hM
def mX5_clashes  (h : Hp) (Q : Int → Prop) : Prop := (∃ ff, mX5_clashes_b4 h Q ff 0 1)
set_option maxHeartbeats 4000000 in
set_option maxRecDepth 100000 in
theorem sX5_clashes {l0 : Launch}  {h : Hp} {Q : Int → Prop}  (hM : mX5_clashes  h Q) : zSp l0 yX5_clashes cX5_clashes 3 (some .int) 185 (2) 0 0 [aR 172] h (qPI h Q) xN := by
  unfold mX5_clashes at hM
  refine zSp_intro zpn_RX5 (Nat.le_of_ble_eq_true rfl) (fun a O => ?_)
  show zV a (2, 0, 0, (qPI h Q), xN) 0 0 0 [some (aR 172), none, none] [] h
  refine zV_iconst (z := 0) O ⟨by omega, by omega⟩ dX5_clashes_0 ?_
  refine zV_istore_n O dX5_clashes_1 rfl (Nat.le_of_ble_eq_true rfl) rfl ?_
  refine zV_iconst (z := 1) O ⟨by omega, by omega⟩ dX5_clashes_2 ?_
  refine zV_istore_n O dX5_clashes_3 rfl (Nat.le_of_ble_eq_true rfl) rfl ?_
  obtain ⟨ff, hM⟩ := hM
  exact sX5_clashes_b4 O ff _ _ hM
def mX5_countPlan (x1 : Int) (h : Hp) (Q : Hp → Prop) : Prop := (mX5_addOne 175 251 x1 h (fun h2 => (Q h2)))
set_option maxHeartbeats 4000000 in
set_option maxRecDepth 100000 in
theorem sX5_countPlan {l0 : Launch} {x1 : Int} {h : Hp} {Q : Hp → Prop}  (hM : mX5_countPlan x1 h Q) : zSp l0 yX5_countPlan cX5_countPlan 2 none 185 (2) 0 0 [aR 172, aI x1] h (qV Q) xN := by
  unfold mX5_countPlan at hM
  refine zSp_intro zpn_RX5 (Nat.le_of_ble_eq_true rfl) (fun a O => ?_)
  show zV a (2, 0, 0, (qV Q), xN) 0 0 0 [some (aR 172), some (aI x1)] [] h
  refine zV_aload_n O dX5_countPlan_0 rfl rfl ?_
  refine zV_getR O zf_RX5_18 zt_172 rfl (by decide) dX5_countPlan_1 ?_
  refine zV_iload_n O dX5_countPlan_4 rfl rfl ?_
  refine zV_callS (as := [aR 175, aI x1]) (st := []) O zc_X5_addOne (Or.inl zl_RX5_43) zi_710 (Nat.le_of_ble_eq_true rfl) rfl rfl (Nat.le_of_ble_eq_true rfl) (Nat.le_of_ble_eq_true rfl) (Nat.le_of_ble_eq_true rfl) (Nat.le_of_ble_eq_true rfl) (Nat.le_of_ble_eq_true rfl) (Nat.le_of_ble_eq_true rfl) dX5_countPlan_5 (sX5_addOne zt_175 (by decide) ⟨by decide, by decide⟩ hM) (fun r h2 hq => ?_) (fun x h9 hq => hq.elim)
  obtain ⟨rfl, hM⟩ := hq
  exact zV_vret O rfl ⟨rfl, hM⟩ (Nat.le_of_ble_eq_true rfl) (Nat.le_of_ble_eq_true rfl) dX5_countPlan_8
def mX5_smallestFree_b47 (h : Hp) (Q : Int → Prop) (K6 : Int → Int → Prop) (v2 : Int) (v3 : Int) : Prop := (zr (v3 + 1) ∧ (K6 v2 (v3 + 1)))
set_option maxHeartbeats 4000000 in
set_option maxRecDepth 100000 in
theorem sX5_smallestFree_b47 {l0 : Launch} {a : ZC}  {h : Hp} {Q : Int → Prop} {K6 : Int → Int → Prop} (O : zOk l0 a cX5_smallestFree RX5 4 (some .int) 185 [])  (hK6 : ∀ (v2 : Int) (v3 : Int), K6 v2 v3 → zV a (2, 0, 0, (qPI h Q), xN) 0 0 6 [some (aR 172), none, some (aI v2), some (aI v3)] [] h) {v2 : Int} {v3 : Int}   (hM : mX5_smallestFree_b47 h Q K6 v2 v3) : zV a (2, 0, 0, (qPI h Q), xN) 0 0 47 [some (aR 172), none, some (aI v2), some (aI v3)] [] h := by
  unfold mX5_smallestFree_b47 at hM
  obtain ⟨hc, hM⟩ := hM
  refine zV_iinc O dX5_smallestFree_47 rfl (Nat.le_of_ble_eq_true rfl) rfl hc ?_
  refine zV_goto (tgt := 6) O dX5_smallestFree_50 (by decide) ?_
  exact hK6 _ _ hM
def mX5_smallestFree_b6 (h : Hp) (Q : Int → Prop) : Nat → Int → Int → Prop
  | 0 => fun _ _ => False
  | fu6 + 1 => fun v2 v3 => ((v2 < v3 → (Q 0)) ∧ (¬ v2 < v3 → (((250 : Int) < v3 → (Q 0)) ∧ (¬ (250 : Int) < v3 → (((0 : Int) ≤ v3 ∧ v3 < 251) ∧ ((¬ (rd h 173 v3) = 0 → (mX5_smallestFree_b47 h Q (mX5_smallestFree_b6 h Q fu6) v2 v3)) ∧ ((rd h 173 v3) = 0 → (((0 : Int) ≤ v3 ∧ v3 < 251) ∧ ((¬ (rd h 174 v3) = 0 → (mX5_smallestFree_b47 h Q (mX5_smallestFree_b6 h Q fu6) v2 v3)) ∧ ((rd h 174 v3) = 0 → (((0 : Int) ≤ v3 ∧ v3 < 251) ∧ ((¬ (rd h 175 v3) = 0 → (mX5_smallestFree_b47 h Q (mX5_smallestFree_b6 h Q fu6) v2 v3)) ∧ ((rd h 175 v3) = 0 → (Q v3))))))))))))))
set_option maxHeartbeats 4000000 in
set_option maxRecDepth 100000 in
theorem sX5_smallestFree_b6 {l0 : Launch} {a : ZC}  {h : Hp} {Q : Int → Prop}  (O : zOk l0 a cX5_smallestFree RX5 4 (some .int) 185 [])   : ∀ (ff : Nat) (v2 : Int) (v3 : Int) , mX5_smallestFree_b6 h Q ff v2 v3 → zV a (2, 0, 0, (qPI h Q), xN) 0 0 6 [some (aR 172), none, some (aI v2), some (aI v3)] [] h := by
  intro ff
  induction ff with
  | zero => intro v2 v3 hM; exact hM.elim
  | succ ff ih =>
    have hK6 := ih
    intro v2 v3 hM
    unfold mX5_smallestFree_b6 at hM
    refine zV_iload_n O dX5_smallestFree_6 rfl rfl ?_
    refine zV_iload_n O dX5_smallestFree_7 rfl rfl ?_
    refine zV_icmp_gt (tgt := 53) O dX5_smallestFree_8 (by decide) (fun hc => ?_) (fun hc => ?_)
    · replace hM := hM.1 hc
      refine zV_iconst (z := 0) O ⟨by omega, by omega⟩ dX5_smallestFree_53 ?_
      exact zV_iret O rfl ⟨rfl, _, rfl, hM⟩ (Nat.le_of_ble_eq_true rfl) (Nat.le_of_ble_eq_true rfl) dX5_smallestFree_54
    · replace hM := hM.2 hc
      refine zV_iload_n O dX5_smallestFree_11 rfl rfl ?_
      refine zV_sipush (z := 250) O ⟨by omega, by omega⟩ rfl dX5_smallestFree_12 ?_
      refine zV_icmp_gt (tgt := 53) O dX5_smallestFree_15 (by decide) (fun hc => ?_) (fun hc => ?_)
      · replace hM := hM.1 hc
        refine zV_iconst (z := 0) O ⟨by omega, by omega⟩ dX5_smallestFree_53 ?_
        exact zV_iret O rfl ⟨rfl, _, rfl, hM⟩ (Nat.le_of_ble_eq_true rfl) (Nat.le_of_ble_eq_true rfl) dX5_smallestFree_54
      · replace hM := hM.2 hc
        refine zV_aload_n O dX5_smallestFree_18 rfl rfl ?_
        refine zV_getR O zf_RX5_9 zt_172 rfl (by decide) dX5_smallestFree_19 ?_
        refine zV_iload_n O dX5_smallestFree_22 rfl rfl ?_
        obtain ⟨hc, hM⟩ := hM
        refine zV_iald O zt_173 (by decide) hc dX5_smallestFree_23 ?_
        refine zV_if_ne (tgt := 47) O dX5_smallestFree_24 (by decide) (fun hc => ?_) (fun hc => ?_)
        · replace hM := hM.1 hc
          exact sX5_smallestFree_b47 O hK6 hM
        · replace hM := hM.2 hc
          refine zV_aload_n O dX5_smallestFree_27 rfl rfl ?_
          refine zV_getR O zf_RX5_15 zt_172 rfl (by decide) dX5_smallestFree_28 ?_
          refine zV_iload_n O dX5_smallestFree_31 rfl rfl ?_
          obtain ⟨hc, hM⟩ := hM
          refine zV_iald O zt_174 (by decide) hc dX5_smallestFree_32 ?_
          refine zV_if_ne (tgt := 47) O dX5_smallestFree_33 (by decide) (fun hc => ?_) (fun hc => ?_)
          · replace hM := hM.1 hc
            exact sX5_smallestFree_b47 O hK6 hM
          · replace hM := hM.2 hc
            refine zV_aload_n O dX5_smallestFree_36 rfl rfl ?_
            refine zV_getR O zf_RX5_18 zt_172 rfl (by decide) dX5_smallestFree_37 ?_
            refine zV_iload_n O dX5_smallestFree_40 rfl rfl ?_
            obtain ⟨hc, hM⟩ := hM
            refine zV_iald O zt_175 (by decide) hc dX5_smallestFree_41 ?_
            refine zV_if_ne (tgt := 47) O dX5_smallestFree_42 (by decide) (fun hc => ?_) (fun hc => ?_)
            · replace hM := hM.1 hc
              exact sX5_smallestFree_b47 O hK6 hM
            · replace hM := hM.2 hc
              refine zV_iload_n O dX5_smallestFree_45 rfl rfl ?_
              exact zV_iret O rfl ⟨rfl, _, rfl, hM⟩ (Nat.le_of_ble_eq_true rfl) (Nat.le_of_ble_eq_true rfl) dX5_smallestFree_46
def mX5_smallestFree (x1 : Int) (x2 : Int) (h : Hp) (Q : Int → Prop) : Prop := (∃ ff, mX5_smallestFree_b6 h Q ff x2 (max 1 x1))
set_option maxHeartbeats 4000000 in
set_option maxRecDepth 100000 in
theorem sX5_smallestFree {l0 : Launch} {x1 : Int} {x2 : Int} {h : Hp} {Q : Int → Prop}  (hM : mX5_smallestFree x1 x2 h Q) : zSp l0 yX5_smallestFree cX5_smallestFree 4 (some .int) 185 (2) 0 0 [aR 172, aI x1, aI x2] h (qPI h Q) xN := by
  unfold mX5_smallestFree at hM
  refine zSp_intro zpn_RX5 (Nat.le_of_ble_eq_true rfl) (fun a O => ?_)
  show zV a (2, 0, 0, (qPI h Q), xN) 0 0 0 [some (aR 172), some (aI x1), some (aI x2), none] [] h
  refine zV_iconst (z := 1) O ⟨by omega, by omega⟩ dX5_smallestFree_0 ?_
  refine zV_iload_n O dX5_smallestFree_1 rfl rfl ?_
  refine zV_max O zi_896 zi_897 zi_88 zi_898 (Nat.le_of_ble_eq_true rfl) (Nat.le_of_ble_eq_true rfl) (Nat.le_of_ble_eq_true rfl) (Nat.le_of_ble_eq_true rfl) dX5_smallestFree_2 ?_
  refine zV_istore_n O dX5_smallestFree_5 rfl (Nat.le_of_ble_eq_true rfl) rfl ?_
  refine zV_sub (ls2 := [some (aR 172), none, some (aI x2), some (aI (max 1 x1))]) ⟨rfl, rfl, rfl, trivial⟩ ?_
  obtain ⟨ff, hM⟩ := hM
  exact sX5_smallestFree_b6 O ff _ _ hM
def mX5_smallestTwice_b43 (h : Hp) (Q : Int → Prop) (K2 : Int → Int → Prop) (v1 : Int) (v2 : Int) : Prop := (zr (v2 + 1) ∧ (K2 v1 (v2 + 1)))
set_option maxHeartbeats 4000000 in
set_option maxRecDepth 100000 in
theorem sX5_smallestTwice_b43 {l0 : Launch} {a : ZC}  {h : Hp} {Q : Int → Prop} {K2 : Int → Int → Prop} (O : zOk l0 a cX5_smallestTwice RX5 3 (some .int) 185 [])  (hK2 : ∀ (v1 : Int) (v2 : Int), K2 v1 v2 → zV a (2, 0, 0, (qPI h Q), xN) 0 0 2 [some (aR 172), some (aI v1), some (aI v2)] [] h) {v1 : Int} {v2 : Int}   (hM : mX5_smallestTwice_b43 h Q K2 v1 v2) : zV a (2, 0, 0, (qPI h Q), xN) 0 0 43 [some (aR 172), some (aI v1), some (aI v2)] [] h := by
  unfold mX5_smallestTwice_b43 at hM
  obtain ⟨hc, hM⟩ := hM
  refine zV_iinc O dX5_smallestTwice_43 rfl (Nat.le_of_ble_eq_true rfl) rfl hc ?_
  refine zV_goto (tgt := 2) O dX5_smallestTwice_46 (by decide) ?_
  exact hK2 _ _ hM
def mX5_smallestTwice_b2 (h : Hp) (Q : Int → Prop) : Nat → Int → Int → Prop
  | 0 => fun _ _ => False
  | fu2 + 1 => fun v1 v2 => (((250 : Int) < v2 → (Q 0)) ∧ (¬ (250 : Int) < v2 → (((0 : Int) ≤ v2 ∧ v2 < 251) ∧ (((1 : Int) < (rd h 173 v2) → (Q v2)) ∧ (¬ (1 : Int) < (rd h 173 v2) → (((0 : Int) ≤ v2 ∧ v2 < 251) ∧ (((1 : Int) < (rd h 174 v2) → (Q v2)) ∧ (¬ (1 : Int) < (rd h 174 v2) → ((v1 = 0 → (mX5_smallestTwice_b43 h Q (mX5_smallestTwice_b2 h Q fu2) v1 v2)) ∧ (¬ v1 = 0 → (mX5_isClash v2 h (fun z4 => ((z4 = 0 → (mX5_smallestTwice_b43 h Q (mX5_smallestTwice_b2 h Q fu2) v1 v2)) ∧ (¬ z4 = 0 → (Q v2)))))))))))))))
set_option maxHeartbeats 4000000 in
set_option maxRecDepth 100000 in
theorem sX5_smallestTwice_b2 {l0 : Launch} {a : ZC}  {h : Hp} {Q : Int → Prop}  (O : zOk l0 a cX5_smallestTwice RX5 3 (some .int) 185 [])   : ∀ (ff : Nat) (v1 : Int) (v2 : Int) , mX5_smallestTwice_b2 h Q ff v1 v2 → zV a (2, 0, 0, (qPI h Q), xN) 0 0 2 [some (aR 172), some (aI v1), some (aI v2)] [] h := by
  intro ff
  induction ff with
  | zero => intro v1 v2 hM; exact hM.elim
  | succ ff ih =>
    have hK2 := ih
    intro v1 v2 hM
    unfold mX5_smallestTwice_b2 at hM
    refine zV_iload_n O dX5_smallestTwice_2 rfl rfl ?_
    refine zV_sipush (z := 250) O ⟨by omega, by omega⟩ rfl dX5_smallestTwice_3 ?_
    refine zV_icmp_gt (tgt := 49) O dX5_smallestTwice_6 (by decide) (fun hc => ?_) (fun hc => ?_)
    · replace hM := hM.1 hc
      refine zV_iconst (z := 0) O ⟨by omega, by omega⟩ dX5_smallestTwice_49 ?_
      exact zV_iret O rfl ⟨rfl, _, rfl, hM⟩ (Nat.le_of_ble_eq_true rfl) (Nat.le_of_ble_eq_true rfl) dX5_smallestTwice_50
    · replace hM := hM.2 hc
      refine zV_aload_n O dX5_smallestTwice_9 rfl rfl ?_
      refine zV_getR O zf_RX5_9 zt_172 rfl (by decide) dX5_smallestTwice_10 ?_
      refine zV_iload_n O dX5_smallestTwice_13 rfl rfl ?_
      obtain ⟨hc, hM⟩ := hM
      refine zV_iald O zt_173 (by decide) hc dX5_smallestTwice_14 ?_
      refine zV_iconst (z := 1) O ⟨by omega, by omega⟩ dX5_smallestTwice_15 ?_
      refine zV_icmp_gt (tgt := 41) O dX5_smallestTwice_16 (by decide) (fun hc => ?_) (fun hc => ?_)
      · replace hM := hM.1 hc
        refine zV_iload_n O dX5_smallestTwice_41 rfl rfl ?_
        exact zV_iret O rfl ⟨rfl, _, rfl, hM⟩ (Nat.le_of_ble_eq_true rfl) (Nat.le_of_ble_eq_true rfl) dX5_smallestTwice_42
      · replace hM := hM.2 hc
        refine zV_aload_n O dX5_smallestTwice_19 rfl rfl ?_
        refine zV_getR O zf_RX5_15 zt_172 rfl (by decide) dX5_smallestTwice_20 ?_
        refine zV_iload_n O dX5_smallestTwice_23 rfl rfl ?_
        obtain ⟨hc, hM⟩ := hM
        refine zV_iald O zt_174 (by decide) hc dX5_smallestTwice_24 ?_
        refine zV_iconst (z := 1) O ⟨by omega, by omega⟩ dX5_smallestTwice_25 ?_
        refine zV_icmp_gt (tgt := 41) O dX5_smallestTwice_26 (by decide) (fun hc => ?_) (fun hc => ?_)
        · replace hM := hM.1 hc
          refine zV_iload_n O dX5_smallestTwice_41 rfl rfl ?_
          exact zV_iret O rfl ⟨rfl, _, rfl, hM⟩ (Nat.le_of_ble_eq_true rfl) (Nat.le_of_ble_eq_true rfl) dX5_smallestTwice_42
        · replace hM := hM.2 hc
          refine zV_iload_n O dX5_smallestTwice_29 rfl rfl ?_
          refine zV_if_eq (tgt := 43) O dX5_smallestTwice_30 (by decide) (fun hc => ?_) (fun hc => ?_)
          · replace hM := hM.1 hc
            exact sX5_smallestTwice_b43 O hK2 hM
          · replace hM := hM.2 hc
            refine zV_aload_n O dX5_smallestTwice_33 rfl rfl ?_
            refine zV_iload_n O dX5_smallestTwice_34 rfl rfl ?_
            refine zV_callV (as := [aI v2]) (st := []) O zc_X5_isClash (Or.inl zl_RX5_49) zi_718 zi_43 zt_172 rfl rfl (by decide) (Nat.le_of_ble_eq_true rfl) rfl rfl (Nat.le_of_ble_eq_true rfl) (Nat.le_of_ble_eq_true rfl) (Nat.le_of_ble_eq_true rfl) (Nat.le_of_ble_eq_true rfl) (Nat.le_of_ble_eq_true rfl) (Nat.le_of_ble_eq_true rfl) dX5_smallestTwice_35 (sX5_isClash hM) (fun r h9 hq => ?_) (fun x h9 hq => hq.elim)
            obtain ⟨rfl, z4, rfl, hzz4, hM⟩ := hq
            refine zV_if_eq (tgt := 43) O dX5_smallestTwice_38 (by decide) (fun hc => ?_) (fun hc => ?_)
            · replace hM := hM.1 hc
              exact sX5_smallestTwice_b43 O hK2 hM
            · replace hM := hM.2 hc
              refine zV_iload_n O dX5_smallestTwice_41 rfl rfl ?_
              exact zV_iret O rfl ⟨rfl, _, rfl, hM⟩ (Nat.le_of_ble_eq_true rfl) (Nat.le_of_ble_eq_true rfl) dX5_smallestTwice_42
def mX5_smallestTwice (x1 : Int) (h : Hp) (Q : Int → Prop) : Prop := (∃ ff, mX5_smallestTwice_b2 h Q ff x1 1)
set_option maxHeartbeats 4000000 in
set_option maxRecDepth 100000 in
theorem sX5_smallestTwice {l0 : Launch} {x1 : Int} {h : Hp} {Q : Int → Prop}  (hM : mX5_smallestTwice x1 h Q) : zSp l0 yX5_smallestTwice cX5_smallestTwice 3 (some .int) 185 (2) 0 0 [aR 172, aI x1] h (qPI h Q) xN := by
  unfold mX5_smallestTwice at hM
  refine zSp_intro zpn_RX5 (Nat.le_of_ble_eq_true rfl) (fun a O => ?_)
  show zV a (2, 0, 0, (qPI h Q), xN) 0 0 0 [some (aR 172), some (aI x1), none] [] h
  refine zV_iconst (z := 1) O ⟨by omega, by omega⟩ dX5_smallestTwice_0 ?_
  refine zV_istore_n O dX5_smallestTwice_1 rfl (Nat.le_of_ble_eq_true rfl) rfl ?_
  obtain ⟨ff, hM⟩ := hM
  exact sX5_smallestTwice_b2 O ff _ _ hM
def mX5_count_b89 (o1 : Nat) (Q : Hp → Prop) (K26 : Int → Hp → Prop) (v2 : Int) (h : Hp) : Prop := (((0 : Int) ≤ v2 ∧ v2 < 40) ∧ (mX5_addOne 175 251 (rd h (o1 + 5) v2) h (fun h19 => (zr (v2 + 1) ∧ (K26 (v2 + 1) h19)))))
set_option maxHeartbeats 4000000 in
set_option maxRecDepth 100000 in
theorem sX5_count_b89 {l0 : Launch} {a : ZC} {o1 : Nat} {Q : Hp → Prop} {K26 : Int → Hp → Prop} (O : zOk l0 a cX5_count RX5 5 none 185 []) (hN1 : zisN o1) (hK26 : ∀ (v2 : Int) (h : Hp), K26 v2 h → zV a (3, 0, 0, (qV Q), xN) 0 0 26 [some (aR 172), some (aR o1), some (aI v2), none, none] [] h) {v2 : Int} {h : Hp}  (hM : mX5_count_b89 o1 Q K26 v2 h) : zV a (3, 0, 0, (qV Q), xN) 0 0 89 [some (aR 172), some (aR o1), some (aI v2), none, none] [] h := by
  unfold mX5_count_b89 at hM
  refine zV_aload_n O dX5_count_89 rfl rfl ?_
  refine zV_getR O zf_RX5_18 zt_172 rfl (by decide) dX5_count_90 ?_
  refine zV_aload_n O dX5_count_93 rfl rfl ?_
  refine zV_getR O zf_RX5_46 (zN_o hN1) rfl (zN_lt0 hN1) dX5_count_94 ?_
  refine zV_iload_n O dX5_count_97 rfl rfl ?_
  obtain ⟨hc, hM⟩ := hM
  refine zV_iald O (zN_a5 hN1) (zN_lt hN1 (k := 5) (by decide)) hc dX5_count_98 ?_
  refine zV_callS (as := [aR 175, aI (rd h (o1 + 5) v2)]) (st := []) O zc_X5_addOne (Or.inl zl_RX5_43) zi_710 (Nat.le_of_ble_eq_true rfl) rfl rfl (Nat.le_of_ble_eq_true rfl) (Nat.le_of_ble_eq_true rfl) (Nat.le_of_ble_eq_true rfl) (Nat.le_of_ble_eq_true rfl) (Nat.le_of_ble_eq_true rfl) (Nat.le_of_ble_eq_true rfl) dX5_count_99 (sX5_addOne zt_175 (by decide) ⟨by decide, by decide⟩ hM) (fun r h19 hq => ?_) (fun x h9 hq => hq.elim)
  obtain ⟨rfl, hM⟩ := hq
  obtain ⟨hc, hM⟩ := hM
  refine zV_iinc O dX5_count_102 rfl (Nat.le_of_ble_eq_true rfl) rfl hc ?_
  refine zV_goto (tgt := 26) O dX5_count_105 (by decide) ?_
  exact hK26 _ _ hM
def mX5_count_b54 (o1 : Nat) (Q : Hp → Prop) (K26 : Int → Hp → Prop) (v2 : Int) (qs0 : Nat) (h : Hp) : Prop := (mX3_keptBy o1 v2 h (fun z20 => (((0 : Int) ≤ v2 ∧ v2 < 40) ∧ (mX5_addOne qs0 251 (rd h (o1 + 3) v2) h (fun h21 => (((0 : Int) ≤ v2 ∧ v2 < 40) ∧ ((z20 = (rd h21 (o1 + 3) v2) → (mX5_count_b89 o1 Q K26 v2 h21)) ∧ (¬ z20 = (rd h21 (o1 + 3) v2) → (mX5_addOne qs0 251 z20 h21 (fun h22 => (mX5_count_b89 o1 Q K26 v2 h22)))))))))))
set_option maxHeartbeats 4000000 in
set_option maxRecDepth 100000 in
theorem sX5_count_b54 {l0 : Launch} {a : ZC} {o1 : Nat} {Q : Hp → Prop} {K26 : Int → Hp → Prop} (O : zOk l0 a cX5_count RX5 5 none 185 []) (hN1 : zisN o1) (hK26 : ∀ (v2 : Int) (h : Hp), K26 v2 h → zV a (3, 0, 0, (qV Q), xN) 0 0 26 [some (aR 172), some (aR o1), some (aI v2), none, none] [] h) {v2 : Int} {qs0 : Nat} {h : Hp} (hqs0 : zT[qs0]? = some (.inl (0, 251))) (hqls0 : qs0 < 185) (hM : mX5_count_b54 o1 Q K26 v2 qs0 h) : zV a (3, 0, 0, (qV Q), xN) 0 0 54 [some (aR 172), some (aR o1), some (aI v2), none, none] [aR qs0] h := by
  unfold mX5_count_b54 at hM
  refine zV_astore_n O dX5_count_54 rfl (Nat.le_of_ble_eq_true rfl) rfl ?_
  refine zV_aload_n O dX5_count_55 rfl rfl ?_
  refine zV_iload_n O dX5_count_56 rfl rfl ?_
  refine zV_callV (as := [aI v2]) (st := []) O zc_X3_keptBy (Or.inr ⟨_, zl_RX5_36⟩) zi_630 zi_27 (zN_o hN1) rfl rfl (zN_lt0 hN1) (Nat.le_of_ble_eq_true rfl) rfl rfl (Nat.le_of_ble_eq_true rfl) (Nat.le_of_ble_eq_true rfl) (Nat.le_of_ble_eq_true rfl) (Nat.le_of_ble_eq_true rfl) (Nat.le_of_ble_eq_true rfl) (Nat.le_of_ble_eq_true rfl) dX5_count_57 (sX3_keptBy hN1 hM) (fun r h9 hq => ?_) (fun x h9 hq => hq.elim)
  obtain ⟨rfl, z20, rfl, hM⟩ := hq
  refine zV_istore O dX5_count_60 (Nat.le_of_ble_eq_true rfl) rfl ?_
  refine zV_aload_n O dX5_count_62 rfl rfl ?_
  refine zV_aload_n O dX5_count_63 rfl rfl ?_
  refine zV_getR O zf_RX5_40 (zN_o hN1) rfl (zN_lt0 hN1) dX5_count_64 ?_
  refine zV_iload_n O dX5_count_67 rfl rfl ?_
  obtain ⟨hc, hM⟩ := hM
  refine zV_iald O (zN_a3 hN1) (zN_lt hN1 (k := 3) (by decide)) hc dX5_count_68 ?_
  refine zV_callS (as := [aR qs0, aI (rd h (o1 + 3) v2)]) (st := []) O zc_X5_addOne (Or.inl zl_RX5_43) zi_710 (Nat.le_of_ble_eq_true rfl) rfl rfl (Nat.le_of_ble_eq_true rfl) (Nat.le_of_ble_eq_true rfl) (Nat.le_of_ble_eq_true rfl) (Nat.le_of_ble_eq_true rfl) (Nat.le_of_ble_eq_true rfl) (Nat.le_of_ble_eq_true rfl) dX5_count_69 (sX5_addOne hqs0 hqls0 ⟨by decide, by decide⟩ hM) (fun r h21 hq => ?_) (fun x h9 hq => hq.elim)
  obtain ⟨rfl, hM⟩ := hq
  refine zV_iload O dX5_count_72 rfl ?_
  refine zV_aload_n O dX5_count_74 rfl rfl ?_
  refine zV_getR O zf_RX5_40 (zN_o hN1) rfl (zN_lt0 hN1) dX5_count_75 ?_
  refine zV_iload_n O dX5_count_78 rfl rfl ?_
  obtain ⟨hc, hM⟩ := hM
  refine zV_iald O (zN_a3 hN1) (zN_lt hN1 (k := 3) (by decide)) hc dX5_count_79 ?_
  refine zV_icmp_eq (tgt := 89) O dX5_count_80 (by decide) (fun hc => ?_) (fun hc => ?_)
  · replace hM := hM.1 hc
    refine zV_sub (ls2 := [some (aR 172), some (aR o1), some (aI v2), none, none]) ⟨rfl, rfl, rfl, trivial⟩ ?_
    exact sX5_count_b89 O hN1 hK26 hM
  · replace hM := hM.2 hc
    refine zV_aload_n O dX5_count_83 rfl rfl ?_
    refine zV_iload O dX5_count_84 rfl ?_
    refine zV_callS (as := [aR qs0, aI z20]) (st := []) O zc_X5_addOne (Or.inl zl_RX5_43) zi_710 (Nat.le_of_ble_eq_true rfl) rfl rfl (Nat.le_of_ble_eq_true rfl) (Nat.le_of_ble_eq_true rfl) (Nat.le_of_ble_eq_true rfl) (Nat.le_of_ble_eq_true rfl) (Nat.le_of_ble_eq_true rfl) (Nat.le_of_ble_eq_true rfl) dX5_count_86 (sX5_addOne hqs0 hqls0 ⟨by decide, by decide⟩ hM) (fun r h22 hq => ?_) (fun x h9 hq => hq.elim)
    obtain ⟨rfl, hM⟩ := hq
    refine zV_sub (ls2 := [some (aR 172), some (aR o1), some (aI v2), none, none]) ⟨rfl, rfl, rfl, trivial⟩ ?_
    exact sX5_count_b89 O hN1 hK26 hM
def mX5_count_b26 (o1 : Nat) (Q : Hp → Prop) : Nat → Int → Hp → Prop
  | 0 => fun _ _ => False
  | fu26 + 1 => fun v2 h => (((h o1 0) ≤ v2 → (Q h)) ∧ (¬ (h o1 0) ≤ v2 → (((0 : Int) ≤ v2 ∧ v2 < 40) ∧ ((¬ (rd h (o1 + 2) v2) = 0 → (mX5_count_b54 o1 Q (mX5_count_b26 o1 Q fu26) v2 174 h)) ∧ ((rd h (o1 + 2) v2) = 0 → (mX5_count_b54 o1 Q (mX5_count_b26 o1 Q fu26) v2 173 h))))))
set_option maxHeartbeats 4000000 in
set_option maxRecDepth 100000 in
theorem sX5_count_b26 {l0 : Launch} {a : ZC} {o1 : Nat} {Q : Hp → Prop}  (O : zOk l0 a cX5_count RX5 5 none 185 []) (hN1 : zisN o1)  : ∀ (ff : Nat) (v2 : Int) (h : Hp), mX5_count_b26 o1 Q ff v2 h → zV a (3, 0, 0, (qV Q), xN) 0 0 26 [some (aR 172), some (aR o1), some (aI v2), none, none] [] h := by
  intro ff
  induction ff with
  | zero => intro v2 h hM; exact hM.elim
  | succ ff ih =>
    have hK26 := ih
    intro v2 h hM
    unfold mX5_count_b26 at hM
    refine zV_iload_n O dX5_count_26 rfl rfl ?_
    refine zV_aload_n O dX5_count_27 rfl rfl ?_
    refine zV_getI O zf_RX5_27 (zN_o hN1) rfl (zN_lt0 hN1) dX5_count_28 ?_
    refine zV_icmp_ge (tgt := 108) O dX5_count_31 (by decide) (fun hc => ?_) (fun hc => ?_)
    · replace hM := hM.1 hc
      exact zV_vret O rfl ⟨rfl, hM⟩ (Nat.le_of_ble_eq_true rfl) (Nat.le_of_ble_eq_true rfl) dX5_count_108
    · replace hM := hM.2 hc
      refine zV_aload_n O dX5_count_34 rfl rfl ?_
      refine zV_getR O zf_RX5_33 (zN_o hN1) rfl (zN_lt0 hN1) dX5_count_35 ?_
      refine zV_iload_n O dX5_count_38 rfl rfl ?_
      obtain ⟨hc, hM⟩ := hM
      refine zV_iald O (zN_a2 hN1) (zN_lt hN1 (k := 2) (by decide)) hc dX5_count_39 ?_
      refine zV_if_ne (tgt := 50) O dX5_count_40 (by decide) (fun hc => ?_) (fun hc => ?_)
      · replace hM := hM.1 hc
        refine zV_aload_n O dX5_count_50 rfl rfl ?_
        refine zV_getR O zf_RX5_15 zt_172 rfl (by decide) dX5_count_51 ?_
        exact sX5_count_b54 O hN1 hK26 zt_174 (by decide) hM
      · replace hM := hM.2 hc
        refine zV_aload_n O dX5_count_43 rfl rfl ?_
        refine zV_getR O zf_RX5_9 zt_172 rfl (by decide) dX5_count_44 ?_
        refine zV_goto (tgt := 54) O dX5_count_47 (by decide) ?_
        exact sX5_count_b54 O hN1 hK26 zt_173 (by decide) hM
def mX5_count (o1 : Nat) (h : Hp) (Q : Hp → Prop) : Prop := (mJ7_fill_53178 173 251 0 h (fun h23 => (mJ7_fill_53178 174 251 0 h23 (fun h24 => (mJ7_fill_53178 175 251 0 h24 (fun h25 => (∃ ff, mX5_count_b26 o1 Q ff 0 h25)))))))
set_option maxHeartbeats 4000000 in
set_option maxRecDepth 100000 in
theorem sX5_count {l0 : Launch} {o1 : Nat} {h : Hp} {Q : Hp → Prop} (hN1 : zisN o1) (hM : mX5_count o1 h Q) : zSp l0 yX5_count cX5_count 5 none 185 (3) 0 0 [aR 172, aR o1] h (qV Q) xN := by
  unfold mX5_count at hM
  refine zSp_intro zpn_RX5 (Nat.le_of_ble_eq_true rfl) (fun a O => ?_)
  show zV a (3, 0, 0, (qV Q), xN) 0 0 0 [some (aR 172), some (aR o1), none, none, none] [] h
  refine zV_aload_n O dX5_count_0 rfl rfl ?_
  refine zV_getR O zf_RX5_9 zt_172 rfl (by decide) dX5_count_1 ?_
  refine zV_iconst (z := 0) O ⟨by omega, by omega⟩ dX5_count_4 ?_
  refine zV_callS (as := [aR 173, aI 0]) (st := []) O zc_J7_fill_53178 (Or.inl zl_RX5_21) zi_706 (Nat.le_of_ble_eq_true rfl) rfl rfl (Nat.le_of_ble_eq_true rfl) (Nat.le_of_ble_eq_true rfl) (Nat.le_of_ble_eq_true rfl) (Nat.le_of_ble_eq_true rfl) (Nat.le_of_ble_eq_true rfl) (Nat.le_of_ble_eq_true rfl) dX5_count_5 (sJ7_fill_53178 zt_173 (by decide) ⟨by decide, by decide⟩ hM) (fun r h23 hq => ?_) (fun x h9 hq => hq.elim)
  obtain ⟨rfl, hM⟩ := hq
  refine zV_aload_n O dX5_count_8 rfl rfl ?_
  refine zV_getR O zf_RX5_15 zt_172 rfl (by decide) dX5_count_9 ?_
  refine zV_iconst (z := 0) O ⟨by omega, by omega⟩ dX5_count_12 ?_
  refine zV_callS (as := [aR 174, aI 0]) (st := []) O zc_J7_fill_53178 (Or.inl zl_RX5_21) zi_706 (Nat.le_of_ble_eq_true rfl) rfl rfl (Nat.le_of_ble_eq_true rfl) (Nat.le_of_ble_eq_true rfl) (Nat.le_of_ble_eq_true rfl) (Nat.le_of_ble_eq_true rfl) (Nat.le_of_ble_eq_true rfl) (Nat.le_of_ble_eq_true rfl) dX5_count_13 (sJ7_fill_53178 zt_174 (by decide) ⟨by decide, by decide⟩ hM) (fun r h24 hq => ?_) (fun x h9 hq => hq.elim)
  obtain ⟨rfl, hM⟩ := hq
  refine zV_aload_n O dX5_count_16 rfl rfl ?_
  refine zV_getR O zf_RX5_18 zt_172 rfl (by decide) dX5_count_17 ?_
  refine zV_iconst (z := 0) O ⟨by omega, by omega⟩ dX5_count_20 ?_
  refine zV_callS (as := [aR 175, aI 0]) (st := []) O zc_J7_fill_53178 (Or.inl zl_RX5_21) zi_706 (Nat.le_of_ble_eq_true rfl) rfl rfl (Nat.le_of_ble_eq_true rfl) (Nat.le_of_ble_eq_true rfl) (Nat.le_of_ble_eq_true rfl) (Nat.le_of_ble_eq_true rfl) (Nat.le_of_ble_eq_true rfl) (Nat.le_of_ble_eq_true rfl) dX5_count_21 (sJ7_fill_53178 zt_175 (by decide) ⟨by decide, by decide⟩ hM) (fun r h25 hq => ?_) (fun x h9 hq => hq.elim)
  obtain ⟨rfl, hM⟩ := hq
  refine zV_iconst (z := 0) O ⟨by omega, by omega⟩ dX5_count_24 ?_
  refine zV_istore_n O dX5_count_25 rfl (Nat.le_of_ble_eq_true rfl) rfl ?_
  obtain ⟨ff, hM⟩ := hM
  exact sX5_count_b26 O hN1 ff _ _ hM
def mX0_add_b22 (o1 : Nat) (Q : Hp → Prop) (s0 : Int) (h : Hp) : Prop := (∀ h13 : Hp, h13 = hu h 170 1 s0 → (((0 : Int) ≤ (h13 170 1) ∧ (h13 170 1) < 10) ∧ (mX3_copyFrom (39 + 13 * Int.toNat (h13 170 1)) o1 h13 (fun h15 => (zr ((h15 170 2) + 1) ∧ (∀ h16 : Hp, h16 = hu h15 170 2 (min 10 ((h15 170 2) + 1)) → (Q h16)))))))
set_option maxHeartbeats 4000000 in
set_option maxRecDepth 100000 in
theorem sX0_add_b22 {l0 : Launch} {a : ZC} {o1 : Nat} {Q : Hp → Prop}  (O : zOk l0 a cX0_add RX0 3 none 185 []) (hN1 : zisN o1)  {s0 : Int} {h : Hp}  (hM : mX0_add_b22 o1 Q s0 h) : zV a (5, 0, 0, (qV Q), xN) 0 0 22 [some (aR 170), some (aR o1), none] [aI s0, aR 170] h := by
  unfold mX0_add_b22 at hM
  refine zV_putI O zf_RX0_22 zt_170 rfl (by decide) dX0_add_22 ?_
  have hM := hM _ rfl
  generalize hu h 170 1 s0 = h13 at hM ⊢
  refine zV_aload_n O dX0_add_25 rfl rfl ?_
  refine zV_getR O zf_RX0_11 zt_170 rfl (by decide) dX0_add_26 ?_
  refine zV_aload_n O dX0_add_29 rfl rfl ?_
  refine zV_getI O zf_RX0_22 zt_170 rfl (by decide) dX0_add_30 ?_
  obtain ⟨hc, hM⟩ := hM
  have hN14 := zisN_hist hc
  refine zV_aald O zt_171 (by decide) hc dX0_add_33 ?_
  refine zV_astore_n O dX0_add_34 rfl (Nat.le_of_ble_eq_true rfl) rfl ?_
  refine zV_aload_n O dX0_add_35 rfl rfl ?_
  refine zV_ifnull O dX0_add_36 ?_
  refine zV_aload_n O dX0_add_39 rfl rfl ?_
  refine zV_aload_n O dX0_add_40 rfl rfl ?_
  refine zV_callV (as := [aR o1]) (st := []) O zc_X3_copyFrom (Or.inr ⟨_, zl_RX0_25⟩) zi_676 zi_37 (zN_o hN14) rfl rfl (zN_lt0 hN14) (Nat.le_of_ble_eq_true rfl) rfl rfl (Nat.le_of_ble_eq_true rfl) (Nat.le_of_ble_eq_true rfl) (Nat.le_of_ble_eq_true rfl) (Nat.le_of_ble_eq_true rfl) (Nat.le_of_ble_eq_true rfl) (Nat.le_of_ble_eq_true rfl) dX0_add_41 (sX3_copyFrom hN14 hN1 hM) (fun r h15 hq => ?_) (fun x h9 hq => hq.elim)
  obtain ⟨rfl, hM⟩ := hq
  refine zV_aload_n O dX0_add_44 rfl rfl ?_
  refine zV_bipush (z := 10) O ⟨by omega, by omega⟩ rfl dX0_add_45 ?_
  refine zV_aload_n O dX0_add_47 rfl rfl ?_
  refine zV_getI O zf_RX0_18 zt_170 rfl (by decide) dX0_add_48 ?_
  refine zV_iconst (z := 1) O ⟨by omega, by omega⟩ dX0_add_51 ?_
  obtain ⟨hc, hM⟩ := hM
  refine zV_iadd O dX0_add_52 hc ?_
  refine zV_min O zi_844 zi_538 zi_88 zi_539 (Nat.le_of_ble_eq_true rfl) (Nat.le_of_ble_eq_true rfl) (Nat.le_of_ble_eq_true rfl) (Nat.le_of_ble_eq_true rfl) dX0_add_53 ?_
  refine zV_putI O zf_RX0_18 zt_170 rfl (by decide) dX0_add_56 ?_
  have hM := hM _ rfl
  generalize hu h15 170 2 (min 10 ((h15 170 2) + 1)) = h16 at hM ⊢
  exact zV_vret O rfl ⟨rfl, hM⟩ (Nat.le_of_ble_eq_true rfl) (Nat.le_of_ble_eq_true rfl) dX0_add_59
def mX0_add (o1 : Nat) (h : Hp) (Q : Hp → Prop) : Prop := (zr ((h 170 1) + 1) ∧ (((10 : Int) ≤ ((h 170 1) + 1) → (mX0_add_b22 o1 Q 0 h)) ∧ (¬ (10 : Int) ≤ ((h 170 1) + 1) → (zr ((h 170 1) + 1) ∧ (mX0_add_b22 o1 Q ((h 170 1) + 1) h)))))
set_option maxHeartbeats 4000000 in
set_option maxRecDepth 100000 in
theorem sX0_add {l0 : Launch} {o1 : Nat} {h : Hp} {Q : Hp → Prop} (hN1 : zisN o1) (hM : mX0_add o1 h Q) : zSp l0 yX0_add cX0_add 3 none 185 (5) 0 0 [aR 170, aR o1] h (qV Q) xN := by
  unfold mX0_add at hM
  refine zSp_intro zpn_RX0 (Nat.le_of_ble_eq_true rfl) (fun a O => ?_)
  show zV a (5, 0, 0, (qV Q), xN) 0 0 0 [some (aR 170), some (aR o1), none] [] h
  refine zV_aload_n O dX0_add_0 rfl rfl ?_
  refine zV_aload_n O dX0_add_1 rfl rfl ?_
  refine zV_getI O zf_RX0_22 zt_170 rfl (by decide) dX0_add_2 ?_
  refine zV_iconst (z := 1) O ⟨by omega, by omega⟩ dX0_add_5 ?_
  obtain ⟨hc, hM⟩ := hM
  refine zV_iadd O dX0_add_6 hc ?_
  refine zV_bipush (z := 10) O ⟨by omega, by omega⟩ rfl dX0_add_7 ?_
  refine zV_icmp_ge (tgt := 21) O dX0_add_9 (by decide) (fun hc => ?_) (fun hc => ?_)
  · replace hM := hM.1 hc
    refine zV_iconst (z := 0) O ⟨by omega, by omega⟩ dX0_add_21 ?_
    exact sX0_add_b22 O hN1 hM
  · replace hM := hM.2 hc
    refine zV_aload_n O dX0_add_12 rfl rfl ?_
    refine zV_getI O zf_RX0_22 zt_170 rfl (by decide) dX0_add_13 ?_
    refine zV_iconst (z := 1) O ⟨by omega, by omega⟩ dX0_add_16 ?_
    obtain ⟨hc, hM⟩ := hM
    refine zV_iadd O dX0_add_17 hc ?_
    refine zV_goto (tgt := 22) O dX0_add_18 (by decide) ?_
    exact sX0_add_b22 O hN1 hM
def mX0_takeNewest_b55 (o1 : Nat) (Q : Hp → Prop) (s0 : Int) (h : Hp) : Prop := (∀ h6 : Hp, h6 = hu h 170 1 s0 → (Q h6))
set_option maxHeartbeats 4000000 in
set_option maxRecDepth 100000 in
theorem sX0_takeNewest_b55 {l0 : Launch} {a : ZC} {o1 : Nat} {Q : Hp → Prop}  (O : zOk l0 a cX0_takeNewest RX0 3 none 185 []) (hN1 : zisN o1)  {s0 : Int} {h : Hp}  (hM : mX0_takeNewest_b55 o1 Q s0 h) : zV a (5, 0, 0, (qV Q), xN) 0 0 55 [none, none, none] [aI s0, aR 170] h := by
  unfold mX0_takeNewest_b55 at hM
  refine zV_putI O zf_RX0_22 zt_170 rfl (by decide) dX0_takeNewest_55 ?_
  have hM := hM _ rfl
  generalize hu h 170 1 s0 = h6 at hM ⊢
  exact zV_vret O rfl ⟨rfl, hM⟩ (Nat.le_of_ble_eq_true rfl) (Nat.le_of_ble_eq_true rfl) dX0_takeNewest_58
def mX0_takeNewest (o1 : Nat) (h : Hp) (Q : Hp → Prop) : Prop := (((0 : Int) ≤ (h 170 1) ∧ (h 170 1) < 10) ∧ (((h 170 2) ≤ 0 → (Q h)) ∧ (¬ (h 170 2) ≤ 0 → (mX3_copyFrom o1 (39 + 13 * Int.toNat (h 170 1)) h (fun h8 => (zr ((h8 170 2) - 1) ∧ (∀ h9 : Hp, h9 = hu h8 170 2 ((h8 170 2) - 1) → (((h9 170 1) ≤ 0 → (mX0_takeNewest_b55 o1 Q 9 h9)) ∧ (¬ (h9 170 1) ≤ 0 → (zr ((h9 170 1) - 1) ∧ (mX0_takeNewest_b55 o1 Q ((h9 170 1) - 1) h9)))))))))))
set_option maxHeartbeats 4000000 in
set_option maxRecDepth 100000 in
theorem sX0_takeNewest {l0 : Launch} {o1 : Nat} {h : Hp} {Q : Hp → Prop} (hN1 : zisN o1) (hM : mX0_takeNewest o1 h Q) : zSp l0 yX0_takeNewest cX0_takeNewest 3 none 185 (5) 0 0 [aR 170, aR o1] h (qV Q) xN := by
  unfold mX0_takeNewest at hM
  refine zSp_intro zpn_RX0 (Nat.le_of_ble_eq_true rfl) (fun a O => ?_)
  show zV a (5, 0, 0, (qV Q), xN) 0 0 0 [some (aR 170), some (aR o1), none] [] h
  refine zV_aload_n O dX0_takeNewest_0 rfl rfl ?_
  refine zV_getR O zf_RX0_11 zt_170 rfl (by decide) dX0_takeNewest_1 ?_
  refine zV_aload_n O dX0_takeNewest_4 rfl rfl ?_
  refine zV_getI O zf_RX0_22 zt_170 rfl (by decide) dX0_takeNewest_5 ?_
  obtain ⟨hc, hM⟩ := hM
  have hN7 := zisN_hist hc
  refine zV_aald O zt_171 (by decide) hc dX0_takeNewest_8 ?_
  refine zV_astore_n O dX0_takeNewest_9 rfl (Nat.le_of_ble_eq_true rfl) rfl ?_
  refine zV_aload_n O dX0_takeNewest_10 rfl rfl ?_
  refine zV_getI O zf_RX0_18 zt_170 rfl (by decide) dX0_takeNewest_11 ?_
  refine zV_if_le (tgt := 58) O dX0_takeNewest_14 (by decide) (fun hc => ?_) (fun hc => ?_)
  · replace hM := hM.1 hc
    exact zV_vret O rfl ⟨rfl, hM⟩ (Nat.le_of_ble_eq_true rfl) (Nat.le_of_ble_eq_true rfl) dX0_takeNewest_58
  · replace hM := hM.2 hc
    refine zV_aload_n O dX0_takeNewest_17 rfl rfl ?_
    refine zV_ifnull O dX0_takeNewest_18 ?_
    refine zV_aload_n O dX0_takeNewest_21 rfl rfl ?_
    refine zV_aload_n O dX0_takeNewest_22 rfl rfl ?_
    refine zV_callV (as := [aR (39 + 13 * Int.toNat (h 170 1))]) (st := []) O zc_X3_copyFrom (Or.inr ⟨_, zl_RX0_25⟩) zi_676 zi_37 (zN_o hN1) rfl rfl (zN_lt0 hN1) (Nat.le_of_ble_eq_true rfl) rfl rfl (Nat.le_of_ble_eq_true rfl) (Nat.le_of_ble_eq_true rfl) (Nat.le_of_ble_eq_true rfl) (Nat.le_of_ble_eq_true rfl) (Nat.le_of_ble_eq_true rfl) (Nat.le_of_ble_eq_true rfl) dX0_takeNewest_23 (sX3_copyFrom hN1 hN7 hM) (fun r h8 hq => ?_) (fun x h9 hq => hq.elim)
    obtain ⟨rfl, hM⟩ := hq
    refine zV_aload_n O dX0_takeNewest_26 rfl rfl ?_
    refine zV_dup O rfl dX0_takeNewest_27 ?_
    refine zV_getI O zf_RX0_18 zt_170 rfl (by decide) dX0_takeNewest_28 ?_
    refine zV_iconst (z := 1) O ⟨by omega, by omega⟩ dX0_takeNewest_31 ?_
    obtain ⟨hc, hM⟩ := hM
    refine zV_isub O dX0_takeNewest_32 hc ?_
    refine zV_putI O zf_RX0_18 zt_170 rfl (by decide) dX0_takeNewest_33 ?_
    have hM := hM _ rfl
    generalize hu h8 170 2 ((h8 170 2) - 1) = h9 at hM ⊢
    refine zV_aload_n O dX0_takeNewest_36 rfl rfl ?_
    refine zV_aload_n O dX0_takeNewest_37 rfl rfl ?_
    refine zV_getI O zf_RX0_22 zt_170 rfl (by decide) dX0_takeNewest_38 ?_
    refine zV_if_le (tgt := 53) O dX0_takeNewest_41 (by decide) (fun hc => ?_) (fun hc => ?_)
    · replace hM := hM.1 hc
      refine zV_bipush (z := 9) O ⟨by omega, by omega⟩ rfl dX0_takeNewest_53 ?_
      refine zV_sub (ls2 := [none, none, none]) trivial ?_
      exact sX0_takeNewest_b55 O hN1 hM
    · replace hM := hM.2 hc
      refine zV_aload_n O dX0_takeNewest_44 rfl rfl ?_
      refine zV_getI O zf_RX0_22 zt_170 rfl (by decide) dX0_takeNewest_45 ?_
      refine zV_iconst (z := 1) O ⟨by omega, by omega⟩ dX0_takeNewest_48 ?_
      obtain ⟨hc, hM⟩ := hM
      refine zV_isub O dX0_takeNewest_49 hc ?_
      refine zV_goto (tgt := 55) O dX0_takeNewest_50 (by decide) ?_
      refine zV_sub (ls2 := [none, none, none]) trivial ?_
      exact sX0_takeNewest_b55 O hN1 hM
