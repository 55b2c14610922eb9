def mX8_adds (x1 : Int) (h : Hp) (Q : Hp → Prop) : Prop := (((0 : Int) ≤ (h 185 26) ∧ (h 185 26) < 200) ∧ (∀ h3 : Hp, h3 = wr h 194 (h 185 26) x1 → (zr ((h3 185 26) + 1) ∧ (∀ h4 : Hp, h4 = hu h3 185 26 ((h3 185 26) + 1) → (Q h4)))))
set_option maxHeartbeats 4000000 in
set_option maxRecDepth 100000 in
theorem sX8_adds {l0 : Launch} {x1 : Int} {h : Hp} {Q : Hp → Prop}  (hM : mX8_adds x1 h Q) : zSp l0 yX8_adds cX8_adds 2 none 197 (1) 0 0 [aR 185, aI x1] h (qV Q) xN := by
  unfold mX8_adds at hM
  refine zSp_intro zpn_RX8 (Nat.le_of_ble_eq_true rfl) (fun a O => ?_)
  show zV a (1, 0, 0, (qV Q), xN) 0 0 0 [some (aR 185), some (aI x1)] [] h
  refine zV_aload_n O dX8_adds_0 rfl rfl ?_
  refine zV_getR O zf_RX8_41 zt_185 rfl (by decide) dX8_adds_1 ?_
  refine zV_aload_n O dX8_adds_4 rfl rfl ?_
  refine zV_getI O zf_RX8_363 zt_185 rfl (by decide) dX8_adds_5 ?_
  refine zV_iload_n O dX8_adds_8 rfl rfl ?_
  obtain ⟨hc, hM⟩ := hM
  refine zV_iast O zt_194 (by decide) hc dX8_adds_9 ?_
  have hM := hM (hu h 194 (Int.toNat (h 185 26)) x1) rfl
  generalize hu h 194 (Int.toNat (h 185 26)) x1 = h3 at hM ⊢
  refine zV_aload_n O dX8_adds_10 rfl rfl ?_
  refine zV_dup O rfl dX8_adds_11 ?_
  refine zV_getI O zf_RX8_363 zt_185 rfl (by decide) dX8_adds_12 ?_
  refine zV_iconst (z := 1) O ⟨by omega, by omega⟩ dX8_adds_15 ?_
  obtain ⟨hc, hM⟩ := hM
  refine zV_iadd O dX8_adds_16 hc ?_
  refine zV_putI O zf_RX8_363 zt_185 rfl (by decide) dX8_adds_17 ?_
  have hM := hM _ rfl
  generalize hu h3 185 26 ((h3 185 26) + 1) = h4 at hM ⊢
  exact zV_vret O rfl ⟨rfl, hM⟩ (Nat.le_of_ble_eq_true rfl) (Nat.le_of_ble_eq_true rfl) dX8_adds_20
def mX8_begins_b2 (Q : Hp → Prop) : Nat → Int → Hp → Prop
  | 0 => fun _ _ => False
  | fu2 + 1 => fun v1 h => (((1096 : Int) ≤ v1 → (((0 : Int) ≤ 3 ∧ (3 : Int) < 1096) ∧ (∀ h16 : Hp, h16 = wr h 187 3 1 → (((0 : Int) ≤ 4 ∧ (4 : Int) < 1096) ∧ (∀ h17 : Hp, h17 = wr h16 187 4 3 → (((0 : Int) ≤ 5 ∧ (5 : Int) < 1096) ∧ (∀ h18 : Hp, h18 = wr h17 187 5 200 → (((0 : Int) ≤ 6 ∧ (6 : Int) < 1096) ∧ (∀ h19 : Hp, h19 = wr h18 187 6 250 → (Q h19)))))))))) ∧ (¬ (1096 : Int) ≤ v1 → (((0 : Int) ≤ v1 ∧ v1 < 1096) ∧ (∀ h20 : Hp, h20 = wr h 187 v1 0 → (zr (v1 + 1) ∧ ((mX8_begins_b2 Q fu2) (v1 + 1) h20))))))
set_option maxHeartbeats 4000000 in
set_option maxRecDepth 100000 in
theorem sX8_begins_b2 {l0 : Launch} {a : ZC}  {Q : Hp → Prop}  (O : zOk l0 a cX8_begins RX8 2 none 197 [])   : ∀ (ff : Nat) (v1 : Int) (h : Hp), mX8_begins_b2 Q ff v1 h → zV a (1, 0, 0, (qV Q), xN) 0 0 2 [some (aR 185), some (aI v1)] [] h := by
  intro ff
  induction ff with
  | zero => intro v1 h hM; exact hM.elim
  | succ ff ih =>
    have hK2 := ih
    intro v1 h hM
    unfold mX8_begins_b2 at hM
    refine zV_iload_n O dX8_begins_2 rfl rfl ?_
    refine zV_sipush (z := 1096) O ⟨by omega, by omega⟩ rfl dX8_begins_3 ?_
    refine zV_icmp_ge (tgt := 22) O dX8_begins_6 (by decide) (fun hc => ?_) (fun hc => ?_)
    · replace hM := hM.1 hc
      refine zV_aload_n O dX8_begins_22 rfl rfl ?_
      refine zV_getR O zf_RX8_17 zt_185 rfl (by decide) dX8_begins_23 ?_
      refine zV_iconst (z := 3) O ⟨by omega, by omega⟩ dX8_begins_26 ?_
      refine zV_iconst (z := 1) O ⟨by omega, by omega⟩ dX8_begins_27 ?_
      obtain ⟨hc, hM⟩ := hM
      refine zV_iast O zt_187 (by decide) hc dX8_begins_28 ?_
      have hM := hM (hu h 187 (Int.toNat 3) 1) rfl
      generalize hu h 187 (Int.toNat 3) 1 = h16 at hM ⊢
      refine zV_aload_n O dX8_begins_29 rfl rfl ?_
      refine zV_getR O zf_RX8_17 zt_185 rfl (by decide) dX8_begins_30 ?_
      refine zV_iconst (z := 4) O ⟨by omega, by omega⟩ dX8_begins_33 ?_
      refine zV_iconst (z := 3) O ⟨by omega, by omega⟩ dX8_begins_34 ?_
      obtain ⟨hc, hM⟩ := hM
      refine zV_iast O zt_187 (by decide) hc dX8_begins_35 ?_
      have hM := hM (hu h16 187 (Int.toNat 4) 3) rfl
      generalize hu h16 187 (Int.toNat 4) 3 = h17 at hM ⊢
      refine zV_aload_n O dX8_begins_36 rfl rfl ?_
      refine zV_getR O zf_RX8_17 zt_185 rfl (by decide) dX8_begins_37 ?_
      refine zV_iconst (z := 5) O ⟨by omega, by omega⟩ dX8_begins_40 ?_
      refine zV_sipush (z := 200) O ⟨by omega, by omega⟩ rfl dX8_begins_41 ?_
      obtain ⟨hc, hM⟩ := hM
      refine zV_iast O zt_187 (by decide) hc dX8_begins_44 ?_
      have hM := hM (hu h17 187 (Int.toNat 5) 200) rfl
      generalize hu h17 187 (Int.toNat 5) 200 = h18 at hM ⊢
      refine zV_aload_n O dX8_begins_45 rfl rfl ?_
      refine zV_getR O zf_RX8_17 zt_185 rfl (by decide) dX8_begins_46 ?_
      refine zV_bipush (z := 6) O ⟨by omega, by omega⟩ rfl dX8_begins_49 ?_
      refine zV_sipush (z := 250) O ⟨by omega, by omega⟩ rfl dX8_begins_51 ?_
      obtain ⟨hc, hM⟩ := hM
      refine zV_iast O zt_187 (by decide) hc dX8_begins_54 ?_
      have hM := hM (hu h18 187 (Int.toNat 6) 250) rfl
      generalize hu h18 187 (Int.toNat 6) 250 = h19 at hM ⊢
      exact zV_vret O rfl ⟨rfl, hM⟩ (Nat.le_of_ble_eq_true rfl) (Nat.le_of_ble_eq_true rfl) dX8_begins_55
    · replace hM := hM.2 hc
      refine zV_aload_n O dX8_begins_9 rfl rfl ?_
      refine zV_getR O zf_RX8_17 zt_185 rfl (by decide) dX8_begins_10 ?_
      refine zV_iload_n O dX8_begins_13 rfl rfl ?_
      refine zV_iconst (z := 0) O ⟨by omega, by omega⟩ dX8_begins_14 ?_
      obtain ⟨hc, hM⟩ := hM
      refine zV_iast O zt_187 (by decide) hc dX8_begins_15 ?_
      have hM := hM (hu h 187 (Int.toNat v1) 0) rfl
      generalize hu h 187 (Int.toNat v1) 0 = h20 at hM ⊢
      obtain ⟨hc, hM⟩ := hM
      refine zV_iinc O dX8_begins_16 rfl (Nat.le_of_ble_eq_true rfl) rfl hc ?_
      refine zV_goto (tgt := 2) O dX8_begins_19 (by decide) ?_
      exact hK2 _ _ hM
def mX8_begins  (h : Hp) (Q : Hp → Prop) : Prop := (∃ ff, mX8_begins_b2 Q ff 0 h)
set_option maxHeartbeats 4000000 in
set_option maxRecDepth 100000 in
theorem sX8_begins {l0 : Launch}  {h : Hp} {Q : Hp → Prop}  (hM : mX8_begins  h Q) : zSp l0 yX8_begins cX8_begins 2 none 197 (1) 0 0 [aR 185] h (qV Q) xN := by
  unfold mX8_begins at hM
  refine zSp_intro zpn_RX8 (Nat.le_of_ble_eq_true rfl) (fun a O => ?_)
  show zV a (1, 0, 0, (qV Q), xN) 0 0 0 [some (aR 185), none] [] h
  refine zV_iconst (z := 0) O ⟨by omega, by omega⟩ dX8_begins_0 ?_
  refine zV_istore_n O dX8_begins_1 rfl (Nat.le_of_ble_eq_true rfl) rfl ?_
  obtain ⟨ff, hM⟩ := hM
  exact sX8_begins_b2 O ff _ _ hM
def mX8_byteAt (x1 : Int) (h : Hp) (Q : Int → Prop) : Prop := (((h 185 10) ≤ x1 → (Q (-1))) ∧ (¬ (h 185 10) ≤ x1 → (((0 : Int) ≤ x1 ∧ x1 < 900) ∧ (Q (rd h 191 x1)))))
set_option maxHeartbeats 4000000 in
set_option maxRecDepth 100000 in
theorem sX8_byteAt {l0 : Launch} {x1 : Int} {h : Hp} {Q : Int → Prop}  (hM : mX8_byteAt x1 h Q) : zSp l0 yX8_byteAt cX8_byteAt 2 (some .int) 197 (1) 0 0 [aR 185, aI x1] h (qPI h Q) xN := by
  unfold mX8_byteAt at hM
  refine zSp_intro zpn_RX8 (Nat.le_of_ble_eq_true rfl) (fun a O => ?_)
  show zV a (1, 0, 0, (qPI h Q), xN) 0 0 0 [some (aR 185), some (aI x1)] [] h
  refine zV_iload_n O dX8_byteAt_0 rfl rfl ?_
  refine zV_aload_n O dX8_byteAt_1 rfl rfl ?_
  refine zV_getI O zf_RX8_64 zt_185 rfl (by decide) dX8_byteAt_2 ?_
  refine zV_icmp_ge (tgt := 17) O dX8_byteAt_5 (by decide) (fun hc => ?_) (fun hc => ?_)
  · replace hM := hM.1 hc
    refine zV_iconst (z := -1) O ⟨by omega, by omega⟩ dX8_byteAt_17 ?_
    exact zV_iret O rfl ⟨rfl, _, rfl, hM⟩ (Nat.le_of_ble_eq_true rfl) (Nat.le_of_ble_eq_true rfl) dX8_byteAt_18
  · replace hM := hM.2 hc
    refine zV_aload_n O dX8_byteAt_8 rfl rfl ?_
    refine zV_getR O zf_RX8_29 zt_185 rfl (by decide) dX8_byteAt_9 ?_
    refine zV_iload_n O dX8_byteAt_12 rfl rfl ?_
    obtain ⟨hc, hM⟩ := hM
    refine zV_iald O zt_191 (by decide) hc dX8_byteAt_13 ?_
    refine zV_goto (tgt := 18) O dX8_byteAt_14 (by decide) ?_
    exact zV_iret O rfl ⟨rfl, _, rfl, hM⟩ (Nat.le_of_ble_eq_true rfl) (Nat.le_of_ble_eq_true rfl) dX8_byteAt_18
def mX8_cell (x0 : Int) (x1 : Int) (h : Hp) (Q : Int → Prop) : Prop := (zr (24 * x0) ∧ (zr (16 + (24 * x0)) ∧ (zr ((16 + (24 * x0)) + x1) ∧ (Q ((16 + (24 * x0)) + x1)))))
set_option maxHeartbeats 4000000 in
set_option maxRecDepth 100000 in
theorem sX8_cell {l0 : Launch} {x0 : Int} {x1 : Int} {h : Hp} {Q : Int → Prop}  (hM : mX8_cell x0 x1 h Q) : zSp l0 yX8_cell cX8_cell 2 (some .int) 197 (1) 0 0 [aI x0, aI x1] h (qPI h Q) xN := by
  unfold mX8_cell at hM
  refine zSp_intro zpn_RX8 (Nat.le_of_ble_eq_true rfl) (fun a O => ?_)
  show zV a (1, 0, 0, (qPI h Q), xN) 0 0 0 [some (aI x0), some (aI x1)] [] h
  refine zV_bipush (z := 16) O ⟨by omega, by omega⟩ rfl dX8_cell_0 ?_
  refine zV_bipush (z := 24) O ⟨by omega, by omega⟩ rfl dX8_cell_2 ?_
  refine zV_iload_n O dX8_cell_4 rfl rfl ?_
  obtain ⟨hc, hM⟩ := hM
  refine zV_imul O dX8_cell_5 hc ?_
  obtain ⟨hc, hM⟩ := hM
  refine zV_iadd O dX8_cell_6 hc ?_
  refine zV_iload_n O dX8_cell_7 rfl rfl ?_
  obtain ⟨hc, hM⟩ := hM
  refine zV_iadd O dX8_cell_8 hc ?_
  exact zV_iret O rfl ⟨rfl, _, rfl, hM⟩ (Nat.le_of_ble_eq_true rfl) (Nat.le_of_ble_eq_true rfl) dX8_cell_9
def mX8_copies_b3 (r0 n0 : Nat) (r2 n2 : Nat) (Q : Hp → Prop) : Nat → Int → Int → Int → Hp → Prop
  | 0 => fun _ _ _ _ => False
  | fu3 + 1 => fun v1 v3 v4 h => (((1096 : Int) ≤ v4 → (Q h)) ∧ (¬ (1096 : Int) ≤ v4 → (zr (v3 + v4) ∧ (zr (v1 + v4) ∧ (((0 : Int) ≤ (v1 + v4) ∧ (v1 + v4) < n0) ∧ (((0 : Int) ≤ (v3 + v4) ∧ (v3 + v4) < n2) ∧ (∀ h4 : Hp, h4 = wr h r2 (v3 + v4) (rd h r0 (v1 + v4)) → (zr (v4 + 1) ∧ ((mX8_copies_b3 r0 n0 r2 n2 Q fu3) v1 v3 (v4 + 1) h4)))))))))
set_option maxHeartbeats 4000000 in
set_option maxRecDepth 100000 in
theorem sX8_copies_b3 {l0 : Launch} {a : ZC} {r0 n0 : Nat} {r2 n2 : Nat} {Q : Hp → Prop}  (O : zOk l0 a cX8_copies RX8 5 none 197 []) (hr0 : zT[r0]? = some (.inl (0, n0))) (hl0 : r0 < 197) (hz0 : zr n0) (hr2 : zT[r2]? = some (.inl (0, n2))) (hl2 : r2 < 197) (hz2 : zr n2)  : ∀ (ff : Nat) (v1 : Int) (v3 : Int) (v4 : Int) (h : Hp), mX8_copies_b3 r0 n0 r2 n2 Q ff v1 v3 v4 h → zV a (1, 0, 0, (qV Q), xN) 0 0 3 [some (aR r0), some (aI v1), some (aR r2), some (aI v3), some (aI v4)] [] h := by
  intro ff
  induction ff with
  | zero => intro v1 v3 v4 h hM; exact hM.elim
  | succ ff ih =>
    have hK3 := ih
    intro v1 v3 v4 h hM
    unfold mX8_copies_b3 at hM
    refine zV_iload O dX8_copies_3 rfl ?_
    refine zV_sipush (z := 1096) O ⟨by omega, by omega⟩ rfl dX8_copies_5 ?_
    refine zV_icmp_ge (tgt := 29) O dX8_copies_8 (by decide) (fun hc => ?_) (fun hc => ?_)
    · replace hM := hM.1 hc
      exact zV_vret O rfl ⟨rfl, hM⟩ (Nat.le_of_ble_eq_true rfl) (Nat.le_of_ble_eq_true rfl) dX8_copies_29
    · replace hM := hM.2 hc
      refine zV_aload_n O dX8_copies_11 rfl rfl ?_
      refine zV_iload_n O dX8_copies_12 rfl rfl ?_
      refine zV_iload O dX8_copies_13 rfl ?_
      obtain ⟨hc, hM⟩ := hM
      refine zV_iadd O dX8_copies_15 hc ?_
      refine zV_aload_n O dX8_copies_16 rfl rfl ?_
      refine zV_iload_n O dX8_copies_17 rfl rfl ?_
      refine zV_iload O dX8_copies_18 rfl ?_
      obtain ⟨hc, hM⟩ := hM
      refine zV_iadd O dX8_copies_20 hc ?_
      obtain ⟨hc, hM⟩ := hM
      refine zV_iald O hr0 hl0 hc dX8_copies_21 ?_
      obtain ⟨hc, hM⟩ := hM
      refine zV_iast O hr2 hl2 hc dX8_copies_22 ?_
      have hM := hM (hu h r2 (Int.toNat (v3 + v4)) (rd h r0 (v1 + v4))) rfl
      generalize hu h r2 (Int.toNat (v3 + v4)) (rd h r0 (v1 + v4)) = h4 at hM ⊢
      obtain ⟨hc, hM⟩ := hM
      refine zV_iinc O dX8_copies_23 rfl (Nat.le_of_ble_eq_true rfl) rfl hc ?_
      refine zV_goto (tgt := 3) O dX8_copies_26 (by decide) ?_
      exact hK3 _ _ _ _ hM
def mX8_copies (r0 n0 : Nat) (x1 : Int) (r2 n2 : Nat) (x3 : Int) (h : Hp) (Q : Hp → Prop) : Prop := (∃ ff, mX8_copies_b3 r0 n0 r2 n2 Q ff x1 x3 0 h)
set_option maxHeartbeats 4000000 in
set_option maxRecDepth 100000 in
theorem sX8_copies {l0 : Launch} {r0 n0 : Nat} {x1 : Int} {r2 n2 : Nat} {x3 : Int} {h : Hp} {Q : Hp → Prop} (hr0 : zT[r0]? = some (.inl (0, n0))) (hl0 : r0 < 197) (hz0 : zr n0) (hr2 : zT[r2]? = some (.inl (0, n2))) (hl2 : r2 < 197) (hz2 : zr n2) (hM : mX8_copies r0 n0 x1 r2 n2 x3 h Q) : zSp l0 yX8_copies cX8_copies 5 none 197 (1) 0 0 [aR r0, aI x1, aR r2, aI x3] h (qV Q) xN := by
  unfold mX8_copies at hM
  refine zSp_intro zpn_RX8 (Nat.le_of_ble_eq_true rfl) (fun a O => ?_)
  show zV a (1, 0, 0, (qV Q), xN) 0 0 0 [some (aR r0), some (aI x1), some (aR r2), some (aI x3), none] [] h
  refine zV_iconst (z := 0) O ⟨by omega, by omega⟩ dX8_copies_0 ?_
  refine zV_istore O dX8_copies_1 (Nat.le_of_ble_eq_true rfl) rfl ?_
  obtain ⟨ff, hM⟩ := hM
  exact sX8_copies_b3 O hr0 hl0 hz0 hr2 hl2 hz2 ff _ _ _ _ hM
def mX8_errorPosition  (h : Hp) (Q : Int → Hp → Prop) : Prop := (∀ h2 : Hp, h2 = hu h 185 0 0 → (Q (h2 185 17) h2))
set_option maxHeartbeats 4000000 in
set_option maxRecDepth 100000 in
theorem sX8_errorPosition {l0 : Launch}  {h : Hp} {Q : Int → Hp → Prop}  (hM : mX8_errorPosition  h Q) : zSp l0 yX8_errorPosition cX8_errorPosition 1 (some .int) 197 (1) 0 0 [aR 185] h (qI Q) xN := by
  unfold mX8_errorPosition at hM
  refine zSp_intro zpn_RX8 (Nat.le_of_ble_eq_true rfl) (fun a O => ?_)
  show zV a (1, 0, 0, (qI Q), xN) 0 0 0 [some (aR 185)] [] h
  refine zV_aload_n O dX8_errorPosition_0 rfl rfl ?_
  refine zV_iconst (z := 0) O ⟨by omega, by omega⟩ dX8_errorPosition_1 ?_
  refine zV_putI O zf_RX8_1 zt_185 rfl (by decide) dX8_errorPosition_2 ?_
  have hM := hM _ rfl
  generalize hu h 185 0 0 = h2 at hM ⊢
  refine zV_aload_n O dX8_errorPosition_5 rfl rfl ?_
  refine zV_getI O zf_RX8_32 zt_185 rfl (by decide) dX8_errorPosition_6 ?_
  exact zV_iret O rfl ⟨_, rfl, hM⟩ (Nat.le_of_ble_eq_true rfl) (Nat.le_of_ble_eq_true rfl) dX8_errorPosition_9
def mX8_fails_b16 (Q : Int → Hp → Prop) (h : Hp) : Prop := (((h 185 0) = 0 → (Q 0 h)) ∧ (¬ (h 185 0) = 0 → (Q 1 h)))
set_option maxHeartbeats 4000000 in
set_option maxRecDepth 100000 in
theorem sX8_fails_b16 {l0 : Launch} {a : ZC}  {Q : Int → Hp → Prop}  (O : zOk l0 a cX8_fails RX8 3 (some .boolean) 197 [])    {h : Hp}  (hM : mX8_fails_b16 Q h) : zV a (1, 0, 0, (qZ Q), xN) 0 0 16 [some (aR 185), none, none] [] h := by
  unfold mX8_fails_b16 at hM
  refine zV_aload_n O dX8_fails_16 rfl rfl ?_
  refine zV_getI O zf_RX8_1 zt_185 rfl (by decide) dX8_fails_17 ?_
  refine zV_if_eq (tgt := 27) O dX8_fails_20 (by decide) (fun hc => ?_) (fun hc => ?_)
  · replace hM := hM.1 hc
    refine zV_iconst (z := 0) O ⟨by omega, by omega⟩ dX8_fails_27 ?_
    exact zV_zret O rfl (Or.inl rfl) ⟨_, rfl, (Or.inl rfl), hM⟩ (Nat.le_of_ble_eq_true rfl) (Nat.le_of_ble_eq_true rfl) dX8_fails_28
  · replace hM := hM.2 hc
    refine zV_iconst (z := 1) O ⟨by omega, by omega⟩ dX8_fails_23 ?_
    refine zV_goto (tgt := 28) O dX8_fails_24 (by decide) ?_
    exact zV_zret O rfl (Or.inr rfl) ⟨_, rfl, (Or.inr rfl), hM⟩ (Nat.le_of_ble_eq_true rfl) (Nat.le_of_ble_eq_true rfl) dX8_fails_28
def mX8_fails (x1 : Int) (x2 : Int) (h : Hp) (Q : Int → Hp → Prop) : Prop := ((¬ x1 = 0 → (mX8_fails_b16 Q h)) ∧ (x1 = 0 → ((¬ (h 185 0) = 0 → (mX8_fails_b16 Q h)) ∧ ((h 185 0) = 0 → (∀ h2 : Hp, h2 = hu h 185 0 x2 → (mX8_fails_b16 Q h2))))))
set_option maxHeartbeats 4000000 in
set_option maxRecDepth 100000 in
theorem sX8_fails {l0 : Launch} {x1 : Int} {x2 : Int} {h : Hp} {Q : Int → Hp → Prop}  (hM : mX8_fails x1 x2 h Q) : zSp l0 yX8_fails cX8_fails 3 (some .boolean) 197 (1) 0 0 [aR 185, aI x1, aI x2] h (qZ Q) xN := by
  unfold mX8_fails at hM
  refine zSp_intro zpn_RX8 (Nat.le_of_ble_eq_true rfl) (fun a O => ?_)
  show zV a (1, 0, 0, (qZ Q), xN) 0 0 0 [some (aR 185), some (aI x1), some (aI x2)] [] h
  refine zV_iload_n O dX8_fails_0 rfl rfl ?_
  refine zV_if_ne (tgt := 16) O dX8_fails_1 (by decide) (fun hc => ?_) (fun hc => ?_)
  · replace hM := hM.1 hc
    refine zV_sub (ls2 := [some (aR 185), none, none]) ⟨rfl, trivial⟩ ?_
    exact sX8_fails_b16 O hM
  · replace hM := hM.2 hc
    refine zV_aload_n O dX8_fails_4 rfl rfl ?_
    refine zV_getI O zf_RX8_1 zt_185 rfl (by decide) dX8_fails_5 ?_
    refine zV_if_ne (tgt := 16) O dX8_fails_8 (by decide) (fun hc => ?_) (fun hc => ?_)
    · replace hM := hM.1 hc
      refine zV_sub (ls2 := [some (aR 185), none, none]) ⟨rfl, trivial⟩ ?_
      exact sX8_fails_b16 O hM
    · replace hM := hM.2 hc
      refine zV_aload_n O dX8_fails_11 rfl rfl ?_
      refine zV_iload_n O dX8_fails_12 rfl rfl ?_
      refine zV_putI O zf_RX8_1 zt_185 rfl (by decide) dX8_fails_13 ?_
      have hM := hM _ rfl
      generalize hu h 185 0 x2 = h2 at hM ⊢
      refine zV_sub (ls2 := [some (aR 185), none, none]) ⟨rfl, trivial⟩ ?_
      exact sX8_fails_b16 O hM
def mX8_in (x0 : Int) (x2 : Int) (x4 : Int) (h : Hp) (Q : Int → Prop) : Prop := (((zlcmp x0 x2) < 0 → (Q 0)) ∧ (¬ (zlcmp x0 x2) < 0 → ((0 < (zlcmp x0 x4) → (Q 0)) ∧ (¬ 0 < (zlcmp x0 x4) → (Q 1)))))
set_option maxHeartbeats 4000000 in
set_option maxRecDepth 100000 in
theorem sX8_in {l0 : Launch} {x0 : Int} {x2 : Int} {x4 : Int} {h : Hp} {Q : Int → Prop}  (hM : mX8_in x0 x2 x4 h Q) : zSp l0 yX8_in cX8_in 6 (some .boolean) 197 (1) 0 0 [aL x0, aL x2, aL x4] h (qPZ h Q) xN := by
  unfold mX8_in at hM
  refine zSp_intro zpn_RX8 (Nat.le_of_ble_eq_true rfl) (fun a O => ?_)
  show zV a (1, 0, 0, (qPZ h Q), xN) 0 0 0 [some (aL x0), none, some (aL x2), none, some (aL x4), none] [] h
  refine zV_lload_n O dX8_in_0 rfl rfl ?_
  refine zV_lload_n O dX8_in_1 rfl rfl ?_
  refine zV_lcmp O dX8_in_2 ?_
  refine zV_if_lt (tgt := 17) O dX8_in_3 (by decide) (fun hc => ?_) (fun hc => ?_)
  · replace hM := hM.1 hc
    refine zV_iconst (z := 0) O ⟨by omega, by omega⟩ dX8_in_17 ?_
    exact zV_zret O rfl (Or.inl rfl) ⟨rfl, _, rfl, (Or.inl rfl), hM⟩ (Nat.le_of_ble_eq_true rfl) (Nat.le_of_ble_eq_true rfl) dX8_in_18
  · replace hM := hM.2 hc
    refine zV_lload_n O dX8_in_6 rfl rfl ?_
    refine zV_lload O dX8_in_7 rfl ?_
    refine zV_lcmp O dX8_in_9 ?_
    refine zV_if_gt (tgt := 17) O dX8_in_10 (by decide) (fun hc => ?_) (fun hc => ?_)
    · replace hM := hM.1 hc
      refine zV_iconst (z := 0) O ⟨by omega, by omega⟩ dX8_in_17 ?_
      exact zV_zret O rfl (Or.inl rfl) ⟨rfl, _, rfl, (Or.inl rfl), hM⟩ (Nat.le_of_ble_eq_true rfl) (Nat.le_of_ble_eq_true rfl) dX8_in_18
    · replace hM := hM.2 hc
      refine zV_iconst (z := 1) O ⟨by omega, by omega⟩ dX8_in_13 ?_
      refine zV_goto (tgt := 18) O dX8_in_14 (by decide) ?_
      exact zV_zret O rfl (Or.inr rfl) ⟨rfl, _, rfl, (Or.inr rfl), hM⟩ (Nat.le_of_ble_eq_true rfl) (Nat.le_of_ble_eq_true rfl) dX8_in_18
def mX8_isFigure (x0 : Int) (h : Hp) (Q : Int → Prop) : Prop := ((x0 < (48 : Int) → (Q 0)) ∧ (¬ x0 < (48 : Int) → (((57 : Int) < x0 → (Q 0)) ∧ (¬ (57 : Int) < x0 → (Q 1)))))
set_option maxHeartbeats 4000000 in
set_option maxRecDepth 100000 in
theorem sX8_isFigure {l0 : Launch} {x0 : Int} {h : Hp} {Q : Int → Prop}  (hM : mX8_isFigure x0 h Q) : zSp l0 yX8_isFigure cX8_isFigure 1 (some .boolean) 197 (1) 0 0 [aI x0] h (qPZ h Q) xN := by
  unfold mX8_isFigure at hM
  refine zSp_intro zpn_RX8 (Nat.le_of_ble_eq_true rfl) (fun a O => ?_)
  show zV a (1, 0, 0, (qPZ h Q), xN) 0 0 0 [some (aI x0)] [] h
  refine zV_iload_n O dX8_isFigure_0 rfl rfl ?_
  refine zV_bipush (z := 48) O ⟨by omega, by omega⟩ rfl dX8_isFigure_1 ?_
  refine zV_icmp_lt (tgt := 16) O dX8_isFigure_3 (by decide) (fun hc => ?_) (fun hc => ?_)
  · replace hM := hM.1 hc
    refine zV_iconst (z := 0) O ⟨by omega, by omega⟩ dX8_isFigure_16 ?_
    exact zV_zret O rfl (Or.inl rfl) ⟨rfl, _, rfl, (Or.inl rfl), hM⟩ (Nat.le_of_ble_eq_true rfl) (Nat.le_of_ble_eq_true rfl) dX8_isFigure_17
  · replace hM := hM.2 hc
    refine zV_iload_n O dX8_isFigure_6 rfl rfl ?_
    refine zV_bipush (z := 57) O ⟨by omega, by omega⟩ rfl dX8_isFigure_7 ?_
    refine zV_icmp_gt (tgt := 16) O dX8_isFigure_9 (by decide) (fun hc => ?_) (fun hc => ?_)
    · replace hM := hM.1 hc
      refine zV_iconst (z := 0) O ⟨by omega, by omega⟩ dX8_isFigure_16 ?_
      exact zV_zret O rfl (Or.inl rfl) ⟨rfl, _, rfl, (Or.inl rfl), hM⟩ (Nat.le_of_ble_eq_true rfl) (Nat.le_of_ble_eq_true rfl) dX8_isFigure_17
    · replace hM := hM.2 hc
      refine zV_iconst (z := 1) O ⟨by omega, by omega⟩ dX8_isFigure_12 ?_
      refine zV_goto (tgt := 17) O dX8_isFigure_13 (by decide) ?_
      exact zV_zret O rfl (Or.inr rfl) ⟨rfl, _, rfl, (Or.inr rfl), hM⟩ (Nat.le_of_ble_eq_true rfl) (Nat.le_of_ble_eq_true rfl) dX8_isFigure_17
def mX8_isGood  (h : Hp) (Q : Int → Prop) : Prop := ((¬ (h 185 16) = 0 → (Q 0)) ∧ ((h 185 16) = 0 → (Q 1)))
set_option maxHeartbeats 4000000 in
set_option maxRecDepth 100000 in
theorem sX8_isGood {l0 : Launch}  {h : Hp} {Q : Int → Prop}  (hM : mX8_isGood  h Q) : zSp l0 yX8_isGood cX8_isGood 1 (some .boolean) 197 (1) 0 0 [aR 185] h (qPZ h Q) xN := by
  unfold mX8_isGood at hM
  refine zSp_intro zpn_RX8 (Nat.le_of_ble_eq_true rfl) (fun a O => ?_)
  show zV a (1, 0, 0, (qPZ h Q), xN) 0 0 0 [some (aR 185)] [] h
  refine zV_aload_n O dX8_isGood_0 rfl rfl ?_
  refine zV_getI O zf_RX8_105 zt_185 rfl (by decide) dX8_isGood_1 ?_
  refine zV_if_ne (tgt := 11) O dX8_isGood_4 (by decide) (fun hc => ?_) (fun hc => ?_)
  · replace hM := hM.1 hc
    refine zV_iconst (z := 0) O ⟨by omega, by omega⟩ dX8_isGood_11 ?_
    exact zV_zret O rfl (Or.inl rfl) ⟨rfl, _, rfl, (Or.inl rfl), hM⟩ (Nat.le_of_ble_eq_true rfl) (Nat.le_of_ble_eq_true rfl) dX8_isGood_12
  · replace hM := hM.2 hc
    refine zV_iconst (z := 1) O ⟨by omega, by omega⟩ dX8_isGood_7 ?_
    refine zV_goto (tgt := 12) O dX8_isGood_8 (by decide) ?_
    exact zV_zret O rfl (Or.inr rfl) ⟨rfl, _, rfl, (Or.inr rfl), hM⟩ (Nat.le_of_ble_eq_true rfl) (Nat.le_of_ble_eq_true rfl) dX8_isGood_12
def mX8_isInside_b2 (h : Hp) (Q : Int → Prop) : Nat → Int → Prop
  | 0 => fun _ => False
  | fu2 + 1 => fun v1 => (((h 185 27) ≤ v1 → (Q 0)) ∧ (¬ (h 185 27) ≤ v1 → (((0 : Int) ≤ v1 ∧ v1 < 200) ∧ ((¬ (rd h 195 v1) = (1 : Int) → (zr (v1 + 1) ∧ ((mX8_isInside_b2 h Q fu2) (v1 + 1)))) ∧ ((rd h 195 v1) = (1 : Int) → (Q 1))))))
set_option maxHeartbeats 4000000 in
set_option maxRecDepth 100000 in
theorem sX8_isInside_b2 {l0 : Launch} {a : ZC}  {h : Hp} {Q : Int → Prop}  (O : zOk l0 a cX8_isInside RX8 2 (some .boolean) 197 [])   : ∀ (ff : Nat) (v1 : Int) , mX8_isInside_b2 h Q ff v1 → zV a (1, 0, 0, (qPZ h Q), xN) 0 0 2 [some (aR 185), some (aI v1)] [] h := by
  intro ff
  induction ff with
  | zero => intro v1 hM; exact hM.elim
  | succ ff ih =>
    have hK2 := ih
    intro v1 hM
    unfold mX8_isInside_b2 at hM
    refine zV_iload_n O dX8_isInside_2 rfl rfl ?_
    refine zV_aload_n O dX8_isInside_3 rfl rfl ?_
    refine zV_getI O zf_RX8_389 zt_185 rfl (by decide) dX8_isInside_4 ?_
    refine zV_icmp_ge (tgt := 28) O dX8_isInside_7 (by decide) (fun hc => ?_) (fun hc => ?_)
    · replace hM := hM.1 hc
      refine zV_iconst (z := 0) O ⟨by omega, by omega⟩ dX8_isInside_28 ?_
      exact zV_zret O rfl (Or.inl rfl) ⟨rfl, _, rfl, (Or.inl rfl), hM⟩ (Nat.le_of_ble_eq_true rfl) (Nat.le_of_ble_eq_true rfl) dX8_isInside_29
    · replace hM := hM.2 hc
      refine zV_aload_n O dX8_isInside_10 rfl rfl ?_
      refine zV_getR O zf_RX8_44 zt_185 rfl (by decide) dX8_isInside_11 ?_
      refine zV_iload_n O dX8_isInside_14 rfl rfl ?_
      obtain ⟨hc, hM⟩ := hM
      refine zV_iald O zt_195 (by decide) hc dX8_isInside_15 ?_
      refine zV_iconst (z := 1) O ⟨by omega, by omega⟩ dX8_isInside_16 ?_
      refine zV_icmp_ne (tgt := 22) O dX8_isInside_17 (by decide) (fun hc => ?_) (fun hc => ?_)
      · replace hM := hM.1 hc
        obtain ⟨hc, hM⟩ := hM
        refine zV_iinc O dX8_isInside_22 rfl (Nat.le_of_ble_eq_true rfl) rfl hc ?_
        refine zV_goto (tgt := 2) O dX8_isInside_25 (by decide) ?_
        exact hK2 _ hM
      · replace hM := hM.2 hc
        refine zV_iconst (z := 1) O ⟨by omega, by omega⟩ dX8_isInside_20 ?_
        exact zV_zret O rfl (Or.inr rfl) ⟨rfl, _, rfl, (Or.inr rfl), hM⟩ (Nat.le_of_ble_eq_true rfl) (Nat.le_of_ble_eq_true rfl) dX8_isInside_21
def mX8_isInside  (h : Hp) (Q : Int → Prop) : Prop := (∃ ff, mX8_isInside_b2 h Q ff 0)
set_option maxHeartbeats 4000000 in
set_option maxRecDepth 100000 in
theorem sX8_isInside {l0 : Launch}  {h : Hp} {Q : Int → Prop}  (hM : mX8_isInside  h Q) : zSp l0 yX8_isInside cX8_isInside 2 (some .boolean) 197 (1) 0 0 [aR 185] h (qPZ h Q) xN := by
  unfold mX8_isInside at hM
  refine zSp_intro zpn_RX8 (Nat.le_of_ble_eq_true rfl) (fun a O => ?_)
  show zV a (1, 0, 0, (qPZ h Q), xN) 0 0 0 [some (aR 185), none] [] h
  refine zV_iconst (z := 0) O ⟨by omega, by omega⟩ dX8_isInside_0 ?_
  refine zV_istore_n O dX8_isInside_1 rfl (Nat.le_of_ble_eq_true rfl) rfl ?_
  obtain ⟨ff, hM⟩ := hM
  exact sX8_isInside_b2 O ff _ hM
def mX8_isLetter (x0 : Int) (h : Hp) (Q : Int → Prop) : Prop := ((x0 < (97 : Int) → (Q 0)) ∧ (¬ x0 < (97 : Int) → (((122 : Int) < x0 → (Q 0)) ∧ (¬ (122 : Int) < x0 → (Q 1)))))
set_option maxHeartbeats 4000000 in
set_option maxRecDepth 100000 in
theorem sX8_isLetter {l0 : Launch} {x0 : Int} {h : Hp} {Q : Int → Prop}  (hM : mX8_isLetter x0 h Q) : zSp l0 yX8_isLetter cX8_isLetter 1 (some .boolean) 197 (1) 0 0 [aI x0] h (qPZ h Q) xN := by
  unfold mX8_isLetter at hM
  refine zSp_intro zpn_RX8 (Nat.le_of_ble_eq_true rfl) (fun a O => ?_)
  show zV a (1, 0, 0, (qPZ h Q), xN) 0 0 0 [some (aI x0)] [] h
  refine zV_iload_n O dX8_isLetter_0 rfl rfl ?_
  refine zV_bipush (z := 97) O ⟨by omega, by omega⟩ rfl dX8_isLetter_1 ?_
  refine zV_icmp_lt (tgt := 16) O dX8_isLetter_3 (by decide) (fun hc => ?_) (fun hc => ?_)
  · replace hM := hM.1 hc
    refine zV_iconst (z := 0) O ⟨by omega, by omega⟩ dX8_isLetter_16 ?_
    exact zV_zret O rfl (Or.inl rfl) ⟨rfl, _, rfl, (Or.inl rfl), hM⟩ (Nat.le_of_ble_eq_true rfl) (Nat.le_of_ble_eq_true rfl) dX8_isLetter_17
  · replace hM := hM.2 hc
    refine zV_iload_n O dX8_isLetter_6 rfl rfl ?_
    refine zV_bipush (z := 122) O ⟨by omega, by omega⟩ rfl dX8_isLetter_7 ?_
    refine zV_icmp_gt (tgt := 16) O dX8_isLetter_9 (by decide) (fun hc => ?_) (fun hc => ?_)
    · replace hM := hM.1 hc
      refine zV_iconst (z := 0) O ⟨by omega, by omega⟩ dX8_isLetter_16 ?_
      exact zV_zret O rfl (Or.inl rfl) ⟨rfl, _, rfl, (Or.inl rfl), hM⟩ (Nat.le_of_ble_eq_true rfl) (Nat.le_of_ble_eq_true rfl) dX8_isLetter_17
    · replace hM := hM.2 hc
      refine zV_iconst (z := 1) O ⟨by omega, by omega⟩ dX8_isLetter_12 ?_
      refine zV_goto (tgt := 17) O dX8_isLetter_13 (by decide) ?_
      exact zV_zret O rfl (Or.inr rfl) ⟨rfl, _, rfl, (Or.inr rfl), hM⟩ (Nat.le_of_ble_eq_true rfl) (Nat.le_of_ble_eq_true rfl) dX8_isLetter_17
def mX8_joined (x0 : Int) (x1 : Int) (x2 : Int) (h : Hp) (Q : Int → Prop) : Prop := ((x0 = 20 → ((x2 ≤ x1 → (Q 0)) ∧ (¬ x2 ≤ x1 → (Q 1)))) ∧ (x0 = 21 → ((¬ x1 = x2 → (Q 0)) ∧ (x1 = x2 → (Q 1)))) ∧ (x0 = 22 → ((x1 ≤ x2 → (Q 0)) ∧ (¬ x1 ≤ x2 → (Q 1)))) ∧ (x0 = 23 → (zr (x1 + x2) ∧ (((x1 + x2) ≤ 0 → (Q 0)) ∧ (¬ (x1 + x2) ≤ 0 → (Q 1))))) ∧ (x0 = 24 → (zr (x1 + x2) ∧ ((¬ (x1 + x2) = (2 : Int) → (Q 0)) ∧ ((x1 + x2) = (2 : Int) → (Q 1))))) ∧ ((x0 < 20 ∨ 24 < x0) → (zr (x1 + x2) ∧ (((x1 + x2) ≤ 0 → (Q 0)) ∧ (¬ (x1 + x2) ≤ 0 → (Q 1))))))
set_option maxHeartbeats 4000000 in
set_option maxRecDepth 100000 in
theorem sX8_joined {l0 : Launch} {x0 : Int} {x1 : Int} {x2 : Int} {h : Hp} {Q : Int → Prop}  (hM : mX8_joined x0 x1 x2 h Q) : zSp l0 yX8_joined cX8_joined 3 (some .boolean) 197 (1) 0 0 [aI x0, aI x1, aI x2] h (qPZ h Q) xN := by
  unfold mX8_joined at hM
  refine zSp_intro zpn_RX8 (Nat.le_of_ble_eq_true rfl) (fun a O => ?_)
  show zV a (1, 0, 0, (qPZ h Q), xN) 0 0 0 [some (aI x0), some (aI x1), some (aI x2)] [] h
  refine zV_iload_n O dX8_joined_0 rfl rfl ?_
  by_cases hc0 : x0 = 20
  · replace hM := hM.1 hc0
    refine zV_tableIn (tgt := 36) O dX8_joined_1 (by omega) (by omega) (by rw [hc0]; rfl) (by decide) ?_
    refine zV_iload_n O dX8_joined_36 rfl rfl ?_
    refine zV_iload_n O dX8_joined_37 rfl rfl ?_
    refine zV_icmp_ge (tgt := 45) O dX8_joined_38 (by decide) (fun hc => ?_) (fun hc => ?_)
    · replace hM := hM.1 hc
      refine zV_iconst (z := 0) O ⟨by omega, by omega⟩ dX8_joined_45 ?_
      exact zV_zret O rfl (Or.inl rfl) ⟨rfl, _, rfl, (Or.inl rfl), hM⟩ (Nat.le_of_ble_eq_true rfl) (Nat.le_of_ble_eq_true rfl) dX8_joined_46
    · replace hM := hM.2 hc
      refine zV_iconst (z := 1) O ⟨by omega, by omega⟩ dX8_joined_41 ?_
      refine zV_goto (tgt := 46) O dX8_joined_42 (by decide) ?_
      exact zV_zret O rfl (Or.inr rfl) ⟨rfl, _, rfl, (Or.inr rfl), hM⟩ (Nat.le_of_ble_eq_true rfl) (Nat.le_of_ble_eq_true rfl) dX8_joined_46
  by_cases hc1 : x0 = 21
  · replace hM := hM.2.1 hc1
    refine zV_tableIn (tgt := 47) O dX8_joined_1 (by omega) (by omega) (by rw [hc1]; rfl) (by decide) ?_
    refine zV_iload_n O dX8_joined_47 rfl rfl ?_
    refine zV_iload_n O dX8_joined_48 rfl rfl ?_
    refine zV_icmp_ne (tgt := 56) O dX8_joined_49 (by decide) (fun hc => ?_) (fun hc => ?_)
    · replace hM := hM.1 hc
      refine zV_iconst (z := 0) O ⟨by omega, by omega⟩ dX8_joined_56 ?_
      exact zV_zret O rfl (Or.inl rfl) ⟨rfl, _, rfl, (Or.inl rfl), hM⟩ (Nat.le_of_ble_eq_true rfl) (Nat.le_of_ble_eq_true rfl) dX8_joined_57
    · replace hM := hM.2 hc
      refine zV_iconst (z := 1) O ⟨by omega, by omega⟩ dX8_joined_52 ?_
      refine zV_goto (tgt := 57) O dX8_joined_53 (by decide) ?_
      exact zV_zret O rfl (Or.inr rfl) ⟨rfl, _, rfl, (Or.inr rfl), hM⟩ (Nat.le_of_ble_eq_true rfl) (Nat.le_of_ble_eq_true rfl) dX8_joined_57
  by_cases hc2 : x0 = 22
  · replace hM := hM.2.2.1 hc2
    refine zV_tableIn (tgt := 58) O dX8_joined_1 (by omega) (by omega) (by rw [hc2]; rfl) (by decide) ?_
    refine zV_iload_n O dX8_joined_58 rfl rfl ?_
    refine zV_iload_n O dX8_joined_59 rfl rfl ?_
    refine zV_icmp_le (tgt := 67) O dX8_joined_60 (by decide) (fun hc => ?_) (fun hc => ?_)
    · replace hM := hM.1 hc
      refine zV_iconst (z := 0) O ⟨by omega, by omega⟩ dX8_joined_67 ?_
      exact zV_zret O rfl (Or.inl rfl) ⟨rfl, _, rfl, (Or.inl rfl), hM⟩ (Nat.le_of_ble_eq_true rfl) (Nat.le_of_ble_eq_true rfl) dX8_joined_68
    · replace hM := hM.2 hc
      refine zV_iconst (z := 1) O ⟨by omega, by omega⟩ dX8_joined_63 ?_
      refine zV_goto (tgt := 68) O dX8_joined_64 (by decide) ?_
      exact zV_zret O rfl (Or.inr rfl) ⟨rfl, _, rfl, (Or.inr rfl), hM⟩ (Nat.le_of_ble_eq_true rfl) (Nat.le_of_ble_eq_true rfl) dX8_joined_68
  by_cases hc3 : x0 = 23
  · replace hM := hM.2.2.2.1 hc3
    refine zV_tableIn (tgt := 82) O dX8_joined_1 (by omega) (by omega) (by rw [hc3]; rfl) (by decide) ?_
    refine zV_iload_n O dX8_joined_82 rfl rfl ?_
    refine zV_iload_n O dX8_joined_83 rfl rfl ?_
    obtain ⟨hc, hM⟩ := hM
    refine zV_iadd O dX8_joined_84 hc ?_
    refine zV_if_le (tgt := 92) O dX8_joined_85 (by decide) (fun hc => ?_) (fun hc => ?_)
    · replace hM := hM.1 hc
      refine zV_iconst (z := 0) O ⟨by omega, by omega⟩ dX8_joined_92 ?_
      exact zV_zret O rfl (Or.inl rfl) ⟨rfl, _, rfl, (Or.inl rfl), hM⟩ (Nat.le_of_ble_eq_true rfl) (Nat.le_of_ble_eq_true rfl) dX8_joined_93
    · replace hM := hM.2 hc
      refine zV_iconst (z := 1) O ⟨by omega, by omega⟩ dX8_joined_88 ?_
      refine zV_goto (tgt := 93) O dX8_joined_89 (by decide) ?_
      exact zV_zret O rfl (Or.inr rfl) ⟨rfl, _, rfl, (Or.inr rfl), hM⟩ (Nat.le_of_ble_eq_true rfl) (Nat.le_of_ble_eq_true rfl) dX8_joined_93
  by_cases hc4 : x0 = 24
  · replace hM := hM.2.2.2.2.1 hc4
    refine zV_tableIn (tgt := 69) O dX8_joined_1 (by omega) (by omega) (by rw [hc4]; rfl) (by decide) ?_
    refine zV_iload_n O dX8_joined_69 rfl rfl ?_
    refine zV_iload_n O dX8_joined_70 rfl rfl ?_
    obtain ⟨hc, hM⟩ := hM
    refine zV_iadd O dX8_joined_71 hc ?_
    refine zV_iconst (z := 2) O ⟨by omega, by omega⟩ dX8_joined_72 ?_
    refine zV_icmp_ne (tgt := 80) O dX8_joined_73 (by decide) (fun hc => ?_) (fun hc => ?_)
    · replace hM := hM.1 hc
      refine zV_iconst (z := 0) O ⟨by omega, by omega⟩ dX8_joined_80 ?_
      exact zV_zret O rfl (Or.inl rfl) ⟨rfl, _, rfl, (Or.inl rfl), hM⟩ (Nat.le_of_ble_eq_true rfl) (Nat.le_of_ble_eq_true rfl) dX8_joined_81
    · replace hM := hM.2 hc
      refine zV_iconst (z := 1) O ⟨by omega, by omega⟩ dX8_joined_76 ?_
      refine zV_goto (tgt := 81) O dX8_joined_77 (by decide) ?_
      exact zV_zret O rfl (Or.inr rfl) ⟨rfl, _, rfl, (Or.inr rfl), hM⟩ (Nat.le_of_ble_eq_true rfl) (Nat.le_of_ble_eq_true rfl) dX8_joined_81
  have hc : x0 < 20 ∨ 24 < x0 := by omega
  replace hM := hM.2.2.2.2.2 hc
  refine zV_tableOut (tgt := 82) O dX8_joined_1 hc (by decide) ?_
  refine zV_iload_n O dX8_joined_82 rfl rfl ?_
  refine zV_iload_n O dX8_joined_83 rfl rfl ?_
  obtain ⟨hc, hM⟩ := hM
  refine zV_iadd O dX8_joined_84 hc ?_
  refine zV_if_le (tgt := 92) O dX8_joined_85 (by decide) (fun hc => ?_) (fun hc => ?_)
  · replace hM := hM.1 hc
    refine zV_iconst (z := 0) O ⟨by omega, by omega⟩ dX8_joined_92 ?_
    exact zV_zret O rfl (Or.inl rfl) ⟨rfl, _, rfl, (Or.inl rfl), hM⟩ (Nat.le_of_ble_eq_true rfl) (Nat.le_of_ble_eq_true rfl) dX8_joined_93
  · replace hM := hM.2 hc
    refine zV_iconst (z := 1) O ⟨by omega, by omega⟩ dX8_joined_88 ?_
    refine zV_goto (tgt := 93) O dX8_joined_89 (by decide) ?_
    exact zV_zret O rfl (Or.inr rfl) ⟨rfl, _, rfl, (Or.inr rfl), hM⟩ (Nat.le_of_ble_eq_true rfl) (Nat.le_of_ble_eq_true rfl) dX8_joined_93
def mX8_lays_b3 (Q : Hp → Prop) : Nat → Int → Int → Hp → Prop
  | 0 => fun _ _ _ => False
  | fu3 + 1 => fun v1 v2 h => ((v2 < 0 → (Q h)) ∧ (¬ v2 < 0 → (((0 : Int) ≤ (h 185 9) ∧ (h 185 9) < 900) ∧ (∀ h5 : Hp, h5 = wr h 191 (h 185 9) (zand (zishr v1 v2) 255) → (zr ((h5 185 9) + 1) ∧ (∀ h6 : Hp, h6 = hu h5 185 9 ((h5 185 9) + 1) → (zr (v2 + (-8)) ∧ ((mX8_lays_b3 Q fu3) v1 (v2 + (-8)) h6))))))))
set_option maxHeartbeats 4000000 in
set_option maxRecDepth 100000 in
theorem sX8_lays_b3 {l0 : Launch} {a : ZC}  {Q : Hp → Prop}  (O : zOk l0 a cX8_lays RX8 3 none 197 [])   : ∀ (ff : Nat) (v1 : Int) (v2 : Int) (h : Hp), mX8_lays_b3 Q ff v1 v2 h → zV a (1, 0, 0, (qV Q), xN) 0 0 3 [some (aR 185), some (aI v1), some (aI v2)] [] h := by
  intro ff
  induction ff with
  | zero => intro v1 v2 h hM; exact hM.elim
  | succ ff ih =>
    have hK3 := ih
    intro v1 v2 h hM
    unfold mX8_lays_b3 at hM
    refine zV_iload_n O dX8_lays_3 rfl rfl ?_
    refine zV_if_lt (tgt := 39) O dX8_lays_4 (by decide) (fun hc => ?_) (fun hc => ?_)
    · replace hM := hM.1 hc
      exact zV_vret O rfl ⟨rfl, hM⟩ (Nat.le_of_ble_eq_true rfl) (Nat.le_of_ble_eq_true rfl) dX8_lays_39
    · replace hM := hM.2 hc
      refine zV_aload_n O dX8_lays_7 rfl rfl ?_
      refine zV_getR O zf_RX8_29 zt_185 rfl (by decide) dX8_lays_8 ?_
      refine zV_aload_n O dX8_lays_11 rfl rfl ?_
      refine zV_getI O zf_RX8_57 zt_185 rfl (by decide) dX8_lays_12 ?_
      refine zV_iload_n O dX8_lays_15 rfl rfl ?_
      refine zV_iload_n O dX8_lays_16 rfl rfl ?_
      refine zV_ishr O dX8_lays_17 ?_
      refine zV_sipush (z := 255) O ⟨by omega, by omega⟩ rfl dX8_lays_18 ?_
      refine zV_iand O dX8_lays_21 ?_
      obtain ⟨hc, hM⟩ := hM
      refine zV_iast O zt_191 (by decide) hc dX8_lays_22 ?_
      have hM := hM (hu h 191 (Int.toNat (h 185 9)) (zand (zishr v1 v2) 255)) rfl
      generalize hu h 191 (Int.toNat (h 185 9)) (zand (zishr v1 v2) 255) = h5 at hM ⊢
      refine zV_aload_n O dX8_lays_23 rfl rfl ?_
      refine zV_dup O rfl dX8_lays_24 ?_
      refine zV_getI O zf_RX8_57 zt_185 rfl (by decide) dX8_lays_25 ?_
      refine zV_iconst (z := 1) O ⟨by omega, by omega⟩ dX8_lays_28 ?_
      obtain ⟨hc, hM⟩ := hM
      refine zV_iadd O dX8_lays_29 hc ?_
      refine zV_putI O zf_RX8_57 zt_185 rfl (by decide) dX8_lays_30 ?_
      have hM := hM _ rfl
      generalize hu h5 185 9 ((h5 185 9) + 1) = h6 at hM ⊢
      obtain ⟨hc, hM⟩ := hM
      refine zV_iinc O dX8_lays_33 rfl (Nat.le_of_ble_eq_true rfl) rfl hc ?_
      refine zV_goto (tgt := 3) O dX8_lays_36 (by decide) ?_
      exact hK3 _ _ _ hM
def mX8_lays (x1 : Int) (h : Hp) (Q : Hp → Prop) : Prop := (∃ ff, mX8_lays_b3 Q ff x1 24 h)
set_option maxHeartbeats 4000000 in
set_option maxRecDepth 100000 in
theorem sX8_lays {l0 : Launch} {x1 : Int} {h : Hp} {Q : Hp → Prop}  (hM : mX8_lays x1 h Q) : zSp l0 yX8_lays cX8_lays 3 none 197 (1) 0 0 [aR 185, aI x1] h (qV Q) xN := by
  unfold mX8_lays at hM
  refine zSp_intro zpn_RX8 (Nat.le_of_ble_eq_true rfl) (fun a O => ?_)
  show zV a (1, 0, 0, (qV Q), xN) 0 0 0 [some (aR 185), some (aI x1), none] [] h
  refine zV_bipush (z := 24) O ⟨by omega, by omega⟩ rfl dX8_lays_0 ?_
  refine zV_istore_n O dX8_lays_2 rfl (Nat.le_of_ble_eq_true rfl) rfl ?_
  obtain ⟨ff, hM⟩ := hM
  exact sX8_lays_b3 O ff _ _ _ hM
def mX8_laysLeads_b2 (Q : Hp → Prop) : Nat → Int → Hp → Prop
  | 0 => fun _ _ => False
  | fu2 + 1 => fun v1 h => (((502 : Int) ≤ v1 → (Q h)) ∧ (¬ (502 : Int) ≤ v1 → (((0 : Int) ≤ v1 ∧ (0 : Int) < 251) ∧ (((0 : Int) ≤ v1 ∧ v1 < 502) ∧ (∀ h4 : Hp, h4 = wr h 192 v1 (v1 % 251) → (zr (v1 + 1) ∧ ((mX8_laysLeads_b2 Q fu2) (v1 + 1) h4)))))))
set_option maxHeartbeats 4000000 in
set_option maxRecDepth 100000 in
theorem sX8_laysLeads_b2 {l0 : Launch} {a : ZC}  {Q : Hp → Prop}  (O : zOk l0 a cX8_laysLeads RX8 2 none 197 [])   : ∀ (ff : Nat) (v1 : Int) (h : Hp), mX8_laysLeads_b2 Q ff v1 h → zV a (1, 0, 0, (qV Q), xN) 0 0 2 [some (aR 185), some (aI v1)] [] h := by
  intro ff
  induction ff with
  | zero => intro v1 h hM; exact hM.elim
  | succ ff ih =>
    have hK2 := ih
    intro v1 h hM
    unfold mX8_laysLeads_b2 at hM
    refine zV_iload_n O dX8_laysLeads_2 rfl rfl ?_
    refine zV_sipush (z := 502) O ⟨by omega, by omega⟩ rfl dX8_laysLeads_3 ?_
    refine zV_icmp_ge (tgt := 26) O dX8_laysLeads_6 (by decide) (fun hc => ?_) (fun hc => ?_)
    · replace hM := hM.1 hc
      exact zV_vret O rfl ⟨rfl, hM⟩ (Nat.le_of_ble_eq_true rfl) (Nat.le_of_ble_eq_true rfl) dX8_laysLeads_26
    · replace hM := hM.2 hc
      refine zV_aload_n O dX8_laysLeads_9 rfl rfl ?_
      refine zV_getR O zf_RX8_35 zt_185 rfl (by decide) dX8_laysLeads_10 ?_
      refine zV_iload_n O dX8_laysLeads_13 rfl rfl ?_
      refine zV_iload_n O dX8_laysLeads_14 rfl rfl ?_
      refine zV_sipush (z := 251) O ⟨by omega, by omega⟩ rfl dX8_laysLeads_15 ?_
      obtain ⟨hc, hM⟩ := hM
      refine zV_irem O dX8_laysLeads_18 hc ?_
      obtain ⟨hc, hM⟩ := hM
      refine zV_iast O zt_192 (by decide) hc dX8_laysLeads_19 ?_
      have hM := hM (hu h 192 (Int.toNat v1) (v1 % 251)) rfl
      generalize hu h 192 (Int.toNat v1) (v1 % 251) = h4 at hM ⊢
      obtain ⟨hc, hM⟩ := hM
      refine zV_iinc O dX8_laysLeads_20 rfl (Nat.le_of_ble_eq_true rfl) rfl hc ?_
      refine zV_goto (tgt := 2) O dX8_laysLeads_23 (by decide) ?_
      exact hK2 _ _ hM
def mX8_laysLeads  (h : Hp) (Q : Hp → Prop) : Prop := (∃ ff, mX8_laysLeads_b2 Q ff 0 h)
set_option maxHeartbeats 4000000 in
set_option maxRecDepth 100000 in
theorem sX8_laysLeads {l0 : Launch}  {h : Hp} {Q : Hp → Prop}  (hM : mX8_laysLeads  h Q) : zSp l0 yX8_laysLeads cX8_laysLeads 2 none 197 (1) 0 0 [aR 185] h (qV Q) xN := by
  unfold mX8_laysLeads at hM
  refine zSp_intro zpn_RX8 (Nat.le_of_ble_eq_true rfl) (fun a O => ?_)
  show zV a (1, 0, 0, (qV Q), xN) 0 0 0 [some (aR 185), none] [] h
  refine zV_iconst (z := 0) O ⟨by omega, by omega⟩ dX8_laysLeads_0 ?_
  refine zV_istore_n O dX8_laysLeads_1 rfl (Nat.le_of_ble_eq_true rfl) rfl ?_
  obtain ⟨ff, hM⟩ := hM
  exact sX8_laysLeads_b2 O ff _ _ hM
def mX8_lesser (x0 : Int) (x1 : Int) (h : Hp) (Q : Int → Prop) : Prop := ((x1 ≤ x0 → (Q x1)) ∧ (¬ x1 ≤ x0 → (Q x0)))
set_option maxHeartbeats 4000000 in
set_option maxRecDepth 100000 in
theorem sX8_lesser {l0 : Launch} {x0 : Int} {x1 : Int} {h : Hp} {Q : Int → Prop}  (hM : mX8_lesser x0 x1 h Q) : zSp l0 yX8_lesser cX8_lesser 2 (some .int) 197 (1) 0 0 [aI x0, aI x1] h (qPI h Q) xN := by
  unfold mX8_lesser at hM
  refine zSp_intro zpn_RX8 (Nat.le_of_ble_eq_true rfl) (fun a O => ?_)
  show zV a (1, 0, 0, (qPI h Q), xN) 0 0 0 [some (aI x0), some (aI x1)] [] h
  refine zV_iload_n O dX8_lesser_0 rfl rfl ?_
  refine zV_iload_n O dX8_lesser_1 rfl rfl ?_
  refine zV_icmp_ge (tgt := 9) O dX8_lesser_2 (by decide) (fun hc => ?_) (fun hc => ?_)
  · replace hM := hM.1 hc
    refine zV_iload_n O dX8_lesser_9 rfl rfl ?_
    exact zV_iret O rfl ⟨rfl, _, rfl, hM⟩ (Nat.le_of_ble_eq_true rfl) (Nat.le_of_ble_eq_true rfl) dX8_lesser_10
  · replace hM := hM.2 hc
    refine zV_iload_n O dX8_lesser_5 rfl rfl ?_
    refine zV_goto (tgt := 10) O dX8_lesser_6 (by decide) ?_
    exact zV_iret O rfl ⟨rfl, _, rfl, hM⟩ (Nat.le_of_ble_eq_true rfl) (Nat.le_of_ble_eq_true rfl) dX8_lesser_10
def mX8_ruleCell (x0 : Int) (x1 : Int) (h : Hp) (Q : Int → Prop) : Prop := (zr (4 * x0) ∧ (zr (976 + (4 * x0)) ∧ (zr ((976 + (4 * x0)) + x1) ∧ (Q ((976 + (4 * x0)) + x1)))))
set_option maxHeartbeats 4000000 in
set_option maxRecDepth 100000 in
theorem sX8_ruleCell {l0 : Launch} {x0 : Int} {x1 : Int} {h : Hp} {Q : Int → Prop}  (hM : mX8_ruleCell x0 x1 h Q) : zSp l0 yX8_ruleCell cX8_ruleCell 2 (some .int) 197 (1) 0 0 [aI x0, aI x1] h (qPI h Q) xN := by
  unfold mX8_ruleCell at hM
  refine zSp_intro zpn_RX8 (Nat.le_of_ble_eq_true rfl) (fun a O => ?_)
  show zV a (1, 0, 0, (qPI h Q), xN) 0 0 0 [some (aI x0), some (aI x1)] [] h
  refine zV_sipush (z := 976) O ⟨by omega, by omega⟩ rfl dX8_ruleCell_0 ?_
  refine zV_iconst (z := 4) O ⟨by omega, by omega⟩ dX8_ruleCell_3 ?_
  refine zV_iload_n O dX8_ruleCell_4 rfl rfl ?_
  obtain ⟨hc, hM⟩ := hM
  refine zV_imul O dX8_ruleCell_5 hc ?_
  obtain ⟨hc, hM⟩ := hM
  refine zV_iadd O dX8_ruleCell_6 hc ?_
  refine zV_iload_n O dX8_ruleCell_7 rfl rfl ?_
  obtain ⟨hc, hM⟩ := hM
  refine zV_iadd O dX8_ruleCell_8 hc ?_
  exact zV_iret O rfl ⟨rfl, _, rfl, hM⟩ (Nat.le_of_ble_eq_true rfl) (Nat.le_of_ble_eq_true rfl) dX8_ruleCell_9
def mX8_strength (x0 : Int) (h : Hp) (Q : Int → Prop) : Prop := ((¬ x0 = (25 : Int) → ((¬ x0 = (24 : Int) → ((¬ x0 = (23 : Int) → (Q 0)) ∧ (x0 = (23 : Int) → (Q 3)))) ∧ (x0 = (24 : Int) → (Q 2)))) ∧ (x0 = (25 : Int) → (Q 1)))
set_option maxHeartbeats 4000000 in
set_option maxRecDepth 100000 in
theorem sX8_strength {l0 : Launch} {x0 : Int} {h : Hp} {Q : Int → Prop}  (hM : mX8_strength x0 h Q) : zSp l0 yX8_strength cX8_strength 1 (some .int) 197 (1) 0 0 [aI x0] h (qPI h Q) xN := by
  unfold mX8_strength at hM
  refine zSp_intro zpn_RX8 (Nat.le_of_ble_eq_true rfl) (fun a O => ?_)
  show zV a (1, 0, 0, (qPI h Q), xN) 0 0 0 [some (aI x0)] [] h
  refine zV_iload_n O dX8_strength_0 rfl rfl ?_
  refine zV_bipush (z := 25) O ⟨by omega, by omega⟩ rfl dX8_strength_1 ?_
  refine zV_icmp_ne (tgt := 10) O dX8_strength_3 (by decide) (fun hc => ?_) (fun hc => ?_)
  · replace hM := hM.1 hc
    refine zV_iload_n O dX8_strength_10 rfl rfl ?_
    refine zV_bipush (z := 24) O ⟨by omega, by omega⟩ rfl dX8_strength_11 ?_
    refine zV_icmp_ne (tgt := 20) O dX8_strength_13 (by decide) (fun hc => ?_) (fun hc => ?_)
    · replace hM := hM.1 hc
      refine zV_iload_n O dX8_strength_20 rfl rfl ?_
      refine zV_bipush (z := 23) O ⟨by omega, by omega⟩ rfl dX8_strength_21 ?_
      refine zV_icmp_ne (tgt := 30) O dX8_strength_23 (by decide) (fun hc => ?_) (fun hc => ?_)
      · replace hM := hM.1 hc
        refine zV_iconst (z := 0) O ⟨by omega, by omega⟩ dX8_strength_30 ?_
        exact zV_iret O rfl ⟨rfl, _, rfl, hM⟩ (Nat.le_of_ble_eq_true rfl) (Nat.le_of_ble_eq_true rfl) dX8_strength_31
      · replace hM := hM.2 hc
        refine zV_iconst (z := 3) O ⟨by omega, by omega⟩ dX8_strength_26 ?_
        refine zV_goto (tgt := 31) O dX8_strength_27 (by decide) ?_
        exact zV_iret O rfl ⟨rfl, _, rfl, hM⟩ (Nat.le_of_ble_eq_true rfl) (Nat.le_of_ble_eq_true rfl) dX8_strength_31
    · replace hM := hM.2 hc
      refine zV_iconst (z := 2) O ⟨by omega, by omega⟩ dX8_strength_16 ?_
      refine zV_goto (tgt := 31) O dX8_strength_17 (by decide) ?_
      exact zV_iret O rfl ⟨rfl, _, rfl, hM⟩ (Nat.le_of_ble_eq_true rfl) (Nat.le_of_ble_eq_true rfl) dX8_strength_31
  · replace hM := hM.2 hc
    refine zV_iconst (z := 1) O ⟨by omega, by omega⟩ dX8_strength_6 ?_
    refine zV_goto (tgt := 31) O dX8_strength_7 (by decide) ?_
    exact zV_iret O rfl ⟨rfl, _, rfl, hM⟩ (Nat.le_of_ble_eq_true rfl) (Nat.le_of_ble_eq_true rfl) dX8_strength_31
def mX8_thrown  (h : Hp) (Q : Int → Prop) : Prop := (Q (h 185 0))
set_option maxHeartbeats 4000000 in
set_option maxRecDepth 100000 in
theorem sX8_thrown {l0 : Launch}  {h : Hp} {Q : Int → Prop}  (hM : mX8_thrown  h Q) : zSp l0 yX8_thrown cX8_thrown 1 (some .int) 197 (1) 0 0 [aR 185] h (qPI h Q) xN := by
  unfold mX8_thrown at hM
  refine zSp_intro zpn_RX8 (Nat.le_of_ble_eq_true rfl) (fun a O => ?_)
  show zV a (1, 0, 0, (qPI h Q), xN) 0 0 0 [some (aR 185)] [] h
  refine zV_aload_n O dX8_thrown_0 rfl rfl ?_
  refine zV_getI O zf_RX8_1 zt_185 rfl (by decide) dX8_thrown_1 ?_
  exact zV_iret O rfl ⟨rfl, _, rfl, hM⟩ (Nat.le_of_ble_eq_true rfl) (Nat.le_of_ble_eq_true rfl) dX8_thrown_4
def mX8_undoCount  (h : Hp) (Q : Int → Hp → Prop) : Prop := (∀ h2 : Hp, h2 = hu h 185 0 0 → (Q (h2 185 6) h2))
set_option maxHeartbeats 4000000 in
set_option maxRecDepth 100000 in
theorem sX8_undoCount {l0 : Launch}  {h : Hp} {Q : Int → Hp → Prop}  (hM : mX8_undoCount  h Q) : zSp l0 yX8_undoCount cX8_undoCount 1 (some .int) 197 (1) 0 0 [aR 185] h (qI Q) xN := by
  unfold mX8_undoCount at hM
  refine zSp_intro zpn_RX8 (Nat.le_of_ble_eq_true rfl) (fun a O => ?_)
  show zV a (1, 0, 0, (qI Q), xN) 0 0 0 [some (aR 185)] [] h
  refine zV_aload_n O dX8_undoCount_0 rfl rfl ?_
  refine zV_iconst (z := 0) O ⟨by omega, by omega⟩ dX8_undoCount_1 ?_
  refine zV_putI O zf_RX8_1 zt_185 rfl (by decide) dX8_undoCount_2 ?_
  have hM := hM _ rfl
  generalize hu h 185 0 0 = h2 at hM ⊢
  refine zV_aload_n O dX8_undoCount_5 rfl rfl ?_
  refine zV_getI O zf_RX8_211 zt_185 rfl (by decide) dX8_undoCount_6 ?_
  exact zV_iret O rfl ⟨_, rfl, hM⟩ (Nat.le_of_ble_eq_true rfl) (Nat.le_of_ble_eq_true rfl) dX8_undoCount_9
def mX8_writes (x1 : Int) (h : Hp) (Q : Hp → Prop) : Prop := (((0 : Int) ≤ (h 185 22) ∧ (h 185 22) < 40) ∧ (∀ h3 : Hp, h3 = wr h 193 (h 185 22) x1 → (zr ((h3 185 22) + 1) ∧ (∀ h4 : Hp, h4 = hu h3 185 22 ((h3 185 22) + 1) → (Q h4)))))
set_option maxHeartbeats 4000000 in
set_option maxRecDepth 100000 in
theorem sX8_writes {l0 : Launch} {x1 : Int} {h : Hp} {Q : Hp → Prop}  (hM : mX8_writes x1 h Q) : zSp l0 yX8_writes cX8_writes 2 none 197 (1) 0 0 [aR 185, aI x1] h (qV Q) xN := by
  unfold mX8_writes at hM
  refine zSp_intro zpn_RX8 (Nat.le_of_ble_eq_true rfl) (fun a O => ?_)
  show zV a (1, 0, 0, (qV Q), xN) 0 0 0 [some (aR 185), some (aI x1)] [] h
  refine zV_aload_n O dX8_writes_0 rfl rfl ?_
  refine zV_getR O zf_RX8_38 zt_185 rfl (by decide) dX8_writes_1 ?_
  refine zV_aload_n O dX8_writes_4 rfl rfl ?_
  refine zV_getI O zf_RX8_354 zt_185 rfl (by decide) dX8_writes_5 ?_
  refine zV_iload_n O dX8_writes_8 rfl rfl ?_
  obtain ⟨hc, hM⟩ := hM
  refine zV_iast O zt_193 (by decide) hc dX8_writes_9 ?_
  have hM := hM (hu h 193 (Int.toNat (h 185 22)) x1) rfl
  generalize hu h 193 (Int.toNat (h 185 22)) x1 = h3 at hM ⊢
  refine zV_aload_n O dX8_writes_10 rfl rfl ?_
  refine zV_dup O rfl dX8_writes_11 ?_
  refine zV_getI O zf_RX8_354 zt_185 rfl (by decide) dX8_writes_12 ?_
  refine zV_iconst (z := 1) O ⟨by omega, by omega⟩ dX8_writes_15 ?_
  obtain ⟨hc, hM⟩ := hM
  refine zV_iadd O dX8_writes_16 hc ?_
  refine zV_putI O zf_RX8_354 zt_185 rfl (by decide) dX8_writes_17 ?_
  have hM := hM _ rfl
  generalize hu h3 185 22 ((h3 185 22) + 1) = h4 at hM ⊢
  exact zV_vret O rfl ⟨rfl, hM⟩ (Nat.le_of_ble_eq_true rfl) (Nat.le_of_ble_eq_true rfl) dX8_writes_20
def mX8_wrongs (x1 : Int) (h : Hp) (Q : Int → Hp → Prop) : Prop := ((¬ (h 185 16) = 0 → (Q 0 h)) ∧ ((h 185 16) = 0 → (∀ h3 : Hp, h3 = hu h 185 16 x1 → (∀ h4 : Hp, h4 = hu h3 185 17 (h3 185 12) → (Q 0 h4)))))
set_option maxHeartbeats 4000000 in
set_option maxRecDepth 100000 in
theorem sX8_wrongs {l0 : Launch} {x1 : Int} {h : Hp} {Q : Int → Hp → Prop}  (hM : mX8_wrongs x1 h Q) : zSp l0 yX8_wrongs cX8_wrongs 2 (some .boolean) 197 (1) 0 0 [aR 185, aI x1] h (qZ Q) xN := by
  unfold mX8_wrongs at hM
  refine zSp_intro zpn_RX8 (Nat.le_of_ble_eq_true rfl) (fun a O => ?_)
  show zV a (1, 0, 0, (qZ Q), xN) 0 0 0 [some (aR 185), some (aI x1)] [] h
  refine zV_aload_n O dX8_wrongs_0 rfl rfl ?_
  refine zV_getI O zf_RX8_105 zt_185 rfl (by decide) dX8_wrongs_1 ?_
  refine zV_if_ne (tgt := 20) O dX8_wrongs_4 (by decide) (fun hc => ?_) (fun hc => ?_)
  · replace hM := hM.1 hc
    refine zV_iconst (z := 0) O ⟨by omega, by omega⟩ dX8_wrongs_20 ?_
    exact zV_zret O rfl (Or.inl rfl) ⟨_, rfl, (Or.inl rfl), hM⟩ (Nat.le_of_ble_eq_true rfl) (Nat.le_of_ble_eq_true rfl) dX8_wrongs_21
  · replace hM := hM.2 hc
    refine zV_aload_n O dX8_wrongs_7 rfl rfl ?_
    refine zV_iload_n O dX8_wrongs_8 rfl rfl ?_
    refine zV_putI O zf_RX8_105 zt_185 rfl (by decide) dX8_wrongs_9 ?_
    have hM := hM _ rfl
    generalize hu h 185 16 x1 = h3 at hM ⊢
    refine zV_aload_n O dX8_wrongs_12 rfl rfl ?_
    refine zV_aload_n O dX8_wrongs_13 rfl rfl ?_
    refine zV_getI O zf_RX8_82 zt_185 rfl (by decide) dX8_wrongs_14 ?_
    refine zV_putI O zf_RX8_32 zt_185 rfl (by decide) dX8_wrongs_17 ?_
    have hM := hM _ rfl
    generalize hu h3 185 17 (h3 185 12) = h4 at hM ⊢
    refine zV_iconst (z := 0) O ⟨by omega, by omega⟩ dX8_wrongs_20 ?_
    exact zV_zret O rfl (Or.inl rfl) ⟨_, rfl, (Or.inl rfl), hM⟩ (Nat.le_of_ble_eq_true rfl) (Nat.le_of_ble_eq_true rfl) dX8_wrongs_21
def mX8_drops (x1 : Int) (h : Hp) (Q : Hp → Prop) : Prop := (mX8_cell x1 3 h (fun z5 => (((0 : Int) ≤ z5 ∧ z5 < 1096) ∧ (∀ h6 : Hp, h6 = wr h 186 z5 0 → (mX8_cell x1 4 h6 (fun z7 => (((0 : Int) ≤ z7 ∧ z7 < 1096) ∧ (∀ h8 : Hp, h8 = wr h6 186 z7 0 → (Q h8)))))))))
set_option maxHeartbeats 4000000 in
set_option maxRecDepth 100000 in
theorem sX8_drops {l0 : Launch} {x1 : Int} {h : Hp} {Q : Hp → Prop}  (hM : mX8_drops x1 h Q) : zSp l0 yX8_drops cX8_drops 2 none 197 (2) 0 0 [aR 185, aI x1] h (qV Q) xN := by
  unfold mX8_drops at hM
  refine zSp_intro zpn_RX8 (Nat.le_of_ble_eq_true rfl) (fun a O => ?_)
  show zV a (2, 0, 0, (qV Q), xN) 0 0 0 [some (aR 185), some (aI x1)] [] h
  refine zV_aload_n O dX8_drops_0 rfl rfl ?_
  refine zV_getR O zf_RX8_13 zt_185 rfl (by decide) dX8_drops_1 ?_
  refine zV_iload_n O dX8_drops_4 rfl rfl ?_
  refine zV_iconst (z := 3) O ⟨by omega, by omega⟩ dX8_drops_5 ?_
  refine zV_callS (as := [aI x1, aI 3]) (st := [aR 186]) O zc_X8_cell (Or.inl zl_RX8_129) zi_1505 (Nat.le_of_ble_eq_true rfl) rfl rfl (Nat.le_of_ble_eq_true rfl) (Nat.le_of_ble_eq_true rfl) (Nat.le_of_ble_eq_true rfl) (Nat.le_of_ble_eq_true rfl) (Nat.le_of_ble_eq_true rfl) (Nat.le_of_ble_eq_true rfl) dX8_drops_6 (sX8_cell hM) (fun r h9 hq => ?_) (fun x h9 hq => hq.elim)
  obtain ⟨rfl, z5, rfl, hM⟩ := hq
  refine zV_iconst (z := 0) O ⟨by omega, by omega⟩ dX8_drops_9 ?_
  obtain ⟨hc, hM⟩ := hM
  refine zV_iast O zt_186 (by decide) hc dX8_drops_10 ?_
  have hM := hM (hu h 186 (Int.toNat z5) 0) rfl
  generalize hu h 186 (Int.toNat z5) 0 = h6 at hM ⊢
  refine zV_aload_n O dX8_drops_11 rfl rfl ?_
  refine zV_getR O zf_RX8_13 zt_185 rfl (by decide) dX8_drops_12 ?_
  refine zV_iload_n O dX8_drops_15 rfl rfl ?_
  refine zV_iconst (z := 4) O ⟨by omega, by omega⟩ dX8_drops_16 ?_
  refine zV_callS (as := [aI x1, aI 4]) (st := [aR 186]) O zc_X8_cell (Or.inl zl_RX8_129) zi_1505 (Nat.le_of_ble_eq_true rfl) rfl rfl (Nat.le_of_ble_eq_true rfl) (Nat.le_of_ble_eq_true rfl) (Nat.le_of_ble_eq_true rfl) (Nat.le_of_ble_eq_true rfl) (Nat.le_of_ble_eq_true rfl) (Nat.le_of_ble_eq_true rfl) dX8_drops_17 (sX8_cell hM) (fun r h9 hq => ?_) (fun x h9 hq => hq.elim)
  obtain ⟨rfl, z7, rfl, hM⟩ := hq
  refine zV_iconst (z := 0) O ⟨by omega, by omega⟩ dX8_drops_20 ?_
  obtain ⟨hc, hM⟩ := hM
  refine zV_iast O zt_186 (by decide) hc dX8_drops_21 ?_
  have hM := hM (hu h6 186 (Int.toNat z7) 0) rfl
  generalize hu h6 186 (Int.toNat z7) 0 = h8 at hM ⊢
  exact zV_vret O rfl ⟨rfl, hM⟩ (Nat.le_of_ble_eq_true rfl) (Nat.le_of_ble_eq_true rfl) dX8_drops_22
def mX8_feed (x1 : Int) (x2 : Int) (x3 : Int) (x4 : Int) (x5 : Int) (h : Hp) (Q : Int → Hp → Prop) : Prop := (∀ h7 : Hp, h7 = hu h 185 0 0 → (zr ((h7 185 9) + 20) ∧ ((((h7 185 9) + 20) ≤ (900 : Int) → (mX8_lays x1 h7 (fun h8 => (mX8_lays x2 h8 (fun h9 => (mX8_lays x3 h9 (fun h10 => (mX8_lays x4 h10 (fun h11 => (mX8_lays x5 h11 (fun h12 => (Q (h12 185 9) h12)))))))))))) ∧ (¬ ((h7 185 9) + 20) ≤ (900 : Int) → (Q (-1) h7)))))
set_option maxHeartbeats 4000000 in
set_option maxRecDepth 100000 in
theorem sX8_feed {l0 : Launch} {x1 : Int} {x2 : Int} {x3 : Int} {x4 : Int} {x5 : Int} {h : Hp} {Q : Int → Hp → Prop}  (hM : mX8_feed x1 x2 x3 x4 x5 h Q) : zSp l0 yX8_feed cX8_feed 6 (some .int) 197 (2) 0 0 [aR 185, aI x1, aI x2, aI x3, aI x4, aI x5] h (qI Q) xN := by
  unfold mX8_feed at hM
  refine zSp_intro zpn_RX8 (Nat.le_of_ble_eq_true rfl) (fun a O => ?_)
  show zV a (2, 0, 0, (qI Q), xN) 0 0 0 [some (aR 185), some (aI x1), some (aI x2), some (aI x3), some (aI x4), some (aI x5)] [] h
  refine zV_aload_n O dX8_feed_0 rfl rfl ?_
  refine zV_iconst (z := 0) O ⟨by omega, by omega⟩ dX8_feed_1 ?_
  refine zV_putI O zf_RX8_1 zt_185 rfl (by decide) dX8_feed_2 ?_
  have hM := hM _ rfl
  generalize hu h 185 0 0 = h7 at hM ⊢
  refine zV_aload_n O dX8_feed_5 rfl rfl ?_
  refine zV_getI O zf_RX8_57 zt_185 rfl (by decide) dX8_feed_6 ?_
  refine zV_bipush (z := 20) O ⟨by omega, by omega⟩ rfl dX8_feed_9 ?_
  obtain ⟨hc, hM⟩ := hM
  refine zV_iadd O dX8_feed_11 hc ?_
  refine zV_sipush (z := 900) O ⟨by omega, by omega⟩ rfl dX8_feed_12 ?_
  refine zV_icmp_le (tgt := 20) O dX8_feed_15 (by decide) (fun hc => ?_) (fun hc => ?_)
  · replace hM := hM.1 hc
    refine zV_aload_n O dX8_feed_20 rfl rfl ?_
    refine zV_iload_n O dX8_feed_21 rfl rfl ?_
    refine zV_callV (as := [aI x1]) (st := []) O zc_X8_lays (Or.inl zl_RX8_60) zi_1405 zi_92 zt_185 rfl rfl (by decide) (Nat.le_of_ble_eq_true rfl) rfl rfl (Nat.le_of_ble_eq_true rfl) (Nat.le_of_ble_eq_true rfl) (Nat.le_of_ble_eq_true rfl) (Nat.le_of_ble_eq_true rfl) (Nat.le_of_ble_eq_true rfl) (Nat.le_of_ble_eq_true rfl) dX8_feed_22 (sX8_lays hM) (fun r h8 hq => ?_) (fun x h9 hq => hq.elim)
    obtain ⟨rfl, hM⟩ := hq
    refine zV_aload_n O dX8_feed_25 rfl rfl ?_
    refine zV_iload_n O dX8_feed_26 rfl rfl ?_
    refine zV_callV (as := [aI x2]) (st := []) O zc_X8_lays (Or.inl zl_RX8_60) zi_1405 zi_92 zt_185 rfl rfl (by decide) (Nat.le_of_ble_eq_true rfl) rfl rfl (Nat.le_of_ble_eq_true rfl) (Nat.le_of_ble_eq_true rfl) (Nat.le_of_ble_eq_true rfl) (Nat.le_of_ble_eq_true rfl) (Nat.le_of_ble_eq_true rfl) (Nat.le_of_ble_eq_true rfl) dX8_feed_27 (sX8_lays hM) (fun r h9 hq => ?_) (fun x h9 hq => hq.elim)
    obtain ⟨rfl, hM⟩ := hq
    refine zV_aload_n O dX8_feed_30 rfl rfl ?_
    refine zV_iload_n O dX8_feed_31 rfl rfl ?_
    refine zV_callV (as := [aI x3]) (st := []) O zc_X8_lays (Or.inl zl_RX8_60) zi_1405 zi_92 zt_185 rfl rfl (by decide) (Nat.le_of_ble_eq_true rfl) rfl rfl (Nat.le_of_ble_eq_true rfl) (Nat.le_of_ble_eq_true rfl) (Nat.le_of_ble_eq_true rfl) (Nat.le_of_ble_eq_true rfl) (Nat.le_of_ble_eq_true rfl) (Nat.le_of_ble_eq_true rfl) dX8_feed_32 (sX8_lays hM) (fun r h10 hq => ?_) (fun x h9 hq => hq.elim)
    obtain ⟨rfl, hM⟩ := hq
    refine zV_aload_n O dX8_feed_35 rfl rfl ?_
    refine zV_iload O dX8_feed_36 rfl ?_
    refine zV_callV (as := [aI x4]) (st := []) O zc_X8_lays (Or.inl zl_RX8_60) zi_1405 zi_92 zt_185 rfl rfl (by decide) (Nat.le_of_ble_eq_true rfl) rfl rfl (Nat.le_of_ble_eq_true rfl) (Nat.le_of_ble_eq_true rfl) (Nat.le_of_ble_eq_true rfl) (Nat.le_of_ble_eq_true rfl) (Nat.le_of_ble_eq_true rfl) (Nat.le_of_ble_eq_true rfl) dX8_feed_38 (sX8_lays hM) (fun r h11 hq => ?_) (fun x h9 hq => hq.elim)
    obtain ⟨rfl, hM⟩ := hq
    refine zV_aload_n O dX8_feed_41 rfl rfl ?_
    refine zV_iload O dX8_feed_42 rfl ?_
    refine zV_callV (as := [aI x5]) (st := []) O zc_X8_lays (Or.inl zl_RX8_60) zi_1405 zi_92 zt_185 rfl rfl (by decide) (Nat.le_of_ble_eq_true rfl) rfl rfl (Nat.le_of_ble_eq_true rfl) (Nat.le_of_ble_eq_true rfl) (Nat.le_of_ble_eq_true rfl) (Nat.le_of_ble_eq_true rfl) (Nat.le_of_ble_eq_true rfl) (Nat.le_of_ble_eq_true rfl) dX8_feed_44 (sX8_lays hM) (fun r h12 hq => ?_) (fun x h9 hq => hq.elim)
    obtain ⟨rfl, hM⟩ := hq
    refine zV_aload_n O dX8_feed_47 rfl rfl ?_
    refine zV_getI O zf_RX8_57 zt_185 rfl (by decide) dX8_feed_48 ?_
    exact zV_iret O rfl ⟨_, rfl, hM⟩ (Nat.le_of_ble_eq_true rfl) (Nat.le_of_ble_eq_true rfl) dX8_feed_51
  · replace hM := hM.2 hc
    refine zV_iconst (z := -1) O ⟨by omega, by omega⟩ dX8_feed_18 ?_
    exact zV_iret O rfl ⟨_, rfl, hM⟩ (Nat.le_of_ble_eq_true rfl) (Nat.le_of_ble_eq_true rfl) dX8_feed_19
def mX8_formattedByte (x1 : Int) (h : Hp) (Q : Int → Hp → Prop) : Prop := (∀ h3 : Hp, h3 = hu h 185 0 0 → (zr ((h3 185 22) - 1) ∧ (mX8_in x1 0 ((h3 185 22) - 1) h3 (fun z4 => ((z4 = 0 → (Q (-1) h3)) ∧ (¬ z4 = 0 → (((0 : Int) ≤ x1 ∧ x1 < 40) ∧ (Q (rd h3 193 x1) h3))))))))
set_option maxHeartbeats 4000000 in
set_option maxRecDepth 100000 in
theorem sX8_formattedByte {l0 : Launch} {x1 : Int} {h : Hp} {Q : Int → Hp → Prop}  (hM : mX8_formattedByte x1 h Q) : zSp l0 yX8_formattedByte cX8_formattedByte 2 (some .int) 197 (2) 0 0 [aR 185, aI x1] h (qI Q) xN := by
  unfold mX8_formattedByte at hM
  refine zSp_intro zpn_RX8 (Nat.le_of_ble_eq_true rfl) (fun a O => ?_)
  show zV a (2, 0, 0, (qI Q), xN) 0 0 0 [some (aR 185), some (aI x1)] [] h
  refine zV_aload_n O dX8_formattedByte_0 rfl rfl ?_
  refine zV_iconst (z := 0) O ⟨by omega, by omega⟩ dX8_formattedByte_1 ?_
  refine zV_putI O zf_RX8_1 zt_185 rfl (by decide) dX8_formattedByte_2 ?_
  have hM := hM _ rfl
  generalize hu h 185 0 0 = h3 at hM ⊢
  refine zV_iload_n O dX8_formattedByte_5 rfl rfl ?_
  refine zV_i2l O dX8_formattedByte_6 ?_
  refine zV_lconst (z := 0) O ⟨by omega, by omega⟩ rfl dX8_formattedByte_7 ?_
  refine zV_aload_n O dX8_formattedByte_8 rfl rfl ?_
  refine zV_getI O zf_RX8_354 zt_185 rfl (by decide) dX8_formattedByte_9 ?_
  refine zV_iconst (z := 1) O ⟨by omega, by omega⟩ dX8_formattedByte_12 ?_
  obtain ⟨hc, hM⟩ := hM
  refine zV_isub O dX8_formattedByte_13 hc ?_
  refine zV_i2l O dX8_formattedByte_14 ?_
  refine zV_callS (as := [aL x1, aL 0, aL ((h3 185 22) - 1)]) (st := []) O zc_X8_in (Or.inl zl_RX8_125) zi_1416 (Nat.le_of_ble_eq_true rfl) rfl rfl (Nat.le_of_ble_eq_true rfl) (Nat.le_of_ble_eq_true rfl) (Nat.le_of_ble_eq_true rfl) (Nat.le_of_ble_eq_true rfl) (Nat.le_of_ble_eq_true rfl) (Nat.le_of_ble_eq_true rfl) dX8_formattedByte_15 (sX8_in hM) (fun r h9 hq => ?_) (fun x h9 hq => hq.elim)
  obtain ⟨rfl, z4, rfl, hzz4, hM⟩ := hq
  refine zV_if_eq (tgt := 30) O dX8_formattedByte_18 (by decide) (fun hc => ?_) (fun hc => ?_)
  · replace hM := hM.1 hc
    refine zV_iconst (z := -1) O ⟨by omega, by omega⟩ dX8_formattedByte_30 ?_
    exact zV_iret O rfl ⟨_, rfl, hM⟩ (Nat.le_of_ble_eq_true rfl) (Nat.le_of_ble_eq_true rfl) dX8_formattedByte_31
  · replace hM := hM.2 hc
    refine zV_aload_n O dX8_formattedByte_21 rfl rfl ?_
    refine zV_getR O zf_RX8_38 zt_185 rfl (by decide) dX8_formattedByte_22 ?_
    refine zV_iload_n O dX8_formattedByte_25 rfl rfl ?_
    obtain ⟨hc, hM⟩ := hM
    refine zV_iald O zt_193 (by decide) hc dX8_formattedByte_26 ?_
    refine zV_goto (tgt := 31) O dX8_formattedByte_27 (by decide) ?_
    exact zV_iret O rfl ⟨_, rfl, hM⟩ (Nat.le_of_ble_eq_true rfl) (Nat.le_of_ble_eq_true rfl) dX8_formattedByte_31
def mX8_isByte (x1 : Int) (h : Hp) (Q : Int → Prop) : Prop := (mX8_isGood h (fun z2 => ((z2 = 0 → (Q 0)) ∧ (¬ z2 = 0 → ((¬ (h 185 13) = (3 : Int) → (Q 0)) ∧ ((h 185 13) = (3 : Int) → (((0 : Int) ≤ (h 185 12) ∧ (h 185 12) < 900) ∧ ((¬ (rd h 191 (h 185 12)) = x1 → (Q 0)) ∧ ((rd h 191 (h 185 12)) = x1 → (Q 1))))))))))
set_option maxHeartbeats 4000000 in
set_option maxRecDepth 100000 in
theorem sX8_isByte {l0 : Launch} {x1 : Int} {h : Hp} {Q : Int → Prop}  (hM : mX8_isByte x1 h Q) : zSp l0 yX8_isByte cX8_isByte 2 (some .boolean) 197 (2) 0 0 [aR 185, aI x1] h (qPZ h Q) xN := by
  unfold mX8_isByte at hM
  refine zSp_intro zpn_RX8 (Nat.le_of_ble_eq_true rfl) (fun a O => ?_)
  show zV a (2, 0, 0, (qPZ h Q), xN) 0 0 0 [some (aR 185), some (aI x1)] [] h
  refine zV_aload_n O dX8_isByte_0 rfl rfl ?_
  refine zV_callV (as := []) (st := []) O zc_X8_isGood (Or.inl zl_RX8_111) zi_1470 zi_103 zt_185 rfl rfl (by decide) (Nat.le_of_ble_eq_true rfl) rfl rfl (Nat.le_of_ble_eq_true rfl) (Nat.le_of_ble_eq_true rfl) (Nat.le_of_ble_eq_true rfl) (Nat.le_of_ble_eq_true rfl) (Nat.le_of_ble_eq_true rfl) (Nat.le_of_ble_eq_true rfl) dX8_isByte_1 (sX8_isGood hM) (fun r h9 hq => ?_) (fun x h9 hq => hq.elim)
  obtain ⟨rfl, z2, rfl, hzz2, hM⟩ := hq
  refine zV_if_eq (tgt := 32) O dX8_isByte_4 (by decide) (fun hc => ?_) (fun hc => ?_)
  · replace hM := hM.1 hc
    refine zV_iconst (z := 0) O ⟨by omega, by omega⟩ dX8_isByte_32 ?_
    exact zV_zret O rfl (Or.inl rfl) ⟨rfl, _, rfl, (Or.inl rfl), hM⟩ (Nat.le_of_ble_eq_true rfl) (Nat.le_of_ble_eq_true rfl) dX8_isByte_33
  · replace hM := hM.2 hc
    refine zV_aload_n O dX8_isByte_7 rfl rfl ?_
    refine zV_getI O zf_RX8_89 zt_185 rfl (by decide) dX8_isByte_8 ?_
    refine zV_iconst (z := 3) O ⟨by omega, by omega⟩ dX8_isByte_11 ?_
    refine zV_icmp_ne (tgt := 32) O dX8_isByte_12 (by decide) (fun hc => ?_) (fun hc => ?_)
    · replace hM := hM.1 hc
      refine zV_iconst (z := 0) O ⟨by omega, by omega⟩ dX8_isByte_32 ?_
      exact zV_zret O rfl (Or.inl rfl) ⟨rfl, _, rfl, (Or.inl rfl), hM⟩ (Nat.le_of_ble_eq_true rfl) (Nat.le_of_ble_eq_true rfl) dX8_isByte_33
    · replace hM := hM.2 hc
      refine zV_aload_n O dX8_isByte_15 rfl rfl ?_
      refine zV_getR O zf_RX8_29 zt_185 rfl (by decide) dX8_isByte_16 ?_
      refine zV_aload_n O dX8_isByte_19 rfl rfl ?_
      refine zV_getI O zf_RX8_82 zt_185 rfl (by decide) dX8_isByte_20 ?_
      obtain ⟨hc, hM⟩ := hM
      refine zV_iald O zt_191 (by decide) hc dX8_isByte_23 ?_
      refine zV_iload_n O dX8_isByte_24 rfl rfl ?_
      refine zV_icmp_ne (tgt := 32) O dX8_isByte_25 (by decide) (fun hc => ?_) (fun hc => ?_)
      · replace hM := hM.1 hc
        refine zV_iconst (z := 0) O ⟨by omega, by omega⟩ dX8_isByte_32 ?_
        exact zV_zret O rfl (Or.inl rfl) ⟨rfl, _, rfl, (Or.inl rfl), hM⟩ (Nat.le_of_ble_eq_true rfl) (Nat.le_of_ble_eq_true rfl) dX8_isByte_33
      · replace hM := hM.2 hc
        refine zV_iconst (z := 1) O ⟨by omega, by omega⟩ dX8_isByte_28 ?_
        refine zV_goto (tgt := 33) O dX8_isByte_29 (by decide) ?_
        exact zV_zret O rfl (Or.inr rfl) ⟨rfl, _, rfl, (Or.inr rfl), hM⟩ (Nat.le_of_ble_eq_true rfl) (Nat.le_of_ble_eq_true rfl) dX8_isByte_33
def mX8_isHost (x1 : Int) (h : Hp) (Q : Int → Prop) : Prop := (((0 : Int) ≤ 0 ∧ (0 : Int) < 1096) ∧ (zr ((rd h 186 0) - 1) ∧ (mX8_in x1 0 ((rd h 186 0) - 1) h (fun z2 => (Q z2)))))
set_option maxHeartbeats 4000000 in
set_option maxRecDepth 100000 in
theorem sX8_isHost {l0 : Launch} {x1 : Int} {h : Hp} {Q : Int → Prop}  (hM : mX8_isHost x1 h Q) : zSp l0 yX8_isHost cX8_isHost 2 (some .boolean) 197 (2) 0 0 [aR 185, aI x1] h (qPZ h Q) xN := by
  unfold mX8_isHost at hM
  refine zSp_intro zpn_RX8 (Nat.le_of_ble_eq_true rfl) (fun a O => ?_)
  show zV a (2, 0, 0, (qPZ h Q), xN) 0 0 0 [some (aR 185), some (aI x1)] [] h
  refine zV_iload_n O dX8_isHost_0 rfl rfl ?_
  refine zV_i2l O dX8_isHost_1 ?_
  refine zV_lconst (z := 0) O ⟨by omega, by omega⟩ rfl dX8_isHost_2 ?_
  refine zV_aload_n O dX8_isHost_3 rfl rfl ?_
  refine zV_getR O zf_RX8_13 zt_185 rfl (by decide) dX8_isHost_4 ?_
  refine zV_iconst (z := 0) O ⟨by omega, by omega⟩ dX8_isHost_7 ?_
  obtain ⟨hc, hM⟩ := hM
  refine zV_iald O zt_186 (by decide) hc dX8_isHost_8 ?_
  refine zV_iconst (z := 1) O ⟨by omega, by omega⟩ dX8_isHost_9 ?_
  obtain ⟨hc, hM⟩ := hM
  refine zV_isub O dX8_isHost_10 hc ?_
  refine zV_i2l O dX8_isHost_11 ?_
  refine zV_callS (as := [aL x1, aL 0, aL ((rd h 186 0) - 1)]) (st := []) O zc_X8_in (Or.inl zl_RX8_125) zi_1416 (Nat.le_of_ble_eq_true rfl) rfl rfl (Nat.le_of_ble_eq_true rfl) (Nat.le_of_ble_eq_true rfl) (Nat.le_of_ble_eq_true rfl) (Nat.le_of_ble_eq_true rfl) (Nat.le_of_ble_eq_true rfl) (Nat.le_of_ble_eq_true rfl) dX8_isHost_12 (sX8_in hM) (fun r h9 hq => ?_) (fun x h9 hq => hq.elim)
  obtain ⟨rfl, z2, rfl, hzz2, hM⟩ := hq
  exact zV_zret O rfl hzz2 ⟨rfl, _, rfl, hzz2, hM⟩ (Nat.le_of_ble_eq_true rfl) (Nat.le_of_ble_eq_true rfl) dX8_isHost_15
def mX8_isNumber (x0 : Int) (h : Hp) (Q : Int → Prop) : Prop := (mX8_in x0 1 250 h (fun z2 => (Q z2)))
set_option maxHeartbeats 4000000 in
set_option maxRecDepth 100000 in
theorem sX8_isNumber {l0 : Launch} {x0 : Int} {h : Hp} {Q : Int → Prop}  (hM : mX8_isNumber x0 h Q) : zSp l0 yX8_isNumber cX8_isNumber 1 (some .boolean) 197 (2) 0 0 [aI x0] h (qPZ h Q) xN := by
  unfold mX8_isNumber at hM
  refine zSp_intro zpn_RX8 (Nat.le_of_ble_eq_true rfl) (fun a O => ?_)
  show zV a (2, 0, 0, (qPZ h Q), xN) 0 0 0 [some (aI x0)] [] h
  refine zV_iload_n O dX8_isNumber_0 rfl rfl ?_
  refine zV_i2l O dX8_isNumber_1 ?_
  refine zV_lconst (z := 1) O ⟨by omega, by omega⟩ rfl dX8_isNumber_2 ?_
  refine zV_ldc2 (z := 250) O ⟨by omega, by omega⟩ zi_1507.1 zi_1507.2 dX8_isNumber_3 ?_
  refine zV_callS (as := [aL x0, aL 1, aL 250]) (st := []) O zc_X8_in (Or.inl zl_RX8_125) zi_1416 (Nat.le_of_ble_eq_true rfl) rfl rfl (Nat.le_of_ble_eq_true rfl) (Nat.le_of_ble_eq_true rfl) (Nat.le_of_ble_eq_true rfl) (Nat.le_of_ble_eq_true rfl) (Nat.le_of_ble_eq_true rfl) (Nat.le_of_ble_eq_true rfl) dX8_isNumber_6 (sX8_in hM) (fun r h9 hq => ?_) (fun x h9 hq => hq.elim)
  obtain ⟨rfl, z2, rfl, hzz2, hM⟩ := hq
  exact zV_zret O rfl hzz2 ⟨rfl, _, rfl, hzz2, hM⟩ (Nat.le_of_ble_eq_true rfl) (Nat.le_of_ble_eq_true rfl) dX8_isNumber_9
def mX8_isOffice (x0 : Int) (h : Hp) (Q : Int → Prop) : Prop := (mX8_in x0 0 1 h (fun z2 => (Q z2)))
set_option maxHeartbeats 4000000 in
set_option maxRecDepth 100000 in
theorem sX8_isOffice {l0 : Launch} {x0 : Int} {h : Hp} {Q : Int → Prop}  (hM : mX8_isOffice x0 h Q) : zSp l0 yX8_isOffice cX8_isOffice 1 (some .boolean) 197 (2) 0 0 [aI x0] h (qPZ h Q) xN := by
  unfold mX8_isOffice at hM
  refine zSp_intro zpn_RX8 (Nat.le_of_ble_eq_true rfl) (fun a O => ?_)
  show zV a (2, 0, 0, (qPZ h Q), xN) 0 0 0 [some (aI x0)] [] h
  refine zV_iload_n O dX8_isOffice_0 rfl rfl ?_
  refine zV_i2l O dX8_isOffice_1 ?_
  refine zV_lconst (z := 0) O ⟨by omega, by omega⟩ rfl dX8_isOffice_2 ?_
  refine zV_lconst (z := 1) O ⟨by omega, by omega⟩ rfl dX8_isOffice_3 ?_
  refine zV_callS (as := [aL x0, aL 0, aL 1]) (st := []) O zc_X8_in (Or.inl zl_RX8_125) zi_1416 (Nat.le_of_ble_eq_true rfl) rfl rfl (Nat.le_of_ble_eq_true rfl) (Nat.le_of_ble_eq_true rfl) (Nat.le_of_ble_eq_true rfl) (Nat.le_of_ble_eq_true rfl) (Nat.le_of_ble_eq_true rfl) (Nat.le_of_ble_eq_true rfl) dX8_isOffice_4 (sX8_in hM) (fun r h9 hq => ?_) (fun x h9 hq => hq.elim)
  obtain ⟨rfl, z2, rfl, hzz2, hM⟩ := hq
  exact zV_zret O rfl hzz2 ⟨rfl, _, rfl, hzz2, hM⟩ (Nat.le_of_ble_eq_true rfl) (Nat.le_of_ble_eq_true rfl) dX8_isOffice_7
def mX8_isRule (x1 : Int) (h : Hp) (Q : Int → Prop) : Prop := (((0 : Int) ≤ 1 ∧ (1 : Int) < 1096) ∧ (zr ((rd h 186 1) - 1) ∧ (mX8_in x1 0 ((rd h 186 1) - 1) h (fun z2 => (Q z2)))))
set_option maxHeartbeats 4000000 in
set_option maxRecDepth 100000 in
theorem sX8_isRule {l0 : Launch} {x1 : Int} {h : Hp} {Q : Int → Prop}  (hM : mX8_isRule x1 h Q) : zSp l0 yX8_isRule cX8_isRule 2 (some .boolean) 197 (2) 0 0 [aR 185, aI x1] h (qPZ h Q) xN := by
  unfold mX8_isRule at hM
  refine zSp_intro zpn_RX8 (Nat.le_of_ble_eq_true rfl) (fun a O => ?_)
  show zV a (2, 0, 0, (qPZ h Q), xN) 0 0 0 [some (aR 185), some (aI x1)] [] h
  refine zV_iload_n O dX8_isRule_0 rfl rfl ?_
  refine zV_i2l O dX8_isRule_1 ?_
  refine zV_lconst (z := 0) O ⟨by omega, by omega⟩ rfl dX8_isRule_2 ?_
  refine zV_aload_n O dX8_isRule_3 rfl rfl ?_
  refine zV_getR O zf_RX8_13 zt_185 rfl (by decide) dX8_isRule_4 ?_
  refine zV_iconst (z := 1) O ⟨by omega, by omega⟩ dX8_isRule_7 ?_
  obtain ⟨hc, hM⟩ := hM
  refine zV_iald O zt_186 (by decide) hc dX8_isRule_8 ?_
  refine zV_iconst (z := 1) O ⟨by omega, by omega⟩ dX8_isRule_9 ?_
  obtain ⟨hc, hM⟩ := hM
  refine zV_isub O dX8_isRule_10 hc ?_
  refine zV_i2l O dX8_isRule_11 ?_
  refine zV_callS (as := [aL x1, aL 0, aL ((rd h 186 1) - 1)]) (st := []) O zc_X8_in (Or.inl zl_RX8_125) zi_1416 (Nat.le_of_ble_eq_true rfl) rfl rfl (Nat.le_of_ble_eq_true rfl) (Nat.le_of_ble_eq_true rfl) (Nat.le_of_ble_eq_true rfl) (Nat.le_of_ble_eq_true rfl) (Nat.le_of_ble_eq_true rfl) (Nat.le_of_ble_eq_true rfl) dX8_isRule_12 (sX8_in hM) (fun r h9 hq => ?_) (fun x h9 hq => hq.elim)
  obtain ⟨rfl, z2, rfl, hzz2, hM⟩ := hq
  exact zV_zret O rfl hzz2 ⟨rfl, _, rfl, hzz2, hM⟩ (Nat.le_of_ble_eq_true rfl) (Nat.le_of_ble_eq_true rfl) dX8_isRule_15
def mX8_isSide (x0 : Int) (h : Hp) (Q : Int → Prop) : Prop := (mX8_in x0 0 250 h (fun z2 => (Q z2)))
set_option maxHeartbeats 4000000 in
set_option maxRecDepth 100000 in
theorem sX8_isSide {l0 : Launch} {x0 : Int} {h : Hp} {Q : Int → Prop}  (hM : mX8_isSide x0 h Q) : zSp l0 yX8_isSide cX8_isSide 1 (some .boolean) 197 (2) 0 0 [aI x0] h (qPZ h Q) xN := by
  unfold mX8_isSide at hM
  refine zSp_intro zpn_RX8 (Nat.le_of_ble_eq_true rfl) (fun a O => ?_)
  show zV a (2, 0, 0, (qPZ h Q), xN) 0 0 0 [some (aI x0)] [] h
  refine zV_iload_n O dX8_isSide_0 rfl rfl ?_
  refine zV_i2l O dX8_isSide_1 ?_
  refine zV_lconst (z := 0) O ⟨by omega, by omega⟩ rfl dX8_isSide_2 ?_
  refine zV_ldc2 (z := 250) O ⟨by omega, by omega⟩ zi_1507.1 zi_1507.2 dX8_isSide_3 ?_
  refine zV_callS (as := [aL x0, aL 0, aL 250]) (st := []) O zc_X8_in (Or.inl zl_RX8_125) zi_1416 (Nat.le_of_ble_eq_true rfl) rfl rfl (Nat.le_of_ble_eq_true rfl) (Nat.le_of_ble_eq_true rfl) (Nat.le_of_ble_eq_true rfl) (Nat.le_of_ble_eq_true rfl) (Nat.le_of_ble_eq_true rfl) (Nat.le_of_ble_eq_true rfl) dX8_isSide_6 (sX8_in hM) (fun r h9 hq => ?_) (fun x h9 hq => hq.elim)
  obtain ⟨rfl, z2, rfl, hzz2, hM⟩ := hq
  exact zV_zret O rfl hzz2 ⟨rfl, _, rfl, hzz2, hM⟩ (Nat.le_of_ble_eq_true rfl) (Nat.le_of_ble_eq_true rfl) dX8_isSide_9
def mX8_isTold_b42 (h : Hp) (Q : Int → Prop) (K2 : Int → Int → Int → Prop) (v1 : Int) (v2 : Int) (v3 : Int) : Prop := (zr (v3 + 1) ∧ (K2 v1 v2 (v3 + 1)))
set_option maxHeartbeats 4000000 in
set_option maxRecDepth 100000 in
theorem sX8_isTold_b42 {l0 : Launch} {a : ZC}  {h : Hp} {Q : Int → Prop} {K2 : Int → Int → Int → Prop} (O : zOk l0 a cX8_isTold RX8 4 (some .boolean) 197 [])  (hK2 : ∀ (v1 : Int) (v2 : Int) (v3 : Int), K2 v1 v2 v3 → zV a (2, 0, 0, (qPZ h Q), xN) 0 0 2 [some (aR 185), some (aI v1), some (aI v2), some (aI v3)] [] h) {v1 : Int} {v2 : Int} {v3 : Int}   (hM : mX8_isTold_b42 h Q K2 v1 v2 v3) : zV a (2, 0, 0, (qPZ h Q), xN) 0 0 42 [some (aR 185), some (aI v1), some (aI v2), some (aI v3)] [] h := by
  unfold mX8_isTold_b42 at hM
  obtain ⟨hc, hM⟩ := hM
  refine zV_iinc O dX8_isTold_42 rfl (Nat.le_of_ble_eq_true rfl) rfl hc ?_
  refine zV_goto (tgt := 2) O dX8_isTold_45 (by decide) ?_
  exact hK2 _ _ _ hM
def mX8_isTold_b2 (h : Hp) (Q : Int → Prop) : Nat → Int → Int → Int → Prop
  | 0 => fun _ _ _ => False
  | fu2 + 1 => fun v1 v2 v3 => (((0 : Int) ≤ 0 ∧ (0 : Int) < 1096) ∧ (((rd h 187 0) ≤ v3 → (Q 0)) ∧ (¬ (rd h 187 0) ≤ v3 → (mX8_cell v3 0 h (fun z7 => (((0 : Int) ≤ z7 ∧ z7 < 1096) ∧ ((¬ (rd h 187 z7) = v1 → (mX8_isTold_b42 h Q (mX8_isTold_b2 h Q fu2) v1 v2 v3)) ∧ ((rd h 187 z7) = v1 → (mX8_cell v3 1 h (fun z8 => (((0 : Int) ≤ z8 ∧ z8 < 1096) ∧ ((¬ (rd h 187 z8) = v2 → (mX8_isTold_b42 h Q (mX8_isTold_b2 h Q fu2) v1 v2 v3)) ∧ ((rd h 187 z8) = v2 → (Q 1))))))))))))))
set_option maxHeartbeats 4000000 in
set_option maxRecDepth 100000 in
theorem sX8_isTold_b2 {l0 : Launch} {a : ZC}  {h : Hp} {Q : Int → Prop}  (O : zOk l0 a cX8_isTold RX8 4 (some .boolean) 197 [])   : ∀ (ff : Nat) (v1 : Int) (v2 : Int) (v3 : Int) , mX8_isTold_b2 h Q ff v1 v2 v3 → zV a (2, 0, 0, (qPZ h Q), xN) 0 0 2 [some (aR 185), some (aI v1), some (aI v2), some (aI v3)] [] h := by
  intro ff
  induction ff with
  | zero => intro v1 v2 v3 hM; exact hM.elim
  | succ ff ih =>
    have hK2 := ih
    intro v1 v2 v3 hM
    unfold mX8_isTold_b2 at hM
    refine zV_iload_n O dX8_isTold_2 rfl rfl ?_
    refine zV_aload_n O dX8_isTold_3 rfl rfl ?_
    refine zV_getR O zf_RX8_17 zt_185 rfl (by decide) dX8_isTold_4 ?_
    refine zV_iconst (z := 0) O ⟨by omega, by omega⟩ dX8_isTold_7 ?_
    obtain ⟨hc, hM⟩ := hM
    refine zV_iald O zt_187 (by decide) hc dX8_isTold_8 ?_
    refine zV_icmp_ge (tgt := 48) O dX8_isTold_9 (by decide) (fun hc => ?_) (fun hc => ?_)
    · replace hM := hM.1 hc
      refine zV_iconst (z := 0) O ⟨by omega, by omega⟩ dX8_isTold_48 ?_
      exact zV_zret O rfl (Or.inl rfl) ⟨rfl, _, rfl, (Or.inl rfl), hM⟩ (Nat.le_of_ble_eq_true rfl) (Nat.le_of_ble_eq_true rfl) dX8_isTold_49
    · replace hM := hM.2 hc
      refine zV_aload_n O dX8_isTold_12 rfl rfl ?_
      refine zV_getR O zf_RX8_17 zt_185 rfl (by decide) dX8_isTold_13 ?_
      refine zV_iload_n O dX8_isTold_16 rfl rfl ?_
      refine zV_iconst (z := 0) O ⟨by omega, by omega⟩ dX8_isTold_17 ?_
      refine zV_callS (as := [aI v3, aI 0]) (st := [aR 187]) O zc_X8_cell (Or.inl zl_RX8_129) zi_1505 (Nat.le_of_ble_eq_true rfl) rfl rfl (Nat.le_of_ble_eq_true rfl) (Nat.le_of_ble_eq_true rfl) (Nat.le_of_ble_eq_true rfl) (Nat.le_of_ble_eq_true rfl) (Nat.le_of_ble_eq_true rfl) (Nat.le_of_ble_eq_true rfl) dX8_isTold_18 (sX8_cell hM) (fun r h9 hq => ?_) (fun x h9 hq => hq.elim)
      obtain ⟨rfl, z7, rfl, hM⟩ := hq
      obtain ⟨hc, hM⟩ := hM
      refine zV_iald O zt_187 (by decide) hc dX8_isTold_21 ?_
      refine zV_iload_n O dX8_isTold_22 rfl rfl ?_
      refine zV_icmp_ne (tgt := 42) O dX8_isTold_23 (by decide) (fun hc => ?_) (fun hc => ?_)
      · replace hM := hM.1 hc
        exact sX8_isTold_b42 O hK2 hM
      · replace hM := hM.2 hc
        refine zV_aload_n O dX8_isTold_26 rfl rfl ?_
        refine zV_getR O zf_RX8_17 zt_185 rfl (by decide) dX8_isTold_27 ?_
        refine zV_iload_n O dX8_isTold_30 rfl rfl ?_
        refine zV_iconst (z := 1) O ⟨by omega, by omega⟩ dX8_isTold_31 ?_
        refine zV_callS (as := [aI v3, aI 1]) (st := [aR 187]) O zc_X8_cell (Or.inl zl_RX8_129) zi_1505 (Nat.le_of_ble_eq_true rfl) rfl rfl (Nat.le_of_ble_eq_true rfl) (Nat.le_of_ble_eq_true rfl) (Nat.le_of_ble_eq_true rfl) (Nat.le_of_ble_eq_true rfl) (Nat.le_of_ble_eq_true rfl) (Nat.le_of_ble_eq_true rfl) dX8_isTold_32 (sX8_cell hM) (fun r h9 hq => ?_) (fun x h9 hq => hq.elim)
        obtain ⟨rfl, z8, rfl, hM⟩ := hq
        obtain ⟨hc, hM⟩ := hM
        refine zV_iald O zt_187 (by decide) hc dX8_isTold_35 ?_
        refine zV_iload_n O dX8_isTold_36 rfl rfl ?_
        refine zV_icmp_ne (tgt := 42) O dX8_isTold_37 (by decide) (fun hc => ?_) (fun hc => ?_)
        · replace hM := hM.1 hc
          exact sX8_isTold_b42 O hK2 hM
        · replace hM := hM.2 hc
          refine zV_iconst (z := 1) O ⟨by omega, by omega⟩ dX8_isTold_40 ?_
          exact zV_zret O rfl (Or.inr rfl) ⟨rfl, _, rfl, (Or.inr rfl), hM⟩ (Nat.le_of_ble_eq_true rfl) (Nat.le_of_ble_eq_true rfl) dX8_isTold_41
def mX8_isTold (x1 : Int) (x2 : Int) (h : Hp) (Q : Int → Prop) : Prop := (∃ ff, mX8_isTold_b2 h Q ff x1 x2 0)
set_option maxHeartbeats 4000000 in
set_option maxRecDepth 100000 in
theorem sX8_isTold {l0 : Launch} {x1 : Int} {x2 : Int} {h : Hp} {Q : Int → Prop}  (hM : mX8_isTold x1 x2 h Q) : zSp l0 yX8_isTold cX8_isTold 4 (some .boolean) 197 (2) 0 0 [aR 185, aI x1, aI x2] h (qPZ h Q) xN := by
  unfold mX8_isTold at hM
  refine zSp_intro zpn_RX8 (Nat.le_of_ble_eq_true rfl) (fun a O => ?_)
  show zV a (2, 0, 0, (qPZ h Q), xN) 0 0 0 [some (aR 185), some (aI x1), some (aI x2), none] [] h
  refine zV_iconst (z := 0) O ⟨by omega, by omega⟩ dX8_isTold_0 ?_
  refine zV_istore_n O dX8_isTold_1 rfl (Nat.le_of_ble_eq_true rfl) rfl ?_
  obtain ⟨ff, hM⟩ := hM
  exact sX8_isTold_b2 O ff _ _ _ hM
def mX8_isWave (x0 : Int) (h : Hp) (Q : Int → Prop) : Prop := (mX8_in x0 1 9 h (fun z2 => (Q z2)))
set_option maxHeartbeats 4000000 in
set_option maxRecDepth 100000 in
theorem sX8_isWave {l0 : Launch} {x0 : Int} {h : Hp} {Q : Int → Prop}  (hM : mX8_isWave x0 h Q) : zSp l0 yX8_isWave cX8_isWave 1 (some .boolean) 197 (2) 0 0 [aI x0] h (qPZ h Q) xN := by
  unfold mX8_isWave at hM
  refine zSp_intro zpn_RX8 (Nat.le_of_ble_eq_true rfl) (fun a O => ?_)
  show zV a (2, 0, 0, (qPZ h Q), xN) 0 0 0 [some (aI x0)] [] h
  refine zV_iload_n O dX8_isWave_0 rfl rfl ?_
  refine zV_i2l O dX8_isWave_1 ?_
  refine zV_lconst (z := 1) O ⟨by omega, by omega⟩ rfl dX8_isWave_2 ?_
  refine zV_ldc2 (z := 9) O ⟨by omega, by omega⟩ zi_1533.1 zi_1533.2 dX8_isWave_3 ?_
  refine zV_callS (as := [aL x0, aL 1, aL 9]) (st := []) O zc_X8_in (Or.inl zl_RX8_125) zi_1416 (Nat.le_of_ble_eq_true rfl) rfl rfl (Nat.le_of_ble_eq_true rfl) (Nat.le_of_ble_eq_true rfl) (Nat.le_of_ble_eq_true rfl) (Nat.le_of_ble_eq_true rfl) (Nat.le_of_ble_eq_true rfl) (Nat.le_of_ble_eq_true rfl) dX8_isWave_6 (sX8_in hM) (fun r h9 hq => ?_) (fun x h9 hq => hq.elim)
  obtain ⟨rfl, z2, rfl, hzz2, hM⟩ := hq
  exact zV_zret O rfl hzz2 ⟨rfl, _, rfl, hzz2, hM⟩ (Nat.le_of_ble_eq_true rfl) (Nat.le_of_ble_eq_true rfl) dX8_isWave_9
def mX8_isWord (x1 : Int) (h : Hp) (Q : Int → Prop) : Prop := (mX8_isGood h (fun z2 => ((z2 = 0 → (Q 0)) ∧ (¬ z2 = 0 → ((¬ (h 185 13) = (1 : Int) → (Q 0)) ∧ ((h 185 13) = (1 : Int) → (zr ((h 185 11) - (h 185 12)) ∧ (((10 : Int) < ((h 185 11) - (h 185 12)) → (Q 0)) ∧ (¬ (10 : Int) < ((h 185 11) - (h 185 12)) → ((¬ (zlcmp (h 185 15) x1) = 0 → (Q 0)) ∧ ((zlcmp (h 185 15) x1) = 0 → (Q 1))))))))))))
set_option maxHeartbeats 4000000 in
set_option maxRecDepth 100000 in
theorem sX8_isWord {l0 : Launch} {x1 : Int} {h : Hp} {Q : Int → Prop}  (hM : mX8_isWord x1 h Q) : zSp l0 yX8_isWord cX8_isWord 3 (some .boolean) 197 (2) 0 0 [aR 185, aL x1] h (qPZ h Q) xN := by
  unfold mX8_isWord at hM
  refine zSp_intro zpn_RX8 (Nat.le_of_ble_eq_true rfl) (fun a O => ?_)
  show zV a (2, 0, 0, (qPZ h Q), xN) 0 0 0 [some (aR 185), some (aL x1), none] [] h
  refine zV_aload_n O dX8_isWord_0 rfl rfl ?_
  refine zV_callV (as := []) (st := []) O zc_X8_isGood (Or.inl zl_RX8_111) zi_1470 zi_103 zt_185 rfl rfl (by decide) (Nat.le_of_ble_eq_true rfl) rfl rfl (Nat.le_of_ble_eq_true rfl) (Nat.le_of_ble_eq_true rfl) (Nat.le_of_ble_eq_true rfl) (Nat.le_of_ble_eq_true rfl) (Nat.le_of_ble_eq_true rfl) (Nat.le_of_ble_eq_true rfl) dX8_isWord_1 (sX8_isGood hM) (fun r h9 hq => ?_) (fun x h9 hq => hq.elim)
  obtain ⟨rfl, z2, rfl, hzz2, hM⟩ := hq
  refine zV_if_eq (tgt := 42) O dX8_isWord_4 (by decide) (fun hc => ?_) (fun hc => ?_)
  · replace hM := hM.1 hc
    refine zV_iconst (z := 0) O ⟨by omega, by omega⟩ dX8_isWord_42 ?_
    exact zV_zret O rfl (Or.inl rfl) ⟨rfl, _, rfl, (Or.inl rfl), hM⟩ (Nat.le_of_ble_eq_true rfl) (Nat.le_of_ble_eq_true rfl) dX8_isWord_43
  · replace hM := hM.2 hc
    refine zV_aload_n O dX8_isWord_7 rfl rfl ?_
    refine zV_getI O zf_RX8_89 zt_185 rfl (by decide) dX8_isWord_8 ?_
    refine zV_iconst (z := 1) O ⟨by omega, by omega⟩ dX8_isWord_11 ?_
    refine zV_icmp_ne (tgt := 42) O dX8_isWord_12 (by decide) (fun hc => ?_) (fun hc => ?_)
    · replace hM := hM.1 hc
      refine zV_iconst (z := 0) O ⟨by omega, by omega⟩ dX8_isWord_42 ?_
      exact zV_zret O rfl (Or.inl rfl) ⟨rfl, _, rfl, (Or.inl rfl), hM⟩ (Nat.le_of_ble_eq_true rfl) (Nat.le_of_ble_eq_true rfl) dX8_isWord_43
    · replace hM := hM.2 hc
      refine zV_aload_n O dX8_isWord_15 rfl rfl ?_
      refine zV_getI O zf_RX8_71 zt_185 rfl (by decide) dX8_isWord_16 ?_
      refine zV_aload_n O dX8_isWord_19 rfl rfl ?_
      refine zV_getI O zf_RX8_82 zt_185 rfl (by decide) dX8_isWord_20 ?_
      obtain ⟨hc, hM⟩ := hM
      refine zV_isub O dX8_isWord_23 hc ?_
      refine zV_bipush (z := 10) O ⟨by omega, by omega⟩ rfl dX8_isWord_24 ?_
      refine zV_icmp_gt (tgt := 42) O dX8_isWord_26 (by decide) (fun hc => ?_) (fun hc => ?_)
      · replace hM := hM.1 hc
        refine zV_iconst (z := 0) O ⟨by omega, by omega⟩ dX8_isWord_42 ?_
        exact zV_zret O rfl (Or.inl rfl) ⟨rfl, _, rfl, (Or.inl rfl), hM⟩ (Nat.le_of_ble_eq_true rfl) (Nat.le_of_ble_eq_true rfl) dX8_isWord_43
      · replace hM := hM.2 hc
        refine zV_aload_n O dX8_isWord_29 rfl rfl ?_
        refine zV_getL O zf_RX8_67 zt_185 rfl (by decide) dX8_isWord_30 ?_
        refine zV_lload_n O dX8_isWord_33 rfl rfl ?_
        refine zV_lcmp O dX8_isWord_34 ?_
        refine zV_if_ne (tgt := 42) O dX8_isWord_35 (by decide) (fun hc => ?_) (fun hc => ?_)
        · replace hM := hM.1 hc
          refine zV_iconst (z := 0) O ⟨by omega, by omega⟩ dX8_isWord_42 ?_
          exact zV_zret O rfl (Or.inl rfl) ⟨rfl, _, rfl, (Or.inl rfl), hM⟩ (Nat.le_of_ble_eq_true rfl) (Nat.le_of_ble_eq_true rfl) dX8_isWord_43
        · replace hM := hM.2 hc
          refine zV_iconst (z := 1) O ⟨by omega, by omega⟩ dX8_isWord_38 ?_
          refine zV_goto (tgt := 43) O dX8_isWord_39 (by decide) ?_
          exact zV_zret O rfl (Or.inr rfl) ⟨rfl, _, rfl, (Or.inr rfl), hM⟩ (Nat.le_of_ble_eq_true rfl) (Nat.le_of_ble_eq_true rfl) dX8_isWord_43
def mX8_keeps_b58 (r1 n1 : Nat) (Q : Hp → Prop) (h : Hp) : Prop := (zr (1096 * (h 185 6)) ∧ (mX8_copies r1 n1 0 190 10960 (1096 * (h 185 6)) h (fun h9 => (zr ((h9 185 6) + 1) ∧ (∀ h10 : Hp, h10 = hu h9 185 6 ((h9 185 6) + 1) → (Q h10))))))
set_option maxHeartbeats 4000000 in
set_option maxRecDepth 100000 in
theorem sX8_keeps_b58 {l0 : Launch} {a : ZC} {r1 n1 : Nat} {Q : Hp → Prop}  (O : zOk l0 a cX8_keeps RX8 3 none 197 []) (hr1 : zT[r1]? = some (.inl (0, n1))) (hl1 : r1 < 197) (hz1 : zr n1)   {h : Hp}  (hM : mX8_keeps_b58 r1 n1 Q h) : zV a (2, 0, 0, (qV Q), xN) 0 0 58 [some (aR 185), some (aR r1), none] [] h := by
  unfold mX8_keeps_b58 at hM
  refine zV_aload_n O dX8_keeps_58 rfl rfl ?_
  refine zV_iconst (z := 0) O ⟨by omega, by omega⟩ dX8_keeps_59 ?_
  refine zV_aload_n O dX8_keeps_60 rfl rfl ?_
  refine zV_getR O zf_RX8_26 zt_185 rfl (by decide) dX8_keeps_61 ?_
  refine zV_sipush (z := 1096) O ⟨by omega, by omega⟩ rfl dX8_keeps_64 ?_
  refine zV_aload_n O dX8_keeps_67 rfl rfl ?_
  refine zV_getI O zf_RX8_211 zt_185 rfl (by decide) dX8_keeps_68 ?_
  obtain ⟨hc, hM⟩ := hM
  refine zV_imul O dX8_keeps_71 hc ?_
  refine zV_callS (as := [aR r1, aI 0, aR 190, aI (1096 * (h 185 6))]) (st := []) O zc_X8_copies (Or.inl zl_RX8_53) zi_1309 (Nat.le_of_ble_eq_true rfl) rfl rfl (Nat.le_of_ble_eq_true rfl) (Nat.le_of_ble_eq_true rfl) (Nat.le_of_ble_eq_true rfl) (Nat.le_of_ble_eq_true rfl) (Nat.le_of_ble_eq_true rfl) (Nat.le_of_ble_eq_true rfl) dX8_keeps_72 (sX8_copies hr1 hl1 hz1 zt_190 (by decide) ⟨by decide, by decide⟩ hM) (fun r h9 hq => ?_) (fun x h9 hq => hq.elim)
  obtain ⟨rfl, hM⟩ := hq
  refine zV_aload_n O dX8_keeps_75 rfl rfl ?_
  refine zV_dup O rfl dX8_keeps_76 ?_
  refine zV_getI O zf_RX8_211 zt_185 rfl (by decide) dX8_keeps_77 ?_
  refine zV_iconst (z := 1) O ⟨by omega, by omega⟩ dX8_keeps_80 ?_
  obtain ⟨hc, hM⟩ := hM
  refine zV_iadd O dX8_keeps_81 hc ?_
  refine zV_putI O zf_RX8_211 zt_185 rfl (by decide) dX8_keeps_82 ?_
  have hM := hM _ rfl
  generalize hu h9 185 6 ((h9 185 6) + 1) = h10 at hM ⊢
  exact zV_vret O rfl ⟨rfl, hM⟩ (Nat.le_of_ble_eq_true rfl) (Nat.le_of_ble_eq_true rfl) dX8_keeps_85
def mX8_keeps_b21 (r1 n1 : Nat) (Q : Hp → Prop) : Nat → Int → Hp → Prop
  | 0 => fun _ _ => False
  | fu21 + 1 => fun v2 h => (((h 185 6) ≤ v2 → (mX8_keeps_b58 r1 n1 Q h)) ∧ (¬ (h 185 6) ≤ v2 → (zr (v2 + 1) ∧ (zr (1096 * (v2 + 1)) ∧ (zr (1096 * v2) ∧ (mX8_copies 190 10960 (1096 * (v2 + 1)) 190 10960 (1096 * v2) h (fun h11 => (zr (v2 + 1) ∧ ((mX8_keeps_b21 r1 n1 Q fu21) (v2 + 1) h11)))))))))
set_option maxHeartbeats 4000000 in
set_option maxRecDepth 100000 in
theorem sX8_keeps_b21 {l0 : Launch} {a : ZC} {r1 n1 : Nat} {Q : Hp → Prop}  (O : zOk l0 a cX8_keeps RX8 3 none 197 []) (hr1 : zT[r1]? = some (.inl (0, n1))) (hl1 : r1 < 197) (hz1 : zr n1)  : ∀ (ff : Nat) (v2 : Int) (h : Hp), mX8_keeps_b21 r1 n1 Q ff v2 h → zV a (2, 0, 0, (qV Q), xN) 0 0 21 [some (aR 185), some (aR r1), some (aI v2)] [] h := by
  intro ff
  induction ff with
  | zero => intro v2 h hM; exact hM.elim
  | succ ff ih =>
    have hK21 := ih
    intro v2 h hM
    unfold mX8_keeps_b21 at hM
    refine zV_iload_n O dX8_keeps_21 rfl rfl ?_
    refine zV_aload_n O dX8_keeps_22 rfl rfl ?_
    refine zV_getI O zf_RX8_211 zt_185 rfl (by decide) dX8_keeps_23 ?_
    refine zV_icmp_ge (tgt := 58) O dX8_keeps_26 (by decide) (fun hc => ?_) (fun hc => ?_)
    · replace hM := hM.1 hc
      refine zV_sub (ls2 := [some (aR 185), some (aR r1), none]) ⟨rfl, rfl, trivial⟩ ?_
      exact sX8_keeps_b58 O hr1 hl1 hz1 hM
    · replace hM := hM.2 hc
      refine zV_aload_n O dX8_keeps_29 rfl rfl ?_
      refine zV_getR O zf_RX8_26 zt_185 rfl (by decide) dX8_keeps_30 ?_
      refine zV_sipush (z := 1096) O ⟨by omega, by omega⟩ rfl dX8_keeps_33 ?_
      refine zV_iload_n O dX8_keeps_36 rfl rfl ?_
      refine zV_iconst (z := 1) O ⟨by omega, by omega⟩ dX8_keeps_37 ?_
      obtain ⟨hc, hM⟩ := hM
      refine zV_iadd O dX8_keeps_38 hc ?_
      obtain ⟨hc, hM⟩ := hM
      refine zV_imul O dX8_keeps_39 hc ?_
      refine zV_aload_n O dX8_keeps_40 rfl rfl ?_
      refine zV_getR O zf_RX8_26 zt_185 rfl (by decide) dX8_keeps_41 ?_
      refine zV_sipush (z := 1096) O ⟨by omega, by omega⟩ rfl dX8_keeps_44 ?_
      refine zV_iload_n O dX8_keeps_47 rfl rfl ?_
      obtain ⟨hc, hM⟩ := hM
      refine zV_imul O dX8_keeps_48 hc ?_
      refine zV_callS (as := [aR 190, aI (1096 * (v2 + 1)), aR 190, aI (1096 * v2)]) (st := []) O zc_X8_copies (Or.inl zl_RX8_53) zi_1309 (Nat.le_of_ble_eq_true rfl) rfl rfl (Nat.le_of_ble_eq_true rfl) (Nat.le_of_ble_eq_true rfl) (Nat.le_of_ble_eq_true rfl) (Nat.le_of_ble_eq_true rfl) (Nat.le_of_ble_eq_true rfl) (Nat.le_of_ble_eq_true rfl) dX8_keeps_49 (sX8_copies zt_190 (by decide) ⟨by decide, by decide⟩ zt_190 (by decide) ⟨by decide, by decide⟩ hM) (fun r h11 hq => ?_) (fun x h9 hq => hq.elim)
      obtain ⟨rfl, hM⟩ := hq
      obtain ⟨hc, hM⟩ := hM
      refine zV_iinc O dX8_keeps_52 rfl (Nat.le_of_ble_eq_true rfl) rfl hc ?_
      refine zV_goto (tgt := 21) O dX8_keeps_55 (by decide) ?_
      exact hK21 _ _ hM
def mX8_keeps (r1 n1 : Nat) (h : Hp) (Q : Hp → Prop) : Prop := ((¬ (h 185 6) = (10 : Int) → (mX8_keeps_b58 r1 n1 Q h)) ∧ ((h 185 6) = (10 : Int) → (zr ((h 185 6) - 1) ∧ (∀ h12 : Hp, h12 = hu h 185 6 ((h 185 6) - 1) → (∃ ff, mX8_keeps_b21 r1 n1 Q ff 0 h12)))))
set_option maxHeartbeats 4000000 in
set_option maxRecDepth 100000 in
theorem sX8_keeps {l0 : Launch} {r1 n1 : Nat} {h : Hp} {Q : Hp → Prop} (hr1 : zT[r1]? = some (.inl (0, n1))) (hl1 : r1 < 197) (hz1 : zr n1) (hM : mX8_keeps r1 n1 h Q) : zSp l0 yX8_keeps cX8_keeps 3 none 197 (2) 0 0 [aR 185, aR r1] h (qV Q) xN := by
  unfold mX8_keeps at hM
  refine zSp_intro zpn_RX8 (Nat.le_of_ble_eq_true rfl) (fun a O => ?_)
  show zV a (2, 0, 0, (qV Q), xN) 0 0 0 [some (aR 185), some (aR r1), none] [] h
  refine zV_aload_n O dX8_keeps_0 rfl rfl ?_
  refine zV_getI O zf_RX8_211 zt_185 rfl (by decide) dX8_keeps_1 ?_
  refine zV_bipush (z := 10) O ⟨by omega, by omega⟩ rfl dX8_keeps_4 ?_
  refine zV_icmp_ne (tgt := 58) O dX8_keeps_6 (by decide) (fun hc => ?_) (fun hc => ?_)
  · replace hM := hM.1 hc
    exact sX8_keeps_b58 O hr1 hl1 hz1 hM
  · replace hM := hM.2 hc
    refine zV_aload_n O dX8_keeps_9 rfl rfl ?_
    refine zV_dup O rfl dX8_keeps_10 ?_
    refine zV_getI O zf_RX8_211 zt_185 rfl (by decide) dX8_keeps_11 ?_
    refine zV_iconst (z := 1) O ⟨by omega, by omega⟩ dX8_keeps_14 ?_
    obtain ⟨hc, hM⟩ := hM
    refine zV_isub O dX8_keeps_15 hc ?_
    refine zV_putI O zf_RX8_211 zt_185 rfl (by decide) dX8_keeps_16 ?_
    have hM := hM _ rfl
    generalize hu h 185 6 ((h 185 6) - 1) = h12 at hM ⊢
    refine zV_iconst (z := 0) O ⟨by omega, by omega⟩ dX8_keeps_19 ?_
    refine zV_istore_n O dX8_keeps_20 rfl (Nat.le_of_ble_eq_true rfl) rfl ?_
    obtain ⟨ff, hM⟩ := hM
    exact sX8_keeps_b21 O hr1 hl1 hz1 ff _ _ hM
def mX8_laysAside  (h : Hp) (Q : Hp → Prop) : Prop := (mX8_copies 186 1096 0 189 1096 0 h (fun h2 => (Q h2)))
set_option maxHeartbeats 4000000 in
set_option maxRecDepth 100000 in
theorem sX8_laysAside {l0 : Launch}  {h : Hp} {Q : Hp → Prop}  (hM : mX8_laysAside  h Q) : zSp l0 yX8_laysAside cX8_laysAside 1 none 197 (2) 0 0 [aR 185] h (qV Q) xN := by
  unfold mX8_laysAside at hM
  refine zSp_intro zpn_RX8 (Nat.le_of_ble_eq_true rfl) (fun a O => ?_)
  show zV a (2, 0, 0, (qV Q), xN) 0 0 0 [some (aR 185)] [] h
  refine zV_aload_n O dX8_laysAside_0 rfl rfl ?_
  refine zV_getR O zf_RX8_13 zt_185 rfl (by decide) dX8_laysAside_1 ?_
  refine zV_iconst (z := 0) O ⟨by omega, by omega⟩ dX8_laysAside_4 ?_
  refine zV_aload_n O dX8_laysAside_5 rfl rfl ?_
  refine zV_getR O zf_RX8_23 zt_185 rfl (by decide) dX8_laysAside_6 ?_
  refine zV_iconst (z := 0) O ⟨by omega, by omega⟩ dX8_laysAside_9 ?_
  refine zV_callS (as := [aR 186, aI 0, aR 189, aI 0]) (st := []) O zc_X8_copies (Or.inl zl_RX8_53) zi_1309 (Nat.le_of_ble_eq_true rfl) rfl rfl (Nat.le_of_ble_eq_true rfl) (Nat.le_of_ble_eq_true rfl) (Nat.le_of_ble_eq_true rfl) (Nat.le_of_ble_eq_true rfl) (Nat.le_of_ble_eq_true rfl) (Nat.le_of_ble_eq_true rfl) dX8_laysAside_10 (sX8_copies zt_186 (by decide) ⟨by decide, by decide⟩ zt_189 (by decide) ⟨by decide, by decide⟩ hM) (fun r h2 hq => ?_) (fun x h9 hq => hq.elim)
  obtain ⟨rfl, hM⟩ := hq
  exact zV_vret O rfl ⟨rfl, hM⟩ (Nat.le_of_ble_eq_true rfl) (Nat.le_of_ble_eq_true rfl) dX8_laysAside_13
def mX8_laysBack  (h : Hp) (Q : Hp → Prop) : Prop := (mX8_copies 189 1096 0 186 1096 0 h (fun h2 => (Q h2)))
set_option maxHeartbeats 4000000 in
set_option maxRecDepth 100000 in
theorem sX8_laysBack {l0 : Launch}  {h : Hp} {Q : Hp → Prop}  (hM : mX8_laysBack  h Q) : zSp l0 yX8_laysBack cX8_laysBack 1 none 197 (2) 0 0 [aR 185] h (qV Q) xN := by
  unfold mX8_laysBack at hM
  refine zSp_intro zpn_RX8 (Nat.le_of_ble_eq_true rfl) (fun a O => ?_)
  show zV a (2, 0, 0, (qV Q), xN) 0 0 0 [some (aR 185)] [] h
  refine zV_aload_n O dX8_laysBack_0 rfl rfl ?_
  refine zV_getR O zf_RX8_23 zt_185 rfl (by decide) dX8_laysBack_1 ?_
  refine zV_iconst (z := 0) O ⟨by omega, by omega⟩ dX8_laysBack_4 ?_
  refine zV_aload_n O dX8_laysBack_5 rfl rfl ?_
  refine zV_getR O zf_RX8_13 zt_185 rfl (by decide) dX8_laysBack_6 ?_
  refine zV_iconst (z := 0) O ⟨by omega, by omega⟩ dX8_laysBack_9 ?_
  refine zV_callS (as := [aR 189, aI 0, aR 186, aI 0]) (st := []) O zc_X8_copies (Or.inl zl_RX8_53) zi_1309 (Nat.le_of_ble_eq_true rfl) rfl rfl (Nat.le_of_ble_eq_true rfl) (Nat.le_of_ble_eq_true rfl) (Nat.le_of_ble_eq_true rfl) (Nat.le_of_ble_eq_true rfl) (Nat.le_of_ble_eq_true rfl) (Nat.le_of_ble_eq_true rfl) dX8_laysBack_10 (sX8_copies zt_189 (by decide) ⟨by decide, by decide⟩ zt_186 (by decide) ⟨by decide, by decide⟩ hM) (fun r h2 hq => ?_) (fun x h9 hq => hq.elim)
  obtain ⟨rfl, hM⟩ := hq
  exact zV_vret O rfl ⟨rfl, hM⟩ (Nat.le_of_ble_eq_true rfl) (Nat.le_of_ble_eq_true rfl) dX8_laysBack_13
def mX8_of (x1 : Int) (x2 : Int) (h : Hp) (Q : Int → Prop) : Prop := (mX8_cell x1 x2 h (fun z2 => (((0 : Int) ≤ z2 ∧ z2 < 1096) ∧ (Q (rd h 186 z2)))))
set_option maxHeartbeats 4000000 in
set_option maxRecDepth 100000 in
theorem sX8_of {l0 : Launch} {x1 : Int} {x2 : Int} {h : Hp} {Q : Int → Prop}  (hM : mX8_of x1 x2 h Q) : zSp l0 yX8_of cX8_of 3 (some .int) 197 (2) 0 0 [aR 185, aI x1, aI x2] h (qPI h Q) xN := by
  unfold mX8_of at hM
  refine zSp_intro zpn_RX8 (Nat.le_of_ble_eq_true rfl) (fun a O => ?_)
  show zV a (2, 0, 0, (qPI h Q), xN) 0 0 0 [some (aR 185), some (aI x1), some (aI x2)] [] h
  refine zV_aload_n O dX8_of_0 rfl rfl ?_
  refine zV_getR O zf_RX8_13 zt_185 rfl (by decide) dX8_of_1 ?_
  refine zV_iload_n O dX8_of_4 rfl rfl ?_
  refine zV_iload_n O dX8_of_5 rfl rfl ?_
  refine zV_callS (as := [aI x1, aI x2]) (st := [aR 186]) O zc_X8_cell (Or.inl zl_RX8_129) zi_1505 (Nat.le_of_ble_eq_true rfl) rfl rfl (Nat.le_of_ble_eq_true rfl) (Nat.le_of_ble_eq_true rfl) (Nat.le_of_ble_eq_true rfl) (Nat.le_of_ble_eq_true rfl) (Nat.le_of_ble_eq_true rfl) (Nat.le_of_ble_eq_true rfl) dX8_of_6 (sX8_cell hM) (fun r h9 hq => ?_) (fun x h9 hq => hq.elim)
  obtain ⟨rfl, z2, rfl, hM⟩ := hq
  obtain ⟨hc, hM⟩ := hM
  refine zV_iald O zt_186 (by decide) hc dX8_of_9 ?_
  exact zV_iret O rfl ⟨rfl, _, rfl, hM⟩ (Nat.le_of_ble_eq_true rfl) (Nat.le_of_ble_eq_true rfl) dX8_of_10
def mX8_plansIn_b31 (r1 n1 : Nat) (h : Hp) (Q : Int → Prop) (K5 : Int → Int → Int → Prop) (v2 : Int) (v4 : Int) (s0 : Int) (s1 : Int) : Prop := (zr (s1 + s0) ∧ (zr (v4 + 1) ∧ (K5 v2 (s1 + s0) (v4 + 1))))
set_option maxHeartbeats 4000000 in
set_option maxRecDepth 100000 in
theorem sX8_plansIn_b31 {l0 : Launch} {a : ZC} {r1 n1 : Nat} {h : Hp} {Q : Int → Prop} {K5 : Int → Int → Int → Prop} (O : zOk l0 a cX8_plansIn RX8 5 (some .int) 197 []) (hr1 : zT[r1]? = some (.inl (0, n1))) (hl1 : r1 < 197) (hz1 : zr n1) (hK5 : ∀ (v2 : Int) (v3 : Int) (v4 : Int), K5 v2 v3 v4 → zV a (2, 0, 0, (qPI h Q), xN) 0 0 5 [none, some (aR r1), some (aI v2), some (aI v3), some (aI v4)] [] h) {v2 : Int} {v4 : Int} {s0 : Int} {s1 : Int}  (hz_s0 : s0 = 0 ∨ s0 = 1) (hM : mX8_plansIn_b31 r1 n1 h Q K5 v2 v4 s0 s1) : zV a (2, 0, 0, (qPI h Q), xN) 0 0 31 [none, some (aR r1), some (aI v2), none, some (aI v4)] [aI s0, aI s1] h := by
  unfold mX8_plansIn_b31 at hM
  obtain ⟨hc, hM⟩ := hM
  refine zV_iadd O dX8_plansIn_31 hc ?_
  refine zV_istore_n O dX8_plansIn_32 rfl (Nat.le_of_ble_eq_true rfl) rfl ?_
  obtain ⟨hc, hM⟩ := hM
  refine zV_iinc O dX8_plansIn_33 rfl (Nat.le_of_ble_eq_true rfl) rfl hc ?_
  refine zV_goto (tgt := 5) O dX8_plansIn_36 (by decide) ?_
  exact hK5 _ _ _ hM
def mX8_plansIn_b5 (r1 n1 : Nat) (h : Hp) (Q : Int → Prop) : Nat → Int → Int → Int → Prop
  | 0 => fun _ _ _ => False
  | fu5 + 1 => fun v2 v3 v4 => (((0 : Int) ≤ 0 ∧ (0 : Int) < n1) ∧ (((rd h r1 0) ≤ v4 → (Q v3)) ∧ (¬ (rd h r1 0) ≤ v4 → (mX8_cell v4 4 h (fun z4 => (((0 : Int) ≤ z4 ∧ z4 < n1) ∧ ((¬ (rd h r1 z4) = v2 → (mX8_plansIn_b31 r1 n1 h Q (mX8_plansIn_b5 r1 n1 h Q fu5) v2 v4 0 v3)) ∧ ((rd h r1 z4) = v2 → (mX8_plansIn_b31 r1 n1 h Q (mX8_plansIn_b5 r1 n1 h Q fu5) v2 v4 1 v3)))))))))
set_option maxHeartbeats 4000000 in
set_option maxRecDepth 100000 in
theorem sX8_plansIn_b5 {l0 : Launch} {a : ZC} {r1 n1 : Nat} {h : Hp} {Q : Int → Prop}  (O : zOk l0 a cX8_plansIn RX8 5 (some .int) 197 []) (hr1 : zT[r1]? = some (.inl (0, n1))) (hl1 : r1 < 197) (hz1 : zr n1)  : ∀ (ff : Nat) (v2 : Int) (v3 : Int) (v4 : Int) , mX8_plansIn_b5 r1 n1 h Q ff v2 v3 v4 → zV a (2, 0, 0, (qPI h Q), xN) 0 0 5 [none, some (aR r1), some (aI v2), some (aI v3), some (aI v4)] [] h := by
  intro ff
  induction ff with
  | zero => intro v2 v3 v4 hM; exact hM.elim
  | succ ff ih =>
    have hK5 := ih
    intro v2 v3 v4 hM
    unfold mX8_plansIn_b5 at hM
    refine zV_iload O dX8_plansIn_5 rfl ?_
    refine zV_aload_n O dX8_plansIn_7 rfl rfl ?_
    refine zV_iconst (z := 0) O ⟨by omega, by omega⟩ dX8_plansIn_8 ?_
    obtain ⟨hc, hM⟩ := hM
    refine zV_iald O hr1 hl1 hc dX8_plansIn_9 ?_
    refine zV_icmp_ge (tgt := 39) O dX8_plansIn_10 (by decide) (fun hc => ?_) (fun hc => ?_)
    · replace hM := hM.1 hc
      refine zV_iload_n O dX8_plansIn_39 rfl rfl ?_
      exact zV_iret O rfl ⟨rfl, _, rfl, hM⟩ (Nat.le_of_ble_eq_true rfl) (Nat.le_of_ble_eq_true rfl) dX8_plansIn_40
    · replace hM := hM.2 hc
      refine zV_iload_n O dX8_plansIn_13 rfl rfl ?_
      refine zV_aload_n O dX8_plansIn_14 rfl rfl ?_
      refine zV_iload O dX8_plansIn_15 rfl ?_
      refine zV_iconst (z := 4) O ⟨by omega, by omega⟩ dX8_plansIn_17 ?_
      refine zV_callS (as := [aI v4, aI 4]) (st := [aR r1, aI v3]) O zc_X8_cell (Or.inl zl_RX8_129) zi_1505 (Nat.le_of_ble_eq_true rfl) rfl rfl (Nat.le_of_ble_eq_true rfl) (Nat.le_of_ble_eq_true rfl) (Nat.le_of_ble_eq_true rfl) (Nat.le_of_ble_eq_true rfl) (Nat.le_of_ble_eq_true rfl) (Nat.le_of_ble_eq_true rfl) dX8_plansIn_18 (sX8_cell hM) (fun r h9 hq => ?_) (fun x h9 hq => hq.elim)
      obtain ⟨rfl, z4, rfl, hM⟩ := hq
      obtain ⟨hc, hM⟩ := hM
      refine zV_iald O hr1 hl1 hc dX8_plansIn_21 ?_
      refine zV_iload_n O dX8_plansIn_22 rfl rfl ?_
      refine zV_icmp_ne (tgt := 30) O dX8_plansIn_23 (by decide) (fun hc => ?_) (fun hc => ?_)
      · replace hM := hM.1 hc
        refine zV_iconst (z := 0) O ⟨by omega, by omega⟩ dX8_plansIn_30 ?_
        refine zV_sub (ls2 := [none, some (aR r1), some (aI v2), none, some (aI v4)]) ⟨rfl, rfl, rfl, trivial⟩ ?_
        exact sX8_plansIn_b31 O hr1 hl1 hz1 hK5 (Or.inl rfl) hM
      · replace hM := hM.2 hc
        refine zV_iconst (z := 1) O ⟨by omega, by omega⟩ dX8_plansIn_26 ?_
        refine zV_goto (tgt := 31) O dX8_plansIn_27 (by decide) ?_
        refine zV_sub (ls2 := [none, some (aR r1), some (aI v2), none, some (aI v4)]) ⟨rfl, rfl, rfl, trivial⟩ ?_
        exact sX8_plansIn_b31 O hr1 hl1 hz1 hK5 (Or.inr rfl) hM
def mX8_plansIn (r1 n1 : Nat) (x2 : Int) (h : Hp) (Q : Int → Prop) : Prop := (∃ ff, mX8_plansIn_b5 r1 n1 h Q ff x2 0 0)
set_option maxHeartbeats 4000000 in
set_option maxRecDepth 100000 in
theorem sX8_plansIn {l0 : Launch} {r1 n1 : Nat} {x2 : Int} {h : Hp} {Q : Int → Prop} (hr1 : zT[r1]? = some (.inl (0, n1))) (hl1 : r1 < 197) (hz1 : zr n1) (hM : mX8_plansIn r1 n1 x2 h Q) : zSp l0 yX8_plansIn cX8_plansIn 5 (some .int) 197 (2) 0 0 [aR 185, aR r1, aI x2] h (qPI h Q) xN := by
  unfold mX8_plansIn at hM
  refine zSp_intro zpn_RX8 (Nat.le_of_ble_eq_true rfl) (fun a O => ?_)
  show zV a (2, 0, 0, (qPI h Q), xN) 0 0 0 [some (aR 185), some (aR r1), some (aI x2), none, none] [] h
  refine zV_iconst (z := 0) O ⟨by omega, by omega⟩ dX8_plansIn_0 ?_
  refine zV_istore_n O dX8_plansIn_1 rfl (Nat.le_of_ble_eq_true rfl) rfl ?_
  refine zV_iconst (z := 0) O ⟨by omega, by omega⟩ dX8_plansIn_2 ?_
  refine zV_istore O dX8_plansIn_3 (Nat.le_of_ble_eq_true rfl) rfl ?_
  refine zV_sub (ls2 := [none, some (aR r1), some (aI x2), some (aI 0), some (aI 0)]) ⟨rfl, rfl, rfl, rfl, trivial⟩ ?_
  obtain ⟨ff, hM⟩ := hM
  exact sX8_plansIn_b5 O hr1 hl1 hz1 ff _ _ _ hM
def mX8_readsNumber_b56 (Q : Hp → Prop) (K5 : Hp → Prop) (s0 : Int) (h : Hp) : Prop := (∀ h12 : Hp, h12 = hu h 185 14 s0 → (zr ((h12 185 11) + 1) ∧ (∀ h13 : Hp, h13 = hu h12 185 11 ((h12 185 11) + 1) → (K5 h13))))
set_option maxHeartbeats 4000000 in
set_option maxRecDepth 100000 in
theorem sX8_readsNumber_b56 {l0 : Launch} {a : ZC}  {Q : Hp → Prop} {K5 : Hp → Prop} (O : zOk l0 a cX8_readsNumber RX8 1 none 197 [])  (hK5 : ∀ (h : Hp), K5  h → zV a (2, 0, 0, (qV Q), xN) 0 0 5 [some (aR 185)] [] h) {s0 : Int} {h : Hp}  (hM : mX8_readsNumber_b56 Q K5 s0 h) : zV a (2, 0, 0, (qV Q), xN) 0 0 56 [some (aR 185)] [aI s0, aR 185] h := by
  unfold mX8_readsNumber_b56 at hM
  refine zV_putI O zf_RX8_92 zt_185 rfl (by decide) dX8_readsNumber_56 ?_
  have hM := hM _ rfl
  generalize hu h 185 14 s0 = h12 at hM ⊢
  refine zV_aload_n O dX8_readsNumber_59 rfl rfl ?_
  refine zV_dup O rfl dX8_readsNumber_60 ?_
  refine zV_getI O zf_RX8_71 zt_185 rfl (by decide) dX8_readsNumber_61 ?_
  refine zV_iconst (z := 1) O ⟨by omega, by omega⟩ dX8_readsNumber_64 ?_
  obtain ⟨hc, hM⟩ := hM
  refine zV_iadd O dX8_readsNumber_65 hc ?_
  refine zV_putI O zf_RX8_71 zt_185 rfl (by decide) dX8_readsNumber_66 ?_
  have hM := hM _ rfl
  generalize hu h12 185 11 ((h12 185 11) + 1) = h13 at hM ⊢
  refine zV_goto (tgt := 5) O dX8_readsNumber_69 (by decide) ?_
  exact hK5 _ hM
def mX8_readsNumber_b5 (Q : Hp → Prop) : Nat → Hp → Prop
  | 0 => fun _ => False
  | fu5 + 1 => fun h => (mX8_byteAt (h 185 11) h (fun z14 => (mX8_isFigure z14 h (fun z15 => ((z15 = 0 → (∀ h16 : Hp, h16 = hu h 185 13 2 → (Q h16))) ∧ (¬ z15 = 0 → (((h 185 14) ≤ (9999999 : Int) → (zr (10 * (h 185 14)) ∧ (((0 : Int) ≤ (h 185 11) ∧ (h 185 11) < 900) ∧ (zr ((10 * (h 185 14)) + (rd h 191 (h 185 11))) ∧ (zr (((10 * (h 185 14)) + (rd h 191 (h 185 11))) - 48) ∧ (mX8_readsNumber_b56 Q (mX8_readsNumber_b5 Q fu5) (((10 * (h 185 14)) + (rd h 191 (h 185 11))) - 48) h)))))) ∧ (¬ (h 185 14) ≤ (9999999 : Int) → (mX8_readsNumber_b56 Q (mX8_readsNumber_b5 Q fu5) (h 185 14) h)))))))))
set_option maxHeartbeats 4000000 in
set_option maxRecDepth 100000 in
theorem sX8_readsNumber_b5 {l0 : Launch} {a : ZC}  {Q : Hp → Prop}  (O : zOk l0 a cX8_readsNumber RX8 1 none 197 [])   : ∀ (ff : Nat)  (h : Hp), mX8_readsNumber_b5 Q ff  h → zV a (2, 0, 0, (qV Q), xN) 0 0 5 [some (aR 185)] [] h := by
  intro ff
  induction ff with
  | zero => intro  h hM; exact hM.elim
  | succ ff ih =>
    have hK5 := ih
    intro  h hM
    unfold mX8_readsNumber_b5 at hM
    refine zV_aload_n O dX8_readsNumber_5 rfl rfl ?_
    refine zV_aload_n O dX8_readsNumber_6 rfl rfl ?_
    refine zV_getI O zf_RX8_71 zt_185 rfl (by decide) dX8_readsNumber_7 ?_
    refine zV_callV (as := [aI (h 185 11)]) (st := []) O zc_X8_byteAt (Or.inl zl_RX8_74) zi_1432 zi_96 zt_185 rfl rfl (by decide) (Nat.le_of_ble_eq_true rfl) rfl rfl (Nat.le_of_ble_eq_true rfl) (Nat.le_of_ble_eq_true rfl) (Nat.le_of_ble_eq_true rfl) (Nat.le_of_ble_eq_true rfl) (Nat.le_of_ble_eq_true rfl) (Nat.le_of_ble_eq_true rfl) dX8_readsNumber_10 (sX8_byteAt hM) (fun r h9 hq => ?_) (fun x h9 hq => hq.elim)
    obtain ⟨rfl, z14, rfl, hM⟩ := hq
    refine zV_callS (as := [aI z14]) (st := []) O zc_X8_isFigure (Or.inl zl_RX8_95) zi_1444 (Nat.le_of_ble_eq_true rfl) rfl rfl (Nat.le_of_ble_eq_true rfl) (Nat.le_of_ble_eq_true rfl) (Nat.le_of_ble_eq_true rfl) (Nat.le_of_ble_eq_true rfl) (Nat.le_of_ble_eq_true rfl) (Nat.le_of_ble_eq_true rfl) dX8_readsNumber_13 (sX8_isFigure hM) (fun r h9 hq => ?_) (fun x h9 hq => hq.elim)
    obtain ⟨rfl, z15, rfl, hzz15, hM⟩ := hq
    refine zV_if_eq (tgt := 72) O dX8_readsNumber_16 (by decide) (fun hc => ?_) (fun hc => ?_)
    · replace hM := hM.1 hc
      refine zV_aload_n O dX8_readsNumber_72 rfl rfl ?_
      refine zV_iconst (z := 2) O ⟨by omega, by omega⟩ dX8_readsNumber_73 ?_
      refine zV_putI O zf_RX8_89 zt_185 rfl (by decide) dX8_readsNumber_74 ?_
      have hM := hM _ rfl
      generalize hu h 185 13 2 = h16 at hM ⊢
      exact zV_vret O rfl ⟨rfl, hM⟩ (Nat.le_of_ble_eq_true rfl) (Nat.le_of_ble_eq_true rfl) dX8_readsNumber_77
    · replace hM := hM.2 hc
      refine zV_aload_n O dX8_readsNumber_19 rfl rfl ?_
      refine zV_aload_n O dX8_readsNumber_20 rfl rfl ?_
      refine zV_getI O zf_RX8_92 zt_185 rfl (by decide) dX8_readsNumber_21 ?_
      refine zV_ldc (z := 9999999) O ⟨by omega, by omega⟩ zi_1450.1 zi_1450.2 dX8_readsNumber_24 ?_
      refine zV_icmp_le (tgt := 36) O dX8_readsNumber_26 (by decide) (fun hc => ?_) (fun hc => ?_)
      · replace hM := hM.1 hc
        refine zV_bipush (z := 10) O ⟨by omega, by omega⟩ rfl dX8_readsNumber_36 ?_
        refine zV_aload_n O dX8_readsNumber_38 rfl rfl ?_
        refine zV_getI O zf_RX8_92 zt_185 rfl (by decide) dX8_readsNumber_39 ?_
        obtain ⟨hc, hM⟩ := hM
        refine zV_imul O dX8_readsNumber_42 hc ?_
        refine zV_aload_n O dX8_readsNumber_43 rfl rfl ?_
        refine zV_getR O zf_RX8_29 zt_185 rfl (by decide) dX8_readsNumber_44 ?_
        refine zV_aload_n O dX8_readsNumber_47 rfl rfl ?_
        refine zV_getI O zf_RX8_71 zt_185 rfl (by decide) dX8_readsNumber_48 ?_
        obtain ⟨hc, hM⟩ := hM
        refine zV_iald O zt_191 (by decide) hc dX8_readsNumber_51 ?_
        obtain ⟨hc, hM⟩ := hM
        refine zV_iadd O dX8_readsNumber_52 hc ?_
        refine zV_bipush (z := 48) O ⟨by omega, by omega⟩ rfl dX8_readsNumber_53 ?_
        obtain ⟨hc, hM⟩ := hM
        refine zV_isub O dX8_readsNumber_55 hc ?_
        exact sX8_readsNumber_b56 O hK5 hM
      · replace hM := hM.2 hc
        refine zV_aload_n O dX8_readsNumber_29 rfl rfl ?_
        refine zV_getI O zf_RX8_92 zt_185 rfl (by decide) dX8_readsNumber_30 ?_
        refine zV_goto (tgt := 56) O dX8_readsNumber_33 (by decide) ?_
        exact sX8_readsNumber_b56 O hK5 hM
def mX8_readsNumber  (h : Hp) (Q : Hp → Prop) : Prop := (∀ h17 : Hp, h17 = hu h 185 14 0 → (∃ ff, mX8_readsNumber_b5 Q ff h17))
set_option maxHeartbeats 4000000 in
set_option maxRecDepth 100000 in
theorem sX8_readsNumber {l0 : Launch}  {h : Hp} {Q : Hp → Prop}  (hM : mX8_readsNumber  h Q) : zSp l0 yX8_readsNumber cX8_readsNumber 1 none 197 (2) 0 0 [aR 185] h (qV Q) xN := by
  unfold mX8_readsNumber at hM
  refine zSp_intro zpn_RX8 (Nat.le_of_ble_eq_true rfl) (fun a O => ?_)
  show zV a (2, 0, 0, (qV Q), xN) 0 0 0 [some (aR 185)] [] h
  refine zV_aload_n O dX8_readsNumber_0 rfl rfl ?_
  refine zV_iconst (z := 0) O ⟨by omega, by omega⟩ dX8_readsNumber_1 ?_
  refine zV_putI O zf_RX8_92 zt_185 rfl (by decide) dX8_readsNumber_2 ?_
  have hM := hM _ rfl
  generalize hu h 185 14 0 = h17 at hM ⊢
  obtain ⟨ff, hM⟩ := hM
  exact sX8_readsNumber_b5 O ff _ hM
def mX8_readsWord_b60 (Q : Hp → Prop) (K5 : Hp → Prop) (h : Hp) : Prop := (zr ((h 185 11) + 1) ∧ (∀ h12 : Hp, h12 = hu h 185 11 ((h 185 11) + 1) → (K5 h12)))
set_option maxHeartbeats 4000000 in
set_option maxRecDepth 100000 in
theorem sX8_readsWord_b60 {l0 : Launch} {a : ZC}  {Q : Hp → Prop} {K5 : Hp → Prop} (O : zOk l0 a cX8_readsWord RX8 1 none 197 [])  (hK5 : ∀ (h : Hp), K5  h → zV a (2, 0, 0, (qV Q), xN) 0 0 5 [some (aR 185)] [] h)  {h : Hp}  (hM : mX8_readsWord_b60 Q K5 h) : zV a (2, 0, 0, (qV Q), xN) 0 0 60 [some (aR 185)] [] h := by
  unfold mX8_readsWord_b60 at hM
  refine zV_aload_n O dX8_readsWord_60 rfl rfl ?_
  refine zV_dup O rfl dX8_readsWord_61 ?_
  refine zV_getI O zf_RX8_71 zt_185 rfl (by decide) dX8_readsWord_62 ?_
  refine zV_iconst (z := 1) O ⟨by omega, by omega⟩ dX8_readsWord_65 ?_
  obtain ⟨hc, hM⟩ := hM
  refine zV_iadd O dX8_readsWord_66 hc ?_
  refine zV_putI O zf_RX8_71 zt_185 rfl (by decide) dX8_readsWord_67 ?_
  have hM := hM _ rfl
  generalize hu h 185 11 ((h 185 11) + 1) = h12 at hM ⊢
  refine zV_goto (tgt := 5) O dX8_readsWord_70 (by decide) ?_
  exact hK5 _ hM
def mX8_readsWord_b5 (Q : Hp → Prop) : Nat → Hp → Prop
  | 0 => fun _ => False
  | fu5 + 1 => fun h => (mX8_byteAt (h 185 11) h (fun z13 => (mX8_isLetter z13 h (fun z14 => ((z14 = 0 → (∀ h15 : Hp, h15 = hu h 185 13 1 → (Q h15))) ∧ (¬ z14 = 0 → (zr ((h 185 11) - (h 185 12)) ∧ (((10 : Int) ≤ ((h 185 11) - (h 185 12)) → (mX8_readsWord_b60 Q (mX8_readsWord_b5 Q fu5) h)) ∧ (¬ (10 : Int) ≤ ((h 185 11) - (h 185 12)) → (zr6 (27 * (h 185 15)) ∧ (((0 : Int) ≤ (h 185 11) ∧ (h 185 11) < 900) ∧ (zr6 ((27 * (h 185 15)) + (rd h 191 (h 185 11))) ∧ (zr6 (((27 * (h 185 15)) + (rd h 191 (h 185 11))) - 96) ∧ (∀ h16 : Hp, h16 = hu h 185 15 (((27 * (h 185 15)) + (rd h 191 (h 185 11))) - 96) → (mX8_readsWord_b60 Q (mX8_readsWord_b5 Q fu5) h16)))))))))))))))
set_option maxHeartbeats 4000000 in
set_option maxRecDepth 100000 in
theorem sX8_readsWord_b5 {l0 : Launch} {a : ZC}  {Q : Hp → Prop}  (O : zOk l0 a cX8_readsWord RX8 1 none 197 [])   : ∀ (ff : Nat)  (h : Hp), mX8_readsWord_b5 Q ff  h → zV a (2, 0, 0, (qV Q), xN) 0 0 5 [some (aR 185)] [] h := by
  intro ff
  induction ff with
  | zero => intro  h hM; exact hM.elim
  | succ ff ih =>
    have hK5 := ih
    intro  h hM
    unfold mX8_readsWord_b5 at hM
    refine zV_aload_n O dX8_readsWord_5 rfl rfl ?_
    refine zV_aload_n O dX8_readsWord_6 rfl rfl ?_
    refine zV_getI O zf_RX8_71 zt_185 rfl (by decide) dX8_readsWord_7 ?_
    refine zV_callV (as := [aI (h 185 11)]) (st := []) O zc_X8_byteAt (Or.inl zl_RX8_74) zi_1432 zi_96 zt_185 rfl rfl (by decide) (Nat.le_of_ble_eq_true rfl) rfl rfl (Nat.le_of_ble_eq_true rfl) (Nat.le_of_ble_eq_true rfl) (Nat.le_of_ble_eq_true rfl) (Nat.le_of_ble_eq_true rfl) (Nat.le_of_ble_eq_true rfl) (Nat.le_of_ble_eq_true rfl) dX8_readsWord_10 (sX8_byteAt hM) (fun r h9 hq => ?_) (fun x h9 hq => hq.elim)
    obtain ⟨rfl, z13, rfl, hM⟩ := hq
    refine zV_callS (as := [aI z13]) (st := []) O zc_X8_isLetter (Or.inl zl_RX8_78) zi_1435 (Nat.le_of_ble_eq_true rfl) rfl rfl (Nat.le_of_ble_eq_true rfl) (Nat.le_of_ble_eq_true rfl) (Nat.le_of_ble_eq_true rfl) (Nat.le_of_ble_eq_true rfl) (Nat.le_of_ble_eq_true rfl) (Nat.le_of_ble_eq_true rfl) dX8_readsWord_13 (sX8_isLetter hM) (fun r h9 hq => ?_) (fun x h9 hq => hq.elim)
    obtain ⟨rfl, z14, rfl, hzz14, hM⟩ := hq
    refine zV_if_eq (tgt := 73) O dX8_readsWord_16 (by decide) (fun hc => ?_) (fun hc => ?_)
    · replace hM := hM.1 hc
      refine zV_aload_n O dX8_readsWord_73 rfl rfl ?_
      refine zV_iconst (z := 1) O ⟨by omega, by omega⟩ dX8_readsWord_74 ?_
      refine zV_putI O zf_RX8_89 zt_185 rfl (by decide) dX8_readsWord_75 ?_
      have hM := hM _ rfl
      generalize hu h 185 13 1 = h15 at hM ⊢
      exact zV_vret O rfl ⟨rfl, hM⟩ (Nat.le_of_ble_eq_true rfl) (Nat.le_of_ble_eq_true rfl) dX8_readsWord_78
    · replace hM := hM.2 hc
      refine zV_aload_n O dX8_readsWord_19 rfl rfl ?_
      refine zV_getI O zf_RX8_71 zt_185 rfl (by decide) dX8_readsWord_20 ?_
      refine zV_aload_n O dX8_readsWord_23 rfl rfl ?_
      refine zV_getI O zf_RX8_82 zt_185 rfl (by decide) dX8_readsWord_24 ?_
      obtain ⟨hc, hM⟩ := hM
      refine zV_isub O dX8_readsWord_27 hc ?_
      refine zV_bipush (z := 10) O ⟨by omega, by omega⟩ rfl dX8_readsWord_28 ?_
      refine zV_icmp_ge (tgt := 60) O dX8_readsWord_30 (by decide) (fun hc => ?_) (fun hc => ?_)
      · replace hM := hM.1 hc
        exact sX8_readsWord_b60 O hK5 hM
      · replace hM := hM.2 hc
        refine zV_aload_n O dX8_readsWord_33 rfl rfl ?_
        refine zV_ldc2 (z := 27) O ⟨by omega, by omega⟩ zi_1441.1 zi_1441.2 dX8_readsWord_34 ?_
        refine zV_aload_n O dX8_readsWord_37 rfl rfl ?_
        refine zV_getL O zf_RX8_67 zt_185 rfl (by decide) dX8_readsWord_38 ?_
        obtain ⟨hc, hM⟩ := hM
        refine zV_lmul O dX8_readsWord_41 hc ?_
        refine zV_aload_n O dX8_readsWord_42 rfl rfl ?_
        refine zV_getR O zf_RX8_29 zt_185 rfl (by decide) dX8_readsWord_43 ?_
        refine zV_aload_n O dX8_readsWord_46 rfl rfl ?_
        refine zV_getI O zf_RX8_71 zt_185 rfl (by decide) dX8_readsWord_47 ?_
        obtain ⟨hc, hM⟩ := hM
        refine zV_iald O zt_191 (by decide) hc dX8_readsWord_50 ?_
        refine zV_i2l O dX8_readsWord_51 ?_
        obtain ⟨hc, hM⟩ := hM
        refine zV_ladd O dX8_readsWord_52 hc ?_
        refine zV_ldc2 (z := 96) O ⟨by omega, by omega⟩ zi_1442.1 zi_1442.2 dX8_readsWord_53 ?_
        obtain ⟨hc, hM⟩ := hM
        refine zV_lsub O dX8_readsWord_56 hc ?_
        refine zV_putL O zf_RX8_67 zt_185 rfl (by decide) dX8_readsWord_57 ?_
        have hM := hM _ rfl
        generalize hu h 185 15 (((27 * (h 185 15)) + (rd h 191 (h 185 11))) - 96) = h16 at hM ⊢
        exact sX8_readsWord_b60 O hK5 hM
def mX8_readsWord  (h : Hp) (Q : Hp → Prop) : Prop := (∀ h17 : Hp, h17 = hu h 185 15 0 → (∃ ff, mX8_readsWord_b5 Q ff h17))
set_option maxHeartbeats 4000000 in
set_option maxRecDepth 100000 in
theorem sX8_readsWord {l0 : Launch}  {h : Hp} {Q : Hp → Prop}  (hM : mX8_readsWord  h Q) : zSp l0 yX8_readsWord cX8_readsWord 1 none 197 (2) 0 0 [aR 185] h (qV Q) xN := by
  unfold mX8_readsWord at hM
  refine zSp_intro zpn_RX8 (Nat.le_of_ble_eq_true rfl) (fun a O => ?_)
  show zV a (2, 0, 0, (qV Q), xN) 0 0 0 [some (aR 185)] [] h
  refine zV_aload_n O dX8_readsWord_0 rfl rfl ?_
  refine zV_lconst (z := 0) O ⟨by omega, by omega⟩ rfl dX8_readsWord_1 ?_
  refine zV_putL O zf_RX8_67 zt_185 rfl (by decide) dX8_readsWord_2 ?_
  have hM := hM _ rfl
  generalize hu h 185 15 0 = h17 at hM ⊢
  obtain ⟨ff, hM⟩ := hM
  exact sX8_readsWord_b5 O ff _ hM
def mX8_restoreSnapshot  (h : Hp) (Q : Int → Hp → Prop) : Prop := (∀ h5 : Hp, h5 = hu h 185 0 0 → ((¬ (h5 185 7) = 0 → (mX8_copies 188 1096 0 186 1096 0 h5 (fun h7 => (∀ h8 : Hp, h8 = hu h7 185 6 0 → (Q 1 h8))))) ∧ ((h5 185 7) = 0 → (Q 0 h5))))
set_option maxHeartbeats 4000000 in
set_option maxRecDepth 100000 in
theorem sX8_restoreSnapshot {l0 : Launch}  {h : Hp} {Q : Int → Hp → Prop}  (hM : mX8_restoreSnapshot  h Q) : zSp l0 yX8_restoreSnapshot cX8_restoreSnapshot 1 (some .boolean) 197 (2) 0 0 [aR 185] h (qZ Q) xN := by
  unfold mX8_restoreSnapshot at hM
  refine zSp_intro zpn_RX8 (Nat.le_of_ble_eq_true rfl) (fun a O => ?_)
  show zV a (2, 0, 0, (qZ Q), xN) 0 0 0 [some (aR 185)] [] h
  refine zV_aload_n O dX8_restoreSnapshot_0 rfl rfl ?_
  refine zV_iconst (z := 0) O ⟨by omega, by omega⟩ dX8_restoreSnapshot_1 ?_
  refine zV_putI O zf_RX8_1 zt_185 rfl (by decide) dX8_restoreSnapshot_2 ?_
  have hM := hM _ rfl
  generalize hu h 185 0 0 = h5 at hM ⊢
  refine zV_aload_n O dX8_restoreSnapshot_5 rfl rfl ?_
  refine zV_getZ O zf_RX8_214 zt_185 rfl (by decide) dX8_restoreSnapshot_6 (fun hz6 => ?_)
  refine zV_if_ne (tgt := 14) O dX8_restoreSnapshot_9 (by decide) (fun hc => ?_) (fun hc => ?_)
  · replace hM := hM.1 hc
    refine zV_aload_n O dX8_restoreSnapshot_14 rfl rfl ?_
    refine zV_getR O zf_RX8_20 zt_185 rfl (by decide) dX8_restoreSnapshot_15 ?_
    refine zV_iconst (z := 0) O ⟨by omega, by omega⟩ dX8_restoreSnapshot_18 ?_
    refine zV_aload_n O dX8_restoreSnapshot_19 rfl rfl ?_
    refine zV_getR O zf_RX8_13 zt_185 rfl (by decide) dX8_restoreSnapshot_20 ?_
    refine zV_iconst (z := 0) O ⟨by omega, by omega⟩ dX8_restoreSnapshot_23 ?_
    refine zV_callS (as := [aR 188, aI 0, aR 186, aI 0]) (st := []) O zc_X8_copies (Or.inl zl_RX8_53) zi_1309 (Nat.le_of_ble_eq_true rfl) rfl rfl (Nat.le_of_ble_eq_true rfl) (Nat.le_of_ble_eq_true rfl) (Nat.le_of_ble_eq_true rfl) (Nat.le_of_ble_eq_true rfl) (Nat.le_of_ble_eq_true rfl) (Nat.le_of_ble_eq_true rfl) dX8_restoreSnapshot_24 (sX8_copies zt_188 (by decide) ⟨by decide, by decide⟩ zt_186 (by decide) ⟨by decide, by decide⟩ hM) (fun r h7 hq => ?_) (fun x h9 hq => hq.elim)
    obtain ⟨rfl, hM⟩ := hq
    refine zV_aload_n O dX8_restoreSnapshot_27 rfl rfl ?_
    refine zV_iconst (z := 0) O ⟨by omega, by omega⟩ dX8_restoreSnapshot_28 ?_
    refine zV_putI O zf_RX8_211 zt_185 rfl (by decide) dX8_restoreSnapshot_29 ?_
    have hM := hM _ rfl
    generalize hu h7 185 6 0 = h8 at hM ⊢
    refine zV_iconst (z := 1) O ⟨by omega, by omega⟩ dX8_restoreSnapshot_32 ?_
    exact zV_zret O rfl (Or.inr rfl) ⟨_, rfl, (Or.inr rfl), hM⟩ (Nat.le_of_ble_eq_true rfl) (Nat.le_of_ble_eq_true rfl) dX8_restoreSnapshot_33
  · replace hM := hM.2 hc
    refine zV_iconst (z := 0) O ⟨by omega, by omega⟩ dX8_restoreSnapshot_12 ?_
    exact zV_zret O rfl (Or.inl rfl) ⟨_, rfl, (Or.inl rfl), hM⟩ (Nat.le_of_ble_eq_true rfl) (Nat.le_of_ble_eq_true rfl) dX8_restoreSnapshot_13
def mX8_rewrites0_b82 (Q : Int → Hp → Prop) (K4 : Int → Int → Hp → Prop) (K16 : Int → Int → Int → Hp → Prop) (v2 : Int) (v3 : Int) (s0 : Int) (s1 : Int) (h : Hp) : Prop := (zr (s1 + s0) ∧ (zr (v3 + 1) ∧ (K16 (s1 + s0) v2 (v3 + 1) h)))
set_option maxHeartbeats 4000000 in
set_option maxRecDepth 100000 in
theorem sX8_rewrites0_b82 {l0 : Launch} {a : ZC}  {Q : Int → Hp → Prop} {K4 : Int → Int → Hp → Prop} {K16 : Int → Int → Int → Hp → Prop} (O : zOk l0 a cX8_rewrites0 RX8 6 (some .int) 197 [])  (hK4 : ∀ (v1 : Int) (v2 : Int) (h : Hp), K4 v1 v2 h → zV a (2, 0, 0, (qI Q), xN) 0 0 4 [some (aR 185), some (aI v1), some (aI v2), none, none, none] [] h) (hK16 : ∀ (v1 : Int) (v2 : Int) (v3 : Int) (h : Hp), K16 v1 v2 v3 h → zV a (2, 0, 0, (qI Q), xN) 0 0 16 [some (aR 185), some (aI v1), some (aI v2), some (aI v3), none, none] [] h) {v2 : Int} {v3 : Int} {s0 : Int} {s1 : Int} {h : Hp} (hz_s0 : s0 = 0 ∨ s0 = 1) (hM : mX8_rewrites0_b82 Q K4 K16 v2 v3 s0 s1 h) : zV a (2, 0, 0, (qI Q), xN) 0 0 82 [some (aR 185), none, some (aI v2), some (aI v3), none, none] [aI s0, aI s1] h := by
  unfold mX8_rewrites0_b82 at hM
  obtain ⟨hc, hM⟩ := hM
  refine zV_iadd O dX8_rewrites0_82 hc ?_
  refine zV_istore_n O dX8_rewrites0_83 rfl (Nat.le_of_ble_eq_true rfl) rfl ?_
  obtain ⟨hc, hM⟩ := hM
  refine zV_iinc O dX8_rewrites0_84 rfl (Nat.le_of_ble_eq_true rfl) rfl hc ?_
  refine zV_goto (tgt := 16) O dX8_rewrites0_87 (by decide) ?_
  exact hK16 _ _ _ _ hM
def mX8_rewrites0_b16 (Q : Int → Hp → Prop) (K4 : Int → Int → Hp → Prop) : Nat → Int → Int → Int → Hp → Prop
  | 0 => fun _ _ _ _ => False
  | fu16 + 1 => fun v1 v2 v3 h => (((4 : Int) ≤ v3 → (zr (v2 + 1) ∧ (K4 v1 (v2 + 1) h))) ∧ (¬ (4 : Int) ≤ v3 → (mX8_ruleCell v2 v3 h (fun z17 => (((0 : Int) ≤ z17 ∧ z17 < 1096) ∧ (mX8_ruleCell v2 0 h (fun z18 => (((0 : Int) ≤ z18 ∧ z18 < 1096) ∧ (zr (251 * (rd h 186 z18)) ∧ (zr ((251 * (rd h 186 z18)) + (rd h 186 z17)) ∧ (((0 : Int) ≤ ((251 * (rd h 186 z18)) + (rd h 186 z17)) ∧ ((251 * (rd h 186 z18)) + (rd h 186 z17)) < 502) ∧ (mX8_ruleCell v2 v3 h (fun z19 => (((0 : Int) ≤ z19 ∧ z19 < 1096) ∧ (∀ h20 : Hp, h20 = wr h 186 z19 (rd h 192 ((251 * (rd h 186 z18)) + (rd h 186 z17))) → ((¬ (rd h 186 z17) = (rd h 192 ((251 * (rd h 186 z18)) + (rd h 186 z17))) → (mX8_rewrites0_b82 Q K4 (mX8_rewrites0_b16 Q K4 fu16) v2 v3 1 v1 h20)) ∧ ((rd h 186 z17) = (rd h 192 ((251 * (rd h 186 z18)) + (rd h 186 z17))) → (mX8_rewrites0_b82 Q K4 (mX8_rewrites0_b16 Q K4 fu16) v2 v3 0 v1 h20))))))))))))))))))
set_option maxHeartbeats 4000000 in
set_option maxRecDepth 100000 in
theorem sX8_rewrites0_b16 {l0 : Launch} {a : ZC}  {Q : Int → Hp → Prop} {K4 : Int → Int → Hp → Prop} (O : zOk l0 a cX8_rewrites0 RX8 6 (some .int) 197 [])  (hK4 : ∀ (v1 : Int) (v2 : Int) (h : Hp), K4 v1 v2 h → zV a (2, 0, 0, (qI Q), xN) 0 0 4 [some (aR 185), some (aI v1), some (aI v2), none, none, none] [] h) : ∀ (ff : Nat) (v1 : Int) (v2 : Int) (v3 : Int) (h : Hp), mX8_rewrites0_b16 Q K4 ff v1 v2 v3 h → zV a (2, 0, 0, (qI Q), xN) 0 0 16 [some (aR 185), some (aI v1), some (aI v2), some (aI v3), none, none] [] h := by
  intro ff
  induction ff with
  | zero => intro v1 v2 v3 h hM; exact hM.elim
  | succ ff ih =>
    have hK16 := ih
    intro v1 v2 v3 h hM
    unfold mX8_rewrites0_b16 at hM
    refine zV_iload_n O dX8_rewrites0_16 rfl rfl ?_
    refine zV_iconst (z := 4) O ⟨by omega, by omega⟩ dX8_rewrites0_17 ?_
    refine zV_icmp_ge (tgt := 90) O dX8_rewrites0_18 (by decide) (fun hc => ?_) (fun hc => ?_)
    · replace hM := hM.1 hc
      obtain ⟨hc, hM⟩ := hM
      refine zV_iinc O dX8_rewrites0_90 rfl (Nat.le_of_ble_eq_true rfl) rfl hc ?_
      refine zV_goto (tgt := 4) O dX8_rewrites0_93 (by decide) ?_
      refine zV_sub (ls2 := [some (aR 185), some (aI v1), some (aI (v2 + 1)), none, none, none]) ⟨rfl, rfl, rfl, trivial⟩ ?_
      exact hK4 _ _ _ hM
    · replace hM := hM.2 hc
      refine zV_aload_n O dX8_rewrites0_21 rfl rfl ?_
      refine zV_getR O zf_RX8_13 zt_185 rfl (by decide) dX8_rewrites0_22 ?_
      refine zV_iload_n O dX8_rewrites0_25 rfl rfl ?_
      refine zV_iload_n O dX8_rewrites0_26 rfl rfl ?_
      refine zV_callS (as := [aI v2, aI v3]) (st := [aR 186]) O zc_X8_ruleCell (Or.inl zl_RX8_167) zi_1519 (Nat.le_of_ble_eq_true rfl) rfl rfl (Nat.le_of_ble_eq_true rfl) (Nat.le_of_ble_eq_true rfl) (Nat.le_of_ble_eq_true rfl) (Nat.le_of_ble_eq_true rfl) (Nat.le_of_ble_eq_true rfl) (Nat.le_of_ble_eq_true rfl) dX8_rewrites0_27 (sX8_ruleCell hM) (fun r h9 hq => ?_) (fun x h9 hq => hq.elim)
      obtain ⟨rfl, z17, rfl, hM⟩ := hq
      obtain ⟨hc, hM⟩ := hM
      refine zV_iald O zt_186 (by decide) hc dX8_rewrites0_30 ?_
      refine zV_istore O dX8_rewrites0_31 (Nat.le_of_ble_eq_true rfl) rfl ?_
      refine zV_aload_n O dX8_rewrites0_33 rfl rfl ?_
      refine zV_getR O zf_RX8_35 zt_185 rfl (by decide) dX8_rewrites0_34 ?_
      refine zV_sipush (z := 251) O ⟨by omega, by omega⟩ rfl dX8_rewrites0_37 ?_
      refine zV_aload_n O dX8_rewrites0_40 rfl rfl ?_
      refine zV_getR O zf_RX8_13 zt_185 rfl (by decide) dX8_rewrites0_41 ?_
      refine zV_iload_n O dX8_rewrites0_44 rfl rfl ?_
      refine zV_iconst (z := 0) O ⟨by omega, by omega⟩ dX8_rewrites0_45 ?_
      refine zV_callS (as := [aI v2, aI 0]) (st := [aR 186, aI 251, aR 192]) O zc_X8_ruleCell (Or.inl zl_RX8_167) zi_1519 (Nat.le_of_ble_eq_true rfl) rfl rfl (Nat.le_of_ble_eq_true rfl) (Nat.le_of_ble_eq_true rfl) (Nat.le_of_ble_eq_true rfl) (Nat.le_of_ble_eq_true rfl) (Nat.le_of_ble_eq_true rfl) (Nat.le_of_ble_eq_true rfl) dX8_rewrites0_46 (sX8_ruleCell hM) (fun r h9 hq => ?_) (fun x h9 hq => hq.elim)
      obtain ⟨rfl, z18, rfl, hM⟩ := hq
      obtain ⟨hc, hM⟩ := hM
      refine zV_iald O zt_186 (by decide) hc dX8_rewrites0_49 ?_
      obtain ⟨hc, hM⟩ := hM
      refine zV_imul O dX8_rewrites0_50 hc ?_
      refine zV_iload O dX8_rewrites0_51 rfl ?_
      obtain ⟨hc, hM⟩ := hM
      refine zV_iadd O dX8_rewrites0_53 hc ?_
      obtain ⟨hc, hM⟩ := hM
      refine zV_iald O zt_192 (by decide) hc dX8_rewrites0_54 ?_
      refine zV_istore O dX8_rewrites0_55 (Nat.le_of_ble_eq_true rfl) rfl ?_
      refine zV_aload_n O dX8_rewrites0_57 rfl rfl ?_
      refine zV_getR O zf_RX8_13 zt_185 rfl (by decide) dX8_rewrites0_58 ?_
      refine zV_iload_n O dX8_rewrites0_61 rfl rfl ?_
      refine zV_iload_n O dX8_rewrites0_62 rfl rfl ?_
      refine zV_callS (as := [aI v2, aI v3]) (st := [aR 186]) O zc_X8_ruleCell (Or.inl zl_RX8_167) zi_1519 (Nat.le_of_ble_eq_true rfl) rfl rfl (Nat.le_of_ble_eq_true rfl) (Nat.le_of_ble_eq_true rfl) (Nat.le_of_ble_eq_true rfl) (Nat.le_of_ble_eq_true rfl) (Nat.le_of_ble_eq_true rfl) (Nat.le_of_ble_eq_true rfl) dX8_rewrites0_63 (sX8_ruleCell hM) (fun r h9 hq => ?_) (fun x h9 hq => hq.elim)
      obtain ⟨rfl, z19, rfl, hM⟩ := hq
      refine zV_iload O dX8_rewrites0_66 rfl ?_
      obtain ⟨hc, hM⟩ := hM
      refine zV_iast O zt_186 (by decide) hc dX8_rewrites0_68 ?_
      have hM := hM (hu h 186 (Int.toNat z19) (rd h 192 ((251 * (rd h 186 z18)) + (rd h 186 z17)))) rfl
      generalize hu h 186 (Int.toNat z19) (rd h 192 ((251 * (rd h 186 z18)) + (rd h 186 z17))) = h20 at hM ⊢
      refine zV_iload_n O dX8_rewrites0_69 rfl rfl ?_
      refine zV_iload O dX8_rewrites0_70 rfl ?_
      refine zV_iload O dX8_rewrites0_72 rfl ?_
      refine zV_icmp_ne (tgt := 81) O dX8_rewrites0_74 (by decide) (fun hc => ?_) (fun hc => ?_)
      · replace hM := hM.1 hc
        refine zV_iconst (z := 1) O ⟨by omega, by omega⟩ dX8_rewrites0_81 ?_
        refine zV_sub (ls2 := [some (aR 185), none, some (aI v2), some (aI v3), none, none]) ⟨rfl, rfl, rfl, trivial⟩ ?_
        exact sX8_rewrites0_b82 O hK4 hK16 (Or.inr rfl) hM
      · replace hM := hM.2 hc
        refine zV_iconst (z := 0) O ⟨by omega, by omega⟩ dX8_rewrites0_77 ?_
        refine zV_goto (tgt := 82) O dX8_rewrites0_78 (by decide) ?_
        refine zV_sub (ls2 := [some (aR 185), none, some (aI v2), some (aI v3), none, none]) ⟨rfl, rfl, rfl, trivial⟩ ?_
        exact sX8_rewrites0_b82 O hK4 hK16 (Or.inl rfl) hM
def mX8_rewrites0_b4 (Q : Int → Hp → Prop) : Nat → Int → Int → Hp → Prop
  | 0 => fun _ _ _ => False
  | fu4 + 1 => fun v1 v2 h => (((0 : Int) ≤ 1 ∧ (1 : Int) < 1096) ∧ (((rd h 186 1) ≤ v2 → (Q v1 h)) ∧ (¬ (rd h 186 1) ≤ v2 → (∃ ff, mX8_rewrites0_b16 Q (mX8_rewrites0_b4 Q fu4) ff v1 v2 2 h))))
set_option maxHeartbeats 4000000 in
set_option maxRecDepth 100000 in
theorem sX8_rewrites0_b4 {l0 : Launch} {a : ZC}  {Q : Int → Hp → Prop}  (O : zOk l0 a cX8_rewrites0 RX8 6 (some .int) 197 [])   : ∀ (ff : Nat) (v1 : Int) (v2 : Int) (h : Hp), mX8_rewrites0_b4 Q ff v1 v2 h → zV a (2, 0, 0, (qI Q), xN) 0 0 4 [some (aR 185), some (aI v1), some (aI v2), none, none, none] [] h := by
  intro ff
  induction ff with
  | zero => intro v1 v2 h hM; exact hM.elim
  | succ ff ih =>
    have hK4 := ih
    intro v1 v2 h hM
    unfold mX8_rewrites0_b4 at hM
    refine zV_iload_n O dX8_rewrites0_4 rfl rfl ?_
    refine zV_aload_n O dX8_rewrites0_5 rfl rfl ?_
    refine zV_getR O zf_RX8_13 zt_185 rfl (by decide) dX8_rewrites0_6 ?_
    refine zV_iconst (z := 1) O ⟨by omega, by omega⟩ dX8_rewrites0_9 ?_
    obtain ⟨hc, hM⟩ := hM
    refine zV_iald O zt_186 (by decide) hc dX8_rewrites0_10 ?_
    refine zV_icmp_ge (tgt := 96) O dX8_rewrites0_11 (by decide) (fun hc => ?_) (fun hc => ?_)
    · replace hM := hM.1 hc
      refine zV_iload_n O dX8_rewrites0_96 rfl rfl ?_
      exact zV_iret O rfl ⟨_, rfl, hM⟩ (Nat.le_of_ble_eq_true rfl) (Nat.le_of_ble_eq_true rfl) dX8_rewrites0_97
    · replace hM := hM.2 hc
      refine zV_iconst (z := 2) O ⟨by omega, by omega⟩ dX8_rewrites0_14 ?_
      refine zV_istore_n O dX8_rewrites0_15 rfl (Nat.le_of_ble_eq_true rfl) rfl ?_
      obtain ⟨ff, hM⟩ := hM
      exact sX8_rewrites0_b16 O hK4 ff _ _ _ _ hM
def mX8_rewrites0  (h : Hp) (Q : Int → Hp → Prop) : Prop := (∃ ff, mX8_rewrites0_b4 Q ff 0 0 h)
set_option maxHeartbeats 4000000 in
set_option maxRecDepth 100000 in
theorem sX8_rewrites0 {l0 : Launch}  {h : Hp} {Q : Int → Hp → Prop}  (hM : mX8_rewrites0  h Q) : zSp l0 yX8_rewrites0 cX8_rewrites0 6 (some .int) 197 (2) 0 0 [aR 185] h (qI Q) xN := by
  unfold mX8_rewrites0 at hM
  refine zSp_intro zpn_RX8 (Nat.le_of_ble_eq_true rfl) (fun a O => ?_)
  show zV a (2, 0, 0, (qI Q), xN) 0 0 0 [some (aR 185), none, none, none, none, none] [] h
  refine zV_iconst (z := 0) O ⟨by omega, by omega⟩ dX8_rewrites0_0 ?_
  refine zV_istore_n O dX8_rewrites0_1 rfl (Nat.le_of_ble_eq_true rfl) rfl ?_
  refine zV_iconst (z := 0) O ⟨by omega, by omega⟩ dX8_rewrites0_2 ?_
  refine zV_istore_n O dX8_rewrites0_3 rfl (Nat.le_of_ble_eq_true rfl) rfl ?_
  obtain ⟨ff, hM⟩ := hM
  exact sX8_rewrites0_b4 O ff _ _ _ hM
def mX8_saveSnapshot  (h : Hp) (Q : Hp → Prop) : Prop := (∀ h4 : Hp, h4 = hu h 185 0 0 → (mX8_copies 186 1096 0 188 1096 0 h4 (fun h5 => (∀ h6 : Hp, h6 = hu h5 185 7 1 → (Q h6)))))
set_option maxHeartbeats 4000000 in
set_option maxRecDepth 100000 in
theorem sX8_saveSnapshot {l0 : Launch}  {h : Hp} {Q : Hp → Prop}  (hM : mX8_saveSnapshot  h Q) : zSp l0 yX8_saveSnapshot cX8_saveSnapshot 1 none 197 (2) 0 0 [aR 185] h (qV Q) xN := by
  unfold mX8_saveSnapshot at hM
  refine zSp_intro zpn_RX8 (Nat.le_of_ble_eq_true rfl) (fun a O => ?_)
  show zV a (2, 0, 0, (qV Q), xN) 0 0 0 [some (aR 185)] [] h
  refine zV_aload_n O dX8_saveSnapshot_0 rfl rfl ?_
  refine zV_iconst (z := 0) O ⟨by omega, by omega⟩ dX8_saveSnapshot_1 ?_
  refine zV_putI O zf_RX8_1 zt_185 rfl (by decide) dX8_saveSnapshot_2 ?_
  have hM := hM _ rfl
  generalize hu h 185 0 0 = h4 at hM ⊢
  refine zV_aload_n O dX8_saveSnapshot_5 rfl rfl ?_
  refine zV_getR O zf_RX8_13 zt_185 rfl (by decide) dX8_saveSnapshot_6 ?_
  refine zV_iconst (z := 0) O ⟨by omega, by omega⟩ dX8_saveSnapshot_9 ?_
  refine zV_aload_n O dX8_saveSnapshot_10 rfl rfl ?_
  refine zV_getR O zf_RX8_20 zt_185 rfl (by decide) dX8_saveSnapshot_11 ?_
  refine zV_iconst (z := 0) O ⟨by omega, by omega⟩ dX8_saveSnapshot_14 ?_
  refine zV_callS (as := [aR 186, aI 0, aR 188, aI 0]) (st := []) O zc_X8_copies (Or.inl zl_RX8_53) zi_1309 (Nat.le_of_ble_eq_true rfl) rfl rfl (Nat.le_of_ble_eq_true rfl) (Nat.le_of_ble_eq_true rfl) (Nat.le_of_ble_eq_true rfl) (Nat.le_of_ble_eq_true rfl) (Nat.le_of_ble_eq_true rfl) (Nat.le_of_ble_eq_true rfl) dX8_saveSnapshot_15 (sX8_copies zt_186 (by decide) ⟨by decide, by decide⟩ zt_188 (by decide) ⟨by decide, by decide⟩ hM) (fun r h5 hq => ?_) (fun x h9 hq => hq.elim)
  obtain ⟨rfl, hM⟩ := hq
  refine zV_aload_n O dX8_saveSnapshot_18 rfl rfl ?_
  refine zV_iconst (z := 1) O ⟨by omega, by omega⟩ dX8_saveSnapshot_19 ?_
  refine zV_putZ O zf_RX8_214 zt_185 rfl (by decide) (Or.inr rfl) dX8_saveSnapshot_20 ?_
  have hM := hM _ rfl
  generalize hu h5 185 7 1 = h6 at hM ⊢
  exact zV_vret O rfl ⟨rfl, hM⟩ (Nat.le_of_ble_eq_true rfl) (Nat.le_of_ble_eq_true rfl) dX8_saveSnapshot_23
def mX8_settles_b0 (Q : Hp → Prop) : Nat → Int → Hp → Prop
  | 0 => fun _ _ => False
  | fu0 + 1 => fun v1 h => (mX8_isGood h (fun z11 => ((z11 = 0 → (Q h)) ∧ (¬ z11 = 0 → (((h 185 27) ≤ 0 → (Q h)) ∧ (¬ (h 185 27) ≤ 0 → (zr ((h 185 27) - 1) ∧ (((0 : Int) ≤ ((h 185 27) - 1) ∧ ((h 185 27) - 1) < 200) ∧ (mX8_strength (rd h 195 ((h 185 27) - 1)) h (fun z12 => ((z12 < v1 → (Q h)) ∧ (¬ z12 < v1 → (zr ((h 185 27) - 1) ∧ (∀ h13 : Hp, h13 = hu h 185 27 ((h 185 27) - 1) → (((0 : Int) ≤ (h13 185 27) ∧ (h13 185 27) < 200) ∧ (mX8_adds (rd h13 195 (h13 185 27)) h13 (fun h14 => (((0 : Int) ≤ (h14 185 27) ∧ (h14 185 27) < 200) ∧ ((¬ (rd h14 195 (h14 185 27)) = (23 : Int) → ((mX8_settles_b0 Q fu0) v1 h14)) ∧ ((rd h14 195 (h14 185 27)) = (23 : Int) → (zr ((h14 185 28) - 1) ∧ (∀ h15 : Hp, h15 = hu h14 185 28 ((h14 185 28) - 1) → ((mX8_settles_b0 Q fu0) v1 h15)))))))))))))))))))))))
set_option maxHeartbeats 4000000 in
set_option maxRecDepth 100000 in
theorem sX8_settles_b0 {l0 : Launch} {a : ZC}  {Q : Hp → Prop}  (O : zOk l0 a cX8_settles RX8 2 none 197 [])   : ∀ (ff : Nat) (v1 : Int) (h : Hp), mX8_settles_b0 Q ff v1 h → zV a (2, 0, 0, (qV Q), xN) 0 0 0 [some (aR 185), some (aI v1)] [] h := by
  intro ff
  induction ff with
  | zero => intro v1 h hM; exact hM.elim
  | succ ff ih =>
    have hK0 := ih
    intro v1 h hM
    unfold mX8_settles_b0 at hM
    refine zV_aload_n O dX8_settles_0 rfl rfl ?_
    refine zV_callV (as := []) (st := []) O zc_X8_isGood (Or.inl zl_RX8_111) zi_1470 zi_103 zt_185 rfl rfl (by decide) (Nat.le_of_ble_eq_true rfl) rfl rfl (Nat.le_of_ble_eq_true rfl) (Nat.le_of_ble_eq_true rfl) (Nat.le_of_ble_eq_true rfl) (Nat.le_of_ble_eq_true rfl) (Nat.le_of_ble_eq_true rfl) (Nat.le_of_ble_eq_true rfl) dX8_settles_1 (sX8_isGood hM) (fun r h9 hq => ?_) (fun x h9 hq => hq.elim)
    obtain ⟨rfl, z11, rfl, hzz11, hM⟩ := hq
    refine zV_if_eq (tgt := 82) O dX8_settles_4 (by decide) (fun hc => ?_) (fun hc => ?_)
    · replace hM := hM.1 hc
      exact zV_vret O rfl ⟨rfl, hM⟩ (Nat.le_of_ble_eq_true rfl) (Nat.le_of_ble_eq_true rfl) dX8_settles_82
    · replace hM := hM.2 hc
      refine zV_aload_n O dX8_settles_7 rfl rfl ?_
      refine zV_getI O zf_RX8_389 zt_185 rfl (by decide) dX8_settles_8 ?_
      refine zV_if_le (tgt := 82) O dX8_settles_11 (by decide) (fun hc => ?_) (fun hc => ?_)
      · replace hM := hM.1 hc
        exact zV_vret O rfl ⟨rfl, hM⟩ (Nat.le_of_ble_eq_true rfl) (Nat.le_of_ble_eq_true rfl) dX8_settles_82
      · replace hM := hM.2 hc
        refine zV_aload_n O dX8_settles_14 rfl rfl ?_
        refine zV_getR O zf_RX8_44 zt_185 rfl (by decide) dX8_settles_15 ?_
        refine zV_aload_n O dX8_settles_18 rfl rfl ?_
        refine zV_getI O zf_RX8_389 zt_185 rfl (by decide) dX8_settles_19 ?_
        refine zV_iconst (z := 1) O ⟨by omega, by omega⟩ dX8_settles_22 ?_
        obtain ⟨hc, hM⟩ := hM
        refine zV_isub O dX8_settles_23 hc ?_
        obtain ⟨hc, hM⟩ := hM
        refine zV_iald O zt_195 (by decide) hc dX8_settles_24 ?_
        refine zV_callS (as := [aI (rd h 195 ((h 185 27) - 1))]) (st := []) O zc_X8_strength (Or.inl zl_RX8_392) zi_1903 (Nat.le_of_ble_eq_true rfl) rfl rfl (Nat.le_of_ble_eq_true rfl) (Nat.le_of_ble_eq_true rfl) (Nat.le_of_ble_eq_true rfl) (Nat.le_of_ble_eq_true rfl) (Nat.le_of_ble_eq_true rfl) (Nat.le_of_ble_eq_true rfl) dX8_settles_25 (sX8_strength hM) (fun r h9 hq => ?_) (fun x h9 hq => hq.elim)
        obtain ⟨rfl, z12, rfl, hM⟩ := hq
        refine zV_iload_n O dX8_settles_28 rfl rfl ?_
        refine zV_icmp_lt (tgt := 82) O dX8_settles_29 (by decide) (fun hc => ?_) (fun hc => ?_)
        · replace hM := hM.1 hc
          exact zV_vret O rfl ⟨rfl, hM⟩ (Nat.le_of_ble_eq_true rfl) (Nat.le_of_ble_eq_true rfl) dX8_settles_82
        · replace hM := hM.2 hc
          refine zV_aload_n O dX8_settles_32 rfl rfl ?_
          refine zV_dup O rfl dX8_settles_33 ?_
          refine zV_getI O zf_RX8_389 zt_185 rfl (by decide) dX8_settles_34 ?_
          refine zV_iconst (z := 1) O ⟨by omega, by omega⟩ dX8_settles_37 ?_
          obtain ⟨hc, hM⟩ := hM
          refine zV_isub O dX8_settles_38 hc ?_
          refine zV_putI O zf_RX8_389 zt_185 rfl (by decide) dX8_settles_39 ?_
          have hM := hM _ rfl
          generalize hu h 185 27 ((h 185 27) - 1) = h13 at hM ⊢
          refine zV_aload_n O dX8_settles_42 rfl rfl ?_
          refine zV_aload_n O dX8_settles_43 rfl rfl ?_
          refine zV_getR O zf_RX8_44 zt_185 rfl (by decide) dX8_settles_44 ?_
          refine zV_aload_n O dX8_settles_47 rfl rfl ?_
          refine zV_getI O zf_RX8_389 zt_185 rfl (by decide) dX8_settles_48 ?_
          obtain ⟨hc, hM⟩ := hM
          refine zV_iald O zt_195 (by decide) hc dX8_settles_51 ?_
          refine zV_callV (as := [aI (rd h13 195 (h13 185 27))]) (st := []) O zc_X8_adds (Or.inl zl_RX8_380) zi_1881 zi_158 zt_185 rfl rfl (by decide) (Nat.le_of_ble_eq_true rfl) rfl rfl (Nat.le_of_ble_eq_true rfl) (Nat.le_of_ble_eq_true rfl) (Nat.le_of_ble_eq_true rfl) (Nat.le_of_ble_eq_true rfl) (Nat.le_of_ble_eq_true rfl) (Nat.le_of_ble_eq_true rfl) dX8_settles_52 (sX8_adds hM) (fun r h14 hq => ?_) (fun x h9 hq => hq.elim)
          obtain ⟨rfl, hM⟩ := hq
          refine zV_aload_n O dX8_settles_55 rfl rfl ?_
          refine zV_getR O zf_RX8_44 zt_185 rfl (by decide) dX8_settles_56 ?_
          refine zV_aload_n O dX8_settles_59 rfl rfl ?_
          refine zV_getI O zf_RX8_389 zt_185 rfl (by decide) dX8_settles_60 ?_
          obtain ⟨hc, hM⟩ := hM
          refine zV_iald O zt_195 (by decide) hc dX8_settles_63 ?_
          refine zV_bipush (z := 23) O ⟨by omega, by omega⟩ rfl dX8_settles_64 ?_
          refine zV_icmp_ne (tgt := 0) O dX8_settles_66 (by decide) (fun hc => ?_) (fun hc => ?_)
          · replace hM := hM.1 hc
            exact hK0 _ _ hM
          · replace hM := hM.2 hc
            refine zV_aload_n O dX8_settles_69 rfl rfl ?_
            refine zV_dup O rfl dX8_settles_70 ?_
            refine zV_getI O zf_RX8_386 zt_185 rfl (by decide) dX8_settles_71 ?_
            refine zV_iconst (z := 1) O ⟨by omega, by omega⟩ dX8_settles_74 ?_
            obtain ⟨hc, hM⟩ := hM
            refine zV_isub O dX8_settles_75 hc ?_
            refine zV_putI O zf_RX8_386 zt_185 rfl (by decide) dX8_settles_76 ?_
            have hM := hM _ rfl
            generalize hu h14 185 28 ((h14 185 28) - 1) = h15 at hM ⊢
            refine zV_goto (tgt := 0) O dX8_settles_79 (by decide) ?_
            exact hK0 _ _ hM
def mX8_settles (x1 : Int) (h : Hp) (Q : Hp → Prop) : Prop := (∃ ff, mX8_settles_b0 Q ff x1 h)
set_option maxHeartbeats 4000000 in
set_option maxRecDepth 100000 in
theorem sX8_settles {l0 : Launch} {x1 : Int} {h : Hp} {Q : Hp → Prop}  (hM : mX8_settles x1 h Q) : zSp l0 yX8_settles cX8_settles 2 none 197 (2) 0 0 [aR 185, aI x1] h (qV Q) xN := by
  unfold mX8_settles at hM
  refine zSp_intro zpn_RX8 (Nat.le_of_ble_eq_true rfl) (fun a O => ?_)
  show zV a (2, 0, 0, (qV Q), xN) 0 0 0 [some (aR 185), some (aI x1)] [] h
  obtain ⟨ff, hM⟩ := hM
  exact sX8_settles_b0 O ff _ _ hM
def mX8_toldHost_b99 (h : Hp) (Q : Int → Prop) (K2 : Int → Prop) (v1 : Int) (v2 : Int) : Prop := ((v2 = 0 → (zr (v1 + 1) ∧ (K2 (v1 + 1)))) ∧ (¬ v2 = 0 → (Q v1)))
set_option maxHeartbeats 4000000 in
set_option maxRecDepth 100000 in
theorem sX8_toldHost_b99 {l0 : Launch} {a : ZC}  {h : Hp} {Q : Int → Prop} {K2 : Int → Prop} (O : zOk l0 a cX8_toldHost RX8 4 (some .int) 197 [])  (hK2 : ∀ (v1 : Int), K2 v1 → zV a (2, 0, 0, (qPI h Q), xN) 0 0 2 [some (aR 185), some (aI v1), none, none] [] h) {v1 : Int} {v2 : Int}  (hz_v2 : v2 = 0 ∨ v2 = 1) (hM : mX8_toldHost_b99 h Q K2 v1 v2) : zV a (2, 0, 0, (qPI h Q), xN) 0 0 99 [some (aR 185), some (aI v1), some (aI v2), none] [] h := by
  unfold mX8_toldHost_b99 at hM
  refine zV_iload_n O dX8_toldHost_99 rfl rfl ?_
  refine zV_if_eq (tgt := 105) O dX8_toldHost_100 (by decide) (fun hc => ?_) (fun hc => ?_)
  · replace hM := hM.1 hc
    obtain ⟨hc, hM⟩ := hM
    refine zV_iinc O dX8_toldHost_105 rfl (Nat.le_of_ble_eq_true rfl) rfl hc ?_
    refine zV_goto (tgt := 2) O dX8_toldHost_108 (by decide) ?_
    refine zV_sub (ls2 := [some (aR 185), some (aI (v1 + 1)), none, none]) ⟨rfl, rfl, trivial⟩ ?_
    exact hK2 _ hM
  · replace hM := hM.2 hc
    refine zV_iload_n O dX8_toldHost_103 rfl rfl ?_
    exact zV_iret O rfl ⟨rfl, _, rfl, hM⟩ (Nat.le_of_ble_eq_true rfl) (Nat.le_of_ble_eq_true rfl) dX8_toldHost_104
def mX8_toldHost_b92 (h : Hp) (Q : Int → Prop) (K2 : Int → Prop) (K42 : Int → Int → Int → Prop) (v1 : Int) (v3 : Int) (s0 : Int) : Prop := (zr (v3 + 1) ∧ (K42 v1 s0 (v3 + 1)))
set_option maxHeartbeats 4000000 in
set_option maxRecDepth 100000 in
theorem sX8_toldHost_b92 {l0 : Launch} {a : ZC}  {h : Hp} {Q : Int → Prop} {K2 : Int → Prop} {K42 : Int → Int → Int → Prop} (O : zOk l0 a cX8_toldHost RX8 4 (some .int) 197 [])  (hK2 : ∀ (v1 : Int), K2 v1 → zV a (2, 0, 0, (qPI h Q), xN) 0 0 2 [some (aR 185), some (aI v1), none, none] [] h) (hK42 : ∀ (v1 : Int) (v2 : Int) (v3 : Int), (v2 = 0 ∨ v2 = 1) → K42 v1 v2 v3 → zV a (2, 0, 0, (qPI h Q), xN) 0 0 42 [some (aR 185), some (aI v1), some (aI v2), some (aI v3)] [] h) {v1 : Int} {v3 : Int} {s0 : Int}  (hz_s0 : s0 = 0 ∨ s0 = 1) (hM : mX8_toldHost_b92 h Q K2 K42 v1 v3 s0) : zV a (2, 0, 0, (qPI h Q), xN) 0 0 92 [some (aR 185), some (aI v1), none, some (aI v3)] [aI s0] h := by
  unfold mX8_toldHost_b92 at hM
  refine zV_istore_n O dX8_toldHost_92 rfl (Nat.le_of_ble_eq_true rfl) rfl ?_
  obtain ⟨hc, hM⟩ := hM
  refine zV_iinc O dX8_toldHost_93 rfl (Nat.le_of_ble_eq_true rfl) rfl hc ?_
  refine zV_goto (tgt := 42) O dX8_toldHost_96 (by decide) ?_
  exact hK42 _ _ _ hz_s0 hM
def mX8_toldHost_b42 (h : Hp) (Q : Int → Prop) (K2 : Int → Prop) : Nat → Int → Int → Int → Prop
  | 0 => fun _ _ _ => False
  | fu42 + 1 => fun v1 v2 v3 => (mX8_cell v1 5 h (fun z12 => (((0 : Int) ≤ z12 ∧ z12 < 1096) ∧ (((rd h 187 z12) ≤ v3 → (mX8_toldHost_b99 h Q K2 v1 v2)) ∧ (¬ (rd h 187 z12) ≤ v3 → ((v2 = 0 → (mX8_toldHost_b99 h Q K2 v1 v2)) ∧ (¬ v2 = 0 → (zr (6 + v3) ∧ (mX8_cell v1 (6 + v3) h (fun z13 => (((0 : Int) ≤ z13 ∧ z13 < 1096) ∧ (zr ((h 185 12) + v3) ∧ (((0 : Int) ≤ ((h 185 12) + v3) ∧ ((h 185 12) + v3) < 900) ∧ ((¬ (rd h 187 z13) = (rd h 191 ((h 185 12) + v3)) → (mX8_toldHost_b92 h Q K2 (mX8_toldHost_b42 h Q K2 fu42) v1 v3 0)) ∧ ((rd h 187 z13) = (rd h 191 ((h 185 12) + v3)) → (mX8_toldHost_b92 h Q K2 (mX8_toldHost_b42 h Q K2 fu42) v1 v3 1))))))))))))))))
set_option maxHeartbeats 4000000 in
set_option maxRecDepth 100000 in
theorem sX8_toldHost_b42 {l0 : Launch} {a : ZC}  {h : Hp} {Q : Int → Prop} {K2 : Int → Prop} (O : zOk l0 a cX8_toldHost RX8 4 (some .int) 197 [])  (hK2 : ∀ (v1 : Int), K2 v1 → zV a (2, 0, 0, (qPI h Q), xN) 0 0 2 [some (aR 185), some (aI v1), none, none] [] h) : ∀ (ff : Nat) (v1 : Int) (v2 : Int) (v3 : Int) , (v2 = 0 ∨ v2 = 1) → mX8_toldHost_b42 h Q K2 ff v1 v2 v3 → zV a (2, 0, 0, (qPI h Q), xN) 0 0 42 [some (aR 185), some (aI v1), some (aI v2), some (aI v3)] [] h := by
  intro ff
  induction ff with
  | zero => intro v1 v2 v3 hz_v2 hM; exact hM.elim
  | succ ff ih =>
    have hK42 := ih
    intro v1 v2 v3 hz_v2 hM
    unfold mX8_toldHost_b42 at hM
    refine zV_iload_n O dX8_toldHost_42 rfl rfl ?_
    refine zV_aload_n O dX8_toldHost_43 rfl rfl ?_
    refine zV_getR O zf_RX8_17 zt_185 rfl (by decide) dX8_toldHost_44 ?_
    refine zV_iload_n O dX8_toldHost_47 rfl rfl ?_
    refine zV_iconst (z := 5) O ⟨by omega, by omega⟩ dX8_toldHost_48 ?_
    refine zV_callS (as := [aI v1, aI 5]) (st := [aR 187, aI v3]) O zc_X8_cell (Or.inl zl_RX8_129) zi_1505 (Nat.le_of_ble_eq_true rfl) rfl rfl (Nat.le_of_ble_eq_true rfl) (Nat.le_of_ble_eq_true rfl) (Nat.le_of_ble_eq_true rfl) (Nat.le_of_ble_eq_true rfl) (Nat.le_of_ble_eq_true rfl) (Nat.le_of_ble_eq_true rfl) dX8_toldHost_49 (sX8_cell hM) (fun r h9 hq => ?_) (fun x h9 hq => hq.elim)
    obtain ⟨rfl, z12, rfl, hM⟩ := hq
    obtain ⟨hc, hM⟩ := hM
    refine zV_iald O zt_187 (by decide) hc dX8_toldHost_52 ?_
    refine zV_icmp_ge (tgt := 99) O dX8_toldHost_53 (by decide) (fun hc => ?_) (fun hc => ?_)
    · replace hM := hM.1 hc
      refine zV_sub (ls2 := [some (aR 185), some (aI v1), some (aI v2), none]) ⟨rfl, rfl, rfl, trivial⟩ ?_
      exact sX8_toldHost_b99 O hK2 hz_v2 hM
    · replace hM := hM.2 hc
      refine zV_iload_n O dX8_toldHost_56 rfl rfl ?_
      refine zV_if_eq (tgt := 99) O dX8_toldHost_57 (by decide) (fun hc => ?_) (fun hc => ?_)
      · replace hM := hM.1 hc
        refine zV_sub (ls2 := [some (aR 185), some (aI v1), some (aI v2), none]) ⟨rfl, rfl, rfl, trivial⟩ ?_
        exact sX8_toldHost_b99 O hK2 hz_v2 hM
      · replace hM := hM.2 hc
        refine zV_aload_n O dX8_toldHost_60 rfl rfl ?_
        refine zV_getR O zf_RX8_17 zt_185 rfl (by decide) dX8_toldHost_61 ?_
        refine zV_iload_n O dX8_toldHost_64 rfl rfl ?_
        refine zV_bipush (z := 6) O ⟨by omega, by omega⟩ rfl dX8_toldHost_65 ?_
        refine zV_iload_n O dX8_toldHost_67 rfl rfl ?_
        obtain ⟨hc, hM⟩ := hM
        refine zV_iadd O dX8_toldHost_68 hc ?_
        refine zV_callS (as := [aI v1, aI (6 + v3)]) (st := [aR 187]) O zc_X8_cell (Or.inl zl_RX8_129) zi_1505 (Nat.le_of_ble_eq_true rfl) rfl rfl (Nat.le_of_ble_eq_true rfl) (Nat.le_of_ble_eq_true rfl) (Nat.le_of_ble_eq_true rfl) (Nat.le_of_ble_eq_true rfl) (Nat.le_of_ble_eq_true rfl) (Nat.le_of_ble_eq_true rfl) dX8_toldHost_69 (sX8_cell hM) (fun r h9 hq => ?_) (fun x h9 hq => hq.elim)
        obtain ⟨rfl, z13, rfl, hM⟩ := hq
        obtain ⟨hc, hM⟩ := hM
        refine zV_iald O zt_187 (by decide) hc dX8_toldHost_72 ?_
        refine zV_aload_n O dX8_toldHost_73 rfl rfl ?_
        refine zV_getR O zf_RX8_29 zt_185 rfl (by decide) dX8_toldHost_74 ?_
        refine zV_aload_n O dX8_toldHost_77 rfl rfl ?_
        refine zV_getI O zf_RX8_82 zt_185 rfl (by decide) dX8_toldHost_78 ?_
        refine zV_iload_n O dX8_toldHost_81 rfl rfl ?_
        obtain ⟨hc, hM⟩ := hM
        refine zV_iadd O dX8_toldHost_82 hc ?_
        obtain ⟨hc, hM⟩ := hM
        refine zV_iald O zt_191 (by decide) hc dX8_toldHost_83 ?_
        refine zV_icmp_ne (tgt := 91) O dX8_toldHost_84 (by decide) (fun hc => ?_) (fun hc => ?_)
        · replace hM := hM.1 hc
          refine zV_iconst (z := 0) O ⟨by omega, by omega⟩ dX8_toldHost_91 ?_
          refine zV_sub (ls2 := [some (aR 185), some (aI v1), none, some (aI v3)]) ⟨rfl, rfl, rfl, trivial⟩ ?_
          exact sX8_toldHost_b92 O hK2 hK42 (Or.inl rfl) hM
        · replace hM := hM.2 hc
          refine zV_iconst (z := 1) O ⟨by omega, by omega⟩ dX8_toldHost_87 ?_
          refine zV_goto (tgt := 92) O dX8_toldHost_88 (by decide) ?_
          refine zV_sub (ls2 := [some (aR 185), some (aI v1), none, some (aI v3)]) ⟨rfl, rfl, rfl, trivial⟩ ?_
          exact sX8_toldHost_b92 O hK2 hK42 (Or.inr rfl) hM
def mX8_toldHost_b39 (h : Hp) (Q : Int → Prop) (K2 : Int → Prop) (v1 : Int) (s0 : Int) : Prop := (∃ ff, mX8_toldHost_b42 h Q K2 ff v1 s0 0)
set_option maxHeartbeats 4000000 in
set_option maxRecDepth 100000 in
theorem sX8_toldHost_b39 {l0 : Launch} {a : ZC}  {h : Hp} {Q : Int → Prop} {K2 : Int → Prop} (O : zOk l0 a cX8_toldHost RX8 4 (some .int) 197 [])  (hK2 : ∀ (v1 : Int), K2 v1 → zV a (2, 0, 0, (qPI h Q), xN) 0 0 2 [some (aR 185), some (aI v1), none, none] [] h) {v1 : Int} {s0 : Int}  (hz_s0 : s0 = 0 ∨ s0 = 1) (hM : mX8_toldHost_b39 h Q K2 v1 s0) : zV a (2, 0, 0, (qPI h Q), xN) 0 0 39 [some (aR 185), some (aI v1), none, none] [aI s0] h := by
  unfold mX8_toldHost_b39 at hM
  refine zV_istore_n O dX8_toldHost_39 rfl (Nat.le_of_ble_eq_true rfl) rfl ?_
  refine zV_iconst (z := 0) O ⟨by omega, by omega⟩ dX8_toldHost_40 ?_
  refine zV_istore_n O dX8_toldHost_41 rfl (Nat.le_of_ble_eq_true rfl) rfl ?_
  obtain ⟨ff, hM⟩ := hM
  exact sX8_toldHost_b42 O hK2 ff _ _ _ hz_s0 hM
def mX8_toldHost_b2 (h : Hp) (Q : Int → Prop) : Nat → Int → Prop
  | 0 => fun _ => False
  | fu2 + 1 => fun v1 => (((0 : Int) ≤ 0 ∧ (0 : Int) < 1096) ∧ (((rd h 187 0) ≤ v1 → (Q (-1))) ∧ (¬ (rd h 187 0) ≤ v1 → (mX8_cell v1 5 h (fun z14 => (((0 : Int) ≤ z14 ∧ z14 < 1096) ∧ (zr ((h 185 11) - (h 185 12)) ∧ ((¬ (rd h 187 z14) = ((h 185 11) - (h 185 12)) → (mX8_toldHost_b39 h Q (mX8_toldHost_b2 h Q fu2) v1 0)) ∧ ((rd h 187 z14) = ((h 185 11) - (h 185 12)) → (mX8_toldHost_b39 h Q (mX8_toldHost_b2 h Q fu2) v1 1))))))))))
set_option maxHeartbeats 4000000 in
set_option maxRecDepth 100000 in
theorem sX8_toldHost_b2 {l0 : Launch} {a : ZC}  {h : Hp} {Q : Int → Prop}  (O : zOk l0 a cX8_toldHost RX8 4 (some .int) 197 [])   : ∀ (ff : Nat) (v1 : Int) , mX8_toldHost_b2 h Q ff v1 → zV a (2, 0, 0, (qPI h Q), xN) 0 0 2 [some (aR 185), some (aI v1), none, none] [] h := by
  intro ff
  induction ff with
  | zero => intro v1 hM; exact hM.elim
  | succ ff ih =>
    have hK2 := ih
    intro v1 hM
    unfold mX8_toldHost_b2 at hM
    refine zV_iload_n O dX8_toldHost_2 rfl rfl ?_
    refine zV_aload_n O dX8_toldHost_3 rfl rfl ?_
    refine zV_getR O zf_RX8_17 zt_185 rfl (by decide) dX8_toldHost_4 ?_
    refine zV_iconst (z := 0) O ⟨by omega, by omega⟩ dX8_toldHost_7 ?_
    obtain ⟨hc, hM⟩ := hM
    refine zV_iald O zt_187 (by decide) hc dX8_toldHost_8 ?_
    refine zV_icmp_ge (tgt := 111) O dX8_toldHost_9 (by decide) (fun hc => ?_) (fun hc => ?_)
    · replace hM := hM.1 hc
      refine zV_iconst (z := -1) O ⟨by omega, by omega⟩ dX8_toldHost_111 ?_
      exact zV_iret O rfl ⟨rfl, _, rfl, hM⟩ (Nat.le_of_ble_eq_true rfl) (Nat.le_of_ble_eq_true rfl) dX8_toldHost_112
    · replace hM := hM.2 hc
      refine zV_aload_n O dX8_toldHost_12 rfl rfl ?_
      refine zV_getR O zf_RX8_17 zt_185 rfl (by decide) dX8_toldHost_13 ?_
      refine zV_iload_n O dX8_toldHost_16 rfl rfl ?_
      refine zV_iconst (z := 5) O ⟨by omega, by omega⟩ dX8_toldHost_17 ?_
      refine zV_callS (as := [aI v1, aI 5]) (st := [aR 187]) O zc_X8_cell (Or.inl zl_RX8_129) zi_1505 (Nat.le_of_ble_eq_true rfl) rfl rfl (Nat.le_of_ble_eq_true rfl) (Nat.le_of_ble_eq_true rfl) (Nat.le_of_ble_eq_true rfl) (Nat.le_of_ble_eq_true rfl) (Nat.le_of_ble_eq_true rfl) (Nat.le_of_ble_eq_true rfl) dX8_toldHost_18 (sX8_cell hM) (fun r h9 hq => ?_) (fun x h9 hq => hq.elim)
      obtain ⟨rfl, z14, rfl, hM⟩ := hq
      obtain ⟨hc, hM⟩ := hM
      refine zV_iald O zt_187 (by decide) hc dX8_toldHost_21 ?_
      refine zV_aload_n O dX8_toldHost_22 rfl rfl ?_
      refine zV_getI O zf_RX8_71 zt_185 rfl (by decide) dX8_toldHost_23 ?_
      refine zV_aload_n O dX8_toldHost_26 rfl rfl ?_
      refine zV_getI O zf_RX8_82 zt_185 rfl (by decide) dX8_toldHost_27 ?_
      obtain ⟨hc, hM⟩ := hM
      refine zV_isub O dX8_toldHost_30 hc ?_
      refine zV_icmp_ne (tgt := 38) O dX8_toldHost_31 (by decide) (fun hc => ?_) (fun hc => ?_)
      · replace hM := hM.1 hc
        refine zV_iconst (z := 0) O ⟨by omega, by omega⟩ dX8_toldHost_38 ?_
        exact sX8_toldHost_b39 O hK2 (Or.inl rfl) hM
      · replace hM := hM.2 hc
        refine zV_iconst (z := 1) O ⟨by omega, by omega⟩ dX8_toldHost_34 ?_
        refine zV_goto (tgt := 39) O dX8_toldHost_35 (by decide) ?_
        exact sX8_toldHost_b39 O hK2 (Or.inr rfl) hM
def mX8_toldHost  (h : Hp) (Q : Int → Prop) : Prop := (∃ ff, mX8_toldHost_b2 h Q ff 0)
set_option maxHeartbeats 4000000 in
set_option maxRecDepth 100000 in
theorem sX8_toldHost {l0 : Launch}  {h : Hp} {Q : Int → Prop}  (hM : mX8_toldHost  h Q) : zSp l0 yX8_toldHost cX8_toldHost 4 (some .int) 197 (2) 0 0 [aR 185] h (qPI h Q) xN := by
  unfold mX8_toldHost at hM
  refine zSp_intro zpn_RX8 (Nat.le_of_ble_eq_true rfl) (fun a O => ?_)
  show zV a (2, 0, 0, (qPI h Q), xN) 0 0 0 [some (aR 185), none, none, none] [] h
  refine zV_iconst (z := 0) O ⟨by omega, by omega⟩ dX8_toldHost_0 ?_
  refine zV_istore_n O dX8_toldHost_1 rfl (Nat.le_of_ble_eq_true rfl) rfl ?_
  obtain ⟨ff, hM⟩ := hM
  exact sX8_toldHost_b2 O ff _ hM
def mX8_undo  (h : Hp) (Q : Int → Hp → Prop) : Prop := (∀ h4 : Hp, h4 = hu h 185 0 0 → ((¬ (h4 185 6) = 0 → (zr ((h4 185 6) - 1) ∧ (∀ h5 : Hp, h5 = hu h4 185 6 ((h4 185 6) - 1) → (zr (1096 * (h5 185 6)) ∧ (mX8_copies 190 10960 (1096 * (h5 185 6)) 186 1096 0 h5 (fun h6 => (Q (h6 185 6) h6))))))) ∧ ((h4 185 6) = 0 → (Q (-1) h4))))
set_option maxHeartbeats 4000000 in
set_option maxRecDepth 100000 in
theorem sX8_undo {l0 : Launch}  {h : Hp} {Q : Int → Hp → Prop}  (hM : mX8_undo  h Q) : zSp l0 yX8_undo cX8_undo 1 (some .int) 197 (2) 0 0 [aR 185] h (qI Q) xN := by
  unfold mX8_undo at hM
  refine zSp_intro zpn_RX8 (Nat.le_of_ble_eq_true rfl) (fun a O => ?_)
  show zV a (2, 0, 0, (qI Q), xN) 0 0 0 [some (aR 185)] [] h
  refine zV_aload_n O dX8_undo_0 rfl rfl ?_
  refine zV_iconst (z := 0) O ⟨by omega, by omega⟩ dX8_undo_1 ?_
  refine zV_putI O zf_RX8_1 zt_185 rfl (by decide) dX8_undo_2 ?_
  have hM := hM _ rfl
  generalize hu h 185 0 0 = h4 at hM ⊢
  refine zV_aload_n O dX8_undo_5 rfl rfl ?_
  refine zV_getI O zf_RX8_211 zt_185 rfl (by decide) dX8_undo_6 ?_
  refine zV_if_ne (tgt := 14) O dX8_undo_9 (by decide) (fun hc => ?_) (fun hc => ?_)
  · replace hM := hM.1 hc
    refine zV_aload_n O dX8_undo_14 rfl rfl ?_
    refine zV_dup O rfl dX8_undo_15 ?_
    refine zV_getI O zf_RX8_211 zt_185 rfl (by decide) dX8_undo_16 ?_
    refine zV_iconst (z := 1) O ⟨by omega, by omega⟩ dX8_undo_19 ?_
    obtain ⟨hc, hM⟩ := hM
    refine zV_isub O dX8_undo_20 hc ?_
    refine zV_putI O zf_RX8_211 zt_185 rfl (by decide) dX8_undo_21 ?_
    have hM := hM _ rfl
    generalize hu h4 185 6 ((h4 185 6) - 1) = h5 at hM ⊢
    refine zV_aload_n O dX8_undo_24 rfl rfl ?_
    refine zV_getR O zf_RX8_26 zt_185 rfl (by decide) dX8_undo_25 ?_
    refine zV_sipush (z := 1096) O ⟨by omega, by omega⟩ rfl dX8_undo_28 ?_
    refine zV_aload_n O dX8_undo_31 rfl rfl ?_
    refine zV_getI O zf_RX8_211 zt_185 rfl (by decide) dX8_undo_32 ?_
    obtain ⟨hc, hM⟩ := hM
    refine zV_imul O dX8_undo_35 hc ?_
    refine zV_aload_n O dX8_undo_36 rfl rfl ?_
    refine zV_getR O zf_RX8_13 zt_185 rfl (by decide) dX8_undo_37 ?_
    refine zV_iconst (z := 0) O ⟨by omega, by omega⟩ dX8_undo_40 ?_
    refine zV_callS (as := [aR 190, aI (1096 * (h5 185 6)), aR 186, aI 0]) (st := []) O zc_X8_copies (Or.inl zl_RX8_53) zi_1309 (Nat.le_of_ble_eq_true rfl) rfl rfl (Nat.le_of_ble_eq_true rfl) (Nat.le_of_ble_eq_true rfl) (Nat.le_of_ble_eq_true rfl) (Nat.le_of_ble_eq_true rfl) (Nat.le_of_ble_eq_true rfl) (Nat.le_of_ble_eq_true rfl) dX8_undo_41 (sX8_copies zt_190 (by decide) ⟨by decide, by decide⟩ zt_186 (by decide) ⟨by decide, by decide⟩ hM) (fun r h6 hq => ?_) (fun x h9 hq => hq.elim)
    obtain ⟨rfl, hM⟩ := hq
    refine zV_aload_n O dX8_undo_44 rfl rfl ?_
    refine zV_getI O zf_RX8_211 zt_185 rfl (by decide) dX8_undo_45 ?_
    exact zV_iret O rfl ⟨_, rfl, hM⟩ (Nat.le_of_ble_eq_true rfl) (Nat.le_of_ble_eq_true rfl) dX8_undo_48
  · replace hM := hM.2 hc
    refine zV_iconst (z := -1) O ⟨by omega, by omega⟩ dX8_undo_12 ?_
    exact zV_iret O rfl ⟨_, rfl, hM⟩ (Nat.le_of_ble_eq_true rfl) (Nat.le_of_ble_eq_true rfl) dX8_undo_13
def mX8_writesNumber_b18 (Q : Hp → Prop) : Nat → Int → Int → Hp → Prop
  | 0 => fun _ _ _ => False
  | fu18 + 1 => fun v1 v2 h => ((v2 ≤ 0 → (Q h)) ∧ (¬ v2 ≤ 0 → (((0 : Int) ≤ v1 ∧ (0 : Int) < v2) ∧ (((0 : Int) ≤ (v1 / v2) ∧ (0 : Int) < 10) ∧ (zr (48 + ((v1 / v2) % 10)) ∧ (mX8_writes (48 + ((v1 / v2) % 10)) h (fun h4 => (((0 : Int) ≤ v2 ∧ (0 : Int) < 10) ∧ ((mX8_writesNumber_b18 Q fu18) v1 (v2 / 10) h4)))))))))
set_option maxHeartbeats 4000000 in
set_option maxRecDepth 100000 in
theorem sX8_writesNumber_b18 {l0 : Launch} {a : ZC}  {Q : Hp → Prop}  (O : zOk l0 a cX8_writesNumber RX8 3 none 197 [])   : ∀ (ff : Nat) (v1 : Int) (v2 : Int) (h : Hp), mX8_writesNumber_b18 Q ff v1 v2 h → zV a (2, 0, 0, (qV Q), xN) 0 0 18 [some (aR 185), some (aI v1), some (aI v2)] [] h := by
  intro ff
  induction ff with
  | zero => intro v1 v2 h hM; exact hM.elim
  | succ ff ih =>
    have hK18 := ih
    intro v1 v2 h hM
    unfold mX8_writesNumber_b18 at hM
    refine zV_iload_n O dX8_writesNumber_18 rfl rfl ?_
    refine zV_if_le (tgt := 43) O dX8_writesNumber_19 (by decide) (fun hc => ?_) (fun hc => ?_)
    · replace hM := hM.1 hc
      exact zV_vret O rfl ⟨rfl, hM⟩ (Nat.le_of_ble_eq_true rfl) (Nat.le_of_ble_eq_true rfl) dX8_writesNumber_43
    · replace hM := hM.2 hc
      refine zV_aload_n O dX8_writesNumber_22 rfl rfl ?_
      refine zV_bipush (z := 48) O ⟨by omega, by omega⟩ rfl dX8_writesNumber_23 ?_
      refine zV_iload_n O dX8_writesNumber_25 rfl rfl ?_
      refine zV_iload_n O dX8_writesNumber_26 rfl rfl ?_
      obtain ⟨hc, hM⟩ := hM
      refine zV_idiv O dX8_writesNumber_27 hc ?_
      refine zV_bipush (z := 10) O ⟨by omega, by omega⟩ rfl dX8_writesNumber_28 ?_
      obtain ⟨hc, hM⟩ := hM
      refine zV_irem O dX8_writesNumber_30 hc ?_
      obtain ⟨hc, hM⟩ := hM
      refine zV_iadd O dX8_writesNumber_31 hc ?_
      refine zV_callV (as := [aI (48 + ((v1 / v2) % 10))]) (st := []) O zc_X8_writes (Or.inl zl_RX8_357) zi_1843 zi_152 zt_185 rfl rfl (by decide) (Nat.le_of_ble_eq_true rfl) rfl rfl (Nat.le_of_ble_eq_true rfl) (Nat.le_of_ble_eq_true rfl) (Nat.le_of_ble_eq_true rfl) (Nat.le_of_ble_eq_true rfl) (Nat.le_of_ble_eq_true rfl) (Nat.le_of_ble_eq_true rfl) dX8_writesNumber_32 (sX8_writes hM) (fun r h4 hq => ?_) (fun x h9 hq => hq.elim)
      obtain ⟨rfl, hM⟩ := hq
      refine zV_iload_n O dX8_writesNumber_35 rfl rfl ?_
      refine zV_bipush (z := 10) O ⟨by omega, by omega⟩ rfl dX8_writesNumber_36 ?_
      obtain ⟨hc, hM⟩ := hM
      refine zV_idiv O dX8_writesNumber_38 hc ?_
      refine zV_istore_n O dX8_writesNumber_39 rfl (Nat.le_of_ble_eq_true rfl) rfl ?_
      refine zV_goto (tgt := 18) O dX8_writesNumber_40 (by decide) ?_
      exact hK18 _ _ _ hM
def mX8_writesNumber_b2 (Q : Hp → Prop) : Nat → Int → Int → Hp → Prop
  | 0 => fun _ _ _ => False
  | fu2 + 1 => fun v1 v2 h => (((0 : Int) ≤ v1 ∧ (0 : Int) < v2) ∧ (((v1 / v2) ≤ (9 : Int) → (∃ ff, mX8_writesNumber_b18 Q ff v1 v2 h)) ∧ (¬ (v1 / v2) ≤ (9 : Int) → (zr (v2 * 10) ∧ ((mX8_writesNumber_b2 Q fu2) v1 (v2 * 10) h)))))
set_option maxHeartbeats 4000000 in
set_option maxRecDepth 100000 in
theorem sX8_writesNumber_b2 {l0 : Launch} {a : ZC}  {Q : Hp → Prop}  (O : zOk l0 a cX8_writesNumber RX8 3 none 197 [])   : ∀ (ff : Nat) (v1 : Int) (v2 : Int) (h : Hp), mX8_writesNumber_b2 Q ff v1 v2 h → zV a (2, 0, 0, (qV Q), xN) 0 0 2 [some (aR 185), some (aI v1), some (aI v2)] [] h := by
  intro ff
  induction ff with
  | zero => intro v1 v2 h hM; exact hM.elim
  | succ ff ih =>
    have hK2 := ih
    intro v1 v2 h hM
    unfold mX8_writesNumber_b2 at hM
    refine zV_iload_n O dX8_writesNumber_2 rfl rfl ?_
    refine zV_iload_n O dX8_writesNumber_3 rfl rfl ?_
    obtain ⟨hc, hM⟩ := hM
    refine zV_idiv O dX8_writesNumber_4 hc ?_
    refine zV_bipush (z := 9) O ⟨by omega, by omega⟩ rfl dX8_writesNumber_5 ?_
    refine zV_icmp_le (tgt := 18) O dX8_writesNumber_7 (by decide) (fun hc => ?_) (fun hc => ?_)
    · replace hM := hM.1 hc
      obtain ⟨ff, hM⟩ := hM
      exact sX8_writesNumber_b18 O ff _ _ _ hM
    · replace hM := hM.2 hc
      refine zV_iload_n O dX8_writesNumber_10 rfl rfl ?_
      refine zV_bipush (z := 10) O ⟨by omega, by omega⟩ rfl dX8_writesNumber_11 ?_
      obtain ⟨hc, hM⟩ := hM
      refine zV_imul O dX8_writesNumber_13 hc ?_
      refine zV_istore_n O dX8_writesNumber_14 rfl (Nat.le_of_ble_eq_true rfl) rfl ?_
      refine zV_goto (tgt := 2) O dX8_writesNumber_15 (by decide) ?_
      exact hK2 _ _ _ hM
def mX8_writesNumber (x1 : Int) (h : Hp) (Q : Hp → Prop) : Prop := (∃ ff, mX8_writesNumber_b2 Q ff x1 1 h)
set_option maxHeartbeats 4000000 in
set_option maxRecDepth 100000 in
theorem sX8_writesNumber {l0 : Launch} {x1 : Int} {h : Hp} {Q : Hp → Prop}  (hM : mX8_writesNumber x1 h Q) : zSp l0 yX8_writesNumber cX8_writesNumber 3 none 197 (2) 0 0 [aR 185, aI x1] h (qV Q) xN := by
  unfold mX8_writesNumber at hM
  refine zSp_intro zpn_RX8 (Nat.le_of_ble_eq_true rfl) (fun a O => ?_)
  show zV a (2, 0, 0, (qV Q), xN) 0 0 0 [some (aR 185), some (aI x1), none] [] h
  refine zV_iconst (z := 1) O ⟨by omega, by omega⟩ dX8_writesNumber_0 ?_
  refine zV_istore_n O dX8_writesNumber_1 rfl (Nat.le_of_ble_eq_true rfl) rfl ?_
  obtain ⟨ff, hM⟩ := hM
  exact sX8_writesNumber_b2 O ff _ _ _ hM
def mX8_addRule_b104 (Q : Int → Hp → Prop) (v3 : Int) (v4 : Int) (v5 : Int) (s0 : Int) (s1 : Int) (h : Hp) : Prop := (((0 : Int) ≤ s1 ∧ s1 < 1096) ∧ (∀ h31 : Hp, h31 = wr h 186 s1 s0 → (mX8_ruleCell v5 2 h31 (fun z32 => (((0 : Int) ≤ z32 ∧ z32 < 1096) ∧ (∀ h33 : Hp, h33 = wr h31 186 z32 v3 → (mX8_ruleCell v5 3 h33 (fun z34 => (((0 : Int) ≤ z34 ∧ z34 < 1096) ∧ (∀ h35 : Hp, h35 = wr h33 186 z34 v4 → (zr (v5 + 1) ∧ (((0 : Int) ≤ 1 ∧ (1 : Int) < 1096) ∧ (∀ h36 : Hp, h36 = wr h35 186 1 (v5 + 1) → (Q v5 h36))))))))))))))
set_option maxHeartbeats 4000000 in
set_option maxRecDepth 100000 in
theorem sX8_addRule_b104 {l0 : Launch} {a : ZC}  {Q : Int → Hp → Prop}  (O : zOk l0 a cX8_addRule RX8 6 (some .int) 197 [])   {v3 : Int} {v4 : Int} {v5 : Int} {s0 : Int} {s1 : Int} {h : Hp} (hz_s0 : s0 = 0 ∨ s0 = 1) (hM : mX8_addRule_b104 Q v3 v4 v5 s0 s1 h) : zV a (3, 0, 0, (qI Q), xN) 0 0 104 [some (aR 185), none, none, some (aI v3), some (aI v4), some (aI v5)] [aI s0, aI s1, aR 186] h := by
  unfold mX8_addRule_b104 at hM
  obtain ⟨hc, hM⟩ := hM
  refine zV_iast O zt_186 (by decide) hc dX8_addRule_104 ?_
  have hM := hM (hu h 186 (Int.toNat s1) s0) rfl
  generalize hu h 186 (Int.toNat s1) s0 = h31 at hM ⊢
  refine zV_aload_n O dX8_addRule_105 rfl rfl ?_
  refine zV_getR O zf_RX8_13 zt_185 rfl (by decide) dX8_addRule_106 ?_
  refine zV_iload O dX8_addRule_109 rfl ?_
  refine zV_iconst (z := 2) O ⟨by omega, by omega⟩ dX8_addRule_111 ?_
  refine zV_callS (as := [aI v5, aI 2]) (st := [aR 186]) O zc_X8_ruleCell (Or.inl zl_RX8_167) zi_1519 (Nat.le_of_ble_eq_true rfl) rfl rfl (Nat.le_of_ble_eq_true rfl) (Nat.le_of_ble_eq_true rfl) (Nat.le_of_ble_eq_true rfl) (Nat.le_of_ble_eq_true rfl) (Nat.le_of_ble_eq_true rfl) (Nat.le_of_ble_eq_true rfl) dX8_addRule_112 (sX8_ruleCell hM) (fun r h9 hq => ?_) (fun x h9 hq => hq.elim)
  obtain ⟨rfl, z32, rfl, hM⟩ := hq
  refine zV_iload_n O dX8_addRule_115 rfl rfl ?_
  obtain ⟨hc, hM⟩ := hM
  refine zV_iast O zt_186 (by decide) hc dX8_addRule_116 ?_
  have hM := hM (hu h31 186 (Int.toNat z32) v3) rfl
  generalize hu h31 186 (Int.toNat z32) v3 = h33 at hM ⊢
  refine zV_aload_n O dX8_addRule_117 rfl rfl ?_
  refine zV_getR O zf_RX8_13 zt_185 rfl (by decide) dX8_addRule_118 ?_
  refine zV_iload O dX8_addRule_121 rfl ?_
  refine zV_iconst (z := 3) O ⟨by omega, by omega⟩ dX8_addRule_123 ?_
  refine zV_callS (as := [aI v5, aI 3]) (st := [aR 186]) O zc_X8_ruleCell (Or.inl zl_RX8_167) zi_1519 (Nat.le_of_ble_eq_true rfl) rfl rfl (Nat.le_of_ble_eq_true rfl) (Nat.le_of_ble_eq_true rfl) (Nat.le_of_ble_eq_true rfl) (Nat.le_of_ble_eq_true rfl) (Nat.le_of_ble_eq_true rfl) (Nat.le_of_ble_eq_true rfl) dX8_addRule_124 (sX8_ruleCell hM) (fun r h9 hq => ?_) (fun x h9 hq => hq.elim)
  obtain ⟨rfl, z34, rfl, hM⟩ := hq
  refine zV_iload O dX8_addRule_127 rfl ?_
  obtain ⟨hc, hM⟩ := hM
  refine zV_iast O zt_186 (by decide) hc dX8_addRule_129 ?_
  have hM := hM (hu h33 186 (Int.toNat z34) v4) rfl
  generalize hu h33 186 (Int.toNat z34) v4 = h35 at hM ⊢
  refine zV_aload_n O dX8_addRule_130 rfl rfl ?_
  refine zV_getR O zf_RX8_13 zt_185 rfl (by decide) dX8_addRule_131 ?_
  refine zV_iconst (z := 1) O ⟨by omega, by omega⟩ dX8_addRule_134 ?_
  refine zV_iload O dX8_addRule_135 rfl ?_
  refine zV_iconst (z := 1) O ⟨by omega, by omega⟩ dX8_addRule_137 ?_
  obtain ⟨hc, hM⟩ := hM
  refine zV_iadd O dX8_addRule_138 hc ?_
  obtain ⟨hc, hM⟩ := hM
  refine zV_iast O zt_186 (by decide) hc dX8_addRule_139 ?_
  have hM := hM (hu h35 186 (Int.toNat 1) (v5 + 1)) rfl
  generalize hu h35 186 (Int.toNat 1) (v5 + 1) = h36 at hM ⊢
  refine zV_iload O dX8_addRule_140 rfl ?_
  exact zV_iret O rfl ⟨_, rfl, hM⟩ (Nat.le_of_ble_eq_true rfl) (Nat.le_of_ble_eq_true rfl) dX8_addRule_142
def mX8_addRule_b38 (Q : Int → Hp → Prop) (v1 : Int) (v2 : Int) (v3 : Int) (v4 : Int) (s0 : Int) (h : Hp) : Prop := (mX8_fails s0 2 h (fun z37 h38 => ((z37 = 0 → (((0 : Int) ≤ 1 ∧ (1 : Int) < 1096) ∧ ((¬ (rd h38 186 1) = (30 : Int) → (mX8_keeps 186 1096 h38 (fun h39 => (mX8_ruleCell (rd h38 186 1) 0 h39 (fun z40 => (((0 : Int) ≤ z40 ∧ z40 < 1096) ∧ (∀ h41 : Hp, h41 = wr h39 186 z40 v1 → (mX8_ruleCell (rd h38 186 1) 1 h41 (fun z42 => ((v2 = 0 → (mX8_addRule_b104 Q v3 v4 (rd h38 186 1) 0 z42 h41)) ∧ (¬ v2 = 0 → (mX8_addRule_b104 Q v3 v4 (rd h38 186 1) 1 z42 h41)))))))))))) ∧ ((rd h38 186 1) = (30 : Int) → (Q (-2) h38))))) ∧ (¬ z37 = 0 → (Q 0 h38)))))
set_option maxHeartbeats 4000000 in
set_option maxRecDepth 100000 in
theorem sX8_addRule_b38 {l0 : Launch} {a : ZC}  {Q : Int → Hp → Prop}  (O : zOk l0 a cX8_addRule RX8 6 (some .int) 197 [])   {v1 : Int} {v2 : Int} {v3 : Int} {v4 : Int} {s0 : Int} {h : Hp} (hz_s0 : s0 = 0 ∨ s0 = 1) (hM : mX8_addRule_b38 Q v1 v2 v3 v4 s0 h) : zV a (3, 0, 0, (qI Q), xN) 0 0 38 [some (aR 185), some (aI v1), some (aI v2), some (aI v3), some (aI v4), none] [aI s0, aR 185] h := by
  unfold mX8_addRule_b38 at hM
  refine zV_iconst (z := 2) O ⟨by omega, by omega⟩ dX8_addRule_38 ?_
  refine zV_callV (as := [aI s0, aI 2]) (st := []) O zc_X8_fails (Or.inl zl_RX8_201) zi_1420 zi_93 zt_185 rfl rfl (by decide) (Nat.le_of_ble_eq_true rfl) rfl rfl (Nat.le_of_ble_eq_true rfl) (Nat.le_of_ble_eq_true rfl) (Nat.le_of_ble_eq_true rfl) (Nat.le_of_ble_eq_true rfl) (Nat.le_of_ble_eq_true rfl) (Nat.le_of_ble_eq_true rfl) dX8_addRule_39 (sX8_fails hM) (fun r h38 hq => ?_) (fun x h9 hq => hq.elim)
  obtain ⟨z37, rfl, hzz37, hM⟩ := hq
  refine zV_if_eq (tgt := 47) O dX8_addRule_42 (by decide) (fun hc => ?_) (fun hc => ?_)
  · replace hM := hM.1 hc
    refine zV_aload_n O dX8_addRule_47 rfl rfl ?_
    refine zV_getR O zf_RX8_13 zt_185 rfl (by decide) dX8_addRule_48 ?_
    refine zV_iconst (z := 1) O ⟨by omega, by omega⟩ dX8_addRule_51 ?_
    obtain ⟨hc, hM⟩ := hM
    refine zV_iald O zt_186 (by decide) hc dX8_addRule_52 ?_
    refine zV_istore O dX8_addRule_53 (Nat.le_of_ble_eq_true rfl) rfl ?_
    refine zV_iload O dX8_addRule_55 rfl ?_
    refine zV_bipush (z := 30) O ⟨by omega, by omega⟩ rfl dX8_addRule_57 ?_
    refine zV_icmp_ne (tgt := 65) O dX8_addRule_59 (by decide) (fun hc => ?_) (fun hc => ?_)
    · replace hM := hM.1 hc
      refine zV_aload_n O dX8_addRule_65 rfl rfl ?_
      refine zV_aload_n O dX8_addRule_66 rfl rfl ?_
      refine zV_getR O zf_RX8_13 zt_185 rfl (by decide) dX8_addRule_67 ?_
      refine zV_callV (as := [aR 186]) (st := []) O zc_X8_keeps (Or.inl zl_RX8_335) zi_1752 zi_147 zt_185 rfl rfl (by decide) (Nat.le_of_ble_eq_true rfl) rfl rfl (Nat.le_of_ble_eq_true rfl) (Nat.le_of_ble_eq_true rfl) (Nat.le_of_ble_eq_true rfl) (Nat.le_of_ble_eq_true rfl) (Nat.le_of_ble_eq_true rfl) (Nat.le_of_ble_eq_true rfl) dX8_addRule_70 (sX8_keeps zt_186 (by decide) ⟨by decide, by decide⟩ hM) (fun r h39 hq => ?_) (fun x h9 hq => hq.elim)
      obtain ⟨rfl, hM⟩ := hq
      refine zV_aload_n O dX8_addRule_73 rfl rfl ?_
      refine zV_getR O zf_RX8_13 zt_185 rfl (by decide) dX8_addRule_74 ?_
      refine zV_iload O dX8_addRule_77 rfl ?_
      refine zV_iconst (z := 0) O ⟨by omega, by omega⟩ dX8_addRule_79 ?_
      refine zV_callS (as := [aI (rd h38 186 1), aI 0]) (st := [aR 186]) O zc_X8_ruleCell (Or.inl zl_RX8_167) zi_1519 (Nat.le_of_ble_eq_true rfl) rfl rfl (Nat.le_of_ble_eq_true rfl) (Nat.le_of_ble_eq_true rfl) (Nat.le_of_ble_eq_true rfl) (Nat.le_of_ble_eq_true rfl) (Nat.le_of_ble_eq_true rfl) (Nat.le_of_ble_eq_true rfl) dX8_addRule_80 (sX8_ruleCell hM) (fun r h9 hq => ?_) (fun x h9 hq => hq.elim)
      obtain ⟨rfl, z40, rfl, hM⟩ := hq
      refine zV_iload_n O dX8_addRule_83 rfl rfl ?_
      obtain ⟨hc, hM⟩ := hM
      refine zV_iast O zt_186 (by decide) hc dX8_addRule_84 ?_
      have hM := hM (hu h39 186 (Int.toNat z40) v1) rfl
      generalize hu h39 186 (Int.toNat z40) v1 = h41 at hM ⊢
      refine zV_aload_n O dX8_addRule_85 rfl rfl ?_
      refine zV_getR O zf_RX8_13 zt_185 rfl (by decide) dX8_addRule_86 ?_
      refine zV_iload O dX8_addRule_89 rfl ?_
      refine zV_iconst (z := 1) O ⟨by omega, by omega⟩ dX8_addRule_91 ?_
      refine zV_callS (as := [aI (rd h38 186 1), aI 1]) (st := [aR 186]) O zc_X8_ruleCell (Or.inl zl_RX8_167) zi_1519 (Nat.le_of_ble_eq_true rfl) rfl rfl (Nat.le_of_ble_eq_true rfl) (Nat.le_of_ble_eq_true rfl) (Nat.le_of_ble_eq_true rfl) (Nat.le_of_ble_eq_true rfl) (Nat.le_of_ble_eq_true rfl) (Nat.le_of_ble_eq_true rfl) dX8_addRule_92 (sX8_ruleCell hM) (fun r h9 hq => ?_) (fun x h9 hq => hq.elim)
      obtain ⟨rfl, z42, rfl, hM⟩ := hq
      refine zV_iload_n O dX8_addRule_95 rfl rfl ?_
      refine zV_if_eq (tgt := 103) O dX8_addRule_96 (by decide) (fun hc => ?_) (fun hc => ?_)
      · replace hM := hM.1 hc
        refine zV_iconst (z := 0) O ⟨by omega, by omega⟩ dX8_addRule_103 ?_
        refine zV_sub (ls2 := [some (aR 185), none, none, some (aI v3), some (aI v4), some (aI (rd h38 186 1))]) ⟨rfl, rfl, rfl, rfl, trivial⟩ ?_
        exact sX8_addRule_b104 O (Or.inl rfl) hM
      · replace hM := hM.2 hc
        refine zV_iconst (z := 1) O ⟨by omega, by omega⟩ dX8_addRule_99 ?_
        refine zV_goto (tgt := 104) O dX8_addRule_100 (by decide) ?_
        refine zV_sub (ls2 := [some (aR 185), none, none, some (aI v3), some (aI v4), some (aI (rd h38 186 1))]) ⟨rfl, rfl, rfl, rfl, trivial⟩ ?_
        exact sX8_addRule_b104 O (Or.inr rfl) hM
    · replace hM := hM.2 hc
      refine zV_bipush (z := -2) O ⟨by omega, by omega⟩ rfl dX8_addRule_62 ?_
      exact zV_iret O rfl ⟨_, rfl, hM⟩ (Nat.le_of_ble_eq_true rfl) (Nat.le_of_ble_eq_true rfl) dX8_addRule_64
  · replace hM := hM.2 hc
    refine zV_iconst (z := 0) O ⟨by omega, by omega⟩ dX8_addRule_45 ?_
    exact zV_iret O rfl ⟨_, rfl, hM⟩ (Nat.le_of_ble_eq_true rfl) (Nat.le_of_ble_eq_true rfl) dX8_addRule_46
def mX8_addRule_b37 (Q : Int → Hp → Prop) (v1 : Int) (v2 : Int) (v3 : Int) (v4 : Int) (h : Hp) : Prop := (mX8_addRule_b38 Q v1 v2 v3 v4 0 h)
set_option maxHeartbeats 4000000 in
set_option maxRecDepth 100000 in
theorem sX8_addRule_b37 {l0 : Launch} {a : ZC}  {Q : Int → Hp → Prop}  (O : zOk l0 a cX8_addRule RX8 6 (some .int) 197 [])   {v1 : Int} {v2 : Int} {v3 : Int} {v4 : Int} {h : Hp}  (hM : mX8_addRule_b37 Q v1 v2 v3 v4 h) : zV a (3, 0, 0, (qI Q), xN) 0 0 37 [some (aR 185), some (aI v1), some (aI v2), some (aI v3), some (aI v4), none] [aR 185] h := by
  unfold mX8_addRule_b37 at hM
  refine zV_iconst (z := 0) O ⟨by omega, by omega⟩ dX8_addRule_37 ?_
  exact sX8_addRule_b38 O (Or.inl rfl) hM
def mX8_addRule (x1 : Int) (x2 : Int) (x3 : Int) (x4 : Int) (h : Hp) (Q : Int → Hp → Prop) : Prop := (∀ h43 : Hp, h43 = hu h 185 0 0 → (mX8_isOffice x1 h43 (fun z44 => (mX8_fails z44 1 h43 (fun z45 h46 => ((¬ z45 = 0 → (Q 0 h46)) ∧ (z45 = 0 → (mX8_isSide x3 h46 (fun z47 => ((z47 = 0 → (mX8_addRule_b37 Q x1 x2 x3 x4 h46)) ∧ (¬ z47 = 0 → (mX8_isSide x4 h46 (fun z48 => ((z48 = 0 → (mX8_addRule_b37 Q x1 x2 x3 x4 h46)) ∧ (¬ z48 = 0 → (mX8_addRule_b38 Q x1 x2 x3 x4 1 h46))))))))))))))))
set_option maxHeartbeats 4000000 in
set_option maxRecDepth 100000 in
theorem sX8_addRule {l0 : Launch} {x1 : Int} {x2 : Int} {x3 : Int} {x4 : Int} {h : Hp} {Q : Int → Hp → Prop}  (hM : mX8_addRule x1 x2 x3 x4 h Q) : zSp l0 yX8_addRule cX8_addRule 6 (some .int) 197 (3) 0 0 [aR 185, aI x1, aI x2, aI x3, aI x4] h (qI Q) xN := by
  unfold mX8_addRule at hM
  refine zSp_intro zpn_RX8 (Nat.le_of_ble_eq_true rfl) (fun a O => ?_)
  show zV a (3, 0, 0, (qI Q), xN) 0 0 0 [some (aR 185), some (aI x1), some (aI x2), some (aI x3), some (aI x4), none] [] h
  refine zV_aload_n O dX8_addRule_0 rfl rfl ?_
  refine zV_iconst (z := 0) O ⟨by omega, by omega⟩ dX8_addRule_1 ?_
  refine zV_putI O zf_RX8_1 zt_185 rfl (by decide) dX8_addRule_2 ?_
  have hM := hM _ rfl
  generalize hu h 185 0 0 = h43 at hM ⊢
  refine zV_aload_n O dX8_addRule_5 rfl rfl ?_
  refine zV_iload_n O dX8_addRule_6 rfl rfl ?_
  refine zV_callS (as := [aI x1]) (st := [aR 185]) O zc_X8_isOffice (Or.inl zl_RX8_300) zi_1601 (Nat.le_of_ble_eq_true rfl) rfl rfl (Nat.le_of_ble_eq_true rfl) (Nat.le_of_ble_eq_true rfl) (Nat.le_of_ble_eq_true rfl) (Nat.le_of_ble_eq_true rfl) (Nat.le_of_ble_eq_true rfl) (Nat.le_of_ble_eq_true rfl) dX8_addRule_7 (sX8_isOffice hM) (fun r h9 hq => ?_) (fun x h9 hq => hq.elim)
  obtain ⟨rfl, z44, rfl, hzz44, hM⟩ := hq
  refine zV_iconst (z := 1) O ⟨by omega, by omega⟩ dX8_addRule_10 ?_
  refine zV_callV (as := [aI z44, aI 1]) (st := []) O zc_X8_fails (Or.inl zl_RX8_201) zi_1420 zi_93 zt_185 rfl rfl (by decide) (Nat.le_of_ble_eq_true rfl) rfl rfl (Nat.le_of_ble_eq_true rfl) (Nat.le_of_ble_eq_true rfl) (Nat.le_of_ble_eq_true rfl) (Nat.le_of_ble_eq_true rfl) (Nat.le_of_ble_eq_true rfl) (Nat.le_of_ble_eq_true rfl) dX8_addRule_11 (sX8_fails hM) (fun r h46 hq => ?_) (fun x h9 hq => hq.elim)
  obtain ⟨z45, rfl, hzz45, hM⟩ := hq
  refine zV_if_ne (tgt := 45) O dX8_addRule_14 (by decide) (fun hc => ?_) (fun hc => ?_)
  · replace hM := hM.1 hc
    refine zV_iconst (z := 0) O ⟨by omega, by omega⟩ dX8_addRule_45 ?_
    exact zV_iret O rfl ⟨_, rfl, hM⟩ (Nat.le_of_ble_eq_true rfl) (Nat.le_of_ble_eq_true rfl) dX8_addRule_46
  · replace hM := hM.2 hc
    refine zV_aload_n O dX8_addRule_17 rfl rfl ?_
    refine zV_iload_n O dX8_addRule_18 rfl rfl ?_
    refine zV_callS (as := [aI x3]) (st := [aR 185]) O zc_X8_isSide (Or.inl zl_RX8_351) zi_1807 (Nat.le_of_ble_eq_true rfl) rfl rfl (Nat.le_of_ble_eq_true rfl) (Nat.le_of_ble_eq_true rfl) (Nat.le_of_ble_eq_true rfl) (Nat.le_of_ble_eq_true rfl) (Nat.le_of_ble_eq_true rfl) (Nat.le_of_ble_eq_true rfl) dX8_addRule_19 (sX8_isSide hM) (fun r h9 hq => ?_) (fun x h9 hq => hq.elim)
    obtain ⟨rfl, z47, rfl, hzz47, hM⟩ := hq
    refine zV_if_eq (tgt := 37) O dX8_addRule_22 (by decide) (fun hc => ?_) (fun hc => ?_)
    · replace hM := hM.1 hc
      exact sX8_addRule_b37 O hM
    · replace hM := hM.2 hc
      refine zV_iload O dX8_addRule_25 rfl ?_
      refine zV_callS (as := [aI x4]) (st := [aR 185]) O zc_X8_isSide (Or.inl zl_RX8_351) zi_1807 (Nat.le_of_ble_eq_true rfl) rfl rfl (Nat.le_of_ble_eq_true rfl) (Nat.le_of_ble_eq_true rfl) (Nat.le_of_ble_eq_true rfl) (Nat.le_of_ble_eq_true rfl) (Nat.le_of_ble_eq_true rfl) (Nat.le_of_ble_eq_true rfl) dX8_addRule_27 (sX8_isSide hM) (fun r h9 hq => ?_) (fun x h9 hq => hq.elim)
      obtain ⟨rfl, z48, rfl, hzz48, hM⟩ := hq
      refine zV_if_eq (tgt := 37) O dX8_addRule_30 (by decide) (fun hc => ?_) (fun hc => ?_)
      · replace hM := hM.1 hc
        exact sX8_addRule_b37 O hM
      · replace hM := hM.2 hc
        refine zV_iconst (z := 1) O ⟨by omega, by omega⟩ dX8_addRule_33 ?_
        refine zV_goto (tgt := 38) O dX8_addRule_34 (by decide) ?_
        exact sX8_addRule_b38 O (Or.inr rfl) hM
def mX8_areOfNet (x1 : Int) (x2 : Int) (h : Hp) (Q : Int → Prop) : Prop := (((0 : Int) ≤ 7 ∧ (7 : Int) < 1096) ∧ (((rd h 186 7) = (1 : Int) → (Q 1)) ∧ (¬ (rd h 186 7) = (1 : Int) → (mX8_of x1 0 h (fun z3 => (mX8_of x2 0 h (fun z4 => ((¬ z3 = z4 → (Q 0)) ∧ (z3 = z4 → (Q 1))))))))))
set_option maxHeartbeats 4000000 in
set_option maxRecDepth 100000 in
theorem sX8_areOfNet {l0 : Launch} {x1 : Int} {x2 : Int} {h : Hp} {Q : Int → Prop}  (hM : mX8_areOfNet x1 x2 h Q) : zSp l0 yX8_areOfNet cX8_areOfNet 3 (some .boolean) 197 (3) 0 0 [aR 185, aI x1, aI x2] h (qPZ h Q) xN := by
  unfold mX8_areOfNet at hM
  refine zSp_intro zpn_RX8 (Nat.le_of_ble_eq_true rfl) (fun a O => ?_)
  show zV a (3, 0, 0, (qPZ h Q), xN) 0 0 0 [some (aR 185), some (aI x1), some (aI x2)] [] h
  refine zV_aload_n O dX8_areOfNet_0 rfl rfl ?_
  refine zV_getR O zf_RX8_13 zt_185 rfl (by decide) dX8_areOfNet_1 ?_
  refine zV_bipush (z := 7) O ⟨by omega, by omega⟩ rfl dX8_areOfNet_4 ?_
  obtain ⟨hc, hM⟩ := hM
  refine zV_iald O zt_186 (by decide) hc dX8_areOfNet_6 ?_
  refine zV_iconst (z := 1) O ⟨by omega, by omega⟩ dX8_areOfNet_7 ?_
  refine zV_icmp_eq (tgt := 26) O dX8_areOfNet_8 (by decide) (fun hc => ?_) (fun hc => ?_)
  · replace hM := hM.1 hc
    refine zV_iconst (z := 1) O ⟨by omega, by omega⟩ dX8_areOfNet_26 ?_
    refine zV_goto (tgt := 31) O dX8_areOfNet_27 (by decide) ?_
    exact zV_zret O rfl (Or.inr rfl) ⟨rfl, _, rfl, (Or.inr rfl), hM⟩ (Nat.le_of_ble_eq_true rfl) (Nat.le_of_ble_eq_true rfl) dX8_areOfNet_31
  · replace hM := hM.2 hc
    refine zV_aload_n O dX8_areOfNet_11 rfl rfl ?_
    refine zV_iload_n O dX8_areOfNet_12 rfl rfl ?_
    refine zV_iconst (z := 0) O ⟨by omega, by omega⟩ dX8_areOfNet_13 ?_
    refine zV_callV (as := [aI x1, aI 0]) (st := []) O zc_X8_of (Or.inl zl_RX8_218) zi_1549 zi_117 zt_185 rfl rfl (by decide) (Nat.le_of_ble_eq_true rfl) rfl rfl (Nat.le_of_ble_eq_true rfl) (Nat.le_of_ble_eq_true rfl) (Nat.le_of_ble_eq_true rfl) (Nat.le_of_ble_eq_true rfl) (Nat.le_of_ble_eq_true rfl) (Nat.le_of_ble_eq_true rfl) dX8_areOfNet_14 (sX8_of hM) (fun r h9 hq => ?_) (fun x h9 hq => hq.elim)
    obtain ⟨rfl, z3, rfl, hM⟩ := hq
    refine zV_aload_n O dX8_areOfNet_17 rfl rfl ?_
    refine zV_iload_n O dX8_areOfNet_18 rfl rfl ?_
    refine zV_iconst (z := 0) O ⟨by omega, by omega⟩ dX8_areOfNet_19 ?_
    refine zV_callV (as := [aI x2, aI 0]) (st := [aI z3]) O zc_X8_of (Or.inl zl_RX8_218) zi_1549 zi_117 zt_185 rfl rfl (by decide) (Nat.le_of_ble_eq_true rfl) rfl rfl (Nat.le_of_ble_eq_true rfl) (Nat.le_of_ble_eq_true rfl) (Nat.le_of_ble_eq_true rfl) (Nat.le_of_ble_eq_true rfl) (Nat.le_of_ble_eq_true rfl) (Nat.le_of_ble_eq_true rfl) dX8_areOfNet_20 (sX8_of hM) (fun r h9 hq => ?_) (fun x h9 hq => hq.elim)
    obtain ⟨rfl, z4, rfl, hM⟩ := hq
    refine zV_icmp_ne (tgt := 30) O dX8_areOfNet_23 (by decide) (fun hc => ?_) (fun hc => ?_)
    · replace hM := hM.1 hc
      refine zV_iconst (z := 0) O ⟨by omega, by omega⟩ dX8_areOfNet_30 ?_
      exact zV_zret O rfl (Or.inl rfl) ⟨rfl, _, rfl, (Or.inl rfl), hM⟩ (Nat.le_of_ble_eq_true rfl) (Nat.le_of_ble_eq_true rfl) dX8_areOfNet_31
    · replace hM := hM.2 hc
      refine zV_iconst (z := 1) O ⟨by omega, by omega⟩ dX8_areOfNet_26 ?_
      refine zV_goto (tgt := 31) O dX8_areOfNet_27 (by decide) ?_
      exact zV_zret O rfl (Or.inr rfl) ⟨rfl, _, rfl, (Or.inr rfl), hM⟩ (Nat.le_of_ble_eq_true rfl) (Nat.le_of_ble_eq_true rfl) dX8_areOfNet_31
def mX8_choosen_b43 (h : Hp) (Q : Int → Prop) (K2 : Int → Int → Int → Prop) (v1 : Int) (v2 : Int) (v3 : Int) : Prop := (zr (v3 + 1) ∧ (K2 v1 v2 (v3 + 1)))
set_option maxHeartbeats 4000000 in
set_option maxRecDepth 100000 in
theorem sX8_choosen_b43 {l0 : Launch} {a : ZC}  {h : Hp} {Q : Int → Prop} {K2 : Int → Int → Int → Prop} (O : zOk l0 a cX8_choosen RX8 4 (some .int) 197 [])  (hK2 : ∀ (v1 : Int) (v2 : Int) (v3 : Int), K2 v1 v2 v3 → zV a (3, 0, 0, (qPI h Q), xN) 0 0 2 [some (aR 185), some (aI v1), some (aI v2), some (aI v3)] [] h) {v1 : Int} {v2 : Int} {v3 : Int}   (hM : mX8_choosen_b43 h Q K2 v1 v2 v3) : zV a (3, 0, 0, (qPI h Q), xN) 0 0 43 [some (aR 185), some (aI v1), some (aI v2), some (aI v3)] [] h := by
  unfold mX8_choosen_b43 at hM
  obtain ⟨hc, hM⟩ := hM
  refine zV_iinc O dX8_choosen_43 rfl (Nat.le_of_ble_eq_true rfl) rfl hc ?_
  refine zV_goto (tgt := 2) O dX8_choosen_46 (by decide) ?_
  exact hK2 _ _ _ hM
def mX8_choosen_b2 (h : Hp) (Q : Int → Prop) : Nat → Int → Int → Int → Prop
  | 0 => fun _ _ _ => False
  | fu2 + 1 => fun v1 v2 v3 => (((0 : Int) ≤ 0 ∧ (0 : Int) < 1096) ∧ (((rd h 186 0) ≤ v3 → (Q (-1))) ∧ (¬ (rd h 186 0) ≤ v3 → (mX8_of v3 0 h (fun z10 => ((¬ z10 = v1 → (mX8_choosen_b43 h Q (mX8_choosen_b2 h Q fu2) v1 v2 v3)) ∧ (z10 = v1 → (mX8_of v3 1 h (fun z11 => ((¬ z11 = v2 → (mX8_choosen_b43 h Q (mX8_choosen_b2 h Q fu2) v1 v2 v3)) ∧ (z11 = v2 → (mX8_of v3 2 h (fun z12 => ((¬ z12 = 0 → (mX8_choosen_b43 h Q (mX8_choosen_b2 h Q fu2) v1 v2 v3)) ∧ (z12 = 0 → (Q v3))))))))))))))))
set_option maxHeartbeats 4000000 in
set_option maxRecDepth 100000 in
theorem sX8_choosen_b2 {l0 : Launch} {a : ZC}  {h : Hp} {Q : Int → Prop}  (O : zOk l0 a cX8_choosen RX8 4 (some .int) 197 [])   : ∀ (ff : Nat) (v1 : Int) (v2 : Int) (v3 : Int) , mX8_choosen_b2 h Q ff v1 v2 v3 → zV a (3, 0, 0, (qPI h Q), xN) 0 0 2 [some (aR 185), some (aI v1), some (aI v2), some (aI v3)] [] h := by
  intro ff
  induction ff with
  | zero => intro v1 v2 v3 hM; exact hM.elim
  | succ ff ih =>
    have hK2 := ih
    intro v1 v2 v3 hM
    unfold mX8_choosen_b2 at hM
    refine zV_iload_n O dX8_choosen_2 rfl rfl ?_
    refine zV_aload_n O dX8_choosen_3 rfl rfl ?_
    refine zV_getR O zf_RX8_13 zt_185 rfl (by decide) dX8_choosen_4 ?_
    refine zV_iconst (z := 0) O ⟨by omega, by omega⟩ dX8_choosen_7 ?_
    obtain ⟨hc, hM⟩ := hM
    refine zV_iald O zt_186 (by decide) hc dX8_choosen_8 ?_
    refine zV_icmp_ge (tgt := 49) O dX8_choosen_9 (by decide) (fun hc => ?_) (fun hc => ?_)
    · replace hM := hM.1 hc
      refine zV_iconst (z := -1) O ⟨by omega, by omega⟩ dX8_choosen_49 ?_
      exact zV_iret O rfl ⟨rfl, _, rfl, hM⟩ (Nat.le_of_ble_eq_true rfl) (Nat.le_of_ble_eq_true rfl) dX8_choosen_50
    · replace hM := hM.2 hc
      refine zV_aload_n O dX8_choosen_12 rfl rfl ?_
      refine zV_iload_n O dX8_choosen_13 rfl rfl ?_
      refine zV_iconst (z := 0) O ⟨by omega, by omega⟩ dX8_choosen_14 ?_
      refine zV_callV (as := [aI v3, aI 0]) (st := []) O zc_X8_of (Or.inl zl_RX8_218) zi_1549 zi_117 zt_185 rfl rfl (by decide) (Nat.le_of_ble_eq_true rfl) rfl rfl (Nat.le_of_ble_eq_true rfl) (Nat.le_of_ble_eq_true rfl) (Nat.le_of_ble_eq_true rfl) (Nat.le_of_ble_eq_true rfl) (Nat.le_of_ble_eq_true rfl) (Nat.le_of_ble_eq_true rfl) dX8_choosen_15 (sX8_of hM) (fun r h9 hq => ?_) (fun x h9 hq => hq.elim)
      obtain ⟨rfl, z10, rfl, hM⟩ := hq
      refine zV_iload_n O dX8_choosen_18 rfl rfl ?_
      refine zV_icmp_ne (tgt := 43) O dX8_choosen_19 (by decide) (fun hc => ?_) (fun hc => ?_)
      · replace hM := hM.1 hc
        exact sX8_choosen_b43 O hK2 hM
      · replace hM := hM.2 hc
        refine zV_aload_n O dX8_choosen_22 rfl rfl ?_
        refine zV_iload_n O dX8_choosen_23 rfl rfl ?_
        refine zV_iconst (z := 1) O ⟨by omega, by omega⟩ dX8_choosen_24 ?_
        refine zV_callV (as := [aI v3, aI 1]) (st := []) O zc_X8_of (Or.inl zl_RX8_218) zi_1549 zi_117 zt_185 rfl rfl (by decide) (Nat.le_of_ble_eq_true rfl) rfl rfl (Nat.le_of_ble_eq_true rfl) (Nat.le_of_ble_eq_true rfl) (Nat.le_of_ble_eq_true rfl) (Nat.le_of_ble_eq_true rfl) (Nat.le_of_ble_eq_true rfl) (Nat.le_of_ble_eq_true rfl) dX8_choosen_25 (sX8_of hM) (fun r h9 hq => ?_) (fun x h9 hq => hq.elim)
        obtain ⟨rfl, z11, rfl, hM⟩ := hq
        refine zV_iload_n O dX8_choosen_28 rfl rfl ?_
        refine zV_icmp_ne (tgt := 43) O dX8_choosen_29 (by decide) (fun hc => ?_) (fun hc => ?_)
        · replace hM := hM.1 hc
          exact sX8_choosen_b43 O hK2 hM
        · replace hM := hM.2 hc
          refine zV_aload_n O dX8_choosen_32 rfl rfl ?_
          refine zV_iload_n O dX8_choosen_33 rfl rfl ?_
          refine zV_iconst (z := 2) O ⟨by omega, by omega⟩ dX8_choosen_34 ?_
          refine zV_callV (as := [aI v3, aI 2]) (st := []) O zc_X8_of (Or.inl zl_RX8_218) zi_1549 zi_117 zt_185 rfl rfl (by decide) (Nat.le_of_ble_eq_true rfl) rfl rfl (Nat.le_of_ble_eq_true rfl) (Nat.le_of_ble_eq_true rfl) (Nat.le_of_ble_eq_true rfl) (Nat.le_of_ble_eq_true rfl) (Nat.le_of_ble_eq_true rfl) (Nat.le_of_ble_eq_true rfl) dX8_choosen_35 (sX8_of hM) (fun r h9 hq => ?_) (fun x h9 hq => hq.elim)
          obtain ⟨rfl, z12, rfl, hM⟩ := hq
          refine zV_if_ne (tgt := 43) O dX8_choosen_38 (by decide) (fun hc => ?_) (fun hc => ?_)
          · replace hM := hM.1 hc
            exact sX8_choosen_b43 O hK2 hM
          · replace hM := hM.2 hc
            refine zV_iload_n O dX8_choosen_41 rfl rfl ?_
            exact zV_iret O rfl ⟨rfl, _, rfl, hM⟩ (Nat.le_of_ble_eq_true rfl) (Nat.le_of_ble_eq_true rfl) dX8_choosen_42
def mX8_choosen (x1 : Int) (x2 : Int) (h : Hp) (Q : Int → Prop) : Prop := (∃ ff, mX8_choosen_b2 h Q ff x1 x2 0)
set_option maxHeartbeats 4000000 in
set_option maxRecDepth 100000 in
theorem sX8_choosen {l0 : Launch} {x1 : Int} {x2 : Int} {h : Hp} {Q : Int → Prop}  (hM : mX8_choosen x1 x2 h Q) : zSp l0 yX8_choosen cX8_choosen 4 (some .int) 197 (3) 0 0 [aR 185, aI x1, aI x2] h (qPI h Q) xN := by
  unfold mX8_choosen at hM
  refine zSp_intro zpn_RX8 (Nat.le_of_ble_eq_true rfl) (fun a O => ?_)
  show zV a (3, 0, 0, (qPI h Q), xN) 0 0 0 [some (aR 185), some (aI x1), some (aI x2), none] [] h
  refine zV_iconst (z := 0) O ⟨by omega, by omega⟩ dX8_choosen_0 ?_
  refine zV_istore_n O dX8_choosen_1 rfl (Nat.le_of_ble_eq_true rfl) rfl ?_
  obtain ⟨ff, hM⟩ := hM
  exact sX8_choosen_b2 O ff _ _ _ hM
def mX8_close_b63 (Q : Int → Hp → Prop) (K38 : Int → Int → Hp → Prop) (v2 : Int) (s0 : Int) (s1 : Int) (h : Hp) : Prop := (zr (s1 + s0) ∧ (zr (v2 + 1) ∧ (K38 (s1 + s0) (v2 + 1) h)))
set_option maxHeartbeats 4000000 in
set_option maxRecDepth 100000 in
theorem sX8_close_b63 {l0 : Launch} {a : ZC}  {Q : Int → Hp → Prop} {K38 : Int → Int → Hp → Prop} (O : zOk l0 a cX8_close RX8 3 (some .int) 197 [])  (hK38 : ∀ (v1 : Int) (v2 : Int) (h : Hp), K38 v1 v2 h → zV a (3, 0, 0, (qI Q), xN) 0 0 38 [some (aR 185), some (aI v1), some (aI v2)] [] h) {v2 : Int} {s0 : Int} {s1 : Int} {h : Hp} (hz_s0 : s0 = 0 ∨ s0 = 1) (hM : mX8_close_b63 Q K38 v2 s0 s1 h) : zV a (3, 0, 0, (qI Q), xN) 0 0 63 [some (aR 185), none, some (aI v2)] [aI s0, aI s1] h := by
  unfold mX8_close_b63 at hM
  obtain ⟨hc, hM⟩ := hM
  refine zV_iadd O dX8_close_63 hc ?_
  refine zV_istore_n O dX8_close_64 rfl (Nat.le_of_ble_eq_true rfl) rfl ?_
  obtain ⟨hc, hM⟩ := hM
  refine zV_iinc O dX8_close_65 rfl (Nat.le_of_ble_eq_true rfl) rfl hc ?_
  refine zV_goto (tgt := 38) O dX8_close_68 (by decide) ?_
  exact hK38 _ _ _ hM
def mX8_close_b38 (Q : Int → Hp → Prop) : Nat → Int → Int → Hp → Prop
  | 0 => fun _ _ _ => False
  | fu38 + 1 => fun v1 v2 h => (((0 : Int) ≤ 0 ∧ (0 : Int) < 1096) ∧ (((rd h 186 0) ≤ v2 → (Q v1 h)) ∧ (¬ (rd h 186 0) ≤ v2 → (mX8_of v2 0 h (fun z7 => ((¬ z7 = 0 → (mX8_close_b63 Q (mX8_close_b38 Q fu38) v2 0 v1 h)) ∧ (z7 = 0 → (mX8_close_b63 Q (mX8_close_b38 Q fu38) v2 1 v1 h))))))))
set_option maxHeartbeats 4000000 in
set_option maxRecDepth 100000 in
theorem sX8_close_b38 {l0 : Launch} {a : ZC}  {Q : Int → Hp → Prop}  (O : zOk l0 a cX8_close RX8 3 (some .int) 197 [])   : ∀ (ff : Nat) (v1 : Int) (v2 : Int) (h : Hp), mX8_close_b38 Q ff v1 v2 h → zV a (3, 0, 0, (qI Q), xN) 0 0 38 [some (aR 185), some (aI v1), some (aI v2)] [] h := by
  intro ff
  induction ff with
  | zero => intro v1 v2 h hM; exact hM.elim
  | succ ff ih =>
    have hK38 := ih
    intro v1 v2 h hM
    unfold mX8_close_b38 at hM
    refine zV_iload_n O dX8_close_38 rfl rfl ?_
    refine zV_aload_n O dX8_close_39 rfl rfl ?_
    refine zV_getR O zf_RX8_13 zt_185 rfl (by decide) dX8_close_40 ?_
    refine zV_iconst (z := 0) O ⟨by omega, by omega⟩ dX8_close_43 ?_
    obtain ⟨hc, hM⟩ := hM
    refine zV_iald O zt_186 (by decide) hc dX8_close_44 ?_
    refine zV_icmp_ge (tgt := 71) O dX8_close_45 (by decide) (fun hc => ?_) (fun hc => ?_)
    · replace hM := hM.1 hc
      refine zV_iload_n O dX8_close_71 rfl rfl ?_
      exact zV_iret O rfl ⟨_, rfl, hM⟩ (Nat.le_of_ble_eq_true rfl) (Nat.le_of_ble_eq_true rfl) dX8_close_72
    · replace hM := hM.2 hc
      refine zV_iload_n O dX8_close_48 rfl rfl ?_
      refine zV_aload_n O dX8_close_49 rfl rfl ?_
      refine zV_iload_n O dX8_close_50 rfl rfl ?_
      refine zV_iconst (z := 0) O ⟨by omega, by omega⟩ dX8_close_51 ?_
      refine zV_callV (as := [aI v2, aI 0]) (st := [aI v1]) O zc_X8_of (Or.inl zl_RX8_218) zi_1549 zi_117 zt_185 rfl rfl (by decide) (Nat.le_of_ble_eq_true rfl) rfl rfl (Nat.le_of_ble_eq_true rfl) (Nat.le_of_ble_eq_true rfl) (Nat.le_of_ble_eq_true rfl) (Nat.le_of_ble_eq_true rfl) (Nat.le_of_ble_eq_true rfl) (Nat.le_of_ble_eq_true rfl) dX8_close_52 (sX8_of hM) (fun r h9 hq => ?_) (fun x h9 hq => hq.elim)
      obtain ⟨rfl, z7, rfl, hM⟩ := hq
      refine zV_if_ne (tgt := 62) O dX8_close_55 (by decide) (fun hc => ?_) (fun hc => ?_)
      · replace hM := hM.1 hc
        refine zV_iconst (z := 0) O ⟨by omega, by omega⟩ dX8_close_62 ?_
        refine zV_sub (ls2 := [some (aR 185), none, some (aI v2)]) ⟨rfl, rfl, trivial⟩ ?_
        exact sX8_close_b63 O hK38 (Or.inl rfl) hM
      · replace hM := hM.2 hc
        refine zV_iconst (z := 1) O ⟨by omega, by omega⟩ dX8_close_58 ?_
        refine zV_goto (tgt := 63) O dX8_close_59 (by decide) ?_
        refine zV_sub (ls2 := [some (aR 185), none, some (aI v2)]) ⟨rfl, rfl, trivial⟩ ?_
        exact sX8_close_b63 O hK38 (Or.inr rfl) hM
def mX8_close  (h : Hp) (Q : Int → Hp → Prop) : Prop := (∀ h8 : Hp, h8 = hu h 185 0 0 → (((0 : Int) ≤ 7 ∧ (7 : Int) < 1096) ∧ ((¬ (rd h8 186 7) = 0 → (mX8_keeps 186 1096 h8 (fun h9 => (((0 : Int) ≤ 7 ∧ (7 : Int) < 1096) ∧ (∀ h10 : Hp, h10 = wr h9 186 7 0 → (∃ ff, mX8_close_b38 Q ff 0 0 h10)))))) ∧ ((rd h8 186 7) = 0 → (Q (-2) h8)))))
set_option maxHeartbeats 4000000 in
set_option maxRecDepth 100000 in
theorem sX8_close {l0 : Launch}  {h : Hp} {Q : Int → Hp → Prop}  (hM : mX8_close  h Q) : zSp l0 yX8_close cX8_close 3 (some .int) 197 (3) 0 0 [aR 185] h (qI Q) xN := by
  unfold mX8_close at hM
  refine zSp_intro zpn_RX8 (Nat.le_of_ble_eq_true rfl) (fun a O => ?_)
  show zV a (3, 0, 0, (qI Q), xN) 0 0 0 [some (aR 185), none, none] [] h
  refine zV_aload_n O dX8_close_0 rfl rfl ?_
  refine zV_iconst (z := 0) O ⟨by omega, by omega⟩ dX8_close_1 ?_
  refine zV_putI O zf_RX8_1 zt_185 rfl (by decide) dX8_close_2 ?_
  have hM := hM _ rfl
  generalize hu h 185 0 0 = h8 at hM ⊢
  refine zV_aload_n O dX8_close_5 rfl rfl ?_
  refine zV_getR O zf_RX8_13 zt_185 rfl (by decide) dX8_close_6 ?_
  refine zV_bipush (z := 7) O ⟨by omega, by omega⟩ rfl dX8_close_9 ?_
  obtain ⟨hc, hM⟩ := hM
  refine zV_iald O zt_186 (by decide) hc dX8_close_11 ?_
  refine zV_if_ne (tgt := 18) O dX8_close_12 (by decide) (fun hc => ?_) (fun hc => ?_)
  · replace hM := hM.1 hc
    refine zV_aload_n O dX8_close_18 rfl rfl ?_
    refine zV_aload_n O dX8_close_19 rfl rfl ?_
    refine zV_getR O zf_RX8_13 zt_185 rfl (by decide) dX8_close_20 ?_
    refine zV_callV (as := [aR 186]) (st := []) O zc_X8_keeps (Or.inl zl_RX8_335) zi_1752 zi_147 zt_185 rfl rfl (by decide) (Nat.le_of_ble_eq_true rfl) rfl rfl (Nat.le_of_ble_eq_true rfl) (Nat.le_of_ble_eq_true rfl) (Nat.le_of_ble_eq_true rfl) (Nat.le_of_ble_eq_true rfl) (Nat.le_of_ble_eq_true rfl) (Nat.le_of_ble_eq_true rfl) dX8_close_23 (sX8_keeps zt_186 (by decide) ⟨by decide, by decide⟩ hM) (fun r h9 hq => ?_) (fun x h9 hq => hq.elim)
    obtain ⟨rfl, hM⟩ := hq
    refine zV_aload_n O dX8_close_26 rfl rfl ?_
    refine zV_getR O zf_RX8_13 zt_185 rfl (by decide) dX8_close_27 ?_
    refine zV_bipush (z := 7) O ⟨by omega, by omega⟩ rfl dX8_close_30 ?_
    refine zV_iconst (z := 0) O ⟨by omega, by omega⟩ dX8_close_32 ?_
    obtain ⟨hc, hM⟩ := hM
    refine zV_iast O zt_186 (by decide) hc dX8_close_33 ?_
    have hM := hM (hu h9 186 (Int.toNat 7) 0) rfl
    generalize hu h9 186 (Int.toNat 7) 0 = h10 at hM ⊢
    refine zV_iconst (z := 0) O ⟨by omega, by omega⟩ dX8_close_34 ?_
    refine zV_istore_n O dX8_close_35 rfl (Nat.le_of_ble_eq_true rfl) rfl ?_
    refine zV_iconst (z := 0) O ⟨by omega, by omega⟩ dX8_close_36 ?_
    refine zV_istore_n O dX8_close_37 rfl (Nat.le_of_ble_eq_true rfl) rfl ?_
    obtain ⟨ff, hM⟩ := hM
    exact sX8_close_b38 O ff _ _ _ hM
  · replace hM := hM.2 hc
    refine zV_bipush (z := -2) O ⟨by omega, by omega⟩ rfl dX8_close_15 ?_
    exact zV_iret O rfl ⟨_, rfl, hM⟩ (Nat.le_of_ble_eq_true rfl) (Nat.le_of_ble_eq_true rfl) dX8_close_17
def mX8_firstWave_b9 (h : Hp) (Q : Int → Prop) : Nat → Int → Prop
  | 0 => fun _ => False
  | fu9 + 1 => fun v1 => (((9 : Int) < v1 → (Q (-1))) ∧ (¬ (9 : Int) < v1 → (mX8_plansIn 186 1096 v1 h (fun z3 => (((0 : Int) ≤ 4 ∧ (4 : Int) < 1096) ∧ (((rd h 186 4) ≤ z3 → (zr (v1 + 1) ∧ ((mX8_firstWave_b9 h Q fu9) (v1 + 1)))) ∧ (¬ (rd h 186 4) ≤ z3 → (Q v1))))))))
set_option maxHeartbeats 4000000 in
set_option maxRecDepth 100000 in
theorem sX8_firstWave_b9 {l0 : Launch} {a : ZC}  {h : Hp} {Q : Int → Prop}  (O : zOk l0 a cX8_firstWave RX8 2 (some .int) 197 [])   : ∀ (ff : Nat) (v1 : Int) , mX8_firstWave_b9 h Q ff v1 → zV a (3, 0, 0, (qPI h Q), xN) 0 0 9 [some (aR 185), some (aI v1)] [] h := by
  intro ff
  induction ff with
  | zero => intro v1 hM; exact hM.elim
  | succ ff ih =>
    have hK9 := ih
    intro v1 hM
    unfold mX8_firstWave_b9 at hM
    refine zV_iload_n O dX8_firstWave_9 rfl rfl ?_
    refine zV_bipush (z := 9) O ⟨by omega, by omega⟩ rfl dX8_firstWave_10 ?_
    refine zV_icmp_gt (tgt := 41) O dX8_firstWave_12 (by decide) (fun hc => ?_) (fun hc => ?_)
    · replace hM := hM.1 hc
      refine zV_iconst (z := -1) O ⟨by omega, by omega⟩ dX8_firstWave_41 ?_
      exact zV_iret O rfl ⟨rfl, _, rfl, hM⟩ (Nat.le_of_ble_eq_true rfl) (Nat.le_of_ble_eq_true rfl) dX8_firstWave_42
    · replace hM := hM.2 hc
      refine zV_aload_n O dX8_firstWave_15 rfl rfl ?_
      refine zV_aload_n O dX8_firstWave_16 rfl rfl ?_
      refine zV_getR O zf_RX8_13 zt_185 rfl (by decide) dX8_firstWave_17 ?_
      refine zV_iload_n O dX8_firstWave_20 rfl rfl ?_
      refine zV_callV (as := [aR 186, aI v1]) (st := []) O zc_X8_plansIn (Or.inl zl_RX8_179) zi_1536 zi_115 zt_185 rfl rfl (by decide) (Nat.le_of_ble_eq_true rfl) rfl rfl (Nat.le_of_ble_eq_true rfl) (Nat.le_of_ble_eq_true rfl) (Nat.le_of_ble_eq_true rfl) (Nat.le_of_ble_eq_true rfl) (Nat.le_of_ble_eq_true rfl) (Nat.le_of_ble_eq_true rfl) dX8_firstWave_21 (sX8_plansIn zt_186 (by decide) ⟨by decide, by decide⟩ hM) (fun r h9 hq => ?_) (fun x h9 hq => hq.elim)
      obtain ⟨rfl, z3, rfl, hM⟩ := hq
      refine zV_aload_n O dX8_firstWave_24 rfl rfl ?_
      refine zV_getR O zf_RX8_13 zt_185 rfl (by decide) dX8_firstWave_25 ?_
      refine zV_iconst (z := 4) O ⟨by omega, by omega⟩ dX8_firstWave_28 ?_
      obtain ⟨hc, hM⟩ := hM
      refine zV_iald O zt_186 (by decide) hc dX8_firstWave_29 ?_
      refine zV_icmp_ge (tgt := 35) O dX8_firstWave_30 (by decide) (fun hc => ?_) (fun hc => ?_)
      · replace hM := hM.1 hc
        obtain ⟨hc, hM⟩ := hM
        refine zV_iinc O dX8_firstWave_35 rfl (Nat.le_of_ble_eq_true rfl) rfl hc ?_
        refine zV_goto (tgt := 9) O dX8_firstWave_38 (by decide) ?_
        exact hK9 _ hM
      · replace hM := hM.2 hc
        refine zV_iload_n O dX8_firstWave_33 rfl rfl ?_
        exact zV_iret O rfl ⟨rfl, _, rfl, hM⟩ (Nat.le_of_ble_eq_true rfl) (Nat.le_of_ble_eq_true rfl) dX8_firstWave_34
def mX8_firstWave  (h : Hp) (Q : Int → Prop) : Prop := (((0 : Int) ≤ 2 ∧ (2 : Int) < 1096) ∧ (zr ((rd h 186 2) + 1) ∧ (∃ ff, mX8_firstWave_b9 h Q ff ((rd h 186 2) + 1))))
set_option maxHeartbeats 4000000 in
set_option maxRecDepth 100000 in
theorem sX8_firstWave {l0 : Launch}  {h : Hp} {Q : Int → Prop}  (hM : mX8_firstWave  h Q) : zSp l0 yX8_firstWave cX8_firstWave 2 (some .int) 197 (3) 0 0 [aR 185] h (qPI h Q) xN := by
  unfold mX8_firstWave at hM
  refine zSp_intro zpn_RX8 (Nat.le_of_ble_eq_true rfl) (fun a O => ?_)
  show zV a (3, 0, 0, (qPI h Q), xN) 0 0 0 [some (aR 185), none] [] h
  refine zV_aload_n O dX8_firstWave_0 rfl rfl ?_
  refine zV_getR O zf_RX8_13 zt_185 rfl (by decide) dX8_firstWave_1 ?_
  refine zV_iconst (z := 2) O ⟨by omega, by omega⟩ dX8_firstWave_4 ?_
  obtain ⟨hc, hM⟩ := hM
  refine zV_iald O zt_186 (by decide) hc dX8_firstWave_5 ?_
  refine zV_iconst (z := 1) O ⟨by omega, by omega⟩ dX8_firstWave_6 ?_
  obtain ⟨hc, hM⟩ := hM
  refine zV_iadd O dX8_firstWave_7 hc ?_
  refine zV_istore_n O dX8_firstWave_8 rfl (Nat.le_of_ble_eq_true rfl) rfl ?_
  obtain ⟨ff, hM⟩ := hM
  exact sX8_firstWave_b9 O ff _ hM
def mX8_isMoving (x1 : Int) (h : Hp) (Q : Int → Prop) : Prop := (mX8_of x1 4 h (fun z2 => (((0 : Int) ≤ 2 ∧ (2 : Int) < 1096) ∧ (zr ((rd h 186 2) + 1) ∧ ((¬ z2 = ((rd h 186 2) + 1) → (Q 0)) ∧ (z2 = ((rd h 186 2) + 1) → (Q 1)))))))
set_option maxHeartbeats 4000000 in
set_option maxRecDepth 100000 in
theorem sX8_isMoving {l0 : Launch} {x1 : Int} {h : Hp} {Q : Int → Prop}  (hM : mX8_isMoving x1 h Q) : zSp l0 yX8_isMoving cX8_isMoving 2 (some .boolean) 197 (3) 0 0 [aR 185, aI x1] h (qPZ h Q) xN := by
  unfold mX8_isMoving at hM
  refine zSp_intro zpn_RX8 (Nat.le_of_ble_eq_true rfl) (fun a O => ?_)
  show zV a (3, 0, 0, (qPZ h Q), xN) 0 0 0 [some (aR 185), some (aI x1)] [] h
  refine zV_aload_n O dX8_isMoving_0 rfl rfl ?_
  refine zV_iload_n O dX8_isMoving_1 rfl rfl ?_
  refine zV_iconst (z := 4) O ⟨by omega, by omega⟩ dX8_isMoving_2 ?_
  refine zV_callV (as := [aI x1, aI 4]) (st := []) O zc_X8_of (Or.inl zl_RX8_218) zi_1549 zi_117 zt_185 rfl rfl (by decide) (Nat.le_of_ble_eq_true rfl) rfl rfl (Nat.le_of_ble_eq_true rfl) (Nat.le_of_ble_eq_true rfl) (Nat.le_of_ble_eq_true rfl) (Nat.le_of_ble_eq_true rfl) (Nat.le_of_ble_eq_true rfl) (Nat.le_of_ble_eq_true rfl) dX8_isMoving_3 (sX8_of hM) (fun r h9 hq => ?_) (fun x h9 hq => hq.elim)
  obtain ⟨rfl, z2, rfl, hM⟩ := hq
  refine zV_aload_n O dX8_isMoving_6 rfl rfl ?_
  refine zV_getR O zf_RX8_13 zt_185 rfl (by decide) dX8_isMoving_7 ?_
  refine zV_iconst (z := 2) O ⟨by omega, by omega⟩ dX8_isMoving_10 ?_
  obtain ⟨hc, hM⟩ := hM
  refine zV_iald O zt_186 (by decide) hc dX8_isMoving_11 ?_
  refine zV_iconst (z := 1) O ⟨by omega, by omega⟩ dX8_isMoving_12 ?_
  obtain ⟨hc, hM⟩ := hM
  refine zV_iadd O dX8_isMoving_13 hc ?_
  refine zV_icmp_ne (tgt := 21) O dX8_isMoving_14 (by decide) (fun hc => ?_) (fun hc => ?_)
  · replace hM := hM.1 hc
    refine zV_iconst (z := 0) O ⟨by omega, by omega⟩ dX8_isMoving_21 ?_
    exact zV_zret O rfl (Or.inl rfl) ⟨rfl, _, rfl, (Or.inl rfl), hM⟩ (Nat.le_of_ble_eq_true rfl) (Nat.le_of_ble_eq_true rfl) dX8_isMoving_22
  · replace hM := hM.2 hc
    refine zV_iconst (z := 1) O ⟨by omega, by omega⟩ dX8_isMoving_17 ?_
    refine zV_goto (tgt := 22) O dX8_isMoving_18 (by decide) ?_
    exact zV_zret O rfl (Or.inr rfl) ⟨rfl, _, rfl, (Or.inr rfl), hM⟩ (Nat.le_of_ble_eq_true rfl) (Nat.le_of_ble_eq_true rfl) dX8_isMoving_22
def mX8_isOfNet (x1 : Int) (x2 : Int) (h : Hp) (Q : Int → Prop) : Prop := (((0 : Int) ≤ 7 ∧ (7 : Int) < 1096) ∧ (((rd h 186 7) = (1 : Int) → (Q 1)) ∧ (¬ (rd h 186 7) = (1 : Int) → (mX8_of x1 0 h (fun z2 => ((¬ z2 = x2 → (Q 0)) ∧ (z2 = x2 → (Q 1))))))))
set_option maxHeartbeats 4000000 in
set_option maxRecDepth 100000 in
theorem sX8_isOfNet {l0 : Launch} {x1 : Int} {x2 : Int} {h : Hp} {Q : Int → Prop}  (hM : mX8_isOfNet x1 x2 h Q) : zSp l0 yX8_isOfNet cX8_isOfNet 3 (some .boolean) 197 (3) 0 0 [aR 185, aI x1, aI x2] h (qPZ h Q) xN := by
  unfold mX8_isOfNet at hM
  refine zSp_intro zpn_RX8 (Nat.le_of_ble_eq_true rfl) (fun a O => ?_)
  show zV a (3, 0, 0, (qPZ h Q), xN) 0 0 0 [some (aR 185), some (aI x1), some (aI x2)] [] h
  refine zV_aload_n O dX8_isOfNet_0 rfl rfl ?_
  refine zV_getR O zf_RX8_13 zt_185 rfl (by decide) dX8_isOfNet_1 ?_
  refine zV_bipush (z := 7) O ⟨by omega, by omega⟩ rfl dX8_isOfNet_4 ?_
  obtain ⟨hc, hM⟩ := hM
  refine zV_iald O zt_186 (by decide) hc dX8_isOfNet_6 ?_
  refine zV_iconst (z := 1) O ⟨by omega, by omega⟩ dX8_isOfNet_7 ?_
  refine zV_icmp_eq (tgt := 21) O dX8_isOfNet_8 (by decide) (fun hc => ?_) (fun hc => ?_)
  · replace hM := hM.1 hc
    refine zV_iconst (z := 1) O ⟨by omega, by omega⟩ dX8_isOfNet_21 ?_
    refine zV_goto (tgt := 26) O dX8_isOfNet_22 (by decide) ?_
    exact zV_zret O rfl (Or.inr rfl) ⟨rfl, _, rfl, (Or.inr rfl), hM⟩ (Nat.le_of_ble_eq_true rfl) (Nat.le_of_ble_eq_true rfl) dX8_isOfNet_26
  · replace hM := hM.2 hc
    refine zV_aload_n O dX8_isOfNet_11 rfl rfl ?_
    refine zV_iload_n O dX8_isOfNet_12 rfl rfl ?_
    refine zV_iconst (z := 0) O ⟨by omega, by omega⟩ dX8_isOfNet_13 ?_
    refine zV_callV (as := [aI x1, aI 0]) (st := []) O zc_X8_of (Or.inl zl_RX8_218) zi_1549 zi_117 zt_185 rfl rfl (by decide) (Nat.le_of_ble_eq_true rfl) rfl rfl (Nat.le_of_ble_eq_true rfl) (Nat.le_of_ble_eq_true rfl) (Nat.le_of_ble_eq_true rfl) (Nat.le_of_ble_eq_true rfl) (Nat.le_of_ble_eq_true rfl) (Nat.le_of_ble_eq_true rfl) dX8_isOfNet_14 (sX8_of hM) (fun r h9 hq => ?_) (fun x h9 hq => hq.elim)
    obtain ⟨rfl, z2, rfl, hM⟩ := hq
    refine zV_iload_n O dX8_isOfNet_17 rfl rfl ?_
    refine zV_icmp_ne (tgt := 25) O dX8_isOfNet_18 (by decide) (fun hc => ?_) (fun hc => ?_)
    · replace hM := hM.1 hc
      refine zV_iconst (z := 0) O ⟨by omega, by omega⟩ dX8_isOfNet_25 ?_
      exact zV_zret O rfl (Or.inl rfl) ⟨rfl, _, rfl, (Or.inl rfl), hM⟩ (Nat.le_of_ble_eq_true rfl) (Nat.le_of_ble_eq_true rfl) dX8_isOfNet_26
    · replace hM := hM.2 hc
      refine zV_iconst (z := 1) O ⟨by omega, by omega⟩ dX8_isOfNet_21 ?_
      refine zV_goto (tgt := 26) O dX8_isOfNet_22 (by decide) ?_
      exact zV_zret O rfl (Or.inr rfl) ⟨rfl, _, rfl, (Or.inr rfl), hM⟩ (Nat.le_of_ble_eq_true rfl) (Nat.le_of_ble_eq_true rfl) dX8_isOfNet_26
def mX8_latest_b3 (h : Hp) (Q : Int → Prop) : Nat → Int → Int → Prop
  | 0 => fun _ _ => False
  | fu3 + 1 => fun v1 v2 => ((v2 ≤ 0 → (Q v2)) ∧ (¬ v2 ≤ 0 → (zr (14 + v2) ∧ (zr ((14 + v2) - 1) ∧ (mX8_of v1 ((14 + v2) - 1) h (fun z3 => ((¬ z3 = 0 → (Q v2)) ∧ (z3 = 0 → (zr (v2 + (-1)) ∧ ((mX8_latest_b3 h Q fu3) v1 (v2 + (-1))))))))))))
set_option maxHeartbeats 4000000 in
set_option maxRecDepth 100000 in
theorem sX8_latest_b3 {l0 : Launch} {a : ZC}  {h : Hp} {Q : Int → Prop}  (O : zOk l0 a cX8_latest RX8 3 (some .int) 197 [])   : ∀ (ff : Nat) (v1 : Int) (v2 : Int) , mX8_latest_b3 h Q ff v1 v2 → zV a (3, 0, 0, (qPI h Q), xN) 0 0 3 [some (aR 185), some (aI v1), some (aI v2)] [] h := by
  intro ff
  induction ff with
  | zero => intro v1 v2 hM; exact hM.elim
  | succ ff ih =>
    have hK3 := ih
    intro v1 v2 hM
    unfold mX8_latest_b3 at hM
    refine zV_iload_n O dX8_latest_3 rfl rfl ?_
    refine zV_if_le (tgt := 27) O dX8_latest_4 (by decide) (fun hc => ?_) (fun hc => ?_)
    · replace hM := hM.1 hc
      refine zV_iload_n O dX8_latest_27 rfl rfl ?_
      exact zV_iret O rfl ⟨rfl, _, rfl, hM⟩ (Nat.le_of_ble_eq_true rfl) (Nat.le_of_ble_eq_true rfl) dX8_latest_28
    · replace hM := hM.2 hc
      refine zV_aload_n O dX8_latest_7 rfl rfl ?_
      refine zV_iload_n O dX8_latest_8 rfl rfl ?_
      refine zV_bipush (z := 14) O ⟨by omega, by omega⟩ rfl dX8_latest_9 ?_
      refine zV_iload_n O dX8_latest_11 rfl rfl ?_
      obtain ⟨hc, hM⟩ := hM
      refine zV_iadd O dX8_latest_12 hc ?_
      refine zV_iconst (z := 1) O ⟨by omega, by omega⟩ dX8_latest_13 ?_
      obtain ⟨hc, hM⟩ := hM
      refine zV_isub O dX8_latest_14 hc ?_
      refine zV_callV (as := [aI v1, aI ((14 + v2) - 1)]) (st := []) O zc_X8_of (Or.inl zl_RX8_218) zi_1549 zi_117 zt_185 rfl rfl (by decide) (Nat.le_of_ble_eq_true rfl) rfl rfl (Nat.le_of_ble_eq_true rfl) (Nat.le_of_ble_eq_true rfl) (Nat.le_of_ble_eq_true rfl) (Nat.le_of_ble_eq_true rfl) (Nat.le_of_ble_eq_true rfl) (Nat.le_of_ble_eq_true rfl) dX8_latest_15 (sX8_of hM) (fun r h9 hq => ?_) (fun x h9 hq => hq.elim)
      obtain ⟨rfl, z3, rfl, hM⟩ := hq
      refine zV_if_ne (tgt := 27) O dX8_latest_18 (by decide) (fun hc => ?_) (fun hc => ?_)
      · replace hM := hM.1 hc
        refine zV_iload_n O dX8_latest_27 rfl rfl ?_
        exact zV_iret O rfl ⟨rfl, _, rfl, hM⟩ (Nat.le_of_ble_eq_true rfl) (Nat.le_of_ble_eq_true rfl) dX8_latest_28
      · replace hM := hM.2 hc
        obtain ⟨hc, hM⟩ := hM
        refine zV_iinc O dX8_latest_21 rfl (Nat.le_of_ble_eq_true rfl) rfl hc ?_
        refine zV_goto (tgt := 3) O dX8_latest_24 (by decide) ?_
        exact hK3 _ _ hM
def mX8_latest (x1 : Int) (h : Hp) (Q : Int → Prop) : Prop := (∃ ff, mX8_latest_b3 h Q ff x1 9)
set_option maxHeartbeats 4000000 in
set_option maxRecDepth 100000 in
theorem sX8_latest {l0 : Launch} {x1 : Int} {h : Hp} {Q : Int → Prop}  (hM : mX8_latest x1 h Q) : zSp l0 yX8_latest cX8_latest 3 (some .int) 197 (3) 0 0 [aR 185, aI x1] h (qPI h Q) xN := by
  unfold mX8_latest at hM
  refine zSp_intro zpn_RX8 (Nat.le_of_ble_eq_true rfl) (fun a O => ?_)
  show zV a (3, 0, 0, (qPI h Q), xN) 0 0 0 [some (aR 185), some (aI x1), none] [] h
  refine zV_bipush (z := 9) O ⟨by omega, by omega⟩ rfl dX8_latest_0 ?_
  refine zV_istore_n O dX8_latest_2 rfl (Nat.le_of_ble_eq_true rfl) rfl ?_
  obtain ⟨ff, hM⟩ := hM
  exact sX8_latest_b3 O ff _ _ hM
def mX8_name (x1 : Int) (x2 : Int) (h : Hp) (Q : Int → Hp → Prop) : Prop := (∀ h8 : Hp, h8 = hu h 185 0 0 → (mX8_isHost x1 h8 (fun z9 => (mX8_fails z9 1 h8 (fun z10 h11 => ((z10 = 0 → (mX8_of x1 5 h11 (fun z12 => (zr (z12 - 1) ∧ (mX8_in x2 0 (z12 - 1) h11 (fun z13 => ((z13 = 0 → (Q (-1) h11)) ∧ (¬ z13 = 0 → (zr (6 + x2) ∧ (mX8_of x1 (6 + x2) h11 (fun z14 => (Q z14 h11)))))))))))) ∧ (¬ z10 = 0 → (Q 0 h11))))))))
set_option maxHeartbeats 4000000 in
set_option maxRecDepth 100000 in
theorem sX8_name {l0 : Launch} {x1 : Int} {x2 : Int} {h : Hp} {Q : Int → Hp → Prop}  (hM : mX8_name x1 x2 h Q) : zSp l0 yX8_name cX8_name 3 (some .int) 197 (3) 0 0 [aR 185, aI x1, aI x2] h (qI Q) xN := by
  unfold mX8_name at hM
  refine zSp_intro zpn_RX8 (Nat.le_of_ble_eq_true rfl) (fun a O => ?_)
  show zV a (3, 0, 0, (qI Q), xN) 0 0 0 [some (aR 185), some (aI x1), some (aI x2)] [] h
  refine zV_aload_n O dX8_name_0 rfl rfl ?_
  refine zV_iconst (z := 0) O ⟨by omega, by omega⟩ dX8_name_1 ?_
  refine zV_putI O zf_RX8_1 zt_185 rfl (by decide) dX8_name_2 ?_
  have hM := hM _ rfl
  generalize hu h 185 0 0 = h8 at hM ⊢
  refine zV_aload_n O dX8_name_5 rfl rfl ?_
  refine zV_aload_n O dX8_name_6 rfl rfl ?_
  refine zV_iload_n O dX8_name_7 rfl rfl ?_
  refine zV_callV (as := [aI x1]) (st := [aR 185]) O zc_X8_isHost (Or.inl zl_RX8_295) zi_1589 zi_126 zt_185 rfl rfl (by decide) (Nat.le_of_ble_eq_true rfl) rfl rfl (Nat.le_of_ble_eq_true rfl) (Nat.le_of_ble_eq_true rfl) (Nat.le_of_ble_eq_true rfl) (Nat.le_of_ble_eq_true rfl) (Nat.le_of_ble_eq_true rfl) (Nat.le_of_ble_eq_true rfl) dX8_name_8 (sX8_isHost hM) (fun r h9 hq => ?_) (fun x h9 hq => hq.elim)
  obtain ⟨rfl, z9, rfl, hzz9, hM⟩ := hq
  refine zV_iconst (z := 1) O ⟨by omega, by omega⟩ dX8_name_11 ?_
  refine zV_callV (as := [aI z9, aI 1]) (st := []) O zc_X8_fails (Or.inl zl_RX8_201) zi_1420 zi_93 zt_185 rfl rfl (by decide) (Nat.le_of_ble_eq_true rfl) rfl rfl (Nat.le_of_ble_eq_true rfl) (Nat.le_of_ble_eq_true rfl) (Nat.le_of_ble_eq_true rfl) (Nat.le_of_ble_eq_true rfl) (Nat.le_of_ble_eq_true rfl) (Nat.le_of_ble_eq_true rfl) dX8_name_12 (sX8_fails hM) (fun r h11 hq => ?_) (fun x h9 hq => hq.elim)
  obtain ⟨z10, rfl, hzz10, hM⟩ := hq
  refine zV_if_eq (tgt := 20) O dX8_name_15 (by decide) (fun hc => ?_) (fun hc => ?_)
  · replace hM := hM.1 hc
    refine zV_iload_n O dX8_name_20 rfl rfl ?_
    refine zV_i2l O dX8_name_21 ?_
    refine zV_lconst (z := 0) O ⟨by omega, by omega⟩ rfl dX8_name_22 ?_
    refine zV_aload_n O dX8_name_23 rfl rfl ?_
    refine zV_iload_n O dX8_name_24 rfl rfl ?_
    refine zV_iconst (z := 5) O ⟨by omega, by omega⟩ dX8_name_25 ?_
    refine zV_callV (as := [aI x1, aI 5]) (st := [aL 0, aL x2]) O zc_X8_of (Or.inl zl_RX8_218) zi_1549 zi_117 zt_185 rfl rfl (by decide) (Nat.le_of_ble_eq_true rfl) rfl rfl (Nat.le_of_ble_eq_true rfl) (Nat.le_of_ble_eq_true rfl) (Nat.le_of_ble_eq_true rfl) (Nat.le_of_ble_eq_true rfl) (Nat.le_of_ble_eq_true rfl) (Nat.le_of_ble_eq_true rfl) dX8_name_26 (sX8_of hM) (fun r h9 hq => ?_) (fun x h9 hq => hq.elim)
    obtain ⟨rfl, z12, rfl, hM⟩ := hq
    refine zV_iconst (z := 1) O ⟨by omega, by omega⟩ dX8_name_29 ?_
    obtain ⟨hc, hM⟩ := hM
    refine zV_isub O dX8_name_30 hc ?_
    refine zV_i2l O dX8_name_31 ?_
    refine zV_callS (as := [aL x2, aL 0, aL (z12 - 1)]) (st := []) O zc_X8_in (Or.inl zl_RX8_125) zi_1416 (Nat.le_of_ble_eq_true rfl) rfl rfl (Nat.le_of_ble_eq_true rfl) (Nat.le_of_ble_eq_true rfl) (Nat.le_of_ble_eq_true rfl) (Nat.le_of_ble_eq_true rfl) (Nat.le_of_ble_eq_true rfl) (Nat.le_of_ble_eq_true rfl) dX8_name_32 (sX8_in hM) (fun r h9 hq => ?_) (fun x h9 hq => hq.elim)
    obtain ⟨rfl, z13, rfl, hzz13, hM⟩ := hq
    refine zV_if_eq (tgt := 50) O dX8_name_35 (by decide) (fun hc => ?_) (fun hc => ?_)
    · replace hM := hM.1 hc
      refine zV_iconst (z := -1) O ⟨by omega, by omega⟩ dX8_name_50 ?_
      exact zV_iret O rfl ⟨_, rfl, hM⟩ (Nat.le_of_ble_eq_true rfl) (Nat.le_of_ble_eq_true rfl) dX8_name_51
    · replace hM := hM.2 hc
      refine zV_aload_n O dX8_name_38 rfl rfl ?_
      refine zV_iload_n O dX8_name_39 rfl rfl ?_
      refine zV_bipush (z := 6) O ⟨by omega, by omega⟩ rfl dX8_name_40 ?_
      refine zV_iload_n O dX8_name_42 rfl rfl ?_
      obtain ⟨hc, hM⟩ := hM
      refine zV_iadd O dX8_name_43 hc ?_
      refine zV_callV (as := [aI x1, aI (6 + x2)]) (st := []) O zc_X8_of (Or.inl zl_RX8_218) zi_1549 zi_117 zt_185 rfl rfl (by decide) (Nat.le_of_ble_eq_true rfl) rfl rfl (Nat.le_of_ble_eq_true rfl) (Nat.le_of_ble_eq_true rfl) (Nat.le_of_ble_eq_true rfl) (Nat.le_of_ble_eq_true rfl) (Nat.le_of_ble_eq_true rfl) (Nat.le_of_ble_eq_true rfl) dX8_name_44 (sX8_of hM) (fun r h9 hq => ?_) (fun x h9 hq => hq.elim)
      obtain ⟨rfl, z14, rfl, hM⟩ := hq
      refine zV_goto (tgt := 51) O dX8_name_47 (by decide) ?_
      exact zV_iret O rfl ⟨_, rfl, hM⟩ (Nat.le_of_ble_eq_true rfl) (Nat.le_of_ble_eq_true rfl) dX8_name_51
  · replace hM := hM.2 hc
    refine zV_iconst (z := 0) O ⟨by omega, by omega⟩ dX8_name_18 ?_
    exact zV_iret O rfl ⟨_, rfl, hM⟩ (Nat.le_of_ble_eq_true rfl) (Nat.le_of_ble_eq_true rfl) dX8_name_19
def mX8_next_b26 (Q : Hp → Prop) (K0 : Hp → Prop) (h : Hp) : Prop := (zr ((h 185 11) + 1) ∧ (∀ h23 : Hp, h23 = hu h 185 11 ((h 185 11) + 1) → (K0 h23)))
set_option maxHeartbeats 4000000 in
set_option maxRecDepth 100000 in
theorem sX8_next_b26 {l0 : Launch} {a : ZC}  {Q : Hp → Prop} {K0 : Hp → Prop} (O : zOk l0 a cX8_next RX8 1 none 197 [])  (hK0 : ∀ (h : Hp), K0  h → zV a (3, 0, 0, (qV Q), xN) 0 0 0 [some (aR 185)] [] h)  {h : Hp}  (hM : mX8_next_b26 Q K0 h) : zV a (3, 0, 0, (qV Q), xN) 0 0 26 [some (aR 185)] [] h := by
  unfold mX8_next_b26 at hM
  refine zV_aload_n O dX8_next_26 rfl rfl ?_
  refine zV_dup O rfl dX8_next_27 ?_
  refine zV_getI O zf_RX8_71 zt_185 rfl (by decide) dX8_next_28 ?_
  refine zV_iconst (z := 1) O ⟨by omega, by omega⟩ dX8_next_31 ?_
  obtain ⟨hc, hM⟩ := hM
  refine zV_iadd O dX8_next_32 hc ?_
  refine zV_putI O zf_RX8_71 zt_185 rfl (by decide) dX8_next_33 ?_
  have hM := hM _ rfl
  generalize hu h 185 11 ((h 185 11) + 1) = h23 at hM ⊢
  refine zV_goto (tgt := 0) O dX8_next_36 (by decide) ?_
  exact hK0 _ hM
def mX8_next_b0 (Q : Hp → Prop) : Nat → Hp → Prop
  | 0 => fun _ => False
  | fu0 + 1 => fun h => (mX8_byteAt (h 185 11) h (fun z24 => ((z24 = (32 : Int) → (mX8_next_b26 Q (mX8_next_b0 Q fu0) h)) ∧ (¬ z24 = (32 : Int) → (mX8_byteAt (h 185 11) h (fun z25 => ((¬ z25 = (10 : Int) → (∀ h26 : Hp, h26 = hu h 185 12 (h 185 11) → (((h26 185 11) < (h26 185 10) → (((0 : Int) ≤ (h26 185 11) ∧ (h26 185 11) < 900) ∧ (mX8_isLetter (rd h26 191 (h26 185 11)) h26 (fun z27 => ((z27 = 0 → (((0 : Int) ≤ (h26 185 11) ∧ (h26 185 11) < 900) ∧ (mX8_isFigure (rd h26 191 (h26 185 11)) h26 (fun z28 => ((z28 = 0 → (∀ h29 : Hp, h29 = hu h26 185 13 3 → (zr ((h29 185 11) + 1) ∧ (∀ h30 : Hp, h30 = hu h29 185 11 ((h29 185 11) + 1) → (Q h30))))) ∧ (¬ z28 = 0 → (mX8_readsNumber h26 (fun h31 => (Q h31))))))))) ∧ (¬ z27 = 0 → (mX8_readsWord h26 (fun h32 => (Q h32))))))))) ∧ (¬ (h26 185 11) < (h26 185 10) → (∀ h33 : Hp, h33 = hu h26 185 13 0 → (Q h33)))))) ∧ (z25 = (10 : Int) → (mX8_next_b26 Q (mX8_next_b0 Q fu0) h)))))))))
set_option maxHeartbeats 4000000 in
set_option maxRecDepth 100000 in
theorem sX8_next_b0 {l0 : Launch} {a : ZC}  {Q : Hp → Prop}  (O : zOk l0 a cX8_next RX8 1 none 197 [])   : ∀ (ff : Nat)  (h : Hp), mX8_next_b0 Q ff  h → zV a (3, 0, 0, (qV Q), xN) 0 0 0 [some (aR 185)] [] h := by
  intro ff
  induction ff with
  | zero => intro  h hM; exact hM.elim
  | succ ff ih =>
    have hK0 := ih
    intro  h hM
    unfold mX8_next_b0 at hM
    refine zV_aload_n O dX8_next_0 rfl rfl ?_
    refine zV_aload_n O dX8_next_1 rfl rfl ?_
    refine zV_getI O zf_RX8_71 zt_185 rfl (by decide) dX8_next_2 ?_
    refine zV_callV (as := [aI (h 185 11)]) (st := []) O zc_X8_byteAt (Or.inl zl_RX8_74) zi_1432 zi_96 zt_185 rfl rfl (by decide) (Nat.le_of_ble_eq_true rfl) rfl rfl (Nat.le_of_ble_eq_true rfl) (Nat.le_of_ble_eq_true rfl) (Nat.le_of_ble_eq_true rfl) (Nat.le_of_ble_eq_true rfl) (Nat.le_of_ble_eq_true rfl) (Nat.le_of_ble_eq_true rfl) dX8_next_5 (sX8_byteAt hM) (fun r h9 hq => ?_) (fun x h9 hq => hq.elim)
    obtain ⟨rfl, z24, rfl, hM⟩ := hq
    refine zV_bipush (z := 32) O ⟨by omega, by omega⟩ rfl dX8_next_8 ?_
    refine zV_icmp_eq (tgt := 26) O dX8_next_10 (by decide) (fun hc => ?_) (fun hc => ?_)
    · replace hM := hM.1 hc
      exact sX8_next_b26 O hK0 hM
    · replace hM := hM.2 hc
      refine zV_aload_n O dX8_next_13 rfl rfl ?_
      refine zV_aload_n O dX8_next_14 rfl rfl ?_
      refine zV_getI O zf_RX8_71 zt_185 rfl (by decide) dX8_next_15 ?_
      refine zV_callV (as := [aI (h 185 11)]) (st := []) O zc_X8_byteAt (Or.inl zl_RX8_74) zi_1432 zi_96 zt_185 rfl rfl (by decide) (Nat.le_of_ble_eq_true rfl) rfl rfl (Nat.le_of_ble_eq_true rfl) (Nat.le_of_ble_eq_true rfl) (Nat.le_of_ble_eq_true rfl) (Nat.le_of_ble_eq_true rfl) (Nat.le_of_ble_eq_true rfl) (Nat.le_of_ble_eq_true rfl) dX8_next_18 (sX8_byteAt hM) (fun r h9 hq => ?_) (fun x h9 hq => hq.elim)
      obtain ⟨rfl, z25, rfl, hM⟩ := hq
      refine zV_bipush (z := 10) O ⟨by omega, by omega⟩ rfl dX8_next_21 ?_
      refine zV_icmp_ne (tgt := 39) O dX8_next_23 (by decide) (fun hc => ?_) (fun hc => ?_)
      · replace hM := hM.1 hc
        refine zV_aload_n O dX8_next_39 rfl rfl ?_
        refine zV_aload_n O dX8_next_40 rfl rfl ?_
        refine zV_getI O zf_RX8_71 zt_185 rfl (by decide) dX8_next_41 ?_
        refine zV_putI O zf_RX8_82 zt_185 rfl (by decide) dX8_next_44 ?_
        have hM := hM _ rfl
        generalize hu h 185 12 (h 185 11) = h26 at hM ⊢
        refine zV_aload_n O dX8_next_47 rfl rfl ?_
        refine zV_getI O zf_RX8_71 zt_185 rfl (by decide) dX8_next_48 ?_
        refine zV_aload_n O dX8_next_51 rfl rfl ?_
        refine zV_getI O zf_RX8_64 zt_185 rfl (by decide) dX8_next_52 ?_
        refine zV_icmp_lt (tgt := 66) O dX8_next_55 (by decide) (fun hc => ?_) (fun hc => ?_)
        · replace hM := hM.1 hc
          refine zV_aload_n O dX8_next_66 rfl rfl ?_
          refine zV_getR O zf_RX8_29 zt_185 rfl (by decide) dX8_next_67 ?_
          refine zV_aload_n O dX8_next_70 rfl rfl ?_
          refine zV_getI O zf_RX8_71 zt_185 rfl (by decide) dX8_next_71 ?_
          obtain ⟨hc, hM⟩ := hM
          refine zV_iald O zt_191 (by decide) hc dX8_next_74 ?_
          refine zV_callS (as := [aI (rd h26 191 (h26 185 11))]) (st := []) O zc_X8_isLetter (Or.inl zl_RX8_78) zi_1435 (Nat.le_of_ble_eq_true rfl) rfl rfl (Nat.le_of_ble_eq_true rfl) (Nat.le_of_ble_eq_true rfl) (Nat.le_of_ble_eq_true rfl) (Nat.le_of_ble_eq_true rfl) (Nat.le_of_ble_eq_true rfl) (Nat.le_of_ble_eq_true rfl) dX8_next_75 (sX8_isLetter hM) (fun r h9 hq => ?_) (fun x h9 hq => hq.elim)
          obtain ⟨rfl, z27, rfl, hzz27, hM⟩ := hq
          refine zV_if_eq (tgt := 88) O dX8_next_78 (by decide) (fun hc => ?_) (fun hc => ?_)
          · replace hM := hM.1 hc
            refine zV_aload_n O dX8_next_88 rfl rfl ?_
            refine zV_getR O zf_RX8_29 zt_185 rfl (by decide) dX8_next_89 ?_
            refine zV_aload_n O dX8_next_92 rfl rfl ?_
            refine zV_getI O zf_RX8_71 zt_185 rfl (by decide) dX8_next_93 ?_
            obtain ⟨hc, hM⟩ := hM
            refine zV_iald O zt_191 (by decide) hc dX8_next_96 ?_
            refine zV_callS (as := [aI (rd h26 191 (h26 185 11))]) (st := []) O zc_X8_isFigure (Or.inl zl_RX8_95) zi_1444 (Nat.le_of_ble_eq_true rfl) rfl rfl (Nat.le_of_ble_eq_true rfl) (Nat.le_of_ble_eq_true rfl) (Nat.le_of_ble_eq_true rfl) (Nat.le_of_ble_eq_true rfl) (Nat.le_of_ble_eq_true rfl) (Nat.le_of_ble_eq_true rfl) dX8_next_97 (sX8_isFigure hM) (fun r h9 hq => ?_) (fun x h9 hq => hq.elim)
            obtain ⟨rfl, z28, rfl, hzz28, hM⟩ := hq
            refine zV_if_eq (tgt := 110) O dX8_next_100 (by decide) (fun hc => ?_) (fun hc => ?_)
            · replace hM := hM.1 hc
              refine zV_aload_n O dX8_next_110 rfl rfl ?_
              refine zV_iconst (z := 3) O ⟨by omega, by omega⟩ dX8_next_111 ?_
              refine zV_putI O zf_RX8_89 zt_185 rfl (by decide) dX8_next_112 ?_
              have hM := hM _ rfl
              generalize hu h26 185 13 3 = h29 at hM ⊢
              refine zV_aload_n O dX8_next_115 rfl rfl ?_
              refine zV_dup O rfl dX8_next_116 ?_
              refine zV_getI O zf_RX8_71 zt_185 rfl (by decide) dX8_next_117 ?_
              refine zV_iconst (z := 1) O ⟨by omega, by omega⟩ dX8_next_120 ?_
              obtain ⟨hc, hM⟩ := hM
              refine zV_iadd O dX8_next_121 hc ?_
              refine zV_putI O zf_RX8_71 zt_185 rfl (by decide) dX8_next_122 ?_
              have hM := hM _ rfl
              generalize hu h29 185 11 ((h29 185 11) + 1) = h30 at hM ⊢
              exact zV_vret O rfl ⟨rfl, hM⟩ (Nat.le_of_ble_eq_true rfl) (Nat.le_of_ble_eq_true rfl) dX8_next_125
            · replace hM := hM.2 hc
              refine zV_aload_n O dX8_next_103 rfl rfl ?_
              refine zV_callV (as := []) (st := []) O zc_X8_readsNumber (Or.inl zl_RX8_102) zi_1448 zi_98 zt_185 rfl rfl (by decide) (Nat.le_of_ble_eq_true rfl) rfl rfl (Nat.le_of_ble_eq_true rfl) (Nat.le_of_ble_eq_true rfl) (Nat.le_of_ble_eq_true rfl) (Nat.le_of_ble_eq_true rfl) (Nat.le_of_ble_eq_true rfl) (Nat.le_of_ble_eq_true rfl) dX8_next_104 (sX8_readsNumber hM) (fun r h31 hq => ?_) (fun x h9 hq => hq.elim)
              obtain ⟨rfl, hM⟩ := hq
              refine zV_goto (tgt := 125) O dX8_next_107 (by decide) ?_
              exact zV_vret O rfl ⟨rfl, hM⟩ (Nat.le_of_ble_eq_true rfl) (Nat.le_of_ble_eq_true rfl) dX8_next_125
          · replace hM := hM.2 hc
            refine zV_aload_n O dX8_next_81 rfl rfl ?_
            refine zV_callV (as := []) (st := []) O zc_X8_readsWord (Or.inl zl_RX8_99) zi_1439 zi_97 zt_185 rfl rfl (by decide) (Nat.le_of_ble_eq_true rfl) rfl rfl (Nat.le_of_ble_eq_true rfl) (Nat.le_of_ble_eq_true rfl) (Nat.le_of_ble_eq_true rfl) (Nat.le_of_ble_eq_true rfl) (Nat.le_of_ble_eq_true rfl) (Nat.le_of_ble_eq_true rfl) dX8_next_82 (sX8_readsWord hM) (fun r h32 hq => ?_) (fun x h9 hq => hq.elim)
            obtain ⟨rfl, hM⟩ := hq
            refine zV_goto (tgt := 125) O dX8_next_85 (by decide) ?_
            exact zV_vret O rfl ⟨rfl, hM⟩ (Nat.le_of_ble_eq_true rfl) (Nat.le_of_ble_eq_true rfl) dX8_next_125
        · replace hM := hM.2 hc
          refine zV_aload_n O dX8_next_58 rfl rfl ?_
          refine zV_iconst (z := 0) O ⟨by omega, by omega⟩ dX8_next_59 ?_
          refine zV_putI O zf_RX8_89 zt_185 rfl (by decide) dX8_next_60 ?_
          have hM := hM _ rfl
          generalize hu h26 185 13 0 = h33 at hM ⊢
          refine zV_goto (tgt := 125) O dX8_next_63 (by decide) ?_
          exact zV_vret O rfl ⟨rfl, hM⟩ (Nat.le_of_ble_eq_true rfl) (Nat.le_of_ble_eq_true rfl) dX8_next_125
      · replace hM := hM.2 hc
        exact sX8_next_b26 O hK0 hM
def mX8_next  (h : Hp) (Q : Hp → Prop) : Prop := (∃ ff, mX8_next_b0 Q ff h)
set_option maxHeartbeats 4000000 in
set_option maxRecDepth 100000 in
theorem sX8_next {l0 : Launch}  {h : Hp} {Q : Hp → Prop}  (hM : mX8_next  h Q) : zSp l0 yX8_next cX8_next 1 none 197 (3) 0 0 [aR 185] h (qV Q) xN := by
  unfold mX8_next at hM
  refine zSp_intro zpn_RX8 (Nat.le_of_ble_eq_true rfl) (fun a O => ?_)
  show zV a (3, 0, 0, (qV Q), xN) 0 0 0 [some (aR 185)] [] h
  obtain ⟨ff, hM⟩ := hM
  exact sX8_next_b0 O ff _ hM
def mX8_plan_b97 (Q : Int → Hp → Prop) (v1 : Int) (v2 : Int) (v3 : Int) (s0 : Int) (s1 : Int) (h : Hp) : Prop := (zr (s1 - s0) ∧ (((0 : Int) ≤ 4 ∧ (4 : Int) < 1096) ∧ (((s1 - s0) < (rd h 186 4) → (mX8_keeps 186 1096 h (fun h29 => (mX8_cell v1 3 h29 (fun z30 => (((0 : Int) ≤ z30 ∧ z30 < 1096) ∧ (∀ h31 : Hp, h31 = wr h29 186 z30 v2 → (mX8_cell v1 4 h31 (fun z32 => (((0 : Int) ≤ z32 ∧ z32 < 1096) ∧ (∀ h33 : Hp, h33 = wr h31 186 z32 v3 → (mX8_plansIn 186 1096 v3 h33 (fun z34 => (Q z34 h33)))))))))))))) ∧ (¬ (s1 - s0) < (rd h 186 4) → (Q (-4) h)))))
set_option maxHeartbeats 4000000 in
set_option maxRecDepth 100000 in
theorem sX8_plan_b97 {l0 : Launch} {a : ZC}  {Q : Int → Hp → Prop}  (O : zOk l0 a cX8_plan RX8 4 (some .int) 197 [])   {v1 : Int} {v2 : Int} {v3 : Int} {s0 : Int} {s1 : Int} {h : Hp} (hz_s0 : s0 = 0 ∨ s0 = 1) (hM : mX8_plan_b97 Q v1 v2 v3 s0 s1 h) : zV a (3, 0, 0, (qI Q), xN) 0 0 97 [some (aR 185), some (aI v1), some (aI v2), some (aI v3)] [aI s0, aI s1] h := by
  unfold mX8_plan_b97 at hM
  obtain ⟨hc, hM⟩ := hM
  refine zV_isub O dX8_plan_97 hc ?_
  refine zV_aload_n O dX8_plan_98 rfl rfl ?_
  refine zV_getR O zf_RX8_13 zt_185 rfl (by decide) dX8_plan_99 ?_
  refine zV_iconst (z := 4) O ⟨by omega, by omega⟩ dX8_plan_102 ?_
  obtain ⟨hc, hM⟩ := hM
  refine zV_iald O zt_186 (by decide) hc dX8_plan_103 ?_
  refine zV_icmp_lt (tgt := 110) O dX8_plan_104 (by decide) (fun hc => ?_) (fun hc => ?_)
  · replace hM := hM.1 hc
    refine zV_aload_n O dX8_plan_110 rfl rfl ?_
    refine zV_aload_n O dX8_plan_111 rfl rfl ?_
    refine zV_getR O zf_RX8_13 zt_185 rfl (by decide) dX8_plan_112 ?_
    refine zV_callV (as := [aR 186]) (st := []) O zc_X8_keeps (Or.inl zl_RX8_335) zi_1752 zi_147 zt_185 rfl rfl (by decide) (Nat.le_of_ble_eq_true rfl) rfl rfl (Nat.le_of_ble_eq_true rfl) (Nat.le_of_ble_eq_true rfl) (Nat.le_of_ble_eq_true rfl) (Nat.le_of_ble_eq_true rfl) (Nat.le_of_ble_eq_true rfl) (Nat.le_of_ble_eq_true rfl) dX8_plan_115 (sX8_keeps zt_186 (by decide) ⟨by decide, by decide⟩ hM) (fun r h29 hq => ?_) (fun x h9 hq => hq.elim)
    obtain ⟨rfl, hM⟩ := hq
    refine zV_aload_n O dX8_plan_118 rfl rfl ?_
    refine zV_getR O zf_RX8_13 zt_185 rfl (by decide) dX8_plan_119 ?_
    refine zV_iload_n O dX8_plan_122 rfl rfl ?_
    refine zV_iconst (z := 3) O ⟨by omega, by omega⟩ dX8_plan_123 ?_
    refine zV_callS (as := [aI v1, aI 3]) (st := [aR 186]) O zc_X8_cell (Or.inl zl_RX8_129) zi_1505 (Nat.le_of_ble_eq_true rfl) rfl rfl (Nat.le_of_ble_eq_true rfl) (Nat.le_of_ble_eq_true rfl) (Nat.le_of_ble_eq_true rfl) (Nat.le_of_ble_eq_true rfl) (Nat.le_of_ble_eq_true rfl) (Nat.le_of_ble_eq_true rfl) dX8_plan_124 (sX8_cell hM) (fun r h9 hq => ?_) (fun x h9 hq => hq.elim)
    obtain ⟨rfl, z30, rfl, hM⟩ := hq
    refine zV_iload_n O dX8_plan_127 rfl rfl ?_
    obtain ⟨hc, hM⟩ := hM
    refine zV_iast O zt_186 (by decide) hc dX8_plan_128 ?_
    have hM := hM (hu h29 186 (Int.toNat z30) v2) rfl
    generalize hu h29 186 (Int.toNat z30) v2 = h31 at hM ⊢
    refine zV_aload_n O dX8_plan_129 rfl rfl ?_
    refine zV_getR O zf_RX8_13 zt_185 rfl (by decide) dX8_plan_130 ?_
    refine zV_iload_n O dX8_plan_133 rfl rfl ?_
    refine zV_iconst (z := 4) O ⟨by omega, by omega⟩ dX8_plan_134 ?_
    refine zV_callS (as := [aI v1, aI 4]) (st := [aR 186]) O zc_X8_cell (Or.inl zl_RX8_129) zi_1505 (Nat.le_of_ble_eq_true rfl) rfl rfl (Nat.le_of_ble_eq_true rfl) (Nat.le_of_ble_eq_true rfl) (Nat.le_of_ble_eq_true rfl) (Nat.le_of_ble_eq_true rfl) (Nat.le_of_ble_eq_true rfl) (Nat.le_of_ble_eq_true rfl) dX8_plan_135 (sX8_cell hM) (fun r h9 hq => ?_) (fun x h9 hq => hq.elim)
    obtain ⟨rfl, z32, rfl, hM⟩ := hq
    refine zV_iload_n O dX8_plan_138 rfl rfl ?_
    obtain ⟨hc, hM⟩ := hM
    refine zV_iast O zt_186 (by decide) hc dX8_plan_139 ?_
    have hM := hM (hu h31 186 (Int.toNat z32) v3) rfl
    generalize hu h31 186 (Int.toNat z32) v3 = h33 at hM ⊢
    refine zV_aload_n O dX8_plan_140 rfl rfl ?_
    refine zV_aload_n O dX8_plan_141 rfl rfl ?_
    refine zV_getR O zf_RX8_13 zt_185 rfl (by decide) dX8_plan_142 ?_
    refine zV_iload_n O dX8_plan_145 rfl rfl ?_
    refine zV_callV (as := [aR 186, aI v3]) (st := []) O zc_X8_plansIn (Or.inl zl_RX8_179) zi_1536 zi_115 zt_185 rfl rfl (by decide) (Nat.le_of_ble_eq_true rfl) rfl rfl (Nat.le_of_ble_eq_true rfl) (Nat.le_of_ble_eq_true rfl) (Nat.le_of_ble_eq_true rfl) (Nat.le_of_ble_eq_true rfl) (Nat.le_of_ble_eq_true rfl) (Nat.le_of_ble_eq_true rfl) dX8_plan_146 (sX8_plansIn zt_186 (by decide) ⟨by decide, by decide⟩ hM) (fun r h9 hq => ?_) (fun x h9 hq => hq.elim)
    obtain ⟨rfl, z34, rfl, hM⟩ := hq
    exact zV_iret O rfl ⟨_, rfl, hM⟩ (Nat.le_of_ble_eq_true rfl) (Nat.le_of_ble_eq_true rfl) dX8_plan_149
  · replace hM := hM.2 hc
    refine zV_bipush (z := -4) O ⟨by omega, by omega⟩ rfl dX8_plan_107 ?_
    exact zV_iret O rfl ⟨_, rfl, hM⟩ (Nat.le_of_ble_eq_true rfl) (Nat.le_of_ble_eq_true rfl) dX8_plan_109
def mX8_plan_b38 (Q : Int → Hp → Prop) (v1 : Int) (v2 : Int) (v3 : Int) (s0 : Int) (h : Hp) : Prop := (mX8_fails s0 2 h (fun z35 h36 => ((z35 = 0 → (mX8_of v1 2 h36 (fun z37 => ((¬ z37 = (1 : Int) → (((0 : Int) ≤ 2 ∧ (2 : Int) < 1096) ∧ (((rd h36 186 2) < v3 → (mX8_plansIn 186 1096 v3 h36 (fun z38 => (mX8_of v1 4 h36 (fun z39 => ((¬ z39 = v3 → (mX8_plan_b97 Q v1 v2 v3 0 z38 h36)) ∧ (z39 = v3 → (mX8_plan_b97 Q v1 v2 v3 1 z38 h36)))))))) ∧ (¬ (rd h36 186 2) < v3 → (Q (-3) h36))))) ∧ (z37 = (1 : Int) → (Q (-2) h36)))))) ∧ (¬ z35 = 0 → (Q 0 h36)))))
set_option maxHeartbeats 4000000 in
set_option maxRecDepth 100000 in
theorem sX8_plan_b38 {l0 : Launch} {a : ZC}  {Q : Int → Hp → Prop}  (O : zOk l0 a cX8_plan RX8 4 (some .int) 197 [])   {v1 : Int} {v2 : Int} {v3 : Int} {s0 : Int} {h : Hp} (hz_s0 : s0 = 0 ∨ s0 = 1) (hM : mX8_plan_b38 Q v1 v2 v3 s0 h) : zV a (3, 0, 0, (qI Q), xN) 0 0 38 [some (aR 185), some (aI v1), some (aI v2), some (aI v3)] [aI s0, aR 185] h := by
  unfold mX8_plan_b38 at hM
  refine zV_iconst (z := 2) O ⟨by omega, by omega⟩ dX8_plan_38 ?_
  refine zV_callV (as := [aI s0, aI 2]) (st := []) O zc_X8_fails (Or.inl zl_RX8_201) zi_1420 zi_93 zt_185 rfl rfl (by decide) (Nat.le_of_ble_eq_true rfl) rfl rfl (Nat.le_of_ble_eq_true rfl) (Nat.le_of_ble_eq_true rfl) (Nat.le_of_ble_eq_true rfl) (Nat.le_of_ble_eq_true rfl) (Nat.le_of_ble_eq_true rfl) (Nat.le_of_ble_eq_true rfl) dX8_plan_39 (sX8_fails hM) (fun r h36 hq => ?_) (fun x h9 hq => hq.elim)
  obtain ⟨z35, rfl, hzz35, hM⟩ := hq
  refine zV_if_eq (tgt := 47) O dX8_plan_42 (by decide) (fun hc => ?_) (fun hc => ?_)
  · replace hM := hM.1 hc
    refine zV_aload_n O dX8_plan_47 rfl rfl ?_
    refine zV_iload_n O dX8_plan_48 rfl rfl ?_
    refine zV_iconst (z := 2) O ⟨by omega, by omega⟩ dX8_plan_49 ?_
    refine zV_callV (as := [aI v1, aI 2]) (st := []) O zc_X8_of (Or.inl zl_RX8_218) zi_1549 zi_117 zt_185 rfl rfl (by decide) (Nat.le_of_ble_eq_true rfl) rfl rfl (Nat.le_of_ble_eq_true rfl) (Nat.le_of_ble_eq_true rfl) (Nat.le_of_ble_eq_true rfl) (Nat.le_of_ble_eq_true rfl) (Nat.le_of_ble_eq_true rfl) (Nat.le_of_ble_eq_true rfl) dX8_plan_50 (sX8_of hM) (fun r h9 hq => ?_) (fun x h9 hq => hq.elim)
    obtain ⟨rfl, z37, rfl, hM⟩ := hq
    refine zV_iconst (z := 1) O ⟨by omega, by omega⟩ dX8_plan_53 ?_
    refine zV_icmp_ne (tgt := 60) O dX8_plan_54 (by decide) (fun hc => ?_) (fun hc => ?_)
    · replace hM := hM.1 hc
      refine zV_iload_n O dX8_plan_60 rfl rfl ?_
      refine zV_aload_n O dX8_plan_61 rfl rfl ?_
      refine zV_getR O zf_RX8_13 zt_185 rfl (by decide) dX8_plan_62 ?_
      refine zV_iconst (z := 2) O ⟨by omega, by omega⟩ dX8_plan_65 ?_
      obtain ⟨hc, hM⟩ := hM
      refine zV_iald O zt_186 (by decide) hc dX8_plan_66 ?_
      refine zV_icmp_gt (tgt := 73) O dX8_plan_67 (by decide) (fun hc => ?_) (fun hc => ?_)
      · replace hM := hM.1 hc
        refine zV_aload_n O dX8_plan_73 rfl rfl ?_
        refine zV_aload_n O dX8_plan_74 rfl rfl ?_
        refine zV_getR O zf_RX8_13 zt_185 rfl (by decide) dX8_plan_75 ?_
        refine zV_iload_n O dX8_plan_78 rfl rfl ?_
        refine zV_callV (as := [aR 186, aI v3]) (st := []) O zc_X8_plansIn (Or.inl zl_RX8_179) zi_1536 zi_115 zt_185 rfl rfl (by decide) (Nat.le_of_ble_eq_true rfl) rfl rfl (Nat.le_of_ble_eq_true rfl) (Nat.le_of_ble_eq_true rfl) (Nat.le_of_ble_eq_true rfl) (Nat.le_of_ble_eq_true rfl) (Nat.le_of_ble_eq_true rfl) (Nat.le_of_ble_eq_true rfl) dX8_plan_79 (sX8_plansIn zt_186 (by decide) ⟨by decide, by decide⟩ hM) (fun r h9 hq => ?_) (fun x h9 hq => hq.elim)
        obtain ⟨rfl, z38, rfl, hM⟩ := hq
        refine zV_aload_n O dX8_plan_82 rfl rfl ?_
        refine zV_iload_n O dX8_plan_83 rfl rfl ?_
        refine zV_iconst (z := 4) O ⟨by omega, by omega⟩ dX8_plan_84 ?_
        refine zV_callV (as := [aI v1, aI 4]) (st := [aI z38]) O zc_X8_of (Or.inl zl_RX8_218) zi_1549 zi_117 zt_185 rfl rfl (by decide) (Nat.le_of_ble_eq_true rfl) rfl rfl (Nat.le_of_ble_eq_true rfl) (Nat.le_of_ble_eq_true rfl) (Nat.le_of_ble_eq_true rfl) (Nat.le_of_ble_eq_true rfl) (Nat.le_of_ble_eq_true rfl) (Nat.le_of_ble_eq_true rfl) dX8_plan_85 (sX8_of hM) (fun r h9 hq => ?_) (fun x h9 hq => hq.elim)
        obtain ⟨rfl, z39, rfl, hM⟩ := hq
        refine zV_iload_n O dX8_plan_88 rfl rfl ?_
        refine zV_icmp_ne (tgt := 96) O dX8_plan_89 (by decide) (fun hc => ?_) (fun hc => ?_)
        · replace hM := hM.1 hc
          refine zV_iconst (z := 0) O ⟨by omega, by omega⟩ dX8_plan_96 ?_
          exact sX8_plan_b97 O (Or.inl rfl) hM
        · replace hM := hM.2 hc
          refine zV_iconst (z := 1) O ⟨by omega, by omega⟩ dX8_plan_92 ?_
          refine zV_goto (tgt := 97) O dX8_plan_93 (by decide) ?_
          exact sX8_plan_b97 O (Or.inr rfl) hM
      · replace hM := hM.2 hc
        refine zV_bipush (z := -3) O ⟨by omega, by omega⟩ rfl dX8_plan_70 ?_
        exact zV_iret O rfl ⟨_, rfl, hM⟩ (Nat.le_of_ble_eq_true rfl) (Nat.le_of_ble_eq_true rfl) dX8_plan_72
    · replace hM := hM.2 hc
      refine zV_bipush (z := -2) O ⟨by omega, by omega⟩ rfl dX8_plan_57 ?_
      exact zV_iret O rfl ⟨_, rfl, hM⟩ (Nat.le_of_ble_eq_true rfl) (Nat.le_of_ble_eq_true rfl) dX8_plan_59
  · replace hM := hM.2 hc
    refine zV_iconst (z := 0) O ⟨by omega, by omega⟩ dX8_plan_45 ?_
    exact zV_iret O rfl ⟨_, rfl, hM⟩ (Nat.le_of_ble_eq_true rfl) (Nat.le_of_ble_eq_true rfl) dX8_plan_46
def mX8_plan_b37 (Q : Int → Hp → Prop) (v1 : Int) (v2 : Int) (v3 : Int) (h : Hp) : Prop := (mX8_plan_b38 Q v1 v2 v3 0 h)
set_option maxHeartbeats 4000000 in
set_option maxRecDepth 100000 in
theorem sX8_plan_b37 {l0 : Launch} {a : ZC}  {Q : Int → Hp → Prop}  (O : zOk l0 a cX8_plan RX8 4 (some .int) 197 [])   {v1 : Int} {v2 : Int} {v3 : Int} {h : Hp}  (hM : mX8_plan_b37 Q v1 v2 v3 h) : zV a (3, 0, 0, (qI Q), xN) 0 0 37 [some (aR 185), some (aI v1), some (aI v2), some (aI v3)] [aR 185] h := by
  unfold mX8_plan_b37 at hM
  refine zV_iconst (z := 0) O ⟨by omega, by omega⟩ dX8_plan_37 ?_
  exact sX8_plan_b38 O (Or.inl rfl) hM
def mX8_plan (x1 : Int) (x2 : Int) (x3 : Int) (h : Hp) (Q : Int → Hp → Prop) : Prop := (∀ h40 : Hp, h40 = hu h 185 0 0 → (mX8_isHost x1 h40 (fun z41 => (mX8_fails z41 1 h40 (fun z42 h43 => ((¬ z42 = 0 → (Q 0 h43)) ∧ (z42 = 0 → (mX8_isNumber x2 h43 (fun z44 => ((z44 = 0 → (mX8_plan_b37 Q x1 x2 x3 h43)) ∧ (¬ z44 = 0 → (mX8_isWave x3 h43 (fun z45 => ((z45 = 0 → (mX8_plan_b37 Q x1 x2 x3 h43)) ∧ (¬ z45 = 0 → (mX8_plan_b38 Q x1 x2 x3 1 h43))))))))))))))))
set_option maxHeartbeats 4000000 in
set_option maxRecDepth 100000 in
theorem sX8_plan {l0 : Launch} {x1 : Int} {x2 : Int} {x3 : Int} {h : Hp} {Q : Int → Hp → Prop}  (hM : mX8_plan x1 x2 x3 h Q) : zSp l0 yX8_plan cX8_plan 4 (some .int) 197 (3) 0 0 [aR 185, aI x1, aI x2, aI x3] h (qI Q) xN := by
  unfold mX8_plan at hM
  refine zSp_intro zpn_RX8 (Nat.le_of_ble_eq_true rfl) (fun a O => ?_)
  show zV a (3, 0, 0, (qI Q), xN) 0 0 0 [some (aR 185), some (aI x1), some (aI x2), some (aI x3)] [] h
  refine zV_aload_n O dX8_plan_0 rfl rfl ?_
  refine zV_iconst (z := 0) O ⟨by omega, by omega⟩ dX8_plan_1 ?_
  refine zV_putI O zf_RX8_1 zt_185 rfl (by decide) dX8_plan_2 ?_
  have hM := hM _ rfl
  generalize hu h 185 0 0 = h40 at hM ⊢
  refine zV_aload_n O dX8_plan_5 rfl rfl ?_
  refine zV_aload_n O dX8_plan_6 rfl rfl ?_
  refine zV_iload_n O dX8_plan_7 rfl rfl ?_
  refine zV_callV (as := [aI x1]) (st := [aR 185]) O zc_X8_isHost (Or.inl zl_RX8_295) zi_1589 zi_126 zt_185 rfl rfl (by decide) (Nat.le_of_ble_eq_true rfl) rfl rfl (Nat.le_of_ble_eq_true rfl) (Nat.le_of_ble_eq_true rfl) (Nat.le_of_ble_eq_true rfl) (Nat.le_of_ble_eq_true rfl) (Nat.le_of_ble_eq_true rfl) (Nat.le_of_ble_eq_true rfl) dX8_plan_8 (sX8_isHost hM) (fun r h9 hq => ?_) (fun x h9 hq => hq.elim)
  obtain ⟨rfl, z41, rfl, hzz41, hM⟩ := hq
  refine zV_iconst (z := 1) O ⟨by omega, by omega⟩ dX8_plan_11 ?_
  refine zV_callV (as := [aI z41, aI 1]) (st := []) O zc_X8_fails (Or.inl zl_RX8_201) zi_1420 zi_93 zt_185 rfl rfl (by decide) (Nat.le_of_ble_eq_true rfl) rfl rfl (Nat.le_of_ble_eq_true rfl) (Nat.le_of_ble_eq_true rfl) (Nat.le_of_ble_eq_true rfl) (Nat.le_of_ble_eq_true rfl) (Nat.le_of_ble_eq_true rfl) (Nat.le_of_ble_eq_true rfl) dX8_plan_12 (sX8_fails hM) (fun r h43 hq => ?_) (fun x h9 hq => hq.elim)
  obtain ⟨z42, rfl, hzz42, hM⟩ := hq
  refine zV_if_ne (tgt := 45) O dX8_plan_15 (by decide) (fun hc => ?_) (fun hc => ?_)
  · replace hM := hM.1 hc
    refine zV_iconst (z := 0) O ⟨by omega, by omega⟩ dX8_plan_45 ?_
    exact zV_iret O rfl ⟨_, rfl, hM⟩ (Nat.le_of_ble_eq_true rfl) (Nat.le_of_ble_eq_true rfl) dX8_plan_46
  · replace hM := hM.2 hc
    refine zV_aload_n O dX8_plan_18 rfl rfl ?_
    refine zV_iload_n O dX8_plan_19 rfl rfl ?_
    refine zV_callS (as := [aI x2]) (st := [aR 185]) O zc_X8_isNumber (Or.inl zl_RX8_303) zi_1604 (Nat.le_of_ble_eq_true rfl) rfl rfl (Nat.le_of_ble_eq_true rfl) (Nat.le_of_ble_eq_true rfl) (Nat.le_of_ble_eq_true rfl) (Nat.le_of_ble_eq_true rfl) (Nat.le_of_ble_eq_true rfl) (Nat.le_of_ble_eq_true rfl) dX8_plan_20 (sX8_isNumber hM) (fun r h9 hq => ?_) (fun x h9 hq => hq.elim)
    obtain ⟨rfl, z44, rfl, hzz44, hM⟩ := hq
    refine zV_if_eq (tgt := 37) O dX8_plan_23 (by decide) (fun hc => ?_) (fun hc => ?_)
    · replace hM := hM.1 hc
      exact sX8_plan_b37 O hM
    · replace hM := hM.2 hc
      refine zV_iload_n O dX8_plan_26 rfl rfl ?_
      refine zV_callS (as := [aI x3]) (st := [aR 185]) O zc_X8_isWave (Or.inl zl_RX8_306) zi_1615 (Nat.le_of_ble_eq_true rfl) rfl rfl (Nat.le_of_ble_eq_true rfl) (Nat.le_of_ble_eq_true rfl) (Nat.le_of_ble_eq_true rfl) (Nat.le_of_ble_eq_true rfl) (Nat.le_of_ble_eq_true rfl) (Nat.le_of_ble_eq_true rfl) dX8_plan_27 (sX8_isWave hM) (fun r h9 hq => ?_) (fun x h9 hq => hq.elim)
      obtain ⟨rfl, z45, rfl, hzz45, hM⟩ := hq
      refine zV_if_eq (tgt := 37) O dX8_plan_30 (by decide) (fun hc => ?_) (fun hc => ?_)
      · replace hM := hM.1 hc
        exact sX8_plan_b37 O hM
      · replace hM := hM.2 hc
        refine zV_iconst (z := 1) O ⟨by omega, by omega⟩ dX8_plan_33 ?_
        refine zV_goto (tgt := 38) O dX8_plan_34 (by decide) ?_
        exact sX8_plan_b38 O (Or.inr rfl) hM
def mX8_plans (x1 : Int) (h : Hp) (Q : Int → Hp → Prop) : Prop := (∀ h6 : Hp, h6 = hu h 185 0 0 → (mX8_isWave x1 h6 (fun z7 => (mX8_fails z7 1 h6 (fun z8 h9 => ((z8 = 0 → (mX8_plansIn 186 1096 x1 h9 (fun z10 => (Q z10 h9)))) ∧ (¬ z8 = 0 → (Q 0 h9))))))))
set_option maxHeartbeats 4000000 in
set_option maxRecDepth 100000 in
theorem sX8_plans {l0 : Launch} {x1 : Int} {h : Hp} {Q : Int → Hp → Prop}  (hM : mX8_plans x1 h Q) : zSp l0 yX8_plans cX8_plans 2 (some .int) 197 (3) 0 0 [aR 185, aI x1] h (qI Q) xN := by
  unfold mX8_plans at hM
  refine zSp_intro zpn_RX8 (Nat.le_of_ble_eq_true rfl) (fun a O => ?_)
  show zV a (3, 0, 0, (qI Q), xN) 0 0 0 [some (aR 185), some (aI x1)] [] h
  refine zV_aload_n O dX8_plans_0 rfl rfl ?_
  refine zV_iconst (z := 0) O ⟨by omega, by omega⟩ dX8_plans_1 ?_
  refine zV_putI O zf_RX8_1 zt_185 rfl (by decide) dX8_plans_2 ?_
  have hM := hM _ rfl
  generalize hu h 185 0 0 = h6 at hM ⊢
  refine zV_aload_n O dX8_plans_5 rfl rfl ?_
  refine zV_iload_n O dX8_plans_6 rfl rfl ?_
  refine zV_callS (as := [aI x1]) (st := [aR 185]) O zc_X8_isWave (Or.inl zl_RX8_306) zi_1615 (Nat.le_of_ble_eq_true rfl) rfl rfl (Nat.le_of_ble_eq_true rfl) (Nat.le_of_ble_eq_true rfl) (Nat.le_of_ble_eq_true rfl) (Nat.le_of_ble_eq_true rfl) (Nat.le_of_ble_eq_true rfl) (Nat.le_of_ble_eq_true rfl) dX8_plans_7 (sX8_isWave hM) (fun r h9 hq => ?_) (fun x h9 hq => hq.elim)
  obtain ⟨rfl, z7, rfl, hzz7, hM⟩ := hq
  refine zV_iconst (z := 1) O ⟨by omega, by omega⟩ dX8_plans_10 ?_
  refine zV_callV (as := [aI z7, aI 1]) (st := []) O zc_X8_fails (Or.inl zl_RX8_201) zi_1420 zi_93 zt_185 rfl rfl (by decide) (Nat.le_of_ble_eq_true rfl) rfl rfl (Nat.le_of_ble_eq_true rfl) (Nat.le_of_ble_eq_true rfl) (Nat.le_of_ble_eq_true rfl) (Nat.le_of_ble_eq_true rfl) (Nat.le_of_ble_eq_true rfl) (Nat.le_of_ble_eq_true rfl) dX8_plans_11 (sX8_fails hM) (fun r h9 hq => ?_) (fun x h9 hq => hq.elim)
  obtain ⟨z8, rfl, hzz8, hM⟩ := hq
  refine zV_if_eq (tgt := 21) O dX8_plans_14 (by decide) (fun hc => ?_) (fun hc => ?_)
  · replace hM := hM.1 hc
    refine zV_aload_n O dX8_plans_21 rfl rfl ?_
    refine zV_aload_n O dX8_plans_22 rfl rfl ?_
    refine zV_getR O zf_RX8_13 zt_185 rfl (by decide) dX8_plans_23 ?_
    refine zV_iload_n O dX8_plans_26 rfl rfl ?_
    refine zV_callV (as := [aR 186, aI x1]) (st := []) O zc_X8_plansIn (Or.inl zl_RX8_179) zi_1536 zi_115 zt_185 rfl rfl (by decide) (Nat.le_of_ble_eq_true rfl) rfl rfl (Nat.le_of_ble_eq_true rfl) (Nat.le_of_ble_eq_true rfl) (Nat.le_of_ble_eq_true rfl) (Nat.le_of_ble_eq_true rfl) (Nat.le_of_ble_eq_true rfl) (Nat.le_of_ble_eq_true rfl) dX8_plans_27 (sX8_plansIn zt_186 (by decide) ⟨by decide, by decide⟩ hM) (fun r h9 hq => ?_) (fun x h9 hq => hq.elim)
    obtain ⟨rfl, z10, rfl, hM⟩ := hq
    exact zV_iret O rfl ⟨_, rfl, hM⟩ (Nat.le_of_ble_eq_true rfl) (Nat.le_of_ble_eq_true rfl) dX8_plans_30
  · replace hM := hM.2 hc
    refine zV_iconst (z := 0) O ⟨by omega, by omega⟩ dX8_plans_17 ?_
    refine zV_goto (tgt := 30) O dX8_plans_18 (by decide) ?_
    exact zV_iret O rfl ⟨_, rfl, hM⟩ (Nat.le_of_ble_eq_true rfl) (Nat.le_of_ble_eq_true rfl) dX8_plans_30
def mX8_plansNow_b29 (h : Hp) (Q : Int → Prop) (K4 : Int → Int → Prop) (v2 : Int) (s0 : Int) (s1 : Int) : Prop := (zr (s1 + s0) ∧ (zr (v2 + 1) ∧ (K4 (s1 + s0) (v2 + 1))))
set_option maxHeartbeats 4000000 in
set_option maxRecDepth 100000 in
theorem sX8_plansNow_b29 {l0 : Launch} {a : ZC}  {h : Hp} {Q : Int → Prop} {K4 : Int → Int → Prop} (O : zOk l0 a cX8_plansNow RX8 3 (some .int) 197 [])  (hK4 : ∀ (v1 : Int) (v2 : Int), K4 v1 v2 → zV a (3, 0, 0, (qPI h Q), xN) 0 0 4 [some (aR 185), some (aI v1), some (aI v2)] [] h) {v2 : Int} {s0 : Int} {s1 : Int}  (hz_s0 : s0 = 0 ∨ s0 = 1) (hM : mX8_plansNow_b29 h Q K4 v2 s0 s1) : zV a (3, 0, 0, (qPI h Q), xN) 0 0 29 [some (aR 185), none, some (aI v2)] [aI s0, aI s1] h := by
  unfold mX8_plansNow_b29 at hM
  obtain ⟨hc, hM⟩ := hM
  refine zV_iadd O dX8_plansNow_29 hc ?_
  refine zV_istore_n O dX8_plansNow_30 rfl (Nat.le_of_ble_eq_true rfl) rfl ?_
  obtain ⟨hc, hM⟩ := hM
  refine zV_iinc O dX8_plansNow_31 rfl (Nat.le_of_ble_eq_true rfl) rfl hc ?_
  refine zV_goto (tgt := 4) O dX8_plansNow_34 (by decide) ?_
  exact hK4 _ _ hM
def mX8_plansNow_b4 (h : Hp) (Q : Int → Prop) : Nat → Int → Int → Prop
  | 0 => fun _ _ => False
  | fu4 + 1 => fun v1 v2 => (((0 : Int) ≤ 0 ∧ (0 : Int) < 1096) ∧ (((rd h 186 0) ≤ v2 → (Q v1)) ∧ (¬ (rd h 186 0) ≤ v2 → (mX8_of v2 4 h (fun z4 => ((z4 ≤ 0 → (mX8_plansNow_b29 h Q (mX8_plansNow_b4 h Q fu4) v2 0 v1)) ∧ (¬ z4 ≤ 0 → (mX8_plansNow_b29 h Q (mX8_plansNow_b4 h Q fu4) v2 1 v1))))))))
set_option maxHeartbeats 4000000 in
set_option maxRecDepth 100000 in
theorem sX8_plansNow_b4 {l0 : Launch} {a : ZC}  {h : Hp} {Q : Int → Prop}  (O : zOk l0 a cX8_plansNow RX8 3 (some .int) 197 [])   : ∀ (ff : Nat) (v1 : Int) (v2 : Int) , mX8_plansNow_b4 h Q ff v1 v2 → zV a (3, 0, 0, (qPI h Q), xN) 0 0 4 [some (aR 185), some (aI v1), some (aI v2)] [] h := by
  intro ff
  induction ff with
  | zero => intro v1 v2 hM; exact hM.elim
  | succ ff ih =>
    have hK4 := ih
    intro v1 v2 hM
    unfold mX8_plansNow_b4 at hM
    refine zV_iload_n O dX8_plansNow_4 rfl rfl ?_
    refine zV_aload_n O dX8_plansNow_5 rfl rfl ?_
    refine zV_getR O zf_RX8_13 zt_185 rfl (by decide) dX8_plansNow_6 ?_
    refine zV_iconst (z := 0) O ⟨by omega, by omega⟩ dX8_plansNow_9 ?_
    obtain ⟨hc, hM⟩ := hM
    refine zV_iald O zt_186 (by decide) hc dX8_plansNow_10 ?_
    refine zV_icmp_ge (tgt := 37) O dX8_plansNow_11 (by decide) (fun hc => ?_) (fun hc => ?_)
    · replace hM := hM.1 hc
      refine zV_iload_n O dX8_plansNow_37 rfl rfl ?_
      exact zV_iret O rfl ⟨rfl, _, rfl, hM⟩ (Nat.le_of_ble_eq_true rfl) (Nat.le_of_ble_eq_true rfl) dX8_plansNow_38
    · replace hM := hM.2 hc
      refine zV_iload_n O dX8_plansNow_14 rfl rfl ?_
      refine zV_aload_n O dX8_plansNow_15 rfl rfl ?_
      refine zV_iload_n O dX8_plansNow_16 rfl rfl ?_
      refine zV_iconst (z := 4) O ⟨by omega, by omega⟩ dX8_plansNow_17 ?_
      refine zV_callV (as := [aI v2, aI 4]) (st := [aI v1]) O zc_X8_of (Or.inl zl_RX8_218) zi_1549 zi_117 zt_185 rfl rfl (by decide) (Nat.le_of_ble_eq_true rfl) rfl rfl (Nat.le_of_ble_eq_true rfl) (Nat.le_of_ble_eq_true rfl) (Nat.le_of_ble_eq_true rfl) (Nat.le_of_ble_eq_true rfl) (Nat.le_of_ble_eq_true rfl) (Nat.le_of_ble_eq_true rfl) dX8_plansNow_18 (sX8_of hM) (fun r h9 hq => ?_) (fun x h9 hq => hq.elim)
      obtain ⟨rfl, z4, rfl, hM⟩ := hq
      refine zV_if_le (tgt := 28) O dX8_plansNow_21 (by decide) (fun hc => ?_) (fun hc => ?_)
      · replace hM := hM.1 hc
        refine zV_iconst (z := 0) O ⟨by omega, by omega⟩ dX8_plansNow_28 ?_
        refine zV_sub (ls2 := [some (aR 185), none, some (aI v2)]) ⟨rfl, rfl, trivial⟩ ?_
        exact sX8_plansNow_b29 O hK4 (Or.inl rfl) hM
      · replace hM := hM.2 hc
        refine zV_iconst (z := 1) O ⟨by omega, by omega⟩ dX8_plansNow_24 ?_
        refine zV_goto (tgt := 29) O dX8_plansNow_25 (by decide) ?_
        refine zV_sub (ls2 := [some (aR 185), none, some (aI v2)]) ⟨rfl, rfl, trivial⟩ ?_
        exact sX8_plansNow_b29 O hK4 (Or.inr rfl) hM
def mX8_plansNow  (h : Hp) (Q : Int → Prop) : Prop := (∃ ff, mX8_plansNow_b4 h Q ff 0 0)
set_option maxHeartbeats 4000000 in
set_option maxRecDepth 100000 in
theorem sX8_plansNow {l0 : Launch}  {h : Hp} {Q : Int → Prop}  (hM : mX8_plansNow  h Q) : zSp l0 yX8_plansNow cX8_plansNow 3 (some .int) 197 (3) 0 0 [aR 185] h (qPI h Q) xN := by
  unfold mX8_plansNow at hM
  refine zSp_intro zpn_RX8 (Nat.le_of_ble_eq_true rfl) (fun a O => ?_)
  show zV a (3, 0, 0, (qPI h Q), xN) 0 0 0 [some (aR 185), none, none] [] h
  refine zV_iconst (z := 0) O ⟨by omega, by omega⟩ dX8_plansNow_0 ?_
  refine zV_istore_n O dX8_plansNow_1 rfl (Nat.le_of_ble_eq_true rfl) rfl ?_
  refine zV_iconst (z := 0) O ⟨by omega, by omega⟩ dX8_plansNow_2 ?_
  refine zV_istore_n O dX8_plansNow_3 rfl (Nat.le_of_ble_eq_true rfl) rfl ?_
  obtain ⟨ff, hM⟩ := hM
  exact sX8_plansNow_b4 O ff _ _ hM
def mX8_propertyHere  (h : Hp) (Q : Int → Prop) : Prop := (mX8_isWord 168932 h (fun z10 => ((z10 = 0 → (mX8_isWord 218546996 h (fun z11 => ((z11 = 0 → (mX8_isWord 212302449 h (fun z12 => ((z12 = 0 → (mX8_isWord 11263 h (fun z13 => ((z13 = 0 → (mX8_isWord 234651388 h (fun z14 => ((z14 = 0 → (mX8_isWord 6371732056 h (fun z15 => ((z15 = 0 → (mX8_isWord 454037 h (fun z16 => ((z16 = 0 → (mX8_isWord 1831769 h (fun z17 => ((z17 = 0 → (mX8_isWord 9665171 h (fun z18 => ((z18 = 0 → (Q (-1))) ∧ (¬ z18 = 0 → (Q 8)))))) ∧ (¬ z17 = 0 → (Q 7)))))) ∧ (¬ z16 = 0 → (Q 6)))))) ∧ (¬ z15 = 0 → (Q 5)))))) ∧ (¬ z14 = 0 → (Q 4)))))) ∧ (¬ z13 = 0 → (Q 3)))))) ∧ (¬ z12 = 0 → (Q 2)))))) ∧ (¬ z11 = 0 → (Q 1)))))) ∧ (¬ z10 = 0 → (Q 0)))))
set_option maxHeartbeats 4000000 in
set_option maxRecDepth 100000 in
theorem sX8_propertyHere {l0 : Launch}  {h : Hp} {Q : Int → Prop}  (hM : mX8_propertyHere  h Q) : zSp l0 yX8_propertyHere cX8_propertyHere 1 (some .int) 197 (3) 0 0 [aR 185] h (qPI h Q) xN := by
  unfold mX8_propertyHere at hM
  refine zSp_intro zpn_RX8 (Nat.le_of_ble_eq_true rfl) (fun a O => ?_)
  show zV a (3, 0, 0, (qPI h Q), xN) 0 0 0 [some (aR 185)] [] h
  refine zV_aload_n O dX8_propertyHere_0 rfl rfl ?_
  refine zV_ldc2 (z := 168932) O ⟨by omega, by omega⟩ zi_1491.1 zi_1491.2 dX8_propertyHere_1 ?_
  refine zV_callV (as := [aL 168932]) (st := []) O zc_X8_isWord (Or.inl zl_RX8_115) zi_1466 zi_102 zt_185 rfl rfl (by decide) (Nat.le_of_ble_eq_true rfl) rfl rfl (Nat.le_of_ble_eq_true rfl) (Nat.le_of_ble_eq_true rfl) (Nat.le_of_ble_eq_true rfl) (Nat.le_of_ble_eq_true rfl) (Nat.le_of_ble_eq_true rfl) (Nat.le_of_ble_eq_true rfl) dX8_propertyHere_4 (sX8_isWord hM) (fun r h9 hq => ?_) (fun x h9 hq => hq.elim)
  obtain ⟨rfl, z10, rfl, hzz10, hM⟩ := hq
  refine zV_if_eq (tgt := 12) O dX8_propertyHere_7 (by decide) (fun hc => ?_) (fun hc => ?_)
  · replace hM := hM.1 hc
    refine zV_aload_n O dX8_propertyHere_12 rfl rfl ?_
    refine zV_ldc2 (z := 218546996) O ⟨by omega, by omega⟩ zi_1887.1 zi_1887.2 dX8_propertyHere_13 ?_
    refine zV_callV (as := [aL 218546996]) (st := []) O zc_X8_isWord (Or.inl zl_RX8_115) zi_1466 zi_102 zt_185 rfl rfl (by decide) (Nat.le_of_ble_eq_true rfl) rfl rfl (Nat.le_of_ble_eq_true rfl) (Nat.le_of_ble_eq_true rfl) (Nat.le_of_ble_eq_true rfl) (Nat.le_of_ble_eq_true rfl) (Nat.le_of_ble_eq_true rfl) (Nat.le_of_ble_eq_true rfl) dX8_propertyHere_16 (sX8_isWord hM) (fun r h9 hq => ?_) (fun x h9 hq => hq.elim)
    obtain ⟨rfl, z11, rfl, hzz11, hM⟩ := hq
    refine zV_if_eq (tgt := 24) O dX8_propertyHere_19 (by decide) (fun hc => ?_) (fun hc => ?_)
    · replace hM := hM.1 hc
      refine zV_aload_n O dX8_propertyHere_24 rfl rfl ?_
      refine zV_ldc2 (z := 212302449) O ⟨by omega, by omega⟩ zi_1888.1 zi_1888.2 dX8_propertyHere_25 ?_
      refine zV_callV (as := [aL 212302449]) (st := []) O zc_X8_isWord (Or.inl zl_RX8_115) zi_1466 zi_102 zt_185 rfl rfl (by decide) (Nat.le_of_ble_eq_true rfl) rfl rfl (Nat.le_of_ble_eq_true rfl) (Nat.le_of_ble_eq_true rfl) (Nat.le_of_ble_eq_true rfl) (Nat.le_of_ble_eq_true rfl) (Nat.le_of_ble_eq_true rfl) (Nat.le_of_ble_eq_true rfl) dX8_propertyHere_28 (sX8_isWord hM) (fun r h9 hq => ?_) (fun x h9 hq => hq.elim)
      obtain ⟨rfl, z12, rfl, hzz12, hM⟩ := hq
      refine zV_if_eq (tgt := 36) O dX8_propertyHere_31 (by decide) (fun hc => ?_) (fun hc => ?_)
      · replace hM := hM.1 hc
        refine zV_aload_n O dX8_propertyHere_36 rfl rfl ?_
        refine zV_ldc2 (z := 11263) O ⟨by omega, by omega⟩ zi_1889.1 zi_1889.2 dX8_propertyHere_37 ?_
        refine zV_callV (as := [aL 11263]) (st := []) O zc_X8_isWord (Or.inl zl_RX8_115) zi_1466 zi_102 zt_185 rfl rfl (by decide) (Nat.le_of_ble_eq_true rfl) rfl rfl (Nat.le_of_ble_eq_true rfl) (Nat.le_of_ble_eq_true rfl) (Nat.le_of_ble_eq_true rfl) (Nat.le_of_ble_eq_true rfl) (Nat.le_of_ble_eq_true rfl) (Nat.le_of_ble_eq_true rfl) dX8_propertyHere_40 (sX8_isWord hM) (fun r h9 hq => ?_) (fun x h9 hq => hq.elim)
        obtain ⟨rfl, z13, rfl, hzz13, hM⟩ := hq
        refine zV_if_eq (tgt := 48) O dX8_propertyHere_43 (by decide) (fun hc => ?_) (fun hc => ?_)
        · replace hM := hM.1 hc
          refine zV_aload_n O dX8_propertyHere_48 rfl rfl ?_
          refine zV_ldc2 (z := 234651388) O ⟨by omega, by omega⟩ zi_1512.1 zi_1512.2 dX8_propertyHere_49 ?_
          refine zV_callV (as := [aL 234651388]) (st := []) O zc_X8_isWord (Or.inl zl_RX8_115) zi_1466 zi_102 zt_185 rfl rfl (by decide) (Nat.le_of_ble_eq_true rfl) rfl rfl (Nat.le_of_ble_eq_true rfl) (Nat.le_of_ble_eq_true rfl) (Nat.le_of_ble_eq_true rfl) (Nat.le_of_ble_eq_true rfl) (Nat.le_of_ble_eq_true rfl) (Nat.le_of_ble_eq_true rfl) dX8_propertyHere_52 (sX8_isWord hM) (fun r h9 hq => ?_) (fun x h9 hq => hq.elim)
          obtain ⟨rfl, z14, rfl, hzz14, hM⟩ := hq
          refine zV_if_eq (tgt := 60) O dX8_propertyHere_55 (by decide) (fun hc => ?_) (fun hc => ?_)
          · replace hM := hM.1 hc
            refine zV_aload_n O dX8_propertyHere_60 rfl rfl ?_
            refine zV_ldc2 (z := 6371732056) O ⟨by omega, by omega⟩ zi_1890.1 zi_1890.2 dX8_propertyHere_61 ?_
            refine zV_callV (as := [aL 6371732056]) (st := []) O zc_X8_isWord (Or.inl zl_RX8_115) zi_1466 zi_102 zt_185 rfl rfl (by decide) (Nat.le_of_ble_eq_true rfl) rfl rfl (Nat.le_of_ble_eq_true rfl) (Nat.le_of_ble_eq_true rfl) (Nat.le_of_ble_eq_true rfl) (Nat.le_of_ble_eq_true rfl) (Nat.le_of_ble_eq_true rfl) (Nat.le_of_ble_eq_true rfl) dX8_propertyHere_64 (sX8_isWord hM) (fun r h9 hq => ?_) (fun x h9 hq => hq.elim)
            obtain ⟨rfl, z15, rfl, hzz15, hM⟩ := hq
            refine zV_if_eq (tgt := 72) O dX8_propertyHere_67 (by decide) (fun hc => ?_) (fun hc => ?_)
            · replace hM := hM.1 hc
              refine zV_aload_n O dX8_propertyHere_72 rfl rfl ?_
              refine zV_ldc2 (z := 454037) O ⟨by omega, by omega⟩ zi_1891.1 zi_1891.2 dX8_propertyHere_73 ?_
              refine zV_callV (as := [aL 454037]) (st := []) O zc_X8_isWord (Or.inl zl_RX8_115) zi_1466 zi_102 zt_185 rfl rfl (by decide) (Nat.le_of_ble_eq_true rfl) rfl rfl (Nat.le_of_ble_eq_true rfl) (Nat.le_of_ble_eq_true rfl) (Nat.le_of_ble_eq_true rfl) (Nat.le_of_ble_eq_true rfl) (Nat.le_of_ble_eq_true rfl) (Nat.le_of_ble_eq_true rfl) dX8_propertyHere_76 (sX8_isWord hM) (fun r h9 hq => ?_) (fun x h9 hq => hq.elim)
              obtain ⟨rfl, z16, rfl, hzz16, hM⟩ := hq
              refine zV_if_eq (tgt := 85) O dX8_propertyHere_79 (by decide) (fun hc => ?_) (fun hc => ?_)
              · replace hM := hM.1 hc
                refine zV_aload_n O dX8_propertyHere_85 rfl rfl ?_
                refine zV_ldc2 (z := 1831769) O ⟨by omega, by omega⟩ zi_1892.1 zi_1892.2 dX8_propertyHere_86 ?_
                refine zV_callV (as := [aL 1831769]) (st := []) O zc_X8_isWord (Or.inl zl_RX8_115) zi_1466 zi_102 zt_185 rfl rfl (by decide) (Nat.le_of_ble_eq_true rfl) rfl rfl (Nat.le_of_ble_eq_true rfl) (Nat.le_of_ble_eq_true rfl) (Nat.le_of_ble_eq_true rfl) (Nat.le_of_ble_eq_true rfl) (Nat.le_of_ble_eq_true rfl) (Nat.le_of_ble_eq_true rfl) dX8_propertyHere_89 (sX8_isWord hM) (fun r h9 hq => ?_) (fun x h9 hq => hq.elim)
                obtain ⟨rfl, z17, rfl, hzz17, hM⟩ := hq
                refine zV_if_eq (tgt := 98) O dX8_propertyHere_92 (by decide) (fun hc => ?_) (fun hc => ?_)
                · replace hM := hM.1 hc
                  refine zV_aload_n O dX8_propertyHere_98 rfl rfl ?_
                  refine zV_ldc2 (z := 9665171) O ⟨by omega, by omega⟩ zi_1893.1 zi_1893.2 dX8_propertyHere_99 ?_
                  refine zV_callV (as := [aL 9665171]) (st := []) O zc_X8_isWord (Or.inl zl_RX8_115) zi_1466 zi_102 zt_185 rfl rfl (by decide) (Nat.le_of_ble_eq_true rfl) rfl rfl (Nat.le_of_ble_eq_true rfl) (Nat.le_of_ble_eq_true rfl) (Nat.le_of_ble_eq_true rfl) (Nat.le_of_ble_eq_true rfl) (Nat.le_of_ble_eq_true rfl) (Nat.le_of_ble_eq_true rfl) dX8_propertyHere_102 (sX8_isWord hM) (fun r h9 hq => ?_) (fun x h9 hq => hq.elim)
                  obtain ⟨rfl, z18, rfl, hzz18, hM⟩ := hq
                  refine zV_if_eq (tgt := 113) O dX8_propertyHere_105 (by decide) (fun hc => ?_) (fun hc => ?_)
                  · replace hM := hM.1 hc
                    refine zV_iconst (z := -1) O ⟨by omega, by omega⟩ dX8_propertyHere_113 ?_
                    exact zV_iret O rfl ⟨rfl, _, rfl, hM⟩ (Nat.le_of_ble_eq_true rfl) (Nat.le_of_ble_eq_true rfl) dX8_propertyHere_114
                  · replace hM := hM.2 hc
                    refine zV_bipush (z := 8) O ⟨by omega, by omega⟩ rfl dX8_propertyHere_108 ?_
                    refine zV_goto (tgt := 114) O dX8_propertyHere_110 (by decide) ?_
                    exact zV_iret O rfl ⟨rfl, _, rfl, hM⟩ (Nat.le_of_ble_eq_true rfl) (Nat.le_of_ble_eq_true rfl) dX8_propertyHere_114
                · replace hM := hM.2 hc
                  refine zV_bipush (z := 7) O ⟨by omega, by omega⟩ rfl dX8_propertyHere_95 ?_
                  exact zV_iret O rfl ⟨rfl, _, rfl, hM⟩ (Nat.le_of_ble_eq_true rfl) (Nat.le_of_ble_eq_true rfl) dX8_propertyHere_97
              · replace hM := hM.2 hc
                refine zV_bipush (z := 6) O ⟨by omega, by omega⟩ rfl dX8_propertyHere_82 ?_
                exact zV_iret O rfl ⟨rfl, _, rfl, hM⟩ (Nat.le_of_ble_eq_true rfl) (Nat.le_of_ble_eq_true rfl) dX8_propertyHere_84
            · replace hM := hM.2 hc
              refine zV_iconst (z := 5) O ⟨by omega, by omega⟩ dX8_propertyHere_70 ?_
              exact zV_iret O rfl ⟨rfl, _, rfl, hM⟩ (Nat.le_of_ble_eq_true rfl) (Nat.le_of_ble_eq_true rfl) dX8_propertyHere_71
          · replace hM := hM.2 hc
            refine zV_iconst (z := 4) O ⟨by omega, by omega⟩ dX8_propertyHere_58 ?_
            exact zV_iret O rfl ⟨rfl, _, rfl, hM⟩ (Nat.le_of_ble_eq_true rfl) (Nat.le_of_ble_eq_true rfl) dX8_propertyHere_59
        · replace hM := hM.2 hc
          refine zV_iconst (z := 3) O ⟨by omega, by omega⟩ dX8_propertyHere_46 ?_
          exact zV_iret O rfl ⟨rfl, _, rfl, hM⟩ (Nat.le_of_ble_eq_true rfl) (Nat.le_of_ble_eq_true rfl) dX8_propertyHere_47
      · replace hM := hM.2 hc
        refine zV_iconst (z := 2) O ⟨by omega, by omega⟩ dX8_propertyHere_34 ?_
        exact zV_iret O rfl ⟨rfl, _, rfl, hM⟩ (Nat.le_of_ble_eq_true rfl) (Nat.le_of_ble_eq_true rfl) dX8_propertyHere_35
    · replace hM := hM.2 hc
      refine zV_iconst (z := 1) O ⟨by omega, by omega⟩ dX8_propertyHere_22 ?_
      exact zV_iret O rfl ⟨rfl, _, rfl, hM⟩ (Nat.le_of_ble_eq_true rfl) (Nat.le_of_ble_eq_true rfl) dX8_propertyHere_23
  · replace hM := hM.2 hc
    refine zV_iconst (z := 0) O ⟨by omega, by omega⟩ dX8_propertyHere_10 ?_
    exact zV_iret O rfl ⟨rfl, _, rfl, hM⟩ (Nat.le_of_ble_eq_true rfl) (Nat.le_of_ble_eq_true rfl) dX8_propertyHere_11
def mX8_removeHost_b44 (Q : Int → Hp → Prop) : Nat → Int → Hp → Prop
  | 0 => fun _ _ => False
  | fu44 + 1 => fun v2 h => (((0 : Int) ≤ 0 ∧ (0 : Int) < 1096) ∧ (mX8_cell (rd h 186 0) 0 h (fun z12 => ((z12 ≤ v2 → (((0 : Int) ≤ 0 ∧ (0 : Int) < 1096) ∧ (Q (rd h 186 0) h))) ∧ (¬ z12 ≤ v2 → (zr (v2 + 24) ∧ (((0 : Int) ≤ (v2 + 24) ∧ (v2 + 24) < 1096) ∧ (((0 : Int) ≤ v2 ∧ v2 < 1096) ∧ (∀ h13 : Hp, h13 = wr h 186 v2 (rd h 186 (v2 + 24)) → (zr (v2 + 1) ∧ ((mX8_removeHost_b44 Q fu44) (v2 + 1) h13)))))))))))
set_option maxHeartbeats 4000000 in
set_option maxRecDepth 100000 in
theorem sX8_removeHost_b44 {l0 : Launch} {a : ZC}  {Q : Int → Hp → Prop}  (O : zOk l0 a cX8_removeHost RX8 3 (some .int) 197 [])   : ∀ (ff : Nat) (v2 : Int) (h : Hp), mX8_removeHost_b44 Q ff v2 h → zV a (3, 0, 0, (qI Q), xN) 0 0 44 [some (aR 185), none, some (aI v2)] [] h := by
  intro ff
  induction ff with
  | zero => intro v2 h hM; exact hM.elim
  | succ ff ih =>
    have hK44 := ih
    intro v2 h hM
    unfold mX8_removeHost_b44 at hM
    refine zV_iload_n O dX8_removeHost_44 rfl rfl ?_
    refine zV_aload_n O dX8_removeHost_45 rfl rfl ?_
    refine zV_getR O zf_RX8_13 zt_185 rfl (by decide) dX8_removeHost_46 ?_
    refine zV_iconst (z := 0) O ⟨by omega, by omega⟩ dX8_removeHost_49 ?_
    obtain ⟨hc, hM⟩ := hM
    refine zV_iald O zt_186 (by decide) hc dX8_removeHost_50 ?_
    refine zV_iconst (z := 0) O ⟨by omega, by omega⟩ dX8_removeHost_51 ?_
    refine zV_callS (as := [aI (rd h 186 0), aI 0]) (st := [aI v2]) O zc_X8_cell (Or.inl zl_RX8_129) zi_1505 (Nat.le_of_ble_eq_true rfl) rfl rfl (Nat.le_of_ble_eq_true rfl) (Nat.le_of_ble_eq_true rfl) (Nat.le_of_ble_eq_true rfl) (Nat.le_of_ble_eq_true rfl) (Nat.le_of_ble_eq_true rfl) (Nat.le_of_ble_eq_true rfl) dX8_removeHost_52 (sX8_cell hM) (fun r h9 hq => ?_) (fun x h9 hq => hq.elim)
    obtain ⟨rfl, z12, rfl, hM⟩ := hq
    refine zV_icmp_ge (tgt := 79) O dX8_removeHost_55 (by decide) (fun hc => ?_) (fun hc => ?_)
    · replace hM := hM.1 hc
      refine zV_aload_n O dX8_removeHost_79 rfl rfl ?_
      refine zV_getR O zf_RX8_13 zt_185 rfl (by decide) dX8_removeHost_80 ?_
      refine zV_iconst (z := 0) O ⟨by omega, by omega⟩ dX8_removeHost_83 ?_
      obtain ⟨hc, hM⟩ := hM
      refine zV_iald O zt_186 (by decide) hc dX8_removeHost_84 ?_
      exact zV_iret O rfl ⟨_, rfl, hM⟩ (Nat.le_of_ble_eq_true rfl) (Nat.le_of_ble_eq_true rfl) dX8_removeHost_85
    · replace hM := hM.2 hc
      refine zV_aload_n O dX8_removeHost_58 rfl rfl ?_
      refine zV_getR O zf_RX8_13 zt_185 rfl (by decide) dX8_removeHost_59 ?_
      refine zV_iload_n O dX8_removeHost_62 rfl rfl ?_
      refine zV_aload_n O dX8_removeHost_63 rfl rfl ?_
      refine zV_getR O zf_RX8_13 zt_185 rfl (by decide) dX8_removeHost_64 ?_
      refine zV_iload_n O dX8_removeHost_67 rfl rfl ?_
      refine zV_bipush (z := 24) O ⟨by omega, by omega⟩ rfl dX8_removeHost_68 ?_
      obtain ⟨hc, hM⟩ := hM
      refine zV_iadd O dX8_removeHost_70 hc ?_
      obtain ⟨hc, hM⟩ := hM
      refine zV_iald O zt_186 (by decide) hc dX8_removeHost_71 ?_
      obtain ⟨hc, hM⟩ := hM
      refine zV_iast O zt_186 (by decide) hc dX8_removeHost_72 ?_
      have hM := hM (hu h 186 (Int.toNat v2) (rd h 186 (v2 + 24))) rfl
      generalize hu h 186 (Int.toNat v2) (rd h 186 (v2 + 24)) = h13 at hM ⊢
      obtain ⟨hc, hM⟩ := hM
      refine zV_iinc O dX8_removeHost_73 rfl (Nat.le_of_ble_eq_true rfl) rfl hc ?_
      refine zV_goto (tgt := 44) O dX8_removeHost_76 (by decide) ?_
      exact hK44 _ _ hM
def mX8_removeHost (x1 : Int) (h : Hp) (Q : Int → Hp → Prop) : Prop := (∀ h14 : Hp, h14 = hu h 185 0 0 → (mX8_isHost x1 h14 (fun z15 => (mX8_fails z15 1 h14 (fun z16 h17 => ((z16 = 0 → (mX8_keeps 186 1096 h17 (fun h18 => (((0 : Int) ≤ 0 ∧ (0 : Int) < 1096) ∧ (zr ((rd h18 186 0) - 1) ∧ (((0 : Int) ≤ 0 ∧ (0 : Int) < 1096) ∧ (∀ h19 : Hp, h19 = wr h18 186 0 ((rd h18 186 0) - 1) → (mX8_cell x1 0 h19 (fun z20 => (∃ ff, mX8_removeHost_b44 Q ff z20 h19)))))))))) ∧ (¬ z16 = 0 → (Q 0 h17))))))))
set_option maxHeartbeats 4000000 in
set_option maxRecDepth 100000 in
theorem sX8_removeHost {l0 : Launch} {x1 : Int} {h : Hp} {Q : Int → Hp → Prop}  (hM : mX8_removeHost x1 h Q) : zSp l0 yX8_removeHost cX8_removeHost 3 (some .int) 197 (3) 0 0 [aR 185, aI x1] h (qI Q) xN := by
  unfold mX8_removeHost at hM
  refine zSp_intro zpn_RX8 (Nat.le_of_ble_eq_true rfl) (fun a O => ?_)
  show zV a (3, 0, 0, (qI Q), xN) 0 0 0 [some (aR 185), some (aI x1), none] [] h
  refine zV_aload_n O dX8_removeHost_0 rfl rfl ?_
  refine zV_iconst (z := 0) O ⟨by omega, by omega⟩ dX8_removeHost_1 ?_
  refine zV_putI O zf_RX8_1 zt_185 rfl (by decide) dX8_removeHost_2 ?_
  have hM := hM _ rfl
  generalize hu h 185 0 0 = h14 at hM ⊢
  refine zV_aload_n O dX8_removeHost_5 rfl rfl ?_
  refine zV_aload_n O dX8_removeHost_6 rfl rfl ?_
  refine zV_iload_n O dX8_removeHost_7 rfl rfl ?_
  refine zV_callV (as := [aI x1]) (st := [aR 185]) O zc_X8_isHost (Or.inl zl_RX8_295) zi_1589 zi_126 zt_185 rfl rfl (by decide) (Nat.le_of_ble_eq_true rfl) rfl rfl (Nat.le_of_ble_eq_true rfl) (Nat.le_of_ble_eq_true rfl) (Nat.le_of_ble_eq_true rfl) (Nat.le_of_ble_eq_true rfl) (Nat.le_of_ble_eq_true rfl) (Nat.le_of_ble_eq_true rfl) dX8_removeHost_8 (sX8_isHost hM) (fun r h9 hq => ?_) (fun x h9 hq => hq.elim)
  obtain ⟨rfl, z15, rfl, hzz15, hM⟩ := hq
  refine zV_iconst (z := 1) O ⟨by omega, by omega⟩ dX8_removeHost_11 ?_
  refine zV_callV (as := [aI z15, aI 1]) (st := []) O zc_X8_fails (Or.inl zl_RX8_201) zi_1420 zi_93 zt_185 rfl rfl (by decide) (Nat.le_of_ble_eq_true rfl) rfl rfl (Nat.le_of_ble_eq_true rfl) (Nat.le_of_ble_eq_true rfl) (Nat.le_of_ble_eq_true rfl) (Nat.le_of_ble_eq_true rfl) (Nat.le_of_ble_eq_true rfl) (Nat.le_of_ble_eq_true rfl) dX8_removeHost_12 (sX8_fails hM) (fun r h17 hq => ?_) (fun x h9 hq => hq.elim)
  obtain ⟨z16, rfl, hzz16, hM⟩ := hq
  refine zV_if_eq (tgt := 20) O dX8_removeHost_15 (by decide) (fun hc => ?_) (fun hc => ?_)
  · replace hM := hM.1 hc
    refine zV_aload_n O dX8_removeHost_20 rfl rfl ?_
    refine zV_aload_n O dX8_removeHost_21 rfl rfl ?_
    refine zV_getR O zf_RX8_13 zt_185 rfl (by decide) dX8_removeHost_22 ?_
    refine zV_callV (as := [aR 186]) (st := []) O zc_X8_keeps (Or.inl zl_RX8_335) zi_1752 zi_147 zt_185 rfl rfl (by decide) (Nat.le_of_ble_eq_true rfl) rfl rfl (Nat.le_of_ble_eq_true rfl) (Nat.le_of_ble_eq_true rfl) (Nat.le_of_ble_eq_true rfl) (Nat.le_of_ble_eq_true rfl) (Nat.le_of_ble_eq_true rfl) (Nat.le_of_ble_eq_true rfl) dX8_removeHost_25 (sX8_keeps zt_186 (by decide) ⟨by decide, by decide⟩ hM) (fun r h18 hq => ?_) (fun x h9 hq => hq.elim)
    obtain ⟨rfl, hM⟩ := hq
    refine zV_aload_n O dX8_removeHost_28 rfl rfl ?_
    refine zV_getR O zf_RX8_13 zt_185 rfl (by decide) dX8_removeHost_29 ?_
    refine zV_iconst (z := 0) O ⟨by omega, by omega⟩ dX8_removeHost_32 ?_
    refine zV_dup2 O rfl rfl dX8_removeHost_33 ?_
    obtain ⟨hc, hM⟩ := hM
    refine zV_iald O zt_186 (by decide) hc dX8_removeHost_34 ?_
    refine zV_iconst (z := 1) O ⟨by omega, by omega⟩ dX8_removeHost_35 ?_
    obtain ⟨hc, hM⟩ := hM
    refine zV_isub O dX8_removeHost_36 hc ?_
    obtain ⟨hc, hM⟩ := hM
    refine zV_iast O zt_186 (by decide) hc dX8_removeHost_37 ?_
    have hM := hM (hu h18 186 (Int.toNat 0) ((rd h18 186 0) - 1)) rfl
    generalize hu h18 186 (Int.toNat 0) ((rd h18 186 0) - 1) = h19 at hM ⊢
    refine zV_iload_n O dX8_removeHost_38 rfl rfl ?_
    refine zV_iconst (z := 0) O ⟨by omega, by omega⟩ dX8_removeHost_39 ?_
    refine zV_callS (as := [aI x1, aI 0]) (st := []) O zc_X8_cell (Or.inl zl_RX8_129) zi_1505 (Nat.le_of_ble_eq_true rfl) rfl rfl (Nat.le_of_ble_eq_true rfl) (Nat.le_of_ble_eq_true rfl) (Nat.le_of_ble_eq_true rfl) (Nat.le_of_ble_eq_true rfl) (Nat.le_of_ble_eq_true rfl) (Nat.le_of_ble_eq_true rfl) dX8_removeHost_40 (sX8_cell hM) (fun r h9 hq => ?_) (fun x h9 hq => hq.elim)
    obtain ⟨rfl, z20, rfl, hM⟩ := hq
    refine zV_istore_n O dX8_removeHost_43 rfl (Nat.le_of_ble_eq_true rfl) rfl ?_
    refine zV_sub (ls2 := [some (aR 185), none, some (aI z20)]) ⟨rfl, rfl, trivial⟩ ?_
    obtain ⟨ff, hM⟩ := hM
    exact sX8_removeHost_b44 O ff _ _ hM
  · replace hM := hM.2 hc
    refine zV_iconst (z := 0) O ⟨by omega, by omega⟩ dX8_removeHost_18 ?_
    exact zV_iret O rfl ⟨_, rfl, hM⟩ (Nat.le_of_ble_eq_true rfl) (Nat.le_of_ble_eq_true rfl) dX8_removeHost_19
def mX8_removeRule_b44 (Q : Int → Hp → Prop) : Nat → Int → Hp → Prop
  | 0 => fun _ _ => False
  | fu44 + 1 => fun v2 h => (((0 : Int) ≤ 1 ∧ (1 : Int) < 1096) ∧ (mX8_ruleCell (rd h 186 1) 0 h (fun z12 => ((z12 ≤ v2 → (((0 : Int) ≤ 1 ∧ (1 : Int) < 1096) ∧ (Q (rd h 186 1) h))) ∧ (¬ z12 ≤ v2 → (zr (v2 + 4) ∧ (((0 : Int) ≤ (v2 + 4) ∧ (v2 + 4) < 1096) ∧ (((0 : Int) ≤ v2 ∧ v2 < 1096) ∧ (∀ h13 : Hp, h13 = wr h 186 v2 (rd h 186 (v2 + 4)) → (zr (v2 + 1) ∧ ((mX8_removeRule_b44 Q fu44) (v2 + 1) h13)))))))))))
set_option maxHeartbeats 4000000 in
set_option maxRecDepth 100000 in
theorem sX8_removeRule_b44 {l0 : Launch} {a : ZC}  {Q : Int → Hp → Prop}  (O : zOk l0 a cX8_removeRule RX8 3 (some .int) 197 [])   : ∀ (ff : Nat) (v2 : Int) (h : Hp), mX8_removeRule_b44 Q ff v2 h → zV a (3, 0, 0, (qI Q), xN) 0 0 44 [some (aR 185), none, some (aI v2)] [] h := by
  intro ff
  induction ff with
  | zero => intro v2 h hM; exact hM.elim
  | succ ff ih =>
    have hK44 := ih
    intro v2 h hM
    unfold mX8_removeRule_b44 at hM
    refine zV_iload_n O dX8_removeRule_44 rfl rfl ?_
    refine zV_aload_n O dX8_removeRule_45 rfl rfl ?_
    refine zV_getR O zf_RX8_13 zt_185 rfl (by decide) dX8_removeRule_46 ?_
    refine zV_iconst (z := 1) O ⟨by omega, by omega⟩ dX8_removeRule_49 ?_
    obtain ⟨hc, hM⟩ := hM
    refine zV_iald O zt_186 (by decide) hc dX8_removeRule_50 ?_
    refine zV_iconst (z := 0) O ⟨by omega, by omega⟩ dX8_removeRule_51 ?_
    refine zV_callS (as := [aI (rd h 186 1), aI 0]) (st := [aI v2]) O zc_X8_ruleCell (Or.inl zl_RX8_167) zi_1519 (Nat.le_of_ble_eq_true rfl) rfl rfl (Nat.le_of_ble_eq_true rfl) (Nat.le_of_ble_eq_true rfl) (Nat.le_of_ble_eq_true rfl) (Nat.le_of_ble_eq_true rfl) (Nat.le_of_ble_eq_true rfl) (Nat.le_of_ble_eq_true rfl) dX8_removeRule_52 (sX8_ruleCell hM) (fun r h9 hq => ?_) (fun x h9 hq => hq.elim)
    obtain ⟨rfl, z12, rfl, hM⟩ := hq
    refine zV_icmp_ge (tgt := 78) O dX8_removeRule_55 (by decide) (fun hc => ?_) (fun hc => ?_)
    · replace hM := hM.1 hc
      refine zV_aload_n O dX8_removeRule_78 rfl rfl ?_
      refine zV_getR O zf_RX8_13 zt_185 rfl (by decide) dX8_removeRule_79 ?_
      refine zV_iconst (z := 1) O ⟨by omega, by omega⟩ dX8_removeRule_82 ?_
      obtain ⟨hc, hM⟩ := hM
      refine zV_iald O zt_186 (by decide) hc dX8_removeRule_83 ?_
      exact zV_iret O rfl ⟨_, rfl, hM⟩ (Nat.le_of_ble_eq_true rfl) (Nat.le_of_ble_eq_true rfl) dX8_removeRule_84
    · replace hM := hM.2 hc
      refine zV_aload_n O dX8_removeRule_58 rfl rfl ?_
      refine zV_getR O zf_RX8_13 zt_185 rfl (by decide) dX8_removeRule_59 ?_
      refine zV_iload_n O dX8_removeRule_62 rfl rfl ?_
      refine zV_aload_n O dX8_removeRule_63 rfl rfl ?_
      refine zV_getR O zf_RX8_13 zt_185 rfl (by decide) dX8_removeRule_64 ?_
      refine zV_iload_n O dX8_removeRule_67 rfl rfl ?_
      refine zV_iconst (z := 4) O ⟨by omega, by omega⟩ dX8_removeRule_68 ?_
      obtain ⟨hc, hM⟩ := hM
      refine zV_iadd O dX8_removeRule_69 hc ?_
      obtain ⟨hc, hM⟩ := hM
      refine zV_iald O zt_186 (by decide) hc dX8_removeRule_70 ?_
      obtain ⟨hc, hM⟩ := hM
      refine zV_iast O zt_186 (by decide) hc dX8_removeRule_71 ?_
      have hM := hM (hu h 186 (Int.toNat v2) (rd h 186 (v2 + 4))) rfl
      generalize hu h 186 (Int.toNat v2) (rd h 186 (v2 + 4)) = h13 at hM ⊢
      obtain ⟨hc, hM⟩ := hM
      refine zV_iinc O dX8_removeRule_72 rfl (Nat.le_of_ble_eq_true rfl) rfl hc ?_
      refine zV_goto (tgt := 44) O dX8_removeRule_75 (by decide) ?_
      exact hK44 _ _ hM
def mX8_removeRule (x1 : Int) (h : Hp) (Q : Int → Hp → Prop) : Prop := (∀ h14 : Hp, h14 = hu h 185 0 0 → (mX8_isRule x1 h14 (fun z15 => (mX8_fails z15 1 h14 (fun z16 h17 => ((z16 = 0 → (mX8_keeps 186 1096 h17 (fun h18 => (((0 : Int) ≤ 1 ∧ (1 : Int) < 1096) ∧ (zr ((rd h18 186 1) - 1) ∧ (((0 : Int) ≤ 1 ∧ (1 : Int) < 1096) ∧ (∀ h19 : Hp, h19 = wr h18 186 1 ((rd h18 186 1) - 1) → (mX8_ruleCell x1 0 h19 (fun z20 => (∃ ff, mX8_removeRule_b44 Q ff z20 h19)))))))))) ∧ (¬ z16 = 0 → (Q 0 h17))))))))
set_option maxHeartbeats 4000000 in
set_option maxRecDepth 100000 in
theorem sX8_removeRule {l0 : Launch} {x1 : Int} {h : Hp} {Q : Int → Hp → Prop}  (hM : mX8_removeRule x1 h Q) : zSp l0 yX8_removeRule cX8_removeRule 3 (some .int) 197 (3) 0 0 [aR 185, aI x1] h (qI Q) xN := by
  unfold mX8_removeRule at hM
  refine zSp_intro zpn_RX8 (Nat.le_of_ble_eq_true rfl) (fun a O => ?_)
  show zV a (3, 0, 0, (qI Q), xN) 0 0 0 [some (aR 185), some (aI x1), none] [] h
  refine zV_aload_n O dX8_removeRule_0 rfl rfl ?_
  refine zV_iconst (z := 0) O ⟨by omega, by omega⟩ dX8_removeRule_1 ?_
  refine zV_putI O zf_RX8_1 zt_185 rfl (by decide) dX8_removeRule_2 ?_
  have hM := hM _ rfl
  generalize hu h 185 0 0 = h14 at hM ⊢
  refine zV_aload_n O dX8_removeRule_5 rfl rfl ?_
  refine zV_aload_n O dX8_removeRule_6 rfl rfl ?_
  refine zV_iload_n O dX8_removeRule_7 rfl rfl ?_
  refine zV_callV (as := [aI x1]) (st := [aR 185]) O zc_X8_isRule (Or.inl zl_RX8_309) zi_1623 zi_127 zt_185 rfl rfl (by decide) (Nat.le_of_ble_eq_true rfl) rfl rfl (Nat.le_of_ble_eq_true rfl) (Nat.le_of_ble_eq_true rfl) (Nat.le_of_ble_eq_true rfl) (Nat.le_of_ble_eq_true rfl) (Nat.le_of_ble_eq_true rfl) (Nat.le_of_ble_eq_true rfl) dX8_removeRule_8 (sX8_isRule hM) (fun r h9 hq => ?_) (fun x h9 hq => hq.elim)
  obtain ⟨rfl, z15, rfl, hzz15, hM⟩ := hq
  refine zV_iconst (z := 1) O ⟨by omega, by omega⟩ dX8_removeRule_11 ?_
  refine zV_callV (as := [aI z15, aI 1]) (st := []) O zc_X8_fails (Or.inl zl_RX8_201) zi_1420 zi_93 zt_185 rfl rfl (by decide) (Nat.le_of_ble_eq_true rfl) rfl rfl (Nat.le_of_ble_eq_true rfl) (Nat.le_of_ble_eq_true rfl) (Nat.le_of_ble_eq_true rfl) (Nat.le_of_ble_eq_true rfl) (Nat.le_of_ble_eq_true rfl) (Nat.le_of_ble_eq_true rfl) dX8_removeRule_12 (sX8_fails hM) (fun r h17 hq => ?_) (fun x h9 hq => hq.elim)
  obtain ⟨z16, rfl, hzz16, hM⟩ := hq
  refine zV_if_eq (tgt := 20) O dX8_removeRule_15 (by decide) (fun hc => ?_) (fun hc => ?_)
  · replace hM := hM.1 hc
    refine zV_aload_n O dX8_removeRule_20 rfl rfl ?_
    refine zV_aload_n O dX8_removeRule_21 rfl rfl ?_
    refine zV_getR O zf_RX8_13 zt_185 rfl (by decide) dX8_removeRule_22 ?_
    refine zV_callV (as := [aR 186]) (st := []) O zc_X8_keeps (Or.inl zl_RX8_335) zi_1752 zi_147 zt_185 rfl rfl (by decide) (Nat.le_of_ble_eq_true rfl) rfl rfl (Nat.le_of_ble_eq_true rfl) (Nat.le_of_ble_eq_true rfl) (Nat.le_of_ble_eq_true rfl) (Nat.le_of_ble_eq_true rfl) (Nat.le_of_ble_eq_true rfl) (Nat.le_of_ble_eq_true rfl) dX8_removeRule_25 (sX8_keeps zt_186 (by decide) ⟨by decide, by decide⟩ hM) (fun r h18 hq => ?_) (fun x h9 hq => hq.elim)
    obtain ⟨rfl, hM⟩ := hq
    refine zV_aload_n O dX8_removeRule_28 rfl rfl ?_
    refine zV_getR O zf_RX8_13 zt_185 rfl (by decide) dX8_removeRule_29 ?_
    refine zV_iconst (z := 1) O ⟨by omega, by omega⟩ dX8_removeRule_32 ?_
    refine zV_dup2 O rfl rfl dX8_removeRule_33 ?_
    obtain ⟨hc, hM⟩ := hM
    refine zV_iald O zt_186 (by decide) hc dX8_removeRule_34 ?_
    refine zV_iconst (z := 1) O ⟨by omega, by omega⟩ dX8_removeRule_35 ?_
    obtain ⟨hc, hM⟩ := hM
    refine zV_isub O dX8_removeRule_36 hc ?_
    obtain ⟨hc, hM⟩ := hM
    refine zV_iast O zt_186 (by decide) hc dX8_removeRule_37 ?_
    have hM := hM (hu h18 186 (Int.toNat 1) ((rd h18 186 1) - 1)) rfl
    generalize hu h18 186 (Int.toNat 1) ((rd h18 186 1) - 1) = h19 at hM ⊢
    refine zV_iload_n O dX8_removeRule_38 rfl rfl ?_
    refine zV_iconst (z := 0) O ⟨by omega, by omega⟩ dX8_removeRule_39 ?_
    refine zV_callS (as := [aI x1, aI 0]) (st := []) O zc_X8_ruleCell (Or.inl zl_RX8_167) zi_1519 (Nat.le_of_ble_eq_true rfl) rfl rfl (Nat.le_of_ble_eq_true rfl) (Nat.le_of_ble_eq_true rfl) (Nat.le_of_ble_eq_true rfl) (Nat.le_of_ble_eq_true rfl) (Nat.le_of_ble_eq_true rfl) (Nat.le_of_ble_eq_true rfl) dX8_removeRule_40 (sX8_ruleCell hM) (fun r h9 hq => ?_) (fun x h9 hq => hq.elim)
    obtain ⟨rfl, z20, rfl, hM⟩ := hq
    refine zV_istore_n O dX8_removeRule_43 rfl (Nat.le_of_ble_eq_true rfl) rfl ?_
    refine zV_sub (ls2 := [some (aR 185), none, some (aI z20)]) ⟨rfl, rfl, trivial⟩ ?_
    obtain ⟨ff, hM⟩ := hM
    exact sX8_removeRule_b44 O ff _ _ hM
  · replace hM := hM.2 hc
    refine zV_iconst (z := 0) O ⟨by omega, by omega⟩ dX8_removeRule_18 ?_
    exact zV_iret O rfl ⟨_, rfl, hM⟩ (Nat.le_of_ble_eq_true rfl) (Nat.le_of_ble_eq_true rfl) dX8_removeRule_19
def mX8_rule_b31 (Q : Int → Hp → Prop) (v1 : Int) (v2 : Int) (s0 : Int) (h : Hp) : Prop := (mX8_fails s0 1 h (fun z10 h11 => ((z10 = 0 → (mX8_ruleCell v1 v2 h11 (fun z12 => (((0 : Int) ≤ z12 ∧ z12 < 1096) ∧ (Q (rd h11 186 z12) h11))))) ∧ (¬ z10 = 0 → (Q 0 h11)))))
set_option maxHeartbeats 4000000 in
set_option maxRecDepth 100000 in
theorem sX8_rule_b31 {l0 : Launch} {a : ZC}  {Q : Int → Hp → Prop}  (O : zOk l0 a cX8_rule RX8 3 (some .int) 197 [])   {v1 : Int} {v2 : Int} {s0 : Int} {h : Hp} (hz_s0 : s0 = 0 ∨ s0 = 1) (hM : mX8_rule_b31 Q v1 v2 s0 h) : zV a (3, 0, 0, (qI Q), xN) 0 0 31 [some (aR 185), some (aI v1), some (aI v2)] [aI s0, aR 185] h := by
  unfold mX8_rule_b31 at hM
  refine zV_iconst (z := 1) O ⟨by omega, by omega⟩ dX8_rule_31 ?_
  refine zV_callV (as := [aI s0, aI 1]) (st := []) O zc_X8_fails (Or.inl zl_RX8_201) zi_1420 zi_93 zt_185 rfl rfl (by decide) (Nat.le_of_ble_eq_true rfl) rfl rfl (Nat.le_of_ble_eq_true rfl) (Nat.le_of_ble_eq_true rfl) (Nat.le_of_ble_eq_true rfl) (Nat.le_of_ble_eq_true rfl) (Nat.le_of_ble_eq_true rfl) (Nat.le_of_ble_eq_true rfl) dX8_rule_32 (sX8_fails hM) (fun r h11 hq => ?_) (fun x h9 hq => hq.elim)
  obtain ⟨z10, rfl, hzz10, hM⟩ := hq
  refine zV_if_eq (tgt := 42) O dX8_rule_35 (by decide) (fun hc => ?_) (fun hc => ?_)
  · replace hM := hM.1 hc
    refine zV_aload_n O dX8_rule_42 rfl rfl ?_
    refine zV_getR O zf_RX8_13 zt_185 rfl (by decide) dX8_rule_43 ?_
    refine zV_iload_n O dX8_rule_46 rfl rfl ?_
    refine zV_iload_n O dX8_rule_47 rfl rfl ?_
    refine zV_callS (as := [aI v1, aI v2]) (st := [aR 186]) O zc_X8_ruleCell (Or.inl zl_RX8_167) zi_1519 (Nat.le_of_ble_eq_true rfl) rfl rfl (Nat.le_of_ble_eq_true rfl) (Nat.le_of_ble_eq_true rfl) (Nat.le_of_ble_eq_true rfl) (Nat.le_of_ble_eq_true rfl) (Nat.le_of_ble_eq_true rfl) (Nat.le_of_ble_eq_true rfl) dX8_rule_48 (sX8_ruleCell hM) (fun r h9 hq => ?_) (fun x h9 hq => hq.elim)
    obtain ⟨rfl, z12, rfl, hM⟩ := hq
    obtain ⟨hc, hM⟩ := hM
    refine zV_iald O zt_186 (by decide) hc dX8_rule_51 ?_
    exact zV_iret O rfl ⟨_, rfl, hM⟩ (Nat.le_of_ble_eq_true rfl) (Nat.le_of_ble_eq_true rfl) dX8_rule_52
  · replace hM := hM.2 hc
    refine zV_iconst (z := 0) O ⟨by omega, by omega⟩ dX8_rule_38 ?_
    refine zV_goto (tgt := 52) O dX8_rule_39 (by decide) ?_
    exact zV_iret O rfl ⟨_, rfl, hM⟩ (Nat.le_of_ble_eq_true rfl) (Nat.le_of_ble_eq_true rfl) dX8_rule_52
def mX8_rule_b30 (Q : Int → Hp → Prop) (v1 : Int) (v2 : Int) (h : Hp) : Prop := (mX8_rule_b31 Q v1 v2 0 h)
set_option maxHeartbeats 4000000 in
set_option maxRecDepth 100000 in
theorem sX8_rule_b30 {l0 : Launch} {a : ZC}  {Q : Int → Hp → Prop}  (O : zOk l0 a cX8_rule RX8 3 (some .int) 197 [])   {v1 : Int} {v2 : Int} {h : Hp}  (hM : mX8_rule_b30 Q v1 v2 h) : zV a (3, 0, 0, (qI Q), xN) 0 0 30 [some (aR 185), some (aI v1), some (aI v2)] [aR 185] h := by
  unfold mX8_rule_b30 at hM
  refine zV_iconst (z := 0) O ⟨by omega, by omega⟩ dX8_rule_30 ?_
  exact sX8_rule_b31 O (Or.inl rfl) hM
def mX8_rule (x1 : Int) (x2 : Int) (h : Hp) (Q : Int → Hp → Prop) : Prop := (∀ h13 : Hp, h13 = hu h 185 0 0 → (mX8_isRule x1 h13 (fun z14 => ((z14 = 0 → (mX8_rule_b30 Q x1 x2 h13)) ∧ (¬ z14 = 0 → (mX8_in x2 0 3 h13 (fun z15 => ((z15 = 0 → (mX8_rule_b30 Q x1 x2 h13)) ∧ (¬ z15 = 0 → (mX8_rule_b31 Q x1 x2 1 h13))))))))))
set_option maxHeartbeats 4000000 in
set_option maxRecDepth 100000 in
theorem sX8_rule {l0 : Launch} {x1 : Int} {x2 : Int} {h : Hp} {Q : Int → Hp → Prop}  (hM : mX8_rule x1 x2 h Q) : zSp l0 yX8_rule cX8_rule 3 (some .int) 197 (3) 0 0 [aR 185, aI x1, aI x2] h (qI Q) xN := by
  unfold mX8_rule at hM
  refine zSp_intro zpn_RX8 (Nat.le_of_ble_eq_true rfl) (fun a O => ?_)
  show zV a (3, 0, 0, (qI Q), xN) 0 0 0 [some (aR 185), some (aI x1), some (aI x2)] [] h
  refine zV_aload_n O dX8_rule_0 rfl rfl ?_
  refine zV_iconst (z := 0) O ⟨by omega, by omega⟩ dX8_rule_1 ?_
  refine zV_putI O zf_RX8_1 zt_185 rfl (by decide) dX8_rule_2 ?_
  have hM := hM _ rfl
  generalize hu h 185 0 0 = h13 at hM ⊢
  refine zV_aload_n O dX8_rule_5 rfl rfl ?_
  refine zV_aload_n O dX8_rule_6 rfl rfl ?_
  refine zV_iload_n O dX8_rule_7 rfl rfl ?_
  refine zV_callV (as := [aI x1]) (st := [aR 185]) O zc_X8_isRule (Or.inl zl_RX8_309) zi_1623 zi_127 zt_185 rfl rfl (by decide) (Nat.le_of_ble_eq_true rfl) rfl rfl (Nat.le_of_ble_eq_true rfl) (Nat.le_of_ble_eq_true rfl) (Nat.le_of_ble_eq_true rfl) (Nat.le_of_ble_eq_true rfl) (Nat.le_of_ble_eq_true rfl) (Nat.le_of_ble_eq_true rfl) dX8_rule_8 (sX8_isRule hM) (fun r h9 hq => ?_) (fun x h9 hq => hq.elim)
  obtain ⟨rfl, z14, rfl, hzz14, hM⟩ := hq
  refine zV_if_eq (tgt := 30) O dX8_rule_11 (by decide) (fun hc => ?_) (fun hc => ?_)
  · replace hM := hM.1 hc
    exact sX8_rule_b30 O hM
  · replace hM := hM.2 hc
    refine zV_iload_n O dX8_rule_14 rfl rfl ?_
    refine zV_i2l O dX8_rule_15 ?_
    refine zV_lconst (z := 0) O ⟨by omega, by omega⟩ rfl dX8_rule_16 ?_
    refine zV_ldc2 (z := 3) O ⟨by omega, by omega⟩ zi_1625.1 zi_1625.2 dX8_rule_17 ?_
    refine zV_callS (as := [aL x2, aL 0, aL 3]) (st := [aR 185]) O zc_X8_in (Or.inl zl_RX8_125) zi_1416 (Nat.le_of_ble_eq_true rfl) rfl rfl (Nat.le_of_ble_eq_true rfl) (Nat.le_of_ble_eq_true rfl) (Nat.le_of_ble_eq_true rfl) (Nat.le_of_ble_eq_true rfl) (Nat.le_of_ble_eq_true rfl) (Nat.le_of_ble_eq_true rfl) dX8_rule_20 (sX8_in hM) (fun r h9 hq => ?_) (fun x h9 hq => hq.elim)
    obtain ⟨rfl, z15, rfl, hzz15, hM⟩ := hq
    refine zV_if_eq (tgt := 30) O dX8_rule_23 (by decide) (fun hc => ?_) (fun hc => ?_)
    · replace hM := hM.1 hc
      exact sX8_rule_b30 O hM
    · replace hM := hM.2 hc
      refine zV_iconst (z := 1) O ⟨by omega, by omega⟩ dX8_rule_26 ?_
      refine zV_goto (tgt := 31) O dX8_rule_27 (by decide) ?_
      exact sX8_rule_b31 O (Or.inr rfl) hM
def mX8_setPinned_b53 (Q : Int → Hp → Prop) (v1 : Int) (v2 : Int) (v3 : Int) (s0 : Int) (s1 : Int) (h : Hp) : Prop := (((0 : Int) ≤ s1 ∧ s1 < 1096) ∧ (∀ h12 : Hp, h12 = wr h 186 s1 s0 → ((v2 = 0 → (Q v3 h12)) ∧ (¬ v2 = 0 → (mX8_drops v1 h12 (fun h13 => (Q v3 h13)))))))
set_option maxHeartbeats 4000000 in
set_option maxRecDepth 100000 in
theorem sX8_setPinned_b53 {l0 : Launch} {a : ZC}  {Q : Int → Hp → Prop}  (O : zOk l0 a cX8_setPinned RX8 4 (some .int) 197 [])   {v1 : Int} {v2 : Int} {v3 : Int} {s0 : Int} {s1 : Int} {h : Hp} (hz_s0 : s0 = 0 ∨ s0 = 1) (hM : mX8_setPinned_b53 Q v1 v2 v3 s0 s1 h) : zV a (3, 0, 0, (qI Q), xN) 0 0 53 [some (aR 185), some (aI v1), some (aI v2), some (aI v3)] [aI s0, aI s1, aR 186] h := by
  unfold mX8_setPinned_b53 at hM
  obtain ⟨hc, hM⟩ := hM
  refine zV_iast O zt_186 (by decide) hc dX8_setPinned_53 ?_
  have hM := hM (hu h 186 (Int.toNat s1) s0) rfl
  generalize hu h 186 (Int.toNat s1) s0 = h12 at hM ⊢
  refine zV_iload_n O dX8_setPinned_54 rfl rfl ?_
  refine zV_if_eq (tgt := 63) O dX8_setPinned_55 (by decide) (fun hc => ?_) (fun hc => ?_)
  · replace hM := hM.1 hc
    refine zV_iload_n O dX8_setPinned_63 rfl rfl ?_
    exact zV_iret O rfl ⟨_, rfl, hM⟩ (Nat.le_of_ble_eq_true rfl) (Nat.le_of_ble_eq_true rfl) dX8_setPinned_64
  · replace hM := hM.2 hc
    refine zV_aload_n O dX8_setPinned_58 rfl rfl ?_
    refine zV_iload_n O dX8_setPinned_59 rfl rfl ?_
    refine zV_callV (as := [aI v1]) (st := []) O zc_X8_drops (Or.inl zl_RX8_339) zi_1768 zi_148 zt_185 rfl rfl (by decide) (Nat.le_of_ble_eq_true rfl) rfl rfl (Nat.le_of_ble_eq_true rfl) (Nat.le_of_ble_eq_true rfl) (Nat.le_of_ble_eq_true rfl) (Nat.le_of_ble_eq_true rfl) (Nat.le_of_ble_eq_true rfl) (Nat.le_of_ble_eq_true rfl) dX8_setPinned_60 (sX8_drops hM) (fun r h13 hq => ?_) (fun x h9 hq => hq.elim)
    obtain ⟨rfl, hM⟩ := hq
    refine zV_iload_n O dX8_setPinned_63 rfl rfl ?_
    exact zV_iret O rfl ⟨_, rfl, hM⟩ (Nat.le_of_ble_eq_true rfl) (Nat.le_of_ble_eq_true rfl) dX8_setPinned_64
def mX8_setPinned (x1 : Int) (x2 : Int) (h : Hp) (Q : Int → Hp → Prop) : Prop := (∀ h14 : Hp, h14 = hu h 185 0 0 → (mX8_isHost x1 h14 (fun z15 => (mX8_fails z15 1 h14 (fun z16 h17 => ((z16 = 0 → (mX8_keeps 186 1096 h17 (fun h18 => (mX8_of x1 2 h18 (fun z19 => (mX8_cell x1 2 h18 (fun z20 => ((x2 = 0 → (mX8_setPinned_b53 Q x1 x2 z19 0 z20 h18)) ∧ (¬ x2 = 0 → (mX8_setPinned_b53 Q x1 x2 z19 1 z20 h18)))))))))) ∧ (¬ z16 = 0 → (Q 0 h17))))))))
set_option maxHeartbeats 4000000 in
set_option maxRecDepth 100000 in
theorem sX8_setPinned {l0 : Launch} {x1 : Int} {x2 : Int} {h : Hp} {Q : Int → Hp → Prop}  (hM : mX8_setPinned x1 x2 h Q) : zSp l0 yX8_setPinned cX8_setPinned 4 (some .int) 197 (3) 0 0 [aR 185, aI x1, aI x2] h (qI Q) xN := by
  unfold mX8_setPinned at hM
  refine zSp_intro zpn_RX8 (Nat.le_of_ble_eq_true rfl) (fun a O => ?_)
  show zV a (3, 0, 0, (qI Q), xN) 0 0 0 [some (aR 185), some (aI x1), some (aI x2), none] [] h
  refine zV_aload_n O dX8_setPinned_0 rfl rfl ?_
  refine zV_iconst (z := 0) O ⟨by omega, by omega⟩ dX8_setPinned_1 ?_
  refine zV_putI O zf_RX8_1 zt_185 rfl (by decide) dX8_setPinned_2 ?_
  have hM := hM _ rfl
  generalize hu h 185 0 0 = h14 at hM ⊢
  refine zV_aload_n O dX8_setPinned_5 rfl rfl ?_
  refine zV_aload_n O dX8_setPinned_6 rfl rfl ?_
  refine zV_iload_n O dX8_setPinned_7 rfl rfl ?_
  refine zV_callV (as := [aI x1]) (st := [aR 185]) O zc_X8_isHost (Or.inl zl_RX8_295) zi_1589 zi_126 zt_185 rfl rfl (by decide) (Nat.le_of_ble_eq_true rfl) rfl rfl (Nat.le_of_ble_eq_true rfl) (Nat.le_of_ble_eq_true rfl) (Nat.le_of_ble_eq_true rfl) (Nat.le_of_ble_eq_true rfl) (Nat.le_of_ble_eq_true rfl) (Nat.le_of_ble_eq_true rfl) dX8_setPinned_8 (sX8_isHost hM) (fun r h9 hq => ?_) (fun x h9 hq => hq.elim)
  obtain ⟨rfl, z15, rfl, hzz15, hM⟩ := hq
  refine zV_iconst (z := 1) O ⟨by omega, by omega⟩ dX8_setPinned_11 ?_
  refine zV_callV (as := [aI z15, aI 1]) (st := []) O zc_X8_fails (Or.inl zl_RX8_201) zi_1420 zi_93 zt_185 rfl rfl (by decide) (Nat.le_of_ble_eq_true rfl) rfl rfl (Nat.le_of_ble_eq_true rfl) (Nat.le_of_ble_eq_true rfl) (Nat.le_of_ble_eq_true rfl) (Nat.le_of_ble_eq_true rfl) (Nat.le_of_ble_eq_true rfl) (Nat.le_of_ble_eq_true rfl) dX8_setPinned_12 (sX8_fails hM) (fun r h17 hq => ?_) (fun x h9 hq => hq.elim)
  obtain ⟨z16, rfl, hzz16, hM⟩ := hq
  refine zV_if_eq (tgt := 20) O dX8_setPinned_15 (by decide) (fun hc => ?_) (fun hc => ?_)
  · replace hM := hM.1 hc
    refine zV_aload_n O dX8_setPinned_20 rfl rfl ?_
    refine zV_aload_n O dX8_setPinned_21 rfl rfl ?_
    refine zV_getR O zf_RX8_13 zt_185 rfl (by decide) dX8_setPinned_22 ?_
    refine zV_callV (as := [aR 186]) (st := []) O zc_X8_keeps (Or.inl zl_RX8_335) zi_1752 zi_147 zt_185 rfl rfl (by decide) (Nat.le_of_ble_eq_true rfl) rfl rfl (Nat.le_of_ble_eq_true rfl) (Nat.le_of_ble_eq_true rfl) (Nat.le_of_ble_eq_true rfl) (Nat.le_of_ble_eq_true rfl) (Nat.le_of_ble_eq_true rfl) (Nat.le_of_ble_eq_true rfl) dX8_setPinned_25 (sX8_keeps zt_186 (by decide) ⟨by decide, by decide⟩ hM) (fun r h18 hq => ?_) (fun x h9 hq => hq.elim)
    obtain ⟨rfl, hM⟩ := hq
    refine zV_aload_n O dX8_setPinned_28 rfl rfl ?_
    refine zV_iload_n O dX8_setPinned_29 rfl rfl ?_
    refine zV_iconst (z := 2) O ⟨by omega, by omega⟩ dX8_setPinned_30 ?_
    refine zV_callV (as := [aI x1, aI 2]) (st := []) O zc_X8_of (Or.inl zl_RX8_218) zi_1549 zi_117 zt_185 rfl rfl (by decide) (Nat.le_of_ble_eq_true rfl) rfl rfl (Nat.le_of_ble_eq_true rfl) (Nat.le_of_ble_eq_true rfl) (Nat.le_of_ble_eq_true rfl) (Nat.le_of_ble_eq_true rfl) (Nat.le_of_ble_eq_true rfl) (Nat.le_of_ble_eq_true rfl) dX8_setPinned_31 (sX8_of hM) (fun r h9 hq => ?_) (fun x h9 hq => hq.elim)
    obtain ⟨rfl, z19, rfl, hM⟩ := hq
    refine zV_istore_n O dX8_setPinned_34 rfl (Nat.le_of_ble_eq_true rfl) rfl ?_
    refine zV_aload_n O dX8_setPinned_35 rfl rfl ?_
    refine zV_getR O zf_RX8_13 zt_185 rfl (by decide) dX8_setPinned_36 ?_
    refine zV_iload_n O dX8_setPinned_39 rfl rfl ?_
    refine zV_iconst (z := 2) O ⟨by omega, by omega⟩ dX8_setPinned_40 ?_
    refine zV_callS (as := [aI x1, aI 2]) (st := [aR 186]) O zc_X8_cell (Or.inl zl_RX8_129) zi_1505 (Nat.le_of_ble_eq_true rfl) rfl rfl (Nat.le_of_ble_eq_true rfl) (Nat.le_of_ble_eq_true rfl) (Nat.le_of_ble_eq_true rfl) (Nat.le_of_ble_eq_true rfl) (Nat.le_of_ble_eq_true rfl) (Nat.le_of_ble_eq_true rfl) dX8_setPinned_41 (sX8_cell hM) (fun r h9 hq => ?_) (fun x h9 hq => hq.elim)
    obtain ⟨rfl, z20, rfl, hM⟩ := hq
    refine zV_iload_n O dX8_setPinned_44 rfl rfl ?_
    refine zV_if_eq (tgt := 52) O dX8_setPinned_45 (by decide) (fun hc => ?_) (fun hc => ?_)
    · replace hM := hM.1 hc
      refine zV_iconst (z := 0) O ⟨by omega, by omega⟩ dX8_setPinned_52 ?_
      exact sX8_setPinned_b53 O (Or.inl rfl) hM
    · replace hM := hM.2 hc
      refine zV_iconst (z := 1) O ⟨by omega, by omega⟩ dX8_setPinned_48 ?_
      refine zV_goto (tgt := 53) O dX8_setPinned_49 (by decide) ?_
      exact sX8_setPinned_b53 O (Or.inr rfl) hM
  · replace hM := hM.2 hc
    refine zV_iconst (z := 0) O ⟨by omega, by omega⟩ dX8_setPinned_18 ?_
    exact zV_iret O rfl ⟨_, rfl, hM⟩ (Nat.le_of_ble_eq_true rfl) (Nat.le_of_ble_eq_true rfl) dX8_setPinned_19
def mX8_unplan (x1 : Int) (h : Hp) (Q : Int → Hp → Prop) : Prop := (∀ h8 : Hp, h8 = hu h 185 0 0 → (mX8_isHost x1 h8 (fun z9 => (mX8_fails z9 1 h8 (fun z10 h11 => ((z10 = 0 → (mX8_keeps 186 1096 h11 (fun h12 => (mX8_of x1 4 h12 (fun z13 => (mX8_drops x1 h12 (fun h14 => (Q z13 h14)))))))) ∧ (¬ z10 = 0 → (Q 0 h11))))))))
set_option maxHeartbeats 4000000 in
set_option maxRecDepth 100000 in
theorem sX8_unplan {l0 : Launch} {x1 : Int} {h : Hp} {Q : Int → Hp → Prop}  (hM : mX8_unplan x1 h Q) : zSp l0 yX8_unplan cX8_unplan 3 (some .int) 197 (3) 0 0 [aR 185, aI x1] h (qI Q) xN := by
  unfold mX8_unplan at hM
  refine zSp_intro zpn_RX8 (Nat.le_of_ble_eq_true rfl) (fun a O => ?_)
  show zV a (3, 0, 0, (qI Q), xN) 0 0 0 [some (aR 185), some (aI x1), none] [] h
  refine zV_aload_n O dX8_unplan_0 rfl rfl ?_
  refine zV_iconst (z := 0) O ⟨by omega, by omega⟩ dX8_unplan_1 ?_
  refine zV_putI O zf_RX8_1 zt_185 rfl (by decide) dX8_unplan_2 ?_
  have hM := hM _ rfl
  generalize hu h 185 0 0 = h8 at hM ⊢
  refine zV_aload_n O dX8_unplan_5 rfl rfl ?_
  refine zV_aload_n O dX8_unplan_6 rfl rfl ?_
  refine zV_iload_n O dX8_unplan_7 rfl rfl ?_
  refine zV_callV (as := [aI x1]) (st := [aR 185]) O zc_X8_isHost (Or.inl zl_RX8_295) zi_1589 zi_126 zt_185 rfl rfl (by decide) (Nat.le_of_ble_eq_true rfl) rfl rfl (Nat.le_of_ble_eq_true rfl) (Nat.le_of_ble_eq_true rfl) (Nat.le_of_ble_eq_true rfl) (Nat.le_of_ble_eq_true rfl) (Nat.le_of_ble_eq_true rfl) (Nat.le_of_ble_eq_true rfl) dX8_unplan_8 (sX8_isHost hM) (fun r h9 hq => ?_) (fun x h9 hq => hq.elim)
  obtain ⟨rfl, z9, rfl, hzz9, hM⟩ := hq
  refine zV_iconst (z := 1) O ⟨by omega, by omega⟩ dX8_unplan_11 ?_
  refine zV_callV (as := [aI z9, aI 1]) (st := []) O zc_X8_fails (Or.inl zl_RX8_201) zi_1420 zi_93 zt_185 rfl rfl (by decide) (Nat.le_of_ble_eq_true rfl) rfl rfl (Nat.le_of_ble_eq_true rfl) (Nat.le_of_ble_eq_true rfl) (Nat.le_of_ble_eq_true rfl) (Nat.le_of_ble_eq_true rfl) (Nat.le_of_ble_eq_true rfl) (Nat.le_of_ble_eq_true rfl) dX8_unplan_12 (sX8_fails hM) (fun r h11 hq => ?_) (fun x h9 hq => hq.elim)
  obtain ⟨z10, rfl, hzz10, hM⟩ := hq
  refine zV_if_eq (tgt := 20) O dX8_unplan_15 (by decide) (fun hc => ?_) (fun hc => ?_)
  · replace hM := hM.1 hc
    refine zV_aload_n O dX8_unplan_20 rfl rfl ?_
    refine zV_aload_n O dX8_unplan_21 rfl rfl ?_
    refine zV_getR O zf_RX8_13 zt_185 rfl (by decide) dX8_unplan_22 ?_
    refine zV_callV (as := [aR 186]) (st := []) O zc_X8_keeps (Or.inl zl_RX8_335) zi_1752 zi_147 zt_185 rfl rfl (by decide) (Nat.le_of_ble_eq_true rfl) rfl rfl (Nat.le_of_ble_eq_true rfl) (Nat.le_of_ble_eq_true rfl) (Nat.le_of_ble_eq_true rfl) (Nat.le_of_ble_eq_true rfl) (Nat.le_of_ble_eq_true rfl) (Nat.le_of_ble_eq_true rfl) dX8_unplan_25 (sX8_keeps zt_186 (by decide) ⟨by decide, by decide⟩ hM) (fun r h12 hq => ?_) (fun x h9 hq => hq.elim)
    obtain ⟨rfl, hM⟩ := hq
    refine zV_aload_n O dX8_unplan_28 rfl rfl ?_
    refine zV_iload_n O dX8_unplan_29 rfl rfl ?_
    refine zV_iconst (z := 4) O ⟨by omega, by omega⟩ dX8_unplan_30 ?_
    refine zV_callV (as := [aI x1, aI 4]) (st := []) O zc_X8_of (Or.inl zl_RX8_218) zi_1549 zi_117 zt_185 rfl rfl (by decide) (Nat.le_of_ble_eq_true rfl) rfl rfl (Nat.le_of_ble_eq_true rfl) (Nat.le_of_ble_eq_true rfl) (Nat.le_of_ble_eq_true rfl) (Nat.le_of_ble_eq_true rfl) (Nat.le_of_ble_eq_true rfl) (Nat.le_of_ble_eq_true rfl) dX8_unplan_31 (sX8_of hM) (fun r h9 hq => ?_) (fun x h9 hq => hq.elim)
    obtain ⟨rfl, z13, rfl, hM⟩ := hq
    refine zV_istore_n O dX8_unplan_34 rfl (Nat.le_of_ble_eq_true rfl) rfl ?_
    refine zV_aload_n O dX8_unplan_35 rfl rfl ?_
    refine zV_iload_n O dX8_unplan_36 rfl rfl ?_
    refine zV_callV (as := [aI x1]) (st := []) O zc_X8_drops (Or.inl zl_RX8_339) zi_1768 zi_148 zt_185 rfl rfl (by decide) (Nat.le_of_ble_eq_true rfl) rfl rfl (Nat.le_of_ble_eq_true rfl) (Nat.le_of_ble_eq_true rfl) (Nat.le_of_ble_eq_true rfl) (Nat.le_of_ble_eq_true rfl) (Nat.le_of_ble_eq_true rfl) (Nat.le_of_ble_eq_true rfl) dX8_unplan_37 (sX8_drops hM) (fun r h14 hq => ?_) (fun x h9 hq => hq.elim)
    obtain ⟨rfl, hM⟩ := hq
    refine zV_iload_n O dX8_unplan_40 rfl rfl ?_
    exact zV_iret O rfl ⟨_, rfl, hM⟩ (Nat.le_of_ble_eq_true rfl) (Nat.le_of_ble_eq_true rfl) dX8_unplan_41
  · replace hM := hM.2 hc
    refine zV_iconst (z := 0) O ⟨by omega, by omega⟩ dX8_unplan_18 ?_
    exact zV_iret O rfl ⟨_, rfl, hM⟩ (Nat.le_of_ble_eq_true rfl) (Nat.le_of_ble_eq_true rfl) dX8_unplan_19
def mX8_closes_b5 (Q : Hp → Prop) : Nat → Hp → Prop
  | 0 => fun _ => False
  | fu5 + 1 => fun h => (mX8_isByte 41 h (fun z16 => ((z16 = 0 → (Q h)) ∧ (¬ z16 = 0 → (mX8_isInside h (fun z17 => ((z17 = 0 → (Q h)) ∧ (¬ z17 = 0 → (mX8_settles 1 h (fun h18 => (zr ((h18 185 27) - 1) ∧ (∀ h19 : Hp, h19 = hu h18 185 27 ((h18 185 27) - 1) → (zr ((h19 185 28) - 1) ∧ (∀ h20 : Hp, h20 = hu h19 185 28 ((h19 185 28) - 1) → (mX8_next h20 (fun h21 => (mX8_settles 3 h21 (fun h22 => ((mX8_closes_b5 Q fu5) h22)))))))))))))))))))
set_option maxHeartbeats 4000000 in
set_option maxRecDepth 100000 in
theorem sX8_closes_b5 {l0 : Launch} {a : ZC}  {Q : Hp → Prop}  (O : zOk l0 a cX8_closes RX8 1 none 197 [])   : ∀ (ff : Nat)  (h : Hp), mX8_closes_b5 Q ff  h → zV a (4, 0, 0, (qV Q), xN) 0 0 5 [some (aR 185)] [] h := by
  intro ff
  induction ff with
  | zero => intro  h hM; exact hM.elim
  | succ ff ih =>
    have hK5 := ih
    intro  h hM
    unfold mX8_closes_b5 at hM
    refine zV_aload_n O dX8_closes_5 rfl rfl ?_
    refine zV_bipush (z := 41) O ⟨by omega, by omega⟩ rfl dX8_closes_6 ?_
    refine zV_callV (as := [aI 41]) (st := []) O zc_X8_isByte (Or.inl zl_RX8_119) zi_1489 zi_107 zt_185 rfl rfl (by decide) (Nat.le_of_ble_eq_true rfl) rfl rfl (Nat.le_of_ble_eq_true rfl) (Nat.le_of_ble_eq_true rfl) (Nat.le_of_ble_eq_true rfl) (Nat.le_of_ble_eq_true rfl) (Nat.le_of_ble_eq_true rfl) (Nat.le_of_ble_eq_true rfl) dX8_closes_8 (sX8_isByte hM) (fun r h9 hq => ?_) (fun x h9 hq => hq.elim)
    obtain ⟨rfl, z16, rfl, hzz16, hM⟩ := hq
    refine zV_if_eq (tgt := 58) O dX8_closes_11 (by decide) (fun hc => ?_) (fun hc => ?_)
    · replace hM := hM.1 hc
      exact zV_vret O rfl ⟨rfl, hM⟩ (Nat.le_of_ble_eq_true rfl) (Nat.le_of_ble_eq_true rfl) dX8_closes_58
    · replace hM := hM.2 hc
      refine zV_aload_n O dX8_closes_14 rfl rfl ?_
      refine zV_callV (as := []) (st := []) O zc_X8_isInside (Or.inl zl_RX8_406) zi_1907 zi_162 zt_185 rfl rfl (by decide) (Nat.le_of_ble_eq_true rfl) rfl rfl (Nat.le_of_ble_eq_true rfl) (Nat.le_of_ble_eq_true rfl) (Nat.le_of_ble_eq_true rfl) (Nat.le_of_ble_eq_true rfl) (Nat.le_of_ble_eq_true rfl) (Nat.le_of_ble_eq_true rfl) dX8_closes_15 (sX8_isInside hM) (fun r h9 hq => ?_) (fun x h9 hq => hq.elim)
      obtain ⟨rfl, z17, rfl, hzz17, hM⟩ := hq
      refine zV_if_eq (tgt := 58) O dX8_closes_18 (by decide) (fun hc => ?_) (fun hc => ?_)
      · replace hM := hM.1 hc
        exact zV_vret O rfl ⟨rfl, hM⟩ (Nat.le_of_ble_eq_true rfl) (Nat.le_of_ble_eq_true rfl) dX8_closes_58
      · replace hM := hM.2 hc
        refine zV_aload_n O dX8_closes_21 rfl rfl ?_
        refine zV_iconst (z := 1) O ⟨by omega, by omega⟩ dX8_closes_22 ?_
        refine zV_callV (as := [aI 1]) (st := []) O zc_X8_settles (Or.inl zl_RX8_403) zi_1900 zi_161 zt_185 rfl rfl (by decide) (Nat.le_of_ble_eq_true rfl) rfl rfl (Nat.le_of_ble_eq_true rfl) (Nat.le_of_ble_eq_true rfl) (Nat.le_of_ble_eq_true rfl) (Nat.le_of_ble_eq_true rfl) (Nat.le_of_ble_eq_true rfl) (Nat.le_of_ble_eq_true rfl) dX8_closes_23 (sX8_settles hM) (fun r h18 hq => ?_) (fun x h9 hq => hq.elim)
        obtain ⟨rfl, hM⟩ := hq
        refine zV_aload_n O dX8_closes_26 rfl rfl ?_
        refine zV_dup O rfl dX8_closes_27 ?_
        refine zV_getI O zf_RX8_389 zt_185 rfl (by decide) dX8_closes_28 ?_
        refine zV_iconst (z := 1) O ⟨by omega, by omega⟩ dX8_closes_31 ?_
        obtain ⟨hc, hM⟩ := hM
        refine zV_isub O dX8_closes_32 hc ?_
        refine zV_putI O zf_RX8_389 zt_185 rfl (by decide) dX8_closes_33 ?_
        have hM := hM _ rfl
        generalize hu h18 185 27 ((h18 185 27) - 1) = h19 at hM ⊢
        refine zV_aload_n O dX8_closes_36 rfl rfl ?_
        refine zV_dup O rfl dX8_closes_37 ?_
        refine zV_getI O zf_RX8_386 zt_185 rfl (by decide) dX8_closes_38 ?_
        refine zV_iconst (z := 1) O ⟨by omega, by omega⟩ dX8_closes_41 ?_
        obtain ⟨hc, hM⟩ := hM
        refine zV_isub O dX8_closes_42 hc ?_
        refine zV_putI O zf_RX8_386 zt_185 rfl (by decide) dX8_closes_43 ?_
        have hM := hM _ rfl
        generalize hu h19 185 28 ((h19 185 28) - 1) = h20 at hM ⊢
        refine zV_aload_n O dX8_closes_46 rfl rfl ?_
        refine zV_callV (as := []) (st := []) O zc_X8_next (Or.inl zl_RX8_108) zi_1428 zi_95 zt_185 rfl rfl (by decide) (Nat.le_of_ble_eq_true rfl) rfl rfl (Nat.le_of_ble_eq_true rfl) (Nat.le_of_ble_eq_true rfl) (Nat.le_of_ble_eq_true rfl) (Nat.le_of_ble_eq_true rfl) (Nat.le_of_ble_eq_true rfl) (Nat.le_of_ble_eq_true rfl) dX8_closes_47 (sX8_next hM) (fun r h21 hq => ?_) (fun x h9 hq => hq.elim)
        obtain ⟨rfl, hM⟩ := hq
        refine zV_aload_n O dX8_closes_50 rfl rfl ?_
        refine zV_iconst (z := 3) O ⟨by omega, by omega⟩ dX8_closes_51 ?_
        refine zV_callV (as := [aI 3]) (st := []) O zc_X8_settles (Or.inl zl_RX8_403) zi_1900 zi_161 zt_185 rfl rfl (by decide) (Nat.le_of_ble_eq_true rfl) rfl rfl (Nat.le_of_ble_eq_true rfl) (Nat.le_of_ble_eq_true rfl) (Nat.le_of_ble_eq_true rfl) (Nat.le_of_ble_eq_true rfl) (Nat.le_of_ble_eq_true rfl) (Nat.le_of_ble_eq_true rfl) dX8_closes_52 (sX8_settles hM) (fun r h22 hq => ?_) (fun x h9 hq => hq.elim)
        obtain ⟨rfl, hM⟩ := hq
        refine zV_goto (tgt := 5) O dX8_closes_55 (by decide) ?_
        exact hK5 _ hM
def mX8_closes  (h : Hp) (Q : Hp → Prop) : Prop := (mX8_settles 3 h (fun h23 => (∃ ff, mX8_closes_b5 Q ff h23)))
set_option maxHeartbeats 4000000 in
set_option maxRecDepth 100000 in
theorem sX8_closes {l0 : Launch}  {h : Hp} {Q : Hp → Prop}  (hM : mX8_closes  h Q) : zSp l0 yX8_closes cX8_closes 1 none 197 (4) 0 0 [aR 185] h (qV Q) xN := by
  unfold mX8_closes at hM
  refine zSp_intro zpn_RX8 (Nat.le_of_ble_eq_true rfl) (fun a O => ?_)
  show zV a (4, 0, 0, (qV Q), xN) 0 0 0 [some (aR 185)] [] h
  refine zV_aload_n O dX8_closes_0 rfl rfl ?_
  refine zV_iconst (z := 3) O ⟨by omega, by omega⟩ dX8_closes_1 ?_
  refine zV_callV (as := [aI 3]) (st := []) O zc_X8_settles (Or.inl zl_RX8_403) zi_1900 zi_161 zt_185 rfl rfl (by decide) (Nat.le_of_ble_eq_true rfl) rfl rfl (Nat.le_of_ble_eq_true rfl) (Nat.le_of_ble_eq_true rfl) (Nat.le_of_ble_eq_true rfl) (Nat.le_of_ble_eq_true rfl) (Nat.le_of_ble_eq_true rfl) (Nat.le_of_ble_eq_true rfl) dX8_closes_2 (sX8_settles hM) (fun r h23 hq => ?_) (fun x h9 hq => hq.elim)
  obtain ⟨rfl, hM⟩ := hq
  obtain ⟨ff, hM⟩ := hM
  exact sX8_closes_b5 O ff _ hM
def mX8_goesIn (x1 : Int) (h : Hp) (Q : Int → Hp → Prop) : Prop := ((¬ (h 185 28) = (6 : Int) → (zr ((h 185 28) + 1) ∧ (∀ h7 : Hp, h7 = hu h 185 28 ((h 185 28) + 1) → (((0 : Int) ≤ (h7 185 27) ∧ (h7 185 27) < 200) ∧ (∀ h8 : Hp, h8 = wr h7 195 (h7 185 27) x1 → (zr ((h8 185 27) + 1) ∧ (∀ h9 : Hp, h9 = hu h8 185 27 ((h8 185 27) + 1) → (mX8_next h9 (fun h10 => (Q 1 h10)))))))))) ∧ ((h 185 28) = (6 : Int) → (mX8_wrongs 3 h (fun z11 h12 => (Q z11 h12)))))
set_option maxHeartbeats 4000000 in
set_option maxRecDepth 100000 in
theorem sX8_goesIn {l0 : Launch} {x1 : Int} {h : Hp} {Q : Int → Hp → Prop}  (hM : mX8_goesIn x1 h Q) : zSp l0 yX8_goesIn cX8_goesIn 2 (some .boolean) 197 (4) 0 0 [aR 185, aI x1] h (qZ Q) xN := by
  unfold mX8_goesIn at hM
  refine zSp_intro zpn_RX8 (Nat.le_of_ble_eq_true rfl) (fun a O => ?_)
  show zV a (4, 0, 0, (qZ Q), xN) 0 0 0 [some (aR 185), some (aI x1)] [] h
  refine zV_aload_n O dX8_goesIn_0 rfl rfl ?_
  refine zV_getI O zf_RX8_386 zt_185 rfl (by decide) dX8_goesIn_1 ?_
  refine zV_bipush (z := 6) O ⟨by omega, by omega⟩ rfl dX8_goesIn_4 ?_
  refine zV_icmp_ne (tgt := 15) O dX8_goesIn_6 (by decide) (fun hc => ?_) (fun hc => ?_)
  · replace hM := hM.1 hc
    refine zV_aload_n O dX8_goesIn_15 rfl rfl ?_
    refine zV_dup O rfl dX8_goesIn_16 ?_
    refine zV_getI O zf_RX8_386 zt_185 rfl (by decide) dX8_goesIn_17 ?_
    refine zV_iconst (z := 1) O ⟨by omega, by omega⟩ dX8_goesIn_20 ?_
    obtain ⟨hc, hM⟩ := hM
    refine zV_iadd O dX8_goesIn_21 hc ?_
    refine zV_putI O zf_RX8_386 zt_185 rfl (by decide) dX8_goesIn_22 ?_
    have hM := hM _ rfl
    generalize hu h 185 28 ((h 185 28) + 1) = h7 at hM ⊢
    refine zV_aload_n O dX8_goesIn_25 rfl rfl ?_
    refine zV_getR O zf_RX8_44 zt_185 rfl (by decide) dX8_goesIn_26 ?_
    refine zV_aload_n O dX8_goesIn_29 rfl rfl ?_
    refine zV_getI O zf_RX8_389 zt_185 rfl (by decide) dX8_goesIn_30 ?_
    refine zV_iload_n O dX8_goesIn_33 rfl rfl ?_
    obtain ⟨hc, hM⟩ := hM
    refine zV_iast O zt_195 (by decide) hc dX8_goesIn_34 ?_
    have hM := hM (hu h7 195 (Int.toNat (h7 185 27)) x1) rfl
    generalize hu h7 195 (Int.toNat (h7 185 27)) x1 = h8 at hM ⊢
    refine zV_aload_n O dX8_goesIn_35 rfl rfl ?_
    refine zV_dup O rfl dX8_goesIn_36 ?_
    refine zV_getI O zf_RX8_389 zt_185 rfl (by decide) dX8_goesIn_37 ?_
    refine zV_iconst (z := 1) O ⟨by omega, by omega⟩ dX8_goesIn_40 ?_
    obtain ⟨hc, hM⟩ := hM
    refine zV_iadd O dX8_goesIn_41 hc ?_
    refine zV_putI O zf_RX8_389 zt_185 rfl (by decide) dX8_goesIn_42 ?_
    have hM := hM _ rfl
    generalize hu h8 185 27 ((h8 185 27) + 1) = h9 at hM ⊢
    refine zV_aload_n O dX8_goesIn_45 rfl rfl ?_
    refine zV_callV (as := []) (st := []) O zc_X8_next (Or.inl zl_RX8_108) zi_1428 zi_95 zt_185 rfl rfl (by decide) (Nat.le_of_ble_eq_true rfl) rfl rfl (Nat.le_of_ble_eq_true rfl) (Nat.le_of_ble_eq_true rfl) (Nat.le_of_ble_eq_true rfl) (Nat.le_of_ble_eq_true rfl) (Nat.le_of_ble_eq_true rfl) (Nat.le_of_ble_eq_true rfl) dX8_goesIn_46 (sX8_next hM) (fun r h10 hq => ?_) (fun x h9 hq => hq.elim)
    obtain ⟨rfl, hM⟩ := hq
    refine zV_iconst (z := 1) O ⟨by omega, by omega⟩ dX8_goesIn_49 ?_
    exact zV_zret O rfl (Or.inr rfl) ⟨_, rfl, (Or.inr rfl), hM⟩ (Nat.le_of_ble_eq_true rfl) (Nat.le_of_ble_eq_true rfl) dX8_goesIn_50
  · replace hM := hM.2 hc
    refine zV_aload_n O dX8_goesIn_9 rfl rfl ?_
    refine zV_iconst (z := 3) O ⟨by omega, by omega⟩ dX8_goesIn_10 ?_
    refine zV_callV (as := [aI 3]) (st := []) O zc_X8_wrongs (Or.inl zl_RX8_122) zi_1474 zi_104 zt_185 rfl rfl (by decide) (Nat.le_of_ble_eq_true rfl) rfl rfl (Nat.le_of_ble_eq_true rfl) (Nat.le_of_ble_eq_true rfl) (Nat.le_of_ble_eq_true rfl) (Nat.le_of_ble_eq_true rfl) (Nat.le_of_ble_eq_true rfl) (Nat.le_of_ble_eq_true rfl) dX8_goesIn_11 (sX8_wrongs hM) (fun r h12 hq => ?_) (fun x h9 hq => hq.elim)
    obtain ⟨z11, rfl, hzz11, hM⟩ := hq
    exact zV_zret O rfl hzz11 ⟨_, rfl, hzz11, hM⟩ (Nat.le_of_ble_eq_true rfl) (Nat.le_of_ble_eq_true rfl) dX8_goesIn_14
def mX8_keptAt (x1 : Int) (x2 : Int) (h : Hp) (Q : Int → Prop) : Prop := (mX8_latest x1 h (fun z3 => ((z3 ≤ 0 → (Q 0)) ∧ (¬ z3 ≤ 0 → (((0 : Int) ≤ 3 ∧ (3 : Int) < 1096) ∧ (zr (z3 + (rd h 186 3)) ∧ (((z3 + (rd h 186 3)) ≤ x2 → (Q 0)) ∧ (¬ (z3 + (rd h 186 3)) ≤ x2 → (zr (14 + z3) ∧ (zr ((14 + z3) - 1) ∧ (mX8_of x1 ((14 + z3) - 1) h (fun z4 => (Q z4)))))))))))))
set_option maxHeartbeats 4000000 in
set_option maxRecDepth 100000 in
theorem sX8_keptAt {l0 : Launch} {x1 : Int} {x2 : Int} {h : Hp} {Q : Int → Prop}  (hM : mX8_keptAt x1 x2 h Q) : zSp l0 yX8_keptAt cX8_keptAt 4 (some .int) 197 (4) 0 0 [aR 185, aI x1, aI x2] h (qPI h Q) xN := by
  unfold mX8_keptAt at hM
  refine zSp_intro zpn_RX8 (Nat.le_of_ble_eq_true rfl) (fun a O => ?_)
  show zV a (4, 0, 0, (qPI h Q), xN) 0 0 0 [some (aR 185), some (aI x1), some (aI x2), none] [] h
  refine zV_aload_n O dX8_keptAt_0 rfl rfl ?_
  refine zV_iload_n O dX8_keptAt_1 rfl rfl ?_
  refine zV_callV (as := [aI x1]) (st := []) O zc_X8_latest (Or.inl zl_RX8_221) zi_1577 zi_124 zt_185 rfl rfl (by decide) (Nat.le_of_ble_eq_true rfl) rfl rfl (Nat.le_of_ble_eq_true rfl) (Nat.le_of_ble_eq_true rfl) (Nat.le_of_ble_eq_true rfl) (Nat.le_of_ble_eq_true rfl) (Nat.le_of_ble_eq_true rfl) (Nat.le_of_ble_eq_true rfl) dX8_keptAt_2 (sX8_latest hM) (fun r h9 hq => ?_) (fun x h9 hq => hq.elim)
  obtain ⟨rfl, z3, rfl, hM⟩ := hq
  refine zV_istore_n O dX8_keptAt_5 rfl (Nat.le_of_ble_eq_true rfl) rfl ?_
  refine zV_iload_n O dX8_keptAt_6 rfl rfl ?_
  refine zV_if_le (tgt := 36) O dX8_keptAt_7 (by decide) (fun hc => ?_) (fun hc => ?_)
  · replace hM := hM.1 hc
    refine zV_iconst (z := 0) O ⟨by omega, by omega⟩ dX8_keptAt_36 ?_
    exact zV_iret O rfl ⟨rfl, _, rfl, hM⟩ (Nat.le_of_ble_eq_true rfl) (Nat.le_of_ble_eq_true rfl) dX8_keptAt_37
  · replace hM := hM.2 hc
    refine zV_iload_n O dX8_keptAt_10 rfl rfl ?_
    refine zV_iload_n O dX8_keptAt_11 rfl rfl ?_
    refine zV_aload_n O dX8_keptAt_12 rfl rfl ?_
    refine zV_getR O zf_RX8_13 zt_185 rfl (by decide) dX8_keptAt_13 ?_
    refine zV_iconst (z := 3) O ⟨by omega, by omega⟩ dX8_keptAt_16 ?_
    obtain ⟨hc, hM⟩ := hM
    refine zV_iald O zt_186 (by decide) hc dX8_keptAt_17 ?_
    obtain ⟨hc, hM⟩ := hM
    refine zV_iadd O dX8_keptAt_18 hc ?_
    refine zV_icmp_ge (tgt := 36) O dX8_keptAt_19 (by decide) (fun hc => ?_) (fun hc => ?_)
    · replace hM := hM.1 hc
      refine zV_iconst (z := 0) O ⟨by omega, by omega⟩ dX8_keptAt_36 ?_
      exact zV_iret O rfl ⟨rfl, _, rfl, hM⟩ (Nat.le_of_ble_eq_true rfl) (Nat.le_of_ble_eq_true rfl) dX8_keptAt_37
    · replace hM := hM.2 hc
      refine zV_aload_n O dX8_keptAt_22 rfl rfl ?_
      refine zV_iload_n O dX8_keptAt_23 rfl rfl ?_
      refine zV_bipush (z := 14) O ⟨by omega, by omega⟩ rfl dX8_keptAt_24 ?_
      refine zV_iload_n O dX8_keptAt_26 rfl rfl ?_
      obtain ⟨hc, hM⟩ := hM
      refine zV_iadd O dX8_keptAt_27 hc ?_
      refine zV_iconst (z := 1) O ⟨by omega, by omega⟩ dX8_keptAt_28 ?_
      obtain ⟨hc, hM⟩ := hM
      refine zV_isub O dX8_keptAt_29 hc ?_
      refine zV_callV (as := [aI x1, aI ((14 + z3) - 1)]) (st := []) O zc_X8_of (Or.inl zl_RX8_218) zi_1549 zi_117 zt_185 rfl rfl (by decide) (Nat.le_of_ble_eq_true rfl) rfl rfl (Nat.le_of_ble_eq_true rfl) (Nat.le_of_ble_eq_true rfl) (Nat.le_of_ble_eq_true rfl) (Nat.le_of_ble_eq_true rfl) (Nat.le_of_ble_eq_true rfl) (Nat.le_of_ble_eq_true rfl) dX8_keptAt_30 (sX8_of hM) (fun r h9 hq => ?_) (fun x h9 hq => hq.elim)
      obtain ⟨rfl, z4, rfl, hM⟩ := hq
      refine zV_goto (tgt := 37) O dX8_keptAt_33 (by decide) ?_
      exact zV_iret O rfl ⟨rfl, _, rfl, hM⟩ (Nat.le_of_ble_eq_true rfl) (Nat.le_of_ble_eq_true rfl) dX8_keptAt_37
def mX8_leadsTo_b33 (Q : Hp → Prop) (K3 : Int → Int → Int → Int → Hp → Prop) (v1 : Int) (v2 : Int) (v3 : Int) (v4 : Int) (h : Hp) : Prop := (zr (v4 + 1) ∧ (K3 v1 v2 v3 (v4 + 1) h))
set_option maxHeartbeats 4000000 in
set_option maxRecDepth 100000 in
theorem sX8_leadsTo_b33 {l0 : Launch} {a : ZC}  {Q : Hp → Prop} {K3 : Int → Int → Int → Int → Hp → Prop} (O : zOk l0 a cX8_leadsTo RX8 5 none 197 [])  (hK3 : ∀ (v1 : Int) (v2 : Int) (v3 : Int) (v4 : Int) (h : Hp), K3 v1 v2 v3 v4 h → zV a (4, 0, 0, (qV Q), xN) 0 0 3 [some (aR 185), some (aI v1), some (aI v2), some (aI v3), some (aI v4)] [] h) {v1 : Int} {v2 : Int} {v3 : Int} {v4 : Int} {h : Hp}  (hM : mX8_leadsTo_b33 Q K3 v1 v2 v3 v4 h) : zV a (4, 0, 0, (qV Q), xN) 0 0 33 [some (aR 185), some (aI v1), some (aI v2), some (aI v3), some (aI v4)] [] h := by
  unfold mX8_leadsTo_b33 at hM
  obtain ⟨hc, hM⟩ := hM
  refine zV_iinc O dX8_leadsTo_33 rfl (Nat.le_of_ble_eq_true rfl) rfl hc ?_
  refine zV_goto (tgt := 3) O dX8_leadsTo_36 (by decide) ?_
  exact hK3 _ _ _ _ _ hM
def mX8_leadsTo_b3 (Q : Hp → Prop) : Nat → Int → Int → Int → Int → Hp → Prop
  | 0 => fun _ _ _ _ _ => False
  | fu3 + 1 => fun v1 v2 v3 v4 h => (((2 : Int) ≤ v4 → (Q h)) ∧ (¬ (2 : Int) ≤ v4 → (mX8_isOfNet v1 v4 h (fun z7 => ((z7 = 0 → (mX8_leadsTo_b33 Q (mX8_leadsTo_b3 Q fu3) v1 v2 v3 v4 h)) ∧ (¬ z7 = 0 → (zr (251 * v4) ∧ (zr ((251 * v4) + v2) ∧ (((0 : Int) ≤ ((251 * v4) + v2) ∧ ((251 * v4) + v2) < 502) ∧ (∀ h8 : Hp, h8 = wr h 192 ((251 * v4) + v2) v3 → (mX8_leadsTo_b33 Q (mX8_leadsTo_b3 Q fu3) v1 v2 v3 v4 h8)))))))))))
set_option maxHeartbeats 4000000 in
set_option maxRecDepth 100000 in
theorem sX8_leadsTo_b3 {l0 : Launch} {a : ZC}  {Q : Hp → Prop}  (O : zOk l0 a cX8_leadsTo RX8 5 none 197 [])   : ∀ (ff : Nat) (v1 : Int) (v2 : Int) (v3 : Int) (v4 : Int) (h : Hp), mX8_leadsTo_b3 Q ff v1 v2 v3 v4 h → zV a (4, 0, 0, (qV Q), xN) 0 0 3 [some (aR 185), some (aI v1), some (aI v2), some (aI v3), some (aI v4)] [] h := by
  intro ff
  induction ff with
  | zero => intro v1 v2 v3 v4 h hM; exact hM.elim
  | succ ff ih =>
    have hK3 := ih
    intro v1 v2 v3 v4 h hM
    unfold mX8_leadsTo_b3 at hM
    refine zV_iload O dX8_leadsTo_3 rfl ?_
    refine zV_iconst (z := 2) O ⟨by omega, by omega⟩ dX8_leadsTo_5 ?_
    refine zV_icmp_ge (tgt := 39) O dX8_leadsTo_6 (by decide) (fun hc => ?_) (fun hc => ?_)
    · replace hM := hM.1 hc
      exact zV_vret O rfl ⟨rfl, hM⟩ (Nat.le_of_ble_eq_true rfl) (Nat.le_of_ble_eq_true rfl) dX8_leadsTo_39
    · replace hM := hM.2 hc
      refine zV_aload_n O dX8_leadsTo_9 rfl rfl ?_
      refine zV_iload_n O dX8_leadsTo_10 rfl rfl ?_
      refine zV_iload O dX8_leadsTo_11 rfl ?_
      refine zV_callV (as := [aI v1, aI v4]) (st := []) O zc_X8_isOfNet (Or.inl zl_RX8_242) zi_1640 zi_130 zt_185 rfl rfl (by decide) (Nat.le_of_ble_eq_true rfl) rfl rfl (Nat.le_of_ble_eq_true rfl) (Nat.le_of_ble_eq_true rfl) (Nat.le_of_ble_eq_true rfl) (Nat.le_of_ble_eq_true rfl) (Nat.le_of_ble_eq_true rfl) (Nat.le_of_ble_eq_true rfl) dX8_leadsTo_13 (sX8_isOfNet hM) (fun r h9 hq => ?_) (fun x h9 hq => hq.elim)
      obtain ⟨rfl, z7, rfl, hzz7, hM⟩ := hq
      refine zV_if_eq (tgt := 33) O dX8_leadsTo_16 (by decide) (fun hc => ?_) (fun hc => ?_)
      · replace hM := hM.1 hc
        exact sX8_leadsTo_b33 O hK3 hM
      · replace hM := hM.2 hc
        refine zV_aload_n O dX8_leadsTo_19 rfl rfl ?_
        refine zV_getR O zf_RX8_35 zt_185 rfl (by decide) dX8_leadsTo_20 ?_
        refine zV_sipush (z := 251) O ⟨by omega, by omega⟩ rfl dX8_leadsTo_23 ?_
        refine zV_iload O dX8_leadsTo_26 rfl ?_
        obtain ⟨hc, hM⟩ := hM
        refine zV_imul O dX8_leadsTo_28 hc ?_
        refine zV_iload_n O dX8_leadsTo_29 rfl rfl ?_
        obtain ⟨hc, hM⟩ := hM
        refine zV_iadd O dX8_leadsTo_30 hc ?_
        refine zV_iload_n O dX8_leadsTo_31 rfl rfl ?_
        obtain ⟨hc, hM⟩ := hM
        refine zV_iast O zt_192 (by decide) hc dX8_leadsTo_32 ?_
        have hM := hM (hu h 192 (Int.toNat ((251 * v4) + v2)) v3) rfl
        generalize hu h 192 (Int.toNat ((251 * v4) + v2)) v3 = h8 at hM ⊢
        exact sX8_leadsTo_b33 O hK3 hM
def mX8_leadsTo (x1 : Int) (x2 : Int) (x3 : Int) (h : Hp) (Q : Hp → Prop) : Prop := (∃ ff, mX8_leadsTo_b3 Q ff x1 x2 x3 0 h)
set_option maxHeartbeats 4000000 in
set_option maxRecDepth 100000 in
theorem sX8_leadsTo {l0 : Launch} {x1 : Int} {x2 : Int} {x3 : Int} {h : Hp} {Q : Hp → Prop}  (hM : mX8_leadsTo x1 x2 x3 h Q) : zSp l0 yX8_leadsTo cX8_leadsTo 5 none 197 (4) 0 0 [aR 185, aI x1, aI x2, aI x3] h (qV Q) xN := by
  unfold mX8_leadsTo at hM
  refine zSp_intro zpn_RX8 (Nat.le_of_ble_eq_true rfl) (fun a O => ?_)
  show zV a (4, 0, 0, (qV Q), xN) 0 0 0 [some (aR 185), some (aI x1), some (aI x2), some (aI x3), none] [] h
  refine zV_iconst (z := 0) O ⟨by omega, by omega⟩ dX8_leadsTo_0 ?_
  refine zV_istore O dX8_leadsTo_1 (Nat.le_of_ble_eq_true rfl) rfl ?_
  obtain ⟨ff, hM⟩ := hM
  exact sX8_leadsTo_b3 O ff _ _ _ _ _ hM
def mX8_movedShare_b33 (Q : UInt32 → Hp → Prop) (K9 : Int → Int → Hp → Prop) (v2 : Int) (s0 : Int) (s1 : Int) (h : Hp) : Prop := (zr (s1 + s0) ∧ (zr (v2 + 1) ∧ (K9 (s1 + s0) (v2 + 1) h)))
set_option maxHeartbeats 4000000 in
set_option maxRecDepth 100000 in
theorem sX8_movedShare_b33 {l0 : Launch} {a : ZC}  {Q : UInt32 → Hp → Prop} {K9 : Int → Int → Hp → Prop} (O : zOk l0 a cX8_movedShare RX8 3 (some .float) 197 [])  (hK9 : ∀ (v1 : Int) (v2 : Int) (h : Hp), K9 v1 v2 h → zV a (4, 0, 0, (qF Q), xN) 0 0 9 [some (aR 185), some (aI v1), some (aI v2)] [] h) {v2 : Int} {s0 : Int} {s1 : Int} {h : Hp} (hz_s0 : s0 = 0 ∨ s0 = 1) (hM : mX8_movedShare_b33 Q K9 v2 s0 s1 h) : zV a (4, 0, 0, (qF Q), xN) 0 0 33 [some (aR 185), none, some (aI v2)] [aI s0, aI s1] h := by
  unfold mX8_movedShare_b33 at hM
  obtain ⟨hc, hM⟩ := hM
  refine zV_iadd O dX8_movedShare_33 hc ?_
  refine zV_istore_n O dX8_movedShare_34 rfl (Nat.le_of_ble_eq_true rfl) rfl ?_
  obtain ⟨hc, hM⟩ := hM
  refine zV_iinc O dX8_movedShare_35 rfl (Nat.le_of_ble_eq_true rfl) rfl hc ?_
  refine zV_goto (tgt := 9) O dX8_movedShare_38 (by decide) ?_
  exact hK9 _ _ _ hM
def mX8_movedShare_b9 (Q : UInt32 → Hp → Prop) : Nat → Int → Int → Hp → Prop
  | 0 => fun _ _ _ => False
  | fu9 + 1 => fun v1 v2 h => (((0 : Int) ≤ 0 ∧ (0 : Int) < 1096) ∧ (((rd h 186 0) ≤ v2 → (((0 : Int) ≤ 0 ∧ (0 : Int) < 1096) ∧ ((¬ (rd h 186 0) = 0 → (((0 : Int) ≤ 0 ∧ (0 : Int) < 1096) ∧ (vf_n32 (FP.fdiv (FP.i2f (Int32.ofInt v1)) (FP.i2f (Int32.ofInt (rd h 186 0)))) ∧ (Q (FP.fdiv (FP.i2f (Int32.ofInt v1)) (FP.i2f (Int32.ofInt (rd h 186 0)))) h)))) ∧ ((rd h 186 0) = 0 → (Q FP.fconst0 h))))) ∧ (¬ (rd h 186 0) ≤ v2 → (mX8_latest v2 h (fun z5 => ((z5 ≤ 0 → (mX8_movedShare_b33 Q (mX8_movedShare_b9 Q fu9) v2 0 v1 h)) ∧ (¬ z5 ≤ 0 → (mX8_movedShare_b33 Q (mX8_movedShare_b9 Q fu9) v2 1 v1 h))))))))
set_option maxHeartbeats 4000000 in
set_option maxRecDepth 100000 in
theorem sX8_movedShare_b9 {l0 : Launch} {a : ZC}  {Q : UInt32 → Hp → Prop}  (O : zOk l0 a cX8_movedShare RX8 3 (some .float) 197 [])   : ∀ (ff : Nat) (v1 : Int) (v2 : Int) (h : Hp), mX8_movedShare_b9 Q ff v1 v2 h → zV a (4, 0, 0, (qF Q), xN) 0 0 9 [some (aR 185), some (aI v1), some (aI v2)] [] h := by
  intro ff
  induction ff with
  | zero => intro v1 v2 h hM; exact hM.elim
  | succ ff ih =>
    have hK9 := ih
    intro v1 v2 h hM
    unfold mX8_movedShare_b9 at hM
    refine zV_iload_n O dX8_movedShare_9 rfl rfl ?_
    refine zV_aload_n O dX8_movedShare_10 rfl rfl ?_
    refine zV_getR O zf_RX8_13 zt_185 rfl (by decide) dX8_movedShare_11 ?_
    refine zV_iconst (z := 0) O ⟨by omega, by omega⟩ dX8_movedShare_14 ?_
    obtain ⟨hc, hM⟩ := hM
    refine zV_iald O zt_186 (by decide) hc dX8_movedShare_15 ?_
    refine zV_icmp_ge (tgt := 41) O dX8_movedShare_16 (by decide) (fun hc => ?_) (fun hc => ?_)
    · replace hM := hM.1 hc
      refine zV_aload_n O dX8_movedShare_41 rfl rfl ?_
      refine zV_getR O zf_RX8_13 zt_185 rfl (by decide) dX8_movedShare_42 ?_
      refine zV_iconst (z := 0) O ⟨by omega, by omega⟩ dX8_movedShare_45 ?_
      obtain ⟨hc, hM⟩ := hM
      refine zV_iald O zt_186 (by decide) hc dX8_movedShare_46 ?_
      refine zV_if_ne (tgt := 54) O dX8_movedShare_47 (by decide) (fun hc => ?_) (fun hc => ?_)
      · replace hM := hM.1 hc
        refine zV_iload_n O dX8_movedShare_54 rfl rfl ?_
        refine zV_i2f O dX8_movedShare_55 ?_
        refine zV_aload_n O dX8_movedShare_56 rfl rfl ?_
        refine zV_getR O zf_RX8_13 zt_185 rfl (by decide) dX8_movedShare_57 ?_
        refine zV_iconst (z := 0) O ⟨by omega, by omega⟩ dX8_movedShare_60 ?_
        obtain ⟨hc, hM⟩ := hM
        refine zV_iald O zt_186 (by decide) hc dX8_movedShare_61 ?_
        refine zV_i2f O dX8_movedShare_62 ?_
        obtain ⟨hc, hM⟩ := hM
        refine zV_fdiv O dX8_movedShare_63 hc ?_
        exact zV_fret O rfl ⟨_, rfl, hM⟩ (Nat.le_of_ble_eq_true rfl) (Nat.le_of_ble_eq_true rfl) dX8_movedShare_64
      · replace hM := hM.2 hc
        refine zV_fconst0 O dX8_movedShare_50 ?_
        refine zV_goto (tgt := 64) O dX8_movedShare_51 (by decide) ?_
        exact zV_fret O rfl ⟨_, rfl, hM⟩ (Nat.le_of_ble_eq_true rfl) (Nat.le_of_ble_eq_true rfl) dX8_movedShare_64
    · replace hM := hM.2 hc
      refine zV_iload_n O dX8_movedShare_19 rfl rfl ?_
      refine zV_aload_n O dX8_movedShare_20 rfl rfl ?_
      refine zV_iload_n O dX8_movedShare_21 rfl rfl ?_
      refine zV_callV (as := [aI v2]) (st := [aI v1]) O zc_X8_latest (Or.inl zl_RX8_221) zi_1577 zi_124 zt_185 rfl rfl (by decide) (Nat.le_of_ble_eq_true rfl) rfl rfl (Nat.le_of_ble_eq_true rfl) (Nat.le_of_ble_eq_true rfl) (Nat.le_of_ble_eq_true rfl) (Nat.le_of_ble_eq_true rfl) (Nat.le_of_ble_eq_true rfl) (Nat.le_of_ble_eq_true rfl) dX8_movedShare_22 (sX8_latest hM) (fun r h9 hq => ?_) (fun x h9 hq => hq.elim)
      obtain ⟨rfl, z5, rfl, hM⟩ := hq
      refine zV_if_le (tgt := 32) O dX8_movedShare_25 (by decide) (fun hc => ?_) (fun hc => ?_)
      · replace hM := hM.1 hc
        refine zV_iconst (z := 0) O ⟨by omega, by omega⟩ dX8_movedShare_32 ?_
        refine zV_sub (ls2 := [some (aR 185), none, some (aI v2)]) ⟨rfl, rfl, trivial⟩ ?_
        exact sX8_movedShare_b33 O hK9 (Or.inl rfl) hM
      · replace hM := hM.2 hc
        refine zV_iconst (z := 1) O ⟨by omega, by omega⟩ dX8_movedShare_28 ?_
        refine zV_goto (tgt := 33) O dX8_movedShare_29 (by decide) ?_
        refine zV_sub (ls2 := [some (aR 185), none, some (aI v2)]) ⟨rfl, rfl, trivial⟩ ?_
        exact sX8_movedShare_b33 O hK9 (Or.inr rfl) hM
def mX8_movedShare  (h : Hp) (Q : UInt32 → Hp → Prop) : Prop := (∀ h6 : Hp, h6 = hu h 185 0 0 → (∃ ff, mX8_movedShare_b9 Q ff 0 0 h6))
set_option maxHeartbeats 4000000 in
set_option maxRecDepth 100000 in
theorem sX8_movedShare {l0 : Launch}  {h : Hp} {Q : UInt32 → Hp → Prop}  (hM : mX8_movedShare  h Q) : zSp l0 yX8_movedShare cX8_movedShare 3 (some .float) 197 (4) 0 0 [aR 185] h (qF Q) xN := by
  unfold mX8_movedShare at hM
  refine zSp_intro zpn_RX8 (Nat.le_of_ble_eq_true rfl) (fun a O => ?_)
  show zV a (4, 0, 0, (qF Q), xN) 0 0 0 [some (aR 185), none, none] [] h
  refine zV_aload_n O dX8_movedShare_0 rfl rfl ?_
  refine zV_iconst (z := 0) O ⟨by omega, by omega⟩ dX8_movedShare_1 ?_
  refine zV_putI O zf_RX8_1 zt_185 rfl (by decide) dX8_movedShare_2 ?_
  have hM := hM _ rfl
  generalize hu h 185 0 0 = h6 at hM ⊢
  refine zV_iconst (z := 0) O ⟨by omega, by omega⟩ dX8_movedShare_5 ?_
  refine zV_istore_n O dX8_movedShare_6 rfl (Nat.le_of_ble_eq_true rfl) rfl ?_
  refine zV_iconst (z := 0) O ⟨by omega, by omega⟩ dX8_movedShare_7 ?_
  refine zV_istore_n O dX8_movedShare_8 rfl (Nat.le_of_ble_eq_true rfl) rfl ?_
  obtain ⟨ff, hM⟩ := hM
  exact sX8_movedShare_b9 O ff _ _ _ hM
def mX8_must (x1 : Int) (h : Hp) (Q : Hp → Prop) : Prop := (mX8_isGood h (fun z6 => ((¬ z6 = 0 → (mX8_isByte x1 h (fun z7 => ((z7 = 0 → (mX8_wrongs 1 h (fun z8 h9 => (Q h9)))) ∧ (¬ z7 = 0 → (mX8_next h (fun h10 => (Q h10)))))))) ∧ (z6 = 0 → (Q h)))))
set_option maxHeartbeats 4000000 in
set_option maxRecDepth 100000 in
theorem sX8_must {l0 : Launch} {x1 : Int} {h : Hp} {Q : Hp → Prop}  (hM : mX8_must x1 h Q) : zSp l0 yX8_must cX8_must 2 none 197 (4) 0 0 [aR 185, aI x1] h (qV Q) xN := by
  unfold mX8_must at hM
  refine zSp_intro zpn_RX8 (Nat.le_of_ble_eq_true rfl) (fun a O => ?_)
  show zV a (4, 0, 0, (qV Q), xN) 0 0 0 [some (aR 185), some (aI x1)] [] h
  refine zV_aload_n O dX8_must_0 rfl rfl ?_
  refine zV_callV (as := []) (st := []) O zc_X8_isGood (Or.inl zl_RX8_111) zi_1470 zi_103 zt_185 rfl rfl (by decide) (Nat.le_of_ble_eq_true rfl) rfl rfl (Nat.le_of_ble_eq_true rfl) (Nat.le_of_ble_eq_true rfl) (Nat.le_of_ble_eq_true rfl) (Nat.le_of_ble_eq_true rfl) (Nat.le_of_ble_eq_true rfl) (Nat.le_of_ble_eq_true rfl) dX8_must_1 (sX8_isGood hM) (fun r h9 hq => ?_) (fun x h9 hq => hq.elim)
  obtain ⟨rfl, z6, rfl, hzz6, hM⟩ := hq
  refine zV_if_ne (tgt := 8) O dX8_must_4 (by decide) (fun hc => ?_) (fun hc => ?_)
  · replace hM := hM.1 hc
    refine zV_aload_n O dX8_must_8 rfl rfl ?_
    refine zV_iload_n O dX8_must_9 rfl rfl ?_
    refine zV_callV (as := [aI x1]) (st := []) O zc_X8_isByte (Or.inl zl_RX8_119) zi_1489 zi_107 zt_185 rfl rfl (by decide) (Nat.le_of_ble_eq_true rfl) rfl rfl (Nat.le_of_ble_eq_true rfl) (Nat.le_of_ble_eq_true rfl) (Nat.le_of_ble_eq_true rfl) (Nat.le_of_ble_eq_true rfl) (Nat.le_of_ble_eq_true rfl) (Nat.le_of_ble_eq_true rfl) dX8_must_10 (sX8_isByte hM) (fun r h9 hq => ?_) (fun x h9 hq => hq.elim)
    obtain ⟨rfl, z7, rfl, hzz7, hM⟩ := hq
    refine zV_if_eq (tgt := 23) O dX8_must_13 (by decide) (fun hc => ?_) (fun hc => ?_)
    · replace hM := hM.1 hc
      refine zV_aload_n O dX8_must_23 rfl rfl ?_
      refine zV_iconst (z := 1) O ⟨by omega, by omega⟩ dX8_must_24 ?_
      refine zV_callV (as := [aI 1]) (st := []) O zc_X8_wrongs (Or.inl zl_RX8_122) zi_1474 zi_104 zt_185 rfl rfl (by decide) (Nat.le_of_ble_eq_true rfl) rfl rfl (Nat.le_of_ble_eq_true rfl) (Nat.le_of_ble_eq_true rfl) (Nat.le_of_ble_eq_true rfl) (Nat.le_of_ble_eq_true rfl) (Nat.le_of_ble_eq_true rfl) (Nat.le_of_ble_eq_true rfl) dX8_must_25 (sX8_wrongs hM) (fun r h9 hq => ?_) (fun x h9 hq => hq.elim)
      obtain ⟨z8, rfl, hzz8, hM⟩ := hq
      refine zV_pop O rfl dX8_must_28 ?_
      exact zV_vret O rfl ⟨rfl, hM⟩ (Nat.le_of_ble_eq_true rfl) (Nat.le_of_ble_eq_true rfl) dX8_must_29
    · replace hM := hM.2 hc
      refine zV_aload_n O dX8_must_16 rfl rfl ?_
      refine zV_callV (as := []) (st := []) O zc_X8_next (Or.inl zl_RX8_108) zi_1428 zi_95 zt_185 rfl rfl (by decide) (Nat.le_of_ble_eq_true rfl) rfl rfl (Nat.le_of_ble_eq_true rfl) (Nat.le_of_ble_eq_true rfl) (Nat.le_of_ble_eq_true rfl) (Nat.le_of_ble_eq_true rfl) (Nat.le_of_ble_eq_true rfl) (Nat.le_of_ble_eq_true rfl) dX8_must_17 (sX8_next hM) (fun r h10 hq => ?_) (fun x h9 hq => hq.elim)
      obtain ⟨rfl, hM⟩ := hq
      refine zV_goto (tgt := 29) O dX8_must_20 (by decide) ?_
      exact zV_vret O rfl ⟨rfl, hM⟩ (Nat.le_of_ble_eq_true rfl) (Nat.le_of_ble_eq_true rfl) dX8_must_29
  · replace hM := hM.2 hc
    exact zV_vret O rfl ⟨rfl, hM⟩ (Nat.le_of_ble_eq_true rfl) (Nat.le_of_ble_eq_true rfl) dX8_must_7
def mX8_number_b47 (Q : Int → Hp → Prop) (v1 : Int) (h : Hp) : Prop := (mX8_isGood h (fun z11 => ((¬ z11 = 0 → (mX8_next h (fun h12 => (Q (h 185 14) h12)))) ∧ (z11 = 0 → (Q v1 h)))))
set_option maxHeartbeats 4000000 in
set_option maxRecDepth 100000 in
theorem sX8_number_b47 {l0 : Launch} {a : ZC}  {Q : Int → Hp → Prop}  (O : zOk l0 a cX8_number RX8 4 (some .int) 197 [])   {v1 : Int} {h : Hp}  (hM : mX8_number_b47 Q v1 h) : zV a (4, 0, 0, (qI Q), xN) 0 0 47 [some (aR 185), some (aI v1), none, none] [] h := by
  unfold mX8_number_b47 at hM
  refine zV_aload_n O dX8_number_47 rfl rfl ?_
  refine zV_callV (as := []) (st := []) O zc_X8_isGood (Or.inl zl_RX8_111) zi_1470 zi_103 zt_185 rfl rfl (by decide) (Nat.le_of_ble_eq_true rfl) rfl rfl (Nat.le_of_ble_eq_true rfl) (Nat.le_of_ble_eq_true rfl) (Nat.le_of_ble_eq_true rfl) (Nat.le_of_ble_eq_true rfl) (Nat.le_of_ble_eq_true rfl) (Nat.le_of_ble_eq_true rfl) dX8_number_48 (sX8_isGood hM) (fun r h9 hq => ?_) (fun x h9 hq => hq.elim)
  obtain ⟨rfl, z11, rfl, hzz11, hM⟩ := hq
  refine zV_if_ne (tgt := 56) O dX8_number_51 (by decide) (fun hc => ?_) (fun hc => ?_)
  · replace hM := hM.1 hc
    refine zV_aload_n O dX8_number_56 rfl rfl ?_
    refine zV_getI O zf_RX8_92 zt_185 rfl (by decide) dX8_number_57 ?_
    refine zV_istore_n O dX8_number_60 rfl (Nat.le_of_ble_eq_true rfl) rfl ?_
    refine zV_aload_n O dX8_number_61 rfl rfl ?_
    refine zV_callV (as := []) (st := []) O zc_X8_next (Or.inl zl_RX8_108) zi_1428 zi_95 zt_185 rfl rfl (by decide) (Nat.le_of_ble_eq_true rfl) rfl rfl (Nat.le_of_ble_eq_true rfl) (Nat.le_of_ble_eq_true rfl) (Nat.le_of_ble_eq_true rfl) (Nat.le_of_ble_eq_true rfl) (Nat.le_of_ble_eq_true rfl) (Nat.le_of_ble_eq_true rfl) dX8_number_62 (sX8_next hM) (fun r h12 hq => ?_) (fun x h9 hq => hq.elim)
    obtain ⟨rfl, hM⟩ := hq
    refine zV_iload_n O dX8_number_65 rfl rfl ?_
    exact zV_iret O rfl ⟨_, rfl, hM⟩ (Nat.le_of_ble_eq_true rfl) (Nat.le_of_ble_eq_true rfl) dX8_number_66
  · replace hM := hM.2 hc
    refine zV_iload_n O dX8_number_54 rfl rfl ?_
    exact zV_iret O rfl ⟨_, rfl, hM⟩ (Nat.le_of_ble_eq_true rfl) (Nat.le_of_ble_eq_true rfl) dX8_number_55
def mX8_number (x1 : Int) (x2 : Int) (h : Hp) (Q : Int → Hp → Prop) : Prop := (mX8_isGood h (fun z13 => ((¬ z13 = 0 → (((h 185 13) = (2 : Int) → (mX8_in (h 185 14) x1 x2 h (fun z14 => ((¬ z14 = 0 → (mX8_number_b47 Q x1 h)) ∧ (z14 = 0 → (mX8_wrongs 2 h (fun z15 h16 => (mX8_number_b47 Q x1 h16)))))))) ∧ (¬ (h 185 13) = (2 : Int) → (mX8_wrongs 1 h (fun z17 h18 => (mX8_number_b47 Q x1 h18)))))) ∧ (z13 = 0 → (Q x1 h)))))
set_option maxHeartbeats 4000000 in
set_option maxRecDepth 100000 in
theorem sX8_number {l0 : Launch} {x1 : Int} {x2 : Int} {h : Hp} {Q : Int → Hp → Prop}  (hM : mX8_number x1 x2 h Q) : zSp l0 yX8_number cX8_number 4 (some .int) 197 (4) 0 0 [aR 185, aI x1, aI x2] h (qI Q) xN := by
  unfold mX8_number at hM
  refine zSp_intro zpn_RX8 (Nat.le_of_ble_eq_true rfl) (fun a O => ?_)
  show zV a (4, 0, 0, (qI Q), xN) 0 0 0 [some (aR 185), some (aI x1), some (aI x2), none] [] h
  refine zV_aload_n O dX8_number_0 rfl rfl ?_
  refine zV_callV (as := []) (st := []) O zc_X8_isGood (Or.inl zl_RX8_111) zi_1470 zi_103 zt_185 rfl rfl (by decide) (Nat.le_of_ble_eq_true rfl) rfl rfl (Nat.le_of_ble_eq_true rfl) (Nat.le_of_ble_eq_true rfl) (Nat.le_of_ble_eq_true rfl) (Nat.le_of_ble_eq_true rfl) (Nat.le_of_ble_eq_true rfl) (Nat.le_of_ble_eq_true rfl) dX8_number_1 (sX8_isGood hM) (fun r h9 hq => ?_) (fun x h9 hq => hq.elim)
  obtain ⟨rfl, z13, rfl, hzz13, hM⟩ := hq
  refine zV_if_ne (tgt := 9) O dX8_number_4 (by decide) (fun hc => ?_) (fun hc => ?_)
  · replace hM := hM.1 hc
    refine zV_aload_n O dX8_number_9 rfl rfl ?_
    refine zV_getI O zf_RX8_89 zt_185 rfl (by decide) dX8_number_10 ?_
    refine zV_iconst (z := 2) O ⟨by omega, by omega⟩ dX8_number_13 ?_
    refine zV_icmp_eq (tgt := 26) O dX8_number_14 (by decide) (fun hc => ?_) (fun hc => ?_)
    · replace hM := hM.1 hc
      refine zV_aload_n O dX8_number_26 rfl rfl ?_
      refine zV_getI O zf_RX8_92 zt_185 rfl (by decide) dX8_number_27 ?_
      refine zV_i2l O dX8_number_30 ?_
      refine zV_iload_n O dX8_number_31 rfl rfl ?_
      refine zV_i2l O dX8_number_32 ?_
      refine zV_iload_n O dX8_number_33 rfl rfl ?_
      refine zV_i2l O dX8_number_34 ?_
      refine zV_callS (as := [aL (h 185 14), aL x1, aL x2]) (st := []) O zc_X8_in (Or.inl zl_RX8_125) zi_1416 (Nat.le_of_ble_eq_true rfl) rfl rfl (Nat.le_of_ble_eq_true rfl) (Nat.le_of_ble_eq_true rfl) (Nat.le_of_ble_eq_true rfl) (Nat.le_of_ble_eq_true rfl) (Nat.le_of_ble_eq_true rfl) (Nat.le_of_ble_eq_true rfl) dX8_number_35 (sX8_in hM) (fun r h9 hq => ?_) (fun x h9 hq => hq.elim)
      obtain ⟨rfl, z14, rfl, hzz14, hM⟩ := hq
      refine zV_if_ne (tgt := 47) O dX8_number_38 (by decide) (fun hc => ?_) (fun hc => ?_)
      · replace hM := hM.1 hc
        refine zV_sub (ls2 := [some (aR 185), some (aI x1), none, none]) ⟨rfl, rfl, trivial⟩ ?_
        exact sX8_number_b47 O hM
      · replace hM := hM.2 hc
        refine zV_aload_n O dX8_number_41 rfl rfl ?_
        refine zV_iconst (z := 2) O ⟨by omega, by omega⟩ dX8_number_42 ?_
        refine zV_callV (as := [aI 2]) (st := []) O zc_X8_wrongs (Or.inl zl_RX8_122) zi_1474 zi_104 zt_185 rfl rfl (by decide) (Nat.le_of_ble_eq_true rfl) rfl rfl (Nat.le_of_ble_eq_true rfl) (Nat.le_of_ble_eq_true rfl) (Nat.le_of_ble_eq_true rfl) (Nat.le_of_ble_eq_true rfl) (Nat.le_of_ble_eq_true rfl) (Nat.le_of_ble_eq_true rfl) dX8_number_43 (sX8_wrongs hM) (fun r h16 hq => ?_) (fun x h9 hq => hq.elim)
        obtain ⟨z15, rfl, hzz15, hM⟩ := hq
        refine zV_pop O rfl dX8_number_46 ?_
        refine zV_sub (ls2 := [some (aR 185), some (aI x1), none, none]) ⟨rfl, rfl, trivial⟩ ?_
        exact sX8_number_b47 O hM
    · replace hM := hM.2 hc
      refine zV_aload_n O dX8_number_17 rfl rfl ?_
      refine zV_iconst (z := 1) O ⟨by omega, by omega⟩ dX8_number_18 ?_
      refine zV_callV (as := [aI 1]) (st := []) O zc_X8_wrongs (Or.inl zl_RX8_122) zi_1474 zi_104 zt_185 rfl rfl (by decide) (Nat.le_of_ble_eq_true rfl) rfl rfl (Nat.le_of_ble_eq_true rfl) (Nat.le_of_ble_eq_true rfl) (Nat.le_of_ble_eq_true rfl) (Nat.le_of_ble_eq_true rfl) (Nat.le_of_ble_eq_true rfl) (Nat.le_of_ble_eq_true rfl) dX8_number_19 (sX8_wrongs hM) (fun r h18 hq => ?_) (fun x h9 hq => hq.elim)
      obtain ⟨z17, rfl, hzz17, hM⟩ := hq
      refine zV_pop O rfl dX8_number_22 ?_
      refine zV_goto (tgt := 47) O dX8_number_23 (by decide) ?_
      refine zV_sub (ls2 := [some (aR 185), some (aI x1), none, none]) ⟨rfl, rfl, trivial⟩ ?_
      exact sX8_number_b47 O hM
  · replace hM := hM.2 hc
    refine zV_iload_n O dX8_number_7 rfl rfl ?_
    exact zV_iret O rfl ⟨_, rfl, hM⟩ (Nat.le_of_ble_eq_true rfl) (Nat.le_of_ble_eq_true rfl) dX8_number_8
def mX8_passes (x1 : Int) (h : Hp) (Q : Int → Hp → Prop) : Prop := (mX8_isWord x1 h (fun z3 => ((¬ z3 = 0 → (mX8_next h (fun h4 => (Q 1 h4)))) ∧ (z3 = 0 → (Q 0 h)))))
set_option maxHeartbeats 4000000 in
set_option maxRecDepth 100000 in
theorem sX8_passes {l0 : Launch} {x1 : Int} {h : Hp} {Q : Int → Hp → Prop}  (hM : mX8_passes x1 h Q) : zSp l0 yX8_passes cX8_passes 3 (some .boolean) 197 (4) 0 0 [aR 185, aL x1] h (qZ Q) xN := by
  unfold mX8_passes at hM
  refine zSp_intro zpn_RX8 (Nat.le_of_ble_eq_true rfl) (fun a O => ?_)
  show zV a (4, 0, 0, (qZ Q), xN) 0 0 0 [some (aR 185), some (aL x1), none] [] h
  refine zV_aload_n O dX8_passes_0 rfl rfl ?_
  refine zV_lload_n O dX8_passes_1 rfl rfl ?_
  refine zV_callV (as := [aL x1]) (st := []) O zc_X8_isWord (Or.inl zl_RX8_115) zi_1466 zi_102 zt_185 rfl rfl (by decide) (Nat.le_of_ble_eq_true rfl) rfl rfl (Nat.le_of_ble_eq_true rfl) (Nat.le_of_ble_eq_true rfl) (Nat.le_of_ble_eq_true rfl) (Nat.le_of_ble_eq_true rfl) (Nat.le_of_ble_eq_true rfl) (Nat.le_of_ble_eq_true rfl) dX8_passes_2 (sX8_isWord hM) (fun r h9 hq => ?_) (fun x h9 hq => hq.elim)
  obtain ⟨rfl, z3, rfl, hzz3, hM⟩ := hq
  refine zV_if_ne (tgt := 10) O dX8_passes_5 (by decide) (fun hc => ?_) (fun hc => ?_)
  · replace hM := hM.1 hc
    refine zV_aload_n O dX8_passes_10 rfl rfl ?_
    refine zV_callV (as := []) (st := []) O zc_X8_next (Or.inl zl_RX8_108) zi_1428 zi_95 zt_185 rfl rfl (by decide) (Nat.le_of_ble_eq_true rfl) rfl rfl (Nat.le_of_ble_eq_true rfl) (Nat.le_of_ble_eq_true rfl) (Nat.le_of_ble_eq_true rfl) (Nat.le_of_ble_eq_true rfl) (Nat.le_of_ble_eq_true rfl) (Nat.le_of_ble_eq_true rfl) dX8_passes_11 (sX8_next hM) (fun r h4 hq => ?_) (fun x h9 hq => hq.elim)
    obtain ⟨rfl, hM⟩ := hq
    refine zV_iconst (z := 1) O ⟨by omega, by omega⟩ dX8_passes_14 ?_
    exact zV_zret O rfl (Or.inr rfl) ⟨_, rfl, (Or.inr rfl), hM⟩ (Nat.le_of_ble_eq_true rfl) (Nat.le_of_ble_eq_true rfl) dX8_passes_15
  · replace hM := hM.2 hc
    refine zV_iconst (z := 0) O ⟨by omega, by omega⟩ dX8_passes_8 ?_
    exact zV_zret O rfl (Or.inl rfl) ⟨_, rfl, (Or.inl rfl), hM⟩ (Nat.le_of_ble_eq_true rfl) (Nat.le_of_ble_eq_true rfl) dX8_passes_9
def mX8_readsName_b77 (Q : Hp → Prop) : Nat → Int → Int → Int → Hp → Prop
  | 0 => fun _ _ _ _ => False
  | fu77 + 1 => fun v1 v2 v3 h => ((v2 ≤ v3 → (mX8_next h (fun h23 => (Q h23)))) ∧ (¬ v2 ≤ v3 → (zr (6 + v3) ∧ (mX8_cell v1 (6 + v3) h (fun z24 => (zr ((h 185 12) + v3) ∧ (((0 : Int) ≤ ((h 185 12) + v3) ∧ ((h 185 12) + v3) < 900) ∧ (((0 : Int) ≤ z24 ∧ z24 < 1096) ∧ (∀ h25 : Hp, h25 = wr h 187 z24 (rd h 191 ((h 185 12) + v3)) → (zr (v3 + 1) ∧ ((mX8_readsName_b77 Q fu77) v1 v2 (v3 + 1) h25)))))))))))
set_option maxHeartbeats 4000000 in
set_option maxRecDepth 100000 in
theorem sX8_readsName_b77 {l0 : Launch} {a : ZC}  {Q : Hp → Prop}  (O : zOk l0 a cX8_readsName RX8 4 none 197 [])   : ∀ (ff : Nat) (v1 : Int) (v2 : Int) (v3 : Int) (h : Hp), mX8_readsName_b77 Q ff v1 v2 v3 h → zV a (4, 0, 0, (qV Q), xN) 0 0 77 [some (aR 185), some (aI v1), some (aI v2), some (aI v3)] [] h := by
  intro ff
  induction ff with
  | zero => intro v1 v2 v3 h hM; exact hM.elim
  | succ ff ih =>
    have hK77 := ih
    intro v1 v2 v3 h hM
    unfold mX8_readsName_b77 at hM
    refine zV_iload_n O dX8_readsName_77 rfl rfl ?_
    refine zV_iload_n O dX8_readsName_78 rfl rfl ?_
    refine zV_icmp_ge (tgt := 112) O dX8_readsName_79 (by decide) (fun hc => ?_) (fun hc => ?_)
    · replace hM := hM.1 hc
      refine zV_aload_n O dX8_readsName_112 rfl rfl ?_
      refine zV_callV (as := []) (st := []) O zc_X8_next (Or.inl zl_RX8_108) zi_1428 zi_95 zt_185 rfl rfl (by decide) (Nat.le_of_ble_eq_true rfl) rfl rfl (Nat.le_of_ble_eq_true rfl) (Nat.le_of_ble_eq_true rfl) (Nat.le_of_ble_eq_true rfl) (Nat.le_of_ble_eq_true rfl) (Nat.le_of_ble_eq_true rfl) (Nat.le_of_ble_eq_true rfl) dX8_readsName_113 (sX8_next hM) (fun r h23 hq => ?_) (fun x h9 hq => hq.elim)
      obtain ⟨rfl, hM⟩ := hq
      exact zV_vret O rfl ⟨rfl, hM⟩ (Nat.le_of_ble_eq_true rfl) (Nat.le_of_ble_eq_true rfl) dX8_readsName_116
    · replace hM := hM.2 hc
      refine zV_aload_n O dX8_readsName_82 rfl rfl ?_
      refine zV_getR O zf_RX8_17 zt_185 rfl (by decide) dX8_readsName_83 ?_
      refine zV_iload_n O dX8_readsName_86 rfl rfl ?_
      refine zV_bipush (z := 6) O ⟨by omega, by omega⟩ rfl dX8_readsName_87 ?_
      refine zV_iload_n O dX8_readsName_89 rfl rfl ?_
      obtain ⟨hc, hM⟩ := hM
      refine zV_iadd O dX8_readsName_90 hc ?_
      refine zV_callS (as := [aI v1, aI (6 + v3)]) (st := [aR 187]) O zc_X8_cell (Or.inl zl_RX8_129) zi_1505 (Nat.le_of_ble_eq_true rfl) rfl rfl (Nat.le_of_ble_eq_true rfl) (Nat.le_of_ble_eq_true rfl) (Nat.le_of_ble_eq_true rfl) (Nat.le_of_ble_eq_true rfl) (Nat.le_of_ble_eq_true rfl) (Nat.le_of_ble_eq_true rfl) dX8_readsName_91 (sX8_cell hM) (fun r h9 hq => ?_) (fun x h9 hq => hq.elim)
      obtain ⟨rfl, z24, rfl, hM⟩ := hq
      refine zV_aload_n O dX8_readsName_94 rfl rfl ?_
      refine zV_getR O zf_RX8_29 zt_185 rfl (by decide) dX8_readsName_95 ?_
      refine zV_aload_n O dX8_readsName_98 rfl rfl ?_
      refine zV_getI O zf_RX8_82 zt_185 rfl (by decide) dX8_readsName_99 ?_
      refine zV_iload_n O dX8_readsName_102 rfl rfl ?_
      obtain ⟨hc, hM⟩ := hM
      refine zV_iadd O dX8_readsName_103 hc ?_
      obtain ⟨hc, hM⟩ := hM
      refine zV_iald O zt_191 (by decide) hc dX8_readsName_104 ?_
      obtain ⟨hc, hM⟩ := hM
      refine zV_iast O zt_187 (by decide) hc dX8_readsName_105 ?_
      have hM := hM (hu h 187 (Int.toNat z24) (rd h 191 ((h 185 12) + v3))) rfl
      generalize hu h 187 (Int.toNat z24) (rd h 191 ((h 185 12) + v3)) = h25 at hM ⊢
      obtain ⟨hc, hM⟩ := hM
      refine zV_iinc O dX8_readsName_106 rfl (Nat.le_of_ble_eq_true rfl) rfl hc ?_
      refine zV_goto (tgt := 77) O dX8_readsName_109 (by decide) ?_
      exact hK77 _ _ _ _ hM
def mX8_readsName_b56 (Q : Hp → Prop) (v1 : Int) (v2 : Int) (h : Hp) : Prop := (mX8_isGood h (fun z26 => ((¬ z26 = 0 → (mX8_cell v1 5 h (fun z27 => (((0 : Int) ≤ z27 ∧ z27 < 1096) ∧ (∀ h28 : Hp, h28 = wr h 187 z27 v2 → (∃ ff, mX8_readsName_b77 Q ff v1 v2 0 h28)))))) ∧ (z26 = 0 → (Q h)))))
set_option maxHeartbeats 4000000 in
set_option maxRecDepth 100000 in
theorem sX8_readsName_b56 {l0 : Launch} {a : ZC}  {Q : Hp → Prop}  (O : zOk l0 a cX8_readsName RX8 4 none 197 [])   {v1 : Int} {v2 : Int} {h : Hp}  (hM : mX8_readsName_b56 Q v1 v2 h) : zV a (4, 0, 0, (qV Q), xN) 0 0 56 [some (aR 185), some (aI v1), some (aI v2), none] [] h := by
  unfold mX8_readsName_b56 at hM
  refine zV_aload_n O dX8_readsName_56 rfl rfl ?_
  refine zV_callV (as := []) (st := []) O zc_X8_isGood (Or.inl zl_RX8_111) zi_1470 zi_103 zt_185 rfl rfl (by decide) (Nat.le_of_ble_eq_true rfl) rfl rfl (Nat.le_of_ble_eq_true rfl) (Nat.le_of_ble_eq_true rfl) (Nat.le_of_ble_eq_true rfl) (Nat.le_of_ble_eq_true rfl) (Nat.le_of_ble_eq_true rfl) (Nat.le_of_ble_eq_true rfl) dX8_readsName_57 (sX8_isGood hM) (fun r h9 hq => ?_) (fun x h9 hq => hq.elim)
  obtain ⟨rfl, z26, rfl, hzz26, hM⟩ := hq
  refine zV_if_ne (tgt := 64) O dX8_readsName_60 (by decide) (fun hc => ?_) (fun hc => ?_)
  · replace hM := hM.1 hc
    refine zV_aload_n O dX8_readsName_64 rfl rfl ?_
    refine zV_getR O zf_RX8_17 zt_185 rfl (by decide) dX8_readsName_65 ?_
    refine zV_iload_n O dX8_readsName_68 rfl rfl ?_
    refine zV_iconst (z := 5) O ⟨by omega, by omega⟩ dX8_readsName_69 ?_
    refine zV_callS (as := [aI v1, aI 5]) (st := [aR 187]) O zc_X8_cell (Or.inl zl_RX8_129) zi_1505 (Nat.le_of_ble_eq_true rfl) rfl rfl (Nat.le_of_ble_eq_true rfl) (Nat.le_of_ble_eq_true rfl) (Nat.le_of_ble_eq_true rfl) (Nat.le_of_ble_eq_true rfl) (Nat.le_of_ble_eq_true rfl) (Nat.le_of_ble_eq_true rfl) dX8_readsName_70 (sX8_cell hM) (fun r h9 hq => ?_) (fun x h9 hq => hq.elim)
    obtain ⟨rfl, z27, rfl, hM⟩ := hq
    refine zV_iload_n O dX8_readsName_73 rfl rfl ?_
    obtain ⟨hc, hM⟩ := hM
    refine zV_iast O zt_187 (by decide) hc dX8_readsName_74 ?_
    have hM := hM (hu h 187 (Int.toNat z27) v2) rfl
    generalize hu h 187 (Int.toNat z27) v2 = h28 at hM ⊢
    refine zV_iconst (z := 0) O ⟨by omega, by omega⟩ dX8_readsName_75 ?_
    refine zV_istore_n O dX8_readsName_76 rfl (Nat.le_of_ble_eq_true rfl) rfl ?_
    obtain ⟨ff, hM⟩ := hM
    exact sX8_readsName_b77 O ff _ _ _ _ hM
  · replace hM := hM.2 hc
    exact zV_vret O rfl ⟨rfl, hM⟩ (Nat.le_of_ble_eq_true rfl) (Nat.le_of_ble_eq_true rfl) dX8_readsName_63
def mX8_readsName (x1 : Int) (h : Hp) (Q : Hp → Prop) : Prop := (zr ((h 185 11) - (h 185 12)) ∧ (((h 185 13) = (1 : Int) → ((((h 185 11) - (h 185 12)) ≤ (8 : Int) → (mX8_toldHost h (fun z29 => ((z29 = ((-1) : Int) → (mX8_readsName_b56 Q x1 ((h 185 11) - (h 185 12)) h)) ∧ (¬ z29 = ((-1) : Int) → (mX8_wrongs 3 h (fun z30 h31 => (mX8_readsName_b56 Q x1 ((h 185 11) - (h 185 12)) h31)))))))) ∧ (¬ ((h 185 11) - (h 185 12)) ≤ (8 : Int) → (mX8_wrongs 2 h (fun z32 h33 => (mX8_readsName_b56 Q x1 ((h 185 11) - (h 185 12)) h33)))))) ∧ (¬ (h 185 13) = (1 : Int) → (mX8_wrongs 1 h (fun z34 h35 => (mX8_readsName_b56 Q x1 ((h 185 11) - (h 185 12)) h35))))))
set_option maxHeartbeats 4000000 in
set_option maxRecDepth 100000 in
theorem sX8_readsName {l0 : Launch} {x1 : Int} {h : Hp} {Q : Hp → Prop}  (hM : mX8_readsName x1 h Q) : zSp l0 yX8_readsName cX8_readsName 4 none 197 (4) 0 0 [aR 185, aI x1] h (qV Q) xN := by
  unfold mX8_readsName at hM
  refine zSp_intro zpn_RX8 (Nat.le_of_ble_eq_true rfl) (fun a O => ?_)
  show zV a (4, 0, 0, (qV Q), xN) 0 0 0 [some (aR 185), some (aI x1), none, none] [] h
  refine zV_aload_n O dX8_readsName_0 rfl rfl ?_
  refine zV_getI O zf_RX8_71 zt_185 rfl (by decide) dX8_readsName_1 ?_
  refine zV_aload_n O dX8_readsName_4 rfl rfl ?_
  refine zV_getI O zf_RX8_82 zt_185 rfl (by decide) dX8_readsName_5 ?_
  obtain ⟨hc, hM⟩ := hM
  refine zV_isub O dX8_readsName_8 hc ?_
  refine zV_istore_n O dX8_readsName_9 rfl (Nat.le_of_ble_eq_true rfl) rfl ?_
  refine zV_aload_n O dX8_readsName_10 rfl rfl ?_
  refine zV_getI O zf_RX8_89 zt_185 rfl (by decide) dX8_readsName_11 ?_
  refine zV_iconst (z := 1) O ⟨by omega, by omega⟩ dX8_readsName_14 ?_
  refine zV_icmp_eq (tgt := 27) O dX8_readsName_15 (by decide) (fun hc => ?_) (fun hc => ?_)
  · replace hM := hM.1 hc
    refine zV_iload_n O dX8_readsName_27 rfl rfl ?_
    refine zV_bipush (z := 8) O ⟨by omega, by omega⟩ rfl dX8_readsName_28 ?_
    refine zV_icmp_le (tgt := 42) O dX8_readsName_30 (by decide) (fun hc => ?_) (fun hc => ?_)
    · replace hM := hM.1 hc
      refine zV_aload_n O dX8_readsName_42 rfl rfl ?_
      refine zV_callV (as := []) (st := []) O zc_X8_toldHost (Or.inl zl_RX8_150) zi_1502 zi_110 zt_185 rfl rfl (by decide) (Nat.le_of_ble_eq_true rfl) rfl rfl (Nat.le_of_ble_eq_true rfl) (Nat.le_of_ble_eq_true rfl) (Nat.le_of_ble_eq_true rfl) (Nat.le_of_ble_eq_true rfl) (Nat.le_of_ble_eq_true rfl) (Nat.le_of_ble_eq_true rfl) dX8_readsName_43 (sX8_toldHost hM) (fun r h9 hq => ?_) (fun x h9 hq => hq.elim)
      obtain ⟨rfl, z29, rfl, hM⟩ := hq
      refine zV_iconst (z := -1) O ⟨by omega, by omega⟩ dX8_readsName_46 ?_
      refine zV_icmp_eq (tgt := 56) O dX8_readsName_47 (by decide) (fun hc => ?_) (fun hc => ?_)
      · replace hM := hM.1 hc
        exact sX8_readsName_b56 O hM
      · replace hM := hM.2 hc
        refine zV_aload_n O dX8_readsName_50 rfl rfl ?_
        refine zV_iconst (z := 3) O ⟨by omega, by omega⟩ dX8_readsName_51 ?_
        refine zV_callV (as := [aI 3]) (st := []) O zc_X8_wrongs (Or.inl zl_RX8_122) zi_1474 zi_104 zt_185 rfl rfl (by decide) (Nat.le_of_ble_eq_true rfl) rfl rfl (Nat.le_of_ble_eq_true rfl) (Nat.le_of_ble_eq_true rfl) (Nat.le_of_ble_eq_true rfl) (Nat.le_of_ble_eq_true rfl) (Nat.le_of_ble_eq_true rfl) (Nat.le_of_ble_eq_true rfl) dX8_readsName_52 (sX8_wrongs hM) (fun r h31 hq => ?_) (fun x h9 hq => hq.elim)
        obtain ⟨z30, rfl, hzz30, hM⟩ := hq
        refine zV_pop O rfl dX8_readsName_55 ?_
        exact sX8_readsName_b56 O hM
    · replace hM := hM.2 hc
      refine zV_aload_n O dX8_readsName_33 rfl rfl ?_
      refine zV_iconst (z := 2) O ⟨by omega, by omega⟩ dX8_readsName_34 ?_
      refine zV_callV (as := [aI 2]) (st := []) O zc_X8_wrongs (Or.inl zl_RX8_122) zi_1474 zi_104 zt_185 rfl rfl (by decide) (Nat.le_of_ble_eq_true rfl) rfl rfl (Nat.le_of_ble_eq_true rfl) (Nat.le_of_ble_eq_true rfl) (Nat.le_of_ble_eq_true rfl) (Nat.le_of_ble_eq_true rfl) (Nat.le_of_ble_eq_true rfl) (Nat.le_of_ble_eq_true rfl) dX8_readsName_35 (sX8_wrongs hM) (fun r h33 hq => ?_) (fun x h9 hq => hq.elim)
      obtain ⟨z32, rfl, hzz32, hM⟩ := hq
      refine zV_pop O rfl dX8_readsName_38 ?_
      refine zV_goto (tgt := 56) O dX8_readsName_39 (by decide) ?_
      exact sX8_readsName_b56 O hM
  · replace hM := hM.2 hc
    refine zV_aload_n O dX8_readsName_18 rfl rfl ?_
    refine zV_iconst (z := 1) O ⟨by omega, by omega⟩ dX8_readsName_19 ?_
    refine zV_callV (as := [aI 1]) (st := []) O zc_X8_wrongs (Or.inl zl_RX8_122) zi_1474 zi_104 zt_185 rfl rfl (by decide) (Nat.le_of_ble_eq_true rfl) rfl rfl (Nat.le_of_ble_eq_true rfl) (Nat.le_of_ble_eq_true rfl) (Nat.le_of_ble_eq_true rfl) (Nat.le_of_ble_eq_true rfl) (Nat.le_of_ble_eq_true rfl) (Nat.le_of_ble_eq_true rfl) dX8_readsName_20 (sX8_wrongs hM) (fun r h35 hq => ?_) (fun x h9 hq => hq.elim)
    obtain ⟨z34, rfl, hzz34, hM⟩ := hq
    refine zV_pop O rfl dX8_readsName_23 ?_
    refine zV_goto (tgt := 56) O dX8_readsName_24 (by decide) ?_
    exact sX8_readsName_b56 O hM
def mX8_starts (x1 : Int) (h : Hp) (Q : Hp → Prop) : Prop := (∀ h7 : Hp, h7 = hu h 185 10 x1 → (∀ h8 : Hp, h8 = hu h7 185 9 0 → (∀ h9 : Hp, h9 = hu h8 185 11 0 → (∀ h10 : Hp, h10 = hu h9 185 16 0 → (∀ h11 : Hp, h11 = hu h10 185 17 (-1) → (mX8_next h11 (fun h12 => (Q h12))))))))
set_option maxHeartbeats 4000000 in
set_option maxRecDepth 100000 in
theorem sX8_starts {l0 : Launch} {x1 : Int} {h : Hp} {Q : Hp → Prop}  (hM : mX8_starts x1 h Q) : zSp l0 yX8_starts cX8_starts 2 none 197 (4) 0 0 [aR 185, aI x1] h (qV Q) xN := by
  unfold mX8_starts at hM
  refine zSp_intro zpn_RX8 (Nat.le_of_ble_eq_true rfl) (fun a O => ?_)
  show zV a (4, 0, 0, (qV Q), xN) 0 0 0 [some (aR 185), some (aI x1)] [] h
  refine zV_aload_n O dX8_starts_0 rfl rfl ?_
  refine zV_iload_n O dX8_starts_1 rfl rfl ?_
  refine zV_putI O zf_RX8_64 zt_185 rfl (by decide) dX8_starts_2 ?_
  have hM := hM _ rfl
  generalize hu h 185 10 x1 = h7 at hM ⊢
  refine zV_aload_n O dX8_starts_5 rfl rfl ?_
  refine zV_iconst (z := 0) O ⟨by omega, by omega⟩ dX8_starts_6 ?_
  refine zV_putI O zf_RX8_57 zt_185 rfl (by decide) dX8_starts_7 ?_
  have hM := hM _ rfl
  generalize hu h7 185 9 0 = h8 at hM ⊢
  refine zV_aload_n O dX8_starts_10 rfl rfl ?_
  refine zV_iconst (z := 0) O ⟨by omega, by omega⟩ dX8_starts_11 ?_
  refine zV_putI O zf_RX8_71 zt_185 rfl (by decide) dX8_starts_12 ?_
  have hM := hM _ rfl
  generalize hu h8 185 11 0 = h9 at hM ⊢
  refine zV_aload_n O dX8_starts_15 rfl rfl ?_
  refine zV_iconst (z := 0) O ⟨by omega, by omega⟩ dX8_starts_16 ?_
  refine zV_putI O zf_RX8_105 zt_185 rfl (by decide) dX8_starts_17 ?_
  have hM := hM _ rfl
  generalize hu h9 185 16 0 = h10 at hM ⊢
  refine zV_aload_n O dX8_starts_20 rfl rfl ?_
  refine zV_iconst (z := -1) O ⟨by omega, by omega⟩ dX8_starts_21 ?_
  refine zV_putI O zf_RX8_32 zt_185 rfl (by decide) dX8_starts_22 ?_
  have hM := hM _ rfl
  generalize hu h10 185 17 (-1) = h11 at hM ⊢
  refine zV_aload_n O dX8_starts_25 rfl rfl ?_
  refine zV_callV (as := []) (st := []) O zc_X8_next (Or.inl zl_RX8_108) zi_1428 zi_95 zt_185 rfl rfl (by decide) (Nat.le_of_ble_eq_true rfl) rfl rfl (Nat.le_of_ble_eq_true rfl) (Nat.le_of_ble_eq_true rfl) (Nat.le_of_ble_eq_true rfl) (Nat.le_of_ble_eq_true rfl) (Nat.le_of_ble_eq_true rfl) (Nat.le_of_ble_eq_true rfl) dX8_starts_26 (sX8_next hM) (fun r h12 hq => ?_) (fun x h9 hq => hq.elim)
  obtain ⟨rfl, hM⟩ := hq
  exact zV_vret O rfl ⟨rfl, hM⟩ (Nat.le_of_ble_eq_true rfl) (Nat.le_of_ble_eq_true rfl) dX8_starts_29
def mX8_goesBack_b130 (Q : Hp → Prop) (K13 : Int → Int → Hp → Prop) (v1 : Int) (v2 : Int) (h : Hp) : Prop := (zr (v2 + 1) ∧ (K13 v1 (v2 + 1) h))
set_option maxHeartbeats 4000000 in
set_option maxRecDepth 100000 in
theorem sX8_goesBack_b130 {l0 : Launch} {a : ZC}  {Q : Hp → Prop} {K13 : Int → Int → Hp → Prop} (O : zOk l0 a cX8_goesBack RX8 5 none 197 [])  (hK13 : ∀ (v1 : Int) (v2 : Int) (h : Hp), K13 v1 v2 h → zV a (5, 0, 0, (qV Q), xN) 0 0 13 [some (aR 185), some (aI v1), some (aI v2), none, none] [] h) {v1 : Int} {v2 : Int} {h : Hp}  (hM : mX8_goesBack_b130 Q K13 v1 v2 h) : zV a (5, 0, 0, (qV Q), xN) 0 0 130 [some (aR 185), some (aI v1), some (aI v2), none, none] [] h := by
  unfold mX8_goesBack_b130 at hM
  obtain ⟨hc, hM⟩ := hM
  refine zV_iinc O dX8_goesBack_130 rfl (Nat.le_of_ble_eq_true rfl) rfl hc ?_
  refine zV_goto (tgt := 13) O dX8_goesBack_133 (by decide) ?_
  exact hK13 _ _ _ hM
def mX8_goesBack_b13 (Q : Hp → Prop) : Nat → Int → Int → Hp → Prop
  | 0 => fun _ _ _ => False
  | fu13 + 1 => fun v1 v2 h => (((0 : Int) ≤ 0 ∧ (0 : Int) < 1096) ∧ (((rd h 186 0) ≤ v2 → (zr (v1 - 1) ∧ (((0 : Int) ≤ 2 ∧ (2 : Int) < 1096) ∧ (∀ h50 : Hp, h50 = wr h 186 2 (v1 - 1) → (mX8_rewrites0 h50 (fun z51 h52 => (Q h52))))))) ∧ (¬ (rd h 186 0) ≤ v2 → (zr (14 + v1) ∧ (zr ((14 + v1) - 1) ∧ (mX8_of v2 ((14 + v1) - 1) h (fun z53 => ((¬ z53 = 0 → (mX8_of v2 1 h (fun z54 => (mX8_leadsTo v2 z54 z53 h (fun h55 => (mX8_cell v2 1 h55 (fun z56 => (((0 : Int) ≤ z56 ∧ z56 < 1096) ∧ (∀ h57 : Hp, h57 = wr h55 186 z56 z53 → (zr (14 + v1) ∧ (zr ((14 + v1) - 1) ∧ (mX8_cell v2 ((14 + v1) - 1) h57 (fun z58 => (((0 : Int) ≤ z58 ∧ z58 < 1096) ∧ (∀ h59 : Hp, h59 = wr h57 186 z58 0 → (mX8_of v2 4 h59 (fun z60 => ((¬ z60 = 0 → (mX8_goesBack_b130 Q (mX8_goesBack_b13 Q fu13) v1 v2 h59)) ∧ (z60 = 0 → (mX8_of v2 2 h59 (fun z61 => ((¬ z61 = (1 : Int) → (mX8_cell v2 3 h59 (fun z62 => (((0 : Int) ≤ z62 ∧ z62 < 1096) ∧ (∀ h63 : Hp, h63 = wr h59 186 z62 z54 → (mX8_cell v2 4 h63 (fun z64 => (((0 : Int) ≤ z64 ∧ z64 < 1096) ∧ (∀ h65 : Hp, h65 = wr h63 186 z64 v1 → (mX8_goesBack_b130 Q (mX8_goesBack_b13 Q fu13) v1 v2 h65)))))))))) ∧ (z61 = (1 : Int) → (mX8_goesBack_b130 Q (mX8_goesBack_b13 Q fu13) v1 v2 h59)))))))))))))))))))))))) ∧ (z53 = 0 → (mX8_goesBack_b130 Q (mX8_goesBack_b13 Q fu13) v1 v2 h))))))))))
set_option maxHeartbeats 4000000 in
set_option maxRecDepth 100000 in
theorem sX8_goesBack_b13 {l0 : Launch} {a : ZC}  {Q : Hp → Prop}  (O : zOk l0 a cX8_goesBack RX8 5 none 197 [])   : ∀ (ff : Nat) (v1 : Int) (v2 : Int) (h : Hp), mX8_goesBack_b13 Q ff v1 v2 h → zV a (5, 0, 0, (qV Q), xN) 0 0 13 [some (aR 185), some (aI v1), some (aI v2), none, none] [] h := by
  intro ff
  induction ff with
  | zero => intro v1 v2 h hM; exact hM.elim
  | succ ff ih =>
    have hK13 := ih
    intro v1 v2 h hM
    unfold mX8_goesBack_b13 at hM
    refine zV_iload_n O dX8_goesBack_13 rfl rfl ?_
    refine zV_aload_n O dX8_goesBack_14 rfl rfl ?_
    refine zV_getR O zf_RX8_13 zt_185 rfl (by decide) dX8_goesBack_15 ?_
    refine zV_iconst (z := 0) O ⟨by omega, by omega⟩ dX8_goesBack_18 ?_
    obtain ⟨hc, hM⟩ := hM
    refine zV_iald O zt_186 (by decide) hc dX8_goesBack_19 ?_
    refine zV_icmp_ge (tgt := 136) O dX8_goesBack_20 (by decide) (fun hc => ?_) (fun hc => ?_)
    · replace hM := hM.1 hc
      refine zV_aload_n O dX8_goesBack_136 rfl rfl ?_
      refine zV_getR O zf_RX8_13 zt_185 rfl (by decide) dX8_goesBack_137 ?_
      refine zV_iconst (z := 2) O ⟨by omega, by omega⟩ dX8_goesBack_140 ?_
      refine zV_iload_n O dX8_goesBack_141 rfl rfl ?_
      refine zV_iconst (z := 1) O ⟨by omega, by omega⟩ dX8_goesBack_142 ?_
      obtain ⟨hc, hM⟩ := hM
      refine zV_isub O dX8_goesBack_143 hc ?_
      obtain ⟨hc, hM⟩ := hM
      refine zV_iast O zt_186 (by decide) hc dX8_goesBack_144 ?_
      have hM := hM (hu h 186 (Int.toNat 2) (v1 - 1)) rfl
      generalize hu h 186 (Int.toNat 2) (v1 - 1) = h50 at hM ⊢
      refine zV_aload_n O dX8_goesBack_145 rfl rfl ?_
      refine zV_callV (as := []) (st := []) O zc_X8_rewrites0 (Or.inl zl_RX8_258) zi_1708 zi_143 zt_185 rfl rfl (by decide) (Nat.le_of_ble_eq_true rfl) rfl rfl (Nat.le_of_ble_eq_true rfl) (Nat.le_of_ble_eq_true rfl) (Nat.le_of_ble_eq_true rfl) (Nat.le_of_ble_eq_true rfl) (Nat.le_of_ble_eq_true rfl) (Nat.le_of_ble_eq_true rfl) dX8_goesBack_146 (sX8_rewrites0 hM) (fun r h52 hq => ?_) (fun x h9 hq => hq.elim)
      obtain ⟨z51, rfl, hM⟩ := hq
      refine zV_istore_n O dX8_goesBack_149 rfl (Nat.le_of_ble_eq_true rfl) rfl ?_
      exact zV_vret O rfl ⟨rfl, hM⟩ (Nat.le_of_ble_eq_true rfl) (Nat.le_of_ble_eq_true rfl) dX8_goesBack_150
    · replace hM := hM.2 hc
      refine zV_aload_n O dX8_goesBack_23 rfl rfl ?_
      refine zV_iload_n O dX8_goesBack_24 rfl rfl ?_
      refine zV_bipush (z := 14) O ⟨by omega, by omega⟩ rfl dX8_goesBack_25 ?_
      refine zV_iload_n O dX8_goesBack_27 rfl rfl ?_
      obtain ⟨hc, hM⟩ := hM
      refine zV_iadd O dX8_goesBack_28 hc ?_
      refine zV_iconst (z := 1) O ⟨by omega, by omega⟩ dX8_goesBack_29 ?_
      obtain ⟨hc, hM⟩ := hM
      refine zV_isub O dX8_goesBack_30 hc ?_
      refine zV_callV (as := [aI v2, aI ((14 + v1) - 1)]) (st := []) O zc_X8_of (Or.inl zl_RX8_218) zi_1549 zi_117 zt_185 rfl rfl (by decide) (Nat.le_of_ble_eq_true rfl) rfl rfl (Nat.le_of_ble_eq_true rfl) (Nat.le_of_ble_eq_true rfl) (Nat.le_of_ble_eq_true rfl) (Nat.le_of_ble_eq_true rfl) (Nat.le_of_ble_eq_true rfl) (Nat.le_of_ble_eq_true rfl) dX8_goesBack_31 (sX8_of hM) (fun r h9 hq => ?_) (fun x h9 hq => hq.elim)
      obtain ⟨rfl, z53, rfl, hM⟩ := hq
      refine zV_istore_n O dX8_goesBack_34 rfl (Nat.le_of_ble_eq_true rfl) rfl ?_
      refine zV_iload_n O dX8_goesBack_35 rfl rfl ?_
      refine zV_if_ne (tgt := 42) O dX8_goesBack_36 (by decide) (fun hc => ?_) (fun hc => ?_)
      · replace hM := hM.1 hc
        refine zV_aload_n O dX8_goesBack_42 rfl rfl ?_
        refine zV_iload_n O dX8_goesBack_43 rfl rfl ?_
        refine zV_iconst (z := 1) O ⟨by omega, by omega⟩ dX8_goesBack_44 ?_
        refine zV_callV (as := [aI v2, aI 1]) (st := []) O zc_X8_of (Or.inl zl_RX8_218) zi_1549 zi_117 zt_185 rfl rfl (by decide) (Nat.le_of_ble_eq_true rfl) rfl rfl (Nat.le_of_ble_eq_true rfl) (Nat.le_of_ble_eq_true rfl) (Nat.le_of_ble_eq_true rfl) (Nat.le_of_ble_eq_true rfl) (Nat.le_of_ble_eq_true rfl) (Nat.le_of_ble_eq_true rfl) dX8_goesBack_45 (sX8_of hM) (fun r h9 hq => ?_) (fun x h9 hq => hq.elim)
        obtain ⟨rfl, z54, rfl, hM⟩ := hq
        refine zV_istore O dX8_goesBack_48 (Nat.le_of_ble_eq_true rfl) rfl ?_
        refine zV_aload_n O dX8_goesBack_50 rfl rfl ?_
        refine zV_iload_n O dX8_goesBack_51 rfl rfl ?_
        refine zV_iload O dX8_goesBack_52 rfl ?_
        refine zV_iload_n O dX8_goesBack_54 rfl rfl ?_
        refine zV_callV (as := [aI v2, aI z54, aI z53]) (st := []) O zc_X8_leadsTo (Or.inl zl_RX8_254) zi_1704 zi_142 zt_185 rfl rfl (by decide) (Nat.le_of_ble_eq_true rfl) rfl rfl (Nat.le_of_ble_eq_true rfl) (Nat.le_of_ble_eq_true rfl) (Nat.le_of_ble_eq_true rfl) (Nat.le_of_ble_eq_true rfl) (Nat.le_of_ble_eq_true rfl) (Nat.le_of_ble_eq_true rfl) dX8_goesBack_55 (sX8_leadsTo hM) (fun r h55 hq => ?_) (fun x h9 hq => hq.elim)
        obtain ⟨rfl, hM⟩ := hq
        refine zV_aload_n O dX8_goesBack_58 rfl rfl ?_
        refine zV_getR O zf_RX8_13 zt_185 rfl (by decide) dX8_goesBack_59 ?_
        refine zV_iload_n O dX8_goesBack_62 rfl rfl ?_
        refine zV_iconst (z := 1) O ⟨by omega, by omega⟩ dX8_goesBack_63 ?_
        refine zV_callS (as := [aI v2, aI 1]) (st := [aR 186]) O zc_X8_cell (Or.inl zl_RX8_129) zi_1505 (Nat.le_of_ble_eq_true rfl) rfl rfl (Nat.le_of_ble_eq_true rfl) (Nat.le_of_ble_eq_true rfl) (Nat.le_of_ble_eq_true rfl) (Nat.le_of_ble_eq_true rfl) (Nat.le_of_ble_eq_true rfl) (Nat.le_of_ble_eq_true rfl) dX8_goesBack_64 (sX8_cell hM) (fun r h9 hq => ?_) (fun x h9 hq => hq.elim)
        obtain ⟨rfl, z56, rfl, hM⟩ := hq
        refine zV_iload_n O dX8_goesBack_67 rfl rfl ?_
        obtain ⟨hc, hM⟩ := hM
        refine zV_iast O zt_186 (by decide) hc dX8_goesBack_68 ?_
        have hM := hM (hu h55 186 (Int.toNat z56) z53) rfl
        generalize hu h55 186 (Int.toNat z56) z53 = h57 at hM ⊢
        refine zV_aload_n O dX8_goesBack_69 rfl rfl ?_
        refine zV_getR O zf_RX8_13 zt_185 rfl (by decide) dX8_goesBack_70 ?_
        refine zV_iload_n O dX8_goesBack_73 rfl rfl ?_
        refine zV_bipush (z := 14) O ⟨by omega, by omega⟩ rfl dX8_goesBack_74 ?_
        refine zV_iload_n O dX8_goesBack_76 rfl rfl ?_
        obtain ⟨hc, hM⟩ := hM
        refine zV_iadd O dX8_goesBack_77 hc ?_
        refine zV_iconst (z := 1) O ⟨by omega, by omega⟩ dX8_goesBack_78 ?_
        obtain ⟨hc, hM⟩ := hM
        refine zV_isub O dX8_goesBack_79 hc ?_
        refine zV_callS (as := [aI v2, aI ((14 + v1) - 1)]) (st := [aR 186]) O zc_X8_cell (Or.inl zl_RX8_129) zi_1505 (Nat.le_of_ble_eq_true rfl) rfl rfl (Nat.le_of_ble_eq_true rfl) (Nat.le_of_ble_eq_true rfl) (Nat.le_of_ble_eq_true rfl) (Nat.le_of_ble_eq_true rfl) (Nat.le_of_ble_eq_true rfl) (Nat.le_of_ble_eq_true rfl) dX8_goesBack_80 (sX8_cell hM) (fun r h9 hq => ?_) (fun x h9 hq => hq.elim)
        obtain ⟨rfl, z58, rfl, hM⟩ := hq
        refine zV_iconst (z := 0) O ⟨by omega, by omega⟩ dX8_goesBack_83 ?_
        obtain ⟨hc, hM⟩ := hM
        refine zV_iast O zt_186 (by decide) hc dX8_goesBack_84 ?_
        have hM := hM (hu h57 186 (Int.toNat z58) 0) rfl
        generalize hu h57 186 (Int.toNat z58) 0 = h59 at hM ⊢
        refine zV_aload_n O dX8_goesBack_85 rfl rfl ?_
        refine zV_iload_n O dX8_goesBack_86 rfl rfl ?_
        refine zV_iconst (z := 4) O ⟨by omega, by omega⟩ dX8_goesBack_87 ?_
        refine zV_callV (as := [aI v2, aI 4]) (st := []) O zc_X8_of (Or.inl zl_RX8_218) zi_1549 zi_117 zt_185 rfl rfl (by decide) (Nat.le_of_ble_eq_true rfl) rfl rfl (Nat.le_of_ble_eq_true rfl) (Nat.le_of_ble_eq_true rfl) (Nat.le_of_ble_eq_true rfl) (Nat.le_of_ble_eq_true rfl) (Nat.le_of_ble_eq_true rfl) (Nat.le_of_ble_eq_true rfl) dX8_goesBack_88 (sX8_of hM) (fun r h9 hq => ?_) (fun x h9 hq => hq.elim)
        obtain ⟨rfl, z60, rfl, hM⟩ := hq
        refine zV_if_ne (tgt := 130) O dX8_goesBack_91 (by decide) (fun hc => ?_) (fun hc => ?_)
        · replace hM := hM.1 hc
          refine zV_sub (ls2 := [some (aR 185), some (aI v1), some (aI v2), none, none]) ⟨rfl, rfl, rfl, trivial⟩ ?_
          exact sX8_goesBack_b130 O hK13 hM
        · replace hM := hM.2 hc
          refine zV_aload_n O dX8_goesBack_94 rfl rfl ?_
          refine zV_iload_n O dX8_goesBack_95 rfl rfl ?_
          refine zV_iconst (z := 2) O ⟨by omega, by omega⟩ dX8_goesBack_96 ?_
          refine zV_callV (as := [aI v2, aI 2]) (st := []) O zc_X8_of (Or.inl zl_RX8_218) zi_1549 zi_117 zt_185 rfl rfl (by decide) (Nat.le_of_ble_eq_true rfl) rfl rfl (Nat.le_of_ble_eq_true rfl) (Nat.le_of_ble_eq_true rfl) (Nat.le_of_ble_eq_true rfl) (Nat.le_of_ble_eq_true rfl) (Nat.le_of_ble_eq_true rfl) (Nat.le_of_ble_eq_true rfl) dX8_goesBack_97 (sX8_of hM) (fun r h9 hq => ?_) (fun x h9 hq => hq.elim)
          obtain ⟨rfl, z61, rfl, hM⟩ := hq
          refine zV_iconst (z := 1) O ⟨by omega, by omega⟩ dX8_goesBack_100 ?_
          refine zV_icmp_ne (tgt := 107) O dX8_goesBack_101 (by decide) (fun hc => ?_) (fun hc => ?_)
          · replace hM := hM.1 hc
            refine zV_aload_n O dX8_goesBack_107 rfl rfl ?_
            refine zV_getR O zf_RX8_13 zt_185 rfl (by decide) dX8_goesBack_108 ?_
            refine zV_iload_n O dX8_goesBack_111 rfl rfl ?_
            refine zV_iconst (z := 3) O ⟨by omega, by omega⟩ dX8_goesBack_112 ?_
            refine zV_callS (as := [aI v2, aI 3]) (st := [aR 186]) O zc_X8_cell (Or.inl zl_RX8_129) zi_1505 (Nat.le_of_ble_eq_true rfl) rfl rfl (Nat.le_of_ble_eq_true rfl) (Nat.le_of_ble_eq_true rfl) (Nat.le_of_ble_eq_true rfl) (Nat.le_of_ble_eq_true rfl) (Nat.le_of_ble_eq_true rfl) (Nat.le_of_ble_eq_true rfl) dX8_goesBack_113 (sX8_cell hM) (fun r h9 hq => ?_) (fun x h9 hq => hq.elim)
            obtain ⟨rfl, z62, rfl, hM⟩ := hq
            refine zV_iload O dX8_goesBack_116 rfl ?_
            obtain ⟨hc, hM⟩ := hM
            refine zV_iast O zt_186 (by decide) hc dX8_goesBack_118 ?_
            have hM := hM (hu h59 186 (Int.toNat z62) z54) rfl
            generalize hu h59 186 (Int.toNat z62) z54 = h63 at hM ⊢
            refine zV_aload_n O dX8_goesBack_119 rfl rfl ?_
            refine zV_getR O zf_RX8_13 zt_185 rfl (by decide) dX8_goesBack_120 ?_
            refine zV_iload_n O dX8_goesBack_123 rfl rfl ?_
            refine zV_iconst (z := 4) O ⟨by omega, by omega⟩ dX8_goesBack_124 ?_
            refine zV_callS (as := [aI v2, aI 4]) (st := [aR 186]) O zc_X8_cell (Or.inl zl_RX8_129) zi_1505 (Nat.le_of_ble_eq_true rfl) rfl rfl (Nat.le_of_ble_eq_true rfl) (Nat.le_of_ble_eq_true rfl) (Nat.le_of_ble_eq_true rfl) (Nat.le_of_ble_eq_true rfl) (Nat.le_of_ble_eq_true rfl) (Nat.le_of_ble_eq_true rfl) dX8_goesBack_125 (sX8_cell hM) (fun r h9 hq => ?_) (fun x h9 hq => hq.elim)
            obtain ⟨rfl, z64, rfl, hM⟩ := hq
            refine zV_iload_n O dX8_goesBack_128 rfl rfl ?_
            obtain ⟨hc, hM⟩ := hM
            refine zV_iast O zt_186 (by decide) hc dX8_goesBack_129 ?_
            have hM := hM (hu h63 186 (Int.toNat z64) v1) rfl
            generalize hu h63 186 (Int.toNat z64) v1 = h65 at hM ⊢
            refine zV_sub (ls2 := [some (aR 185), some (aI v1), some (aI v2), none, none]) ⟨rfl, rfl, rfl, trivial⟩ ?_
            exact sX8_goesBack_b130 O hK13 hM
          · replace hM := hM.2 hc
            refine zV_goto (tgt := 130) O dX8_goesBack_104 (by decide) ?_
            refine zV_sub (ls2 := [some (aR 185), some (aI v1), some (aI v2), none, none]) ⟨rfl, rfl, rfl, trivial⟩ ?_
            exact sX8_goesBack_b130 O hK13 hM
      · replace hM := hM.2 hc
        refine zV_goto (tgt := 130) O dX8_goesBack_39 (by decide) ?_
        refine zV_sub (ls2 := [some (aR 185), some (aI v1), some (aI v2), none, none]) ⟨rfl, rfl, rfl, trivial⟩ ?_
        exact sX8_goesBack_b130 O hK13 hM
def mX8_goesBack  (h : Hp) (Q : Hp → Prop) : Prop := (((0 : Int) ≤ 2 ∧ (2 : Int) < 1096) ∧ (mX8_laysLeads h (fun h66 => (∃ ff, mX8_goesBack_b13 Q ff (rd h 186 2) 0 h66))))
set_option maxHeartbeats 4000000 in
set_option maxRecDepth 100000 in
theorem sX8_goesBack {l0 : Launch}  {h : Hp} {Q : Hp → Prop}  (hM : mX8_goesBack  h Q) : zSp l0 yX8_goesBack cX8_goesBack 5 none 197 (5) 0 0 [aR 185] h (qV Q) xN := by
  unfold mX8_goesBack at hM
  refine zSp_intro zpn_RX8 (Nat.le_of_ble_eq_true rfl) (fun a O => ?_)
  show zV a (5, 0, 0, (qV Q), xN) 0 0 0 [some (aR 185), none, none, none, none] [] h
  refine zV_aload_n O dX8_goesBack_0 rfl rfl ?_
  refine zV_getR O zf_RX8_13 zt_185 rfl (by decide) dX8_goesBack_1 ?_
  refine zV_iconst (z := 2) O ⟨by omega, by omega⟩ dX8_goesBack_4 ?_
  obtain ⟨hc, hM⟩ := hM
  refine zV_iald O zt_186 (by decide) hc dX8_goesBack_5 ?_
  refine zV_istore_n O dX8_goesBack_6 rfl (Nat.le_of_ble_eq_true rfl) rfl ?_
  refine zV_aload_n O dX8_goesBack_7 rfl rfl ?_
  refine zV_callV (as := []) (st := []) O zc_X8_laysLeads (Or.inl zl_RX8_251) zi_1700 zi_141 zt_185 rfl rfl (by decide) (Nat.le_of_ble_eq_true rfl) rfl rfl (Nat.le_of_ble_eq_true rfl) (Nat.le_of_ble_eq_true rfl) (Nat.le_of_ble_eq_true rfl) (Nat.le_of_ble_eq_true rfl) (Nat.le_of_ble_eq_true rfl) (Nat.le_of_ble_eq_true rfl) dX8_goesBack_8 (sX8_laysLeads hM) (fun r h66 hq => ?_) (fun x h9 hq => hq.elim)
  obtain ⟨rfl, hM⟩ := hq
  refine zV_iconst (z := 0) O ⟨by omega, by omega⟩ dX8_goesBack_11 ?_
  refine zV_istore_n O dX8_goesBack_12 rfl (Nat.le_of_ble_eq_true rfl) rfl ?_
  obtain ⟨ff, hM⟩ := hM
  exact sX8_goesBack_b13 O ff _ _ _ hM
def mX8_isBound_b38 (h : Hp) (Q : Int → Prop) (K2 : Int → Prop) (v1 : Int) : Prop := (zr (v1 + 1) ∧ (K2 (v1 + 1)))
set_option maxHeartbeats 4000000 in
set_option maxRecDepth 100000 in
theorem sX8_isBound_b38 {l0 : Launch} {a : ZC}  {h : Hp} {Q : Int → Prop} {K2 : Int → Prop} (O : zOk l0 a cX8_isBound RX8 2 (some .boolean) 197 [])  (hK2 : ∀ (v1 : Int), K2 v1 → zV a (5, 0, 0, (qPZ h Q), xN) 0 0 2 [some (aR 185), some (aI v1)] [] h) {v1 : Int}   (hM : mX8_isBound_b38 h Q K2 v1) : zV a (5, 0, 0, (qPZ h Q), xN) 0 0 38 [some (aR 185), some (aI v1)] [] h := by
  unfold mX8_isBound_b38 at hM
  obtain ⟨hc, hM⟩ := hM
  refine zV_iinc O dX8_isBound_38 rfl (Nat.le_of_ble_eq_true rfl) rfl hc ?_
  refine zV_goto (tgt := 2) O dX8_isBound_41 (by decide) ?_
  exact hK2 _ hM
def mX8_isBound_b2 (h : Hp) (Q : Int → Prop) : Nat → Int → Prop
  | 0 => fun _ => False
  | fu2 + 1 => fun v1 => (((0 : Int) ≤ 0 ∧ (0 : Int) < 1096) ∧ (((rd h 186 0) ≤ v1 → (Q 0)) ∧ (¬ (rd h 186 0) ≤ v1 → (mX8_isMoving v1 h (fun z7 => ((z7 = 0 → (mX8_isBound_b38 h Q (mX8_isBound_b2 h Q fu2) v1)) ∧ (¬ z7 = 0 → (((0 : Int) ≤ 2 ∧ (2 : Int) < 1096) ∧ (zr ((rd h 186 2) + 1) ∧ (mX8_keptAt v1 ((rd h 186 2) + 1) h (fun z8 => ((z8 = 0 → (mX8_isBound_b38 h Q (mX8_isBound_b2 h Q fu2) v1)) ∧ (¬ z8 = 0 → (Q 1))))))))))))))
set_option maxHeartbeats 4000000 in
set_option maxRecDepth 100000 in
theorem sX8_isBound_b2 {l0 : Launch} {a : ZC}  {h : Hp} {Q : Int → Prop}  (O : zOk l0 a cX8_isBound RX8 2 (some .boolean) 197 [])   : ∀ (ff : Nat) (v1 : Int) , mX8_isBound_b2 h Q ff v1 → zV a (5, 0, 0, (qPZ h Q), xN) 0 0 2 [some (aR 185), some (aI v1)] [] h := by
  intro ff
  induction ff with
  | zero => intro v1 hM; exact hM.elim
  | succ ff ih =>
    have hK2 := ih
    intro v1 hM
    unfold mX8_isBound_b2 at hM
    refine zV_iload_n O dX8_isBound_2 rfl rfl ?_
    refine zV_aload_n O dX8_isBound_3 rfl rfl ?_
    refine zV_getR O zf_RX8_13 zt_185 rfl (by decide) dX8_isBound_4 ?_
    refine zV_iconst (z := 0) O ⟨by omega, by omega⟩ dX8_isBound_7 ?_
    obtain ⟨hc, hM⟩ := hM
    refine zV_iald O zt_186 (by decide) hc dX8_isBound_8 ?_
    refine zV_icmp_ge (tgt := 44) O dX8_isBound_9 (by decide) (fun hc => ?_) (fun hc => ?_)
    · replace hM := hM.1 hc
      refine zV_iconst (z := 0) O ⟨by omega, by omega⟩ dX8_isBound_44 ?_
      exact zV_zret O rfl (Or.inl rfl) ⟨rfl, _, rfl, (Or.inl rfl), hM⟩ (Nat.le_of_ble_eq_true rfl) (Nat.le_of_ble_eq_true rfl) dX8_isBound_45
    · replace hM := hM.2 hc
      refine zV_aload_n O dX8_isBound_12 rfl rfl ?_
      refine zV_iload_n O dX8_isBound_13 rfl rfl ?_
      refine zV_callV (as := [aI v1]) (st := []) O zc_X8_isMoving (Or.inl zl_RX8_245) zi_1692 zi_139 zt_185 rfl rfl (by decide) (Nat.le_of_ble_eq_true rfl) rfl rfl (Nat.le_of_ble_eq_true rfl) (Nat.le_of_ble_eq_true rfl) (Nat.le_of_ble_eq_true rfl) (Nat.le_of_ble_eq_true rfl) (Nat.le_of_ble_eq_true rfl) (Nat.le_of_ble_eq_true rfl) dX8_isBound_14 (sX8_isMoving hM) (fun r h9 hq => ?_) (fun x h9 hq => hq.elim)
      obtain ⟨rfl, z7, rfl, hzz7, hM⟩ := hq
      refine zV_if_eq (tgt := 38) O dX8_isBound_17 (by decide) (fun hc => ?_) (fun hc => ?_)
      · replace hM := hM.1 hc
        exact sX8_isBound_b38 O hK2 hM
      · replace hM := hM.2 hc
        refine zV_aload_n O dX8_isBound_20 rfl rfl ?_
        refine zV_iload_n O dX8_isBound_21 rfl rfl ?_
        refine zV_aload_n O dX8_isBound_22 rfl rfl ?_
        refine zV_getR O zf_RX8_13 zt_185 rfl (by decide) dX8_isBound_23 ?_
        refine zV_iconst (z := 2) O ⟨by omega, by omega⟩ dX8_isBound_26 ?_
        obtain ⟨hc, hM⟩ := hM
        refine zV_iald O zt_186 (by decide) hc dX8_isBound_27 ?_
        refine zV_iconst (z := 1) O ⟨by omega, by omega⟩ dX8_isBound_28 ?_
        obtain ⟨hc, hM⟩ := hM
        refine zV_iadd O dX8_isBound_29 hc ?_
        refine zV_callV (as := [aI v1, aI ((rd h 186 2) + 1)]) (st := []) O zc_X8_keptAt (Or.inl zl_RX8_224) zi_1573 zi_123 zt_185 rfl rfl (by decide) (Nat.le_of_ble_eq_true rfl) rfl rfl (Nat.le_of_ble_eq_true rfl) (Nat.le_of_ble_eq_true rfl) (Nat.le_of_ble_eq_true rfl) (Nat.le_of_ble_eq_true rfl) (Nat.le_of_ble_eq_true rfl) (Nat.le_of_ble_eq_true rfl) dX8_isBound_30 (sX8_keptAt hM) (fun r h9 hq => ?_) (fun x h9 hq => hq.elim)
        obtain ⟨rfl, z8, rfl, hM⟩ := hq
        refine zV_if_eq (tgt := 38) O dX8_isBound_33 (by decide) (fun hc => ?_) (fun hc => ?_)
        · replace hM := hM.1 hc
          exact sX8_isBound_b38 O hK2 hM
        · replace hM := hM.2 hc
          refine zV_iconst (z := 1) O ⟨by omega, by omega⟩ dX8_isBound_36 ?_
          exact zV_zret O rfl (Or.inr rfl) ⟨rfl, _, rfl, (Or.inr rfl), hM⟩ (Nat.le_of_ble_eq_true rfl) (Nat.le_of_ble_eq_true rfl) dX8_isBound_37
def mX8_isBound  (h : Hp) (Q : Int → Prop) : Prop := (∃ ff, mX8_isBound_b2 h Q ff 0)
set_option maxHeartbeats 4000000 in
set_option maxRecDepth 100000 in
theorem sX8_isBound {l0 : Launch}  {h : Hp} {Q : Int → Prop}  (hM : mX8_isBound  h Q) : zSp l0 yX8_isBound cX8_isBound 2 (some .boolean) 197 (5) 0 0 [aR 185] h (qPZ h Q) xN := by
  unfold mX8_isBound at hM
  refine zSp_intro zpn_RX8 (Nat.le_of_ble_eq_true rfl) (fun a O => ?_)
  show zV a (5, 0, 0, (qPZ h Q), xN) 0 0 0 [some (aR 185), none] [] h
  refine zV_iconst (z := 0) O ⟨by omega, by omega⟩ dX8_isBound_0 ?_
  refine zV_istore_n O dX8_isBound_1 rfl (Nat.le_of_ble_eq_true rfl) rfl ?_
  obtain ⟨ff, hM⟩ := hM
  exact sX8_isBound_b2 O ff _ hM
def mX8_kept (x1 : Int) (h : Hp) (Q : Int → Prop) : Prop := (((0 : Int) ≤ 2 ∧ (2 : Int) < 1096) ∧ (mX8_keptAt x1 (rd h 186 2) h (fun z2 => (Q z2))))
set_option maxHeartbeats 4000000 in
set_option maxRecDepth 100000 in
theorem sX8_kept {l0 : Launch} {x1 : Int} {h : Hp} {Q : Int → Prop}  (hM : mX8_kept x1 h Q) : zSp l0 yX8_kept cX8_kept 2 (some .int) 197 (5) 0 0 [aR 185, aI x1] h (qPI h Q) xN := by
  unfold mX8_kept at hM
  refine zSp_intro zpn_RX8 (Nat.le_of_ble_eq_true rfl) (fun a O => ?_)
  show zV a (5, 0, 0, (qPI h Q), xN) 0 0 0 [some (aR 185), some (aI x1)] [] h
  refine zV_aload_n O dX8_kept_0 rfl rfl ?_
  refine zV_iload_n O dX8_kept_1 rfl rfl ?_
  refine zV_aload_n O dX8_kept_2 rfl rfl ?_
  refine zV_getR O zf_RX8_13 zt_185 rfl (by decide) dX8_kept_3 ?_
  refine zV_iconst (z := 2) O ⟨by omega, by omega⟩ dX8_kept_6 ?_
  obtain ⟨hc, hM⟩ := hM
  refine zV_iald O zt_186 (by decide) hc dX8_kept_7 ?_
  refine zV_callV (as := [aI x1, aI (rd h 186 2)]) (st := []) O zc_X8_keptAt (Or.inl zl_RX8_224) zi_1573 zi_123 zt_185 rfl rfl (by decide) (Nat.le_of_ble_eq_true rfl) rfl rfl (Nat.le_of_ble_eq_true rfl) (Nat.le_of_ble_eq_true rfl) (Nat.le_of_ble_eq_true rfl) (Nat.le_of_ble_eq_true rfl) (Nat.le_of_ble_eq_true rfl) (Nat.le_of_ble_eq_true rfl) dX8_kept_8 (sX8_keptAt hM) (fun r h9 hq => ?_) (fun x h9 hq => hq.elim)
  obtain ⟨rfl, z2, rfl, hM⟩ := hq
  exact zV_iret O rfl ⟨rfl, _, rfl, hM⟩ (Nat.le_of_ble_eq_true rfl) (Nat.le_of_ble_eq_true rfl) dX8_kept_11
def mX8_moves_b129 (Q : Hp → Prop) (K20 : Int → Int → Hp → Prop) (v1 : Int) (v2 : Int) (h : Hp) : Prop := (zr (v2 + 1) ∧ (K20 v1 (v2 + 1) h))
set_option maxHeartbeats 4000000 in
set_option maxRecDepth 100000 in
theorem sX8_moves_b129 {l0 : Launch} {a : ZC}  {Q : Hp → Prop} {K20 : Int → Int → Hp → Prop} (O : zOk l0 a cX8_moves RX8 3 none 197 [])  (hK20 : ∀ (v1 : Int) (v2 : Int) (h : Hp), K20 v1 v2 h → zV a (5, 0, 0, (qV Q), xN) 0 0 20 [some (aR 185), some (aI v1), some (aI v2)] [] h) {v1 : Int} {v2 : Int} {h : Hp}  (hM : mX8_moves_b129 Q K20 v1 v2 h) : zV a (5, 0, 0, (qV Q), xN) 0 0 129 [some (aR 185), some (aI v1), some (aI v2)] [] h := by
  unfold mX8_moves_b129 at hM
  obtain ⟨hc, hM⟩ := hM
  refine zV_iinc O dX8_moves_129 rfl (Nat.le_of_ble_eq_true rfl) rfl hc ?_
  refine zV_goto (tgt := 20) O dX8_moves_132 (by decide) ?_
  exact hK20 _ _ _ hM
def mX8_moves_b20 (Q : Hp → Prop) : Nat → Int → Int → Hp → Prop
  | 0 => fun _ _ _ => False
  | fu20 + 1 => fun v1 v2 h => (((0 : Int) ≤ 0 ∧ (0 : Int) < 1096) ∧ (((rd h 186 0) ≤ v2 → (((0 : Int) ≤ 2 ∧ (2 : Int) < 1096) ∧ (∀ h60 : Hp, h60 = wr h 186 2 v1 → (mX8_rewrites0 h60 (fun z61 h62 => (∀ h63 : Hp, h63 = hu h62 185 20 z61 → (Q h63))))))) ∧ (¬ (rd h 186 0) ≤ v2 → (mX8_of v2 4 h (fun z64 => ((z64 = v1 → (mX8_of v2 1 h (fun z65 => (mX8_of v2 3 h (fun z66 => (mX8_leadsTo v2 z65 z66 h (fun h67 => (zr (14 + v1) ∧ (zr ((14 + v1) - 1) ∧ (mX8_cell v2 ((14 + v1) - 1) h67 (fun z68 => (mX8_of v2 1 h67 (fun z69 => (((0 : Int) ≤ z68 ∧ z68 < 1096) ∧ (∀ h70 : Hp, h70 = wr h67 186 z68 z69 → (mX8_cell v2 1 h70 (fun z71 => (mX8_of v2 3 h70 (fun z72 => (((0 : Int) ≤ z71 ∧ z71 < 1096) ∧ (∀ h73 : Hp, h73 = wr h70 186 z71 z72 → (mX8_cell v2 3 h73 (fun z74 => (((0 : Int) ≤ z74 ∧ z74 < 1096) ∧ (∀ h75 : Hp, h75 = wr h73 186 z74 0 → (mX8_cell v2 4 h75 (fun z76 => (((0 : Int) ≤ z76 ∧ z76 < 1096) ∧ (∀ h77 : Hp, h77 = wr h75 186 z76 0 → (zr ((h77 185 19) + 1) ∧ (∀ h78 : Hp, h78 = hu h77 185 19 ((h77 185 19) + 1) → (mX8_moves_b129 Q (mX8_moves_b20 Q fu20) v1 v2 h78)))))))))))))))))))))))))))))))) ∧ (¬ z64 = v1 → (mX8_moves_b129 Q (mX8_moves_b20 Q fu20) v1 v2 h))))))))
set_option maxHeartbeats 4000000 in
set_option maxRecDepth 100000 in
theorem sX8_moves_b20 {l0 : Launch} {a : ZC}  {Q : Hp → Prop}  (O : zOk l0 a cX8_moves RX8 3 none 197 [])   : ∀ (ff : Nat) (v1 : Int) (v2 : Int) (h : Hp), mX8_moves_b20 Q ff v1 v2 h → zV a (5, 0, 0, (qV Q), xN) 0 0 20 [some (aR 185), some (aI v1), some (aI v2)] [] h := by
  intro ff
  induction ff with
  | zero => intro v1 v2 h hM; exact hM.elim
  | succ ff ih =>
    have hK20 := ih
    intro v1 v2 h hM
    unfold mX8_moves_b20 at hM
    refine zV_iload_n O dX8_moves_20 rfl rfl ?_
    refine zV_aload_n O dX8_moves_21 rfl rfl ?_
    refine zV_getR O zf_RX8_13 zt_185 rfl (by decide) dX8_moves_22 ?_
    refine zV_iconst (z := 0) O ⟨by omega, by omega⟩ dX8_moves_25 ?_
    obtain ⟨hc, hM⟩ := hM
    refine zV_iald O zt_186 (by decide) hc dX8_moves_26 ?_
    refine zV_icmp_ge (tgt := 135) O dX8_moves_27 (by decide) (fun hc => ?_) (fun hc => ?_)
    · replace hM := hM.1 hc
      refine zV_aload_n O dX8_moves_135 rfl rfl ?_
      refine zV_getR O zf_RX8_13 zt_185 rfl (by decide) dX8_moves_136 ?_
      refine zV_iconst (z := 2) O ⟨by omega, by omega⟩ dX8_moves_139 ?_
      refine zV_iload_n O dX8_moves_140 rfl rfl ?_
      obtain ⟨hc, hM⟩ := hM
      refine zV_iast O zt_186 (by decide) hc dX8_moves_141 ?_
      have hM := hM (hu h 186 (Int.toNat 2) v1) rfl
      generalize hu h 186 (Int.toNat 2) v1 = h60 at hM ⊢
      refine zV_aload_n O dX8_moves_142 rfl rfl ?_
      refine zV_aload_n O dX8_moves_143 rfl rfl ?_
      refine zV_callV (as := []) (st := [aR 185]) O zc_X8_rewrites0 (Or.inl zl_RX8_258) zi_1708 zi_143 zt_185 rfl rfl (by decide) (Nat.le_of_ble_eq_true rfl) rfl rfl (Nat.le_of_ble_eq_true rfl) (Nat.le_of_ble_eq_true rfl) (Nat.le_of_ble_eq_true rfl) (Nat.le_of_ble_eq_true rfl) (Nat.le_of_ble_eq_true rfl) (Nat.le_of_ble_eq_true rfl) dX8_moves_144 (sX8_rewrites0 hM) (fun r h62 hq => ?_) (fun x h9 hq => hq.elim)
      obtain ⟨z61, rfl, hM⟩ := hq
      refine zV_putI O zf_RX8_261 zt_185 rfl (by decide) dX8_moves_147 ?_
      have hM := hM _ rfl
      generalize hu h62 185 20 z61 = h63 at hM ⊢
      exact zV_vret O rfl ⟨rfl, hM⟩ (Nat.le_of_ble_eq_true rfl) (Nat.le_of_ble_eq_true rfl) dX8_moves_150
    · replace hM := hM.2 hc
      refine zV_aload_n O dX8_moves_30 rfl rfl ?_
      refine zV_iload_n O dX8_moves_31 rfl rfl ?_
      refine zV_iconst (z := 4) O ⟨by omega, by omega⟩ dX8_moves_32 ?_
      refine zV_callV (as := [aI v2, aI 4]) (st := []) O zc_X8_of (Or.inl zl_RX8_218) zi_1549 zi_117 zt_185 rfl rfl (by decide) (Nat.le_of_ble_eq_true rfl) rfl rfl (Nat.le_of_ble_eq_true rfl) (Nat.le_of_ble_eq_true rfl) (Nat.le_of_ble_eq_true rfl) (Nat.le_of_ble_eq_true rfl) (Nat.le_of_ble_eq_true rfl) (Nat.le_of_ble_eq_true rfl) dX8_moves_33 (sX8_of hM) (fun r h9 hq => ?_) (fun x h9 hq => hq.elim)
      obtain ⟨rfl, z64, rfl, hM⟩ := hq
      refine zV_iload_n O dX8_moves_36 rfl rfl ?_
      refine zV_icmp_eq (tgt := 43) O dX8_moves_37 (by decide) (fun hc => ?_) (fun hc => ?_)
      · replace hM := hM.1 hc
        refine zV_aload_n O dX8_moves_43 rfl rfl ?_
        refine zV_iload_n O dX8_moves_44 rfl rfl ?_
        refine zV_aload_n O dX8_moves_45 rfl rfl ?_
        refine zV_iload_n O dX8_moves_46 rfl rfl ?_
        refine zV_iconst (z := 1) O ⟨by omega, by omega⟩ dX8_moves_47 ?_
        refine zV_callV (as := [aI v2, aI 1]) (st := [aI v2, aR 185]) O zc_X8_of (Or.inl zl_RX8_218) zi_1549 zi_117 zt_185 rfl rfl (by decide) (Nat.le_of_ble_eq_true rfl) rfl rfl (Nat.le_of_ble_eq_true rfl) (Nat.le_of_ble_eq_true rfl) (Nat.le_of_ble_eq_true rfl) (Nat.le_of_ble_eq_true rfl) (Nat.le_of_ble_eq_true rfl) (Nat.le_of_ble_eq_true rfl) dX8_moves_48 (sX8_of hM) (fun r h9 hq => ?_) (fun x h9 hq => hq.elim)
        obtain ⟨rfl, z65, rfl, hM⟩ := hq
        refine zV_aload_n O dX8_moves_51 rfl rfl ?_
        refine zV_iload_n O dX8_moves_52 rfl rfl ?_
        refine zV_iconst (z := 3) O ⟨by omega, by omega⟩ dX8_moves_53 ?_
        refine zV_callV (as := [aI v2, aI 3]) (st := [aI z65, aI v2, aR 185]) O zc_X8_of (Or.inl zl_RX8_218) zi_1549 zi_117 zt_185 rfl rfl (by decide) (Nat.le_of_ble_eq_true rfl) rfl rfl (Nat.le_of_ble_eq_true rfl) (Nat.le_of_ble_eq_true rfl) (Nat.le_of_ble_eq_true rfl) (Nat.le_of_ble_eq_true rfl) (Nat.le_of_ble_eq_true rfl) (Nat.le_of_ble_eq_true rfl) dX8_moves_54 (sX8_of hM) (fun r h9 hq => ?_) (fun x h9 hq => hq.elim)
        obtain ⟨rfl, z66, rfl, hM⟩ := hq
        refine zV_callV (as := [aI v2, aI z65, aI z66]) (st := []) O zc_X8_leadsTo (Or.inl zl_RX8_254) zi_1704 zi_142 zt_185 rfl rfl (by decide) (Nat.le_of_ble_eq_true rfl) rfl rfl (Nat.le_of_ble_eq_true rfl) (Nat.le_of_ble_eq_true rfl) (Nat.le_of_ble_eq_true rfl) (Nat.le_of_ble_eq_true rfl) (Nat.le_of_ble_eq_true rfl) (Nat.le_of_ble_eq_true rfl) dX8_moves_57 (sX8_leadsTo hM) (fun r h67 hq => ?_) (fun x h9 hq => hq.elim)
        obtain ⟨rfl, hM⟩ := hq
        refine zV_aload_n O dX8_moves_60 rfl rfl ?_
        refine zV_getR O zf_RX8_13 zt_185 rfl (by decide) dX8_moves_61 ?_
        refine zV_iload_n O dX8_moves_64 rfl rfl ?_
        refine zV_bipush (z := 14) O ⟨by omega, by omega⟩ rfl dX8_moves_65 ?_
        refine zV_iload_n O dX8_moves_67 rfl rfl ?_
        obtain ⟨hc, hM⟩ := hM
        refine zV_iadd O dX8_moves_68 hc ?_
        refine zV_iconst (z := 1) O ⟨by omega, by omega⟩ dX8_moves_69 ?_
        obtain ⟨hc, hM⟩ := hM
        refine zV_isub O dX8_moves_70 hc ?_
        refine zV_callS (as := [aI v2, aI ((14 + v1) - 1)]) (st := [aR 186]) O zc_X8_cell (Or.inl zl_RX8_129) zi_1505 (Nat.le_of_ble_eq_true rfl) rfl rfl (Nat.le_of_ble_eq_true rfl) (Nat.le_of_ble_eq_true rfl) (Nat.le_of_ble_eq_true rfl) (Nat.le_of_ble_eq_true rfl) (Nat.le_of_ble_eq_true rfl) (Nat.le_of_ble_eq_true rfl) dX8_moves_71 (sX8_cell hM) (fun r h9 hq => ?_) (fun x h9 hq => hq.elim)
        obtain ⟨rfl, z68, rfl, hM⟩ := hq
        refine zV_aload_n O dX8_moves_74 rfl rfl ?_
        refine zV_iload_n O dX8_moves_75 rfl rfl ?_
        refine zV_iconst (z := 1) O ⟨by omega, by omega⟩ dX8_moves_76 ?_
        refine zV_callV (as := [aI v2, aI 1]) (st := [aI z68, aR 186]) O zc_X8_of (Or.inl zl_RX8_218) zi_1549 zi_117 zt_185 rfl rfl (by decide) (Nat.le_of_ble_eq_true rfl) rfl rfl (Nat.le_of_ble_eq_true rfl) (Nat.le_of_ble_eq_true rfl) (Nat.le_of_ble_eq_true rfl) (Nat.le_of_ble_eq_true rfl) (Nat.le_of_ble_eq_true rfl) (Nat.le_of_ble_eq_true rfl) dX8_moves_77 (sX8_of hM) (fun r h9 hq => ?_) (fun x h9 hq => hq.elim)
        obtain ⟨rfl, z69, rfl, hM⟩ := hq
        obtain ⟨hc, hM⟩ := hM
        refine zV_iast O zt_186 (by decide) hc dX8_moves_80 ?_
        have hM := hM (hu h67 186 (Int.toNat z68) z69) rfl
        generalize hu h67 186 (Int.toNat z68) z69 = h70 at hM ⊢
        refine zV_aload_n O dX8_moves_81 rfl rfl ?_
        refine zV_getR O zf_RX8_13 zt_185 rfl (by decide) dX8_moves_82 ?_
        refine zV_iload_n O dX8_moves_85 rfl rfl ?_
        refine zV_iconst (z := 1) O ⟨by omega, by omega⟩ dX8_moves_86 ?_
        refine zV_callS (as := [aI v2, aI 1]) (st := [aR 186]) O zc_X8_cell (Or.inl zl_RX8_129) zi_1505 (Nat.le_of_ble_eq_true rfl) rfl rfl (Nat.le_of_ble_eq_true rfl) (Nat.le_of_ble_eq_true rfl) (Nat.le_of_ble_eq_true rfl) (Nat.le_of_ble_eq_true rfl) (Nat.le_of_ble_eq_true rfl) (Nat.le_of_ble_eq_true rfl) dX8_moves_87 (sX8_cell hM) (fun r h9 hq => ?_) (fun x h9 hq => hq.elim)
        obtain ⟨rfl, z71, rfl, hM⟩ := hq
        refine zV_aload_n O dX8_moves_90 rfl rfl ?_
        refine zV_iload_n O dX8_moves_91 rfl rfl ?_
        refine zV_iconst (z := 3) O ⟨by omega, by omega⟩ dX8_moves_92 ?_
        refine zV_callV (as := [aI v2, aI 3]) (st := [aI z71, aR 186]) O zc_X8_of (Or.inl zl_RX8_218) zi_1549 zi_117 zt_185 rfl rfl (by decide) (Nat.le_of_ble_eq_true rfl) rfl rfl (Nat.le_of_ble_eq_true rfl) (Nat.le_of_ble_eq_true rfl) (Nat.le_of_ble_eq_true rfl) (Nat.le_of_ble_eq_true rfl) (Nat.le_of_ble_eq_true rfl) (Nat.le_of_ble_eq_true rfl) dX8_moves_93 (sX8_of hM) (fun r h9 hq => ?_) (fun x h9 hq => hq.elim)
        obtain ⟨rfl, z72, rfl, hM⟩ := hq
        obtain ⟨hc, hM⟩ := hM
        refine zV_iast O zt_186 (by decide) hc dX8_moves_96 ?_
        have hM := hM (hu h70 186 (Int.toNat z71) z72) rfl
        generalize hu h70 186 (Int.toNat z71) z72 = h73 at hM ⊢
        refine zV_aload_n O dX8_moves_97 rfl rfl ?_
        refine zV_getR O zf_RX8_13 zt_185 rfl (by decide) dX8_moves_98 ?_
        refine zV_iload_n O dX8_moves_101 rfl rfl ?_
        refine zV_iconst (z := 3) O ⟨by omega, by omega⟩ dX8_moves_102 ?_
        refine zV_callS (as := [aI v2, aI 3]) (st := [aR 186]) O zc_X8_cell (Or.inl zl_RX8_129) zi_1505 (Nat.le_of_ble_eq_true rfl) rfl rfl (Nat.le_of_ble_eq_true rfl) (Nat.le_of_ble_eq_true rfl) (Nat.le_of_ble_eq_true rfl) (Nat.le_of_ble_eq_true rfl) (Nat.le_of_ble_eq_true rfl) (Nat.le_of_ble_eq_true rfl) dX8_moves_103 (sX8_cell hM) (fun r h9 hq => ?_) (fun x h9 hq => hq.elim)
        obtain ⟨rfl, z74, rfl, hM⟩ := hq
        refine zV_iconst (z := 0) O ⟨by omega, by omega⟩ dX8_moves_106 ?_
        obtain ⟨hc, hM⟩ := hM
        refine zV_iast O zt_186 (by decide) hc dX8_moves_107 ?_
        have hM := hM (hu h73 186 (Int.toNat z74) 0) rfl
        generalize hu h73 186 (Int.toNat z74) 0 = h75 at hM ⊢
        refine zV_aload_n O dX8_moves_108 rfl rfl ?_
        refine zV_getR O zf_RX8_13 zt_185 rfl (by decide) dX8_moves_109 ?_
        refine zV_iload_n O dX8_moves_112 rfl rfl ?_
        refine zV_iconst (z := 4) O ⟨by omega, by omega⟩ dX8_moves_113 ?_
        refine zV_callS (as := [aI v2, aI 4]) (st := [aR 186]) O zc_X8_cell (Or.inl zl_RX8_129) zi_1505 (Nat.le_of_ble_eq_true rfl) rfl rfl (Nat.le_of_ble_eq_true rfl) (Nat.le_of_ble_eq_true rfl) (Nat.le_of_ble_eq_true rfl) (Nat.le_of_ble_eq_true rfl) (Nat.le_of_ble_eq_true rfl) (Nat.le_of_ble_eq_true rfl) dX8_moves_114 (sX8_cell hM) (fun r h9 hq => ?_) (fun x h9 hq => hq.elim)
        obtain ⟨rfl, z76, rfl, hM⟩ := hq
        refine zV_iconst (z := 0) O ⟨by omega, by omega⟩ dX8_moves_117 ?_
        obtain ⟨hc, hM⟩ := hM
        refine zV_iast O zt_186 (by decide) hc dX8_moves_118 ?_
        have hM := hM (hu h75 186 (Int.toNat z76) 0) rfl
        generalize hu h75 186 (Int.toNat z76) 0 = h77 at hM ⊢
        refine zV_aload_n O dX8_moves_119 rfl rfl ?_
        refine zV_dup O rfl dX8_moves_120 ?_
        refine zV_getI O zf_RX8_248 zt_185 rfl (by decide) dX8_moves_121 ?_
        refine zV_iconst (z := 1) O ⟨by omega, by omega⟩ dX8_moves_124 ?_
        obtain ⟨hc, hM⟩ := hM
        refine zV_iadd O dX8_moves_125 hc ?_
        refine zV_putI O zf_RX8_248 zt_185 rfl (by decide) dX8_moves_126 ?_
        have hM := hM _ rfl
        generalize hu h77 185 19 ((h77 185 19) + 1) = h78 at hM ⊢
        exact sX8_moves_b129 O hK20 hM
      · replace hM := hM.2 hc
        refine zV_goto (tgt := 129) O dX8_moves_40 (by decide) ?_
        exact sX8_moves_b129 O hK20 hM
def mX8_moves  (h : Hp) (Q : Hp → Prop) : Prop := (((0 : Int) ≤ 2 ∧ (2 : Int) < 1096) ∧ (zr ((rd h 186 2) + 1) ∧ (∀ h79 : Hp, h79 = hu h 185 19 0 → (mX8_laysLeads h79 (fun h80 => (∃ ff, mX8_moves_b20 Q ff ((rd h 186 2) + 1) 0 h80))))))
set_option maxHeartbeats 4000000 in
set_option maxRecDepth 100000 in
theorem sX8_moves {l0 : Launch}  {h : Hp} {Q : Hp → Prop}  (hM : mX8_moves  h Q) : zSp l0 yX8_moves cX8_moves 3 none 197 (5) 0 0 [aR 185] h (qV Q) xN := by
  unfold mX8_moves at hM
  refine zSp_intro zpn_RX8 (Nat.le_of_ble_eq_true rfl) (fun a O => ?_)
  show zV a (5, 0, 0, (qV Q), xN) 0 0 0 [some (aR 185), none, none] [] h
  refine zV_aload_n O dX8_moves_0 rfl rfl ?_
  refine zV_getR O zf_RX8_13 zt_185 rfl (by decide) dX8_moves_1 ?_
  refine zV_iconst (z := 2) O ⟨by omega, by omega⟩ dX8_moves_4 ?_
  obtain ⟨hc, hM⟩ := hM
  refine zV_iald O zt_186 (by decide) hc dX8_moves_5 ?_
  refine zV_iconst (z := 1) O ⟨by omega, by omega⟩ dX8_moves_6 ?_
  obtain ⟨hc, hM⟩ := hM
  refine zV_iadd O dX8_moves_7 hc ?_
  refine zV_istore_n O dX8_moves_8 rfl (Nat.le_of_ble_eq_true rfl) rfl ?_
  refine zV_aload_n O dX8_moves_9 rfl rfl ?_
  refine zV_iconst (z := 0) O ⟨by omega, by omega⟩ dX8_moves_10 ?_
  refine zV_putI O zf_RX8_248 zt_185 rfl (by decide) dX8_moves_11 ?_
  have hM := hM _ rfl
  generalize hu h 185 19 0 = h79 at hM ⊢
  refine zV_aload_n O dX8_moves_14 rfl rfl ?_
  refine zV_callV (as := []) (st := []) O zc_X8_laysLeads (Or.inl zl_RX8_251) zi_1700 zi_141 zt_185 rfl rfl (by decide) (Nat.le_of_ble_eq_true rfl) rfl rfl (Nat.le_of_ble_eq_true rfl) (Nat.le_of_ble_eq_true rfl) (Nat.le_of_ble_eq_true rfl) (Nat.le_of_ble_eq_true rfl) (Nat.le_of_ble_eq_true rfl) (Nat.le_of_ble_eq_true rfl) dX8_moves_15 (sX8_laysLeads hM) (fun r h80 hq => ?_) (fun x h9 hq => hq.elim)
  obtain ⟨rfl, hM⟩ := hq
  refine zV_iconst (z := 0) O ⟨by omega, by omega⟩ dX8_moves_18 ?_
  refine zV_istore_n O dX8_moves_19 rfl (Nat.le_of_ble_eq_true rfl) rfl ?_
  obtain ⟨ff, hM⟩ := hM
  exact sX8_moves_b20 O ff _ _ _ hM
def mX8_readsHead_b106 (Q : Hp → Prop) (h : Hp) : Prop := (mX8_must 59 h (fun h38 => (Q h38)))
set_option maxHeartbeats 4000000 in
set_option maxRecDepth 100000 in
theorem sX8_readsHead_b106 {l0 : Launch} {a : ZC}  {Q : Hp → Prop}  (O : zOk l0 a cX8_readsHead RX8 1 none 197 [])    {h : Hp}  (hM : mX8_readsHead_b106 Q h) : zV a (5, 0, 0, (qV Q), xN) 0 0 106 [some (aR 185)] [] h := by
  unfold mX8_readsHead_b106 at hM
  refine zV_aload_n O dX8_readsHead_106 rfl rfl ?_
  refine zV_bipush (z := 59) O ⟨by omega, by omega⟩ rfl dX8_readsHead_107 ?_
  refine zV_callV (as := [aI 59]) (st := []) O zc_X8_must (Or.inl zl_RX8_147) zi_1485 zi_106 zt_185 rfl rfl (by decide) (Nat.le_of_ble_eq_true rfl) rfl rfl (Nat.le_of_ble_eq_true rfl) (Nat.le_of_ble_eq_true rfl) (Nat.le_of_ble_eq_true rfl) (Nat.le_of_ble_eq_true rfl) (Nat.le_of_ble_eq_true rfl) (Nat.le_of_ble_eq_true rfl) dX8_readsHead_109 (sX8_must hM) (fun r h38 hq => ?_) (fun x h9 hq => hq.elim)
  obtain ⟨rfl, hM⟩ := hq
  exact zV_vret O rfl ⟨rfl, hM⟩ (Nat.le_of_ble_eq_true rfl) (Nat.le_of_ble_eq_true rfl) dX8_readsHead_112
def mX8_readsHead_b62 (Q : Hp → Prop) (h : Hp) : Prop := (mX8_passes 326280 h (fun z39 h40 => ((z39 = 0 → (mX8_readsHead_b106 Q h40)) ∧ (¬ z39 = 0 → (mX8_number 1 250 h40 (fun z41 h42 => (((0 : Int) ≤ 5 ∧ (5 : Int) < 1096) ∧ (∀ h43 : Hp, h43 = wr h42 187 5 z41 → (((0 : Int) ≤ 5 ∧ (5 : Int) < 1096) ∧ (mX8_number (rd h43 187 5) 250 h43 (fun z44 h45 => (((0 : Int) ≤ 6 ∧ (6 : Int) < 1096) ∧ (∀ h46 : Hp, h46 = wr h45 187 6 z44 → (mX8_readsHead_b106 Q h46))))))))))))))
set_option maxHeartbeats 4000000 in
set_option maxRecDepth 100000 in
theorem sX8_readsHead_b62 {l0 : Launch} {a : ZC}  {Q : Hp → Prop}  (O : zOk l0 a cX8_readsHead RX8 1 none 197 [])    {h : Hp}  (hM : mX8_readsHead_b62 Q h) : zV a (5, 0, 0, (qV Q), xN) 0 0 62 [some (aR 185)] [] h := by
  unfold mX8_readsHead_b62 at hM
  refine zV_aload_n O dX8_readsHead_62 rfl rfl ?_
  refine zV_ldc2 (z := 326280) O ⟨by omega, by omega⟩ zi_1482.1 zi_1482.2 dX8_readsHead_63 ?_
  refine zV_callV (as := [aL 326280]) (st := []) O zc_X8_passes (Or.inl zl_RX8_135) zi_1462 zi_101 zt_185 rfl rfl (by decide) (Nat.le_of_ble_eq_true rfl) rfl rfl (Nat.le_of_ble_eq_true rfl) (Nat.le_of_ble_eq_true rfl) (Nat.le_of_ble_eq_true rfl) (Nat.le_of_ble_eq_true rfl) (Nat.le_of_ble_eq_true rfl) (Nat.le_of_ble_eq_true rfl) dX8_readsHead_66 (sX8_passes hM) (fun r h40 hq => ?_) (fun x h9 hq => hq.elim)
  obtain ⟨z39, rfl, hzz39, hM⟩ := hq
  refine zV_if_eq (tgt := 106) O dX8_readsHead_69 (by decide) (fun hc => ?_) (fun hc => ?_)
  · replace hM := hM.1 hc
    exact sX8_readsHead_b106 O hM
  · replace hM := hM.2 hc
    refine zV_aload_n O dX8_readsHead_72 rfl rfl ?_
    refine zV_getR O zf_RX8_17 zt_185 rfl (by decide) dX8_readsHead_73 ?_
    refine zV_iconst (z := 5) O ⟨by omega, by omega⟩ dX8_readsHead_76 ?_
    refine zV_aload_n O dX8_readsHead_77 rfl rfl ?_
    refine zV_iconst (z := 1) O ⟨by omega, by omega⟩ dX8_readsHead_78 ?_
    refine zV_sipush (z := 250) O ⟨by omega, by omega⟩ rfl dX8_readsHead_79 ?_
    refine zV_callV (as := [aI 1, aI 250]) (st := [aI 5, aR 187]) O zc_X8_number (Or.inl zl_RX8_140) zi_1479 zi_105 zt_185 rfl rfl (by decide) (Nat.le_of_ble_eq_true rfl) rfl rfl (Nat.le_of_ble_eq_true rfl) (Nat.le_of_ble_eq_true rfl) (Nat.le_of_ble_eq_true rfl) (Nat.le_of_ble_eq_true rfl) (Nat.le_of_ble_eq_true rfl) (Nat.le_of_ble_eq_true rfl) dX8_readsHead_82 (sX8_number hM) (fun r h42 hq => ?_) (fun x h9 hq => hq.elim)
    obtain ⟨z41, rfl, hM⟩ := hq
    obtain ⟨hc, hM⟩ := hM
    refine zV_iast O zt_187 (by decide) hc dX8_readsHead_85 ?_
    have hM := hM (hu h42 187 (Int.toNat 5) z41) rfl
    generalize hu h42 187 (Int.toNat 5) z41 = h43 at hM ⊢
    refine zV_aload_n O dX8_readsHead_86 rfl rfl ?_
    refine zV_getR O zf_RX8_17 zt_185 rfl (by decide) dX8_readsHead_87 ?_
    refine zV_bipush (z := 6) O ⟨by omega, by omega⟩ rfl dX8_readsHead_90 ?_
    refine zV_aload_n O dX8_readsHead_92 rfl rfl ?_
    refine zV_aload_n O dX8_readsHead_93 rfl rfl ?_
    refine zV_getR O zf_RX8_17 zt_185 rfl (by decide) dX8_readsHead_94 ?_
    refine zV_iconst (z := 5) O ⟨by omega, by omega⟩ dX8_readsHead_97 ?_
    obtain ⟨hc, hM⟩ := hM
    refine zV_iald O zt_187 (by decide) hc dX8_readsHead_98 ?_
    refine zV_sipush (z := 250) O ⟨by omega, by omega⟩ rfl dX8_readsHead_99 ?_
    refine zV_callV (as := [aI (rd h43 187 5), aI 250]) (st := [aI 6, aR 187]) O zc_X8_number (Or.inl zl_RX8_140) zi_1479 zi_105 zt_185 rfl rfl (by decide) (Nat.le_of_ble_eq_true rfl) rfl rfl (Nat.le_of_ble_eq_true rfl) (Nat.le_of_ble_eq_true rfl) (Nat.le_of_ble_eq_true rfl) (Nat.le_of_ble_eq_true rfl) (Nat.le_of_ble_eq_true rfl) (Nat.le_of_ble_eq_true rfl) dX8_readsHead_102 (sX8_number hM) (fun r h45 hq => ?_) (fun x h9 hq => hq.elim)
    obtain ⟨z44, rfl, hM⟩ := hq
    obtain ⟨hc, hM⟩ := hM
    refine zV_iast O zt_187 (by decide) hc dX8_readsHead_105 ?_
    have hM := hM (hu h45 187 (Int.toNat 6) z44) rfl
    generalize hu h45 187 (Int.toNat 6) z44 = h46 at hM ⊢
    exact sX8_readsHead_b106 O hM
def mX8_readsHead_b39 (Q : Hp → Prop) (h : Hp) : Prop := (mX8_passes 11817 h (fun z47 h48 => ((z47 = 0 → (mX8_readsHead_b62 Q h48)) ∧ (¬ z47 = 0 → (mX8_number 1 9 h48 (fun z49 h50 => (((0 : Int) ≤ 4 ∧ (4 : Int) < 1096) ∧ (∀ h51 : Hp, h51 = wr h50 187 4 z49 → (mX8_readsHead_b62 Q h51)))))))))
set_option maxHeartbeats 4000000 in
set_option maxRecDepth 100000 in
theorem sX8_readsHead_b39 {l0 : Launch} {a : ZC}  {Q : Hp → Prop}  (O : zOk l0 a cX8_readsHead RX8 1 none 197 [])    {h : Hp}  (hM : mX8_readsHead_b39 Q h) : zV a (5, 0, 0, (qV Q), xN) 0 0 39 [some (aR 185)] [] h := by
  unfold mX8_readsHead_b39 at hM
  refine zV_aload_n O dX8_readsHead_39 rfl rfl ?_
  refine zV_ldc2 (z := 11817) O ⟨by omega, by omega⟩ zi_1481.1 zi_1481.2 dX8_readsHead_40 ?_
  refine zV_callV (as := [aL 11817]) (st := []) O zc_X8_passes (Or.inl zl_RX8_135) zi_1462 zi_101 zt_185 rfl rfl (by decide) (Nat.le_of_ble_eq_true rfl) rfl rfl (Nat.le_of_ble_eq_true rfl) (Nat.le_of_ble_eq_true rfl) (Nat.le_of_ble_eq_true rfl) (Nat.le_of_ble_eq_true rfl) (Nat.le_of_ble_eq_true rfl) (Nat.le_of_ble_eq_true rfl) dX8_readsHead_43 (sX8_passes hM) (fun r h48 hq => ?_) (fun x h9 hq => hq.elim)
  obtain ⟨z47, rfl, hzz47, hM⟩ := hq
  refine zV_if_eq (tgt := 62) O dX8_readsHead_46 (by decide) (fun hc => ?_) (fun hc => ?_)
  · replace hM := hM.1 hc
    exact sX8_readsHead_b62 O hM
  · replace hM := hM.2 hc
    refine zV_aload_n O dX8_readsHead_49 rfl rfl ?_
    refine zV_getR O zf_RX8_17 zt_185 rfl (by decide) dX8_readsHead_50 ?_
    refine zV_iconst (z := 4) O ⟨by omega, by omega⟩ dX8_readsHead_53 ?_
    refine zV_aload_n O dX8_readsHead_54 rfl rfl ?_
    refine zV_iconst (z := 1) O ⟨by omega, by omega⟩ dX8_readsHead_55 ?_
    refine zV_bipush (z := 9) O ⟨by omega, by omega⟩ rfl dX8_readsHead_56 ?_
    refine zV_callV (as := [aI 1, aI 9]) (st := [aI 4, aR 187]) O zc_X8_number (Or.inl zl_RX8_140) zi_1479 zi_105 zt_185 rfl rfl (by decide) (Nat.le_of_ble_eq_true rfl) rfl rfl (Nat.le_of_ble_eq_true rfl) (Nat.le_of_ble_eq_true rfl) (Nat.le_of_ble_eq_true rfl) (Nat.le_of_ble_eq_true rfl) (Nat.le_of_ble_eq_true rfl) (Nat.le_of_ble_eq_true rfl) dX8_readsHead_58 (sX8_number hM) (fun r h50 hq => ?_) (fun x h9 hq => hq.elim)
    obtain ⟨z49, rfl, hM⟩ := hq
    obtain ⟨hc, hM⟩ := hM
    refine zV_iast O zt_187 (by decide) hc dX8_readsHead_61 ?_
    have hM := hM (hu h50 187 (Int.toNat 4) z49) rfl
    generalize hu h50 187 (Int.toNat 4) z49 = h51 at hM ⊢
    exact sX8_readsHead_b62 O hM
def mX8_readsHead  (h : Hp) (Q : Hp → Prop) : Prop := (mX8_passes 279766 h (fun z52 h53 => ((¬ z52 = 0 → (mX8_passes 220309 h53 (fun z54 h55 => ((z54 = 0 → (mX8_readsHead_b39 Q h55)) ∧ (¬ z54 = 0 → (mX8_number 0 3 h55 (fun z56 h57 => (((0 : Int) ≤ 3 ∧ (3 : Int) < 1096) ∧ (∀ h58 : Hp, h58 = wr h57 187 3 z56 → (mX8_readsHead_b39 Q h58)))))))))) ∧ (z52 = 0 → (mX8_wrongs 1 h53 (fun z59 h60 => (Q h60)))))))
set_option maxHeartbeats 4000000 in
set_option maxRecDepth 100000 in
theorem sX8_readsHead {l0 : Launch}  {h : Hp} {Q : Hp → Prop}  (hM : mX8_readsHead  h Q) : zSp l0 yX8_readsHead cX8_readsHead 1 none 197 (5) 0 0 [aR 185] h (qV Q) xN := by
  unfold mX8_readsHead at hM
  refine zSp_intro zpn_RX8 (Nat.le_of_ble_eq_true rfl) (fun a O => ?_)
  show zV a (5, 0, 0, (qV Q), xN) 0 0 0 [some (aR 185)] [] h
  refine zV_aload_n O dX8_readsHead_0 rfl rfl ?_
  refine zV_ldc2 (z := 279766) O ⟨by omega, by omega⟩ zi_1459.1 zi_1459.2 dX8_readsHead_1 ?_
  refine zV_callV (as := [aL 279766]) (st := []) O zc_X8_passes (Or.inl zl_RX8_135) zi_1462 zi_101 zt_185 rfl rfl (by decide) (Nat.le_of_ble_eq_true rfl) rfl rfl (Nat.le_of_ble_eq_true rfl) (Nat.le_of_ble_eq_true rfl) (Nat.le_of_ble_eq_true rfl) (Nat.le_of_ble_eq_true rfl) (Nat.le_of_ble_eq_true rfl) (Nat.le_of_ble_eq_true rfl) dX8_readsHead_4 (sX8_passes hM) (fun r h53 hq => ?_) (fun x h9 hq => hq.elim)
  obtain ⟨z52, rfl, hzz52, hM⟩ := hq
  refine zV_if_ne (tgt := 17) O dX8_readsHead_7 (by decide) (fun hc => ?_) (fun hc => ?_)
  · replace hM := hM.1 hc
    refine zV_aload_n O dX8_readsHead_17 rfl rfl ?_
    refine zV_ldc2 (z := 220309) O ⟨by omega, by omega⟩ zi_1476.1 zi_1476.2 dX8_readsHead_18 ?_
    refine zV_callV (as := [aL 220309]) (st := []) O zc_X8_passes (Or.inl zl_RX8_135) zi_1462 zi_101 zt_185 rfl rfl (by decide) (Nat.le_of_ble_eq_true rfl) rfl rfl (Nat.le_of_ble_eq_true rfl) (Nat.le_of_ble_eq_true rfl) (Nat.le_of_ble_eq_true rfl) (Nat.le_of_ble_eq_true rfl) (Nat.le_of_ble_eq_true rfl) (Nat.le_of_ble_eq_true rfl) dX8_readsHead_21 (sX8_passes hM) (fun r h55 hq => ?_) (fun x h9 hq => hq.elim)
    obtain ⟨z54, rfl, hzz54, hM⟩ := hq
    refine zV_if_eq (tgt := 39) O dX8_readsHead_24 (by decide) (fun hc => ?_) (fun hc => ?_)
    · replace hM := hM.1 hc
      exact sX8_readsHead_b39 O hM
    · replace hM := hM.2 hc
      refine zV_aload_n O dX8_readsHead_27 rfl rfl ?_
      refine zV_getR O zf_RX8_17 zt_185 rfl (by decide) dX8_readsHead_28 ?_
      refine zV_iconst (z := 3) O ⟨by omega, by omega⟩ dX8_readsHead_31 ?_
      refine zV_aload_n O dX8_readsHead_32 rfl rfl ?_
      refine zV_iconst (z := 0) O ⟨by omega, by omega⟩ dX8_readsHead_33 ?_
      refine zV_iconst (z := 3) O ⟨by omega, by omega⟩ dX8_readsHead_34 ?_
      refine zV_callV (as := [aI 0, aI 3]) (st := [aI 3, aR 187]) O zc_X8_number (Or.inl zl_RX8_140) zi_1479 zi_105 zt_185 rfl rfl (by decide) (Nat.le_of_ble_eq_true rfl) rfl rfl (Nat.le_of_ble_eq_true rfl) (Nat.le_of_ble_eq_true rfl) (Nat.le_of_ble_eq_true rfl) (Nat.le_of_ble_eq_true rfl) (Nat.le_of_ble_eq_true rfl) (Nat.le_of_ble_eq_true rfl) dX8_readsHead_35 (sX8_number hM) (fun r h57 hq => ?_) (fun x h9 hq => hq.elim)
      obtain ⟨z56, rfl, hM⟩ := hq
      obtain ⟨hc, hM⟩ := hM
      refine zV_iast O zt_187 (by decide) hc dX8_readsHead_38 ?_
      have hM := hM (hu h57 187 (Int.toNat 3) z56) rfl
      generalize hu h57 187 (Int.toNat 3) z56 = h58 at hM ⊢
      exact sX8_readsHead_b39 O hM
  · replace hM := hM.2 hc
    refine zV_aload_n O dX8_readsHead_10 rfl rfl ?_
    refine zV_iconst (z := 1) O ⟨by omega, by omega⟩ dX8_readsHead_11 ?_
    refine zV_callV (as := [aI 1]) (st := []) O zc_X8_wrongs (Or.inl zl_RX8_122) zi_1474 zi_104 zt_185 rfl rfl (by decide) (Nat.le_of_ble_eq_true rfl) rfl rfl (Nat.le_of_ble_eq_true rfl) (Nat.le_of_ble_eq_true rfl) (Nat.le_of_ble_eq_true rfl) (Nat.le_of_ble_eq_true rfl) (Nat.le_of_ble_eq_true rfl) (Nat.le_of_ble_eq_true rfl) dX8_readsHead_12 (sX8_wrongs hM) (fun r h60 hq => ?_) (fun x h9 hq => hq.elim)
    obtain ⟨z59, rfl, hzz59, hM⟩ := hq
    refine zV_pop O rfl dX8_readsHead_15 ?_
    exact zV_vret O rfl ⟨rfl, hM⟩ (Nat.le_of_ble_eq_true rfl) (Nat.le_of_ble_eq_true rfl) dX8_readsHead_16
def mX8_readsHost_b164 (Q : Hp → Prop) (v1 : Int) (s0 : Int) (s1 : Int) (h : Hp) : Prop := (((0 : Int) ≤ s1 ∧ s1 < 1096) ∧ (∀ h38 : Hp, h38 = wr h 187 s1 s0 → (zr (v1 + 1) ∧ (((0 : Int) ≤ 0 ∧ (0 : Int) < 1096) ∧ (∀ h39 : Hp, h39 = wr h38 187 0 (v1 + 1) → (Q h39))))))
set_option maxHeartbeats 4000000 in
set_option maxRecDepth 100000 in
theorem sX8_readsHost_b164 {l0 : Launch} {a : ZC}  {Q : Hp → Prop}  (O : zOk l0 a cX8_readsHost RX8 3 none 197 [])   {v1 : Int} {s0 : Int} {s1 : Int} {h : Hp} (hz_s0 : s0 = 0 ∨ s0 = 1) (hM : mX8_readsHost_b164 Q v1 s0 s1 h) : zV a (5, 0, 0, (qV Q), xN) 0 0 164 [some (aR 185), some (aI v1), none] [aI s0, aI s1, aR 187] h := by
  unfold mX8_readsHost_b164 at hM
  obtain ⟨hc, hM⟩ := hM
  refine zV_iast O zt_187 (by decide) hc dX8_readsHost_164 ?_
  have hM := hM (hu h 187 (Int.toNat s1) s0) rfl
  generalize hu h 187 (Int.toNat s1) s0 = h38 at hM ⊢
  refine zV_aload_n O dX8_readsHost_165 rfl rfl ?_
  refine zV_getR O zf_RX8_17 zt_185 rfl (by decide) dX8_readsHost_166 ?_
  refine zV_iconst (z := 0) O ⟨by omega, by omega⟩ dX8_readsHost_169 ?_
  refine zV_iload_n O dX8_readsHost_170 rfl rfl ?_
  refine zV_iconst (z := 1) O ⟨by omega, by omega⟩ dX8_readsHost_171 ?_
  obtain ⟨hc, hM⟩ := hM
  refine zV_iadd O dX8_readsHost_172 hc ?_
  obtain ⟨hc, hM⟩ := hM
  refine zV_iast O zt_187 (by decide) hc dX8_readsHost_173 ?_
  have hM := hM (hu h38 187 (Int.toNat 0) (v1 + 1)) rfl
  generalize hu h38 187 (Int.toNat 0) (v1 + 1) = h39 at hM ⊢
  exact zV_vret O rfl ⟨rfl, hM⟩ (Nat.le_of_ble_eq_true rfl) (Nat.le_of_ble_eq_true rfl) dX8_readsHost_174
def mX8_readsHost_b103 (Q : Hp → Prop) (v1 : Int) (v2 : Int) (h : Hp) : Prop := (mX8_isGood h (fun z40 => ((¬ z40 = 0 → (mX8_cell v1 0 h (fun z41 => (((0 : Int) ≤ z41 ∧ z41 < 1096) ∧ (∀ h42 : Hp, h42 = wr h 187 z41 v2 → (mX8_cell v1 1 h42 (fun z43 => (((0 : Int) ≤ z43 ∧ z43 < 1096) ∧ (∀ h44 : Hp, h44 = wr h42 187 z43 (h42 185 14) → (mX8_next h44 (fun h45 => (mX8_cell v1 2 h45 (fun z46 => (mX8_passes 234651388 h45 (fun z47 h48 => ((z47 = 0 → (mX8_readsHost_b164 Q v1 0 z46 h48)) ∧ (¬ z47 = 0 → (mX8_readsHost_b164 Q v1 1 z46 h48)))))))))))))))))) ∧ (z40 = 0 → (Q h)))))
set_option maxHeartbeats 4000000 in
set_option maxRecDepth 100000 in
theorem sX8_readsHost_b103 {l0 : Launch} {a : ZC}  {Q : Hp → Prop}  (O : zOk l0 a cX8_readsHost RX8 3 none 197 [])   {v1 : Int} {v2 : Int} {h : Hp}  (hM : mX8_readsHost_b103 Q v1 v2 h) : zV a (5, 0, 0, (qV Q), xN) 0 0 103 [some (aR 185), some (aI v1), some (aI v2)] [] h := by
  unfold mX8_readsHost_b103 at hM
  refine zV_aload_n O dX8_readsHost_103 rfl rfl ?_
  refine zV_callV (as := []) (st := []) O zc_X8_isGood (Or.inl zl_RX8_111) zi_1470 zi_103 zt_185 rfl rfl (by decide) (Nat.le_of_ble_eq_true rfl) rfl rfl (Nat.le_of_ble_eq_true rfl) (Nat.le_of_ble_eq_true rfl) (Nat.le_of_ble_eq_true rfl) (Nat.le_of_ble_eq_true rfl) (Nat.le_of_ble_eq_true rfl) (Nat.le_of_ble_eq_true rfl) dX8_readsHost_104 (sX8_isGood hM) (fun r h9 hq => ?_) (fun x h9 hq => hq.elim)
  obtain ⟨rfl, z40, rfl, hzz40, hM⟩ := hq
  refine zV_if_ne (tgt := 111) O dX8_readsHost_107 (by decide) (fun hc => ?_) (fun hc => ?_)
  · replace hM := hM.1 hc
    refine zV_aload_n O dX8_readsHost_111 rfl rfl ?_
    refine zV_getR O zf_RX8_17 zt_185 rfl (by decide) dX8_readsHost_112 ?_
    refine zV_iload_n O dX8_readsHost_115 rfl rfl ?_
    refine zV_iconst (z := 0) O ⟨by omega, by omega⟩ dX8_readsHost_116 ?_
    refine zV_callS (as := [aI v1, aI 0]) (st := [aR 187]) O zc_X8_cell (Or.inl zl_RX8_129) zi_1505 (Nat.le_of_ble_eq_true rfl) rfl rfl (Nat.le_of_ble_eq_true rfl) (Nat.le_of_ble_eq_true rfl) (Nat.le_of_ble_eq_true rfl) (Nat.le_of_ble_eq_true rfl) (Nat.le_of_ble_eq_true rfl) (Nat.le_of_ble_eq_true rfl) dX8_readsHost_117 (sX8_cell hM) (fun r h9 hq => ?_) (fun x h9 hq => hq.elim)
    obtain ⟨rfl, z41, rfl, hM⟩ := hq
    refine zV_iload_n O dX8_readsHost_120 rfl rfl ?_
    obtain ⟨hc, hM⟩ := hM
    refine zV_iast O zt_187 (by decide) hc dX8_readsHost_121 ?_
    have hM := hM (hu h 187 (Int.toNat z41) v2) rfl
    generalize hu h 187 (Int.toNat z41) v2 = h42 at hM ⊢
    refine zV_aload_n O dX8_readsHost_122 rfl rfl ?_
    refine zV_getR O zf_RX8_17 zt_185 rfl (by decide) dX8_readsHost_123 ?_
    refine zV_iload_n O dX8_readsHost_126 rfl rfl ?_
    refine zV_iconst (z := 1) O ⟨by omega, by omega⟩ dX8_readsHost_127 ?_
    refine zV_callS (as := [aI v1, aI 1]) (st := [aR 187]) O zc_X8_cell (Or.inl zl_RX8_129) zi_1505 (Nat.le_of_ble_eq_true rfl) rfl rfl (Nat.le_of_ble_eq_true rfl) (Nat.le_of_ble_eq_true rfl) (Nat.le_of_ble_eq_true rfl) (Nat.le_of_ble_eq_true rfl) (Nat.le_of_ble_eq_true rfl) (Nat.le_of_ble_eq_true rfl) dX8_readsHost_128 (sX8_cell hM) (fun r h9 hq => ?_) (fun x h9 hq => hq.elim)
    obtain ⟨rfl, z43, rfl, hM⟩ := hq
    refine zV_aload_n O dX8_readsHost_131 rfl rfl ?_
    refine zV_getI O zf_RX8_92 zt_185 rfl (by decide) dX8_readsHost_132 ?_
    obtain ⟨hc, hM⟩ := hM
    refine zV_iast O zt_187 (by decide) hc dX8_readsHost_135 ?_
    have hM := hM (hu h42 187 (Int.toNat z43) (h42 185 14)) rfl
    generalize hu h42 187 (Int.toNat z43) (h42 185 14) = h44 at hM ⊢
    refine zV_aload_n O dX8_readsHost_136 rfl rfl ?_
    refine zV_callV (as := []) (st := []) O zc_X8_next (Or.inl zl_RX8_108) zi_1428 zi_95 zt_185 rfl rfl (by decide) (Nat.le_of_ble_eq_true rfl) rfl rfl (Nat.le_of_ble_eq_true rfl) (Nat.le_of_ble_eq_true rfl) (Nat.le_of_ble_eq_true rfl) (Nat.le_of_ble_eq_true rfl) (Nat.le_of_ble_eq_true rfl) (Nat.le_of_ble_eq_true rfl) dX8_readsHost_137 (sX8_next hM) (fun r h45 hq => ?_) (fun x h9 hq => hq.elim)
    obtain ⟨rfl, hM⟩ := hq
    refine zV_aload_n O dX8_readsHost_140 rfl rfl ?_
    refine zV_getR O zf_RX8_17 zt_185 rfl (by decide) dX8_readsHost_141 ?_
    refine zV_iload_n O dX8_readsHost_144 rfl rfl ?_
    refine zV_iconst (z := 2) O ⟨by omega, by omega⟩ dX8_readsHost_145 ?_
    refine zV_callS (as := [aI v1, aI 2]) (st := [aR 187]) O zc_X8_cell (Or.inl zl_RX8_129) zi_1505 (Nat.le_of_ble_eq_true rfl) rfl rfl (Nat.le_of_ble_eq_true rfl) (Nat.le_of_ble_eq_true rfl) (Nat.le_of_ble_eq_true rfl) (Nat.le_of_ble_eq_true rfl) (Nat.le_of_ble_eq_true rfl) (Nat.le_of_ble_eq_true rfl) dX8_readsHost_146 (sX8_cell hM) (fun r h9 hq => ?_) (fun x h9 hq => hq.elim)
    obtain ⟨rfl, z46, rfl, hM⟩ := hq
    refine zV_aload_n O dX8_readsHost_149 rfl rfl ?_
    refine zV_ldc2 (z := 234651388) O ⟨by omega, by omega⟩ zi_1512.1 zi_1512.2 dX8_readsHost_150 ?_
    refine zV_callV (as := [aL 234651388]) (st := [aI z46, aR 187]) O zc_X8_passes (Or.inl zl_RX8_135) zi_1462 zi_101 zt_185 rfl rfl (by decide) (Nat.le_of_ble_eq_true rfl) rfl rfl (Nat.le_of_ble_eq_true rfl) (Nat.le_of_ble_eq_true rfl) (Nat.le_of_ble_eq_true rfl) (Nat.le_of_ble_eq_true rfl) (Nat.le_of_ble_eq_true rfl) (Nat.le_of_ble_eq_true rfl) dX8_readsHost_153 (sX8_passes hM) (fun r h48 hq => ?_) (fun x h9 hq => hq.elim)
    obtain ⟨z47, rfl, hzz47, hM⟩ := hq
    refine zV_if_eq (tgt := 163) O dX8_readsHost_156 (by decide) (fun hc => ?_) (fun hc => ?_)
    · replace hM := hM.1 hc
      refine zV_iconst (z := 0) O ⟨by omega, by omega⟩ dX8_readsHost_163 ?_
      refine zV_sub (ls2 := [some (aR 185), some (aI v1), none]) ⟨rfl, rfl, trivial⟩ ?_
      exact sX8_readsHost_b164 O (Or.inl rfl) hM
    · replace hM := hM.2 hc
      refine zV_iconst (z := 1) O ⟨by omega, by omega⟩ dX8_readsHost_159 ?_
      refine zV_goto (tgt := 164) O dX8_readsHost_160 (by decide) ?_
      refine zV_sub (ls2 := [some (aR 185), some (aI v1), none]) ⟨rfl, rfl, trivial⟩ ?_
      exact sX8_readsHost_b164 O (Or.inr rfl) hM
  · replace hM := hM.2 hc
    exact zV_vret O rfl ⟨rfl, hM⟩ (Nat.le_of_ble_eq_true rfl) (Nat.le_of_ble_eq_true rfl) dX8_readsHost_110
def mX8_readsHost  (h : Hp) (Q : Hp → Prop) : Prop := (((0 : Int) ≤ 0 ∧ (0 : Int) < 1096) ∧ ((¬ (rd h 187 0) = (40 : Int) → (mX8_next h (fun h49 => (mX8_readsName (rd h 187 0) h49 (fun h50 => (mX8_number 0 1 h50 (fun z51 h52 => (mX8_isGood h52 (fun z53 => ((¬ z53 = 0 → (((h52 185 13) = (2 : Int) → (mX8_in (h52 185 14) 1 250 h52 (fun z54 => ((¬ z54 = 0 → (mX8_isTold z51 (h52 185 14) h52 (fun z55 => ((z55 = 0 → (mX8_readsHost_b103 Q (rd h 187 0) z51 h52)) ∧ (¬ z55 = 0 → (mX8_wrongs 3 h52 (fun z56 h57 => (mX8_readsHost_b103 Q (rd h 187 0) z51 h57)))))))) ∧ (z54 = 0 → (mX8_wrongs 2 h52 (fun z58 h59 => (mX8_readsHost_b103 Q (rd h 187 0) z51 h59)))))))) ∧ (¬ (h52 185 13) = (2 : Int) → (mX8_wrongs 1 h52 (fun z60 h61 => (mX8_readsHost_b103 Q (rd h 187 0) z51 h61)))))) ∧ (z53 = 0 → (Q h52)))))))))))) ∧ ((rd h 187 0) = (40 : Int) → (mX8_wrongs 3 h (fun z62 h63 => (Q h63))))))
set_option maxHeartbeats 4000000 in
set_option maxRecDepth 100000 in
theorem sX8_readsHost {l0 : Launch}  {h : Hp} {Q : Hp → Prop}  (hM : mX8_readsHost  h Q) : zSp l0 yX8_readsHost cX8_readsHost 3 none 197 (5) 0 0 [aR 185] h (qV Q) xN := by
  unfold mX8_readsHost at hM
  refine zSp_intro zpn_RX8 (Nat.le_of_ble_eq_true rfl) (fun a O => ?_)
  show zV a (5, 0, 0, (qV Q), xN) 0 0 0 [some (aR 185), none, none] [] h
  refine zV_aload_n O dX8_readsHost_0 rfl rfl ?_
  refine zV_getR O zf_RX8_17 zt_185 rfl (by decide) dX8_readsHost_1 ?_
  refine zV_iconst (z := 0) O ⟨by omega, by omega⟩ dX8_readsHost_4 ?_
  obtain ⟨hc, hM⟩ := hM
  refine zV_iald O zt_187 (by decide) hc dX8_readsHost_5 ?_
  refine zV_istore_n O dX8_readsHost_6 rfl (Nat.le_of_ble_eq_true rfl) rfl ?_
  refine zV_iload_n O dX8_readsHost_7 rfl rfl ?_
  refine zV_bipush (z := 40) O ⟨by omega, by omega⟩ rfl dX8_readsHost_8 ?_
  refine zV_icmp_ne (tgt := 20) O dX8_readsHost_10 (by decide) (fun hc => ?_) (fun hc => ?_)
  · replace hM := hM.1 hc
    refine zV_aload_n O dX8_readsHost_20 rfl rfl ?_
    refine zV_callV (as := []) (st := []) O zc_X8_next (Or.inl zl_RX8_108) zi_1428 zi_95 zt_185 rfl rfl (by decide) (Nat.le_of_ble_eq_true rfl) rfl rfl (Nat.le_of_ble_eq_true rfl) (Nat.le_of_ble_eq_true rfl) (Nat.le_of_ble_eq_true rfl) (Nat.le_of_ble_eq_true rfl) (Nat.le_of_ble_eq_true rfl) (Nat.le_of_ble_eq_true rfl) dX8_readsHost_21 (sX8_next hM) (fun r h49 hq => ?_) (fun x h9 hq => hq.elim)
    obtain ⟨rfl, hM⟩ := hq
    refine zV_aload_n O dX8_readsHost_24 rfl rfl ?_
    refine zV_iload_n O dX8_readsHost_25 rfl rfl ?_
    refine zV_callV (as := [aI (rd h 187 0)]) (st := []) O zc_X8_readsName (Or.inl zl_RX8_154) zi_1498 zi_109 zt_185 rfl rfl (by decide) (Nat.le_of_ble_eq_true rfl) rfl rfl (Nat.le_of_ble_eq_true rfl) (Nat.le_of_ble_eq_true rfl) (Nat.le_of_ble_eq_true rfl) (Nat.le_of_ble_eq_true rfl) (Nat.le_of_ble_eq_true rfl) (Nat.le_of_ble_eq_true rfl) dX8_readsHost_26 (sX8_readsName hM) (fun r h50 hq => ?_) (fun x h9 hq => hq.elim)
    obtain ⟨rfl, hM⟩ := hq
    refine zV_aload_n O dX8_readsHost_29 rfl rfl ?_
    refine zV_iconst (z := 0) O ⟨by omega, by omega⟩ dX8_readsHost_30 ?_
    refine zV_iconst (z := 1) O ⟨by omega, by omega⟩ dX8_readsHost_31 ?_
    refine zV_callV (as := [aI 0, aI 1]) (st := []) O zc_X8_number (Or.inl zl_RX8_140) zi_1479 zi_105 zt_185 rfl rfl (by decide) (Nat.le_of_ble_eq_true rfl) rfl rfl (Nat.le_of_ble_eq_true rfl) (Nat.le_of_ble_eq_true rfl) (Nat.le_of_ble_eq_true rfl) (Nat.le_of_ble_eq_true rfl) (Nat.le_of_ble_eq_true rfl) (Nat.le_of_ble_eq_true rfl) dX8_readsHost_32 (sX8_number hM) (fun r h52 hq => ?_) (fun x h9 hq => hq.elim)
    obtain ⟨z51, rfl, hM⟩ := hq
    refine zV_istore_n O dX8_readsHost_35 rfl (Nat.le_of_ble_eq_true rfl) rfl ?_
    refine zV_aload_n O dX8_readsHost_36 rfl rfl ?_
    refine zV_callV (as := []) (st := []) O zc_X8_isGood (Or.inl zl_RX8_111) zi_1470 zi_103 zt_185 rfl rfl (by decide) (Nat.le_of_ble_eq_true rfl) rfl rfl (Nat.le_of_ble_eq_true rfl) (Nat.le_of_ble_eq_true rfl) (Nat.le_of_ble_eq_true rfl) (Nat.le_of_ble_eq_true rfl) (Nat.le_of_ble_eq_true rfl) (Nat.le_of_ble_eq_true rfl) dX8_readsHost_37 (sX8_isGood hM) (fun r h9 hq => ?_) (fun x h9 hq => hq.elim)
    obtain ⟨rfl, z53, rfl, hzz53, hM⟩ := hq
    refine zV_if_ne (tgt := 44) O dX8_readsHost_40 (by decide) (fun hc => ?_) (fun hc => ?_)
    · replace hM := hM.1 hc
      refine zV_aload_n O dX8_readsHost_44 rfl rfl ?_
      refine zV_getI O zf_RX8_89 zt_185 rfl (by decide) dX8_readsHost_45 ?_
      refine zV_iconst (z := 2) O ⟨by omega, by omega⟩ dX8_readsHost_48 ?_
      refine zV_icmp_eq (tgt := 61) O dX8_readsHost_49 (by decide) (fun hc => ?_) (fun hc => ?_)
      · replace hM := hM.1 hc
        refine zV_aload_n O dX8_readsHost_61 rfl rfl ?_
        refine zV_getI O zf_RX8_92 zt_185 rfl (by decide) dX8_readsHost_62 ?_
        refine zV_i2l O dX8_readsHost_65 ?_
        refine zV_lconst (z := 1) O ⟨by omega, by omega⟩ rfl dX8_readsHost_66 ?_
        refine zV_ldc2 (z := 250) O ⟨by omega, by omega⟩ zi_1507.1 zi_1507.2 dX8_readsHost_67 ?_
        refine zV_callS (as := [aL (h52 185 14), aL 1, aL 250]) (st := []) O zc_X8_in (Or.inl zl_RX8_125) zi_1416 (Nat.le_of_ble_eq_true rfl) rfl rfl (Nat.le_of_ble_eq_true rfl) (Nat.le_of_ble_eq_true rfl) (Nat.le_of_ble_eq_true rfl) (Nat.le_of_ble_eq_true rfl) (Nat.le_of_ble_eq_true rfl) (Nat.le_of_ble_eq_true rfl) dX8_readsHost_70 (sX8_in hM) (fun r h9 hq => ?_) (fun x h9 hq => hq.elim)
        obtain ⟨rfl, z54, rfl, hzz54, hM⟩ := hq
        refine zV_if_ne (tgt := 85) O dX8_readsHost_73 (by decide) (fun hc => ?_) (fun hc => ?_)
        · replace hM := hM.1 hc
          refine zV_aload_n O dX8_readsHost_85 rfl rfl ?_
          refine zV_iload_n O dX8_readsHost_86 rfl rfl ?_
          refine zV_aload_n O dX8_readsHost_87 rfl rfl ?_
          refine zV_getI O zf_RX8_92 zt_185 rfl (by decide) dX8_readsHost_88 ?_
          refine zV_callV (as := [aI z51, aI (h52 185 14)]) (st := []) O zc_X8_isTold (Or.inl zl_RX8_159) zi_1510 zi_111 zt_185 rfl rfl (by decide) (Nat.le_of_ble_eq_true rfl) rfl rfl (Nat.le_of_ble_eq_true rfl) (Nat.le_of_ble_eq_true rfl) (Nat.le_of_ble_eq_true rfl) (Nat.le_of_ble_eq_true rfl) (Nat.le_of_ble_eq_true rfl) (Nat.le_of_ble_eq_true rfl) dX8_readsHost_91 (sX8_isTold hM) (fun r h9 hq => ?_) (fun x h9 hq => hq.elim)
          obtain ⟨rfl, z55, rfl, hzz55, hM⟩ := hq
          refine zV_if_eq (tgt := 103) O dX8_readsHost_94 (by decide) (fun hc => ?_) (fun hc => ?_)
          · replace hM := hM.1 hc
            exact sX8_readsHost_b103 O hM
          · replace hM := hM.2 hc
            refine zV_aload_n O dX8_readsHost_97 rfl rfl ?_
            refine zV_iconst (z := 3) O ⟨by omega, by omega⟩ dX8_readsHost_98 ?_
            refine zV_callV (as := [aI 3]) (st := []) O zc_X8_wrongs (Or.inl zl_RX8_122) zi_1474 zi_104 zt_185 rfl rfl (by decide) (Nat.le_of_ble_eq_true rfl) rfl rfl (Nat.le_of_ble_eq_true rfl) (Nat.le_of_ble_eq_true rfl) (Nat.le_of_ble_eq_true rfl) (Nat.le_of_ble_eq_true rfl) (Nat.le_of_ble_eq_true rfl) (Nat.le_of_ble_eq_true rfl) dX8_readsHost_99 (sX8_wrongs hM) (fun r h57 hq => ?_) (fun x h9 hq => hq.elim)
            obtain ⟨z56, rfl, hzz56, hM⟩ := hq
            refine zV_pop O rfl dX8_readsHost_102 ?_
            exact sX8_readsHost_b103 O hM
        · replace hM := hM.2 hc
          refine zV_aload_n O dX8_readsHost_76 rfl rfl ?_
          refine zV_iconst (z := 2) O ⟨by omega, by omega⟩ dX8_readsHost_77 ?_
          refine zV_callV (as := [aI 2]) (st := []) O zc_X8_wrongs (Or.inl zl_RX8_122) zi_1474 zi_104 zt_185 rfl rfl (by decide) (Nat.le_of_ble_eq_true rfl) rfl rfl (Nat.le_of_ble_eq_true rfl) (Nat.le_of_ble_eq_true rfl) (Nat.le_of_ble_eq_true rfl) (Nat.le_of_ble_eq_true rfl) (Nat.le_of_ble_eq_true rfl) (Nat.le_of_ble_eq_true rfl) dX8_readsHost_78 (sX8_wrongs hM) (fun r h59 hq => ?_) (fun x h9 hq => hq.elim)
          obtain ⟨z58, rfl, hzz58, hM⟩ := hq
          refine zV_pop O rfl dX8_readsHost_81 ?_
          refine zV_goto (tgt := 103) O dX8_readsHost_82 (by decide) ?_
          exact sX8_readsHost_b103 O hM
      · replace hM := hM.2 hc
        refine zV_aload_n O dX8_readsHost_52 rfl rfl ?_
        refine zV_iconst (z := 1) O ⟨by omega, by omega⟩ dX8_readsHost_53 ?_
        refine zV_callV (as := [aI 1]) (st := []) O zc_X8_wrongs (Or.inl zl_RX8_122) zi_1474 zi_104 zt_185 rfl rfl (by decide) (Nat.le_of_ble_eq_true rfl) rfl rfl (Nat.le_of_ble_eq_true rfl) (Nat.le_of_ble_eq_true rfl) (Nat.le_of_ble_eq_true rfl) (Nat.le_of_ble_eq_true rfl) (Nat.le_of_ble_eq_true rfl) (Nat.le_of_ble_eq_true rfl) dX8_readsHost_54 (sX8_wrongs hM) (fun r h61 hq => ?_) (fun x h9 hq => hq.elim)
        obtain ⟨z60, rfl, hzz60, hM⟩ := hq
        refine zV_pop O rfl dX8_readsHost_57 ?_
        refine zV_goto (tgt := 103) O dX8_readsHost_58 (by decide) ?_
        exact sX8_readsHost_b103 O hM
    · replace hM := hM.2 hc
      exact zV_vret O rfl ⟨rfl, hM⟩ (Nat.le_of_ble_eq_true rfl) (Nat.le_of_ble_eq_true rfl) dX8_readsHost_43
  · replace hM := hM.2 hc
    refine zV_aload_n O dX8_readsHost_13 rfl rfl ?_
    refine zV_iconst (z := 3) O ⟨by omega, by omega⟩ dX8_readsHost_14 ?_
    refine zV_callV (as := [aI 3]) (st := []) O zc_X8_wrongs (Or.inl zl_RX8_122) zi_1474 zi_104 zt_185 rfl rfl (by decide) (Nat.le_of_ble_eq_true rfl) rfl rfl (Nat.le_of_ble_eq_true rfl) (Nat.le_of_ble_eq_true rfl) (Nat.le_of_ble_eq_true rfl) (Nat.le_of_ble_eq_true rfl) (Nat.le_of_ble_eq_true rfl) (Nat.le_of_ble_eq_true rfl) dX8_readsHost_15 (sX8_wrongs hM) (fun r h63 hq => ?_) (fun x h9 hq => hq.elim)
    obtain ⟨z62, rfl, hzz62, hM⟩ := hq
    refine zV_pop O rfl dX8_readsHost_18 ?_
    exact zV_vret O rfl ⟨rfl, hM⟩ (Nat.le_of_ble_eq_true rfl) (Nat.le_of_ble_eq_true rfl) dX8_readsHost_19
def mX8_readsMove_b177 (Q : Hp → Prop) (v1 : Int) (v2 : Int) (h : Hp) : Prop := (mX8_isGood h (fun z53 => ((¬ z53 = 0 → (mX8_cell v1 3 h (fun z54 => (((0 : Int) ≤ z54 ∧ z54 < 1096) ∧ (∀ h55 : Hp, h55 = wr h 187 z54 v2 → (mX8_cell v1 4 h55 (fun z56 => (((0 : Int) ≤ z56 ∧ z56 < 1096) ∧ (∀ h57 : Hp, h57 = wr h55 187 z56 (h55 185 14) → (mX8_next h57 (fun h58 => (Q h58)))))))))))) ∧ (z53 = 0 → (Q h)))))
set_option maxHeartbeats 4000000 in
set_option maxRecDepth 100000 in
theorem sX8_readsMove_b177 {l0 : Launch} {a : ZC}  {Q : Hp → Prop}  (O : zOk l0 a cX8_readsMove RX8 3 none 197 [])   {v1 : Int} {v2 : Int} {h : Hp}  (hM : mX8_readsMove_b177 Q v1 v2 h) : zV a (5, 0, 0, (qV Q), xN) 0 0 177 [some (aR 185), some (aI v1), some (aI v2)] [] h := by
  unfold mX8_readsMove_b177 at hM
  refine zV_aload_n O dX8_readsMove_177 rfl rfl ?_
  refine zV_callV (as := []) (st := []) O zc_X8_isGood (Or.inl zl_RX8_111) zi_1470 zi_103 zt_185 rfl rfl (by decide) (Nat.le_of_ble_eq_true rfl) rfl rfl (Nat.le_of_ble_eq_true rfl) (Nat.le_of_ble_eq_true rfl) (Nat.le_of_ble_eq_true rfl) (Nat.le_of_ble_eq_true rfl) (Nat.le_of_ble_eq_true rfl) (Nat.le_of_ble_eq_true rfl) dX8_readsMove_178 (sX8_isGood hM) (fun r h9 hq => ?_) (fun x h9 hq => hq.elim)
  obtain ⟨rfl, z53, rfl, hzz53, hM⟩ := hq
  refine zV_if_ne (tgt := 185) O dX8_readsMove_181 (by decide) (fun hc => ?_) (fun hc => ?_)
  · replace hM := hM.1 hc
    refine zV_aload_n O dX8_readsMove_185 rfl rfl ?_
    refine zV_getR O zf_RX8_17 zt_185 rfl (by decide) dX8_readsMove_186 ?_
    refine zV_iload_n O dX8_readsMove_189 rfl rfl ?_
    refine zV_iconst (z := 3) O ⟨by omega, by omega⟩ dX8_readsMove_190 ?_
    refine zV_callS (as := [aI v1, aI 3]) (st := [aR 187]) O zc_X8_cell (Or.inl zl_RX8_129) zi_1505 (Nat.le_of_ble_eq_true rfl) rfl rfl (Nat.le_of_ble_eq_true rfl) (Nat.le_of_ble_eq_true rfl) (Nat.le_of_ble_eq_true rfl) (Nat.le_of_ble_eq_true rfl) (Nat.le_of_ble_eq_true rfl) (Nat.le_of_ble_eq_true rfl) dX8_readsMove_191 (sX8_cell hM) (fun r h9 hq => ?_) (fun x h9 hq => hq.elim)
    obtain ⟨rfl, z54, rfl, hM⟩ := hq
    refine zV_iload_n O dX8_readsMove_194 rfl rfl ?_
    obtain ⟨hc, hM⟩ := hM
    refine zV_iast O zt_187 (by decide) hc dX8_readsMove_195 ?_
    have hM := hM (hu h 187 (Int.toNat z54) v2) rfl
    generalize hu h 187 (Int.toNat z54) v2 = h55 at hM ⊢
    refine zV_aload_n O dX8_readsMove_196 rfl rfl ?_
    refine zV_getR O zf_RX8_17 zt_185 rfl (by decide) dX8_readsMove_197 ?_
    refine zV_iload_n O dX8_readsMove_200 rfl rfl ?_
    refine zV_iconst (z := 4) O ⟨by omega, by omega⟩ dX8_readsMove_201 ?_
    refine zV_callS (as := [aI v1, aI 4]) (st := [aR 187]) O zc_X8_cell (Or.inl zl_RX8_129) zi_1505 (Nat.le_of_ble_eq_true rfl) rfl rfl (Nat.le_of_ble_eq_true rfl) (Nat.le_of_ble_eq_true rfl) (Nat.le_of_ble_eq_true rfl) (Nat.le_of_ble_eq_true rfl) (Nat.le_of_ble_eq_true rfl) (Nat.le_of_ble_eq_true rfl) dX8_readsMove_202 (sX8_cell hM) (fun r h9 hq => ?_) (fun x h9 hq => hq.elim)
    obtain ⟨rfl, z56, rfl, hM⟩ := hq
    refine zV_aload_n O dX8_readsMove_205 rfl rfl ?_
    refine zV_getI O zf_RX8_92 zt_185 rfl (by decide) dX8_readsMove_206 ?_
    obtain ⟨hc, hM⟩ := hM
    refine zV_iast O zt_187 (by decide) hc dX8_readsMove_209 ?_
    have hM := hM (hu h55 187 (Int.toNat z56) (h55 185 14)) rfl
    generalize hu h55 187 (Int.toNat z56) (h55 185 14) = h57 at hM ⊢
    refine zV_aload_n O dX8_readsMove_210 rfl rfl ?_
    refine zV_callV (as := []) (st := []) O zc_X8_next (Or.inl zl_RX8_108) zi_1428 zi_95 zt_185 rfl rfl (by decide) (Nat.le_of_ble_eq_true rfl) rfl rfl (Nat.le_of_ble_eq_true rfl) (Nat.le_of_ble_eq_true rfl) (Nat.le_of_ble_eq_true rfl) (Nat.le_of_ble_eq_true rfl) (Nat.le_of_ble_eq_true rfl) (Nat.le_of_ble_eq_true rfl) dX8_readsMove_211 (sX8_next hM) (fun r h58 hq => ?_) (fun x h9 hq => hq.elim)
    obtain ⟨rfl, hM⟩ := hq
    exact zV_vret O rfl ⟨rfl, hM⟩ (Nat.le_of_ble_eq_true rfl) (Nat.le_of_ble_eq_true rfl) dX8_readsMove_214
  · replace hM := hM.2 hc
    exact zV_vret O rfl ⟨rfl, hM⟩ (Nat.le_of_ble_eq_true rfl) (Nat.le_of_ble_eq_true rfl) dX8_readsMove_184
def mX8_readsMove_b80 (Q : Hp → Prop) (v1 : Int) (h : Hp) : Prop := (mX8_isGood h (fun z59 => ((¬ z59 = 0 → (mX8_next h (fun h60 => (mX8_number 1 250 h60 (fun z61 h62 => (mX8_isGood h62 (fun z63 => ((¬ z63 = 0 → (((h62 185 13) = (2 : Int) → (mX8_in (h62 185 14) 1 9 h62 (fun z64 => ((¬ z64 = 0 → (mX8_plansIn 187 1096 (h62 185 14) h62 (fun z65 => (((0 : Int) ≤ 4 ∧ (4 : Int) < 1096) ∧ ((z65 < (rd h62 187 4) → (mX8_readsMove_b177 Q v1 z61 h62)) ∧ (¬ z65 < (rd h62 187 4) → (mX8_wrongs 4 h62 (fun z66 h67 => (mX8_readsMove_b177 Q v1 z61 h67))))))))) ∧ (z64 = 0 → (mX8_wrongs 2 h62 (fun z68 h69 => (mX8_readsMove_b177 Q v1 z61 h69)))))))) ∧ (¬ (h62 185 13) = (2 : Int) → (mX8_wrongs 1 h62 (fun z70 h71 => (mX8_readsMove_b177 Q v1 z61 h71)))))) ∧ (z63 = 0 → (Q h62)))))))))) ∧ (z59 = 0 → (Q h)))))
set_option maxHeartbeats 4000000 in
set_option maxRecDepth 100000 in
theorem sX8_readsMove_b80 {l0 : Launch} {a : ZC}  {Q : Hp → Prop}  (O : zOk l0 a cX8_readsMove RX8 3 none 197 [])   {v1 : Int} {h : Hp}  (hM : mX8_readsMove_b80 Q v1 h) : zV a (5, 0, 0, (qV Q), xN) 0 0 80 [some (aR 185), some (aI v1), none] [] h := by
  unfold mX8_readsMove_b80 at hM
  refine zV_aload_n O dX8_readsMove_80 rfl rfl ?_
  refine zV_callV (as := []) (st := []) O zc_X8_isGood (Or.inl zl_RX8_111) zi_1470 zi_103 zt_185 rfl rfl (by decide) (Nat.le_of_ble_eq_true rfl) rfl rfl (Nat.le_of_ble_eq_true rfl) (Nat.le_of_ble_eq_true rfl) (Nat.le_of_ble_eq_true rfl) (Nat.le_of_ble_eq_true rfl) (Nat.le_of_ble_eq_true rfl) (Nat.le_of_ble_eq_true rfl) dX8_readsMove_81 (sX8_isGood hM) (fun r h9 hq => ?_) (fun x h9 hq => hq.elim)
  obtain ⟨rfl, z59, rfl, hzz59, hM⟩ := hq
  refine zV_if_ne (tgt := 88) O dX8_readsMove_84 (by decide) (fun hc => ?_) (fun hc => ?_)
  · replace hM := hM.1 hc
    refine zV_aload_n O dX8_readsMove_88 rfl rfl ?_
    refine zV_callV (as := []) (st := []) O zc_X8_next (Or.inl zl_RX8_108) zi_1428 zi_95 zt_185 rfl rfl (by decide) (Nat.le_of_ble_eq_true rfl) rfl rfl (Nat.le_of_ble_eq_true rfl) (Nat.le_of_ble_eq_true rfl) (Nat.le_of_ble_eq_true rfl) (Nat.le_of_ble_eq_true rfl) (Nat.le_of_ble_eq_true rfl) (Nat.le_of_ble_eq_true rfl) dX8_readsMove_89 (sX8_next hM) (fun r h60 hq => ?_) (fun x h9 hq => hq.elim)
    obtain ⟨rfl, hM⟩ := hq
    refine zV_aload_n O dX8_readsMove_92 rfl rfl ?_
    refine zV_iconst (z := 1) O ⟨by omega, by omega⟩ dX8_readsMove_93 ?_
    refine zV_sipush (z := 250) O ⟨by omega, by omega⟩ rfl dX8_readsMove_94 ?_
    refine zV_callV (as := [aI 1, aI 250]) (st := []) O zc_X8_number (Or.inl zl_RX8_140) zi_1479 zi_105 zt_185 rfl rfl (by decide) (Nat.le_of_ble_eq_true rfl) rfl rfl (Nat.le_of_ble_eq_true rfl) (Nat.le_of_ble_eq_true rfl) (Nat.le_of_ble_eq_true rfl) (Nat.le_of_ble_eq_true rfl) (Nat.le_of_ble_eq_true rfl) (Nat.le_of_ble_eq_true rfl) dX8_readsMove_97 (sX8_number hM) (fun r h62 hq => ?_) (fun x h9 hq => hq.elim)
    obtain ⟨z61, rfl, hM⟩ := hq
    refine zV_istore_n O dX8_readsMove_100 rfl (Nat.le_of_ble_eq_true rfl) rfl ?_
    refine zV_aload_n O dX8_readsMove_101 rfl rfl ?_
    refine zV_callV (as := []) (st := []) O zc_X8_isGood (Or.inl zl_RX8_111) zi_1470 zi_103 zt_185 rfl rfl (by decide) (Nat.le_of_ble_eq_true rfl) rfl rfl (Nat.le_of_ble_eq_true rfl) (Nat.le_of_ble_eq_true rfl) (Nat.le_of_ble_eq_true rfl) (Nat.le_of_ble_eq_true rfl) (Nat.le_of_ble_eq_true rfl) (Nat.le_of_ble_eq_true rfl) dX8_readsMove_102 (sX8_isGood hM) (fun r h9 hq => ?_) (fun x h9 hq => hq.elim)
    obtain ⟨rfl, z63, rfl, hzz63, hM⟩ := hq
    refine zV_if_ne (tgt := 109) O dX8_readsMove_105 (by decide) (fun hc => ?_) (fun hc => ?_)
    · replace hM := hM.1 hc
      refine zV_aload_n O dX8_readsMove_109 rfl rfl ?_
      refine zV_getI O zf_RX8_89 zt_185 rfl (by decide) dX8_readsMove_110 ?_
      refine zV_iconst (z := 2) O ⟨by omega, by omega⟩ dX8_readsMove_113 ?_
      refine zV_icmp_eq (tgt := 126) O dX8_readsMove_114 (by decide) (fun hc => ?_) (fun hc => ?_)
      · replace hM := hM.1 hc
        refine zV_aload_n O dX8_readsMove_126 rfl rfl ?_
        refine zV_getI O zf_RX8_92 zt_185 rfl (by decide) dX8_readsMove_127 ?_
        refine zV_i2l O dX8_readsMove_130 ?_
        refine zV_lconst (z := 1) O ⟨by omega, by omega⟩ rfl dX8_readsMove_131 ?_
        refine zV_ldc2 (z := 9) O ⟨by omega, by omega⟩ zi_1533.1 zi_1533.2 dX8_readsMove_132 ?_
        refine zV_callS (as := [aL (h62 185 14), aL 1, aL 9]) (st := []) O zc_X8_in (Or.inl zl_RX8_125) zi_1416 (Nat.le_of_ble_eq_true rfl) rfl rfl (Nat.le_of_ble_eq_true rfl) (Nat.le_of_ble_eq_true rfl) (Nat.le_of_ble_eq_true rfl) (Nat.le_of_ble_eq_true rfl) (Nat.le_of_ble_eq_true rfl) (Nat.le_of_ble_eq_true rfl) dX8_readsMove_135 (sX8_in hM) (fun r h9 hq => ?_) (fun x h9 hq => hq.elim)
        obtain ⟨rfl, z64, rfl, hzz64, hM⟩ := hq
        refine zV_if_ne (tgt := 150) O dX8_readsMove_138 (by decide) (fun hc => ?_) (fun hc => ?_)
        · replace hM := hM.1 hc
          refine zV_aload_n O dX8_readsMove_150 rfl rfl ?_
          refine zV_aload_n O dX8_readsMove_151 rfl rfl ?_
          refine zV_getR O zf_RX8_17 zt_185 rfl (by decide) dX8_readsMove_152 ?_
          refine zV_aload_n O dX8_readsMove_155 rfl rfl ?_
          refine zV_getI O zf_RX8_92 zt_185 rfl (by decide) dX8_readsMove_156 ?_
          refine zV_callV (as := [aR 187, aI (h62 185 14)]) (st := []) O zc_X8_plansIn (Or.inl zl_RX8_179) zi_1536 zi_115 zt_185 rfl rfl (by decide) (Nat.le_of_ble_eq_true rfl) rfl rfl (Nat.le_of_ble_eq_true rfl) (Nat.le_of_ble_eq_true rfl) (Nat.le_of_ble_eq_true rfl) (Nat.le_of_ble_eq_true rfl) (Nat.le_of_ble_eq_true rfl) (Nat.le_of_ble_eq_true rfl) dX8_readsMove_159 (sX8_plansIn zt_187 (by decide) ⟨by decide, by decide⟩ hM) (fun r h9 hq => ?_) (fun x h9 hq => hq.elim)
          obtain ⟨rfl, z65, rfl, hM⟩ := hq
          refine zV_aload_n O dX8_readsMove_162 rfl rfl ?_
          refine zV_getR O zf_RX8_17 zt_185 rfl (by decide) dX8_readsMove_163 ?_
          refine zV_iconst (z := 4) O ⟨by omega, by omega⟩ dX8_readsMove_166 ?_
          obtain ⟨hc, hM⟩ := hM
          refine zV_iald O zt_187 (by decide) hc dX8_readsMove_167 ?_
          refine zV_icmp_lt (tgt := 177) O dX8_readsMove_168 (by decide) (fun hc => ?_) (fun hc => ?_)
          · replace hM := hM.1 hc
            exact sX8_readsMove_b177 O hM
          · replace hM := hM.2 hc
            refine zV_aload_n O dX8_readsMove_171 rfl rfl ?_
            refine zV_iconst (z := 4) O ⟨by omega, by omega⟩ dX8_readsMove_172 ?_
            refine zV_callV (as := [aI 4]) (st := []) O zc_X8_wrongs (Or.inl zl_RX8_122) zi_1474 zi_104 zt_185 rfl rfl (by decide) (Nat.le_of_ble_eq_true rfl) rfl rfl (Nat.le_of_ble_eq_true rfl) (Nat.le_of_ble_eq_true rfl) (Nat.le_of_ble_eq_true rfl) (Nat.le_of_ble_eq_true rfl) (Nat.le_of_ble_eq_true rfl) (Nat.le_of_ble_eq_true rfl) dX8_readsMove_173 (sX8_wrongs hM) (fun r h67 hq => ?_) (fun x h9 hq => hq.elim)
            obtain ⟨z66, rfl, hzz66, hM⟩ := hq
            refine zV_pop O rfl dX8_readsMove_176 ?_
            exact sX8_readsMove_b177 O hM
        · replace hM := hM.2 hc
          refine zV_aload_n O dX8_readsMove_141 rfl rfl ?_
          refine zV_iconst (z := 2) O ⟨by omega, by omega⟩ dX8_readsMove_142 ?_
          refine zV_callV (as := [aI 2]) (st := []) O zc_X8_wrongs (Or.inl zl_RX8_122) zi_1474 zi_104 zt_185 rfl rfl (by decide) (Nat.le_of_ble_eq_true rfl) rfl rfl (Nat.le_of_ble_eq_true rfl) (Nat.le_of_ble_eq_true rfl) (Nat.le_of_ble_eq_true rfl) (Nat.le_of_ble_eq_true rfl) (Nat.le_of_ble_eq_true rfl) (Nat.le_of_ble_eq_true rfl) dX8_readsMove_143 (sX8_wrongs hM) (fun r h69 hq => ?_) (fun x h9 hq => hq.elim)
          obtain ⟨z68, rfl, hzz68, hM⟩ := hq
          refine zV_pop O rfl dX8_readsMove_146 ?_
          refine zV_goto (tgt := 177) O dX8_readsMove_147 (by decide) ?_
          exact sX8_readsMove_b177 O hM
      · replace hM := hM.2 hc
        refine zV_aload_n O dX8_readsMove_117 rfl rfl ?_
        refine zV_iconst (z := 1) O ⟨by omega, by omega⟩ dX8_readsMove_118 ?_
        refine zV_callV (as := [aI 1]) (st := []) O zc_X8_wrongs (Or.inl zl_RX8_122) zi_1474 zi_104 zt_185 rfl rfl (by decide) (Nat.le_of_ble_eq_true rfl) rfl rfl (Nat.le_of_ble_eq_true rfl) (Nat.le_of_ble_eq_true rfl) (Nat.le_of_ble_eq_true rfl) (Nat.le_of_ble_eq_true rfl) (Nat.le_of_ble_eq_true rfl) (Nat.le_of_ble_eq_true rfl) dX8_readsMove_119 (sX8_wrongs hM) (fun r h71 hq => ?_) (fun x h9 hq => hq.elim)
        obtain ⟨z70, rfl, hzz70, hM⟩ := hq
        refine zV_pop O rfl dX8_readsMove_122 ?_
        refine zV_goto (tgt := 177) O dX8_readsMove_123 (by decide) ?_
        exact sX8_readsMove_b177 O hM
    · replace hM := hM.2 hc
      exact zV_vret O rfl ⟨rfl, hM⟩ (Nat.le_of_ble_eq_true rfl) (Nat.le_of_ble_eq_true rfl) dX8_readsMove_108
  · replace hM := hM.2 hc
    exact zV_vret O rfl ⟨rfl, hM⟩ (Nat.le_of_ble_eq_true rfl) (Nat.le_of_ble_eq_true rfl) dX8_readsMove_87
def mX8_readsMove_b74 (Q : Hp → Prop) (v1 : Int) (h : Hp) : Prop := (mX8_wrongs 4 h (fun z72 h73 => (mX8_readsMove_b80 Q v1 h73)))
set_option maxHeartbeats 4000000 in
set_option maxRecDepth 100000 in
theorem sX8_readsMove_b74 {l0 : Launch} {a : ZC}  {Q : Hp → Prop}  (O : zOk l0 a cX8_readsMove RX8 3 none 197 [])   {v1 : Int} {h : Hp}  (hM : mX8_readsMove_b74 Q v1 h) : zV a (5, 0, 0, (qV Q), xN) 0 0 74 [some (aR 185), some (aI v1), none] [] h := by
  unfold mX8_readsMove_b74 at hM
  refine zV_aload_n O dX8_readsMove_74 rfl rfl ?_
  refine zV_iconst (z := 4) O ⟨by omega, by omega⟩ dX8_readsMove_75 ?_
  refine zV_callV (as := [aI 4]) (st := []) O zc_X8_wrongs (Or.inl zl_RX8_122) zi_1474 zi_104 zt_185 rfl rfl (by decide) (Nat.le_of_ble_eq_true rfl) rfl rfl (Nat.le_of_ble_eq_true rfl) (Nat.le_of_ble_eq_true rfl) (Nat.le_of_ble_eq_true rfl) (Nat.le_of_ble_eq_true rfl) (Nat.le_of_ble_eq_true rfl) (Nat.le_of_ble_eq_true rfl) dX8_readsMove_76 (sX8_wrongs hM) (fun r h73 hq => ?_) (fun x h9 hq => hq.elim)
  obtain ⟨z72, rfl, hzz72, hM⟩ := hq
  refine zV_pop O rfl dX8_readsMove_79 ?_
  exact sX8_readsMove_b80 O hM
def mX8_readsMove_b24 (Q : Hp → Prop) (s0 : Int) (h : Hp) : Prop := (((h 185 13) = (1 : Int) → ((s0 = ((-1) : Int) → (mX8_readsMove_b74 Q s0 h)) ∧ (¬ s0 = ((-1) : Int) → (mX8_cell s0 2 h (fun z74 => (((0 : Int) ≤ z74 ∧ z74 < 1096) ∧ (((rd h 187 z74) = (1 : Int) → (mX8_readsMove_b74 Q s0 h)) ∧ (¬ (rd h 187 z74) = (1 : Int) → (mX8_cell s0 4 h (fun z75 => (((0 : Int) ≤ z75 ∧ z75 < 1096) ∧ (((rd h 187 z75) = 0 → (mX8_readsMove_b80 Q s0 h)) ∧ (¬ (rd h 187 z75) = 0 → (mX8_readsMove_b74 Q s0 h)))))))))))))) ∧ (¬ (h 185 13) = (1 : Int) → (mX8_wrongs 1 h (fun z76 h77 => (mX8_readsMove_b80 Q s0 h77)))))
set_option maxHeartbeats 4000000 in
set_option maxRecDepth 100000 in
theorem sX8_readsMove_b24 {l0 : Launch} {a : ZC}  {Q : Hp → Prop}  (O : zOk l0 a cX8_readsMove RX8 3 none 197 [])   {s0 : Int} {h : Hp}  (hM : mX8_readsMove_b24 Q s0 h) : zV a (5, 0, 0, (qV Q), xN) 0 0 24 [some (aR 185), none, none] [aI s0] h := by
  unfold mX8_readsMove_b24 at hM
  refine zV_istore_n O dX8_readsMove_24 rfl (Nat.le_of_ble_eq_true rfl) rfl ?_
  refine zV_aload_n O dX8_readsMove_25 rfl rfl ?_
  refine zV_getI O zf_RX8_89 zt_185 rfl (by decide) dX8_readsMove_26 ?_
  refine zV_iconst (z := 1) O ⟨by omega, by omega⟩ dX8_readsMove_29 ?_
  refine zV_icmp_eq (tgt := 42) O dX8_readsMove_30 (by decide) (fun hc => ?_) (fun hc => ?_)
  · replace hM := hM.1 hc
    refine zV_iload_n O dX8_readsMove_42 rfl rfl ?_
    refine zV_iconst (z := -1) O ⟨by omega, by omega⟩ dX8_readsMove_43 ?_
    refine zV_icmp_eq (tgt := 74) O dX8_readsMove_44 (by decide) (fun hc => ?_) (fun hc => ?_)
    · replace hM := hM.1 hc
      exact sX8_readsMove_b74 O hM
    · replace hM := hM.2 hc
      refine zV_aload_n O dX8_readsMove_47 rfl rfl ?_
      refine zV_getR O zf_RX8_17 zt_185 rfl (by decide) dX8_readsMove_48 ?_
      refine zV_iload_n O dX8_readsMove_51 rfl rfl ?_
      refine zV_iconst (z := 2) O ⟨by omega, by omega⟩ dX8_readsMove_52 ?_
      refine zV_callS (as := [aI s0, aI 2]) (st := [aR 187]) O zc_X8_cell (Or.inl zl_RX8_129) zi_1505 (Nat.le_of_ble_eq_true rfl) rfl rfl (Nat.le_of_ble_eq_true rfl) (Nat.le_of_ble_eq_true rfl) (Nat.le_of_ble_eq_true rfl) (Nat.le_of_ble_eq_true rfl) (Nat.le_of_ble_eq_true rfl) (Nat.le_of_ble_eq_true rfl) dX8_readsMove_53 (sX8_cell hM) (fun r h9 hq => ?_) (fun x h9 hq => hq.elim)
      obtain ⟨rfl, z74, rfl, hM⟩ := hq
      obtain ⟨hc, hM⟩ := hM
      refine zV_iald O zt_187 (by decide) hc dX8_readsMove_56 ?_
      refine zV_iconst (z := 1) O ⟨by omega, by omega⟩ dX8_readsMove_57 ?_
      refine zV_icmp_eq (tgt := 74) O dX8_readsMove_58 (by decide) (fun hc => ?_) (fun hc => ?_)
      · replace hM := hM.1 hc
        exact sX8_readsMove_b74 O hM
      · replace hM := hM.2 hc
        refine zV_aload_n O dX8_readsMove_61 rfl rfl ?_
        refine zV_getR O zf_RX8_17 zt_185 rfl (by decide) dX8_readsMove_62 ?_
        refine zV_iload_n O dX8_readsMove_65 rfl rfl ?_
        refine zV_iconst (z := 4) O ⟨by omega, by omega⟩ dX8_readsMove_66 ?_
        refine zV_callS (as := [aI s0, aI 4]) (st := [aR 187]) O zc_X8_cell (Or.inl zl_RX8_129) zi_1505 (Nat.le_of_ble_eq_true rfl) rfl rfl (Nat.le_of_ble_eq_true rfl) (Nat.le_of_ble_eq_true rfl) (Nat.le_of_ble_eq_true rfl) (Nat.le_of_ble_eq_true rfl) (Nat.le_of_ble_eq_true rfl) (Nat.le_of_ble_eq_true rfl) dX8_readsMove_67 (sX8_cell hM) (fun r h9 hq => ?_) (fun x h9 hq => hq.elim)
        obtain ⟨rfl, z75, rfl, hM⟩ := hq
        obtain ⟨hc, hM⟩ := hM
        refine zV_iald O zt_187 (by decide) hc dX8_readsMove_70 ?_
        refine zV_if_eq (tgt := 80) O dX8_readsMove_71 (by decide) (fun hc => ?_) (fun hc => ?_)
        · replace hM := hM.1 hc
          exact sX8_readsMove_b80 O hM
        · replace hM := hM.2 hc
          exact sX8_readsMove_b74 O hM
  · replace hM := hM.2 hc
    refine zV_aload_n O dX8_readsMove_33 rfl rfl ?_
    refine zV_iconst (z := 1) O ⟨by omega, by omega⟩ dX8_readsMove_34 ?_
    refine zV_callV (as := [aI 1]) (st := []) O zc_X8_wrongs (Or.inl zl_RX8_122) zi_1474 zi_104 zt_185 rfl rfl (by decide) (Nat.le_of_ble_eq_true rfl) rfl rfl (Nat.le_of_ble_eq_true rfl) (Nat.le_of_ble_eq_true rfl) (Nat.le_of_ble_eq_true rfl) (Nat.le_of_ble_eq_true rfl) (Nat.le_of_ble_eq_true rfl) (Nat.le_of_ble_eq_true rfl) dX8_readsMove_35 (sX8_wrongs hM) (fun r h77 hq => ?_) (fun x h9 hq => hq.elim)
    obtain ⟨z76, rfl, hzz76, hM⟩ := hq
    refine zV_pop O rfl dX8_readsMove_38 ?_
    refine zV_goto (tgt := 80) O dX8_readsMove_39 (by decide) ?_
    exact sX8_readsMove_b80 O hM
def mX8_readsMove  (h : Hp) (Q : Hp → Prop) : Prop := (mX8_isGood h (fun z78 => ((¬ z78 = 0 → ((¬ (h 185 13) = (1 : Int) → (mX8_readsMove_b24 Q (-1) h)) ∧ ((h 185 13) = (1 : Int) → (mX8_toldHost h (fun z79 => (mX8_readsMove_b24 Q z79 h)))))) ∧ (z78 = 0 → (Q h)))))
set_option maxHeartbeats 4000000 in
set_option maxRecDepth 100000 in
theorem sX8_readsMove {l0 : Launch}  {h : Hp} {Q : Hp → Prop}  (hM : mX8_readsMove  h Q) : zSp l0 yX8_readsMove cX8_readsMove 3 none 197 (5) 0 0 [aR 185] h (qV Q) xN := by
  unfold mX8_readsMove at hM
  refine zSp_intro zpn_RX8 (Nat.le_of_ble_eq_true rfl) (fun a O => ?_)
  show zV a (5, 0, 0, (qV Q), xN) 0 0 0 [some (aR 185), none, none] [] h
  refine zV_aload_n O dX8_readsMove_0 rfl rfl ?_
  refine zV_callV (as := []) (st := []) O zc_X8_isGood (Or.inl zl_RX8_111) zi_1470 zi_103 zt_185 rfl rfl (by decide) (Nat.le_of_ble_eq_true rfl) rfl rfl (Nat.le_of_ble_eq_true rfl) (Nat.le_of_ble_eq_true rfl) (Nat.le_of_ble_eq_true rfl) (Nat.le_of_ble_eq_true rfl) (Nat.le_of_ble_eq_true rfl) (Nat.le_of_ble_eq_true rfl) dX8_readsMove_1 (sX8_isGood hM) (fun r h9 hq => ?_) (fun x h9 hq => hq.elim)
  obtain ⟨rfl, z78, rfl, hzz78, hM⟩ := hq
  refine zV_if_ne (tgt := 8) O dX8_readsMove_4 (by decide) (fun hc => ?_) (fun hc => ?_)
  · replace hM := hM.1 hc
    refine zV_aload_n O dX8_readsMove_8 rfl rfl ?_
    refine zV_getI O zf_RX8_89 zt_185 rfl (by decide) dX8_readsMove_9 ?_
    refine zV_iconst (z := 1) O ⟨by omega, by omega⟩ dX8_readsMove_12 ?_
    refine zV_icmp_ne (tgt := 23) O dX8_readsMove_13 (by decide) (fun hc => ?_) (fun hc => ?_)
    · replace hM := hM.1 hc
      refine zV_iconst (z := -1) O ⟨by omega, by omega⟩ dX8_readsMove_23 ?_
      exact sX8_readsMove_b24 O hM
    · replace hM := hM.2 hc
      refine zV_aload_n O dX8_readsMove_16 rfl rfl ?_
      refine zV_callV (as := []) (st := []) O zc_X8_toldHost (Or.inl zl_RX8_150) zi_1502 zi_110 zt_185 rfl rfl (by decide) (Nat.le_of_ble_eq_true rfl) rfl rfl (Nat.le_of_ble_eq_true rfl) (Nat.le_of_ble_eq_true rfl) (Nat.le_of_ble_eq_true rfl) (Nat.le_of_ble_eq_true rfl) (Nat.le_of_ble_eq_true rfl) (Nat.le_of_ble_eq_true rfl) dX8_readsMove_17 (sX8_toldHost hM) (fun r h9 hq => ?_) (fun x h9 hq => hq.elim)
      obtain ⟨rfl, z79, rfl, hM⟩ := hq
      refine zV_goto (tgt := 24) O dX8_readsMove_20 (by decide) ?_
      exact sX8_readsMove_b24 O hM
  · replace hM := hM.2 hc
    exact zV_vret O rfl ⟨rfl, hM⟩ (Nat.le_of_ble_eq_true rfl) (Nat.le_of_ble_eq_true rfl) dX8_readsMove_7
def mX8_side  (h : Hp) (Q : Int → Hp → Prop) : Prop := (mX8_passes 1132 h (fun z5 h6 => ((z5 = 0 → (mX8_number 1 250 h6 (fun z7 h8 => (Q z7 h8)))) ∧ (¬ z5 = 0 → (Q 0 h6)))))
set_option maxHeartbeats 4000000 in
set_option maxRecDepth 100000 in
theorem sX8_side {l0 : Launch}  {h : Hp} {Q : Int → Hp → Prop}  (hM : mX8_side  h Q) : zSp l0 yX8_side cX8_side 1 (some .int) 197 (5) 0 0 [aR 185] h (qI Q) xN := by
  unfold mX8_side at hM
  refine zSp_intro zpn_RX8 (Nat.le_of_ble_eq_true rfl) (fun a O => ?_)
  show zV a (5, 0, 0, (qI Q), xN) 0 0 0 [some (aR 185)] [] h
  refine zV_aload_n O dX8_side_0 rfl rfl ?_
  refine zV_ldc2 (z := 1132) O ⟨by omega, by omega⟩ zi_1527.1 zi_1527.2 dX8_side_1 ?_
  refine zV_callV (as := [aL 1132]) (st := []) O zc_X8_passes (Or.inl zl_RX8_135) zi_1462 zi_101 zt_185 rfl rfl (by decide) (Nat.le_of_ble_eq_true rfl) rfl rfl (Nat.le_of_ble_eq_true rfl) (Nat.le_of_ble_eq_true rfl) (Nat.le_of_ble_eq_true rfl) (Nat.le_of_ble_eq_true rfl) (Nat.le_of_ble_eq_true rfl) (Nat.le_of_ble_eq_true rfl) dX8_side_4 (sX8_passes hM) (fun r h6 hq => ?_) (fun x h9 hq => hq.elim)
  obtain ⟨z5, rfl, hzz5, hM⟩ := hq
  refine zV_if_eq (tgt := 14) O dX8_side_7 (by decide) (fun hc => ?_) (fun hc => ?_)
  · replace hM := hM.1 hc
    refine zV_aload_n O dX8_side_14 rfl rfl ?_
    refine zV_iconst (z := 1) O ⟨by omega, by omega⟩ dX8_side_15 ?_
    refine zV_sipush (z := 250) O ⟨by omega, by omega⟩ rfl dX8_side_16 ?_
    refine zV_callV (as := [aI 1, aI 250]) (st := []) O zc_X8_number (Or.inl zl_RX8_140) zi_1479 zi_105 zt_185 rfl rfl (by decide) (Nat.le_of_ble_eq_true rfl) rfl rfl (Nat.le_of_ble_eq_true rfl) (Nat.le_of_ble_eq_true rfl) (Nat.le_of_ble_eq_true rfl) (Nat.le_of_ble_eq_true rfl) (Nat.le_of_ble_eq_true rfl) (Nat.le_of_ble_eq_true rfl) dX8_side_19 (sX8_number hM) (fun r h8 hq => ?_) (fun x h9 hq => hq.elim)
    obtain ⟨z7, rfl, hM⟩ := hq
    exact zV_iret O rfl ⟨_, rfl, hM⟩ (Nat.le_of_ble_eq_true rfl) (Nat.le_of_ble_eq_true rfl) dX8_side_22
  · replace hM := hM.2 hc
    refine zV_iconst (z := 0) O ⟨by omega, by omega⟩ dX8_side_10 ?_
    refine zV_goto (tgt := 22) O dX8_side_11 (by decide) ?_
    exact zV_iret O rfl ⟨_, rfl, hM⟩ (Nat.le_of_ble_eq_true rfl) (Nat.le_of_ble_eq_true rfl) dX8_side_22
def mX8_valueRead  (h : Hp) (Q : Hp → Prop) : Prop := (mX8_isGood h (fun z10 => ((¬ z10 = 0 → ((¬ (h 185 13) = (2 : Int) → (mX8_propertyHere h (fun z11 => ((¬ z11 = ((-1) : Int) → (mX8_adds z11 h (fun h12 => (mX8_next h12 (fun h13 => (Q h13)))))) ∧ (z11 = ((-1) : Int) → (mX8_wrongs 1 h (fun z14 h15 => (Q h15)))))))) ∧ ((h 185 13) = (2 : Int) → (mX8_number 0 9999 h (fun z16 h17 => (zr (100 + z16) ∧ (mX8_adds (100 + z16) h17 (fun h18 => (Q h18))))))))) ∧ (z10 = 0 → (Q h)))))
set_option maxHeartbeats 4000000 in
set_option maxRecDepth 100000 in
theorem sX8_valueRead {l0 : Launch}  {h : Hp} {Q : Hp → Prop}  (hM : mX8_valueRead  h Q) : zSp l0 yX8_valueRead cX8_valueRead 2 none 197 (5) 0 0 [aR 185] h (qV Q) xN := by
  unfold mX8_valueRead at hM
  refine zSp_intro zpn_RX8 (Nat.le_of_ble_eq_true rfl) (fun a O => ?_)
  show zV a (5, 0, 0, (qV Q), xN) 0 0 0 [some (aR 185), none] [] h
  refine zV_aload_n O dX8_valueRead_0 rfl rfl ?_
  refine zV_callV (as := []) (st := []) O zc_X8_isGood (Or.inl zl_RX8_111) zi_1470 zi_103 zt_185 rfl rfl (by decide) (Nat.le_of_ble_eq_true rfl) rfl rfl (Nat.le_of_ble_eq_true rfl) (Nat.le_of_ble_eq_true rfl) (Nat.le_of_ble_eq_true rfl) (Nat.le_of_ble_eq_true rfl) (Nat.le_of_ble_eq_true rfl) (Nat.le_of_ble_eq_true rfl) dX8_valueRead_1 (sX8_isGood hM) (fun r h9 hq => ?_) (fun x h9 hq => hq.elim)
  obtain ⟨rfl, z10, rfl, hzz10, hM⟩ := hq
  refine zV_if_ne (tgt := 8) O dX8_valueRead_4 (by decide) (fun hc => ?_) (fun hc => ?_)
  · replace hM := hM.1 hc
    refine zV_aload_n O dX8_valueRead_8 rfl rfl ?_
    refine zV_getI O zf_RX8_89 zt_185 rfl (by decide) dX8_valueRead_9 ?_
    refine zV_iconst (z := 2) O ⟨by omega, by omega⟩ dX8_valueRead_12 ?_
    refine zV_icmp_ne (tgt := 34) O dX8_valueRead_13 (by decide) (fun hc => ?_) (fun hc => ?_)
    · replace hM := hM.1 hc
      refine zV_aload_n O dX8_valueRead_34 rfl rfl ?_
      refine zV_callV (as := []) (st := []) O zc_X8_propertyHere (Or.inl zl_RX8_383) zi_1885 zi_159 zt_185 rfl rfl (by decide) (Nat.le_of_ble_eq_true rfl) rfl rfl (Nat.le_of_ble_eq_true rfl) (Nat.le_of_ble_eq_true rfl) (Nat.le_of_ble_eq_true rfl) (Nat.le_of_ble_eq_true rfl) (Nat.le_of_ble_eq_true rfl) (Nat.le_of_ble_eq_true rfl) dX8_valueRead_35 (sX8_propertyHere hM) (fun r h9 hq => ?_) (fun x h9 hq => hq.elim)
      obtain ⟨rfl, z11, rfl, hM⟩ := hq
      refine zV_istore_n O dX8_valueRead_38 rfl (Nat.le_of_ble_eq_true rfl) rfl ?_
      refine zV_iload_n O dX8_valueRead_39 rfl rfl ?_
      refine zV_iconst (z := -1) O ⟨by omega, by omega⟩ dX8_valueRead_40 ?_
      refine zV_icmp_ne (tgt := 51) O dX8_valueRead_41 (by decide) (fun hc => ?_) (fun hc => ?_)
      · replace hM := hM.1 hc
        refine zV_aload_n O dX8_valueRead_51 rfl rfl ?_
        refine zV_iload_n O dX8_valueRead_52 rfl rfl ?_
        refine zV_callV (as := [aI z11]) (st := []) O zc_X8_adds (Or.inl zl_RX8_380) zi_1881 zi_158 zt_185 rfl rfl (by decide) (Nat.le_of_ble_eq_true rfl) rfl rfl (Nat.le_of_ble_eq_true rfl) (Nat.le_of_ble_eq_true rfl) (Nat.le_of_ble_eq_true rfl) (Nat.le_of_ble_eq_true rfl) (Nat.le_of_ble_eq_true rfl) (Nat.le_of_ble_eq_true rfl) dX8_valueRead_53 (sX8_adds hM) (fun r h12 hq => ?_) (fun x h9 hq => hq.elim)
        obtain ⟨rfl, hM⟩ := hq
        refine zV_aload_n O dX8_valueRead_56 rfl rfl ?_
        refine zV_callV (as := []) (st := []) O zc_X8_next (Or.inl zl_RX8_108) zi_1428 zi_95 zt_185 rfl rfl (by decide) (Nat.le_of_ble_eq_true rfl) rfl rfl (Nat.le_of_ble_eq_true rfl) (Nat.le_of_ble_eq_true rfl) (Nat.le_of_ble_eq_true rfl) (Nat.le_of_ble_eq_true rfl) (Nat.le_of_ble_eq_true rfl) (Nat.le_of_ble_eq_true rfl) dX8_valueRead_57 (sX8_next hM) (fun r h13 hq => ?_) (fun x h9 hq => hq.elim)
        obtain ⟨rfl, hM⟩ := hq
        exact zV_vret O rfl ⟨rfl, hM⟩ (Nat.le_of_ble_eq_true rfl) (Nat.le_of_ble_eq_true rfl) dX8_valueRead_60
      · replace hM := hM.2 hc
        refine zV_aload_n O dX8_valueRead_44 rfl rfl ?_
        refine zV_iconst (z := 1) O ⟨by omega, by omega⟩ dX8_valueRead_45 ?_
        refine zV_callV (as := [aI 1]) (st := []) O zc_X8_wrongs (Or.inl zl_RX8_122) zi_1474 zi_104 zt_185 rfl rfl (by decide) (Nat.le_of_ble_eq_true rfl) rfl rfl (Nat.le_of_ble_eq_true rfl) (Nat.le_of_ble_eq_true rfl) (Nat.le_of_ble_eq_true rfl) (Nat.le_of_ble_eq_true rfl) (Nat.le_of_ble_eq_true rfl) (Nat.le_of_ble_eq_true rfl) dX8_valueRead_46 (sX8_wrongs hM) (fun r h15 hq => ?_) (fun x h9 hq => hq.elim)
        obtain ⟨z14, rfl, hzz14, hM⟩ := hq
        refine zV_pop O rfl dX8_valueRead_49 ?_
        exact zV_vret O rfl ⟨rfl, hM⟩ (Nat.le_of_ble_eq_true rfl) (Nat.le_of_ble_eq_true rfl) dX8_valueRead_50
    · replace hM := hM.2 hc
      refine zV_aload_n O dX8_valueRead_16 rfl rfl ?_
      refine zV_iconst (z := 0) O ⟨by omega, by omega⟩ dX8_valueRead_17 ?_
      refine zV_sipush (z := 9999) O ⟨by omega, by omega⟩ rfl dX8_valueRead_18 ?_
      refine zV_callV (as := [aI 0, aI 9999]) (st := []) O zc_X8_number (Or.inl zl_RX8_140) zi_1479 zi_105 zt_185 rfl rfl (by decide) (Nat.le_of_ble_eq_true rfl) rfl rfl (Nat.le_of_ble_eq_true rfl) (Nat.le_of_ble_eq_true rfl) (Nat.le_of_ble_eq_true rfl) (Nat.le_of_ble_eq_true rfl) (Nat.le_of_ble_eq_true rfl) (Nat.le_of_ble_eq_true rfl) dX8_valueRead_21 (sX8_number hM) (fun r h17 hq => ?_) (fun x h9 hq => hq.elim)
      obtain ⟨z16, rfl, hM⟩ := hq
      refine zV_istore_n O dX8_valueRead_24 rfl (Nat.le_of_ble_eq_true rfl) rfl ?_
      refine zV_aload_n O dX8_valueRead_25 rfl rfl ?_
      refine zV_bipush (z := 100) O ⟨by omega, by omega⟩ rfl dX8_valueRead_26 ?_
      refine zV_iload_n O dX8_valueRead_28 rfl rfl ?_
      obtain ⟨hc, hM⟩ := hM
      refine zV_iadd O dX8_valueRead_29 hc ?_
      refine zV_callV (as := [aI (100 + z16)]) (st := []) O zc_X8_adds (Or.inl zl_RX8_380) zi_1881 zi_158 zt_185 rfl rfl (by decide) (Nat.le_of_ble_eq_true rfl) rfl rfl (Nat.le_of_ble_eq_true rfl) (Nat.le_of_ble_eq_true rfl) (Nat.le_of_ble_eq_true rfl) (Nat.le_of_ble_eq_true rfl) (Nat.le_of_ble_eq_true rfl) (Nat.le_of_ble_eq_true rfl) dX8_valueRead_30 (sX8_adds hM) (fun r h18 hq => ?_) (fun x h9 hq => hq.elim)
      obtain ⟨rfl, hM⟩ := hq
      exact zV_vret O rfl ⟨rfl, hM⟩ (Nat.le_of_ble_eq_true rfl) (Nat.le_of_ble_eq_true rfl) dX8_valueRead_33
  · replace hM := hM.2 hc
    exact zV_vret O rfl ⟨rfl, hM⟩ (Nat.le_of_ble_eq_true rfl) (Nat.le_of_ble_eq_true rfl) dX8_valueRead_7
def mX8_comparisonRead_b36 (Q : Hp → Prop) (K0 : Hp → Prop) (s0 : Int) (h : Hp) : Prop := (mX8_goesIn s0 h (fun z35 h36 => ((¬ z35 = 0 → (K0 h36)) ∧ (z35 = 0 → (Q h36)))))
set_option maxHeartbeats 4000000 in
set_option maxRecDepth 100000 in
theorem sX8_comparisonRead_b36 {l0 : Launch} {a : ZC}  {Q : Hp → Prop} {K0 : Hp → Prop} (O : zOk l0 a cX8_comparisonRead RX8 2 none 197 [])  (hK0 : ∀ (h : Hp), K0  h → zV a (6, 0, 0, (qV Q), xN) 0 0 0 [some (aR 185), none] [] h) {s0 : Int} {h : Hp}  (hM : mX8_comparisonRead_b36 Q K0 s0 h) : zV a (6, 0, 0, (qV Q), xN) 0 0 36 [some (aR 185), none] [aI s0, aR 185] h := by
  unfold mX8_comparisonRead_b36 at hM
  refine zV_callV (as := [aI s0]) (st := []) O zc_X8_goesIn (Or.inl zl_RX8_397) zi_1873 zi_156 zt_185 rfl rfl (by decide) (Nat.le_of_ble_eq_true rfl) rfl rfl (Nat.le_of_ble_eq_true rfl) (Nat.le_of_ble_eq_true rfl) (Nat.le_of_ble_eq_true rfl) (Nat.le_of_ble_eq_true rfl) (Nat.le_of_ble_eq_true rfl) (Nat.le_of_ble_eq_true rfl) dX8_comparisonRead_36 (sX8_goesIn hM) (fun r h36 hq => ?_) (fun x h9 hq => hq.elim)
  obtain ⟨z35, rfl, hzz35, hM⟩ := hq
  refine zV_if_ne (tgt := 0) O dX8_comparisonRead_39 (by decide) (fun hc => ?_) (fun hc => ?_)
  · replace hM := hM.1 hc
    exact hK0 _ hM
  · replace hM := hM.2 hc
    exact zV_vret O rfl ⟨rfl, hM⟩ (Nat.le_of_ble_eq_true rfl) (Nat.le_of_ble_eq_true rfl) dX8_comparisonRead_42
def mX8_comparisonRead_b19 (Q : Hp → Prop) (K0 : Hp → Prop) (h : Hp) : Prop := (mX8_isWord 10631 h (fun z37 => ((z37 = 0 → (mX8_comparisonRead_b36 Q K0 1 h)) ∧ (¬ z37 = 0 → (mX8_comparisonRead_b36 Q K0 23 h)))))
set_option maxHeartbeats 4000000 in
set_option maxRecDepth 100000 in
theorem sX8_comparisonRead_b19 {l0 : Launch} {a : ZC}  {Q : Hp → Prop} {K0 : Hp → Prop} (O : zOk l0 a cX8_comparisonRead RX8 2 none 197 [])  (hK0 : ∀ (h : Hp), K0  h → zV a (6, 0, 0, (qV Q), xN) 0 0 0 [some (aR 185), none] [] h)  {h : Hp}  (hM : mX8_comparisonRead_b19 Q K0 h) : zV a (6, 0, 0, (qV Q), xN) 0 0 19 [some (aR 185), none] [] h := by
  unfold mX8_comparisonRead_b19 at hM
  refine zV_aload_n O dX8_comparisonRead_19 rfl rfl ?_
  refine zV_aload_n O dX8_comparisonRead_20 rfl rfl ?_
  refine zV_ldc2 (z := 10631) O ⟨by omega, by omega⟩ zi_1870.1 zi_1870.2 dX8_comparisonRead_21 ?_
  refine zV_callV (as := [aL 10631]) (st := [aR 185]) O zc_X8_isWord (Or.inl zl_RX8_115) zi_1466 zi_102 zt_185 rfl rfl (by decide) (Nat.le_of_ble_eq_true rfl) rfl rfl (Nat.le_of_ble_eq_true rfl) (Nat.le_of_ble_eq_true rfl) (Nat.le_of_ble_eq_true rfl) (Nat.le_of_ble_eq_true rfl) (Nat.le_of_ble_eq_true rfl) (Nat.le_of_ble_eq_true rfl) dX8_comparisonRead_24 (sX8_isWord hM) (fun r h9 hq => ?_) (fun x h9 hq => hq.elim)
  obtain ⟨rfl, z37, rfl, hzz37, hM⟩ := hq
  refine zV_if_eq (tgt := 35) O dX8_comparisonRead_27 (by decide) (fun hc => ?_) (fun hc => ?_)
  · replace hM := hM.1 hc
    refine zV_iconst (z := 1) O ⟨by omega, by omega⟩ dX8_comparisonRead_35 ?_
    exact sX8_comparisonRead_b36 O hK0 hM
  · replace hM := hM.2 hc
    refine zV_bipush (z := 23) O ⟨by omega, by omega⟩ rfl dX8_comparisonRead_30 ?_
    refine zV_goto (tgt := 36) O dX8_comparisonRead_32 (by decide) ?_
    exact sX8_comparisonRead_b36 O hK0 hM
def mX8_comparisonRead_b99 (Q : Hp → Prop) (v1 : Int) (h : Hp) : Prop := (mX8_isGood h (fun z38 => ((¬ z38 = 0 → (mX8_next h (fun h39 => (mX8_valueRead h39 (fun h40 => (mX8_isGood h40 (fun z41 => ((z41 = 0 → (Q h40)) ∧ (¬ z41 = 0 → (mX8_adds v1 h40 (fun h42 => (Q h42)))))))))))) ∧ (z38 = 0 → (Q h)))))
set_option maxHeartbeats 4000000 in
set_option maxRecDepth 100000 in
theorem sX8_comparisonRead_b99 {l0 : Launch} {a : ZC}  {Q : Hp → Prop}  (O : zOk l0 a cX8_comparisonRead RX8 2 none 197 [])   {v1 : Int} {h : Hp}  (hM : mX8_comparisonRead_b99 Q v1 h) : zV a (6, 0, 0, (qV Q), xN) 0 0 99 [some (aR 185), some (aI v1)] [] h := by
  unfold mX8_comparisonRead_b99 at hM
  refine zV_aload_n O dX8_comparisonRead_99 rfl rfl ?_
  refine zV_callV (as := []) (st := []) O zc_X8_isGood (Or.inl zl_RX8_111) zi_1470 zi_103 zt_185 rfl rfl (by decide) (Nat.le_of_ble_eq_true rfl) rfl rfl (Nat.le_of_ble_eq_true rfl) (Nat.le_of_ble_eq_true rfl) (Nat.le_of_ble_eq_true rfl) (Nat.le_of_ble_eq_true rfl) (Nat.le_of_ble_eq_true rfl) (Nat.le_of_ble_eq_true rfl) dX8_comparisonRead_100 (sX8_isGood hM) (fun r h9 hq => ?_) (fun x h9 hq => hq.elim)
  obtain ⟨rfl, z38, rfl, hzz38, hM⟩ := hq
  refine zV_if_ne (tgt := 107) O dX8_comparisonRead_103 (by decide) (fun hc => ?_) (fun hc => ?_)
  · replace hM := hM.1 hc
    refine zV_aload_n O dX8_comparisonRead_107 rfl rfl ?_
    refine zV_callV (as := []) (st := []) O zc_X8_next (Or.inl zl_RX8_108) zi_1428 zi_95 zt_185 rfl rfl (by decide) (Nat.le_of_ble_eq_true rfl) rfl rfl (Nat.le_of_ble_eq_true rfl) (Nat.le_of_ble_eq_true rfl) (Nat.le_of_ble_eq_true rfl) (Nat.le_of_ble_eq_true rfl) (Nat.le_of_ble_eq_true rfl) (Nat.le_of_ble_eq_true rfl) dX8_comparisonRead_108 (sX8_next hM) (fun r h39 hq => ?_) (fun x h9 hq => hq.elim)
    obtain ⟨rfl, hM⟩ := hq
    refine zV_aload_n O dX8_comparisonRead_111 rfl rfl ?_
    refine zV_callV (as := []) (st := []) O zc_X8_valueRead (Or.inl zl_RX8_400) zi_1877 zi_157 zt_185 rfl rfl (by decide) (Nat.le_of_ble_eq_true rfl) rfl rfl (Nat.le_of_ble_eq_true rfl) (Nat.le_of_ble_eq_true rfl) (Nat.le_of_ble_eq_true rfl) (Nat.le_of_ble_eq_true rfl) (Nat.le_of_ble_eq_true rfl) (Nat.le_of_ble_eq_true rfl) dX8_comparisonRead_112 (sX8_valueRead hM) (fun r h40 hq => ?_) (fun x h9 hq => hq.elim)
    obtain ⟨rfl, hM⟩ := hq
    refine zV_aload_n O dX8_comparisonRead_115 rfl rfl ?_
    refine zV_callV (as := []) (st := []) O zc_X8_isGood (Or.inl zl_RX8_111) zi_1470 zi_103 zt_185 rfl rfl (by decide) (Nat.le_of_ble_eq_true rfl) rfl rfl (Nat.le_of_ble_eq_true rfl) (Nat.le_of_ble_eq_true rfl) (Nat.le_of_ble_eq_true rfl) (Nat.le_of_ble_eq_true rfl) (Nat.le_of_ble_eq_true rfl) (Nat.le_of_ble_eq_true rfl) dX8_comparisonRead_116 (sX8_isGood hM) (fun r h9 hq => ?_) (fun x h9 hq => hq.elim)
    obtain ⟨rfl, z41, rfl, hzz41, hM⟩ := hq
    refine zV_if_eq (tgt := 127) O dX8_comparisonRead_119 (by decide) (fun hc => ?_) (fun hc => ?_)
    · replace hM := hM.1 hc
      exact zV_vret O rfl ⟨rfl, hM⟩ (Nat.le_of_ble_eq_true rfl) (Nat.le_of_ble_eq_true rfl) dX8_comparisonRead_127
    · replace hM := hM.2 hc
      refine zV_aload_n O dX8_comparisonRead_122 rfl rfl ?_
      refine zV_iload_n O dX8_comparisonRead_123 rfl rfl ?_
      refine zV_callV (as := [aI v1]) (st := []) O zc_X8_adds (Or.inl zl_RX8_380) zi_1881 zi_158 zt_185 rfl rfl (by decide) (Nat.le_of_ble_eq_true rfl) rfl rfl (Nat.le_of_ble_eq_true rfl) (Nat.le_of_ble_eq_true rfl) (Nat.le_of_ble_eq_true rfl) (Nat.le_of_ble_eq_true rfl) (Nat.le_of_ble_eq_true rfl) (Nat.le_of_ble_eq_true rfl) dX8_comparisonRead_124 (sX8_adds hM) (fun r h42 hq => ?_) (fun x h9 hq => hq.elim)
      obtain ⟨rfl, hM⟩ := hq
      exact zV_vret O rfl ⟨rfl, hM⟩ (Nat.le_of_ble_eq_true rfl) (Nat.le_of_ble_eq_true rfl) dX8_comparisonRead_127
  · replace hM := hM.2 hc
    exact zV_vret O rfl ⟨rfl, hM⟩ (Nat.le_of_ble_eq_true rfl) (Nat.le_of_ble_eq_true rfl) dX8_comparisonRead_106
def mX8_comparisonRead_b77 (Q : Hp → Prop) (s0 : Int) (h : Hp) : Prop := ((¬ s0 = (21 : Int) → (mX8_comparisonRead_b99 Q s0 h)) ∧ (s0 = (21 : Int) → (mX8_isByte 61 h (fun z43 => ((¬ z43 = 0 → (mX8_comparisonRead_b99 Q s0 h)) ∧ (z43 = 0 → (mX8_wrongs 1 h (fun z44 h45 => (mX8_comparisonRead_b99 Q s0 h45)))))))))
set_option maxHeartbeats 4000000 in
set_option maxRecDepth 100000 in
theorem sX8_comparisonRead_b77 {l0 : Launch} {a : ZC}  {Q : Hp → Prop}  (O : zOk l0 a cX8_comparisonRead RX8 2 none 197 [])   {s0 : Int} {h : Hp}  (hM : mX8_comparisonRead_b77 Q s0 h) : zV a (6, 0, 0, (qV Q), xN) 0 0 77 [some (aR 185), none] [aI s0] h := by
  unfold mX8_comparisonRead_b77 at hM
  refine zV_istore_n O dX8_comparisonRead_77 rfl (Nat.le_of_ble_eq_true rfl) rfl ?_
  refine zV_iload_n O dX8_comparisonRead_78 rfl rfl ?_
  refine zV_bipush (z := 21) O ⟨by omega, by omega⟩ rfl dX8_comparisonRead_79 ?_
  refine zV_icmp_ne (tgt := 99) O dX8_comparisonRead_81 (by decide) (fun hc => ?_) (fun hc => ?_)
  · replace hM := hM.1 hc
    exact sX8_comparisonRead_b99 O hM
  · replace hM := hM.2 hc
    refine zV_aload_n O dX8_comparisonRead_84 rfl rfl ?_
    refine zV_bipush (z := 61) O ⟨by omega, by omega⟩ rfl dX8_comparisonRead_85 ?_
    refine zV_callV (as := [aI 61]) (st := []) O zc_X8_isByte (Or.inl zl_RX8_119) zi_1489 zi_107 zt_185 rfl rfl (by decide) (Nat.le_of_ble_eq_true rfl) rfl rfl (Nat.le_of_ble_eq_true rfl) (Nat.le_of_ble_eq_true rfl) (Nat.le_of_ble_eq_true rfl) (Nat.le_of_ble_eq_true rfl) (Nat.le_of_ble_eq_true rfl) (Nat.le_of_ble_eq_true rfl) dX8_comparisonRead_87 (sX8_isByte hM) (fun r h9 hq => ?_) (fun x h9 hq => hq.elim)
    obtain ⟨rfl, z43, rfl, hzz43, hM⟩ := hq
    refine zV_if_ne (tgt := 99) O dX8_comparisonRead_90 (by decide) (fun hc => ?_) (fun hc => ?_)
    · replace hM := hM.1 hc
      exact sX8_comparisonRead_b99 O hM
    · replace hM := hM.2 hc
      refine zV_aload_n O dX8_comparisonRead_93 rfl rfl ?_
      refine zV_iconst (z := 1) O ⟨by omega, by omega⟩ dX8_comparisonRead_94 ?_
      refine zV_callV (as := [aI 1]) (st := []) O zc_X8_wrongs (Or.inl zl_RX8_122) zi_1474 zi_104 zt_185 rfl rfl (by decide) (Nat.le_of_ble_eq_true rfl) rfl rfl (Nat.le_of_ble_eq_true rfl) (Nat.le_of_ble_eq_true rfl) (Nat.le_of_ble_eq_true rfl) (Nat.le_of_ble_eq_true rfl) (Nat.le_of_ble_eq_true rfl) (Nat.le_of_ble_eq_true rfl) dX8_comparisonRead_95 (sX8_wrongs hM) (fun r h45 hq => ?_) (fun x h9 hq => hq.elim)
      obtain ⟨z44, rfl, hzz44, hM⟩ := hq
      refine zV_pop O rfl dX8_comparisonRead_98 ?_
      exact sX8_comparisonRead_b99 O hM
def mX8_comparisonRead_b0 (Q : Hp → Prop) : Nat → Hp → Prop
  | 0 => fun _ => False
  | fu0 + 1 => fun h => (mX8_isWord 10631 h (fun z46 => ((¬ z46 = 0 → (mX8_comparisonRead_b19 Q (mX8_comparisonRead_b0 Q fu0) h)) ∧ (z46 = 0 → (mX8_isByte 40 h (fun z47 => ((z47 = 0 → (mX8_valueRead h (fun h48 => (mX8_isByte 60 h48 (fun z49 => ((z49 = 0 → (mX8_isByte 62 h48 (fun z50 => ((z50 = 0 → (mX8_comparisonRead_b77 Q 21 h48)) ∧ (¬ z50 = 0 → (mX8_comparisonRead_b77 Q 22 h48)))))) ∧ (¬ z49 = 0 → (mX8_comparisonRead_b77 Q 20 h48)))))))) ∧ (¬ z47 = 0 → (mX8_comparisonRead_b19 Q (mX8_comparisonRead_b0 Q fu0) h)))))))))
set_option maxHeartbeats 4000000 in
set_option maxRecDepth 100000 in
theorem sX8_comparisonRead_b0 {l0 : Launch} {a : ZC}  {Q : Hp → Prop}  (O : zOk l0 a cX8_comparisonRead RX8 2 none 197 [])   : ∀ (ff : Nat)  (h : Hp), mX8_comparisonRead_b0 Q ff  h → zV a (6, 0, 0, (qV Q), xN) 0 0 0 [some (aR 185), none] [] h := by
  intro ff
  induction ff with
  | zero => intro  h hM; exact hM.elim
  | succ ff ih =>
    have hK0 := ih
    intro  h hM
    unfold mX8_comparisonRead_b0 at hM
    refine zV_aload_n O dX8_comparisonRead_0 rfl rfl ?_
    refine zV_ldc2 (z := 10631) O ⟨by omega, by omega⟩ zi_1870.1 zi_1870.2 dX8_comparisonRead_1 ?_
    refine zV_callV (as := [aL 10631]) (st := []) O zc_X8_isWord (Or.inl zl_RX8_115) zi_1466 zi_102 zt_185 rfl rfl (by decide) (Nat.le_of_ble_eq_true rfl) rfl rfl (Nat.le_of_ble_eq_true rfl) (Nat.le_of_ble_eq_true rfl) (Nat.le_of_ble_eq_true rfl) (Nat.le_of_ble_eq_true rfl) (Nat.le_of_ble_eq_true rfl) (Nat.le_of_ble_eq_true rfl) dX8_comparisonRead_4 (sX8_isWord hM) (fun r h9 hq => ?_) (fun x h9 hq => hq.elim)
    obtain ⟨rfl, z46, rfl, hzz46, hM⟩ := hq
    refine zV_if_ne (tgt := 19) O dX8_comparisonRead_7 (by decide) (fun hc => ?_) (fun hc => ?_)
    · replace hM := hM.1 hc
      exact sX8_comparisonRead_b19 O hK0 hM
    · replace hM := hM.2 hc
      refine zV_aload_n O dX8_comparisonRead_10 rfl rfl ?_
      refine zV_bipush (z := 40) O ⟨by omega, by omega⟩ rfl dX8_comparisonRead_11 ?_
      refine zV_callV (as := [aI 40]) (st := []) O zc_X8_isByte (Or.inl zl_RX8_119) zi_1489 zi_107 zt_185 rfl rfl (by decide) (Nat.le_of_ble_eq_true rfl) rfl rfl (Nat.le_of_ble_eq_true rfl) (Nat.le_of_ble_eq_true rfl) (Nat.le_of_ble_eq_true rfl) (Nat.le_of_ble_eq_true rfl) (Nat.le_of_ble_eq_true rfl) (Nat.le_of_ble_eq_true rfl) dX8_comparisonRead_13 (sX8_isByte hM) (fun r h9 hq => ?_) (fun x h9 hq => hq.elim)
      obtain ⟨rfl, z47, rfl, hzz47, hM⟩ := hq
      refine zV_if_eq (tgt := 43) O dX8_comparisonRead_16 (by decide) (fun hc => ?_) (fun hc => ?_)
      · replace hM := hM.1 hc
        refine zV_aload_n O dX8_comparisonRead_43 rfl rfl ?_
        refine zV_callV (as := []) (st := []) O zc_X8_valueRead (Or.inl zl_RX8_400) zi_1877 zi_157 zt_185 rfl rfl (by decide) (Nat.le_of_ble_eq_true rfl) rfl rfl (Nat.le_of_ble_eq_true rfl) (Nat.le_of_ble_eq_true rfl) (Nat.le_of_ble_eq_true rfl) (Nat.le_of_ble_eq_true rfl) (Nat.le_of_ble_eq_true rfl) (Nat.le_of_ble_eq_true rfl) dX8_comparisonRead_44 (sX8_valueRead hM) (fun r h48 hq => ?_) (fun x h9 hq => hq.elim)
        obtain ⟨rfl, hM⟩ := hq
        refine zV_aload_n O dX8_comparisonRead_47 rfl rfl ?_
        refine zV_bipush (z := 60) O ⟨by omega, by omega⟩ rfl dX8_comparisonRead_48 ?_
        refine zV_callV (as := [aI 60]) (st := []) O zc_X8_isByte (Or.inl zl_RX8_119) zi_1489 zi_107 zt_185 rfl rfl (by decide) (Nat.le_of_ble_eq_true rfl) rfl rfl (Nat.le_of_ble_eq_true rfl) (Nat.le_of_ble_eq_true rfl) (Nat.le_of_ble_eq_true rfl) (Nat.le_of_ble_eq_true rfl) (Nat.le_of_ble_eq_true rfl) (Nat.le_of_ble_eq_true rfl) dX8_comparisonRead_50 (sX8_isByte hM) (fun r h9 hq => ?_) (fun x h9 hq => hq.elim)
        obtain ⟨rfl, z49, rfl, hzz49, hM⟩ := hq
        refine zV_if_eq (tgt := 61) O dX8_comparisonRead_53 (by decide) (fun hc => ?_) (fun hc => ?_)
        · replace hM := hM.1 hc
          refine zV_aload_n O dX8_comparisonRead_61 rfl rfl ?_
          refine zV_bipush (z := 62) O ⟨by omega, by omega⟩ rfl dX8_comparisonRead_62 ?_
          refine zV_callV (as := [aI 62]) (st := []) O zc_X8_isByte (Or.inl zl_RX8_119) zi_1489 zi_107 zt_185 rfl rfl (by decide) (Nat.le_of_ble_eq_true rfl) rfl rfl (Nat.le_of_ble_eq_true rfl) (Nat.le_of_ble_eq_true rfl) (Nat.le_of_ble_eq_true rfl) (Nat.le_of_ble_eq_true rfl) (Nat.le_of_ble_eq_true rfl) (Nat.le_of_ble_eq_true rfl) dX8_comparisonRead_64 (sX8_isByte hM) (fun r h9 hq => ?_) (fun x h9 hq => hq.elim)
          obtain ⟨rfl, z50, rfl, hzz50, hM⟩ := hq
          refine zV_if_eq (tgt := 75) O dX8_comparisonRead_67 (by decide) (fun hc => ?_) (fun hc => ?_)
          · replace hM := hM.1 hc
            refine zV_bipush (z := 21) O ⟨by omega, by omega⟩ rfl dX8_comparisonRead_75 ?_
            exact sX8_comparisonRead_b77 O hM
          · replace hM := hM.2 hc
            refine zV_bipush (z := 22) O ⟨by omega, by omega⟩ rfl dX8_comparisonRead_70 ?_
            refine zV_goto (tgt := 77) O dX8_comparisonRead_72 (by decide) ?_
            exact sX8_comparisonRead_b77 O hM
        · replace hM := hM.2 hc
          refine zV_bipush (z := 20) O ⟨by omega, by omega⟩ rfl dX8_comparisonRead_56 ?_
          refine zV_goto (tgt := 77) O dX8_comparisonRead_58 (by decide) ?_
          exact sX8_comparisonRead_b77 O hM
      · replace hM := hM.2 hc
        exact sX8_comparisonRead_b19 O hK0 hM
def mX8_comparisonRead  (h : Hp) (Q : Hp → Prop) : Prop := (∃ ff, mX8_comparisonRead_b0 Q ff h)
set_option maxHeartbeats 4000000 in
set_option maxRecDepth 100000 in
theorem sX8_comparisonRead {l0 : Launch}  {h : Hp} {Q : Hp → Prop}  (hM : mX8_comparisonRead  h Q) : zSp l0 yX8_comparisonRead cX8_comparisonRead 2 none 197 (6) 0 0 [aR 185] h (qV Q) xN := by
  unfold mX8_comparisonRead at hM
  refine zSp_intro zpn_RX8 (Nat.le_of_ble_eq_true rfl) (fun a O => ?_)
  show zV a (6, 0, 0, (qV Q), xN) 0 0 0 [some (aR 185), none] [] h
  obtain ⟨ff, hM⟩ := hM
  exact sX8_comparisonRead_b0 O ff _ hM
def mX8_format_b111 (Q : Int → Hp → Prop) (v1 : Int) (h : Hp) : Prop := (mX8_of v1 4 h (fun z58 => ((¬ z58 = 0 → (mX8_writes 32 h (fun h59 => (mX8_writes 62 h59 (fun h60 => (mX8_writes 32 h60 (fun h61 => (mX8_of v1 3 h61 (fun z62 => (mX8_writesNumber z62 h61 (fun h63 => (mX8_writes 64 h63 (fun h64 => (mX8_of v1 4 h64 (fun z65 => (mX8_writesNumber z65 h64 (fun h66 => (Q (h66 185 22) h66)))))))))))))))))) ∧ (z58 = 0 → (Q (h 185 22) h)))))
set_option maxHeartbeats 4000000 in
set_option maxRecDepth 100000 in
theorem sX8_format_b111 {l0 : Launch} {a : ZC}  {Q : Int → Hp → Prop}  (O : zOk l0 a cX8_format RX8 3 (some .int) 197 [])   {v1 : Int} {h : Hp}  (hM : mX8_format_b111 Q v1 h) : zV a (6, 0, 0, (qI Q), xN) 0 0 111 [some (aR 185), some (aI v1), none] [] h := by
  unfold mX8_format_b111 at hM
  refine zV_aload_n O dX8_format_111 rfl rfl ?_
  refine zV_iload_n O dX8_format_112 rfl rfl ?_
  refine zV_iconst (z := 4) O ⟨by omega, by omega⟩ dX8_format_113 ?_
  refine zV_callV (as := [aI v1, aI 4]) (st := []) O zc_X8_of (Or.inl zl_RX8_218) zi_1549 zi_117 zt_185 rfl rfl (by decide) (Nat.le_of_ble_eq_true rfl) rfl rfl (Nat.le_of_ble_eq_true rfl) (Nat.le_of_ble_eq_true rfl) (Nat.le_of_ble_eq_true rfl) (Nat.le_of_ble_eq_true rfl) (Nat.le_of_ble_eq_true rfl) (Nat.le_of_ble_eq_true rfl) dX8_format_114 (sX8_of hM) (fun r h9 hq => ?_) (fun x h9 hq => hq.elim)
  obtain ⟨rfl, z58, rfl, hM⟩ := hq
  refine zV_if_ne (tgt := 125) O dX8_format_117 (by decide) (fun hc => ?_) (fun hc => ?_)
  · replace hM := hM.1 hc
    refine zV_aload_n O dX8_format_125 rfl rfl ?_
    refine zV_bipush (z := 32) O ⟨by omega, by omega⟩ rfl dX8_format_126 ?_
    refine zV_callV (as := [aI 32]) (st := []) O zc_X8_writes (Or.inl zl_RX8_357) zi_1843 zi_152 zt_185 rfl rfl (by decide) (Nat.le_of_ble_eq_true rfl) rfl rfl (Nat.le_of_ble_eq_true rfl) (Nat.le_of_ble_eq_true rfl) (Nat.le_of_ble_eq_true rfl) (Nat.le_of_ble_eq_true rfl) (Nat.le_of_ble_eq_true rfl) (Nat.le_of_ble_eq_true rfl) dX8_format_128 (sX8_writes hM) (fun r h59 hq => ?_) (fun x h9 hq => hq.elim)
    obtain ⟨rfl, hM⟩ := hq
    refine zV_aload_n O dX8_format_131 rfl rfl ?_
    refine zV_bipush (z := 62) O ⟨by omega, by omega⟩ rfl dX8_format_132 ?_
    refine zV_callV (as := [aI 62]) (st := []) O zc_X8_writes (Or.inl zl_RX8_357) zi_1843 zi_152 zt_185 rfl rfl (by decide) (Nat.le_of_ble_eq_true rfl) rfl rfl (Nat.le_of_ble_eq_true rfl) (Nat.le_of_ble_eq_true rfl) (Nat.le_of_ble_eq_true rfl) (Nat.le_of_ble_eq_true rfl) (Nat.le_of_ble_eq_true rfl) (Nat.le_of_ble_eq_true rfl) dX8_format_134 (sX8_writes hM) (fun r h60 hq => ?_) (fun x h9 hq => hq.elim)
    obtain ⟨rfl, hM⟩ := hq
    refine zV_aload_n O dX8_format_137 rfl rfl ?_
    refine zV_bipush (z := 32) O ⟨by omega, by omega⟩ rfl dX8_format_138 ?_
    refine zV_callV (as := [aI 32]) (st := []) O zc_X8_writes (Or.inl zl_RX8_357) zi_1843 zi_152 zt_185 rfl rfl (by decide) (Nat.le_of_ble_eq_true rfl) rfl rfl (Nat.le_of_ble_eq_true rfl) (Nat.le_of_ble_eq_true rfl) (Nat.le_of_ble_eq_true rfl) (Nat.le_of_ble_eq_true rfl) (Nat.le_of_ble_eq_true rfl) (Nat.le_of_ble_eq_true rfl) dX8_format_140 (sX8_writes hM) (fun r h61 hq => ?_) (fun x h9 hq => hq.elim)
    obtain ⟨rfl, hM⟩ := hq
    refine zV_aload_n O dX8_format_143 rfl rfl ?_
    refine zV_aload_n O dX8_format_144 rfl rfl ?_
    refine zV_iload_n O dX8_format_145 rfl rfl ?_
    refine zV_iconst (z := 3) O ⟨by omega, by omega⟩ dX8_format_146 ?_
    refine zV_callV (as := [aI v1, aI 3]) (st := [aR 185]) O zc_X8_of (Or.inl zl_RX8_218) zi_1549 zi_117 zt_185 rfl rfl (by decide) (Nat.le_of_ble_eq_true rfl) rfl rfl (Nat.le_of_ble_eq_true rfl) (Nat.le_of_ble_eq_true rfl) (Nat.le_of_ble_eq_true rfl) (Nat.le_of_ble_eq_true rfl) (Nat.le_of_ble_eq_true rfl) (Nat.le_of_ble_eq_true rfl) dX8_format_147 (sX8_of hM) (fun r h9 hq => ?_) (fun x h9 hq => hq.elim)
    obtain ⟨rfl, z62, rfl, hM⟩ := hq
    refine zV_callV (as := [aI z62]) (st := []) O zc_X8_writesNumber (Or.inl zl_RX8_360) zi_1847 zi_153 zt_185 rfl rfl (by decide) (Nat.le_of_ble_eq_true rfl) rfl rfl (Nat.le_of_ble_eq_true rfl) (Nat.le_of_ble_eq_true rfl) (Nat.le_of_ble_eq_true rfl) (Nat.le_of_ble_eq_true rfl) (Nat.le_of_ble_eq_true rfl) (Nat.le_of_ble_eq_true rfl) dX8_format_150 (sX8_writesNumber hM) (fun r h63 hq => ?_) (fun x h9 hq => hq.elim)
    obtain ⟨rfl, hM⟩ := hq
    refine zV_aload_n O dX8_format_153 rfl rfl ?_
    refine zV_bipush (z := 64) O ⟨by omega, by omega⟩ rfl dX8_format_154 ?_
    refine zV_callV (as := [aI 64]) (st := []) O zc_X8_writes (Or.inl zl_RX8_357) zi_1843 zi_152 zt_185 rfl rfl (by decide) (Nat.le_of_ble_eq_true rfl) rfl rfl (Nat.le_of_ble_eq_true rfl) (Nat.le_of_ble_eq_true rfl) (Nat.le_of_ble_eq_true rfl) (Nat.le_of_ble_eq_true rfl) (Nat.le_of_ble_eq_true rfl) (Nat.le_of_ble_eq_true rfl) dX8_format_156 (sX8_writes hM) (fun r h64 hq => ?_) (fun x h9 hq => hq.elim)
    obtain ⟨rfl, hM⟩ := hq
    refine zV_aload_n O dX8_format_159 rfl rfl ?_
    refine zV_aload_n O dX8_format_160 rfl rfl ?_
    refine zV_iload_n O dX8_format_161 rfl rfl ?_
    refine zV_iconst (z := 4) O ⟨by omega, by omega⟩ dX8_format_162 ?_
    refine zV_callV (as := [aI v1, aI 4]) (st := [aR 185]) O zc_X8_of (Or.inl zl_RX8_218) zi_1549 zi_117 zt_185 rfl rfl (by decide) (Nat.le_of_ble_eq_true rfl) rfl rfl (Nat.le_of_ble_eq_true rfl) (Nat.le_of_ble_eq_true rfl) (Nat.le_of_ble_eq_true rfl) (Nat.le_of_ble_eq_true rfl) (Nat.le_of_ble_eq_true rfl) (Nat.le_of_ble_eq_true rfl) dX8_format_163 (sX8_of hM) (fun r h9 hq => ?_) (fun x h9 hq => hq.elim)
    obtain ⟨rfl, z65, rfl, hM⟩ := hq
    refine zV_callV (as := [aI z65]) (st := []) O zc_X8_writesNumber (Or.inl zl_RX8_360) zi_1847 zi_153 zt_185 rfl rfl (by decide) (Nat.le_of_ble_eq_true rfl) rfl rfl (Nat.le_of_ble_eq_true rfl) (Nat.le_of_ble_eq_true rfl) (Nat.le_of_ble_eq_true rfl) (Nat.le_of_ble_eq_true rfl) (Nat.le_of_ble_eq_true rfl) (Nat.le_of_ble_eq_true rfl) dX8_format_166 (sX8_writesNumber hM) (fun r h66 hq => ?_) (fun x h9 hq => hq.elim)
    obtain ⟨rfl, hM⟩ := hq
    refine zV_aload_n O dX8_format_169 rfl rfl ?_
    refine zV_getI O zf_RX8_354 zt_185 rfl (by decide) dX8_format_170 ?_
    exact zV_iret O rfl ⟨_, rfl, hM⟩ (Nat.le_of_ble_eq_true rfl) (Nat.le_of_ble_eq_true rfl) dX8_format_173
  · replace hM := hM.2 hc
    refine zV_aload_n O dX8_format_120 rfl rfl ?_
    refine zV_getI O zf_RX8_354 zt_185 rfl (by decide) dX8_format_121 ?_
    exact zV_iret O rfl ⟨_, rfl, hM⟩ (Nat.le_of_ble_eq_true rfl) (Nat.le_of_ble_eq_true rfl) dX8_format_124
def mX8_format_b95 (Q : Int → Hp → Prop) (v1 : Int) (h : Hp) : Prop := (mX8_of v1 2 h (fun z67 => ((¬ z67 = (1 : Int) → (mX8_format_b111 Q v1 h)) ∧ (z67 = (1 : Int) → (mX8_writes 33 h (fun h68 => (mX8_format_b111 Q v1 h68)))))))
set_option maxHeartbeats 4000000 in
set_option maxRecDepth 100000 in
theorem sX8_format_b95 {l0 : Launch} {a : ZC}  {Q : Int → Hp → Prop}  (O : zOk l0 a cX8_format RX8 3 (some .int) 197 [])   {v1 : Int} {h : Hp}  (hM : mX8_format_b95 Q v1 h) : zV a (6, 0, 0, (qI Q), xN) 0 0 95 [some (aR 185), some (aI v1), none] [] h := by
  unfold mX8_format_b95 at hM
  refine zV_aload_n O dX8_format_95 rfl rfl ?_
  refine zV_iload_n O dX8_format_96 rfl rfl ?_
  refine zV_iconst (z := 2) O ⟨by omega, by omega⟩ dX8_format_97 ?_
  refine zV_callV (as := [aI v1, aI 2]) (st := []) O zc_X8_of (Or.inl zl_RX8_218) zi_1549 zi_117 zt_185 rfl rfl (by decide) (Nat.le_of_ble_eq_true rfl) rfl rfl (Nat.le_of_ble_eq_true rfl) (Nat.le_of_ble_eq_true rfl) (Nat.le_of_ble_eq_true rfl) (Nat.le_of_ble_eq_true rfl) (Nat.le_of_ble_eq_true rfl) (Nat.le_of_ble_eq_true rfl) dX8_format_98 (sX8_of hM) (fun r h9 hq => ?_) (fun x h9 hq => hq.elim)
  obtain ⟨rfl, z67, rfl, hM⟩ := hq
  refine zV_iconst (z := 1) O ⟨by omega, by omega⟩ dX8_format_101 ?_
  refine zV_icmp_ne (tgt := 111) O dX8_format_102 (by decide) (fun hc => ?_) (fun hc => ?_)
  · replace hM := hM.1 hc
    exact sX8_format_b111 O hM
  · replace hM := hM.2 hc
    refine zV_aload_n O dX8_format_105 rfl rfl ?_
    refine zV_bipush (z := 33) O ⟨by omega, by omega⟩ rfl dX8_format_106 ?_
    refine zV_callV (as := [aI 33]) (st := []) O zc_X8_writes (Or.inl zl_RX8_357) zi_1843 zi_152 zt_185 rfl rfl (by decide) (Nat.le_of_ble_eq_true rfl) rfl rfl (Nat.le_of_ble_eq_true rfl) (Nat.le_of_ble_eq_true rfl) (Nat.le_of_ble_eq_true rfl) (Nat.le_of_ble_eq_true rfl) (Nat.le_of_ble_eq_true rfl) (Nat.le_of_ble_eq_true rfl) dX8_format_108 (sX8_writes hM) (fun r h68 hq => ?_) (fun x h9 hq => hq.elim)
    obtain ⟨rfl, hM⟩ := hq
    exact sX8_format_b111 O hM
def mX8_format_b27 (Q : Int → Hp → Prop) : Nat → Int → Int → Hp → Prop
  | 0 => fun _ _ _ => False
  | fu27 + 1 => fun v1 v2 h => (mX8_of v1 5 h (fun z69 => ((z69 ≤ v2 → (mX8_writes 32 h (fun h70 => (mX8_of v1 1 h70 (fun z71 => (mX8_writesNumber z71 h70 (fun h72 => (mX8_kept v1 h72 (fun z73 => ((z73 ≤ 0 → (mX8_format_b95 Q v1 h72)) ∧ (¬ z73 ≤ 0 → (mX8_writes 43 h72 (fun h74 => (mX8_kept v1 h74 (fun z75 => (mX8_writesNumber z75 h74 (fun h76 => (mX8_format_b95 Q v1 h76)))))))))))))))))) ∧ (¬ z69 ≤ v2 → (zr (6 + v2) ∧ (mX8_of v1 (6 + v2) h (fun z77 => (mX8_writes z77 h (fun h78 => (zr (v2 + 1) ∧ ((mX8_format_b27 Q fu27) v1 (v2 + 1) h78)))))))))))
set_option maxHeartbeats 4000000 in
set_option maxRecDepth 100000 in
theorem sX8_format_b27 {l0 : Launch} {a : ZC}  {Q : Int → Hp → Prop}  (O : zOk l0 a cX8_format RX8 3 (some .int) 197 [])   : ∀ (ff : Nat) (v1 : Int) (v2 : Int) (h : Hp), mX8_format_b27 Q ff v1 v2 h → zV a (6, 0, 0, (qI Q), xN) 0 0 27 [some (aR 185), some (aI v1), some (aI v2)] [] h := by
  intro ff
  induction ff with
  | zero => intro v1 v2 h hM; exact hM.elim
  | succ ff ih =>
    have hK27 := ih
    intro v1 v2 h hM
    unfold mX8_format_b27 at hM
    refine zV_iload_n O dX8_format_27 rfl rfl ?_
    refine zV_aload_n O dX8_format_28 rfl rfl ?_
    refine zV_iload_n O dX8_format_29 rfl rfl ?_
    refine zV_iconst (z := 5) O ⟨by omega, by omega⟩ dX8_format_30 ?_
    refine zV_callV (as := [aI v1, aI 5]) (st := [aI v2]) O zc_X8_of (Or.inl zl_RX8_218) zi_1549 zi_117 zt_185 rfl rfl (by decide) (Nat.le_of_ble_eq_true rfl) rfl rfl (Nat.le_of_ble_eq_true rfl) (Nat.le_of_ble_eq_true rfl) (Nat.le_of_ble_eq_true rfl) (Nat.le_of_ble_eq_true rfl) (Nat.le_of_ble_eq_true rfl) (Nat.le_of_ble_eq_true rfl) dX8_format_31 (sX8_of hM) (fun r h9 hq => ?_) (fun x h9 hq => hq.elim)
    obtain ⟨rfl, z69, rfl, hM⟩ := hq
    refine zV_icmp_ge (tgt := 56) O dX8_format_34 (by decide) (fun hc => ?_) (fun hc => ?_)
    · replace hM := hM.1 hc
      refine zV_aload_n O dX8_format_56 rfl rfl ?_
      refine zV_bipush (z := 32) O ⟨by omega, by omega⟩ rfl dX8_format_57 ?_
      refine zV_callV (as := [aI 32]) (st := []) O zc_X8_writes (Or.inl zl_RX8_357) zi_1843 zi_152 zt_185 rfl rfl (by decide) (Nat.le_of_ble_eq_true rfl) rfl rfl (Nat.le_of_ble_eq_true rfl) (Nat.le_of_ble_eq_true rfl) (Nat.le_of_ble_eq_true rfl) (Nat.le_of_ble_eq_true rfl) (Nat.le_of_ble_eq_true rfl) (Nat.le_of_ble_eq_true rfl) dX8_format_59 (sX8_writes hM) (fun r h70 hq => ?_) (fun x h9 hq => hq.elim)
      obtain ⟨rfl, hM⟩ := hq
      refine zV_aload_n O dX8_format_62 rfl rfl ?_
      refine zV_aload_n O dX8_format_63 rfl rfl ?_
      refine zV_iload_n O dX8_format_64 rfl rfl ?_
      refine zV_iconst (z := 1) O ⟨by omega, by omega⟩ dX8_format_65 ?_
      refine zV_callV (as := [aI v1, aI 1]) (st := [aR 185]) O zc_X8_of (Or.inl zl_RX8_218) zi_1549 zi_117 zt_185 rfl rfl (by decide) (Nat.le_of_ble_eq_true rfl) rfl rfl (Nat.le_of_ble_eq_true rfl) (Nat.le_of_ble_eq_true rfl) (Nat.le_of_ble_eq_true rfl) (Nat.le_of_ble_eq_true rfl) (Nat.le_of_ble_eq_true rfl) (Nat.le_of_ble_eq_true rfl) dX8_format_66 (sX8_of hM) (fun r h9 hq => ?_) (fun x h9 hq => hq.elim)
      obtain ⟨rfl, z71, rfl, hM⟩ := hq
      refine zV_callV (as := [aI z71]) (st := []) O zc_X8_writesNumber (Or.inl zl_RX8_360) zi_1847 zi_153 zt_185 rfl rfl (by decide) (Nat.le_of_ble_eq_true rfl) rfl rfl (Nat.le_of_ble_eq_true rfl) (Nat.le_of_ble_eq_true rfl) (Nat.le_of_ble_eq_true rfl) (Nat.le_of_ble_eq_true rfl) (Nat.le_of_ble_eq_true rfl) (Nat.le_of_ble_eq_true rfl) dX8_format_69 (sX8_writesNumber hM) (fun r h72 hq => ?_) (fun x h9 hq => hq.elim)
      obtain ⟨rfl, hM⟩ := hq
      refine zV_aload_n O dX8_format_72 rfl rfl ?_
      refine zV_iload_n O dX8_format_73 rfl rfl ?_
      refine zV_callV (as := [aI v1]) (st := []) O zc_X8_kept (Or.inl zl_RX8_227) zi_1569 zi_122 zt_185 rfl rfl (by decide) (Nat.le_of_ble_eq_true rfl) rfl rfl (Nat.le_of_ble_eq_true rfl) (Nat.le_of_ble_eq_true rfl) (Nat.le_of_ble_eq_true rfl) (Nat.le_of_ble_eq_true rfl) (Nat.le_of_ble_eq_true rfl) (Nat.le_of_ble_eq_true rfl) dX8_format_74 (sX8_kept hM) (fun r h9 hq => ?_) (fun x h9 hq => hq.elim)
      obtain ⟨rfl, z73, rfl, hM⟩ := hq
      refine zV_if_le (tgt := 95) O dX8_format_77 (by decide) (fun hc => ?_) (fun hc => ?_)
      · replace hM := hM.1 hc
        refine zV_sub (ls2 := [some (aR 185), some (aI v1), none]) ⟨rfl, rfl, trivial⟩ ?_
        exact sX8_format_b95 O hM
      · replace hM := hM.2 hc
        refine zV_aload_n O dX8_format_80 rfl rfl ?_
        refine zV_bipush (z := 43) O ⟨by omega, by omega⟩ rfl dX8_format_81 ?_
        refine zV_callV (as := [aI 43]) (st := []) O zc_X8_writes (Or.inl zl_RX8_357) zi_1843 zi_152 zt_185 rfl rfl (by decide) (Nat.le_of_ble_eq_true rfl) rfl rfl (Nat.le_of_ble_eq_true rfl) (Nat.le_of_ble_eq_true rfl) (Nat.le_of_ble_eq_true rfl) (Nat.le_of_ble_eq_true rfl) (Nat.le_of_ble_eq_true rfl) (Nat.le_of_ble_eq_true rfl) dX8_format_83 (sX8_writes hM) (fun r h74 hq => ?_) (fun x h9 hq => hq.elim)
        obtain ⟨rfl, hM⟩ := hq
        refine zV_aload_n O dX8_format_86 rfl rfl ?_
        refine zV_aload_n O dX8_format_87 rfl rfl ?_
        refine zV_iload_n O dX8_format_88 rfl rfl ?_
        refine zV_callV (as := [aI v1]) (st := [aR 185]) O zc_X8_kept (Or.inl zl_RX8_227) zi_1569 zi_122 zt_185 rfl rfl (by decide) (Nat.le_of_ble_eq_true rfl) rfl rfl (Nat.le_of_ble_eq_true rfl) (Nat.le_of_ble_eq_true rfl) (Nat.le_of_ble_eq_true rfl) (Nat.le_of_ble_eq_true rfl) (Nat.le_of_ble_eq_true rfl) (Nat.le_of_ble_eq_true rfl) dX8_format_89 (sX8_kept hM) (fun r h9 hq => ?_) (fun x h9 hq => hq.elim)
        obtain ⟨rfl, z75, rfl, hM⟩ := hq
        refine zV_callV (as := [aI z75]) (st := []) O zc_X8_writesNumber (Or.inl zl_RX8_360) zi_1847 zi_153 zt_185 rfl rfl (by decide) (Nat.le_of_ble_eq_true rfl) rfl rfl (Nat.le_of_ble_eq_true rfl) (Nat.le_of_ble_eq_true rfl) (Nat.le_of_ble_eq_true rfl) (Nat.le_of_ble_eq_true rfl) (Nat.le_of_ble_eq_true rfl) (Nat.le_of_ble_eq_true rfl) dX8_format_92 (sX8_writesNumber hM) (fun r h76 hq => ?_) (fun x h9 hq => hq.elim)
        obtain ⟨rfl, hM⟩ := hq
        refine zV_sub (ls2 := [some (aR 185), some (aI v1), none]) ⟨rfl, rfl, trivial⟩ ?_
        exact sX8_format_b95 O hM
    · replace hM := hM.2 hc
      refine zV_aload_n O dX8_format_37 rfl rfl ?_
      refine zV_aload_n O dX8_format_38 rfl rfl ?_
      refine zV_iload_n O dX8_format_39 rfl rfl ?_
      refine zV_bipush (z := 6) O ⟨by omega, by omega⟩ rfl dX8_format_40 ?_
      refine zV_iload_n O dX8_format_42 rfl rfl ?_
      obtain ⟨hc, hM⟩ := hM
      refine zV_iadd O dX8_format_43 hc ?_
      refine zV_callV (as := [aI v1, aI (6 + v2)]) (st := [aR 185]) O zc_X8_of (Or.inl zl_RX8_218) zi_1549 zi_117 zt_185 rfl rfl (by decide) (Nat.le_of_ble_eq_true rfl) rfl rfl (Nat.le_of_ble_eq_true rfl) (Nat.le_of_ble_eq_true rfl) (Nat.le_of_ble_eq_true rfl) (Nat.le_of_ble_eq_true rfl) (Nat.le_of_ble_eq_true rfl) (Nat.le_of_ble_eq_true rfl) dX8_format_44 (sX8_of hM) (fun r h9 hq => ?_) (fun x h9 hq => hq.elim)
      obtain ⟨rfl, z77, rfl, hM⟩ := hq
      refine zV_callV (as := [aI z77]) (st := []) O zc_X8_writes (Or.inl zl_RX8_357) zi_1843 zi_152 zt_185 rfl rfl (by decide) (Nat.le_of_ble_eq_true rfl) rfl rfl (Nat.le_of_ble_eq_true rfl) (Nat.le_of_ble_eq_true rfl) (Nat.le_of_ble_eq_true rfl) (Nat.le_of_ble_eq_true rfl) (Nat.le_of_ble_eq_true rfl) (Nat.le_of_ble_eq_true rfl) dX8_format_47 (sX8_writes hM) (fun r h78 hq => ?_) (fun x h9 hq => hq.elim)
      obtain ⟨rfl, hM⟩ := hq
      obtain ⟨hc, hM⟩ := hM
      refine zV_iinc O dX8_format_50 rfl (Nat.le_of_ble_eq_true rfl) rfl hc ?_
      refine zV_goto (tgt := 27) O dX8_format_53 (by decide) ?_
      exact hK27 _ _ _ hM
def mX8_format (x1 : Int) (h : Hp) (Q : Int → Hp → Prop) : Prop := (∀ h79 : Hp, h79 = hu h 185 0 0 → (mX8_isHost x1 h79 (fun z80 => (mX8_fails z80 1 h79 (fun z81 h82 => ((z81 = 0 → (∀ h83 : Hp, h83 = hu h82 185 22 0 → (∃ ff, mX8_format_b27 Q ff x1 0 h83))) ∧ (¬ z81 = 0 → (Q 0 h82))))))))
set_option maxHeartbeats 4000000 in
set_option maxRecDepth 100000 in
theorem sX8_format {l0 : Launch} {x1 : Int} {h : Hp} {Q : Int → Hp → Prop}  (hM : mX8_format x1 h Q) : zSp l0 yX8_format cX8_format 3 (some .int) 197 (6) 0 0 [aR 185, aI x1] h (qI Q) xN := by
  unfold mX8_format at hM
  refine zSp_intro zpn_RX8 (Nat.le_of_ble_eq_true rfl) (fun a O => ?_)
  show zV a (6, 0, 0, (qI Q), xN) 0 0 0 [some (aR 185), some (aI x1), none] [] h
  refine zV_aload_n O dX8_format_0 rfl rfl ?_
  refine zV_iconst (z := 0) O ⟨by omega, by omega⟩ dX8_format_1 ?_
  refine zV_putI O zf_RX8_1 zt_185 rfl (by decide) dX8_format_2 ?_
  have hM := hM _ rfl
  generalize hu h 185 0 0 = h79 at hM ⊢
  refine zV_aload_n O dX8_format_5 rfl rfl ?_
  refine zV_aload_n O dX8_format_6 rfl rfl ?_
  refine zV_iload_n O dX8_format_7 rfl rfl ?_
  refine zV_callV (as := [aI x1]) (st := [aR 185]) O zc_X8_isHost (Or.inl zl_RX8_295) zi_1589 zi_126 zt_185 rfl rfl (by decide) (Nat.le_of_ble_eq_true rfl) rfl rfl (Nat.le_of_ble_eq_true rfl) (Nat.le_of_ble_eq_true rfl) (Nat.le_of_ble_eq_true rfl) (Nat.le_of_ble_eq_true rfl) (Nat.le_of_ble_eq_true rfl) (Nat.le_of_ble_eq_true rfl) dX8_format_8 (sX8_isHost hM) (fun r h9 hq => ?_) (fun x h9 hq => hq.elim)
  obtain ⟨rfl, z80, rfl, hzz80, hM⟩ := hq
  refine zV_iconst (z := 1) O ⟨by omega, by omega⟩ dX8_format_11 ?_
  refine zV_callV (as := [aI z80, aI 1]) (st := []) O zc_X8_fails (Or.inl zl_RX8_201) zi_1420 zi_93 zt_185 rfl rfl (by decide) (Nat.le_of_ble_eq_true rfl) rfl rfl (Nat.le_of_ble_eq_true rfl) (Nat.le_of_ble_eq_true rfl) (Nat.le_of_ble_eq_true rfl) (Nat.le_of_ble_eq_true rfl) (Nat.le_of_ble_eq_true rfl) (Nat.le_of_ble_eq_true rfl) dX8_format_12 (sX8_fails hM) (fun r h82 hq => ?_) (fun x h9 hq => hq.elim)
  obtain ⟨z81, rfl, hzz81, hM⟩ := hq
  refine zV_if_eq (tgt := 20) O dX8_format_15 (by decide) (fun hc => ?_) (fun hc => ?_)
  · replace hM := hM.1 hc
    refine zV_aload_n O dX8_format_20 rfl rfl ?_
    refine zV_iconst (z := 0) O ⟨by omega, by omega⟩ dX8_format_21 ?_
    refine zV_putI O zf_RX8_354 zt_185 rfl (by decide) dX8_format_22 ?_
    have hM := hM _ rfl
    generalize hu h82 185 22 0 = h83 at hM ⊢
    refine zV_iconst (z := 0) O ⟨by omega, by omega⟩ dX8_format_25 ?_
    refine zV_istore_n O dX8_format_26 rfl (Nat.le_of_ble_eq_true rfl) rfl ?_
    obtain ⟨ff, hM⟩ := hM
    exact sX8_format_b27 O ff _ _ _ hM
  · replace hM := hM.2 hc
    refine zV_iconst (z := 0) O ⟨by omega, by omega⟩ dX8_format_18 ?_
    exact zV_iret O rfl ⟨_, rfl, hM⟩ (Nat.le_of_ble_eq_true rfl) (Nat.le_of_ble_eq_true rfl) dX8_format_19
def mX8_holds (x1 : Int) (x2 : Int) (h : Hp) (Q : Int → Prop) : Prop := (mX8_of x1 1 h (fun z3 => ((z3 = x2 → (Q 1)) ∧ (¬ z3 = x2 → (mX8_kept x1 h (fun z4 => ((¬ z4 = x2 → (Q 0)) ∧ (z4 = x2 → (Q 1)))))))))
set_option maxHeartbeats 4000000 in
set_option maxRecDepth 100000 in
theorem sX8_holds {l0 : Launch} {x1 : Int} {x2 : Int} {h : Hp} {Q : Int → Prop}  (hM : mX8_holds x1 x2 h Q) : zSp l0 yX8_holds cX8_holds 3 (some .boolean) 197 (6) 0 0 [aR 185, aI x1, aI x2] h (qPZ h Q) xN := by
  unfold mX8_holds at hM
  refine zSp_intro zpn_RX8 (Nat.le_of_ble_eq_true rfl) (fun a O => ?_)
  show zV a (6, 0, 0, (qPZ h Q), xN) 0 0 0 [some (aR 185), some (aI x1), some (aI x2)] [] h
  refine zV_aload_n O dX8_holds_0 rfl rfl ?_
  refine zV_iload_n O dX8_holds_1 rfl rfl ?_
  refine zV_iconst (z := 1) O ⟨by omega, by omega⟩ dX8_holds_2 ?_
  refine zV_callV (as := [aI x1, aI 1]) (st := []) O zc_X8_of (Or.inl zl_RX8_218) zi_1549 zi_117 zt_185 rfl rfl (by decide) (Nat.le_of_ble_eq_true rfl) rfl rfl (Nat.le_of_ble_eq_true rfl) (Nat.le_of_ble_eq_true rfl) (Nat.le_of_ble_eq_true rfl) (Nat.le_of_ble_eq_true rfl) (Nat.le_of_ble_eq_true rfl) (Nat.le_of_ble_eq_true rfl) dX8_holds_3 (sX8_of hM) (fun r h9 hq => ?_) (fun x h9 hq => hq.elim)
  obtain ⟨rfl, z3, rfl, hM⟩ := hq
  refine zV_iload_n O dX8_holds_6 rfl rfl ?_
  refine zV_icmp_eq (tgt := 19) O dX8_holds_7 (by decide) (fun hc => ?_) (fun hc => ?_)
  · replace hM := hM.1 hc
    refine zV_iconst (z := 1) O ⟨by omega, by omega⟩ dX8_holds_19 ?_
    refine zV_goto (tgt := 24) O dX8_holds_20 (by decide) ?_
    exact zV_zret O rfl (Or.inr rfl) ⟨rfl, _, rfl, (Or.inr rfl), hM⟩ (Nat.le_of_ble_eq_true rfl) (Nat.le_of_ble_eq_true rfl) dX8_holds_24
  · replace hM := hM.2 hc
    refine zV_aload_n O dX8_holds_10 rfl rfl ?_
    refine zV_iload_n O dX8_holds_11 rfl rfl ?_
    refine zV_callV (as := [aI x1]) (st := []) O zc_X8_kept (Or.inl zl_RX8_227) zi_1569 zi_122 zt_185 rfl rfl (by decide) (Nat.le_of_ble_eq_true rfl) rfl rfl (Nat.le_of_ble_eq_true rfl) (Nat.le_of_ble_eq_true rfl) (Nat.le_of_ble_eq_true rfl) (Nat.le_of_ble_eq_true rfl) (Nat.le_of_ble_eq_true rfl) (Nat.le_of_ble_eq_true rfl) dX8_holds_12 (sX8_kept hM) (fun r h9 hq => ?_) (fun x h9 hq => hq.elim)
    obtain ⟨rfl, z4, rfl, hM⟩ := hq
    refine zV_iload_n O dX8_holds_15 rfl rfl ?_
    refine zV_icmp_ne (tgt := 23) O dX8_holds_16 (by decide) (fun hc => ?_) (fun hc => ?_)
    · replace hM := hM.1 hc
      refine zV_iconst (z := 0) O ⟨by omega, by omega⟩ dX8_holds_23 ?_
      exact zV_zret O rfl (Or.inl rfl) ⟨rfl, _, rfl, (Or.inl rfl), hM⟩ (Nat.le_of_ble_eq_true rfl) (Nat.le_of_ble_eq_true rfl) dX8_holds_24
    · replace hM := hM.2 hc
      refine zV_iconst (z := 1) O ⟨by omega, by omega⟩ dX8_holds_19 ?_
      refine zV_goto (tgt := 24) O dX8_holds_20 (by decide) ?_
      exact zV_zret O rfl (Or.inr rfl) ⟨rfl, _, rfl, (Or.inr rfl), hM⟩ (Nat.le_of_ble_eq_true rfl) (Nat.le_of_ble_eq_true rfl) dX8_holds_24
def mX8_host_b31 (Q : Int → Hp → Prop) (v1 : Int) (v2 : Int) (s0 : Int) (h : Hp) : Prop := (mX8_fails s0 1 h (fun z22 h23 => ((z22 = 0 → ((v2 = 0 → (mX8_of v1 0 h23 (fun z24 => (Q z24 h23)))) ∧ (v2 = 1 → (mX8_of v1 1 h23 (fun z25 => (Q z25 h23)))) ∧ (v2 = 2 → (mX8_kept v1 h23 (fun z26 => (Q z26 h23)))) ∧ (v2 = 3 → (mX8_of v1 2 h23 (fun z27 => (Q z27 h23)))) ∧ (v2 = 4 → (mX8_of v1 3 h23 (fun z28 => (Q z28 h23)))) ∧ (v2 = 5 → (mX8_of v1 4 h23 (fun z29 => (Q z29 h23)))) ∧ ((v2 < 0 ∨ 5 < v2) → (mX8_latest v1 h23 (fun z30 => (Q z30 h23)))))) ∧ (¬ z22 = 0 → (Q 0 h23)))))
set_option maxHeartbeats 4000000 in
set_option maxRecDepth 100000 in
theorem sX8_host_b31 {l0 : Launch} {a : ZC}  {Q : Int → Hp → Prop}  (O : zOk l0 a cX8_host RX8 3 (some .int) 197 [])   {v1 : Int} {v2 : Int} {s0 : Int} {h : Hp} (hz_s0 : s0 = 0 ∨ s0 = 1) (hM : mX8_host_b31 Q v1 v2 s0 h) : zV a (6, 0, 0, (qI Q), xN) 0 0 31 [some (aR 185), some (aI v1), some (aI v2)] [aI s0, aR 185] h := by
  unfold mX8_host_b31 at hM
  refine zV_iconst (z := 1) O ⟨by omega, by omega⟩ dX8_host_31 ?_
  refine zV_callV (as := [aI s0, aI 1]) (st := []) O zc_X8_fails (Or.inl zl_RX8_201) zi_1420 zi_93 zt_185 rfl rfl (by decide) (Nat.le_of_ble_eq_true rfl) rfl rfl (Nat.le_of_ble_eq_true rfl) (Nat.le_of_ble_eq_true rfl) (Nat.le_of_ble_eq_true rfl) (Nat.le_of_ble_eq_true rfl) (Nat.le_of_ble_eq_true rfl) (Nat.le_of_ble_eq_true rfl) dX8_host_32 (sX8_fails hM) (fun r h23 hq => ?_) (fun x h9 hq => hq.elim)
  obtain ⟨z22, rfl, hzz22, hM⟩ := hq
  refine zV_if_eq (tgt := 40) O dX8_host_35 (by decide) (fun hc => ?_) (fun hc => ?_)
  · replace hM := hM.1 hc
    refine zV_iload_n O dX8_host_40 rfl rfl ?_
    by_cases hc0 : v2 = 0
    · replace hM := hM.1 hc0
      refine zV_tableIn (tgt := 80) O dX8_host_41 (by omega) (by omega) (by rw [hc0]; rfl) (by decide) ?_
      refine zV_aload_n O dX8_host_80 rfl rfl ?_
      refine zV_iload_n O dX8_host_81 rfl rfl ?_
      refine zV_iconst (z := 0) O ⟨by omega, by omega⟩ dX8_host_82 ?_
      refine zV_callV (as := [aI v1, aI 0]) (st := []) O zc_X8_of (Or.inl zl_RX8_218) zi_1549 zi_117 zt_185 rfl rfl (by decide) (Nat.le_of_ble_eq_true rfl) rfl rfl (Nat.le_of_ble_eq_true rfl) (Nat.le_of_ble_eq_true rfl) (Nat.le_of_ble_eq_true rfl) (Nat.le_of_ble_eq_true rfl) (Nat.le_of_ble_eq_true rfl) (Nat.le_of_ble_eq_true rfl) dX8_host_83 (sX8_of hM) (fun r h9 hq => ?_) (fun x h9 hq => hq.elim)
      obtain ⟨rfl, z24, rfl, hM⟩ := hq
      exact zV_iret O rfl ⟨_, rfl, hM⟩ (Nat.le_of_ble_eq_true rfl) (Nat.le_of_ble_eq_true rfl) dX8_host_86
    by_cases hc1 : v2 = 1
    · replace hM := hM.2.1 hc1
      refine zV_tableIn (tgt := 87) O dX8_host_41 (by omega) (by omega) (by rw [hc1]; rfl) (by decide) ?_
      refine zV_aload_n O dX8_host_87 rfl rfl ?_
      refine zV_iload_n O dX8_host_88 rfl rfl ?_
      refine zV_iconst (z := 1) O ⟨by omega, by omega⟩ dX8_host_89 ?_
      refine zV_callV (as := [aI v1, aI 1]) (st := []) O zc_X8_of (Or.inl zl_RX8_218) zi_1549 zi_117 zt_185 rfl rfl (by decide) (Nat.le_of_ble_eq_true rfl) rfl rfl (Nat.le_of_ble_eq_true rfl) (Nat.le_of_ble_eq_true rfl) (Nat.le_of_ble_eq_true rfl) (Nat.le_of_ble_eq_true rfl) (Nat.le_of_ble_eq_true rfl) (Nat.le_of_ble_eq_true rfl) dX8_host_90 (sX8_of hM) (fun r h9 hq => ?_) (fun x h9 hq => hq.elim)
      obtain ⟨rfl, z25, rfl, hM⟩ := hq
      exact zV_iret O rfl ⟨_, rfl, hM⟩ (Nat.le_of_ble_eq_true rfl) (Nat.le_of_ble_eq_true rfl) dX8_host_93
    by_cases hc2 : v2 = 2
    · replace hM := hM.2.2.1 hc2
      refine zV_tableIn (tgt := 94) O dX8_host_41 (by omega) (by omega) (by rw [hc2]; rfl) (by decide) ?_
      refine zV_aload_n O dX8_host_94 rfl rfl ?_
      refine zV_iload_n O dX8_host_95 rfl rfl ?_
      refine zV_callV (as := [aI v1]) (st := []) O zc_X8_kept (Or.inl zl_RX8_227) zi_1569 zi_122 zt_185 rfl rfl (by decide) (Nat.le_of_ble_eq_true rfl) rfl rfl (Nat.le_of_ble_eq_true rfl) (Nat.le_of_ble_eq_true rfl) (Nat.le_of_ble_eq_true rfl) (Nat.le_of_ble_eq_true rfl) (Nat.le_of_ble_eq_true rfl) (Nat.le_of_ble_eq_true rfl) dX8_host_96 (sX8_kept hM) (fun r h9 hq => ?_) (fun x h9 hq => hq.elim)
      obtain ⟨rfl, z26, rfl, hM⟩ := hq
      exact zV_iret O rfl ⟨_, rfl, hM⟩ (Nat.le_of_ble_eq_true rfl) (Nat.le_of_ble_eq_true rfl) dX8_host_99
    by_cases hc3 : v2 = 3
    · replace hM := hM.2.2.2.1 hc3
      refine zV_tableIn (tgt := 100) O dX8_host_41 (by omega) (by omega) (by rw [hc3]; rfl) (by decide) ?_
      refine zV_aload_n O dX8_host_100 rfl rfl ?_
      refine zV_iload_n O dX8_host_101 rfl rfl ?_
      refine zV_iconst (z := 2) O ⟨by omega, by omega⟩ dX8_host_102 ?_
      refine zV_callV (as := [aI v1, aI 2]) (st := []) O zc_X8_of (Or.inl zl_RX8_218) zi_1549 zi_117 zt_185 rfl rfl (by decide) (Nat.le_of_ble_eq_true rfl) rfl rfl (Nat.le_of_ble_eq_true rfl) (Nat.le_of_ble_eq_true rfl) (Nat.le_of_ble_eq_true rfl) (Nat.le_of_ble_eq_true rfl) (Nat.le_of_ble_eq_true rfl) (Nat.le_of_ble_eq_true rfl) dX8_host_103 (sX8_of hM) (fun r h9 hq => ?_) (fun x h9 hq => hq.elim)
      obtain ⟨rfl, z27, rfl, hM⟩ := hq
      exact zV_iret O rfl ⟨_, rfl, hM⟩ (Nat.le_of_ble_eq_true rfl) (Nat.le_of_ble_eq_true rfl) dX8_host_106
    by_cases hc4 : v2 = 4
    · replace hM := hM.2.2.2.2.1 hc4
      refine zV_tableIn (tgt := 107) O dX8_host_41 (by omega) (by omega) (by rw [hc4]; rfl) (by decide) ?_
      refine zV_aload_n O dX8_host_107 rfl rfl ?_
      refine zV_iload_n O dX8_host_108 rfl rfl ?_
      refine zV_iconst (z := 3) O ⟨by omega, by omega⟩ dX8_host_109 ?_
      refine zV_callV (as := [aI v1, aI 3]) (st := []) O zc_X8_of (Or.inl zl_RX8_218) zi_1549 zi_117 zt_185 rfl rfl (by decide) (Nat.le_of_ble_eq_true rfl) rfl rfl (Nat.le_of_ble_eq_true rfl) (Nat.le_of_ble_eq_true rfl) (Nat.le_of_ble_eq_true rfl) (Nat.le_of_ble_eq_true rfl) (Nat.le_of_ble_eq_true rfl) (Nat.le_of_ble_eq_true rfl) dX8_host_110 (sX8_of hM) (fun r h9 hq => ?_) (fun x h9 hq => hq.elim)
      obtain ⟨rfl, z28, rfl, hM⟩ := hq
      exact zV_iret O rfl ⟨_, rfl, hM⟩ (Nat.le_of_ble_eq_true rfl) (Nat.le_of_ble_eq_true rfl) dX8_host_113
    by_cases hc5 : v2 = 5
    · replace hM := hM.2.2.2.2.2.1 hc5
      refine zV_tableIn (tgt := 114) O dX8_host_41 (by omega) (by omega) (by rw [hc5]; rfl) (by decide) ?_
      refine zV_aload_n O dX8_host_114 rfl rfl ?_
      refine zV_iload_n O dX8_host_115 rfl rfl ?_
      refine zV_iconst (z := 4) O ⟨by omega, by omega⟩ dX8_host_116 ?_
      refine zV_callV (as := [aI v1, aI 4]) (st := []) O zc_X8_of (Or.inl zl_RX8_218) zi_1549 zi_117 zt_185 rfl rfl (by decide) (Nat.le_of_ble_eq_true rfl) rfl rfl (Nat.le_of_ble_eq_true rfl) (Nat.le_of_ble_eq_true rfl) (Nat.le_of_ble_eq_true rfl) (Nat.le_of_ble_eq_true rfl) (Nat.le_of_ble_eq_true rfl) (Nat.le_of_ble_eq_true rfl) dX8_host_117 (sX8_of hM) (fun r h9 hq => ?_) (fun x h9 hq => hq.elim)
      obtain ⟨rfl, z29, rfl, hM⟩ := hq
      exact zV_iret O rfl ⟨_, rfl, hM⟩ (Nat.le_of_ble_eq_true rfl) (Nat.le_of_ble_eq_true rfl) dX8_host_120
    have hc : v2 < 0 ∨ 5 < v2 := by omega
    replace hM := hM.2.2.2.2.2.2 hc
    refine zV_tableOut (tgt := 121) O dX8_host_41 hc (by decide) ?_
    refine zV_aload_n O dX8_host_121 rfl rfl ?_
    refine zV_iload_n O dX8_host_122 rfl rfl ?_
    refine zV_callV (as := [aI v1]) (st := []) O zc_X8_latest (Or.inl zl_RX8_221) zi_1577 zi_124 zt_185 rfl rfl (by decide) (Nat.le_of_ble_eq_true rfl) rfl rfl (Nat.le_of_ble_eq_true rfl) (Nat.le_of_ble_eq_true rfl) (Nat.le_of_ble_eq_true rfl) (Nat.le_of_ble_eq_true rfl) (Nat.le_of_ble_eq_true rfl) (Nat.le_of_ble_eq_true rfl) dX8_host_123 (sX8_latest hM) (fun r h9 hq => ?_) (fun x h9 hq => hq.elim)
    obtain ⟨rfl, z30, rfl, hM⟩ := hq
    exact zV_iret O rfl ⟨_, rfl, hM⟩ (Nat.le_of_ble_eq_true rfl) (Nat.le_of_ble_eq_true rfl) dX8_host_126
  · replace hM := hM.2 hc
    refine zV_iconst (z := 0) O ⟨by omega, by omega⟩ dX8_host_38 ?_
    exact zV_iret O rfl ⟨_, rfl, hM⟩ (Nat.le_of_ble_eq_true rfl) (Nat.le_of_ble_eq_true rfl) dX8_host_39
def mX8_host_b30 (Q : Int → Hp → Prop) (v1 : Int) (v2 : Int) (h : Hp) : Prop := (mX8_host_b31 Q v1 v2 0 h)
set_option maxHeartbeats 4000000 in
set_option maxRecDepth 100000 in
theorem sX8_host_b30 {l0 : Launch} {a : ZC}  {Q : Int → Hp → Prop}  (O : zOk l0 a cX8_host RX8 3 (some .int) 197 [])   {v1 : Int} {v2 : Int} {h : Hp}  (hM : mX8_host_b30 Q v1 v2 h) : zV a (6, 0, 0, (qI Q), xN) 0 0 30 [some (aR 185), some (aI v1), some (aI v2)] [aR 185] h := by
  unfold mX8_host_b30 at hM
  refine zV_iconst (z := 0) O ⟨by omega, by omega⟩ dX8_host_30 ?_
  exact sX8_host_b31 O (Or.inl rfl) hM
def mX8_host (x1 : Int) (x2 : Int) (h : Hp) (Q : Int → Hp → Prop) : Prop := (∀ h31 : Hp, h31 = hu h 185 0 0 → (mX8_isHost x1 h31 (fun z32 => ((z32 = 0 → (mX8_host_b30 Q x1 x2 h31)) ∧ (¬ z32 = 0 → (mX8_in x2 0 6 h31 (fun z33 => ((z33 = 0 → (mX8_host_b30 Q x1 x2 h31)) ∧ (¬ z33 = 0 → (mX8_host_b31 Q x1 x2 1 h31))))))))))
set_option maxHeartbeats 4000000 in
set_option maxRecDepth 100000 in
theorem sX8_host {l0 : Launch} {x1 : Int} {x2 : Int} {h : Hp} {Q : Int → Hp → Prop}  (hM : mX8_host x1 x2 h Q) : zSp l0 yX8_host cX8_host 3 (some .int) 197 (6) 0 0 [aR 185, aI x1, aI x2] h (qI Q) xN := by
  unfold mX8_host at hM
  refine zSp_intro zpn_RX8 (Nat.le_of_ble_eq_true rfl) (fun a O => ?_)
  show zV a (6, 0, 0, (qI Q), xN) 0 0 0 [some (aR 185), some (aI x1), some (aI x2)] [] h
  refine zV_aload_n O dX8_host_0 rfl rfl ?_
  refine zV_iconst (z := 0) O ⟨by omega, by omega⟩ dX8_host_1 ?_
  refine zV_putI O zf_RX8_1 zt_185 rfl (by decide) dX8_host_2 ?_
  have hM := hM _ rfl
  generalize hu h 185 0 0 = h31 at hM ⊢
  refine zV_aload_n O dX8_host_5 rfl rfl ?_
  refine zV_aload_n O dX8_host_6 rfl rfl ?_
  refine zV_iload_n O dX8_host_7 rfl rfl ?_
  refine zV_callV (as := [aI x1]) (st := [aR 185]) O zc_X8_isHost (Or.inl zl_RX8_295) zi_1589 zi_126 zt_185 rfl rfl (by decide) (Nat.le_of_ble_eq_true rfl) rfl rfl (Nat.le_of_ble_eq_true rfl) (Nat.le_of_ble_eq_true rfl) (Nat.le_of_ble_eq_true rfl) (Nat.le_of_ble_eq_true rfl) (Nat.le_of_ble_eq_true rfl) (Nat.le_of_ble_eq_true rfl) dX8_host_8 (sX8_isHost hM) (fun r h9 hq => ?_) (fun x h9 hq => hq.elim)
  obtain ⟨rfl, z32, rfl, hzz32, hM⟩ := hq
  refine zV_if_eq (tgt := 30) O dX8_host_11 (by decide) (fun hc => ?_) (fun hc => ?_)
  · replace hM := hM.1 hc
    exact sX8_host_b30 O hM
  · replace hM := hM.2 hc
    refine zV_iload_n O dX8_host_14 rfl rfl ?_
    refine zV_i2l O dX8_host_15 ?_
    refine zV_lconst (z := 0) O ⟨by omega, by omega⟩ rfl dX8_host_16 ?_
    refine zV_ldc2 (z := 6) O ⟨by omega, by omega⟩ zi_1591.1 zi_1591.2 dX8_host_17 ?_
    refine zV_callS (as := [aL x2, aL 0, aL 6]) (st := [aR 185]) O zc_X8_in (Or.inl zl_RX8_125) zi_1416 (Nat.le_of_ble_eq_true rfl) rfl rfl (Nat.le_of_ble_eq_true rfl) (Nat.le_of_ble_eq_true rfl) (Nat.le_of_ble_eq_true rfl) (Nat.le_of_ble_eq_true rfl) (Nat.le_of_ble_eq_true rfl) (Nat.le_of_ble_eq_true rfl) dX8_host_20 (sX8_in hM) (fun r h9 hq => ?_) (fun x h9 hq => hq.elim)
    obtain ⟨rfl, z33, rfl, hzz33, hM⟩ := hq
    refine zV_if_eq (tgt := 30) O dX8_host_23 (by decide) (fun hc => ?_) (fun hc => ?_)
    · replace hM := hM.1 hc
      exact sX8_host_b30 O hM
    · replace hM := hM.2 hc
      refine zV_iconst (z := 1) O ⟨by omega, by omega⟩ dX8_host_26 ?_
      refine zV_goto (tgt := 31) O dX8_host_27 (by decide) ?_
      exact sX8_host_b31 O (Or.inr rfl) hM
def mX8_keeping_b28 (h : Hp) (Q : Int → Prop) (K4 : Int → Int → Prop) (v2 : Int) (s0 : Int) (s1 : Int) : Prop := (zr (s1 + s0) ∧ (zr (v2 + 1) ∧ (K4 (s1 + s0) (v2 + 1))))
set_option maxHeartbeats 4000000 in
set_option maxRecDepth 100000 in
theorem sX8_keeping_b28 {l0 : Launch} {a : ZC}  {h : Hp} {Q : Int → Prop} {K4 : Int → Int → Prop} (O : zOk l0 a cX8_keeping RX8 3 (some .int) 197 [])  (hK4 : ∀ (v1 : Int) (v2 : Int), K4 v1 v2 → zV a (6, 0, 0, (qPI h Q), xN) 0 0 4 [some (aR 185), some (aI v1), some (aI v2)] [] h) {v2 : Int} {s0 : Int} {s1 : Int}  (hz_s0 : s0 = 0 ∨ s0 = 1) (hM : mX8_keeping_b28 h Q K4 v2 s0 s1) : zV a (6, 0, 0, (qPI h Q), xN) 0 0 28 [some (aR 185), none, some (aI v2)] [aI s0, aI s1] h := by
  unfold mX8_keeping_b28 at hM
  obtain ⟨hc, hM⟩ := hM
  refine zV_iadd O dX8_keeping_28 hc ?_
  refine zV_istore_n O dX8_keeping_29 rfl (Nat.le_of_ble_eq_true rfl) rfl ?_
  obtain ⟨hc, hM⟩ := hM
  refine zV_iinc O dX8_keeping_30 rfl (Nat.le_of_ble_eq_true rfl) rfl hc ?_
  refine zV_goto (tgt := 4) O dX8_keeping_33 (by decide) ?_
  exact hK4 _ _ hM
def mX8_keeping_b4 (h : Hp) (Q : Int → Prop) : Nat → Int → Int → Prop
  | 0 => fun _ _ => False
  | fu4 + 1 => fun v1 v2 => (((0 : Int) ≤ 0 ∧ (0 : Int) < 1096) ∧ (((rd h 186 0) ≤ v2 → (Q v1)) ∧ (¬ (rd h 186 0) ≤ v2 → (mX8_kept v2 h (fun z4 => ((z4 ≤ 0 → (mX8_keeping_b28 h Q (mX8_keeping_b4 h Q fu4) v2 0 v1)) ∧ (¬ z4 ≤ 0 → (mX8_keeping_b28 h Q (mX8_keeping_b4 h Q fu4) v2 1 v1))))))))
set_option maxHeartbeats 4000000 in
set_option maxRecDepth 100000 in
theorem sX8_keeping_b4 {l0 : Launch} {a : ZC}  {h : Hp} {Q : Int → Prop}  (O : zOk l0 a cX8_keeping RX8 3 (some .int) 197 [])   : ∀ (ff : Nat) (v1 : Int) (v2 : Int) , mX8_keeping_b4 h Q ff v1 v2 → zV a (6, 0, 0, (qPI h Q), xN) 0 0 4 [some (aR 185), some (aI v1), some (aI v2)] [] h := by
  intro ff
  induction ff with
  | zero => intro v1 v2 hM; exact hM.elim
  | succ ff ih =>
    have hK4 := ih
    intro v1 v2 hM
    unfold mX8_keeping_b4 at hM
    refine zV_iload_n O dX8_keeping_4 rfl rfl ?_
    refine zV_aload_n O dX8_keeping_5 rfl rfl ?_
    refine zV_getR O zf_RX8_13 zt_185 rfl (by decide) dX8_keeping_6 ?_
    refine zV_iconst (z := 0) O ⟨by omega, by omega⟩ dX8_keeping_9 ?_
    obtain ⟨hc, hM⟩ := hM
    refine zV_iald O zt_186 (by decide) hc dX8_keeping_10 ?_
    refine zV_icmp_ge (tgt := 36) O dX8_keeping_11 (by decide) (fun hc => ?_) (fun hc => ?_)
    · replace hM := hM.1 hc
      refine zV_iload_n O dX8_keeping_36 rfl rfl ?_
      exact zV_iret O rfl ⟨rfl, _, rfl, hM⟩ (Nat.le_of_ble_eq_true rfl) (Nat.le_of_ble_eq_true rfl) dX8_keeping_37
    · replace hM := hM.2 hc
      refine zV_iload_n O dX8_keeping_14 rfl rfl ?_
      refine zV_aload_n O dX8_keeping_15 rfl rfl ?_
      refine zV_iload_n O dX8_keeping_16 rfl rfl ?_
      refine zV_callV (as := [aI v2]) (st := [aI v1]) O zc_X8_kept (Or.inl zl_RX8_227) zi_1569 zi_122 zt_185 rfl rfl (by decide) (Nat.le_of_ble_eq_true rfl) rfl rfl (Nat.le_of_ble_eq_true rfl) (Nat.le_of_ble_eq_true rfl) (Nat.le_of_ble_eq_true rfl) (Nat.le_of_ble_eq_true rfl) (Nat.le_of_ble_eq_true rfl) (Nat.le_of_ble_eq_true rfl) dX8_keeping_17 (sX8_kept hM) (fun r h9 hq => ?_) (fun x h9 hq => hq.elim)
      obtain ⟨rfl, z4, rfl, hM⟩ := hq
      refine zV_if_le (tgt := 27) O dX8_keeping_20 (by decide) (fun hc => ?_) (fun hc => ?_)
      · replace hM := hM.1 hc
        refine zV_iconst (z := 0) O ⟨by omega, by omega⟩ dX8_keeping_27 ?_
        refine zV_sub (ls2 := [some (aR 185), none, some (aI v2)]) ⟨rfl, rfl, trivial⟩ ?_
        exact sX8_keeping_b28 O hK4 (Or.inl rfl) hM
      · replace hM := hM.2 hc
        refine zV_iconst (z := 1) O ⟨by omega, by omega⟩ dX8_keeping_23 ?_
        refine zV_goto (tgt := 28) O dX8_keeping_24 (by decide) ?_
        refine zV_sub (ls2 := [some (aR 185), none, some (aI v2)]) ⟨rfl, rfl, trivial⟩ ?_
        exact sX8_keeping_b28 O hK4 (Or.inr rfl) hM
def mX8_keeping  (h : Hp) (Q : Int → Prop) : Prop := (∃ ff, mX8_keeping_b4 h Q ff 0 0)
set_option maxHeartbeats 4000000 in
set_option maxRecDepth 100000 in
theorem sX8_keeping {l0 : Launch}  {h : Hp} {Q : Int → Prop}  (hM : mX8_keeping  h Q) : zSp l0 yX8_keeping cX8_keeping 3 (some .int) 197 (6) 0 0 [aR 185] h (qPI h Q) xN := by
  unfold mX8_keeping at hM
  refine zSp_intro zpn_RX8 (Nat.le_of_ble_eq_true rfl) (fun a O => ?_)
  show zV a (6, 0, 0, (qPI h Q), xN) 0 0 0 [some (aR 185), none, none] [] h
  refine zV_iconst (z := 0) O ⟨by omega, by omega⟩ dX8_keeping_0 ?_
  refine zV_istore_n O dX8_keeping_1 rfl (Nat.le_of_ble_eq_true rfl) rfl ?_
  refine zV_iconst (z := 0) O ⟨by omega, by omega⟩ dX8_keeping_2 ?_
  refine zV_istore_n O dX8_keeping_3 rfl (Nat.le_of_ble_eq_true rfl) rfl ?_
  obtain ⟨ff, hM⟩ := hM
  exact sX8_keeping_b4 O ff _ _ hM
def mX8_readsRule_b94 (Q : Hp → Prop) (v1 : Int) (h : Hp) : Prop := (mX8_isGood h (fun z40 => ((¬ z40 = 0 → (mX8_next h (fun h41 => (mX8_ruleCell v1 2 h41 (fun z42 => (mX8_side h41 (fun z43 h44 => (((0 : Int) ≤ z42 ∧ z42 < 1096) ∧ (∀ h45 : Hp, h45 = wr h44 187 z42 z43 → (mX8_ruleCell v1 3 h45 (fun z46 => (mX8_side h45 (fun z47 h48 => (((0 : Int) ≤ z46 ∧ z46 < 1096) ∧ (∀ h49 : Hp, h49 = wr h48 187 z46 z47 → (mX8_isGood h49 (fun z50 => ((z50 = 0 → (Q h49)) ∧ (¬ z50 = 0 → (zr (v1 + 1) ∧ (((0 : Int) ≤ 1 ∧ (1 : Int) < 1096) ∧ (∀ h51 : Hp, h51 = wr h49 187 1 (v1 + 1) → (Q h51))))))))))))))))))))))) ∧ (z40 = 0 → (Q h)))))
set_option maxHeartbeats 4000000 in
set_option maxRecDepth 100000 in
theorem sX8_readsRule_b94 {l0 : Launch} {a : ZC}  {Q : Hp → Prop}  (O : zOk l0 a cX8_readsRule RX8 2 none 197 [])   {v1 : Int} {h : Hp}  (hM : mX8_readsRule_b94 Q v1 h) : zV a (6, 0, 0, (qV Q), xN) 0 0 94 [some (aR 185), some (aI v1)] [] h := by
  unfold mX8_readsRule_b94 at hM
  refine zV_aload_n O dX8_readsRule_94 rfl rfl ?_
  refine zV_callV (as := []) (st := []) O zc_X8_isGood (Or.inl zl_RX8_111) zi_1470 zi_103 zt_185 rfl rfl (by decide) (Nat.le_of_ble_eq_true rfl) rfl rfl (Nat.le_of_ble_eq_true rfl) (Nat.le_of_ble_eq_true rfl) (Nat.le_of_ble_eq_true rfl) (Nat.le_of_ble_eq_true rfl) (Nat.le_of_ble_eq_true rfl) (Nat.le_of_ble_eq_true rfl) dX8_readsRule_95 (sX8_isGood hM) (fun r h9 hq => ?_) (fun x h9 hq => hq.elim)
  obtain ⟨rfl, z40, rfl, hzz40, hM⟩ := hq
  refine zV_if_ne (tgt := 102) O dX8_readsRule_98 (by decide) (fun hc => ?_) (fun hc => ?_)
  · replace hM := hM.1 hc
    refine zV_aload_n O dX8_readsRule_102 rfl rfl ?_
    refine zV_callV (as := []) (st := []) O zc_X8_next (Or.inl zl_RX8_108) zi_1428 zi_95 zt_185 rfl rfl (by decide) (Nat.le_of_ble_eq_true rfl) rfl rfl (Nat.le_of_ble_eq_true rfl) (Nat.le_of_ble_eq_true rfl) (Nat.le_of_ble_eq_true rfl) (Nat.le_of_ble_eq_true rfl) (Nat.le_of_ble_eq_true rfl) (Nat.le_of_ble_eq_true rfl) dX8_readsRule_103 (sX8_next hM) (fun r h41 hq => ?_) (fun x h9 hq => hq.elim)
    obtain ⟨rfl, hM⟩ := hq
    refine zV_aload_n O dX8_readsRule_106 rfl rfl ?_
    refine zV_getR O zf_RX8_17 zt_185 rfl (by decide) dX8_readsRule_107 ?_
    refine zV_iload_n O dX8_readsRule_110 rfl rfl ?_
    refine zV_iconst (z := 2) O ⟨by omega, by omega⟩ dX8_readsRule_111 ?_
    refine zV_callS (as := [aI v1, aI 2]) (st := [aR 187]) O zc_X8_ruleCell (Or.inl zl_RX8_167) zi_1519 (Nat.le_of_ble_eq_true rfl) rfl rfl (Nat.le_of_ble_eq_true rfl) (Nat.le_of_ble_eq_true rfl) (Nat.le_of_ble_eq_true rfl) (Nat.le_of_ble_eq_true rfl) (Nat.le_of_ble_eq_true rfl) (Nat.le_of_ble_eq_true rfl) dX8_readsRule_112 (sX8_ruleCell hM) (fun r h9 hq => ?_) (fun x h9 hq => hq.elim)
    obtain ⟨rfl, z42, rfl, hM⟩ := hq
    refine zV_aload_n O dX8_readsRule_115 rfl rfl ?_
    refine zV_callV (as := []) (st := [aI z42, aR 187]) O zc_X8_side (Or.inl zl_RX8_174) zi_1525 zi_113 zt_185 rfl rfl (by decide) (Nat.le_of_ble_eq_true rfl) rfl rfl (Nat.le_of_ble_eq_true rfl) (Nat.le_of_ble_eq_true rfl) (Nat.le_of_ble_eq_true rfl) (Nat.le_of_ble_eq_true rfl) (Nat.le_of_ble_eq_true rfl) (Nat.le_of_ble_eq_true rfl) dX8_readsRule_116 (sX8_side hM) (fun r h44 hq => ?_) (fun x h9 hq => hq.elim)
    obtain ⟨z43, rfl, hM⟩ := hq
    obtain ⟨hc, hM⟩ := hM
    refine zV_iast O zt_187 (by decide) hc dX8_readsRule_119 ?_
    have hM := hM (hu h44 187 (Int.toNat z42) z43) rfl
    generalize hu h44 187 (Int.toNat z42) z43 = h45 at hM ⊢
    refine zV_aload_n O dX8_readsRule_120 rfl rfl ?_
    refine zV_getR O zf_RX8_17 zt_185 rfl (by decide) dX8_readsRule_121 ?_
    refine zV_iload_n O dX8_readsRule_124 rfl rfl ?_
    refine zV_iconst (z := 3) O ⟨by omega, by omega⟩ dX8_readsRule_125 ?_
    refine zV_callS (as := [aI v1, aI 3]) (st := [aR 187]) O zc_X8_ruleCell (Or.inl zl_RX8_167) zi_1519 (Nat.le_of_ble_eq_true rfl) rfl rfl (Nat.le_of_ble_eq_true rfl) (Nat.le_of_ble_eq_true rfl) (Nat.le_of_ble_eq_true rfl) (Nat.le_of_ble_eq_true rfl) (Nat.le_of_ble_eq_true rfl) (Nat.le_of_ble_eq_true rfl) dX8_readsRule_126 (sX8_ruleCell hM) (fun r h9 hq => ?_) (fun x h9 hq => hq.elim)
    obtain ⟨rfl, z46, rfl, hM⟩ := hq
    refine zV_aload_n O dX8_readsRule_129 rfl rfl ?_
    refine zV_callV (as := []) (st := [aI z46, aR 187]) O zc_X8_side (Or.inl zl_RX8_174) zi_1525 zi_113 zt_185 rfl rfl (by decide) (Nat.le_of_ble_eq_true rfl) rfl rfl (Nat.le_of_ble_eq_true rfl) (Nat.le_of_ble_eq_true rfl) (Nat.le_of_ble_eq_true rfl) (Nat.le_of_ble_eq_true rfl) (Nat.le_of_ble_eq_true rfl) (Nat.le_of_ble_eq_true rfl) dX8_readsRule_130 (sX8_side hM) (fun r h48 hq => ?_) (fun x h9 hq => hq.elim)
    obtain ⟨z47, rfl, hM⟩ := hq
    obtain ⟨hc, hM⟩ := hM
    refine zV_iast O zt_187 (by decide) hc dX8_readsRule_133 ?_
    have hM := hM (hu h48 187 (Int.toNat z46) z47) rfl
    generalize hu h48 187 (Int.toNat z46) z47 = h49 at hM ⊢
    refine zV_aload_n O dX8_readsRule_134 rfl rfl ?_
    refine zV_callV (as := []) (st := []) O zc_X8_isGood (Or.inl zl_RX8_111) zi_1470 zi_103 zt_185 rfl rfl (by decide) (Nat.le_of_ble_eq_true rfl) rfl rfl (Nat.le_of_ble_eq_true rfl) (Nat.le_of_ble_eq_true rfl) (Nat.le_of_ble_eq_true rfl) (Nat.le_of_ble_eq_true rfl) (Nat.le_of_ble_eq_true rfl) (Nat.le_of_ble_eq_true rfl) dX8_readsRule_135 (sX8_isGood hM) (fun r h9 hq => ?_) (fun x h9 hq => hq.elim)
    obtain ⟨rfl, z50, rfl, hzz50, hM⟩ := hq
    refine zV_if_eq (tgt := 150) O dX8_readsRule_138 (by decide) (fun hc => ?_) (fun hc => ?_)
    · replace hM := hM.1 hc
      exact zV_vret O rfl ⟨rfl, hM⟩ (Nat.le_of_ble_eq_true rfl) (Nat.le_of_ble_eq_true rfl) dX8_readsRule_150
    · replace hM := hM.2 hc
      refine zV_aload_n O dX8_readsRule_141 rfl rfl ?_
      refine zV_getR O zf_RX8_17 zt_185 rfl (by decide) dX8_readsRule_142 ?_
      refine zV_iconst (z := 1) O ⟨by omega, by omega⟩ dX8_readsRule_145 ?_
      refine zV_iload_n O dX8_readsRule_146 rfl rfl ?_
      refine zV_iconst (z := 1) O ⟨by omega, by omega⟩ dX8_readsRule_147 ?_
      obtain ⟨hc, hM⟩ := hM
      refine zV_iadd O dX8_readsRule_148 hc ?_
      obtain ⟨hc, hM⟩ := hM
      refine zV_iast O zt_187 (by decide) hc dX8_readsRule_149 ?_
      have hM := hM (hu h49 187 (Int.toNat 1) (v1 + 1)) rfl
      generalize hu h49 187 (Int.toNat 1) (v1 + 1) = h51 at hM ⊢
      exact zV_vret O rfl ⟨rfl, hM⟩ (Nat.le_of_ble_eq_true rfl) (Nat.le_of_ble_eq_true rfl) dX8_readsRule_150
  · replace hM := hM.2 hc
    exact zV_vret O rfl ⟨rfl, hM⟩ (Nat.le_of_ble_eq_true rfl) (Nat.le_of_ble_eq_true rfl) dX8_readsRule_101
def mX8_readsRule  (h : Hp) (Q : Hp → Prop) : Prop := (((0 : Int) ≤ 1 ∧ (1 : Int) < 1096) ∧ ((¬ (rd h 187 1) = (30 : Int) → (mX8_next h (fun h52 => (mX8_ruleCell (rd h 187 1) 0 h52 (fun z53 => (mX8_number 0 1 h52 (fun z54 h55 => (((0 : Int) ≤ z53 ∧ z53 < 1096) ∧ (∀ h56 : Hp, h56 = wr h55 187 z53 z54 → (mX8_isWord 776813 h56 (fun z57 => ((z57 = 0 → (mX8_isWord 82780 h56 (fun z58 => ((z58 = 0 → (mX8_wrongs 1 h56 (fun z59 h60 => (mX8_readsRule_b94 Q (rd h 187 1) h60)))) ∧ (¬ z58 = 0 → (mX8_ruleCell (rd h 187 1) 1 h56 (fun z61 => (((0 : Int) ≤ z61 ∧ z61 < 1096) ∧ (∀ h62 : Hp, h62 = wr h56 187 z61 0 → (mX8_readsRule_b94 Q (rd h 187 1) h62)))))))))) ∧ (¬ z57 = 0 → (mX8_ruleCell (rd h 187 1) 1 h56 (fun z63 => (((0 : Int) ≤ z63 ∧ z63 < 1096) ∧ (∀ h64 : Hp, h64 = wr h56 187 z63 1 → (mX8_readsRule_b94 Q (rd h 187 1) h64)))))))))))))))))) ∧ ((rd h 187 1) = (30 : Int) → (mX8_wrongs 3 h (fun z65 h66 => (Q h66))))))
set_option maxHeartbeats 4000000 in
set_option maxRecDepth 100000 in
theorem sX8_readsRule {l0 : Launch}  {h : Hp} {Q : Hp → Prop}  (hM : mX8_readsRule  h Q) : zSp l0 yX8_readsRule cX8_readsRule 2 none 197 (6) 0 0 [aR 185] h (qV Q) xN := by
  unfold mX8_readsRule at hM
  refine zSp_intro zpn_RX8 (Nat.le_of_ble_eq_true rfl) (fun a O => ?_)
  show zV a (6, 0, 0, (qV Q), xN) 0 0 0 [some (aR 185), none] [] h
  refine zV_aload_n O dX8_readsRule_0 rfl rfl ?_
  refine zV_getR O zf_RX8_17 zt_185 rfl (by decide) dX8_readsRule_1 ?_
  refine zV_iconst (z := 1) O ⟨by omega, by omega⟩ dX8_readsRule_4 ?_
  obtain ⟨hc, hM⟩ := hM
  refine zV_iald O zt_187 (by decide) hc dX8_readsRule_5 ?_
  refine zV_istore_n O dX8_readsRule_6 rfl (Nat.le_of_ble_eq_true rfl) rfl ?_
  refine zV_iload_n O dX8_readsRule_7 rfl rfl ?_
  refine zV_bipush (z := 30) O ⟨by omega, by omega⟩ rfl dX8_readsRule_8 ?_
  refine zV_icmp_ne (tgt := 20) O dX8_readsRule_10 (by decide) (fun hc => ?_) (fun hc => ?_)
  · replace hM := hM.1 hc
    refine zV_aload_n O dX8_readsRule_20 rfl rfl ?_
    refine zV_callV (as := []) (st := []) O zc_X8_next (Or.inl zl_RX8_108) zi_1428 zi_95 zt_185 rfl rfl (by decide) (Nat.le_of_ble_eq_true rfl) rfl rfl (Nat.le_of_ble_eq_true rfl) (Nat.le_of_ble_eq_true rfl) (Nat.le_of_ble_eq_true rfl) (Nat.le_of_ble_eq_true rfl) (Nat.le_of_ble_eq_true rfl) (Nat.le_of_ble_eq_true rfl) dX8_readsRule_21 (sX8_next hM) (fun r h52 hq => ?_) (fun x h9 hq => hq.elim)
    obtain ⟨rfl, hM⟩ := hq
    refine zV_aload_n O dX8_readsRule_24 rfl rfl ?_
    refine zV_getR O zf_RX8_17 zt_185 rfl (by decide) dX8_readsRule_25 ?_
    refine zV_iload_n O dX8_readsRule_28 rfl rfl ?_
    refine zV_iconst (z := 0) O ⟨by omega, by omega⟩ dX8_readsRule_29 ?_
    refine zV_callS (as := [aI (rd h 187 1), aI 0]) (st := [aR 187]) O zc_X8_ruleCell (Or.inl zl_RX8_167) zi_1519 (Nat.le_of_ble_eq_true rfl) rfl rfl (Nat.le_of_ble_eq_true rfl) (Nat.le_of_ble_eq_true rfl) (Nat.le_of_ble_eq_true rfl) (Nat.le_of_ble_eq_true rfl) (Nat.le_of_ble_eq_true rfl) (Nat.le_of_ble_eq_true rfl) dX8_readsRule_30 (sX8_ruleCell hM) (fun r h9 hq => ?_) (fun x h9 hq => hq.elim)
    obtain ⟨rfl, z53, rfl, hM⟩ := hq
    refine zV_aload_n O dX8_readsRule_33 rfl rfl ?_
    refine zV_iconst (z := 0) O ⟨by omega, by omega⟩ dX8_readsRule_34 ?_
    refine zV_iconst (z := 1) O ⟨by omega, by omega⟩ dX8_readsRule_35 ?_
    refine zV_callV (as := [aI 0, aI 1]) (st := [aI z53, aR 187]) O zc_X8_number (Or.inl zl_RX8_140) zi_1479 zi_105 zt_185 rfl rfl (by decide) (Nat.le_of_ble_eq_true rfl) rfl rfl (Nat.le_of_ble_eq_true rfl) (Nat.le_of_ble_eq_true rfl) (Nat.le_of_ble_eq_true rfl) (Nat.le_of_ble_eq_true rfl) (Nat.le_of_ble_eq_true rfl) (Nat.le_of_ble_eq_true rfl) dX8_readsRule_36 (sX8_number hM) (fun r h55 hq => ?_) (fun x h9 hq => hq.elim)
    obtain ⟨z54, rfl, hM⟩ := hq
    obtain ⟨hc, hM⟩ := hM
    refine zV_iast O zt_187 (by decide) hc dX8_readsRule_39 ?_
    have hM := hM (hu h55 187 (Int.toNat z53) z54) rfl
    generalize hu h55 187 (Int.toNat z53) z54 = h56 at hM ⊢
    refine zV_aload_n O dX8_readsRule_40 rfl rfl ?_
    refine zV_ldc2 (z := 776813) O ⟨by omega, by omega⟩ zi_1521.1 zi_1521.2 dX8_readsRule_41 ?_
    refine zV_callV (as := [aL 776813]) (st := []) O zc_X8_isWord (Or.inl zl_RX8_115) zi_1466 zi_102 zt_185 rfl rfl (by decide) (Nat.le_of_ble_eq_true rfl) rfl rfl (Nat.le_of_ble_eq_true rfl) (Nat.le_of_ble_eq_true rfl) (Nat.le_of_ble_eq_true rfl) (Nat.le_of_ble_eq_true rfl) (Nat.le_of_ble_eq_true rfl) (Nat.le_of_ble_eq_true rfl) dX8_readsRule_44 (sX8_isWord hM) (fun r h9 hq => ?_) (fun x h9 hq => hq.elim)
    obtain ⟨rfl, z57, rfl, hzz57, hM⟩ := hq
    refine zV_if_eq (tgt := 64) O dX8_readsRule_47 (by decide) (fun hc => ?_) (fun hc => ?_)
    · replace hM := hM.1 hc
      refine zV_aload_n O dX8_readsRule_64 rfl rfl ?_
      refine zV_ldc2 (z := 82780) O ⟨by omega, by omega⟩ zi_1522.1 zi_1522.2 dX8_readsRule_65 ?_
      refine zV_callV (as := [aL 82780]) (st := []) O zc_X8_isWord (Or.inl zl_RX8_115) zi_1466 zi_102 zt_185 rfl rfl (by decide) (Nat.le_of_ble_eq_true rfl) rfl rfl (Nat.le_of_ble_eq_true rfl) (Nat.le_of_ble_eq_true rfl) (Nat.le_of_ble_eq_true rfl) (Nat.le_of_ble_eq_true rfl) (Nat.le_of_ble_eq_true rfl) (Nat.le_of_ble_eq_true rfl) dX8_readsRule_68 (sX8_isWord hM) (fun r h9 hq => ?_) (fun x h9 hq => hq.elim)
      obtain ⟨rfl, z58, rfl, hzz58, hM⟩ := hq
      refine zV_if_eq (tgt := 88) O dX8_readsRule_71 (by decide) (fun hc => ?_) (fun hc => ?_)
      · replace hM := hM.1 hc
        refine zV_aload_n O dX8_readsRule_88 rfl rfl ?_
        refine zV_iconst (z := 1) O ⟨by omega, by omega⟩ dX8_readsRule_89 ?_
        refine zV_callV (as := [aI 1]) (st := []) O zc_X8_wrongs (Or.inl zl_RX8_122) zi_1474 zi_104 zt_185 rfl rfl (by decide) (Nat.le_of_ble_eq_true rfl) rfl rfl (Nat.le_of_ble_eq_true rfl) (Nat.le_of_ble_eq_true rfl) (Nat.le_of_ble_eq_true rfl) (Nat.le_of_ble_eq_true rfl) (Nat.le_of_ble_eq_true rfl) (Nat.le_of_ble_eq_true rfl) dX8_readsRule_90 (sX8_wrongs hM) (fun r h60 hq => ?_) (fun x h9 hq => hq.elim)
        obtain ⟨z59, rfl, hzz59, hM⟩ := hq
        refine zV_pop O rfl dX8_readsRule_93 ?_
        exact sX8_readsRule_b94 O hM
      · replace hM := hM.2 hc
        refine zV_aload_n O dX8_readsRule_74 rfl rfl ?_
        refine zV_getR O zf_RX8_17 zt_185 rfl (by decide) dX8_readsRule_75 ?_
        refine zV_iload_n O dX8_readsRule_78 rfl rfl ?_
        refine zV_iconst (z := 1) O ⟨by omega, by omega⟩ dX8_readsRule_79 ?_
        refine zV_callS (as := [aI (rd h 187 1), aI 1]) (st := [aR 187]) O zc_X8_ruleCell (Or.inl zl_RX8_167) zi_1519 (Nat.le_of_ble_eq_true rfl) rfl rfl (Nat.le_of_ble_eq_true rfl) (Nat.le_of_ble_eq_true rfl) (Nat.le_of_ble_eq_true rfl) (Nat.le_of_ble_eq_true rfl) (Nat.le_of_ble_eq_true rfl) (Nat.le_of_ble_eq_true rfl) dX8_readsRule_80 (sX8_ruleCell hM) (fun r h9 hq => ?_) (fun x h9 hq => hq.elim)
        obtain ⟨rfl, z61, rfl, hM⟩ := hq
        refine zV_iconst (z := 0) O ⟨by omega, by omega⟩ dX8_readsRule_83 ?_
        obtain ⟨hc, hM⟩ := hM
        refine zV_iast O zt_187 (by decide) hc dX8_readsRule_84 ?_
        have hM := hM (hu h56 187 (Int.toNat z61) 0) rfl
        generalize hu h56 187 (Int.toNat z61) 0 = h62 at hM ⊢
        refine zV_goto (tgt := 94) O dX8_readsRule_85 (by decide) ?_
        exact sX8_readsRule_b94 O hM
    · replace hM := hM.2 hc
      refine zV_aload_n O dX8_readsRule_50 rfl rfl ?_
      refine zV_getR O zf_RX8_17 zt_185 rfl (by decide) dX8_readsRule_51 ?_
      refine zV_iload_n O dX8_readsRule_54 rfl rfl ?_
      refine zV_iconst (z := 1) O ⟨by omega, by omega⟩ dX8_readsRule_55 ?_
      refine zV_callS (as := [aI (rd h 187 1), aI 1]) (st := [aR 187]) O zc_X8_ruleCell (Or.inl zl_RX8_167) zi_1519 (Nat.le_of_ble_eq_true rfl) rfl rfl (Nat.le_of_ble_eq_true rfl) (Nat.le_of_ble_eq_true rfl) (Nat.le_of_ble_eq_true rfl) (Nat.le_of_ble_eq_true rfl) (Nat.le_of_ble_eq_true rfl) (Nat.le_of_ble_eq_true rfl) dX8_readsRule_56 (sX8_ruleCell hM) (fun r h9 hq => ?_) (fun x h9 hq => hq.elim)
      obtain ⟨rfl, z63, rfl, hM⟩ := hq
      refine zV_iconst (z := 1) O ⟨by omega, by omega⟩ dX8_readsRule_59 ?_
      obtain ⟨hc, hM⟩ := hM
      refine zV_iast O zt_187 (by decide) hc dX8_readsRule_60 ?_
      have hM := hM (hu h56 187 (Int.toNat z63) 1) rfl
      generalize hu h56 187 (Int.toNat z63) 1 = h64 at hM ⊢
      refine zV_goto (tgt := 94) O dX8_readsRule_61 (by decide) ?_
      exact sX8_readsRule_b94 O hM
  · replace hM := hM.2 hc
    refine zV_aload_n O dX8_readsRule_13 rfl rfl ?_
    refine zV_iconst (z := 3) O ⟨by omega, by omega⟩ dX8_readsRule_14 ?_
    refine zV_callV (as := [aI 3]) (st := []) O zc_X8_wrongs (Or.inl zl_RX8_122) zi_1474 zi_104 zt_185 rfl rfl (by decide) (Nat.le_of_ble_eq_true rfl) rfl rfl (Nat.le_of_ble_eq_true rfl) (Nat.le_of_ble_eq_true rfl) (Nat.le_of_ble_eq_true rfl) (Nat.le_of_ble_eq_true rfl) (Nat.le_of_ble_eq_true rfl) (Nat.le_of_ble_eq_true rfl) dX8_readsRule_15 (sX8_wrongs hM) (fun r h66 hq => ?_) (fun x h9 hq => hq.elim)
    obtain ⟨z65, rfl, hzz65, hM⟩ := hq
    refine zV_pop O rfl dX8_readsRule_18 ?_
    exact zV_vret O rfl ⟨rfl, hM⟩ (Nat.le_of_ble_eq_true rfl) (Nat.le_of_ble_eq_true rfl) dX8_readsRule_19
def mX8_holderOf_b33 (h : Hp) (Q : Int → Prop) (K2 : Int → Int → Int → Prop) (v1 : Int) (v2 : Int) (v3 : Int) : Prop := (zr (v3 + 1) ∧ (K2 v1 v2 (v3 + 1)))
set_option maxHeartbeats 4000000 in
set_option maxRecDepth 100000 in
theorem sX8_holderOf_b33 {l0 : Launch} {a : ZC}  {h : Hp} {Q : Int → Prop} {K2 : Int → Int → Int → Prop} (O : zOk l0 a cX8_holderOf RX8 4 (some .int) 197 [])  (hK2 : ∀ (v1 : Int) (v2 : Int) (v3 : Int), K2 v1 v2 v3 → zV a (7, 0, 0, (qPI h Q), xN) 0 0 2 [some (aR 185), some (aI v1), some (aI v2), some (aI v3)] [] h) {v1 : Int} {v2 : Int} {v3 : Int}   (hM : mX8_holderOf_b33 h Q K2 v1 v2 v3) : zV a (7, 0, 0, (qPI h Q), xN) 0 0 33 [some (aR 185), some (aI v1), some (aI v2), some (aI v3)] [] h := by
  unfold mX8_holderOf_b33 at hM
  obtain ⟨hc, hM⟩ := hM
  refine zV_iinc O dX8_holderOf_33 rfl (Nat.le_of_ble_eq_true rfl) rfl hc ?_
  refine zV_goto (tgt := 2) O dX8_holderOf_36 (by decide) ?_
  exact hK2 _ _ _ hM
def mX8_holderOf_b2 (h : Hp) (Q : Int → Prop) : Nat → Int → Int → Int → Prop
  | 0 => fun _ _ _ => False
  | fu2 + 1 => fun v1 v2 v3 => (((0 : Int) ≤ 0 ∧ (0 : Int) < 1096) ∧ (((rd h 186 0) ≤ v3 → (Q (-1))) ∧ (¬ (rd h 186 0) ≤ v3 → (mX8_of v3 0 h (fun z7 => ((¬ z7 = v1 → (mX8_holderOf_b33 h Q (mX8_holderOf_b2 h Q fu2) v1 v2 v3)) ∧ (z7 = v1 → (mX8_holds v3 v2 h (fun z8 => ((z8 = 0 → (mX8_holderOf_b33 h Q (mX8_holderOf_b2 h Q fu2) v1 v2 v3)) ∧ (¬ z8 = 0 → (Q v3))))))))))))
set_option maxHeartbeats 4000000 in
set_option maxRecDepth 100000 in
theorem sX8_holderOf_b2 {l0 : Launch} {a : ZC}  {h : Hp} {Q : Int → Prop}  (O : zOk l0 a cX8_holderOf RX8 4 (some .int) 197 [])   : ∀ (ff : Nat) (v1 : Int) (v2 : Int) (v3 : Int) , mX8_holderOf_b2 h Q ff v1 v2 v3 → zV a (7, 0, 0, (qPI h Q), xN) 0 0 2 [some (aR 185), some (aI v1), some (aI v2), some (aI v3)] [] h := by
  intro ff
  induction ff with
  | zero => intro v1 v2 v3 hM; exact hM.elim
  | succ ff ih =>
    have hK2 := ih
    intro v1 v2 v3 hM
    unfold mX8_holderOf_b2 at hM
    refine zV_iload_n O dX8_holderOf_2 rfl rfl ?_
    refine zV_aload_n O dX8_holderOf_3 rfl rfl ?_
    refine zV_getR O zf_RX8_13 zt_185 rfl (by decide) dX8_holderOf_4 ?_
    refine zV_iconst (z := 0) O ⟨by omega, by omega⟩ dX8_holderOf_7 ?_
    obtain ⟨hc, hM⟩ := hM
    refine zV_iald O zt_186 (by decide) hc dX8_holderOf_8 ?_
    refine zV_icmp_ge (tgt := 39) O dX8_holderOf_9 (by decide) (fun hc => ?_) (fun hc => ?_)
    · replace hM := hM.1 hc
      refine zV_iconst (z := -1) O ⟨by omega, by omega⟩ dX8_holderOf_39 ?_
      exact zV_iret O rfl ⟨rfl, _, rfl, hM⟩ (Nat.le_of_ble_eq_true rfl) (Nat.le_of_ble_eq_true rfl) dX8_holderOf_40
    · replace hM := hM.2 hc
      refine zV_aload_n O dX8_holderOf_12 rfl rfl ?_
      refine zV_iload_n O dX8_holderOf_13 rfl rfl ?_
      refine zV_iconst (z := 0) O ⟨by omega, by omega⟩ dX8_holderOf_14 ?_
      refine zV_callV (as := [aI v3, aI 0]) (st := []) O zc_X8_of (Or.inl zl_RX8_218) zi_1549 zi_117 zt_185 rfl rfl (by decide) (Nat.le_of_ble_eq_true rfl) rfl rfl (Nat.le_of_ble_eq_true rfl) (Nat.le_of_ble_eq_true rfl) (Nat.le_of_ble_eq_true rfl) (Nat.le_of_ble_eq_true rfl) (Nat.le_of_ble_eq_true rfl) (Nat.le_of_ble_eq_true rfl) dX8_holderOf_15 (sX8_of hM) (fun r h9 hq => ?_) (fun x h9 hq => hq.elim)
      obtain ⟨rfl, z7, rfl, hM⟩ := hq
      refine zV_iload_n O dX8_holderOf_18 rfl rfl ?_
      refine zV_icmp_ne (tgt := 33) O dX8_holderOf_19 (by decide) (fun hc => ?_) (fun hc => ?_)
      · replace hM := hM.1 hc
        exact sX8_holderOf_b33 O hK2 hM
      · replace hM := hM.2 hc
        refine zV_aload_n O dX8_holderOf_22 rfl rfl ?_
        refine zV_iload_n O dX8_holderOf_23 rfl rfl ?_
        refine zV_iload_n O dX8_holderOf_24 rfl rfl ?_
        refine zV_callV (as := [aI v3, aI v2]) (st := []) O zc_X8_holds (Or.inl zl_RX8_230) zi_1565 zi_121 zt_185 rfl rfl (by decide) (Nat.le_of_ble_eq_true rfl) rfl rfl (Nat.le_of_ble_eq_true rfl) (Nat.le_of_ble_eq_true rfl) (Nat.le_of_ble_eq_true rfl) (Nat.le_of_ble_eq_true rfl) (Nat.le_of_ble_eq_true rfl) (Nat.le_of_ble_eq_true rfl) dX8_holderOf_25 (sX8_holds hM) (fun r h9 hq => ?_) (fun x h9 hq => hq.elim)
        obtain ⟨rfl, z8, rfl, hzz8, hM⟩ := hq
        refine zV_if_eq (tgt := 33) O dX8_holderOf_28 (by decide) (fun hc => ?_) (fun hc => ?_)
        · replace hM := hM.1 hc
          exact sX8_holderOf_b33 O hK2 hM
        · replace hM := hM.2 hc
          refine zV_iload_n O dX8_holderOf_31 rfl rfl ?_
          exact zV_iret O rfl ⟨rfl, _, rfl, hM⟩ (Nat.le_of_ble_eq_true rfl) (Nat.le_of_ble_eq_true rfl) dX8_holderOf_32
def mX8_holderOf (x1 : Int) (x2 : Int) (h : Hp) (Q : Int → Prop) : Prop := (∃ ff, mX8_holderOf_b2 h Q ff x1 x2 0)
set_option maxHeartbeats 4000000 in
set_option maxRecDepth 100000 in
theorem sX8_holderOf {l0 : Launch} {x1 : Int} {x2 : Int} {h : Hp} {Q : Int → Prop}  (hM : mX8_holderOf x1 x2 h Q) : zSp l0 yX8_holderOf cX8_holderOf 4 (some .int) 197 (7) 0 0 [aR 185, aI x1, aI x2] h (qPI h Q) xN := by
  unfold mX8_holderOf at hM
  refine zSp_intro zpn_RX8 (Nat.le_of_ble_eq_true rfl) (fun a O => ?_)
  show zV a (7, 0, 0, (qPI h Q), xN) 0 0 0 [some (aR 185), some (aI x1), some (aI x2), none] [] h
  refine zV_iconst (z := 0) O ⟨by omega, by omega⟩ dX8_holderOf_0 ?_
  refine zV_istore_n O dX8_holderOf_1 rfl (Nat.le_of_ble_eq_true rfl) rfl ?_
  obtain ⟨ff, hM⟩ := hM
  exact sX8_holderOf_b2 O ff _ _ _ hM
def mX8_isFree_b2 (h : Hp) (Q : Int → Prop) : Nat → Int → Int → Prop
  | 0 => fun _ _ => False
  | fu2 + 1 => fun v1 v2 => (((0 : Int) ≤ 0 ∧ (0 : Int) < 1096) ∧ (((rd h 186 0) ≤ v2 → (Q 1)) ∧ (¬ (rd h 186 0) ≤ v2 → (mX8_holds v2 v1 h (fun z7 => ((¬ z7 = 0 → (Q 0)) ∧ (z7 = 0 → (mX8_of v2 3 h (fun z8 => ((¬ z8 = v1 → (zr (v2 + 1) ∧ ((mX8_isFree_b2 h Q fu2) v1 (v2 + 1)))) ∧ (z8 = v1 → (Q 0))))))))))))
set_option maxHeartbeats 4000000 in
set_option maxRecDepth 100000 in
theorem sX8_isFree_b2 {l0 : Launch} {a : ZC}  {h : Hp} {Q : Int → Prop}  (O : zOk l0 a cX8_isFree RX8 3 (some .boolean) 197 [])   : ∀ (ff : Nat) (v1 : Int) (v2 : Int) , mX8_isFree_b2 h Q ff v1 v2 → zV a (7, 0, 0, (qPZ h Q), xN) 0 0 2 [some (aR 185), some (aI v1), some (aI v2)] [] h := by
  intro ff
  induction ff with
  | zero => intro v1 v2 hM; exact hM.elim
  | succ ff ih =>
    have hK2 := ih
    intro v1 v2 hM
    unfold mX8_isFree_b2 at hM
    refine zV_iload_n O dX8_isFree_2 rfl rfl ?_
    refine zV_aload_n O dX8_isFree_3 rfl rfl ?_
    refine zV_getR O zf_RX8_13 zt_185 rfl (by decide) dX8_isFree_4 ?_
    refine zV_iconst (z := 0) O ⟨by omega, by omega⟩ dX8_isFree_7 ?_
    obtain ⟨hc, hM⟩ := hM
    refine zV_iald O zt_186 (by decide) hc dX8_isFree_8 ?_
    refine zV_icmp_ge (tgt := 39) O dX8_isFree_9 (by decide) (fun hc => ?_) (fun hc => ?_)
    · replace hM := hM.1 hc
      refine zV_iconst (z := 1) O ⟨by omega, by omega⟩ dX8_isFree_39 ?_
      exact zV_zret O rfl (Or.inr rfl) ⟨rfl, _, rfl, (Or.inr rfl), hM⟩ (Nat.le_of_ble_eq_true rfl) (Nat.le_of_ble_eq_true rfl) dX8_isFree_40
    · replace hM := hM.2 hc
      refine zV_aload_n O dX8_isFree_12 rfl rfl ?_
      refine zV_iload_n O dX8_isFree_13 rfl rfl ?_
      refine zV_iload_n O dX8_isFree_14 rfl rfl ?_
      refine zV_callV (as := [aI v2, aI v1]) (st := []) O zc_X8_holds (Or.inl zl_RX8_230) zi_1565 zi_121 zt_185 rfl rfl (by decide) (Nat.le_of_ble_eq_true rfl) rfl rfl (Nat.le_of_ble_eq_true rfl) (Nat.le_of_ble_eq_true rfl) (Nat.le_of_ble_eq_true rfl) (Nat.le_of_ble_eq_true rfl) (Nat.le_of_ble_eq_true rfl) (Nat.le_of_ble_eq_true rfl) dX8_isFree_15 (sX8_holds hM) (fun r h9 hq => ?_) (fun x h9 hq => hq.elim)
      obtain ⟨rfl, z7, rfl, hzz7, hM⟩ := hq
      refine zV_if_ne (tgt := 31) O dX8_isFree_18 (by decide) (fun hc => ?_) (fun hc => ?_)
      · replace hM := hM.1 hc
        refine zV_iconst (z := 0) O ⟨by omega, by omega⟩ dX8_isFree_31 ?_
        exact zV_zret O rfl (Or.inl rfl) ⟨rfl, _, rfl, (Or.inl rfl), hM⟩ (Nat.le_of_ble_eq_true rfl) (Nat.le_of_ble_eq_true rfl) dX8_isFree_32
      · replace hM := hM.2 hc
        refine zV_aload_n O dX8_isFree_21 rfl rfl ?_
        refine zV_iload_n O dX8_isFree_22 rfl rfl ?_
        refine zV_iconst (z := 3) O ⟨by omega, by omega⟩ dX8_isFree_23 ?_
        refine zV_callV (as := [aI v2, aI 3]) (st := []) O zc_X8_of (Or.inl zl_RX8_218) zi_1549 zi_117 zt_185 rfl rfl (by decide) (Nat.le_of_ble_eq_true rfl) rfl rfl (Nat.le_of_ble_eq_true rfl) (Nat.le_of_ble_eq_true rfl) (Nat.le_of_ble_eq_true rfl) (Nat.le_of_ble_eq_true rfl) (Nat.le_of_ble_eq_true rfl) (Nat.le_of_ble_eq_true rfl) dX8_isFree_24 (sX8_of hM) (fun r h9 hq => ?_) (fun x h9 hq => hq.elim)
        obtain ⟨rfl, z8, rfl, hM⟩ := hq
        refine zV_iload_n O dX8_isFree_27 rfl rfl ?_
        refine zV_icmp_ne (tgt := 33) O dX8_isFree_28 (by decide) (fun hc => ?_) (fun hc => ?_)
        · replace hM := hM.1 hc
          obtain ⟨hc, hM⟩ := hM
          refine zV_iinc O dX8_isFree_33 rfl (Nat.le_of_ble_eq_true rfl) rfl hc ?_
          refine zV_goto (tgt := 2) O dX8_isFree_36 (by decide) ?_
          exact hK2 _ _ hM
        · replace hM := hM.2 hc
          refine zV_iconst (z := 0) O ⟨by omega, by omega⟩ dX8_isFree_31 ?_
          exact zV_zret O rfl (Or.inl rfl) ⟨rfl, _, rfl, (Or.inl rfl), hM⟩ (Nat.le_of_ble_eq_true rfl) (Nat.le_of_ble_eq_true rfl) dX8_isFree_32
def mX8_isFree (x1 : Int) (h : Hp) (Q : Int → Prop) : Prop := (∃ ff, mX8_isFree_b2 h Q ff x1 0)
set_option maxHeartbeats 4000000 in
set_option maxRecDepth 100000 in
theorem sX8_isFree {l0 : Launch} {x1 : Int} {h : Hp} {Q : Int → Prop}  (hM : mX8_isFree x1 h Q) : zSp l0 yX8_isFree cX8_isFree 3 (some .boolean) 197 (7) 0 0 [aR 185, aI x1] h (qPZ h Q) xN := by
  unfold mX8_isFree at hM
  refine zSp_intro zpn_RX8 (Nat.le_of_ble_eq_true rfl) (fun a O => ?_)
  show zV a (7, 0, 0, (qPZ h Q), xN) 0 0 0 [some (aR 185), some (aI x1), none] [] h
  refine zV_iconst (z := 0) O ⟨by omega, by omega⟩ dX8_isFree_0 ?_
  refine zV_istore_n O dX8_isFree_1 rfl (Nat.le_of_ble_eq_true rfl) rfl ?_
  obtain ⟨ff, hM⟩ := hM
  exact sX8_isFree_b2 O ff _ _ hM
def mX8_isHeldIn_b32 (h : Hp) (Q : Int → Prop) (K2 : Int → Int → Int → Prop) (v1 : Int) (v2 : Int) (v3 : Int) : Prop := (zr (v3 + 1) ∧ (K2 v1 v2 (v3 + 1)))
set_option maxHeartbeats 4000000 in
set_option maxRecDepth 100000 in
theorem sX8_isHeldIn_b32 {l0 : Launch} {a : ZC}  {h : Hp} {Q : Int → Prop} {K2 : Int → Int → Int → Prop} (O : zOk l0 a cX8_isHeldIn RX8 4 (some .boolean) 197 [])  (hK2 : ∀ (v1 : Int) (v2 : Int) (v3 : Int), K2 v1 v2 v3 → zV a (7, 0, 0, (qPZ h Q), xN) 0 0 2 [some (aR 185), some (aI v1), some (aI v2), some (aI v3)] [] h) {v1 : Int} {v2 : Int} {v3 : Int}   (hM : mX8_isHeldIn_b32 h Q K2 v1 v2 v3) : zV a (7, 0, 0, (qPZ h Q), xN) 0 0 32 [some (aR 185), some (aI v1), some (aI v2), some (aI v3)] [] h := by
  unfold mX8_isHeldIn_b32 at hM
  obtain ⟨hc, hM⟩ := hM
  refine zV_iinc O dX8_isHeldIn_32 rfl (Nat.le_of_ble_eq_true rfl) rfl hc ?_
  refine zV_goto (tgt := 2) O dX8_isHeldIn_35 (by decide) ?_
  exact hK2 _ _ _ hM
def mX8_isHeldIn_b2 (h : Hp) (Q : Int → Prop) : Nat → Int → Int → Int → Prop
  | 0 => fun _ _ _ => False
  | fu2 + 1 => fun v1 v2 v3 => (((0 : Int) ≤ 0 ∧ (0 : Int) < 1096) ∧ (((rd h 186 0) ≤ v3 → (Q 0)) ∧ (¬ (rd h 186 0) ≤ v3 → (mX8_isOfNet v3 v1 h (fun z7 => ((z7 = 0 → (mX8_isHeldIn_b32 h Q (mX8_isHeldIn_b2 h Q fu2) v1 v2 v3)) ∧ (¬ z7 = 0 → (mX8_holds v3 v2 h (fun z8 => ((z8 = 0 → (mX8_isHeldIn_b32 h Q (mX8_isHeldIn_b2 h Q fu2) v1 v2 v3)) ∧ (¬ z8 = 0 → (Q 1))))))))))))
set_option maxHeartbeats 4000000 in
set_option maxRecDepth 100000 in
theorem sX8_isHeldIn_b2 {l0 : Launch} {a : ZC}  {h : Hp} {Q : Int → Prop}  (O : zOk l0 a cX8_isHeldIn RX8 4 (some .boolean) 197 [])   : ∀ (ff : Nat) (v1 : Int) (v2 : Int) (v3 : Int) , mX8_isHeldIn_b2 h Q ff v1 v2 v3 → zV a (7, 0, 0, (qPZ h Q), xN) 0 0 2 [some (aR 185), some (aI v1), some (aI v2), some (aI v3)] [] h := by
  intro ff
  induction ff with
  | zero => intro v1 v2 v3 hM; exact hM.elim
  | succ ff ih =>
    have hK2 := ih
    intro v1 v2 v3 hM
    unfold mX8_isHeldIn_b2 at hM
    refine zV_iload_n O dX8_isHeldIn_2 rfl rfl ?_
    refine zV_aload_n O dX8_isHeldIn_3 rfl rfl ?_
    refine zV_getR O zf_RX8_13 zt_185 rfl (by decide) dX8_isHeldIn_4 ?_
    refine zV_iconst (z := 0) O ⟨by omega, by omega⟩ dX8_isHeldIn_7 ?_
    obtain ⟨hc, hM⟩ := hM
    refine zV_iald O zt_186 (by decide) hc dX8_isHeldIn_8 ?_
    refine zV_icmp_ge (tgt := 38) O dX8_isHeldIn_9 (by decide) (fun hc => ?_) (fun hc => ?_)
    · replace hM := hM.1 hc
      refine zV_iconst (z := 0) O ⟨by omega, by omega⟩ dX8_isHeldIn_38 ?_
      exact zV_zret O rfl (Or.inl rfl) ⟨rfl, _, rfl, (Or.inl rfl), hM⟩ (Nat.le_of_ble_eq_true rfl) (Nat.le_of_ble_eq_true rfl) dX8_isHeldIn_39
    · replace hM := hM.2 hc
      refine zV_aload_n O dX8_isHeldIn_12 rfl rfl ?_
      refine zV_iload_n O dX8_isHeldIn_13 rfl rfl ?_
      refine zV_iload_n O dX8_isHeldIn_14 rfl rfl ?_
      refine zV_callV (as := [aI v3, aI v1]) (st := []) O zc_X8_isOfNet (Or.inl zl_RX8_242) zi_1640 zi_130 zt_185 rfl rfl (by decide) (Nat.le_of_ble_eq_true rfl) rfl rfl (Nat.le_of_ble_eq_true rfl) (Nat.le_of_ble_eq_true rfl) (Nat.le_of_ble_eq_true rfl) (Nat.le_of_ble_eq_true rfl) (Nat.le_of_ble_eq_true rfl) (Nat.le_of_ble_eq_true rfl) dX8_isHeldIn_15 (sX8_isOfNet hM) (fun r h9 hq => ?_) (fun x h9 hq => hq.elim)
      obtain ⟨rfl, z7, rfl, hzz7, hM⟩ := hq
      refine zV_if_eq (tgt := 32) O dX8_isHeldIn_18 (by decide) (fun hc => ?_) (fun hc => ?_)
      · replace hM := hM.1 hc
        exact sX8_isHeldIn_b32 O hK2 hM
      · replace hM := hM.2 hc
        refine zV_aload_n O dX8_isHeldIn_21 rfl rfl ?_
        refine zV_iload_n O dX8_isHeldIn_22 rfl rfl ?_
        refine zV_iload_n O dX8_isHeldIn_23 rfl rfl ?_
        refine zV_callV (as := [aI v3, aI v2]) (st := []) O zc_X8_holds (Or.inl zl_RX8_230) zi_1565 zi_121 zt_185 rfl rfl (by decide) (Nat.le_of_ble_eq_true rfl) rfl rfl (Nat.le_of_ble_eq_true rfl) (Nat.le_of_ble_eq_true rfl) (Nat.le_of_ble_eq_true rfl) (Nat.le_of_ble_eq_true rfl) (Nat.le_of_ble_eq_true rfl) (Nat.le_of_ble_eq_true rfl) dX8_isHeldIn_24 (sX8_holds hM) (fun r h9 hq => ?_) (fun x h9 hq => hq.elim)
        obtain ⟨rfl, z8, rfl, hzz8, hM⟩ := hq
        refine zV_if_eq (tgt := 32) O dX8_isHeldIn_27 (by decide) (fun hc => ?_) (fun hc => ?_)
        · replace hM := hM.1 hc
          exact sX8_isHeldIn_b32 O hK2 hM
        · replace hM := hM.2 hc
          refine zV_iconst (z := 1) O ⟨by omega, by omega⟩ dX8_isHeldIn_30 ?_
          exact zV_zret O rfl (Or.inr rfl) ⟨rfl, _, rfl, (Or.inr rfl), hM⟩ (Nat.le_of_ble_eq_true rfl) (Nat.le_of_ble_eq_true rfl) dX8_isHeldIn_31
def mX8_isHeldIn (x1 : Int) (x2 : Int) (h : Hp) (Q : Int → Prop) : Prop := (∃ ff, mX8_isHeldIn_b2 h Q ff x1 x2 0)
set_option maxHeartbeats 4000000 in
set_option maxRecDepth 100000 in
theorem sX8_isHeldIn {l0 : Launch} {x1 : Int} {x2 : Int} {h : Hp} {Q : Int → Prop}  (hM : mX8_isHeldIn x1 x2 h Q) : zSp l0 yX8_isHeldIn cX8_isHeldIn 4 (some .boolean) 197 (7) 0 0 [aR 185, aI x1, aI x2] h (qPZ h Q) xN := by
  unfold mX8_isHeldIn at hM
  refine zSp_intro zpn_RX8 (Nat.le_of_ble_eq_true rfl) (fun a O => ?_)
  show zV a (7, 0, 0, (qPZ h Q), xN) 0 0 0 [some (aR 185), some (aI x1), some (aI x2), none] [] h
  refine zV_iconst (z := 0) O ⟨by omega, by omega⟩ dX8_isHeldIn_0 ?_
  refine zV_istore_n O dX8_isHeldIn_1 rfl (Nat.le_of_ble_eq_true rfl) rfl ?_
  obtain ⟨ff, hM⟩ := hM
  exact sX8_isHeldIn_b2 O ff _ _ _ hM
def mX8_matches_b57 (h : Hp) (Q : Int → Prop) (K14 : Int → Int → Int → Int → Prop) (v1 : Int) (v2 : Int) (v3 : Int) (v4 : Int) : Prop := (zr (v4 + 1) ∧ (K14 v1 v2 v3 (v4 + 1)))
set_option maxHeartbeats 4000000 in
set_option maxRecDepth 100000 in
theorem sX8_matches_b57 {l0 : Launch} {a : ZC}  {h : Hp} {Q : Int → Prop} {K14 : Int → Int → Int → Int → Prop} (O : zOk l0 a cX8_matches RX8 5 (some .boolean) 197 [])  (hK14 : ∀ (v1 : Int) (v2 : Int) (v3 : Int) (v4 : Int), K14 v1 v2 v3 v4 → zV a (7, 0, 0, (qPZ h Q), xN) 0 0 14 [some (aR 185), some (aI v1), some (aI v2), some (aI v3), some (aI v4)] [] h) {v1 : Int} {v2 : Int} {v3 : Int} {v4 : Int}   (hM : mX8_matches_b57 h Q K14 v1 v2 v3 v4) : zV a (7, 0, 0, (qPZ h Q), xN) 0 0 57 [some (aR 185), some (aI v1), some (aI v2), some (aI v3), some (aI v4)] [] h := by
  unfold mX8_matches_b57 at hM
  obtain ⟨hc, hM⟩ := hM
  refine zV_iinc O dX8_matches_57 rfl (Nat.le_of_ble_eq_true rfl) rfl hc ?_
  refine zV_goto (tgt := 14) O dX8_matches_60 (by decide) ?_
  exact hK14 _ _ _ _ hM
def mX8_matches_b14 (h : Hp) (Q : Int → Prop) : Nat → Int → Int → Int → Int → Prop
  | 0 => fun _ _ _ _ => False
  | fu14 + 1 => fun v1 v2 v3 v4 => (((0 : Int) ≤ 0 ∧ (0 : Int) < 1096) ∧ (((rd h 186 0) ≤ v4 → (Q 0)) ∧ (¬ (rd h 186 0) ≤ v4 → (mX8_isOfNet v4 v3 h (fun z10 => ((z10 = 0 → (mX8_matches_b57 h Q (mX8_matches_b14 h Q fu14) v1 v2 v3 v4)) ∧ (¬ z10 = 0 → (mX8_holds v4 v1 h (fun z11 => ((z11 = 0 → (mX8_matches_b57 h Q (mX8_matches_b14 h Q fu14) v1 v2 v3 v4)) ∧ (¬ z11 = 0 → (mX8_holds v4 v2 h (fun z12 => ((z12 = 0 → (mX8_matches_b57 h Q (mX8_matches_b14 h Q fu14) v1 v2 v3 v4)) ∧ (¬ z12 = 0 → (Q 1))))))))))))))))
set_option maxHeartbeats 4000000 in
set_option maxRecDepth 100000 in
theorem sX8_matches_b14 {l0 : Launch} {a : ZC}  {h : Hp} {Q : Int → Prop}  (O : zOk l0 a cX8_matches RX8 5 (some .boolean) 197 [])   : ∀ (ff : Nat) (v1 : Int) (v2 : Int) (v3 : Int) (v4 : Int) , mX8_matches_b14 h Q ff v1 v2 v3 v4 → zV a (7, 0, 0, (qPZ h Q), xN) 0 0 14 [some (aR 185), some (aI v1), some (aI v2), some (aI v3), some (aI v4)] [] h := by
  intro ff
  induction ff with
  | zero => intro v1 v2 v3 v4 hM; exact hM.elim
  | succ ff ih =>
    have hK14 := ih
    intro v1 v2 v3 v4 hM
    unfold mX8_matches_b14 at hM
    refine zV_iload O dX8_matches_14 rfl ?_
    refine zV_aload_n O dX8_matches_16 rfl rfl ?_
    refine zV_getR O zf_RX8_13 zt_185 rfl (by decide) dX8_matches_17 ?_
    refine zV_iconst (z := 0) O ⟨by omega, by omega⟩ dX8_matches_20 ?_
    obtain ⟨hc, hM⟩ := hM
    refine zV_iald O zt_186 (by decide) hc dX8_matches_21 ?_
    refine zV_icmp_ge (tgt := 63) O dX8_matches_22 (by decide) (fun hc => ?_) (fun hc => ?_)
    · replace hM := hM.1 hc
      refine zV_iconst (z := 0) O ⟨by omega, by omega⟩ dX8_matches_63 ?_
      exact zV_zret O rfl (Or.inl rfl) ⟨rfl, _, rfl, (Or.inl rfl), hM⟩ (Nat.le_of_ble_eq_true rfl) (Nat.le_of_ble_eq_true rfl) dX8_matches_64
    · replace hM := hM.2 hc
      refine zV_aload_n O dX8_matches_25 rfl rfl ?_
      refine zV_iload O dX8_matches_26 rfl ?_
      refine zV_iload_n O dX8_matches_28 rfl rfl ?_
      refine zV_callV (as := [aI v4, aI v3]) (st := []) O zc_X8_isOfNet (Or.inl zl_RX8_242) zi_1640 zi_130 zt_185 rfl rfl (by decide) (Nat.le_of_ble_eq_true rfl) rfl rfl (Nat.le_of_ble_eq_true rfl) (Nat.le_of_ble_eq_true rfl) (Nat.le_of_ble_eq_true rfl) (Nat.le_of_ble_eq_true rfl) (Nat.le_of_ble_eq_true rfl) (Nat.le_of_ble_eq_true rfl) dX8_matches_29 (sX8_isOfNet hM) (fun r h9 hq => ?_) (fun x h9 hq => hq.elim)
      obtain ⟨rfl, z10, rfl, hzz10, hM⟩ := hq
      refine zV_if_eq (tgt := 57) O dX8_matches_32 (by decide) (fun hc => ?_) (fun hc => ?_)
      · replace hM := hM.1 hc
        exact sX8_matches_b57 O hK14 hM
      · replace hM := hM.2 hc
        refine zV_aload_n O dX8_matches_35 rfl rfl ?_
        refine zV_iload O dX8_matches_36 rfl ?_
        refine zV_iload_n O dX8_matches_38 rfl rfl ?_
        refine zV_callV (as := [aI v4, aI v1]) (st := []) O zc_X8_holds (Or.inl zl_RX8_230) zi_1565 zi_121 zt_185 rfl rfl (by decide) (Nat.le_of_ble_eq_true rfl) rfl rfl (Nat.le_of_ble_eq_true rfl) (Nat.le_of_ble_eq_true rfl) (Nat.le_of_ble_eq_true rfl) (Nat.le_of_ble_eq_true rfl) (Nat.le_of_ble_eq_true rfl) (Nat.le_of_ble_eq_true rfl) dX8_matches_39 (sX8_holds hM) (fun r h9 hq => ?_) (fun x h9 hq => hq.elim)
        obtain ⟨rfl, z11, rfl, hzz11, hM⟩ := hq
        refine zV_if_eq (tgt := 57) O dX8_matches_42 (by decide) (fun hc => ?_) (fun hc => ?_)
        · replace hM := hM.1 hc
          exact sX8_matches_b57 O hK14 hM
        · replace hM := hM.2 hc
          refine zV_aload_n O dX8_matches_45 rfl rfl ?_
          refine zV_iload O dX8_matches_46 rfl ?_
          refine zV_iload_n O dX8_matches_48 rfl rfl ?_
          refine zV_callV (as := [aI v4, aI v2]) (st := []) O zc_X8_holds (Or.inl zl_RX8_230) zi_1565 zi_121 zt_185 rfl rfl (by decide) (Nat.le_of_ble_eq_true rfl) rfl rfl (Nat.le_of_ble_eq_true rfl) (Nat.le_of_ble_eq_true rfl) (Nat.le_of_ble_eq_true rfl) (Nat.le_of_ble_eq_true rfl) (Nat.le_of_ble_eq_true rfl) (Nat.le_of_ble_eq_true rfl) dX8_matches_49 (sX8_holds hM) (fun r h9 hq => ?_) (fun x h9 hq => hq.elim)
          obtain ⟨rfl, z12, rfl, hzz12, hM⟩ := hq
          refine zV_if_eq (tgt := 57) O dX8_matches_52 (by decide) (fun hc => ?_) (fun hc => ?_)
          · replace hM := hM.1 hc
            exact sX8_matches_b57 O hK14 hM
          · replace hM := hM.2 hc
            refine zV_iconst (z := 1) O ⟨by omega, by omega⟩ dX8_matches_55 ?_
            exact zV_zret O rfl (Or.inr rfl) ⟨rfl, _, rfl, (Or.inr rfl), hM⟩ (Nat.le_of_ble_eq_true rfl) (Nat.le_of_ble_eq_true rfl) dX8_matches_56
def mX8_matches (x1 : Int) (x2 : Int) (x3 : Int) (h : Hp) (Q : Int → Prop) : Prop := ((x1 = 0 → (Q 1)) ∧ (¬ x1 = 0 → ((¬ x1 = x2 → (∃ ff, mX8_matches_b14 h Q ff x1 x2 x3 0)) ∧ (x1 = x2 → (Q 1)))))
set_option maxHeartbeats 4000000 in
set_option maxRecDepth 100000 in
theorem sX8_matches {l0 : Launch} {x1 : Int} {x2 : Int} {x3 : Int} {h : Hp} {Q : Int → Prop}  (hM : mX8_matches x1 x2 x3 h Q) : zSp l0 yX8_matches cX8_matches 5 (some .boolean) 197 (7) 0 0 [aR 185, aI x1, aI x2, aI x3] h (qPZ h Q) xN := by
  unfold mX8_matches at hM
  refine zSp_intro zpn_RX8 (Nat.le_of_ble_eq_true rfl) (fun a O => ?_)
  show zV a (7, 0, 0, (qPZ h Q), xN) 0 0 0 [some (aR 185), some (aI x1), some (aI x2), some (aI x3), none] [] h
  refine zV_iload_n O dX8_matches_0 rfl rfl ?_
  refine zV_if_eq (tgt := 9) O dX8_matches_1 (by decide) (fun hc => ?_) (fun hc => ?_)
  · replace hM := hM.1 hc
    refine zV_iconst (z := 1) O ⟨by omega, by omega⟩ dX8_matches_9 ?_
    exact zV_zret O rfl (Or.inr rfl) ⟨rfl, _, rfl, (Or.inr rfl), hM⟩ (Nat.le_of_ble_eq_true rfl) (Nat.le_of_ble_eq_true rfl) dX8_matches_10
  · replace hM := hM.2 hc
    refine zV_iload_n O dX8_matches_4 rfl rfl ?_
    refine zV_iload_n O dX8_matches_5 rfl rfl ?_
    refine zV_icmp_ne (tgt := 11) O dX8_matches_6 (by decide) (fun hc => ?_) (fun hc => ?_)
    · replace hM := hM.1 hc
      refine zV_iconst (z := 0) O ⟨by omega, by omega⟩ dX8_matches_11 ?_
      refine zV_istore O dX8_matches_12 (Nat.le_of_ble_eq_true rfl) rfl ?_
      obtain ⟨ff, hM⟩ := hM
      exact sX8_matches_b14 O ff _ _ _ _ hM
    · replace hM := hM.2 hc
      refine zV_iconst (z := 1) O ⟨by omega, by omega⟩ dX8_matches_9 ?_
      exact zV_zret O rfl (Or.inr rfl) ⟨rfl, _, rfl, (Or.inr rfl), hM⟩ (Nat.le_of_ble_eq_true rfl) (Nat.le_of_ble_eq_true rfl) dX8_matches_10
def mX8_reads_b151 (Q : Hp → Prop) (h : Hp) : Prop := (mX8_settles 1 h (fun h35 => (Q h35)))
set_option maxHeartbeats 4000000 in
set_option maxRecDepth 100000 in
theorem sX8_reads_b151 {l0 : Launch} {a : ZC}  {Q : Hp → Prop}  (O : zOk l0 a cX8_reads RX8 3 none 197 [])    {h : Hp}  (hM : mX8_reads_b151 Q h) : zV a (7, 0, 0, (qV Q), xN) 0 0 151 [some (aR 185), none, none] [] h := by
  unfold mX8_reads_b151 at hM
  refine zV_aload_n O dX8_reads_151 rfl rfl ?_
  refine zV_iconst (z := 1) O ⟨by omega, by omega⟩ dX8_reads_152 ?_
  refine zV_callV (as := [aI 1]) (st := []) O zc_X8_settles (Or.inl zl_RX8_403) zi_1900 zi_161 zt_185 rfl rfl (by decide) (Nat.le_of_ble_eq_true rfl) rfl rfl (Nat.le_of_ble_eq_true rfl) (Nat.le_of_ble_eq_true rfl) (Nat.le_of_ble_eq_true rfl) (Nat.le_of_ble_eq_true rfl) (Nat.le_of_ble_eq_true rfl) (Nat.le_of_ble_eq_true rfl) dX8_reads_153 (sX8_settles hM) (fun r h35 hq => ?_) (fun x h9 hq => hq.elim)
  obtain ⟨rfl, hM⟩ := hq
  exact zV_vret O rfl ⟨rfl, hM⟩ (Nat.le_of_ble_eq_true rfl) (Nat.le_of_ble_eq_true rfl) dX8_reads_156
def mX8_reads_b145 (Q : Hp → Prop) (h : Hp) : Prop := (mX8_wrongs 1 h (fun z36 h37 => (mX8_reads_b151 Q h37)))
set_option maxHeartbeats 4000000 in
set_option maxRecDepth 100000 in
theorem sX8_reads_b145 {l0 : Launch} {a : ZC}  {Q : Hp → Prop}  (O : zOk l0 a cX8_reads RX8 3 none 197 [])    {h : Hp}  (hM : mX8_reads_b145 Q h) : zV a (7, 0, 0, (qV Q), xN) 0 0 145 [some (aR 185), none, none] [] h := by
  unfold mX8_reads_b145 at hM
  refine zV_aload_n O dX8_reads_145 rfl rfl ?_
  refine zV_iconst (z := 1) O ⟨by omega, by omega⟩ dX8_reads_146 ?_
  refine zV_callV (as := [aI 1]) (st := []) O zc_X8_wrongs (Or.inl zl_RX8_122) zi_1474 zi_104 zt_185 rfl rfl (by decide) (Nat.le_of_ble_eq_true rfl) rfl rfl (Nat.le_of_ble_eq_true rfl) (Nat.le_of_ble_eq_true rfl) (Nat.le_of_ble_eq_true rfl) (Nat.le_of_ble_eq_true rfl) (Nat.le_of_ble_eq_true rfl) (Nat.le_of_ble_eq_true rfl) dX8_reads_147 (sX8_wrongs hM) (fun r h37 hq => ?_) (fun x h9 hq => hq.elim)
  obtain ⟨z36, rfl, hzz36, hM⟩ := hq
  refine zV_pop O rfl dX8_reads_150 ?_
  exact sX8_reads_b151 O hM
def mX8_reads_b81 (Q : Hp → Prop) (K20 : Int → Hp → Prop) (v2 : Int) (s0 : Int) (h : Hp) : Prop := ((¬ s0 = 0 → (mX8_strength v2 h (fun z38 => (mX8_settles z38 h (fun h39 => (((0 : Int) ≤ (h39 185 27) ∧ (h39 185 27) < 200) ∧ (∀ h40 : Hp, h40 = wr h39 195 (h39 185 27) v2 → (zr ((h40 185 27) + 1) ∧ (∀ h41 : Hp, h41 = hu h40 185 27 ((h40 185 27) + 1) → (mX8_next h41 (fun h42 => (K20 s0 h42)))))))))))) ∧ (s0 = 0 → (K20 s0 h)))
set_option maxHeartbeats 4000000 in
set_option maxRecDepth 100000 in
theorem sX8_reads_b81 {l0 : Launch} {a : ZC}  {Q : Hp → Prop} {K20 : Int → Hp → Prop} (O : zOk l0 a cX8_reads RX8 3 none 197 [])  (hK20 : ∀ (v1 : Int) (h : Hp), (v1 = 0 ∨ v1 = 1) → K20 v1 h → zV a (7, 0, 0, (qV Q), xN) 0 0 20 [some (aR 185), some (aI v1), none] [] h) {v2 : Int} {s0 : Int} {h : Hp} (hz_s0 : s0 = 0 ∨ s0 = 1) (hM : mX8_reads_b81 Q K20 v2 s0 h) : zV a (7, 0, 0, (qV Q), xN) 0 0 81 [some (aR 185), none, some (aI v2)] [aI s0] h := by
  unfold mX8_reads_b81 at hM
  refine zV_istore_n O dX8_reads_81 rfl (Nat.le_of_ble_eq_true rfl) rfl ?_
  refine zV_iload_n O dX8_reads_82 rfl rfl ?_
  refine zV_if_ne (tgt := 89) O dX8_reads_83 (by decide) (fun hc => ?_) (fun hc => ?_)
  · replace hM := hM.1 hc
    refine zV_aload_n O dX8_reads_89 rfl rfl ?_
    refine zV_iload_n O dX8_reads_90 rfl rfl ?_
    refine zV_callS (as := [aI v2]) (st := [aR 185]) O zc_X8_strength (Or.inl zl_RX8_392) zi_1903 (Nat.le_of_ble_eq_true rfl) rfl rfl (Nat.le_of_ble_eq_true rfl) (Nat.le_of_ble_eq_true rfl) (Nat.le_of_ble_eq_true rfl) (Nat.le_of_ble_eq_true rfl) (Nat.le_of_ble_eq_true rfl) (Nat.le_of_ble_eq_true rfl) dX8_reads_91 (sX8_strength hM) (fun r h9 hq => ?_) (fun x h9 hq => hq.elim)
    obtain ⟨rfl, z38, rfl, hM⟩ := hq
    refine zV_callV (as := [aI z38]) (st := []) O zc_X8_settles (Or.inl zl_RX8_403) zi_1900 zi_161 zt_185 rfl rfl (by decide) (Nat.le_of_ble_eq_true rfl) rfl rfl (Nat.le_of_ble_eq_true rfl) (Nat.le_of_ble_eq_true rfl) (Nat.le_of_ble_eq_true rfl) (Nat.le_of_ble_eq_true rfl) (Nat.le_of_ble_eq_true rfl) (Nat.le_of_ble_eq_true rfl) dX8_reads_94 (sX8_settles hM) (fun r h39 hq => ?_) (fun x h9 hq => hq.elim)
    obtain ⟨rfl, hM⟩ := hq
    refine zV_aload_n O dX8_reads_97 rfl rfl ?_
    refine zV_getR O zf_RX8_44 zt_185 rfl (by decide) dX8_reads_98 ?_
    refine zV_aload_n O dX8_reads_101 rfl rfl ?_
    refine zV_getI O zf_RX8_389 zt_185 rfl (by decide) dX8_reads_102 ?_
    refine zV_iload_n O dX8_reads_105 rfl rfl ?_
    obtain ⟨hc, hM⟩ := hM
    refine zV_iast O zt_195 (by decide) hc dX8_reads_106 ?_
    have hM := hM (hu h39 195 (Int.toNat (h39 185 27)) v2) rfl
    generalize hu h39 195 (Int.toNat (h39 185 27)) v2 = h40 at hM ⊢
    refine zV_aload_n O dX8_reads_107 rfl rfl ?_
    refine zV_dup O rfl dX8_reads_108 ?_
    refine zV_getI O zf_RX8_389 zt_185 rfl (by decide) dX8_reads_109 ?_
    refine zV_iconst (z := 1) O ⟨by omega, by omega⟩ dX8_reads_112 ?_
    obtain ⟨hc, hM⟩ := hM
    refine zV_iadd O dX8_reads_113 hc ?_
    refine zV_putI O zf_RX8_389 zt_185 rfl (by decide) dX8_reads_114 ?_
    have hM := hM _ rfl
    generalize hu h40 185 27 ((h40 185 27) + 1) = h41 at hM ⊢
    refine zV_aload_n O dX8_reads_117 rfl rfl ?_
    refine zV_callV (as := []) (st := []) O zc_X8_next (Or.inl zl_RX8_108) zi_1428 zi_95 zt_185 rfl rfl (by decide) (Nat.le_of_ble_eq_true rfl) rfl rfl (Nat.le_of_ble_eq_true rfl) (Nat.le_of_ble_eq_true rfl) (Nat.le_of_ble_eq_true rfl) (Nat.le_of_ble_eq_true rfl) (Nat.le_of_ble_eq_true rfl) (Nat.le_of_ble_eq_true rfl) dX8_reads_118 (sX8_next hM) (fun r h42 hq => ?_) (fun x h9 hq => hq.elim)
    obtain ⟨rfl, hM⟩ := hq
    refine zV_goto (tgt := 20) O dX8_reads_121 (by decide) ?_
    refine zV_sub (ls2 := [some (aR 185), some (aI s0), none]) ⟨rfl, rfl, trivial⟩ ?_
    exact hK20 _ _ hz_s0 hM
  · replace hM := hM.2 hc
    refine zV_goto (tgt := 20) O dX8_reads_86 (by decide) ?_
    refine zV_sub (ls2 := [some (aR 185), some (aI s0), none]) ⟨rfl, rfl, trivial⟩ ?_
    exact hK20 _ _ hz_s0 hM
def mX8_reads_b71 (Q : Hp → Prop) (K20 : Int → Hp → Prop) (s0 : Int) (h : Hp) : Prop := ((s0 = 0 → (mX8_reads_b81 Q K20 s0 0 h)) ∧ (¬ s0 = 0 → (mX8_reads_b81 Q K20 s0 1 h)))
set_option maxHeartbeats 4000000 in
set_option maxRecDepth 100000 in
theorem sX8_reads_b71 {l0 : Launch} {a : ZC}  {Q : Hp → Prop} {K20 : Int → Hp → Prop} (O : zOk l0 a cX8_reads RX8 3 none 197 [])  (hK20 : ∀ (v1 : Int) (h : Hp), (v1 = 0 ∨ v1 = 1) → K20 v1 h → zV a (7, 0, 0, (qV Q), xN) 0 0 20 [some (aR 185), some (aI v1), none] [] h) {s0 : Int} {h : Hp}  (hM : mX8_reads_b71 Q K20 s0 h) : zV a (7, 0, 0, (qV Q), xN) 0 0 71 [some (aR 185), none, none] [aI s0] h := by
  unfold mX8_reads_b71 at hM
  refine zV_istore_n O dX8_reads_71 rfl (Nat.le_of_ble_eq_true rfl) rfl ?_
  refine zV_iload_n O dX8_reads_72 rfl rfl ?_
  refine zV_if_eq (tgt := 80) O dX8_reads_73 (by decide) (fun hc => ?_) (fun hc => ?_)
  · replace hM := hM.1 hc
    refine zV_iconst (z := 0) O ⟨by omega, by omega⟩ dX8_reads_80 ?_
    exact sX8_reads_b81 O hK20 (Or.inl rfl) hM
  · replace hM := hM.2 hc
    refine zV_iconst (z := 1) O ⟨by omega, by omega⟩ dX8_reads_76 ?_
    refine zV_goto (tgt := 81) O dX8_reads_77 (by decide) ?_
    exact sX8_reads_b81 O hK20 (Or.inr rfl) hM
def mX8_reads_b20 (Q : Hp → Prop) : Nat → Int → Hp → Prop
  | 0 => fun _ _ => False
  | fu20 + 1 => fun v1 h => ((v1 = 0 → (mX8_isGood h (fun z43 => ((z43 = 0 → (mX8_reads_b151 Q h)) ∧ (¬ z43 = 0 → (mX8_isInside h (fun z44 => ((¬ z44 = 0 → (mX8_reads_b145 Q h)) ∧ (z44 = 0 → (((h 185 13) = 0 → (mX8_reads_b151 Q h)) ∧ (¬ (h 185 13) = 0 → (mX8_reads_b145 Q h)))))))))))) ∧ (¬ v1 = 0 → (mX8_comparisonRead h (fun h45 => (mX8_isGood h45 (fun z46 => ((¬ z46 = 0 → (mX8_closes h45 (fun h47 => (mX8_isWord 1111 h47 (fun z48 => ((z48 = 0 → (mX8_isWord 423 h47 (fun z49 => ((z49 = 0 → (mX8_reads_b71 Q (mX8_reads_b20 Q fu20) 0 h47)) ∧ (¬ z49 = 0 → (mX8_reads_b71 Q (mX8_reads_b20 Q fu20) 25 h47)))))) ∧ (¬ z48 = 0 → (mX8_reads_b71 Q (mX8_reads_b20 Q fu20) 24 h47)))))))) ∧ (z46 = 0 → (Q h45)))))))))
set_option maxHeartbeats 4000000 in
set_option maxRecDepth 100000 in
theorem sX8_reads_b20 {l0 : Launch} {a : ZC}  {Q : Hp → Prop}  (O : zOk l0 a cX8_reads RX8 3 none 197 [])   : ∀ (ff : Nat) (v1 : Int) (h : Hp), (v1 = 0 ∨ v1 = 1) → mX8_reads_b20 Q ff v1 h → zV a (7, 0, 0, (qV Q), xN) 0 0 20 [some (aR 185), some (aI v1), none] [] h := by
  intro ff
  induction ff with
  | zero => intro v1 h hz_v1 hM; exact hM.elim
  | succ ff ih =>
    have hK20 := ih
    intro v1 h hz_v1 hM
    unfold mX8_reads_b20 at hM
    refine zV_iload_n O dX8_reads_20 rfl rfl ?_
    refine zV_if_eq (tgt := 124) O dX8_reads_21 (by decide) (fun hc => ?_) (fun hc => ?_)
    · replace hM := hM.1 hc
      refine zV_aload_n O dX8_reads_124 rfl rfl ?_
      refine zV_callV (as := []) (st := []) O zc_X8_isGood (Or.inl zl_RX8_111) zi_1470 zi_103 zt_185 rfl rfl (by decide) (Nat.le_of_ble_eq_true rfl) rfl rfl (Nat.le_of_ble_eq_true rfl) (Nat.le_of_ble_eq_true rfl) (Nat.le_of_ble_eq_true rfl) (Nat.le_of_ble_eq_true rfl) (Nat.le_of_ble_eq_true rfl) (Nat.le_of_ble_eq_true rfl) dX8_reads_125 (sX8_isGood hM) (fun r h9 hq => ?_) (fun x h9 hq => hq.elim)
      obtain ⟨rfl, z43, rfl, hzz43, hM⟩ := hq
      refine zV_if_eq (tgt := 151) O dX8_reads_128 (by decide) (fun hc => ?_) (fun hc => ?_)
      · replace hM := hM.1 hc
        refine zV_sub (ls2 := [some (aR 185), none, none]) ⟨rfl, trivial⟩ ?_
        exact sX8_reads_b151 O hM
      · replace hM := hM.2 hc
        refine zV_aload_n O dX8_reads_131 rfl rfl ?_
        refine zV_callV (as := []) (st := []) O zc_X8_isInside (Or.inl zl_RX8_406) zi_1907 zi_162 zt_185 rfl rfl (by decide) (Nat.le_of_ble_eq_true rfl) rfl rfl (Nat.le_of_ble_eq_true rfl) (Nat.le_of_ble_eq_true rfl) (Nat.le_of_ble_eq_true rfl) (Nat.le_of_ble_eq_true rfl) (Nat.le_of_ble_eq_true rfl) (Nat.le_of_ble_eq_true rfl) dX8_reads_132 (sX8_isInside hM) (fun r h9 hq => ?_) (fun x h9 hq => hq.elim)
        obtain ⟨rfl, z44, rfl, hzz44, hM⟩ := hq
        refine zV_if_ne (tgt := 145) O dX8_reads_135 (by decide) (fun hc => ?_) (fun hc => ?_)
        · replace hM := hM.1 hc
          refine zV_sub (ls2 := [some (aR 185), none, none]) ⟨rfl, trivial⟩ ?_
          exact sX8_reads_b145 O hM
        · replace hM := hM.2 hc
          refine zV_aload_n O dX8_reads_138 rfl rfl ?_
          refine zV_getI O zf_RX8_89 zt_185 rfl (by decide) dX8_reads_139 ?_
          refine zV_if_eq (tgt := 151) O dX8_reads_142 (by decide) (fun hc => ?_) (fun hc => ?_)
          · replace hM := hM.1 hc
            refine zV_sub (ls2 := [some (aR 185), none, none]) ⟨rfl, trivial⟩ ?_
            exact sX8_reads_b151 O hM
          · replace hM := hM.2 hc
            refine zV_sub (ls2 := [some (aR 185), none, none]) ⟨rfl, trivial⟩ ?_
            exact sX8_reads_b145 O hM
    · replace hM := hM.2 hc
      refine zV_aload_n O dX8_reads_24 rfl rfl ?_
      refine zV_callV (as := []) (st := []) O zc_X8_comparisonRead (Or.inl zl_RX8_409) zi_1868 zi_155 zt_185 rfl rfl (by decide) (Nat.le_of_ble_eq_true rfl) rfl rfl (Nat.le_of_ble_eq_true rfl) (Nat.le_of_ble_eq_true rfl) (Nat.le_of_ble_eq_true rfl) (Nat.le_of_ble_eq_true rfl) (Nat.le_of_ble_eq_true rfl) (Nat.le_of_ble_eq_true rfl) dX8_reads_25 (sX8_comparisonRead hM) (fun r h45 hq => ?_) (fun x h9 hq => hq.elim)
      obtain ⟨rfl, hM⟩ := hq
      refine zV_aload_n O dX8_reads_28 rfl rfl ?_
      refine zV_callV (as := []) (st := []) O zc_X8_isGood (Or.inl zl_RX8_111) zi_1470 zi_103 zt_185 rfl rfl (by decide) (Nat.le_of_ble_eq_true rfl) rfl rfl (Nat.le_of_ble_eq_true rfl) (Nat.le_of_ble_eq_true rfl) (Nat.le_of_ble_eq_true rfl) (Nat.le_of_ble_eq_true rfl) (Nat.le_of_ble_eq_true rfl) (Nat.le_of_ble_eq_true rfl) dX8_reads_29 (sX8_isGood hM) (fun r h9 hq => ?_) (fun x h9 hq => hq.elim)
      obtain ⟨rfl, z46, rfl, hzz46, hM⟩ := hq
      refine zV_if_ne (tgt := 36) O dX8_reads_32 (by decide) (fun hc => ?_) (fun hc => ?_)
      · replace hM := hM.1 hc
        refine zV_aload_n O dX8_reads_36 rfl rfl ?_
        refine zV_callV (as := []) (st := []) O zc_X8_closes (Or.inl zl_RX8_412) zi_1896 zi_160 zt_185 rfl rfl (by decide) (Nat.le_of_ble_eq_true rfl) rfl rfl (Nat.le_of_ble_eq_true rfl) (Nat.le_of_ble_eq_true rfl) (Nat.le_of_ble_eq_true rfl) (Nat.le_of_ble_eq_true rfl) (Nat.le_of_ble_eq_true rfl) (Nat.le_of_ble_eq_true rfl) dX8_reads_37 (sX8_closes hM) (fun r h47 hq => ?_) (fun x h9 hq => hq.elim)
        obtain ⟨rfl, hM⟩ := hq
        refine zV_aload_n O dX8_reads_40 rfl rfl ?_
        refine zV_ldc2 (z := 1111) O ⟨by omega, by omega⟩ zi_1909.1 zi_1909.2 dX8_reads_41 ?_
        refine zV_callV (as := [aL 1111]) (st := []) O zc_X8_isWord (Or.inl zl_RX8_115) zi_1466 zi_102 zt_185 rfl rfl (by decide) (Nat.le_of_ble_eq_true rfl) rfl rfl (Nat.le_of_ble_eq_true rfl) (Nat.le_of_ble_eq_true rfl) (Nat.le_of_ble_eq_true rfl) (Nat.le_of_ble_eq_true rfl) (Nat.le_of_ble_eq_true rfl) (Nat.le_of_ble_eq_true rfl) dX8_reads_44 (sX8_isWord hM) (fun r h9 hq => ?_) (fun x h9 hq => hq.elim)
        obtain ⟨rfl, z48, rfl, hzz48, hM⟩ := hq
        refine zV_if_eq (tgt := 55) O dX8_reads_47 (by decide) (fun hc => ?_) (fun hc => ?_)
        · replace hM := hM.1 hc
          refine zV_aload_n O dX8_reads_55 rfl rfl ?_
          refine zV_ldc2 (z := 423) O ⟨by omega, by omega⟩ zi_1910.1 zi_1910.2 dX8_reads_56 ?_
          refine zV_callV (as := [aL 423]) (st := []) O zc_X8_isWord (Or.inl zl_RX8_115) zi_1466 zi_102 zt_185 rfl rfl (by decide) (Nat.le_of_ble_eq_true rfl) rfl rfl (Nat.le_of_ble_eq_true rfl) (Nat.le_of_ble_eq_true rfl) (Nat.le_of_ble_eq_true rfl) (Nat.le_of_ble_eq_true rfl) (Nat.le_of_ble_eq_true rfl) (Nat.le_of_ble_eq_true rfl) dX8_reads_59 (sX8_isWord hM) (fun r h9 hq => ?_) (fun x h9 hq => hq.elim)
          obtain ⟨rfl, z49, rfl, hzz49, hM⟩ := hq
          refine zV_if_eq (tgt := 70) O dX8_reads_62 (by decide) (fun hc => ?_) (fun hc => ?_)
          · replace hM := hM.1 hc
            refine zV_iconst (z := 0) O ⟨by omega, by omega⟩ dX8_reads_70 ?_
            refine zV_sub (ls2 := [some (aR 185), none, none]) ⟨rfl, trivial⟩ ?_
            exact sX8_reads_b71 O hK20 hM
          · replace hM := hM.2 hc
            refine zV_bipush (z := 25) O ⟨by omega, by omega⟩ rfl dX8_reads_65 ?_
            refine zV_goto (tgt := 71) O dX8_reads_67 (by decide) ?_
            refine zV_sub (ls2 := [some (aR 185), none, none]) ⟨rfl, trivial⟩ ?_
            exact sX8_reads_b71 O hK20 hM
        · replace hM := hM.2 hc
          refine zV_bipush (z := 24) O ⟨by omega, by omega⟩ rfl dX8_reads_50 ?_
          refine zV_goto (tgt := 71) O dX8_reads_52 (by decide) ?_
          refine zV_sub (ls2 := [some (aR 185), none, none]) ⟨rfl, trivial⟩ ?_
          exact sX8_reads_b71 O hK20 hM
      · replace hM := hM.2 hc
        exact zV_vret O rfl ⟨rfl, hM⟩ (Nat.le_of_ble_eq_true rfl) (Nat.le_of_ble_eq_true rfl) dX8_reads_35
def mX8_reads  (h : Hp) (Q : Hp → Prop) : Prop := (∀ h50 : Hp, h50 = hu h 185 26 0 → (∀ h51 : Hp, h51 = hu h50 185 28 0 → (∀ h52 : Hp, h52 = hu h51 185 27 0 → (mX8_isGood h52 (fun z53 => (∃ ff, mX8_reads_b20 Q ff z53 h52))))))
set_option maxHeartbeats 4000000 in
set_option maxRecDepth 100000 in
theorem sX8_reads {l0 : Launch}  {h : Hp} {Q : Hp → Prop}  (hM : mX8_reads  h Q) : zSp l0 yX8_reads cX8_reads 3 none 197 (7) 0 0 [aR 185] h (qV Q) xN := by
  unfold mX8_reads at hM
  refine zSp_intro zpn_RX8 (Nat.le_of_ble_eq_true rfl) (fun a O => ?_)
  show zV a (7, 0, 0, (qV Q), xN) 0 0 0 [some (aR 185), none, none] [] h
  refine zV_aload_n O dX8_reads_0 rfl rfl ?_
  refine zV_iconst (z := 0) O ⟨by omega, by omega⟩ dX8_reads_1 ?_
  refine zV_putI O zf_RX8_363 zt_185 rfl (by decide) dX8_reads_2 ?_
  have hM := hM _ rfl
  generalize hu h 185 26 0 = h50 at hM ⊢
  refine zV_aload_n O dX8_reads_5 rfl rfl ?_
  refine zV_iconst (z := 0) O ⟨by omega, by omega⟩ dX8_reads_6 ?_
  refine zV_putI O zf_RX8_386 zt_185 rfl (by decide) dX8_reads_7 ?_
  have hM := hM _ rfl
  generalize hu h50 185 28 0 = h51 at hM ⊢
  refine zV_aload_n O dX8_reads_10 rfl rfl ?_
  refine zV_iconst (z := 0) O ⟨by omega, by omega⟩ dX8_reads_11 ?_
  refine zV_putI O zf_RX8_389 zt_185 rfl (by decide) dX8_reads_12 ?_
  have hM := hM _ rfl
  generalize hu h51 185 27 0 = h52 at hM ⊢
  refine zV_aload_n O dX8_reads_15 rfl rfl ?_
  refine zV_callV (as := []) (st := []) O zc_X8_isGood (Or.inl zl_RX8_111) zi_1470 zi_103 zt_185 rfl rfl (by decide) (Nat.le_of_ble_eq_true rfl) rfl rfl (Nat.le_of_ble_eq_true rfl) (Nat.le_of_ble_eq_true rfl) (Nat.le_of_ble_eq_true rfl) (Nat.le_of_ble_eq_true rfl) (Nat.le_of_ble_eq_true rfl) (Nat.le_of_ble_eq_true rfl) dX8_reads_16 (sX8_isGood hM) (fun r h9 hq => ?_) (fun x h9 hq => hq.elim)
  obtain ⟨rfl, z53, rfl, hzz53, hM⟩ := hq
  refine zV_istore_n O dX8_reads_19 rfl (Nat.le_of_ble_eq_true rfl) rfl ?_
  obtain ⟨ff, hM⟩ := hM
  exact sX8_reads_b20 O ff _ _ hzz53 hM
def mX8_readsAll_b79 (Q : Hp → Prop) (K8 : Hp → Prop) (h : Hp) : Prop := (mX8_must 59 h (fun h25 => (K8 h25)))
set_option maxHeartbeats 4000000 in
set_option maxRecDepth 100000 in
theorem sX8_readsAll_b79 {l0 : Launch} {a : ZC}  {Q : Hp → Prop} {K8 : Hp → Prop} (O : zOk l0 a cX8_readsAll RX8 1 none 197 [])  (hK8 : ∀ (h : Hp), K8  h → zV a (7, 0, 0, (qV Q), xN) 0 0 8 [some (aR 185)] [] h)  {h : Hp}  (hM : mX8_readsAll_b79 Q K8 h) : zV a (7, 0, 0, (qV Q), xN) 0 0 79 [some (aR 185)] [] h := by
  unfold mX8_readsAll_b79 at hM
  refine zV_aload_n O dX8_readsAll_79 rfl rfl ?_
  refine zV_bipush (z := 59) O ⟨by omega, by omega⟩ rfl dX8_readsAll_80 ?_
  refine zV_callV (as := [aI 59]) (st := []) O zc_X8_must (Or.inl zl_RX8_147) zi_1485 zi_106 zt_185 rfl rfl (by decide) (Nat.le_of_ble_eq_true rfl) rfl rfl (Nat.le_of_ble_eq_true rfl) (Nat.le_of_ble_eq_true rfl) (Nat.le_of_ble_eq_true rfl) (Nat.le_of_ble_eq_true rfl) (Nat.le_of_ble_eq_true rfl) (Nat.le_of_ble_eq_true rfl) dX8_readsAll_82 (sX8_must hM) (fun r h25 hq => ?_) (fun x h9 hq => hq.elim)
  obtain ⟨rfl, hM⟩ := hq
  refine zV_goto (tgt := 8) O dX8_readsAll_85 (by decide) ?_
  exact hK8 _ hM
def mX8_readsAll_b8 (Q : Hp → Prop) : Nat → Hp → Prop
  | 0 => fun _ => False
  | fu8 + 1 => fun h => (mX8_isGood h (fun z26 => ((z26 = 0 → (Q h)) ∧ (¬ z26 = 0 → (((h 185 13) = 0 → (Q h)) ∧ (¬ (h 185 13) = 0 → (mX8_isWord 168932 h (fun z27 => ((z27 = 0 → (mX8_isWord 369932 h (fun z28 => ((z28 = 0 → (mX8_passes 267413 h (fun z29 h30 => ((z29 = 0 → (mX8_wrongs 1 h30 (fun z31 h32 => (mX8_readsAll_b79 Q (mX8_readsAll_b8 Q fu8) h32)))) ∧ (¬ z29 = 0 → (mX8_readsMove h30 (fun h33 => (mX8_readsAll_b79 Q (mX8_readsAll_b8 Q fu8) h33)))))))) ∧ (¬ z28 = 0 → (mX8_readsRule h (fun h34 => (mX8_readsAll_b79 Q (mX8_readsAll_b8 Q fu8) h34)))))))) ∧ (¬ z27 = 0 → (mX8_readsHost h (fun h35 => (mX8_readsAll_b79 Q (mX8_readsAll_b8 Q fu8) h35)))))))))))))
set_option maxHeartbeats 4000000 in
set_option maxRecDepth 100000 in
theorem sX8_readsAll_b8 {l0 : Launch} {a : ZC}  {Q : Hp → Prop}  (O : zOk l0 a cX8_readsAll RX8 1 none 197 [])   : ∀ (ff : Nat)  (h : Hp), mX8_readsAll_b8 Q ff  h → zV a (7, 0, 0, (qV Q), xN) 0 0 8 [some (aR 185)] [] h := by
  intro ff
  induction ff with
  | zero => intro  h hM; exact hM.elim
  | succ ff ih =>
    have hK8 := ih
    intro  h hM
    unfold mX8_readsAll_b8 at hM
    refine zV_aload_n O dX8_readsAll_8 rfl rfl ?_
    refine zV_callV (as := []) (st := []) O zc_X8_isGood (Or.inl zl_RX8_111) zi_1470 zi_103 zt_185 rfl rfl (by decide) (Nat.le_of_ble_eq_true rfl) rfl rfl (Nat.le_of_ble_eq_true rfl) (Nat.le_of_ble_eq_true rfl) (Nat.le_of_ble_eq_true rfl) (Nat.le_of_ble_eq_true rfl) (Nat.le_of_ble_eq_true rfl) (Nat.le_of_ble_eq_true rfl) dX8_readsAll_9 (sX8_isGood hM) (fun r h9 hq => ?_) (fun x h9 hq => hq.elim)
    obtain ⟨rfl, z26, rfl, hzz26, hM⟩ := hq
    refine zV_if_eq (tgt := 88) O dX8_readsAll_12 (by decide) (fun hc => ?_) (fun hc => ?_)
    · replace hM := hM.1 hc
      exact zV_vret O rfl ⟨rfl, hM⟩ (Nat.le_of_ble_eq_true rfl) (Nat.le_of_ble_eq_true rfl) dX8_readsAll_88
    · replace hM := hM.2 hc
      refine zV_aload_n O dX8_readsAll_15 rfl rfl ?_
      refine zV_getI O zf_RX8_89 zt_185 rfl (by decide) dX8_readsAll_16 ?_
      refine zV_if_eq (tgt := 88) O dX8_readsAll_19 (by decide) (fun hc => ?_) (fun hc => ?_)
      · replace hM := hM.1 hc
        exact zV_vret O rfl ⟨rfl, hM⟩ (Nat.le_of_ble_eq_true rfl) (Nat.le_of_ble_eq_true rfl) dX8_readsAll_88
      · replace hM := hM.2 hc
        refine zV_aload_n O dX8_readsAll_22 rfl rfl ?_
        refine zV_ldc2 (z := 168932) O ⟨by omega, by omega⟩ zi_1491.1 zi_1491.2 dX8_readsAll_23 ?_
        refine zV_callV (as := [aL 168932]) (st := []) O zc_X8_isWord (Or.inl zl_RX8_115) zi_1466 zi_102 zt_185 rfl rfl (by decide) (Nat.le_of_ble_eq_true rfl) rfl rfl (Nat.le_of_ble_eq_true rfl) (Nat.le_of_ble_eq_true rfl) (Nat.le_of_ble_eq_true rfl) (Nat.le_of_ble_eq_true rfl) (Nat.le_of_ble_eq_true rfl) (Nat.le_of_ble_eq_true rfl) dX8_readsAll_26 (sX8_isWord hM) (fun r h9 hq => ?_) (fun x h9 hq => hq.elim)
        obtain ⟨rfl, z27, rfl, hzz27, hM⟩ := hq
        refine zV_if_eq (tgt := 39) O dX8_readsAll_29 (by decide) (fun hc => ?_) (fun hc => ?_)
        · replace hM := hM.1 hc
          refine zV_aload_n O dX8_readsAll_39 rfl rfl ?_
          refine zV_ldc2 (z := 369932) O ⟨by omega, by omega⟩ zi_1513.1 zi_1513.2 dX8_readsAll_40 ?_
          refine zV_callV (as := [aL 369932]) (st := []) O zc_X8_isWord (Or.inl zl_RX8_115) zi_1466 zi_102 zt_185 rfl rfl (by decide) (Nat.le_of_ble_eq_true rfl) rfl rfl (Nat.le_of_ble_eq_true rfl) (Nat.le_of_ble_eq_true rfl) (Nat.le_of_ble_eq_true rfl) (Nat.le_of_ble_eq_true rfl) (Nat.le_of_ble_eq_true rfl) (Nat.le_of_ble_eq_true rfl) dX8_readsAll_43 (sX8_isWord hM) (fun r h9 hq => ?_) (fun x h9 hq => hq.elim)
          obtain ⟨rfl, z28, rfl, hzz28, hM⟩ := hq
          refine zV_if_eq (tgt := 56) O dX8_readsAll_46 (by decide) (fun hc => ?_) (fun hc => ?_)
          · replace hM := hM.1 hc
            refine zV_aload_n O dX8_readsAll_56 rfl rfl ?_
            refine zV_ldc2 (z := 267413) O ⟨by omega, by omega⟩ zi_1528.1 zi_1528.2 dX8_readsAll_57 ?_
            refine zV_callV (as := [aL 267413]) (st := []) O zc_X8_passes (Or.inl zl_RX8_135) zi_1462 zi_101 zt_185 rfl rfl (by decide) (Nat.le_of_ble_eq_true rfl) rfl rfl (Nat.le_of_ble_eq_true rfl) (Nat.le_of_ble_eq_true rfl) (Nat.le_of_ble_eq_true rfl) (Nat.le_of_ble_eq_true rfl) (Nat.le_of_ble_eq_true rfl) (Nat.le_of_ble_eq_true rfl) dX8_readsAll_60 (sX8_passes hM) (fun r h30 hq => ?_) (fun x h9 hq => hq.elim)
            obtain ⟨z29, rfl, hzz29, hM⟩ := hq
            refine zV_if_eq (tgt := 73) O dX8_readsAll_63 (by decide) (fun hc => ?_) (fun hc => ?_)
            · replace hM := hM.1 hc
              refine zV_aload_n O dX8_readsAll_73 rfl rfl ?_
              refine zV_iconst (z := 1) O ⟨by omega, by omega⟩ dX8_readsAll_74 ?_
              refine zV_callV (as := [aI 1]) (st := []) O zc_X8_wrongs (Or.inl zl_RX8_122) zi_1474 zi_104 zt_185 rfl rfl (by decide) (Nat.le_of_ble_eq_true rfl) rfl rfl (Nat.le_of_ble_eq_true rfl) (Nat.le_of_ble_eq_true rfl) (Nat.le_of_ble_eq_true rfl) (Nat.le_of_ble_eq_true rfl) (Nat.le_of_ble_eq_true rfl) (Nat.le_of_ble_eq_true rfl) dX8_readsAll_75 (sX8_wrongs hM) (fun r h32 hq => ?_) (fun x h9 hq => hq.elim)
              obtain ⟨z31, rfl, hzz31, hM⟩ := hq
              refine zV_pop O rfl dX8_readsAll_78 ?_
              exact sX8_readsAll_b79 O hK8 hM
            · replace hM := hM.2 hc
              refine zV_aload_n O dX8_readsAll_66 rfl rfl ?_
              refine zV_callV (as := []) (st := []) O zc_X8_readsMove (Or.inl zl_RX8_198) zi_1531 zi_114 zt_185 rfl rfl (by decide) (Nat.le_of_ble_eq_true rfl) rfl rfl (Nat.le_of_ble_eq_true rfl) (Nat.le_of_ble_eq_true rfl) (Nat.le_of_ble_eq_true rfl) (Nat.le_of_ble_eq_true rfl) (Nat.le_of_ble_eq_true rfl) (Nat.le_of_ble_eq_true rfl) dX8_readsAll_67 (sX8_readsMove hM) (fun r h33 hq => ?_) (fun x h9 hq => hq.elim)
              obtain ⟨rfl, hM⟩ := hq
              refine zV_goto (tgt := 79) O dX8_readsAll_70 (by decide) ?_
              exact sX8_readsAll_b79 O hK8 hM
          · replace hM := hM.2 hc
            refine zV_aload_n O dX8_readsAll_49 rfl rfl ?_
            refine zV_callV (as := []) (st := []) O zc_X8_readsRule (Or.inl zl_RX8_193) zi_1516 zi_112 zt_185 rfl rfl (by decide) (Nat.le_of_ble_eq_true rfl) rfl rfl (Nat.le_of_ble_eq_true rfl) (Nat.le_of_ble_eq_true rfl) (Nat.le_of_ble_eq_true rfl) (Nat.le_of_ble_eq_true rfl) (Nat.le_of_ble_eq_true rfl) (Nat.le_of_ble_eq_true rfl) dX8_readsAll_50 (sX8_readsRule hM) (fun r h34 hq => ?_) (fun x h9 hq => hq.elim)
            obtain ⟨rfl, hM⟩ := hq
            refine zV_goto (tgt := 79) O dX8_readsAll_53 (by decide) ?_
            exact sX8_readsAll_b79 O hK8 hM
        · replace hM := hM.2 hc
          refine zV_aload_n O dX8_readsAll_32 rfl rfl ?_
          refine zV_callV (as := []) (st := []) O zc_X8_readsHost (Or.inl zl_RX8_188) zi_1494 zi_108 zt_185 rfl rfl (by decide) (Nat.le_of_ble_eq_true rfl) rfl rfl (Nat.le_of_ble_eq_true rfl) (Nat.le_of_ble_eq_true rfl) (Nat.le_of_ble_eq_true rfl) (Nat.le_of_ble_eq_true rfl) (Nat.le_of_ble_eq_true rfl) (Nat.le_of_ble_eq_true rfl) dX8_readsAll_33 (sX8_readsHost hM) (fun r h35 hq => ?_) (fun x h9 hq => hq.elim)
          obtain ⟨rfl, hM⟩ := hq
          refine zV_goto (tgt := 79) O dX8_readsAll_36 (by decide) ?_
          exact sX8_readsAll_b79 O hK8 hM
def mX8_readsAll  (h : Hp) (Q : Hp → Prop) : Prop := (mX8_begins h (fun h36 => (mX8_readsHead h36 (fun h37 => (∃ ff, mX8_readsAll_b8 Q ff h37)))))
set_option maxHeartbeats 4000000 in
set_option maxRecDepth 100000 in
theorem sX8_readsAll {l0 : Launch}  {h : Hp} {Q : Hp → Prop}  (hM : mX8_readsAll  h Q) : zSp l0 yX8_readsAll cX8_readsAll 1 none 197 (7) 0 0 [aR 185] h (qV Q) xN := by
  unfold mX8_readsAll at hM
  refine zSp_intro zpn_RX8 (Nat.le_of_ble_eq_true rfl) (fun a O => ?_)
  show zV a (7, 0, 0, (qV Q), xN) 0 0 0 [some (aR 185)] [] h
  refine zV_aload_n O dX8_readsAll_0 rfl rfl ?_
  refine zV_callV (as := []) (st := []) O zc_X8_begins (Or.inl zl_RX8_50) zi_1306 zi_91 zt_185 rfl rfl (by decide) (Nat.le_of_ble_eq_true rfl) rfl rfl (Nat.le_of_ble_eq_true rfl) (Nat.le_of_ble_eq_true rfl) (Nat.le_of_ble_eq_true rfl) (Nat.le_of_ble_eq_true rfl) (Nat.le_of_ble_eq_true rfl) (Nat.le_of_ble_eq_true rfl) dX8_readsAll_1 (sX8_begins hM) (fun r h36 hq => ?_) (fun x h9 hq => hq.elim)
  obtain ⟨rfl, hM⟩ := hq
  refine zV_aload_n O dX8_readsAll_4 rfl rfl ?_
  refine zV_callV (as := []) (st := []) O zc_X8_readsHead (Or.inl zl_RX8_183) zi_1457 zi_100 zt_185 rfl rfl (by decide) (Nat.le_of_ble_eq_true rfl) rfl rfl (Nat.le_of_ble_eq_true rfl) (Nat.le_of_ble_eq_true rfl) (Nat.le_of_ble_eq_true rfl) (Nat.le_of_ble_eq_true rfl) (Nat.le_of_ble_eq_true rfl) (Nat.le_of_ble_eq_true rfl) dX8_readsAll_5 (sX8_readsHead hM) (fun r h37 hq => ?_) (fun x h9 hq => hq.elim)
  obtain ⟨rfl, hM⟩ := hq
  obtain ⟨ff, hM⟩ := hM
  exact sX8_readsAll_b8 O ff _ hM
def mX8_twice_b66 (h : Hp) (Q : Int → Prop) (K2 : Int → Prop) (K11 : Int → Int → Prop) (v1 : Int) (v2 : Int) : Prop := (zr (v2 + 1) ∧ (K11 v1 (v2 + 1)))
set_option maxHeartbeats 4000000 in
set_option maxRecDepth 100000 in
theorem sX8_twice_b66 {l0 : Launch} {a : ZC}  {h : Hp} {Q : Int → Prop} {K2 : Int → Prop} {K11 : Int → Int → Prop} (O : zOk l0 a cX8_twice RX8 4 (some .int) 197 [])  (hK2 : ∀ (v1 : Int), K2 v1 → zV a (7, 0, 0, (qPI h Q), xN) 0 0 2 [some (aR 185), some (aI v1), none, none] [] h) (hK11 : ∀ (v1 : Int) (v2 : Int), K11 v1 v2 → zV a (7, 0, 0, (qPI h Q), xN) 0 0 11 [some (aR 185), some (aI v1), some (aI v2), none] [] h) {v1 : Int} {v2 : Int}   (hM : mX8_twice_b66 h Q K2 K11 v1 v2) : zV a (7, 0, 0, (qPI h Q), xN) 0 0 66 [some (aR 185), some (aI v1), some (aI v2), none] [] h := by
  unfold mX8_twice_b66 at hM
  obtain ⟨hc, hM⟩ := hM
  refine zV_iinc O dX8_twice_66 rfl (Nat.le_of_ble_eq_true rfl) rfl hc ?_
  refine zV_goto (tgt := 11) O dX8_twice_69 (by decide) ?_
  exact hK11 _ _ hM
def mX8_twice_b60 (h : Hp) (Q : Int → Prop) (K2 : Int → Prop) (K11 : Int → Int → Prop) (K35 : Int → Int → Int → Prop) (v1 : Int) (v2 : Int) (v3 : Int) : Prop := (zr (v3 + 1) ∧ (K35 v1 v2 (v3 + 1)))
set_option maxHeartbeats 4000000 in
set_option maxRecDepth 100000 in
theorem sX8_twice_b60 {l0 : Launch} {a : ZC}  {h : Hp} {Q : Int → Prop} {K2 : Int → Prop} {K11 : Int → Int → Prop} {K35 : Int → Int → Int → Prop} (O : zOk l0 a cX8_twice RX8 4 (some .int) 197 [])  (hK2 : ∀ (v1 : Int), K2 v1 → zV a (7, 0, 0, (qPI h Q), xN) 0 0 2 [some (aR 185), some (aI v1), none, none] [] h) (hK11 : ∀ (v1 : Int) (v2 : Int), K11 v1 v2 → zV a (7, 0, 0, (qPI h Q), xN) 0 0 11 [some (aR 185), some (aI v1), some (aI v2), none] [] h) (hK35 : ∀ (v1 : Int) (v2 : Int) (v3 : Int), K35 v1 v2 v3 → zV a (7, 0, 0, (qPI h Q), xN) 0 0 35 [some (aR 185), some (aI v1), some (aI v2), some (aI v3)] [] h) {v1 : Int} {v2 : Int} {v3 : Int}   (hM : mX8_twice_b60 h Q K2 K11 K35 v1 v2 v3) : zV a (7, 0, 0, (qPI h Q), xN) 0 0 60 [some (aR 185), some (aI v1), some (aI v2), some (aI v3)] [] h := by
  unfold mX8_twice_b60 at hM
  obtain ⟨hc, hM⟩ := hM
  refine zV_iinc O dX8_twice_60 rfl (Nat.le_of_ble_eq_true rfl) rfl hc ?_
  refine zV_goto (tgt := 35) O dX8_twice_63 (by decide) ?_
  exact hK35 _ _ _ hM
def mX8_twice_b35 (h : Hp) (Q : Int → Prop) (K2 : Int → Prop) (K11 : Int → Int → Prop) : Nat → Int → Int → Int → Prop
  | 0 => fun _ _ _ => False
  | fu35 + 1 => fun v1 v2 v3 => ((v2 ≤ v3 → (mX8_twice_b66 h Q K2 K11 v1 v2)) ∧ (¬ v2 ≤ v3 → (mX8_areOfNet v2 v3 h (fun z15 => ((z15 = 0 → (mX8_twice_b60 h Q K2 K11 (mX8_twice_b35 h Q K2 K11 fu35) v1 v2 v3)) ∧ (¬ z15 = 0 → (mX8_holds v3 v1 h (fun z16 => ((z16 = 0 → (mX8_twice_b60 h Q K2 K11 (mX8_twice_b35 h Q K2 K11 fu35) v1 v2 v3)) ∧ (¬ z16 = 0 → (Q v1)))))))))))
set_option maxHeartbeats 4000000 in
set_option maxRecDepth 100000 in
theorem sX8_twice_b35 {l0 : Launch} {a : ZC}  {h : Hp} {Q : Int → Prop} {K2 : Int → Prop} {K11 : Int → Int → Prop} (O : zOk l0 a cX8_twice RX8 4 (some .int) 197 [])  (hK2 : ∀ (v1 : Int), K2 v1 → zV a (7, 0, 0, (qPI h Q), xN) 0 0 2 [some (aR 185), some (aI v1), none, none] [] h) (hK11 : ∀ (v1 : Int) (v2 : Int), K11 v1 v2 → zV a (7, 0, 0, (qPI h Q), xN) 0 0 11 [some (aR 185), some (aI v1), some (aI v2), none] [] h) : ∀ (ff : Nat) (v1 : Int) (v2 : Int) (v3 : Int) , mX8_twice_b35 h Q K2 K11 ff v1 v2 v3 → zV a (7, 0, 0, (qPI h Q), xN) 0 0 35 [some (aR 185), some (aI v1), some (aI v2), some (aI v3)] [] h := by
  intro ff
  induction ff with
  | zero => intro v1 v2 v3 hM; exact hM.elim
  | succ ff ih =>
    have hK35 := ih
    intro v1 v2 v3 hM
    unfold mX8_twice_b35 at hM
    refine zV_iload_n O dX8_twice_35 rfl rfl ?_
    refine zV_iload_n O dX8_twice_36 rfl rfl ?_
    refine zV_icmp_ge (tgt := 66) O dX8_twice_37 (by decide) (fun hc => ?_) (fun hc => ?_)
    · replace hM := hM.1 hc
      refine zV_sub (ls2 := [some (aR 185), some (aI v1), some (aI v2), none]) ⟨rfl, rfl, rfl, trivial⟩ ?_
      exact sX8_twice_b66 O hK2 hK11 hM
    · replace hM := hM.2 hc
      refine zV_aload_n O dX8_twice_40 rfl rfl ?_
      refine zV_iload_n O dX8_twice_41 rfl rfl ?_
      refine zV_iload_n O dX8_twice_42 rfl rfl ?_
      refine zV_callV (as := [aI v2, aI v3]) (st := []) O zc_X8_areOfNet (Or.inl zl_RX8_233) zi_1660 zi_133 zt_185 rfl rfl (by decide) (Nat.le_of_ble_eq_true rfl) rfl rfl (Nat.le_of_ble_eq_true rfl) (Nat.le_of_ble_eq_true rfl) (Nat.le_of_ble_eq_true rfl) (Nat.le_of_ble_eq_true rfl) (Nat.le_of_ble_eq_true rfl) (Nat.le_of_ble_eq_true rfl) dX8_twice_43 (sX8_areOfNet hM) (fun r h9 hq => ?_) (fun x h9 hq => hq.elim)
      obtain ⟨rfl, z15, rfl, hzz15, hM⟩ := hq
      refine zV_if_eq (tgt := 60) O dX8_twice_46 (by decide) (fun hc => ?_) (fun hc => ?_)
      · replace hM := hM.1 hc
        exact sX8_twice_b60 O hK2 hK11 hK35 hM
      · replace hM := hM.2 hc
        refine zV_aload_n O dX8_twice_49 rfl rfl ?_
        refine zV_iload_n O dX8_twice_50 rfl rfl ?_
        refine zV_iload_n O dX8_twice_51 rfl rfl ?_
        refine zV_callV (as := [aI v3, aI v1]) (st := []) O zc_X8_holds (Or.inl zl_RX8_230) zi_1565 zi_121 zt_185 rfl rfl (by decide) (Nat.le_of_ble_eq_true rfl) rfl rfl (Nat.le_of_ble_eq_true rfl) (Nat.le_of_ble_eq_true rfl) (Nat.le_of_ble_eq_true rfl) (Nat.le_of_ble_eq_true rfl) (Nat.le_of_ble_eq_true rfl) (Nat.le_of_ble_eq_true rfl) dX8_twice_52 (sX8_holds hM) (fun r h9 hq => ?_) (fun x h9 hq => hq.elim)
        obtain ⟨rfl, z16, rfl, hzz16, hM⟩ := hq
        refine zV_if_eq (tgt := 60) O dX8_twice_55 (by decide) (fun hc => ?_) (fun hc => ?_)
        · replace hM := hM.1 hc
          exact sX8_twice_b60 O hK2 hK11 hK35 hM
        · replace hM := hM.2 hc
          refine zV_iload_n O dX8_twice_58 rfl rfl ?_
          exact zV_iret O rfl ⟨rfl, _, rfl, hM⟩ (Nat.le_of_ble_eq_true rfl) (Nat.le_of_ble_eq_true rfl) dX8_twice_59
def mX8_twice_b11 (h : Hp) (Q : Int → Prop) (K2 : Int → Prop) : Nat → Int → Int → Prop
  | 0 => fun _ _ => False
  | fu11 + 1 => fun v1 v2 => (((0 : Int) ≤ 0 ∧ (0 : Int) < 1096) ∧ (((rd h 186 0) ≤ v2 → (zr (v1 + 1) ∧ (K2 (v1 + 1)))) ∧ (¬ (rd h 186 0) ≤ v2 → (mX8_holds v2 v1 h (fun z17 => ((¬ z17 = 0 → (∃ ff, mX8_twice_b35 h Q K2 (mX8_twice_b11 h Q K2 fu11) ff v1 v2 0)) ∧ (z17 = 0 → (mX8_twice_b66 h Q K2 (mX8_twice_b11 h Q K2 fu11) v1 v2))))))))
set_option maxHeartbeats 4000000 in
set_option maxRecDepth 100000 in
theorem sX8_twice_b11 {l0 : Launch} {a : ZC}  {h : Hp} {Q : Int → Prop} {K2 : Int → Prop} (O : zOk l0 a cX8_twice RX8 4 (some .int) 197 [])  (hK2 : ∀ (v1 : Int), K2 v1 → zV a (7, 0, 0, (qPI h Q), xN) 0 0 2 [some (aR 185), some (aI v1), none, none] [] h) : ∀ (ff : Nat) (v1 : Int) (v2 : Int) , mX8_twice_b11 h Q K2 ff v1 v2 → zV a (7, 0, 0, (qPI h Q), xN) 0 0 11 [some (aR 185), some (aI v1), some (aI v2), none] [] h := by
  intro ff
  induction ff with
  | zero => intro v1 v2 hM; exact hM.elim
  | succ ff ih =>
    have hK11 := ih
    intro v1 v2 hM
    unfold mX8_twice_b11 at hM
    refine zV_iload_n O dX8_twice_11 rfl rfl ?_
    refine zV_aload_n O dX8_twice_12 rfl rfl ?_
    refine zV_getR O zf_RX8_13 zt_185 rfl (by decide) dX8_twice_13 ?_
    refine zV_iconst (z := 0) O ⟨by omega, by omega⟩ dX8_twice_16 ?_
    obtain ⟨hc, hM⟩ := hM
    refine zV_iald O zt_186 (by decide) hc dX8_twice_17 ?_
    refine zV_icmp_ge (tgt := 72) O dX8_twice_18 (by decide) (fun hc => ?_) (fun hc => ?_)
    · replace hM := hM.1 hc
      obtain ⟨hc, hM⟩ := hM
      refine zV_iinc O dX8_twice_72 rfl (Nat.le_of_ble_eq_true rfl) rfl hc ?_
      refine zV_goto (tgt := 2) O dX8_twice_75 (by decide) ?_
      refine zV_sub (ls2 := [some (aR 185), some (aI (v1 + 1)), none, none]) ⟨rfl, rfl, trivial⟩ ?_
      exact hK2 _ hM
    · replace hM := hM.2 hc
      refine zV_aload_n O dX8_twice_21 rfl rfl ?_
      refine zV_iload_n O dX8_twice_22 rfl rfl ?_
      refine zV_iload_n O dX8_twice_23 rfl rfl ?_
      refine zV_callV (as := [aI v2, aI v1]) (st := []) O zc_X8_holds (Or.inl zl_RX8_230) zi_1565 zi_121 zt_185 rfl rfl (by decide) (Nat.le_of_ble_eq_true rfl) rfl rfl (Nat.le_of_ble_eq_true rfl) (Nat.le_of_ble_eq_true rfl) (Nat.le_of_ble_eq_true rfl) (Nat.le_of_ble_eq_true rfl) (Nat.le_of_ble_eq_true rfl) (Nat.le_of_ble_eq_true rfl) dX8_twice_24 (sX8_holds hM) (fun r h9 hq => ?_) (fun x h9 hq => hq.elim)
      obtain ⟨rfl, z17, rfl, hzz17, hM⟩ := hq
      refine zV_if_ne (tgt := 33) O dX8_twice_27 (by decide) (fun hc => ?_) (fun hc => ?_)
      · replace hM := hM.1 hc
        refine zV_iconst (z := 0) O ⟨by omega, by omega⟩ dX8_twice_33 ?_
        refine zV_istore_n O dX8_twice_34 rfl (Nat.le_of_ble_eq_true rfl) rfl ?_
        obtain ⟨ff, hM⟩ := hM
        exact sX8_twice_b35 O hK2 hK11 ff _ _ _ hM
      · replace hM := hM.2 hc
        refine zV_goto (tgt := 66) O dX8_twice_30 (by decide) ?_
        exact sX8_twice_b66 O hK2 hK11 hM
def mX8_twice_b2 (h : Hp) (Q : Int → Prop) : Nat → Int → Prop
  | 0 => fun _ => False
  | fu2 + 1 => fun v1 => (((250 : Int) < v1 → (Q (-1))) ∧ (¬ (250 : Int) < v1 → (∃ ff, mX8_twice_b11 h Q (mX8_twice_b2 h Q fu2) ff v1 0)))
set_option maxHeartbeats 4000000 in
set_option maxRecDepth 100000 in
theorem sX8_twice_b2 {l0 : Launch} {a : ZC}  {h : Hp} {Q : Int → Prop}  (O : zOk l0 a cX8_twice RX8 4 (some .int) 197 [])   : ∀ (ff : Nat) (v1 : Int) , mX8_twice_b2 h Q ff v1 → zV a (7, 0, 0, (qPI h Q), xN) 0 0 2 [some (aR 185), some (aI v1), none, none] [] h := by
  intro ff
  induction ff with
  | zero => intro v1 hM; exact hM.elim
  | succ ff ih =>
    have hK2 := ih
    intro v1 hM
    unfold mX8_twice_b2 at hM
    refine zV_iload_n O dX8_twice_2 rfl rfl ?_
    refine zV_sipush (z := 250) O ⟨by omega, by omega⟩ rfl dX8_twice_3 ?_
    refine zV_icmp_gt (tgt := 78) O dX8_twice_6 (by decide) (fun hc => ?_) (fun hc => ?_)
    · replace hM := hM.1 hc
      refine zV_iconst (z := -1) O ⟨by omega, by omega⟩ dX8_twice_78 ?_
      exact zV_iret O rfl ⟨rfl, _, rfl, hM⟩ (Nat.le_of_ble_eq_true rfl) (Nat.le_of_ble_eq_true rfl) dX8_twice_79
    · replace hM := hM.2 hc
      refine zV_iconst (z := 0) O ⟨by omega, by omega⟩ dX8_twice_9 ?_
      refine zV_istore_n O dX8_twice_10 rfl (Nat.le_of_ble_eq_true rfl) rfl ?_
      obtain ⟨ff, hM⟩ := hM
      exact sX8_twice_b11 O hK2 ff _ _ hM
def mX8_twice  (h : Hp) (Q : Int → Prop) : Prop := (∃ ff, mX8_twice_b2 h Q ff 1)
set_option maxHeartbeats 4000000 in
set_option maxRecDepth 100000 in
theorem sX8_twice {l0 : Launch}  {h : Hp} {Q : Int → Prop}  (hM : mX8_twice  h Q) : zSp l0 yX8_twice cX8_twice 4 (some .int) 197 (7) 0 0 [aR 185] h (qPI h Q) xN := by
  unfold mX8_twice at hM
  refine zSp_intro zpn_RX8 (Nat.le_of_ble_eq_true rfl) (fun a O => ?_)
  show zV a (7, 0, 0, (qPI h Q), xN) 0 0 0 [some (aR 185), none, none, none] [] h
  refine zV_iconst (z := 1) O ⟨by omega, by omega⟩ dX8_twice_0 ?_
  refine zV_istore_n O dX8_twice_1 rfl (Nat.le_of_ble_eq_true rfl) rfl ?_
  obtain ⟨ff, hM⟩ := hM
  exact sX8_twice_b2 O ff _ hM
def mX8_addHost_b70 (Q : Int → Hp → Prop) : Nat → Int → Int → Int → Int → Hp → Prop
  | 0 => fun _ _ _ _ _ => False
  | fu70 + 1 => fun v1 v2 v3 v4 h => (((24 : Int) ≤ v4 → (mX8_cell v3 0 h (fun z31 => (((0 : Int) ≤ z31 ∧ z31 < 1096) ∧ (∀ h32 : Hp, h32 = wr h 186 z31 v1 → (mX8_cell v3 1 h32 (fun z33 => (((0 : Int) ≤ z33 ∧ z33 < 1096) ∧ (∀ h34 : Hp, h34 = wr h32 186 z33 v2 → (zr (v3 + 1) ∧ (((0 : Int) ≤ 0 ∧ (0 : Int) < 1096) ∧ (∀ h35 : Hp, h35 = wr h34 186 0 (v3 + 1) → (Q v3 h35))))))))))))) ∧ (¬ (24 : Int) ≤ v4 → (mX8_cell v3 v4 h (fun z36 => (((0 : Int) ≤ z36 ∧ z36 < 1096) ∧ (∀ h37 : Hp, h37 = wr h 186 z36 0 → (zr (v4 + 1) ∧ ((mX8_addHost_b70 Q fu70) v1 v2 v3 (v4 + 1) h37))))))))
set_option maxHeartbeats 4000000 in
set_option maxRecDepth 100000 in
theorem sX8_addHost_b70 {l0 : Launch} {a : ZC}  {Q : Int → Hp → Prop}  (O : zOk l0 a cX8_addHost RX8 5 (some .int) 197 [])   : ∀ (ff : Nat) (v1 : Int) (v2 : Int) (v3 : Int) (v4 : Int) (h : Hp), mX8_addHost_b70 Q ff v1 v2 v3 v4 h → zV a (8, 0, 0, (qI Q), xN) 0 0 70 [some (aR 185), some (aI v1), some (aI v2), some (aI v3), some (aI v4)] [] h := by
  intro ff
  induction ff with
  | zero => intro v1 v2 v3 v4 h hM; exact hM.elim
  | succ ff ih =>
    have hK70 := ih
    intro v1 v2 v3 v4 h hM
    unfold mX8_addHost_b70 at hM
    refine zV_iload O dX8_addHost_70 rfl ?_
    refine zV_bipush (z := 24) O ⟨by omega, by omega⟩ rfl dX8_addHost_72 ?_
    refine zV_icmp_ge (tgt := 95) O dX8_addHost_74 (by decide) (fun hc => ?_) (fun hc => ?_)
    · replace hM := hM.1 hc
      refine zV_aload_n O dX8_addHost_95 rfl rfl ?_
      refine zV_getR O zf_RX8_13 zt_185 rfl (by decide) dX8_addHost_96 ?_
      refine zV_iload_n O dX8_addHost_99 rfl rfl ?_
      refine zV_iconst (z := 0) O ⟨by omega, by omega⟩ dX8_addHost_100 ?_
      refine zV_callS (as := [aI v3, aI 0]) (st := [aR 186]) O zc_X8_cell (Or.inl zl_RX8_129) zi_1505 (Nat.le_of_ble_eq_true rfl) rfl rfl (Nat.le_of_ble_eq_true rfl) (Nat.le_of_ble_eq_true rfl) (Nat.le_of_ble_eq_true rfl) (Nat.le_of_ble_eq_true rfl) (Nat.le_of_ble_eq_true rfl) (Nat.le_of_ble_eq_true rfl) dX8_addHost_101 (sX8_cell hM) (fun r h9 hq => ?_) (fun x h9 hq => hq.elim)
      obtain ⟨rfl, z31, rfl, hM⟩ := hq
      refine zV_iload_n O dX8_addHost_104 rfl rfl ?_
      obtain ⟨hc, hM⟩ := hM
      refine zV_iast O zt_186 (by decide) hc dX8_addHost_105 ?_
      have hM := hM (hu h 186 (Int.toNat z31) v1) rfl
      generalize hu h 186 (Int.toNat z31) v1 = h32 at hM ⊢
      refine zV_aload_n O dX8_addHost_106 rfl rfl ?_
      refine zV_getR O zf_RX8_13 zt_185 rfl (by decide) dX8_addHost_107 ?_
      refine zV_iload_n O dX8_addHost_110 rfl rfl ?_
      refine zV_iconst (z := 1) O ⟨by omega, by omega⟩ dX8_addHost_111 ?_
      refine zV_callS (as := [aI v3, aI 1]) (st := [aR 186]) O zc_X8_cell (Or.inl zl_RX8_129) zi_1505 (Nat.le_of_ble_eq_true rfl) rfl rfl (Nat.le_of_ble_eq_true rfl) (Nat.le_of_ble_eq_true rfl) (Nat.le_of_ble_eq_true rfl) (Nat.le_of_ble_eq_true rfl) (Nat.le_of_ble_eq_true rfl) (Nat.le_of_ble_eq_true rfl) dX8_addHost_112 (sX8_cell hM) (fun r h9 hq => ?_) (fun x h9 hq => hq.elim)
      obtain ⟨rfl, z33, rfl, hM⟩ := hq
      refine zV_iload_n O dX8_addHost_115 rfl rfl ?_
      obtain ⟨hc, hM⟩ := hM
      refine zV_iast O zt_186 (by decide) hc dX8_addHost_116 ?_
      have hM := hM (hu h32 186 (Int.toNat z33) v2) rfl
      generalize hu h32 186 (Int.toNat z33) v2 = h34 at hM ⊢
      refine zV_aload_n O dX8_addHost_117 rfl rfl ?_
      refine zV_getR O zf_RX8_13 zt_185 rfl (by decide) dX8_addHost_118 ?_
      refine zV_iconst (z := 0) O ⟨by omega, by omega⟩ dX8_addHost_121 ?_
      refine zV_iload_n O dX8_addHost_122 rfl rfl ?_
      refine zV_iconst (z := 1) O ⟨by omega, by omega⟩ dX8_addHost_123 ?_
      obtain ⟨hc, hM⟩ := hM
      refine zV_iadd O dX8_addHost_124 hc ?_
      obtain ⟨hc, hM⟩ := hM
      refine zV_iast O zt_186 (by decide) hc dX8_addHost_125 ?_
      have hM := hM (hu h34 186 (Int.toNat 0) (v3 + 1)) rfl
      generalize hu h34 186 (Int.toNat 0) (v3 + 1) = h35 at hM ⊢
      refine zV_iload_n O dX8_addHost_126 rfl rfl ?_
      exact zV_iret O rfl ⟨_, rfl, hM⟩ (Nat.le_of_ble_eq_true rfl) (Nat.le_of_ble_eq_true rfl) dX8_addHost_127
    · replace hM := hM.2 hc
      refine zV_aload_n O dX8_addHost_77 rfl rfl ?_
      refine zV_getR O zf_RX8_13 zt_185 rfl (by decide) dX8_addHost_78 ?_
      refine zV_iload_n O dX8_addHost_81 rfl rfl ?_
      refine zV_iload O dX8_addHost_82 rfl ?_
      refine zV_callS (as := [aI v3, aI v4]) (st := [aR 186]) O zc_X8_cell (Or.inl zl_RX8_129) zi_1505 (Nat.le_of_ble_eq_true rfl) rfl rfl (Nat.le_of_ble_eq_true rfl) (Nat.le_of_ble_eq_true rfl) (Nat.le_of_ble_eq_true rfl) (Nat.le_of_ble_eq_true rfl) (Nat.le_of_ble_eq_true rfl) (Nat.le_of_ble_eq_true rfl) dX8_addHost_84 (sX8_cell hM) (fun r h9 hq => ?_) (fun x h9 hq => hq.elim)
      obtain ⟨rfl, z36, rfl, hM⟩ := hq
      refine zV_iconst (z := 0) O ⟨by omega, by omega⟩ dX8_addHost_87 ?_
      obtain ⟨hc, hM⟩ := hM
      refine zV_iast O zt_186 (by decide) hc dX8_addHost_88 ?_
      have hM := hM (hu h 186 (Int.toNat z36) 0) rfl
      generalize hu h 186 (Int.toNat z36) 0 = h37 at hM ⊢
      obtain ⟨hc, hM⟩ := hM
      refine zV_iinc O dX8_addHost_89 rfl (Nat.le_of_ble_eq_true rfl) rfl hc ?_
      refine zV_goto (tgt := 70) O dX8_addHost_92 (by decide) ?_
      exact hK70 _ _ _ _ _ hM
def mX8_addHost (x1 : Int) (x2 : Int) (h : Hp) (Q : Int → Hp → Prop) : Prop := (∀ h38 : Hp, h38 = hu h 185 0 0 → (mX8_isOffice x1 h38 (fun z39 => (mX8_fails z39 1 h38 (fun z40 h41 => ((¬ z40 = 0 → (Q 0 h41)) ∧ (z40 = 0 → (mX8_isNumber x2 h41 (fun z42 => (mX8_fails z42 2 h41 (fun z43 h44 => ((z43 = 0 → (((0 : Int) ≤ 0 ∧ (0 : Int) < 1096) ∧ ((¬ (rd h44 186 0) = (40 : Int) → (mX8_isHeldIn x1 x2 h44 (fun z45 => ((z45 = 0 → (mX8_keeps 186 1096 h44 (fun h46 => (∃ ff, mX8_addHost_b70 Q ff x1 x2 (rd h44 186 0) 0 h46)))) ∧ (¬ z45 = 0 → (Q (-3) h44)))))) ∧ ((rd h44 186 0) = (40 : Int) → (Q (-2) h44))))) ∧ (¬ z43 = 0 → (Q 0 h44))))))))))))))
set_option maxHeartbeats 4000000 in
set_option maxRecDepth 100000 in
theorem sX8_addHost {l0 : Launch} {x1 : Int} {x2 : Int} {h : Hp} {Q : Int → Hp → Prop}  (hM : mX8_addHost x1 x2 h Q) : zSp l0 yX8_addHost cX8_addHost 5 (some .int) 197 (8) 0 0 [aR 185, aI x1, aI x2] h (qI Q) xN := by
  unfold mX8_addHost at hM
  refine zSp_intro zpn_RX8 (Nat.le_of_ble_eq_true rfl) (fun a O => ?_)
  show zV a (8, 0, 0, (qI Q), xN) 0 0 0 [some (aR 185), some (aI x1), some (aI x2), none, none] [] h
  refine zV_aload_n O dX8_addHost_0 rfl rfl ?_
  refine zV_iconst (z := 0) O ⟨by omega, by omega⟩ dX8_addHost_1 ?_
  refine zV_putI O zf_RX8_1 zt_185 rfl (by decide) dX8_addHost_2 ?_
  have hM := hM _ rfl
  generalize hu h 185 0 0 = h38 at hM ⊢
  refine zV_aload_n O dX8_addHost_5 rfl rfl ?_
  refine zV_iload_n O dX8_addHost_6 rfl rfl ?_
  refine zV_callS (as := [aI x1]) (st := [aR 185]) O zc_X8_isOffice (Or.inl zl_RX8_300) zi_1601 (Nat.le_of_ble_eq_true rfl) rfl rfl (Nat.le_of_ble_eq_true rfl) (Nat.le_of_ble_eq_true rfl) (Nat.le_of_ble_eq_true rfl) (Nat.le_of_ble_eq_true rfl) (Nat.le_of_ble_eq_true rfl) (Nat.le_of_ble_eq_true rfl) dX8_addHost_7 (sX8_isOffice hM) (fun r h9 hq => ?_) (fun x h9 hq => hq.elim)
  obtain ⟨rfl, z39, rfl, hzz39, hM⟩ := hq
  refine zV_iconst (z := 1) O ⟨by omega, by omega⟩ dX8_addHost_10 ?_
  refine zV_callV (as := [aI z39, aI 1]) (st := []) O zc_X8_fails (Or.inl zl_RX8_201) zi_1420 zi_93 zt_185 rfl rfl (by decide) (Nat.le_of_ble_eq_true rfl) rfl rfl (Nat.le_of_ble_eq_true rfl) (Nat.le_of_ble_eq_true rfl) (Nat.le_of_ble_eq_true rfl) (Nat.le_of_ble_eq_true rfl) (Nat.le_of_ble_eq_true rfl) (Nat.le_of_ble_eq_true rfl) dX8_addHost_11 (sX8_fails hM) (fun r h41 hq => ?_) (fun x h9 hq => hq.elim)
  obtain ⟨z40, rfl, hzz40, hM⟩ := hq
  refine zV_if_ne (tgt := 29) O dX8_addHost_14 (by decide) (fun hc => ?_) (fun hc => ?_)
  · replace hM := hM.1 hc
    refine zV_iconst (z := 0) O ⟨by omega, by omega⟩ dX8_addHost_29 ?_
    exact zV_iret O rfl ⟨_, rfl, hM⟩ (Nat.le_of_ble_eq_true rfl) (Nat.le_of_ble_eq_true rfl) dX8_addHost_30
  · replace hM := hM.2 hc
    refine zV_aload_n O dX8_addHost_17 rfl rfl ?_
    refine zV_iload_n O dX8_addHost_18 rfl rfl ?_
    refine zV_callS (as := [aI x2]) (st := [aR 185]) O zc_X8_isNumber (Or.inl zl_RX8_303) zi_1604 (Nat.le_of_ble_eq_true rfl) rfl rfl (Nat.le_of_ble_eq_true rfl) (Nat.le_of_ble_eq_true rfl) (Nat.le_of_ble_eq_true rfl) (Nat.le_of_ble_eq_true rfl) (Nat.le_of_ble_eq_true rfl) (Nat.le_of_ble_eq_true rfl) dX8_addHost_19 (sX8_isNumber hM) (fun r h9 hq => ?_) (fun x h9 hq => hq.elim)
    obtain ⟨rfl, z42, rfl, hzz42, hM⟩ := hq
    refine zV_iconst (z := 2) O ⟨by omega, by omega⟩ dX8_addHost_22 ?_
    refine zV_callV (as := [aI z42, aI 2]) (st := []) O zc_X8_fails (Or.inl zl_RX8_201) zi_1420 zi_93 zt_185 rfl rfl (by decide) (Nat.le_of_ble_eq_true rfl) rfl rfl (Nat.le_of_ble_eq_true rfl) (Nat.le_of_ble_eq_true rfl) (Nat.le_of_ble_eq_true rfl) (Nat.le_of_ble_eq_true rfl) (Nat.le_of_ble_eq_true rfl) (Nat.le_of_ble_eq_true rfl) dX8_addHost_23 (sX8_fails hM) (fun r h44 hq => ?_) (fun x h9 hq => hq.elim)
    obtain ⟨z43, rfl, hzz43, hM⟩ := hq
    refine zV_if_eq (tgt := 31) O dX8_addHost_26 (by decide) (fun hc => ?_) (fun hc => ?_)
    · replace hM := hM.1 hc
      refine zV_aload_n O dX8_addHost_31 rfl rfl ?_
      refine zV_getR O zf_RX8_13 zt_185 rfl (by decide) dX8_addHost_32 ?_
      refine zV_iconst (z := 0) O ⟨by omega, by omega⟩ dX8_addHost_35 ?_
      obtain ⟨hc, hM⟩ := hM
      refine zV_iald O zt_186 (by decide) hc dX8_addHost_36 ?_
      refine zV_istore_n O dX8_addHost_37 rfl (Nat.le_of_ble_eq_true rfl) rfl ?_
      refine zV_iload_n O dX8_addHost_38 rfl rfl ?_
      refine zV_bipush (z := 40) O ⟨by omega, by omega⟩ rfl dX8_addHost_39 ?_
      refine zV_icmp_ne (tgt := 47) O dX8_addHost_41 (by decide) (fun hc => ?_) (fun hc => ?_)
      · replace hM := hM.1 hc
        refine zV_aload_n O dX8_addHost_47 rfl rfl ?_
        refine zV_iload_n O dX8_addHost_48 rfl rfl ?_
        refine zV_iload_n O dX8_addHost_49 rfl rfl ?_
        refine zV_callV (as := [aI x1, aI x2]) (st := []) O zc_X8_isHeldIn (Or.inl zl_RX8_332) zi_1748 zi_146 zt_185 rfl rfl (by decide) (Nat.le_of_ble_eq_true rfl) rfl rfl (Nat.le_of_ble_eq_true rfl) (Nat.le_of_ble_eq_true rfl) (Nat.le_of_ble_eq_true rfl) (Nat.le_of_ble_eq_true rfl) (Nat.le_of_ble_eq_true rfl) (Nat.le_of_ble_eq_true rfl) dX8_addHost_50 (sX8_isHeldIn hM) (fun r h9 hq => ?_) (fun x h9 hq => hq.elim)
        obtain ⟨rfl, z45, rfl, hzz45, hM⟩ := hq
        refine zV_if_eq (tgt := 59) O dX8_addHost_53 (by decide) (fun hc => ?_) (fun hc => ?_)
        · replace hM := hM.1 hc
          refine zV_aload_n O dX8_addHost_59 rfl rfl ?_
          refine zV_aload_n O dX8_addHost_60 rfl rfl ?_
          refine zV_getR O zf_RX8_13 zt_185 rfl (by decide) dX8_addHost_61 ?_
          refine zV_callV (as := [aR 186]) (st := []) O zc_X8_keeps (Or.inl zl_RX8_335) zi_1752 zi_147 zt_185 rfl rfl (by decide) (Nat.le_of_ble_eq_true rfl) rfl rfl (Nat.le_of_ble_eq_true rfl) (Nat.le_of_ble_eq_true rfl) (Nat.le_of_ble_eq_true rfl) (Nat.le_of_ble_eq_true rfl) (Nat.le_of_ble_eq_true rfl) (Nat.le_of_ble_eq_true rfl) dX8_addHost_64 (sX8_keeps zt_186 (by decide) ⟨by decide, by decide⟩ hM) (fun r h46 hq => ?_) (fun x h9 hq => hq.elim)
          obtain ⟨rfl, hM⟩ := hq
          refine zV_iconst (z := 0) O ⟨by omega, by omega⟩ dX8_addHost_67 ?_
          refine zV_istore O dX8_addHost_68 (Nat.le_of_ble_eq_true rfl) rfl ?_
          obtain ⟨ff, hM⟩ := hM
          exact sX8_addHost_b70 O ff _ _ _ _ _ hM
        · replace hM := hM.2 hc
          refine zV_bipush (z := -3) O ⟨by omega, by omega⟩ rfl dX8_addHost_56 ?_
          exact zV_iret O rfl ⟨_, rfl, hM⟩ (Nat.le_of_ble_eq_true rfl) (Nat.le_of_ble_eq_true rfl) dX8_addHost_58
      · replace hM := hM.2 hc
        refine zV_bipush (z := -2) O ⟨by omega, by omega⟩ rfl dX8_addHost_44 ?_
        exact zV_iret O rfl ⟨_, rfl, hM⟩ (Nat.le_of_ble_eq_true rfl) (Nat.le_of_ble_eq_true rfl) dX8_addHost_46
    · replace hM := hM.2 hc
      refine zV_iconst (z := 0) O ⟨by omega, by omega⟩ dX8_addHost_29 ?_
      exact zV_iret O rfl ⟨_, rfl, hM⟩ (Nat.le_of_ble_eq_true rfl) (Nat.le_of_ble_eq_true rfl) dX8_addHost_30
def mX8_back  (h : Hp) (Q : Int → Hp → Prop) : Prop := (∀ h7 : Hp, h7 = hu h 185 0 0 → (((0 : Int) ≤ 2 ∧ (2 : Int) < 1096) ∧ ((¬ (rd h7 186 2) = 0 → (mX8_laysAside h7 (fun h8 => (mX8_goesBack h8 (fun h9 => (mX8_twice h9 (fun z10 => ((z10 = ((-1) : Int) → (mX8_keeps 189 1096 h9 (fun h11 => (((0 : Int) ≤ 2 ∧ (2 : Int) < 1096) ∧ (Q (rd h11 186 2) h11))))) ∧ (¬ z10 = ((-1) : Int) → (mX8_laysBack h9 (fun h12 => (Q (-3) h12)))))))))))) ∧ ((rd h7 186 2) = 0 → (Q (-2) h7)))))
set_option maxHeartbeats 4000000 in
set_option maxRecDepth 100000 in
theorem sX8_back {l0 : Launch}  {h : Hp} {Q : Int → Hp → Prop}  (hM : mX8_back  h Q) : zSp l0 yX8_back cX8_back 1 (some .int) 197 (8) 0 0 [aR 185] h (qI Q) xN := by
  unfold mX8_back at hM
  refine zSp_intro zpn_RX8 (Nat.le_of_ble_eq_true rfl) (fun a O => ?_)
  show zV a (8, 0, 0, (qI Q), xN) 0 0 0 [some (aR 185)] [] h
  refine zV_aload_n O dX8_back_0 rfl rfl ?_
  refine zV_iconst (z := 0) O ⟨by omega, by omega⟩ dX8_back_1 ?_
  refine zV_putI O zf_RX8_1 zt_185 rfl (by decide) dX8_back_2 ?_
  have hM := hM _ rfl
  generalize hu h 185 0 0 = h7 at hM ⊢
  refine zV_aload_n O dX8_back_5 rfl rfl ?_
  refine zV_getR O zf_RX8_13 zt_185 rfl (by decide) dX8_back_6 ?_
  refine zV_iconst (z := 2) O ⟨by omega, by omega⟩ dX8_back_9 ?_
  obtain ⟨hc, hM⟩ := hM
  refine zV_iald O zt_186 (by decide) hc dX8_back_10 ?_
  refine zV_if_ne (tgt := 17) O dX8_back_11 (by decide) (fun hc => ?_) (fun hc => ?_)
  · replace hM := hM.1 hc
    refine zV_aload_n O dX8_back_17 rfl rfl ?_
    refine zV_callV (as := []) (st := []) O zc_X8_laysAside (Or.inl zl_RX8_323) zi_1680 zi_136 zt_185 rfl rfl (by decide) (Nat.le_of_ble_eq_true rfl) rfl rfl (Nat.le_of_ble_eq_true rfl) (Nat.le_of_ble_eq_true rfl) (Nat.le_of_ble_eq_true rfl) (Nat.le_of_ble_eq_true rfl) (Nat.le_of_ble_eq_true rfl) (Nat.le_of_ble_eq_true rfl) dX8_back_18 (sX8_laysAside hM) (fun r h8 hq => ?_) (fun x h9 hq => hq.elim)
    obtain ⟨rfl, hM⟩ := hq
    refine zV_aload_n O dX8_back_21 rfl rfl ?_
    refine zV_callV (as := []) (st := []) O zc_X8_goesBack (Or.inl zl_RX8_348) zi_1792 zi_151 zt_185 rfl rfl (by decide) (Nat.le_of_ble_eq_true rfl) rfl rfl (Nat.le_of_ble_eq_true rfl) (Nat.le_of_ble_eq_true rfl) (Nat.le_of_ble_eq_true rfl) (Nat.le_of_ble_eq_true rfl) (Nat.le_of_ble_eq_true rfl) (Nat.le_of_ble_eq_true rfl) dX8_back_22 (sX8_goesBack hM) (fun r h9 hq => ?_) (fun x h9 hq => hq.elim)
    obtain ⟨rfl, hM⟩ := hq
    refine zV_aload_n O dX8_back_25 rfl rfl ?_
    refine zV_callV (as := []) (st := []) O zc_X8_twice (Or.inl zl_RX8_270) zi_1712 zi_144 zt_185 rfl rfl (by decide) (Nat.le_of_ble_eq_true rfl) rfl rfl (Nat.le_of_ble_eq_true rfl) (Nat.le_of_ble_eq_true rfl) (Nat.le_of_ble_eq_true rfl) (Nat.le_of_ble_eq_true rfl) (Nat.le_of_ble_eq_true rfl) (Nat.le_of_ble_eq_true rfl) dX8_back_26 (sX8_twice hM) (fun r h9 hq => ?_) (fun x h9 hq => hq.elim)
    obtain ⟨rfl, z10, rfl, hM⟩ := hq
    refine zV_iconst (z := -1) O ⟨by omega, by omega⟩ dX8_back_29 ?_
    refine zV_icmp_eq (tgt := 40) O dX8_back_30 (by decide) (fun hc => ?_) (fun hc => ?_)
    · replace hM := hM.1 hc
      refine zV_aload_n O dX8_back_40 rfl rfl ?_
      refine zV_aload_n O dX8_back_41 rfl rfl ?_
      refine zV_getR O zf_RX8_23 zt_185 rfl (by decide) dX8_back_42 ?_
      refine zV_callV (as := [aR 189]) (st := []) O zc_X8_keeps (Or.inl zl_RX8_335) zi_1752 zi_147 zt_185 rfl rfl (by decide) (Nat.le_of_ble_eq_true rfl) rfl rfl (Nat.le_of_ble_eq_true rfl) (Nat.le_of_ble_eq_true rfl) (Nat.le_of_ble_eq_true rfl) (Nat.le_of_ble_eq_true rfl) (Nat.le_of_ble_eq_true rfl) (Nat.le_of_ble_eq_true rfl) dX8_back_45 (sX8_keeps zt_189 (by decide) ⟨by decide, by decide⟩ hM) (fun r h11 hq => ?_) (fun x h9 hq => hq.elim)
      obtain ⟨rfl, hM⟩ := hq
      refine zV_aload_n O dX8_back_48 rfl rfl ?_
      refine zV_getR O zf_RX8_13 zt_185 rfl (by decide) dX8_back_49 ?_
      refine zV_iconst (z := 2) O ⟨by omega, by omega⟩ dX8_back_52 ?_
      obtain ⟨hc, hM⟩ := hM
      refine zV_iald O zt_186 (by decide) hc dX8_back_53 ?_
      exact zV_iret O rfl ⟨_, rfl, hM⟩ (Nat.le_of_ble_eq_true rfl) (Nat.le_of_ble_eq_true rfl) dX8_back_54
    · replace hM := hM.2 hc
      refine zV_aload_n O dX8_back_33 rfl rfl ?_
      refine zV_callV (as := []) (st := []) O zc_X8_laysBack (Or.inl zl_RX8_329) zi_1716 zi_145 zt_185 rfl rfl (by decide) (Nat.le_of_ble_eq_true rfl) rfl rfl (Nat.le_of_ble_eq_true rfl) (Nat.le_of_ble_eq_true rfl) (Nat.le_of_ble_eq_true rfl) (Nat.le_of_ble_eq_true rfl) (Nat.le_of_ble_eq_true rfl) (Nat.le_of_ble_eq_true rfl) dX8_back_34 (sX8_laysBack hM) (fun r h12 hq => ?_) (fun x h9 hq => hq.elim)
      obtain ⟨rfl, hM⟩ := hq
      refine zV_bipush (z := -3) O ⟨by omega, by omega⟩ rfl dX8_back_37 ?_
      exact zV_iret O rfl ⟨_, rfl, hM⟩ (Nat.le_of_ble_eq_true rfl) (Nat.le_of_ble_eq_true rfl) dX8_back_39
  · replace hM := hM.2 hc
    refine zV_bipush (z := -2) O ⟨by omega, by omega⟩ rfl dX8_back_14 ?_
    exact zV_iret O rfl ⟨_, rfl, hM⟩ (Nat.le_of_ble_eq_true rfl) (Nat.le_of_ble_eq_true rfl) dX8_back_16
def mX8_conflict  (h : Hp) (Q : Int → Hp → Prop) : Prop := (∀ h6 : Hp, h6 = hu h 185 0 0 → (((0 : Int) ≤ 2 ∧ (2 : Int) < 1096) ∧ ((¬ (rd h6 186 2) = (9 : Int) → (mX8_laysAside h6 (fun h7 => (mX8_moves h7 (fun h8 => (mX8_twice h8 (fun z9 => (mX8_laysBack h8 (fun h10 => (Q z9 h10)))))))))) ∧ ((rd h6 186 2) = (9 : Int) → (Q (-1) h6)))))
set_option maxHeartbeats 4000000 in
set_option maxRecDepth 100000 in
theorem sX8_conflict {l0 : Launch}  {h : Hp} {Q : Int → Hp → Prop}  (hM : mX8_conflict  h Q) : zSp l0 yX8_conflict cX8_conflict 2 (some .int) 197 (8) 0 0 [aR 185] h (qI Q) xN := by
  unfold mX8_conflict at hM
  refine zSp_intro zpn_RX8 (Nat.le_of_ble_eq_true rfl) (fun a O => ?_)
  show zV a (8, 0, 0, (qI Q), xN) 0 0 0 [some (aR 185), none] [] h
  refine zV_aload_n O dX8_conflict_0 rfl rfl ?_
  refine zV_iconst (z := 0) O ⟨by omega, by omega⟩ dX8_conflict_1 ?_
  refine zV_putI O zf_RX8_1 zt_185 rfl (by decide) dX8_conflict_2 ?_
  have hM := hM _ rfl
  generalize hu h 185 0 0 = h6 at hM ⊢
  refine zV_aload_n O dX8_conflict_5 rfl rfl ?_
  refine zV_getR O zf_RX8_13 zt_185 rfl (by decide) dX8_conflict_6 ?_
  refine zV_iconst (z := 2) O ⟨by omega, by omega⟩ dX8_conflict_9 ?_
  obtain ⟨hc, hM⟩ := hM
  refine zV_iald O zt_186 (by decide) hc dX8_conflict_10 ?_
  refine zV_bipush (z := 9) O ⟨by omega, by omega⟩ rfl dX8_conflict_11 ?_
  refine zV_icmp_ne (tgt := 18) O dX8_conflict_13 (by decide) (fun hc => ?_) (fun hc => ?_)
  · replace hM := hM.1 hc
    refine zV_aload_n O dX8_conflict_18 rfl rfl ?_
    refine zV_callV (as := []) (st := []) O zc_X8_laysAside (Or.inl zl_RX8_323) zi_1680 zi_136 zt_185 rfl rfl (by decide) (Nat.le_of_ble_eq_true rfl) rfl rfl (Nat.le_of_ble_eq_true rfl) (Nat.le_of_ble_eq_true rfl) (Nat.le_of_ble_eq_true rfl) (Nat.le_of_ble_eq_true rfl) (Nat.le_of_ble_eq_true rfl) (Nat.le_of_ble_eq_true rfl) dX8_conflict_19 (sX8_laysAside hM) (fun r h7 hq => ?_) (fun x h9 hq => hq.elim)
    obtain ⟨rfl, hM⟩ := hq
    refine zV_aload_n O dX8_conflict_22 rfl rfl ?_
    refine zV_callV (as := []) (st := []) O zc_X8_moves (Or.inl zl_RX8_267) zi_1696 zi_140 zt_185 rfl rfl (by decide) (Nat.le_of_ble_eq_true rfl) rfl rfl (Nat.le_of_ble_eq_true rfl) (Nat.le_of_ble_eq_true rfl) (Nat.le_of_ble_eq_true rfl) (Nat.le_of_ble_eq_true rfl) (Nat.le_of_ble_eq_true rfl) (Nat.le_of_ble_eq_true rfl) dX8_conflict_23 (sX8_moves hM) (fun r h8 hq => ?_) (fun x h9 hq => hq.elim)
    obtain ⟨rfl, hM⟩ := hq
    refine zV_aload_n O dX8_conflict_26 rfl rfl ?_
    refine zV_callV (as := []) (st := []) O zc_X8_twice (Or.inl zl_RX8_270) zi_1712 zi_144 zt_185 rfl rfl (by decide) (Nat.le_of_ble_eq_true rfl) rfl rfl (Nat.le_of_ble_eq_true rfl) (Nat.le_of_ble_eq_true rfl) (Nat.le_of_ble_eq_true rfl) (Nat.le_of_ble_eq_true rfl) (Nat.le_of_ble_eq_true rfl) (Nat.le_of_ble_eq_true rfl) dX8_conflict_27 (sX8_twice hM) (fun r h9 hq => ?_) (fun x h9 hq => hq.elim)
    obtain ⟨rfl, z9, rfl, hM⟩ := hq
    refine zV_istore_n O dX8_conflict_30 rfl (Nat.le_of_ble_eq_true rfl) rfl ?_
    refine zV_aload_n O dX8_conflict_31 rfl rfl ?_
    refine zV_callV (as := []) (st := []) O zc_X8_laysBack (Or.inl zl_RX8_329) zi_1716 zi_145 zt_185 rfl rfl (by decide) (Nat.le_of_ble_eq_true rfl) rfl rfl (Nat.le_of_ble_eq_true rfl) (Nat.le_of_ble_eq_true rfl) (Nat.le_of_ble_eq_true rfl) (Nat.le_of_ble_eq_true rfl) (Nat.le_of_ble_eq_true rfl) (Nat.le_of_ble_eq_true rfl) dX8_conflict_32 (sX8_laysBack hM) (fun r h10 hq => ?_) (fun x h9 hq => hq.elim)
    obtain ⟨rfl, hM⟩ := hq
    refine zV_iload_n O dX8_conflict_35 rfl rfl ?_
    exact zV_iret O rfl ⟨_, rfl, hM⟩ (Nat.le_of_ble_eq_true rfl) (Nat.le_of_ble_eq_true rfl) dX8_conflict_36
  · replace hM := hM.2 hc
    refine zV_iconst (z := -1) O ⟨by omega, by omega⟩ dX8_conflict_16 ?_
    exact zV_iret O rfl ⟨_, rfl, hM⟩ (Nat.le_of_ble_eq_true rfl) (Nat.le_of_ble_eq_true rfl) dX8_conflict_17
def mX8_decidesOf_b85 (h : Hp) (Q : Int → Prop) (K3 : Int → Int → Int → Int → Prop) (v1 : Int) (v2 : Int) (v3 : Int) (v4 : Int) : Prop := (zr (v4 + 1) ∧ (K3 v1 v2 v3 (v4 + 1)))
set_option maxHeartbeats 4000000 in
set_option maxRecDepth 100000 in
theorem sX8_decidesOf_b85 {l0 : Launch} {a : ZC}  {h : Hp} {Q : Int → Prop} {K3 : Int → Int → Int → Int → Prop} (O : zOk l0 a cX8_decidesOf RX8 5 (some .int) 197 [])  (hK3 : ∀ (v1 : Int) (v2 : Int) (v3 : Int) (v4 : Int), K3 v1 v2 v3 v4 → zV a (8, 0, 0, (qPI h Q), xN) 0 0 3 [some (aR 185), some (aI v1), some (aI v2), some (aI v3), some (aI v4)] [] h) {v1 : Int} {v2 : Int} {v3 : Int} {v4 : Int}   (hM : mX8_decidesOf_b85 h Q K3 v1 v2 v3 v4) : zV a (8, 0, 0, (qPI h Q), xN) 0 0 85 [some (aR 185), some (aI v1), some (aI v2), some (aI v3), some (aI v4)] [] h := by
  unfold mX8_decidesOf_b85 at hM
  obtain ⟨hc, hM⟩ := hM
  refine zV_iinc O dX8_decidesOf_85 rfl (Nat.le_of_ble_eq_true rfl) rfl hc ?_
  refine zV_goto (tgt := 3) O dX8_decidesOf_88 (by decide) ?_
  exact hK3 _ _ _ _ hM
def mX8_decidesOf_b42 (h : Hp) (Q : Int → Prop) (K3 : Int → Int → Int → Int → Prop) (v1 : Int) (v2 : Int) (v3 : Int) (v4 : Int) : Prop := (mX8_ruleCell v4 2 h (fun z16 => (((0 : Int) ≤ z16 ∧ z16 < 1096) ∧ (mX8_matches (rd h 186 z16) v2 v1 h (fun z17 => ((z17 = 0 → (mX8_decidesOf_b85 h Q K3 v1 v2 v3 v4)) ∧ (¬ z17 = 0 → (mX8_ruleCell v4 3 h (fun z18 => (((0 : Int) ≤ z18 ∧ z18 < 1096) ∧ (mX8_matches (rd h 186 z18) v3 v1 h (fun z19 => ((z19 = 0 → (mX8_decidesOf_b85 h Q K3 v1 v2 v3 v4)) ∧ (¬ z19 = 0 → (Q v4)))))))))))))))
set_option maxHeartbeats 4000000 in
set_option maxRecDepth 100000 in
theorem sX8_decidesOf_b42 {l0 : Launch} {a : ZC}  {h : Hp} {Q : Int → Prop} {K3 : Int → Int → Int → Int → Prop} (O : zOk l0 a cX8_decidesOf RX8 5 (some .int) 197 [])  (hK3 : ∀ (v1 : Int) (v2 : Int) (v3 : Int) (v4 : Int), K3 v1 v2 v3 v4 → zV a (8, 0, 0, (qPI h Q), xN) 0 0 3 [some (aR 185), some (aI v1), some (aI v2), some (aI v3), some (aI v4)] [] h) {v1 : Int} {v2 : Int} {v3 : Int} {v4 : Int}   (hM : mX8_decidesOf_b42 h Q K3 v1 v2 v3 v4) : zV a (8, 0, 0, (qPI h Q), xN) 0 0 42 [some (aR 185), some (aI v1), some (aI v2), some (aI v3), some (aI v4)] [] h := by
  unfold mX8_decidesOf_b42 at hM
  refine zV_aload_n O dX8_decidesOf_42 rfl rfl ?_
  refine zV_aload_n O dX8_decidesOf_43 rfl rfl ?_
  refine zV_getR O zf_RX8_13 zt_185 rfl (by decide) dX8_decidesOf_44 ?_
  refine zV_iload O dX8_decidesOf_47 rfl ?_
  refine zV_iconst (z := 2) O ⟨by omega, by omega⟩ dX8_decidesOf_49 ?_
  refine zV_callS (as := [aI v4, aI 2]) (st := [aR 186, aR 185]) O zc_X8_ruleCell (Or.inl zl_RX8_167) zi_1519 (Nat.le_of_ble_eq_true rfl) rfl rfl (Nat.le_of_ble_eq_true rfl) (Nat.le_of_ble_eq_true rfl) (Nat.le_of_ble_eq_true rfl) (Nat.le_of_ble_eq_true rfl) (Nat.le_of_ble_eq_true rfl) (Nat.le_of_ble_eq_true rfl) dX8_decidesOf_50 (sX8_ruleCell hM) (fun r h9 hq => ?_) (fun x h9 hq => hq.elim)
  obtain ⟨rfl, z16, rfl, hM⟩ := hq
  obtain ⟨hc, hM⟩ := hM
  refine zV_iald O zt_186 (by decide) hc dX8_decidesOf_53 ?_
  refine zV_iload_n O dX8_decidesOf_54 rfl rfl ?_
  refine zV_iload_n O dX8_decidesOf_55 rfl rfl ?_
  refine zV_callV (as := [aI (rd h 186 z16), aI v2, aI v1]) (st := []) O zc_X8_matches (Or.inl zl_RX8_273) zi_1636 zi_129 zt_185 rfl rfl (by decide) (Nat.le_of_ble_eq_true rfl) rfl rfl (Nat.le_of_ble_eq_true rfl) (Nat.le_of_ble_eq_true rfl) (Nat.le_of_ble_eq_true rfl) (Nat.le_of_ble_eq_true rfl) (Nat.le_of_ble_eq_true rfl) (Nat.le_of_ble_eq_true rfl) dX8_decidesOf_56 (sX8_matches hM) (fun r h9 hq => ?_) (fun x h9 hq => hq.elim)
  obtain ⟨rfl, z17, rfl, hzz17, hM⟩ := hq
  refine zV_if_eq (tgt := 85) O dX8_decidesOf_59 (by decide) (fun hc => ?_) (fun hc => ?_)
  · replace hM := hM.1 hc
    exact sX8_decidesOf_b85 O hK3 hM
  · replace hM := hM.2 hc
    refine zV_aload_n O dX8_decidesOf_62 rfl rfl ?_
    refine zV_aload_n O dX8_decidesOf_63 rfl rfl ?_
    refine zV_getR O zf_RX8_13 zt_185 rfl (by decide) dX8_decidesOf_64 ?_
    refine zV_iload O dX8_decidesOf_67 rfl ?_
    refine zV_iconst (z := 3) O ⟨by omega, by omega⟩ dX8_decidesOf_69 ?_
    refine zV_callS (as := [aI v4, aI 3]) (st := [aR 186, aR 185]) O zc_X8_ruleCell (Or.inl zl_RX8_167) zi_1519 (Nat.le_of_ble_eq_true rfl) rfl rfl (Nat.le_of_ble_eq_true rfl) (Nat.le_of_ble_eq_true rfl) (Nat.le_of_ble_eq_true rfl) (Nat.le_of_ble_eq_true rfl) (Nat.le_of_ble_eq_true rfl) (Nat.le_of_ble_eq_true rfl) dX8_decidesOf_70 (sX8_ruleCell hM) (fun r h9 hq => ?_) (fun x h9 hq => hq.elim)
    obtain ⟨rfl, z18, rfl, hM⟩ := hq
    obtain ⟨hc, hM⟩ := hM
    refine zV_iald O zt_186 (by decide) hc dX8_decidesOf_73 ?_
    refine zV_iload_n O dX8_decidesOf_74 rfl rfl ?_
    refine zV_iload_n O dX8_decidesOf_75 rfl rfl ?_
    refine zV_callV (as := [aI (rd h 186 z18), aI v3, aI v1]) (st := []) O zc_X8_matches (Or.inl zl_RX8_273) zi_1636 zi_129 zt_185 rfl rfl (by decide) (Nat.le_of_ble_eq_true rfl) rfl rfl (Nat.le_of_ble_eq_true rfl) (Nat.le_of_ble_eq_true rfl) (Nat.le_of_ble_eq_true rfl) (Nat.le_of_ble_eq_true rfl) (Nat.le_of_ble_eq_true rfl) (Nat.le_of_ble_eq_true rfl) dX8_decidesOf_76 (sX8_matches hM) (fun r h9 hq => ?_) (fun x h9 hq => hq.elim)
    obtain ⟨rfl, z19, rfl, hzz19, hM⟩ := hq
    refine zV_if_eq (tgt := 85) O dX8_decidesOf_79 (by decide) (fun hc => ?_) (fun hc => ?_)
    · replace hM := hM.1 hc
      exact sX8_decidesOf_b85 O hK3 hM
    · replace hM := hM.2 hc
      refine zV_iload O dX8_decidesOf_82 rfl ?_
      exact zV_iret O rfl ⟨rfl, _, rfl, hM⟩ (Nat.le_of_ble_eq_true rfl) (Nat.le_of_ble_eq_true rfl) dX8_decidesOf_84
def mX8_decidesOf_b3 (h : Hp) (Q : Int → Prop) : Nat → Int → Int → Int → Int → Prop
  | 0 => fun _ _ _ _ => False
  | fu3 + 1 => fun v1 v2 v3 v4 => (((0 : Int) ≤ 1 ∧ (1 : Int) < 1096) ∧ (((rd h 186 1) ≤ v4 → (Q (-1))) ∧ (¬ (rd h 186 1) ≤ v4 → (((0 : Int) ≤ 7 ∧ (7 : Int) < 1096) ∧ ((¬ (rd h 186 7) = 0 → (mX8_decidesOf_b42 h Q (mX8_decidesOf_b3 h Q fu3) v1 v2 v3 v4)) ∧ ((rd h 186 7) = 0 → (mX8_ruleCell v4 0 h (fun z20 => (((0 : Int) ≤ z20 ∧ z20 < 1096) ∧ (((rd h 186 z20) = v1 → (mX8_decidesOf_b42 h Q (mX8_decidesOf_b3 h Q fu3) v1 v2 v3 v4)) ∧ (¬ (rd h 186 z20) = v1 → (mX8_decidesOf_b85 h Q (mX8_decidesOf_b3 h Q fu3) v1 v2 v3 v4))))))))))))
set_option maxHeartbeats 4000000 in
set_option maxRecDepth 100000 in
theorem sX8_decidesOf_b3 {l0 : Launch} {a : ZC}  {h : Hp} {Q : Int → Prop}  (O : zOk l0 a cX8_decidesOf RX8 5 (some .int) 197 [])   : ∀ (ff : Nat) (v1 : Int) (v2 : Int) (v3 : Int) (v4 : Int) , mX8_decidesOf_b3 h Q ff v1 v2 v3 v4 → zV a (8, 0, 0, (qPI h Q), xN) 0 0 3 [some (aR 185), some (aI v1), some (aI v2), some (aI v3), some (aI v4)] [] h := by
  intro ff
  induction ff with
  | zero => intro v1 v2 v3 v4 hM; exact hM.elim
  | succ ff ih =>
    have hK3 := ih
    intro v1 v2 v3 v4 hM
    unfold mX8_decidesOf_b3 at hM
    refine zV_iload O dX8_decidesOf_3 rfl ?_
    refine zV_aload_n O dX8_decidesOf_5 rfl rfl ?_
    refine zV_getR O zf_RX8_13 zt_185 rfl (by decide) dX8_decidesOf_6 ?_
    refine zV_iconst (z := 1) O ⟨by omega, by omega⟩ dX8_decidesOf_9 ?_
    obtain ⟨hc, hM⟩ := hM
    refine zV_iald O zt_186 (by decide) hc dX8_decidesOf_10 ?_
    refine zV_icmp_ge (tgt := 91) O dX8_decidesOf_11 (by decide) (fun hc => ?_) (fun hc => ?_)
    · replace hM := hM.1 hc
      refine zV_iconst (z := -1) O ⟨by omega, by omega⟩ dX8_decidesOf_91 ?_
      exact zV_iret O rfl ⟨rfl, _, rfl, hM⟩ (Nat.le_of_ble_eq_true rfl) (Nat.le_of_ble_eq_true rfl) dX8_decidesOf_92
    · replace hM := hM.2 hc
      refine zV_aload_n O dX8_decidesOf_14 rfl rfl ?_
      refine zV_getR O zf_RX8_13 zt_185 rfl (by decide) dX8_decidesOf_15 ?_
      refine zV_bipush (z := 7) O ⟨by omega, by omega⟩ rfl dX8_decidesOf_18 ?_
      obtain ⟨hc, hM⟩ := hM
      refine zV_iald O zt_186 (by decide) hc dX8_decidesOf_20 ?_
      refine zV_if_ne (tgt := 42) O dX8_decidesOf_21 (by decide) (fun hc => ?_) (fun hc => ?_)
      · replace hM := hM.1 hc
        exact sX8_decidesOf_b42 O hK3 hM
      · replace hM := hM.2 hc
        refine zV_aload_n O dX8_decidesOf_24 rfl rfl ?_
        refine zV_getR O zf_RX8_13 zt_185 rfl (by decide) dX8_decidesOf_25 ?_
        refine zV_iload O dX8_decidesOf_28 rfl ?_
        refine zV_iconst (z := 0) O ⟨by omega, by omega⟩ dX8_decidesOf_30 ?_
        refine zV_callS (as := [aI v4, aI 0]) (st := [aR 186]) O zc_X8_ruleCell (Or.inl zl_RX8_167) zi_1519 (Nat.le_of_ble_eq_true rfl) rfl rfl (Nat.le_of_ble_eq_true rfl) (Nat.le_of_ble_eq_true rfl) (Nat.le_of_ble_eq_true rfl) (Nat.le_of_ble_eq_true rfl) (Nat.le_of_ble_eq_true rfl) (Nat.le_of_ble_eq_true rfl) dX8_decidesOf_31 (sX8_ruleCell hM) (fun r h9 hq => ?_) (fun x h9 hq => hq.elim)
        obtain ⟨rfl, z20, rfl, hM⟩ := hq
        obtain ⟨hc, hM⟩ := hM
        refine zV_iald O zt_186 (by decide) hc dX8_decidesOf_34 ?_
        refine zV_iload_n O dX8_decidesOf_35 rfl rfl ?_
        refine zV_icmp_eq (tgt := 42) O dX8_decidesOf_36 (by decide) (fun hc => ?_) (fun hc => ?_)
        · replace hM := hM.1 hc
          exact sX8_decidesOf_b42 O hK3 hM
        · replace hM := hM.2 hc
          refine zV_goto (tgt := 85) O dX8_decidesOf_39 (by decide) ?_
          exact sX8_decidesOf_b85 O hK3 hM
def mX8_decidesOf (x1 : Int) (x2 : Int) (x3 : Int) (h : Hp) (Q : Int → Prop) : Prop := (∃ ff, mX8_decidesOf_b3 h Q ff x1 x2 x3 0)
set_option maxHeartbeats 4000000 in
set_option maxRecDepth 100000 in
theorem sX8_decidesOf {l0 : Launch} {x1 : Int} {x2 : Int} {x3 : Int} {h : Hp} {Q : Int → Prop}  (hM : mX8_decidesOf x1 x2 x3 h Q) : zSp l0 yX8_decidesOf cX8_decidesOf 5 (some .int) 197 (8) 0 0 [aR 185, aI x1, aI x2, aI x3] h (qPI h Q) xN := by
  unfold mX8_decidesOf at hM
  refine zSp_intro zpn_RX8 (Nat.le_of_ble_eq_true rfl) (fun a O => ?_)
  show zV a (8, 0, 0, (qPI h Q), xN) 0 0 0 [some (aR 185), some (aI x1), some (aI x2), some (aI x3), none] [] h
  refine zV_iconst (z := 0) O ⟨by omega, by omega⟩ dX8_decidesOf_0 ?_
  refine zV_istore O dX8_decidesOf_1 (Nat.le_of_ble_eq_true rfl) rfl ?_
  obtain ⟨ff, hM⟩ := hM
  exact sX8_decidesOf_b3 O ff _ _ _ _ hM
def mX8_firstFree_b7 (h : Hp) (Q : Int → Prop) : Nat → Int → Prop
  | 0 => fun _ => False
  | fu7 + 1 => fun v1 => (((0 : Int) ≤ 6 ∧ (6 : Int) < 1096) ∧ (((rd h 186 6) < v1 → (Q (-1))) ∧ (¬ (rd h 186 6) < v1 → (mX8_isFree v1 h (fun z3 => ((z3 = 0 → (zr (v1 + 1) ∧ ((mX8_firstFree_b7 h Q fu7) (v1 + 1)))) ∧ (¬ z3 = 0 → (Q v1))))))))
set_option maxHeartbeats 4000000 in
set_option maxRecDepth 100000 in
theorem sX8_firstFree_b7 {l0 : Launch} {a : ZC}  {h : Hp} {Q : Int → Prop}  (O : zOk l0 a cX8_firstFree RX8 2 (some .int) 197 [])   : ∀ (ff : Nat) (v1 : Int) , mX8_firstFree_b7 h Q ff v1 → zV a (8, 0, 0, (qPI h Q), xN) 0 0 7 [some (aR 185), some (aI v1)] [] h := by
  intro ff
  induction ff with
  | zero => intro v1 hM; exact hM.elim
  | succ ff ih =>
    have hK7 := ih
    intro v1 hM
    unfold mX8_firstFree_b7 at hM
    refine zV_iload_n O dX8_firstFree_7 rfl rfl ?_
    refine zV_aload_n O dX8_firstFree_8 rfl rfl ?_
    refine zV_getR O zf_RX8_13 zt_185 rfl (by decide) dX8_firstFree_9 ?_
    refine zV_bipush (z := 6) O ⟨by omega, by omega⟩ rfl dX8_firstFree_12 ?_
    obtain ⟨hc, hM⟩ := hM
    refine zV_iald O zt_186 (by decide) hc dX8_firstFree_14 ?_
    refine zV_icmp_gt (tgt := 34) O dX8_firstFree_15 (by decide) (fun hc => ?_) (fun hc => ?_)
    · replace hM := hM.1 hc
      refine zV_iconst (z := -1) O ⟨by omega, by omega⟩ dX8_firstFree_34 ?_
      exact zV_iret O rfl ⟨rfl, _, rfl, hM⟩ (Nat.le_of_ble_eq_true rfl) (Nat.le_of_ble_eq_true rfl) dX8_firstFree_35
    · replace hM := hM.2 hc
      refine zV_aload_n O dX8_firstFree_18 rfl rfl ?_
      refine zV_iload_n O dX8_firstFree_19 rfl rfl ?_
      refine zV_callV (as := [aI v1]) (st := []) O zc_X8_isFree (Or.inl zl_RX8_317) zi_1672 zi_135 zt_185 rfl rfl (by decide) (Nat.le_of_ble_eq_true rfl) rfl rfl (Nat.le_of_ble_eq_true rfl) (Nat.le_of_ble_eq_true rfl) (Nat.le_of_ble_eq_true rfl) (Nat.le_of_ble_eq_true rfl) (Nat.le_of_ble_eq_true rfl) (Nat.le_of_ble_eq_true rfl) dX8_firstFree_20 (sX8_isFree hM) (fun r h9 hq => ?_) (fun x h9 hq => hq.elim)
      obtain ⟨rfl, z3, rfl, hzz3, hM⟩ := hq
      refine zV_if_eq (tgt := 28) O dX8_firstFree_23 (by decide) (fun hc => ?_) (fun hc => ?_)
      · replace hM := hM.1 hc
        obtain ⟨hc, hM⟩ := hM
        refine zV_iinc O dX8_firstFree_28 rfl (Nat.le_of_ble_eq_true rfl) rfl hc ?_
        refine zV_goto (tgt := 7) O dX8_firstFree_31 (by decide) ?_
        exact hK7 _ hM
      · replace hM := hM.2 hc
        refine zV_iload_n O dX8_firstFree_26 rfl rfl ?_
        exact zV_iret O rfl ⟨rfl, _, rfl, hM⟩ (Nat.le_of_ble_eq_true rfl) (Nat.le_of_ble_eq_true rfl) dX8_firstFree_27
def mX8_firstFree  (h : Hp) (Q : Int → Prop) : Prop := (((0 : Int) ≤ 5 ∧ (5 : Int) < 1096) ∧ (∃ ff, mX8_firstFree_b7 h Q ff (rd h 186 5)))
set_option maxHeartbeats 4000000 in
set_option maxRecDepth 100000 in
theorem sX8_firstFree {l0 : Launch}  {h : Hp} {Q : Int → Prop}  (hM : mX8_firstFree  h Q) : zSp l0 yX8_firstFree cX8_firstFree 2 (some .int) 197 (8) 0 0 [aR 185] h (qPI h Q) xN := by
  unfold mX8_firstFree at hM
  refine zSp_intro zpn_RX8 (Nat.le_of_ble_eq_true rfl) (fun a O => ?_)
  show zV a (8, 0, 0, (qPI h Q), xN) 0 0 0 [some (aR 185), none] [] h
  refine zV_aload_n O dX8_firstFree_0 rfl rfl ?_
  refine zV_getR O zf_RX8_13 zt_185 rfl (by decide) dX8_firstFree_1 ?_
  refine zV_iconst (z := 5) O ⟨by omega, by omega⟩ dX8_firstFree_4 ?_
  obtain ⟨hc, hM⟩ := hM
  refine zV_iald O zt_186 (by decide) hc dX8_firstFree_5 ?_
  refine zV_istore_n O dX8_firstFree_6 rfl (Nat.le_of_ble_eq_true rfl) rfl ?_
  obtain ⟨ff, hM⟩ := hM
  exact sX8_firstFree_b7 O ff _ hM
def mX8_holder (x1 : Int) (x2 : Int) (h : Hp) (Q : Int → Hp → Prop) : Prop := (∀ h9 : Hp, h9 = hu h 185 0 0 → (mX8_isOffice x1 h9 (fun z10 => (mX8_fails z10 1 h9 (fun z11 h12 => ((¬ z11 = 0 → (Q 0 h12)) ∧ (z11 = 0 → (mX8_isNumber x2 h12 (fun z13 => (mX8_fails z13 2 h12 (fun z14 h15 => ((z14 = 0 → (mX8_holderOf x1 x2 h15 (fun z16 => (Q z16 h15)))) ∧ (¬ z14 = 0 → (Q 0 h15))))))))))))))
set_option maxHeartbeats 4000000 in
set_option maxRecDepth 100000 in
theorem sX8_holder {l0 : Launch} {x1 : Int} {x2 : Int} {h : Hp} {Q : Int → Hp → Prop}  (hM : mX8_holder x1 x2 h Q) : zSp l0 yX8_holder cX8_holder 3 (some .int) 197 (8) 0 0 [aR 185, aI x1, aI x2] h (qI Q) xN := by
  unfold mX8_holder at hM
  refine zSp_intro zpn_RX8 (Nat.le_of_ble_eq_true rfl) (fun a O => ?_)
  show zV a (8, 0, 0, (qI Q), xN) 0 0 0 [some (aR 185), some (aI x1), some (aI x2)] [] h
  refine zV_aload_n O dX8_holder_0 rfl rfl ?_
  refine zV_iconst (z := 0) O ⟨by omega, by omega⟩ dX8_holder_1 ?_
  refine zV_putI O zf_RX8_1 zt_185 rfl (by decide) dX8_holder_2 ?_
  have hM := hM _ rfl
  generalize hu h 185 0 0 = h9 at hM ⊢
  refine zV_aload_n O dX8_holder_5 rfl rfl ?_
  refine zV_iload_n O dX8_holder_6 rfl rfl ?_
  refine zV_callS (as := [aI x1]) (st := [aR 185]) O zc_X8_isOffice (Or.inl zl_RX8_300) zi_1601 (Nat.le_of_ble_eq_true rfl) rfl rfl (Nat.le_of_ble_eq_true rfl) (Nat.le_of_ble_eq_true rfl) (Nat.le_of_ble_eq_true rfl) (Nat.le_of_ble_eq_true rfl) (Nat.le_of_ble_eq_true rfl) (Nat.le_of_ble_eq_true rfl) dX8_holder_7 (sX8_isOffice hM) (fun r h9 hq => ?_) (fun x h9 hq => hq.elim)
  obtain ⟨rfl, z10, rfl, hzz10, hM⟩ := hq
  refine zV_iconst (z := 1) O ⟨by omega, by omega⟩ dX8_holder_10 ?_
  refine zV_callV (as := [aI z10, aI 1]) (st := []) O zc_X8_fails (Or.inl zl_RX8_201) zi_1420 zi_93 zt_185 rfl rfl (by decide) (Nat.le_of_ble_eq_true rfl) rfl rfl (Nat.le_of_ble_eq_true rfl) (Nat.le_of_ble_eq_true rfl) (Nat.le_of_ble_eq_true rfl) (Nat.le_of_ble_eq_true rfl) (Nat.le_of_ble_eq_true rfl) (Nat.le_of_ble_eq_true rfl) dX8_holder_11 (sX8_fails hM) (fun r h12 hq => ?_) (fun x h9 hq => hq.elim)
  obtain ⟨z11, rfl, hzz11, hM⟩ := hq
  refine zV_if_ne (tgt := 29) O dX8_holder_14 (by decide) (fun hc => ?_) (fun hc => ?_)
  · replace hM := hM.1 hc
    refine zV_iconst (z := 0) O ⟨by omega, by omega⟩ dX8_holder_29 ?_
    refine zV_goto (tgt := 39) O dX8_holder_30 (by decide) ?_
    exact zV_iret O rfl ⟨_, rfl, hM⟩ (Nat.le_of_ble_eq_true rfl) (Nat.le_of_ble_eq_true rfl) dX8_holder_39
  · replace hM := hM.2 hc
    refine zV_aload_n O dX8_holder_17 rfl rfl ?_
    refine zV_iload_n O dX8_holder_18 rfl rfl ?_
    refine zV_callS (as := [aI x2]) (st := [aR 185]) O zc_X8_isNumber (Or.inl zl_RX8_303) zi_1604 (Nat.le_of_ble_eq_true rfl) rfl rfl (Nat.le_of_ble_eq_true rfl) (Nat.le_of_ble_eq_true rfl) (Nat.le_of_ble_eq_true rfl) (Nat.le_of_ble_eq_true rfl) (Nat.le_of_ble_eq_true rfl) (Nat.le_of_ble_eq_true rfl) dX8_holder_19 (sX8_isNumber hM) (fun r h9 hq => ?_) (fun x h9 hq => hq.elim)
    obtain ⟨rfl, z13, rfl, hzz13, hM⟩ := hq
    refine zV_iconst (z := 2) O ⟨by omega, by omega⟩ dX8_holder_22 ?_
    refine zV_callV (as := [aI z13, aI 2]) (st := []) O zc_X8_fails (Or.inl zl_RX8_201) zi_1420 zi_93 zt_185 rfl rfl (by decide) (Nat.le_of_ble_eq_true rfl) rfl rfl (Nat.le_of_ble_eq_true rfl) (Nat.le_of_ble_eq_true rfl) (Nat.le_of_ble_eq_true rfl) (Nat.le_of_ble_eq_true rfl) (Nat.le_of_ble_eq_true rfl) (Nat.le_of_ble_eq_true rfl) dX8_holder_23 (sX8_fails hM) (fun r h15 hq => ?_) (fun x h9 hq => hq.elim)
    obtain ⟨z14, rfl, hzz14, hM⟩ := hq
    refine zV_if_eq (tgt := 33) O dX8_holder_26 (by decide) (fun hc => ?_) (fun hc => ?_)
    · replace hM := hM.1 hc
      refine zV_aload_n O dX8_holder_33 rfl rfl ?_
      refine zV_iload_n O dX8_holder_34 rfl rfl ?_
      refine zV_iload_n O dX8_holder_35 rfl rfl ?_
      refine zV_callV (as := [aI x1, aI x2]) (st := []) O zc_X8_holderOf (Or.inl zl_RX8_236) zi_1561 zi_120 zt_185 rfl rfl (by decide) (Nat.le_of_ble_eq_true rfl) rfl rfl (Nat.le_of_ble_eq_true rfl) (Nat.le_of_ble_eq_true rfl) (Nat.le_of_ble_eq_true rfl) (Nat.le_of_ble_eq_true rfl) (Nat.le_of_ble_eq_true rfl) (Nat.le_of_ble_eq_true rfl) dX8_holder_36 (sX8_holderOf hM) (fun r h9 hq => ?_) (fun x h9 hq => hq.elim)
      obtain ⟨rfl, z16, rfl, hM⟩ := hq
      exact zV_iret O rfl ⟨_, rfl, hM⟩ (Nat.le_of_ble_eq_true rfl) (Nat.le_of_ble_eq_true rfl) dX8_holder_39
    · replace hM := hM.2 hc
      refine zV_iconst (z := 0) O ⟨by omega, by omega⟩ dX8_holder_29 ?_
      refine zV_goto (tgt := 39) O dX8_holder_30 (by decide) ?_
      exact zV_iret O rfl ⟨_, rfl, hM⟩ (Nat.le_of_ble_eq_true rfl) (Nat.le_of_ble_eq_true rfl) dX8_holder_39
def mX8_isClash (x1 : Int) (h : Hp) (Q : Int → Prop) : Prop := (mX8_holderOf 0 x1 h (fun z3 => ((z3 = ((-1) : Int) → (Q 0)) ∧ (¬ z3 = ((-1) : Int) → (mX8_holderOf 1 x1 h (fun z4 => ((z4 = ((-1) : Int) → (Q 0)) ∧ (¬ z4 = ((-1) : Int) → (Q 1)))))))))
set_option maxHeartbeats 4000000 in
set_option maxRecDepth 100000 in
theorem sX8_isClash {l0 : Launch} {x1 : Int} {h : Hp} {Q : Int → Prop}  (hM : mX8_isClash x1 h Q) : zSp l0 yX8_isClash cX8_isClash 2 (some .boolean) 197 (8) 0 0 [aR 185, aI x1] h (qPZ h Q) xN := by
  unfold mX8_isClash at hM
  refine zSp_intro zpn_RX8 (Nat.le_of_ble_eq_true rfl) (fun a O => ?_)
  show zV a (8, 0, 0, (qPZ h Q), xN) 0 0 0 [some (aR 185), some (aI x1)] [] h
  refine zV_aload_n O dX8_isClash_0 rfl rfl ?_
  refine zV_iconst (z := 0) O ⟨by omega, by omega⟩ dX8_isClash_1 ?_
  refine zV_iload_n O dX8_isClash_2 rfl rfl ?_
  refine zV_callV (as := [aI 0, aI x1]) (st := []) O zc_X8_holderOf (Or.inl zl_RX8_236) zi_1561 zi_120 zt_185 rfl rfl (by decide) (Nat.le_of_ble_eq_true rfl) rfl rfl (Nat.le_of_ble_eq_true rfl) (Nat.le_of_ble_eq_true rfl) (Nat.le_of_ble_eq_true rfl) (Nat.le_of_ble_eq_true rfl) (Nat.le_of_ble_eq_true rfl) (Nat.le_of_ble_eq_true rfl) dX8_isClash_3 (sX8_holderOf hM) (fun r h9 hq => ?_) (fun x h9 hq => hq.elim)
  obtain ⟨rfl, z3, rfl, hM⟩ := hq
  refine zV_iconst (z := -1) O ⟨by omega, by omega⟩ dX8_isClash_6 ?_
  refine zV_icmp_eq (tgt := 24) O dX8_isClash_7 (by decide) (fun hc => ?_) (fun hc => ?_)
  · replace hM := hM.1 hc
    refine zV_iconst (z := 0) O ⟨by omega, by omega⟩ dX8_isClash_24 ?_
    exact zV_zret O rfl (Or.inl rfl) ⟨rfl, _, rfl, (Or.inl rfl), hM⟩ (Nat.le_of_ble_eq_true rfl) (Nat.le_of_ble_eq_true rfl) dX8_isClash_25
  · replace hM := hM.2 hc
    refine zV_aload_n O dX8_isClash_10 rfl rfl ?_
    refine zV_iconst (z := 1) O ⟨by omega, by omega⟩ dX8_isClash_11 ?_
    refine zV_iload_n O dX8_isClash_12 rfl rfl ?_
    refine zV_callV (as := [aI 1, aI x1]) (st := []) O zc_X8_holderOf (Or.inl zl_RX8_236) zi_1561 zi_120 zt_185 rfl rfl (by decide) (Nat.le_of_ble_eq_true rfl) rfl rfl (Nat.le_of_ble_eq_true rfl) (Nat.le_of_ble_eq_true rfl) (Nat.le_of_ble_eq_true rfl) (Nat.le_of_ble_eq_true rfl) (Nat.le_of_ble_eq_true rfl) (Nat.le_of_ble_eq_true rfl) dX8_isClash_13 (sX8_holderOf hM) (fun r h9 hq => ?_) (fun x h9 hq => hq.elim)
    obtain ⟨rfl, z4, rfl, hM⟩ := hq
    refine zV_iconst (z := -1) O ⟨by omega, by omega⟩ dX8_isClash_16 ?_
    refine zV_icmp_eq (tgt := 24) O dX8_isClash_17 (by decide) (fun hc => ?_) (fun hc => ?_)
    · replace hM := hM.1 hc
      refine zV_iconst (z := 0) O ⟨by omega, by omega⟩ dX8_isClash_24 ?_
      exact zV_zret O rfl (Or.inl rfl) ⟨rfl, _, rfl, (Or.inl rfl), hM⟩ (Nat.le_of_ble_eq_true rfl) (Nat.le_of_ble_eq_true rfl) dX8_isClash_25
    · replace hM := hM.2 hc
      refine zV_iconst (z := 1) O ⟨by omega, by omega⟩ dX8_isClash_20 ?_
      refine zV_goto (tgt := 25) O dX8_isClash_21 (by decide) ?_
      exact zV_zret O rfl (Or.inr rfl) ⟨rfl, _, rfl, (Or.inr rfl), hM⟩ (Nat.le_of_ble_eq_true rfl) (Nat.le_of_ble_eq_true rfl) dX8_isClash_25
def mX8_load (x1 : Int) (h : Hp) (Q : Int → Hp → Prop) : Prop := (∀ h11 : Hp, h11 = hu h 185 0 0 → (mX8_in x1 0 (h11 185 9) h11 (fun z12 => (mX8_fails z12 1 h11 (fun z13 h14 => ((z13 = 0 → (mX8_starts x1 h14 (fun h15 => (mX8_readsAll h15 (fun h16 => (mX8_isGood h16 (fun z17 => ((¬ z17 = 0 → (mX8_copies 187 1096 0 186 1096 0 h16 (fun h18 => (∀ h19 : Hp, h19 = hu h18 185 6 0 → (∀ h20 : Hp, h20 = hu h19 185 7 0 → (((0 : Int) ≤ 0 ∧ (0 : Int) < 1096) ∧ (Q (rd h20 186 0) h20))))))) ∧ (z17 = 0 → (zr ((-10) - (h16 185 16)) ∧ (Q ((-10) - (h16 185 16)) h16))))))))))) ∧ (¬ z13 = 0 → (Q 0 h14))))))))
set_option maxHeartbeats 4000000 in
set_option maxRecDepth 100000 in
theorem sX8_load {l0 : Launch} {x1 : Int} {h : Hp} {Q : Int → Hp → Prop}  (hM : mX8_load x1 h Q) : zSp l0 yX8_load cX8_load 2 (some .int) 197 (8) 0 0 [aR 185, aI x1] h (qI Q) xN := by
  unfold mX8_load at hM
  refine zSp_intro zpn_RX8 (Nat.le_of_ble_eq_true rfl) (fun a O => ?_)
  show zV a (8, 0, 0, (qI Q), xN) 0 0 0 [some (aR 185), some (aI x1)] [] h
  refine zV_aload_n O dX8_load_0 rfl rfl ?_
  refine zV_iconst (z := 0) O ⟨by omega, by omega⟩ dX8_load_1 ?_
  refine zV_putI O zf_RX8_1 zt_185 rfl (by decide) dX8_load_2 ?_
  have hM := hM _ rfl
  generalize hu h 185 0 0 = h11 at hM ⊢
  refine zV_aload_n O dX8_load_5 rfl rfl ?_
  refine zV_iload_n O dX8_load_6 rfl rfl ?_
  refine zV_i2l O dX8_load_7 ?_
  refine zV_lconst (z := 0) O ⟨by omega, by omega⟩ rfl dX8_load_8 ?_
  refine zV_aload_n O dX8_load_9 rfl rfl ?_
  refine zV_getI O zf_RX8_57 zt_185 rfl (by decide) dX8_load_10 ?_
  refine zV_i2l O dX8_load_13 ?_
  refine zV_callS (as := [aL x1, aL 0, aL (h11 185 9)]) (st := [aR 185]) O zc_X8_in (Or.inl zl_RX8_125) zi_1416 (Nat.le_of_ble_eq_true rfl) rfl rfl (Nat.le_of_ble_eq_true rfl) (Nat.le_of_ble_eq_true rfl) (Nat.le_of_ble_eq_true rfl) (Nat.le_of_ble_eq_true rfl) (Nat.le_of_ble_eq_true rfl) (Nat.le_of_ble_eq_true rfl) dX8_load_14 (sX8_in hM) (fun r h9 hq => ?_) (fun x h9 hq => hq.elim)
  obtain ⟨rfl, z12, rfl, hzz12, hM⟩ := hq
  refine zV_iconst (z := 1) O ⟨by omega, by omega⟩ dX8_load_17 ?_
  refine zV_callV (as := [aI z12, aI 1]) (st := []) O zc_X8_fails (Or.inl zl_RX8_201) zi_1420 zi_93 zt_185 rfl rfl (by decide) (Nat.le_of_ble_eq_true rfl) rfl rfl (Nat.le_of_ble_eq_true rfl) (Nat.le_of_ble_eq_true rfl) (Nat.le_of_ble_eq_true rfl) (Nat.le_of_ble_eq_true rfl) (Nat.le_of_ble_eq_true rfl) (Nat.le_of_ble_eq_true rfl) dX8_load_18 (sX8_fails hM) (fun r h14 hq => ?_) (fun x h9 hq => hq.elim)
  obtain ⟨z13, rfl, hzz13, hM⟩ := hq
  refine zV_if_eq (tgt := 26) O dX8_load_21 (by decide) (fun hc => ?_) (fun hc => ?_)
  · replace hM := hM.1 hc
    refine zV_aload_n O dX8_load_26 rfl rfl ?_
    refine zV_iload_n O dX8_load_27 rfl rfl ?_
    refine zV_callV (as := [aI x1]) (st := []) O zc_X8_starts (Or.inl zl_RX8_205) zi_1424 zi_94 zt_185 rfl rfl (by decide) (Nat.le_of_ble_eq_true rfl) rfl rfl (Nat.le_of_ble_eq_true rfl) (Nat.le_of_ble_eq_true rfl) (Nat.le_of_ble_eq_true rfl) (Nat.le_of_ble_eq_true rfl) (Nat.le_of_ble_eq_true rfl) (Nat.le_of_ble_eq_true rfl) dX8_load_28 (sX8_starts hM) (fun r h15 hq => ?_) (fun x h9 hq => hq.elim)
    obtain ⟨rfl, hM⟩ := hq
    refine zV_aload_n O dX8_load_31 rfl rfl ?_
    refine zV_callV (as := []) (st := []) O zc_X8_readsAll (Or.inl zl_RX8_208) zi_1453 zi_99 zt_185 rfl rfl (by decide) (Nat.le_of_ble_eq_true rfl) rfl rfl (Nat.le_of_ble_eq_true rfl) (Nat.le_of_ble_eq_true rfl) (Nat.le_of_ble_eq_true rfl) (Nat.le_of_ble_eq_true rfl) (Nat.le_of_ble_eq_true rfl) (Nat.le_of_ble_eq_true rfl) dX8_load_32 (sX8_readsAll hM) (fun r h16 hq => ?_) (fun x h9 hq => hq.elim)
    obtain ⟨rfl, hM⟩ := hq
    refine zV_aload_n O dX8_load_35 rfl rfl ?_
    refine zV_callV (as := []) (st := []) O zc_X8_isGood (Or.inl zl_RX8_111) zi_1470 zi_103 zt_185 rfl rfl (by decide) (Nat.le_of_ble_eq_true rfl) rfl rfl (Nat.le_of_ble_eq_true rfl) (Nat.le_of_ble_eq_true rfl) (Nat.le_of_ble_eq_true rfl) (Nat.le_of_ble_eq_true rfl) (Nat.le_of_ble_eq_true rfl) (Nat.le_of_ble_eq_true rfl) dX8_load_36 (sX8_isGood hM) (fun r h9 hq => ?_) (fun x h9 hq => hq.elim)
    obtain ⟨rfl, z17, rfl, hzz17, hM⟩ := hq
    refine zV_if_ne (tgt := 50) O dX8_load_39 (by decide) (fun hc => ?_) (fun hc => ?_)
    · replace hM := hM.1 hc
      refine zV_aload_n O dX8_load_50 rfl rfl ?_
      refine zV_getR O zf_RX8_17 zt_185 rfl (by decide) dX8_load_51 ?_
      refine zV_iconst (z := 0) O ⟨by omega, by omega⟩ dX8_load_54 ?_
      refine zV_aload_n O dX8_load_55 rfl rfl ?_
      refine zV_getR O zf_RX8_13 zt_185 rfl (by decide) dX8_load_56 ?_
      refine zV_iconst (z := 0) O ⟨by omega, by omega⟩ dX8_load_59 ?_
      refine zV_callS (as := [aR 187, aI 0, aR 186, aI 0]) (st := []) O zc_X8_copies (Or.inl zl_RX8_53) zi_1309 (Nat.le_of_ble_eq_true rfl) rfl rfl (Nat.le_of_ble_eq_true rfl) (Nat.le_of_ble_eq_true rfl) (Nat.le_of_ble_eq_true rfl) (Nat.le_of_ble_eq_true rfl) (Nat.le_of_ble_eq_true rfl) (Nat.le_of_ble_eq_true rfl) dX8_load_60 (sX8_copies zt_187 (by decide) ⟨by decide, by decide⟩ zt_186 (by decide) ⟨by decide, by decide⟩ hM) (fun r h18 hq => ?_) (fun x h9 hq => hq.elim)
      obtain ⟨rfl, hM⟩ := hq
      refine zV_aload_n O dX8_load_63 rfl rfl ?_
      refine zV_iconst (z := 0) O ⟨by omega, by omega⟩ dX8_load_64 ?_
      refine zV_putI O zf_RX8_211 zt_185 rfl (by decide) dX8_load_65 ?_
      have hM := hM _ rfl
      generalize hu h18 185 6 0 = h19 at hM ⊢
      refine zV_aload_n O dX8_load_68 rfl rfl ?_
      refine zV_iconst (z := 0) O ⟨by omega, by omega⟩ dX8_load_69 ?_
      refine zV_putZ O zf_RX8_214 zt_185 rfl (by decide) (Or.inl rfl) dX8_load_70 ?_
      have hM := hM _ rfl
      generalize hu h19 185 7 0 = h20 at hM ⊢
      refine zV_aload_n O dX8_load_73 rfl rfl ?_
      refine zV_getR O zf_RX8_13 zt_185 rfl (by decide) dX8_load_74 ?_
      refine zV_iconst (z := 0) O ⟨by omega, by omega⟩ dX8_load_77 ?_
      obtain ⟨hc, hM⟩ := hM
      refine zV_iald O zt_186 (by decide) hc dX8_load_78 ?_
      exact zV_iret O rfl ⟨_, rfl, hM⟩ (Nat.le_of_ble_eq_true rfl) (Nat.le_of_ble_eq_true rfl) dX8_load_79
    · replace hM := hM.2 hc
      refine zV_bipush (z := -10) O ⟨by omega, by omega⟩ rfl dX8_load_42 ?_
      refine zV_aload_n O dX8_load_44 rfl rfl ?_
      refine zV_getI O zf_RX8_105 zt_185 rfl (by decide) dX8_load_45 ?_
      obtain ⟨hc, hM⟩ := hM
      refine zV_isub O dX8_load_48 hc ?_
      exact zV_iret O rfl ⟨_, rfl, hM⟩ (Nat.le_of_ble_eq_true rfl) (Nat.le_of_ble_eq_true rfl) dX8_load_49
  · replace hM := hM.2 hc
    refine zV_iconst (z := 0) O ⟨by omega, by omega⟩ dX8_load_24 ?_
    exact zV_iret O rfl ⟨_, rfl, hM⟩ (Nat.le_of_ble_eq_true rfl) (Nat.le_of_ble_eq_true rfl) dX8_load_25
def mX8_movesIf  (h : Hp) (Q : Int → Hp → Prop) : Prop := (((0 : Int) ≤ 2 ∧ (2 : Int) < 1096) ∧ ((¬ (rd h 186 2) = (9 : Int) → (mX8_isBound h (fun z4 => ((z4 = 0 → (mX8_moves h (fun h5 => (mX8_twice h5 (fun z6 => ((¬ z6 = ((-1) : Int) → (Q (-4) h5)) ∧ (z6 = ((-1) : Int) → (Q 0 h5)))))))) ∧ (¬ z4 = 0 → (Q (-3) h)))))) ∧ ((rd h 186 2) = (9 : Int) → (Q (-2) h))))
set_option maxHeartbeats 4000000 in
set_option maxRecDepth 100000 in
theorem sX8_movesIf {l0 : Launch}  {h : Hp} {Q : Int → Hp → Prop}  (hM : mX8_movesIf  h Q) : zSp l0 yX8_movesIf cX8_movesIf 1 (some .int) 197 (8) 0 0 [aR 185] h (qI Q) xN := by
  unfold mX8_movesIf at hM
  refine zSp_intro zpn_RX8 (Nat.le_of_ble_eq_true rfl) (fun a O => ?_)
  show zV a (8, 0, 0, (qI Q), xN) 0 0 0 [some (aR 185)] [] h
  refine zV_aload_n O dX8_movesIf_0 rfl rfl ?_
  refine zV_getR O zf_RX8_13 zt_185 rfl (by decide) dX8_movesIf_1 ?_
  refine zV_iconst (z := 2) O ⟨by omega, by omega⟩ dX8_movesIf_4 ?_
  obtain ⟨hc, hM⟩ := hM
  refine zV_iald O zt_186 (by decide) hc dX8_movesIf_5 ?_
  refine zV_bipush (z := 9) O ⟨by omega, by omega⟩ rfl dX8_movesIf_6 ?_
  refine zV_icmp_ne (tgt := 14) O dX8_movesIf_8 (by decide) (fun hc => ?_) (fun hc => ?_)
  · replace hM := hM.1 hc
    refine zV_aload_n O dX8_movesIf_14 rfl rfl ?_
    refine zV_callV (as := []) (st := []) O zc_X8_isBound (Or.inl zl_RX8_264) zi_1688 zi_138 zt_185 rfl rfl (by decide) (Nat.le_of_ble_eq_true rfl) rfl rfl (Nat.le_of_ble_eq_true rfl) (Nat.le_of_ble_eq_true rfl) (Nat.le_of_ble_eq_true rfl) (Nat.le_of_ble_eq_true rfl) (Nat.le_of_ble_eq_true rfl) (Nat.le_of_ble_eq_true rfl) dX8_movesIf_15 (sX8_isBound hM) (fun r h9 hq => ?_) (fun x h9 hq => hq.elim)
    obtain ⟨rfl, z4, rfl, hzz4, hM⟩ := hq
    refine zV_if_eq (tgt := 24) O dX8_movesIf_18 (by decide) (fun hc => ?_) (fun hc => ?_)
    · replace hM := hM.1 hc
      refine zV_aload_n O dX8_movesIf_24 rfl rfl ?_
      refine zV_callV (as := []) (st := []) O zc_X8_moves (Or.inl zl_RX8_267) zi_1696 zi_140 zt_185 rfl rfl (by decide) (Nat.le_of_ble_eq_true rfl) rfl rfl (Nat.le_of_ble_eq_true rfl) (Nat.le_of_ble_eq_true rfl) (Nat.le_of_ble_eq_true rfl) (Nat.le_of_ble_eq_true rfl) (Nat.le_of_ble_eq_true rfl) (Nat.le_of_ble_eq_true rfl) dX8_movesIf_25 (sX8_moves hM) (fun r h5 hq => ?_) (fun x h9 hq => hq.elim)
      obtain ⟨rfl, hM⟩ := hq
      refine zV_aload_n O dX8_movesIf_28 rfl rfl ?_
      refine zV_callV (as := []) (st := []) O zc_X8_twice (Or.inl zl_RX8_270) zi_1712 zi_144 zt_185 rfl rfl (by decide) (Nat.le_of_ble_eq_true rfl) rfl rfl (Nat.le_of_ble_eq_true rfl) (Nat.le_of_ble_eq_true rfl) (Nat.le_of_ble_eq_true rfl) (Nat.le_of_ble_eq_true rfl) (Nat.le_of_ble_eq_true rfl) (Nat.le_of_ble_eq_true rfl) dX8_movesIf_29 (sX8_twice hM) (fun r h9 hq => ?_) (fun x h9 hq => hq.elim)
      obtain ⟨rfl, z6, rfl, hM⟩ := hq
      refine zV_iconst (z := -1) O ⟨by omega, by omega⟩ dX8_movesIf_32 ?_
      refine zV_icmp_ne (tgt := 40) O dX8_movesIf_33 (by decide) (fun hc => ?_) (fun hc => ?_)
      · replace hM := hM.1 hc
        refine zV_bipush (z := -4) O ⟨by omega, by omega⟩ rfl dX8_movesIf_40 ?_
        exact zV_iret O rfl ⟨_, rfl, hM⟩ (Nat.le_of_ble_eq_true rfl) (Nat.le_of_ble_eq_true rfl) dX8_movesIf_42
      · replace hM := hM.2 hc
        refine zV_iconst (z := 0) O ⟨by omega, by omega⟩ dX8_movesIf_36 ?_
        refine zV_goto (tgt := 42) O dX8_movesIf_37 (by decide) ?_
        exact zV_iret O rfl ⟨_, rfl, hM⟩ (Nat.le_of_ble_eq_true rfl) (Nat.le_of_ble_eq_true rfl) dX8_movesIf_42
    · replace hM := hM.2 hc
      refine zV_bipush (z := -3) O ⟨by omega, by omega⟩ rfl dX8_movesIf_21 ?_
      exact zV_iret O rfl ⟨_, rfl, hM⟩ (Nat.le_of_ble_eq_true rfl) (Nat.le_of_ble_eq_true rfl) dX8_movesIf_23
  · replace hM := hM.2 hc
    refine zV_bipush (z := -2) O ⟨by omega, by omega⟩ rfl dX8_movesIf_11 ?_
    exact zV_iret O rfl ⟨_, rfl, hM⟩ (Nat.le_of_ble_eq_true rfl) (Nat.le_of_ble_eq_true rfl) dX8_movesIf_13
def mX8_setKeep (x1 : Int) (h : Hp) (Q : Int → Hp → Prop) : Prop := (∀ h10 : Hp, h10 = hu h 185 0 0 → (mX8_in x1 0 3 h10 (fun z11 => (mX8_fails z11 1 h10 (fun z12 h13 => ((z12 = 0 → (mX8_laysAside h13 (fun h14 => (((0 : Int) ≤ 3 ∧ (3 : Int) < 1096) ∧ (((0 : Int) ≤ 3 ∧ (3 : Int) < 1096) ∧ (∀ h15 : Hp, h15 = wr h14 186 3 x1 → (mX8_twice h15 (fun z16 => ((z16 = ((-1) : Int) → (mX8_keeps 189 1096 h15 (fun h17 => (Q (rd h14 186 3) h17)))) ∧ (¬ z16 = ((-1) : Int) → (mX8_laysBack h15 (fun h18 => (Q (-2) h18))))))))))))) ∧ (¬ z12 = 0 → (Q 0 h13))))))))
set_option maxHeartbeats 4000000 in
set_option maxRecDepth 100000 in
theorem sX8_setKeep {l0 : Launch} {x1 : Int} {h : Hp} {Q : Int → Hp → Prop}  (hM : mX8_setKeep x1 h Q) : zSp l0 yX8_setKeep cX8_setKeep 3 (some .int) 197 (8) 0 0 [aR 185, aI x1] h (qI Q) xN := by
  unfold mX8_setKeep at hM
  refine zSp_intro zpn_RX8 (Nat.le_of_ble_eq_true rfl) (fun a O => ?_)
  show zV a (8, 0, 0, (qI Q), xN) 0 0 0 [some (aR 185), some (aI x1), none] [] h
  refine zV_aload_n O dX8_setKeep_0 rfl rfl ?_
  refine zV_iconst (z := 0) O ⟨by omega, by omega⟩ dX8_setKeep_1 ?_
  refine zV_putI O zf_RX8_1 zt_185 rfl (by decide) dX8_setKeep_2 ?_
  have hM := hM _ rfl
  generalize hu h 185 0 0 = h10 at hM ⊢
  refine zV_aload_n O dX8_setKeep_5 rfl rfl ?_
  refine zV_iload_n O dX8_setKeep_6 rfl rfl ?_
  refine zV_i2l O dX8_setKeep_7 ?_
  refine zV_lconst (z := 0) O ⟨by omega, by omega⟩ rfl dX8_setKeep_8 ?_
  refine zV_ldc2 (z := 3) O ⟨by omega, by omega⟩ zi_1625.1 zi_1625.2 dX8_setKeep_9 ?_
  refine zV_callS (as := [aL x1, aL 0, aL 3]) (st := [aR 185]) O zc_X8_in (Or.inl zl_RX8_125) zi_1416 (Nat.le_of_ble_eq_true rfl) rfl rfl (Nat.le_of_ble_eq_true rfl) (Nat.le_of_ble_eq_true rfl) (Nat.le_of_ble_eq_true rfl) (Nat.le_of_ble_eq_true rfl) (Nat.le_of_ble_eq_true rfl) (Nat.le_of_ble_eq_true rfl) dX8_setKeep_12 (sX8_in hM) (fun r h9 hq => ?_) (fun x h9 hq => hq.elim)
  obtain ⟨rfl, z11, rfl, hzz11, hM⟩ := hq
  refine zV_iconst (z := 1) O ⟨by omega, by omega⟩ dX8_setKeep_15 ?_
  refine zV_callV (as := [aI z11, aI 1]) (st := []) O zc_X8_fails (Or.inl zl_RX8_201) zi_1420 zi_93 zt_185 rfl rfl (by decide) (Nat.le_of_ble_eq_true rfl) rfl rfl (Nat.le_of_ble_eq_true rfl) (Nat.le_of_ble_eq_true rfl) (Nat.le_of_ble_eq_true rfl) (Nat.le_of_ble_eq_true rfl) (Nat.le_of_ble_eq_true rfl) (Nat.le_of_ble_eq_true rfl) dX8_setKeep_16 (sX8_fails hM) (fun r h13 hq => ?_) (fun x h9 hq => hq.elim)
  obtain ⟨z12, rfl, hzz12, hM⟩ := hq
  refine zV_if_eq (tgt := 24) O dX8_setKeep_19 (by decide) (fun hc => ?_) (fun hc => ?_)
  · replace hM := hM.1 hc
    refine zV_aload_n O dX8_setKeep_24 rfl rfl ?_
    refine zV_callV (as := []) (st := []) O zc_X8_laysAside (Or.inl zl_RX8_323) zi_1680 zi_136 zt_185 rfl rfl (by decide) (Nat.le_of_ble_eq_true rfl) rfl rfl (Nat.le_of_ble_eq_true rfl) (Nat.le_of_ble_eq_true rfl) (Nat.le_of_ble_eq_true rfl) (Nat.le_of_ble_eq_true rfl) (Nat.le_of_ble_eq_true rfl) (Nat.le_of_ble_eq_true rfl) dX8_setKeep_25 (sX8_laysAside hM) (fun r h14 hq => ?_) (fun x h9 hq => hq.elim)
    obtain ⟨rfl, hM⟩ := hq
    refine zV_aload_n O dX8_setKeep_28 rfl rfl ?_
    refine zV_getR O zf_RX8_13 zt_185 rfl (by decide) dX8_setKeep_29 ?_
    refine zV_iconst (z := 3) O ⟨by omega, by omega⟩ dX8_setKeep_32 ?_
    obtain ⟨hc, hM⟩ := hM
    refine zV_iald O zt_186 (by decide) hc dX8_setKeep_33 ?_
    refine zV_istore_n O dX8_setKeep_34 rfl (Nat.le_of_ble_eq_true rfl) rfl ?_
    refine zV_aload_n O dX8_setKeep_35 rfl rfl ?_
    refine zV_getR O zf_RX8_13 zt_185 rfl (by decide) dX8_setKeep_36 ?_
    refine zV_iconst (z := 3) O ⟨by omega, by omega⟩ dX8_setKeep_39 ?_
    refine zV_iload_n O dX8_setKeep_40 rfl rfl ?_
    obtain ⟨hc, hM⟩ := hM
    refine zV_iast O zt_186 (by decide) hc dX8_setKeep_41 ?_
    have hM := hM (hu h14 186 (Int.toNat 3) x1) rfl
    generalize hu h14 186 (Int.toNat 3) x1 = h15 at hM ⊢
    refine zV_aload_n O dX8_setKeep_42 rfl rfl ?_
    refine zV_callV (as := []) (st := []) O zc_X8_twice (Or.inl zl_RX8_270) zi_1712 zi_144 zt_185 rfl rfl (by decide) (Nat.le_of_ble_eq_true rfl) rfl rfl (Nat.le_of_ble_eq_true rfl) (Nat.le_of_ble_eq_true rfl) (Nat.le_of_ble_eq_true rfl) (Nat.le_of_ble_eq_true rfl) (Nat.le_of_ble_eq_true rfl) (Nat.le_of_ble_eq_true rfl) dX8_setKeep_43 (sX8_twice hM) (fun r h9 hq => ?_) (fun x h9 hq => hq.elim)
    obtain ⟨rfl, z16, rfl, hM⟩ := hq
    refine zV_iconst (z := -1) O ⟨by omega, by omega⟩ dX8_setKeep_46 ?_
    refine zV_icmp_eq (tgt := 57) O dX8_setKeep_47 (by decide) (fun hc => ?_) (fun hc => ?_)
    · replace hM := hM.1 hc
      refine zV_aload_n O dX8_setKeep_57 rfl rfl ?_
      refine zV_aload_n O dX8_setKeep_58 rfl rfl ?_
      refine zV_getR O zf_RX8_23 zt_185 rfl (by decide) dX8_setKeep_59 ?_
      refine zV_callV (as := [aR 189]) (st := []) O zc_X8_keeps (Or.inl zl_RX8_335) zi_1752 zi_147 zt_185 rfl rfl (by decide) (Nat.le_of_ble_eq_true rfl) rfl rfl (Nat.le_of_ble_eq_true rfl) (Nat.le_of_ble_eq_true rfl) (Nat.le_of_ble_eq_true rfl) (Nat.le_of_ble_eq_true rfl) (Nat.le_of_ble_eq_true rfl) (Nat.le_of_ble_eq_true rfl) dX8_setKeep_62 (sX8_keeps zt_189 (by decide) ⟨by decide, by decide⟩ hM) (fun r h17 hq => ?_) (fun x h9 hq => hq.elim)
      obtain ⟨rfl, hM⟩ := hq
      refine zV_iload_n O dX8_setKeep_65 rfl rfl ?_
      exact zV_iret O rfl ⟨_, rfl, hM⟩ (Nat.le_of_ble_eq_true rfl) (Nat.le_of_ble_eq_true rfl) dX8_setKeep_66
    · replace hM := hM.2 hc
      refine zV_aload_n O dX8_setKeep_50 rfl rfl ?_
      refine zV_callV (as := []) (st := []) O zc_X8_laysBack (Or.inl zl_RX8_329) zi_1716 zi_145 zt_185 rfl rfl (by decide) (Nat.le_of_ble_eq_true rfl) rfl rfl (Nat.le_of_ble_eq_true rfl) (Nat.le_of_ble_eq_true rfl) (Nat.le_of_ble_eq_true rfl) (Nat.le_of_ble_eq_true rfl) (Nat.le_of_ble_eq_true rfl) (Nat.le_of_ble_eq_true rfl) dX8_setKeep_51 (sX8_laysBack hM) (fun r h18 hq => ?_) (fun x h9 hq => hq.elim)
      obtain ⟨rfl, hM⟩ := hq
      refine zV_bipush (z := -2) O ⟨by omega, by omega⟩ rfl dX8_setKeep_54 ?_
      exact zV_iret O rfl ⟨_, rfl, hM⟩ (Nat.le_of_ble_eq_true rfl) (Nat.le_of_ble_eq_true rfl) dX8_setKeep_56
  · replace hM := hM.2 hc
    refine zV_iconst (z := 0) O ⟨by omega, by omega⟩ dX8_setKeep_22 ?_
    exact zV_iret O rfl ⟨_, rfl, hM⟩ (Nat.le_of_ble_eq_true rfl) (Nat.le_of_ble_eq_true rfl) dX8_setKeep_23
def mX8_allowsFor (x1 : Int) (x2 : Int) (x3 : Int) (h : Hp) (Q : Int → Prop) : Prop := (mX8_decidesOf x1 x2 x3 h (fun z3 => ((z3 = ((-1) : Int) → (Q 0)) ∧ (¬ z3 = ((-1) : Int) → (mX8_ruleCell z3 1 h (fun z4 => (((0 : Int) ≤ z4 ∧ z4 < 1096) ∧ ((¬ (rd h 186 z4) = (1 : Int) → (Q 0)) ∧ ((rd h 186 z4) = (1 : Int) → (Q 1))))))))))
set_option maxHeartbeats 4000000 in
set_option maxRecDepth 100000 in
theorem sX8_allowsFor {l0 : Launch} {x1 : Int} {x2 : Int} {x3 : Int} {h : Hp} {Q : Int → Prop}  (hM : mX8_allowsFor x1 x2 x3 h Q) : zSp l0 yX8_allowsFor cX8_allowsFor 5 (some .boolean) 197 (9) 0 0 [aR 185, aI x1, aI x2, aI x3] h (qPZ h Q) xN := by
  unfold mX8_allowsFor at hM
  refine zSp_intro zpn_RX8 (Nat.le_of_ble_eq_true rfl) (fun a O => ?_)
  show zV a (9, 0, 0, (qPZ h Q), xN) 0 0 0 [some (aR 185), some (aI x1), some (aI x2), some (aI x3), none] [] h
  refine zV_aload_n O dX8_allowsFor_0 rfl rfl ?_
  refine zV_iload_n O dX8_allowsFor_1 rfl rfl ?_
  refine zV_iload_n O dX8_allowsFor_2 rfl rfl ?_
  refine zV_iload_n O dX8_allowsFor_3 rfl rfl ?_
  refine zV_callV (as := [aI x1, aI x2, aI x3]) (st := []) O zc_X8_decidesOf (Or.inl zl_RX8_277) zi_1632 zi_128 zt_185 rfl rfl (by decide) (Nat.le_of_ble_eq_true rfl) rfl rfl (Nat.le_of_ble_eq_true rfl) (Nat.le_of_ble_eq_true rfl) (Nat.le_of_ble_eq_true rfl) (Nat.le_of_ble_eq_true rfl) (Nat.le_of_ble_eq_true rfl) (Nat.le_of_ble_eq_true rfl) dX8_allowsFor_4 (sX8_decidesOf hM) (fun r h9 hq => ?_) (fun x h9 hq => hq.elim)
  obtain ⟨rfl, z3, rfl, hM⟩ := hq
  refine zV_istore O dX8_allowsFor_7 (Nat.le_of_ble_eq_true rfl) rfl ?_
  refine zV_iload O dX8_allowsFor_9 rfl ?_
  refine zV_iconst (z := -1) O ⟨by omega, by omega⟩ dX8_allowsFor_11 ?_
  refine zV_icmp_eq (tgt := 34) O dX8_allowsFor_12 (by decide) (fun hc => ?_) (fun hc => ?_)
  · replace hM := hM.1 hc
    refine zV_iconst (z := 0) O ⟨by omega, by omega⟩ dX8_allowsFor_34 ?_
    exact zV_zret O rfl (Or.inl rfl) ⟨rfl, _, rfl, (Or.inl rfl), hM⟩ (Nat.le_of_ble_eq_true rfl) (Nat.le_of_ble_eq_true rfl) dX8_allowsFor_35
  · replace hM := hM.2 hc
    refine zV_aload_n O dX8_allowsFor_15 rfl rfl ?_
    refine zV_getR O zf_RX8_13 zt_185 rfl (by decide) dX8_allowsFor_16 ?_
    refine zV_iload O dX8_allowsFor_19 rfl ?_
    refine zV_iconst (z := 1) O ⟨by omega, by omega⟩ dX8_allowsFor_21 ?_
    refine zV_callS (as := [aI z3, aI 1]) (st := [aR 186]) O zc_X8_ruleCell (Or.inl zl_RX8_167) zi_1519 (Nat.le_of_ble_eq_true rfl) rfl rfl (Nat.le_of_ble_eq_true rfl) (Nat.le_of_ble_eq_true rfl) (Nat.le_of_ble_eq_true rfl) (Nat.le_of_ble_eq_true rfl) (Nat.le_of_ble_eq_true rfl) (Nat.le_of_ble_eq_true rfl) dX8_allowsFor_22 (sX8_ruleCell hM) (fun r h9 hq => ?_) (fun x h9 hq => hq.elim)
    obtain ⟨rfl, z4, rfl, hM⟩ := hq
    obtain ⟨hc, hM⟩ := hM
    refine zV_iald O zt_186 (by decide) hc dX8_allowsFor_25 ?_
    refine zV_iconst (z := 1) O ⟨by omega, by omega⟩ dX8_allowsFor_26 ?_
    refine zV_icmp_ne (tgt := 34) O dX8_allowsFor_27 (by decide) (fun hc => ?_) (fun hc => ?_)
    · replace hM := hM.1 hc
      refine zV_iconst (z := 0) O ⟨by omega, by omega⟩ dX8_allowsFor_34 ?_
      exact zV_zret O rfl (Or.inl rfl) ⟨rfl, _, rfl, (Or.inl rfl), hM⟩ (Nat.le_of_ble_eq_true rfl) (Nat.le_of_ble_eq_true rfl) dX8_allowsFor_35
    · replace hM := hM.2 hc
      refine zV_iconst (z := 1) O ⟨by omega, by omega⟩ dX8_allowsFor_30 ?_
      refine zV_goto (tgt := 35) O dX8_allowsFor_31 (by decide) ?_
      exact zV_zret O rfl (Or.inr rfl) ⟨rfl, _, rfl, (Or.inr rfl), hM⟩ (Nat.le_of_ble_eq_true rfl) (Nat.le_of_ble_eq_true rfl) dX8_allowsFor_35
def mX8_clash_b36 (Q : Int → Hp → Prop) (K9 : Int → Int → Hp → Prop) (v2 : Int) (v3 : Int) (h : Hp) : Prop := (zr (v3 + 1) ∧ (K9 v2 (v3 + 1) h))
set_option maxHeartbeats 4000000 in
set_option maxRecDepth 100000 in
theorem sX8_clash_b36 {l0 : Launch} {a : ZC}  {Q : Int → Hp → Prop} {K9 : Int → Int → Hp → Prop} (O : zOk l0 a cX8_clash RX8 4 (some .int) 197 [])  (hK9 : ∀ (v2 : Int) (v3 : Int) (h : Hp), K9 v2 v3 h → zV a (9, 0, 0, (qI Q), xN) 0 0 9 [some (aR 185), none, some (aI v2), some (aI v3)] [] h) {v2 : Int} {v3 : Int} {h : Hp}  (hM : mX8_clash_b36 Q K9 v2 v3 h) : zV a (9, 0, 0, (qI Q), xN) 0 0 36 [some (aR 185), none, some (aI v2), some (aI v3)] [] h := by
  unfold mX8_clash_b36 at hM
  obtain ⟨hc, hM⟩ := hM
  refine zV_iinc O dX8_clash_36 rfl (Nat.le_of_ble_eq_true rfl) rfl hc ?_
  refine zV_goto (tgt := 9) O dX8_clash_39 (by decide) ?_
  exact hK9 _ _ _ hM
def mX8_clash_b9 (Q : Int → Hp → Prop) : Nat → Int → Int → Hp → Prop
  | 0 => fun _ _ _ => False
  | fu9 + 1 => fun v2 v3 h => (((250 : Int) < v3 → (∀ h8 : Hp, h8 = hu h 185 0 1 → (Q 0 h8))) ∧ (¬ (250 : Int) < v3 → (mX8_isClash v3 h (fun z9 => ((¬ z9 = 0 → ((¬ v2 = 0 → (mX8_clash_b36 Q (mX8_clash_b9 Q fu9) (zw (v2 + (-1))) v3 h)) ∧ (v2 = 0 → (Q v3 h)))) ∧ (z9 = 0 → (mX8_clash_b36 Q (mX8_clash_b9 Q fu9) v2 v3 h)))))))
set_option maxHeartbeats 4000000 in
set_option maxRecDepth 100000 in
theorem sX8_clash_b9 {l0 : Launch} {a : ZC}  {Q : Int → Hp → Prop}  (O : zOk l0 a cX8_clash RX8 4 (some .int) 197 [])   : ∀ (ff : Nat) (v2 : Int) (v3 : Int) (h : Hp), mX8_clash_b9 Q ff v2 v3 h → zV a (9, 0, 0, (qI Q), xN) 0 0 9 [some (aR 185), none, some (aI v2), some (aI v3)] [] h := by
  intro ff
  induction ff with
  | zero => intro v2 v3 h hM; exact hM.elim
  | succ ff ih =>
    have hK9 := ih
    intro v2 v3 h hM
    unfold mX8_clash_b9 at hM
    refine zV_iload_n O dX8_clash_9 rfl rfl ?_
    refine zV_sipush (z := 250) O ⟨by omega, by omega⟩ rfl dX8_clash_10 ?_
    refine zV_icmp_gt (tgt := 42) O dX8_clash_13 (by decide) (fun hc => ?_) (fun hc => ?_)
    · replace hM := hM.1 hc
      refine zV_aload_n O dX8_clash_42 rfl rfl ?_
      refine zV_iconst (z := 1) O ⟨by omega, by omega⟩ dX8_clash_43 ?_
      refine zV_putI O zf_RX8_1 zt_185 rfl (by decide) dX8_clash_44 ?_
      have hM := hM _ rfl
      generalize hu h 185 0 1 = h8 at hM ⊢
      refine zV_iconst (z := 0) O ⟨by omega, by omega⟩ dX8_clash_47 ?_
      exact zV_iret O rfl ⟨_, rfl, hM⟩ (Nat.le_of_ble_eq_true rfl) (Nat.le_of_ble_eq_true rfl) dX8_clash_48
    · replace hM := hM.2 hc
      refine zV_aload_n O dX8_clash_16 rfl rfl ?_
      refine zV_iload_n O dX8_clash_17 rfl rfl ?_
      refine zV_callV (as := [aI v3]) (st := []) O zc_X8_isClash (Or.inl zl_RX8_239) zi_1557 zi_119 zt_185 rfl rfl (by decide) (Nat.le_of_ble_eq_true rfl) rfl rfl (Nat.le_of_ble_eq_true rfl) (Nat.le_of_ble_eq_true rfl) (Nat.le_of_ble_eq_true rfl) (Nat.le_of_ble_eq_true rfl) (Nat.le_of_ble_eq_true rfl) (Nat.le_of_ble_eq_true rfl) dX8_clash_18 (sX8_isClash hM) (fun r h9 hq => ?_) (fun x h9 hq => hq.elim)
      obtain ⟨rfl, z9, rfl, hzz9, hM⟩ := hq
      refine zV_if_ne (tgt := 27) O dX8_clash_21 (by decide) (fun hc => ?_) (fun hc => ?_)
      · replace hM := hM.1 hc
        refine zV_iload_n O dX8_clash_27 rfl rfl ?_
        refine zV_if_ne (tgt := 33) O dX8_clash_28 (by decide) (fun hc => ?_) (fun hc => ?_)
        · replace hM := hM.1 hc
          refine zV_iincW O dX8_clash_33 rfl (Nat.le_of_ble_eq_true rfl) rfl ?_
          exact sX8_clash_b36 O hK9 hM
        · replace hM := hM.2 hc
          refine zV_iload_n O dX8_clash_31 rfl rfl ?_
          exact zV_iret O rfl ⟨_, rfl, hM⟩ (Nat.le_of_ble_eq_true rfl) (Nat.le_of_ble_eq_true rfl) dX8_clash_32
      · replace hM := hM.2 hc
        refine zV_goto (tgt := 36) O dX8_clash_24 (by decide) ?_
        exact sX8_clash_b36 O hK9 hM
def mX8_clash (x1 : Int) (h : Hp) (Q : Int → Hp → Prop) : Prop := (∀ h10 : Hp, h10 = hu h 185 0 0 → (∃ ff, mX8_clash_b9 Q ff x1 1 h10))
set_option maxHeartbeats 4000000 in
set_option maxRecDepth 100000 in
theorem sX8_clash {l0 : Launch} {x1 : Int} {h : Hp} {Q : Int → Hp → Prop}  (hM : mX8_clash x1 h Q) : zSp l0 yX8_clash cX8_clash 4 (some .int) 197 (9) 0 0 [aR 185, aI x1] h (qI Q) xN := by
  unfold mX8_clash at hM
  refine zSp_intro zpn_RX8 (Nat.le_of_ble_eq_true rfl) (fun a O => ?_)
  show zV a (9, 0, 0, (qI Q), xN) 0 0 0 [some (aR 185), some (aI x1), none, none] [] h
  refine zV_aload_n O dX8_clash_0 rfl rfl ?_
  refine zV_iconst (z := 0) O ⟨by omega, by omega⟩ dX8_clash_1 ?_
  refine zV_putI O zf_RX8_1 zt_185 rfl (by decide) dX8_clash_2 ?_
  have hM := hM _ rfl
  generalize hu h 185 0 0 = h10 at hM ⊢
  refine zV_iload_n O dX8_clash_5 rfl rfl ?_
  refine zV_istore_n O dX8_clash_6 rfl (Nat.le_of_ble_eq_true rfl) rfl ?_
  refine zV_iconst (z := 1) O ⟨by omega, by omega⟩ dX8_clash_7 ?_
  refine zV_istore_n O dX8_clash_8 rfl (Nat.le_of_ble_eq_true rfl) rfl ?_
  refine zV_sub (ls2 := [some (aR 185), none, some (aI x1), some (aI 1)]) ⟨rfl, rfl, rfl, trivial⟩ ?_
  obtain ⟨ff, hM⟩ := hM
  exact sX8_clash_b9 O ff _ _ _ hM
def mX8_clashes_b25 (h : Hp) (Q : Int → Prop) (K4 : Int → Int → Prop) (v2 : Int) (s0 : Int) (s1 : Int) : Prop := (zr (s1 + s0) ∧ (zr (v2 + 1) ∧ (K4 (s1 + s0) (v2 + 1))))
set_option maxHeartbeats 4000000 in
set_option maxRecDepth 100000 in
theorem sX8_clashes_b25 {l0 : Launch} {a : ZC}  {h : Hp} {Q : Int → Prop} {K4 : Int → Int → Prop} (O : zOk l0 a cX8_clashes RX8 3 (some .int) 197 [])  (hK4 : ∀ (v1 : Int) (v2 : Int), K4 v1 v2 → zV a (9, 0, 0, (qPI h Q), xN) 0 0 4 [some (aR 185), some (aI v1), some (aI v2)] [] h) {v2 : Int} {s0 : Int} {s1 : Int}  (hz_s0 : s0 = 0 ∨ s0 = 1) (hM : mX8_clashes_b25 h Q K4 v2 s0 s1) : zV a (9, 0, 0, (qPI h Q), xN) 0 0 25 [some (aR 185), none, some (aI v2)] [aI s0, aI s1] h := by
  unfold mX8_clashes_b25 at hM
  obtain ⟨hc, hM⟩ := hM
  refine zV_iadd O dX8_clashes_25 hc ?_
  refine zV_istore_n O dX8_clashes_26 rfl (Nat.le_of_ble_eq_true rfl) rfl ?_
  obtain ⟨hc, hM⟩ := hM
  refine zV_iinc O dX8_clashes_27 rfl (Nat.le_of_ble_eq_true rfl) rfl hc ?_
  refine zV_goto (tgt := 4) O dX8_clashes_30 (by decide) ?_
  exact hK4 _ _ hM
def mX8_clashes_b4 (h : Hp) (Q : Int → Prop) : Nat → Int → Int → Prop
  | 0 => fun _ _ => False
  | fu4 + 1 => fun v1 v2 => (((250 : Int) < v2 → (Q v1)) ∧ (¬ (250 : Int) < v2 → (mX8_isClash v2 h (fun z4 => ((z4 = 0 → (mX8_clashes_b25 h Q (mX8_clashes_b4 h Q fu4) v2 0 v1)) ∧ (¬ z4 = 0 → (mX8_clashes_b25 h Q (mX8_clashes_b4 h Q fu4) v2 1 v1)))))))
set_option maxHeartbeats 4000000 in
set_option maxRecDepth 100000 in
theorem sX8_clashes_b4 {l0 : Launch} {a : ZC}  {h : Hp} {Q : Int → Prop}  (O : zOk l0 a cX8_clashes RX8 3 (some .int) 197 [])   : ∀ (ff : Nat) (v1 : Int) (v2 : Int) , mX8_clashes_b4 h Q ff v1 v2 → zV a (9, 0, 0, (qPI h Q), xN) 0 0 4 [some (aR 185), some (aI v1), some (aI v2)] [] h := by
  intro ff
  induction ff with
  | zero => intro v1 v2 hM; exact hM.elim
  | succ ff ih =>
    have hK4 := ih
    intro v1 v2 hM
    unfold mX8_clashes_b4 at hM
    refine zV_iload_n O dX8_clashes_4 rfl rfl ?_
    refine zV_sipush (z := 250) O ⟨by omega, by omega⟩ rfl dX8_clashes_5 ?_
    refine zV_icmp_gt (tgt := 33) O dX8_clashes_8 (by decide) (fun hc => ?_) (fun hc => ?_)
    · replace hM := hM.1 hc
      refine zV_iload_n O dX8_clashes_33 rfl rfl ?_
      exact zV_iret O rfl ⟨rfl, _, rfl, hM⟩ (Nat.le_of_ble_eq_true rfl) (Nat.le_of_ble_eq_true rfl) dX8_clashes_34
    · replace hM := hM.2 hc
      refine zV_iload_n O dX8_clashes_11 rfl rfl ?_
      refine zV_aload_n O dX8_clashes_12 rfl rfl ?_
      refine zV_iload_n O dX8_clashes_13 rfl rfl ?_
      refine zV_callV (as := [aI v2]) (st := [aI v1]) O zc_X8_isClash (Or.inl zl_RX8_239) zi_1557 zi_119 zt_185 rfl rfl (by decide) (Nat.le_of_ble_eq_true rfl) rfl rfl (Nat.le_of_ble_eq_true rfl) (Nat.le_of_ble_eq_true rfl) (Nat.le_of_ble_eq_true rfl) (Nat.le_of_ble_eq_true rfl) (Nat.le_of_ble_eq_true rfl) (Nat.le_of_ble_eq_true rfl) dX8_clashes_14 (sX8_isClash hM) (fun r h9 hq => ?_) (fun x h9 hq => hq.elim)
      obtain ⟨rfl, z4, rfl, hzz4, hM⟩ := hq
      refine zV_if_eq (tgt := 24) O dX8_clashes_17 (by decide) (fun hc => ?_) (fun hc => ?_)
      · replace hM := hM.1 hc
        refine zV_iconst (z := 0) O ⟨by omega, by omega⟩ dX8_clashes_24 ?_
        refine zV_sub (ls2 := [some (aR 185), none, some (aI v2)]) ⟨rfl, rfl, trivial⟩ ?_
        exact sX8_clashes_b25 O hK4 (Or.inl rfl) hM
      · replace hM := hM.2 hc
        refine zV_iconst (z := 1) O ⟨by omega, by omega⟩ dX8_clashes_20 ?_
        refine zV_goto (tgt := 25) O dX8_clashes_21 (by decide) ?_
        refine zV_sub (ls2 := [some (aR 185), none, some (aI v2)]) ⟨rfl, rfl, trivial⟩ ?_
        exact sX8_clashes_b25 O hK4 (Or.inr rfl) hM
def mX8_clashes  (h : Hp) (Q : Int → Prop) : Prop := (∃ ff, mX8_clashes_b4 h Q ff 0 1)
set_option maxHeartbeats 4000000 in
set_option maxRecDepth 100000 in
theorem sX8_clashes {l0 : Launch}  {h : Hp} {Q : Int → Prop}  (hM : mX8_clashes  h Q) : zSp l0 yX8_clashes cX8_clashes 3 (some .int) 197 (9) 0 0 [aR 185] h (qPI h Q) xN := by
  unfold mX8_clashes at hM
  refine zSp_intro zpn_RX8 (Nat.le_of_ble_eq_true rfl) (fun a O => ?_)
  show zV a (9, 0, 0, (qPI h Q), xN) 0 0 0 [some (aR 185), none, none] [] h
  refine zV_iconst (z := 0) O ⟨by omega, by omega⟩ dX8_clashes_0 ?_
  refine zV_istore_n O dX8_clashes_1 rfl (Nat.le_of_ble_eq_true rfl) rfl ?_
  refine zV_iconst (z := 1) O ⟨by omega, by omega⟩ dX8_clashes_2 ?_
  refine zV_istore_n O dX8_clashes_3 rfl (Nat.le_of_ble_eq_true rfl) rfl ?_
  obtain ⟨ff, hM⟩ := hM
  exact sX8_clashes_b4 O ff _ _ hM
def mX8_decides_b37 (Q : Int → Hp → Prop) (v1 : Int) (v2 : Int) (v3 : Int) (s0 : Int) (h : Hp) : Prop := (mX8_fails s0 2 h (fun z13 h14 => ((z13 = 0 → (mX8_decidesOf v1 v2 v3 h14 (fun z15 => (Q z15 h14)))) ∧ (¬ z13 = 0 → (Q 0 h14)))))
set_option maxHeartbeats 4000000 in
set_option maxRecDepth 100000 in
theorem sX8_decides_b37 {l0 : Launch} {a : ZC}  {Q : Int → Hp → Prop}  (O : zOk l0 a cX8_decides RX8 4 (some .int) 197 [])   {v1 : Int} {v2 : Int} {v3 : Int} {s0 : Int} {h : Hp} (hz_s0 : s0 = 0 ∨ s0 = 1) (hM : mX8_decides_b37 Q v1 v2 v3 s0 h) : zV a (9, 0, 0, (qI Q), xN) 0 0 37 [some (aR 185), some (aI v1), some (aI v2), some (aI v3)] [aI s0, aR 185] h := by
  unfold mX8_decides_b37 at hM
  refine zV_iconst (z := 2) O ⟨by omega, by omega⟩ dX8_decides_37 ?_
  refine zV_callV (as := [aI s0, aI 2]) (st := []) O zc_X8_fails (Or.inl zl_RX8_201) zi_1420 zi_93 zt_185 rfl rfl (by decide) (Nat.le_of_ble_eq_true rfl) rfl rfl (Nat.le_of_ble_eq_true rfl) (Nat.le_of_ble_eq_true rfl) (Nat.le_of_ble_eq_true rfl) (Nat.le_of_ble_eq_true rfl) (Nat.le_of_ble_eq_true rfl) (Nat.le_of_ble_eq_true rfl) dX8_decides_38 (sX8_fails hM) (fun r h14 hq => ?_) (fun x h9 hq => hq.elim)
  obtain ⟨z13, rfl, hzz13, hM⟩ := hq
  refine zV_if_eq (tgt := 48) O dX8_decides_41 (by decide) (fun hc => ?_) (fun hc => ?_)
  · replace hM := hM.1 hc
    refine zV_aload_n O dX8_decides_48 rfl rfl ?_
    refine zV_iload_n O dX8_decides_49 rfl rfl ?_
    refine zV_iload_n O dX8_decides_50 rfl rfl ?_
    refine zV_iload_n O dX8_decides_51 rfl rfl ?_
    refine zV_callV (as := [aI v1, aI v2, aI v3]) (st := []) O zc_X8_decidesOf (Or.inl zl_RX8_277) zi_1632 zi_128 zt_185 rfl rfl (by decide) (Nat.le_of_ble_eq_true rfl) rfl rfl (Nat.le_of_ble_eq_true rfl) (Nat.le_of_ble_eq_true rfl) (Nat.le_of_ble_eq_true rfl) (Nat.le_of_ble_eq_true rfl) (Nat.le_of_ble_eq_true rfl) (Nat.le_of_ble_eq_true rfl) dX8_decides_52 (sX8_decidesOf hM) (fun r h9 hq => ?_) (fun x h9 hq => hq.elim)
    obtain ⟨rfl, z15, rfl, hM⟩ := hq
    exact zV_iret O rfl ⟨_, rfl, hM⟩ (Nat.le_of_ble_eq_true rfl) (Nat.le_of_ble_eq_true rfl) dX8_decides_55
  · replace hM := hM.2 hc
    refine zV_iconst (z := 0) O ⟨by omega, by omega⟩ dX8_decides_44 ?_
    refine zV_goto (tgt := 55) O dX8_decides_45 (by decide) ?_
    exact zV_iret O rfl ⟨_, rfl, hM⟩ (Nat.le_of_ble_eq_true rfl) (Nat.le_of_ble_eq_true rfl) dX8_decides_55
def mX8_decides_b36 (Q : Int → Hp → Prop) (v1 : Int) (v2 : Int) (v3 : Int) (h : Hp) : Prop := (mX8_decides_b37 Q v1 v2 v3 0 h)
set_option maxHeartbeats 4000000 in
set_option maxRecDepth 100000 in
theorem sX8_decides_b36 {l0 : Launch} {a : ZC}  {Q : Int → Hp → Prop}  (O : zOk l0 a cX8_decides RX8 4 (some .int) 197 [])   {v1 : Int} {v2 : Int} {v3 : Int} {h : Hp}  (hM : mX8_decides_b36 Q v1 v2 v3 h) : zV a (9, 0, 0, (qI Q), xN) 0 0 36 [some (aR 185), some (aI v1), some (aI v2), some (aI v3)] [aR 185] h := by
  unfold mX8_decides_b36 at hM
  refine zV_iconst (z := 0) O ⟨by omega, by omega⟩ dX8_decides_36 ?_
  exact sX8_decides_b37 O (Or.inl rfl) hM
def mX8_decides (x1 : Int) (x2 : Int) (x3 : Int) (h : Hp) (Q : Int → Hp → Prop) : Prop := (∀ h16 : Hp, h16 = hu h 185 0 0 → (mX8_isOffice x1 h16 (fun z17 => (mX8_fails z17 1 h16 (fun z18 h19 => ((¬ z18 = 0 → (Q 0 h19)) ∧ (z18 = 0 → (mX8_isNumber x2 h19 (fun z20 => ((z20 = 0 → (mX8_decides_b36 Q x1 x2 x3 h19)) ∧ (¬ z20 = 0 → (mX8_isNumber x3 h19 (fun z21 => ((z21 = 0 → (mX8_decides_b36 Q x1 x2 x3 h19)) ∧ (¬ z21 = 0 → (mX8_decides_b37 Q x1 x2 x3 1 h19))))))))))))))))
set_option maxHeartbeats 4000000 in
set_option maxRecDepth 100000 in
theorem sX8_decides {l0 : Launch} {x1 : Int} {x2 : Int} {x3 : Int} {h : Hp} {Q : Int → Hp → Prop}  (hM : mX8_decides x1 x2 x3 h Q) : zSp l0 yX8_decides cX8_decides 4 (some .int) 197 (9) 0 0 [aR 185, aI x1, aI x2, aI x3] h (qI Q) xN := by
  unfold mX8_decides at hM
  refine zSp_intro zpn_RX8 (Nat.le_of_ble_eq_true rfl) (fun a O => ?_)
  show zV a (9, 0, 0, (qI Q), xN) 0 0 0 [some (aR 185), some (aI x1), some (aI x2), some (aI x3)] [] h
  refine zV_aload_n O dX8_decides_0 rfl rfl ?_
  refine zV_iconst (z := 0) O ⟨by omega, by omega⟩ dX8_decides_1 ?_
  refine zV_putI O zf_RX8_1 zt_185 rfl (by decide) dX8_decides_2 ?_
  have hM := hM _ rfl
  generalize hu h 185 0 0 = h16 at hM ⊢
  refine zV_aload_n O dX8_decides_5 rfl rfl ?_
  refine zV_iload_n O dX8_decides_6 rfl rfl ?_
  refine zV_callS (as := [aI x1]) (st := [aR 185]) O zc_X8_isOffice (Or.inl zl_RX8_300) zi_1601 (Nat.le_of_ble_eq_true rfl) rfl rfl (Nat.le_of_ble_eq_true rfl) (Nat.le_of_ble_eq_true rfl) (Nat.le_of_ble_eq_true rfl) (Nat.le_of_ble_eq_true rfl) (Nat.le_of_ble_eq_true rfl) (Nat.le_of_ble_eq_true rfl) dX8_decides_7 (sX8_isOffice hM) (fun r h9 hq => ?_) (fun x h9 hq => hq.elim)
  obtain ⟨rfl, z17, rfl, hzz17, hM⟩ := hq
  refine zV_iconst (z := 1) O ⟨by omega, by omega⟩ dX8_decides_10 ?_
  refine zV_callV (as := [aI z17, aI 1]) (st := []) O zc_X8_fails (Or.inl zl_RX8_201) zi_1420 zi_93 zt_185 rfl rfl (by decide) (Nat.le_of_ble_eq_true rfl) rfl rfl (Nat.le_of_ble_eq_true rfl) (Nat.le_of_ble_eq_true rfl) (Nat.le_of_ble_eq_true rfl) (Nat.le_of_ble_eq_true rfl) (Nat.le_of_ble_eq_true rfl) (Nat.le_of_ble_eq_true rfl) dX8_decides_11 (sX8_fails hM) (fun r h19 hq => ?_) (fun x h9 hq => hq.elim)
  obtain ⟨z18, rfl, hzz18, hM⟩ := hq
  refine zV_if_ne (tgt := 44) O dX8_decides_14 (by decide) (fun hc => ?_) (fun hc => ?_)
  · replace hM := hM.1 hc
    refine zV_iconst (z := 0) O ⟨by omega, by omega⟩ dX8_decides_44 ?_
    refine zV_goto (tgt := 55) O dX8_decides_45 (by decide) ?_
    exact zV_iret O rfl ⟨_, rfl, hM⟩ (Nat.le_of_ble_eq_true rfl) (Nat.le_of_ble_eq_true rfl) dX8_decides_55
  · replace hM := hM.2 hc
    refine zV_aload_n O dX8_decides_17 rfl rfl ?_
    refine zV_iload_n O dX8_decides_18 rfl rfl ?_
    refine zV_callS (as := [aI x2]) (st := [aR 185]) O zc_X8_isNumber (Or.inl zl_RX8_303) zi_1604 (Nat.le_of_ble_eq_true rfl) rfl rfl (Nat.le_of_ble_eq_true rfl) (Nat.le_of_ble_eq_true rfl) (Nat.le_of_ble_eq_true rfl) (Nat.le_of_ble_eq_true rfl) (Nat.le_of_ble_eq_true rfl) (Nat.le_of_ble_eq_true rfl) dX8_decides_19 (sX8_isNumber hM) (fun r h9 hq => ?_) (fun x h9 hq => hq.elim)
    obtain ⟨rfl, z20, rfl, hzz20, hM⟩ := hq
    refine zV_if_eq (tgt := 36) O dX8_decides_22 (by decide) (fun hc => ?_) (fun hc => ?_)
    · replace hM := hM.1 hc
      exact sX8_decides_b36 O hM
    · replace hM := hM.2 hc
      refine zV_iload_n O dX8_decides_25 rfl rfl ?_
      refine zV_callS (as := [aI x3]) (st := [aR 185]) O zc_X8_isNumber (Or.inl zl_RX8_303) zi_1604 (Nat.le_of_ble_eq_true rfl) rfl rfl (Nat.le_of_ble_eq_true rfl) (Nat.le_of_ble_eq_true rfl) (Nat.le_of_ble_eq_true rfl) (Nat.le_of_ble_eq_true rfl) (Nat.le_of_ble_eq_true rfl) (Nat.le_of_ble_eq_true rfl) dX8_decides_26 (sX8_isNumber hM) (fun r h9 hq => ?_) (fun x h9 hq => hq.elim)
      obtain ⟨rfl, z21, rfl, hzz21, hM⟩ := hq
      refine zV_if_eq (tgt := 36) O dX8_decides_29 (by decide) (fun hc => ?_) (fun hc => ?_)
      · replace hM := hM.1 hc
        exact sX8_decides_b36 O hM
      · replace hM := hM.2 hc
        refine zV_iconst (z := 1) O ⟨by omega, by omega⟩ dX8_decides_32 ?_
        refine zV_goto (tgt := 37) O dX8_decides_33 (by decide) ?_
        exact sX8_decides_b37 O (Or.inr rfl) hM
def mX8_freeNumber  (h : Hp) (Q : Int → Hp → Prop) : Prop := (∀ h3 : Hp, h3 = hu h 185 0 0 → (mX8_firstFree h3 (fun z4 => (Q z4 h3))))
set_option maxHeartbeats 4000000 in
set_option maxRecDepth 100000 in
theorem sX8_freeNumber {l0 : Launch}  {h : Hp} {Q : Int → Hp → Prop}  (hM : mX8_freeNumber  h Q) : zSp l0 yX8_freeNumber cX8_freeNumber 1 (some .int) 197 (9) 0 0 [aR 185] h (qI Q) xN := by
  unfold mX8_freeNumber at hM
  refine zSp_intro zpn_RX8 (Nat.le_of_ble_eq_true rfl) (fun a O => ?_)
  show zV a (9, 0, 0, (qI Q), xN) 0 0 0 [some (aR 185)] [] h
  refine zV_aload_n O dX8_freeNumber_0 rfl rfl ?_
  refine zV_iconst (z := 0) O ⟨by omega, by omega⟩ dX8_freeNumber_1 ?_
  refine zV_putI O zf_RX8_1 zt_185 rfl (by decide) dX8_freeNumber_2 ?_
  have hM := hM _ rfl
  generalize hu h 185 0 0 = h3 at hM ⊢
  refine zV_aload_n O dX8_freeNumber_5 rfl rfl ?_
  refine zV_callV (as := []) (st := []) O zc_X8_firstFree (Or.inl zl_RX8_320) zi_1668 zi_134 zt_185 rfl rfl (by decide) (Nat.le_of_ble_eq_true rfl) rfl rfl (Nat.le_of_ble_eq_true rfl) (Nat.le_of_ble_eq_true rfl) (Nat.le_of_ble_eq_true rfl) (Nat.le_of_ble_eq_true rfl) (Nat.le_of_ble_eq_true rfl) (Nat.le_of_ble_eq_true rfl) dX8_freeNumber_6 (sX8_firstFree hM) (fun r h9 hq => ?_) (fun x h9 hq => hq.elim)
  obtain ⟨rfl, z4, rfl, hM⟩ := hq
  exact zV_iret O rfl ⟨_, rfl, hM⟩ (Nat.le_of_ble_eq_true rfl) (Nat.le_of_ble_eq_true rfl) dX8_freeNumber_9
def mX8_hasClash (x1 : Int) (h : Hp) (Q : Int → Prop) : Prop := (mX8_of x1 1 h (fun z6 => (mX8_isClash z6 h (fun z7 => ((¬ z7 = 0 → (Q 1)) ∧ (z7 = 0 → (mX8_kept x1 h (fun z8 => ((z8 ≤ 0 → (Q 0)) ∧ (¬ z8 ≤ 0 → (mX8_kept x1 h (fun z9 => (mX8_isClash z9 h (fun z10 => ((z10 = 0 → (Q 0)) ∧ (¬ z10 = 0 → (Q 1)))))))))))))))))
set_option maxHeartbeats 4000000 in
set_option maxRecDepth 100000 in
theorem sX8_hasClash {l0 : Launch} {x1 : Int} {h : Hp} {Q : Int → Prop}  (hM : mX8_hasClash x1 h Q) : zSp l0 yX8_hasClash cX8_hasClash 2 (some .boolean) 197 (9) 0 0 [aR 185, aI x1] h (qPZ h Q) xN := by
  unfold mX8_hasClash at hM
  refine zSp_intro zpn_RX8 (Nat.le_of_ble_eq_true rfl) (fun a O => ?_)
  show zV a (9, 0, 0, (qPZ h Q), xN) 0 0 0 [some (aR 185), some (aI x1)] [] h
  refine zV_aload_n O dX8_hasClash_0 rfl rfl ?_
  refine zV_aload_n O dX8_hasClash_1 rfl rfl ?_
  refine zV_iload_n O dX8_hasClash_2 rfl rfl ?_
  refine zV_iconst (z := 1) O ⟨by omega, by omega⟩ dX8_hasClash_3 ?_
  refine zV_callV (as := [aI x1, aI 1]) (st := [aR 185]) O zc_X8_of (Or.inl zl_RX8_218) zi_1549 zi_117 zt_185 rfl rfl (by decide) (Nat.le_of_ble_eq_true rfl) rfl rfl (Nat.le_of_ble_eq_true rfl) (Nat.le_of_ble_eq_true rfl) (Nat.le_of_ble_eq_true rfl) (Nat.le_of_ble_eq_true rfl) (Nat.le_of_ble_eq_true rfl) (Nat.le_of_ble_eq_true rfl) dX8_hasClash_4 (sX8_of hM) (fun r h9 hq => ?_) (fun x h9 hq => hq.elim)
  obtain ⟨rfl, z6, rfl, hM⟩ := hq
  refine zV_callV (as := [aI z6]) (st := []) O zc_X8_isClash (Or.inl zl_RX8_239) zi_1557 zi_119 zt_185 rfl rfl (by decide) (Nat.le_of_ble_eq_true rfl) rfl rfl (Nat.le_of_ble_eq_true rfl) (Nat.le_of_ble_eq_true rfl) (Nat.le_of_ble_eq_true rfl) (Nat.le_of_ble_eq_true rfl) (Nat.le_of_ble_eq_true rfl) (Nat.le_of_ble_eq_true rfl) dX8_hasClash_7 (sX8_isClash hM) (fun r h9 hq => ?_) (fun x h9 hq => hq.elim)
  obtain ⟨rfl, z7, rfl, hzz7, hM⟩ := hq
  refine zV_if_ne (tgt := 33) O dX8_hasClash_10 (by decide) (fun hc => ?_) (fun hc => ?_)
  · replace hM := hM.1 hc
    refine zV_iconst (z := 1) O ⟨by omega, by omega⟩ dX8_hasClash_33 ?_
    refine zV_goto (tgt := 38) O dX8_hasClash_34 (by decide) ?_
    exact zV_zret O rfl (Or.inr rfl) ⟨rfl, _, rfl, (Or.inr rfl), hM⟩ (Nat.le_of_ble_eq_true rfl) (Nat.le_of_ble_eq_true rfl) dX8_hasClash_38
  · replace hM := hM.2 hc
    refine zV_aload_n O dX8_hasClash_13 rfl rfl ?_
    refine zV_iload_n O dX8_hasClash_14 rfl rfl ?_
    refine zV_callV (as := [aI x1]) (st := []) O zc_X8_kept (Or.inl zl_RX8_227) zi_1569 zi_122 zt_185 rfl rfl (by decide) (Nat.le_of_ble_eq_true rfl) rfl rfl (Nat.le_of_ble_eq_true rfl) (Nat.le_of_ble_eq_true rfl) (Nat.le_of_ble_eq_true rfl) (Nat.le_of_ble_eq_true rfl) (Nat.le_of_ble_eq_true rfl) (Nat.le_of_ble_eq_true rfl) dX8_hasClash_15 (sX8_kept hM) (fun r h9 hq => ?_) (fun x h9 hq => hq.elim)
    obtain ⟨rfl, z8, rfl, hM⟩ := hq
    refine zV_if_le (tgt := 37) O dX8_hasClash_18 (by decide) (fun hc => ?_) (fun hc => ?_)
    · replace hM := hM.1 hc
      refine zV_iconst (z := 0) O ⟨by omega, by omega⟩ dX8_hasClash_37 ?_
      exact zV_zret O rfl (Or.inl rfl) ⟨rfl, _, rfl, (Or.inl rfl), hM⟩ (Nat.le_of_ble_eq_true rfl) (Nat.le_of_ble_eq_true rfl) dX8_hasClash_38
    · replace hM := hM.2 hc
      refine zV_aload_n O dX8_hasClash_21 rfl rfl ?_
      refine zV_aload_n O dX8_hasClash_22 rfl rfl ?_
      refine zV_iload_n O dX8_hasClash_23 rfl rfl ?_
      refine zV_callV (as := [aI x1]) (st := [aR 185]) O zc_X8_kept (Or.inl zl_RX8_227) zi_1569 zi_122 zt_185 rfl rfl (by decide) (Nat.le_of_ble_eq_true rfl) rfl rfl (Nat.le_of_ble_eq_true rfl) (Nat.le_of_ble_eq_true rfl) (Nat.le_of_ble_eq_true rfl) (Nat.le_of_ble_eq_true rfl) (Nat.le_of_ble_eq_true rfl) (Nat.le_of_ble_eq_true rfl) dX8_hasClash_24 (sX8_kept hM) (fun r h9 hq => ?_) (fun x h9 hq => hq.elim)
      obtain ⟨rfl, z9, rfl, hM⟩ := hq
      refine zV_callV (as := [aI z9]) (st := []) O zc_X8_isClash (Or.inl zl_RX8_239) zi_1557 zi_119 zt_185 rfl rfl (by decide) (Nat.le_of_ble_eq_true rfl) rfl rfl (Nat.le_of_ble_eq_true rfl) (Nat.le_of_ble_eq_true rfl) (Nat.le_of_ble_eq_true rfl) (Nat.le_of_ble_eq_true rfl) (Nat.le_of_ble_eq_true rfl) (Nat.le_of_ble_eq_true rfl) dX8_hasClash_27 (sX8_isClash hM) (fun r h9 hq => ?_) (fun x h9 hq => hq.elim)
      obtain ⟨rfl, z10, rfl, hzz10, hM⟩ := hq
      refine zV_if_eq (tgt := 37) O dX8_hasClash_30 (by decide) (fun hc => ?_) (fun hc => ?_)
      · replace hM := hM.1 hc
        refine zV_iconst (z := 0) O ⟨by omega, by omega⟩ dX8_hasClash_37 ?_
        exact zV_zret O rfl (Or.inl rfl) ⟨rfl, _, rfl, (Or.inl rfl), hM⟩ (Nat.le_of_ble_eq_true rfl) (Nat.le_of_ble_eq_true rfl) dX8_hasClash_38
      · replace hM := hM.2 hc
        refine zV_iconst (z := 1) O ⟨by omega, by omega⟩ dX8_hasClash_33 ?_
        refine zV_goto (tgt := 38) O dX8_hasClash_34 (by decide) ?_
        exact zV_zret O rfl (Or.inr rfl) ⟨rfl, _, rfl, (Or.inr rfl), hM⟩ (Nat.le_of_ble_eq_true rfl) (Nat.le_of_ble_eq_true rfl) dX8_hasClash_38
def mX8_rewrites  (h : Hp) (Q : Int → Hp → Prop) : Prop := (∀ h6 : Hp, h6 = hu h 185 0 0 → (mX8_laysAside h6 (fun h7 => (mX8_movesIf h7 (fun z8 h9 => (mX8_laysBack h9 (fun h10 => ((¬ z8 = 0 → (Q (-1) h10)) ∧ (z8 = 0 → (Q (h10 185 20) h10))))))))))
set_option maxHeartbeats 4000000 in
set_option maxRecDepth 100000 in
theorem sX8_rewrites {l0 : Launch}  {h : Hp} {Q : Int → Hp → Prop}  (hM : mX8_rewrites  h Q) : zSp l0 yX8_rewrites cX8_rewrites 2 (some .int) 197 (9) 0 0 [aR 185] h (qI Q) xN := by
  unfold mX8_rewrites at hM
  refine zSp_intro zpn_RX8 (Nat.le_of_ble_eq_true rfl) (fun a O => ?_)
  show zV a (9, 0, 0, (qI Q), xN) 0 0 0 [some (aR 185), none] [] h
  refine zV_aload_n O dX8_rewrites_0 rfl rfl ?_
  refine zV_iconst (z := 0) O ⟨by omega, by omega⟩ dX8_rewrites_1 ?_
  refine zV_putI O zf_RX8_1 zt_185 rfl (by decide) dX8_rewrites_2 ?_
  have hM := hM _ rfl
  generalize hu h 185 0 0 = h6 at hM ⊢
  refine zV_aload_n O dX8_rewrites_5 rfl rfl ?_
  refine zV_callV (as := []) (st := []) O zc_X8_laysAside (Or.inl zl_RX8_323) zi_1680 zi_136 zt_185 rfl rfl (by decide) (Nat.le_of_ble_eq_true rfl) rfl rfl (Nat.le_of_ble_eq_true rfl) (Nat.le_of_ble_eq_true rfl) (Nat.le_of_ble_eq_true rfl) (Nat.le_of_ble_eq_true rfl) (Nat.le_of_ble_eq_true rfl) (Nat.le_of_ble_eq_true rfl) dX8_rewrites_6 (sX8_laysAside hM) (fun r h7 hq => ?_) (fun x h9 hq => hq.elim)
  obtain ⟨rfl, hM⟩ := hq
  refine zV_aload_n O dX8_rewrites_9 rfl rfl ?_
  refine zV_callV (as := []) (st := []) O zc_X8_movesIf (Or.inl zl_RX8_326) zi_1684 zi_137 zt_185 rfl rfl (by decide) (Nat.le_of_ble_eq_true rfl) rfl rfl (Nat.le_of_ble_eq_true rfl) (Nat.le_of_ble_eq_true rfl) (Nat.le_of_ble_eq_true rfl) (Nat.le_of_ble_eq_true rfl) (Nat.le_of_ble_eq_true rfl) (Nat.le_of_ble_eq_true rfl) dX8_rewrites_10 (sX8_movesIf hM) (fun r h9 hq => ?_) (fun x h9 hq => hq.elim)
  obtain ⟨z8, rfl, hM⟩ := hq
  refine zV_istore_n O dX8_rewrites_13 rfl (Nat.le_of_ble_eq_true rfl) rfl ?_
  refine zV_aload_n O dX8_rewrites_14 rfl rfl ?_
  refine zV_callV (as := []) (st := []) O zc_X8_laysBack (Or.inl zl_RX8_329) zi_1716 zi_145 zt_185 rfl rfl (by decide) (Nat.le_of_ble_eq_true rfl) rfl rfl (Nat.le_of_ble_eq_true rfl) (Nat.le_of_ble_eq_true rfl) (Nat.le_of_ble_eq_true rfl) (Nat.le_of_ble_eq_true rfl) (Nat.le_of_ble_eq_true rfl) (Nat.le_of_ble_eq_true rfl) dX8_rewrites_15 (sX8_laysBack hM) (fun r h10 hq => ?_) (fun x h9 hq => hq.elim)
  obtain ⟨rfl, hM⟩ := hq
  refine zV_iload_n O dX8_rewrites_18 rfl rfl ?_
  refine zV_if_ne (tgt := 29) O dX8_rewrites_19 (by decide) (fun hc => ?_) (fun hc => ?_)
  · replace hM := hM.1 hc
    refine zV_iconst (z := -1) O ⟨by omega, by omega⟩ dX8_rewrites_29 ?_
    exact zV_iret O rfl ⟨_, rfl, hM⟩ (Nat.le_of_ble_eq_true rfl) (Nat.le_of_ble_eq_true rfl) dX8_rewrites_30
  · replace hM := hM.2 hc
    refine zV_aload_n O dX8_rewrites_22 rfl rfl ?_
    refine zV_getI O zf_RX8_261 zt_185 rfl (by decide) dX8_rewrites_23 ?_
    refine zV_goto (tgt := 30) O dX8_rewrites_26 (by decide) ?_
    exact zV_iret O rfl ⟨_, rfl, hM⟩ (Nat.le_of_ble_eq_true rfl) (Nat.le_of_ble_eq_true rfl) dX8_rewrites_30
def mX8_settle_b124 (Q : Int → Hp → Prop) (K17 : Int → Int → Hp → Prop) (v1 : Int) (v2 : Int) (h : Hp) : Prop := (zr (v2 + 1) ∧ (K17 v1 (v2 + 1) h))
set_option maxHeartbeats 4000000 in
set_option maxRecDepth 100000 in
theorem sX8_settle_b124 {l0 : Launch} {a : ZC}  {Q : Int → Hp → Prop} {K17 : Int → Int → Hp → Prop} (O : zOk l0 a cX8_settle RX8 6 (some .int) 197 [])  (hK17 : ∀ (v1 : Int) (v2 : Int) (h : Hp), K17 v1 v2 h → zV a (9, 0, 0, (qI Q), xN) 0 0 17 [some (aR 185), some (aI v1), some (aI v2), none, none, none] [] h) {v1 : Int} {v2 : Int} {h : Hp}  (hM : mX8_settle_b124 Q K17 v1 v2 h) : zV a (9, 0, 0, (qI Q), xN) 0 0 124 [some (aR 185), some (aI v1), some (aI v2), none, none, none] [] h := by
  unfold mX8_settle_b124 at hM
  obtain ⟨hc, hM⟩ := hM
  refine zV_iinc O dX8_settle_124 rfl (Nat.le_of_ble_eq_true rfl) rfl hc ?_
  refine zV_goto (tgt := 17) O dX8_settle_127 (by decide) ?_
  exact hK17 _ _ _ hM
def mX8_settle_b54 (Q : Int → Hp → Prop) (K17 : Int → Int → Hp → Prop) (v1 : Int) (v2 : Int) (v3 : Int) (h : Hp) : Prop := ((v3 = ((-1) : Int) → (mX8_settle_b124 Q K17 v1 v2 h)) ∧ (¬ v3 = ((-1) : Int) → (mX8_of v3 4 h (fun z43 => ((z43 = 0 → (mX8_firstFree h (fun z44 => (mX8_firstWave h (fun z45 => ((z44 = ((-1) : Int) → (Q v1 h)) ∧ (¬ z44 = ((-1) : Int) → ((¬ z45 = ((-1) : Int) → (mX8_cell v3 3 h (fun z46 => (((0 : Int) ≤ z46 ∧ z46 < 1096) ∧ (∀ h47 : Hp, h47 = wr h 186 z46 z44 → (mX8_cell v3 4 h47 (fun z48 => (((0 : Int) ≤ z48 ∧ z48 < 1096) ∧ (∀ h49 : Hp, h49 = wr h47 186 z48 z45 → (zr (v1 + 1) ∧ (mX8_settle_b124 Q K17 (v1 + 1) v2 h49))))))))))) ∧ (z45 = ((-1) : Int) → (Q v1 h)))))))))) ∧ (¬ z43 = 0 → (mX8_settle_b124 Q K17 v1 v2 h)))))))
set_option maxHeartbeats 4000000 in
set_option maxRecDepth 100000 in
theorem sX8_settle_b54 {l0 : Launch} {a : ZC}  {Q : Int → Hp → Prop} {K17 : Int → Int → Hp → Prop} (O : zOk l0 a cX8_settle RX8 6 (some .int) 197 [])  (hK17 : ∀ (v1 : Int) (v2 : Int) (h : Hp), K17 v1 v2 h → zV a (9, 0, 0, (qI Q), xN) 0 0 17 [some (aR 185), some (aI v1), some (aI v2), none, none, none] [] h) {v1 : Int} {v2 : Int} {v3 : Int} {h : Hp}  (hM : mX8_settle_b54 Q K17 v1 v2 v3 h) : zV a (9, 0, 0, (qI Q), xN) 0 0 54 [some (aR 185), some (aI v1), some (aI v2), some (aI v3), none, none] [] h := by
  unfold mX8_settle_b54 at hM
  refine zV_iload_n O dX8_settle_54 rfl rfl ?_
  refine zV_iconst (z := -1) O ⟨by omega, by omega⟩ dX8_settle_55 ?_
  refine zV_icmp_eq (tgt := 124) O dX8_settle_56 (by decide) (fun hc => ?_) (fun hc => ?_)
  · replace hM := hM.1 hc
    refine zV_sub (ls2 := [some (aR 185), some (aI v1), some (aI v2), none, none, none]) ⟨rfl, rfl, rfl, trivial⟩ ?_
    exact sX8_settle_b124 O hK17 hM
  · replace hM := hM.2 hc
    refine zV_aload_n O dX8_settle_59 rfl rfl ?_
    refine zV_iload_n O dX8_settle_60 rfl rfl ?_
    refine zV_iconst (z := 4) O ⟨by omega, by omega⟩ dX8_settle_61 ?_
    refine zV_callV (as := [aI v3, aI 4]) (st := []) O zc_X8_of (Or.inl zl_RX8_218) zi_1549 zi_117 zt_185 rfl rfl (by decide) (Nat.le_of_ble_eq_true rfl) rfl rfl (Nat.le_of_ble_eq_true rfl) (Nat.le_of_ble_eq_true rfl) (Nat.le_of_ble_eq_true rfl) (Nat.le_of_ble_eq_true rfl) (Nat.le_of_ble_eq_true rfl) (Nat.le_of_ble_eq_true rfl) dX8_settle_62 (sX8_of hM) (fun r h9 hq => ?_) (fun x h9 hq => hq.elim)
    obtain ⟨rfl, z43, rfl, hM⟩ := hq
    refine zV_if_eq (tgt := 71) O dX8_settle_65 (by decide) (fun hc => ?_) (fun hc => ?_)
    · replace hM := hM.1 hc
      refine zV_aload_n O dX8_settle_71 rfl rfl ?_
      refine zV_callV (as := []) (st := []) O zc_X8_firstFree (Or.inl zl_RX8_320) zi_1668 zi_134 zt_185 rfl rfl (by decide) (Nat.le_of_ble_eq_true rfl) rfl rfl (Nat.le_of_ble_eq_true rfl) (Nat.le_of_ble_eq_true rfl) (Nat.le_of_ble_eq_true rfl) (Nat.le_of_ble_eq_true rfl) (Nat.le_of_ble_eq_true rfl) (Nat.le_of_ble_eq_true rfl) dX8_settle_72 (sX8_firstFree hM) (fun r h9 hq => ?_) (fun x h9 hq => hq.elim)
      obtain ⟨rfl, z44, rfl, hM⟩ := hq
      refine zV_istore O dX8_settle_75 (Nat.le_of_ble_eq_true rfl) rfl ?_
      refine zV_aload_n O dX8_settle_77 rfl rfl ?_
      refine zV_callV (as := []) (st := []) O zc_X8_firstWave (Or.inl zl_RX8_345) zi_1780 zi_150 zt_185 rfl rfl (by decide) (Nat.le_of_ble_eq_true rfl) rfl rfl (Nat.le_of_ble_eq_true rfl) (Nat.le_of_ble_eq_true rfl) (Nat.le_of_ble_eq_true rfl) (Nat.le_of_ble_eq_true rfl) (Nat.le_of_ble_eq_true rfl) (Nat.le_of_ble_eq_true rfl) dX8_settle_78 (sX8_firstWave hM) (fun r h9 hq => ?_) (fun x h9 hq => hq.elim)
      obtain ⟨rfl, z45, rfl, hM⟩ := hq
      refine zV_istore O dX8_settle_81 (Nat.le_of_ble_eq_true rfl) rfl ?_
      refine zV_iload O dX8_settle_83 rfl ?_
      refine zV_iconst (z := -1) O ⟨by omega, by omega⟩ dX8_settle_85 ?_
      refine zV_icmp_eq (tgt := 95) O dX8_settle_86 (by decide) (fun hc => ?_) (fun hc => ?_)
      · replace hM := hM.1 hc
        refine zV_iload_n O dX8_settle_95 rfl rfl ?_
        exact zV_iret O rfl ⟨_, rfl, hM⟩ (Nat.le_of_ble_eq_true rfl) (Nat.le_of_ble_eq_true rfl) dX8_settle_96
      · replace hM := hM.2 hc
        refine zV_iload O dX8_settle_89 rfl ?_
        refine zV_iconst (z := -1) O ⟨by omega, by omega⟩ dX8_settle_91 ?_
        refine zV_icmp_ne (tgt := 97) O dX8_settle_92 (by decide) (fun hc => ?_) (fun hc => ?_)
        · replace hM := hM.1 hc
          refine zV_aload_n O dX8_settle_97 rfl rfl ?_
          refine zV_getR O zf_RX8_13 zt_185 rfl (by decide) dX8_settle_98 ?_
          refine zV_iload_n O dX8_settle_101 rfl rfl ?_
          refine zV_iconst (z := 3) O ⟨by omega, by omega⟩ dX8_settle_102 ?_
          refine zV_callS (as := [aI v3, aI 3]) (st := [aR 186]) O zc_X8_cell (Or.inl zl_RX8_129) zi_1505 (Nat.le_of_ble_eq_true rfl) rfl rfl (Nat.le_of_ble_eq_true rfl) (Nat.le_of_ble_eq_true rfl) (Nat.le_of_ble_eq_true rfl) (Nat.le_of_ble_eq_true rfl) (Nat.le_of_ble_eq_true rfl) (Nat.le_of_ble_eq_true rfl) dX8_settle_103 (sX8_cell hM) (fun r h9 hq => ?_) (fun x h9 hq => hq.elim)
          obtain ⟨rfl, z46, rfl, hM⟩ := hq
          refine zV_iload O dX8_settle_106 rfl ?_
          obtain ⟨hc, hM⟩ := hM
          refine zV_iast O zt_186 (by decide) hc dX8_settle_108 ?_
          have hM := hM (hu h 186 (Int.toNat z46) z44) rfl
          generalize hu h 186 (Int.toNat z46) z44 = h47 at hM ⊢
          refine zV_aload_n O dX8_settle_109 rfl rfl ?_
          refine zV_getR O zf_RX8_13 zt_185 rfl (by decide) dX8_settle_110 ?_
          refine zV_iload_n O dX8_settle_113 rfl rfl ?_
          refine zV_iconst (z := 4) O ⟨by omega, by omega⟩ dX8_settle_114 ?_
          refine zV_callS (as := [aI v3, aI 4]) (st := [aR 186]) O zc_X8_cell (Or.inl zl_RX8_129) zi_1505 (Nat.le_of_ble_eq_true rfl) rfl rfl (Nat.le_of_ble_eq_true rfl) (Nat.le_of_ble_eq_true rfl) (Nat.le_of_ble_eq_true rfl) (Nat.le_of_ble_eq_true rfl) (Nat.le_of_ble_eq_true rfl) (Nat.le_of_ble_eq_true rfl) dX8_settle_115 (sX8_cell hM) (fun r h9 hq => ?_) (fun x h9 hq => hq.elim)
          obtain ⟨rfl, z48, rfl, hM⟩ := hq
          refine zV_iload O dX8_settle_118 rfl ?_
          obtain ⟨hc, hM⟩ := hM
          refine zV_iast O zt_186 (by decide) hc dX8_settle_120 ?_
          have hM := hM (hu h47 186 (Int.toNat z48) z45) rfl
          generalize hu h47 186 (Int.toNat z48) z45 = h49 at hM ⊢
          obtain ⟨hc, hM⟩ := hM
          refine zV_iinc O dX8_settle_121 rfl (Nat.le_of_ble_eq_true rfl) rfl hc ?_
          refine zV_sub (ls2 := [some (aR 185), some (aI (v1 + 1)), some (aI v2), none, none, none]) ⟨rfl, rfl, rfl, trivial⟩ ?_
          exact sX8_settle_b124 O hK17 hM
        · replace hM := hM.2 hc
          refine zV_iload_n O dX8_settle_95 rfl rfl ?_
          exact zV_iret O rfl ⟨_, rfl, hM⟩ (Nat.le_of_ble_eq_true rfl) (Nat.le_of_ble_eq_true rfl) dX8_settle_96
    · replace hM := hM.2 hc
      refine zV_goto (tgt := 124) O dX8_settle_68 (by decide) ?_
      refine zV_sub (ls2 := [some (aR 185), some (aI v1), some (aI v2), none, none, none]) ⟨rfl, rfl, rfl, trivial⟩ ?_
      exact sX8_settle_b124 O hK17 hM
def mX8_settle_b17 (Q : Int → Hp → Prop) : Nat → Int → Int → Hp → Prop
  | 0 => fun _ _ _ => False
  | fu17 + 1 => fun v1 v2 h => (((250 : Int) < v2 → (Q v1 h)) ∧ (¬ (250 : Int) < v2 → (mX8_isClash v2 h (fun z50 => ((¬ z50 = 0 → (mX8_choosen 1 v2 h (fun z51 => ((¬ z51 = ((-1) : Int) → (mX8_settle_b54 Q (mX8_settle_b17 Q fu17) v1 v2 z51 h)) ∧ (z51 = ((-1) : Int) → (mX8_choosen 0 v2 h (fun z52 => (mX8_settle_b54 Q (mX8_settle_b17 Q fu17) v1 v2 z52 h)))))))) ∧ (z50 = 0 → (mX8_settle_b124 Q (mX8_settle_b17 Q fu17) v1 v2 h)))))))
set_option maxHeartbeats 4000000 in
set_option maxRecDepth 100000 in
theorem sX8_settle_b17 {l0 : Launch} {a : ZC}  {Q : Int → Hp → Prop}  (O : zOk l0 a cX8_settle RX8 6 (some .int) 197 [])   : ∀ (ff : Nat) (v1 : Int) (v2 : Int) (h : Hp), mX8_settle_b17 Q ff v1 v2 h → zV a (9, 0, 0, (qI Q), xN) 0 0 17 [some (aR 185), some (aI v1), some (aI v2), none, none, none] [] h := by
  intro ff
  induction ff with
  | zero => intro v1 v2 h hM; exact hM.elim
  | succ ff ih =>
    have hK17 := ih
    intro v1 v2 h hM
    unfold mX8_settle_b17 at hM
    refine zV_iload_n O dX8_settle_17 rfl rfl ?_
    refine zV_sipush (z := 250) O ⟨by omega, by omega⟩ rfl dX8_settle_18 ?_
    refine zV_icmp_gt (tgt := 130) O dX8_settle_21 (by decide) (fun hc => ?_) (fun hc => ?_)
    · replace hM := hM.1 hc
      refine zV_iload_n O dX8_settle_130 rfl rfl ?_
      exact zV_iret O rfl ⟨_, rfl, hM⟩ (Nat.le_of_ble_eq_true rfl) (Nat.le_of_ble_eq_true rfl) dX8_settle_131
    · replace hM := hM.2 hc
      refine zV_aload_n O dX8_settle_24 rfl rfl ?_
      refine zV_iload_n O dX8_settle_25 rfl rfl ?_
      refine zV_callV (as := [aI v2]) (st := []) O zc_X8_isClash (Or.inl zl_RX8_239) zi_1557 zi_119 zt_185 rfl rfl (by decide) (Nat.le_of_ble_eq_true rfl) rfl rfl (Nat.le_of_ble_eq_true rfl) (Nat.le_of_ble_eq_true rfl) (Nat.le_of_ble_eq_true rfl) (Nat.le_of_ble_eq_true rfl) (Nat.le_of_ble_eq_true rfl) (Nat.le_of_ble_eq_true rfl) dX8_settle_26 (sX8_isClash hM) (fun r h9 hq => ?_) (fun x h9 hq => hq.elim)
      obtain ⟨rfl, z50, rfl, hzz50, hM⟩ := hq
      refine zV_if_ne (tgt := 35) O dX8_settle_29 (by decide) (fun hc => ?_) (fun hc => ?_)
      · replace hM := hM.1 hc
        refine zV_aload_n O dX8_settle_35 rfl rfl ?_
        refine zV_iconst (z := 1) O ⟨by omega, by omega⟩ dX8_settle_36 ?_
        refine zV_iload_n O dX8_settle_37 rfl rfl ?_
        refine zV_callV (as := [aI 1, aI v2]) (st := []) O zc_X8_choosen (Or.inl zl_RX8_342) zi_1776 zi_149 zt_185 rfl rfl (by decide) (Nat.le_of_ble_eq_true rfl) rfl rfl (Nat.le_of_ble_eq_true rfl) (Nat.le_of_ble_eq_true rfl) (Nat.le_of_ble_eq_true rfl) (Nat.le_of_ble_eq_true rfl) (Nat.le_of_ble_eq_true rfl) (Nat.le_of_ble_eq_true rfl) dX8_settle_38 (sX8_choosen hM) (fun r h9 hq => ?_) (fun x h9 hq => hq.elim)
        obtain ⟨rfl, z51, rfl, hM⟩ := hq
        refine zV_istore_n O dX8_settle_41 rfl (Nat.le_of_ble_eq_true rfl) rfl ?_
        refine zV_iload_n O dX8_settle_42 rfl rfl ?_
        refine zV_iconst (z := -1) O ⟨by omega, by omega⟩ dX8_settle_43 ?_
        refine zV_icmp_ne (tgt := 54) O dX8_settle_44 (by decide) (fun hc => ?_) (fun hc => ?_)
        · replace hM := hM.1 hc
          exact sX8_settle_b54 O hK17 hM
        · replace hM := hM.2 hc
          refine zV_aload_n O dX8_settle_47 rfl rfl ?_
          refine zV_iconst (z := 0) O ⟨by omega, by omega⟩ dX8_settle_48 ?_
          refine zV_iload_n O dX8_settle_49 rfl rfl ?_
          refine zV_callV (as := [aI 0, aI v2]) (st := []) O zc_X8_choosen (Or.inl zl_RX8_342) zi_1776 zi_149 zt_185 rfl rfl (by decide) (Nat.le_of_ble_eq_true rfl) rfl rfl (Nat.le_of_ble_eq_true rfl) (Nat.le_of_ble_eq_true rfl) (Nat.le_of_ble_eq_true rfl) (Nat.le_of_ble_eq_true rfl) (Nat.le_of_ble_eq_true rfl) (Nat.le_of_ble_eq_true rfl) dX8_settle_50 (sX8_choosen hM) (fun r h9 hq => ?_) (fun x h9 hq => hq.elim)
          obtain ⟨rfl, z52, rfl, hM⟩ := hq
          refine zV_istore_n O dX8_settle_53 rfl (Nat.le_of_ble_eq_true rfl) rfl ?_
          exact sX8_settle_b54 O hK17 hM
      · replace hM := hM.2 hc
        refine zV_goto (tgt := 124) O dX8_settle_32 (by decide) ?_
        exact sX8_settle_b124 O hK17 hM
def mX8_settle  (h : Hp) (Q : Int → Hp → Prop) : Prop := (∀ h53 : Hp, h53 = hu h 185 0 0 → (mX8_keeps 186 1096 h53 (fun h54 => (∃ ff, mX8_settle_b17 Q ff 0 1 h54))))
set_option maxHeartbeats 4000000 in
set_option maxRecDepth 100000 in
theorem sX8_settle {l0 : Launch}  {h : Hp} {Q : Int → Hp → Prop}  (hM : mX8_settle  h Q) : zSp l0 yX8_settle cX8_settle 6 (some .int) 197 (9) 0 0 [aR 185] h (qI Q) xN := by
  unfold mX8_settle at hM
  refine zSp_intro zpn_RX8 (Nat.le_of_ble_eq_true rfl) (fun a O => ?_)
  show zV a (9, 0, 0, (qI Q), xN) 0 0 0 [some (aR 185), none, none, none, none, none] [] h
  refine zV_aload_n O dX8_settle_0 rfl rfl ?_
  refine zV_iconst (z := 0) O ⟨by omega, by omega⟩ dX8_settle_1 ?_
  refine zV_putI O zf_RX8_1 zt_185 rfl (by decide) dX8_settle_2 ?_
  have hM := hM _ rfl
  generalize hu h 185 0 0 = h53 at hM ⊢
  refine zV_aload_n O dX8_settle_5 rfl rfl ?_
  refine zV_aload_n O dX8_settle_6 rfl rfl ?_
  refine zV_getR O zf_RX8_13 zt_185 rfl (by decide) dX8_settle_7 ?_
  refine zV_callV (as := [aR 186]) (st := []) O zc_X8_keeps (Or.inl zl_RX8_335) zi_1752 zi_147 zt_185 rfl rfl (by decide) (Nat.le_of_ble_eq_true rfl) rfl rfl (Nat.le_of_ble_eq_true rfl) (Nat.le_of_ble_eq_true rfl) (Nat.le_of_ble_eq_true rfl) (Nat.le_of_ble_eq_true rfl) (Nat.le_of_ble_eq_true rfl) (Nat.le_of_ble_eq_true rfl) dX8_settle_10 (sX8_keeps zt_186 (by decide) ⟨by decide, by decide⟩ hM) (fun r h54 hq => ?_) (fun x h9 hq => hq.elim)
  obtain ⟨rfl, hM⟩ := hq
  refine zV_iconst (z := 0) O ⟨by omega, by omega⟩ dX8_settle_13 ?_
  refine zV_istore_n O dX8_settle_14 rfl (Nat.le_of_ble_eq_true rfl) rfl ?_
  refine zV_iconst (z := 1) O ⟨by omega, by omega⟩ dX8_settle_15 ?_
  refine zV_istore_n O dX8_settle_16 rfl (Nat.le_of_ble_eq_true rfl) rfl ?_
  obtain ⟨ff, hM⟩ := hM
  exact sX8_settle_b17 O ff _ _ _ hM
def mX8_wave  (h : Hp) (Q : Int → Hp → Prop) : Prop := (∀ h7 : Hp, h7 = hu h 185 0 0 → (mX8_laysAside h7 (fun h8 => (mX8_movesIf h8 (fun z9 h10 => ((z9 = 0 → (mX8_keeps 189 1096 h10 (fun h11 => (Q (h11 185 19) h11)))) ∧ (¬ z9 = 0 → (mX8_laysBack h10 (fun h12 => (Q z9 h12))))))))))
set_option maxHeartbeats 4000000 in
set_option maxRecDepth 100000 in
theorem sX8_wave {l0 : Launch}  {h : Hp} {Q : Int → Hp → Prop}  (hM : mX8_wave  h Q) : zSp l0 yX8_wave cX8_wave 2 (some .int) 197 (9) 0 0 [aR 185] h (qI Q) xN := by
  unfold mX8_wave at hM
  refine zSp_intro zpn_RX8 (Nat.le_of_ble_eq_true rfl) (fun a O => ?_)
  show zV a (9, 0, 0, (qI Q), xN) 0 0 0 [some (aR 185), none] [] h
  refine zV_aload_n O dX8_wave_0 rfl rfl ?_
  refine zV_iconst (z := 0) O ⟨by omega, by omega⟩ dX8_wave_1 ?_
  refine zV_putI O zf_RX8_1 zt_185 rfl (by decide) dX8_wave_2 ?_
  have hM := hM _ rfl
  generalize hu h 185 0 0 = h7 at hM ⊢
  refine zV_aload_n O dX8_wave_5 rfl rfl ?_
  refine zV_callV (as := []) (st := []) O zc_X8_laysAside (Or.inl zl_RX8_323) zi_1680 zi_136 zt_185 rfl rfl (by decide) (Nat.le_of_ble_eq_true rfl) rfl rfl (Nat.le_of_ble_eq_true rfl) (Nat.le_of_ble_eq_true rfl) (Nat.le_of_ble_eq_true rfl) (Nat.le_of_ble_eq_true rfl) (Nat.le_of_ble_eq_true rfl) (Nat.le_of_ble_eq_true rfl) dX8_wave_6 (sX8_laysAside hM) (fun r h8 hq => ?_) (fun x h9 hq => hq.elim)
  obtain ⟨rfl, hM⟩ := hq
  refine zV_aload_n O dX8_wave_9 rfl rfl ?_
  refine zV_callV (as := []) (st := []) O zc_X8_movesIf (Or.inl zl_RX8_326) zi_1684 zi_137 zt_185 rfl rfl (by decide) (Nat.le_of_ble_eq_true rfl) rfl rfl (Nat.le_of_ble_eq_true rfl) (Nat.le_of_ble_eq_true rfl) (Nat.le_of_ble_eq_true rfl) (Nat.le_of_ble_eq_true rfl) (Nat.le_of_ble_eq_true rfl) (Nat.le_of_ble_eq_true rfl) dX8_wave_10 (sX8_movesIf hM) (fun r h10 hq => ?_) (fun x h9 hq => hq.elim)
  obtain ⟨z9, rfl, hM⟩ := hq
  refine zV_istore_n O dX8_wave_13 rfl (Nat.le_of_ble_eq_true rfl) rfl ?_
  refine zV_iload_n O dX8_wave_14 rfl rfl ?_
  refine zV_if_eq (tgt := 24) O dX8_wave_15 (by decide) (fun hc => ?_) (fun hc => ?_)
  · replace hM := hM.1 hc
    refine zV_aload_n O dX8_wave_24 rfl rfl ?_
    refine zV_aload_n O dX8_wave_25 rfl rfl ?_
    refine zV_getR O zf_RX8_23 zt_185 rfl (by decide) dX8_wave_26 ?_
    refine zV_callV (as := [aR 189]) (st := []) O zc_X8_keeps (Or.inl zl_RX8_335) zi_1752 zi_147 zt_185 rfl rfl (by decide) (Nat.le_of_ble_eq_true rfl) rfl rfl (Nat.le_of_ble_eq_true rfl) (Nat.le_of_ble_eq_true rfl) (Nat.le_of_ble_eq_true rfl) (Nat.le_of_ble_eq_true rfl) (Nat.le_of_ble_eq_true rfl) (Nat.le_of_ble_eq_true rfl) dX8_wave_29 (sX8_keeps zt_189 (by decide) ⟨by decide, by decide⟩ hM) (fun r h11 hq => ?_) (fun x h9 hq => hq.elim)
    obtain ⟨rfl, hM⟩ := hq
    refine zV_aload_n O dX8_wave_32 rfl rfl ?_
    refine zV_getI O zf_RX8_248 zt_185 rfl (by decide) dX8_wave_33 ?_
    exact zV_iret O rfl ⟨_, rfl, hM⟩ (Nat.le_of_ble_eq_true rfl) (Nat.le_of_ble_eq_true rfl) dX8_wave_36
  · replace hM := hM.2 hc
    refine zV_aload_n O dX8_wave_18 rfl rfl ?_
    refine zV_callV (as := []) (st := []) O zc_X8_laysBack (Or.inl zl_RX8_329) zi_1716 zi_145 zt_185 rfl rfl (by decide) (Nat.le_of_ble_eq_true rfl) rfl rfl (Nat.le_of_ble_eq_true rfl) (Nat.le_of_ble_eq_true rfl) (Nat.le_of_ble_eq_true rfl) (Nat.le_of_ble_eq_true rfl) (Nat.le_of_ble_eq_true rfl) (Nat.le_of_ble_eq_true rfl) dX8_wave_19 (sX8_laysBack hM) (fun r h12 hq => ?_) (fun x h9 hq => hq.elim)
    obtain ⟨rfl, hM⟩ := hq
    refine zV_iload_n O dX8_wave_22 rfl rfl ?_
    exact zV_iret O rfl ⟨_, rfl, hM⟩ (Nat.le_of_ble_eq_true rfl) (Nat.le_of_ble_eq_true rfl) dX8_wave_23
def mX8_whyNot  (h : Hp) (Q : Int → Hp → Prop) : Prop := (∀ h6 : Hp, h6 = hu h 185 0 0 → (mX8_laysAside h6 (fun h7 => (mX8_movesIf h7 (fun z8 h9 => (mX8_laysBack h9 (fun h10 => (Q z8 h10))))))))
set_option maxHeartbeats 4000000 in
set_option maxRecDepth 100000 in
theorem sX8_whyNot {l0 : Launch}  {h : Hp} {Q : Int → Hp → Prop}  (hM : mX8_whyNot  h Q) : zSp l0 yX8_whyNot cX8_whyNot 2 (some .int) 197 (9) 0 0 [aR 185] h (qI Q) xN := by
  unfold mX8_whyNot at hM
  refine zSp_intro zpn_RX8 (Nat.le_of_ble_eq_true rfl) (fun a O => ?_)
  show zV a (9, 0, 0, (qI Q), xN) 0 0 0 [some (aR 185), none] [] h
  refine zV_aload_n O dX8_whyNot_0 rfl rfl ?_
  refine zV_iconst (z := 0) O ⟨by omega, by omega⟩ dX8_whyNot_1 ?_
  refine zV_putI O zf_RX8_1 zt_185 rfl (by decide) dX8_whyNot_2 ?_
  have hM := hM _ rfl
  generalize hu h 185 0 0 = h6 at hM ⊢
  refine zV_aload_n O dX8_whyNot_5 rfl rfl ?_
  refine zV_callV (as := []) (st := []) O zc_X8_laysAside (Or.inl zl_RX8_323) zi_1680 zi_136 zt_185 rfl rfl (by decide) (Nat.le_of_ble_eq_true rfl) rfl rfl (Nat.le_of_ble_eq_true rfl) (Nat.le_of_ble_eq_true rfl) (Nat.le_of_ble_eq_true rfl) (Nat.le_of_ble_eq_true rfl) (Nat.le_of_ble_eq_true rfl) (Nat.le_of_ble_eq_true rfl) dX8_whyNot_6 (sX8_laysAside hM) (fun r h7 hq => ?_) (fun x h9 hq => hq.elim)
  obtain ⟨rfl, hM⟩ := hq
  refine zV_aload_n O dX8_whyNot_9 rfl rfl ?_
  refine zV_callV (as := []) (st := []) O zc_X8_movesIf (Or.inl zl_RX8_326) zi_1684 zi_137 zt_185 rfl rfl (by decide) (Nat.le_of_ble_eq_true rfl) rfl rfl (Nat.le_of_ble_eq_true rfl) (Nat.le_of_ble_eq_true rfl) (Nat.le_of_ble_eq_true rfl) (Nat.le_of_ble_eq_true rfl) (Nat.le_of_ble_eq_true rfl) (Nat.le_of_ble_eq_true rfl) dX8_whyNot_10 (sX8_movesIf hM) (fun r h9 hq => ?_) (fun x h9 hq => hq.elim)
  obtain ⟨z8, rfl, hM⟩ := hq
  refine zV_istore_n O dX8_whyNot_13 rfl (Nat.le_of_ble_eq_true rfl) rfl ?_
  refine zV_aload_n O dX8_whyNot_14 rfl rfl ?_
  refine zV_callV (as := []) (st := []) O zc_X8_laysBack (Or.inl zl_RX8_329) zi_1716 zi_145 zt_185 rfl rfl (by decide) (Nat.le_of_ble_eq_true rfl) rfl rfl (Nat.le_of_ble_eq_true rfl) (Nat.le_of_ble_eq_true rfl) (Nat.le_of_ble_eq_true rfl) (Nat.le_of_ble_eq_true rfl) (Nat.le_of_ble_eq_true rfl) (Nat.le_of_ble_eq_true rfl) dX8_whyNot_15 (sX8_laysBack hM) (fun r h10 hq => ?_) (fun x h9 hq => hq.elim)
  obtain ⟨rfl, hM⟩ := hq
  refine zV_iload_n O dX8_whyNot_18 rfl rfl ?_
  exact zV_iret O rfl ⟨_, rfl, hM⟩ (Nat.le_of_ble_eq_true rfl) (Nat.le_of_ble_eq_true rfl) dX8_whyNot_19
def mX8_allows_b37 (Q : Int → Hp → Prop) (v1 : Int) (v2 : Int) (v3 : Int) (s0 : Int) (h : Hp) : Prop := (mX8_fails s0 2 h (fun z13 h14 => ((¬ z13 = 0 → (Q 0 h14)) ∧ (z13 = 0 → (mX8_allowsFor v1 v2 v3 h14 (fun z15 => ((z15 = 0 → (Q 0 h14)) ∧ (¬ z15 = 0 → (Q 1 h14)))))))))
set_option maxHeartbeats 4000000 in
set_option maxRecDepth 100000 in
theorem sX8_allows_b37 {l0 : Launch} {a : ZC}  {Q : Int → Hp → Prop}  (O : zOk l0 a cX8_allows RX8 4 (some .boolean) 197 [])   {v1 : Int} {v2 : Int} {v3 : Int} {s0 : Int} {h : Hp} (hz_s0 : s0 = 0 ∨ s0 = 1) (hM : mX8_allows_b37 Q v1 v2 v3 s0 h) : zV a (10, 0, 0, (qZ Q), xN) 0 0 37 [some (aR 185), some (aI v1), some (aI v2), some (aI v3)] [aI s0, aR 185] h := by
  unfold mX8_allows_b37 at hM
  refine zV_iconst (z := 2) O ⟨by omega, by omega⟩ dX8_allows_37 ?_
  refine zV_callV (as := [aI s0, aI 2]) (st := []) O zc_X8_fails (Or.inl zl_RX8_201) zi_1420 zi_93 zt_185 rfl rfl (by decide) (Nat.le_of_ble_eq_true rfl) rfl rfl (Nat.le_of_ble_eq_true rfl) (Nat.le_of_ble_eq_true rfl) (Nat.le_of_ble_eq_true rfl) (Nat.le_of_ble_eq_true rfl) (Nat.le_of_ble_eq_true rfl) (Nat.le_of_ble_eq_true rfl) dX8_allows_38 (sX8_fails hM) (fun r h14 hq => ?_) (fun x h9 hq => hq.elim)
  obtain ⟨z13, rfl, hzz13, hM⟩ := hq
  refine zV_if_ne (tgt := 58) O dX8_allows_41 (by decide) (fun hc => ?_) (fun hc => ?_)
  · replace hM := hM.1 hc
    refine zV_iconst (z := 0) O ⟨by omega, by omega⟩ dX8_allows_58 ?_
    exact zV_zret O rfl (Or.inl rfl) ⟨_, rfl, (Or.inl rfl), hM⟩ (Nat.le_of_ble_eq_true rfl) (Nat.le_of_ble_eq_true rfl) dX8_allows_59
  · replace hM := hM.2 hc
    refine zV_aload_n O dX8_allows_44 rfl rfl ?_
    refine zV_iload_n O dX8_allows_45 rfl rfl ?_
    refine zV_iload_n O dX8_allows_46 rfl rfl ?_
    refine zV_iload_n O dX8_allows_47 rfl rfl ?_
    refine zV_callV (as := [aI v1, aI v2, aI v3]) (st := []) O zc_X8_allowsFor (Or.inl zl_RX8_281) zi_1648 zi_131 zt_185 rfl rfl (by decide) (Nat.le_of_ble_eq_true rfl) rfl rfl (Nat.le_of_ble_eq_true rfl) (Nat.le_of_ble_eq_true rfl) (Nat.le_of_ble_eq_true rfl) (Nat.le_of_ble_eq_true rfl) (Nat.le_of_ble_eq_true rfl) (Nat.le_of_ble_eq_true rfl) dX8_allows_48 (sX8_allowsFor hM) (fun r h9 hq => ?_) (fun x h9 hq => hq.elim)
    obtain ⟨rfl, z15, rfl, hzz15, hM⟩ := hq
    refine zV_if_eq (tgt := 58) O dX8_allows_51 (by decide) (fun hc => ?_) (fun hc => ?_)
    · replace hM := hM.1 hc
      refine zV_iconst (z := 0) O ⟨by omega, by omega⟩ dX8_allows_58 ?_
      exact zV_zret O rfl (Or.inl rfl) ⟨_, rfl, (Or.inl rfl), hM⟩ (Nat.le_of_ble_eq_true rfl) (Nat.le_of_ble_eq_true rfl) dX8_allows_59
    · replace hM := hM.2 hc
      refine zV_iconst (z := 1) O ⟨by omega, by omega⟩ dX8_allows_54 ?_
      refine zV_goto (tgt := 59) O dX8_allows_55 (by decide) ?_
      exact zV_zret O rfl (Or.inr rfl) ⟨_, rfl, (Or.inr rfl), hM⟩ (Nat.le_of_ble_eq_true rfl) (Nat.le_of_ble_eq_true rfl) dX8_allows_59
def mX8_allows_b36 (Q : Int → Hp → Prop) (v1 : Int) (v2 : Int) (v3 : Int) (h : Hp) : Prop := (mX8_allows_b37 Q v1 v2 v3 0 h)
set_option maxHeartbeats 4000000 in
set_option maxRecDepth 100000 in
theorem sX8_allows_b36 {l0 : Launch} {a : ZC}  {Q : Int → Hp → Prop}  (O : zOk l0 a cX8_allows RX8 4 (some .boolean) 197 [])   {v1 : Int} {v2 : Int} {v3 : Int} {h : Hp}  (hM : mX8_allows_b36 Q v1 v2 v3 h) : zV a (10, 0, 0, (qZ Q), xN) 0 0 36 [some (aR 185), some (aI v1), some (aI v2), some (aI v3)] [aR 185] h := by
  unfold mX8_allows_b36 at hM
  refine zV_iconst (z := 0) O ⟨by omega, by omega⟩ dX8_allows_36 ?_
  exact sX8_allows_b37 O (Or.inl rfl) hM
def mX8_allows (x1 : Int) (x2 : Int) (x3 : Int) (h : Hp) (Q : Int → Hp → Prop) : Prop := (∀ h16 : Hp, h16 = hu h 185 0 0 → (mX8_isOffice x1 h16 (fun z17 => (mX8_fails z17 1 h16 (fun z18 h19 => ((¬ z18 = 0 → (Q 0 h19)) ∧ (z18 = 0 → (mX8_isNumber x2 h19 (fun z20 => ((z20 = 0 → (mX8_allows_b36 Q x1 x2 x3 h19)) ∧ (¬ z20 = 0 → (mX8_isNumber x3 h19 (fun z21 => ((z21 = 0 → (mX8_allows_b36 Q x1 x2 x3 h19)) ∧ (¬ z21 = 0 → (mX8_allows_b37 Q x1 x2 x3 1 h19))))))))))))))))
set_option maxHeartbeats 4000000 in
set_option maxRecDepth 100000 in
theorem sX8_allows {l0 : Launch} {x1 : Int} {x2 : Int} {x3 : Int} {h : Hp} {Q : Int → Hp → Prop}  (hM : mX8_allows x1 x2 x3 h Q) : zSp l0 yX8_allows cX8_allows 4 (some .boolean) 197 (10) 0 0 [aR 185, aI x1, aI x2, aI x3] h (qZ Q) xN := by
  unfold mX8_allows at hM
  refine zSp_intro zpn_RX8 (Nat.le_of_ble_eq_true rfl) (fun a O => ?_)
  show zV a (10, 0, 0, (qZ Q), xN) 0 0 0 [some (aR 185), some (aI x1), some (aI x2), some (aI x3)] [] h
  refine zV_aload_n O dX8_allows_0 rfl rfl ?_
  refine zV_iconst (z := 0) O ⟨by omega, by omega⟩ dX8_allows_1 ?_
  refine zV_putI O zf_RX8_1 zt_185 rfl (by decide) dX8_allows_2 ?_
  have hM := hM _ rfl
  generalize hu h 185 0 0 = h16 at hM ⊢
  refine zV_aload_n O dX8_allows_5 rfl rfl ?_
  refine zV_iload_n O dX8_allows_6 rfl rfl ?_
  refine zV_callS (as := [aI x1]) (st := [aR 185]) O zc_X8_isOffice (Or.inl zl_RX8_300) zi_1601 (Nat.le_of_ble_eq_true rfl) rfl rfl (Nat.le_of_ble_eq_true rfl) (Nat.le_of_ble_eq_true rfl) (Nat.le_of_ble_eq_true rfl) (Nat.le_of_ble_eq_true rfl) (Nat.le_of_ble_eq_true rfl) (Nat.le_of_ble_eq_true rfl) dX8_allows_7 (sX8_isOffice hM) (fun r h9 hq => ?_) (fun x h9 hq => hq.elim)
  obtain ⟨rfl, z17, rfl, hzz17, hM⟩ := hq
  refine zV_iconst (z := 1) O ⟨by omega, by omega⟩ dX8_allows_10 ?_
  refine zV_callV (as := [aI z17, aI 1]) (st := []) O zc_X8_fails (Or.inl zl_RX8_201) zi_1420 zi_93 zt_185 rfl rfl (by decide) (Nat.le_of_ble_eq_true rfl) rfl rfl (Nat.le_of_ble_eq_true rfl) (Nat.le_of_ble_eq_true rfl) (Nat.le_of_ble_eq_true rfl) (Nat.le_of_ble_eq_true rfl) (Nat.le_of_ble_eq_true rfl) (Nat.le_of_ble_eq_true rfl) dX8_allows_11 (sX8_fails hM) (fun r h19 hq => ?_) (fun x h9 hq => hq.elim)
  obtain ⟨z18, rfl, hzz18, hM⟩ := hq
  refine zV_if_ne (tgt := 58) O dX8_allows_14 (by decide) (fun hc => ?_) (fun hc => ?_)
  · replace hM := hM.1 hc
    refine zV_iconst (z := 0) O ⟨by omega, by omega⟩ dX8_allows_58 ?_
    exact zV_zret O rfl (Or.inl rfl) ⟨_, rfl, (Or.inl rfl), hM⟩ (Nat.le_of_ble_eq_true rfl) (Nat.le_of_ble_eq_true rfl) dX8_allows_59
  · replace hM := hM.2 hc
    refine zV_aload_n O dX8_allows_17 rfl rfl ?_
    refine zV_iload_n O dX8_allows_18 rfl rfl ?_
    refine zV_callS (as := [aI x2]) (st := [aR 185]) O zc_X8_isNumber (Or.inl zl_RX8_303) zi_1604 (Nat.le_of_ble_eq_true rfl) rfl rfl (Nat.le_of_ble_eq_true rfl) (Nat.le_of_ble_eq_true rfl) (Nat.le_of_ble_eq_true rfl) (Nat.le_of_ble_eq_true rfl) (Nat.le_of_ble_eq_true rfl) (Nat.le_of_ble_eq_true rfl) dX8_allows_19 (sX8_isNumber hM) (fun r h9 hq => ?_) (fun x h9 hq => hq.elim)
    obtain ⟨rfl, z20, rfl, hzz20, hM⟩ := hq
    refine zV_if_eq (tgt := 36) O dX8_allows_22 (by decide) (fun hc => ?_) (fun hc => ?_)
    · replace hM := hM.1 hc
      exact sX8_allows_b36 O hM
    · replace hM := hM.2 hc
      refine zV_iload_n O dX8_allows_25 rfl rfl ?_
      refine zV_callS (as := [aI x3]) (st := [aR 185]) O zc_X8_isNumber (Or.inl zl_RX8_303) zi_1604 (Nat.le_of_ble_eq_true rfl) rfl rfl (Nat.le_of_ble_eq_true rfl) (Nat.le_of_ble_eq_true rfl) (Nat.le_of_ble_eq_true rfl) (Nat.le_of_ble_eq_true rfl) (Nat.le_of_ble_eq_true rfl) (Nat.le_of_ble_eq_true rfl) dX8_allows_26 (sX8_isNumber hM) (fun r h9 hq => ?_) (fun x h9 hq => hq.elim)
      obtain ⟨rfl, z21, rfl, hzz21, hM⟩ := hq
      refine zV_if_eq (tgt := 36) O dX8_allows_29 (by decide) (fun hc => ?_) (fun hc => ?_)
      · replace hM := hM.1 hc
        exact sX8_allows_b36 O hM
      · replace hM := hM.2 hc
        refine zV_iconst (z := 1) O ⟨by omega, by omega⟩ dX8_allows_32 ?_
        refine zV_goto (tgt := 37) O dX8_allows_33 (by decide) ?_
        exact sX8_allows_b37 O (Or.inr rfl) hM
def mX8_clashesIn_b64 (Q : Int → Hp → Prop) (s0 : Int) (h : Hp) : Prop := (mX8_laysBack h (fun h17 => (Q s0 h17)))
set_option maxHeartbeats 4000000 in
set_option maxRecDepth 100000 in
theorem sX8_clashesIn_b64 {l0 : Launch} {a : ZC}  {Q : Int → Hp → Prop}  (O : zOk l0 a cX8_clashesIn RX8 4 (some .int) 197 [])   {s0 : Int} {h : Hp}  (hM : mX8_clashesIn_b64 Q s0 h) : zV a (10, 0, 0, (qI Q), xN) 0 0 64 [some (aR 185), none, none, none] [aI s0] h := by
  unfold mX8_clashesIn_b64 at hM
  refine zV_istore_n O dX8_clashesIn_64 rfl (Nat.le_of_ble_eq_true rfl) rfl ?_
  refine zV_aload_n O dX8_clashesIn_65 rfl rfl ?_
  refine zV_callV (as := []) (st := []) O zc_X8_laysBack (Or.inl zl_RX8_329) zi_1716 zi_145 zt_185 rfl rfl (by decide) (Nat.le_of_ble_eq_true rfl) rfl rfl (Nat.le_of_ble_eq_true rfl) (Nat.le_of_ble_eq_true rfl) (Nat.le_of_ble_eq_true rfl) (Nat.le_of_ble_eq_true rfl) (Nat.le_of_ble_eq_true rfl) (Nat.le_of_ble_eq_true rfl) dX8_clashesIn_66 (sX8_laysBack hM) (fun r h17 hq => ?_) (fun x h9 hq => hq.elim)
  obtain ⟨rfl, hM⟩ := hq
  refine zV_iload_n O dX8_clashesIn_69 rfl rfl ?_
  exact zV_iret O rfl ⟨_, rfl, hM⟩ (Nat.le_of_ble_eq_true rfl) (Nat.le_of_ble_eq_true rfl) dX8_clashesIn_70
def mX8_clashesIn_b52 (Q : Int → Hp → Prop) (v2 : Int) (h : Hp) : Prop := ((¬ v2 = 0 → (mX8_clashesIn_b64 Q (-1) h)) ∧ (v2 = 0 → (mX8_clashes h (fun z18 => (mX8_clashesIn_b64 Q z18 h)))))
set_option maxHeartbeats 4000000 in
set_option maxRecDepth 100000 in
theorem sX8_clashesIn_b52 {l0 : Launch} {a : ZC}  {Q : Int → Hp → Prop}  (O : zOk l0 a cX8_clashesIn RX8 4 (some .int) 197 [])   {v2 : Int} {h : Hp}  (hM : mX8_clashesIn_b52 Q v2 h) : zV a (10, 0, 0, (qI Q), xN) 0 0 52 [some (aR 185), none, some (aI v2), none] [] h := by
  unfold mX8_clashesIn_b52 at hM
  refine zV_iload_n O dX8_clashesIn_52 rfl rfl ?_
  refine zV_if_ne (tgt := 63) O dX8_clashesIn_53 (by decide) (fun hc => ?_) (fun hc => ?_)
  · replace hM := hM.1 hc
    refine zV_iconst (z := -1) O ⟨by omega, by omega⟩ dX8_clashesIn_63 ?_
    refine zV_sub (ls2 := [some (aR 185), none, none, none]) ⟨rfl, trivial⟩ ?_
    exact sX8_clashesIn_b64 O hM
  · replace hM := hM.2 hc
    refine zV_aload_n O dX8_clashesIn_56 rfl rfl ?_
    refine zV_callV (as := []) (st := []) O zc_X8_clashes (Or.inl zl_RX8_289) zi_1553 zi_118 zt_185 rfl rfl (by decide) (Nat.le_of_ble_eq_true rfl) rfl rfl (Nat.le_of_ble_eq_true rfl) (Nat.le_of_ble_eq_true rfl) (Nat.le_of_ble_eq_true rfl) (Nat.le_of_ble_eq_true rfl) (Nat.le_of_ble_eq_true rfl) (Nat.le_of_ble_eq_true rfl) dX8_clashesIn_57 (sX8_clashes hM) (fun r h9 hq => ?_) (fun x h9 hq => hq.elim)
    obtain ⟨rfl, z18, rfl, hM⟩ := hq
    refine zV_goto (tgt := 64) O dX8_clashesIn_60 (by decide) ?_
    refine zV_sub (ls2 := [some (aR 185), none, none, none]) ⟨rfl, trivial⟩ ?_
    exact sX8_clashesIn_b64 O hM
def mX8_clashesIn_b32 (Q : Int → Hp → Prop) : Nat → Int → Int → Int → Hp → Prop
  | 0 => fun _ _ _ _ => False
  | fu32 + 1 => fun v1 v2 v3 h => ((v1 ≤ v3 → (mX8_clashesIn_b52 Q v2 h)) ∧ (¬ v1 ≤ v3 → ((¬ v2 = 0 → (mX8_clashesIn_b52 Q v2 h)) ∧ (v2 = 0 → (mX8_movesIf h (fun z19 h20 => (zr (v3 + 1) ∧ ((mX8_clashesIn_b32 Q fu32) v1 z19 (v3 + 1) h20))))))))
set_option maxHeartbeats 4000000 in
set_option maxRecDepth 100000 in
theorem sX8_clashesIn_b32 {l0 : Launch} {a : ZC}  {Q : Int → Hp → Prop}  (O : zOk l0 a cX8_clashesIn RX8 4 (some .int) 197 [])   : ∀ (ff : Nat) (v1 : Int) (v2 : Int) (v3 : Int) (h : Hp), mX8_clashesIn_b32 Q ff v1 v2 v3 h → zV a (10, 0, 0, (qI Q), xN) 0 0 32 [some (aR 185), some (aI v1), some (aI v2), some (aI v3)] [] h := by
  intro ff
  induction ff with
  | zero => intro v1 v2 v3 h hM; exact hM.elim
  | succ ff ih =>
    have hK32 := ih
    intro v1 v2 v3 h hM
    unfold mX8_clashesIn_b32 at hM
    refine zV_iload_n O dX8_clashesIn_32 rfl rfl ?_
    refine zV_iload_n O dX8_clashesIn_33 rfl rfl ?_
    refine zV_icmp_ge (tgt := 52) O dX8_clashesIn_34 (by decide) (fun hc => ?_) (fun hc => ?_)
    · replace hM := hM.1 hc
      refine zV_sub (ls2 := [some (aR 185), none, some (aI v2), none]) ⟨rfl, rfl, trivial⟩ ?_
      exact sX8_clashesIn_b52 O hM
    · replace hM := hM.2 hc
      refine zV_iload_n O dX8_clashesIn_37 rfl rfl ?_
      refine zV_if_ne (tgt := 52) O dX8_clashesIn_38 (by decide) (fun hc => ?_) (fun hc => ?_)
      · replace hM := hM.1 hc
        refine zV_sub (ls2 := [some (aR 185), none, some (aI v2), none]) ⟨rfl, rfl, trivial⟩ ?_
        exact sX8_clashesIn_b52 O hM
      · replace hM := hM.2 hc
        refine zV_aload_n O dX8_clashesIn_41 rfl rfl ?_
        refine zV_callV (as := []) (st := []) O zc_X8_movesIf (Or.inl zl_RX8_326) zi_1684 zi_137 zt_185 rfl rfl (by decide) (Nat.le_of_ble_eq_true rfl) rfl rfl (Nat.le_of_ble_eq_true rfl) (Nat.le_of_ble_eq_true rfl) (Nat.le_of_ble_eq_true rfl) (Nat.le_of_ble_eq_true rfl) (Nat.le_of_ble_eq_true rfl) (Nat.le_of_ble_eq_true rfl) dX8_clashesIn_42 (sX8_movesIf hM) (fun r h20 hq => ?_) (fun x h9 hq => hq.elim)
        obtain ⟨z19, rfl, hM⟩ := hq
        refine zV_istore_n O dX8_clashesIn_45 rfl (Nat.le_of_ble_eq_true rfl) rfl ?_
        obtain ⟨hc, hM⟩ := hM
        refine zV_iinc O dX8_clashesIn_46 rfl (Nat.le_of_ble_eq_true rfl) rfl hc ?_
        refine zV_goto (tgt := 32) O dX8_clashesIn_49 (by decide) ?_
        exact hK32 _ _ _ _ hM
def mX8_clashesIn (x1 : Int) (h : Hp) (Q : Int → Hp → Prop) : Prop := (∀ h21 : Hp, h21 = hu h 185 0 0 → (mX8_in x1 0 9 h21 (fun z22 => (mX8_fails z22 1 h21 (fun z23 h24 => ((z23 = 0 → (mX8_laysAside h24 (fun h25 => (∃ ff, mX8_clashesIn_b32 Q ff x1 0 0 h25)))) ∧ (¬ z23 = 0 → (Q 0 h24))))))))
set_option maxHeartbeats 4000000 in
set_option maxRecDepth 100000 in
theorem sX8_clashesIn {l0 : Launch} {x1 : Int} {h : Hp} {Q : Int → Hp → Prop}  (hM : mX8_clashesIn x1 h Q) : zSp l0 yX8_clashesIn cX8_clashesIn 4 (some .int) 197 (10) 0 0 [aR 185, aI x1] h (qI Q) xN := by
  unfold mX8_clashesIn at hM
  refine zSp_intro zpn_RX8 (Nat.le_of_ble_eq_true rfl) (fun a O => ?_)
  show zV a (10, 0, 0, (qI Q), xN) 0 0 0 [some (aR 185), some (aI x1), none, none] [] h
  refine zV_aload_n O dX8_clashesIn_0 rfl rfl ?_
  refine zV_iconst (z := 0) O ⟨by omega, by omega⟩ dX8_clashesIn_1 ?_
  refine zV_putI O zf_RX8_1 zt_185 rfl (by decide) dX8_clashesIn_2 ?_
  have hM := hM _ rfl
  generalize hu h 185 0 0 = h21 at hM ⊢
  refine zV_aload_n O dX8_clashesIn_5 rfl rfl ?_
  refine zV_iload_n O dX8_clashesIn_6 rfl rfl ?_
  refine zV_i2l O dX8_clashesIn_7 ?_
  refine zV_lconst (z := 0) O ⟨by omega, by omega⟩ rfl dX8_clashesIn_8 ?_
  refine zV_ldc2 (z := 9) O ⟨by omega, by omega⟩ zi_1533.1 zi_1533.2 dX8_clashesIn_9 ?_
  refine zV_callS (as := [aL x1, aL 0, aL 9]) (st := [aR 185]) O zc_X8_in (Or.inl zl_RX8_125) zi_1416 (Nat.le_of_ble_eq_true rfl) rfl rfl (Nat.le_of_ble_eq_true rfl) (Nat.le_of_ble_eq_true rfl) (Nat.le_of_ble_eq_true rfl) (Nat.le_of_ble_eq_true rfl) (Nat.le_of_ble_eq_true rfl) (Nat.le_of_ble_eq_true rfl) dX8_clashesIn_12 (sX8_in hM) (fun r h9 hq => ?_) (fun x h9 hq => hq.elim)
  obtain ⟨rfl, z22, rfl, hzz22, hM⟩ := hq
  refine zV_iconst (z := 1) O ⟨by omega, by omega⟩ dX8_clashesIn_15 ?_
  refine zV_callV (as := [aI z22, aI 1]) (st := []) O zc_X8_fails (Or.inl zl_RX8_201) zi_1420 zi_93 zt_185 rfl rfl (by decide) (Nat.le_of_ble_eq_true rfl) rfl rfl (Nat.le_of_ble_eq_true rfl) (Nat.le_of_ble_eq_true rfl) (Nat.le_of_ble_eq_true rfl) (Nat.le_of_ble_eq_true rfl) (Nat.le_of_ble_eq_true rfl) (Nat.le_of_ble_eq_true rfl) dX8_clashesIn_16 (sX8_fails hM) (fun r h24 hq => ?_) (fun x h9 hq => hq.elim)
  obtain ⟨z23, rfl, hzz23, hM⟩ := hq
  refine zV_if_eq (tgt := 24) O dX8_clashesIn_19 (by decide) (fun hc => ?_) (fun hc => ?_)
  · replace hM := hM.1 hc
    refine zV_aload_n O dX8_clashesIn_24 rfl rfl ?_
    refine zV_callV (as := []) (st := []) O zc_X8_laysAside (Or.inl zl_RX8_323) zi_1680 zi_136 zt_185 rfl rfl (by decide) (Nat.le_of_ble_eq_true rfl) rfl rfl (Nat.le_of_ble_eq_true rfl) (Nat.le_of_ble_eq_true rfl) (Nat.le_of_ble_eq_true rfl) (Nat.le_of_ble_eq_true rfl) (Nat.le_of_ble_eq_true rfl) (Nat.le_of_ble_eq_true rfl) dX8_clashesIn_25 (sX8_laysAside hM) (fun r h25 hq => ?_) (fun x h9 hq => hq.elim)
    obtain ⟨rfl, hM⟩ := hq
    refine zV_iconst (z := 0) O ⟨by omega, by omega⟩ dX8_clashesIn_28 ?_
    refine zV_istore_n O dX8_clashesIn_29 rfl (Nat.le_of_ble_eq_true rfl) rfl ?_
    refine zV_iconst (z := 0) O ⟨by omega, by omega⟩ dX8_clashesIn_30 ?_
    refine zV_istore_n O dX8_clashesIn_31 rfl (Nat.le_of_ble_eq_true rfl) rfl ?_
    obtain ⟨ff, hM⟩ := hM
    exact sX8_clashesIn_b32 O ff _ _ _ _ hM
  · replace hM := hM.2 hc
    refine zV_iconst (z := 0) O ⟨by omega, by omega⟩ dX8_clashesIn_22 ?_
    exact zV_iret O rfl ⟨_, rfl, hM⟩ (Nat.le_of_ble_eq_true rfl) (Nat.le_of_ble_eq_true rfl) dX8_clashesIn_23
def mX8_open  (h : Hp) (Q : Int → Hp → Prop) : Prop := (∀ h5 : Hp, h5 = hu h 185 0 0 → (((0 : Int) ≤ 7 ∧ (7 : Int) < 1096) ∧ ((¬ (rd h5 186 7) = (1 : Int) → (mX8_clashes h5 (fun z6 => ((z6 ≤ 0 → (mX8_keeps 186 1096 h5 (fun h7 => (((0 : Int) ≤ 7 ∧ (7 : Int) < 1096) ∧ (∀ h8 : Hp, h8 = wr h7 186 7 1 → (((0 : Int) ≤ 0 ∧ (0 : Int) < 1096) ∧ (Q (rd h8 186 0) h8))))))) ∧ (¬ z6 ≤ 0 → (Q (-3) h5)))))) ∧ ((rd h5 186 7) = (1 : Int) → (Q (-2) h5)))))
set_option maxHeartbeats 4000000 in
set_option maxRecDepth 100000 in
theorem sX8_open {l0 : Launch}  {h : Hp} {Q : Int → Hp → Prop}  (hM : mX8_open  h Q) : zSp l0 yX8_open cX8_open 1 (some .int) 197 (10) 0 0 [aR 185] h (qI Q) xN := by
  unfold mX8_open at hM
  refine zSp_intro zpn_RX8 (Nat.le_of_ble_eq_true rfl) (fun a O => ?_)
  show zV a (10, 0, 0, (qI Q), xN) 0 0 0 [some (aR 185)] [] h
  refine zV_aload_n O dX8_open_0 rfl rfl ?_
  refine zV_iconst (z := 0) O ⟨by omega, by omega⟩ dX8_open_1 ?_
  refine zV_putI O zf_RX8_1 zt_185 rfl (by decide) dX8_open_2 ?_
  have hM := hM _ rfl
  generalize hu h 185 0 0 = h5 at hM ⊢
  refine zV_aload_n O dX8_open_5 rfl rfl ?_
  refine zV_getR O zf_RX8_13 zt_185 rfl (by decide) dX8_open_6 ?_
  refine zV_bipush (z := 7) O ⟨by omega, by omega⟩ rfl dX8_open_9 ?_
  obtain ⟨hc, hM⟩ := hM
  refine zV_iald O zt_186 (by decide) hc dX8_open_11 ?_
  refine zV_iconst (z := 1) O ⟨by omega, by omega⟩ dX8_open_12 ?_
  refine zV_icmp_ne (tgt := 19) O dX8_open_13 (by decide) (fun hc => ?_) (fun hc => ?_)
  · replace hM := hM.1 hc
    refine zV_aload_n O dX8_open_19 rfl rfl ?_
    refine zV_callV (as := []) (st := []) O zc_X8_clashes (Or.inl zl_RX8_289) zi_1553 zi_118 zt_185 rfl rfl (by decide) (Nat.le_of_ble_eq_true rfl) rfl rfl (Nat.le_of_ble_eq_true rfl) (Nat.le_of_ble_eq_true rfl) (Nat.le_of_ble_eq_true rfl) (Nat.le_of_ble_eq_true rfl) (Nat.le_of_ble_eq_true rfl) (Nat.le_of_ble_eq_true rfl) dX8_open_20 (sX8_clashes hM) (fun r h9 hq => ?_) (fun x h9 hq => hq.elim)
    obtain ⟨rfl, z6, rfl, hM⟩ := hq
    refine zV_if_le (tgt := 29) O dX8_open_23 (by decide) (fun hc => ?_) (fun hc => ?_)
    · replace hM := hM.1 hc
      refine zV_aload_n O dX8_open_29 rfl rfl ?_
      refine zV_aload_n O dX8_open_30 rfl rfl ?_
      refine zV_getR O zf_RX8_13 zt_185 rfl (by decide) dX8_open_31 ?_
      refine zV_callV (as := [aR 186]) (st := []) O zc_X8_keeps (Or.inl zl_RX8_335) zi_1752 zi_147 zt_185 rfl rfl (by decide) (Nat.le_of_ble_eq_true rfl) rfl rfl (Nat.le_of_ble_eq_true rfl) (Nat.le_of_ble_eq_true rfl) (Nat.le_of_ble_eq_true rfl) (Nat.le_of_ble_eq_true rfl) (Nat.le_of_ble_eq_true rfl) (Nat.le_of_ble_eq_true rfl) dX8_open_34 (sX8_keeps zt_186 (by decide) ⟨by decide, by decide⟩ hM) (fun r h7 hq => ?_) (fun x h9 hq => hq.elim)
      obtain ⟨rfl, hM⟩ := hq
      refine zV_aload_n O dX8_open_37 rfl rfl ?_
      refine zV_getR O zf_RX8_13 zt_185 rfl (by decide) dX8_open_38 ?_
      refine zV_bipush (z := 7) O ⟨by omega, by omega⟩ rfl dX8_open_41 ?_
      refine zV_iconst (z := 1) O ⟨by omega, by omega⟩ dX8_open_43 ?_
      obtain ⟨hc, hM⟩ := hM
      refine zV_iast O zt_186 (by decide) hc dX8_open_44 ?_
      have hM := hM (hu h7 186 (Int.toNat 7) 1) rfl
      generalize hu h7 186 (Int.toNat 7) 1 = h8 at hM ⊢
      refine zV_aload_n O dX8_open_45 rfl rfl ?_
      refine zV_getR O zf_RX8_13 zt_185 rfl (by decide) dX8_open_46 ?_
      refine zV_iconst (z := 0) O ⟨by omega, by omega⟩ dX8_open_49 ?_
      obtain ⟨hc, hM⟩ := hM
      refine zV_iald O zt_186 (by decide) hc dX8_open_50 ?_
      exact zV_iret O rfl ⟨_, rfl, hM⟩ (Nat.le_of_ble_eq_true rfl) (Nat.le_of_ble_eq_true rfl) dX8_open_51
    · replace hM := hM.2 hc
      refine zV_bipush (z := -3) O ⟨by omega, by omega⟩ rfl dX8_open_26 ?_
      exact zV_iret O rfl ⟨_, rfl, hM⟩ (Nat.le_of_ble_eq_true rfl) (Nat.le_of_ble_eq_true rfl) dX8_open_28
  · replace hM := hM.2 hc
    refine zV_bipush (z := -2) O ⟨by omega, by omega⟩ rfl dX8_open_16 ?_
    exact zV_iret O rfl ⟨_, rfl, hM⟩ (Nat.le_of_ble_eq_true rfl) (Nat.le_of_ble_eq_true rfl) dX8_open_18
def mX8_openIn_b35 (Q : Int → Hp → Prop) (v1 : Int) (v2 : Int) (h : Hp) : Prop := (mX8_laysBack h (fun h15 => ((¬ v2 = 0 → (Q (-1) h15)) ∧ (v2 = 0 → (Q v1 h15)))))
set_option maxHeartbeats 4000000 in
set_option maxRecDepth 100000 in
theorem sX8_openIn_b35 {l0 : Launch} {a : ZC}  {Q : Int → Hp → Prop}  (O : zOk l0 a cX8_openIn RX8 3 (some .int) 197 [])   {v1 : Int} {v2 : Int} {h : Hp}  (hM : mX8_openIn_b35 Q v1 v2 h) : zV a (10, 0, 0, (qI Q), xN) 0 0 35 [some (aR 185), some (aI v1), some (aI v2)] [] h := by
  unfold mX8_openIn_b35 at hM
  refine zV_aload_n O dX8_openIn_35 rfl rfl ?_
  refine zV_callV (as := []) (st := []) O zc_X8_laysBack (Or.inl zl_RX8_329) zi_1716 zi_145 zt_185 rfl rfl (by decide) (Nat.le_of_ble_eq_true rfl) rfl rfl (Nat.le_of_ble_eq_true rfl) (Nat.le_of_ble_eq_true rfl) (Nat.le_of_ble_eq_true rfl) (Nat.le_of_ble_eq_true rfl) (Nat.le_of_ble_eq_true rfl) (Nat.le_of_ble_eq_true rfl) dX8_openIn_36 (sX8_laysBack hM) (fun r h15 hq => ?_) (fun x h9 hq => hq.elim)
  obtain ⟨rfl, hM⟩ := hq
  refine zV_iload_n O dX8_openIn_39 rfl rfl ?_
  refine zV_if_ne (tgt := 47) O dX8_openIn_40 (by decide) (fun hc => ?_) (fun hc => ?_)
  · replace hM := hM.1 hc
    refine zV_iconst (z := -1) O ⟨by omega, by omega⟩ dX8_openIn_47 ?_
    exact zV_iret O rfl ⟨_, rfl, hM⟩ (Nat.le_of_ble_eq_true rfl) (Nat.le_of_ble_eq_true rfl) dX8_openIn_48
  · replace hM := hM.2 hc
    refine zV_iload_n O dX8_openIn_43 rfl rfl ?_
    refine zV_goto (tgt := 48) O dX8_openIn_44 (by decide) ?_
    exact zV_iret O rfl ⟨_, rfl, hM⟩ (Nat.le_of_ble_eq_true rfl) (Nat.le_of_ble_eq_true rfl) dX8_openIn_48
def mX8_openIn_b13 (Q : Int → Hp → Prop) : Nat → Int → Int → Hp → Prop
  | 0 => fun _ _ _ => False
  | fu13 + 1 => fun v1 v2 h => ((¬ v2 = 0 → (mX8_openIn_b35 Q v1 v2 h)) ∧ (v2 = 0 → (mX8_clashes h (fun z16 => ((z16 ≤ 0 → (mX8_openIn_b35 Q v1 v2 h)) ∧ (¬ z16 ≤ 0 → (mX8_movesIf h (fun z17 h18 => (zr (v1 + 1) ∧ ((mX8_openIn_b13 Q fu13) (v1 + 1) z17 h18))))))))))
set_option maxHeartbeats 4000000 in
set_option maxRecDepth 100000 in
theorem sX8_openIn_b13 {l0 : Launch} {a : ZC}  {Q : Int → Hp → Prop}  (O : zOk l0 a cX8_openIn RX8 3 (some .int) 197 [])   : ∀ (ff : Nat) (v1 : Int) (v2 : Int) (h : Hp), mX8_openIn_b13 Q ff v1 v2 h → zV a (10, 0, 0, (qI Q), xN) 0 0 13 [some (aR 185), some (aI v1), some (aI v2)] [] h := by
  intro ff
  induction ff with
  | zero => intro v1 v2 h hM; exact hM.elim
  | succ ff ih =>
    have hK13 := ih
    intro v1 v2 h hM
    unfold mX8_openIn_b13 at hM
    refine zV_iload_n O dX8_openIn_13 rfl rfl ?_
    refine zV_if_ne (tgt := 35) O dX8_openIn_14 (by decide) (fun hc => ?_) (fun hc => ?_)
    · replace hM := hM.1 hc
      exact sX8_openIn_b35 O hM
    · replace hM := hM.2 hc
      refine zV_aload_n O dX8_openIn_17 rfl rfl ?_
      refine zV_callV (as := []) (st := []) O zc_X8_clashes (Or.inl zl_RX8_289) zi_1553 zi_118 zt_185 rfl rfl (by decide) (Nat.le_of_ble_eq_true rfl) rfl rfl (Nat.le_of_ble_eq_true rfl) (Nat.le_of_ble_eq_true rfl) (Nat.le_of_ble_eq_true rfl) (Nat.le_of_ble_eq_true rfl) (Nat.le_of_ble_eq_true rfl) (Nat.le_of_ble_eq_true rfl) dX8_openIn_18 (sX8_clashes hM) (fun r h9 hq => ?_) (fun x h9 hq => hq.elim)
      obtain ⟨rfl, z16, rfl, hM⟩ := hq
      refine zV_if_le (tgt := 35) O dX8_openIn_21 (by decide) (fun hc => ?_) (fun hc => ?_)
      · replace hM := hM.1 hc
        exact sX8_openIn_b35 O hM
      · replace hM := hM.2 hc
        refine zV_aload_n O dX8_openIn_24 rfl rfl ?_
        refine zV_callV (as := []) (st := []) O zc_X8_movesIf (Or.inl zl_RX8_326) zi_1684 zi_137 zt_185 rfl rfl (by decide) (Nat.le_of_ble_eq_true rfl) rfl rfl (Nat.le_of_ble_eq_true rfl) (Nat.le_of_ble_eq_true rfl) (Nat.le_of_ble_eq_true rfl) (Nat.le_of_ble_eq_true rfl) (Nat.le_of_ble_eq_true rfl) (Nat.le_of_ble_eq_true rfl) dX8_openIn_25 (sX8_movesIf hM) (fun r h18 hq => ?_) (fun x h9 hq => hq.elim)
        obtain ⟨z17, rfl, hM⟩ := hq
        refine zV_istore_n O dX8_openIn_28 rfl (Nat.le_of_ble_eq_true rfl) rfl ?_
        obtain ⟨hc, hM⟩ := hM
        refine zV_iinc O dX8_openIn_29 rfl (Nat.le_of_ble_eq_true rfl) rfl hc ?_
        refine zV_goto (tgt := 13) O dX8_openIn_32 (by decide) ?_
        exact hK13 _ _ _ hM
def mX8_openIn  (h : Hp) (Q : Int → Hp → Prop) : Prop := (∀ h19 : Hp, h19 = hu h 185 0 0 → (mX8_laysAside h19 (fun h20 => (∃ ff, mX8_openIn_b13 Q ff 0 0 h20))))
set_option maxHeartbeats 4000000 in
set_option maxRecDepth 100000 in
theorem sX8_openIn {l0 : Launch}  {h : Hp} {Q : Int → Hp → Prop}  (hM : mX8_openIn  h Q) : zSp l0 yX8_openIn cX8_openIn 3 (some .int) 197 (10) 0 0 [aR 185] h (qI Q) xN := by
  unfold mX8_openIn at hM
  refine zSp_intro zpn_RX8 (Nat.le_of_ble_eq_true rfl) (fun a O => ?_)
  show zV a (10, 0, 0, (qI Q), xN) 0 0 0 [some (aR 185), none, none] [] h
  refine zV_aload_n O dX8_openIn_0 rfl rfl ?_
  refine zV_iconst (z := 0) O ⟨by omega, by omega⟩ dX8_openIn_1 ?_
  refine zV_putI O zf_RX8_1 zt_185 rfl (by decide) dX8_openIn_2 ?_
  have hM := hM _ rfl
  generalize hu h 185 0 0 = h19 at hM ⊢
  refine zV_aload_n O dX8_openIn_5 rfl rfl ?_
  refine zV_callV (as := []) (st := []) O zc_X8_laysAside (Or.inl zl_RX8_323) zi_1680 zi_136 zt_185 rfl rfl (by decide) (Nat.le_of_ble_eq_true rfl) rfl rfl (Nat.le_of_ble_eq_true rfl) (Nat.le_of_ble_eq_true rfl) (Nat.le_of_ble_eq_true rfl) (Nat.le_of_ble_eq_true rfl) (Nat.le_of_ble_eq_true rfl) (Nat.le_of_ble_eq_true rfl) dX8_openIn_6 (sX8_laysAside hM) (fun r h20 hq => ?_) (fun x h9 hq => hq.elim)
  obtain ⟨rfl, hM⟩ := hq
  refine zV_iconst (z := 0) O ⟨by omega, by omega⟩ dX8_openIn_9 ?_
  refine zV_istore_n O dX8_openIn_10 rfl (Nat.le_of_ble_eq_true rfl) rfl ?_
  refine zV_iconst (z := 0) O ⟨by omega, by omega⟩ dX8_openIn_11 ?_
  refine zV_istore_n O dX8_openIn_12 rfl (Nat.le_of_ble_eq_true rfl) rfl ?_
  obtain ⟨ff, hM⟩ := hM
  exact sX8_openIn_b13 O ff _ _ _ hM
def mX8_reachOf_b59 (h : Hp) (Q : Int → Prop) (K4 : Int → Int → Int → Prop) (v1 : Int) (v3 : Int) (s0 : Int) (s1 : Int) : Prop := (zr (s1 + s0) ∧ (zr (v3 + 1) ∧ (K4 v1 (s1 + s0) (v3 + 1))))
set_option maxHeartbeats 4000000 in
set_option maxRecDepth 100000 in
theorem sX8_reachOf_b59 {l0 : Launch} {a : ZC}  {h : Hp} {Q : Int → Prop} {K4 : Int → Int → Int → Prop} (O : zOk l0 a cX8_reachOf RX8 4 (some .int) 197 [])  (hK4 : ∀ (v1 : Int) (v2 : Int) (v3 : Int), K4 v1 v2 v3 → zV a (10, 0, 0, (qPI h Q), xN) 0 0 4 [some (aR 185), some (aI v1), some (aI v2), some (aI v3)] [] h) {v1 : Int} {v3 : Int} {s0 : Int} {s1 : Int}  (hz_s0 : s0 = 0 ∨ s0 = 1) (hM : mX8_reachOf_b59 h Q K4 v1 v3 s0 s1) : zV a (10, 0, 0, (qPI h Q), xN) 0 0 59 [some (aR 185), some (aI v1), none, some (aI v3)] [aI s0, aI s1] h := by
  unfold mX8_reachOf_b59 at hM
  obtain ⟨hc, hM⟩ := hM
  refine zV_iadd O dX8_reachOf_59 hc ?_
  refine zV_istore_n O dX8_reachOf_60 rfl (Nat.le_of_ble_eq_true rfl) rfl ?_
  obtain ⟨hc, hM⟩ := hM
  refine zV_iinc O dX8_reachOf_61 rfl (Nat.le_of_ble_eq_true rfl) rfl hc ?_
  refine zV_goto (tgt := 4) O dX8_reachOf_64 (by decide) ?_
  exact hK4 _ _ _ hM
def mX8_reachOf_b58 (h : Hp) (Q : Int → Prop) (K4 : Int → Int → Int → Prop) (v1 : Int) (v3 : Int) (s0 : Int) : Prop := (mX8_reachOf_b59 h Q K4 v1 v3 0 s0)
set_option maxHeartbeats 4000000 in
set_option maxRecDepth 100000 in
theorem sX8_reachOf_b58 {l0 : Launch} {a : ZC}  {h : Hp} {Q : Int → Prop} {K4 : Int → Int → Int → Prop} (O : zOk l0 a cX8_reachOf RX8 4 (some .int) 197 [])  (hK4 : ∀ (v1 : Int) (v2 : Int) (v3 : Int), K4 v1 v2 v3 → zV a (10, 0, 0, (qPI h Q), xN) 0 0 4 [some (aR 185), some (aI v1), some (aI v2), some (aI v3)] [] h) {v1 : Int} {v3 : Int} {s0 : Int}   (hM : mX8_reachOf_b58 h Q K4 v1 v3 s0) : zV a (10, 0, 0, (qPI h Q), xN) 0 0 58 [some (aR 185), some (aI v1), none, some (aI v3)] [aI s0] h := by
  unfold mX8_reachOf_b58 at hM
  refine zV_iconst (z := 0) O ⟨by omega, by omega⟩ dX8_reachOf_58 ?_
  exact sX8_reachOf_b59 O hK4 (Or.inl rfl) hM
def mX8_reachOf_b4 (h : Hp) (Q : Int → Prop) : Nat → Int → Int → Int → Prop
  | 0 => fun _ _ _ => False
  | fu4 + 1 => fun v1 v2 v3 => (((0 : Int) ≤ 0 ∧ (0 : Int) < 1096) ∧ (((rd h 186 0) ≤ v3 → (Q v2)) ∧ (¬ (rd h 186 0) ≤ v3 → ((v3 = v1 → (mX8_reachOf_b58 h Q (mX8_reachOf_b4 h Q fu4) v1 v3 v2)) ∧ (¬ v3 = v1 → (mX8_areOfNet v1 v3 h (fun z16 => ((z16 = 0 → (mX8_reachOf_b58 h Q (mX8_reachOf_b4 h Q fu4) v1 v3 v2)) ∧ (¬ z16 = 0 → (mX8_of v1 0 h (fun z17 => (mX8_of v1 1 h (fun z18 => (mX8_of v3 1 h (fun z19 => (mX8_allowsFor z17 z18 z19 h (fun z20 => ((z20 = 0 → (mX8_reachOf_b58 h Q (mX8_reachOf_b4 h Q fu4) v1 v3 v2)) ∧ (¬ z20 = 0 → (mX8_reachOf_b59 h Q (mX8_reachOf_b4 h Q fu4) v1 v3 1 v2))))))))))))))))))))
set_option maxHeartbeats 4000000 in
set_option maxRecDepth 100000 in
theorem sX8_reachOf_b4 {l0 : Launch} {a : ZC}  {h : Hp} {Q : Int → Prop}  (O : zOk l0 a cX8_reachOf RX8 4 (some .int) 197 [])   : ∀ (ff : Nat) (v1 : Int) (v2 : Int) (v3 : Int) , mX8_reachOf_b4 h Q ff v1 v2 v3 → zV a (10, 0, 0, (qPI h Q), xN) 0 0 4 [some (aR 185), some (aI v1), some (aI v2), some (aI v3)] [] h := by
  intro ff
  induction ff with
  | zero => intro v1 v2 v3 hM; exact hM.elim
  | succ ff ih =>
    have hK4 := ih
    intro v1 v2 v3 hM
    unfold mX8_reachOf_b4 at hM
    refine zV_iload_n O dX8_reachOf_4 rfl rfl ?_
    refine zV_aload_n O dX8_reachOf_5 rfl rfl ?_
    refine zV_getR O zf_RX8_13 zt_185 rfl (by decide) dX8_reachOf_6 ?_
    refine zV_iconst (z := 0) O ⟨by omega, by omega⟩ dX8_reachOf_9 ?_
    obtain ⟨hc, hM⟩ := hM
    refine zV_iald O zt_186 (by decide) hc dX8_reachOf_10 ?_
    refine zV_icmp_ge (tgt := 67) O dX8_reachOf_11 (by decide) (fun hc => ?_) (fun hc => ?_)
    · replace hM := hM.1 hc
      refine zV_iload_n O dX8_reachOf_67 rfl rfl ?_
      exact zV_iret O rfl ⟨rfl, _, rfl, hM⟩ (Nat.le_of_ble_eq_true rfl) (Nat.le_of_ble_eq_true rfl) dX8_reachOf_68
    · replace hM := hM.2 hc
      refine zV_iload_n O dX8_reachOf_14 rfl rfl ?_
      refine zV_iload_n O dX8_reachOf_15 rfl rfl ?_
      refine zV_iload_n O dX8_reachOf_16 rfl rfl ?_
      refine zV_icmp_eq (tgt := 58) O dX8_reachOf_17 (by decide) (fun hc => ?_) (fun hc => ?_)
      · replace hM := hM.1 hc
        refine zV_sub (ls2 := [some (aR 185), some (aI v1), none, some (aI v3)]) ⟨rfl, rfl, rfl, trivial⟩ ?_
        exact sX8_reachOf_b58 O hK4 hM
      · replace hM := hM.2 hc
        refine zV_aload_n O dX8_reachOf_20 rfl rfl ?_
        refine zV_iload_n O dX8_reachOf_21 rfl rfl ?_
        refine zV_iload_n O dX8_reachOf_22 rfl rfl ?_
        refine zV_callV (as := [aI v1, aI v3]) (st := [aI v2]) O zc_X8_areOfNet (Or.inl zl_RX8_233) zi_1660 zi_133 zt_185 rfl rfl (by decide) (Nat.le_of_ble_eq_true rfl) rfl rfl (Nat.le_of_ble_eq_true rfl) (Nat.le_of_ble_eq_true rfl) (Nat.le_of_ble_eq_true rfl) (Nat.le_of_ble_eq_true rfl) (Nat.le_of_ble_eq_true rfl) (Nat.le_of_ble_eq_true rfl) dX8_reachOf_23 (sX8_areOfNet hM) (fun r h9 hq => ?_) (fun x h9 hq => hq.elim)
        obtain ⟨rfl, z16, rfl, hzz16, hM⟩ := hq
        refine zV_if_eq (tgt := 58) O dX8_reachOf_26 (by decide) (fun hc => ?_) (fun hc => ?_)
        · replace hM := hM.1 hc
          refine zV_sub (ls2 := [some (aR 185), some (aI v1), none, some (aI v3)]) ⟨rfl, rfl, rfl, trivial⟩ ?_
          exact sX8_reachOf_b58 O hK4 hM
        · replace hM := hM.2 hc
          refine zV_aload_n O dX8_reachOf_29 rfl rfl ?_
          refine zV_aload_n O dX8_reachOf_30 rfl rfl ?_
          refine zV_iload_n O dX8_reachOf_31 rfl rfl ?_
          refine zV_iconst (z := 0) O ⟨by omega, by omega⟩ dX8_reachOf_32 ?_
          refine zV_callV (as := [aI v1, aI 0]) (st := [aR 185, aI v2]) O zc_X8_of (Or.inl zl_RX8_218) zi_1549 zi_117 zt_185 rfl rfl (by decide) (Nat.le_of_ble_eq_true rfl) rfl rfl (Nat.le_of_ble_eq_true rfl) (Nat.le_of_ble_eq_true rfl) (Nat.le_of_ble_eq_true rfl) (Nat.le_of_ble_eq_true rfl) (Nat.le_of_ble_eq_true rfl) (Nat.le_of_ble_eq_true rfl) dX8_reachOf_33 (sX8_of hM) (fun r h9 hq => ?_) (fun x h9 hq => hq.elim)
          obtain ⟨rfl, z17, rfl, hM⟩ := hq
          refine zV_aload_n O dX8_reachOf_36 rfl rfl ?_
          refine zV_iload_n O dX8_reachOf_37 rfl rfl ?_
          refine zV_iconst (z := 1) O ⟨by omega, by omega⟩ dX8_reachOf_38 ?_
          refine zV_callV (as := [aI v1, aI 1]) (st := [aI z17, aR 185, aI v2]) O zc_X8_of (Or.inl zl_RX8_218) zi_1549 zi_117 zt_185 rfl rfl (by decide) (Nat.le_of_ble_eq_true rfl) rfl rfl (Nat.le_of_ble_eq_true rfl) (Nat.le_of_ble_eq_true rfl) (Nat.le_of_ble_eq_true rfl) (Nat.le_of_ble_eq_true rfl) (Nat.le_of_ble_eq_true rfl) (Nat.le_of_ble_eq_true rfl) dX8_reachOf_39 (sX8_of hM) (fun r h9 hq => ?_) (fun x h9 hq => hq.elim)
          obtain ⟨rfl, z18, rfl, hM⟩ := hq
          refine zV_aload_n O dX8_reachOf_42 rfl rfl ?_
          refine zV_iload_n O dX8_reachOf_43 rfl rfl ?_
          refine zV_iconst (z := 1) O ⟨by omega, by omega⟩ dX8_reachOf_44 ?_
          refine zV_callV (as := [aI v3, aI 1]) (st := [aI z18, aI z17, aR 185, aI v2]) O zc_X8_of (Or.inl zl_RX8_218) zi_1549 zi_117 zt_185 rfl rfl (by decide) (Nat.le_of_ble_eq_true rfl) rfl rfl (Nat.le_of_ble_eq_true rfl) (Nat.le_of_ble_eq_true rfl) (Nat.le_of_ble_eq_true rfl) (Nat.le_of_ble_eq_true rfl) (Nat.le_of_ble_eq_true rfl) (Nat.le_of_ble_eq_true rfl) dX8_reachOf_45 (sX8_of hM) (fun r h9 hq => ?_) (fun x h9 hq => hq.elim)
          obtain ⟨rfl, z19, rfl, hM⟩ := hq
          refine zV_callV (as := [aI z17, aI z18, aI z19]) (st := [aI v2]) O zc_X8_allowsFor (Or.inl zl_RX8_281) zi_1648 zi_131 zt_185 rfl rfl (by decide) (Nat.le_of_ble_eq_true rfl) rfl rfl (Nat.le_of_ble_eq_true rfl) (Nat.le_of_ble_eq_true rfl) (Nat.le_of_ble_eq_true rfl) (Nat.le_of_ble_eq_true rfl) (Nat.le_of_ble_eq_true rfl) (Nat.le_of_ble_eq_true rfl) dX8_reachOf_48 (sX8_allowsFor hM) (fun r h9 hq => ?_) (fun x h9 hq => hq.elim)
          obtain ⟨rfl, z20, rfl, hzz20, hM⟩ := hq
          refine zV_if_eq (tgt := 58) O dX8_reachOf_51 (by decide) (fun hc => ?_) (fun hc => ?_)
          · replace hM := hM.1 hc
            refine zV_sub (ls2 := [some (aR 185), some (aI v1), none, some (aI v3)]) ⟨rfl, rfl, rfl, trivial⟩ ?_
            exact sX8_reachOf_b58 O hK4 hM
          · replace hM := hM.2 hc
            refine zV_iconst (z := 1) O ⟨by omega, by omega⟩ dX8_reachOf_54 ?_
            refine zV_goto (tgt := 59) O dX8_reachOf_55 (by decide) ?_
            refine zV_sub (ls2 := [some (aR 185), some (aI v1), none, some (aI v3)]) ⟨rfl, rfl, rfl, trivial⟩ ?_
            exact sX8_reachOf_b59 O hK4 (Or.inr rfl) hM
def mX8_reachOf (x1 : Int) (h : Hp) (Q : Int → Prop) : Prop := (∃ ff, mX8_reachOf_b4 h Q ff x1 0 0)
set_option maxHeartbeats 4000000 in
set_option maxRecDepth 100000 in
theorem sX8_reachOf {l0 : Launch} {x1 : Int} {h : Hp} {Q : Int → Prop}  (hM : mX8_reachOf x1 h Q) : zSp l0 yX8_reachOf cX8_reachOf 4 (some .int) 197 (10) 0 0 [aR 185, aI x1] h (qPI h Q) xN := by
  unfold mX8_reachOf at hM
  refine zSp_intro zpn_RX8 (Nat.le_of_ble_eq_true rfl) (fun a O => ?_)
  show zV a (10, 0, 0, (qPI h Q), xN) 0 0 0 [some (aR 185), some (aI x1), none, none] [] h
  refine zV_iconst (z := 0) O ⟨by omega, by omega⟩ dX8_reachOf_0 ?_
  refine zV_istore_n O dX8_reachOf_1 rfl (Nat.le_of_ble_eq_true rfl) rfl ?_
  refine zV_iconst (z := 0) O ⟨by omega, by omega⟩ dX8_reachOf_2 ?_
  refine zV_istore_n O dX8_reachOf_3 rfl (Nat.le_of_ble_eq_true rfl) rfl ?_
  obtain ⟨ff, hM⟩ := hM
  exact sX8_reachOf_b4 O ff _ _ _ hM
def mX8_size (x1 : Int) (h : Hp) (Q : Int → Hp → Prop) : Prop := (∀ h8 : Hp, h8 = hu h 185 0 0 → (mX8_in x1 0 10 h8 (fun z9 => (mX8_fails z9 1 h8 (fun z10 h11 => ((z10 = 0 → ((x1 = 0 → (((0 : Int) ≤ 0 ∧ (0 : Int) < 1096) ∧ (Q (rd h11 186 0) h11))) ∧ (x1 = 1 → (((0 : Int) ≤ 1 ∧ (1 : Int) < 1096) ∧ (Q (rd h11 186 1) h11))) ∧ (x1 = 2 → (mX8_plansNow h11 (fun z12 => (Q z12 h11)))) ∧ (x1 = 3 → (((0 : Int) ≤ 2 ∧ (2 : Int) < 1096) ∧ (Q (rd h11 186 2) h11))) ∧ (x1 = 4 → (((0 : Int) ≤ 3 ∧ (3 : Int) < 1096) ∧ (Q (rd h11 186 3) h11))) ∧ (x1 = 5 → (((0 : Int) ≤ 4 ∧ (4 : Int) < 1096) ∧ (Q (rd h11 186 4) h11))) ∧ (x1 = 6 → (((0 : Int) ≤ 5 ∧ (5 : Int) < 1096) ∧ (Q (rd h11 186 5) h11))) ∧ (x1 = 7 → (((0 : Int) ≤ 6 ∧ (6 : Int) < 1096) ∧ (Q (rd h11 186 6) h11))) ∧ (x1 = 8 → (((0 : Int) ≤ 7 ∧ (7 : Int) < 1096) ∧ (Q (rd h11 186 7) h11))) ∧ (x1 = 9 → (mX8_clashes h11 (fun z13 => (Q z13 h11)))) ∧ ((x1 < 0 ∨ 9 < x1) → (mX8_keeping h11 (fun z14 => (Q z14 h11)))))) ∧ (¬ z10 = 0 → (Q 0 h11))))))))
set_option maxHeartbeats 4000000 in
set_option maxRecDepth 100000 in
theorem sX8_size {l0 : Launch} {x1 : Int} {h : Hp} {Q : Int → Hp → Prop}  (hM : mX8_size x1 h Q) : zSp l0 yX8_size cX8_size 2 (some .int) 197 (10) 0 0 [aR 185, aI x1] h (qI Q) xN := by
  unfold mX8_size at hM
  refine zSp_intro zpn_RX8 (Nat.le_of_ble_eq_true rfl) (fun a O => ?_)
  show zV a (10, 0, 0, (qI Q), xN) 0 0 0 [some (aR 185), some (aI x1)] [] h
  refine zV_aload_n O dX8_size_0 rfl rfl ?_
  refine zV_iconst (z := 0) O ⟨by omega, by omega⟩ dX8_size_1 ?_
  refine zV_putI O zf_RX8_1 zt_185 rfl (by decide) dX8_size_2 ?_
  have hM := hM _ rfl
  generalize hu h 185 0 0 = h8 at hM ⊢
  refine zV_aload_n O dX8_size_5 rfl rfl ?_
  refine zV_iload_n O dX8_size_6 rfl rfl ?_
  refine zV_i2l O dX8_size_7 ?_
  refine zV_lconst (z := 0) O ⟨by omega, by omega⟩ rfl dX8_size_8 ?_
  refine zV_ldc2 (z := 10) O ⟨by omega, by omega⟩ zi_1542.1 zi_1542.2 dX8_size_9 ?_
  refine zV_callS (as := [aL x1, aL 0, aL 10]) (st := [aR 185]) O zc_X8_in (Or.inl zl_RX8_125) zi_1416 (Nat.le_of_ble_eq_true rfl) rfl rfl (Nat.le_of_ble_eq_true rfl) (Nat.le_of_ble_eq_true rfl) (Nat.le_of_ble_eq_true rfl) (Nat.le_of_ble_eq_true rfl) (Nat.le_of_ble_eq_true rfl) (Nat.le_of_ble_eq_true rfl) dX8_size_12 (sX8_in hM) (fun r h9 hq => ?_) (fun x h9 hq => hq.elim)
  obtain ⟨rfl, z9, rfl, hzz9, hM⟩ := hq
  refine zV_iconst (z := 1) O ⟨by omega, by omega⟩ dX8_size_15 ?_
  refine zV_callV (as := [aI z9, aI 1]) (st := []) O zc_X8_fails (Or.inl zl_RX8_201) zi_1420 zi_93 zt_185 rfl rfl (by decide) (Nat.le_of_ble_eq_true rfl) rfl rfl (Nat.le_of_ble_eq_true rfl) (Nat.le_of_ble_eq_true rfl) (Nat.le_of_ble_eq_true rfl) (Nat.le_of_ble_eq_true rfl) (Nat.le_of_ble_eq_true rfl) (Nat.le_of_ble_eq_true rfl) dX8_size_16 (sX8_fails hM) (fun r h11 hq => ?_) (fun x h9 hq => hq.elim)
  obtain ⟨z10, rfl, hzz10, hM⟩ := hq
  refine zV_if_eq (tgt := 24) O dX8_size_19 (by decide) (fun hc => ?_) (fun hc => ?_)
  · replace hM := hM.1 hc
    refine zV_iload_n O dX8_size_24 rfl rfl ?_
    by_cases hc0 : x1 = 0
    · replace hM := hM.1 hc0
      refine zV_tableIn (tgt := 80) O dX8_size_25 (by omega) (by omega) (by rw [hc0]; rfl) (by decide) ?_
      refine zV_aload_n O dX8_size_80 rfl rfl ?_
      refine zV_getR O zf_RX8_13 zt_185 rfl (by decide) dX8_size_81 ?_
      refine zV_iconst (z := 0) O ⟨by omega, by omega⟩ dX8_size_84 ?_
      obtain ⟨hc, hM⟩ := hM
      refine zV_iald O zt_186 (by decide) hc dX8_size_85 ?_
      exact zV_iret O rfl ⟨_, rfl, hM⟩ (Nat.le_of_ble_eq_true rfl) (Nat.le_of_ble_eq_true rfl) dX8_size_86
    by_cases hc1 : x1 = 1
    · replace hM := hM.2.1 hc1
      refine zV_tableIn (tgt := 87) O dX8_size_25 (by omega) (by omega) (by rw [hc1]; rfl) (by decide) ?_
      refine zV_aload_n O dX8_size_87 rfl rfl ?_
      refine zV_getR O zf_RX8_13 zt_185 rfl (by decide) dX8_size_88 ?_
      refine zV_iconst (z := 1) O ⟨by omega, by omega⟩ dX8_size_91 ?_
      obtain ⟨hc, hM⟩ := hM
      refine zV_iald O zt_186 (by decide) hc dX8_size_92 ?_
      exact zV_iret O rfl ⟨_, rfl, hM⟩ (Nat.le_of_ble_eq_true rfl) (Nat.le_of_ble_eq_true rfl) dX8_size_93
    by_cases hc2 : x1 = 2
    · replace hM := hM.2.2.1 hc2
      refine zV_tableIn (tgt := 94) O dX8_size_25 (by omega) (by omega) (by rw [hc2]; rfl) (by decide) ?_
      refine zV_aload_n O dX8_size_94 rfl rfl ?_
      refine zV_callV (as := []) (st := []) O zc_X8_plansNow (Or.inl zl_RX8_286) zi_1545 zi_116 zt_185 rfl rfl (by decide) (Nat.le_of_ble_eq_true rfl) rfl rfl (Nat.le_of_ble_eq_true rfl) (Nat.le_of_ble_eq_true rfl) (Nat.le_of_ble_eq_true rfl) (Nat.le_of_ble_eq_true rfl) (Nat.le_of_ble_eq_true rfl) (Nat.le_of_ble_eq_true rfl) dX8_size_95 (sX8_plansNow hM) (fun r h9 hq => ?_) (fun x h9 hq => hq.elim)
      obtain ⟨rfl, z12, rfl, hM⟩ := hq
      exact zV_iret O rfl ⟨_, rfl, hM⟩ (Nat.le_of_ble_eq_true rfl) (Nat.le_of_ble_eq_true rfl) dX8_size_98
    by_cases hc3 : x1 = 3
    · replace hM := hM.2.2.2.1 hc3
      refine zV_tableIn (tgt := 99) O dX8_size_25 (by omega) (by omega) (by rw [hc3]; rfl) (by decide) ?_
      refine zV_aload_n O dX8_size_99 rfl rfl ?_
      refine zV_getR O zf_RX8_13 zt_185 rfl (by decide) dX8_size_100 ?_
      refine zV_iconst (z := 2) O ⟨by omega, by omega⟩ dX8_size_103 ?_
      obtain ⟨hc, hM⟩ := hM
      refine zV_iald O zt_186 (by decide) hc dX8_size_104 ?_
      exact zV_iret O rfl ⟨_, rfl, hM⟩ (Nat.le_of_ble_eq_true rfl) (Nat.le_of_ble_eq_true rfl) dX8_size_105
    by_cases hc4 : x1 = 4
    · replace hM := hM.2.2.2.2.1 hc4
      refine zV_tableIn (tgt := 106) O dX8_size_25 (by omega) (by omega) (by rw [hc4]; rfl) (by decide) ?_
      refine zV_aload_n O dX8_size_106 rfl rfl ?_
      refine zV_getR O zf_RX8_13 zt_185 rfl (by decide) dX8_size_107 ?_
      refine zV_iconst (z := 3) O ⟨by omega, by omega⟩ dX8_size_110 ?_
      obtain ⟨hc, hM⟩ := hM
      refine zV_iald O zt_186 (by decide) hc dX8_size_111 ?_
      exact zV_iret O rfl ⟨_, rfl, hM⟩ (Nat.le_of_ble_eq_true rfl) (Nat.le_of_ble_eq_true rfl) dX8_size_112
    by_cases hc5 : x1 = 5
    · replace hM := hM.2.2.2.2.2.1 hc5
      refine zV_tableIn (tgt := 113) O dX8_size_25 (by omega) (by omega) (by rw [hc5]; rfl) (by decide) ?_
      refine zV_aload_n O dX8_size_113 rfl rfl ?_
      refine zV_getR O zf_RX8_13 zt_185 rfl (by decide) dX8_size_114 ?_
      refine zV_iconst (z := 4) O ⟨by omega, by omega⟩ dX8_size_117 ?_
      obtain ⟨hc, hM⟩ := hM
      refine zV_iald O zt_186 (by decide) hc dX8_size_118 ?_
      exact zV_iret O rfl ⟨_, rfl, hM⟩ (Nat.le_of_ble_eq_true rfl) (Nat.le_of_ble_eq_true rfl) dX8_size_119
    by_cases hc6 : x1 = 6
    · replace hM := hM.2.2.2.2.2.2.1 hc6
      refine zV_tableIn (tgt := 120) O dX8_size_25 (by omega) (by omega) (by rw [hc6]; rfl) (by decide) ?_
      refine zV_aload_n O dX8_size_120 rfl rfl ?_
      refine zV_getR O zf_RX8_13 zt_185 rfl (by decide) dX8_size_121 ?_
      refine zV_iconst (z := 5) O ⟨by omega, by omega⟩ dX8_size_124 ?_
      obtain ⟨hc, hM⟩ := hM
      refine zV_iald O zt_186 (by decide) hc dX8_size_125 ?_
      exact zV_iret O rfl ⟨_, rfl, hM⟩ (Nat.le_of_ble_eq_true rfl) (Nat.le_of_ble_eq_true rfl) dX8_size_126
    by_cases hc7 : x1 = 7
    · replace hM := hM.2.2.2.2.2.2.2.1 hc7
      refine zV_tableIn (tgt := 127) O dX8_size_25 (by omega) (by omega) (by rw [hc7]; rfl) (by decide) ?_
      refine zV_aload_n O dX8_size_127 rfl rfl ?_
      refine zV_getR O zf_RX8_13 zt_185 rfl (by decide) dX8_size_128 ?_
      refine zV_bipush (z := 6) O ⟨by omega, by omega⟩ rfl dX8_size_131 ?_
      obtain ⟨hc, hM⟩ := hM
      refine zV_iald O zt_186 (by decide) hc dX8_size_133 ?_
      exact zV_iret O rfl ⟨_, rfl, hM⟩ (Nat.le_of_ble_eq_true rfl) (Nat.le_of_ble_eq_true rfl) dX8_size_134
    by_cases hc8 : x1 = 8
    · replace hM := hM.2.2.2.2.2.2.2.2.1 hc8
      refine zV_tableIn (tgt := 135) O dX8_size_25 (by omega) (by omega) (by rw [hc8]; rfl) (by decide) ?_
      refine zV_aload_n O dX8_size_135 rfl rfl ?_
      refine zV_getR O zf_RX8_13 zt_185 rfl (by decide) dX8_size_136 ?_
      refine zV_bipush (z := 7) O ⟨by omega, by omega⟩ rfl dX8_size_139 ?_
      obtain ⟨hc, hM⟩ := hM
      refine zV_iald O zt_186 (by decide) hc dX8_size_141 ?_
      exact zV_iret O rfl ⟨_, rfl, hM⟩ (Nat.le_of_ble_eq_true rfl) (Nat.le_of_ble_eq_true rfl) dX8_size_142
    by_cases hc9 : x1 = 9
    · replace hM := hM.2.2.2.2.2.2.2.2.2.1 hc9
      refine zV_tableIn (tgt := 143) O dX8_size_25 (by omega) (by omega) (by rw [hc9]; rfl) (by decide) ?_
      refine zV_aload_n O dX8_size_143 rfl rfl ?_
      refine zV_callV (as := []) (st := []) O zc_X8_clashes (Or.inl zl_RX8_289) zi_1553 zi_118 zt_185 rfl rfl (by decide) (Nat.le_of_ble_eq_true rfl) rfl rfl (Nat.le_of_ble_eq_true rfl) (Nat.le_of_ble_eq_true rfl) (Nat.le_of_ble_eq_true rfl) (Nat.le_of_ble_eq_true rfl) (Nat.le_of_ble_eq_true rfl) (Nat.le_of_ble_eq_true rfl) dX8_size_144 (sX8_clashes hM) (fun r h9 hq => ?_) (fun x h9 hq => hq.elim)
      obtain ⟨rfl, z13, rfl, hM⟩ := hq
      exact zV_iret O rfl ⟨_, rfl, hM⟩ (Nat.le_of_ble_eq_true rfl) (Nat.le_of_ble_eq_true rfl) dX8_size_147
    have hc : x1 < 0 ∨ 9 < x1 := by omega
    replace hM := hM.2.2.2.2.2.2.2.2.2.2 hc
    refine zV_tableOut (tgt := 148) O dX8_size_25 hc (by decide) ?_
    refine zV_aload_n O dX8_size_148 rfl rfl ?_
    refine zV_callV (as := []) (st := []) O zc_X8_keeping (Or.inl zl_RX8_292) zi_1581 zi_125 zt_185 rfl rfl (by decide) (Nat.le_of_ble_eq_true rfl) rfl rfl (Nat.le_of_ble_eq_true rfl) (Nat.le_of_ble_eq_true rfl) (Nat.le_of_ble_eq_true rfl) (Nat.le_of_ble_eq_true rfl) (Nat.le_of_ble_eq_true rfl) (Nat.le_of_ble_eq_true rfl) dX8_size_149 (sX8_keeping hM) (fun r h9 hq => ?_) (fun x h9 hq => hq.elim)
    obtain ⟨rfl, z14, rfl, hM⟩ := hq
    exact zV_iret O rfl ⟨_, rfl, hM⟩ (Nat.le_of_ble_eq_true rfl) (Nat.le_of_ble_eq_true rfl) dX8_size_152
  · replace hM := hM.2 hc
    refine zV_iconst (z := 0) O ⟨by omega, by omega⟩ dX8_size_22 ?_
    exact zV_iret O rfl ⟨_, rfl, hM⟩ (Nat.le_of_ble_eq_true rfl) (Nat.le_of_ble_eq_true rfl) dX8_size_23
def mX8_meanReach_b9 (Q : UInt64 → Hp → Prop) : Nat → Int → Int → Hp → Prop
  | 0 => fun _ _ _ => False
  | fu9 + 1 => fun v1 v2 h => (((0 : Int) ≤ 0 ∧ (0 : Int) < 1096) ∧ (((rd h 186 0) ≤ v2 → (((0 : Int) ≤ 0 ∧ (0 : Int) < 1096) ∧ ((¬ (rd h 186 0) = 0 → (((0 : Int) ≤ 0 ∧ (0 : Int) < 1096) ∧ (vf_n64 (FP.ddiv (FP.i2d (Int32.ofInt v1)) (FP.i2d (Int32.ofInt (rd h 186 0)))) ∧ (Q (FP.ddiv (FP.i2d (Int32.ofInt v1)) (FP.i2d (Int32.ofInt (rd h 186 0)))) h)))) ∧ ((rd h 186 0) = 0 → (Q FP.dconst0 h))))) ∧ (¬ (rd h 186 0) ≤ v2 → (mX8_reachOf v2 h (fun z5 => (zr (v1 + z5) ∧ (zr (v2 + 1) ∧ ((mX8_meanReach_b9 Q fu9) (v1 + z5) (v2 + 1) h))))))))
set_option maxHeartbeats 4000000 in
set_option maxRecDepth 100000 in
theorem sX8_meanReach_b9 {l0 : Launch} {a : ZC}  {Q : UInt64 → Hp → Prop}  (O : zOk l0 a cX8_meanReach RX8 3 (some .double) 197 [])   : ∀ (ff : Nat) (v1 : Int) (v2 : Int) (h : Hp), mX8_meanReach_b9 Q ff v1 v2 h → zV a (11, 0, 0, (qD Q), xN) 0 0 9 [some (aR 185), some (aI v1), some (aI v2)] [] h := by
  intro ff
  induction ff with
  | zero => intro v1 v2 h hM; exact hM.elim
  | succ ff ih =>
    have hK9 := ih
    intro v1 v2 h hM
    unfold mX8_meanReach_b9 at hM
    refine zV_iload_n O dX8_meanReach_9 rfl rfl ?_
    refine zV_aload_n O dX8_meanReach_10 rfl rfl ?_
    refine zV_getR O zf_RX8_13 zt_185 rfl (by decide) dX8_meanReach_11 ?_
    refine zV_iconst (z := 0) O ⟨by omega, by omega⟩ dX8_meanReach_14 ?_
    obtain ⟨hc, hM⟩ := hM
    refine zV_iald O zt_186 (by decide) hc dX8_meanReach_15 ?_
    refine zV_icmp_ge (tgt := 33) O dX8_meanReach_16 (by decide) (fun hc => ?_) (fun hc => ?_)
    · replace hM := hM.1 hc
      refine zV_aload_n O dX8_meanReach_33 rfl rfl ?_
      refine zV_getR O zf_RX8_13 zt_185 rfl (by decide) dX8_meanReach_34 ?_
      refine zV_iconst (z := 0) O ⟨by omega, by omega⟩ dX8_meanReach_37 ?_
      obtain ⟨hc, hM⟩ := hM
      refine zV_iald O zt_186 (by decide) hc dX8_meanReach_38 ?_
      refine zV_if_ne (tgt := 46) O dX8_meanReach_39 (by decide) (fun hc => ?_) (fun hc => ?_)
      · replace hM := hM.1 hc
        refine zV_iload_n O dX8_meanReach_46 rfl rfl ?_
        refine zV_i2d O dX8_meanReach_47 ?_
        refine zV_aload_n O dX8_meanReach_48 rfl rfl ?_
        refine zV_getR O zf_RX8_13 zt_185 rfl (by decide) dX8_meanReach_49 ?_
        refine zV_iconst (z := 0) O ⟨by omega, by omega⟩ dX8_meanReach_52 ?_
        obtain ⟨hc, hM⟩ := hM
        refine zV_iald O zt_186 (by decide) hc dX8_meanReach_53 ?_
        refine zV_i2d O dX8_meanReach_54 ?_
        obtain ⟨hc, hM⟩ := hM
        refine zV_ddiv O dX8_meanReach_55 hc ?_
        exact zV_dret O rfl ⟨_, rfl, hM⟩ (Nat.le_of_ble_eq_true rfl) (Nat.le_of_ble_eq_true rfl) dX8_meanReach_56
      · replace hM := hM.2 hc
        refine zV_dconst0 O dX8_meanReach_42 ?_
        refine zV_goto (tgt := 56) O dX8_meanReach_43 (by decide) ?_
        exact zV_dret O rfl ⟨_, rfl, hM⟩ (Nat.le_of_ble_eq_true rfl) (Nat.le_of_ble_eq_true rfl) dX8_meanReach_56
    · replace hM := hM.2 hc
      refine zV_iload_n O dX8_meanReach_19 rfl rfl ?_
      refine zV_aload_n O dX8_meanReach_20 rfl rfl ?_
      refine zV_iload_n O dX8_meanReach_21 rfl rfl ?_
      refine zV_callV (as := [aI v2]) (st := [aI v1]) O zc_X8_reachOf (Or.inl zl_RX8_314) zi_1656 zi_132 zt_185 rfl rfl (by decide) (Nat.le_of_ble_eq_true rfl) rfl rfl (Nat.le_of_ble_eq_true rfl) (Nat.le_of_ble_eq_true rfl) (Nat.le_of_ble_eq_true rfl) (Nat.le_of_ble_eq_true rfl) (Nat.le_of_ble_eq_true rfl) (Nat.le_of_ble_eq_true rfl) dX8_meanReach_22 (sX8_reachOf hM) (fun r h9 hq => ?_) (fun x h9 hq => hq.elim)
      obtain ⟨rfl, z5, rfl, hM⟩ := hq
      obtain ⟨hc, hM⟩ := hM
      refine zV_iadd O dX8_meanReach_25 hc ?_
      refine zV_istore_n O dX8_meanReach_26 rfl (Nat.le_of_ble_eq_true rfl) rfl ?_
      obtain ⟨hc, hM⟩ := hM
      refine zV_iinc O dX8_meanReach_27 rfl (Nat.le_of_ble_eq_true rfl) rfl hc ?_
      refine zV_goto (tgt := 9) O dX8_meanReach_30 (by decide) ?_
      exact hK9 _ _ _ hM
def mX8_meanReach  (h : Hp) (Q : UInt64 → Hp → Prop) : Prop := (∀ h6 : Hp, h6 = hu h 185 0 0 → (∃ ff, mX8_meanReach_b9 Q ff 0 0 h6))
set_option maxHeartbeats 4000000 in
set_option maxRecDepth 100000 in
theorem sX8_meanReach {l0 : Launch}  {h : Hp} {Q : UInt64 → Hp → Prop}  (hM : mX8_meanReach  h Q) : zSp l0 yX8_meanReach cX8_meanReach 3 (some .double) 197 (11) 0 0 [aR 185] h (qD Q) xN := by
  unfold mX8_meanReach at hM
  refine zSp_intro zpn_RX8 (Nat.le_of_ble_eq_true rfl) (fun a O => ?_)
  show zV a (11, 0, 0, (qD Q), xN) 0 0 0 [some (aR 185), none, none] [] h
  refine zV_aload_n O dX8_meanReach_0 rfl rfl ?_
  refine zV_iconst (z := 0) O ⟨by omega, by omega⟩ dX8_meanReach_1 ?_
  refine zV_putI O zf_RX8_1 zt_185 rfl (by decide) dX8_meanReach_2 ?_
  have hM := hM _ rfl
  generalize hu h 185 0 0 = h6 at hM ⊢
  refine zV_iconst (z := 0) O ⟨by omega, by omega⟩ dX8_meanReach_5 ?_
  refine zV_istore_n O dX8_meanReach_6 rfl (Nat.le_of_ble_eq_true rfl) rfl ?_
  refine zV_iconst (z := 0) O ⟨by omega, by omega⟩ dX8_meanReach_7 ?_
  refine zV_istore_n O dX8_meanReach_8 rfl (Nat.le_of_ble_eq_true rfl) rfl ?_
  obtain ⟨ff, hM⟩ := hM
  exact sX8_meanReach_b9 O ff _ _ _ hM
def mX8_propertyOf (x1 : Int) (x2 : Int) (h : Hp) (Q : Int → Prop) : Prop := ((x1 = 0 → (Q x2)) ∧ (x1 = 1 → (mX8_of x2 0 h (fun z9 => (Q z9)))) ∧ (x1 = 2 → (mX8_of x2 1 h (fun z10 => (Q z10)))) ∧ (x1 = 3 → (mX8_kept x2 h (fun z11 => (Q z11)))) ∧ (x1 = 4 → (mX8_of x2 2 h (fun z12 => (Q z12)))) ∧ (x1 = 5 → (mX8_of x2 3 h (fun z13 => (Q z13)))) ∧ (x1 = 6 → (mX8_of x2 4 h (fun z14 => (Q z14)))) ∧ (x1 = 7 → (mX8_hasClash x2 h (fun z15 => ((z15 = 0 → (Q 0)) ∧ (¬ z15 = 0 → (Q 1)))))) ∧ ((x1 < 0 ∨ 7 < x1) → (mX8_reachOf x2 h (fun z16 => (Q z16)))))
set_option maxHeartbeats 4000000 in
set_option maxRecDepth 100000 in
theorem sX8_propertyOf {l0 : Launch} {x1 : Int} {x2 : Int} {h : Hp} {Q : Int → Prop}  (hM : mX8_propertyOf x1 x2 h Q) : zSp l0 yX8_propertyOf cX8_propertyOf 3 (some .int) 197 (11) 0 0 [aR 185, aI x1, aI x2] h (qPI h Q) xN := by
  unfold mX8_propertyOf at hM
  refine zSp_intro zpn_RX8 (Nat.le_of_ble_eq_true rfl) (fun a O => ?_)
  show zV a (11, 0, 0, (qPI h Q), xN) 0 0 0 [some (aR 185), some (aI x1), some (aI x2)] [] h
  refine zV_iload_n O dX8_propertyOf_0 rfl rfl ?_
  by_cases hc0 : x1 = 0
  · replace hM := hM.1 hc0
    refine zV_tableIn (tgt := 48) O dX8_propertyOf_1 (by omega) (by omega) (by rw [hc0]; rfl) (by decide) ?_
    refine zV_iload_n O dX8_propertyOf_48 rfl rfl ?_
    exact zV_iret O rfl ⟨rfl, _, rfl, hM⟩ (Nat.le_of_ble_eq_true rfl) (Nat.le_of_ble_eq_true rfl) dX8_propertyOf_49
  by_cases hc1 : x1 = 1
  · replace hM := hM.2.1 hc1
    refine zV_tableIn (tgt := 50) O dX8_propertyOf_1 (by omega) (by omega) (by rw [hc1]; rfl) (by decide) ?_
    refine zV_aload_n O dX8_propertyOf_50 rfl rfl ?_
    refine zV_iload_n O dX8_propertyOf_51 rfl rfl ?_
    refine zV_iconst (z := 0) O ⟨by omega, by omega⟩ dX8_propertyOf_52 ?_
    refine zV_callV (as := [aI x2, aI 0]) (st := []) O zc_X8_of (Or.inl zl_RX8_218) zi_1549 zi_117 zt_185 rfl rfl (by decide) (Nat.le_of_ble_eq_true rfl) rfl rfl (Nat.le_of_ble_eq_true rfl) (Nat.le_of_ble_eq_true rfl) (Nat.le_of_ble_eq_true rfl) (Nat.le_of_ble_eq_true rfl) (Nat.le_of_ble_eq_true rfl) (Nat.le_of_ble_eq_true rfl) dX8_propertyOf_53 (sX8_of hM) (fun r h9 hq => ?_) (fun x h9 hq => hq.elim)
    obtain ⟨rfl, z9, rfl, hM⟩ := hq
    exact zV_iret O rfl ⟨rfl, _, rfl, hM⟩ (Nat.le_of_ble_eq_true rfl) (Nat.le_of_ble_eq_true rfl) dX8_propertyOf_56
  by_cases hc2 : x1 = 2
  · replace hM := hM.2.2.1 hc2
    refine zV_tableIn (tgt := 57) O dX8_propertyOf_1 (by omega) (by omega) (by rw [hc2]; rfl) (by decide) ?_
    refine zV_aload_n O dX8_propertyOf_57 rfl rfl ?_
    refine zV_iload_n O dX8_propertyOf_58 rfl rfl ?_
    refine zV_iconst (z := 1) O ⟨by omega, by omega⟩ dX8_propertyOf_59 ?_
    refine zV_callV (as := [aI x2, aI 1]) (st := []) O zc_X8_of (Or.inl zl_RX8_218) zi_1549 zi_117 zt_185 rfl rfl (by decide) (Nat.le_of_ble_eq_true rfl) rfl rfl (Nat.le_of_ble_eq_true rfl) (Nat.le_of_ble_eq_true rfl) (Nat.le_of_ble_eq_true rfl) (Nat.le_of_ble_eq_true rfl) (Nat.le_of_ble_eq_true rfl) (Nat.le_of_ble_eq_true rfl) dX8_propertyOf_60 (sX8_of hM) (fun r h9 hq => ?_) (fun x h9 hq => hq.elim)
    obtain ⟨rfl, z10, rfl, hM⟩ := hq
    exact zV_iret O rfl ⟨rfl, _, rfl, hM⟩ (Nat.le_of_ble_eq_true rfl) (Nat.le_of_ble_eq_true rfl) dX8_propertyOf_63
  by_cases hc3 : x1 = 3
  · replace hM := hM.2.2.2.1 hc3
    refine zV_tableIn (tgt := 64) O dX8_propertyOf_1 (by omega) (by omega) (by rw [hc3]; rfl) (by decide) ?_
    refine zV_aload_n O dX8_propertyOf_64 rfl rfl ?_
    refine zV_iload_n O dX8_propertyOf_65 rfl rfl ?_
    refine zV_callV (as := [aI x2]) (st := []) O zc_X8_kept (Or.inl zl_RX8_227) zi_1569 zi_122 zt_185 rfl rfl (by decide) (Nat.le_of_ble_eq_true rfl) rfl rfl (Nat.le_of_ble_eq_true rfl) (Nat.le_of_ble_eq_true rfl) (Nat.le_of_ble_eq_true rfl) (Nat.le_of_ble_eq_true rfl) (Nat.le_of_ble_eq_true rfl) (Nat.le_of_ble_eq_true rfl) dX8_propertyOf_66 (sX8_kept hM) (fun r h9 hq => ?_) (fun x h9 hq => hq.elim)
    obtain ⟨rfl, z11, rfl, hM⟩ := hq
    exact zV_iret O rfl ⟨rfl, _, rfl, hM⟩ (Nat.le_of_ble_eq_true rfl) (Nat.le_of_ble_eq_true rfl) dX8_propertyOf_69
  by_cases hc4 : x1 = 4
  · replace hM := hM.2.2.2.2.1 hc4
    refine zV_tableIn (tgt := 70) O dX8_propertyOf_1 (by omega) (by omega) (by rw [hc4]; rfl) (by decide) ?_
    refine zV_aload_n O dX8_propertyOf_70 rfl rfl ?_
    refine zV_iload_n O dX8_propertyOf_71 rfl rfl ?_
    refine zV_iconst (z := 2) O ⟨by omega, by omega⟩ dX8_propertyOf_72 ?_
    refine zV_callV (as := [aI x2, aI 2]) (st := []) O zc_X8_of (Or.inl zl_RX8_218) zi_1549 zi_117 zt_185 rfl rfl (by decide) (Nat.le_of_ble_eq_true rfl) rfl rfl (Nat.le_of_ble_eq_true rfl) (Nat.le_of_ble_eq_true rfl) (Nat.le_of_ble_eq_true rfl) (Nat.le_of_ble_eq_true rfl) (Nat.le_of_ble_eq_true rfl) (Nat.le_of_ble_eq_true rfl) dX8_propertyOf_73 (sX8_of hM) (fun r h9 hq => ?_) (fun x h9 hq => hq.elim)
    obtain ⟨rfl, z12, rfl, hM⟩ := hq
    exact zV_iret O rfl ⟨rfl, _, rfl, hM⟩ (Nat.le_of_ble_eq_true rfl) (Nat.le_of_ble_eq_true rfl) dX8_propertyOf_76
  by_cases hc5 : x1 = 5
  · replace hM := hM.2.2.2.2.2.1 hc5
    refine zV_tableIn (tgt := 77) O dX8_propertyOf_1 (by omega) (by omega) (by rw [hc5]; rfl) (by decide) ?_
    refine zV_aload_n O dX8_propertyOf_77 rfl rfl ?_
    refine zV_iload_n O dX8_propertyOf_78 rfl rfl ?_
    refine zV_iconst (z := 3) O ⟨by omega, by omega⟩ dX8_propertyOf_79 ?_
    refine zV_callV (as := [aI x2, aI 3]) (st := []) O zc_X8_of (Or.inl zl_RX8_218) zi_1549 zi_117 zt_185 rfl rfl (by decide) (Nat.le_of_ble_eq_true rfl) rfl rfl (Nat.le_of_ble_eq_true rfl) (Nat.le_of_ble_eq_true rfl) (Nat.le_of_ble_eq_true rfl) (Nat.le_of_ble_eq_true rfl) (Nat.le_of_ble_eq_true rfl) (Nat.le_of_ble_eq_true rfl) dX8_propertyOf_80 (sX8_of hM) (fun r h9 hq => ?_) (fun x h9 hq => hq.elim)
    obtain ⟨rfl, z13, rfl, hM⟩ := hq
    exact zV_iret O rfl ⟨rfl, _, rfl, hM⟩ (Nat.le_of_ble_eq_true rfl) (Nat.le_of_ble_eq_true rfl) dX8_propertyOf_83
  by_cases hc6 : x1 = 6
  · replace hM := hM.2.2.2.2.2.2.1 hc6
    refine zV_tableIn (tgt := 84) O dX8_propertyOf_1 (by omega) (by omega) (by rw [hc6]; rfl) (by decide) ?_
    refine zV_aload_n O dX8_propertyOf_84 rfl rfl ?_
    refine zV_iload_n O dX8_propertyOf_85 rfl rfl ?_
    refine zV_iconst (z := 4) O ⟨by omega, by omega⟩ dX8_propertyOf_86 ?_
    refine zV_callV (as := [aI x2, aI 4]) (st := []) O zc_X8_of (Or.inl zl_RX8_218) zi_1549 zi_117 zt_185 rfl rfl (by decide) (Nat.le_of_ble_eq_true rfl) rfl rfl (Nat.le_of_ble_eq_true rfl) (Nat.le_of_ble_eq_true rfl) (Nat.le_of_ble_eq_true rfl) (Nat.le_of_ble_eq_true rfl) (Nat.le_of_ble_eq_true rfl) (Nat.le_of_ble_eq_true rfl) dX8_propertyOf_87 (sX8_of hM) (fun r h9 hq => ?_) (fun x h9 hq => hq.elim)
    obtain ⟨rfl, z14, rfl, hM⟩ := hq
    exact zV_iret O rfl ⟨rfl, _, rfl, hM⟩ (Nat.le_of_ble_eq_true rfl) (Nat.le_of_ble_eq_true rfl) dX8_propertyOf_90
  by_cases hc7 : x1 = 7
  · replace hM := hM.2.2.2.2.2.2.2.1 hc7
    refine zV_tableIn (tgt := 91) O dX8_propertyOf_1 (by omega) (by omega) (by rw [hc7]; rfl) (by decide) ?_
    refine zV_aload_n O dX8_propertyOf_91 rfl rfl ?_
    refine zV_iload_n O dX8_propertyOf_92 rfl rfl ?_
    refine zV_callV (as := [aI x2]) (st := []) O zc_X8_hasClash (Or.inl zl_RX8_419) zi_1927 zi_165 zt_185 rfl rfl (by decide) (Nat.le_of_ble_eq_true rfl) rfl rfl (Nat.le_of_ble_eq_true rfl) (Nat.le_of_ble_eq_true rfl) (Nat.le_of_ble_eq_true rfl) (Nat.le_of_ble_eq_true rfl) (Nat.le_of_ble_eq_true rfl) (Nat.le_of_ble_eq_true rfl) dX8_propertyOf_93 (sX8_hasClash hM) (fun r h9 hq => ?_) (fun x h9 hq => hq.elim)
    obtain ⟨rfl, z15, rfl, hzz15, hM⟩ := hq
    refine zV_if_eq (tgt := 103) O dX8_propertyOf_96 (by decide) (fun hc => ?_) (fun hc => ?_)
    · replace hM := hM.1 hc
      refine zV_iconst (z := 0) O ⟨by omega, by omega⟩ dX8_propertyOf_103 ?_
      exact zV_iret O rfl ⟨rfl, _, rfl, hM⟩ (Nat.le_of_ble_eq_true rfl) (Nat.le_of_ble_eq_true rfl) dX8_propertyOf_104
    · replace hM := hM.2 hc
      refine zV_iconst (z := 1) O ⟨by omega, by omega⟩ dX8_propertyOf_99 ?_
      refine zV_goto (tgt := 104) O dX8_propertyOf_100 (by decide) ?_
      exact zV_iret O rfl ⟨rfl, _, rfl, hM⟩ (Nat.le_of_ble_eq_true rfl) (Nat.le_of_ble_eq_true rfl) dX8_propertyOf_104
  have hc : x1 < 0 ∨ 7 < x1 := by omega
  replace hM := hM.2.2.2.2.2.2.2.2 hc
  refine zV_tableOut (tgt := 105) O dX8_propertyOf_1 hc (by decide) ?_
  refine zV_aload_n O dX8_propertyOf_105 rfl rfl ?_
  refine zV_iload_n O dX8_propertyOf_106 rfl rfl ?_
  refine zV_callV (as := [aI x2]) (st := []) O zc_X8_reachOf (Or.inl zl_RX8_314) zi_1656 zi_132 zt_185 rfl rfl (by decide) (Nat.le_of_ble_eq_true rfl) rfl rfl (Nat.le_of_ble_eq_true rfl) (Nat.le_of_ble_eq_true rfl) (Nat.le_of_ble_eq_true rfl) (Nat.le_of_ble_eq_true rfl) (Nat.le_of_ble_eq_true rfl) (Nat.le_of_ble_eq_true rfl) dX8_propertyOf_107 (sX8_reachOf hM) (fun r h9 hq => ?_) (fun x h9 hq => hq.elim)
  obtain ⟨rfl, z16, rfl, hM⟩ := hq
  exact zV_iret O rfl ⟨rfl, _, rfl, hM⟩ (Nat.le_of_ble_eq_true rfl) (Nat.le_of_ble_eq_true rfl) dX8_propertyOf_110
def mX8_reach (x1 : Int) (h : Hp) (Q : Int → Hp → Prop) : Prop := (∀ h6 : Hp, h6 = hu h 185 0 0 → (mX8_isHost x1 h6 (fun z7 => (mX8_fails z7 1 h6 (fun z8 h9 => ((z8 = 0 → (mX8_reachOf x1 h9 (fun z10 => (Q z10 h9)))) ∧ (¬ z8 = 0 → (Q 0 h9))))))))
set_option maxHeartbeats 4000000 in
set_option maxRecDepth 100000 in
theorem sX8_reach {l0 : Launch} {x1 : Int} {h : Hp} {Q : Int → Hp → Prop}  (hM : mX8_reach x1 h Q) : zSp l0 yX8_reach cX8_reach 2 (some .int) 197 (11) 0 0 [aR 185, aI x1] h (qI Q) xN := by
  unfold mX8_reach at hM
  refine zSp_intro zpn_RX8 (Nat.le_of_ble_eq_true rfl) (fun a O => ?_)
  show zV a (11, 0, 0, (qI Q), xN) 0 0 0 [some (aR 185), some (aI x1)] [] h
  refine zV_aload_n O dX8_reach_0 rfl rfl ?_
  refine zV_iconst (z := 0) O ⟨by omega, by omega⟩ dX8_reach_1 ?_
  refine zV_putI O zf_RX8_1 zt_185 rfl (by decide) dX8_reach_2 ?_
  have hM := hM _ rfl
  generalize hu h 185 0 0 = h6 at hM ⊢
  refine zV_aload_n O dX8_reach_5 rfl rfl ?_
  refine zV_aload_n O dX8_reach_6 rfl rfl ?_
  refine zV_iload_n O dX8_reach_7 rfl rfl ?_
  refine zV_callV (as := [aI x1]) (st := [aR 185]) O zc_X8_isHost (Or.inl zl_RX8_295) zi_1589 zi_126 zt_185 rfl rfl (by decide) (Nat.le_of_ble_eq_true rfl) rfl rfl (Nat.le_of_ble_eq_true rfl) (Nat.le_of_ble_eq_true rfl) (Nat.le_of_ble_eq_true rfl) (Nat.le_of_ble_eq_true rfl) (Nat.le_of_ble_eq_true rfl) (Nat.le_of_ble_eq_true rfl) dX8_reach_8 (sX8_isHost hM) (fun r h9 hq => ?_) (fun x h9 hq => hq.elim)
  obtain ⟨rfl, z7, rfl, hzz7, hM⟩ := hq
  refine zV_iconst (z := 1) O ⟨by omega, by omega⟩ dX8_reach_11 ?_
  refine zV_callV (as := [aI z7, aI 1]) (st := []) O zc_X8_fails (Or.inl zl_RX8_201) zi_1420 zi_93 zt_185 rfl rfl (by decide) (Nat.le_of_ble_eq_true rfl) rfl rfl (Nat.le_of_ble_eq_true rfl) (Nat.le_of_ble_eq_true rfl) (Nat.le_of_ble_eq_true rfl) (Nat.le_of_ble_eq_true rfl) (Nat.le_of_ble_eq_true rfl) (Nat.le_of_ble_eq_true rfl) dX8_reach_12 (sX8_fails hM) (fun r h9 hq => ?_) (fun x h9 hq => hq.elim)
  obtain ⟨z8, rfl, hzz8, hM⟩ := hq
  refine zV_if_eq (tgt := 22) O dX8_reach_15 (by decide) (fun hc => ?_) (fun hc => ?_)
  · replace hM := hM.1 hc
    refine zV_aload_n O dX8_reach_22 rfl rfl ?_
    refine zV_iload_n O dX8_reach_23 rfl rfl ?_
    refine zV_callV (as := [aI x1]) (st := []) O zc_X8_reachOf (Or.inl zl_RX8_314) zi_1656 zi_132 zt_185 rfl rfl (by decide) (Nat.le_of_ble_eq_true rfl) rfl rfl (Nat.le_of_ble_eq_true rfl) (Nat.le_of_ble_eq_true rfl) (Nat.le_of_ble_eq_true rfl) (Nat.le_of_ble_eq_true rfl) (Nat.le_of_ble_eq_true rfl) (Nat.le_of_ble_eq_true rfl) dX8_reach_24 (sX8_reachOf hM) (fun r h9 hq => ?_) (fun x h9 hq => hq.elim)
    obtain ⟨rfl, z10, rfl, hM⟩ := hq
    exact zV_iret O rfl ⟨_, rfl, hM⟩ (Nat.le_of_ble_eq_true rfl) (Nat.le_of_ble_eq_true rfl) dX8_reach_27
  · replace hM := hM.2 hc
    refine zV_iconst (z := 0) O ⟨by omega, by omega⟩ dX8_reach_18 ?_
    refine zV_goto (tgt := 27) O dX8_reach_19 (by decide) ?_
    exact zV_iret O rfl ⟨_, rfl, hM⟩ (Nat.le_of_ble_eq_true rfl) (Nat.le_of_ble_eq_true rfl) dX8_reach_27
def mX8_holds__b135 (Q : Int → Hp → Prop) (K4 : Int → Int → Int → Hp → Prop) (v1 : Int) (v2 : Int) (v3 : Int) (h : Hp) : Prop := (zr (v3 + 1) ∧ (K4 v1 v2 (v3 + 1) h))
set_option maxHeartbeats 4000000 in
set_option maxRecDepth 100000 in
theorem sX8_holds__b135 {l0 : Launch} {a : ZC}  {Q : Int → Hp → Prop} {K4 : Int → Int → Int → Hp → Prop} (O : zOk l0 a cX8_holds_ RX8 5 (some .boolean) 197 [])  (hK4 : ∀ (v1 : Int) (v2 : Int) (v3 : Int) (h : Hp), K4 v1 v2 v3 h → zV a (12, 0, 0, (qZ Q), xN) 0 0 4 [some (aR 185), some (aI v1), some (aI v2), some (aI v3), none] [] h) {v1 : Int} {v2 : Int} {v3 : Int} {h : Hp}  (hM : mX8_holds__b135 Q K4 v1 v2 v3 h) : zV a (12, 0, 0, (qZ Q), xN) 0 0 135 [some (aR 185), some (aI v1), some (aI v2), some (aI v3), none] [] h := by
  unfold mX8_holds__b135 at hM
  obtain ⟨hc, hM⟩ := hM
  refine zV_iinc O dX8_holds__135 rfl (Nat.le_of_ble_eq_true rfl) rfl hc ?_
  refine zV_goto (tgt := 4) O dX8_holds__138 (by decide) ?_
  exact hK4 _ _ _ _ hM
def mX8_holds__b131 (Q : Int → Hp → Prop) (K4 : Int → Int → Int → Hp → Prop) (v1 : Int) (v2 : Int) (v3 : Int) (s0 : Int) (s1 : Int) (h : Hp) : Prop := (((0 : Int) ≤ s1 ∧ s1 < 200) ∧ (∀ h24 : Hp, h24 = wr h 196 s1 s0 → (zr (v2 + 1) ∧ (mX8_holds__b135 Q K4 v1 (v2 + 1) v3 h24))))
set_option maxHeartbeats 4000000 in
set_option maxRecDepth 100000 in
theorem sX8_holds__b131 {l0 : Launch} {a : ZC}  {Q : Int → Hp → Prop} {K4 : Int → Int → Int → Hp → Prop} (O : zOk l0 a cX8_holds_ RX8 5 (some .boolean) 197 [])  (hK4 : ∀ (v1 : Int) (v2 : Int) (v3 : Int) (h : Hp), K4 v1 v2 v3 h → zV a (12, 0, 0, (qZ Q), xN) 0 0 4 [some (aR 185), some (aI v1), some (aI v2), some (aI v3), none] [] h) {v1 : Int} {v2 : Int} {v3 : Int} {s0 : Int} {s1 : Int} {h : Hp}  (hM : mX8_holds__b131 Q K4 v1 v2 v3 s0 s1 h) : zV a (12, 0, 0, (qZ Q), xN) 0 0 131 [some (aR 185), some (aI v1), some (aI v2), some (aI v3), none] [aI s0, aI s1, aR 196] h := by
  unfold mX8_holds__b131 at hM
  obtain ⟨hc, hM⟩ := hM
  refine zV_iast O zt_196 (by decide) hc dX8_holds__131 ?_
  have hM := hM (hu h 196 (Int.toNat s1) s0) rfl
  generalize hu h 196 (Int.toNat s1) s0 = h24 at hM ⊢
  obtain ⟨hc, hM⟩ := hM
  refine zV_iinc O dX8_holds__132 rfl (Nat.le_of_ble_eq_true rfl) rfl hc ?_
  exact sX8_holds__b135 O hK4 hM
def mX8_holds__b100 (Q : Int → Hp → Prop) (K4 : Int → Int → Int → Hp → Prop) (v1 : Int) (v2 : Int) (v3 : Int) (s0 : Int) (s1 : Int) (h : Hp) : Prop := (((0 : Int) ≤ s1 ∧ s1 < 200) ∧ (∀ h25 : Hp, h25 = wr h 196 s1 s0 → (mX8_holds__b135 Q K4 v1 v2 v3 h25)))
set_option maxHeartbeats 4000000 in
set_option maxRecDepth 100000 in
theorem sX8_holds__b100 {l0 : Launch} {a : ZC}  {Q : Int → Hp → Prop} {K4 : Int → Int → Int → Hp → Prop} (O : zOk l0 a cX8_holds_ RX8 5 (some .boolean) 197 [])  (hK4 : ∀ (v1 : Int) (v2 : Int) (v3 : Int) (h : Hp), K4 v1 v2 v3 h → zV a (12, 0, 0, (qZ Q), xN) 0 0 4 [some (aR 185), some (aI v1), some (aI v2), some (aI v3), none] [] h) {v1 : Int} {v2 : Int} {v3 : Int} {s0 : Int} {s1 : Int} {h : Hp} (hz_s0 : s0 = 0 ∨ s0 = 1) (hM : mX8_holds__b100 Q K4 v1 v2 v3 s0 s1 h) : zV a (12, 0, 0, (qZ Q), xN) 0 0 100 [some (aR 185), some (aI v1), some (aI v2), some (aI v3), none] [aI s0, aI s1, aR 196] h := by
  unfold mX8_holds__b100 at hM
  obtain ⟨hc, hM⟩ := hM
  refine zV_iast O zt_196 (by decide) hc dX8_holds__100 ?_
  have hM := hM (hu h 196 (Int.toNat s1) s0) rfl
  generalize hu h 196 (Int.toNat s1) s0 = h25 at hM ⊢
  refine zV_goto (tgt := 135) O dX8_holds__101 (by decide) ?_
  exact sX8_holds__b135 O hK4 hM
def mX8_holds__b4 (Q : Int → Hp → Prop) : Nat → Int → Int → Int → Hp → Prop
  | 0 => fun _ _ _ _ => False
  | fu4 + 1 => fun v1 v2 v3 h => (((h 185 26) ≤ v3 → (((0 : Int) ≤ 0 ∧ (0 : Int) < 200) ∧ ((¬ (rd h 196 0) = (1 : Int) → (Q 0 h)) ∧ ((rd h 196 0) = (1 : Int) → (Q 1 h))))) ∧ (¬ (h 185 26) ≤ v3 → (((0 : Int) ≤ v3 ∧ v3 < 200) ∧ ((¬ (rd h 194 v3) = (23 : Int) → (mX8_in (rd h 194 v3) 20 25 h (fun z26 => ((z26 = 0 → (((rd h 194 v3) < (100 : Int) → (mX8_propertyOf (rd h 194 v3) v1 h (fun z27 => (mX8_holds__b131 Q (mX8_holds__b4 Q fu4) v1 v2 v3 z27 v2 h)))) ∧ (¬ (rd h 194 v3) < (100 : Int) → (zr ((rd h 194 v3) - 100) ∧ (mX8_holds__b131 Q (mX8_holds__b4 Q fu4) v1 v2 v3 ((rd h 194 v3) - 100) v2 h))))) ∧ (¬ z26 = 0 → (zr (v2 + (-1)) ∧ (zr ((v2 + (-1)) - 1) ∧ (zr ((v2 + (-1)) - 1) ∧ (((0 : Int) ≤ ((v2 + (-1)) - 1) ∧ ((v2 + (-1)) - 1) < 200) ∧ (((0 : Int) ≤ (v2 + (-1)) ∧ (v2 + (-1)) < 200) ∧ (mX8_joined (rd h 194 v3) (rd h 196 ((v2 + (-1)) - 1)) (rd h 196 (v2 + (-1))) h (fun z28 => ((z28 = 0 → (mX8_holds__b100 Q (mX8_holds__b4 Q fu4) v1 (v2 + (-1)) v3 0 ((v2 + (-1)) - 1) h)) ∧ (¬ z28 = 0 → (mX8_holds__b100 Q (mX8_holds__b4 Q fu4) v1 (v2 + (-1)) v3 1 ((v2 + (-1)) - 1) h))))))))))))))) ∧ ((rd h 194 v3) = (23 : Int) → (zr (v2 - 1) ∧ (zr (v2 - 1) ∧ (((0 : Int) ≤ (v2 - 1) ∧ (v2 - 1) < 200) ∧ (zr (1 - (rd h 196 (v2 - 1))) ∧ (((0 : Int) ≤ (v2 - 1) ∧ (v2 - 1) < 200) ∧ (∀ h29 : Hp, h29 = wr h 196 (v2 - 1) (1 - (rd h 196 (v2 - 1))) → (mX8_holds__b135 Q (mX8_holds__b4 Q fu4) v1 v2 v3 h29))))))))))))
set_option maxHeartbeats 4000000 in
set_option maxRecDepth 100000 in
theorem sX8_holds__b4 {l0 : Launch} {a : ZC}  {Q : Int → Hp → Prop}  (O : zOk l0 a cX8_holds_ RX8 5 (some .boolean) 197 [])   : ∀ (ff : Nat) (v1 : Int) (v2 : Int) (v3 : Int) (h : Hp), mX8_holds__b4 Q ff v1 v2 v3 h → zV a (12, 0, 0, (qZ Q), xN) 0 0 4 [some (aR 185), some (aI v1), some (aI v2), some (aI v3), none] [] h := by
  intro ff
  induction ff with
  | zero => intro v1 v2 v3 h hM; exact hM.elim
  | succ ff ih =>
    have hK4 := ih
    intro v1 v2 v3 h hM
    unfold mX8_holds__b4 at hM
    refine zV_iload_n O dX8_holds__4 rfl rfl ?_
    refine zV_aload_n O dX8_holds__5 rfl rfl ?_
    refine zV_getI O zf_RX8_363 zt_185 rfl (by decide) dX8_holds__6 ?_
    refine zV_icmp_ge (tgt := 141) O dX8_holds__9 (by decide) (fun hc => ?_) (fun hc => ?_)
    · replace hM := hM.1 hc
      refine zV_aload_n O dX8_holds__141 rfl rfl ?_
      refine zV_getR O zf_RX8_47 zt_185 rfl (by decide) dX8_holds__142 ?_
      refine zV_iconst (z := 0) O ⟨by omega, by omega⟩ dX8_holds__145 ?_
      obtain ⟨hc, hM⟩ := hM
      refine zV_iald O zt_196 (by decide) hc dX8_holds__146 ?_
      refine zV_iconst (z := 1) O ⟨by omega, by omega⟩ dX8_holds__147 ?_
      refine zV_icmp_ne (tgt := 155) O dX8_holds__148 (by decide) (fun hc => ?_) (fun hc => ?_)
      · replace hM := hM.1 hc
        refine zV_iconst (z := 0) O ⟨by omega, by omega⟩ dX8_holds__155 ?_
        exact zV_zret O rfl (Or.inl rfl) ⟨_, rfl, (Or.inl rfl), hM⟩ (Nat.le_of_ble_eq_true rfl) (Nat.le_of_ble_eq_true rfl) dX8_holds__156
      · replace hM := hM.2 hc
        refine zV_iconst (z := 1) O ⟨by omega, by omega⟩ dX8_holds__151 ?_
        refine zV_goto (tgt := 156) O dX8_holds__152 (by decide) ?_
        exact zV_zret O rfl (Or.inr rfl) ⟨_, rfl, (Or.inr rfl), hM⟩ (Nat.le_of_ble_eq_true rfl) (Nat.le_of_ble_eq_true rfl) dX8_holds__156
    · replace hM := hM.2 hc
      refine zV_aload_n O dX8_holds__12 rfl rfl ?_
      refine zV_getR O zf_RX8_41 zt_185 rfl (by decide) dX8_holds__13 ?_
      refine zV_iload_n O dX8_holds__16 rfl rfl ?_
      obtain ⟨hc, hM⟩ := hM
      refine zV_iald O zt_194 (by decide) hc dX8_holds__17 ?_
      refine zV_istore O dX8_holds__18 (Nat.le_of_ble_eq_true rfl) rfl ?_
      refine zV_iload O dX8_holds__20 rfl ?_
      refine zV_bipush (z := 23) O ⟨by omega, by omega⟩ rfl dX8_holds__22 ?_
      refine zV_icmp_ne (tgt := 48) O dX8_holds__24 (by decide) (fun hc => ?_) (fun hc => ?_)
      · replace hM := hM.1 hc
        refine zV_iload O dX8_holds__48 rfl ?_
        refine zV_i2l O dX8_holds__50 ?_
        refine zV_ldc2 (z := 20) O ⟨by omega, by omega⟩ zi_1916.1 zi_1916.2 dX8_holds__51 ?_
        refine zV_ldc2 (z := 25) O ⟨by omega, by omega⟩ zi_1917.1 zi_1917.2 dX8_holds__54 ?_
        refine zV_callS (as := [aL (rd h 194 v3), aL 20, aL 25]) (st := []) O zc_X8_in (Or.inl zl_RX8_125) zi_1416 (Nat.le_of_ble_eq_true rfl) rfl rfl (Nat.le_of_ble_eq_true rfl) (Nat.le_of_ble_eq_true rfl) (Nat.le_of_ble_eq_true rfl) (Nat.le_of_ble_eq_true rfl) (Nat.le_of_ble_eq_true rfl) (Nat.le_of_ble_eq_true rfl) dX8_holds__57 (sX8_in hM) (fun r h9 hq => ?_) (fun x h9 hq => hq.elim)
        obtain ⟨rfl, z26, rfl, hzz26, hM⟩ := hq
        refine zV_if_eq (tgt := 104) O dX8_holds__60 (by decide) (fun hc => ?_) (fun hc => ?_)
        · replace hM := hM.1 hc
          refine zV_aload_n O dX8_holds__104 rfl rfl ?_
          refine zV_getR O zf_RX8_47 zt_185 rfl (by decide) dX8_holds__105 ?_
          refine zV_iload_n O dX8_holds__108 rfl rfl ?_
          refine zV_iload O dX8_holds__109 rfl ?_
          refine zV_bipush (z := 100) O ⟨by omega, by omega⟩ rfl dX8_holds__111 ?_
          refine zV_icmp_lt (tgt := 124) O dX8_holds__113 (by decide) (fun hc => ?_) (fun hc => ?_)
          · replace hM := hM.1 hc
            refine zV_aload_n O dX8_holds__124 rfl rfl ?_
            refine zV_iload O dX8_holds__125 rfl ?_
            refine zV_iload_n O dX8_holds__127 rfl rfl ?_
            refine zV_callV (as := [aI (rd h 194 v3), aI v1]) (st := [aI v2, aR 196]) O zc_X8_propertyOf (Or.inl zl_RX8_429) zi_1923 zi_164 zt_185 rfl rfl (by decide) (Nat.le_of_ble_eq_true rfl) rfl rfl (Nat.le_of_ble_eq_true rfl) (Nat.le_of_ble_eq_true rfl) (Nat.le_of_ble_eq_true rfl) (Nat.le_of_ble_eq_true rfl) (Nat.le_of_ble_eq_true rfl) (Nat.le_of_ble_eq_true rfl) dX8_holds__128 (sX8_propertyOf hM) (fun r h9 hq => ?_) (fun x h9 hq => hq.elim)
            obtain ⟨rfl, z27, rfl, hM⟩ := hq
            refine zV_sub (ls2 := [some (aR 185), some (aI v1), some (aI v2), some (aI v3), none]) ⟨rfl, rfl, rfl, rfl, trivial⟩ ?_
            exact sX8_holds__b131 O hK4 hM
          · replace hM := hM.2 hc
            refine zV_iload O dX8_holds__116 rfl ?_
            refine zV_bipush (z := 100) O ⟨by omega, by omega⟩ rfl dX8_holds__118 ?_
            obtain ⟨hc, hM⟩ := hM
            refine zV_isub O dX8_holds__120 hc ?_
            refine zV_goto (tgt := 131) O dX8_holds__121 (by decide) ?_
            refine zV_sub (ls2 := [some (aR 185), some (aI v1), some (aI v2), some (aI v3), none]) ⟨rfl, rfl, rfl, rfl, trivial⟩ ?_
            exact sX8_holds__b131 O hK4 hM
        · replace hM := hM.2 hc
          obtain ⟨hc, hM⟩ := hM
          refine zV_iinc O dX8_holds__63 rfl (Nat.le_of_ble_eq_true rfl) rfl hc ?_
          refine zV_aload_n O dX8_holds__66 rfl rfl ?_
          refine zV_getR O zf_RX8_47 zt_185 rfl (by decide) dX8_holds__67 ?_
          refine zV_iload_n O dX8_holds__70 rfl rfl ?_
          refine zV_iconst (z := 1) O ⟨by omega, by omega⟩ dX8_holds__71 ?_
          obtain ⟨hc, hM⟩ := hM
          refine zV_isub O dX8_holds__72 hc ?_
          refine zV_iload O dX8_holds__73 rfl ?_
          refine zV_aload_n O dX8_holds__75 rfl rfl ?_
          refine zV_getR O zf_RX8_47 zt_185 rfl (by decide) dX8_holds__76 ?_
          refine zV_iload_n O dX8_holds__79 rfl rfl ?_
          refine zV_iconst (z := 1) O ⟨by omega, by omega⟩ dX8_holds__80 ?_
          obtain ⟨hc, hM⟩ := hM
          refine zV_isub O dX8_holds__81 hc ?_
          obtain ⟨hc, hM⟩ := hM
          refine zV_iald O zt_196 (by decide) hc dX8_holds__82 ?_
          refine zV_aload_n O dX8_holds__83 rfl rfl ?_
          refine zV_getR O zf_RX8_47 zt_185 rfl (by decide) dX8_holds__84 ?_
          refine zV_iload_n O dX8_holds__87 rfl rfl ?_
          obtain ⟨hc, hM⟩ := hM
          refine zV_iald O zt_196 (by decide) hc dX8_holds__88 ?_
          refine zV_callS (as := [aI (rd h 194 v3), aI (rd h 196 ((v2 + (-1)) - 1)), aI (rd h 196 (v2 + (-1)))]) (st := [aI ((v2 + (-1)) - 1), aR 196]) O zc_X8_joined (Or.inl zl_RX8_426) zi_1919 (Nat.le_of_ble_eq_true rfl) rfl rfl (Nat.le_of_ble_eq_true rfl) (Nat.le_of_ble_eq_true rfl) (Nat.le_of_ble_eq_true rfl) (Nat.le_of_ble_eq_true rfl) (Nat.le_of_ble_eq_true rfl) (Nat.le_of_ble_eq_true rfl) dX8_holds__89 (sX8_joined hM) (fun r h9 hq => ?_) (fun x h9 hq => hq.elim)
          obtain ⟨rfl, z28, rfl, hzz28, hM⟩ := hq
          refine zV_if_eq (tgt := 99) O dX8_holds__92 (by decide) (fun hc => ?_) (fun hc => ?_)
          · replace hM := hM.1 hc
            refine zV_iconst (z := 0) O ⟨by omega, by omega⟩ dX8_holds__99 ?_
            refine zV_sub (ls2 := [some (aR 185), some (aI v1), some (aI (v2 + (-1))), some (aI v3), none]) ⟨rfl, rfl, rfl, rfl, trivial⟩ ?_
            exact sX8_holds__b100 O hK4 (Or.inl rfl) hM
          · replace hM := hM.2 hc
            refine zV_iconst (z := 1) O ⟨by omega, by omega⟩ dX8_holds__95 ?_
            refine zV_goto (tgt := 100) O dX8_holds__96 (by decide) ?_
            refine zV_sub (ls2 := [some (aR 185), some (aI v1), some (aI (v2 + (-1))), some (aI v3), none]) ⟨rfl, rfl, rfl, rfl, trivial⟩ ?_
            exact sX8_holds__b100 O hK4 (Or.inr rfl) hM
      · replace hM := hM.2 hc
        refine zV_aload_n O dX8_holds__27 rfl rfl ?_
        refine zV_getR O zf_RX8_47 zt_185 rfl (by decide) dX8_holds__28 ?_
        refine zV_iload_n O dX8_holds__31 rfl rfl ?_
        refine zV_iconst (z := 1) O ⟨by omega, by omega⟩ dX8_holds__32 ?_
        obtain ⟨hc, hM⟩ := hM
        refine zV_isub O dX8_holds__33 hc ?_
        refine zV_iconst (z := 1) O ⟨by omega, by omega⟩ dX8_holds__34 ?_
        refine zV_aload_n O dX8_holds__35 rfl rfl ?_
        refine zV_getR O zf_RX8_47 zt_185 rfl (by decide) dX8_holds__36 ?_
        refine zV_iload_n O dX8_holds__39 rfl rfl ?_
        refine zV_iconst (z := 1) O ⟨by omega, by omega⟩ dX8_holds__40 ?_
        obtain ⟨hc, hM⟩ := hM
        refine zV_isub O dX8_holds__41 hc ?_
        obtain ⟨hc, hM⟩ := hM
        refine zV_iald O zt_196 (by decide) hc dX8_holds__42 ?_
        obtain ⟨hc, hM⟩ := hM
        refine zV_isub O dX8_holds__43 hc ?_
        obtain ⟨hc, hM⟩ := hM
        refine zV_iast O zt_196 (by decide) hc dX8_holds__44 ?_
        have hM := hM (hu h 196 (Int.toNat (v2 - 1)) (1 - (rd h 196 (v2 - 1)))) rfl
        generalize hu h 196 (Int.toNat (v2 - 1)) (1 - (rd h 196 (v2 - 1))) = h29 at hM ⊢
        refine zV_goto (tgt := 135) O dX8_holds__45 (by decide) ?_
        refine zV_sub (ls2 := [some (aR 185), some (aI v1), some (aI v2), some (aI v3), none]) ⟨rfl, rfl, rfl, rfl, trivial⟩ ?_
        exact sX8_holds__b135 O hK4 hM
def mX8_holds_ (x1 : Int) (h : Hp) (Q : Int → Hp → Prop) : Prop := (∃ ff, mX8_holds__b4 Q ff x1 0 0 h)
set_option maxHeartbeats 4000000 in
set_option maxRecDepth 100000 in
theorem sX8_holds_ {l0 : Launch} {x1 : Int} {h : Hp} {Q : Int → Hp → Prop}  (hM : mX8_holds_ x1 h Q) : zSp l0 yX8_holds_ cX8_holds_ 5 (some .boolean) 197 (12) 0 0 [aR 185, aI x1] h (qZ Q) xN := by
  unfold mX8_holds_ at hM
  refine zSp_intro zpn_RX8 (Nat.le_of_ble_eq_true rfl) (fun a O => ?_)
  show zV a (12, 0, 0, (qZ Q), xN) 0 0 0 [some (aR 185), some (aI x1), none, none, none] [] h
  refine zV_iconst (z := 0) O ⟨by omega, by omega⟩ dX8_holds__0 ?_
  refine zV_istore_n O dX8_holds__1 rfl (Nat.le_of_ble_eq_true rfl) rfl ?_
  refine zV_iconst (z := 0) O ⟨by omega, by omega⟩ dX8_holds__2 ?_
  refine zV_istore_n O dX8_holds__3 rfl (Nat.le_of_ble_eq_true rfl) rfl ?_
  obtain ⟨ff, hM⟩ := hM
  exact sX8_holds__b4 O ff _ _ _ _ hM
def mX8_query_b123 (Q : Int → Hp → Prop) (K90 : Int → Int → Int → Hp → Prop) (v2 : Int) (v3 : Int) (v4 : Int) (h : Hp) : Prop := (zr (v4 + 1) ∧ (K90 v2 v3 (v4 + 1) h))
set_option maxHeartbeats 4000000 in
set_option maxRecDepth 100000 in
theorem sX8_query_b123 {l0 : Launch} {a : ZC}  {Q : Int → Hp → Prop} {K90 : Int → Int → Int → Hp → Prop} (O : zOk l0 a cX8_query RX8 5 (some .int) 197 [])  (hK90 : ∀ (v2 : Int) (v3 : Int) (v4 : Int) (h : Hp), (v2 = 0 ∨ v2 = 1) → K90 v2 v3 v4 h → zV a (13, 0, 0, (qI Q), xN) 0 0 90 [some (aR 185), none, some (aI v2), some (aI v3), some (aI v4)] [] h) {v2 : Int} {v3 : Int} {v4 : Int} {h : Hp} (hz_v2 : v2 = 0 ∨ v2 = 1) (hM : mX8_query_b123 Q K90 v2 v3 v4 h) : zV a (13, 0, 0, (qI Q), xN) 0 0 123 [some (aR 185), none, some (aI v2), some (aI v3), some (aI v4)] [] h := by
  unfold mX8_query_b123 at hM
  obtain ⟨hc, hM⟩ := hM
  refine zV_iinc O dX8_query_123 rfl (Nat.le_of_ble_eq_true rfl) rfl hc ?_
  refine zV_goto (tgt := 90) O dX8_query_126 (by decide) ?_
  exact hK90 _ _ _ _ hz_v2 hM
def mX8_query_b90 (Q : Int → Hp → Prop) : Nat → Int → Int → Int → Hp → Prop
  | 0 => fun _ _ _ _ => False
  | fu90 + 1 => fun v2 v3 v4 h => (((0 : Int) ≤ 0 ∧ (0 : Int) < 1096) ∧ (((rd h 186 0) ≤ v4 → ((v2 = 0 → (Q v3 h)) ∧ (¬ v2 = 0 → (Q (-1) h)))) ∧ (¬ (rd h 186 0) ≤ v4 → (mX8_holds_ v4 h (fun z23 h24 => ((¬ z23 = 0 → ((v2 = 0 → (zr (v3 + 1) ∧ (mX8_query_b123 Q (mX8_query_b90 Q fu90) v2 (v3 + 1) v4 h24))) ∧ (¬ v2 = 0 → (Q v4 h24)))) ∧ (z23 = 0 → (mX8_query_b123 Q (mX8_query_b90 Q fu90) v2 v3 v4 h24))))))))
set_option maxHeartbeats 4000000 in
set_option maxRecDepth 100000 in
theorem sX8_query_b90 {l0 : Launch} {a : ZC}  {Q : Int → Hp → Prop}  (O : zOk l0 a cX8_query RX8 5 (some .int) 197 [])   : ∀ (ff : Nat) (v2 : Int) (v3 : Int) (v4 : Int) (h : Hp), (v2 = 0 ∨ v2 = 1) → mX8_query_b90 Q ff v2 v3 v4 h → zV a (13, 0, 0, (qI Q), xN) 0 0 90 [some (aR 185), none, some (aI v2), some (aI v3), some (aI v4)] [] h := by
  intro ff
  induction ff with
  | zero => intro v2 v3 v4 h hz_v2 hM; exact hM.elim
  | succ ff ih =>
    have hK90 := ih
    intro v2 v3 v4 h hz_v2 hM
    unfold mX8_query_b90 at hM
    refine zV_iload O dX8_query_90 rfl ?_
    refine zV_aload_n O dX8_query_92 rfl rfl ?_
    refine zV_getR O zf_RX8_13 zt_185 rfl (by decide) dX8_query_93 ?_
    refine zV_iconst (z := 0) O ⟨by omega, by omega⟩ dX8_query_96 ?_
    obtain ⟨hc, hM⟩ := hM
    refine zV_iald O zt_186 (by decide) hc dX8_query_97 ?_
    refine zV_icmp_ge (tgt := 129) O dX8_query_98 (by decide) (fun hc => ?_) (fun hc => ?_)
    · replace hM := hM.1 hc
      refine zV_iload_n O dX8_query_129 rfl rfl ?_
      refine zV_if_eq (tgt := 137) O dX8_query_130 (by decide) (fun hc => ?_) (fun hc => ?_)
      · replace hM := hM.1 hc
        refine zV_iload_n O dX8_query_137 rfl rfl ?_
        exact zV_iret O rfl ⟨_, rfl, hM⟩ (Nat.le_of_ble_eq_true rfl) (Nat.le_of_ble_eq_true rfl) dX8_query_138
      · replace hM := hM.2 hc
        refine zV_iconst (z := -1) O ⟨by omega, by omega⟩ dX8_query_133 ?_
        refine zV_goto (tgt := 138) O dX8_query_134 (by decide) ?_
        exact zV_iret O rfl ⟨_, rfl, hM⟩ (Nat.le_of_ble_eq_true rfl) (Nat.le_of_ble_eq_true rfl) dX8_query_138
    · replace hM := hM.2 hc
      refine zV_aload_n O dX8_query_101 rfl rfl ?_
      refine zV_iload O dX8_query_102 rfl ?_
      refine zV_callV (as := [aI v4]) (st := []) O zc_X8_holds_ (Or.inl zl_RX8_443) zi_1914 zi_163 zt_185 rfl rfl (by decide) (Nat.le_of_ble_eq_true rfl) rfl rfl (Nat.le_of_ble_eq_true rfl) (Nat.le_of_ble_eq_true rfl) (Nat.le_of_ble_eq_true rfl) (Nat.le_of_ble_eq_true rfl) (Nat.le_of_ble_eq_true rfl) (Nat.le_of_ble_eq_true rfl) dX8_query_104 (sX8_holds_ hM) (fun r h24 hq => ?_) (fun x h9 hq => hq.elim)
      obtain ⟨z23, rfl, hzz23, hM⟩ := hq
      refine zV_if_ne (tgt := 113) O dX8_query_107 (by decide) (fun hc => ?_) (fun hc => ?_)
      · replace hM := hM.1 hc
        refine zV_iload_n O dX8_query_113 rfl rfl ?_
        refine zV_if_eq (tgt := 120) O dX8_query_114 (by decide) (fun hc => ?_) (fun hc => ?_)
        · replace hM := hM.1 hc
          obtain ⟨hc, hM⟩ := hM
          refine zV_iinc O dX8_query_120 rfl (Nat.le_of_ble_eq_true rfl) rfl hc ?_
          exact sX8_query_b123 O hK90 hz_v2 hM
        · replace hM := hM.2 hc
          refine zV_iload O dX8_query_117 rfl ?_
          exact zV_iret O rfl ⟨_, rfl, hM⟩ (Nat.le_of_ble_eq_true rfl) (Nat.le_of_ble_eq_true rfl) dX8_query_119
      · replace hM := hM.2 hc
        refine zV_goto (tgt := 123) O dX8_query_110 (by decide) ?_
        exact sX8_query_b123 O hK90 hz_v2 hM
def mX8_query_b65 (Q : Int → Hp → Prop) (v2 : Int) (h : Hp) : Prop := (mX8_reads h (fun h25 => (mX8_isGood h25 (fun z26 => ((¬ z26 = 0 → (∃ ff, mX8_query_b90 Q ff v2 0 0 h25)) ∧ (z26 = 0 → (zr ((-1000000000) - (h25 185 16)) ∧ (Q ((-1000000000) - (h25 185 16)) h25))))))))
set_option maxHeartbeats 4000000 in
set_option maxRecDepth 100000 in
theorem sX8_query_b65 {l0 : Launch} {a : ZC}  {Q : Int → Hp → Prop}  (O : zOk l0 a cX8_query RX8 5 (some .int) 197 [])   {v2 : Int} {h : Hp} (hz_v2 : v2 = 0 ∨ v2 = 1) (hM : mX8_query_b65 Q v2 h) : zV a (13, 0, 0, (qI Q), xN) 0 0 65 [some (aR 185), none, some (aI v2), none, none] [] h := by
  unfold mX8_query_b65 at hM
  refine zV_aload_n O dX8_query_65 rfl rfl ?_
  refine zV_callV (as := []) (st := []) O zc_X8_reads (Or.inl zl_RX8_439) zi_1864 zi_154 zt_185 rfl rfl (by decide) (Nat.le_of_ble_eq_true rfl) rfl rfl (Nat.le_of_ble_eq_true rfl) (Nat.le_of_ble_eq_true rfl) (Nat.le_of_ble_eq_true rfl) (Nat.le_of_ble_eq_true rfl) (Nat.le_of_ble_eq_true rfl) (Nat.le_of_ble_eq_true rfl) dX8_query_66 (sX8_reads hM) (fun r h25 hq => ?_) (fun x h9 hq => hq.elim)
  obtain ⟨rfl, hM⟩ := hq
  refine zV_aload_n O dX8_query_69 rfl rfl ?_
  refine zV_callV (as := []) (st := []) O zc_X8_isGood (Or.inl zl_RX8_111) zi_1470 zi_103 zt_185 rfl rfl (by decide) (Nat.le_of_ble_eq_true rfl) rfl rfl (Nat.le_of_ble_eq_true rfl) (Nat.le_of_ble_eq_true rfl) (Nat.le_of_ble_eq_true rfl) (Nat.le_of_ble_eq_true rfl) (Nat.le_of_ble_eq_true rfl) (Nat.le_of_ble_eq_true rfl) dX8_query_70 (sX8_isGood hM) (fun r h9 hq => ?_) (fun x h9 hq => hq.elim)
  obtain ⟨rfl, z26, rfl, hzz26, hM⟩ := hq
  refine zV_if_ne (tgt := 85) O dX8_query_73 (by decide) (fun hc => ?_) (fun hc => ?_)
  · replace hM := hM.1 hc
    refine zV_iconst (z := 0) O ⟨by omega, by omega⟩ dX8_query_85 ?_
    refine zV_istore_n O dX8_query_86 rfl (Nat.le_of_ble_eq_true rfl) rfl ?_
    refine zV_iconst (z := 0) O ⟨by omega, by omega⟩ dX8_query_87 ?_
    refine zV_istore O dX8_query_88 (Nat.le_of_ble_eq_true rfl) rfl ?_
    obtain ⟨ff, hM⟩ := hM
    exact sX8_query_b90 O ff _ _ _ _ hz_v2 hM
  · replace hM := hM.2 hc
    refine zV_ldcw (z := -1000000000) O ⟨by omega, by omega⟩ zi_1911.1 zi_1911.2 dX8_query_76 ?_
    refine zV_aload_n O dX8_query_79 rfl rfl ?_
    refine zV_getI O zf_RX8_105 zt_185 rfl (by decide) dX8_query_80 ?_
    obtain ⟨hc, hM⟩ := hM
    refine zV_isub O dX8_query_83 hc ?_
    exact zV_iret O rfl ⟨_, rfl, hM⟩ (Nat.le_of_ble_eq_true rfl) (Nat.le_of_ble_eq_true rfl) dX8_query_84
def mX8_query (x1 : Int) (h : Hp) (Q : Int → Hp → Prop) : Prop := (∀ h27 : Hp, h27 = hu h 185 0 0 → (mX8_lesser (h27 185 9) 200 h27 (fun z28 => (mX8_in x1 0 z28 h27 (fun z29 => (mX8_fails z29 1 h27 (fun z30 h31 => ((z30 = 0 → (mX8_starts x1 h31 (fun h32 => (mX8_passes 3379448 h32 (fun z33 h34 => ((¬ z33 = 0 → (mX8_query_b65 Q z33 h34)) ∧ (z33 = 0 → (mX8_passes 257011 h34 (fun z35 h36 => ((¬ z35 = 0 → (mX8_query_b65 Q z33 h36)) ∧ (z35 = 0 → (mX8_wrongs 1 h36 (fun z37 h38 => (mX8_query_b65 Q z33 h38)))))))))))))) ∧ (¬ z30 = 0 → (Q 0 h31))))))))))
set_option maxHeartbeats 4000000 in
set_option maxRecDepth 100000 in
theorem sX8_query {l0 : Launch} {x1 : Int} {h : Hp} {Q : Int → Hp → Prop}  (hM : mX8_query x1 h Q) : zSp l0 yX8_query cX8_query 5 (some .int) 197 (13) 0 0 [aR 185, aI x1] h (qI Q) xN := by
  unfold mX8_query at hM
  refine zSp_intro zpn_RX8 (Nat.le_of_ble_eq_true rfl) (fun a O => ?_)
  show zV a (13, 0, 0, (qI Q), xN) 0 0 0 [some (aR 185), some (aI x1), none, none, none] [] h
  refine zV_aload_n O dX8_query_0 rfl rfl ?_
  refine zV_iconst (z := 0) O ⟨by omega, by omega⟩ dX8_query_1 ?_
  refine zV_putI O zf_RX8_1 zt_185 rfl (by decide) dX8_query_2 ?_
  have hM := hM _ rfl
  generalize hu h 185 0 0 = h27 at hM ⊢
  refine zV_aload_n O dX8_query_5 rfl rfl ?_
  refine zV_iload_n O dX8_query_6 rfl rfl ?_
  refine zV_i2l O dX8_query_7 ?_
  refine zV_lconst (z := 0) O ⟨by omega, by omega⟩ rfl dX8_query_8 ?_
  refine zV_aload_n O dX8_query_9 rfl rfl ?_
  refine zV_getI O zf_RX8_57 zt_185 rfl (by decide) dX8_query_10 ?_
  refine zV_sipush (z := 200) O ⟨by omega, by omega⟩ rfl dX8_query_13 ?_
  refine zV_callS (as := [aI (h27 185 9), aI 200]) (st := [aL 0, aL x1, aR 185]) O zc_X8_lesser (Or.inl zl_RX8_432) zi_1858 (Nat.le_of_ble_eq_true rfl) rfl rfl (Nat.le_of_ble_eq_true rfl) (Nat.le_of_ble_eq_true rfl) (Nat.le_of_ble_eq_true rfl) (Nat.le_of_ble_eq_true rfl) (Nat.le_of_ble_eq_true rfl) (Nat.le_of_ble_eq_true rfl) dX8_query_16 (sX8_lesser hM) (fun r h9 hq => ?_) (fun x h9 hq => hq.elim)
  obtain ⟨rfl, z28, rfl, hM⟩ := hq
  refine zV_i2l O dX8_query_19 ?_
  refine zV_callS (as := [aL x1, aL 0, aL z28]) (st := [aR 185]) O zc_X8_in (Or.inl zl_RX8_125) zi_1416 (Nat.le_of_ble_eq_true rfl) rfl rfl (Nat.le_of_ble_eq_true rfl) (Nat.le_of_ble_eq_true rfl) (Nat.le_of_ble_eq_true rfl) (Nat.le_of_ble_eq_true rfl) (Nat.le_of_ble_eq_true rfl) (Nat.le_of_ble_eq_true rfl) dX8_query_20 (sX8_in hM) (fun r h9 hq => ?_) (fun x h9 hq => hq.elim)
  obtain ⟨rfl, z29, rfl, hzz29, hM⟩ := hq
  refine zV_iconst (z := 1) O ⟨by omega, by omega⟩ dX8_query_23 ?_
  refine zV_callV (as := [aI z29, aI 1]) (st := []) O zc_X8_fails (Or.inl zl_RX8_201) zi_1420 zi_93 zt_185 rfl rfl (by decide) (Nat.le_of_ble_eq_true rfl) rfl rfl (Nat.le_of_ble_eq_true rfl) (Nat.le_of_ble_eq_true rfl) (Nat.le_of_ble_eq_true rfl) (Nat.le_of_ble_eq_true rfl) (Nat.le_of_ble_eq_true rfl) (Nat.le_of_ble_eq_true rfl) dX8_query_24 (sX8_fails hM) (fun r h31 hq => ?_) (fun x h9 hq => hq.elim)
  obtain ⟨z30, rfl, hzz30, hM⟩ := hq
  refine zV_if_eq (tgt := 32) O dX8_query_27 (by decide) (fun hc => ?_) (fun hc => ?_)
  · replace hM := hM.1 hc
    refine zV_aload_n O dX8_query_32 rfl rfl ?_
    refine zV_iload_n O dX8_query_33 rfl rfl ?_
    refine zV_callV (as := [aI x1]) (st := []) O zc_X8_starts (Or.inl zl_RX8_205) zi_1424 zi_94 zt_185 rfl rfl (by decide) (Nat.le_of_ble_eq_true rfl) rfl rfl (Nat.le_of_ble_eq_true rfl) (Nat.le_of_ble_eq_true rfl) (Nat.le_of_ble_eq_true rfl) (Nat.le_of_ble_eq_true rfl) (Nat.le_of_ble_eq_true rfl) (Nat.le_of_ble_eq_true rfl) dX8_query_34 (sX8_starts hM) (fun r h32 hq => ?_) (fun x h9 hq => hq.elim)
    obtain ⟨rfl, hM⟩ := hq
    refine zV_aload_n O dX8_query_37 rfl rfl ?_
    refine zV_ldc2 (z := 3379448) O ⟨by omega, by omega⟩ zi_1860.1 zi_1860.2 dX8_query_38 ?_
    refine zV_callV (as := [aL 3379448]) (st := []) O zc_X8_passes (Or.inl zl_RX8_135) zi_1462 zi_101 zt_185 rfl rfl (by decide) (Nat.le_of_ble_eq_true rfl) rfl rfl (Nat.le_of_ble_eq_true rfl) (Nat.le_of_ble_eq_true rfl) (Nat.le_of_ble_eq_true rfl) (Nat.le_of_ble_eq_true rfl) (Nat.le_of_ble_eq_true rfl) (Nat.le_of_ble_eq_true rfl) dX8_query_41 (sX8_passes hM) (fun r h34 hq => ?_) (fun x h9 hq => hq.elim)
    obtain ⟨z33, rfl, hzz33, hM⟩ := hq
    refine zV_istore_n O dX8_query_44 rfl (Nat.le_of_ble_eq_true rfl) rfl ?_
    refine zV_iload_n O dX8_query_45 rfl rfl ?_
    refine zV_if_ne (tgt := 65) O dX8_query_46 (by decide) (fun hc => ?_) (fun hc => ?_)
    · replace hM := hM.1 hc
      refine zV_sub (ls2 := [some (aR 185), none, some (aI z33), none, none]) ⟨rfl, rfl, trivial⟩ ?_
      exact sX8_query_b65 O hzz33 hM
    · replace hM := hM.2 hc
      refine zV_aload_n O dX8_query_49 rfl rfl ?_
      refine zV_ldc2 (z := 257011) O ⟨by omega, by omega⟩ zi_1861.1 zi_1861.2 dX8_query_50 ?_
      refine zV_callV (as := [aL 257011]) (st := []) O zc_X8_passes (Or.inl zl_RX8_135) zi_1462 zi_101 zt_185 rfl rfl (by decide) (Nat.le_of_ble_eq_true rfl) rfl rfl (Nat.le_of_ble_eq_true rfl) (Nat.le_of_ble_eq_true rfl) (Nat.le_of_ble_eq_true rfl) (Nat.le_of_ble_eq_true rfl) (Nat.le_of_ble_eq_true rfl) (Nat.le_of_ble_eq_true rfl) dX8_query_53 (sX8_passes hM) (fun r h36 hq => ?_) (fun x h9 hq => hq.elim)
      obtain ⟨z35, rfl, hzz35, hM⟩ := hq
      refine zV_if_ne (tgt := 65) O dX8_query_56 (by decide) (fun hc => ?_) (fun hc => ?_)
      · replace hM := hM.1 hc
        refine zV_sub (ls2 := [some (aR 185), none, some (aI z33), none, none]) ⟨rfl, rfl, trivial⟩ ?_
        exact sX8_query_b65 O hzz33 hM
      · replace hM := hM.2 hc
        refine zV_aload_n O dX8_query_59 rfl rfl ?_
        refine zV_iconst (z := 1) O ⟨by omega, by omega⟩ dX8_query_60 ?_
        refine zV_callV (as := [aI 1]) (st := []) O zc_X8_wrongs (Or.inl zl_RX8_122) zi_1474 zi_104 zt_185 rfl rfl (by decide) (Nat.le_of_ble_eq_true rfl) rfl rfl (Nat.le_of_ble_eq_true rfl) (Nat.le_of_ble_eq_true rfl) (Nat.le_of_ble_eq_true rfl) (Nat.le_of_ble_eq_true rfl) (Nat.le_of_ble_eq_true rfl) (Nat.le_of_ble_eq_true rfl) dX8_query_61 (sX8_wrongs hM) (fun r h38 hq => ?_) (fun x h9 hq => hq.elim)
        obtain ⟨z37, rfl, hzz37, hM⟩ := hq
        refine zV_pop O rfl dX8_query_64 ?_
        refine zV_sub (ls2 := [some (aR 185), none, some (aI z33), none, none]) ⟨rfl, rfl, trivial⟩ ?_
        exact sX8_query_b65 O hzz33 hM
  · replace hM := hM.2 hc
    refine zV_iconst (z := 0) O ⟨by omega, by omega⟩ dX8_query_30 ?_
    exact zV_iret O rfl ⟨_, rfl, hM⟩ (Nat.le_of_ble_eq_true rfl) (Nat.le_of_ble_eq_true rfl) dX8_query_31
