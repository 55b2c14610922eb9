def mX2_fail (x1 : Int) (h : Hp) (Q : Int → Hp → Prop) : Prop := (∀ h2 : Hp, h2 = hu h 178 2 x1 → (Q 0 h2))
set_option maxHeartbeats 4000000 in
set_option maxRecDepth 100000 in
theorem sX2_fail {l0 : Launch} {x1 : Int} {h : Hp} {Q : Int → Hp → Prop}  (hM : mX2_fail x1 h Q) : zSp l0 yX2_fail cX2_fail 2 (some .boolean) 185 (1) 0 0 [aR 178, aI x1] h (qZ Q) xN := by
  unfold mX2_fail at hM
  refine zSp_intro zpn_RX2 (Nat.le_of_ble_eq_true rfl) (fun a O => ?_)
  show zV a (1, 0, 0, (qZ Q), xN) 0 0 0 [some (aR 178), some (aI x1)] [] h
  refine zV_aload_n O dX2_fail_0 rfl rfl ?_
  refine zV_iload_n O dX2_fail_1 rfl rfl ?_
  refine zV_putI O zf_RX2_19 zt_178 rfl (by decide) dX2_fail_2 ?_
  have hM := hM _ rfl
  generalize hu h 178 2 x1 = h2 at hM ⊢
  refine zV_iconst (z := 0) O ⟨by omega, by omega⟩ dX2_fail_5 ?_
  exact zV_zret O rfl (Or.inl rfl) ⟨_, rfl, (Or.inl rfl), hM⟩ (Nat.le_of_ble_eq_true rfl) (Nat.le_of_ble_eq_true rfl) dX2_fail_6
def mX2_isNumber_b53 (Q : Int → Hp → Prop) (s0 : Int) (h : Hp) : Prop := (∀ h3 : Hp, h3 = hu h 178 2 s0 → ((¬ (h3 178 2) = 0 → (Q 0 h3)) ∧ ((h3 178 2) = 0 → (Q 1 h3))))
set_option maxHeartbeats 4000000 in
set_option maxRecDepth 100000 in
theorem sX2_isNumber_b53 {l0 : Launch} {a : ZC}  {Q : Int → Hp → Prop}  (O : zOk l0 a cX2_isNumber RX2 4 (some .boolean) 185 [])   {s0 : Int} {h : Hp}  (hM : mX2_isNumber_b53 Q s0 h) : zV a (1, 0, 0, (qZ Q), xN) 0 0 53 [some (aR 178), none, none, none] [aI s0, aR 178] h := by
  unfold mX2_isNumber_b53 at hM
  refine zV_putI O zf_RX2_19 zt_178 rfl (by decide) dX2_isNumber_53 ?_
  have hM := hM _ rfl
  generalize hu h 178 2 s0 = h3 at hM ⊢
  refine zV_aload_n O dX2_isNumber_56 rfl rfl ?_
  refine zV_getI O zf_RX2_19 zt_178 rfl (by decide) dX2_isNumber_57 ?_
  refine zV_if_ne (tgt := 67) O dX2_isNumber_60 (by decide) (fun hc => ?_) (fun hc => ?_)
  · replace hM := hM.1 hc
    refine zV_iconst (z := 0) O ⟨by omega, by omega⟩ dX2_isNumber_67 ?_
    exact zV_zret O rfl (Or.inl rfl) ⟨_, rfl, (Or.inl rfl), hM⟩ (Nat.le_of_ble_eq_true rfl) (Nat.le_of_ble_eq_true rfl) dX2_isNumber_68
  · replace hM := hM.2 hc
    refine zV_iconst (z := 1) O ⟨by omega, by omega⟩ dX2_isNumber_63 ?_
    refine zV_goto (tgt := 68) O dX2_isNumber_64 (by decide) ?_
    exact zV_zret O rfl (Or.inr rfl) ⟨_, rfl, (Or.inr rfl), hM⟩ (Nat.le_of_ble_eq_true rfl) (Nat.le_of_ble_eq_true rfl) dX2_isNumber_68
def mX2_isNumber_b27 (Q : Int → Hp → Prop) (s0 : Int) (h : Hp) : Prop := (((h 176 4) = (2 : Int) → ((s0 = 0 → (mX2_isNumber_b53 Q 2 h)) ∧ (¬ s0 = 0 → (mX2_isNumber_b53 Q 0 h)))) ∧ (¬ (h 176 4) = (2 : Int) → (mX2_isNumber_b53 Q 1 h)))
set_option maxHeartbeats 4000000 in
set_option maxRecDepth 100000 in
theorem sX2_isNumber_b27 {l0 : Launch} {a : ZC}  {Q : Int → Hp → Prop}  (O : zOk l0 a cX2_isNumber RX2 4 (some .boolean) 185 [])   {s0 : Int} {h : Hp} (hz_s0 : s0 = 0 ∨ s0 = 1) (hM : mX2_isNumber_b27 Q s0 h) : zV a (1, 0, 0, (qZ Q), xN) 0 0 27 [some (aR 178), none, none, none] [aI s0] h := by
  unfold mX2_isNumber_b27 at hM
  refine zV_istore_n O dX2_isNumber_27 rfl (Nat.le_of_ble_eq_true rfl) rfl ?_
  refine zV_aload_n O dX2_isNumber_28 rfl rfl ?_
  refine zV_aload_n O dX2_isNumber_29 rfl rfl ?_
  refine zV_getR O zf_RX2_9 zt_178 rfl (by decide) dX2_isNumber_30 ?_
  refine zV_getI O zf_RX2_32 zt_176 rfl (by decide) dX2_isNumber_33 ?_
  refine zV_iconst (z := 2) O ⟨by omega, by omega⟩ dX2_isNumber_36 ?_
  refine zV_icmp_eq (tgt := 44) O dX2_isNumber_37 (by decide) (fun hc => ?_) (fun hc => ?_)
  · replace hM := hM.1 hc
    refine zV_iload_n O dX2_isNumber_44 rfl rfl ?_
    refine zV_if_eq (tgt := 52) O dX2_isNumber_45 (by decide) (fun hc => ?_) (fun hc => ?_)
    · replace hM := hM.1 hc
      refine zV_iconst (z := 2) O ⟨by omega, by omega⟩ dX2_isNumber_52 ?_
      refine zV_sub (ls2 := [some (aR 178), none, none, none]) ⟨rfl, trivial⟩ ?_
      exact sX2_isNumber_b53 O hM
    · replace hM := hM.2 hc
      refine zV_iconst (z := 0) O ⟨by omega, by omega⟩ dX2_isNumber_48 ?_
      refine zV_goto (tgt := 53) O dX2_isNumber_49 (by decide) ?_
      refine zV_sub (ls2 := [some (aR 178), none, none, none]) ⟨rfl, trivial⟩ ?_
      exact sX2_isNumber_b53 O hM
  · replace hM := hM.2 hc
    refine zV_iconst (z := 1) O ⟨by omega, by omega⟩ dX2_isNumber_40 ?_
    refine zV_goto (tgt := 53) O dX2_isNumber_41 (by decide) ?_
    refine zV_sub (ls2 := [some (aR 178), none, none, none]) ⟨rfl, trivial⟩ ?_
    exact sX2_isNumber_b53 O hM
def mX2_isNumber_b26 (Q : Int → Hp → Prop) (h : Hp) : Prop := (mX2_isNumber_b27 Q 0 h)
set_option maxHeartbeats 4000000 in
set_option maxRecDepth 100000 in
theorem sX2_isNumber_b26 {l0 : Launch} {a : ZC}  {Q : Int → Hp → Prop}  (O : zOk l0 a cX2_isNumber RX2 4 (some .boolean) 185 [])    {h : Hp}  (hM : mX2_isNumber_b26 Q h) : zV a (1, 0, 0, (qZ Q), xN) 0 0 26 [some (aR 178), none, none, none] [] h := by
  unfold mX2_isNumber_b26 at hM
  refine zV_iconst (z := 0) O ⟨by omega, by omega⟩ dX2_isNumber_26 ?_
  exact sX2_isNumber_b27 O (Or.inl rfl) hM
def mX2_isNumber (x1 : Int) (x2 : Int) (h : Hp) (Q : Int → Hp → Prop) : Prop := (((h 176 6) < x1 → (mX2_isNumber_b26 Q h)) ∧ (¬ (h 176 6) < x1 → ((x2 < (h 176 6) → (mX2_isNumber_b26 Q h)) ∧ (¬ x2 < (h 176 6) → (mX2_isNumber_b27 Q 1 h)))))
set_option maxHeartbeats 4000000 in
set_option maxRecDepth 100000 in
theorem sX2_isNumber {l0 : Launch} {x1 : Int} {x2 : Int} {h : Hp} {Q : Int → Hp → Prop}  (hM : mX2_isNumber x1 x2 h Q) : zSp l0 yX2_isNumber cX2_isNumber 4 (some .boolean) 185 (1) 0 0 [aR 178, aI x1, aI x2] h (qZ Q) xN := by
  unfold mX2_isNumber at hM
  refine zSp_intro zpn_RX2 (Nat.le_of_ble_eq_true rfl) (fun a O => ?_)
  show zV a (1, 0, 0, (qZ Q), xN) 0 0 0 [some (aR 178), some (aI x1), some (aI x2), none] [] h
  refine zV_aload_n O dX2_isNumber_0 rfl rfl ?_
  refine zV_getR O zf_RX2_9 zt_178 rfl (by decide) dX2_isNumber_1 ?_
  refine zV_getI O zf_RX2_120 zt_176 rfl (by decide) dX2_isNumber_4 ?_
  refine zV_iload_n O dX2_isNumber_7 rfl rfl ?_
  refine zV_icmp_lt (tgt := 26) O dX2_isNumber_8 (by decide) (fun hc => ?_) (fun hc => ?_)
  · replace hM := hM.1 hc
    refine zV_sub (ls2 := [some (aR 178), none, none, none]) ⟨rfl, trivial⟩ ?_
    exact sX2_isNumber_b26 O hM
  · replace hM := hM.2 hc
    refine zV_aload_n O dX2_isNumber_11 rfl rfl ?_
    refine zV_getR O zf_RX2_9 zt_178 rfl (by decide) dX2_isNumber_12 ?_
    refine zV_getI O zf_RX2_120 zt_176 rfl (by decide) dX2_isNumber_15 ?_
    refine zV_iload_n O dX2_isNumber_18 rfl rfl ?_
    refine zV_icmp_gt (tgt := 26) O dX2_isNumber_19 (by decide) (fun hc => ?_) (fun hc => ?_)
    · replace hM := hM.1 hc
      refine zV_sub (ls2 := [some (aR 178), none, none, none]) ⟨rfl, trivial⟩ ?_
      exact sX2_isNumber_b26 O hM
    · replace hM := hM.2 hc
      refine zV_iconst (z := 1) O ⟨by omega, by omega⟩ dX2_isNumber_22 ?_
      refine zV_goto (tgt := 27) O dX2_isNumber_23 (by decide) ?_
      refine zV_sub (ls2 := [some (aR 178), none, none, none]) ⟨rfl, trivial⟩ ?_
      exact sX2_isNumber_b27 O (Or.inr rfl) hM
def mX6_append_b3 (Q : Hp → Prop) : Nat → Int → Int → Hp → Prop
  | 0 => fun _ _ _ => False
  | fu3 + 1 => fun v1 v2 h => ((v2 < 0 → (Q h)) ∧ (¬ v2 < 0 → (((900 : Int) ≤ (h 176 1) → (Q h)) ∧ (¬ (900 : Int) ≤ (h 176 1) → (((0 : Int) ≤ (h 176 1) ∧ (h 176 1) < 900) ∧ ((-128 : Int) ≤ (zi2b (ziushr v1 v2)) ∧ (zi2b (ziushr v1 v2)) ≤ (127 : Int)) ∧ (∀ h5 : Hp, h5 = wr h 177 (h 176 1) (zi2b (ziushr v1 v2)) → (zr ((h5 176 1) + 1) ∧ (∀ h6 : Hp, h6 = hu h5 176 1 ((h5 176 1) + 1) → (zr (v2 + (-8)) ∧ ((mX6_append_b3 Q fu3) v1 (v2 + (-8)) h6))))))))))
set_option maxHeartbeats 4000000 in
set_option maxRecDepth 100000 in
theorem sX6_append_b3 {l0 : Launch} {a : ZC}  {Q : Hp → Prop}  (O : zOk l0 a cX6_append RX6 3 none 185 [])   : ∀ (ff : Nat) (v1 : Int) (v2 : Int) (h : Hp), mX6_append_b3 Q ff v1 v2 h → zV a (1, 0, 0, (qV Q), xN) 0 0 3 [some (aR 176), some (aI v1), some (aI v2)] [] h := by
  intro ff
  induction ff with
  | zero => intro v1 v2 h hM; exact hM.elim
  | succ ff ih =>
    have hK3 := ih
    intro v1 v2 h hM
    unfold mX6_append_b3 at hM
    refine zV_iload_n O dX6_append_3 rfl rfl ?_
    refine zV_if_lt (tgt := 46) O dX6_append_4 (by decide) (fun hc => ?_) (fun hc => ?_)
    · replace hM := hM.1 hc
      exact zV_vret O rfl ⟨rfl, hM⟩ (Nat.le_of_ble_eq_true rfl) (Nat.le_of_ble_eq_true rfl) dX6_append_46
    · replace hM := hM.2 hc
      refine zV_aload_n O dX6_append_7 rfl rfl ?_
      refine zV_getI O zf_RX6_15 zt_176 rfl (by decide) dX6_append_8 ?_
      refine zV_sipush (z := 900) O ⟨by omega, by omega⟩ rfl dX6_append_11 ?_
      refine zV_icmp_ge (tgt := 46) O dX6_append_14 (by decide) (fun hc => ?_) (fun hc => ?_)
      · replace hM := hM.1 hc
        exact zV_vret O rfl ⟨rfl, hM⟩ (Nat.le_of_ble_eq_true rfl) (Nat.le_of_ble_eq_true rfl) dX6_append_46
      · replace hM := hM.2 hc
        refine zV_aload_n O dX6_append_17 rfl rfl ?_
        refine zV_getR O zf_RX6_9 zt_176 rfl (by decide) dX6_append_18 ?_
        refine zV_aload_n O dX6_append_21 rfl rfl ?_
        refine zV_getI O zf_RX6_15 zt_176 rfl (by decide) dX6_append_22 ?_
        refine zV_iload_n O dX6_append_25 rfl rfl ?_
        refine zV_iload_n O dX6_append_26 rfl rfl ?_
        refine zV_iushr O dX6_append_27 ?_
        refine zV_i2b O dX6_append_28 ?_
        obtain ⟨hc, hM⟩ := hM
        obtain ⟨hb, hM⟩ := hM
        refine zV_bast O zt_177 (by decide) hc hb dX6_append_29 ?_
        have hM := hM (hu h 177 (Int.toNat (h 176 1)) (zi2b (ziushr v1 v2))) rfl
        generalize hu h 177 (Int.toNat (h 176 1)) (zi2b (ziushr v1 v2)) = h5 at hM ⊢
        refine zV_aload_n O dX6_append_30 rfl rfl ?_
        refine zV_dup O rfl dX6_append_31 ?_
        refine zV_getI O zf_RX6_15 zt_176 rfl (by decide) dX6_append_32 ?_
        refine zV_iconst (z := 1) O ⟨by omega, by omega⟩ dX6_append_35 ?_
        obtain ⟨hc, hM⟩ := hM
        refine zV_iadd O dX6_append_36 hc ?_
        refine zV_putI O zf_RX6_15 zt_176 rfl (by decide) dX6_append_37 ?_
        have hM := hM _ rfl
        generalize hu h5 176 1 ((h5 176 1) + 1) = h6 at hM ⊢
        obtain ⟨hc, hM⟩ := hM
        refine zV_iinc O dX6_append_40 rfl (Nat.le_of_ble_eq_true rfl) rfl hc ?_
        refine zV_goto (tgt := 3) O dX6_append_43 (by decide) ?_
        exact hK3 _ _ _ hM
def mX6_append (x1 : Int) (h : Hp) (Q : Hp → Prop) : Prop := (∃ ff, mX6_append_b3 Q ff x1 24 h)
set_option maxHeartbeats 4000000 in
set_option maxRecDepth 100000 in
theorem sX6_append {l0 : Launch} {x1 : Int} {h : Hp} {Q : Hp → Prop}  (hM : mX6_append x1 h Q) : zSp l0 yX6_append cX6_append 3 none 185 (1) 0 0 [aR 176, aI x1] h (qV Q) xN := by
  unfold mX6_append at hM
  refine zSp_intro zpn_RX6 (Nat.le_of_ble_eq_true rfl) (fun a O => ?_)
  show zV a (1, 0, 0, (qV Q), xN) 0 0 0 [some (aR 176), some (aI x1), none] [] h
  refine zV_bipush (z := 24) O ⟨by omega, by omega⟩ rfl dX6_append_0 ?_
  refine zV_istore_n O dX6_append_2 rfl (Nat.le_of_ble_eq_true rfl) rfl ?_
  obtain ⟨ff, hM⟩ := hM
  exact sX6_append_b3 O ff _ _ _ hM
def mX6_isDigit (x0 : Int) (h : Hp) (Q : Int → Prop) : Prop := ((x0 < (48 : Int) → (Q 0)) ∧ (¬ x0 < (48 : Int) → (((57 : Int) < x0 → (Q 0)) ∧ (¬ (57 : Int) < x0 → (Q 1)))))
set_option maxHeartbeats 4000000 in
set_option maxRecDepth 100000 in
theorem sX6_isDigit {l0 : Launch} {x0 : Int} {h : Hp} {Q : Int → Prop}  (hM : mX6_isDigit x0 h Q) : zSp l0 yX6_isDigit cX6_isDigit 1 (some .boolean) 185 (1) 0 0 [aI x0] h (qPZ h Q) xN := by
  unfold mX6_isDigit at hM
  refine zSp_intro zpn_RX6 (Nat.le_of_ble_eq_true rfl) (fun a O => ?_)
  show zV a (1, 0, 0, (qPZ h Q), xN) 0 0 0 [some (aI x0)] [] h
  refine zV_iload_n O dX6_isDigit_0 rfl rfl ?_
  refine zV_bipush (z := 48) O ⟨by omega, by omega⟩ rfl dX6_isDigit_1 ?_
  refine zV_icmp_lt (tgt := 16) O dX6_isDigit_3 (by decide) (fun hc => ?_) (fun hc => ?_)
  · replace hM := hM.1 hc
    refine zV_iconst (z := 0) O ⟨by omega, by omega⟩ dX6_isDigit_16 ?_
    exact zV_zret O rfl (Or.inl rfl) ⟨rfl, _, rfl, (Or.inl rfl), hM⟩ (Nat.le_of_ble_eq_true rfl) (Nat.le_of_ble_eq_true rfl) dX6_isDigit_17
  · replace hM := hM.2 hc
    refine zV_iload_n O dX6_isDigit_6 rfl rfl ?_
    refine zV_bipush (z := 57) O ⟨by omega, by omega⟩ rfl dX6_isDigit_7 ?_
    refine zV_icmp_gt (tgt := 16) O dX6_isDigit_9 (by decide) (fun hc => ?_) (fun hc => ?_)
    · replace hM := hM.1 hc
      refine zV_iconst (z := 0) O ⟨by omega, by omega⟩ dX6_isDigit_16 ?_
      exact zV_zret O rfl (Or.inl rfl) ⟨rfl, _, rfl, (Or.inl rfl), hM⟩ (Nat.le_of_ble_eq_true rfl) (Nat.le_of_ble_eq_true rfl) dX6_isDigit_17
    · replace hM := hM.2 hc
      refine zV_iconst (z := 1) O ⟨by omega, by omega⟩ dX6_isDigit_12 ?_
      refine zV_goto (tgt := 17) O dX6_isDigit_13 (by decide) ?_
      exact zV_zret O rfl (Or.inr rfl) ⟨rfl, _, rfl, (Or.inr rfl), hM⟩ (Nat.le_of_ble_eq_true rfl) (Nat.le_of_ble_eq_true rfl) dX6_isDigit_17
def mX6_isLetter (x0 : Int) (h : Hp) (Q : Int → Prop) : Prop := ((x0 < (97 : Int) → (Q 0)) ∧ (¬ x0 < (97 : Int) → (((122 : Int) < x0 → (Q 0)) ∧ (¬ (122 : Int) < x0 → (Q 1)))))
set_option maxHeartbeats 4000000 in
set_option maxRecDepth 100000 in
theorem sX6_isLetter {l0 : Launch} {x0 : Int} {h : Hp} {Q : Int → Prop}  (hM : mX6_isLetter x0 h Q) : zSp l0 yX6_isLetter cX6_isLetter 1 (some .boolean) 185 (1) 0 0 [aI x0] h (qPZ h Q) xN := by
  unfold mX6_isLetter at hM
  refine zSp_intro zpn_RX6 (Nat.le_of_ble_eq_true rfl) (fun a O => ?_)
  show zV a (1, 0, 0, (qPZ h Q), xN) 0 0 0 [some (aI x0)] [] h
  refine zV_iload_n O dX6_isLetter_0 rfl rfl ?_
  refine zV_bipush (z := 97) O ⟨by omega, by omega⟩ rfl dX6_isLetter_1 ?_
  refine zV_icmp_lt (tgt := 16) O dX6_isLetter_3 (by decide) (fun hc => ?_) (fun hc => ?_)
  · replace hM := hM.1 hc
    refine zV_iconst (z := 0) O ⟨by omega, by omega⟩ dX6_isLetter_16 ?_
    exact zV_zret O rfl (Or.inl rfl) ⟨rfl, _, rfl, (Or.inl rfl), hM⟩ (Nat.le_of_ble_eq_true rfl) (Nat.le_of_ble_eq_true rfl) dX6_isLetter_17
  · replace hM := hM.2 hc
    refine zV_iload_n O dX6_isLetter_6 rfl rfl ?_
    refine zV_bipush (z := 122) O ⟨by omega, by omega⟩ rfl dX6_isLetter_7 ?_
    refine zV_icmp_gt (tgt := 16) O dX6_isLetter_9 (by decide) (fun hc => ?_) (fun hc => ?_)
    · replace hM := hM.1 hc
      refine zV_iconst (z := 0) O ⟨by omega, by omega⟩ dX6_isLetter_16 ?_
      exact zV_zret O rfl (Or.inl rfl) ⟨rfl, _, rfl, (Or.inl rfl), hM⟩ (Nat.le_of_ble_eq_true rfl) (Nat.le_of_ble_eq_true rfl) dX6_isLetter_17
    · replace hM := hM.2 hc
      refine zV_iconst (z := 1) O ⟨by omega, by omega⟩ dX6_isLetter_12 ?_
      refine zV_goto (tgt := 17) O dX6_isLetter_13 (by decide) ?_
      exact zV_zret O rfl (Or.inr rfl) ⟨rfl, _, rfl, (Or.inr rfl), hM⟩ (Nat.le_of_ble_eq_true rfl) (Nat.le_of_ble_eq_true rfl) dX6_isLetter_17
def mX6_isSign (x1 : Int) (h : Hp) (Q : Int → Prop) : Prop := ((¬ (h 176 4) = (3 : Int) → (Q 0)) ∧ ((h 176 4) = (3 : Int) → (((h 176 2) ≤ (h 176 5) → (Q 0)) ∧ (¬ (h 176 2) ≤ (h 176 5) → (((0 : Int) ≤ (h 176 5) ∧ (h 176 5) < 900) ∧ ((¬ (rd h 177 (h 176 5)) = x1 → (Q 0)) ∧ ((rd h 177 (h 176 5)) = x1 → (Q 1))))))))
set_option maxHeartbeats 4000000 in
set_option maxRecDepth 100000 in
theorem sX6_isSign {l0 : Launch} {x1 : Int} {h : Hp} {Q : Int → Prop}  (hM : mX6_isSign x1 h Q) : zSp l0 yX6_isSign cX6_isSign 2 (some .boolean) 185 (1) 0 0 [aR 176, aI x1] h (qPZ h Q) xN := by
  unfold mX6_isSign at hM
  refine zSp_intro zpn_RX6 (Nat.le_of_ble_eq_true rfl) (fun a O => ?_)
  show zV a (1, 0, 0, (qPZ h Q), xN) 0 0 0 [some (aR 176), some (aI x1)] [] h
  refine zV_aload_n O dX6_isSign_0 rfl rfl ?_
  refine zV_getI O zf_RX6_40 zt_176 rfl (by decide) dX6_isSign_1 ?_
  refine zV_iconst (z := 3) O ⟨by omega, by omega⟩ dX6_isSign_4 ?_
  refine zV_icmp_ne (tgt := 36) O dX6_isSign_5 (by decide) (fun hc => ?_) (fun hc => ?_)
  · replace hM := hM.1 hc
    refine zV_iconst (z := 0) O ⟨by omega, by omega⟩ dX6_isSign_36 ?_
    exact zV_zret O rfl (Or.inl rfl) ⟨rfl, _, rfl, (Or.inl rfl), hM⟩ (Nat.le_of_ble_eq_true rfl) (Nat.le_of_ble_eq_true rfl) dX6_isSign_37
  · replace hM := hM.2 hc
    refine zV_aload_n O dX6_isSign_8 rfl rfl ?_
    refine zV_getI O zf_RX6_34 zt_176 rfl (by decide) dX6_isSign_9 ?_
    refine zV_aload_n O dX6_isSign_12 rfl rfl ?_
    refine zV_getI O zf_RX6_25 zt_176 rfl (by decide) dX6_isSign_13 ?_
    refine zV_icmp_ge (tgt := 36) O dX6_isSign_16 (by decide) (fun hc => ?_) (fun hc => ?_)
    · replace hM := hM.1 hc
      refine zV_iconst (z := 0) O ⟨by omega, by omega⟩ dX6_isSign_36 ?_
      exact zV_zret O rfl (Or.inl rfl) ⟨rfl, _, rfl, (Or.inl rfl), hM⟩ (Nat.le_of_ble_eq_true rfl) (Nat.le_of_ble_eq_true rfl) dX6_isSign_37
    · replace hM := hM.2 hc
      refine zV_aload_n O dX6_isSign_19 rfl rfl ?_
      refine zV_getR O zf_RX6_9 zt_176 rfl (by decide) dX6_isSign_20 ?_
      refine zV_aload_n O dX6_isSign_23 rfl rfl ?_
      refine zV_getI O zf_RX6_34 zt_176 rfl (by decide) dX6_isSign_24 ?_
      obtain ⟨hc, hM⟩ := hM
      refine zV_bald O zt_177 (by decide) hc dX6_isSign_27 ?_
      refine zV_iload_n O dX6_isSign_28 rfl rfl ?_
      refine zV_icmp_ne (tgt := 36) O dX6_isSign_29 (by decide) (fun hc => ?_) (fun hc => ?_)
      · replace hM := hM.1 hc
        refine zV_iconst (z := 0) O ⟨by omega, by omega⟩ dX6_isSign_36 ?_
        exact zV_zret O rfl (Or.inl rfl) ⟨rfl, _, rfl, (Or.inl rfl), hM⟩ (Nat.le_of_ble_eq_true rfl) (Nat.le_of_ble_eq_true rfl) dX6_isSign_37
      · replace hM := hM.2 hc
        refine zV_iconst (z := 1) O ⟨by omega, by omega⟩ dX6_isSign_32 ?_
        refine zV_goto (tgt := 37) O dX6_isSign_33 (by decide) ?_
        exact zV_zret O rfl (Or.inr rfl) ⟨rfl, _, rfl, (Or.inr rfl), hM⟩ (Nat.le_of_ble_eq_true rfl) (Nat.le_of_ble_eq_true rfl) dX6_isSign_37
def mX6_letters  (h : Hp) (Q : Int → Prop) : Prop := ((¬ (h 176 4) = (1 : Int) → (Q 0)) ∧ ((h 176 4) = (1 : Int) → (zr ((h 176 3) - (h 176 5)) ∧ (Q ((h 176 3) - (h 176 5))))))
set_option maxHeartbeats 4000000 in
set_option maxRecDepth 100000 in
theorem sX6_letters {l0 : Launch}  {h : Hp} {Q : Int → Prop}  (hM : mX6_letters  h Q) : zSp l0 yX6_letters cX6_letters 1 (some .int) 185 (1) 0 0 [aR 176] h (qPI h Q) xN := by
  unfold mX6_letters at hM
  refine zSp_intro zpn_RX6 (Nat.le_of_ble_eq_true rfl) (fun a O => ?_)
  show zV a (1, 0, 0, (qPI h Q), xN) 0 0 0 [some (aR 176)] [] h
  refine zV_aload_n O dX6_letters_0 rfl rfl ?_
  refine zV_getI O zf_RX6_40 zt_176 rfl (by decide) dX6_letters_1 ?_
  refine zV_iconst (z := 1) O ⟨by omega, by omega⟩ dX6_letters_4 ?_
  refine zV_icmp_ne (tgt := 20) O dX6_letters_5 (by decide) (fun hc => ?_) (fun hc => ?_)
  · replace hM := hM.1 hc
    refine zV_iconst (z := 0) O ⟨by omega, by omega⟩ dX6_letters_20 ?_
    exact zV_iret O rfl ⟨rfl, _, rfl, hM⟩ (Nat.le_of_ble_eq_true rfl) (Nat.le_of_ble_eq_true rfl) dX6_letters_21
  · replace hM := hM.2 hc
    refine zV_aload_n O dX6_letters_8 rfl rfl ?_
    refine zV_getI O zf_RX6_28 zt_176 rfl (by decide) dX6_letters_9 ?_
    refine zV_aload_n O dX6_letters_12 rfl rfl ?_
    refine zV_getI O zf_RX6_34 zt_176 rfl (by decide) dX6_letters_13 ?_
    obtain ⟨hc, hM⟩ := hM
    refine zV_isub O dX6_letters_16 hc ?_
    refine zV_goto (tgt := 21) O dX6_letters_17 (by decide) ?_
    exact zV_iret O rfl ⟨rfl, _, rfl, hM⟩ (Nat.le_of_ble_eq_true rfl) (Nat.le_of_ble_eq_true rfl) dX6_letters_21
def mX6_advance_b163 (Q : Hp → Prop) : Nat → Hp → Prop
  | 0 => fun _ => False
  | fu163 + 1 => fun h => (((h 176 2) ≤ (h 176 3) → (Q h)) ∧ (¬ (h 176 2) ≤ (h 176 3) → (((0 : Int) ≤ (h 176 3) ∧ (h 176 3) < 900) ∧ (mX6_isDigit (rd h 177 (h 176 3)) h (fun z31 => ((z31 = 0 → (Q h)) ∧ (¬ z31 = 0 → (zr ((h 176 6) * 10) ∧ (((0 : Int) ≤ (h 176 3) ∧ (h 176 3) < 900) ∧ (zr (((h 176 6) * 10) + (rd h 177 (h 176 3))) ∧ (zr ((((h 176 6) * 10) + (rd h 177 (h 176 3))) - 48) ∧ (∀ h32 : Hp, h32 = hu h 176 6 (min 10000 ((((h 176 6) * 10) + (rd h 177 (h 176 3))) - 48)) → (zr ((h32 176 3) + 1) ∧ (∀ h33 : Hp, h33 = hu h32 176 3 ((h32 176 3) + 1) → ((mX6_advance_b163 Q fu163) h33)))))))))))))))
set_option maxHeartbeats 4000000 in
set_option maxRecDepth 100000 in
theorem sX6_advance_b163 {l0 : Launch} {a : ZC}  {Q : Hp → Prop}  (O : zOk l0 a cX6_advance RX6 1 none 185 [])   : ∀ (ff : Nat)  (h : Hp), mX6_advance_b163 Q ff  h → zV a (2, 0, 0, (qV Q), xN) 0 0 163 [some (aR 176)] [] h := by
  intro ff
  induction ff with
  | zero => intro  h hM; exact hM.elim
  | succ ff ih =>
    have hK163 := ih
    intro  h hM
    unfold mX6_advance_b163 at hM
    refine zV_aload_n O dX6_advance_163 rfl rfl ?_
    refine zV_getI O zf_RX6_28 zt_176 rfl (by decide) dX6_advance_164 ?_
    refine zV_aload_n O dX6_advance_167 rfl rfl ?_
    refine zV_getI O zf_RX6_25 zt_176 rfl (by decide) dX6_advance_168 ?_
    refine zV_icmp_ge (tgt := 247) O dX6_advance_171 (by decide) (fun hc => ?_) (fun hc => ?_)
    · replace hM := hM.1 hc
      exact zV_vret O rfl ⟨rfl, hM⟩ (Nat.le_of_ble_eq_true rfl) (Nat.le_of_ble_eq_true rfl) dX6_advance_247
    · replace hM := hM.2 hc
      refine zV_aload_n O dX6_advance_174 rfl rfl ?_
      refine zV_getR O zf_RX6_9 zt_176 rfl (by decide) dX6_advance_175 ?_
      refine zV_aload_n O dX6_advance_178 rfl rfl ?_
      refine zV_getI O zf_RX6_28 zt_176 rfl (by decide) dX6_advance_179 ?_
      obtain ⟨hc, hM⟩ := hM
      refine zV_bald O zt_177 (by decide) hc dX6_advance_182 ?_
      refine zV_callS (as := [aI (rd h 177 (h 176 3))]) (st := []) O zc_X6_isDigit (Or.inl zl_RX6_47) zi_548 (Nat.le_of_ble_eq_true rfl) rfl rfl (Nat.le_of_ble_eq_true rfl) (Nat.le_of_ble_eq_true rfl) (Nat.le_of_ble_eq_true rfl) (Nat.le_of_ble_eq_true rfl) (Nat.le_of_ble_eq_true rfl) (Nat.le_of_ble_eq_true rfl) dX6_advance_183 (sX6_isDigit hM) (fun r h9 hq => ?_) (fun x h9 hq => hq.elim)
      obtain ⟨rfl, z31, rfl, hzz31, hM⟩ := hq
      refine zV_if_eq (tgt := 247) O dX6_advance_186 (by decide) (fun hc => ?_) (fun hc => ?_)
      · replace hM := hM.1 hc
        exact zV_vret O rfl ⟨rfl, hM⟩ (Nat.le_of_ble_eq_true rfl) (Nat.le_of_ble_eq_true rfl) dX6_advance_247
      · replace hM := hM.2 hc
        refine zV_aload_n O dX6_advance_189 rfl rfl ?_
        refine zV_sipush (z := 10000) O ⟨by omega, by omega⟩ rfl dX6_advance_190 ?_
        refine zV_aload_n O dX6_advance_193 rfl rfl ?_
        refine zV_getI O zf_RX6_37 zt_176 rfl (by decide) dX6_advance_194 ?_
        refine zV_bipush (z := 10) O ⟨by omega, by omega⟩ rfl dX6_advance_197 ?_
        obtain ⟨hc, hM⟩ := hM
        refine zV_imul O dX6_advance_199 hc ?_
        refine zV_aload_n O dX6_advance_200 rfl rfl ?_
        refine zV_getR O zf_RX6_9 zt_176 rfl (by decide) dX6_advance_201 ?_
        refine zV_aload_n O dX6_advance_204 rfl rfl ?_
        refine zV_getI O zf_RX6_28 zt_176 rfl (by decide) dX6_advance_205 ?_
        obtain ⟨hc, hM⟩ := hM
        refine zV_bald O zt_177 (by decide) hc dX6_advance_208 ?_
        obtain ⟨hc, hM⟩ := hM
        refine zV_iadd O dX6_advance_209 hc ?_
        refine zV_bipush (z := 48) O ⟨by omega, by omega⟩ rfl dX6_advance_210 ?_
        obtain ⟨hc, hM⟩ := hM
        refine zV_isub O dX6_advance_212 hc ?_
        refine zV_min O zi_537 zi_538 zi_88 zi_539 (Nat.le_of_ble_eq_true rfl) (Nat.le_of_ble_eq_true rfl) (Nat.le_of_ble_eq_true rfl) (Nat.le_of_ble_eq_true rfl) dX6_advance_213 ?_
        refine zV_putI O zf_RX6_37 zt_176 rfl (by decide) dX6_advance_216 ?_
        have hM := hM _ rfl
        generalize hu h 176 6 (min 10000 ((((h 176 6) * 10) + (rd h 177 (h 176 3))) - 48)) = h32 at hM ⊢
        refine zV_aload_n O dX6_advance_219 rfl rfl ?_
        refine zV_dup O rfl dX6_advance_220 ?_
        refine zV_getI O zf_RX6_28 zt_176 rfl (by decide) dX6_advance_221 ?_
        refine zV_iconst (z := 1) O ⟨by omega, by omega⟩ dX6_advance_224 ?_
        obtain ⟨hc, hM⟩ := hM
        refine zV_iadd O dX6_advance_225 hc ?_
        refine zV_putI O zf_RX6_28 zt_176 rfl (by decide) dX6_advance_226 ?_
        have hM := hM _ rfl
        generalize hu h32 176 3 ((h32 176 3) + 1) = h33 at hM ⊢
        refine zV_goto (tgt := 163) O dX6_advance_229 (by decide) ?_
        exact hK163 _ hM
def mX6_advance_b104 (Q : Hp → Prop) : Nat → Hp → Prop
  | 0 => fun _ => False
  | fu104 + 1 => fun h => (((h 176 2) ≤ (h 176 3) → (Q h)) ∧ (¬ (h 176 2) ≤ (h 176 3) → (((0 : Int) ≤ (h 176 3) ∧ (h 176 3) < 900) ∧ (mX6_isLetter (rd h 177 (h 176 3)) h (fun z34 => ((z34 = 0 → (Q h)) ∧ (¬ z34 = 0 → (zr ((h 176 3) + 1) ∧ (∀ h35 : Hp, h35 = hu h 176 3 ((h 176 3) + 1) → ((mX6_advance_b104 Q fu104) h35))))))))))
set_option maxHeartbeats 4000000 in
set_option maxRecDepth 100000 in
theorem sX6_advance_b104 {l0 : Launch} {a : ZC}  {Q : Hp → Prop}  (O : zOk l0 a cX6_advance RX6 1 none 185 [])   : ∀ (ff : Nat)  (h : Hp), mX6_advance_b104 Q ff  h → zV a (2, 0, 0, (qV Q), xN) 0 0 104 [some (aR 176)] [] h := by
  intro ff
  induction ff with
  | zero => intro  h hM; exact hM.elim
  | succ ff ih =>
    have hK104 := ih
    intro  h hM
    unfold mX6_advance_b104 at hM
    refine zV_aload_n O dX6_advance_104 rfl rfl ?_
    refine zV_getI O zf_RX6_28 zt_176 rfl (by decide) dX6_advance_105 ?_
    refine zV_aload_n O dX6_advance_108 rfl rfl ?_
    refine zV_getI O zf_RX6_25 zt_176 rfl (by decide) dX6_advance_109 ?_
    refine zV_icmp_ge (tgt := 247) O dX6_advance_112 (by decide) (fun hc => ?_) (fun hc => ?_)
    · replace hM := hM.1 hc
      exact zV_vret O rfl ⟨rfl, hM⟩ (Nat.le_of_ble_eq_true rfl) (Nat.le_of_ble_eq_true rfl) dX6_advance_247
    · replace hM := hM.2 hc
      refine zV_aload_n O dX6_advance_115 rfl rfl ?_
      refine zV_getR O zf_RX6_9 zt_176 rfl (by decide) dX6_advance_116 ?_
      refine zV_aload_n O dX6_advance_119 rfl rfl ?_
      refine zV_getI O zf_RX6_28 zt_176 rfl (by decide) dX6_advance_120 ?_
      obtain ⟨hc, hM⟩ := hM
      refine zV_bald O zt_177 (by decide) hc dX6_advance_123 ?_
      refine zV_callS (as := [aI (rd h 177 (h 176 3))]) (st := []) O zc_X6_isLetter (Or.inl zl_RX6_43) zi_545 (Nat.le_of_ble_eq_true rfl) rfl rfl (Nat.le_of_ble_eq_true rfl) (Nat.le_of_ble_eq_true rfl) (Nat.le_of_ble_eq_true rfl) (Nat.le_of_ble_eq_true rfl) (Nat.le_of_ble_eq_true rfl) (Nat.le_of_ble_eq_true rfl) dX6_advance_124 (sX6_isLetter hM) (fun r h9 hq => ?_) (fun x h9 hq => hq.elim)
      obtain ⟨rfl, z34, rfl, hzz34, hM⟩ := hq
      refine zV_if_eq (tgt := 247) O dX6_advance_127 (by decide) (fun hc => ?_) (fun hc => ?_)
      · replace hM := hM.1 hc
        exact zV_vret O rfl ⟨rfl, hM⟩ (Nat.le_of_ble_eq_true rfl) (Nat.le_of_ble_eq_true rfl) dX6_advance_247
      · replace hM := hM.2 hc
        refine zV_aload_n O dX6_advance_130 rfl rfl ?_
        refine zV_dup O rfl dX6_advance_131 ?_
        refine zV_getI O zf_RX6_28 zt_176 rfl (by decide) dX6_advance_132 ?_
        refine zV_iconst (z := 1) O ⟨by omega, by omega⟩ dX6_advance_135 ?_
        obtain ⟨hc, hM⟩ := hM
        refine zV_iadd O dX6_advance_136 hc ?_
        refine zV_putI O zf_RX6_28 zt_176 rfl (by decide) dX6_advance_137 ?_
        have hM := hM _ rfl
        generalize hu h 176 3 ((h 176 3) + 1) = h35 at hM ⊢
        refine zV_goto (tgt := 104) O dX6_advance_140 (by decide) ?_
        exact hK104 _ hM
def mX6_advance_b52 (Q : Hp → Prop) (h : Hp) : Prop := (∀ h36 : Hp, h36 = hu h 176 5 (h 176 3) → (∀ h37 : Hp, h37 = hu h36 176 6 0 → (((h37 176 3) < (h37 176 2) → (((0 : Int) ≤ (h37 176 3) ∧ (h37 176 3) < 900) ∧ (mX6_isLetter (rd h37 177 (h37 176 3)) h37 (fun z38 => ((z38 = 0 → (((0 : Int) ≤ (h37 176 3) ∧ (h37 176 3) < 900) ∧ (mX6_isDigit (rd h37 177 (h37 176 3)) h37 (fun z39 => ((z39 = 0 → (∀ h40 : Hp, h40 = hu h37 176 4 3 → (zr ((h40 176 3) + 1) ∧ (∀ h41 : Hp, h41 = hu h40 176 3 ((h40 176 3) + 1) → (Q h41))))) ∧ (¬ z39 = 0 → (∀ h42 : Hp, h42 = hu h37 176 4 2 → (∃ ff, mX6_advance_b163 Q ff h42)))))))) ∧ (¬ z38 = 0 → (∀ h43 : Hp, h43 = hu h37 176 4 1 → (∃ ff, mX6_advance_b104 Q ff h43)))))))) ∧ (¬ (h37 176 3) < (h37 176 2) → (∀ h44 : Hp, h44 = hu h37 176 4 0 → (Q h44))))))
set_option maxHeartbeats 4000000 in
set_option maxRecDepth 100000 in
theorem sX6_advance_b52 {l0 : Launch} {a : ZC}  {Q : Hp → Prop}  (O : zOk l0 a cX6_advance RX6 1 none 185 [])    {h : Hp}  (hM : mX6_advance_b52 Q h) : zV a (2, 0, 0, (qV Q), xN) 0 0 52 [some (aR 176)] [] h := by
  unfold mX6_advance_b52 at hM
  refine zV_aload_n O dX6_advance_52 rfl rfl ?_
  refine zV_aload_n O dX6_advance_53 rfl rfl ?_
  refine zV_getI O zf_RX6_28 zt_176 rfl (by decide) dX6_advance_54 ?_
  refine zV_putI O zf_RX6_34 zt_176 rfl (by decide) dX6_advance_57 ?_
  have hM := hM _ rfl
  generalize hu h 176 5 (h 176 3) = h36 at hM ⊢
  refine zV_aload_n O dX6_advance_60 rfl rfl ?_
  refine zV_iconst (z := 0) O ⟨by omega, by omega⟩ dX6_advance_61 ?_
  refine zV_putI O zf_RX6_37 zt_176 rfl (by decide) dX6_advance_62 ?_
  have hM := hM _ rfl
  generalize hu h36 176 6 0 = h37 at hM ⊢
  refine zV_aload_n O dX6_advance_65 rfl rfl ?_
  refine zV_getI O zf_RX6_28 zt_176 rfl (by decide) dX6_advance_66 ?_
  refine zV_aload_n O dX6_advance_69 rfl rfl ?_
  refine zV_getI O zf_RX6_25 zt_176 rfl (by decide) dX6_advance_70 ?_
  refine zV_icmp_lt (tgt := 84) O dX6_advance_73 (by decide) (fun hc => ?_) (fun hc => ?_)
  · replace hM := hM.1 hc
    refine zV_aload_n O dX6_advance_84 rfl rfl ?_
    refine zV_getR O zf_RX6_9 zt_176 rfl (by decide) dX6_advance_85 ?_
    refine zV_aload_n O dX6_advance_88 rfl rfl ?_
    refine zV_getI O zf_RX6_28 zt_176 rfl (by decide) dX6_advance_89 ?_
    obtain ⟨hc, hM⟩ := hM
    refine zV_bald O zt_177 (by decide) hc dX6_advance_92 ?_
    refine zV_callS (as := [aI (rd h37 177 (h37 176 3))]) (st := []) O zc_X6_isLetter (Or.inl zl_RX6_43) zi_545 (Nat.le_of_ble_eq_true rfl) rfl rfl (Nat.le_of_ble_eq_true rfl) (Nat.le_of_ble_eq_true rfl) (Nat.le_of_ble_eq_true rfl) (Nat.le_of_ble_eq_true rfl) (Nat.le_of_ble_eq_true rfl) (Nat.le_of_ble_eq_true rfl) dX6_advance_93 (sX6_isLetter hM) (fun r h9 hq => ?_) (fun x h9 hq => hq.elim)
    obtain ⟨rfl, z38, rfl, hzz38, hM⟩ := hq
    refine zV_if_eq (tgt := 143) O dX6_advance_96 (by decide) (fun hc => ?_) (fun hc => ?_)
    · replace hM := hM.1 hc
      refine zV_aload_n O dX6_advance_143 rfl rfl ?_
      refine zV_getR O zf_RX6_9 zt_176 rfl (by decide) dX6_advance_144 ?_
      refine zV_aload_n O dX6_advance_147 rfl rfl ?_
      refine zV_getI O zf_RX6_28 zt_176 rfl (by decide) dX6_advance_148 ?_
      obtain ⟨hc, hM⟩ := hM
      refine zV_bald O zt_177 (by decide) hc dX6_advance_151 ?_
      refine zV_callS (as := [aI (rd h37 177 (h37 176 3))]) (st := []) O zc_X6_isDigit (Or.inl zl_RX6_47) zi_548 (Nat.le_of_ble_eq_true rfl) rfl rfl (Nat.le_of_ble_eq_true rfl) (Nat.le_of_ble_eq_true rfl) (Nat.le_of_ble_eq_true rfl) (Nat.le_of_ble_eq_true rfl) (Nat.le_of_ble_eq_true rfl) (Nat.le_of_ble_eq_true rfl) dX6_advance_152 (sX6_isDigit hM) (fun r h9 hq => ?_) (fun x h9 hq => hq.elim)
      obtain ⟨rfl, z39, rfl, hzz39, hM⟩ := hq
      refine zV_if_eq (tgt := 232) O dX6_advance_155 (by decide) (fun hc => ?_) (fun hc => ?_)
      · replace hM := hM.1 hc
        refine zV_aload_n O dX6_advance_232 rfl rfl ?_
        refine zV_iconst (z := 3) O ⟨by omega, by omega⟩ dX6_advance_233 ?_
        refine zV_putI O zf_RX6_40 zt_176 rfl (by decide) dX6_advance_234 ?_
        have hM := hM _ rfl
        generalize hu h37 176 4 3 = h40 at hM ⊢
        refine zV_aload_n O dX6_advance_237 rfl rfl ?_
        refine zV_dup O rfl dX6_advance_238 ?_
        refine zV_getI O zf_RX6_28 zt_176 rfl (by decide) dX6_advance_239 ?_
        refine zV_iconst (z := 1) O ⟨by omega, by omega⟩ dX6_advance_242 ?_
        obtain ⟨hc, hM⟩ := hM
        refine zV_iadd O dX6_advance_243 hc ?_
        refine zV_putI O zf_RX6_28 zt_176 rfl (by decide) dX6_advance_244 ?_
        have hM := hM _ rfl
        generalize hu h40 176 3 ((h40 176 3) + 1) = h41 at hM ⊢
        exact zV_vret O rfl ⟨rfl, hM⟩ (Nat.le_of_ble_eq_true rfl) (Nat.le_of_ble_eq_true rfl) dX6_advance_247
      · replace hM := hM.2 hc
        refine zV_aload_n O dX6_advance_158 rfl rfl ?_
        refine zV_iconst (z := 2) O ⟨by omega, by omega⟩ dX6_advance_159 ?_
        refine zV_putI O zf_RX6_40 zt_176 rfl (by decide) dX6_advance_160 ?_
        have hM := hM _ rfl
        generalize hu h37 176 4 2 = h42 at hM ⊢
        obtain ⟨ff, hM⟩ := hM
        exact sX6_advance_b163 O ff _ hM
    · replace hM := hM.2 hc
      refine zV_aload_n O dX6_advance_99 rfl rfl ?_
      refine zV_iconst (z := 1) O ⟨by omega, by omega⟩ dX6_advance_100 ?_
      refine zV_putI O zf_RX6_40 zt_176 rfl (by decide) dX6_advance_101 ?_
      have hM := hM _ rfl
      generalize hu h37 176 4 1 = h43 at hM ⊢
      obtain ⟨ff, hM⟩ := hM
      exact sX6_advance_b104 O ff _ hM
  · replace hM := hM.2 hc
    refine zV_aload_n O dX6_advance_76 rfl rfl ?_
    refine zV_iconst (z := 0) O ⟨by omega, by omega⟩ dX6_advance_77 ?_
    refine zV_putI O zf_RX6_40 zt_176 rfl (by decide) dX6_advance_78 ?_
    have hM := hM _ rfl
    generalize hu h37 176 4 0 = h44 at hM ⊢
    refine zV_goto (tgt := 247) O dX6_advance_81 (by decide) ?_
    exact zV_vret O rfl ⟨rfl, hM⟩ (Nat.le_of_ble_eq_true rfl) (Nat.le_of_ble_eq_true rfl) dX6_advance_247
def mX6_advance_b39 (Q : Hp → Prop) (K0 : Hp → Prop) (h : Hp) : Prop := (zr ((h 176 3) + 1) ∧ (∀ h45 : Hp, h45 = hu h 176 3 ((h 176 3) + 1) → (K0 h45)))
set_option maxHeartbeats 4000000 in
set_option maxRecDepth 100000 in
theorem sX6_advance_b39 {l0 : Launch} {a : ZC}  {Q : Hp → Prop} {K0 : Hp → Prop} (O : zOk l0 a cX6_advance RX6 1 none 185 [])  (hK0 : ∀ (h : Hp), K0  h → zV a (2, 0, 0, (qV Q), xN) 0 0 0 [some (aR 176)] [] h)  {h : Hp}  (hM : mX6_advance_b39 Q K0 h) : zV a (2, 0, 0, (qV Q), xN) 0 0 39 [some (aR 176)] [] h := by
  unfold mX6_advance_b39 at hM
  refine zV_aload_n O dX6_advance_39 rfl rfl ?_
  refine zV_dup O rfl dX6_advance_40 ?_
  refine zV_getI O zf_RX6_28 zt_176 rfl (by decide) dX6_advance_41 ?_
  refine zV_iconst (z := 1) O ⟨by omega, by omega⟩ dX6_advance_44 ?_
  obtain ⟨hc, hM⟩ := hM
  refine zV_iadd O dX6_advance_45 hc ?_
  refine zV_putI O zf_RX6_28 zt_176 rfl (by decide) dX6_advance_46 ?_
  have hM := hM _ rfl
  generalize hu h 176 3 ((h 176 3) + 1) = h45 at hM ⊢
  refine zV_goto (tgt := 0) O dX6_advance_49 (by decide) ?_
  exact hK0 _ hM
def mX6_advance_b0 (Q : Hp → Prop) : Nat → Hp → Prop
  | 0 => fun _ => False
  | fu0 + 1 => fun h => (((h 176 2) ≤ (h 176 3) → (mX6_advance_b52 Q h)) ∧ (¬ (h 176 2) ≤ (h 176 3) → (((0 : Int) ≤ (h 176 3) ∧ (h 176 3) < 900) ∧ (((rd h 177 (h 176 3)) = (32 : Int) → (mX6_advance_b39 Q (mX6_advance_b0 Q fu0) h)) ∧ (¬ (rd h 177 (h 176 3)) = (32 : Int) → (((0 : Int) ≤ (h 176 3) ∧ (h 176 3) < 900) ∧ ((¬ (rd h 177 (h 176 3)) = (10 : Int) → (mX6_advance_b52 Q h)) ∧ ((rd h 177 (h 176 3)) = (10 : Int) → (mX6_advance_b39 Q (mX6_advance_b0 Q fu0) h)))))))))
set_option maxHeartbeats 4000000 in
set_option maxRecDepth 100000 in
theorem sX6_advance_b0 {l0 : Launch} {a : ZC}  {Q : Hp → Prop}  (O : zOk l0 a cX6_advance RX6 1 none 185 [])   : ∀ (ff : Nat)  (h : Hp), mX6_advance_b0 Q ff  h → zV a (2, 0, 0, (qV Q), xN) 0 0 0 [some (aR 176)] [] h := by
  intro ff
  induction ff with
  | zero => intro  h hM; exact hM.elim
  | succ ff ih =>
    have hK0 := ih
    intro  h hM
    unfold mX6_advance_b0 at hM
    refine zV_aload_n O dX6_advance_0 rfl rfl ?_
    refine zV_getI O zf_RX6_28 zt_176 rfl (by decide) dX6_advance_1 ?_
    refine zV_aload_n O dX6_advance_4 rfl rfl ?_
    refine zV_getI O zf_RX6_25 zt_176 rfl (by decide) dX6_advance_5 ?_
    refine zV_icmp_ge (tgt := 52) O dX6_advance_8 (by decide) (fun hc => ?_) (fun hc => ?_)
    · replace hM := hM.1 hc
      exact sX6_advance_b52 O hM
    · replace hM := hM.2 hc
      refine zV_aload_n O dX6_advance_11 rfl rfl ?_
      refine zV_getR O zf_RX6_9 zt_176 rfl (by decide) dX6_advance_12 ?_
      refine zV_aload_n O dX6_advance_15 rfl rfl ?_
      refine zV_getI O zf_RX6_28 zt_176 rfl (by decide) dX6_advance_16 ?_
      obtain ⟨hc, hM⟩ := hM
      refine zV_bald O zt_177 (by decide) hc dX6_advance_19 ?_
      refine zV_bipush (z := 32) O ⟨by omega, by omega⟩ rfl dX6_advance_20 ?_
      refine zV_icmp_eq (tgt := 39) O dX6_advance_22 (by decide) (fun hc => ?_) (fun hc => ?_)
      · replace hM := hM.1 hc
        exact sX6_advance_b39 O hK0 hM
      · replace hM := hM.2 hc
        refine zV_aload_n O dX6_advance_25 rfl rfl ?_
        refine zV_getR O zf_RX6_9 zt_176 rfl (by decide) dX6_advance_26 ?_
        refine zV_aload_n O dX6_advance_29 rfl rfl ?_
        refine zV_getI O zf_RX6_28 zt_176 rfl (by decide) dX6_advance_30 ?_
        obtain ⟨hc, hM⟩ := hM
        refine zV_bald O zt_177 (by decide) hc dX6_advance_33 ?_
        refine zV_bipush (z := 10) O ⟨by omega, by omega⟩ rfl dX6_advance_34 ?_
        refine zV_icmp_ne (tgt := 52) O dX6_advance_36 (by decide) (fun hc => ?_) (fun hc => ?_)
        · replace hM := hM.1 hc
          exact sX6_advance_b52 O hM
        · replace hM := hM.2 hc
          exact sX6_advance_b39 O hK0 hM
def mX6_advance  (h : Hp) (Q : Hp → Prop) : Prop := (∃ ff, mX6_advance_b0 Q ff h)
set_option maxHeartbeats 4000000 in
set_option maxRecDepth 100000 in
theorem sX6_advance {l0 : Launch}  {h : Hp} {Q : Hp → Prop}  (hM : mX6_advance  h Q) : zSp l0 yX6_advance cX6_advance 1 none 185 (2) 0 0 [aR 176] h (qV Q) xN := by
  unfold mX6_advance at hM
  refine zSp_intro zpn_RX6 (Nat.le_of_ble_eq_true rfl) (fun a O => ?_)
  show zV a (2, 0, 0, (qV Q), xN) 0 0 0 [some (aR 176)] [] h
  obtain ⟨ff, hM⟩ := hM
  exact sX6_advance_b0 O ff _ hM
def mX6_asName_b20 (h : Hp) (Q : Int → Prop) : Nat → Int → Int → Prop
  | 0 => fun _ _ => False
  | fu20 + 1 => fun v1 v3 => ((v3 < 0 → (Q v1)) ∧ (¬ v3 < 0 → (zr ((h 176 5) + v3) ∧ (((0 : Int) ≤ ((h 176 5) + v3) ∧ ((h 176 5) + v3) < 900) ∧ (zr (v3 + (-1)) ∧ ((mX6_asName_b20 h Q fu20) (zlor (zlshl v1 8) (rd h 177 ((h 176 5) + v3))) (v3 + (-1))))))))
set_option maxHeartbeats 4000000 in
set_option maxRecDepth 100000 in
theorem sX6_asName_b20 {l0 : Launch} {a : ZC}  {h : Hp} {Q : Int → Prop}  (O : zOk l0 a cX6_asName RX6 4 (some .long) 185 [])   : ∀ (ff : Nat) (v1 : Int) (v3 : Int) , mX6_asName_b20 h Q ff v1 v3 → zV a (2, 0, 0, (qPL h Q), xN) 0 0 20 [some (aR 176), some (aL v1), none, some (aI v3)] [] h := by
  intro ff
  induction ff with
  | zero => intro v1 v3 hM; exact hM.elim
  | succ ff ih =>
    have hK20 := ih
    intro v1 v3 hM
    unfold mX6_asName_b20 at hM
    refine zV_iload_n O dX6_asName_20 rfl rfl ?_
    refine zV_if_lt (tgt := 48) O dX6_asName_21 (by decide) (fun hc => ?_) (fun hc => ?_)
    · replace hM := hM.1 hc
      refine zV_lload_n O dX6_asName_48 rfl rfl ?_
      exact zV_lret O rfl ⟨rfl, _, rfl, hM⟩ (Nat.le_of_ble_eq_true rfl) (Nat.le_of_ble_eq_true rfl) dX6_asName_49
    · replace hM := hM.2 hc
      refine zV_lload_n O dX6_asName_24 rfl rfl ?_
      refine zV_bipush (z := 8) O ⟨by omega, by omega⟩ rfl dX6_asName_25 ?_
      refine zV_lshl O dX6_asName_27 ?_
      refine zV_aload_n O dX6_asName_28 rfl rfl ?_
      refine zV_getR O zf_RX6_9 zt_176 rfl (by decide) dX6_asName_29 ?_
      refine zV_aload_n O dX6_asName_32 rfl rfl ?_
      refine zV_getI O zf_RX6_34 zt_176 rfl (by decide) dX6_asName_33 ?_
      refine zV_iload_n O dX6_asName_36 rfl rfl ?_
      obtain ⟨hc, hM⟩ := hM
      refine zV_iadd O dX6_asName_37 hc ?_
      obtain ⟨hc, hM⟩ := hM
      refine zV_bald O zt_177 (by decide) hc dX6_asName_38 ?_
      refine zV_i2l O dX6_asName_39 ?_
      refine zV_lor O dX6_asName_40 ?_
      refine zV_lstore_n O dX6_asName_41 rfl (Nat.le_of_ble_eq_true rfl) rfl ?_
      obtain ⟨hc, hM⟩ := hM
      refine zV_iinc O dX6_asName_42 rfl (Nat.le_of_ble_eq_true rfl) rfl hc ?_
      refine zV_goto (tgt := 20) O dX6_asName_45 (by decide) ?_
      exact hK20 _ _ hM
def mX6_asName  (h : Hp) (Q : Int → Prop) : Prop := (mX6_letters h (fun z3 => ((z3 ≤ (8 : Int) → (mX6_letters h (fun z4 => (zr (z4 - 1) ∧ (∃ ff, mX6_asName_b20 h Q ff 0 (z4 - 1)))))) ∧ (¬ z3 ≤ (8 : Int) → (Q 0)))))
set_option maxHeartbeats 4000000 in
set_option maxRecDepth 100000 in
theorem sX6_asName {l0 : Launch}  {h : Hp} {Q : Int → Prop}  (hM : mX6_asName  h Q) : zSp l0 yX6_asName cX6_asName 4 (some .long) 185 (2) 0 0 [aR 176] h (qPL h Q) xN := by
  unfold mX6_asName at hM
  refine zSp_intro zpn_RX6 (Nat.le_of_ble_eq_true rfl) (fun a O => ?_)
  show zV a (2, 0, 0, (qPL h Q), xN) 0 0 0 [some (aR 176), none, none, none] [] h
  refine zV_aload_n O dX6_asName_0 rfl rfl ?_
  refine zV_callV (as := []) (st := []) O zc_X6_letters (Or.inl zl_RX6_59) zi_613 zi_23 zt_176 rfl rfl (by decide) (Nat.le_of_ble_eq_true rfl) rfl rfl (Nat.le_of_ble_eq_true rfl) (Nat.le_of_ble_eq_true rfl) (Nat.le_of_ble_eq_true rfl) (Nat.le_of_ble_eq_true rfl) (Nat.le_of_ble_eq_true rfl) (Nat.le_of_ble_eq_true rfl) dX6_asName_1 (sX6_letters hM) (fun r h9 hq => ?_) (fun x h9 hq => hq.elim)
  obtain ⟨rfl, z3, rfl, hM⟩ := hq
  refine zV_bipush (z := 8) O ⟨by omega, by omega⟩ rfl dX6_asName_4 ?_
  refine zV_icmp_le (tgt := 11) O dX6_asName_6 (by decide) (fun hc => ?_) (fun hc => ?_)
  · replace hM := hM.1 hc
    refine zV_lconst (z := 0) O ⟨by omega, by omega⟩ rfl dX6_asName_11 ?_
    refine zV_lstore_n O dX6_asName_12 rfl (Nat.le_of_ble_eq_true rfl) rfl ?_
    refine zV_aload_n O dX6_asName_13 rfl rfl ?_
    refine zV_callV (as := []) (st := []) O zc_X6_letters (Or.inl zl_RX6_59) zi_613 zi_23 zt_176 rfl rfl (by decide) (Nat.le_of_ble_eq_true rfl) rfl rfl (Nat.le_of_ble_eq_true rfl) (Nat.le_of_ble_eq_true rfl) (Nat.le_of_ble_eq_true rfl) (Nat.le_of_ble_eq_true rfl) (Nat.le_of_ble_eq_true rfl) (Nat.le_of_ble_eq_true rfl) dX6_asName_14 (sX6_letters hM) (fun r h9 hq => ?_) (fun x h9 hq => hq.elim)
    obtain ⟨rfl, z4, rfl, hM⟩ := hq
    refine zV_iconst (z := 1) O ⟨by omega, by omega⟩ dX6_asName_17 ?_
    obtain ⟨hc, hM⟩ := hM
    refine zV_isub O dX6_asName_18 hc ?_
    refine zV_istore_n O dX6_asName_19 rfl (Nat.le_of_ble_eq_true rfl) rfl ?_
    obtain ⟨ff, hM⟩ := hM
    exact sX6_asName_b20 O ff _ _ hM
  · replace hM := hM.2 hc
    refine zV_lconst (z := 0) O ⟨by omega, by omega⟩ rfl dX6_asName_9 ?_
    exact zV_lret O rfl ⟨rfl, _, rfl, hM⟩ (Nat.le_of_ble_eq_true rfl) (Nat.le_of_ble_eq_true rfl) dX6_asName_10
def mX2_takeNumber (x1 : Int) (x2 : Int) (h : Hp) (Q : Int → Hp → Prop) : Prop := (mX2_isNumber x1 x2 h (fun z5 h6 => ((¬ z5 = 0 → (∀ h7 : Hp, h7 = hu h6 178 3 (h6 176 6) → (mX6_advance h7 (fun h8 => (Q 1 h8))))) ∧ (z5 = 0 → (Q 0 h6)))))
set_option maxHeartbeats 4000000 in
set_option maxRecDepth 100000 in
theorem sX2_takeNumber {l0 : Launch} {x1 : Int} {x2 : Int} {h : Hp} {Q : Int → Hp → Prop}  (hM : mX2_takeNumber x1 x2 h Q) : zSp l0 yX2_takeNumber cX2_takeNumber 3 (some .boolean) 185 (3) 0 0 [aR 178, aI x1, aI x2] h (qZ Q) xN := by
  unfold mX2_takeNumber at hM
  refine zSp_intro zpn_RX2 (Nat.le_of_ble_eq_true rfl) (fun a O => ?_)
  show zV a (3, 0, 0, (qZ Q), xN) 0 0 0 [some (aR 178), some (aI x1), some (aI x2)] [] h
  refine zV_aload_n O dX2_takeNumber_0 rfl rfl ?_
  refine zV_iload_n O dX2_takeNumber_1 rfl rfl ?_
  refine zV_iload_n O dX2_takeNumber_2 rfl rfl ?_
  refine zV_callV (as := [aI x1, aI x2]) (st := []) O zc_X2_isNumber (Or.inl zl_RX2_117) zi_586 zi_17 zt_178 rfl rfl (by decide) (Nat.le_of_ble_eq_true rfl) rfl rfl (Nat.le_of_ble_eq_true rfl) (Nat.le_of_ble_eq_true rfl) (Nat.le_of_ble_eq_true rfl) (Nat.le_of_ble_eq_true rfl) (Nat.le_of_ble_eq_true rfl) (Nat.le_of_ble_eq_true rfl) dX2_takeNumber_3 (sX2_isNumber hM) (fun r h6 hq => ?_) (fun x h9 hq => hq.elim)
  obtain ⟨z5, rfl, hzz5, hM⟩ := hq
  refine zV_if_ne (tgt := 11) O dX2_takeNumber_6 (by decide) (fun hc => ?_) (fun hc => ?_)
  · replace hM := hM.1 hc
    refine zV_aload_n O dX2_takeNumber_11 rfl rfl ?_
    refine zV_aload_n O dX2_takeNumber_12 rfl rfl ?_
    refine zV_getR O zf_RX2_9 zt_178 rfl (by decide) dX2_takeNumber_13 ?_
    refine zV_getI O zf_RX2_120 zt_176 rfl (by decide) dX2_takeNumber_16 ?_
    refine zV_putI O zf_RX2_85 zt_178 rfl (by decide) dX2_takeNumber_19 ?_
    have hM := hM _ rfl
    generalize hu h6 178 3 (h6 176 6) = h7 at hM ⊢
    refine zV_aload_n O dX2_takeNumber_22 rfl rfl ?_
    refine zV_getR O zf_RX2_9 zt_178 rfl (by decide) dX2_takeNumber_23 ?_
    refine zV_callV (as := []) (st := []) O zc_X6_advance (Or.inr ⟨_, zl_RX2_78⟩) zi_542 zi_9 zt_176 rfl rfl (by decide) (Nat.le_of_ble_eq_true rfl) rfl rfl (Nat.le_of_ble_eq_true rfl) (Nat.le_of_ble_eq_true rfl) (Nat.le_of_ble_eq_true rfl) (Nat.le_of_ble_eq_true rfl) (Nat.le_of_ble_eq_true rfl) (Nat.le_of_ble_eq_true rfl) dX2_takeNumber_26 (sX6_advance hM) (fun r h8 hq => ?_) (fun x h9 hq => hq.elim)
    obtain ⟨rfl, hM⟩ := hq
    refine zV_iconst (z := 1) O ⟨by omega, by omega⟩ dX2_takeNumber_29 ?_
    exact zV_zret O rfl (Or.inr rfl) ⟨_, rfl, (Or.inr rfl), hM⟩ (Nat.le_of_ble_eq_true rfl) (Nat.le_of_ble_eq_true rfl) dX2_takeNumber_30
  · replace hM := hM.2 hc
    refine zV_iconst (z := 0) O ⟨by omega, by omega⟩ dX2_takeNumber_9 ?_
    exact zV_zret O rfl (Or.inl rfl) ⟨_, rfl, (Or.inl rfl), hM⟩ (Nat.le_of_ble_eq_true rfl) (Nat.le_of_ble_eq_true rfl) dX2_takeNumber_10
def mX2_takeSemicolon  (h : Hp) (Q : Int → Hp → Prop) : Prop := (mX6_isSign 59 h (fun z5 => ((¬ z5 = 0 → (mX6_advance h (fun h6 => (Q 1 h6)))) ∧ (z5 = 0 → (mX2_fail 1 h (fun z7 h8 => (Q z7 h8)))))))
set_option maxHeartbeats 4000000 in
set_option maxRecDepth 100000 in
theorem sX2_takeSemicolon {l0 : Launch}  {h : Hp} {Q : Int → Hp → Prop}  (hM : mX2_takeSemicolon  h Q) : zSp l0 yX2_takeSemicolon cX2_takeSemicolon 1 (some .boolean) 185 (3) 0 0 [aR 178] h (qZ Q) xN := by
  unfold mX2_takeSemicolon at hM
  refine zSp_intro zpn_RX2 (Nat.le_of_ble_eq_true rfl) (fun a O => ?_)
  show zV a (3, 0, 0, (qZ Q), xN) 0 0 0 [some (aR 178)] [] h
  refine zV_aload_n O dX2_takeSemicolon_0 rfl rfl ?_
  refine zV_getR O zf_RX2_9 zt_178 rfl (by decide) dX2_takeSemicolon_1 ?_
  refine zV_bipush (z := 59) O ⟨by omega, by omega⟩ rfl dX2_takeSemicolon_4 ?_
  refine zV_callV (as := [aI 59]) (st := []) O zc_X6_isSign (Or.inr ⟨_, zl_RX2_163⟩) zi_604 zi_21 zt_176 rfl rfl (by decide) (Nat.le_of_ble_eq_true rfl) rfl rfl (Nat.le_of_ble_eq_true rfl) (Nat.le_of_ble_eq_true rfl) (Nat.le_of_ble_eq_true rfl) (Nat.le_of_ble_eq_true rfl) (Nat.le_of_ble_eq_true rfl) (Nat.le_of_ble_eq_true rfl) dX2_takeSemicolon_6 (sX6_isSign hM) (fun r h9 hq => ?_) (fun x h9 hq => hq.elim)
  obtain ⟨rfl, z5, rfl, hzz5, hM⟩ := hq
  refine zV_if_ne (tgt := 18) O dX2_takeSemicolon_9 (by decide) (fun hc => ?_) (fun hc => ?_)
  · replace hM := hM.1 hc
    refine zV_aload_n O dX2_takeSemicolon_18 rfl rfl ?_
    refine zV_getR O zf_RX2_9 zt_178 rfl (by decide) dX2_takeSemicolon_19 ?_
    refine zV_callV (as := []) (st := []) O zc_X6_advance (Or.inr ⟨_, zl_RX2_78⟩) zi_542 zi_9 zt_176 rfl rfl (by decide) (Nat.le_of_ble_eq_true rfl) rfl rfl (Nat.le_of_ble_eq_true rfl) (Nat.le_of_ble_eq_true rfl) (Nat.le_of_ble_eq_true rfl) (Nat.le_of_ble_eq_true rfl) (Nat.le_of_ble_eq_true rfl) (Nat.le_of_ble_eq_true rfl) dX2_takeSemicolon_22 (sX6_advance hM) (fun r h6 hq => ?_) (fun x h9 hq => hq.elim)
    obtain ⟨rfl, hM⟩ := hq
    refine zV_iconst (z := 1) O ⟨by omega, by omega⟩ dX2_takeSemicolon_25 ?_
    exact zV_zret O rfl (Or.inr rfl) ⟨_, rfl, (Or.inr rfl), hM⟩ (Nat.le_of_ble_eq_true rfl) (Nat.le_of_ble_eq_true rfl) dX2_takeSemicolon_26
  · replace hM := hM.2 hc
    refine zV_aload_n O dX2_takeSemicolon_12 rfl rfl ?_
    refine zV_iconst (z := 1) O ⟨by omega, by omega⟩ dX2_takeSemicolon_13 ?_
    refine zV_callV (as := [aI 1]) (st := []) O zc_X2_fail (Or.inl zl_RX2_56) zi_572 zi_14 zt_178 rfl rfl (by decide) (Nat.le_of_ble_eq_true rfl) rfl rfl (Nat.le_of_ble_eq_true rfl) (Nat.le_of_ble_eq_true rfl) (Nat.le_of_ble_eq_true rfl) (Nat.le_of_ble_eq_true rfl) (Nat.le_of_ble_eq_true rfl) (Nat.le_of_ble_eq_true rfl) dX2_takeSemicolon_14 (sX2_fail hM) (fun r h8 hq => ?_) (fun x h9 hq => hq.elim)
    obtain ⟨z7, rfl, hzz7, hM⟩ := hq
    exact zV_zret O rfl hzz7 ⟨_, rfl, hzz7, hM⟩ (Nat.le_of_ble_eq_true rfl) (Nat.le_of_ble_eq_true rfl) dX2_takeSemicolon_17
def mX6_begin (x1 : Int) (h : Hp) (Q : Hp → Prop) : Prop := (∀ h5 : Hp, h5 = hu h 176 2 (min x1 900) → (∀ h6 : Hp, h6 = hu h5 176 1 0 → (∀ h7 : Hp, h7 = hu h6 176 3 0 → (mX6_advance h7 (fun h8 => (Q h8))))))
set_option maxHeartbeats 4000000 in
set_option maxRecDepth 100000 in
theorem sX6_begin {l0 : Launch} {x1 : Int} {h : Hp} {Q : Hp → Prop}  (hM : mX6_begin x1 h Q) : zSp l0 yX6_begin cX6_begin 2 none 185 (3) 0 0 [aR 176, aI x1] h (qV Q) xN := by
  unfold mX6_begin at hM
  refine zSp_intro zpn_RX6 (Nat.le_of_ble_eq_true rfl) (fun a O => ?_)
  show zV a (3, 0, 0, (qV Q), xN) 0 0 0 [some (aR 176), some (aI x1)] [] h
  refine zV_aload_n O dX6_begin_0 rfl rfl ?_
  refine zV_iload_n O dX6_begin_1 rfl rfl ?_
  refine zV_sipush (z := 900) O ⟨by omega, by omega⟩ rfl dX6_begin_2 ?_
  refine zV_min O zi_537 zi_538 zi_88 zi_539 (Nat.le_of_ble_eq_true rfl) (Nat.le_of_ble_eq_true rfl) (Nat.le_of_ble_eq_true rfl) (Nat.le_of_ble_eq_true rfl) dX6_begin_5 ?_
  refine zV_putI O zf_RX6_25 zt_176 rfl (by decide) dX6_begin_8 ?_
  have hM := hM _ rfl
  generalize hu h 176 2 (min x1 900) = h5 at hM ⊢
  refine zV_aload_n O dX6_begin_11 rfl rfl ?_
  refine zV_iconst (z := 0) O ⟨by omega, by omega⟩ dX6_begin_12 ?_
  refine zV_putI O zf_RX6_15 zt_176 rfl (by decide) dX6_begin_13 ?_
  have hM := hM _ rfl
  generalize hu h5 176 1 0 = h6 at hM ⊢
  refine zV_aload_n O dX6_begin_16 rfl rfl ?_
  refine zV_iconst (z := 0) O ⟨by omega, by omega⟩ dX6_begin_17 ?_
  refine zV_putI O zf_RX6_28 zt_176 rfl (by decide) dX6_begin_18 ?_
  have hM := hM _ rfl
  generalize hu h6 176 3 0 = h7 at hM ⊢
  refine zV_aload_n O dX6_begin_21 rfl rfl ?_
  refine zV_callV (as := []) (st := []) O zc_X6_advance (Or.inl zl_RX6_31) zi_542 zi_9 zt_176 rfl rfl (by decide) (Nat.le_of_ble_eq_true rfl) rfl rfl (Nat.le_of_ble_eq_true rfl) (Nat.le_of_ble_eq_true rfl) (Nat.le_of_ble_eq_true rfl) (Nat.le_of_ble_eq_true rfl) (Nat.le_of_ble_eq_true rfl) (Nat.le_of_ble_eq_true rfl) dX6_begin_22 (sX6_advance hM) (fun r h8 hq => ?_) (fun x h9 hq => hq.elim)
  obtain ⟨rfl, hM⟩ := hq
  exact zV_vret O rfl ⟨rfl, hM⟩ (Nat.le_of_ble_eq_true rfl) (Nat.le_of_ble_eq_true rfl) dX6_begin_25
def mX2_readMove_b69 (Q : Int → Hp → Prop) (h : Hp) : Prop := (mX2_fail 4 h (fun z20 h21 => (Q z20 h21)))
set_option maxHeartbeats 4000000 in
set_option maxRecDepth 100000 in
theorem sX2_readMove_b69 {l0 : Launch} {a : ZC}  {Q : Int → Hp → Prop}  (O : zOk l0 a cX2_readMove RX2 3 (some .boolean) 185 [])    {h : Hp}  (hM : mX2_readMove_b69 Q h) : zV a (4, 0, 0, (qZ Q), xN) 0 0 69 [some (aR 178), none, none] [] h := by
  unfold mX2_readMove_b69 at hM
  refine zV_aload_n O dX2_readMove_69 rfl rfl ?_
  refine zV_iconst (z := 4) O ⟨by omega, by omega⟩ dX2_readMove_70 ?_
  refine zV_callV (as := [aI 4]) (st := []) O zc_X2_fail (Or.inl zl_RX2_56) zi_572 zi_14 zt_178 rfl rfl (by decide) (Nat.le_of_ble_eq_true rfl) rfl rfl (Nat.le_of_ble_eq_true rfl) (Nat.le_of_ble_eq_true rfl) (Nat.le_of_ble_eq_true rfl) (Nat.le_of_ble_eq_true rfl) (Nat.le_of_ble_eq_true rfl) (Nat.le_of_ble_eq_true rfl) dX2_readMove_71 (sX2_fail hM) (fun r h21 hq => ?_) (fun x h9 hq => hq.elim)
  obtain ⟨z20, rfl, hzz20, hM⟩ := hq
  exact zV_zret O rfl hzz20 ⟨_, rfl, hzz20, hM⟩ (Nat.le_of_ble_eq_true rfl) (Nat.le_of_ble_eq_true rfl) dX2_readMove_74
def mX2_readMove  (h : Hp) (Q : Int → Hp → Prop) : Prop := (mX6_advance h (fun h22 => (((h22 176 4) = (1 : Int) → (mX6_asName h22 (fun z23 => (mX3_hostNamed 13 z23 h22 (fun z24 => ((z24 = ((-1) : Int) → (mX2_readMove_b69 Q h22)) ∧ (¬ z24 = ((-1) : Int) → (((0 : Int) ≤ z24 ∧ z24 < 40) ∧ (((rd h22 17 z24) = (1 : Int) → (mX2_readMove_b69 Q h22)) ∧ (¬ (rd h22 17 z24) = (1 : Int) → (((0 : Int) ≤ z24 ∧ z24 < 40) ∧ (((rd h22 19 z24) = 0 → (mX6_advance h22 (fun h25 => (mX2_takeNumber 1 250 h25 (fun z26 h27 => ((¬ z26 = 0 → (mX2_isNumber 1 9 h27 (fun z28 h29 => ((¬ z28 = 0 → (mX3_plansIn 13 (h29 176 6) h29 (fun z30 => ((z30 < (h29 13 4) → (mX3_setPlan 13 z24 (h27 178 3) (h29 176 6) h29 (fun h31 => (mX6_advance h31 (fun h32 => (Q 1 h32)))))) ∧ (¬ z30 < (h29 13 4) → (mX2_fail 4 h29 (fun z33 h34 => (Q z33 h34)))))))) ∧ (z28 = 0 → (Q 0 h29)))))) ∧ (z26 = 0 → (Q 0 h27)))))))) ∧ (¬ (rd h22 19 z24) = 0 → (mX2_readMove_b69 Q h22)))))))))))))) ∧ (¬ (h22 176 4) = (1 : Int) → (mX2_fail 1 h22 (fun z35 h36 => (Q z35 h36)))))))
set_option maxHeartbeats 4000000 in
set_option maxRecDepth 100000 in
theorem sX2_readMove {l0 : Launch}  {h : Hp} {Q : Int → Hp → Prop}  (hM : mX2_readMove  h Q) : zSp l0 yX2_readMove cX2_readMove 3 (some .boolean) 185 (4) 0 0 [aR 178] h (qZ Q) xN := by
  unfold mX2_readMove at hM
  refine zSp_intro zpn_RX2 (Nat.le_of_ble_eq_true rfl) (fun a O => ?_)
  show zV a (4, 0, 0, (qZ Q), xN) 0 0 0 [some (aR 178), none, none] [] h
  refine zV_aload_n O dX2_readMove_0 rfl rfl ?_
  refine zV_getR O zf_RX2_9 zt_178 rfl (by decide) dX2_readMove_1 ?_
  refine zV_callV (as := []) (st := []) O zc_X6_advance (Or.inr ⟨_, zl_RX2_78⟩) zi_542 zi_9 zt_176 rfl rfl (by decide) (Nat.le_of_ble_eq_true rfl) rfl rfl (Nat.le_of_ble_eq_true rfl) (Nat.le_of_ble_eq_true rfl) (Nat.le_of_ble_eq_true rfl) (Nat.le_of_ble_eq_true rfl) (Nat.le_of_ble_eq_true rfl) (Nat.le_of_ble_eq_true rfl) dX2_readMove_4 (sX6_advance hM) (fun r h22 hq => ?_) (fun x h9 hq => hq.elim)
  obtain ⟨rfl, hM⟩ := hq
  refine zV_aload_n O dX2_readMove_7 rfl rfl ?_
  refine zV_getR O zf_RX2_9 zt_178 rfl (by decide) dX2_readMove_8 ?_
  refine zV_getI O zf_RX2_32 zt_176 rfl (by decide) dX2_readMove_11 ?_
  refine zV_iconst (z := 1) O ⟨by omega, by omega⟩ dX2_readMove_14 ?_
  refine zV_icmp_eq (tgt := 24) O dX2_readMove_15 (by decide) (fun hc => ?_) (fun hc => ?_)
  · replace hM := hM.1 hc
    refine zV_aload_n O dX2_readMove_24 rfl rfl ?_
    refine zV_getR O zf_RX2_15 zt_178 rfl (by decide) dX2_readMove_25 ?_
    refine zV_aload_n O dX2_readMove_28 rfl rfl ?_
    refine zV_getR O zf_RX2_9 zt_178 rfl (by decide) dX2_readMove_29 ?_
    refine zV_callV (as := []) (st := [aR 13]) O zc_X6_asName (Or.inr ⟨_, zl_RX2_109⟩) zi_617 zi_24 zt_176 rfl rfl (by decide) (Nat.le_of_ble_eq_true rfl) rfl rfl (Nat.le_of_ble_eq_true rfl) (Nat.le_of_ble_eq_true rfl) (Nat.le_of_ble_eq_true rfl) (Nat.le_of_ble_eq_true rfl) (Nat.le_of_ble_eq_true rfl) (Nat.le_of_ble_eq_true rfl) dX2_readMove_32 (sX6_asName hM) (fun r h9 hq => ?_) (fun x h9 hq => hq.elim)
    obtain ⟨rfl, z23, rfl, hM⟩ := hq
    refine zV_callV (as := [aL z23]) (st := []) O zc_X3_hostNamed (Or.inr ⟨_, zl_RX2_113⟩) zi_622 zi_25 (zN_o zisN_13) rfl rfl (zN_lt0 zisN_13) (Nat.le_of_ble_eq_true rfl) rfl rfl (Nat.le_of_ble_eq_true rfl) (Nat.le_of_ble_eq_true rfl) (Nat.le_of_ble_eq_true rfl) (Nat.le_of_ble_eq_true rfl) (Nat.le_of_ble_eq_true rfl) (Nat.le_of_ble_eq_true rfl) dX2_readMove_35 (sX3_hostNamed zisN_13 hM) (fun r h9 hq => ?_) (fun x h9 hq => hq.elim)
    obtain ⟨rfl, z24, rfl, hM⟩ := hq
    refine zV_istore_n O dX2_readMove_38 rfl (Nat.le_of_ble_eq_true rfl) rfl ?_
    refine zV_iload_n O dX2_readMove_39 rfl rfl ?_
    refine zV_iconst (z := -1) O ⟨by omega, by omega⟩ dX2_readMove_40 ?_
    refine zV_icmp_eq (tgt := 69) O dX2_readMove_41 (by decide) (fun hc => ?_) (fun hc => ?_)
    · replace hM := hM.1 hc
      refine zV_sub (ls2 := [some (aR 178), none, none]) ⟨rfl, trivial⟩ ?_
      exact sX2_readMove_b69 O hM
    · replace hM := hM.2 hc
      refine zV_aload_n O dX2_readMove_44 rfl rfl ?_
      refine zV_getR O zf_RX2_15 zt_178 rfl (by decide) dX2_readMove_45 ?_
      refine zV_getR O zf_RX2_133 (zN_o zisN_13) rfl (zN_lt0 zisN_13) dX2_readMove_48 ?_
      refine zV_iload_n O dX2_readMove_51 rfl rfl ?_
      obtain ⟨hc, hM⟩ := hM
      refine zV_iald O zt_17 (by decide) hc dX2_readMove_52 ?_
      refine zV_iconst (z := 1) O ⟨by omega, by omega⟩ dX2_readMove_53 ?_
      refine zV_icmp_eq (tgt := 69) O dX2_readMove_54 (by decide) (fun hc => ?_) (fun hc => ?_)
      · replace hM := hM.1 hc
        refine zV_sub (ls2 := [some (aR 178), none, none]) ⟨rfl, trivial⟩ ?_
        exact sX2_readMove_b69 O hM
      · replace hM := hM.2 hc
        refine zV_aload_n O dX2_readMove_57 rfl rfl ?_
        refine zV_getR O zf_RX2_15 zt_178 rfl (by decide) dX2_readMove_58 ?_
        refine zV_getR O zf_RX2_152 (zN_o zisN_13) rfl (zN_lt0 zisN_13) dX2_readMove_61 ?_
        refine zV_iload_n O dX2_readMove_64 rfl rfl ?_
        obtain ⟨hc, hM⟩ := hM
        refine zV_iald O zt_19 (by decide) hc dX2_readMove_65 ?_
        refine zV_if_eq (tgt := 75) O dX2_readMove_66 (by decide) (fun hc => ?_) (fun hc => ?_)
        · replace hM := hM.1 hc
          refine zV_aload_n O dX2_readMove_75 rfl rfl ?_
          refine zV_getR O zf_RX2_9 zt_178 rfl (by decide) dX2_readMove_76 ?_
          refine zV_callV (as := []) (st := []) O zc_X6_advance (Or.inr ⟨_, zl_RX2_78⟩) zi_542 zi_9 zt_176 rfl rfl (by decide) (Nat.le_of_ble_eq_true rfl) rfl rfl (Nat.le_of_ble_eq_true rfl) (Nat.le_of_ble_eq_true rfl) (Nat.le_of_ble_eq_true rfl) (Nat.le_of_ble_eq_true rfl) (Nat.le_of_ble_eq_true rfl) (Nat.le_of_ble_eq_true rfl) dX2_readMove_79 (sX6_advance hM) (fun r h25 hq => ?_) (fun x h9 hq => hq.elim)
          obtain ⟨rfl, hM⟩ := hq
          refine zV_aload_n O dX2_readMove_82 rfl rfl ?_
          refine zV_iconst (z := 1) O ⟨by omega, by omega⟩ dX2_readMove_83 ?_
          refine zV_sipush (z := 250) O ⟨by omega, by omega⟩ rfl dX2_readMove_84 ?_
          refine zV_callV (as := [aI 1, aI 250]) (st := []) O zc_X2_takeNumber (Or.inl zl_RX2_81) zi_582 zi_16 zt_178 rfl rfl (by decide) (Nat.le_of_ble_eq_true rfl) rfl rfl (Nat.le_of_ble_eq_true rfl) (Nat.le_of_ble_eq_true rfl) (Nat.le_of_ble_eq_true rfl) (Nat.le_of_ble_eq_true rfl) (Nat.le_of_ble_eq_true rfl) (Nat.le_of_ble_eq_true rfl) dX2_readMove_87 (sX2_takeNumber hM) (fun r h27 hq => ?_) (fun x h9 hq => hq.elim)
          obtain ⟨z26, rfl, hzz26, hM⟩ := hq
          refine zV_if_ne (tgt := 95) O dX2_readMove_90 (by decide) (fun hc => ?_) (fun hc => ?_)
          · replace hM := hM.1 hc
            refine zV_aload_n O dX2_readMove_95 rfl rfl ?_
            refine zV_getI O zf_RX2_85 zt_178 rfl (by decide) dX2_readMove_96 ?_
            refine zV_istore_n O dX2_readMove_99 rfl (Nat.le_of_ble_eq_true rfl) rfl ?_
            refine zV_aload_n O dX2_readMove_100 rfl rfl ?_
            refine zV_iconst (z := 1) O ⟨by omega, by omega⟩ dX2_readMove_101 ?_
            refine zV_bipush (z := 9) O ⟨by omega, by omega⟩ rfl dX2_readMove_102 ?_
            refine zV_callV (as := [aI 1, aI 9]) (st := []) O zc_X2_isNumber (Or.inl zl_RX2_117) zi_586 zi_17 zt_178 rfl rfl (by decide) (Nat.le_of_ble_eq_true rfl) rfl rfl (Nat.le_of_ble_eq_true rfl) (Nat.le_of_ble_eq_true rfl) (Nat.le_of_ble_eq_true rfl) (Nat.le_of_ble_eq_true rfl) (Nat.le_of_ble_eq_true rfl) (Nat.le_of_ble_eq_true rfl) dX2_readMove_104 (sX2_isNumber hM) (fun r h29 hq => ?_) (fun x h9 hq => hq.elim)
            obtain ⟨z28, rfl, hzz28, hM⟩ := hq
            refine zV_if_ne (tgt := 112) O dX2_readMove_107 (by decide) (fun hc => ?_) (fun hc => ?_)
            · replace hM := hM.1 hc
              refine zV_aload_n O dX2_readMove_112 rfl rfl ?_
              refine zV_getR O zf_RX2_15 zt_178 rfl (by decide) dX2_readMove_113 ?_
              refine zV_aload_n O dX2_readMove_116 rfl rfl ?_
              refine zV_getR O zf_RX2_9 zt_178 rfl (by decide) dX2_readMove_117 ?_
              refine zV_getI O zf_RX2_120 zt_176 rfl (by decide) dX2_readMove_120 ?_
              refine zV_callV (as := [aI (h29 176 6)]) (st := []) O zc_X3_plansIn (Or.inr ⟨_, zl_RX2_155⟩) zi_668 zi_35 (zN_o zisN_13) rfl rfl (zN_lt0 zisN_13) (Nat.le_of_ble_eq_true rfl) rfl rfl (Nat.le_of_ble_eq_true rfl) (Nat.le_of_ble_eq_true rfl) (Nat.le_of_ble_eq_true rfl) (Nat.le_of_ble_eq_true rfl) (Nat.le_of_ble_eq_true rfl) (Nat.le_of_ble_eq_true rfl) dX2_readMove_123 (sX3_plansIn zisN_13 hM) (fun r h9 hq => ?_) (fun x h9 hq => hq.elim)
              obtain ⟨rfl, z30, rfl, hM⟩ := hq
              refine zV_aload_n O dX2_readMove_126 rfl rfl ?_
              refine zV_getR O zf_RX2_15 zt_178 rfl (by decide) dX2_readMove_127 ?_
              refine zV_getI O zf_RX2_92 (zN_o zisN_13) rfl (zN_lt0 zisN_13) dX2_readMove_130 ?_
              refine zV_icmp_lt (tgt := 142) O dX2_readMove_133 (by decide) (fun hc => ?_) (fun hc => ?_)
              · replace hM := hM.1 hc
                refine zV_aload_n O dX2_readMove_142 rfl rfl ?_
                refine zV_getR O zf_RX2_15 zt_178 rfl (by decide) dX2_readMove_143 ?_
                refine zV_iload_n O dX2_readMove_146 rfl rfl ?_
                refine zV_iload_n O dX2_readMove_147 rfl rfl ?_
                refine zV_aload_n O dX2_readMove_148 rfl rfl ?_
                refine zV_getR O zf_RX2_9 zt_178 rfl (by decide) dX2_readMove_149 ?_
                refine zV_getI O zf_RX2_120 zt_176 rfl (by decide) dX2_readMove_152 ?_
                refine zV_callV (as := [aI z24, aI (h27 178 3), aI (h29 176 6)]) (st := []) O zc_X3_setPlan (Or.inr ⟨_, zl_RX2_159⟩) zi_672 zi_36 (zN_o zisN_13) rfl rfl (zN_lt0 zisN_13) (Nat.le_of_ble_eq_true rfl) rfl rfl (Nat.le_of_ble_eq_true rfl) (Nat.le_of_ble_eq_true rfl) (Nat.le_of_ble_eq_true rfl) (Nat.le_of_ble_eq_true rfl) (Nat.le_of_ble_eq_true rfl) (Nat.le_of_ble_eq_true rfl) dX2_readMove_155 (sX3_setPlan zisN_13 hM) (fun r h31 hq => ?_) (fun x h9 hq => hq.elim)
                obtain ⟨rfl, hM⟩ := hq
                refine zV_aload_n O dX2_readMove_158 rfl rfl ?_
                refine zV_getR O zf_RX2_9 zt_178 rfl (by decide) dX2_readMove_159 ?_
                refine zV_callV (as := []) (st := []) O zc_X6_advance (Or.inr ⟨_, zl_RX2_78⟩) zi_542 zi_9 zt_176 rfl rfl (by decide) (Nat.le_of_ble_eq_true rfl) rfl rfl (Nat.le_of_ble_eq_true rfl) (Nat.le_of_ble_eq_true rfl) (Nat.le_of_ble_eq_true rfl) (Nat.le_of_ble_eq_true rfl) (Nat.le_of_ble_eq_true rfl) (Nat.le_of_ble_eq_true rfl) dX2_readMove_162 (sX6_advance hM) (fun r h32 hq => ?_) (fun x h9 hq => hq.elim)
                obtain ⟨rfl, hM⟩ := hq
                refine zV_iconst (z := 1) O ⟨by omega, by omega⟩ dX2_readMove_165 ?_
                exact zV_zret O rfl (Or.inr rfl) ⟨_, rfl, (Or.inr rfl), hM⟩ (Nat.le_of_ble_eq_true rfl) (Nat.le_of_ble_eq_true rfl) dX2_readMove_166
              · replace hM := hM.2 hc
                refine zV_aload_n O dX2_readMove_136 rfl rfl ?_
                refine zV_iconst (z := 4) O ⟨by omega, by omega⟩ dX2_readMove_137 ?_
                refine zV_callV (as := [aI 4]) (st := []) O zc_X2_fail (Or.inl zl_RX2_56) zi_572 zi_14 zt_178 rfl rfl (by decide) (Nat.le_of_ble_eq_true rfl) rfl rfl (Nat.le_of_ble_eq_true rfl) (Nat.le_of_ble_eq_true rfl) (Nat.le_of_ble_eq_true rfl) (Nat.le_of_ble_eq_true rfl) (Nat.le_of_ble_eq_true rfl) (Nat.le_of_ble_eq_true rfl) dX2_readMove_138 (sX2_fail hM) (fun r h34 hq => ?_) (fun x h9 hq => hq.elim)
                obtain ⟨z33, rfl, hzz33, hM⟩ := hq
                exact zV_zret O rfl hzz33 ⟨_, rfl, hzz33, hM⟩ (Nat.le_of_ble_eq_true rfl) (Nat.le_of_ble_eq_true rfl) dX2_readMove_141
            · replace hM := hM.2 hc
              refine zV_iconst (z := 0) O ⟨by omega, by omega⟩ dX2_readMove_110 ?_
              exact zV_zret O rfl (Or.inl rfl) ⟨_, rfl, (Or.inl rfl), hM⟩ (Nat.le_of_ble_eq_true rfl) (Nat.le_of_ble_eq_true rfl) dX2_readMove_111
          · replace hM := hM.2 hc
            refine zV_iconst (z := 0) O ⟨by omega, by omega⟩ dX2_readMove_93 ?_
            exact zV_zret O rfl (Or.inl rfl) ⟨_, rfl, (Or.inl rfl), hM⟩ (Nat.le_of_ble_eq_true rfl) (Nat.le_of_ble_eq_true rfl) dX2_readMove_94
        · replace hM := hM.2 hc
          refine zV_sub (ls2 := [some (aR 178), none, none]) ⟨rfl, trivial⟩ ?_
          exact sX2_readMove_b69 O hM
  · replace hM := hM.2 hc
    refine zV_aload_n O dX2_readMove_18 rfl rfl ?_
    refine zV_iconst (z := 1) O ⟨by omega, by omega⟩ dX2_readMove_19 ?_
    refine zV_callV (as := [aI 1]) (st := []) O zc_X2_fail (Or.inl zl_RX2_56) zi_572 zi_14 zt_178 rfl rfl (by decide) (Nat.le_of_ble_eq_true rfl) rfl rfl (Nat.le_of_ble_eq_true rfl) (Nat.le_of_ble_eq_true rfl) (Nat.le_of_ble_eq_true rfl) (Nat.le_of_ble_eq_true rfl) (Nat.le_of_ble_eq_true rfl) (Nat.le_of_ble_eq_true rfl) dX2_readMove_20 (sX2_fail hM) (fun r h36 hq => ?_) (fun x h9 hq => hq.elim)
    obtain ⟨z35, rfl, hzz35, hM⟩ := hq
    exact zV_zret O rfl hzz35 ⟨_, rfl, hzz35, hM⟩ (Nat.le_of_ble_eq_true rfl) (Nat.le_of_ble_eq_true rfl) dX2_readMove_23
def mX6_isWord_b28 (w1 : Nat) (h : Hp) (Q : Int → Prop) : Nat → Int → Prop
  | 0 => fun _ => False
  | fu28 + 1 => fun v2 => (((zslen w1) ≤ v2 → (Q 1)) ∧ (¬ (zslen w1) ≤ v2 → (zr ((h 176 5) + v2) ∧ (((0 : Int) ≤ ((h 176 5) + v2) ∧ ((h 176 5) + v2) < 900) ∧ (((0 : Int) ≤ v2 ∧ v2 < zslen w1) ∧ (((rd h 177 ((h 176 5) + v2)) = (zsch w1 v2) → (zr (v2 + 1) ∧ ((mX6_isWord_b28 w1 h Q fu28) (v2 + 1)))) ∧ (¬ (rd h 177 ((h 176 5) + v2)) = (zsch w1 v2) → (Q 0))))))))
set_option maxHeartbeats 4000000 in
set_option maxRecDepth 100000 in
theorem sX6_isWord_b28 {l0 : Launch} {a : ZC} {w1 : Nat} {h : Hp} {Q : Int → Prop}  (O : zOk l0 a cX6_isWord RX6 3 (some .boolean) 185 []) (hw1 : w1 < zSN)  : ∀ (ff : Nat) (v2 : Int) , mX6_isWord_b28 w1 h Q ff v2 → zV a (5, 0, 0, (qPZ h Q), xN) 0 0 28 [some (aR 176), some (aR (1000 + w1)), some (aI v2)] [] h := by
  intro ff
  induction ff with
  | zero => intro v2 hM; exact hM.elim
  | succ ff ih =>
    have hK28 := ih
    intro v2 hM
    unfold mX6_isWord_b28 at hM
    refine zV_iload_n O dX6_isWord_28 rfl rfl ?_
    refine zV_aload_n O dX6_isWord_29 rfl rfl ?_
    refine zV_slen O hw1 zl_RX6_50 (Nat.le_of_ble_eq_true rfl) (Nat.le_of_ble_eq_true rfl) (Nat.le_of_ble_eq_true rfl) (Nat.le_of_ble_eq_true rfl) ⟨(Nat.le_of_ble_eq_true rfl), (Nat.le_of_ble_eq_true rfl)⟩ dX6_isWord_30 ?_
    refine zV_icmp_ge (tgt := 63) O dX6_isWord_33 (by decide) (fun hc => ?_) (fun hc => ?_)
    · replace hM := hM.1 hc
      refine zV_iconst (z := 1) O ⟨by omega, by omega⟩ dX6_isWord_63 ?_
      exact zV_zret O rfl (Or.inr rfl) ⟨rfl, _, rfl, (Or.inr rfl), hM⟩ (Nat.le_of_ble_eq_true rfl) (Nat.le_of_ble_eq_true rfl) dX6_isWord_64
    · replace hM := hM.2 hc
      refine zV_aload_n O dX6_isWord_36 rfl rfl ?_
      refine zV_getR O zf_RX6_9 zt_176 rfl (by decide) dX6_isWord_37 ?_
      refine zV_aload_n O dX6_isWord_40 rfl rfl ?_
      refine zV_getI O zf_RX6_34 zt_176 rfl (by decide) dX6_isWord_41 ?_
      refine zV_iload_n O dX6_isWord_44 rfl rfl ?_
      obtain ⟨hc, hM⟩ := hM
      refine zV_iadd O dX6_isWord_45 hc ?_
      obtain ⟨hc, hM⟩ := hM
      refine zV_bald O zt_177 (by decide) hc dX6_isWord_46 ?_
      refine zV_aload_n O dX6_isWord_47 rfl rfl ?_
      refine zV_iload_n O dX6_isWord_48 rfl rfl ?_
      obtain ⟨hc, hM⟩ := hM
      refine zV_schar O hw1 hc zl_RX6_55 (Nat.le_of_ble_eq_true rfl) (Nat.le_of_ble_eq_true rfl) (Nat.le_of_ble_eq_true rfl) (Nat.le_of_ble_eq_true rfl) ⟨(Nat.le_of_ble_eq_true rfl), (Nat.le_of_ble_eq_true rfl)⟩ dX6_isWord_49 ?_
      refine zV_icmp_eq (tgt := 57) O dX6_isWord_52 (by decide) (fun hc => ?_) (fun hc => ?_)
      · replace hM := hM.1 hc
        obtain ⟨hc, hM⟩ := hM
        refine zV_iinc O dX6_isWord_57 rfl (Nat.le_of_ble_eq_true rfl) rfl hc ?_
        refine zV_goto (tgt := 28) O dX6_isWord_60 (by decide) ?_
        exact hK28 _ hM
      · replace hM := hM.2 hc
        refine zV_iconst (z := 0) O ⟨by omega, by omega⟩ dX6_isWord_55 ?_
        exact zV_zret O rfl (Or.inl rfl) ⟨rfl, _, rfl, (Or.inl rfl), hM⟩ (Nat.le_of_ble_eq_true rfl) (Nat.le_of_ble_eq_true rfl) dX6_isWord_56
def mX6_isWord (w1 : Nat) (h : Hp) (Q : Int → Prop) : Prop := ((¬ (h 176 4) = (1 : Int) → (Q 0)) ∧ ((h 176 4) = (1 : Int) → (zr ((h 176 3) - (h 176 5)) ∧ ((((h 176 3) - (h 176 5)) = (zslen w1) → (∃ ff, mX6_isWord_b28 w1 h Q ff 0)) ∧ (¬ ((h 176 3) - (h 176 5)) = (zslen w1) → (Q 0))))))
set_option maxHeartbeats 4000000 in
set_option maxRecDepth 100000 in
theorem sX6_isWord {l0 : Launch} {w1 : Nat} {h : Hp} {Q : Int → Prop} (hw1 : w1 < zSN) (hM : mX6_isWord w1 h Q) : zSp l0 yX6_isWord cX6_isWord 3 (some .boolean) 185 (5) 0 0 [aR 176, aR (1000 + w1)] h (qPZ h Q) xN := by
  unfold mX6_isWord at hM
  refine zSp_intro zpn_RX6 (Nat.le_of_ble_eq_true rfl) (fun a O => ?_)
  show zV a (5, 0, 0, (qPZ h Q), xN) 0 0 0 [some (aR 176), some (aR (1000 + w1)), none] [] h
  refine zV_aload_n O dX6_isWord_0 rfl rfl ?_
  refine zV_getI O zf_RX6_40 zt_176 rfl (by decide) dX6_isWord_1 ?_
  refine zV_iconst (z := 1) O ⟨by omega, by omega⟩ dX6_isWord_4 ?_
  refine zV_icmp_ne (tgt := 24) O dX6_isWord_5 (by decide) (fun hc => ?_) (fun hc => ?_)
  · replace hM := hM.1 hc
    refine zV_iconst (z := 0) O ⟨by omega, by omega⟩ dX6_isWord_24 ?_
    exact zV_zret O rfl (Or.inl rfl) ⟨rfl, _, rfl, (Or.inl rfl), hM⟩ (Nat.le_of_ble_eq_true rfl) (Nat.le_of_ble_eq_true rfl) dX6_isWord_25
  · replace hM := hM.2 hc
    refine zV_aload_n O dX6_isWord_8 rfl rfl ?_
    refine zV_getI O zf_RX6_28 zt_176 rfl (by decide) dX6_isWord_9 ?_
    refine zV_aload_n O dX6_isWord_12 rfl rfl ?_
    refine zV_getI O zf_RX6_34 zt_176 rfl (by decide) dX6_isWord_13 ?_
    obtain ⟨hc, hM⟩ := hM
    refine zV_isub O dX6_isWord_16 hc ?_
    refine zV_aload_n O dX6_isWord_17 rfl rfl ?_
    refine zV_slen O hw1 zl_RX6_50 (Nat.le_of_ble_eq_true rfl) (Nat.le_of_ble_eq_true rfl) (Nat.le_of_ble_eq_true rfl) (Nat.le_of_ble_eq_true rfl) ⟨(Nat.le_of_ble_eq_true rfl), (Nat.le_of_ble_eq_true rfl)⟩ dX6_isWord_18 ?_
    refine zV_icmp_eq (tgt := 26) O dX6_isWord_21 (by decide) (fun hc => ?_) (fun hc => ?_)
    · replace hM := hM.1 hc
      refine zV_iconst (z := 0) O ⟨by omega, by omega⟩ dX6_isWord_26 ?_
      refine zV_istore_n O dX6_isWord_27 rfl (Nat.le_of_ble_eq_true rfl) rfl ?_
      obtain ⟨ff, hM⟩ := hM
      exact sX6_isWord_b28 O hw1 ff _ hM
    · replace hM := hM.2 hc
      refine zV_iconst (z := 0) O ⟨by omega, by omega⟩ dX6_isWord_24 ?_
      exact zV_zret O rfl (Or.inl rfl) ⟨rfl, _, rfl, (Or.inl rfl), hM⟩ (Nat.le_of_ble_eq_true rfl) (Nat.le_of_ble_eq_true rfl) dX6_isWord_25
def mX2_readHost  (h : Hp) (Q : Int → Hp → Prop) : Prop := (((h 13 0) < (40 : Int) → (mX6_advance h (fun h27 => (((h27 176 4) = (1 : Int) → (mX6_letters h27 (fun z28 => ((z28 ≤ (8 : Int) → (mX6_asName h27 (fun z29 => (mX3_hostNamed 13 z29 h27 (fun z30 => ((z30 = ((-1) : Int) → (mX6_advance h27 (fun h31 => (mX2_takeNumber 0 1 h31 (fun z32 h33 => ((¬ z32 = 0 → (mX2_isNumber 1 250 h33 (fun z34 h35 => ((¬ z34 = 0 → (mX3_holderInOffice 13 (h33 178 3) (h35 176 6) h35 (fun z36 => ((z36 = ((-1) : Int) → (mX3_appendHost 13 z29 (h33 178 3) (h35 176 6) h35 (fun z37 h38 => (mX6_advance h38 (fun h39 => ((z37 = ((-1) : Int) → (Q 1 h39)) ∧ (¬ z37 = ((-1) : Int) → (mX6_isWord 5 h39 (fun z40 => ((z40 = 0 → (Q 1 h39)) ∧ (¬ z40 = 0 → (((0 : Int) ≤ z37 ∧ z37 < 40) ∧ (∀ h41 : Hp, h41 = wr h39 17 z37 1 → (mX6_advance h41 (fun h42 => (Q 1 h42)))))))))))))))) ∧ (¬ z36 = ((-1) : Int) → (mX2_fail 3 h35 (fun z43 h44 => (Q z43 h44)))))))) ∧ (z34 = 0 → (Q 0 h35)))))) ∧ (z32 = 0 → (Q 0 h33)))))))) ∧ (¬ z30 = ((-1) : Int) → (mX2_fail 3 h27 (fun z45 h46 => (Q z45 h46)))))))))) ∧ (¬ z28 ≤ (8 : Int) → (mX2_fail 2 h27 (fun z47 h48 => (Q z47 h48)))))))) ∧ (¬ (h27 176 4) = (1 : Int) → (mX2_fail 1 h27 (fun z49 h50 => (Q z49 h50)))))))) ∧ (¬ (h 13 0) < (40 : Int) → (mX2_fail 3 h (fun z51 h52 => (Q z51 h52)))))
set_option maxHeartbeats 4000000 in
set_option maxRecDepth 100000 in
theorem sX2_readHost {l0 : Launch}  {h : Hp} {Q : Int → Hp → Prop}  (hM : mX2_readHost  h Q) : zSp l0 yX2_readHost cX2_readHost 5 (some .boolean) 185 (6) 0 0 [aR 178] h (qZ Q) xN := by
  unfold mX2_readHost at hM
  refine zSp_intro zpn_RX2 (Nat.le_of_ble_eq_true rfl) (fun a O => ?_)
  show zV a (6, 0, 0, (qZ Q), xN) 0 0 0 [some (aR 178), none, none, none, none] [] h
  refine zV_aload_n O dX2_readHost_0 rfl rfl ?_
  refine zV_getR O zf_RX2_15 zt_178 rfl (by decide) dX2_readHost_1 ?_
  refine zV_getI O zf_RX2_102 (zN_o zisN_13) rfl (zN_lt0 zisN_13) dX2_readHost_4 ?_
  refine zV_bipush (z := 40) O ⟨by omega, by omega⟩ rfl dX2_readHost_7 ?_
  refine zV_icmp_lt (tgt := 18) O dX2_readHost_9 (by decide) (fun hc => ?_) (fun hc => ?_)
  · replace hM := hM.1 hc
    refine zV_aload_n O dX2_readHost_18 rfl rfl ?_
    refine zV_getR O zf_RX2_9 zt_178 rfl (by decide) dX2_readHost_19 ?_
    refine zV_callV (as := []) (st := []) O zc_X6_advance (Or.inr ⟨_, zl_RX2_78⟩) zi_542 zi_9 zt_176 rfl rfl (by decide) (Nat.le_of_ble_eq_true rfl) rfl rfl (Nat.le_of_ble_eq_true rfl) (Nat.le_of_ble_eq_true rfl) (Nat.le_of_ble_eq_true rfl) (Nat.le_of_ble_eq_true rfl) (Nat.le_of_ble_eq_true rfl) (Nat.le_of_ble_eq_true rfl) dX2_readHost_22 (sX6_advance hM) (fun r h27 hq => ?_) (fun x h9 hq => hq.elim)
    obtain ⟨rfl, hM⟩ := hq
    refine zV_aload_n O dX2_readHost_25 rfl rfl ?_
    refine zV_getR O zf_RX2_9 zt_178 rfl (by decide) dX2_readHost_26 ?_
    refine zV_getI O zf_RX2_32 zt_176 rfl (by decide) dX2_readHost_29 ?_
    refine zV_iconst (z := 1) O ⟨by omega, by omega⟩ dX2_readHost_32 ?_
    refine zV_icmp_eq (tgt := 42) O dX2_readHost_33 (by decide) (fun hc => ?_) (fun hc => ?_)
    · replace hM := hM.1 hc
      refine zV_aload_n O dX2_readHost_42 rfl rfl ?_
      refine zV_getR O zf_RX2_9 zt_178 rfl (by decide) dX2_readHost_43 ?_
      refine zV_callV (as := []) (st := []) O zc_X6_letters (Or.inr ⟨_, zl_RX2_105⟩) zi_613 zi_23 zt_176 rfl rfl (by decide) (Nat.le_of_ble_eq_true rfl) rfl rfl (Nat.le_of_ble_eq_true rfl) (Nat.le_of_ble_eq_true rfl) (Nat.le_of_ble_eq_true rfl) (Nat.le_of_ble_eq_true rfl) (Nat.le_of_ble_eq_true rfl) (Nat.le_of_ble_eq_true rfl) dX2_readHost_46 (sX6_letters hM) (fun r h9 hq => ?_) (fun x h9 hq => hq.elim)
      obtain ⟨rfl, z28, rfl, hM⟩ := hq
      refine zV_bipush (z := 8) O ⟨by omega, by omega⟩ rfl dX2_readHost_49 ?_
      refine zV_icmp_le (tgt := 60) O dX2_readHost_51 (by decide) (fun hc => ?_) (fun hc => ?_)
      · replace hM := hM.1 hc
        refine zV_aload_n O dX2_readHost_60 rfl rfl ?_
        refine zV_getR O zf_RX2_9 zt_178 rfl (by decide) dX2_readHost_61 ?_
        refine zV_callV (as := []) (st := []) O zc_X6_asName (Or.inr ⟨_, zl_RX2_109⟩) zi_617 zi_24 zt_176 rfl rfl (by decide) (Nat.le_of_ble_eq_true rfl) rfl rfl (Nat.le_of_ble_eq_true rfl) (Nat.le_of_ble_eq_true rfl) (Nat.le_of_ble_eq_true rfl) (Nat.le_of_ble_eq_true rfl) (Nat.le_of_ble_eq_true rfl) (Nat.le_of_ble_eq_true rfl) dX2_readHost_64 (sX6_asName hM) (fun r h9 hq => ?_) (fun x h9 hq => hq.elim)
        obtain ⟨rfl, z29, rfl, hM⟩ := hq
        refine zV_lstore_n O dX2_readHost_67 rfl (Nat.le_of_ble_eq_true rfl) rfl ?_
        refine zV_aload_n O dX2_readHost_68 rfl rfl ?_
        refine zV_getR O zf_RX2_15 zt_178 rfl (by decide) dX2_readHost_69 ?_
        refine zV_lload_n O dX2_readHost_72 rfl rfl ?_
        refine zV_callV (as := [aL z29]) (st := []) O zc_X3_hostNamed (Or.inr ⟨_, zl_RX2_113⟩) zi_622 zi_25 (zN_o zisN_13) rfl rfl (zN_lt0 zisN_13) (Nat.le_of_ble_eq_true rfl) rfl rfl (Nat.le_of_ble_eq_true rfl) (Nat.le_of_ble_eq_true rfl) (Nat.le_of_ble_eq_true rfl) (Nat.le_of_ble_eq_true rfl) (Nat.le_of_ble_eq_true rfl) (Nat.le_of_ble_eq_true rfl) dX2_readHost_73 (sX3_hostNamed zisN_13 hM) (fun r h9 hq => ?_) (fun x h9 hq => hq.elim)
        obtain ⟨rfl, z30, rfl, hM⟩ := hq
        refine zV_iconst (z := -1) O ⟨by omega, by omega⟩ dX2_readHost_76 ?_
        refine zV_icmp_eq (tgt := 86) O dX2_readHost_77 (by decide) (fun hc => ?_) (fun hc => ?_)
        · replace hM := hM.1 hc
          refine zV_aload_n O dX2_readHost_86 rfl rfl ?_
          refine zV_getR O zf_RX2_9 zt_178 rfl (by decide) dX2_readHost_87 ?_
          refine zV_callV (as := []) (st := []) O zc_X6_advance (Or.inr ⟨_, zl_RX2_78⟩) zi_542 zi_9 zt_176 rfl rfl (by decide) (Nat.le_of_ble_eq_true rfl) rfl rfl (Nat.le_of_ble_eq_true rfl) (Nat.le_of_ble_eq_true rfl) (Nat.le_of_ble_eq_true rfl) (Nat.le_of_ble_eq_true rfl) (Nat.le_of_ble_eq_true rfl) (Nat.le_of_ble_eq_true rfl) dX2_readHost_90 (sX6_advance hM) (fun r h31 hq => ?_) (fun x h9 hq => hq.elim)
          obtain ⟨rfl, hM⟩ := hq
          refine zV_aload_n O dX2_readHost_93 rfl rfl ?_
          refine zV_iconst (z := 0) O ⟨by omega, by omega⟩ dX2_readHost_94 ?_
          refine zV_iconst (z := 1) O ⟨by omega, by omega⟩ dX2_readHost_95 ?_
          refine zV_callV (as := [aI 0, aI 1]) (st := []) O zc_X2_takeNumber (Or.inl zl_RX2_81) zi_582 zi_16 zt_178 rfl rfl (by decide) (Nat.le_of_ble_eq_true rfl) rfl rfl (Nat.le_of_ble_eq_true rfl) (Nat.le_of_ble_eq_true rfl) (Nat.le_of_ble_eq_true rfl) (Nat.le_of_ble_eq_true rfl) (Nat.le_of_ble_eq_true rfl) (Nat.le_of_ble_eq_true rfl) dX2_readHost_96 (sX2_takeNumber hM) (fun r h33 hq => ?_) (fun x h9 hq => hq.elim)
          obtain ⟨z32, rfl, hzz32, hM⟩ := hq
          refine zV_if_ne (tgt := 104) O dX2_readHost_99 (by decide) (fun hc => ?_) (fun hc => ?_)
          · replace hM := hM.1 hc
            refine zV_aload_n O dX2_readHost_104 rfl rfl ?_
            refine zV_getI O zf_RX2_85 zt_178 rfl (by decide) dX2_readHost_105 ?_
            refine zV_istore_n O dX2_readHost_108 rfl (Nat.le_of_ble_eq_true rfl) rfl ?_
            refine zV_aload_n O dX2_readHost_109 rfl rfl ?_
            refine zV_iconst (z := 1) O ⟨by omega, by omega⟩ dX2_readHost_110 ?_
            refine zV_sipush (z := 250) O ⟨by omega, by omega⟩ rfl dX2_readHost_111 ?_
            refine zV_callV (as := [aI 1, aI 250]) (st := []) O zc_X2_isNumber (Or.inl zl_RX2_117) zi_586 zi_17 zt_178 rfl rfl (by decide) (Nat.le_of_ble_eq_true rfl) rfl rfl (Nat.le_of_ble_eq_true rfl) (Nat.le_of_ble_eq_true rfl) (Nat.le_of_ble_eq_true rfl) (Nat.le_of_ble_eq_true rfl) (Nat.le_of_ble_eq_true rfl) (Nat.le_of_ble_eq_true rfl) dX2_readHost_114 (sX2_isNumber hM) (fun r h35 hq => ?_) (fun x h9 hq => hq.elim)
            obtain ⟨z34, rfl, hzz34, hM⟩ := hq
            refine zV_if_ne (tgt := 122) O dX2_readHost_117 (by decide) (fun hc => ?_) (fun hc => ?_)
            · replace hM := hM.1 hc
              refine zV_aload_n O dX2_readHost_122 rfl rfl ?_
              refine zV_getR O zf_RX2_15 zt_178 rfl (by decide) dX2_readHost_123 ?_
              refine zV_iload_n O dX2_readHost_126 rfl rfl ?_
              refine zV_aload_n O dX2_readHost_127 rfl rfl ?_
              refine zV_getR O zf_RX2_9 zt_178 rfl (by decide) dX2_readHost_128 ?_
              refine zV_getI O zf_RX2_120 zt_176 rfl (by decide) dX2_readHost_131 ?_
              refine zV_callV (as := [aI (h33 178 3), aI (h35 176 6)]) (st := []) O zc_X3_holderInOffice (Or.inr ⟨_, zl_RX2_123⟩) zi_626 zi_26 (zN_o zisN_13) rfl rfl (zN_lt0 zisN_13) (Nat.le_of_ble_eq_true rfl) rfl rfl (Nat.le_of_ble_eq_true rfl) (Nat.le_of_ble_eq_true rfl) (Nat.le_of_ble_eq_true rfl) (Nat.le_of_ble_eq_true rfl) (Nat.le_of_ble_eq_true rfl) (Nat.le_of_ble_eq_true rfl) dX2_readHost_134 (sX3_holderInOffice zisN_13 hM) (fun r h9 hq => ?_) (fun x h9 hq => hq.elim)
              obtain ⟨rfl, z36, rfl, hM⟩ := hq
              refine zV_iconst (z := -1) O ⟨by omega, by omega⟩ dX2_readHost_137 ?_
              refine zV_icmp_eq (tgt := 147) O dX2_readHost_138 (by decide) (fun hc => ?_) (fun hc => ?_)
              · replace hM := hM.1 hc
                refine zV_aload_n O dX2_readHost_147 rfl rfl ?_
                refine zV_getR O zf_RX2_15 zt_178 rfl (by decide) dX2_readHost_148 ?_
                refine zV_lload_n O dX2_readHost_151 rfl rfl ?_
                refine zV_iload_n O dX2_readHost_152 rfl rfl ?_
                refine zV_aload_n O dX2_readHost_153 rfl rfl ?_
                refine zV_getR O zf_RX2_9 zt_178 rfl (by decide) dX2_readHost_154 ?_
                refine zV_getI O zf_RX2_120 zt_176 rfl (by decide) dX2_readHost_157 ?_
                refine zV_callV (as := [aL z29, aI (h33 178 3), aI (h35 176 6)]) (st := []) O zc_X3_appendHost (Or.inr ⟨_, zl_RX2_127⟩) zi_642 zi_30 (zN_o zisN_13) rfl rfl (zN_lt0 zisN_13) (Nat.le_of_ble_eq_true rfl) rfl rfl (Nat.le_of_ble_eq_true rfl) (Nat.le_of_ble_eq_true rfl) (Nat.le_of_ble_eq_true rfl) (Nat.le_of_ble_eq_true rfl) (Nat.le_of_ble_eq_true rfl) (Nat.le_of_ble_eq_true rfl) dX2_readHost_160 (sX3_appendHost zisN_13 hM) (fun r h38 hq => ?_) (fun x h9 hq => hq.elim)
                obtain ⟨z37, rfl, hM⟩ := hq
                refine zV_istore O dX2_readHost_163 (Nat.le_of_ble_eq_true rfl) rfl ?_
                refine zV_aload_n O dX2_readHost_165 rfl rfl ?_
                refine zV_getR O zf_RX2_9 zt_178 rfl (by decide) dX2_readHost_166 ?_
                refine zV_callV (as := []) (st := []) O zc_X6_advance (Or.inr ⟨_, zl_RX2_78⟩) zi_542 zi_9 zt_176 rfl rfl (by decide) (Nat.le_of_ble_eq_true rfl) rfl rfl (Nat.le_of_ble_eq_true rfl) (Nat.le_of_ble_eq_true rfl) (Nat.le_of_ble_eq_true rfl) (Nat.le_of_ble_eq_true rfl) (Nat.le_of_ble_eq_true rfl) (Nat.le_of_ble_eq_true rfl) dX2_readHost_169 (sX6_advance hM) (fun r h39 hq => ?_) (fun x h9 hq => hq.elim)
                obtain ⟨rfl, hM⟩ := hq
                refine zV_iload O dX2_readHost_172 rfl ?_
                refine zV_iconst (z := -1) O ⟨by omega, by omega⟩ dX2_readHost_174 ?_
                refine zV_icmp_eq (tgt := 208) O dX2_readHost_175 (by decide) (fun hc => ?_) (fun hc => ?_)
                · replace hM := hM.1 hc
                  refine zV_iconst (z := 1) O ⟨by omega, by omega⟩ dX2_readHost_208 ?_
                  exact zV_zret O rfl (Or.inr rfl) ⟨_, rfl, (Or.inr rfl), hM⟩ (Nat.le_of_ble_eq_true rfl) (Nat.le_of_ble_eq_true rfl) dX2_readHost_209
                · replace hM := hM.2 hc
                  refine zV_aload_n O dX2_readHost_178 rfl rfl ?_
                  refine zV_getR O zf_RX2_9 zt_178 rfl (by decide) dX2_readHost_179 ?_
                  refine zV_ldcS (w := 5) O ⟨by decide, rfl, rfl⟩ dX2_readHost_182 ?_
                  refine zV_callV (as := [aR (1000 + 5)]) (st := []) O zc_X6_isWord (Or.inr ⟨_, zl_RX2_39⟩) zi_566 zi_13 zt_176 rfl rfl (by decide) (Nat.le_of_ble_eq_true rfl) rfl rfl (Nat.le_of_ble_eq_true rfl) (Nat.le_of_ble_eq_true rfl) (Nat.le_of_ble_eq_true rfl) (Nat.le_of_ble_eq_true rfl) (Nat.le_of_ble_eq_true rfl) (Nat.le_of_ble_eq_true rfl) dX2_readHost_184 (sX6_isWord (by decide : 5 < zSN) hM) (fun r h9 hq => ?_) (fun x h9 hq => hq.elim)
                  obtain ⟨rfl, z40, rfl, hzz40, hM⟩ := hq
                  refine zV_if_eq (tgt := 208) O dX2_readHost_187 (by decide) (fun hc => ?_) (fun hc => ?_)
                  · replace hM := hM.1 hc
                    refine zV_iconst (z := 1) O ⟨by omega, by omega⟩ dX2_readHost_208 ?_
                    exact zV_zret O rfl (Or.inr rfl) ⟨_, rfl, (Or.inr rfl), hM⟩ (Nat.le_of_ble_eq_true rfl) (Nat.le_of_ble_eq_true rfl) dX2_readHost_209
                  · replace hM := hM.2 hc
                    refine zV_aload_n O dX2_readHost_190 rfl rfl ?_
                    refine zV_getR O zf_RX2_15 zt_178 rfl (by decide) dX2_readHost_191 ?_
                    refine zV_getR O zf_RX2_133 (zN_o zisN_13) rfl (zN_lt0 zisN_13) dX2_readHost_194 ?_
                    refine zV_iload O dX2_readHost_197 rfl ?_
                    refine zV_iconst (z := 1) O ⟨by omega, by omega⟩ dX2_readHost_199 ?_
                    obtain ⟨hc, hM⟩ := hM
                    refine zV_iast O zt_17 (by decide) hc dX2_readHost_200 ?_
                    have hM := hM (hu h39 17 (Int.toNat z37) 1) rfl
                    generalize hu h39 17 (Int.toNat z37) 1 = h41 at hM ⊢
                    refine zV_aload_n O dX2_readHost_201 rfl rfl ?_
                    refine zV_getR O zf_RX2_9 zt_178 rfl (by decide) dX2_readHost_202 ?_
                    refine zV_callV (as := []) (st := []) O zc_X6_advance (Or.inr ⟨_, zl_RX2_78⟩) zi_542 zi_9 zt_176 rfl rfl (by decide) (Nat.le_of_ble_eq_true rfl) rfl rfl (Nat.le_of_ble_eq_true rfl) (Nat.le_of_ble_eq_true rfl) (Nat.le_of_ble_eq_true rfl) (Nat.le_of_ble_eq_true rfl) (Nat.le_of_ble_eq_true rfl) (Nat.le_of_ble_eq_true rfl) dX2_readHost_205 (sX6_advance hM) (fun r h42 hq => ?_) (fun x h9 hq => hq.elim)
                    obtain ⟨rfl, hM⟩ := hq
                    refine zV_iconst (z := 1) O ⟨by omega, by omega⟩ dX2_readHost_208 ?_
                    exact zV_zret O rfl (Or.inr rfl) ⟨_, rfl, (Or.inr rfl), hM⟩ (Nat.le_of_ble_eq_true rfl) (Nat.le_of_ble_eq_true rfl) dX2_readHost_209
              · replace hM := hM.2 hc
                refine zV_aload_n O dX2_readHost_141 rfl rfl ?_
                refine zV_iconst (z := 3) O ⟨by omega, by omega⟩ dX2_readHost_142 ?_
                refine zV_callV (as := [aI 3]) (st := []) O zc_X2_fail (Or.inl zl_RX2_56) zi_572 zi_14 zt_178 rfl rfl (by decide) (Nat.le_of_ble_eq_true rfl) rfl rfl (Nat.le_of_ble_eq_true rfl) (Nat.le_of_ble_eq_true rfl) (Nat.le_of_ble_eq_true rfl) (Nat.le_of_ble_eq_true rfl) (Nat.le_of_ble_eq_true rfl) (Nat.le_of_ble_eq_true rfl) dX2_readHost_143 (sX2_fail hM) (fun r h44 hq => ?_) (fun x h9 hq => hq.elim)
                obtain ⟨z43, rfl, hzz43, hM⟩ := hq
                exact zV_zret O rfl hzz43 ⟨_, rfl, hzz43, hM⟩ (Nat.le_of_ble_eq_true rfl) (Nat.le_of_ble_eq_true rfl) dX2_readHost_146
            · replace hM := hM.2 hc
              refine zV_iconst (z := 0) O ⟨by omega, by omega⟩ dX2_readHost_120 ?_
              exact zV_zret O rfl (Or.inl rfl) ⟨_, rfl, (Or.inl rfl), hM⟩ (Nat.le_of_ble_eq_true rfl) (Nat.le_of_ble_eq_true rfl) dX2_readHost_121
          · replace hM := hM.2 hc
            refine zV_iconst (z := 0) O ⟨by omega, by omega⟩ dX2_readHost_102 ?_
            exact zV_zret O rfl (Or.inl rfl) ⟨_, rfl, (Or.inl rfl), hM⟩ (Nat.le_of_ble_eq_true rfl) (Nat.le_of_ble_eq_true rfl) dX2_readHost_103
        · replace hM := hM.2 hc
          refine zV_aload_n O dX2_readHost_80 rfl rfl ?_
          refine zV_iconst (z := 3) O ⟨by omega, by omega⟩ dX2_readHost_81 ?_
          refine zV_callV (as := [aI 3]) (st := []) O zc_X2_fail (Or.inl zl_RX2_56) zi_572 zi_14 zt_178 rfl rfl (by decide) (Nat.le_of_ble_eq_true rfl) rfl rfl (Nat.le_of_ble_eq_true rfl) (Nat.le_of_ble_eq_true rfl) (Nat.le_of_ble_eq_true rfl) (Nat.le_of_ble_eq_true rfl) (Nat.le_of_ble_eq_true rfl) (Nat.le_of_ble_eq_true rfl) dX2_readHost_82 (sX2_fail hM) (fun r h46 hq => ?_) (fun x h9 hq => hq.elim)
          obtain ⟨z45, rfl, hzz45, hM⟩ := hq
          exact zV_zret O rfl hzz45 ⟨_, rfl, hzz45, hM⟩ (Nat.le_of_ble_eq_true rfl) (Nat.le_of_ble_eq_true rfl) dX2_readHost_85
      · replace hM := hM.2 hc
        refine zV_aload_n O dX2_readHost_54 rfl rfl ?_
        refine zV_iconst (z := 2) O ⟨by omega, by omega⟩ dX2_readHost_55 ?_
        refine zV_callV (as := [aI 2]) (st := []) O zc_X2_fail (Or.inl zl_RX2_56) zi_572 zi_14 zt_178 rfl rfl (by decide) (Nat.le_of_ble_eq_true rfl) rfl rfl (Nat.le_of_ble_eq_true rfl) (Nat.le_of_ble_eq_true rfl) (Nat.le_of_ble_eq_true rfl) (Nat.le_of_ble_eq_true rfl) (Nat.le_of_ble_eq_true rfl) (Nat.le_of_ble_eq_true rfl) dX2_readHost_56 (sX2_fail hM) (fun r h48 hq => ?_) (fun x h9 hq => hq.elim)
        obtain ⟨z47, rfl, hzz47, hM⟩ := hq
        exact zV_zret O rfl hzz47 ⟨_, rfl, hzz47, hM⟩ (Nat.le_of_ble_eq_true rfl) (Nat.le_of_ble_eq_true rfl) dX2_readHost_59
    · replace hM := hM.2 hc
      refine zV_aload_n O dX2_readHost_36 rfl rfl ?_
      refine zV_iconst (z := 1) O ⟨by omega, by omega⟩ dX2_readHost_37 ?_
      refine zV_callV (as := [aI 1]) (st := []) O zc_X2_fail (Or.inl zl_RX2_56) zi_572 zi_14 zt_178 rfl rfl (by decide) (Nat.le_of_ble_eq_true rfl) rfl rfl (Nat.le_of_ble_eq_true rfl) (Nat.le_of_ble_eq_true rfl) (Nat.le_of_ble_eq_true rfl) (Nat.le_of_ble_eq_true rfl) (Nat.le_of_ble_eq_true rfl) (Nat.le_of_ble_eq_true rfl) dX2_readHost_38 (sX2_fail hM) (fun r h50 hq => ?_) (fun x h9 hq => hq.elim)
      obtain ⟨z49, rfl, hzz49, hM⟩ := hq
      exact zV_zret O rfl hzz49 ⟨_, rfl, hzz49, hM⟩ (Nat.le_of_ble_eq_true rfl) (Nat.le_of_ble_eq_true rfl) dX2_readHost_41
  · replace hM := hM.2 hc
    refine zV_aload_n O dX2_readHost_12 rfl rfl ?_
    refine zV_iconst (z := 3) O ⟨by omega, by omega⟩ dX2_readHost_13 ?_
    refine zV_callV (as := [aI 3]) (st := []) O zc_X2_fail (Or.inl zl_RX2_56) zi_572 zi_14 zt_178 rfl rfl (by decide) (Nat.le_of_ble_eq_true rfl) rfl rfl (Nat.le_of_ble_eq_true rfl) (Nat.le_of_ble_eq_true rfl) (Nat.le_of_ble_eq_true rfl) (Nat.le_of_ble_eq_true rfl) (Nat.le_of_ble_eq_true rfl) (Nat.le_of_ble_eq_true rfl) dX2_readHost_14 (sX2_fail hM) (fun r h52 hq => ?_) (fun x h9 hq => hq.elim)
    obtain ⟨z51, rfl, hzz51, hM⟩ := hq
    exact zV_zret O rfl hzz51 ⟨_, rfl, hzz51, hM⟩ (Nat.le_of_ble_eq_true rfl) (Nat.le_of_ble_eq_true rfl) dX2_readHost_17
def mX2_readKeep  (h : Hp) (Q : Int → Hp → Prop) : Prop := (mX6_isWord 1 h (fun z6 => ((¬ z6 = 0 → (mX6_advance h (fun h7 => (mX2_takeNumber 0 3 h7 (fun z8 h9 => ((¬ z8 = 0 → (∀ h10 : Hp, h10 = hu h9 13 3 (h9 178 3) → (Q 1 h10))) ∧ (z8 = 0 → (Q 0 h9)))))))) ∧ (z6 = 0 → (Q 1 h)))))
set_option maxHeartbeats 4000000 in
set_option maxRecDepth 100000 in
theorem sX2_readKeep {l0 : Launch}  {h : Hp} {Q : Int → Hp → Prop}  (hM : mX2_readKeep  h Q) : zSp l0 yX2_readKeep cX2_readKeep 1 (some .boolean) 185 (6) 0 0 [aR 178] h (qZ Q) xN := by
  unfold mX2_readKeep at hM
  refine zSp_intro zpn_RX2 (Nat.le_of_ble_eq_true rfl) (fun a O => ?_)
  show zV a (6, 0, 0, (qZ Q), xN) 0 0 0 [some (aR 178)] [] h
  refine zV_aload_n O dX2_readKeep_0 rfl rfl ?_
  refine zV_getR O zf_RX2_9 zt_178 rfl (by decide) dX2_readKeep_1 ?_
  refine zV_ldcS (w := 1) O ⟨by decide, rfl, rfl⟩ dX2_readKeep_4 ?_
  refine zV_callV (as := [aR (1000 + 1)]) (st := []) O zc_X6_isWord (Or.inr ⟨_, zl_RX2_39⟩) zi_566 zi_13 zt_176 rfl rfl (by decide) (Nat.le_of_ble_eq_true rfl) rfl rfl (Nat.le_of_ble_eq_true rfl) (Nat.le_of_ble_eq_true rfl) (Nat.le_of_ble_eq_true rfl) (Nat.le_of_ble_eq_true rfl) (Nat.le_of_ble_eq_true rfl) (Nat.le_of_ble_eq_true rfl) dX2_readKeep_6 (sX6_isWord (by decide : 1 < zSN) hM) (fun r h9 hq => ?_) (fun x h9 hq => hq.elim)
  obtain ⟨rfl, z6, rfl, hzz6, hM⟩ := hq
  refine zV_if_ne (tgt := 14) O dX2_readKeep_9 (by decide) (fun hc => ?_) (fun hc => ?_)
  · replace hM := hM.1 hc
    refine zV_aload_n O dX2_readKeep_14 rfl rfl ?_
    refine zV_getR O zf_RX2_9 zt_178 rfl (by decide) dX2_readKeep_15 ?_
    refine zV_callV (as := []) (st := []) O zc_X6_advance (Or.inr ⟨_, zl_RX2_78⟩) zi_542 zi_9 zt_176 rfl rfl (by decide) (Nat.le_of_ble_eq_true rfl) rfl rfl (Nat.le_of_ble_eq_true rfl) (Nat.le_of_ble_eq_true rfl) (Nat.le_of_ble_eq_true rfl) (Nat.le_of_ble_eq_true rfl) (Nat.le_of_ble_eq_true rfl) (Nat.le_of_ble_eq_true rfl) dX2_readKeep_18 (sX6_advance hM) (fun r h7 hq => ?_) (fun x h9 hq => hq.elim)
    obtain ⟨rfl, hM⟩ := hq
    refine zV_aload_n O dX2_readKeep_21 rfl rfl ?_
    refine zV_iconst (z := 0) O ⟨by omega, by omega⟩ dX2_readKeep_22 ?_
    refine zV_iconst (z := 3) O ⟨by omega, by omega⟩ dX2_readKeep_23 ?_
    refine zV_callV (as := [aI 0, aI 3]) (st := []) O zc_X2_takeNumber (Or.inl zl_RX2_81) zi_582 zi_16 zt_178 rfl rfl (by decide) (Nat.le_of_ble_eq_true rfl) rfl rfl (Nat.le_of_ble_eq_true rfl) (Nat.le_of_ble_eq_true rfl) (Nat.le_of_ble_eq_true rfl) (Nat.le_of_ble_eq_true rfl) (Nat.le_of_ble_eq_true rfl) (Nat.le_of_ble_eq_true rfl) dX2_readKeep_24 (sX2_takeNumber hM) (fun r h9 hq => ?_) (fun x h9 hq => hq.elim)
    obtain ⟨z8, rfl, hzz8, hM⟩ := hq
    refine zV_if_ne (tgt := 32) O dX2_readKeep_27 (by decide) (fun hc => ?_) (fun hc => ?_)
    · replace hM := hM.1 hc
      refine zV_aload_n O dX2_readKeep_32 rfl rfl ?_
      refine zV_getR O zf_RX2_15 zt_178 rfl (by decide) dX2_readKeep_33 ?_
      refine zV_aload_n O dX2_readKeep_36 rfl rfl ?_
      refine zV_getI O zf_RX2_85 zt_178 rfl (by decide) dX2_readKeep_37 ?_
      refine zV_putI O zf_RX2_88 (zN_o zisN_13) rfl (zN_lt0 zisN_13) dX2_readKeep_40 ?_
      have hM := hM _ rfl
      generalize hu h9 13 3 (h9 178 3) = h10 at hM ⊢
      refine zV_iconst (z := 1) O ⟨by omega, by omega⟩ dX2_readKeep_43 ?_
      exact zV_zret O rfl (Or.inr rfl) ⟨_, rfl, (Or.inr rfl), hM⟩ (Nat.le_of_ble_eq_true rfl) (Nat.le_of_ble_eq_true rfl) dX2_readKeep_44
    · replace hM := hM.2 hc
      refine zV_iconst (z := 0) O ⟨by omega, by omega⟩ dX2_readKeep_30 ?_
      exact zV_zret O rfl (Or.inl rfl) ⟨_, rfl, (Or.inl rfl), hM⟩ (Nat.le_of_ble_eq_true rfl) (Nat.le_of_ble_eq_true rfl) dX2_readKeep_31
  · replace hM := hM.2 hc
    refine zV_iconst (z := 1) O ⟨by omega, by omega⟩ dX2_readKeep_12 ?_
    exact zV_zret O rfl (Or.inr rfl) ⟨_, rfl, (Or.inr rfl), hM⟩ (Nat.le_of_ble_eq_true rfl) (Nat.le_of_ble_eq_true rfl) dX2_readKeep_13
def mX2_readPer  (h : Hp) (Q : Int → Hp → Prop) : Prop := (mX6_isWord 2 h (fun z6 => ((¬ z6 = 0 → (mX6_advance h (fun h7 => (mX2_takeNumber 1 9 h7 (fun z8 h9 => ((¬ z8 = 0 → (∀ h10 : Hp, h10 = hu h9 13 4 (h9 178 3) → (Q 1 h10))) ∧ (z8 = 0 → (Q 0 h9)))))))) ∧ (z6 = 0 → (Q 1 h)))))
set_option maxHeartbeats 4000000 in
set_option maxRecDepth 100000 in
theorem sX2_readPer {l0 : Launch}  {h : Hp} {Q : Int → Hp → Prop}  (hM : mX2_readPer  h Q) : zSp l0 yX2_readPer cX2_readPer 1 (some .boolean) 185 (6) 0 0 [aR 178] h (qZ Q) xN := by
  unfold mX2_readPer at hM
  refine zSp_intro zpn_RX2 (Nat.le_of_ble_eq_true rfl) (fun a O => ?_)
  show zV a (6, 0, 0, (qZ Q), xN) 0 0 0 [some (aR 178)] [] h
  refine zV_aload_n O dX2_readPer_0 rfl rfl ?_
  refine zV_getR O zf_RX2_9 zt_178 rfl (by decide) dX2_readPer_1 ?_
  refine zV_ldcS (w := 2) O ⟨by decide, rfl, rfl⟩ dX2_readPer_4 ?_
  refine zV_callV (as := [aR (1000 + 2)]) (st := []) O zc_X6_isWord (Or.inr ⟨_, zl_RX2_39⟩) zi_566 zi_13 zt_176 rfl rfl (by decide) (Nat.le_of_ble_eq_true rfl) rfl rfl (Nat.le_of_ble_eq_true rfl) (Nat.le_of_ble_eq_true rfl) (Nat.le_of_ble_eq_true rfl) (Nat.le_of_ble_eq_true rfl) (Nat.le_of_ble_eq_true rfl) (Nat.le_of_ble_eq_true rfl) dX2_readPer_6 (sX6_isWord (by decide : 2 < zSN) hM) (fun r h9 hq => ?_) (fun x h9 hq => hq.elim)
  obtain ⟨rfl, z6, rfl, hzz6, hM⟩ := hq
  refine zV_if_ne (tgt := 14) O dX2_readPer_9 (by decide) (fun hc => ?_) (fun hc => ?_)
  · replace hM := hM.1 hc
    refine zV_aload_n O dX2_readPer_14 rfl rfl ?_
    refine zV_getR O zf_RX2_9 zt_178 rfl (by decide) dX2_readPer_15 ?_
    refine zV_callV (as := []) (st := []) O zc_X6_advance (Or.inr ⟨_, zl_RX2_78⟩) zi_542 zi_9 zt_176 rfl rfl (by decide) (Nat.le_of_ble_eq_true rfl) rfl rfl (Nat.le_of_ble_eq_true rfl) (Nat.le_of_ble_eq_true rfl) (Nat.le_of_ble_eq_true rfl) (Nat.le_of_ble_eq_true rfl) (Nat.le_of_ble_eq_true rfl) (Nat.le_of_ble_eq_true rfl) dX2_readPer_18 (sX6_advance hM) (fun r h7 hq => ?_) (fun x h9 hq => hq.elim)
    obtain ⟨rfl, hM⟩ := hq
    refine zV_aload_n O dX2_readPer_21 rfl rfl ?_
    refine zV_iconst (z := 1) O ⟨by omega, by omega⟩ dX2_readPer_22 ?_
    refine zV_bipush (z := 9) O ⟨by omega, by omega⟩ rfl dX2_readPer_23 ?_
    refine zV_callV (as := [aI 1, aI 9]) (st := []) O zc_X2_takeNumber (Or.inl zl_RX2_81) zi_582 zi_16 zt_178 rfl rfl (by decide) (Nat.le_of_ble_eq_true rfl) rfl rfl (Nat.le_of_ble_eq_true rfl) (Nat.le_of_ble_eq_true rfl) (Nat.le_of_ble_eq_true rfl) (Nat.le_of_ble_eq_true rfl) (Nat.le_of_ble_eq_true rfl) (Nat.le_of_ble_eq_true rfl) dX2_readPer_25 (sX2_takeNumber hM) (fun r h9 hq => ?_) (fun x h9 hq => hq.elim)
    obtain ⟨z8, rfl, hzz8, hM⟩ := hq
    refine zV_if_ne (tgt := 33) O dX2_readPer_28 (by decide) (fun hc => ?_) (fun hc => ?_)
    · replace hM := hM.1 hc
      refine zV_aload_n O dX2_readPer_33 rfl rfl ?_
      refine zV_getR O zf_RX2_15 zt_178 rfl (by decide) dX2_readPer_34 ?_
      refine zV_aload_n O dX2_readPer_37 rfl rfl ?_
      refine zV_getI O zf_RX2_85 zt_178 rfl (by decide) dX2_readPer_38 ?_
      refine zV_putI O zf_RX2_92 (zN_o zisN_13) rfl (zN_lt0 zisN_13) dX2_readPer_41 ?_
      have hM := hM _ rfl
      generalize hu h9 13 4 (h9 178 3) = h10 at hM ⊢
      refine zV_iconst (z := 1) O ⟨by omega, by omega⟩ dX2_readPer_44 ?_
      exact zV_zret O rfl (Or.inr rfl) ⟨_, rfl, (Or.inr rfl), hM⟩ (Nat.le_of_ble_eq_true rfl) (Nat.le_of_ble_eq_true rfl) dX2_readPer_45
    · replace hM := hM.2 hc
      refine zV_iconst (z := 0) O ⟨by omega, by omega⟩ dX2_readPer_31 ?_
      exact zV_zret O rfl (Or.inl rfl) ⟨_, rfl, (Or.inl rfl), hM⟩ (Nat.le_of_ble_eq_true rfl) (Nat.le_of_ble_eq_true rfl) dX2_readPer_32
  · replace hM := hM.2 hc
    refine zV_iconst (z := 1) O ⟨by omega, by omega⟩ dX2_readPer_12 ?_
    exact zV_zret O rfl (Or.inr rfl) ⟨_, rfl, (Or.inr rfl), hM⟩ (Nat.le_of_ble_eq_true rfl) (Nat.le_of_ble_eq_true rfl) dX2_readPer_13
def mX2_readPool  (h : Hp) (Q : Int → Hp → Prop) : Prop := (mX6_isWord 3 h (fun z9 => ((¬ z9 = 0 → (mX6_advance h (fun h10 => (mX2_takeNumber 1 250 h10 (fun z11 h12 => ((¬ z11 = 0 → (∀ h13 : Hp, h13 = hu h12 13 5 (h12 178 3) → (mX2_takeNumber (h13 13 5) 250 h13 (fun z14 h15 => ((¬ z14 = 0 → (∀ h16 : Hp, h16 = hu h15 13 6 (h15 178 3) → (Q 1 h16))) ∧ (z14 = 0 → (Q 0 h15))))))) ∧ (z11 = 0 → (Q 0 h12)))))))) ∧ (z9 = 0 → (Q 1 h)))))
set_option maxHeartbeats 4000000 in
set_option maxRecDepth 100000 in
theorem sX2_readPool {l0 : Launch}  {h : Hp} {Q : Int → Hp → Prop}  (hM : mX2_readPool  h Q) : zSp l0 yX2_readPool cX2_readPool 1 (some .boolean) 185 (6) 0 0 [aR 178] h (qZ Q) xN := by
  unfold mX2_readPool at hM
  refine zSp_intro zpn_RX2 (Nat.le_of_ble_eq_true rfl) (fun a O => ?_)
  show zV a (6, 0, 0, (qZ Q), xN) 0 0 0 [some (aR 178)] [] h
  refine zV_aload_n O dX2_readPool_0 rfl rfl ?_
  refine zV_getR O zf_RX2_9 zt_178 rfl (by decide) dX2_readPool_1 ?_
  refine zV_ldcS (w := 3) O ⟨by decide, rfl, rfl⟩ dX2_readPool_4 ?_
  refine zV_callV (as := [aR (1000 + 3)]) (st := []) O zc_X6_isWord (Or.inr ⟨_, zl_RX2_39⟩) zi_566 zi_13 zt_176 rfl rfl (by decide) (Nat.le_of_ble_eq_true rfl) rfl rfl (Nat.le_of_ble_eq_true rfl) (Nat.le_of_ble_eq_true rfl) (Nat.le_of_ble_eq_true rfl) (Nat.le_of_ble_eq_true rfl) (Nat.le_of_ble_eq_true rfl) (Nat.le_of_ble_eq_true rfl) dX2_readPool_6 (sX6_isWord (by decide : 3 < zSN) hM) (fun r h9 hq => ?_) (fun x h9 hq => hq.elim)
  obtain ⟨rfl, z9, rfl, hzz9, hM⟩ := hq
  refine zV_if_ne (tgt := 14) O dX2_readPool_9 (by decide) (fun hc => ?_) (fun hc => ?_)
  · replace hM := hM.1 hc
    refine zV_aload_n O dX2_readPool_14 rfl rfl ?_
    refine zV_getR O zf_RX2_9 zt_178 rfl (by decide) dX2_readPool_15 ?_
    refine zV_callV (as := []) (st := []) O zc_X6_advance (Or.inr ⟨_, zl_RX2_78⟩) zi_542 zi_9 zt_176 rfl rfl (by decide) (Nat.le_of_ble_eq_true rfl) rfl rfl (Nat.le_of_ble_eq_true rfl) (Nat.le_of_ble_eq_true rfl) (Nat.le_of_ble_eq_true rfl) (Nat.le_of_ble_eq_true rfl) (Nat.le_of_ble_eq_true rfl) (Nat.le_of_ble_eq_true rfl) dX2_readPool_18 (sX6_advance hM) (fun r h10 hq => ?_) (fun x h9 hq => hq.elim)
    obtain ⟨rfl, hM⟩ := hq
    refine zV_aload_n O dX2_readPool_21 rfl rfl ?_
    refine zV_iconst (z := 1) O ⟨by omega, by omega⟩ dX2_readPool_22 ?_
    refine zV_sipush (z := 250) O ⟨by omega, by omega⟩ rfl dX2_readPool_23 ?_
    refine zV_callV (as := [aI 1, aI 250]) (st := []) O zc_X2_takeNumber (Or.inl zl_RX2_81) zi_582 zi_16 zt_178 rfl rfl (by decide) (Nat.le_of_ble_eq_true rfl) rfl rfl (Nat.le_of_ble_eq_true rfl) (Nat.le_of_ble_eq_true rfl) (Nat.le_of_ble_eq_true rfl) (Nat.le_of_ble_eq_true rfl) (Nat.le_of_ble_eq_true rfl) (Nat.le_of_ble_eq_true rfl) dX2_readPool_26 (sX2_takeNumber hM) (fun r h12 hq => ?_) (fun x h9 hq => hq.elim)
    obtain ⟨z11, rfl, hzz11, hM⟩ := hq
    refine zV_if_ne (tgt := 34) O dX2_readPool_29 (by decide) (fun hc => ?_) (fun hc => ?_)
    · replace hM := hM.1 hc
      refine zV_aload_n O dX2_readPool_34 rfl rfl ?_
      refine zV_getR O zf_RX2_15 zt_178 rfl (by decide) dX2_readPool_35 ?_
      refine zV_aload_n O dX2_readPool_38 rfl rfl ?_
      refine zV_getI O zf_RX2_85 zt_178 rfl (by decide) dX2_readPool_39 ?_
      refine zV_putI O zf_RX2_96 (zN_o zisN_13) rfl (zN_lt0 zisN_13) dX2_readPool_42 ?_
      have hM := hM _ rfl
      generalize hu h12 13 5 (h12 178 3) = h13 at hM ⊢
      refine zV_aload_n O dX2_readPool_45 rfl rfl ?_
      refine zV_aload_n O dX2_readPool_46 rfl rfl ?_
      refine zV_getR O zf_RX2_15 zt_178 rfl (by decide) dX2_readPool_47 ?_
      refine zV_getI O zf_RX2_96 (zN_o zisN_13) rfl (zN_lt0 zisN_13) dX2_readPool_50 ?_
      refine zV_sipush (z := 250) O ⟨by omega, by omega⟩ rfl dX2_readPool_53 ?_
      refine zV_callV (as := [aI (h13 13 5), aI 250]) (st := []) O zc_X2_takeNumber (Or.inl zl_RX2_81) zi_582 zi_16 zt_178 rfl rfl (by decide) (Nat.le_of_ble_eq_true rfl) rfl rfl (Nat.le_of_ble_eq_true rfl) (Nat.le_of_ble_eq_true rfl) (Nat.le_of_ble_eq_true rfl) (Nat.le_of_ble_eq_true rfl) (Nat.le_of_ble_eq_true rfl) (Nat.le_of_ble_eq_true rfl) dX2_readPool_56 (sX2_takeNumber hM) (fun r h15 hq => ?_) (fun x h9 hq => hq.elim)
      obtain ⟨z14, rfl, hzz14, hM⟩ := hq
      refine zV_if_ne (tgt := 64) O dX2_readPool_59 (by decide) (fun hc => ?_) (fun hc => ?_)
      · replace hM := hM.1 hc
        refine zV_aload_n O dX2_readPool_64 rfl rfl ?_
        refine zV_getR O zf_RX2_15 zt_178 rfl (by decide) dX2_readPool_65 ?_
        refine zV_aload_n O dX2_readPool_68 rfl rfl ?_
        refine zV_getI O zf_RX2_85 zt_178 rfl (by decide) dX2_readPool_69 ?_
        refine zV_putI O zf_RX2_99 (zN_o zisN_13) rfl (zN_lt0 zisN_13) dX2_readPool_72 ?_
        have hM := hM _ rfl
        generalize hu h15 13 6 (h15 178 3) = h16 at hM ⊢
        refine zV_iconst (z := 1) O ⟨by omega, by omega⟩ dX2_readPool_75 ?_
        exact zV_zret O rfl (Or.inr rfl) ⟨_, rfl, (Or.inr rfl), hM⟩ (Nat.le_of_ble_eq_true rfl) (Nat.le_of_ble_eq_true rfl) dX2_readPool_76
      · replace hM := hM.2 hc
        refine zV_iconst (z := 0) O ⟨by omega, by omega⟩ dX2_readPool_62 ?_
        exact zV_zret O rfl (Or.inl rfl) ⟨_, rfl, (Or.inl rfl), hM⟩ (Nat.le_of_ble_eq_true rfl) (Nat.le_of_ble_eq_true rfl) dX2_readPool_63
    · replace hM := hM.2 hc
      refine zV_iconst (z := 0) O ⟨by omega, by omega⟩ dX2_readPool_32 ?_
      exact zV_zret O rfl (Or.inl rfl) ⟨_, rfl, (Or.inl rfl), hM⟩ (Nat.le_of_ble_eq_true rfl) (Nat.le_of_ble_eq_true rfl) dX2_readPool_33
  · replace hM := hM.2 hc
    refine zV_iconst (z := 1) O ⟨by omega, by omega⟩ dX2_readPool_12 ?_
    exact zV_zret O rfl (Or.inr rfl) ⟨_, rfl, (Or.inr rfl), hM⟩ (Nat.le_of_ble_eq_true rfl) (Nat.le_of_ble_eq_true rfl) dX2_readPool_13
def mX2_takeSide  (h : Hp) (Q : Int → Hp → Prop) : Prop := (mX6_isWord 9 h (fun z6 => ((z6 = 0 → (mX2_takeNumber 1 250 h (fun z7 h8 => (Q z7 h8)))) ∧ (¬ z6 = 0 → (∀ h9 : Hp, h9 = hu h 178 3 0 → (mX6_advance h9 (fun h10 => (Q 1 h10))))))))
set_option maxHeartbeats 4000000 in
set_option maxRecDepth 100000 in
theorem sX2_takeSide {l0 : Launch}  {h : Hp} {Q : Int → Hp → Prop}  (hM : mX2_takeSide  h Q) : zSp l0 yX2_takeSide cX2_takeSide 1 (some .boolean) 185 (6) 0 0 [aR 178] h (qZ Q) xN := by
  unfold mX2_takeSide at hM
  refine zSp_intro zpn_RX2 (Nat.le_of_ble_eq_true rfl) (fun a O => ?_)
  show zV a (6, 0, 0, (qZ Q), xN) 0 0 0 [some (aR 178)] [] h
  refine zV_aload_n O dX2_takeSide_0 rfl rfl ?_
  refine zV_getR O zf_RX2_9 zt_178 rfl (by decide) dX2_takeSide_1 ?_
  refine zV_ldcS (w := 9) O ⟨by decide, rfl, rfl⟩ dX2_takeSide_4 ?_
  refine zV_callV (as := [aR (1000 + 9)]) (st := []) O zc_X6_isWord (Or.inr ⟨_, zl_RX2_39⟩) zi_566 zi_13 zt_176 rfl rfl (by decide) (Nat.le_of_ble_eq_true rfl) rfl rfl (Nat.le_of_ble_eq_true rfl) (Nat.le_of_ble_eq_true rfl) (Nat.le_of_ble_eq_true rfl) (Nat.le_of_ble_eq_true rfl) (Nat.le_of_ble_eq_true rfl) (Nat.le_of_ble_eq_true rfl) dX2_takeSide_6 (sX6_isWord (by decide : 9 < zSN) hM) (fun r h9 hq => ?_) (fun x h9 hq => hq.elim)
  obtain ⟨rfl, z6, rfl, hzz6, hM⟩ := hq
  refine zV_if_eq (tgt := 26) O dX2_takeSide_9 (by decide) (fun hc => ?_) (fun hc => ?_)
  · replace hM := hM.1 hc
    refine zV_aload_n O dX2_takeSide_26 rfl rfl ?_
    refine zV_iconst (z := 1) O ⟨by omega, by omega⟩ dX2_takeSide_27 ?_
    refine zV_sipush (z := 250) O ⟨by omega, by omega⟩ rfl dX2_takeSide_28 ?_
    refine zV_callV (as := [aI 1, aI 250]) (st := []) O zc_X2_takeNumber (Or.inl zl_RX2_81) zi_582 zi_16 zt_178 rfl rfl (by decide) (Nat.le_of_ble_eq_true rfl) rfl rfl (Nat.le_of_ble_eq_true rfl) (Nat.le_of_ble_eq_true rfl) (Nat.le_of_ble_eq_true rfl) (Nat.le_of_ble_eq_true rfl) (Nat.le_of_ble_eq_true rfl) (Nat.le_of_ble_eq_true rfl) dX2_takeSide_31 (sX2_takeNumber hM) (fun r h8 hq => ?_) (fun x h9 hq => hq.elim)
    obtain ⟨z7, rfl, hzz7, hM⟩ := hq
    exact zV_zret O rfl hzz7 ⟨_, rfl, hzz7, hM⟩ (Nat.le_of_ble_eq_true rfl) (Nat.le_of_ble_eq_true rfl) dX2_takeSide_34
  · replace hM := hM.2 hc
    refine zV_aload_n O dX2_takeSide_12 rfl rfl ?_
    refine zV_iconst (z := 0) O ⟨by omega, by omega⟩ dX2_takeSide_13 ?_
    refine zV_putI O zf_RX2_85 zt_178 rfl (by decide) dX2_takeSide_14 ?_
    have hM := hM _ rfl
    generalize hu h 178 3 0 = h9 at hM ⊢
    refine zV_aload_n O dX2_takeSide_17 rfl rfl ?_
    refine zV_getR O zf_RX2_9 zt_178 rfl (by decide) dX2_takeSide_18 ?_
    refine zV_callV (as := []) (st := []) O zc_X6_advance (Or.inr ⟨_, zl_RX2_78⟩) zi_542 zi_9 zt_176 rfl rfl (by decide) (Nat.le_of_ble_eq_true rfl) rfl rfl (Nat.le_of_ble_eq_true rfl) (Nat.le_of_ble_eq_true rfl) (Nat.le_of_ble_eq_true rfl) (Nat.le_of_ble_eq_true rfl) (Nat.le_of_ble_eq_true rfl) (Nat.le_of_ble_eq_true rfl) dX2_takeSide_21 (sX6_advance hM) (fun r h10 hq => ?_) (fun x h9 hq => hq.elim)
    obtain ⟨rfl, hM⟩ := hq
    refine zV_iconst (z := 1) O ⟨by omega, by omega⟩ dX2_takeSide_24 ?_
    exact zV_zret O rfl (Or.inr rfl) ⟨_, rfl, (Or.inr rfl), hM⟩ (Nat.le_of_ble_eq_true rfl) (Nat.le_of_ble_eq_true rfl) dX2_takeSide_25
def mX2_takeWord (w1 : Nat) (h : Hp) (Q : Int → Hp → Prop) : Prop := (mX6_isWord w1 h (fun z5 => ((¬ z5 = 0 → (mX6_advance h (fun h6 => (Q 1 h6)))) ∧ (z5 = 0 → (mX2_fail 1 h (fun z7 h8 => (Q z7 h8)))))))
set_option maxHeartbeats 4000000 in
set_option maxRecDepth 100000 in
theorem sX2_takeWord {l0 : Launch} {w1 : Nat} {h : Hp} {Q : Int → Hp → Prop} (hw1 : w1 < zSN) (hM : mX2_takeWord w1 h Q) : zSp l0 yX2_takeWord cX2_takeWord 2 (some .boolean) 185 (6) 0 0 [aR 178, aR (1000 + w1)] h (qZ Q) xN := by
  unfold mX2_takeWord at hM
  refine zSp_intro zpn_RX2 (Nat.le_of_ble_eq_true rfl) (fun a O => ?_)
  show zV a (6, 0, 0, (qZ Q), xN) 0 0 0 [some (aR 178), some (aR (1000 + w1))] [] h
  refine zV_aload_n O dX2_takeWord_0 rfl rfl ?_
  refine zV_getR O zf_RX2_9 zt_178 rfl (by decide) dX2_takeWord_1 ?_
  refine zV_aload_n O dX2_takeWord_4 rfl rfl ?_
  refine zV_callV (as := [aR (1000 + w1)]) (st := []) O zc_X6_isWord (Or.inr ⟨_, zl_RX2_39⟩) zi_566 zi_13 zt_176 rfl rfl (by decide) (Nat.le_of_ble_eq_true rfl) rfl rfl (Nat.le_of_ble_eq_true rfl) (Nat.le_of_ble_eq_true rfl) (Nat.le_of_ble_eq_true rfl) (Nat.le_of_ble_eq_true rfl) (Nat.le_of_ble_eq_true rfl) (Nat.le_of_ble_eq_true rfl) dX2_takeWord_5 (sX6_isWord hw1 hM) (fun r h9 hq => ?_) (fun x h9 hq => hq.elim)
  obtain ⟨rfl, z5, rfl, hzz5, hM⟩ := hq
  refine zV_if_ne (tgt := 17) O dX2_takeWord_8 (by decide) (fun hc => ?_) (fun hc => ?_)
  · replace hM := hM.1 hc
    refine zV_aload_n O dX2_takeWord_17 rfl rfl ?_
    refine zV_getR O zf_RX2_9 zt_178 rfl (by decide) dX2_takeWord_18 ?_
    refine zV_callV (as := []) (st := []) O zc_X6_advance (Or.inr ⟨_, zl_RX2_78⟩) zi_542 zi_9 zt_176 rfl rfl (by decide) (Nat.le_of_ble_eq_true rfl) rfl rfl (Nat.le_of_ble_eq_true rfl) (Nat.le_of_ble_eq_true rfl) (Nat.le_of_ble_eq_true rfl) (Nat.le_of_ble_eq_true rfl) (Nat.le_of_ble_eq_true rfl) (Nat.le_of_ble_eq_true rfl) dX2_takeWord_21 (sX6_advance hM) (fun r h6 hq => ?_) (fun x h9 hq => hq.elim)
    obtain ⟨rfl, hM⟩ := hq
    refine zV_iconst (z := 1) O ⟨by omega, by omega⟩ dX2_takeWord_24 ?_
    exact zV_zret O rfl (Or.inr rfl) ⟨_, rfl, (Or.inr rfl), hM⟩ (Nat.le_of_ble_eq_true rfl) (Nat.le_of_ble_eq_true rfl) dX2_takeWord_25
  · replace hM := hM.2 hc
    refine zV_aload_n O dX2_takeWord_11 rfl rfl ?_
    refine zV_iconst (z := 1) O ⟨by omega, by omega⟩ dX2_takeWord_12 ?_
    refine zV_callV (as := [aI 1]) (st := []) O zc_X2_fail (Or.inl zl_RX2_56) zi_572 zi_14 zt_178 rfl rfl (by decide) (Nat.le_of_ble_eq_true rfl) rfl rfl (Nat.le_of_ble_eq_true rfl) (Nat.le_of_ble_eq_true rfl) (Nat.le_of_ble_eq_true rfl) (Nat.le_of_ble_eq_true rfl) (Nat.le_of_ble_eq_true rfl) (Nat.le_of_ble_eq_true rfl) dX2_takeWord_13 (sX2_fail hM) (fun r h8 hq => ?_) (fun x h9 hq => hq.elim)
    obtain ⟨z7, rfl, hzz7, hM⟩ := hq
    exact zV_zret O rfl hzz7 ⟨_, rfl, hzz7, hM⟩ (Nat.le_of_ble_eq_true rfl) (Nat.le_of_ble_eq_true rfl) dX2_takeWord_16
def mX2_readHead  (h : Hp) (Q : Int → Hp → Prop) : Prop := (mX2_takeWord 0 h (fun z11 h12 => ((z11 = 0 → (Q 0 h12)) ∧ (¬ z11 = 0 → (mX2_readKeep h12 (fun z13 h14 => ((z13 = 0 → (Q 0 h14)) ∧ (¬ z13 = 0 → (mX2_readPer h14 (fun z15 h16 => ((z15 = 0 → (Q 0 h16)) ∧ (¬ z15 = 0 → (mX2_readPool h16 (fun z17 h18 => ((z17 = 0 → (Q 0 h18)) ∧ (¬ z17 = 0 → (mX2_takeSemicolon h18 (fun z19 h20 => ((z19 = 0 → (Q 0 h20)) ∧ (¬ z19 = 0 → (Q 1 h20)))))))))))))))))))))
set_option maxHeartbeats 4000000 in
set_option maxRecDepth 100000 in
theorem sX2_readHead {l0 : Launch}  {h : Hp} {Q : Int → Hp → Prop}  (hM : mX2_readHead  h Q) : zSp l0 yX2_readHead cX2_readHead 1 (some .boolean) 185 (7) 0 0 [aR 178] h (qZ Q) xN := by
  unfold mX2_readHead at hM
  refine zSp_intro zpn_RX2 (Nat.le_of_ble_eq_true rfl) (fun a O => ?_)
  show zV a (7, 0, 0, (qZ Q), xN) 0 0 0 [some (aR 178)] [] h
  refine zV_aload_n O dX2_readHead_0 rfl rfl ?_
  refine zV_ldcS (w := 0) O ⟨by decide, rfl, rfl⟩ dX2_readHead_1 ?_
  refine zV_callV (as := [aR (1000 + 0)]) (st := []) O zc_X2_takeWord (Or.inl zl_RX2_64) zi_562 zi_12 zt_178 rfl rfl (by decide) (Nat.le_of_ble_eq_true rfl) rfl rfl (Nat.le_of_ble_eq_true rfl) (Nat.le_of_ble_eq_true rfl) (Nat.le_of_ble_eq_true rfl) (Nat.le_of_ble_eq_true rfl) (Nat.le_of_ble_eq_true rfl) (Nat.le_of_ble_eq_true rfl) dX2_readHead_3 (sX2_takeWord (by decide : 0 < zSN) hM) (fun r h12 hq => ?_) (fun x h9 hq => hq.elim)
  obtain ⟨z11, rfl, hzz11, hM⟩ := hq
  refine zV_if_eq (tgt := 41) O dX2_readHead_6 (by decide) (fun hc => ?_) (fun hc => ?_)
  · replace hM := hM.1 hc
    refine zV_iconst (z := 0) O ⟨by omega, by omega⟩ dX2_readHead_41 ?_
    exact zV_zret O rfl (Or.inl rfl) ⟨_, rfl, (Or.inl rfl), hM⟩ (Nat.le_of_ble_eq_true rfl) (Nat.le_of_ble_eq_true rfl) dX2_readHead_42
  · replace hM := hM.2 hc
    refine zV_aload_n O dX2_readHead_9 rfl rfl ?_
    refine zV_callV (as := []) (st := []) O zc_X2_readKeep (Or.inl zl_RX2_67) zi_577 zi_15 zt_178 rfl rfl (by decide) (Nat.le_of_ble_eq_true rfl) rfl rfl (Nat.le_of_ble_eq_true rfl) (Nat.le_of_ble_eq_true rfl) (Nat.le_of_ble_eq_true rfl) (Nat.le_of_ble_eq_true rfl) (Nat.le_of_ble_eq_true rfl) (Nat.le_of_ble_eq_true rfl) dX2_readHead_10 (sX2_readKeep hM) (fun r h14 hq => ?_) (fun x h9 hq => hq.elim)
    obtain ⟨z13, rfl, hzz13, hM⟩ := hq
    refine zV_if_eq (tgt := 41) O dX2_readHead_13 (by decide) (fun hc => ?_) (fun hc => ?_)
    · replace hM := hM.1 hc
      refine zV_iconst (z := 0) O ⟨by omega, by omega⟩ dX2_readHead_41 ?_
      exact zV_zret O rfl (Or.inl rfl) ⟨_, rfl, (Or.inl rfl), hM⟩ (Nat.le_of_ble_eq_true rfl) (Nat.le_of_ble_eq_true rfl) dX2_readHead_42
    · replace hM := hM.2 hc
      refine zV_aload_n O dX2_readHead_16 rfl rfl ?_
      refine zV_callV (as := []) (st := []) O zc_X2_readPer (Or.inl zl_RX2_70) zi_590 zi_18 zt_178 rfl rfl (by decide) (Nat.le_of_ble_eq_true rfl) rfl rfl (Nat.le_of_ble_eq_true rfl) (Nat.le_of_ble_eq_true rfl) (Nat.le_of_ble_eq_true rfl) (Nat.le_of_ble_eq_true rfl) (Nat.le_of_ble_eq_true rfl) (Nat.le_of_ble_eq_true rfl) dX2_readHead_17 (sX2_readPer hM) (fun r h16 hq => ?_) (fun x h9 hq => hq.elim)
      obtain ⟨z15, rfl, hzz15, hM⟩ := hq
      refine zV_if_eq (tgt := 41) O dX2_readHead_20 (by decide) (fun hc => ?_) (fun hc => ?_)
      · replace hM := hM.1 hc
        refine zV_iconst (z := 0) O ⟨by omega, by omega⟩ dX2_readHead_41 ?_
        exact zV_zret O rfl (Or.inl rfl) ⟨_, rfl, (Or.inl rfl), hM⟩ (Nat.le_of_ble_eq_true rfl) (Nat.le_of_ble_eq_true rfl) dX2_readHead_42
      · replace hM := hM.2 hc
        refine zV_aload_n O dX2_readHead_23 rfl rfl ?_
        refine zV_callV (as := []) (st := []) O zc_X2_readPool (Or.inl zl_RX2_73) zi_595 zi_19 zt_178 rfl rfl (by decide) (Nat.le_of_ble_eq_true rfl) rfl rfl (Nat.le_of_ble_eq_true rfl) (Nat.le_of_ble_eq_true rfl) (Nat.le_of_ble_eq_true rfl) (Nat.le_of_ble_eq_true rfl) (Nat.le_of_ble_eq_true rfl) (Nat.le_of_ble_eq_true rfl) dX2_readHead_24 (sX2_readPool hM) (fun r h18 hq => ?_) (fun x h9 hq => hq.elim)
        obtain ⟨z17, rfl, hzz17, hM⟩ := hq
        refine zV_if_eq (tgt := 41) O dX2_readHead_27 (by decide) (fun hc => ?_) (fun hc => ?_)
        · replace hM := hM.1 hc
          refine zV_iconst (z := 0) O ⟨by omega, by omega⟩ dX2_readHead_41 ?_
          exact zV_zret O rfl (Or.inl rfl) ⟨_, rfl, (Or.inl rfl), hM⟩ (Nat.le_of_ble_eq_true rfl) (Nat.le_of_ble_eq_true rfl) dX2_readHead_42
        · replace hM := hM.2 hc
          refine zV_aload_n O dX2_readHead_30 rfl rfl ?_
          refine zV_callV (as := []) (st := []) O zc_X2_takeSemicolon (Or.inl zl_RX2_60) zi_600 zi_20 zt_178 rfl rfl (by decide) (Nat.le_of_ble_eq_true rfl) rfl rfl (Nat.le_of_ble_eq_true rfl) (Nat.le_of_ble_eq_true rfl) (Nat.le_of_ble_eq_true rfl) (Nat.le_of_ble_eq_true rfl) (Nat.le_of_ble_eq_true rfl) (Nat.le_of_ble_eq_true rfl) dX2_readHead_31 (sX2_takeSemicolon hM) (fun r h20 hq => ?_) (fun x h9 hq => hq.elim)
          obtain ⟨z19, rfl, hzz19, hM⟩ := hq
          refine zV_if_eq (tgt := 41) O dX2_readHead_34 (by decide) (fun hc => ?_) (fun hc => ?_)
          · replace hM := hM.1 hc
            refine zV_iconst (z := 0) O ⟨by omega, by omega⟩ dX2_readHead_41 ?_
            exact zV_zret O rfl (Or.inl rfl) ⟨_, rfl, (Or.inl rfl), hM⟩ (Nat.le_of_ble_eq_true rfl) (Nat.le_of_ble_eq_true rfl) dX2_readHead_42
          · replace hM := hM.2 hc
            refine zV_iconst (z := 1) O ⟨by omega, by omega⟩ dX2_readHead_37 ?_
            refine zV_goto (tgt := 42) O dX2_readHead_38 (by decide) ?_
            exact zV_zret O rfl (Or.inr rfl) ⟨_, rfl, (Or.inr rfl), hM⟩ (Nat.le_of_ble_eq_true rfl) (Nat.le_of_ble_eq_true rfl) dX2_readHead_42
def mX2_readRule_b73 (Q : Int → Hp → Prop) (v1 : Int) (v2 : Int) (h : Hp) : Prop := (mX6_advance h (fun h24 => (mX2_takeSide h24 (fun z25 h26 => ((¬ z25 = 0 → (mX2_takeSide h26 (fun z27 h28 => ((¬ z27 = 0 → (mX3_appendRule 13 v1 v2 (h26 178 3) (h28 178 3) h28 (fun z29 h30 => (Q 1 h30)))) ∧ (z27 = 0 → (Q 0 h28)))))) ∧ (z25 = 0 → (Q 0 h26)))))))
set_option maxHeartbeats 4000000 in
set_option maxRecDepth 100000 in
theorem sX2_readRule_b73 {l0 : Launch} {a : ZC}  {Q : Int → Hp → Prop}  (O : zOk l0 a cX2_readRule RX2 4 (some .boolean) 185 [])   {v1 : Int} {v2 : Int} {h : Hp} (hz_v2 : v2 = 0 ∨ v2 = 1) (hM : mX2_readRule_b73 Q v1 v2 h) : zV a (7, 0, 0, (qZ Q), xN) 0 0 73 [some (aR 178), some (aI v1), some (aI v2), none] [] h := by
  unfold mX2_readRule_b73 at hM
  refine zV_aload_n O dX2_readRule_73 rfl rfl ?_
  refine zV_getR O zf_RX2_9 zt_178 rfl (by decide) dX2_readRule_74 ?_
  refine zV_callV (as := []) (st := []) O zc_X6_advance (Or.inr ⟨_, zl_RX2_78⟩) zi_542 zi_9 zt_176 rfl rfl (by decide) (Nat.le_of_ble_eq_true rfl) rfl rfl (Nat.le_of_ble_eq_true rfl) (Nat.le_of_ble_eq_true rfl) (Nat.le_of_ble_eq_true rfl) (Nat.le_of_ble_eq_true rfl) (Nat.le_of_ble_eq_true rfl) (Nat.le_of_ble_eq_true rfl) dX2_readRule_77 (sX6_advance hM) (fun r h24 hq => ?_) (fun x h9 hq => hq.elim)
  obtain ⟨rfl, hM⟩ := hq
  refine zV_aload_n O dX2_readRule_80 rfl rfl ?_
  refine zV_callV (as := []) (st := []) O zc_X2_takeSide (Or.inl zl_RX2_143) zi_654 zi_32 zt_178 rfl rfl (by decide) (Nat.le_of_ble_eq_true rfl) rfl rfl (Nat.le_of_ble_eq_true rfl) (Nat.le_of_ble_eq_true rfl) (Nat.le_of_ble_eq_true rfl) (Nat.le_of_ble_eq_true rfl) (Nat.le_of_ble_eq_true rfl) (Nat.le_of_ble_eq_true rfl) dX2_readRule_81 (sX2_takeSide hM) (fun r h26 hq => ?_) (fun x h9 hq => hq.elim)
  obtain ⟨z25, rfl, hzz25, hM⟩ := hq
  refine zV_if_ne (tgt := 89) O dX2_readRule_84 (by decide) (fun hc => ?_) (fun hc => ?_)
  · replace hM := hM.1 hc
    refine zV_aload_n O dX2_readRule_89 rfl rfl ?_
    refine zV_getI O zf_RX2_85 zt_178 rfl (by decide) dX2_readRule_90 ?_
    refine zV_istore_n O dX2_readRule_93 rfl (Nat.le_of_ble_eq_true rfl) rfl ?_
    refine zV_aload_n O dX2_readRule_94 rfl rfl ?_
    refine zV_callV (as := []) (st := []) O zc_X2_takeSide (Or.inl zl_RX2_143) zi_654 zi_32 zt_178 rfl rfl (by decide) (Nat.le_of_ble_eq_true rfl) rfl rfl (Nat.le_of_ble_eq_true rfl) (Nat.le_of_ble_eq_true rfl) (Nat.le_of_ble_eq_true rfl) (Nat.le_of_ble_eq_true rfl) (Nat.le_of_ble_eq_true rfl) (Nat.le_of_ble_eq_true rfl) dX2_readRule_95 (sX2_takeSide hM) (fun r h28 hq => ?_) (fun x h9 hq => hq.elim)
    obtain ⟨z27, rfl, hzz27, hM⟩ := hq
    refine zV_if_ne (tgt := 103) O dX2_readRule_98 (by decide) (fun hc => ?_) (fun hc => ?_)
    · replace hM := hM.1 hc
      refine zV_aload_n O dX2_readRule_103 rfl rfl ?_
      refine zV_getR O zf_RX2_15 zt_178 rfl (by decide) dX2_readRule_104 ?_
      refine zV_iload_n O dX2_readRule_107 rfl rfl ?_
      refine zV_iload_n O dX2_readRule_108 rfl rfl ?_
      refine zV_iload_n O dX2_readRule_109 rfl rfl ?_
      refine zV_aload_n O dX2_readRule_110 rfl rfl ?_
      refine zV_getI O zf_RX2_85 zt_178 rfl (by decide) dX2_readRule_111 ?_
      refine zV_callV (as := [aI v1, aI v2, aI (h26 178 3), aI (h28 178 3)]) (st := []) O zc_X3_appendRule (Or.inr ⟨_, zl_RX2_146⟩) zi_659 zi_33 (zN_o zisN_13) rfl rfl (zN_lt0 zisN_13) (Nat.le_of_ble_eq_true rfl) rfl rfl (Nat.le_of_ble_eq_true rfl) (Nat.le_of_ble_eq_true rfl) (Nat.le_of_ble_eq_true rfl) (Nat.le_of_ble_eq_true rfl) (Nat.le_of_ble_eq_true rfl) (Nat.le_of_ble_eq_true rfl) dX2_readRule_114 (sX3_appendRule zisN_13 hM) (fun r h30 hq => ?_) (fun x h9 hq => hq.elim)
      obtain ⟨z29, rfl, hM⟩ := hq
      refine zV_pop O rfl dX2_readRule_117 ?_
      refine zV_iconst (z := 1) O ⟨by omega, by omega⟩ dX2_readRule_118 ?_
      exact zV_zret O rfl (Or.inr rfl) ⟨_, rfl, (Or.inr rfl), hM⟩ (Nat.le_of_ble_eq_true rfl) (Nat.le_of_ble_eq_true rfl) dX2_readRule_119
    · replace hM := hM.2 hc
      refine zV_iconst (z := 0) O ⟨by omega, by omega⟩ dX2_readRule_101 ?_
      exact zV_zret O rfl (Or.inl rfl) ⟨_, rfl, (Or.inl rfl), hM⟩ (Nat.le_of_ble_eq_true rfl) (Nat.le_of_ble_eq_true rfl) dX2_readRule_102
  · replace hM := hM.2 hc
    refine zV_iconst (z := 0) O ⟨by omega, by omega⟩ dX2_readRule_87 ?_
    exact zV_zret O rfl (Or.inl rfl) ⟨_, rfl, (Or.inl rfl), hM⟩ (Nat.le_of_ble_eq_true rfl) (Nat.le_of_ble_eq_true rfl) dX2_readRule_88
def mX2_readRule  (h : Hp) (Q : Int → Hp → Prop) : Prop := (((h 13 1) < (30 : Int) → (mX6_advance h (fun h31 => (mX2_takeNumber 0 1 h31 (fun z32 h33 => ((¬ z32 = 0 → (mX6_isWord 7 h33 (fun z34 => ((¬ z34 = 0 → (mX2_readRule_b73 Q (h33 178 3) z34 h33)) ∧ (z34 = 0 → (mX6_isWord 8 h33 (fun z35 => ((¬ z35 = 0 → (mX2_readRule_b73 Q (h33 178 3) z34 h33)) ∧ (z35 = 0 → (mX2_fail 1 h33 (fun z36 h37 => (Q z36 h37)))))))))))) ∧ (z32 = 0 → (Q 0 h33)))))))) ∧ (¬ (h 13 1) < (30 : Int) → (mX2_fail 3 h (fun z38 h39 => (Q z38 h39)))))
set_option maxHeartbeats 4000000 in
set_option maxRecDepth 100000 in
theorem sX2_readRule {l0 : Launch}  {h : Hp} {Q : Int → Hp → Prop}  (hM : mX2_readRule  h Q) : zSp l0 yX2_readRule cX2_readRule 4 (some .boolean) 185 (7) 0 0 [aR 178] h (qZ Q) xN := by
  unfold mX2_readRule at hM
  refine zSp_intro zpn_RX2 (Nat.le_of_ble_eq_true rfl) (fun a O => ?_)
  show zV a (7, 0, 0, (qZ Q), xN) 0 0 0 [some (aR 178), none, none, none] [] h
  refine zV_aload_n O dX2_readRule_0 rfl rfl ?_
  refine zV_getR O zf_RX2_15 zt_178 rfl (by decide) dX2_readRule_1 ?_
  refine zV_getI O zf_RX2_136 (zN_o zisN_13) rfl (zN_lt0 zisN_13) dX2_readRule_4 ?_
  refine zV_bipush (z := 30) O ⟨by omega, by omega⟩ rfl dX2_readRule_7 ?_
  refine zV_icmp_lt (tgt := 18) O dX2_readRule_9 (by decide) (fun hc => ?_) (fun hc => ?_)
  · replace hM := hM.1 hc
    refine zV_aload_n O dX2_readRule_18 rfl rfl ?_
    refine zV_getR O zf_RX2_9 zt_178 rfl (by decide) dX2_readRule_19 ?_
    refine zV_callV (as := []) (st := []) O zc_X6_advance (Or.inr ⟨_, zl_RX2_78⟩) zi_542 zi_9 zt_176 rfl rfl (by decide) (Nat.le_of_ble_eq_true rfl) rfl rfl (Nat.le_of_ble_eq_true rfl) (Nat.le_of_ble_eq_true rfl) (Nat.le_of_ble_eq_true rfl) (Nat.le_of_ble_eq_true rfl) (Nat.le_of_ble_eq_true rfl) (Nat.le_of_ble_eq_true rfl) dX2_readRule_22 (sX6_advance hM) (fun r h31 hq => ?_) (fun x h9 hq => hq.elim)
    obtain ⟨rfl, hM⟩ := hq
    refine zV_aload_n O dX2_readRule_25 rfl rfl ?_
    refine zV_iconst (z := 0) O ⟨by omega, by omega⟩ dX2_readRule_26 ?_
    refine zV_iconst (z := 1) O ⟨by omega, by omega⟩ dX2_readRule_27 ?_
    refine zV_callV (as := [aI 0, aI 1]) (st := []) O zc_X2_takeNumber (Or.inl zl_RX2_81) zi_582 zi_16 zt_178 rfl rfl (by decide) (Nat.le_of_ble_eq_true rfl) rfl rfl (Nat.le_of_ble_eq_true rfl) (Nat.le_of_ble_eq_true rfl) (Nat.le_of_ble_eq_true rfl) (Nat.le_of_ble_eq_true rfl) (Nat.le_of_ble_eq_true rfl) (Nat.le_of_ble_eq_true rfl) dX2_readRule_28 (sX2_takeNumber hM) (fun r h33 hq => ?_) (fun x h9 hq => hq.elim)
    obtain ⟨z32, rfl, hzz32, hM⟩ := hq
    refine zV_if_ne (tgt := 36) O dX2_readRule_31 (by decide) (fun hc => ?_) (fun hc => ?_)
    · replace hM := hM.1 hc
      refine zV_aload_n O dX2_readRule_36 rfl rfl ?_
      refine zV_getI O zf_RX2_85 zt_178 rfl (by decide) dX2_readRule_37 ?_
      refine zV_istore_n O dX2_readRule_40 rfl (Nat.le_of_ble_eq_true rfl) rfl ?_
      refine zV_aload_n O dX2_readRule_41 rfl rfl ?_
      refine zV_getR O zf_RX2_9 zt_178 rfl (by decide) dX2_readRule_42 ?_
      refine zV_ldcS (w := 7) O ⟨by decide, rfl, rfl⟩ dX2_readRule_45 ?_
      refine zV_callV (as := [aR (1000 + 7)]) (st := []) O zc_X6_isWord (Or.inr ⟨_, zl_RX2_39⟩) zi_566 zi_13 zt_176 rfl rfl (by decide) (Nat.le_of_ble_eq_true rfl) rfl rfl (Nat.le_of_ble_eq_true rfl) (Nat.le_of_ble_eq_true rfl) (Nat.le_of_ble_eq_true rfl) (Nat.le_of_ble_eq_true rfl) (Nat.le_of_ble_eq_true rfl) (Nat.le_of_ble_eq_true rfl) dX2_readRule_47 (sX6_isWord (by decide : 7 < zSN) hM) (fun r h9 hq => ?_) (fun x h9 hq => hq.elim)
      obtain ⟨rfl, z34, rfl, hzz34, hM⟩ := hq
      refine zV_istore_n O dX2_readRule_50 rfl (Nat.le_of_ble_eq_true rfl) rfl ?_
      refine zV_iload_n O dX2_readRule_51 rfl rfl ?_
      refine zV_if_ne (tgt := 73) O dX2_readRule_52 (by decide) (fun hc => ?_) (fun hc => ?_)
      · replace hM := hM.1 hc
        exact sX2_readRule_b73 O hzz34 hM
      · replace hM := hM.2 hc
        refine zV_aload_n O dX2_readRule_55 rfl rfl ?_
        refine zV_getR O zf_RX2_9 zt_178 rfl (by decide) dX2_readRule_56 ?_
        refine zV_ldcS (w := 8) O ⟨by decide, rfl, rfl⟩ dX2_readRule_59 ?_
        refine zV_callV (as := [aR (1000 + 8)]) (st := []) O zc_X6_isWord (Or.inr ⟨_, zl_RX2_39⟩) zi_566 zi_13 zt_176 rfl rfl (by decide) (Nat.le_of_ble_eq_true rfl) rfl rfl (Nat.le_of_ble_eq_true rfl) (Nat.le_of_ble_eq_true rfl) (Nat.le_of_ble_eq_true rfl) (Nat.le_of_ble_eq_true rfl) (Nat.le_of_ble_eq_true rfl) (Nat.le_of_ble_eq_true rfl) dX2_readRule_61 (sX6_isWord (by decide : 8 < zSN) hM) (fun r h9 hq => ?_) (fun x h9 hq => hq.elim)
        obtain ⟨rfl, z35, rfl, hzz35, hM⟩ := hq
        refine zV_if_ne (tgt := 73) O dX2_readRule_64 (by decide) (fun hc => ?_) (fun hc => ?_)
        · replace hM := hM.1 hc
          exact sX2_readRule_b73 O hzz34 hM
        · replace hM := hM.2 hc
          refine zV_aload_n O dX2_readRule_67 rfl rfl ?_
          refine zV_iconst (z := 1) O ⟨by omega, by omega⟩ dX2_readRule_68 ?_
          refine zV_callV (as := [aI 1]) (st := []) O zc_X2_fail (Or.inl zl_RX2_56) zi_572 zi_14 zt_178 rfl rfl (by decide) (Nat.le_of_ble_eq_true rfl) rfl rfl (Nat.le_of_ble_eq_true rfl) (Nat.le_of_ble_eq_true rfl) (Nat.le_of_ble_eq_true rfl) (Nat.le_of_ble_eq_true rfl) (Nat.le_of_ble_eq_true rfl) (Nat.le_of_ble_eq_true rfl) dX2_readRule_69 (sX2_fail hM) (fun r h37 hq => ?_) (fun x h9 hq => hq.elim)
          obtain ⟨z36, rfl, hzz36, hM⟩ := hq
          exact zV_zret O rfl hzz36 ⟨_, rfl, hzz36, hM⟩ (Nat.le_of_ble_eq_true rfl) (Nat.le_of_ble_eq_true rfl) dX2_readRule_72
    · replace hM := hM.2 hc
      refine zV_iconst (z := 0) O ⟨by omega, by omega⟩ dX2_readRule_34 ?_
      exact zV_zret O rfl (Or.inl rfl) ⟨_, rfl, (Or.inl rfl), hM⟩ (Nat.le_of_ble_eq_true rfl) (Nat.le_of_ble_eq_true rfl) dX2_readRule_35
  · replace hM := hM.2 hc
    refine zV_aload_n O dX2_readRule_12 rfl rfl ?_
    refine zV_iconst (z := 3) O ⟨by omega, by omega⟩ dX2_readRule_13 ?_
    refine zV_callV (as := [aI 3]) (st := []) O zc_X2_fail (Or.inl zl_RX2_56) zi_572 zi_14 zt_178 rfl rfl (by decide) (Nat.le_of_ble_eq_true rfl) rfl rfl (Nat.le_of_ble_eq_true rfl) (Nat.le_of_ble_eq_true rfl) (Nat.le_of_ble_eq_true rfl) (Nat.le_of_ble_eq_true rfl) (Nat.le_of_ble_eq_true rfl) (Nat.le_of_ble_eq_true rfl) dX2_readRule_14 (sX2_fail hM) (fun r h39 hq => ?_) (fun x h9 hq => hq.elim)
    obtain ⟨z38, rfl, hzz38, hM⟩ := hq
    exact zV_zret O rfl hzz38 ⟨_, rfl, hzz38, hM⟩ (Nat.le_of_ble_eq_true rfl) (Nat.le_of_ble_eq_true rfl) dX2_readRule_17
def mX2_readText_b126 (Q : Int → Hp → Prop) (h : Hp) : Prop := (Q (h 178 2) h)
set_option maxHeartbeats 4000000 in
set_option maxRecDepth 100000 in
theorem sX2_readText_b126 {l0 : Launch} {a : ZC}  {Q : Int → Hp → Prop}  (O : zOk l0 a cX2_readText RX2 3 (some .int) 185 [])    {h : Hp}  (hM : mX2_readText_b126 Q h) : zV a (8, 0, 0, (qI Q), xN) 0 0 126 [some (aR 178), none, none] [] h := by
  unfold mX2_readText_b126 at hM
  refine zV_aload_n O dX2_readText_126 rfl rfl ?_
  refine zV_getI O zf_RX2_19 zt_178 rfl (by decide) dX2_readText_127 ?_
  exact zV_iret O rfl ⟨_, rfl, hM⟩ (Nat.le_of_ble_eq_true rfl) (Nat.le_of_ble_eq_true rfl) dX2_readText_130
def mX2_readText_b119 (Q : Int → Hp → Prop) (K19 : Int → Int → Hp → Prop) (v2 : Int) (s0 : Int) (h : Hp) : Prop := (zr (v2 + 1) ∧ (K19 s0 (v2 + 1) h))
set_option maxHeartbeats 4000000 in
set_option maxRecDepth 100000 in
theorem sX2_readText_b119 {l0 : Launch} {a : ZC}  {Q : Int → Hp → Prop} {K19 : Int → Int → Hp → Prop} (O : zOk l0 a cX2_readText RX2 3 (some .int) 185 [])  (hK19 : ∀ (v1 : Int) (v2 : Int) (h : Hp), (v1 = 0 ∨ v1 = 1) → K19 v1 v2 h → zV a (8, 0, 0, (qI Q), xN) 0 0 19 [some (aR 178), some (aI v1), some (aI v2)] [] h) {v2 : Int} {s0 : Int} {h : Hp} (hz_s0 : s0 = 0 ∨ s0 = 1) (hM : mX2_readText_b119 Q K19 v2 s0 h) : zV a (8, 0, 0, (qI Q), xN) 0 0 119 [some (aR 178), none, some (aI v2)] [aI s0] h := by
  unfold mX2_readText_b119 at hM
  refine zV_istore_n O dX2_readText_119 rfl (Nat.le_of_ble_eq_true rfl) rfl ?_
  obtain ⟨hc, hM⟩ := hM
  refine zV_iinc O dX2_readText_120 rfl (Nat.le_of_ble_eq_true rfl) rfl hc ?_
  refine zV_goto (tgt := 19) O dX2_readText_123 (by decide) ?_
  exact hK19 _ _ _ hz_s0 hM
def mX2_readText_b118 (Q : Int → Hp → Prop) (K19 : Int → Int → Hp → Prop) (v2 : Int) (h : Hp) : Prop := (mX2_readText_b119 Q K19 v2 0 h)
set_option maxHeartbeats 4000000 in
set_option maxRecDepth 100000 in
theorem sX2_readText_b118 {l0 : Launch} {a : ZC}  {Q : Int → Hp → Prop} {K19 : Int → Int → Hp → Prop} (O : zOk l0 a cX2_readText RX2 3 (some .int) 185 [])  (hK19 : ∀ (v1 : Int) (v2 : Int) (h : Hp), (v1 = 0 ∨ v1 = 1) → K19 v1 v2 h → zV a (8, 0, 0, (qI Q), xN) 0 0 19 [some (aR 178), some (aI v1), some (aI v2)] [] h) {v2 : Int} {h : Hp}  (hM : mX2_readText_b118 Q K19 v2 h) : zV a (8, 0, 0, (qI Q), xN) 0 0 118 [some (aR 178), none, some (aI v2)] [] h := by
  unfold mX2_readText_b118 at hM
  refine zV_iconst (z := 0) O ⟨by omega, by omega⟩ dX2_readText_118 ?_
  exact sX2_readText_b119 O hK19 (Or.inl rfl) hM
def mX2_readText_b102 (Q : Int → Hp → Prop) (K19 : Int → Int → Hp → Prop) (v2 : Int) (s0 : Int) (h : Hp) : Prop := ((s0 = 0 → (mX2_readText_b118 Q K19 v2 h)) ∧ (¬ s0 = 0 → (mX2_takeSemicolon h (fun z44 h45 => ((z44 = 0 → (mX2_readText_b118 Q K19 v2 h45)) ∧ (¬ z44 = 0 → (mX2_readText_b119 Q K19 v2 1 h45)))))))
set_option maxHeartbeats 4000000 in
set_option maxRecDepth 100000 in
theorem sX2_readText_b102 {l0 : Launch} {a : ZC}  {Q : Int → Hp → Prop} {K19 : Int → Int → Hp → Prop} (O : zOk l0 a cX2_readText RX2 3 (some .int) 185 [])  (hK19 : ∀ (v1 : Int) (v2 : Int) (h : Hp), (v1 = 0 ∨ v1 = 1) → K19 v1 v2 h → zV a (8, 0, 0, (qI Q), xN) 0 0 19 [some (aR 178), some (aI v1), some (aI v2)] [] h) {v2 : Int} {s0 : Int} {h : Hp} (hz_s0 : s0 = 0 ∨ s0 = 1) (hM : mX2_readText_b102 Q K19 v2 s0 h) : zV a (8, 0, 0, (qI Q), xN) 0 0 102 [some (aR 178), none, some (aI v2)] [aI s0] h := by
  unfold mX2_readText_b102 at hM
  refine zV_istore_n O dX2_readText_102 rfl (Nat.le_of_ble_eq_true rfl) rfl ?_
  refine zV_iload_n O dX2_readText_103 rfl rfl ?_
  refine zV_if_eq (tgt := 118) O dX2_readText_104 (by decide) (fun hc => ?_) (fun hc => ?_)
  · replace hM := hM.1 hc
    refine zV_sub (ls2 := [some (aR 178), none, some (aI v2)]) ⟨rfl, rfl, trivial⟩ ?_
    exact sX2_readText_b118 O hK19 hM
  · replace hM := hM.2 hc
    refine zV_aload_n O dX2_readText_107 rfl rfl ?_
    refine zV_callV (as := []) (st := []) O zc_X2_takeSemicolon (Or.inl zl_RX2_60) zi_600 zi_20 zt_178 rfl rfl (by decide) (Nat.le_of_ble_eq_true rfl) rfl rfl (Nat.le_of_ble_eq_true rfl) (Nat.le_of_ble_eq_true rfl) (Nat.le_of_ble_eq_true rfl) (Nat.le_of_ble_eq_true rfl) (Nat.le_of_ble_eq_true rfl) (Nat.le_of_ble_eq_true rfl) dX2_readText_108 (sX2_takeSemicolon hM) (fun r h45 hq => ?_) (fun x h9 hq => hq.elim)
    obtain ⟨z44, rfl, hzz44, hM⟩ := hq
    refine zV_if_eq (tgt := 118) O dX2_readText_111 (by decide) (fun hc => ?_) (fun hc => ?_)
    · replace hM := hM.1 hc
      refine zV_sub (ls2 := [some (aR 178), none, some (aI v2)]) ⟨rfl, rfl, trivial⟩ ?_
      exact sX2_readText_b118 O hK19 hM
    · replace hM := hM.2 hc
      refine zV_iconst (z := 1) O ⟨by omega, by omega⟩ dX2_readText_114 ?_
      refine zV_goto (tgt := 119) O dX2_readText_115 (by decide) ?_
      refine zV_sub (ls2 := [some (aR 178), none, some (aI v2)]) ⟨rfl, rfl, trivial⟩ ?_
      exact sX2_readText_b119 O hK19 (Or.inr rfl) hM
def mX2_readText_b19 (Q : Int → Hp → Prop) : Nat → Int → Int → Hp → Prop
  | 0 => fun _ _ _ => False
  | fu19 + 1 => fun v1 v2 h => ((v1 = 0 → (mX2_readText_b126 Q h)) ∧ (¬ v1 = 0 → (((900 : Int) ≤ v2 → (mX2_readText_b126 Q h)) ∧ (¬ (900 : Int) ≤ v2 → (((h 176 4) = 0 → (mX2_readText_b126 Q h)) ∧ (¬ (h 176 4) = 0 → (mX6_isWord 4 h (fun z46 => ((z46 = 0 → (mX6_isWord 6 h (fun z47 => ((z47 = 0 → (mX6_isWord 10 h (fun z48 => ((z48 = 0 → (mX2_fail 1 h (fun z49 h50 => (mX2_readText_b102 Q (mX2_readText_b19 Q fu19) v2 z49 h50)))) ∧ (¬ z48 = 0 → (mX2_readMove h (fun z51 h52 => (mX2_readText_b102 Q (mX2_readText_b19 Q fu19) v2 z51 h52)))))))) ∧ (¬ z47 = 0 → (mX2_readRule h (fun z53 h54 => (mX2_readText_b102 Q (mX2_readText_b19 Q fu19) v2 z53 h54)))))))) ∧ (¬ z46 = 0 → (mX2_readHost h (fun z55 h56 => (mX2_readText_b102 Q (mX2_readText_b19 Q fu19) v2 z55 h56)))))))))))))
set_option maxHeartbeats 4000000 in
set_option maxRecDepth 100000 in
theorem sX2_readText_b19 {l0 : Launch} {a : ZC}  {Q : Int → Hp → Prop}  (O : zOk l0 a cX2_readText RX2 3 (some .int) 185 [])   : ∀ (ff : Nat) (v1 : Int) (v2 : Int) (h : Hp), (v1 = 0 ∨ v1 = 1) → mX2_readText_b19 Q ff v1 v2 h → zV a (8, 0, 0, (qI Q), xN) 0 0 19 [some (aR 178), some (aI v1), some (aI v2)] [] h := by
  intro ff
  induction ff with
  | zero => intro v1 v2 h hz_v1 hM; exact hM.elim
  | succ ff ih =>
    have hK19 := ih
    intro v1 v2 h hz_v1 hM
    unfold mX2_readText_b19 at hM
    refine zV_iload_n O dX2_readText_19 rfl rfl ?_
    refine zV_if_eq (tgt := 126) O dX2_readText_20 (by decide) (fun hc => ?_) (fun hc => ?_)
    · replace hM := hM.1 hc
      refine zV_sub (ls2 := [some (aR 178), none, none]) ⟨rfl, trivial⟩ ?_
      exact sX2_readText_b126 O hM
    · replace hM := hM.2 hc
      refine zV_iload_n O dX2_readText_23 rfl rfl ?_
      refine zV_sipush (z := 900) O ⟨by omega, by omega⟩ rfl dX2_readText_24 ?_
      refine zV_icmp_ge (tgt := 126) O dX2_readText_27 (by decide) (fun hc => ?_) (fun hc => ?_)
      · replace hM := hM.1 hc
        refine zV_sub (ls2 := [some (aR 178), none, none]) ⟨rfl, trivial⟩ ?_
        exact sX2_readText_b126 O hM
      · replace hM := hM.2 hc
        refine zV_aload_n O dX2_readText_30 rfl rfl ?_
        refine zV_getR O zf_RX2_9 zt_178 rfl (by decide) dX2_readText_31 ?_
        refine zV_getI O zf_RX2_32 zt_176 rfl (by decide) dX2_readText_34 ?_
        refine zV_if_eq (tgt := 126) O dX2_readText_37 (by decide) (fun hc => ?_) (fun hc => ?_)
        · replace hM := hM.1 hc
          refine zV_sub (ls2 := [some (aR 178), none, none]) ⟨rfl, trivial⟩ ?_
          exact sX2_readText_b126 O hM
        · replace hM := hM.2 hc
          refine zV_aload_n O dX2_readText_40 rfl rfl ?_
          refine zV_getR O zf_RX2_9 zt_178 rfl (by decide) dX2_readText_41 ?_
          refine zV_ldcS (w := 4) O ⟨by decide, rfl, rfl⟩ dX2_readText_44 ?_
          refine zV_callV (as := [aR (1000 + 4)]) (st := []) O zc_X6_isWord (Or.inr ⟨_, zl_RX2_39⟩) zi_566 zi_13 zt_176 rfl rfl (by decide) (Nat.le_of_ble_eq_true rfl) rfl rfl (Nat.le_of_ble_eq_true rfl) (Nat.le_of_ble_eq_true rfl) (Nat.le_of_ble_eq_true rfl) (Nat.le_of_ble_eq_true rfl) (Nat.le_of_ble_eq_true rfl) (Nat.le_of_ble_eq_true rfl) dX2_readText_46 (sX6_isWord (by decide : 4 < zSN) hM) (fun r h9 hq => ?_) (fun x h9 hq => hq.elim)
          obtain ⟨rfl, z46, rfl, hzz46, hM⟩ := hq
          refine zV_if_eq (tgt := 59) O dX2_readText_49 (by decide) (fun hc => ?_) (fun hc => ?_)
          · replace hM := hM.1 hc
            refine zV_aload_n O dX2_readText_59 rfl rfl ?_
            refine zV_getR O zf_RX2_9 zt_178 rfl (by decide) dX2_readText_60 ?_
            refine zV_ldcS (w := 6) O ⟨by decide, rfl, rfl⟩ dX2_readText_63 ?_
            refine zV_callV (as := [aR (1000 + 6)]) (st := []) O zc_X6_isWord (Or.inr ⟨_, zl_RX2_39⟩) zi_566 zi_13 zt_176 rfl rfl (by decide) (Nat.le_of_ble_eq_true rfl) rfl rfl (Nat.le_of_ble_eq_true rfl) (Nat.le_of_ble_eq_true rfl) (Nat.le_of_ble_eq_true rfl) (Nat.le_of_ble_eq_true rfl) (Nat.le_of_ble_eq_true rfl) (Nat.le_of_ble_eq_true rfl) dX2_readText_65 (sX6_isWord (by decide : 6 < zSN) hM) (fun r h9 hq => ?_) (fun x h9 hq => hq.elim)
            obtain ⟨rfl, z47, rfl, hzz47, hM⟩ := hq
            refine zV_if_eq (tgt := 78) O dX2_readText_68 (by decide) (fun hc => ?_) (fun hc => ?_)
            · replace hM := hM.1 hc
              refine zV_aload_n O dX2_readText_78 rfl rfl ?_
              refine zV_getR O zf_RX2_9 zt_178 rfl (by decide) dX2_readText_79 ?_
              refine zV_ldcS (w := 10) O ⟨by decide, rfl, rfl⟩ dX2_readText_82 ?_
              refine zV_callV (as := [aR (1000 + 10)]) (st := []) O zc_X6_isWord (Or.inr ⟨_, zl_RX2_39⟩) zi_566 zi_13 zt_176 rfl rfl (by decide) (Nat.le_of_ble_eq_true rfl) rfl rfl (Nat.le_of_ble_eq_true rfl) (Nat.le_of_ble_eq_true rfl) (Nat.le_of_ble_eq_true rfl) (Nat.le_of_ble_eq_true rfl) (Nat.le_of_ble_eq_true rfl) (Nat.le_of_ble_eq_true rfl) dX2_readText_84 (sX6_isWord (by decide : 10 < zSN) hM) (fun r h9 hq => ?_) (fun x h9 hq => hq.elim)
              obtain ⟨rfl, z48, rfl, hzz48, hM⟩ := hq
              refine zV_if_eq (tgt := 97) O dX2_readText_87 (by decide) (fun hc => ?_) (fun hc => ?_)
              · replace hM := hM.1 hc
                refine zV_aload_n O dX2_readText_97 rfl rfl ?_
                refine zV_iconst (z := 1) O ⟨by omega, by omega⟩ dX2_readText_98 ?_
                refine zV_callV (as := [aI 1]) (st := []) O zc_X2_fail (Or.inl zl_RX2_56) zi_572 zi_14 zt_178 rfl rfl (by decide) (Nat.le_of_ble_eq_true rfl) rfl rfl (Nat.le_of_ble_eq_true rfl) (Nat.le_of_ble_eq_true rfl) (Nat.le_of_ble_eq_true rfl) (Nat.le_of_ble_eq_true rfl) (Nat.le_of_ble_eq_true rfl) (Nat.le_of_ble_eq_true rfl) dX2_readText_99 (sX2_fail hM) (fun r h50 hq => ?_) (fun x h9 hq => hq.elim)
                obtain ⟨z49, rfl, hzz49, hM⟩ := hq
                refine zV_sub (ls2 := [some (aR 178), none, some (aI v2)]) ⟨rfl, rfl, trivial⟩ ?_
                exact sX2_readText_b102 O hK19 hzz49 hM
              · replace hM := hM.2 hc
                refine zV_aload_n O dX2_readText_90 rfl rfl ?_
                refine zV_callV (as := []) (st := []) O zc_X2_readMove (Or.inl zl_RX2_53) zi_664 zi_34 zt_178 rfl rfl (by decide) (Nat.le_of_ble_eq_true rfl) rfl rfl (Nat.le_of_ble_eq_true rfl) (Nat.le_of_ble_eq_true rfl) (Nat.le_of_ble_eq_true rfl) (Nat.le_of_ble_eq_true rfl) (Nat.le_of_ble_eq_true rfl) (Nat.le_of_ble_eq_true rfl) dX2_readText_91 (sX2_readMove hM) (fun r h52 hq => ?_) (fun x h9 hq => hq.elim)
                obtain ⟨z51, rfl, hzz51, hM⟩ := hq
                refine zV_goto (tgt := 102) O dX2_readText_94 (by decide) ?_
                refine zV_sub (ls2 := [some (aR 178), none, some (aI v2)]) ⟨rfl, rfl, trivial⟩ ?_
                exact sX2_readText_b102 O hK19 hzz51 hM
            · replace hM := hM.2 hc
              refine zV_aload_n O dX2_readText_71 rfl rfl ?_
              refine zV_callV (as := []) (st := []) O zc_X2_readRule (Or.inl zl_RX2_48) zi_648 zi_31 zt_178 rfl rfl (by decide) (Nat.le_of_ble_eq_true rfl) rfl rfl (Nat.le_of_ble_eq_true rfl) (Nat.le_of_ble_eq_true rfl) (Nat.le_of_ble_eq_true rfl) (Nat.le_of_ble_eq_true rfl) (Nat.le_of_ble_eq_true rfl) (Nat.le_of_ble_eq_true rfl) dX2_readText_72 (sX2_readRule hM) (fun r h54 hq => ?_) (fun x h9 hq => hq.elim)
              obtain ⟨z53, rfl, hzz53, hM⟩ := hq
              refine zV_goto (tgt := 102) O dX2_readText_75 (by decide) ?_
              refine zV_sub (ls2 := [some (aR 178), none, some (aI v2)]) ⟨rfl, rfl, trivial⟩ ?_
              exact sX2_readText_b102 O hK19 hzz53 hM
          · replace hM := hM.2 hc
            refine zV_aload_n O dX2_readText_52 rfl rfl ?_
            refine zV_callV (as := []) (st := []) O zc_X2_readHost (Or.inl zl_RX2_43) zi_609 zi_22 zt_178 rfl rfl (by decide) (Nat.le_of_ble_eq_true rfl) rfl rfl (Nat.le_of_ble_eq_true rfl) (Nat.le_of_ble_eq_true rfl) (Nat.le_of_ble_eq_true rfl) (Nat.le_of_ble_eq_true rfl) (Nat.le_of_ble_eq_true rfl) (Nat.le_of_ble_eq_true rfl) dX2_readText_53 (sX2_readHost hM) (fun r h56 hq => ?_) (fun x h9 hq => hq.elim)
            obtain ⟨z55, rfl, hzz55, hM⟩ := hq
            refine zV_goto (tgt := 102) O dX2_readText_56 (by decide) ?_
            refine zV_sub (ls2 := [some (aR 178), none, some (aI v2)]) ⟨rfl, rfl, trivial⟩ ?_
            exact sX2_readText_b102 O hK19 hzz55 hM
def mX2_readText  (h : Hp) (Q : Int → Hp → Prop) : Prop := (∀ h57 : Hp, h57 = hu h 178 2 0 → (mX3_clear 13 h57 (fun h58 => (mX2_readHead h58 (fun z59 h60 => (∃ ff, mX2_readText_b19 Q ff z59 0 h60))))))
set_option maxHeartbeats 4000000 in
set_option maxRecDepth 100000 in
theorem sX2_readText {l0 : Launch}  {h : Hp} {Q : Int → Hp → Prop}  (hM : mX2_readText  h Q) : zSp l0 yX2_readText cX2_readText 3 (some .int) 185 (8) 0 0 [aR 178] h (qI Q) xN := by
  unfold mX2_readText at hM
  refine zSp_intro zpn_RX2 (Nat.le_of_ble_eq_true rfl) (fun a O => ?_)
  show zV a (8, 0, 0, (qI Q), xN) 0 0 0 [some (aR 178), none, none] [] h
  refine zV_aload_n O dX2_readText_0 rfl rfl ?_
  refine zV_iconst (z := 0) O ⟨by omega, by omega⟩ dX2_readText_1 ?_
  refine zV_putI O zf_RX2_19 zt_178 rfl (by decide) dX2_readText_2 ?_
  have hM := hM _ rfl
  generalize hu h 178 2 0 = h57 at hM ⊢
  refine zV_aload_n O dX2_readText_5 rfl rfl ?_
  refine zV_getR O zf_RX2_15 zt_178 rfl (by decide) dX2_readText_6 ?_
  refine zV_callV (as := []) (st := []) O zc_X3_clear (Or.inr ⟨_, zl_RX2_23⟩) zi_326 zi_0 (zN_o zisN_13) rfl rfl (zN_lt0 zisN_13) (Nat.le_of_ble_eq_true rfl) rfl rfl (Nat.le_of_ble_eq_true rfl) (Nat.le_of_ble_eq_true rfl) (Nat.le_of_ble_eq_true rfl) (Nat.le_of_ble_eq_true rfl) (Nat.le_of_ble_eq_true rfl) (Nat.le_of_ble_eq_true rfl) dX2_readText_9 (sX3_clear zisN_13 hM) (fun r h58 hq => ?_) (fun x h9 hq => hq.elim)
  obtain ⟨rfl, hM⟩ := hq
  refine zV_aload_n O dX2_readText_12 rfl rfl ?_
  refine zV_callV (as := []) (st := []) O zc_X2_readHead (Or.inl zl_RX2_28) zi_557 zi_11 zt_178 rfl rfl (by decide) (Nat.le_of_ble_eq_true rfl) rfl rfl (Nat.le_of_ble_eq_true rfl) (Nat.le_of_ble_eq_true rfl) (Nat.le_of_ble_eq_true rfl) (Nat.le_of_ble_eq_true rfl) (Nat.le_of_ble_eq_true rfl) (Nat.le_of_ble_eq_true rfl) dX2_readText_13 (sX2_readHead hM) (fun r h60 hq => ?_) (fun x h9 hq => hq.elim)
  obtain ⟨z59, rfl, hzz59, hM⟩ := hq
  refine zV_istore_n O dX2_readText_16 rfl (Nat.le_of_ble_eq_true rfl) rfl ?_
  refine zV_iconst (z := 0) O ⟨by omega, by omega⟩ dX2_readText_17 ?_
  refine zV_istore_n O dX2_readText_18 rfl (Nat.le_of_ble_eq_true rfl) rfl ?_
  obtain ⟨ff, hM⟩ := hM
  exact sX2_readText_b19 O ff _ _ _ hzz59 hM
