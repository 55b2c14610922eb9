def mL_holds__b3 (Q : Int → Hp → Prop) : Nat → Int → Hp → Prop
  | 0 => fun _ _ => False
  | fu3 + 1 => fun v2 h => (((32 : Int) ≤ v2 → (mL_isRight h (fun z23 h24 => (Q z23 h24)))) ∧ (¬ (32 : Int) ≤ v2 → (mL_isRight h (fun z25 h26 => ((z25 = 0 → (Q 0 h26)) ∧ (¬ z25 = 0 → (mL_isClashes h26 (fun z27 h28 => ((z27 = 0 → (Q 0 h28)) ∧ (¬ z27 = 0 → (mL_isWave h28 (fun z29 h30 => ((¬ z29 = 0 → (mL_cell v2 h30 (fun z31 => (mL_acts z31 h30 (fun z32 h33 => (zr (v2 + 1) ∧ ((mL_holds__b3 Q fu3) (v2 + 1) h33))))))) ∧ (z29 = 0 → (Q 0 h30)))))))))))))))
set_option maxHeartbeats 4000000 in
set_option maxRecDepth 100000 in
theorem sL_holds__b3 {l0 : Launch} {a : ZC}  {Q : Int → Hp → Prop}  (O : zOk l0 a cL_holds_ RL 4 (some .boolean) 187 []) (hN : a.2.2.2 = 187)   : ∀ (ff : Nat) (k n : Nat) (v2 : Int) (h : Hp), k + 2 * ff ≤ 30 → n + 80 * ff ≤ 1200 → mL_holds__b3 Q ff v2 h → zV a (9, 30, 1200, (qZ Q), xN) k n 3 [some (aR 169), some (aR 999), some (aI v2), none] [] h := by
  intro ff
  induction ff with
  | zero => intro k n v2 h hk hn hM; exact hM.elim
  | succ ff ih =>
    intro k n v2 h hk hn hM
    unfold mL_holds__b3 at hM
    refine zV_iload_n O dL_holds__3 rfl rfl ?_
    refine zV_bipush (z := 32) O ⟨by omega, by omega⟩ rfl dL_holds__4 ?_
    refine zV_icmp_ge (tgt := 48) O dL_holds__6 (by decide) (fun hc => ?_) (fun hc => ?_)
    · replace hM := hM.1 hc
      refine zV_aload_n O dL_holds__48 rfl rfl ?_
      refine zV_callS (as := [aR 169]) (st := []) O zc_L_isRight (Or.inl zl_RL_144) zi_743 (Nat.le_of_ble_eq_true rfl) rfl rfl (Nat.le_of_ble_eq_true rfl) (Nat.le_of_ble_eq_true rfl) (Nat.le_of_ble_eq_true rfl) (Nat.le_of_ble_eq_true rfl) (show _ ≤ 30 by omega) (show _ ≤ 1200 by omega) dL_holds__49 (sL_isRight hM) (fun r h24 hq => ?_) (fun x h9 hq => hq.elim)
      obtain ⟨z23, rfl, hzz23, hM⟩ := hq
      exact zV_zret O rfl hzz23 ⟨_, rfl, hzz23, hM⟩ (show _ ≤ 30 by omega) (show _ ≤ 1200 by omega) dL_holds__52
    · replace hM := hM.2 hc
      refine zV_aload_n O dL_holds__9 rfl rfl ?_
      refine zV_callS (as := [aR 169]) (st := []) O zc_L_isRight (Or.inl zl_RL_144) zi_743 (Nat.le_of_ble_eq_true rfl) rfl rfl (Nat.le_of_ble_eq_true rfl) (Nat.le_of_ble_eq_true rfl) (Nat.le_of_ble_eq_true rfl) (Nat.le_of_ble_eq_true rfl) (show _ ≤ 30 by omega) (show _ ≤ 1200 by omega) dL_holds__10 (sL_isRight hM) (fun r h26 hq => ?_) (fun x h9 hq => hq.elim)
      obtain ⟨z25, rfl, hzz25, hM⟩ := hq
      refine zV_if_eq (tgt := 30) O dL_holds__13 (by decide) (fun hc => ?_) (fun hc => ?_)
      · replace hM := hM.1 hc
        refine zV_iconst (z := 0) O ⟨by omega, by omega⟩ dL_holds__30 ?_
        exact zV_zret O rfl (Or.inl rfl) ⟨_, rfl, (Or.inl rfl), hM⟩ (show _ ≤ 30 by omega) (show _ ≤ 1200 by omega) dL_holds__31
      · replace hM := hM.2 hc
        refine zV_aload_n O dL_holds__16 rfl rfl ?_
        refine zV_callS (as := [aR 169]) (st := []) O zc_L_isClashes (Or.inl zl_RL_148) zi_761 (Nat.le_of_ble_eq_true rfl) rfl rfl (Nat.le_of_ble_eq_true rfl) (Nat.le_of_ble_eq_true rfl) (Nat.le_of_ble_eq_true rfl) (Nat.le_of_ble_eq_true rfl) (show _ ≤ 30 by omega) (show _ ≤ 1200 by omega) dL_holds__17 (sL_isClashes hM) (fun r h28 hq => ?_) (fun x h9 hq => hq.elim)
        obtain ⟨z27, rfl, hzz27, hM⟩ := hq
        refine zV_if_eq (tgt := 30) O dL_holds__20 (by decide) (fun hc => ?_) (fun hc => ?_)
        · replace hM := hM.1 hc
          refine zV_iconst (z := 0) O ⟨by omega, by omega⟩ dL_holds__30 ?_
          exact zV_zret O rfl (Or.inl rfl) ⟨_, rfl, (Or.inl rfl), hM⟩ (show _ ≤ 30 by omega) (show _ ≤ 1200 by omega) dL_holds__31
        · replace hM := hM.2 hc
          refine zV_aload_n O dL_holds__23 rfl rfl ?_
          refine zV_callS0 (as := [aR 169]) (st := []) O zc_L_isWave (Or.inl zl_RL_151) zi_783 rfl rfl (Nat.le_of_ble_eq_true rfl) (Nat.le_of_ble_eq_true rfl) (Nat.le_of_ble_eq_true rfl) (Nat.le_of_ble_eq_true rfl) (show _ ≤ 30 by omega) (show _ ≤ 1200 by omega) dL_holds__24 (zSpA_to (sL_isWave hM) hN) (fun r h30 hq => ?_) (fun x h9 hq => hq.elim)
          obtain ⟨z29, rfl, hzz29, hM⟩ := hq
          refine zV_if_ne (tgt := 32) O dL_holds__27 (by decide) (fun hc => ?_) (fun hc => ?_)
          · replace hM := hM.1 hc
            refine zV_aload_n O dL_holds__32 rfl rfl ?_
            refine zV_aload_n O dL_holds__33 rfl rfl ?_
            refine zV_iload_n O dL_holds__34 rfl rfl ?_
            refine zV_callS (as := [aR 999, aI v2]) (st := [aR 169]) O zc_L_cell (Or.inl zl_RL_40) zi_380 (Nat.le_of_ble_eq_true rfl) rfl rfl (Nat.le_of_ble_eq_true rfl) (Nat.le_of_ble_eq_true rfl) (Nat.le_of_ble_eq_true rfl) (Nat.le_of_ble_eq_true rfl) (show _ ≤ 30 by omega) (show _ ≤ 1200 by omega) dL_holds__35 (sL_cell hM) (fun r h9 hq => ?_) (fun x h9 hq => hq.elim)
            obtain ⟨rfl, z31, rfl, hM⟩ := hq
            refine zV_callS (as := [aR 169, aI z31]) (st := []) O zc_L_acts (Or.inl zl_RL_154) zi_854 (Nat.le_of_ble_eq_true rfl) rfl rfl (Nat.le_of_ble_eq_true rfl) (Nat.le_of_ble_eq_true rfl) (Nat.le_of_ble_eq_true rfl) (Nat.le_of_ble_eq_true rfl) (show _ ≤ 30 by omega) (show _ ≤ 1200 by omega) dL_holds__38 (sL_acts hM) (fun r h33 hq => ?_) (fun x h9 hq => hq.elim)
            obtain ⟨z32, rfl, hM⟩ := hq
            refine zV_istore_n O dL_holds__41 rfl (Nat.le_of_ble_eq_true rfl) rfl ?_
            obtain ⟨hc, hM⟩ := hM
            refine zV_iinc O dL_holds__42 rfl (Nat.le_of_ble_eq_true rfl) rfl hc ?_
            refine zV_goto (tgt := 3) O dL_holds__45 (by decide) ?_
            refine zV_sub (ls2 := [some (aR 169), some (aR 999), some (aI (v2 + 1)), none]) ⟨rfl, rfl, rfl, trivial⟩ ?_
            exact ih (k + 2) (n + 80) _ _ (by omega) (by omega) hM
          · replace hM := hM.2 hc
            refine zV_iconst (z := 0) O ⟨by omega, by omega⟩ dL_holds__30 ?_
            exact zV_zret O rfl (Or.inl rfl) ⟨_, rfl, (Or.inl rfl), hM⟩ (show _ ≤ 30 by omega) (show _ ≤ 1200 by omega) dL_holds__31
def mL_holds_  (h : Hp) (Q : Int → Hp → Prop) : Prop := (∃ ff, ff ≤ 15 ∧ mL_holds__b3 Q ff 18 h)
set_option maxHeartbeats 4000000 in
set_option maxRecDepth 100000 in
theorem sL_holds_ {l0 : Launch}  {h : Hp} {Q : Int → Hp → Prop}  (hM : mL_holds_  h Q) : zSpA l0 yL_holds_ cL_holds_ 4 (some .boolean) (9) 30 1200 [aR 169, aR 999] h (qZ Q) xN 187 := by
  unfold mL_holds_ at hM
  refine zSpA_intro zpn_RL (Nat.le_of_ble_eq_true rfl) (fun a O hN => ?_)
  show zV a (9, 30, 1200, (qZ Q), xN) 0 0 0 [some (aR 169), some (aR 999), none, none] [] h
  refine zV_bipush (z := 18) O ⟨by omega, by omega⟩ rfl dL_holds__0 ?_
  refine zV_istore_n O dL_holds__2 rfl (Nat.le_of_ble_eq_true rfl) rfl ?_
  obtain ⟨ff, hf, hM⟩ := hM
  exact sL_holds__b3 O hN ff 0 0 _ _ (by omega) (by omega) hM
