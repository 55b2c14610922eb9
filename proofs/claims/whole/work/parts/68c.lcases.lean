/-! the law's cases 17 to 29 -/
set_option maxHeartbeats 4000000 in
set_option maxRecDepth 100000 in
theorem tW_17 {l0 : Launch} {a : ZC} {b : Nat} {L : Int} {sc : Int → Int} {k n : Nat} {v4 : Int} {h : Hp} (O : zOk l0 a cL_law RL 9 (some .boolean) 198 []) (hS : zScr a b L sc) (hz : ∀ i : Int, 0 ≤ i ∧ i < L → zr (sc i)) (hk : k ≤ 600000) (hn : n ≤ 7200000) (hL : L ≤ 3072) (hv : 0 ≤ v4) (hw : v4 + 6 ≤ L) (hi : inv h) (hK : ∀ (k2 n2 : Nat) (h : Hp), k2 ≤ k + 3 → n2 ≤ n + 18 → inv h → zV a (2048, 601024, 7293034, (qZ (fun z _ => z = 1)), xN) k2 n2 2046 [some (aA (b + 1)), some (aR 169), some (aR 185), some (aR 197), some (aI v4), none, none, none, none] [] h) : zV a (2048, 601024, 7293034, (qZ (fun z _ => z = 1)), xN) k n 1077 [some (aA (b + 1)), some (aR 169), some (aR 185), some (aR 197), some (aI v4), none, none, none, none] [] h := by
  refine zV_aload_n O dL_law_1077 rfl rfl ?_
  refine zV_aloadS O dL_law_1078 rfl rfl ?_
  refine zV_iload O dL_law_1079 rfl ?_
  refine zV_iconst (z := 1) O ⟨by omega, by omega⟩ dL_law_1081 ?_
  refine zV_iadd O dL_law_1082 (zri (by omega) (by omega)) ?_
  refine zV_sld O hS ⟨by omega, by omega⟩ dL_law_1083 ?_
  refine zV_aload_n O dL_law_1084 rfl rfl ?_
  refine zV_callSH (as := [aR 169, aI (sc (v4 + 1)), aR 197]) (st := []) O zch_L_clashesIn.1 zch_L_clashesIn.2.1 zch_L_clashesIn.2.2.1 zch_L_clashesIn.2.2.2 zl_RL_156 zi_1103 (by first | exact Nat.le_of_ble_eq_true rfl | (show _ ≤ 601024; omega) | (show _ ≤ 7293034; omega)) rfl rfl (by first | exact Nat.le_of_ble_eq_true rfl | (show _ ≤ 601024; omega) | (show _ ≤ 7293034; omega)) (by first | exact Nat.le_of_ble_eq_true rfl | (show _ ≤ 601024; omega) | (show _ ≤ 7293034; omega)) (by first | exact Nat.le_of_ble_eq_true rfl | (show _ ≤ 601024; omega) | (show _ ≤ 7293034; omega)) (by first | exact Nat.le_of_ble_eq_true rfl | (show _ ≤ 601024; omega) | (show _ ≤ 7293034; omega)) (by first | exact Nat.le_of_ble_eq_true rfl | (show _ ≤ 601024; omega) | (show _ ≤ 7293034; omega)) (by first | exact Nat.le_of_ble_eq_true rfl | (show _ ≤ 601024; omega) | (show _ ≤ 7293034; omega)) dL_law_1085 (sL_clashesIn (c_clashesIn hi)) (fun r h2 hq => ?_) (fun x h9 hq => hq.elim)
  obtain ⟨z1, rfl, hM⟩ := hq
  refine zV_istore O dL_law_1088 (by first | exact Nat.le_of_ble_eq_true rfl | (show _ ≤ 601024; omega) | (show _ ≤ 7293034; omega)) rfl ?_
  refine zV_aload_n O dL_law_1090 rfl rfl ?_
  refine zV_aloadS O dL_law_1091 rfl rfl ?_
  refine zV_iload O dL_law_1092 rfl ?_
  refine zV_iconst (z := 1) O ⟨by omega, by omega⟩ dL_law_1094 ?_
  refine zV_iadd O dL_law_1095 (zri (by omega) (by omega)) ?_
  refine zV_sld O hS ⟨by omega, by omega⟩ dL_law_1096 ?_
  refine zV_callV (as := [aI (sc (v4 + 1))]) (st := []) O zc_X8_clashesIn (Or.inl zl_RL_158) zi_1727 zi_1728 zt_185 rfl rfl (by decide) (by first | exact Nat.le_of_ble_eq_true rfl | (show _ ≤ 601024; omega) | (show _ ≤ 7293034; omega)) rfl rfl (by first | exact Nat.le_of_ble_eq_true rfl | (show _ ≤ 601024; omega) | (show _ ≤ 7293034; omega)) (by first | exact Nat.le_of_ble_eq_true rfl | (show _ ≤ 601024; omega) | (show _ ≤ 7293034; omega)) (by first | exact Nat.le_of_ble_eq_true rfl | (show _ ≤ 601024; omega) | (show _ ≤ 7293034; omega)) (by first | exact Nat.le_of_ble_eq_true rfl | (show _ ≤ 601024; omega) | (show _ ≤ 7293034; omega)) (by first | exact Nat.le_of_ble_eq_true rfl | (show _ ≤ 601024; omega) | (show _ ≤ 7293034; omega)) (by first | exact Nat.le_of_ble_eq_true rfl | (show _ ≤ 601024; omega) | (show _ ≤ 7293034; omega)) dL_law_1097 (sX8_clashesIn hM) (fun r h4 hq => ?_) (fun x h9 hq => hq.elim)
  obtain ⟨z3, rfl, hM⟩ := hq
  have hA := hM
  refine zV_istore O dL_law_1100 (by first | exact Nat.le_of_ble_eq_true rfl | (show _ ≤ 601024; omega) | (show _ ≤ 7293034; omega)) rfl ?_
  refine zV_aload_n O dL_law_1102 rfl rfl ?_
  refine zV_callV (as := []) (st := []) O zc_X8_thrown (Or.inl zl_RL_100) zi_1295 zi_1296 zt_185 rfl rfl (by decide) (by first | exact Nat.le_of_ble_eq_true rfl | (show _ ≤ 601024; omega) | (show _ ≤ 7293034; omega)) rfl rfl (by first | exact Nat.le_of_ble_eq_true rfl | (show _ ≤ 601024; omega) | (show _ ≤ 7293034; omega)) (by first | exact Nat.le_of_ble_eq_true rfl | (show _ ≤ 601024; omega) | (show _ ≤ 7293034; omega)) (by first | exact Nat.le_of_ble_eq_true rfl | (show _ ≤ 601024; omega) | (show _ ≤ 7293034; omega)) (by first | exact Nat.le_of_ble_eq_true rfl | (show _ ≤ 601024; omega) | (show _ ≤ 7293034; omega)) (by first | exact Nat.le_of_ble_eq_true rfl | (show _ ≤ 601024; omega) | (show _ ≤ 7293034; omega)) (by first | exact Nat.le_of_ble_eq_true rfl | (show _ ≤ 601024; omega) | (show _ ≤ 7293034; omega)) dL_law_1103 (sX8_thrown (Q := fun z => z = h4 185 0) rfl) (fun r h9 hq => ?_) (fun x h9 hq => hq.elim)
  obtain ⟨rfl, z5, rfl, hM⟩ := hq
  have hT := hM
  refine zV_iload O dL_law_1106 rfl ?_
  refine zV_icmp_eq (tgt := 1113) O dL_law_1108 (by decide) (fun hc => ?_) (fun hc => ?_)
  · refine zV_iload O dL_law_1113 rfl ?_
    refine zV_if_ne (tgt := 1130) O dL_law_1115 (by decide) (fun hc => ?_) (fun hc => ?_)
    · refine zV_goto (tgt := 2046) O dL_law_1130 (by decide) ?_
      refine zV_sub (ls2 := [some (aA (b + 1)), some (aR 169), some (aR 185), some (aR 197), some (aI v4), none, none, none, none]) ⟨rfl, rfl, rfl, rfl, rfl, trivial⟩ ?_
      exact hK _ _ _ (by omega) (by omega) hA.1
    · have hk0 := hc
      refine zV_aload_n O dL_law_1118 rfl rfl ?_
      refine zV_iconst (z := 0) O ⟨by omega, by omega⟩ dL_law_1119 ?_
      refine zV_lald O zt_197 (by decide) ⟨by omega, by omega⟩ dL_law_1120 ?_
      refine zV_iload O dL_law_1121 rfl ?_
      refine zV_i2l O dL_law_1123 ?_
      refine zV_lcmp O dL_law_1124 ?_
      refine zV_if_eq (tgt := 1130) O dL_law_1125 (by decide) (fun hc => ?_) (fun hc => ?_)
      · refine zV_goto (tgt := 2046) O dL_law_1130 (by decide) ?_
        refine zV_sub (ls2 := [some (aA (b + 1)), some (aR 169), some (aR 185), some (aR 197), some (aI v4), none, none, none, none]) ⟨rfl, rfl, rfl, rfl, rfl, trivial⟩ ?_
        exact hK _ _ _ (by omega) (by omega) hA.1
      · exact absurd (zlc_eq (hA.2.2 hk0)) hc
  · exact absurd (hT.trans hA.2.1) hc
set_option maxHeartbeats 4000000 in
set_option maxRecDepth 100000 in
theorem tW_18 {l0 : Launch} {a : ZC} {b : Nat} {L : Int} {sc : Int → Int} {k n : Nat} {v4 : Int} {h : Hp} (O : zOk l0 a cL_law RL 9 (some .boolean) 198 []) (hS : zScr a b L sc) (hz : ∀ i : Int, 0 ≤ i ∧ i < L → zr (sc i)) (hk : k ≤ 600000) (hn : n ≤ 7200000) (hL : L ≤ 3072) (hv : 0 ≤ v4) (hw : v4 + 6 ≤ L) (hi : inv h) (hK : ∀ (k2 n2 : Nat) (h : Hp), k2 ≤ k + 3 → n2 ≤ n + 18 → inv h → zV a (2048, 601024, 7293034, (qZ (fun z _ => z = 1)), xN) k2 n2 2046 [some (aA (b + 1)), some (aR 169), some (aR 185), some (aR 197), some (aI v4), none, none, none, none] [] h) : zV a (2048, 601024, 7293034, (qZ (fun z _ => z = 1)), xN) k n 1133 [some (aA (b + 1)), some (aR 169), some (aR 185), some (aR 197), some (aI v4), none, none, none, none] [] h := by
  refine zV_aload_n O dL_law_1133 rfl rfl ?_
  refine zV_callV (as := []) (st := []) O zc_X7_openIn (Or.inl zl_RL_159) zi_592 zi_593 zt_169 rfl rfl (by decide) (by first | exact Nat.le_of_ble_eq_true rfl | (show _ ≤ 601024; omega) | (show _ ≤ 7293034; omega)) rfl rfl (by first | exact Nat.le_of_ble_eq_true rfl | (show _ ≤ 601024; omega) | (show _ ≤ 7293034; omega)) (by first | exact Nat.le_of_ble_eq_true rfl | (show _ ≤ 601024; omega) | (show _ ≤ 7293034; omega)) (by first | exact Nat.le_of_ble_eq_true rfl | (show _ ≤ 601024; omega) | (show _ ≤ 7293034; omega)) (by first | exact Nat.le_of_ble_eq_true rfl | (show _ ≤ 601024; omega) | (show _ ≤ 7293034; omega)) (by first | exact Nat.le_of_ble_eq_true rfl | (show _ ≤ 601024; omega) | (show _ ≤ 7293034; omega)) (by first | exact Nat.le_of_ble_eq_true rfl | (show _ ≤ 601024; omega) | (show _ ≤ 7293034; omega)) dL_law_1134 (sX7_openIn (c_openIn hi)) (fun r h2 hq => ?_) (fun x h9 hq => hq.elim)
  obtain ⟨z1, rfl, hM⟩ := hq
  refine zV_aload_n O dL_law_1137 rfl rfl ?_
  refine zV_callV (as := []) (st := [aI z1]) O zc_X8_openIn (Or.inl zl_RL_162) zi_1731 zi_1732 zt_185 rfl rfl (by decide) (by first | exact Nat.le_of_ble_eq_true rfl | (show _ ≤ 601024; omega) | (show _ ≤ 7293034; omega)) rfl rfl (by first | exact Nat.le_of_ble_eq_true rfl | (show _ ≤ 601024; omega) | (show _ ≤ 7293034; omega)) (by first | exact Nat.le_of_ble_eq_true rfl | (show _ ≤ 601024; omega) | (show _ ≤ 7293034; omega)) (by first | exact Nat.le_of_ble_eq_true rfl | (show _ ≤ 601024; omega) | (show _ ≤ 7293034; omega)) (by first | exact Nat.le_of_ble_eq_true rfl | (show _ ≤ 601024; omega) | (show _ ≤ 7293034; omega)) (by first | exact Nat.le_of_ble_eq_true rfl | (show _ ≤ 601024; omega) | (show _ ≤ 7293034; omega)) (by first | exact Nat.le_of_ble_eq_true rfl | (show _ ≤ 601024; omega) | (show _ ≤ 7293034; omega)) dL_law_1138 (sX8_openIn hM) (fun r h4 hq => ?_) (fun x h9 hq => hq.elim)
  obtain ⟨z3, rfl, hM⟩ := hq
  have hA := hM
  refine zV_icmp_eq (tgt := 2046) O dL_law_1141 (by decide) (fun hc => ?_) (fun hc => ?_)
  · refine zV_sub (ls2 := [some (aA (b + 1)), some (aR 169), some (aR 185), some (aR 197), some (aI v4), none, none, none, none]) ⟨rfl, rfl, rfl, rfl, rfl, trivial⟩ ?_
    exact hK _ _ _ (by omega) (by omega) hA.1
  · exact absurd hA.2 hc
set_option maxHeartbeats 4000000 in
set_option maxRecDepth 100000 in
theorem tW_19 {l0 : Launch} {a : ZC} {b : Nat} {L : Int} {sc : Int → Int} {k n : Nat} {v4 : Int} {h : Hp} (O : zOk l0 a cL_law RL 9 (some .boolean) 198 []) (hS : zScr a b L sc) (hz : ∀ i : Int, 0 ≤ i ∧ i < L → zr (sc i)) (hk : k ≤ 600000) (hn : n ≤ 7200000) (hL : L ≤ 3072) (hv : 0 ≤ v4) (hw : v4 + 6 ≤ L) (hi : inv h) (hK : ∀ (k2 n2 : Nat) (h : Hp), k2 ≤ k + 3 → n2 ≤ n + 18 → inv h → zV a (2048, 601024, 7293034, (qZ (fun z _ => z = 1)), xN) k2 n2 2046 [some (aA (b + 1)), some (aR 169), some (aR 185), some (aR 197), some (aI v4), none, none, none, none] [] h) : zV a (2048, 601024, 7293034, (qZ (fun z _ => z = 1)), xN) k n 1146 [some (aA (b + 1)), some (aR 169), some (aR 185), some (aR 197), some (aI v4), none, none, none, none] [] h := by
  refine zV_aload_n O dL_law_1146 rfl rfl ?_
  refine zV_callV (as := []) (st := []) O zc_X7_movedShare (Or.inl zl_RL_163) zi_604 zi_605 zt_169 rfl rfl (by decide) (by first | exact Nat.le_of_ble_eq_true rfl | (show _ ≤ 601024; omega) | (show _ ≤ 7293034; omega)) rfl rfl (by first | exact Nat.le_of_ble_eq_true rfl | (show _ ≤ 601024; omega) | (show _ ≤ 7293034; omega)) (by first | exact Nat.le_of_ble_eq_true rfl | (show _ ≤ 601024; omega) | (show _ ≤ 7293034; omega)) (by first | exact Nat.le_of_ble_eq_true rfl | (show _ ≤ 601024; omega) | (show _ ≤ 7293034; omega)) (by first | exact Nat.le_of_ble_eq_true rfl | (show _ ≤ 601024; omega) | (show _ ≤ 7293034; omega)) (by first | exact Nat.le_of_ble_eq_true rfl | (show _ ≤ 601024; omega) | (show _ ≤ 7293034; omega)) (by first | exact Nat.le_of_ble_eq_true rfl | (show _ ≤ 601024; omega) | (show _ ≤ 7293034; omega)) dL_law_1147 (sX7_movedShare (c_movedShare2 hi)) (fun r h9 hq => ?_) (fun x h9 hq => hq.elim)
  obtain ⟨rfl, z1, rfl, hM⟩ := hq
  obtain ⟨hf, hM⟩ := hM
  refine zV_f2d O dL_law_1150 hf ?_
  refine zV_dstore O dL_law_1151 (by first | exact Nat.le_of_ble_eq_true rfl | (show _ ≤ 601024; omega) | (show _ ≤ 7293034; omega)) rfl ?_
  refine zV_aload_n O dL_law_1153 rfl rfl ?_
  refine zV_callV (as := []) (st := []) O zc_X8_movedShare (Or.inl zl_RL_167) zi_1735 zi_1736 zt_185 rfl rfl (by decide) (by first | exact Nat.le_of_ble_eq_true rfl | (show _ ≤ 601024; omega) | (show _ ≤ 7293034; omega)) rfl rfl (by first | exact Nat.le_of_ble_eq_true rfl | (show _ ≤ 601024; omega) | (show _ ≤ 7293034; omega)) (by first | exact Nat.le_of_ble_eq_true rfl | (show _ ≤ 601024; omega) | (show _ ≤ 7293034; omega)) (by first | exact Nat.le_of_ble_eq_true rfl | (show _ ≤ 601024; omega) | (show _ ≤ 7293034; omega)) (by first | exact Nat.le_of_ble_eq_true rfl | (show _ ≤ 601024; omega) | (show _ ≤ 7293034; omega)) (by first | exact Nat.le_of_ble_eq_true rfl | (show _ ≤ 601024; omega) | (show _ ≤ 7293034; omega)) (by first | exact Nat.le_of_ble_eq_true rfl | (show _ ≤ 601024; omega) | (show _ ≤ 7293034; omega)) dL_law_1154 (sX8_movedShare hM) (fun r h3 hq => ?_) (fun x h9 hq => hq.elim)
  obtain ⟨z2, rfl, hM⟩ := hq
  obtain ⟨hA, hE⟩ := hM
  subst hE
  refine zV_f2d O dL_law_1157 hf ?_
  refine zV_dstore O dL_law_1158 (by first | exact Nat.le_of_ble_eq_true rfl | (show _ ≤ 601024; omega) | (show _ ≤ 7293034; omega)) rfl ?_
  refine zV_dload O dL_law_1160 rfl ?_
  refine zV_dload O dL_law_1162 rfl ?_
  refine zV_dcmp O dL_law_1164 ?_
  refine zV_if_eq (tgt := 1186) O dL_law_1165 (by decide) (fun hc => ?_) (fun hc => ?_)
  · refine zV_goto (tgt := 2046) O dL_law_1186 (by decide) ?_
    refine zV_sub (ls2 := [some (aA (b + 1)), some (aR 169), some (aR 185), some (aR 197), some (aI v4), none, none, none, none]) ⟨rfl, rfl, rfl, rfl, rfl, trivial⟩ ?_
    exact hK _ _ _ (by omega) (by omega) hA
  · have hn := hc
    refine zV_dload O dL_law_1168 rfl ?_
    refine zV_dload O dL_law_1170 rfl ?_
    refine zV_dcmp O dL_law_1172 ?_
    refine zV_if_eq (tgt := 1184) O dL_law_1173 (by decide) (fun hc => ?_) (fun hc => ?_)
    · exact absurd hc hn
    · refine zV_dload O dL_law_1176 rfl ?_
      refine zV_dload O dL_law_1178 rfl ?_
      refine zV_dcmp O dL_law_1180 ?_
      refine zV_if_ne (tgt := 1186) O dL_law_1181 (by decide) (fun hc => ?_) (fun hc => ?_)
      · refine zV_goto (tgt := 2046) O dL_law_1186 (by decide) ?_
        refine zV_sub (ls2 := [some (aA (b + 1)), some (aR 169), some (aR 185), some (aR 197), some (aI v4), none, none, none, none]) ⟨rfl, rfl, rfl, rfl, rfl, trivial⟩ ?_
        exact hK _ _ _ (by omega) (by omega) hA
      · exact absurd hc hn
set_option maxHeartbeats 4000000 in
set_option maxRecDepth 100000 in
theorem tW_20 {l0 : Launch} {a : ZC} {b : Nat} {L : Int} {sc : Int → Int} {k n : Nat} {v4 : Int} {h : Hp} (O : zOk l0 a cL_law RL 9 (some .boolean) 198 []) (hS : zScr a b L sc) (hz : ∀ i : Int, 0 ≤ i ∧ i < L → zr (sc i)) (hk : k ≤ 600000) (hn : n ≤ 7200000) (hL : L ≤ 3072) (hv : 0 ≤ v4) (hw : v4 + 6 ≤ L) (hi : inv h) (hK : ∀ (k2 n2 : Nat) (h : Hp), k2 ≤ k + 3 → n2 ≤ n + 18 → inv h → zV a (2048, 601024, 7293034, (qZ (fun z _ => z = 1)), xN) k2 n2 2046 [some (aA (b + 1)), some (aR 169), some (aR 185), some (aR 197), some (aI v4), none, none, none, none] [] h) : zV a (2048, 601024, 7293034, (qZ (fun z _ => z = 1)), xN) k n 1189 [some (aA (b + 1)), some (aR 169), some (aR 185), some (aR 197), some (aI v4), none, none, none, none] [] h := by
  refine zV_aload_n O dL_law_1189 rfl rfl ?_
  refine zV_callV (as := []) (st := []) O zc_X7_meanReach (Or.inl zl_RL_168) zi_612 zi_613 zt_169 rfl rfl (by decide) (by first | exact Nat.le_of_ble_eq_true rfl | (show _ ≤ 601024; omega) | (show _ ≤ 7293034; omega)) rfl rfl (by first | exact Nat.le_of_ble_eq_true rfl | (show _ ≤ 601024; omega) | (show _ ≤ 7293034; omega)) (by first | exact Nat.le_of_ble_eq_true rfl | (show _ ≤ 601024; omega) | (show _ ≤ 7293034; omega)) (by first | exact Nat.le_of_ble_eq_true rfl | (show _ ≤ 601024; omega) | (show _ ≤ 7293034; omega)) (by first | exact Nat.le_of_ble_eq_true rfl | (show _ ≤ 601024; omega) | (show _ ≤ 7293034; omega)) (by first | exact Nat.le_of_ble_eq_true rfl | (show _ ≤ 601024; omega) | (show _ ≤ 7293034; omega)) (by first | exact Nat.le_of_ble_eq_true rfl | (show _ ≤ 601024; omega) | (show _ ≤ 7293034; omega)) dL_law_1190 (sX7_meanReach (c_meanReach hi)) (fun r h9 hq => ?_) (fun x h9 hq => hq.elim)
  obtain ⟨rfl, z1, rfl, hM⟩ := hq
  refine zV_dstore O dL_law_1193 (by first | exact Nat.le_of_ble_eq_true rfl | (show _ ≤ 601024; omega) | (show _ ≤ 7293034; omega)) rfl ?_
  refine zV_aload_n O dL_law_1195 rfl rfl ?_
  refine zV_callV (as := []) (st := []) O zc_X8_meanReach (Or.inl zl_RL_172) zi_1739 zi_1740 zt_185 rfl rfl (by decide) (by first | exact Nat.le_of_ble_eq_true rfl | (show _ ≤ 601024; omega) | (show _ ≤ 7293034; omega)) rfl rfl (by first | exact Nat.le_of_ble_eq_true rfl | (show _ ≤ 601024; omega) | (show _ ≤ 7293034; omega)) (by first | exact Nat.le_of_ble_eq_true rfl | (show _ ≤ 601024; omega) | (show _ ≤ 7293034; omega)) (by first | exact Nat.le_of_ble_eq_true rfl | (show _ ≤ 601024; omega) | (show _ ≤ 7293034; omega)) (by first | exact Nat.le_of_ble_eq_true rfl | (show _ ≤ 601024; omega) | (show _ ≤ 7293034; omega)) (by first | exact Nat.le_of_ble_eq_true rfl | (show _ ≤ 601024; omega) | (show _ ≤ 7293034; omega)) (by first | exact Nat.le_of_ble_eq_true rfl | (show _ ≤ 601024; omega) | (show _ ≤ 7293034; omega)) dL_law_1196 (sX8_meanReach hM) (fun r h3 hq => ?_) (fun x h9 hq => hq.elim)
  obtain ⟨z2, rfl, hM⟩ := hq
  obtain ⟨hA, hE⟩ := hM
  subst hE
  refine zV_dstore O dL_law_1199 (by first | exact Nat.le_of_ble_eq_true rfl | (show _ ≤ 601024; omega) | (show _ ≤ 7293034; omega)) rfl ?_
  refine zV_dload O dL_law_1201 rfl ?_
  refine zV_dload O dL_law_1203 rfl ?_
  refine zV_dcmp O dL_law_1205 ?_
  refine zV_if_eq (tgt := 1227) O dL_law_1206 (by decide) (fun hc => ?_) (fun hc => ?_)
  · refine zV_goto (tgt := 2046) O dL_law_1227 (by decide) ?_
    refine zV_sub (ls2 := [some (aA (b + 1)), some (aR 169), some (aR 185), some (aR 197), some (aI v4), none, none, none, none]) ⟨rfl, rfl, rfl, rfl, rfl, trivial⟩ ?_
    exact hK _ _ _ (by omega) (by omega) hA
  · have hn := hc
    refine zV_dload O dL_law_1209 rfl ?_
    refine zV_dload O dL_law_1211 rfl ?_
    refine zV_dcmp O dL_law_1213 ?_
    refine zV_if_eq (tgt := 1225) O dL_law_1214 (by decide) (fun hc => ?_) (fun hc => ?_)
    · exact absurd hc hn
    · refine zV_dload O dL_law_1217 rfl ?_
      refine zV_dload O dL_law_1219 rfl ?_
      refine zV_dcmp O dL_law_1221 ?_
      refine zV_if_ne (tgt := 1227) O dL_law_1222 (by decide) (fun hc => ?_) (fun hc => ?_)
      · refine zV_goto (tgt := 2046) O dL_law_1227 (by decide) ?_
        refine zV_sub (ls2 := [some (aA (b + 1)), some (aR 169), some (aR 185), some (aR 197), some (aI v4), none, none, none, none]) ⟨rfl, rfl, rfl, rfl, rfl, trivial⟩ ?_
        exact hK _ _ _ (by omega) (by omega) hA
      · exact absurd hc hn
set_option maxHeartbeats 4000000 in
set_option maxRecDepth 100000 in
theorem tW_21 {l0 : Launch} {a : ZC} {b : Nat} {L : Int} {sc : Int → Int} {k n : Nat} {v4 : Int} {h : Hp} (O : zOk l0 a cL_law RL 9 (some .boolean) 198 []) (hS : zScr a b L sc) (hz : ∀ i : Int, 0 ≤ i ∧ i < L → zr (sc i)) (hk : k ≤ 600000) (hn : n ≤ 7200000) (hL : L ≤ 3072) (hv : 0 ≤ v4) (hw : v4 + 6 ≤ L) (hi : inv h) (hK : ∀ (k2 n2 : Nat) (h : Hp), k2 ≤ k + 3 → n2 ≤ n + 18 → inv h → zV a (2048, 601024, 7293034, (qZ (fun z _ => z = 1)), xN) k2 n2 2046 [some (aA (b + 1)), some (aR 169), some (aR 185), some (aR 197), some (aI v4), none, none, none, none] [] h) : zV a (2048, 601024, 7293034, (qZ (fun z _ => z = 1)), xN) k n 1230 [some (aA (b + 1)), some (aR 169), some (aR 185), some (aR 197), some (aI v4), none, none, none, none] [] h := by
  refine zV_aload_n O dL_law_1230 rfl rfl ?_
  refine zV_aloadS O dL_law_1231 rfl rfl ?_
  refine zV_iload O dL_law_1232 rfl ?_
  refine zV_iconst (z := 1) O ⟨by omega, by omega⟩ dL_law_1234 ?_
  refine zV_iadd O dL_law_1235 (zri (by omega) (by omega)) ?_
  refine zV_sld O hS ⟨by omega, by omega⟩ dL_law_1236 ?_
  refine zV_aloadS O dL_law_1237 rfl rfl ?_
  refine zV_iload O dL_law_1238 rfl ?_
  refine zV_iconst (z := 2) O ⟨by omega, by omega⟩ dL_law_1240 ?_
  refine zV_iadd O dL_law_1241 (zri (by omega) (by omega)) ?_
  refine zV_sld O hS ⟨by omega, by omega⟩ dL_law_1242 ?_
  refine zV_aload_n O dL_law_1243 rfl rfl ?_
  refine zV_callSH (as := [aR 169, aI (sc (v4 + 1)), aI (sc (v4 + 2)), aR 197]) (st := []) O zch_L_addHost.1 zch_L_addHost.2.1 zch_L_addHost.2.2.1 zch_L_addHost.2.2.2 zl_RL_173 zi_1110 (by first | exact Nat.le_of_ble_eq_true rfl | (show _ ≤ 601024; omega) | (show _ ≤ 7293034; omega)) rfl rfl (by first | exact Nat.le_of_ble_eq_true rfl | (show _ ≤ 601024; omega) | (show _ ≤ 7293034; omega)) (by first | exact Nat.le_of_ble_eq_true rfl | (show _ ≤ 601024; omega) | (show _ ≤ 7293034; omega)) (by first | exact Nat.le_of_ble_eq_true rfl | (show _ ≤ 601024; omega) | (show _ ≤ 7293034; omega)) (by first | exact Nat.le_of_ble_eq_true rfl | (show _ ≤ 601024; omega) | (show _ ≤ 7293034; omega)) (by first | exact Nat.le_of_ble_eq_true rfl | (show _ ≤ 601024; omega) | (show _ ≤ 7293034; omega)) (by first | exact Nat.le_of_ble_eq_true rfl | (show _ ≤ 601024; omega) | (show _ ≤ 7293034; omega)) dL_law_1244 (sL_addHost (c_addHost hi)) (fun r h2 hq => ?_) (fun x h9 hq => hq.elim)
  obtain ⟨z1, rfl, hM⟩ := hq
  refine zV_istore O dL_law_1247 (by first | exact Nat.le_of_ble_eq_true rfl | (show _ ≤ 601024; omega) | (show _ ≤ 7293034; omega)) rfl ?_
  refine zV_aload_n O dL_law_1249 rfl rfl ?_
  refine zV_aloadS O dL_law_1250 rfl rfl ?_
  refine zV_iload O dL_law_1251 rfl ?_
  refine zV_iconst (z := 1) O ⟨by omega, by omega⟩ dL_law_1253 ?_
  refine zV_iadd O dL_law_1254 (zri (by omega) (by omega)) ?_
  refine zV_sld O hS ⟨by omega, by omega⟩ dL_law_1255 ?_
  refine zV_aloadS O dL_law_1256 rfl rfl ?_
  refine zV_iload O dL_law_1257 rfl ?_
  refine zV_iconst (z := 2) O ⟨by omega, by omega⟩ dL_law_1259 ?_
  refine zV_iadd O dL_law_1260 (zri (by omega) (by omega)) ?_
  refine zV_sld O hS ⟨by omega, by omega⟩ dL_law_1261 ?_
  refine zV_callV (as := [aI (sc (v4 + 1)), aI (sc (v4 + 2))]) (st := []) O zc_X8_addHost (Or.inl zl_RL_175) zi_1743 zi_1744 zt_185 rfl rfl (by decide) (by first | exact Nat.le_of_ble_eq_true rfl | (show _ ≤ 601024; omega) | (show _ ≤ 7293034; omega)) rfl rfl (by first | exact Nat.le_of_ble_eq_true rfl | (show _ ≤ 601024; omega) | (show _ ≤ 7293034; omega)) (by first | exact Nat.le_of_ble_eq_true rfl | (show _ ≤ 601024; omega) | (show _ ≤ 7293034; omega)) (by first | exact Nat.le_of_ble_eq_true rfl | (show _ ≤ 601024; omega) | (show _ ≤ 7293034; omega)) (by first | exact Nat.le_of_ble_eq_true rfl | (show _ ≤ 601024; omega) | (show _ ≤ 7293034; omega)) (by first | exact Nat.le_of_ble_eq_true rfl | (show _ ≤ 601024; omega) | (show _ ≤ 7293034; omega)) (by first | exact Nat.le_of_ble_eq_true rfl | (show _ ≤ 601024; omega) | (show _ ≤ 7293034; omega)) dL_law_1262 (sX8_addHost hM) (fun r h4 hq => ?_) (fun x h9 hq => hq.elim)
  obtain ⟨z3, rfl, hM⟩ := hq
  have hA := hM
  refine zV_istore O dL_law_1265 (by first | exact Nat.le_of_ble_eq_true rfl | (show _ ≤ 601024; omega) | (show _ ≤ 7293034; omega)) rfl ?_
  refine zV_aload_n O dL_law_1267 rfl rfl ?_
  refine zV_callV (as := []) (st := []) O zc_X8_thrown (Or.inl zl_RL_100) zi_1295 zi_1296 zt_185 rfl rfl (by decide) (by first | exact Nat.le_of_ble_eq_true rfl | (show _ ≤ 601024; omega) | (show _ ≤ 7293034; omega)) rfl rfl (by first | exact Nat.le_of_ble_eq_true rfl | (show _ ≤ 601024; omega) | (show _ ≤ 7293034; omega)) (by first | exact Nat.le_of_ble_eq_true rfl | (show _ ≤ 601024; omega) | (show _ ≤ 7293034; omega)) (by first | exact Nat.le_of_ble_eq_true rfl | (show _ ≤ 601024; omega) | (show _ ≤ 7293034; omega)) (by first | exact Nat.le_of_ble_eq_true rfl | (show _ ≤ 601024; omega) | (show _ ≤ 7293034; omega)) (by first | exact Nat.le_of_ble_eq_true rfl | (show _ ≤ 601024; omega) | (show _ ≤ 7293034; omega)) (by first | exact Nat.le_of_ble_eq_true rfl | (show _ ≤ 601024; omega) | (show _ ≤ 7293034; omega)) dL_law_1268 (sX8_thrown (Q := fun z => z = h4 185 0) rfl) (fun r h9 hq => ?_) (fun x h9 hq => hq.elim)
  obtain ⟨rfl, z5, rfl, hM⟩ := hq
  have hT := hM
  refine zV_iload O dL_law_1271 rfl ?_
  refine zV_icmp_eq (tgt := 1278) O dL_law_1273 (by decide) (fun hc => ?_) (fun hc => ?_)
  · refine zV_iload O dL_law_1278 rfl ?_
    refine zV_if_ne (tgt := 1295) O dL_law_1280 (by decide) (fun hc => ?_) (fun hc => ?_)
    · refine zV_goto (tgt := 2046) O dL_law_1295 (by decide) ?_
      refine zV_sub (ls2 := [some (aA (b + 1)), some (aR 169), some (aR 185), some (aR 197), some (aI v4), none, none, none, none]) ⟨rfl, rfl, rfl, rfl, rfl, trivial⟩ ?_
      exact hK _ _ _ (by omega) (by omega) hA.1
    · have hk0 := hc
      refine zV_aload_n O dL_law_1283 rfl rfl ?_
      refine zV_iconst (z := 0) O ⟨by omega, by omega⟩ dL_law_1284 ?_
      refine zV_lald O zt_197 (by decide) ⟨by omega, by omega⟩ dL_law_1285 ?_
      refine zV_iload O dL_law_1286 rfl ?_
      refine zV_i2l O dL_law_1288 ?_
      refine zV_lcmp O dL_law_1289 ?_
      refine zV_if_eq (tgt := 1295) O dL_law_1290 (by decide) (fun hc => ?_) (fun hc => ?_)
      · refine zV_goto (tgt := 2046) O dL_law_1295 (by decide) ?_
        refine zV_sub (ls2 := [some (aA (b + 1)), some (aR 169), some (aR 185), some (aR 197), some (aI v4), none, none, none, none]) ⟨rfl, rfl, rfl, rfl, rfl, trivial⟩ ?_
        exact hK _ _ _ (by omega) (by omega) hA.1
      · exact absurd (zlc_eq (hA.2.2 hk0)) hc
  · exact absurd (hT.trans hA.2.1) hc
set_option maxHeartbeats 4000000 in
set_option maxRecDepth 100000 in
theorem tW_22 {l0 : Launch} {a : ZC} {b : Nat} {L : Int} {sc : Int → Int} {k n : Nat} {v4 : Int} {h : Hp} (O : zOk l0 a cL_law RL 9 (some .boolean) 198 []) (hS : zScr a b L sc) (hz : ∀ i : Int, 0 ≤ i ∧ i < L → zr (sc i)) (hk : k ≤ 600000) (hn : n ≤ 7200000) (hL : L ≤ 3072) (hv : 0 ≤ v4) (hw : v4 + 6 ≤ L) (hi : inv h) (hK : ∀ (k2 n2 : Nat) (h : Hp), k2 ≤ k + 3 → n2 ≤ n + 18 → inv h → zV a (2048, 601024, 7293034, (qZ (fun z _ => z = 1)), xN) k2 n2 2046 [some (aA (b + 1)), some (aR 169), some (aR 185), some (aR 197), some (aI v4), none, none, none, none] [] h) : zV a (2048, 601024, 7293034, (qZ (fun z _ => z = 1)), xN) k n 1298 [some (aA (b + 1)), some (aR 169), some (aR 185), some (aR 197), some (aI v4), none, none, none, none] [] h := by
  refine zV_aload_n O dL_law_1298 rfl rfl ?_
  refine zV_aloadS O dL_law_1299 rfl rfl ?_
  refine zV_iload O dL_law_1300 rfl ?_
  refine zV_iconst (z := 1) O ⟨by omega, by omega⟩ dL_law_1302 ?_
  refine zV_iadd O dL_law_1303 (zri (by omega) (by omega)) ?_
  refine zV_sld O hS ⟨by omega, by omega⟩ dL_law_1304 ?_
  refine zV_aload_n O dL_law_1305 rfl rfl ?_
  refine zV_callSH (as := [aR 169, aI (sc (v4 + 1)), aR 197]) (st := []) O zch_L_removeHost.1 zch_L_removeHost.2.1 zch_L_removeHost.2.2.1 zch_L_removeHost.2.2.2 zl_RL_176 zi_1119 (by first | exact Nat.le_of_ble_eq_true rfl | (show _ ≤ 601024; omega) | (show _ ≤ 7293034; omega)) rfl rfl (by first | exact Nat.le_of_ble_eq_true rfl | (show _ ≤ 601024; omega) | (show _ ≤ 7293034; omega)) (by first | exact Nat.le_of_ble_eq_true rfl | (show _ ≤ 601024; omega) | (show _ ≤ 7293034; omega)) (by first | exact Nat.le_of_ble_eq_true rfl | (show _ ≤ 601024; omega) | (show _ ≤ 7293034; omega)) (by first | exact Nat.le_of_ble_eq_true rfl | (show _ ≤ 601024; omega) | (show _ ≤ 7293034; omega)) (by first | exact Nat.le_of_ble_eq_true rfl | (show _ ≤ 601024; omega) | (show _ ≤ 7293034; omega)) (by first | exact Nat.le_of_ble_eq_true rfl | (show _ ≤ 601024; omega) | (show _ ≤ 7293034; omega)) dL_law_1306 (sL_removeHost (c_removeHost hi)) (fun r h2 hq => ?_) (fun x h9 hq => hq.elim)
  obtain ⟨z1, rfl, hM⟩ := hq
  refine zV_istore O dL_law_1309 (by first | exact Nat.le_of_ble_eq_true rfl | (show _ ≤ 601024; omega) | (show _ ≤ 7293034; omega)) rfl ?_
  refine zV_aload_n O dL_law_1311 rfl rfl ?_
  refine zV_aloadS O dL_law_1312 rfl rfl ?_
  refine zV_iload O dL_law_1313 rfl ?_
  refine zV_iconst (z := 1) O ⟨by omega, by omega⟩ dL_law_1315 ?_
  refine zV_iadd O dL_law_1316 (zri (by omega) (by omega)) ?_
  refine zV_sld O hS ⟨by omega, by omega⟩ dL_law_1317 ?_
  refine zV_callV (as := [aI (sc (v4 + 1))]) (st := []) O zc_X8_removeHost (Or.inl zl_RL_178) zi_1755 zi_1756 zt_185 rfl rfl (by decide) (by first | exact Nat.le_of_ble_eq_true rfl | (show _ ≤ 601024; omega) | (show _ ≤ 7293034; omega)) rfl rfl (by first | exact Nat.le_of_ble_eq_true rfl | (show _ ≤ 601024; omega) | (show _ ≤ 7293034; omega)) (by first | exact Nat.le_of_ble_eq_true rfl | (show _ ≤ 601024; omega) | (show _ ≤ 7293034; omega)) (by first | exact Nat.le_of_ble_eq_true rfl | (show _ ≤ 601024; omega) | (show _ ≤ 7293034; omega)) (by first | exact Nat.le_of_ble_eq_true rfl | (show _ ≤ 601024; omega) | (show _ ≤ 7293034; omega)) (by first | exact Nat.le_of_ble_eq_true rfl | (show _ ≤ 601024; omega) | (show _ ≤ 7293034; omega)) (by first | exact Nat.le_of_ble_eq_true rfl | (show _ ≤ 601024; omega) | (show _ ≤ 7293034; omega)) dL_law_1318 (sX8_removeHost hM) (fun r h4 hq => ?_) (fun x h9 hq => hq.elim)
  obtain ⟨z3, rfl, hM⟩ := hq
  have hA := hM
  refine zV_istore O dL_law_1321 (by first | exact Nat.le_of_ble_eq_true rfl | (show _ ≤ 601024; omega) | (show _ ≤ 7293034; omega)) rfl ?_
  refine zV_aload_n O dL_law_1323 rfl rfl ?_
  refine zV_callV (as := []) (st := []) O zc_X8_thrown (Or.inl zl_RL_100) zi_1295 zi_1296 zt_185 rfl rfl (by decide) (by first | exact Nat.le_of_ble_eq_true rfl | (show _ ≤ 601024; omega) | (show _ ≤ 7293034; omega)) rfl rfl (by first | exact Nat.le_of_ble_eq_true rfl | (show _ ≤ 601024; omega) | (show _ ≤ 7293034; omega)) (by first | exact Nat.le_of_ble_eq_true rfl | (show _ ≤ 601024; omega) | (show _ ≤ 7293034; omega)) (by first | exact Nat.le_of_ble_eq_true rfl | (show _ ≤ 601024; omega) | (show _ ≤ 7293034; omega)) (by first | exact Nat.le_of_ble_eq_true rfl | (show _ ≤ 601024; omega) | (show _ ≤ 7293034; omega)) (by first | exact Nat.le_of_ble_eq_true rfl | (show _ ≤ 601024; omega) | (show _ ≤ 7293034; omega)) (by first | exact Nat.le_of_ble_eq_true rfl | (show _ ≤ 601024; omega) | (show _ ≤ 7293034; omega)) dL_law_1324 (sX8_thrown (Q := fun z => z = h4 185 0) rfl) (fun r h9 hq => ?_) (fun x h9 hq => hq.elim)
  obtain ⟨rfl, z5, rfl, hM⟩ := hq
  have hT := hM
  refine zV_iload O dL_law_1327 rfl ?_
  refine zV_icmp_eq (tgt := 1334) O dL_law_1329 (by decide) (fun hc => ?_) (fun hc => ?_)
  · refine zV_iload O dL_law_1334 rfl ?_
    refine zV_if_ne (tgt := 1351) O dL_law_1336 (by decide) (fun hc => ?_) (fun hc => ?_)
    · refine zV_goto (tgt := 2046) O dL_law_1351 (by decide) ?_
      refine zV_sub (ls2 := [some (aA (b + 1)), some (aR 169), some (aR 185), some (aR 197), some (aI v4), none, none, none, none]) ⟨rfl, rfl, rfl, rfl, rfl, trivial⟩ ?_
      exact hK _ _ _ (by omega) (by omega) hA.1
    · have hk0 := hc
      refine zV_aload_n O dL_law_1339 rfl rfl ?_
      refine zV_iconst (z := 0) O ⟨by omega, by omega⟩ dL_law_1340 ?_
      refine zV_lald O zt_197 (by decide) ⟨by omega, by omega⟩ dL_law_1341 ?_
      refine zV_iload O dL_law_1342 rfl ?_
      refine zV_i2l O dL_law_1344 ?_
      refine zV_lcmp O dL_law_1345 ?_
      refine zV_if_eq (tgt := 1351) O dL_law_1346 (by decide) (fun hc => ?_) (fun hc => ?_)
      · refine zV_goto (tgt := 2046) O dL_law_1351 (by decide) ?_
        refine zV_sub (ls2 := [some (aA (b + 1)), some (aR 169), some (aR 185), some (aR 197), some (aI v4), none, none, none, none]) ⟨rfl, rfl, rfl, rfl, rfl, trivial⟩ ?_
        exact hK _ _ _ (by omega) (by omega) hA.1
      · exact absurd (zlc_eq (hA.2.2 hk0)) hc
  · exact absurd (hT.trans hA.2.1) hc
set_option maxHeartbeats 4000000 in
set_option maxRecDepth 100000 in
theorem tW_23 {l0 : Launch} {a : ZC} {b : Nat} {L : Int} {sc : Int → Int} {k n : Nat} {v4 : Int} {h : Hp} (O : zOk l0 a cL_law RL 9 (some .boolean) 198 []) (hS : zScr a b L sc) (hz : ∀ i : Int, 0 ≤ i ∧ i < L → zr (sc i)) (hk : k ≤ 600000) (hn : n ≤ 7200000) (hL : L ≤ 3072) (hv : 0 ≤ v4) (hw : v4 + 6 ≤ L) (hi : inv h) (hK : ∀ (k2 n2 : Nat) (h : Hp), k2 ≤ k + 3 → n2 ≤ n + 18 → inv h → zV a (2048, 601024, 7293034, (qZ (fun z _ => z = 1)), xN) k2 n2 2046 [some (aA (b + 1)), some (aR 169), some (aR 185), some (aR 197), some (aI v4), none, none, none, none] [] h) : zV a (2048, 601024, 7293034, (qZ (fun z _ => z = 1)), xN) k n 1354 [some (aA (b + 1)), some (aR 169), some (aR 185), some (aR 197), some (aI v4), none, none, none, none] [] h := by
  refine zV_aload_n O dL_law_1354 rfl rfl ?_
  refine zV_aloadS O dL_law_1355 rfl rfl ?_
  refine zV_iload O dL_law_1356 rfl ?_
  refine zV_iconst (z := 1) O ⟨by omega, by omega⟩ dL_law_1358 ?_
  refine zV_iadd O dL_law_1359 (zri (by omega) (by omega)) ?_
  refine zV_sld O hS ⟨by omega, by omega⟩ dL_law_1360 ?_
  refine zV_aloadS O dL_law_1361 rfl rfl ?_
  refine zV_iload O dL_law_1362 rfl ?_
  refine zV_iconst (z := 2) O ⟨by omega, by omega⟩ dL_law_1364 ?_
  refine zV_iadd O dL_law_1365 (zri (by omega) (by omega)) ?_
  refine zV_sld O hS ⟨by omega, by omega⟩ dL_law_1366 ?_
  refine zV_aloadS O dL_law_1367 rfl rfl ?_
  refine zV_iload O dL_law_1368 rfl ?_
  refine zV_iconst (z := 3) O ⟨by omega, by omega⟩ dL_law_1370 ?_
  refine zV_iadd O dL_law_1371 (zri (by omega) (by omega)) ?_
  refine zV_sld O hS ⟨by omega, by omega⟩ dL_law_1372 ?_
  refine zV_aload_n O dL_law_1373 rfl rfl ?_
  refine zV_callSH (as := [aR 169, aI (sc (v4 + 1)), aI (sc (v4 + 2)), aI (sc (v4 + 3)), aR 197]) (st := []) O zch_L_plan.1 zch_L_plan.2.1 zch_L_plan.2.2.1 zch_L_plan.2.2.2 zl_RL_179 zi_1130 (by first | exact Nat.le_of_ble_eq_true rfl | (show _ ≤ 601024; omega) | (show _ ≤ 7293034; omega)) rfl rfl (by first | exact Nat.le_of_ble_eq_true rfl | (show _ ≤ 601024; omega) | (show _ ≤ 7293034; omega)) (by first | exact Nat.le_of_ble_eq_true rfl | (show _ ≤ 601024; omega) | (show _ ≤ 7293034; omega)) (by first | exact Nat.le_of_ble_eq_true rfl | (show _ ≤ 601024; omega) | (show _ ≤ 7293034; omega)) (by first | exact Nat.le_of_ble_eq_true rfl | (show _ ≤ 601024; omega) | (show _ ≤ 7293034; omega)) (by first | exact Nat.le_of_ble_eq_true rfl | (show _ ≤ 601024; omega) | (show _ ≤ 7293034; omega)) (by first | exact Nat.le_of_ble_eq_true rfl | (show _ ≤ 601024; omega) | (show _ ≤ 7293034; omega)) dL_law_1374 (sL_plan (c_plan hi)) (fun r h2 hq => ?_) (fun x h9 hq => hq.elim)
  obtain ⟨z1, rfl, hM⟩ := hq
  refine zV_istore O dL_law_1377 (by first | exact Nat.le_of_ble_eq_true rfl | (show _ ≤ 601024; omega) | (show _ ≤ 7293034; omega)) rfl ?_
  refine zV_aload_n O dL_law_1379 rfl rfl ?_
  refine zV_aloadS O dL_law_1380 rfl rfl ?_
  refine zV_iload O dL_law_1381 rfl ?_
  refine zV_iconst (z := 1) O ⟨by omega, by omega⟩ dL_law_1383 ?_
  refine zV_iadd O dL_law_1384 (zri (by omega) (by omega)) ?_
  refine zV_sld O hS ⟨by omega, by omega⟩ dL_law_1385 ?_
  refine zV_aloadS O dL_law_1386 rfl rfl ?_
  refine zV_iload O dL_law_1387 rfl ?_
  refine zV_iconst (z := 2) O ⟨by omega, by omega⟩ dL_law_1389 ?_
  refine zV_iadd O dL_law_1390 (zri (by omega) (by omega)) ?_
  refine zV_sld O hS ⟨by omega, by omega⟩ dL_law_1391 ?_
  refine zV_aloadS O dL_law_1392 rfl rfl ?_
  refine zV_iload O dL_law_1393 rfl ?_
  refine zV_iconst (z := 3) O ⟨by omega, by omega⟩ dL_law_1395 ?_
  refine zV_iadd O dL_law_1396 (zri (by omega) (by omega)) ?_
  refine zV_sld O hS ⟨by omega, by omega⟩ dL_law_1397 ?_
  refine zV_callV (as := [aI (sc (v4 + 1)), aI (sc (v4 + 2)), aI (sc (v4 + 3))]) (st := []) O zc_X8_plan (Or.inl zl_RL_181) zi_1759 zi_1760 zt_185 rfl rfl (by decide) (by first | exact Nat.le_of_ble_eq_true rfl | (show _ ≤ 601024; omega) | (show _ ≤ 7293034; omega)) rfl rfl (by first | exact Nat.le_of_ble_eq_true rfl | (show _ ≤ 601024; omega) | (show _ ≤ 7293034; omega)) (by first | exact Nat.le_of_ble_eq_true rfl | (show _ ≤ 601024; omega) | (show _ ≤ 7293034; omega)) (by first | exact Nat.le_of_ble_eq_true rfl | (show _ ≤ 601024; omega) | (show _ ≤ 7293034; omega)) (by first | exact Nat.le_of_ble_eq_true rfl | (show _ ≤ 601024; omega) | (show _ ≤ 7293034; omega)) (by first | exact Nat.le_of_ble_eq_true rfl | (show _ ≤ 601024; omega) | (show _ ≤ 7293034; omega)) (by first | exact Nat.le_of_ble_eq_true rfl | (show _ ≤ 601024; omega) | (show _ ≤ 7293034; omega)) dL_law_1398 (sX8_plan hM) (fun r h4 hq => ?_) (fun x h9 hq => hq.elim)
  obtain ⟨z3, rfl, hM⟩ := hq
  have hA := hM
  refine zV_istore O dL_law_1401 (by first | exact Nat.le_of_ble_eq_true rfl | (show _ ≤ 601024; omega) | (show _ ≤ 7293034; omega)) rfl ?_
  refine zV_aload_n O dL_law_1403 rfl rfl ?_
  refine zV_callV (as := []) (st := []) O zc_X8_thrown (Or.inl zl_RL_100) zi_1295 zi_1296 zt_185 rfl rfl (by decide) (by first | exact Nat.le_of_ble_eq_true rfl | (show _ ≤ 601024; omega) | (show _ ≤ 7293034; omega)) rfl rfl (by first | exact Nat.le_of_ble_eq_true rfl | (show _ ≤ 601024; omega) | (show _ ≤ 7293034; omega)) (by first | exact Nat.le_of_ble_eq_true rfl | (show _ ≤ 601024; omega) | (show _ ≤ 7293034; omega)) (by first | exact Nat.le_of_ble_eq_true rfl | (show _ ≤ 601024; omega) | (show _ ≤ 7293034; omega)) (by first | exact Nat.le_of_ble_eq_true rfl | (show _ ≤ 601024; omega) | (show _ ≤ 7293034; omega)) (by first | exact Nat.le_of_ble_eq_true rfl | (show _ ≤ 601024; omega) | (show _ ≤ 7293034; omega)) (by first | exact Nat.le_of_ble_eq_true rfl | (show _ ≤ 601024; omega) | (show _ ≤ 7293034; omega)) dL_law_1404 (sX8_thrown (Q := fun z => z = h4 185 0) rfl) (fun r h9 hq => ?_) (fun x h9 hq => hq.elim)
  obtain ⟨rfl, z5, rfl, hM⟩ := hq
  have hT := hM
  refine zV_iload O dL_law_1407 rfl ?_
  refine zV_icmp_eq (tgt := 1414) O dL_law_1409 (by decide) (fun hc => ?_) (fun hc => ?_)
  · refine zV_iload O dL_law_1414 rfl ?_
    refine zV_if_ne (tgt := 1431) O dL_law_1416 (by decide) (fun hc => ?_) (fun hc => ?_)
    · refine zV_goto (tgt := 2046) O dL_law_1431 (by decide) ?_
      refine zV_sub (ls2 := [some (aA (b + 1)), some (aR 169), some (aR 185), some (aR 197), some (aI v4), none, none, none, none]) ⟨rfl, rfl, rfl, rfl, rfl, trivial⟩ ?_
      exact hK _ _ _ (by omega) (by omega) hA.1
    · have hk0 := hc
      refine zV_aload_n O dL_law_1419 rfl rfl ?_
      refine zV_iconst (z := 0) O ⟨by omega, by omega⟩ dL_law_1420 ?_
      refine zV_lald O zt_197 (by decide) ⟨by omega, by omega⟩ dL_law_1421 ?_
      refine zV_iload O dL_law_1422 rfl ?_
      refine zV_i2l O dL_law_1424 ?_
      refine zV_lcmp O dL_law_1425 ?_
      refine zV_if_eq (tgt := 1431) O dL_law_1426 (by decide) (fun hc => ?_) (fun hc => ?_)
      · refine zV_goto (tgt := 2046) O dL_law_1431 (by decide) ?_
        refine zV_sub (ls2 := [some (aA (b + 1)), some (aR 169), some (aR 185), some (aR 197), some (aI v4), none, none, none, none]) ⟨rfl, rfl, rfl, rfl, rfl, trivial⟩ ?_
        exact hK _ _ _ (by omega) (by omega) hA.1
      · exact absurd (zlc_eq (hA.2.2 hk0)) hc
  · exact absurd (hT.trans hA.2.1) hc
set_option maxHeartbeats 4000000 in
set_option maxRecDepth 100000 in
theorem tW_24 {l0 : Launch} {a : ZC} {b : Nat} {L : Int} {sc : Int → Int} {k n : Nat} {v4 : Int} {h : Hp} (O : zOk l0 a cL_law RL 9 (some .boolean) 198 []) (hS : zScr a b L sc) (hz : ∀ i : Int, 0 ≤ i ∧ i < L → zr (sc i)) (hk : k ≤ 600000) (hn : n ≤ 7200000) (hL : L ≤ 3072) (hv : 0 ≤ v4) (hw : v4 + 6 ≤ L) (hi : inv h) (hK : ∀ (k2 n2 : Nat) (h : Hp), k2 ≤ k + 3 → n2 ≤ n + 18 → inv h → zV a (2048, 601024, 7293034, (qZ (fun z _ => z = 1)), xN) k2 n2 2046 [some (aA (b + 1)), some (aR 169), some (aR 185), some (aR 197), some (aI v4), none, none, none, none] [] h) : zV a (2048, 601024, 7293034, (qZ (fun z _ => z = 1)), xN) k n 1434 [some (aA (b + 1)), some (aR 169), some (aR 185), some (aR 197), some (aI v4), none, none, none, none] [] h := by
  refine zV_aload_n O dL_law_1434 rfl rfl ?_
  refine zV_aloadS O dL_law_1435 rfl rfl ?_
  refine zV_iload O dL_law_1436 rfl ?_
  refine zV_iconst (z := 1) O ⟨by omega, by omega⟩ dL_law_1438 ?_
  refine zV_iadd O dL_law_1439 (zri (by omega) (by omega)) ?_
  refine zV_sld O hS ⟨by omega, by omega⟩ dL_law_1440 ?_
  refine zV_aload_n O dL_law_1441 rfl rfl ?_
  refine zV_callSH (as := [aR 169, aI (sc (v4 + 1)), aR 197]) (st := []) O zch_L_unplan.1 zch_L_unplan.2.1 zch_L_unplan.2.2.1 zch_L_unplan.2.2.2 zl_RL_182 zi_1137 (by first | exact Nat.le_of_ble_eq_true rfl | (show _ ≤ 601024; omega) | (show _ ≤ 7293034; omega)) rfl rfl (by first | exact Nat.le_of_ble_eq_true rfl | (show _ ≤ 601024; omega) | (show _ ≤ 7293034; omega)) (by first | exact Nat.le_of_ble_eq_true rfl | (show _ ≤ 601024; omega) | (show _ ≤ 7293034; omega)) (by first | exact Nat.le_of_ble_eq_true rfl | (show _ ≤ 601024; omega) | (show _ ≤ 7293034; omega)) (by first | exact Nat.le_of_ble_eq_true rfl | (show _ ≤ 601024; omega) | (show _ ≤ 7293034; omega)) (by first | exact Nat.le_of_ble_eq_true rfl | (show _ ≤ 601024; omega) | (show _ ≤ 7293034; omega)) (by first | exact Nat.le_of_ble_eq_true rfl | (show _ ≤ 601024; omega) | (show _ ≤ 7293034; omega)) dL_law_1442 (sL_unplan (c_unplan hi)) (fun r h2 hq => ?_) (fun x h9 hq => hq.elim)
  obtain ⟨z1, rfl, hM⟩ := hq
  refine zV_istore O dL_law_1445 (by first | exact Nat.le_of_ble_eq_true rfl | (show _ ≤ 601024; omega) | (show _ ≤ 7293034; omega)) rfl ?_
  refine zV_aload_n O dL_law_1447 rfl rfl ?_
  refine zV_aloadS O dL_law_1448 rfl rfl ?_
  refine zV_iload O dL_law_1449 rfl ?_
  refine zV_iconst (z := 1) O ⟨by omega, by omega⟩ dL_law_1451 ?_
  refine zV_iadd O dL_law_1452 (zri (by omega) (by omega)) ?_
  refine zV_sld O hS ⟨by omega, by omega⟩ dL_law_1453 ?_
  refine zV_callV (as := [aI (sc (v4 + 1))]) (st := []) O zc_X8_unplan (Or.inl zl_RL_184) zi_1763 zi_1764 zt_185 rfl rfl (by decide) (by first | exact Nat.le_of_ble_eq_true rfl | (show _ ≤ 601024; omega) | (show _ ≤ 7293034; omega)) rfl rfl (by first | exact Nat.le_of_ble_eq_true rfl | (show _ ≤ 601024; omega) | (show _ ≤ 7293034; omega)) (by first | exact Nat.le_of_ble_eq_true rfl | (show _ ≤ 601024; omega) | (show _ ≤ 7293034; omega)) (by first | exact Nat.le_of_ble_eq_true rfl | (show _ ≤ 601024; omega) | (show _ ≤ 7293034; omega)) (by first | exact Nat.le_of_ble_eq_true rfl | (show _ ≤ 601024; omega) | (show _ ≤ 7293034; omega)) (by first | exact Nat.le_of_ble_eq_true rfl | (show _ ≤ 601024; omega) | (show _ ≤ 7293034; omega)) (by first | exact Nat.le_of_ble_eq_true rfl | (show _ ≤ 601024; omega) | (show _ ≤ 7293034; omega)) dL_law_1454 (sX8_unplan hM) (fun r h4 hq => ?_) (fun x h9 hq => hq.elim)
  obtain ⟨z3, rfl, hM⟩ := hq
  have hA := hM
  refine zV_istore O dL_law_1457 (by first | exact Nat.le_of_ble_eq_true rfl | (show _ ≤ 601024; omega) | (show _ ≤ 7293034; omega)) rfl ?_
  refine zV_aload_n O dL_law_1459 rfl rfl ?_
  refine zV_callV (as := []) (st := []) O zc_X8_thrown (Or.inl zl_RL_100) zi_1295 zi_1296 zt_185 rfl rfl (by decide) (by first | exact Nat.le_of_ble_eq_true rfl | (show _ ≤ 601024; omega) | (show _ ≤ 7293034; omega)) rfl rfl (by first | exact Nat.le_of_ble_eq_true rfl | (show _ ≤ 601024; omega) | (show _ ≤ 7293034; omega)) (by first | exact Nat.le_of_ble_eq_true rfl | (show _ ≤ 601024; omega) | (show _ ≤ 7293034; omega)) (by first | exact Nat.le_of_ble_eq_true rfl | (show _ ≤ 601024; omega) | (show _ ≤ 7293034; omega)) (by first | exact Nat.le_of_ble_eq_true rfl | (show _ ≤ 601024; omega) | (show _ ≤ 7293034; omega)) (by first | exact Nat.le_of_ble_eq_true rfl | (show _ ≤ 601024; omega) | (show _ ≤ 7293034; omega)) (by first | exact Nat.le_of_ble_eq_true rfl | (show _ ≤ 601024; omega) | (show _ ≤ 7293034; omega)) dL_law_1460 (sX8_thrown (Q := fun z => z = h4 185 0) rfl) (fun r h9 hq => ?_) (fun x h9 hq => hq.elim)
  obtain ⟨rfl, z5, rfl, hM⟩ := hq
  have hT := hM
  refine zV_iload O dL_law_1463 rfl ?_
  refine zV_icmp_eq (tgt := 1470) O dL_law_1465 (by decide) (fun hc => ?_) (fun hc => ?_)
  · refine zV_iload O dL_law_1470 rfl ?_
    refine zV_if_ne (tgt := 1487) O dL_law_1472 (by decide) (fun hc => ?_) (fun hc => ?_)
    · refine zV_goto (tgt := 2046) O dL_law_1487 (by decide) ?_
      refine zV_sub (ls2 := [some (aA (b + 1)), some (aR 169), some (aR 185), some (aR 197), some (aI v4), none, none, none, none]) ⟨rfl, rfl, rfl, rfl, rfl, trivial⟩ ?_
      exact hK _ _ _ (by omega) (by omega) hA.1
    · have hk0 := hc
      refine zV_aload_n O dL_law_1475 rfl rfl ?_
      refine zV_iconst (z := 0) O ⟨by omega, by omega⟩ dL_law_1476 ?_
      refine zV_lald O zt_197 (by decide) ⟨by omega, by omega⟩ dL_law_1477 ?_
      refine zV_iload O dL_law_1478 rfl ?_
      refine zV_i2l O dL_law_1480 ?_
      refine zV_lcmp O dL_law_1481 ?_
      refine zV_if_eq (tgt := 1487) O dL_law_1482 (by decide) (fun hc => ?_) (fun hc => ?_)
      · refine zV_goto (tgt := 2046) O dL_law_1487 (by decide) ?_
        refine zV_sub (ls2 := [some (aA (b + 1)), some (aR 169), some (aR 185), some (aR 197), some (aI v4), none, none, none, none]) ⟨rfl, rfl, rfl, rfl, rfl, trivial⟩ ?_
        exact hK _ _ _ (by omega) (by omega) hA.1
      · exact absurd (zlc_eq (hA.2.2 hk0)) hc
  · exact absurd (hT.trans hA.2.1) hc
set_option maxHeartbeats 4000000 in
set_option maxRecDepth 100000 in
theorem tW_25 {l0 : Launch} {a : ZC} {b : Nat} {L : Int} {sc : Int → Int} {k n : Nat} {v4 : Int} {h : Hp} (O : zOk l0 a cL_law RL 9 (some .boolean) 198 []) (hS : zScr a b L sc) (hz : ∀ i : Int, 0 ≤ i ∧ i < L → zr (sc i)) (hk : k ≤ 600000) (hn : n ≤ 7200000) (hL : L ≤ 3072) (hv : 0 ≤ v4) (hw : v4 + 6 ≤ L) (hi : inv h) (hK : ∀ (k2 n2 : Nat) (h : Hp), k2 ≤ k + 3 → n2 ≤ n + 18 → inv h → zV a (2048, 601024, 7293034, (qZ (fun z _ => z = 1)), xN) k2 n2 2046 [some (aA (b + 1)), some (aR 169), some (aR 185), some (aR 197), some (aI v4), none, none, none, none] [] h) : zV a (2048, 601024, 7293034, (qZ (fun z _ => z = 1)), xN) k n 1490 [some (aA (b + 1)), some (aR 169), some (aR 185), some (aR 197), some (aI v4), none, none, none, none] [] h := by
  refine zV_aload_n O dL_law_1490 rfl rfl ?_
  refine zV_callV (as := []) (st := []) O zc_X7_settle (Or.inl zl_RL_185) zi_632 zi_633 zt_169 rfl rfl (by decide) (by first | exact Nat.le_of_ble_eq_true rfl | (show _ ≤ 601024; omega) | (show _ ≤ 7293034; omega)) rfl rfl (by first | exact Nat.le_of_ble_eq_true rfl | (show _ ≤ 601024; omega) | (show _ ≤ 7293034; omega)) (by first | exact Nat.le_of_ble_eq_true rfl | (show _ ≤ 601024; omega) | (show _ ≤ 7293034; omega)) (by first | exact Nat.le_of_ble_eq_true rfl | (show _ ≤ 601024; omega) | (show _ ≤ 7293034; omega)) (by first | exact Nat.le_of_ble_eq_true rfl | (show _ ≤ 601024; omega) | (show _ ≤ 7293034; omega)) (by first | exact Nat.le_of_ble_eq_true rfl | (show _ ≤ 601024; omega) | (show _ ≤ 7293034; omega)) (by first | exact Nat.le_of_ble_eq_true rfl | (show _ ≤ 601024; omega) | (show _ ≤ 7293034; omega)) dL_law_1491 (sX7_settle (c_settle hi)) (fun r h2 hq => ?_) (fun x h9 hq => hq.elim)
  obtain ⟨z1, rfl, hM⟩ := hq
  refine zV_aload_n O dL_law_1494 rfl rfl ?_
  refine zV_callV (as := []) (st := [aI z1]) O zc_X8_settle (Or.inl zl_RL_188) zi_1771 zi_1772 zt_185 rfl rfl (by decide) (by first | exact Nat.le_of_ble_eq_true rfl | (show _ ≤ 601024; omega) | (show _ ≤ 7293034; omega)) rfl rfl (by first | exact Nat.le_of_ble_eq_true rfl | (show _ ≤ 601024; omega) | (show _ ≤ 7293034; omega)) (by first | exact Nat.le_of_ble_eq_true rfl | (show _ ≤ 601024; omega) | (show _ ≤ 7293034; omega)) (by first | exact Nat.le_of_ble_eq_true rfl | (show _ ≤ 601024; omega) | (show _ ≤ 7293034; omega)) (by first | exact Nat.le_of_ble_eq_true rfl | (show _ ≤ 601024; omega) | (show _ ≤ 7293034; omega)) (by first | exact Nat.le_of_ble_eq_true rfl | (show _ ≤ 601024; omega) | (show _ ≤ 7293034; omega)) (by first | exact Nat.le_of_ble_eq_true rfl | (show _ ≤ 601024; omega) | (show _ ≤ 7293034; omega)) dL_law_1495 (sX8_settle hM) (fun r h4 hq => ?_) (fun x h9 hq => hq.elim)
  obtain ⟨z3, rfl, hM⟩ := hq
  have hA := hM
  refine zV_icmp_eq (tgt := 2046) O dL_law_1498 (by decide) (fun hc => ?_) (fun hc => ?_)
  · refine zV_sub (ls2 := [some (aA (b + 1)), some (aR 169), some (aR 185), some (aR 197), some (aI v4), none, none, none, none]) ⟨rfl, rfl, rfl, rfl, rfl, trivial⟩ ?_
    exact hK _ _ _ (by omega) (by omega) hA.1
  · exact absurd hA.2 hc
set_option maxHeartbeats 4000000 in
set_option maxRecDepth 100000 in
theorem tW_26 {l0 : Launch} {a : ZC} {b : Nat} {L : Int} {sc : Int → Int} {k n : Nat} {v4 : Int} {h : Hp} (O : zOk l0 a cL_law RL 9 (some .boolean) 198 []) (hS : zScr a b L sc) (hz : ∀ i : Int, 0 ≤ i ∧ i < L → zr (sc i)) (hk : k ≤ 600000) (hn : n ≤ 7200000) (hL : L ≤ 3072) (hv : 0 ≤ v4) (hw : v4 + 6 ≤ L) (hi : inv h) (hK : ∀ (k2 n2 : Nat) (h : Hp), k2 ≤ k + 3 → n2 ≤ n + 18 → inv h → zV a (2048, 601024, 7293034, (qZ (fun z _ => z = 1)), xN) k2 n2 2046 [some (aA (b + 1)), some (aR 169), some (aR 185), some (aR 197), some (aI v4), none, none, none, none] [] h) : zV a (2048, 601024, 7293034, (qZ (fun z _ => z = 1)), xN) k n 1503 [some (aA (b + 1)), some (aR 169), some (aR 185), some (aR 197), some (aI v4), none, none, none, none] [] h := by
  refine zV_aload_n O dL_law_1503 rfl rfl ?_
  refine zV_callV (as := []) (st := []) O zc_X7_wave (Or.inl zl_RL_189) zi_664 zi_665 zt_169 rfl rfl (by decide) (by first | exact Nat.le_of_ble_eq_true rfl | (show _ ≤ 601024; omega) | (show _ ≤ 7293034; omega)) rfl rfl (by first | exact Nat.le_of_ble_eq_true rfl | (show _ ≤ 601024; omega) | (show _ ≤ 7293034; omega)) (by first | exact Nat.le_of_ble_eq_true rfl | (show _ ≤ 601024; omega) | (show _ ≤ 7293034; omega)) (by first | exact Nat.le_of_ble_eq_true rfl | (show _ ≤ 601024; omega) | (show _ ≤ 7293034; omega)) (by first | exact Nat.le_of_ble_eq_true rfl | (show _ ≤ 601024; omega) | (show _ ≤ 7293034; omega)) (by first | exact Nat.le_of_ble_eq_true rfl | (show _ ≤ 601024; omega) | (show _ ≤ 7293034; omega)) (by first | exact Nat.le_of_ble_eq_true rfl | (show _ ≤ 601024; omega) | (show _ ≤ 7293034; omega)) dL_law_1504 (sX7_wave (c_wave hi)) (fun r h2 hq => ?_) (fun x h9 hq => hq.elim)
  obtain ⟨z1, rfl, hM⟩ := hq
  refine zV_aload_n O dL_law_1507 rfl rfl ?_
  refine zV_callV (as := []) (st := [aI z1]) O zc_X8_wave (Or.inl zl_RL_192) zi_1783 zi_1784 zt_185 rfl rfl (by decide) (by first | exact Nat.le_of_ble_eq_true rfl | (show _ ≤ 601024; omega) | (show _ ≤ 7293034; omega)) rfl rfl (by first | exact Nat.le_of_ble_eq_true rfl | (show _ ≤ 601024; omega) | (show _ ≤ 7293034; omega)) (by first | exact Nat.le_of_ble_eq_true rfl | (show _ ≤ 601024; omega) | (show _ ≤ 7293034; omega)) (by first | exact Nat.le_of_ble_eq_true rfl | (show _ ≤ 601024; omega) | (show _ ≤ 7293034; omega)) (by first | exact Nat.le_of_ble_eq_true rfl | (show _ ≤ 601024; omega) | (show _ ≤ 7293034; omega)) (by first | exact Nat.le_of_ble_eq_true rfl | (show _ ≤ 601024; omega) | (show _ ≤ 7293034; omega)) (by first | exact Nat.le_of_ble_eq_true rfl | (show _ ≤ 601024; omega) | (show _ ≤ 7293034; omega)) dL_law_1508 (sX8_wave hM) (fun r h4 hq => ?_) (fun x h9 hq => hq.elim)
  obtain ⟨z3, rfl, hM⟩ := hq
  have hA := hM
  refine zV_icmp_eq (tgt := 2046) O dL_law_1511 (by decide) (fun hc => ?_) (fun hc => ?_)
  · refine zV_sub (ls2 := [some (aA (b + 1)), some (aR 169), some (aR 185), some (aR 197), some (aI v4), none, none, none, none]) ⟨rfl, rfl, rfl, rfl, rfl, trivial⟩ ?_
    exact hK _ _ _ (by omega) (by omega) hA.1
  · exact absurd hA.2 hc
set_option maxHeartbeats 4000000 in
set_option maxRecDepth 100000 in
theorem tW_27 {l0 : Launch} {a : ZC} {b : Nat} {L : Int} {sc : Int → Int} {k n : Nat} {v4 : Int} {h : Hp} (O : zOk l0 a cL_law RL 9 (some .boolean) 198 []) (hS : zScr a b L sc) (hz : ∀ i : Int, 0 ≤ i ∧ i < L → zr (sc i)) (hk : k ≤ 600000) (hn : n ≤ 7200000) (hL : L ≤ 3072) (hv : 0 ≤ v4) (hw : v4 + 6 ≤ L) (hi : inv h) (hK : ∀ (k2 n2 : Nat) (h : Hp), k2 ≤ k + 3 → n2 ≤ n + 18 → inv h → zV a (2048, 601024, 7293034, (qZ (fun z _ => z = 1)), xN) k2 n2 2046 [some (aA (b + 1)), some (aR 169), some (aR 185), some (aR 197), some (aI v4), none, none, none, none] [] h) : zV a (2048, 601024, 7293034, (qZ (fun z _ => z = 1)), xN) k n 1516 [some (aA (b + 1)), some (aR 169), some (aR 185), some (aR 197), some (aI v4), none, none, none, none] [] h := by
  refine zV_aload_n O dL_law_1516 rfl rfl ?_
  refine zV_callV (as := []) (st := []) O zc_X7_back (Or.inl zl_RL_193) zi_672 zi_673 zt_169 rfl rfl (by decide) (by first | exact Nat.le_of_ble_eq_true rfl | (show _ ≤ 601024; omega) | (show _ ≤ 7293034; omega)) rfl rfl (by first | exact Nat.le_of_ble_eq_true rfl | (show _ ≤ 601024; omega) | (show _ ≤ 7293034; omega)) (by first | exact Nat.le_of_ble_eq_true rfl | (show _ ≤ 601024; omega) | (show _ ≤ 7293034; omega)) (by first | exact Nat.le_of_ble_eq_true rfl | (show _ ≤ 601024; omega) | (show _ ≤ 7293034; omega)) (by first | exact Nat.le_of_ble_eq_true rfl | (show _ ≤ 601024; omega) | (show _ ≤ 7293034; omega)) (by first | exact Nat.le_of_ble_eq_true rfl | (show _ ≤ 601024; omega) | (show _ ≤ 7293034; omega)) (by first | exact Nat.le_of_ble_eq_true rfl | (show _ ≤ 601024; omega) | (show _ ≤ 7293034; omega)) dL_law_1517 (sX7_back (c_back hi)) (fun r h2 hq => ?_) (fun x h9 hq => hq.elim)
  obtain ⟨z1, rfl, hM⟩ := hq
  refine zV_aload_n O dL_law_1520 rfl rfl ?_
  refine zV_callV (as := []) (st := [aI z1]) O zc_X8_back (Or.inl zl_RL_196) zi_1787 zi_1788 zt_185 rfl rfl (by decide) (by first | exact Nat.le_of_ble_eq_true rfl | (show _ ≤ 601024; omega) | (show _ ≤ 7293034; omega)) rfl rfl (by first | exact Nat.le_of_ble_eq_true rfl | (show _ ≤ 601024; omega) | (show _ ≤ 7293034; omega)) (by first | exact Nat.le_of_ble_eq_true rfl | (show _ ≤ 601024; omega) | (show _ ≤ 7293034; omega)) (by first | exact Nat.le_of_ble_eq_true rfl | (show _ ≤ 601024; omega) | (show _ ≤ 7293034; omega)) (by first | exact Nat.le_of_ble_eq_true rfl | (show _ ≤ 601024; omega) | (show _ ≤ 7293034; omega)) (by first | exact Nat.le_of_ble_eq_true rfl | (show _ ≤ 601024; omega) | (show _ ≤ 7293034; omega)) (by first | exact Nat.le_of_ble_eq_true rfl | (show _ ≤ 601024; omega) | (show _ ≤ 7293034; omega)) dL_law_1521 (sX8_back hM) (fun r h4 hq => ?_) (fun x h9 hq => hq.elim)
  obtain ⟨z3, rfl, hM⟩ := hq
  have hA := hM
  refine zV_icmp_eq (tgt := 2046) O dL_law_1524 (by decide) (fun hc => ?_) (fun hc => ?_)
  · refine zV_sub (ls2 := [some (aA (b + 1)), some (aR 169), some (aR 185), some (aR 197), some (aI v4), none, none, none, none]) ⟨rfl, rfl, rfl, rfl, rfl, trivial⟩ ?_
    exact hK _ _ _ (by omega) (by omega) hA.1
  · exact absurd hA.2 hc
set_option maxHeartbeats 4000000 in
set_option maxRecDepth 100000 in
theorem tW_28 {l0 : Launch} {a : ZC} {b : Nat} {L : Int} {sc : Int → Int} {k n : Nat} {v4 : Int} {h : Hp} (O : zOk l0 a cL_law RL 9 (some .boolean) 198 []) (hS : zScr a b L sc) (hz : ∀ i : Int, 0 ≤ i ∧ i < L → zr (sc i)) (hk : k ≤ 600000) (hn : n ≤ 7200000) (hL : L ≤ 3072) (hv : 0 ≤ v4) (hw : v4 + 6 ≤ L) (hi : inv h) (hK : ∀ (k2 n2 : Nat) (h : Hp), k2 ≤ k + 3 → n2 ≤ n + 18 → inv h → zV a (2048, 601024, 7293034, (qZ (fun z _ => z = 1)), xN) k2 n2 2046 [some (aA (b + 1)), some (aR 169), some (aR 185), some (aR 197), some (aI v4), none, none, none, none] [] h) : zV a (2048, 601024, 7293034, (qZ (fun z _ => z = 1)), xN) k n 1529 [some (aA (b + 1)), some (aR 169), some (aR 185), some (aR 197), some (aI v4), none, none, none, none] [] h := by
  refine zV_aload_n O dL_law_1529 rfl rfl ?_
  refine zV_callV (as := []) (st := []) O zc_X7_open (Or.inl zl_RL_197) zi_688 zi_689 zt_169 rfl rfl (by decide) (by first | exact Nat.le_of_ble_eq_true rfl | (show _ ≤ 601024; omega) | (show _ ≤ 7293034; omega)) rfl rfl (by first | exact Nat.le_of_ble_eq_true rfl | (show _ ≤ 601024; omega) | (show _ ≤ 7293034; omega)) (by first | exact Nat.le_of_ble_eq_true rfl | (show _ ≤ 601024; omega) | (show _ ≤ 7293034; omega)) (by first | exact Nat.le_of_ble_eq_true rfl | (show _ ≤ 601024; omega) | (show _ ≤ 7293034; omega)) (by first | exact Nat.le_of_ble_eq_true rfl | (show _ ≤ 601024; omega) | (show _ ≤ 7293034; omega)) (by first | exact Nat.le_of_ble_eq_true rfl | (show _ ≤ 601024; omega) | (show _ ≤ 7293034; omega)) (by first | exact Nat.le_of_ble_eq_true rfl | (show _ ≤ 601024; omega) | (show _ ≤ 7293034; omega)) dL_law_1530 (sX7_open (c_open hi)) (fun r h2 hq => ?_) (fun x h9 hq => hq.elim)
  obtain ⟨z1, rfl, hM⟩ := hq
  refine zV_aload_n O dL_law_1533 rfl rfl ?_
  refine zV_callV (as := []) (st := [aI z1]) O zc_X8_open (Or.inl zl_RL_200) zi_1795 zi_1796 zt_185 rfl rfl (by decide) (by first | exact Nat.le_of_ble_eq_true rfl | (show _ ≤ 601024; omega) | (show _ ≤ 7293034; omega)) rfl rfl (by first | exact Nat.le_of_ble_eq_true rfl | (show _ ≤ 601024; omega) | (show _ ≤ 7293034; omega)) (by first | exact Nat.le_of_ble_eq_true rfl | (show _ ≤ 601024; omega) | (show _ ≤ 7293034; omega)) (by first | exact Nat.le_of_ble_eq_true rfl | (show _ ≤ 601024; omega) | (show _ ≤ 7293034; omega)) (by first | exact Nat.le_of_ble_eq_true rfl | (show _ ≤ 601024; omega) | (show _ ≤ 7293034; omega)) (by first | exact Nat.le_of_ble_eq_true rfl | (show _ ≤ 601024; omega) | (show _ ≤ 7293034; omega)) (by first | exact Nat.le_of_ble_eq_true rfl | (show _ ≤ 601024; omega) | (show _ ≤ 7293034; omega)) dL_law_1534 (sX8_open hM) (fun r h4 hq => ?_) (fun x h9 hq => hq.elim)
  obtain ⟨z3, rfl, hM⟩ := hq
  have hA := hM
  refine zV_icmp_eq (tgt := 2046) O dL_law_1537 (by decide) (fun hc => ?_) (fun hc => ?_)
  · refine zV_sub (ls2 := [some (aA (b + 1)), some (aR 169), some (aR 185), some (aR 197), some (aI v4), none, none, none, none]) ⟨rfl, rfl, rfl, rfl, rfl, trivial⟩ ?_
    exact hK _ _ _ (by omega) (by omega) hA.1
  · exact absurd hA.2 hc
set_option maxHeartbeats 4000000 in
set_option maxRecDepth 100000 in
theorem tW_29 {l0 : Launch} {a : ZC} {b : Nat} {L : Int} {sc : Int → Int} {k n : Nat} {v4 : Int} {h : Hp} (O : zOk l0 a cL_law RL 9 (some .boolean) 198 []) (hS : zScr a b L sc) (hz : ∀ i : Int, 0 ≤ i ∧ i < L → zr (sc i)) (hk : k ≤ 600000) (hn : n ≤ 7200000) (hL : L ≤ 3072) (hv : 0 ≤ v4) (hw : v4 + 6 ≤ L) (hi : inv h) (hK : ∀ (k2 n2 : Nat) (h : Hp), k2 ≤ k + 3 → n2 ≤ n + 18 → inv h → zV a (2048, 601024, 7293034, (qZ (fun z _ => z = 1)), xN) k2 n2 2046 [some (aA (b + 1)), some (aR 169), some (aR 185), some (aR 197), some (aI v4), none, none, none, none] [] h) : zV a (2048, 601024, 7293034, (qZ (fun z _ => z = 1)), xN) k n 1542 [some (aA (b + 1)), some (aR 169), some (aR 185), some (aR 197), some (aI v4), none, none, none, none] [] h := by
  refine zV_aload_n O dL_law_1542 rfl rfl ?_
  refine zV_callV (as := []) (st := []) O zc_X7_close (Or.inl zl_RL_201) zi_692 zi_693 zt_169 rfl rfl (by decide) (by first | exact Nat.le_of_ble_eq_true rfl | (show _ ≤ 601024; omega) | (show _ ≤ 7293034; omega)) rfl rfl (by first | exact Nat.le_of_ble_eq_true rfl | (show _ ≤ 601024; omega) | (show _ ≤ 7293034; omega)) (by first | exact Nat.le_of_ble_eq_true rfl | (show _ ≤ 601024; omega) | (show _ ≤ 7293034; omega)) (by first | exact Nat.le_of_ble_eq_true rfl | (show _ ≤ 601024; omega) | (show _ ≤ 7293034; omega)) (by first | exact Nat.le_of_ble_eq_true rfl | (show _ ≤ 601024; omega) | (show _ ≤ 7293034; omega)) (by first | exact Nat.le_of_ble_eq_true rfl | (show _ ≤ 601024; omega) | (show _ ≤ 7293034; omega)) (by first | exact Nat.le_of_ble_eq_true rfl | (show _ ≤ 601024; omega) | (show _ ≤ 7293034; omega)) dL_law_1543 (sX7_close (c_close hi)) (fun r h2 hq => ?_) (fun x h9 hq => hq.elim)
  obtain ⟨z1, rfl, hM⟩ := hq
  refine zV_aload_n O dL_law_1546 rfl rfl ?_
  refine zV_callV (as := []) (st := [aI z1]) O zc_X8_close (Or.inl zl_RL_204) zi_1799 zi_1800 zt_185 rfl rfl (by decide) (by first | exact Nat.le_of_ble_eq_true rfl | (show _ ≤ 601024; omega) | (show _ ≤ 7293034; omega)) rfl rfl (by first | exact Nat.le_of_ble_eq_true rfl | (show _ ≤ 601024; omega) | (show _ ≤ 7293034; omega)) (by first | exact Nat.le_of_ble_eq_true rfl | (show _ ≤ 601024; omega) | (show _ ≤ 7293034; omega)) (by first | exact Nat.le_of_ble_eq_true rfl | (show _ ≤ 601024; omega) | (show _ ≤ 7293034; omega)) (by first | exact Nat.le_of_ble_eq_true rfl | (show _ ≤ 601024; omega) | (show _ ≤ 7293034; omega)) (by first | exact Nat.le_of_ble_eq_true rfl | (show _ ≤ 601024; omega) | (show _ ≤ 7293034; omega)) (by first | exact Nat.le_of_ble_eq_true rfl | (show _ ≤ 601024; omega) | (show _ ≤ 7293034; omega)) dL_law_1547 (sX8_close hM) (fun r h4 hq => ?_) (fun x h9 hq => hq.elim)
  obtain ⟨z3, rfl, hM⟩ := hq
  have hA := hM
  refine zV_icmp_eq (tgt := 2046) O dL_law_1550 (by decide) (fun hc => ?_) (fun hc => ?_)
  · refine zV_sub (ls2 := [some (aA (b + 1)), some (aR 169), some (aR 185), some (aR 197), some (aI v4), none, none, none, none]) ⟨rfl, rfl, rfl, rfl, rfl, trivial⟩ ?_
    exact hK _ _ _ (by omega) (by omega) hA.1
  · exact absurd hA.2 hc
