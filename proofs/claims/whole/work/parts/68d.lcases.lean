/-! the law's cases 30 to 30 -/
set_option maxHeartbeats 4000000 in
set_option maxRecDepth 100000 in
theorem tW_30 {l0 : Launch} {a : ZC} {b : Nat} {L : Int} {sc : Int → Int} {k n : Nat} {v4 : Int} {h : Hp} (O : zOk l0 a cL_law RL 9 (some .boolean) 198 []) (hS : zScr a b L sc) (hz : ∀ i : Int, 0 ≤ i ∧ i < L → zr (sc i)) (hk : k ≤ 600000) (hn : n ≤ 7200000) (hL : L ≤ 3072) (hv : 0 ≤ v4) (hw : v4 + 6 ≤ L) (hi : inv h) (hK : ∀ (k2 n2 : Nat) (h : Hp), k2 ≤ k + 3 → n2 ≤ n + 18 → inv h → zV a (2048, 601024, 7293034, (qZ (fun z _ => z = 1)), xN) k2 n2 2046 [some (aA (b + 1)), some (aR 169), some (aR 185), some (aR 197), some (aI v4), none, none, none, none] [] h) : zV a (2048, 601024, 7293034, (qZ (fun z _ => z = 1)), xN) k n 1555 [some (aA (b + 1)), some (aR 169), some (aR 185), some (aR 197), some (aI v4), none, none, none, none] [] h := by
  refine zV_aload_n O dL_law_1555 rfl rfl ?_
  refine zV_aloadS O dL_law_1556 rfl rfl ?_
  refine zV_iload O dL_law_1557 rfl ?_
  refine zV_iconst (z := 1) O ⟨by omega, by omega⟩ dL_law_1559 ?_
  refine zV_iadd O dL_law_1560 (zri (by omega) (by omega)) ?_
  refine zV_sld O hS ⟨by omega, by omega⟩ dL_law_1561 ?_
  refine zV_aloadS O dL_law_1562 rfl rfl ?_
  refine zV_iload O dL_law_1563 rfl ?_
  refine zV_iconst (z := 2) O ⟨by omega, by omega⟩ dL_law_1565 ?_
  refine zV_iadd O dL_law_1566 (zri (by omega) (by omega)) ?_
  refine zV_sld O hS ⟨by omega, by omega⟩ dL_law_1567 ?_
  refine zV_if_eq (tgt := 1575) O dL_law_1568 (by decide) (fun hc => ?_) (fun hc => ?_)
  · have hs := hc
    refine zV_iconst (z := 0) O ⟨by omega, by omega⟩ dL_law_1575 ?_
    refine zV_aloadS O dL_law_1576 rfl rfl ?_
    refine zV_iload O dL_law_1577 rfl ?_
    refine zV_iconst (z := 3) O ⟨by omega, by omega⟩ dL_law_1579 ?_
    refine zV_iadd O dL_law_1580 (zri (by omega) (by omega)) ?_
    refine zV_sld O hS ⟨by omega, by omega⟩ dL_law_1581 ?_
    refine zV_aloadS O dL_law_1582 rfl rfl ?_
    refine zV_iload O dL_law_1583 rfl ?_
    refine zV_iconst (z := 4) O ⟨by omega, by omega⟩ dL_law_1585 ?_
    refine zV_iadd O dL_law_1586 (zri (by omega) (by omega)) ?_
    refine zV_sld O hS ⟨by omega, by omega⟩ dL_law_1587 ?_
    refine zV_aload_n O dL_law_1588 rfl rfl ?_
    refine zV_callSH (as := [aR 169, aI (sc (v4 + 1)), aI 0, aI (sc (v4 + 3)), aI (sc (v4 + 4)), aR 197]) (st := []) O zch_L_addRule.1 zch_L_addRule.2.1 zch_L_addRule.2.2.1 zch_L_addRule.2.2.2 zl_RL_205 zi_1144 (by first | exact Nat.le_of_ble_eq_true rfl | (show _ ≤ 601024; omega) | (show _ ≤ 7293034; omega)) rfl rfl (by first | exact Nat.le_of_ble_eq_true rfl | (show _ ≤ 601024; omega) | (show _ ≤ 7293034; omega)) (by first | exact Nat.le_of_ble_eq_true rfl | (show _ ≤ 601024; omega) | (show _ ≤ 7293034; omega)) (by first | exact Nat.le_of_ble_eq_true rfl | (show _ ≤ 601024; omega) | (show _ ≤ 7293034; omega)) (by first | exact Nat.le_of_ble_eq_true rfl | (show _ ≤ 601024; omega) | (show _ ≤ 7293034; omega)) (by first | exact Nat.le_of_ble_eq_true rfl | (show _ ≤ 601024; omega) | (show _ ≤ 7293034; omega)) (by first | exact Nat.le_of_ble_eq_true rfl | (show _ ≤ 601024; omega) | (show _ ≤ 7293034; omega)) dL_law_1589 (sL_addRule (c_addRule hi)) (fun r h2 hq => ?_) (fun x h9 hq => hq.elim)
    obtain ⟨z1, rfl, hM⟩ := hq
    refine zV_istore O dL_law_1592 (by first | exact Nat.le_of_ble_eq_true rfl | (show _ ≤ 601024; omega) | (show _ ≤ 7293034; omega)) rfl ?_
    refine zV_aload_n O dL_law_1594 rfl rfl ?_
    refine zV_aloadS O dL_law_1595 rfl rfl ?_
    refine zV_iload O dL_law_1596 rfl ?_
    refine zV_iconst (z := 1) O ⟨by omega, by omega⟩ dL_law_1598 ?_
    refine zV_iadd O dL_law_1599 (zri (by omega) (by omega)) ?_
    refine zV_sld O hS ⟨by omega, by omega⟩ dL_law_1600 ?_
    refine zV_aloadS O dL_law_1601 rfl rfl ?_
    refine zV_iload O dL_law_1602 rfl ?_
    refine zV_iconst (z := 2) O ⟨by omega, by omega⟩ dL_law_1604 ?_
    refine zV_iadd O dL_law_1605 (zri (by omega) (by omega)) ?_
    refine zV_sld O hS ⟨by omega, by omega⟩ dL_law_1606 ?_
    refine zV_if_eq (tgt := 1614) O dL_law_1607 (by decide) (fun hc => ?_) (fun hc => ?_)
    · refine zV_iconst (z := 0) O ⟨by omega, by omega⟩ dL_law_1614 ?_
      refine zV_aloadS O dL_law_1615 rfl rfl ?_
      refine zV_iload O dL_law_1616 rfl ?_
      refine zV_iconst (z := 3) O ⟨by omega, by omega⟩ dL_law_1618 ?_
      refine zV_iadd O dL_law_1619 (zri (by omega) (by omega)) ?_
      refine zV_sld O hS ⟨by omega, by omega⟩ dL_law_1620 ?_
      refine zV_aloadS O dL_law_1621 rfl rfl ?_
      refine zV_iload O dL_law_1622 rfl ?_
      refine zV_iconst (z := 4) O ⟨by omega, by omega⟩ dL_law_1624 ?_
      refine zV_iadd O dL_law_1625 (zri (by omega) (by omega)) ?_
      refine zV_sld O hS ⟨by omega, by omega⟩ dL_law_1626 ?_
      refine zV_callV (as := [aI (sc (v4 + 1)), aI 0, aI (sc (v4 + 3)), aI (sc (v4 + 4))]) (st := []) O zc_X8_addRule (Or.inl zl_RL_208) zi_1803 zi_1804 zt_185 rfl rfl (by decide) (by first | exact Nat.le_of_ble_eq_true rfl | (show _ ≤ 601024; omega) | (show _ ≤ 7293034; omega)) rfl rfl (by first | exact Nat.le_of_ble_eq_true rfl | (show _ ≤ 601024; omega) | (show _ ≤ 7293034; omega)) (by first | exact Nat.le_of_ble_eq_true rfl | (show _ ≤ 601024; omega) | (show _ ≤ 7293034; omega)) (by first | exact Nat.le_of_ble_eq_true rfl | (show _ ≤ 601024; omega) | (show _ ≤ 7293034; omega)) (by first | exact Nat.le_of_ble_eq_true rfl | (show _ ≤ 601024; omega) | (show _ ≤ 7293034; omega)) (by first | exact Nat.le_of_ble_eq_true rfl | (show _ ≤ 601024; omega) | (show _ ≤ 7293034; omega)) (by first | exact Nat.le_of_ble_eq_true rfl | (show _ ≤ 601024; omega) | (show _ ≤ 7293034; omega)) dL_law_1627 (sX8_addRule hM) (fun r h4 hq => ?_) (fun x h9 hq => hq.elim)
      obtain ⟨z3, rfl, hM⟩ := hq
      have hA := hM
      refine zV_istore O dL_law_1630 (by first | exact Nat.le_of_ble_eq_true rfl | (show _ ≤ 601024; omega) | (show _ ≤ 7293034; omega)) rfl ?_
      refine zV_aload_n O dL_law_1632 rfl rfl ?_
      refine zV_callV (as := []) (st := []) O zc_X8_thrown (Or.inl zl_RL_100) zi_1295 zi_1296 zt_185 rfl rfl (by decide) (by first | exact Nat.le_of_ble_eq_true rfl | (show _ ≤ 601024; omega) | (show _ ≤ 7293034; omega)) rfl rfl (by first | exact Nat.le_of_ble_eq_true rfl | (show _ ≤ 601024; omega) | (show _ ≤ 7293034; omega)) (by first | exact Nat.le_of_ble_eq_true rfl | (show _ ≤ 601024; omega) | (show _ ≤ 7293034; omega)) (by first | exact Nat.le_of_ble_eq_true rfl | (show _ ≤ 601024; omega) | (show _ ≤ 7293034; omega)) (by first | exact Nat.le_of_ble_eq_true rfl | (show _ ≤ 601024; omega) | (show _ ≤ 7293034; omega)) (by first | exact Nat.le_of_ble_eq_true rfl | (show _ ≤ 601024; omega) | (show _ ≤ 7293034; omega)) (by first | exact Nat.le_of_ble_eq_true rfl | (show _ ≤ 601024; omega) | (show _ ≤ 7293034; omega)) dL_law_1633 (sX8_thrown (Q := fun z => z = h4 185 0) rfl) (fun r h9 hq => ?_) (fun x h9 hq => hq.elim)
      obtain ⟨rfl, z5, rfl, hM⟩ := hq
      have hT := hM
      refine zV_iload O dL_law_1636 rfl ?_
      refine zV_icmp_eq (tgt := 1643) O dL_law_1638 (by decide) (fun hc => ?_) (fun hc => ?_)
      · refine zV_iload O dL_law_1643 rfl ?_
        refine zV_if_ne (tgt := 1660) O dL_law_1645 (by decide) (fun hc => ?_) (fun hc => ?_)
        · refine zV_goto (tgt := 2046) O dL_law_1660 (by decide) ?_
          refine zV_sub (ls2 := [some (aA (b + 1)), some (aR 169), some (aR 185), some (aR 197), some (aI v4), none, none, none, none]) ⟨rfl, rfl, rfl, rfl, rfl, trivial⟩ ?_
          exact hK _ _ _ (by omega) (by omega) hA.1
        · have hk0 := hc
          refine zV_aload_n O dL_law_1648 rfl rfl ?_
          refine zV_iconst (z := 0) O ⟨by omega, by omega⟩ dL_law_1649 ?_
          refine zV_lald O zt_197 (by decide) ⟨by omega, by omega⟩ dL_law_1650 ?_
          refine zV_iload O dL_law_1651 rfl ?_
          refine zV_i2l O dL_law_1653 ?_
          refine zV_lcmp O dL_law_1654 ?_
          refine zV_if_eq (tgt := 1660) O dL_law_1655 (by decide) (fun hc => ?_) (fun hc => ?_)
          · refine zV_goto (tgt := 2046) O dL_law_1660 (by decide) ?_
            refine zV_sub (ls2 := [some (aA (b + 1)), some (aR 169), some (aR 185), some (aR 197), some (aI v4), none, none, none, none]) ⟨rfl, rfl, rfl, rfl, rfl, trivial⟩ ?_
            exact hK _ _ _ (by omega) (by omega) hA.1
          · exact absurd (zlc_eq (hA.2.2 hk0)) hc
      · exact absurd (hT.trans hA.2.1) hc
    · exact absurd hs hc
  · have hs := hc
    refine zV_iconst (z := 1) O ⟨by omega, by omega⟩ dL_law_1571 ?_
    refine zV_goto (tgt := 1576) O dL_law_1572 (by decide) ?_
    refine zV_aloadS O dL_law_1576 rfl rfl ?_
    refine zV_iload O dL_law_1577 rfl ?_
    refine zV_iconst (z := 3) O ⟨by omega, by omega⟩ dL_law_1579 ?_
    refine zV_iadd O dL_law_1580 (zri (by omega) (by omega)) ?_
    refine zV_sld O hS ⟨by omega, by omega⟩ dL_law_1581 ?_
    refine zV_aloadS O dL_law_1582 rfl rfl ?_
    refine zV_iload O dL_law_1583 rfl ?_
    refine zV_iconst (z := 4) O ⟨by omega, by omega⟩ dL_law_1585 ?_
    refine zV_iadd O dL_law_1586 (zri (by omega) (by omega)) ?_
    refine zV_sld O hS ⟨by omega, by omega⟩ dL_law_1587 ?_
    refine zV_aload_n O dL_law_1588 rfl rfl ?_
    refine zV_callSH (as := [aR 169, aI (sc (v4 + 1)), aI 1, aI (sc (v4 + 3)), aI (sc (v4 + 4)), aR 197]) (st := []) O zch_L_addRule.1 zch_L_addRule.2.1 zch_L_addRule.2.2.1 zch_L_addRule.2.2.2 zl_RL_205 zi_1144 (by first | exact Nat.le_of_ble_eq_true rfl | (show _ ≤ 601024; omega) | (show _ ≤ 7293034; omega)) rfl rfl (by first | exact Nat.le_of_ble_eq_true rfl | (show _ ≤ 601024; omega) | (show _ ≤ 7293034; omega)) (by first | exact Nat.le_of_ble_eq_true rfl | (show _ ≤ 601024; omega) | (show _ ≤ 7293034; omega)) (by first | exact Nat.le_of_ble_eq_true rfl | (show _ ≤ 601024; omega) | (show _ ≤ 7293034; omega)) (by first | exact Nat.le_of_ble_eq_true rfl | (show _ ≤ 601024; omega) | (show _ ≤ 7293034; omega)) (by first | exact Nat.le_of_ble_eq_true rfl | (show _ ≤ 601024; omega) | (show _ ≤ 7293034; omega)) (by first | exact Nat.le_of_ble_eq_true rfl | (show _ ≤ 601024; omega) | (show _ ≤ 7293034; omega)) dL_law_1589 (sL_addRule (c_addRule hi)) (fun r h10 hq => ?_) (fun x h9 hq => hq.elim)
    obtain ⟨z9, rfl, hM⟩ := hq
    refine zV_istore O dL_law_1592 (by first | exact Nat.le_of_ble_eq_true rfl | (show _ ≤ 601024; omega) | (show _ ≤ 7293034; omega)) rfl ?_
    refine zV_aload_n O dL_law_1594 rfl rfl ?_
    refine zV_aloadS O dL_law_1595 rfl rfl ?_
    refine zV_iload O dL_law_1596 rfl ?_
    refine zV_iconst (z := 1) O ⟨by omega, by omega⟩ dL_law_1598 ?_
    refine zV_iadd O dL_law_1599 (zri (by omega) (by omega)) ?_
    refine zV_sld O hS ⟨by omega, by omega⟩ dL_law_1600 ?_
    refine zV_aloadS O dL_law_1601 rfl rfl ?_
    refine zV_iload O dL_law_1602 rfl ?_
    refine zV_iconst (z := 2) O ⟨by omega, by omega⟩ dL_law_1604 ?_
    refine zV_iadd O dL_law_1605 (zri (by omega) (by omega)) ?_
    refine zV_sld O hS ⟨by omega, by omega⟩ dL_law_1606 ?_
    refine zV_if_eq (tgt := 1614) O dL_law_1607 (by decide) (fun hc => ?_) (fun hc => ?_)
    · exact absurd hc hs
    · refine zV_iconst (z := 1) O ⟨by omega, by omega⟩ dL_law_1610 ?_
      refine zV_goto (tgt := 1615) O dL_law_1611 (by decide) ?_
      refine zV_aloadS O dL_law_1615 rfl rfl ?_
      refine zV_iload O dL_law_1616 rfl ?_
      refine zV_iconst (z := 3) O ⟨by omega, by omega⟩ dL_law_1618 ?_
      refine zV_iadd O dL_law_1619 (zri (by omega) (by omega)) ?_
      refine zV_sld O hS ⟨by omega, by omega⟩ dL_law_1620 ?_
      refine zV_aloadS O dL_law_1621 rfl rfl ?_
      refine zV_iload O dL_law_1622 rfl ?_
      refine zV_iconst (z := 4) O ⟨by omega, by omega⟩ dL_law_1624 ?_
      refine zV_iadd O dL_law_1625 (zri (by omega) (by omega)) ?_
      refine zV_sld O hS ⟨by omega, by omega⟩ dL_law_1626 ?_
      refine zV_callV (as := [aI (sc (v4 + 1)), aI 1, aI (sc (v4 + 3)), aI (sc (v4 + 4))]) (st := []) O zc_X8_addRule (Or.inl zl_RL_208) zi_1803 zi_1804 zt_185 rfl rfl (by decide) (by first | exact Nat.le_of_ble_eq_true rfl | (show _ ≤ 601024; omega) | (show _ ≤ 7293034; omega)) rfl rfl (by first | exact Nat.le_of_ble_eq_true rfl | (show _ ≤ 601024; omega) | (show _ ≤ 7293034; omega)) (by first | exact Nat.le_of_ble_eq_true rfl | (show _ ≤ 601024; omega) | (show _ ≤ 7293034; omega)) (by first | exact Nat.le_of_ble_eq_true rfl | (show _ ≤ 601024; omega) | (show _ ≤ 7293034; omega)) (by first | exact Nat.le_of_ble_eq_true rfl | (show _ ≤ 601024; omega) | (show _ ≤ 7293034; omega)) (by first | exact Nat.le_of_ble_eq_true rfl | (show _ ≤ 601024; omega) | (show _ ≤ 7293034; omega)) (by first | exact Nat.le_of_ble_eq_true rfl | (show _ ≤ 601024; omega) | (show _ ≤ 7293034; omega)) dL_law_1627 (sX8_addRule hM) (fun r h15 hq => ?_) (fun x h9 hq => hq.elim)
      obtain ⟨z14, rfl, hM⟩ := hq
      have hA := hM
      refine zV_istore O dL_law_1630 (by first | exact Nat.le_of_ble_eq_true rfl | (show _ ≤ 601024; omega) | (show _ ≤ 7293034; omega)) rfl ?_
      refine zV_aload_n O dL_law_1632 rfl rfl ?_
      refine zV_callV (as := []) (st := []) O zc_X8_thrown (Or.inl zl_RL_100) zi_1295 zi_1296 zt_185 rfl rfl (by decide) (by first | exact Nat.le_of_ble_eq_true rfl | (show _ ≤ 601024; omega) | (show _ ≤ 7293034; omega)) rfl rfl (by first | exact Nat.le_of_ble_eq_true rfl | (show _ ≤ 601024; omega) | (show _ ≤ 7293034; omega)) (by first | exact Nat.le_of_ble_eq_true rfl | (show _ ≤ 601024; omega) | (show _ ≤ 7293034; omega)) (by first | exact Nat.le_of_ble_eq_true rfl | (show _ ≤ 601024; omega) | (show _ ≤ 7293034; omega)) (by first | exact Nat.le_of_ble_eq_true rfl | (show _ ≤ 601024; omega) | (show _ ≤ 7293034; omega)) (by first | exact Nat.le_of_ble_eq_true rfl | (show _ ≤ 601024; omega) | (show _ ≤ 7293034; omega)) (by first | exact Nat.le_of_ble_eq_true rfl | (show _ ≤ 601024; omega) | (show _ ≤ 7293034; omega)) dL_law_1633 (sX8_thrown (Q := fun z => z = h15 185 0) rfl) (fun r h9 hq => ?_) (fun x h9 hq => hq.elim)
      obtain ⟨rfl, z16, rfl, hM⟩ := hq
      have hT := hM
      refine zV_iload O dL_law_1636 rfl ?_
      refine zV_icmp_eq (tgt := 1643) O dL_law_1638 (by decide) (fun hc => ?_) (fun hc => ?_)
      · refine zV_iload O dL_law_1643 rfl ?_
        refine zV_if_ne (tgt := 1660) O dL_law_1645 (by decide) (fun hc => ?_) (fun hc => ?_)
        · refine zV_goto (tgt := 2046) O dL_law_1660 (by decide) ?_
          refine zV_sub (ls2 := [some (aA (b + 1)), some (aR 169), some (aR 185), some (aR 197), some (aI v4), none, none, none, none]) ⟨rfl, rfl, rfl, rfl, rfl, trivial⟩ ?_
          exact hK _ _ _ (by omega) (by omega) hA.1
        · have hk0 := hc
          refine zV_aload_n O dL_law_1648 rfl rfl ?_
          refine zV_iconst (z := 0) O ⟨by omega, by omega⟩ dL_law_1649 ?_
          refine zV_lald O zt_197 (by decide) ⟨by omega, by omega⟩ dL_law_1650 ?_
          refine zV_iload O dL_law_1651 rfl ?_
          refine zV_i2l O dL_law_1653 ?_
          refine zV_lcmp O dL_law_1654 ?_
          refine zV_if_eq (tgt := 1660) O dL_law_1655 (by decide) (fun hc => ?_) (fun hc => ?_)
          · refine zV_goto (tgt := 2046) O dL_law_1660 (by decide) ?_
            refine zV_sub (ls2 := [some (aA (b + 1)), some (aR 169), some (aR 185), some (aR 197), some (aI v4), none, none, none, none]) ⟨rfl, rfl, rfl, rfl, rfl, trivial⟩ ?_
            exact hK _ _ _ (by omega) (by omega) hA.1
          · exact absurd (zlc_eq (hA.2.2 hk0)) hc
      · exact absurd (hT.trans hA.2.1) hc
