/-! the law's cases 31 to 40 -/
set_option maxHeartbeats 4000000 in
set_option maxRecDepth 100000 in
theorem tW_31 {l0 : Launch} {a : ZC} {b : Nat} {L : Int} {sc : Int → Int} {k n : Nat} {v4 : Int} {h : Hp} (O : zOk l0 a cL_law RL 9 (some .boolean) 198 []) (hS : zScr a b L sc) (hz : ∀ i : Int, 0 ≤ i ∧ i < L → zr (sc i)) (hk : k ≤ 600000) (hn : n ≤ 7200000) (hL : L ≤ 3072) (hv : 0 ≤ v4) (hw : v4 + 6 ≤ L) (hi : inv h) (hK : ∀ (k2 n2 : Nat) (h : Hp), k2 ≤ k + 3 → n2 ≤ n + 18 → inv h → zV a (2048, 601024, 7293034, (qZ (fun z _ => z = 1)), xN) k2 n2 2046 [some (aA (b + 1)), some (aR 169), some (aR 185), some (aR 197), some (aI v4), none, none, none, none] [] h) : zV a (2048, 601024, 7293034, (qZ (fun z _ => z = 1)), xN) k n 1663 [some (aA (b + 1)), some (aR 169), some (aR 185), some (aR 197), some (aI v4), none, none, none, none] [] h := by
  refine zV_aload_n O dL_law_1663 rfl rfl ?_
  refine zV_aloadS O dL_law_1664 rfl rfl ?_
  refine zV_iload O dL_law_1665 rfl ?_
  refine zV_iconst (z := 1) O ⟨by omega, by omega⟩ dL_law_1667 ?_
  refine zV_iadd O dL_law_1668 (zri (by omega) (by omega)) ?_
  refine zV_sld O hS ⟨by omega, by omega⟩ dL_law_1669 ?_
  refine zV_aload_n O dL_law_1670 rfl rfl ?_
  refine zV_callSH (as := [aR 169, aI (sc (v4 + 1)), aR 197]) (st := []) O zch_L_removeRule.1 zch_L_removeRule.2.1 zch_L_removeRule.2.2.1 zch_L_removeRule.2.2.2 zl_RL_209 zi_1155 (by first | exact Nat.le_of_ble_eq_true rfl | (show _ ≤ 601024; omega) | (show _ ≤ 7293034; omega)) rfl rfl (by first | exact Nat.le_of_ble_eq_true rfl | (show _ ≤ 601024; omega) | (show _ ≤ 7293034; omega)) (by first | exact Nat.le_of_ble_eq_true rfl | (show _ ≤ 601024; omega) | (show _ ≤ 7293034; omega)) (by first | exact Nat.le_of_ble_eq_true rfl | (show _ ≤ 601024; omega) | (show _ ≤ 7293034; omega)) (by first | exact Nat.le_of_ble_eq_true rfl | (show _ ≤ 601024; omega) | (show _ ≤ 7293034; omega)) (by first | exact Nat.le_of_ble_eq_true rfl | (show _ ≤ 601024; omega) | (show _ ≤ 7293034; omega)) (by first | exact Nat.le_of_ble_eq_true rfl | (show _ ≤ 601024; omega) | (show _ ≤ 7293034; omega)) dL_law_1671 (sL_removeRule (c_removeRule hi)) (fun r h2 hq => ?_) (fun x h9 hq => hq.elim)
  obtain ⟨z1, rfl, hM⟩ := hq
  refine zV_istore O dL_law_1674 (by first | exact Nat.le_of_ble_eq_true rfl | (show _ ≤ 601024; omega) | (show _ ≤ 7293034; omega)) rfl ?_
  refine zV_aload_n O dL_law_1676 rfl rfl ?_
  refine zV_aloadS O dL_law_1677 rfl rfl ?_
  refine zV_iload O dL_law_1678 rfl ?_
  refine zV_iconst (z := 1) O ⟨by omega, by omega⟩ dL_law_1680 ?_
  refine zV_iadd O dL_law_1681 (zri (by omega) (by omega)) ?_
  refine zV_sld O hS ⟨by omega, by omega⟩ dL_law_1682 ?_
  refine zV_callV (as := [aI (sc (v4 + 1))]) (st := []) O zc_X8_removeRule (Or.inl zl_RL_211) zi_1810 zi_1811 zt_185 rfl rfl (by decide) (by first | exact Nat.le_of_ble_eq_true rfl | (show _ ≤ 601024; omega) | (show _ ≤ 7293034; omega)) rfl rfl (by first | exact Nat.le_of_ble_eq_true rfl | (show _ ≤ 601024; omega) | (show _ ≤ 7293034; omega)) (by first | exact Nat.le_of_ble_eq_true rfl | (show _ ≤ 601024; omega) | (show _ ≤ 7293034; omega)) (by first | exact Nat.le_of_ble_eq_true rfl | (show _ ≤ 601024; omega) | (show _ ≤ 7293034; omega)) (by first | exact Nat.le_of_ble_eq_true rfl | (show _ ≤ 601024; omega) | (show _ ≤ 7293034; omega)) (by first | exact Nat.le_of_ble_eq_true rfl | (show _ ≤ 601024; omega) | (show _ ≤ 7293034; omega)) (by first | exact Nat.le_of_ble_eq_true rfl | (show _ ≤ 601024; omega) | (show _ ≤ 7293034; omega)) dL_law_1683 (sX8_removeRule hM) (fun r h4 hq => ?_) (fun x h9 hq => hq.elim)
  obtain ⟨z3, rfl, hM⟩ := hq
  have hA := hM
  refine zV_istore O dL_law_1686 (by first | exact Nat.le_of_ble_eq_true rfl | (show _ ≤ 601024; omega) | (show _ ≤ 7293034; omega)) rfl ?_
  refine zV_aload_n O dL_law_1688 rfl rfl ?_
  refine zV_callV (as := []) (st := []) O zc_X8_thrown (Or.inl zl_RL_100) zi_1295 zi_1296 zt_185 rfl rfl (by decide) (by first | exact Nat.le_of_ble_eq_true rfl | (show _ ≤ 601024; omega) | (show _ ≤ 7293034; omega)) rfl rfl (by first | exact Nat.le_of_ble_eq_true rfl | (show _ ≤ 601024; omega) | (show _ ≤ 7293034; omega)) (by first | exact Nat.le_of_ble_eq_true rfl | (show _ ≤ 601024; omega) | (show _ ≤ 7293034; omega)) (by first | exact Nat.le_of_ble_eq_true rfl | (show _ ≤ 601024; omega) | (show _ ≤ 7293034; omega)) (by first | exact Nat.le_of_ble_eq_true rfl | (show _ ≤ 601024; omega) | (show _ ≤ 7293034; omega)) (by first | exact Nat.le_of_ble_eq_true rfl | (show _ ≤ 601024; omega) | (show _ ≤ 7293034; omega)) (by first | exact Nat.le_of_ble_eq_true rfl | (show _ ≤ 601024; omega) | (show _ ≤ 7293034; omega)) dL_law_1689 (sX8_thrown (Q := fun z => z = h4 185 0) rfl) (fun r h9 hq => ?_) (fun x h9 hq => hq.elim)
  obtain ⟨rfl, z5, rfl, hM⟩ := hq
  have hT := hM
  refine zV_iload O dL_law_1692 rfl ?_
  refine zV_icmp_eq (tgt := 1699) O dL_law_1694 (by decide) (fun hc => ?_) (fun hc => ?_)
  · refine zV_iload O dL_law_1699 rfl ?_
    refine zV_if_ne (tgt := 1716) O dL_law_1701 (by decide) (fun hc => ?_) (fun hc => ?_)
    · refine zV_goto (tgt := 2046) O dL_law_1716 (by decide) ?_
      refine zV_sub (ls2 := [some (aA (b + 1)), some (aR 169), some (aR 185), some (aR 197), some (aI v4), none, none, none, none]) ⟨rfl, rfl, rfl, rfl, rfl, trivial⟩ ?_
      exact hK _ _ _ (by omega) (by omega) hA.1
    · have hk0 := hc
      refine zV_aload_n O dL_law_1704 rfl rfl ?_
      refine zV_iconst (z := 0) O ⟨by omega, by omega⟩ dL_law_1705 ?_
      refine zV_lald O zt_197 (by decide) ⟨by omega, by omega⟩ dL_law_1706 ?_
      refine zV_iload O dL_law_1707 rfl ?_
      refine zV_i2l O dL_law_1709 ?_
      refine zV_lcmp O dL_law_1710 ?_
      refine zV_if_eq (tgt := 1716) O dL_law_1711 (by decide) (fun hc => ?_) (fun hc => ?_)
      · refine zV_goto (tgt := 2046) O dL_law_1716 (by decide) ?_
        refine zV_sub (ls2 := [some (aA (b + 1)), some (aR 169), some (aR 185), some (aR 197), some (aI v4), none, none, none, none]) ⟨rfl, rfl, rfl, rfl, rfl, trivial⟩ ?_
        exact hK _ _ _ (by omega) (by omega) hA.1
      · exact absurd (zlc_eq (hA.2.2 hk0)) hc
  · exact absurd (hT.trans hA.2.1) hc
set_option maxHeartbeats 4000000 in
set_option maxRecDepth 100000 in
theorem tW_32 {l0 : Launch} {a : ZC} {b : Nat} {L : Int} {sc : Int → Int} {k n : Nat} {v4 : Int} {h : Hp} (O : zOk l0 a cL_law RL 9 (some .boolean) 198 []) (hS : zScr a b L sc) (hz : ∀ i : Int, 0 ≤ i ∧ i < L → zr (sc i)) (hk : k ≤ 600000) (hn : n ≤ 7200000) (hL : L ≤ 3072) (hv : 0 ≤ v4) (hw : v4 + 6 ≤ L) (hi : inv h) (hK : ∀ (k2 n2 : Nat) (h : Hp), k2 ≤ k + 3 → n2 ≤ n + 18 → inv h → zV a (2048, 601024, 7293034, (qZ (fun z _ => z = 1)), xN) k2 n2 2046 [some (aA (b + 1)), some (aR 169), some (aR 185), some (aR 197), some (aI v4), none, none, none, none] [] h) : zV a (2048, 601024, 7293034, (qZ (fun z _ => z = 1)), xN) k n 1719 [some (aA (b + 1)), some (aR 169), some (aR 185), some (aR 197), some (aI v4), none, none, none, none] [] h := by
  refine zV_aload_n O dL_law_1719 rfl rfl ?_
  refine zV_aloadS O dL_law_1720 rfl rfl ?_
  refine zV_iload O dL_law_1721 rfl ?_
  refine zV_iconst (z := 1) O ⟨by omega, by omega⟩ dL_law_1723 ?_
  refine zV_iadd O dL_law_1724 (zri (by omega) (by omega)) ?_
  refine zV_sld O hS ⟨by omega, by omega⟩ dL_law_1725 ?_
  refine zV_aload_n O dL_law_1726 rfl rfl ?_
  refine zV_callSH (as := [aR 169, aI (sc (v4 + 1)), aR 197]) (st := []) O zch_L_setKeep.1 zch_L_setKeep.2.1 zch_L_setKeep.2.2.1 zch_L_setKeep.2.2.2 zl_RL_212 zi_1166 (by first | exact Nat.le_of_ble_eq_true rfl | (show _ ≤ 601024; omega) | (show _ ≤ 7293034; omega)) rfl rfl (by first | exact Nat.le_of_ble_eq_true rfl | (show _ ≤ 601024; omega) | (show _ ≤ 7293034; omega)) (by first | exact Nat.le_of_ble_eq_true rfl | (show _ ≤ 601024; omega) | (show _ ≤ 7293034; omega)) (by first | exact Nat.le_of_ble_eq_true rfl | (show _ ≤ 601024; omega) | (show _ ≤ 7293034; omega)) (by first | exact Nat.le_of_ble_eq_true rfl | (show _ ≤ 601024; omega) | (show _ ≤ 7293034; omega)) (by first | exact Nat.le_of_ble_eq_true rfl | (show _ ≤ 601024; omega) | (show _ ≤ 7293034; omega)) (by first | exact Nat.le_of_ble_eq_true rfl | (show _ ≤ 601024; omega) | (show _ ≤ 7293034; omega)) dL_law_1727 (sL_setKeep (c_setKeep hi)) (fun r h2 hq => ?_) (fun x h9 hq => hq.elim)
  obtain ⟨z1, rfl, hM⟩ := hq
  refine zV_istore O dL_law_1730 (by first | exact Nat.le_of_ble_eq_true rfl | (show _ ≤ 601024; omega) | (show _ ≤ 7293034; omega)) rfl ?_
  refine zV_aload_n O dL_law_1732 rfl rfl ?_
  refine zV_aloadS O dL_law_1733 rfl rfl ?_
  refine zV_iload O dL_law_1734 rfl ?_
  refine zV_iconst (z := 1) O ⟨by omega, by omega⟩ dL_law_1736 ?_
  refine zV_iadd O dL_law_1737 (zri (by omega) (by omega)) ?_
  refine zV_sld O hS ⟨by omega, by omega⟩ dL_law_1738 ?_
  refine zV_callV (as := [aI (sc (v4 + 1))]) (st := []) O zc_X8_setKeep (Or.inl zl_RL_214) zi_1814 zi_1815 zt_185 rfl rfl (by decide) (by first | exact Nat.le_of_ble_eq_true rfl | (show _ ≤ 601024; omega) | (show _ ≤ 7293034; omega)) rfl rfl (by first | exact Nat.le_of_ble_eq_true rfl | (show _ ≤ 601024; omega) | (show _ ≤ 7293034; omega)) (by first | exact Nat.le_of_ble_eq_true rfl | (show _ ≤ 601024; omega) | (show _ ≤ 7293034; omega)) (by first | exact Nat.le_of_ble_eq_true rfl | (show _ ≤ 601024; omega) | (show _ ≤ 7293034; omega)) (by first | exact Nat.le_of_ble_eq_true rfl | (show _ ≤ 601024; omega) | (show _ ≤ 7293034; omega)) (by first | exact Nat.le_of_ble_eq_true rfl | (show _ ≤ 601024; omega) | (show _ ≤ 7293034; omega)) (by first | exact Nat.le_of_ble_eq_true rfl | (show _ ≤ 601024; omega) | (show _ ≤ 7293034; omega)) dL_law_1739 (sX8_setKeep hM) (fun r h4 hq => ?_) (fun x h9 hq => hq.elim)
  obtain ⟨z3, rfl, hM⟩ := hq
  have hA := hM
  refine zV_istore O dL_law_1742 (by first | exact Nat.le_of_ble_eq_true rfl | (show _ ≤ 601024; omega) | (show _ ≤ 7293034; omega)) rfl ?_
  refine zV_aload_n O dL_law_1744 rfl rfl ?_
  refine zV_callV (as := []) (st := []) O zc_X8_thrown (Or.inl zl_RL_100) zi_1295 zi_1296 zt_185 rfl rfl (by decide) (by first | exact Nat.le_of_ble_eq_true rfl | (show _ ≤ 601024; omega) | (show _ ≤ 7293034; omega)) rfl rfl (by first | exact Nat.le_of_ble_eq_true rfl | (show _ ≤ 601024; omega) | (show _ ≤ 7293034; omega)) (by first | exact Nat.le_of_ble_eq_true rfl | (show _ ≤ 601024; omega) | (show _ ≤ 7293034; omega)) (by first | exact Nat.le_of_ble_eq_true rfl | (show _ ≤ 601024; omega) | (show _ ≤ 7293034; omega)) (by first | exact Nat.le_of_ble_eq_true rfl | (show _ ≤ 601024; omega) | (show _ ≤ 7293034; omega)) (by first | exact Nat.le_of_ble_eq_true rfl | (show _ ≤ 601024; omega) | (show _ ≤ 7293034; omega)) (by first | exact Nat.le_of_ble_eq_true rfl | (show _ ≤ 601024; omega) | (show _ ≤ 7293034; omega)) dL_law_1745 (sX8_thrown (Q := fun z => z = h4 185 0) rfl) (fun r h9 hq => ?_) (fun x h9 hq => hq.elim)
  obtain ⟨rfl, z5, rfl, hM⟩ := hq
  have hT := hM
  refine zV_iload O dL_law_1748 rfl ?_
  refine zV_icmp_eq (tgt := 1755) O dL_law_1750 (by decide) (fun hc => ?_) (fun hc => ?_)
  · refine zV_iload O dL_law_1755 rfl ?_
    refine zV_if_ne (tgt := 1772) O dL_law_1757 (by decide) (fun hc => ?_) (fun hc => ?_)
    · refine zV_goto (tgt := 2046) O dL_law_1772 (by decide) ?_
      refine zV_sub (ls2 := [some (aA (b + 1)), some (aR 169), some (aR 185), some (aR 197), some (aI v4), none, none, none, none]) ⟨rfl, rfl, rfl, rfl, rfl, trivial⟩ ?_
      exact hK _ _ _ (by omega) (by omega) hA.1
    · have hk0 := hc
      refine zV_aload_n O dL_law_1760 rfl rfl ?_
      refine zV_iconst (z := 0) O ⟨by omega, by omega⟩ dL_law_1761 ?_
      refine zV_lald O zt_197 (by decide) ⟨by omega, by omega⟩ dL_law_1762 ?_
      refine zV_iload O dL_law_1763 rfl ?_
      refine zV_i2l O dL_law_1765 ?_
      refine zV_lcmp O dL_law_1766 ?_
      refine zV_if_eq (tgt := 1772) O dL_law_1767 (by decide) (fun hc => ?_) (fun hc => ?_)
      · refine zV_goto (tgt := 2046) O dL_law_1772 (by decide) ?_
        refine zV_sub (ls2 := [some (aA (b + 1)), some (aR 169), some (aR 185), some (aR 197), some (aI v4), none, none, none, none]) ⟨rfl, rfl, rfl, rfl, rfl, trivial⟩ ?_
        exact hK _ _ _ (by omega) (by omega) hA.1
      · exact absurd (zlc_eq (hA.2.2 hk0)) hc
  · exact absurd (hT.trans hA.2.1) hc
set_option maxHeartbeats 4000000 in
set_option maxRecDepth 100000 in
theorem tW_33 {l0 : Launch} {a : ZC} {b : Nat} {L : Int} {sc : Int → Int} {k n : Nat} {v4 : Int} {h : Hp} (O : zOk l0 a cL_law RL 9 (some .boolean) 198 []) (hS : zScr a b L sc) (hz : ∀ i : Int, 0 ≤ i ∧ i < L → zr (sc i)) (hk : k ≤ 600000) (hn : n ≤ 7200000) (hL : L ≤ 3072) (hv : 0 ≤ v4) (hw : v4 + 6 ≤ L) (hi : inv h) (hK : ∀ (k2 n2 : Nat) (h : Hp), k2 ≤ k + 3 → n2 ≤ n + 18 → inv h → zV a (2048, 601024, 7293034, (qZ (fun z _ => z = 1)), xN) k2 n2 2046 [some (aA (b + 1)), some (aR 169), some (aR 185), some (aR 197), some (aI v4), none, none, none, none] [] h) : zV a (2048, 601024, 7293034, (qZ (fun z _ => z = 1)), xN) k n 1775 [some (aA (b + 1)), some (aR 169), some (aR 185), some (aR 197), some (aI v4), none, none, none, none] [] h := by
  refine zV_aload_n O dL_law_1775 rfl rfl ?_
  refine zV_aloadS O dL_law_1776 rfl rfl ?_
  refine zV_iload O dL_law_1777 rfl ?_
  refine zV_iconst (z := 1) O ⟨by omega, by omega⟩ dL_law_1779 ?_
  refine zV_iadd O dL_law_1780 (zri (by omega) (by omega)) ?_
  refine zV_sld O hS ⟨by omega, by omega⟩ dL_law_1781 ?_
  refine zV_aloadS O dL_law_1782 rfl rfl ?_
  refine zV_iload O dL_law_1783 rfl ?_
  refine zV_iconst (z := 2) O ⟨by omega, by omega⟩ dL_law_1785 ?_
  refine zV_iadd O dL_law_1786 (zri (by omega) (by omega)) ?_
  refine zV_sld O hS ⟨by omega, by omega⟩ dL_law_1787 ?_
  refine zV_if_eq (tgt := 1795) O dL_law_1788 (by decide) (fun hc => ?_) (fun hc => ?_)
  · have hs := hc
    refine zV_iconst (z := 0) O ⟨by omega, by omega⟩ dL_law_1795 ?_
    refine zV_aload_n O dL_law_1796 rfl rfl ?_
    refine zV_callSH (as := [aR 169, aI (sc (v4 + 1)), aI 0, aR 197]) (st := []) O zch_L_setPinned.1 zch_L_setPinned.2.1 zch_L_setPinned.2.2.1 zch_L_setPinned.2.2.2 zl_RL_215 zi_1173 (by first | exact Nat.le_of_ble_eq_true rfl | (show _ ≤ 601024; omega) | (show _ ≤ 7293034; omega)) rfl rfl (by first | exact Nat.le_of_ble_eq_true rfl | (show _ ≤ 601024; omega) | (show _ ≤ 7293034; omega)) (by first | exact Nat.le_of_ble_eq_true rfl | (show _ ≤ 601024; omega) | (show _ ≤ 7293034; omega)) (by first | exact Nat.le_of_ble_eq_true rfl | (show _ ≤ 601024; omega) | (show _ ≤ 7293034; omega)) (by first | exact Nat.le_of_ble_eq_true rfl | (show _ ≤ 601024; omega) | (show _ ≤ 7293034; omega)) (by first | exact Nat.le_of_ble_eq_true rfl | (show _ ≤ 601024; omega) | (show _ ≤ 7293034; omega)) (by first | exact Nat.le_of_ble_eq_true rfl | (show _ ≤ 601024; omega) | (show _ ≤ 7293034; omega)) dL_law_1797 (sL_setPinned (c_setPinned hi)) (fun r h2 hq => ?_) (fun x h9 hq => hq.elim)
    obtain ⟨z1, rfl, hM⟩ := hq
    refine zV_istore O dL_law_1800 (by first | exact Nat.le_of_ble_eq_true rfl | (show _ ≤ 601024; omega) | (show _ ≤ 7293034; omega)) rfl ?_
    refine zV_aload_n O dL_law_1802 rfl rfl ?_
    refine zV_aloadS O dL_law_1803 rfl rfl ?_
    refine zV_iload O dL_law_1804 rfl ?_
    refine zV_iconst (z := 1) O ⟨by omega, by omega⟩ dL_law_1806 ?_
    refine zV_iadd O dL_law_1807 (zri (by omega) (by omega)) ?_
    refine zV_sld O hS ⟨by omega, by omega⟩ dL_law_1808 ?_
    refine zV_aloadS O dL_law_1809 rfl rfl ?_
    refine zV_iload O dL_law_1810 rfl ?_
    refine zV_iconst (z := 2) O ⟨by omega, by omega⟩ dL_law_1812 ?_
    refine zV_iadd O dL_law_1813 (zri (by omega) (by omega)) ?_
    refine zV_sld O hS ⟨by omega, by omega⟩ dL_law_1814 ?_
    refine zV_if_eq (tgt := 1822) O dL_law_1815 (by decide) (fun hc => ?_) (fun hc => ?_)
    · refine zV_iconst (z := 0) O ⟨by omega, by omega⟩ dL_law_1822 ?_
      refine zV_callV (as := [aI (sc (v4 + 1)), aI 0]) (st := []) O zc_X8_setPinned (Or.inl zl_RL_218) zi_1818 zi_1819 zt_185 rfl rfl (by decide) (by first | exact Nat.le_of_ble_eq_true rfl | (show _ ≤ 601024; omega) | (show _ ≤ 7293034; omega)) rfl rfl (by first | exact Nat.le_of_ble_eq_true rfl | (show _ ≤ 601024; omega) | (show _ ≤ 7293034; omega)) (by first | exact Nat.le_of_ble_eq_true rfl | (show _ ≤ 601024; omega) | (show _ ≤ 7293034; omega)) (by first | exact Nat.le_of_ble_eq_true rfl | (show _ ≤ 601024; omega) | (show _ ≤ 7293034; omega)) (by first | exact Nat.le_of_ble_eq_true rfl | (show _ ≤ 601024; omega) | (show _ ≤ 7293034; omega)) (by first | exact Nat.le_of_ble_eq_true rfl | (show _ ≤ 601024; omega) | (show _ ≤ 7293034; omega)) (by first | exact Nat.le_of_ble_eq_true rfl | (show _ ≤ 601024; omega) | (show _ ≤ 7293034; omega)) dL_law_1823 (sX8_setPinned hM) (fun r h4 hq => ?_) (fun x h9 hq => hq.elim)
      obtain ⟨z3, rfl, hM⟩ := hq
      have hA := hM
      refine zV_istore O dL_law_1826 (by first | exact Nat.le_of_ble_eq_true rfl | (show _ ≤ 601024; omega) | (show _ ≤ 7293034; omega)) rfl ?_
      refine zV_aload_n O dL_law_1828 rfl rfl ?_
      refine zV_callV (as := []) (st := []) O zc_X8_thrown (Or.inl zl_RL_100) zi_1295 zi_1296 zt_185 rfl rfl (by decide) (by first | exact Nat.le_of_ble_eq_true rfl | (show _ ≤ 601024; omega) | (show _ ≤ 7293034; omega)) rfl rfl (by first | exact Nat.le_of_ble_eq_true rfl | (show _ ≤ 601024; omega) | (show _ ≤ 7293034; omega)) (by first | exact Nat.le_of_ble_eq_true rfl | (show _ ≤ 601024; omega) | (show _ ≤ 7293034; omega)) (by first | exact Nat.le_of_ble_eq_true rfl | (show _ ≤ 601024; omega) | (show _ ≤ 7293034; omega)) (by first | exact Nat.le_of_ble_eq_true rfl | (show _ ≤ 601024; omega) | (show _ ≤ 7293034; omega)) (by first | exact Nat.le_of_ble_eq_true rfl | (show _ ≤ 601024; omega) | (show _ ≤ 7293034; omega)) (by first | exact Nat.le_of_ble_eq_true rfl | (show _ ≤ 601024; omega) | (show _ ≤ 7293034; omega)) dL_law_1829 (sX8_thrown (Q := fun z => z = h4 185 0) rfl) (fun r h9 hq => ?_) (fun x h9 hq => hq.elim)
      obtain ⟨rfl, z5, rfl, hM⟩ := hq
      have hT := hM
      refine zV_iload O dL_law_1832 rfl ?_
      refine zV_icmp_eq (tgt := 1839) O dL_law_1834 (by decide) (fun hc => ?_) (fun hc => ?_)
      · refine zV_iload O dL_law_1839 rfl ?_
        refine zV_if_ne (tgt := 1856) O dL_law_1841 (by decide) (fun hc => ?_) (fun hc => ?_)
        · refine zV_goto (tgt := 2046) O dL_law_1856 (by decide) ?_
          refine zV_sub (ls2 := [some (aA (b + 1)), some (aR 169), some (aR 185), some (aR 197), some (aI v4), none, none, none, none]) ⟨rfl, rfl, rfl, rfl, rfl, trivial⟩ ?_
          exact hK _ _ _ (by omega) (by omega) hA.1
        · have hk0 := hc
          refine zV_aload_n O dL_law_1844 rfl rfl ?_
          refine zV_iconst (z := 0) O ⟨by omega, by omega⟩ dL_law_1845 ?_
          refine zV_lald O zt_197 (by decide) ⟨by omega, by omega⟩ dL_law_1846 ?_
          refine zV_iload O dL_law_1847 rfl ?_
          refine zV_i2l O dL_law_1849 ?_
          refine zV_lcmp O dL_law_1850 ?_
          refine zV_if_eq (tgt := 1856) O dL_law_1851 (by decide) (fun hc => ?_) (fun hc => ?_)
          · refine zV_goto (tgt := 2046) O dL_law_1856 (by decide) ?_
            refine zV_sub (ls2 := [some (aA (b + 1)), some (aR 169), some (aR 185), some (aR 197), some (aI v4), none, none, none, none]) ⟨rfl, rfl, rfl, rfl, rfl, trivial⟩ ?_
            exact hK _ _ _ (by omega) (by omega) hA.1
          · exact absurd (zlc_eq (hA.2.2 hk0)) hc
      · exact absurd (hT.trans hA.2.1) hc
    · exact absurd hs hc
  · have hs := hc
    refine zV_iconst (z := 1) O ⟨by omega, by omega⟩ dL_law_1791 ?_
    refine zV_goto (tgt := 1796) O dL_law_1792 (by decide) ?_
    refine zV_aload_n O dL_law_1796 rfl rfl ?_
    refine zV_callSH (as := [aR 169, aI (sc (v4 + 1)), aI 1, aR 197]) (st := []) O zch_L_setPinned.1 zch_L_setPinned.2.1 zch_L_setPinned.2.2.1 zch_L_setPinned.2.2.2 zl_RL_215 zi_1173 (by first | exact Nat.le_of_ble_eq_true rfl | (show _ ≤ 601024; omega) | (show _ ≤ 7293034; omega)) rfl rfl (by first | exact Nat.le_of_ble_eq_true rfl | (show _ ≤ 601024; omega) | (show _ ≤ 7293034; omega)) (by first | exact Nat.le_of_ble_eq_true rfl | (show _ ≤ 601024; omega) | (show _ ≤ 7293034; omega)) (by first | exact Nat.le_of_ble_eq_true rfl | (show _ ≤ 601024; omega) | (show _ ≤ 7293034; omega)) (by first | exact Nat.le_of_ble_eq_true rfl | (show _ ≤ 601024; omega) | (show _ ≤ 7293034; omega)) (by first | exact Nat.le_of_ble_eq_true rfl | (show _ ≤ 601024; omega) | (show _ ≤ 7293034; omega)) (by first | exact Nat.le_of_ble_eq_true rfl | (show _ ≤ 601024; omega) | (show _ ≤ 7293034; omega)) dL_law_1797 (sL_setPinned (c_setPinned hi)) (fun r h10 hq => ?_) (fun x h9 hq => hq.elim)
    obtain ⟨z9, rfl, hM⟩ := hq
    refine zV_istore O dL_law_1800 (by first | exact Nat.le_of_ble_eq_true rfl | (show _ ≤ 601024; omega) | (show _ ≤ 7293034; omega)) rfl ?_
    refine zV_aload_n O dL_law_1802 rfl rfl ?_
    refine zV_aloadS O dL_law_1803 rfl rfl ?_
    refine zV_iload O dL_law_1804 rfl ?_
    refine zV_iconst (z := 1) O ⟨by omega, by omega⟩ dL_law_1806 ?_
    refine zV_iadd O dL_law_1807 (zri (by omega) (by omega)) ?_
    refine zV_sld O hS ⟨by omega, by omega⟩ dL_law_1808 ?_
    refine zV_aloadS O dL_law_1809 rfl rfl ?_
    refine zV_iload O dL_law_1810 rfl ?_
    refine zV_iconst (z := 2) O ⟨by omega, by omega⟩ dL_law_1812 ?_
    refine zV_iadd O dL_law_1813 (zri (by omega) (by omega)) ?_
    refine zV_sld O hS ⟨by omega, by omega⟩ dL_law_1814 ?_
    refine zV_if_eq (tgt := 1822) O dL_law_1815 (by decide) (fun hc => ?_) (fun hc => ?_)
    · exact absurd hc hs
    · refine zV_iconst (z := 1) O ⟨by omega, by omega⟩ dL_law_1818 ?_
      refine zV_goto (tgt := 1823) O dL_law_1819 (by decide) ?_
      refine zV_callV (as := [aI (sc (v4 + 1)), aI 1]) (st := []) O zc_X8_setPinned (Or.inl zl_RL_218) zi_1818 zi_1819 zt_185 rfl rfl (by decide) (by first | exact Nat.le_of_ble_eq_true rfl | (show _ ≤ 601024; omega) | (show _ ≤ 7293034; omega)) rfl rfl (by first | exact Nat.le_of_ble_eq_true rfl | (show _ ≤ 601024; omega) | (show _ ≤ 7293034; omega)) (by first | exact Nat.le_of_ble_eq_true rfl | (show _ ≤ 601024; omega) | (show _ ≤ 7293034; omega)) (by first | exact Nat.le_of_ble_eq_true rfl | (show _ ≤ 601024; omega) | (show _ ≤ 7293034; omega)) (by first | exact Nat.le_of_ble_eq_true rfl | (show _ ≤ 601024; omega) | (show _ ≤ 7293034; omega)) (by first | exact Nat.le_of_ble_eq_true rfl | (show _ ≤ 601024; omega) | (show _ ≤ 7293034; omega)) (by first | exact Nat.le_of_ble_eq_true rfl | (show _ ≤ 601024; omega) | (show _ ≤ 7293034; omega)) dL_law_1823 (sX8_setPinned hM) (fun r h15 hq => ?_) (fun x h9 hq => hq.elim)
      obtain ⟨z14, rfl, hM⟩ := hq
      have hA := hM
      refine zV_istore O dL_law_1826 (by first | exact Nat.le_of_ble_eq_true rfl | (show _ ≤ 601024; omega) | (show _ ≤ 7293034; omega)) rfl ?_
      refine zV_aload_n O dL_law_1828 rfl rfl ?_
      refine zV_callV (as := []) (st := []) O zc_X8_thrown (Or.inl zl_RL_100) zi_1295 zi_1296 zt_185 rfl rfl (by decide) (by first | exact Nat.le_of_ble_eq_true rfl | (show _ ≤ 601024; omega) | (show _ ≤ 7293034; omega)) rfl rfl (by first | exact Nat.le_of_ble_eq_true rfl | (show _ ≤ 601024; omega) | (show _ ≤ 7293034; omega)) (by first | exact Nat.le_of_ble_eq_true rfl | (show _ ≤ 601024; omega) | (show _ ≤ 7293034; omega)) (by first | exact Nat.le_of_ble_eq_true rfl | (show _ ≤ 601024; omega) | (show _ ≤ 7293034; omega)) (by first | exact Nat.le_of_ble_eq_true rfl | (show _ ≤ 601024; omega) | (show _ ≤ 7293034; omega)) (by first | exact Nat.le_of_ble_eq_true rfl | (show _ ≤ 601024; omega) | (show _ ≤ 7293034; omega)) (by first | exact Nat.le_of_ble_eq_true rfl | (show _ ≤ 601024; omega) | (show _ ≤ 7293034; omega)) dL_law_1829 (sX8_thrown (Q := fun z => z = h15 185 0) rfl) (fun r h9 hq => ?_) (fun x h9 hq => hq.elim)
      obtain ⟨rfl, z16, rfl, hM⟩ := hq
      have hT := hM
      refine zV_iload O dL_law_1832 rfl ?_
      refine zV_icmp_eq (tgt := 1839) O dL_law_1834 (by decide) (fun hc => ?_) (fun hc => ?_)
      · refine zV_iload O dL_law_1839 rfl ?_
        refine zV_if_ne (tgt := 1856) O dL_law_1841 (by decide) (fun hc => ?_) (fun hc => ?_)
        · refine zV_goto (tgt := 2046) O dL_law_1856 (by decide) ?_
          refine zV_sub (ls2 := [some (aA (b + 1)), some (aR 169), some (aR 185), some (aR 197), some (aI v4), none, none, none, none]) ⟨rfl, rfl, rfl, rfl, rfl, trivial⟩ ?_
          exact hK _ _ _ (by omega) (by omega) hA.1
        · have hk0 := hc
          refine zV_aload_n O dL_law_1844 rfl rfl ?_
          refine zV_iconst (z := 0) O ⟨by omega, by omega⟩ dL_law_1845 ?_
          refine zV_lald O zt_197 (by decide) ⟨by omega, by omega⟩ dL_law_1846 ?_
          refine zV_iload O dL_law_1847 rfl ?_
          refine zV_i2l O dL_law_1849 ?_
          refine zV_lcmp O dL_law_1850 ?_
          refine zV_if_eq (tgt := 1856) O dL_law_1851 (by decide) (fun hc => ?_) (fun hc => ?_)
          · refine zV_goto (tgt := 2046) O dL_law_1856 (by decide) ?_
            refine zV_sub (ls2 := [some (aA (b + 1)), some (aR 169), some (aR 185), some (aR 197), some (aI v4), none, none, none, none]) ⟨rfl, rfl, rfl, rfl, rfl, trivial⟩ ?_
            exact hK _ _ _ (by omega) (by omega) hA.1
          · exact absurd (zlc_eq (hA.2.2 hk0)) hc
      · exact absurd (hT.trans hA.2.1) hc
set_option maxHeartbeats 4000000 in
set_option maxRecDepth 100000 in
theorem tW_34 {l0 : Launch} {a : ZC} {b : Nat} {L : Int} {sc : Int → Int} {k n : Nat} {v4 : Int} {h : Hp} (O : zOk l0 a cL_law RL 9 (some .boolean) 198 []) (hS : zScr a b L sc) (hz : ∀ i : Int, 0 ≤ i ∧ i < L → zr (sc i)) (hk : k ≤ 600000) (hn : n ≤ 7200000) (hL : L ≤ 3072) (hv : 0 ≤ v4) (hw : v4 + 6 ≤ L) (hi : inv h) (hK : ∀ (k2 n2 : Nat) (h : Hp), k2 ≤ k + 3 → n2 ≤ n + 18 → inv h → zV a (2048, 601024, 7293034, (qZ (fun z _ => z = 1)), xN) k2 n2 2046 [some (aA (b + 1)), some (aR 169), some (aR 185), some (aR 197), some (aI v4), none, none, none, none] [] h) : zV a (2048, 601024, 7293034, (qZ (fun z _ => z = 1)), xN) k n 1859 [some (aA (b + 1)), some (aR 169), some (aR 185), some (aR 197), some (aI v4), none, none, none, none] [] h := by
  refine zV_aload_n O dL_law_1859 rfl rfl ?_
  refine zV_aloadS O dL_law_1860 rfl rfl ?_
  refine zV_iload O dL_law_1861 rfl ?_
  refine zV_iconst (z := 1) O ⟨by omega, by omega⟩ dL_law_1863 ?_
  refine zV_iadd O dL_law_1864 (zri (by omega) (by omega)) ?_
  refine zV_sld O hS ⟨by omega, by omega⟩ dL_law_1865 ?_
  refine zV_aload_n O dL_law_1866 rfl rfl ?_
  refine zV_callSH (as := [aR 169, aI (sc (v4 + 1)), aR 197]) (st := []) O zch_L_format.1 zch_L_format.2.1 zch_L_format.2.2.1 zch_L_format.2.2.2 zl_RL_219 zi_1180 (by first | exact Nat.le_of_ble_eq_true rfl | (show _ ≤ 601024; omega) | (show _ ≤ 7293034; omega)) rfl rfl (by first | exact Nat.le_of_ble_eq_true rfl | (show _ ≤ 601024; omega) | (show _ ≤ 7293034; omega)) (by first | exact Nat.le_of_ble_eq_true rfl | (show _ ≤ 601024; omega) | (show _ ≤ 7293034; omega)) (by first | exact Nat.le_of_ble_eq_true rfl | (show _ ≤ 601024; omega) | (show _ ≤ 7293034; omega)) (by first | exact Nat.le_of_ble_eq_true rfl | (show _ ≤ 601024; omega) | (show _ ≤ 7293034; omega)) (by first | exact Nat.le_of_ble_eq_true rfl | (show _ ≤ 601024; omega) | (show _ ≤ 7293034; omega)) (by first | exact Nat.le_of_ble_eq_true rfl | (show _ ≤ 601024; omega) | (show _ ≤ 7293034; omega)) dL_law_1867 (sL_format (c_format hi)) (fun r h2 hq => ?_) (fun x h9 hq => hq.elim)
  obtain ⟨z1, rfl, hM⟩ := hq
  refine zV_istore O dL_law_1870 (by first | exact Nat.le_of_ble_eq_true rfl | (show _ ≤ 601024; omega) | (show _ ≤ 7293034; omega)) rfl ?_
  refine zV_aload_n O dL_law_1872 rfl rfl ?_
  refine zV_aloadS O dL_law_1873 rfl rfl ?_
  refine zV_iload O dL_law_1874 rfl ?_
  refine zV_iconst (z := 1) O ⟨by omega, by omega⟩ dL_law_1876 ?_
  refine zV_iadd O dL_law_1877 (zri (by omega) (by omega)) ?_
  refine zV_sld O hS ⟨by omega, by omega⟩ dL_law_1878 ?_
  refine zV_callV (as := [aI (sc (v4 + 1))]) (st := []) O zc_X8_format (Or.inl zl_RL_221) zi_1838 zi_1839 zt_185 rfl rfl (by decide) (by first | exact Nat.le_of_ble_eq_true rfl | (show _ ≤ 601024; omega) | (show _ ≤ 7293034; omega)) rfl rfl (by first | exact Nat.le_of_ble_eq_true rfl | (show _ ≤ 601024; omega) | (show _ ≤ 7293034; omega)) (by first | exact Nat.le_of_ble_eq_true rfl | (show _ ≤ 601024; omega) | (show _ ≤ 7293034; omega)) (by first | exact Nat.le_of_ble_eq_true rfl | (show _ ≤ 601024; omega) | (show _ ≤ 7293034; omega)) (by first | exact Nat.le_of_ble_eq_true rfl | (show _ ≤ 601024; omega) | (show _ ≤ 7293034; omega)) (by first | exact Nat.le_of_ble_eq_true rfl | (show _ ≤ 601024; omega) | (show _ ≤ 7293034; omega)) (by first | exact Nat.le_of_ble_eq_true rfl | (show _ ≤ 601024; omega) | (show _ ≤ 7293034; omega)) dL_law_1879 (sX8_format hM) (fun r h4 hq => ?_) (fun x h9 hq => hq.elim)
  obtain ⟨z3, rfl, hM⟩ := hq
  have hA := hM
  refine zV_istore O dL_law_1882 (by first | exact Nat.le_of_ble_eq_true rfl | (show _ ≤ 601024; omega) | (show _ ≤ 7293034; omega)) rfl ?_
  refine zV_aload_n O dL_law_1884 rfl rfl ?_
  refine zV_callV (as := []) (st := []) O zc_X8_thrown (Or.inl zl_RL_100) zi_1295 zi_1296 zt_185 rfl rfl (by decide) (by first | exact Nat.le_of_ble_eq_true rfl | (show _ ≤ 601024; omega) | (show _ ≤ 7293034; omega)) rfl rfl (by first | exact Nat.le_of_ble_eq_true rfl | (show _ ≤ 601024; omega) | (show _ ≤ 7293034; omega)) (by first | exact Nat.le_of_ble_eq_true rfl | (show _ ≤ 601024; omega) | (show _ ≤ 7293034; omega)) (by first | exact Nat.le_of_ble_eq_true rfl | (show _ ≤ 601024; omega) | (show _ ≤ 7293034; omega)) (by first | exact Nat.le_of_ble_eq_true rfl | (show _ ≤ 601024; omega) | (show _ ≤ 7293034; omega)) (by first | exact Nat.le_of_ble_eq_true rfl | (show _ ≤ 601024; omega) | (show _ ≤ 7293034; omega)) (by first | exact Nat.le_of_ble_eq_true rfl | (show _ ≤ 601024; omega) | (show _ ≤ 7293034; omega)) dL_law_1885 (sX8_thrown (Q := fun z => z = h4 185 0) rfl) (fun r h9 hq => ?_) (fun x h9 hq => hq.elim)
  obtain ⟨rfl, z5, rfl, hM⟩ := hq
  have hT := hM
  refine zV_iload O dL_law_1888 rfl ?_
  refine zV_icmp_eq (tgt := 1895) O dL_law_1890 (by decide) (fun hc => ?_) (fun hc => ?_)
  · refine zV_iload O dL_law_1895 rfl ?_
    refine zV_if_ne (tgt := 1912) O dL_law_1897 (by decide) (fun hc => ?_) (fun hc => ?_)
    · refine zV_goto (tgt := 2046) O dL_law_1912 (by decide) ?_
      refine zV_sub (ls2 := [some (aA (b + 1)), some (aR 169), some (aR 185), some (aR 197), some (aI v4), none, none, none, none]) ⟨rfl, rfl, rfl, rfl, rfl, trivial⟩ ?_
      exact hK _ _ _ (by omega) (by omega) hA.1
    · have hk0 := hc
      refine zV_aload_n O dL_law_1900 rfl rfl ?_
      refine zV_iconst (z := 0) O ⟨by omega, by omega⟩ dL_law_1901 ?_
      refine zV_lald O zt_197 (by decide) ⟨by omega, by omega⟩ dL_law_1902 ?_
      refine zV_iload O dL_law_1903 rfl ?_
      refine zV_i2l O dL_law_1905 ?_
      refine zV_lcmp O dL_law_1906 ?_
      refine zV_if_eq (tgt := 1912) O dL_law_1907 (by decide) (fun hc => ?_) (fun hc => ?_)
      · refine zV_goto (tgt := 2046) O dL_law_1912 (by decide) ?_
        refine zV_sub (ls2 := [some (aA (b + 1)), some (aR 169), some (aR 185), some (aR 197), some (aI v4), none, none, none, none]) ⟨rfl, rfl, rfl, rfl, rfl, trivial⟩ ?_
        exact hK _ _ _ (by omega) (by omega) hA.1
      · exact absurd (zlc_eq (hA.2.2 hk0)) hc
  · exact absurd (hT.trans hA.2.1) hc
set_option maxHeartbeats 4000000 in
set_option maxRecDepth 100000 in
theorem tW_35 {l0 : Launch} {a : ZC} {b : Nat} {L : Int} {sc : Int → Int} {k n : Nat} {v4 : Int} {h : Hp} (O : zOk l0 a cL_law RL 9 (some .boolean) 198 []) (hS : zScr a b L sc) (hz : ∀ i : Int, 0 ≤ i ∧ i < L → zr (sc i)) (hk : k ≤ 600000) (hn : n ≤ 7200000) (hL : L ≤ 3072) (hv : 0 ≤ v4) (hw : v4 + 6 ≤ L) (hi : inv h) (hK : ∀ (k2 n2 : Nat) (h : Hp), k2 ≤ k + 3 → n2 ≤ n + 18 → inv h → zV a (2048, 601024, 7293034, (qZ (fun z _ => z = 1)), xN) k2 n2 2046 [some (aA (b + 1)), some (aR 169), some (aR 185), some (aR 197), some (aI v4), none, none, none, none] [] h) : zV a (2048, 601024, 7293034, (qZ (fun z _ => z = 1)), xN) k n 1915 [some (aA (b + 1)), some (aR 169), some (aR 185), some (aR 197), some (aI v4), none, none, none, none] [] h := by
  refine zV_aload_n O dL_law_1915 rfl rfl ?_
  refine zV_aloadS O dL_law_1916 rfl rfl ?_
  refine zV_iload O dL_law_1917 rfl ?_
  refine zV_iconst (z := 1) O ⟨by omega, by omega⟩ dL_law_1919 ?_
  refine zV_iadd O dL_law_1920 (zri (by omega) (by omega)) ?_
  refine zV_sld O hS ⟨by omega, by omega⟩ dL_law_1921 ?_
  refine zV_callV (as := [aI (sc (v4 + 1))]) (st := []) O zc_X7_formattedByte (Or.inl zl_RL_222) zi_700 zi_701 zt_169 rfl rfl (by decide) (by first | exact Nat.le_of_ble_eq_true rfl | (show _ ≤ 601024; omega) | (show _ ≤ 7293034; omega)) rfl rfl (by first | exact Nat.le_of_ble_eq_true rfl | (show _ ≤ 601024; omega) | (show _ ≤ 7293034; omega)) (by first | exact Nat.le_of_ble_eq_true rfl | (show _ ≤ 601024; omega) | (show _ ≤ 7293034; omega)) (by first | exact Nat.le_of_ble_eq_true rfl | (show _ ≤ 601024; omega) | (show _ ≤ 7293034; omega)) (by first | exact Nat.le_of_ble_eq_true rfl | (show _ ≤ 601024; omega) | (show _ ≤ 7293034; omega)) (by first | exact Nat.le_of_ble_eq_true rfl | (show _ ≤ 601024; omega) | (show _ ≤ 7293034; omega)) (by first | exact Nat.le_of_ble_eq_true rfl | (show _ ≤ 601024; omega) | (show _ ≤ 7293034; omega)) dL_law_1922 (sX7_formattedByte (c_formattedByte hi)) (fun r h9 hq => ?_) (fun x h9 hq => hq.elim)
  obtain ⟨rfl, z1, rfl, hM⟩ := hq
  refine zV_aload_n O dL_law_1925 rfl rfl ?_
  refine zV_aloadS O dL_law_1926 rfl rfl ?_
  refine zV_iload O dL_law_1927 rfl ?_
  refine zV_iconst (z := 1) O ⟨by omega, by omega⟩ dL_law_1929 ?_
  refine zV_iadd O dL_law_1930 (zri (by omega) (by omega)) ?_
  refine zV_sld O hS ⟨by omega, by omega⟩ dL_law_1931 ?_
  refine zV_callV (as := [aI (sc (v4 + 1))]) (st := [aI z1]) O zc_X8_formattedByte (Or.inl zl_RL_225) zi_1850 zi_1851 zt_185 rfl rfl (by decide) (by first | exact Nat.le_of_ble_eq_true rfl | (show _ ≤ 601024; omega) | (show _ ≤ 7293034; omega)) rfl rfl (by first | exact Nat.le_of_ble_eq_true rfl | (show _ ≤ 601024; omega) | (show _ ≤ 7293034; omega)) (by first | exact Nat.le_of_ble_eq_true rfl | (show _ ≤ 601024; omega) | (show _ ≤ 7293034; omega)) (by first | exact Nat.le_of_ble_eq_true rfl | (show _ ≤ 601024; omega) | (show _ ≤ 7293034; omega)) (by first | exact Nat.le_of_ble_eq_true rfl | (show _ ≤ 601024; omega) | (show _ ≤ 7293034; omega)) (by first | exact Nat.le_of_ble_eq_true rfl | (show _ ≤ 601024; omega) | (show _ ≤ 7293034; omega)) (by first | exact Nat.le_of_ble_eq_true rfl | (show _ ≤ 601024; omega) | (show _ ≤ 7293034; omega)) dL_law_1932 (sX8_formattedByte hM) (fun r h3 hq => ?_) (fun x h9 hq => hq.elim)
  obtain ⟨z2, rfl, hM⟩ := hq
  have hA := hM
  refine zV_icmp_eq (tgt := 2046) O dL_law_1935 (by decide) (fun hc => ?_) (fun hc => ?_)
  · refine zV_sub (ls2 := [some (aA (b + 1)), some (aR 169), some (aR 185), some (aR 197), some (aI v4), none, none, none, none]) ⟨rfl, rfl, rfl, rfl, rfl, trivial⟩ ?_
    exact hK _ _ _ (by omega) (by omega) hA.1
  · exact absurd hA.2 hc
set_option maxHeartbeats 4000000 in
set_option maxRecDepth 100000 in
theorem tW_36 {l0 : Launch} {a : ZC} {b : Nat} {L : Int} {sc : Int → Int} {k n : Nat} {v4 : Int} {h : Hp} (O : zOk l0 a cL_law RL 9 (some .boolean) 198 []) (hS : zScr a b L sc) (hz : ∀ i : Int, 0 ≤ i ∧ i < L → zr (sc i)) (hk : k ≤ 600000) (hn : n ≤ 7200000) (hL : L ≤ 3072) (hv : 0 ≤ v4) (hw : v4 + 6 ≤ L) (hi : inv h) (hK : ∀ (k2 n2 : Nat) (h : Hp), k2 ≤ k + 3 → n2 ≤ n + 18 → inv h → zV a (2048, 601024, 7293034, (qZ (fun z _ => z = 1)), xN) k2 n2 2046 [some (aA (b + 1)), some (aR 169), some (aR 185), some (aR 197), some (aI v4), none, none, none, none] [] h) : zV a (2048, 601024, 7293034, (qZ (fun z _ => z = 1)), xN) k n 1940 [some (aA (b + 1)), some (aR 169), some (aR 185), some (aR 197), some (aI v4), none, none, none, none] [] h := by
  refine zV_aload_n O dL_law_1940 rfl rfl ?_
  refine zV_callV (as := []) (st := []) O zc_X7_undoCount (Or.inl zl_RL_226) zi_708 zi_709 zt_169 rfl rfl (by decide) (by first | exact Nat.le_of_ble_eq_true rfl | (show _ ≤ 601024; omega) | (show _ ≤ 7293034; omega)) rfl rfl (by first | exact Nat.le_of_ble_eq_true rfl | (show _ ≤ 601024; omega) | (show _ ≤ 7293034; omega)) (by first | exact Nat.le_of_ble_eq_true rfl | (show _ ≤ 601024; omega) | (show _ ≤ 7293034; omega)) (by first | exact Nat.le_of_ble_eq_true rfl | (show _ ≤ 601024; omega) | (show _ ≤ 7293034; omega)) (by first | exact Nat.le_of_ble_eq_true rfl | (show _ ≤ 601024; omega) | (show _ ≤ 7293034; omega)) (by first | exact Nat.le_of_ble_eq_true rfl | (show _ ≤ 601024; omega) | (show _ ≤ 7293034; omega)) (by first | exact Nat.le_of_ble_eq_true rfl | (show _ ≤ 601024; omega) | (show _ ≤ 7293034; omega)) dL_law_1941 (sX7_undoCount (c_undoCount hi)) (fun r h9 hq => ?_) (fun x h9 hq => hq.elim)
  obtain ⟨rfl, z1, rfl, hM⟩ := hq
  refine zV_aload_n O dL_law_1944 rfl rfl ?_
  refine zV_callV (as := []) (st := [aI z1]) O zc_X8_undoCount (Or.inl zl_RL_229) zi_1822 zi_1823 zt_185 rfl rfl (by decide) (by first | exact Nat.le_of_ble_eq_true rfl | (show _ ≤ 601024; omega) | (show _ ≤ 7293034; omega)) rfl rfl (by first | exact Nat.le_of_ble_eq_true rfl | (show _ ≤ 601024; omega) | (show _ ≤ 7293034; omega)) (by first | exact Nat.le_of_ble_eq_true rfl | (show _ ≤ 601024; omega) | (show _ ≤ 7293034; omega)) (by first | exact Nat.le_of_ble_eq_true rfl | (show _ ≤ 601024; omega) | (show _ ≤ 7293034; omega)) (by first | exact Nat.le_of_ble_eq_true rfl | (show _ ≤ 601024; omega) | (show _ ≤ 7293034; omega)) (by first | exact Nat.le_of_ble_eq_true rfl | (show _ ≤ 601024; omega) | (show _ ≤ 7293034; omega)) (by first | exact Nat.le_of_ble_eq_true rfl | (show _ ≤ 601024; omega) | (show _ ≤ 7293034; omega)) dL_law_1945 (sX8_undoCount hM) (fun r h3 hq => ?_) (fun x h9 hq => hq.elim)
  obtain ⟨z2, rfl, hM⟩ := hq
  have hA := hM
  refine zV_icmp_eq (tgt := 2046) O dL_law_1948 (by decide) (fun hc => ?_) (fun hc => ?_)
  · refine zV_sub (ls2 := [some (aA (b + 1)), some (aR 169), some (aR 185), some (aR 197), some (aI v4), none, none, none, none]) ⟨rfl, rfl, rfl, rfl, rfl, trivial⟩ ?_
    exact hK _ _ _ (by omega) (by omega) hA.1
  · exact absurd hA.2 hc
set_option maxHeartbeats 4000000 in
set_option maxRecDepth 100000 in
theorem tW_37 {l0 : Launch} {a : ZC} {b : Nat} {L : Int} {sc : Int → Int} {k n : Nat} {v4 : Int} {h : Hp} (O : zOk l0 a cL_law RL 9 (some .boolean) 198 []) (hS : zScr a b L sc) (hz : ∀ i : Int, 0 ≤ i ∧ i < L → zr (sc i)) (hk : k ≤ 600000) (hn : n ≤ 7200000) (hL : L ≤ 3072) (hv : 0 ≤ v4) (hw : v4 + 6 ≤ L) (hi : inv h) (hK : ∀ (k2 n2 : Nat) (h : Hp), k2 ≤ k + 3 → n2 ≤ n + 18 → inv h → zV a (2048, 601024, 7293034, (qZ (fun z _ => z = 1)), xN) k2 n2 2046 [some (aA (b + 1)), some (aR 169), some (aR 185), some (aR 197), some (aI v4), none, none, none, none] [] h) : zV a (2048, 601024, 7293034, (qZ (fun z _ => z = 1)), xN) k n 1953 [some (aA (b + 1)), some (aR 169), some (aR 185), some (aR 197), some (aI v4), none, none, none, none] [] h := by
  refine zV_aload_n O dL_law_1953 rfl rfl ?_
  refine zV_callV (as := []) (st := []) O zc_X7_undo (Or.inl zl_RL_230) zi_712 zi_713 zt_169 rfl rfl (by decide) (by first | exact Nat.le_of_ble_eq_true rfl | (show _ ≤ 601024; omega) | (show _ ≤ 7293034; omega)) rfl rfl (by first | exact Nat.le_of_ble_eq_true rfl | (show _ ≤ 601024; omega) | (show _ ≤ 7293034; omega)) (by first | exact Nat.le_of_ble_eq_true rfl | (show _ ≤ 601024; omega) | (show _ ≤ 7293034; omega)) (by first | exact Nat.le_of_ble_eq_true rfl | (show _ ≤ 601024; omega) | (show _ ≤ 7293034; omega)) (by first | exact Nat.le_of_ble_eq_true rfl | (show _ ≤ 601024; omega) | (show _ ≤ 7293034; omega)) (by first | exact Nat.le_of_ble_eq_true rfl | (show _ ≤ 601024; omega) | (show _ ≤ 7293034; omega)) (by first | exact Nat.le_of_ble_eq_true rfl | (show _ ≤ 601024; omega) | (show _ ≤ 7293034; omega)) dL_law_1954 (sX7_undo (c_undo hi)) (fun r h2 hq => ?_) (fun x h9 hq => hq.elim)
  obtain ⟨z1, rfl, hM⟩ := hq
  refine zV_aload_n O dL_law_1957 rfl rfl ?_
  refine zV_callV (as := []) (st := [aI z1]) O zc_X8_undo (Or.inl zl_RL_233) zi_1826 zi_1827 zt_185 rfl rfl (by decide) (by first | exact Nat.le_of_ble_eq_true rfl | (show _ ≤ 601024; omega) | (show _ ≤ 7293034; omega)) rfl rfl (by first | exact Nat.le_of_ble_eq_true rfl | (show _ ≤ 601024; omega) | (show _ ≤ 7293034; omega)) (by first | exact Nat.le_of_ble_eq_true rfl | (show _ ≤ 601024; omega) | (show _ ≤ 7293034; omega)) (by first | exact Nat.le_of_ble_eq_true rfl | (show _ ≤ 601024; omega) | (show _ ≤ 7293034; omega)) (by first | exact Nat.le_of_ble_eq_true rfl | (show _ ≤ 601024; omega) | (show _ ≤ 7293034; omega)) (by first | exact Nat.le_of_ble_eq_true rfl | (show _ ≤ 601024; omega) | (show _ ≤ 7293034; omega)) (by first | exact Nat.le_of_ble_eq_true rfl | (show _ ≤ 601024; omega) | (show _ ≤ 7293034; omega)) dL_law_1958 (sX8_undo hM) (fun r h4 hq => ?_) (fun x h9 hq => hq.elim)
  obtain ⟨z3, rfl, hM⟩ := hq
  have hA := hM
  refine zV_icmp_eq (tgt := 2046) O dL_law_1961 (by decide) (fun hc => ?_) (fun hc => ?_)
  · refine zV_sub (ls2 := [some (aA (b + 1)), some (aR 169), some (aR 185), some (aR 197), some (aI v4), none, none, none, none]) ⟨rfl, rfl, rfl, rfl, rfl, trivial⟩ ?_
    exact hK _ _ _ (by omega) (by omega) hA.1
  · exact absurd hA.2 hc
set_option maxHeartbeats 4000000 in
set_option maxRecDepth 100000 in
theorem tW_38 {l0 : Launch} {a : ZC} {b : Nat} {L : Int} {sc : Int → Int} {k n : Nat} {v4 : Int} {h : Hp} (O : zOk l0 a cL_law RL 9 (some .boolean) 198 []) (hS : zScr a b L sc) (hz : ∀ i : Int, 0 ≤ i ∧ i < L → zr (sc i)) (hk : k ≤ 600000) (hn : n ≤ 7200000) (hL : L ≤ 3072) (hv : 0 ≤ v4) (hw : v4 + 6 ≤ L) (hi : inv h) (hK : ∀ (k2 n2 : Nat) (h : Hp), k2 ≤ k + 3 → n2 ≤ n + 18 → inv h → zV a (2048, 601024, 7293034, (qZ (fun z _ => z = 1)), xN) k2 n2 2046 [some (aA (b + 1)), some (aR 169), some (aR 185), some (aR 197), some (aI v4), none, none, none, none] [] h) : zV a (2048, 601024, 7293034, (qZ (fun z _ => z = 1)), xN) k n 1966 [some (aA (b + 1)), some (aR 169), some (aR 185), some (aR 197), some (aI v4), none, none, none, none] [] h := by
  refine zV_aload_n O dL_law_1966 rfl rfl ?_
  refine zV_callV (as := []) (st := []) O zc_X7_saveSnapshot (Or.inl zl_RL_234) zi_720 zi_721 zt_169 rfl rfl (by decide) (by first | exact Nat.le_of_ble_eq_true rfl | (show _ ≤ 601024; omega) | (show _ ≤ 7293034; omega)) rfl rfl (by first | exact Nat.le_of_ble_eq_true rfl | (show _ ≤ 601024; omega) | (show _ ≤ 7293034; omega)) (by first | exact Nat.le_of_ble_eq_true rfl | (show _ ≤ 601024; omega) | (show _ ≤ 7293034; omega)) (by first | exact Nat.le_of_ble_eq_true rfl | (show _ ≤ 601024; omega) | (show _ ≤ 7293034; omega)) (by first | exact Nat.le_of_ble_eq_true rfl | (show _ ≤ 601024; omega) | (show _ ≤ 7293034; omega)) (by first | exact Nat.le_of_ble_eq_true rfl | (show _ ≤ 601024; omega) | (show _ ≤ 7293034; omega)) (by first | exact Nat.le_of_ble_eq_true rfl | (show _ ≤ 601024; omega) | (show _ ≤ 7293034; omega)) dL_law_1967 (sX7_saveSnapshot (c_saveSnapshot hi)) (fun r h1 hq => ?_) (fun x h9 hq => hq.elim)
  obtain ⟨rfl, hM⟩ := hq
  refine zV_aload_n O dL_law_1970 rfl rfl ?_
  refine zV_callV (as := []) (st := []) O zc_X8_saveSnapshot (Or.inl zl_RL_237) zi_1830 zi_1831 zt_185 rfl rfl (by decide) (by first | exact Nat.le_of_ble_eq_true rfl | (show _ ≤ 601024; omega) | (show _ ≤ 7293034; omega)) rfl rfl (by first | exact Nat.le_of_ble_eq_true rfl | (show _ ≤ 601024; omega) | (show _ ≤ 7293034; omega)) (by first | exact Nat.le_of_ble_eq_true rfl | (show _ ≤ 601024; omega) | (show _ ≤ 7293034; omega)) (by first | exact Nat.le_of_ble_eq_true rfl | (show _ ≤ 601024; omega) | (show _ ≤ 7293034; omega)) (by first | exact Nat.le_of_ble_eq_true rfl | (show _ ≤ 601024; omega) | (show _ ≤ 7293034; omega)) (by first | exact Nat.le_of_ble_eq_true rfl | (show _ ≤ 601024; omega) | (show _ ≤ 7293034; omega)) (by first | exact Nat.le_of_ble_eq_true rfl | (show _ ≤ 601024; omega) | (show _ ≤ 7293034; omega)) dL_law_1971 (sX8_saveSnapshot hM) (fun r h2 hq => ?_) (fun x h9 hq => hq.elim)
  obtain ⟨rfl, hM⟩ := hq
  have hA := hM
  refine zV_goto (tgt := 2046) O dL_law_1974 (by decide) ?_
  refine zV_sub (ls2 := [some (aA (b + 1)), some (aR 169), some (aR 185), some (aR 197), some (aI v4), none, none, none, none]) ⟨rfl, rfl, rfl, rfl, rfl, trivial⟩ ?_
  exact hK _ _ _ (by omega) (by omega) hM
set_option maxHeartbeats 4000000 in
set_option maxRecDepth 100000 in
theorem tW_39 {l0 : Launch} {a : ZC} {b : Nat} {L : Int} {sc : Int → Int} {k n : Nat} {v4 : Int} {h : Hp} (O : zOk l0 a cL_law RL 9 (some .boolean) 198 []) (hS : zScr a b L sc) (hz : ∀ i : Int, 0 ≤ i ∧ i < L → zr (sc i)) (hk : k ≤ 600000) (hn : n ≤ 7200000) (hL : L ≤ 3072) (hv : 0 ≤ v4) (hw : v4 + 6 ≤ L) (hi : inv h) (hK : ∀ (k2 n2 : Nat) (h : Hp), k2 ≤ k + 3 → n2 ≤ n + 18 → inv h → zV a (2048, 601024, 7293034, (qZ (fun z _ => z = 1)), xN) k2 n2 2046 [some (aA (b + 1)), some (aR 169), some (aR 185), some (aR 197), some (aI v4), none, none, none, none] [] h) : zV a (2048, 601024, 7293034, (qZ (fun z _ => z = 1)), xN) k n 1977 [some (aA (b + 1)), some (aR 169), some (aR 185), some (aR 197), some (aI v4), none, none, none, none] [] h := by
  refine zV_aload_n O dL_law_1977 rfl rfl ?_
  refine zV_callV (as := []) (st := []) O zc_X7_restoreSnapshot (Or.inl zl_RL_238) zi_724 zi_725 zt_169 rfl rfl (by decide) (by first | exact Nat.le_of_ble_eq_true rfl | (show _ ≤ 601024; omega) | (show _ ≤ 7293034; omega)) rfl rfl (by first | exact Nat.le_of_ble_eq_true rfl | (show _ ≤ 601024; omega) | (show _ ≤ 7293034; omega)) (by first | exact Nat.le_of_ble_eq_true rfl | (show _ ≤ 601024; omega) | (show _ ≤ 7293034; omega)) (by first | exact Nat.le_of_ble_eq_true rfl | (show _ ≤ 601024; omega) | (show _ ≤ 7293034; omega)) (by first | exact Nat.le_of_ble_eq_true rfl | (show _ ≤ 601024; omega) | (show _ ≤ 7293034; omega)) (by first | exact Nat.le_of_ble_eq_true rfl | (show _ ≤ 601024; omega) | (show _ ≤ 7293034; omega)) (by first | exact Nat.le_of_ble_eq_true rfl | (show _ ≤ 601024; omega) | (show _ ≤ 7293034; omega)) dL_law_1978 (sX7_restoreSnapshot (c_restoreSnapshot hi)) (fun r h2 hq => ?_) (fun x h9 hq => hq.elim)
  obtain ⟨z1, rfl, hzz1, hM⟩ := hq
  refine zV_aload_n O dL_law_1981 rfl rfl ?_
  refine zV_callV (as := []) (st := [aI z1]) O zc_X8_restoreSnapshot (Or.inl zl_RL_242) zi_1834 zi_1835 zt_185 rfl rfl (by decide) (by first | exact Nat.le_of_ble_eq_true rfl | (show _ ≤ 601024; omega) | (show _ ≤ 7293034; omega)) rfl rfl (by first | exact Nat.le_of_ble_eq_true rfl | (show _ ≤ 601024; omega) | (show _ ≤ 7293034; omega)) (by first | exact Nat.le_of_ble_eq_true rfl | (show _ ≤ 601024; omega) | (show _ ≤ 7293034; omega)) (by first | exact Nat.le_of_ble_eq_true rfl | (show _ ≤ 601024; omega) | (show _ ≤ 7293034; omega)) (by first | exact Nat.le_of_ble_eq_true rfl | (show _ ≤ 601024; omega) | (show _ ≤ 7293034; omega)) (by first | exact Nat.le_of_ble_eq_true rfl | (show _ ≤ 601024; omega) | (show _ ≤ 7293034; omega)) (by first | exact Nat.le_of_ble_eq_true rfl | (show _ ≤ 601024; omega) | (show _ ≤ 7293034; omega)) dL_law_1982 (sX8_restoreSnapshot hM) (fun r h4 hq => ?_) (fun x h9 hq => hq.elim)
  obtain ⟨z3, rfl, hzz3, hM⟩ := hq
  have hA := hM.1
  refine zV_icmp_eq (tgt := 2046) O dL_law_1985 (by decide) (fun hc => ?_) (fun hc => ?_)
  · refine zV_sub (ls2 := [some (aA (b + 1)), some (aR 169), some (aR 185), some (aR 197), some (aI v4), none, none, none, none]) ⟨rfl, rfl, rfl, rfl, rfl, trivial⟩ ?_
    exact hK _ _ _ (by omega) (by omega) hA.1
  · exact absurd hA.2 hc
set_option maxHeartbeats 4000000 in
set_option maxRecDepth 100000 in
theorem tW_40 {l0 : Launch} {a : ZC} {b : Nat} {L : Int} {sc : Int → Int} {k n : Nat} {v4 : Int} {h : Hp} (O : zOk l0 a cL_law RL 9 (some .boolean) 198 []) (hS : zScr a b L sc) (hz : ∀ i : Int, 0 ≤ i ∧ i < L → zr (sc i)) (hk : k ≤ 600000) (hn : n ≤ 7200000) (hL : L ≤ 3072) (hv : 0 ≤ v4) (hw : v4 + 6 ≤ L) (hi : inv h) (hK : ∀ (k2 n2 : Nat) (h : Hp), k2 ≤ k + 3 → n2 ≤ n + 18 → inv h → zV a (2048, 601024, 7293034, (qZ (fun z _ => z = 1)), xN) k2 n2 2046 [some (aA (b + 1)), some (aR 169), some (aR 185), some (aR 197), some (aI v4), none, none, none, none] [] h) : zV a (2048, 601024, 7293034, (qZ (fun z _ => z = 1)), xN) k n 1990 [some (aA (b + 1)), some (aR 169), some (aR 185), some (aR 197), some (aI v4), none, none, none, none] [] h := by
  refine zV_aload_n O dL_law_1990 rfl rfl ?_
  refine zV_aloadS O dL_law_1991 rfl rfl ?_
  refine zV_iload O dL_law_1992 rfl ?_
  refine zV_iconst (z := 1) O ⟨by omega, by omega⟩ dL_law_1994 ?_
  refine zV_iadd O dL_law_1995 (zri (by omega) (by omega)) ?_
  refine zV_sld O hS ⟨by omega, by omega⟩ dL_law_1996 ?_
  refine zV_aload_n O dL_law_1997 rfl rfl ?_
  refine zV_callSH (as := [aR 169, aI (sc (v4 + 1)), aR 197]) (st := []) O zch_L_query.1 zch_L_query.2.1 zch_L_query.2.2.1 zch_L_query.2.2.2 zl_RL_243 zi_1205 (by first | exact Nat.le_of_ble_eq_true rfl | (show _ ≤ 601024; omega) | (show _ ≤ 7293034; omega)) rfl rfl (by first | exact Nat.le_of_ble_eq_true rfl | (show _ ≤ 601024; omega) | (show _ ≤ 7293034; omega)) (by first | exact Nat.le_of_ble_eq_true rfl | (show _ ≤ 601024; omega) | (show _ ≤ 7293034; omega)) (by first | exact Nat.le_of_ble_eq_true rfl | (show _ ≤ 601024; omega) | (show _ ≤ 7293034; omega)) (by first | exact Nat.le_of_ble_eq_true rfl | (show _ ≤ 601024; omega) | (show _ ≤ 7293034; omega)) (by first | exact Nat.le_of_ble_eq_true rfl | (show _ ≤ 601024; omega) | (show _ ≤ 7293034; omega)) (by first | exact Nat.le_of_ble_eq_true rfl | (show _ ≤ 601024; omega) | (show _ ≤ 7293034; omega)) dL_law_1998 (sL_query (c_query hi)) (fun r h2 hq => ?_) (fun x h9 hq => hq.elim)
  obtain ⟨z1, rfl, hM⟩ := hq
  refine zV_istore O dL_law_2001 (by first | exact Nat.le_of_ble_eq_true rfl | (show _ ≤ 601024; omega) | (show _ ≤ 7293034; omega)) rfl ?_
  refine zV_aload_n O dL_law_2003 rfl rfl ?_
  refine zV_aloadS O dL_law_2004 rfl rfl ?_
  refine zV_iload O dL_law_2005 rfl ?_
  refine zV_iconst (z := 1) O ⟨by omega, by omega⟩ dL_law_2007 ?_
  refine zV_iadd O dL_law_2008 (zri (by omega) (by omega)) ?_
  refine zV_sld O hS ⟨by omega, by omega⟩ dL_law_2009 ?_
  refine zV_callV (as := [aI (sc (v4 + 1))]) (st := []) O zc_X8_query (Or.inl zl_RL_245) zi_1854 zi_1855 zt_185 rfl rfl (by decide) (by first | exact Nat.le_of_ble_eq_true rfl | (show _ ≤ 601024; omega) | (show _ ≤ 7293034; omega)) rfl rfl (by first | exact Nat.le_of_ble_eq_true rfl | (show _ ≤ 601024; omega) | (show _ ≤ 7293034; omega)) (by first | exact Nat.le_of_ble_eq_true rfl | (show _ ≤ 601024; omega) | (show _ ≤ 7293034; omega)) (by first | exact Nat.le_of_ble_eq_true rfl | (show _ ≤ 601024; omega) | (show _ ≤ 7293034; omega)) (by first | exact Nat.le_of_ble_eq_true rfl | (show _ ≤ 601024; omega) | (show _ ≤ 7293034; omega)) (by first | exact Nat.le_of_ble_eq_true rfl | (show _ ≤ 601024; omega) | (show _ ≤ 7293034; omega)) (by first | exact Nat.le_of_ble_eq_true rfl | (show _ ≤ 601024; omega) | (show _ ≤ 7293034; omega)) dL_law_2010 (sX8_query hM) (fun r h4 hq => ?_) (fun x h9 hq => hq.elim)
  obtain ⟨z3, rfl, hM⟩ := hq
  have hA := hM
  refine zV_istore O dL_law_2013 (by first | exact Nat.le_of_ble_eq_true rfl | (show _ ≤ 601024; omega) | (show _ ≤ 7293034; omega)) rfl ?_
  refine zV_aload_n O dL_law_2015 rfl rfl ?_
  refine zV_callV (as := []) (st := []) O zc_X8_thrown (Or.inl zl_RL_100) zi_1295 zi_1296 zt_185 rfl rfl (by decide) (by first | exact Nat.le_of_ble_eq_true rfl | (show _ ≤ 601024; omega) | (show _ ≤ 7293034; omega)) rfl rfl (by first | exact Nat.le_of_ble_eq_true rfl | (show _ ≤ 601024; omega) | (show _ ≤ 7293034; omega)) (by first | exact Nat.le_of_ble_eq_true rfl | (show _ ≤ 601024; omega) | (show _ ≤ 7293034; omega)) (by first | exact Nat.le_of_ble_eq_true rfl | (show _ ≤ 601024; omega) | (show _ ≤ 7293034; omega)) (by first | exact Nat.le_of_ble_eq_true rfl | (show _ ≤ 601024; omega) | (show _ ≤ 7293034; omega)) (by first | exact Nat.le_of_ble_eq_true rfl | (show _ ≤ 601024; omega) | (show _ ≤ 7293034; omega)) (by first | exact Nat.le_of_ble_eq_true rfl | (show _ ≤ 601024; omega) | (show _ ≤ 7293034; omega)) dL_law_2016 (sX8_thrown (Q := fun z => z = h4 185 0) rfl) (fun r h9 hq => ?_) (fun x h9 hq => hq.elim)
  obtain ⟨rfl, z5, rfl, hM⟩ := hq
  have hT := hM
  refine zV_iload O dL_law_2019 rfl ?_
  refine zV_icmp_eq (tgt := 2026) O dL_law_2021 (by decide) (fun hc => ?_) (fun hc => ?_)
  · refine zV_iload O dL_law_2026 rfl ?_
    refine zV_if_ne (tgt := 2043) O dL_law_2028 (by decide) (fun hc => ?_) (fun hc => ?_)
    · refine zV_goto (tgt := 2046) O dL_law_2043 (by decide) ?_
      refine zV_sub (ls2 := [some (aA (b + 1)), some (aR 169), some (aR 185), some (aR 197), some (aI v4), none, none, none, none]) ⟨rfl, rfl, rfl, rfl, rfl, trivial⟩ ?_
      exact hK _ _ _ (by omega) (by omega) hA.1
    · have hk0 := hc
      refine zV_aload_n O dL_law_2031 rfl rfl ?_
      refine zV_iconst (z := 0) O ⟨by omega, by omega⟩ dL_law_2032 ?_
      refine zV_lald O zt_197 (by decide) ⟨by omega, by omega⟩ dL_law_2033 ?_
      refine zV_iload O dL_law_2034 rfl ?_
      refine zV_i2l O dL_law_2036 ?_
      refine zV_lcmp O dL_law_2037 ?_
      refine zV_if_eq (tgt := 2043) O dL_law_2038 (by decide) (fun hc => ?_) (fun hc => ?_)
      · refine zV_goto (tgt := 2046) O dL_law_2043 (by decide) ?_
        refine zV_sub (ls2 := [some (aA (b + 1)), some (aR 169), some (aR 185), some (aR 197), some (aI v4), none, none, none, none]) ⟨rfl, rfl, rfl, rfl, rfl, trivial⟩ ?_
        exact hK _ _ _ (by omega) (by omega) hA.1
      · exact absurd (zlc_eq (hA.2.2 hk0)) hc
  · exact absurd (hT.trans hA.2.1) hc
