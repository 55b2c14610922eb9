/-! the law's cases 9 to 16 -/
set_option maxHeartbeats 4000000 in
set_option maxRecDepth 100000 in
theorem tW_9 {l0 : Launch} {a : ZC} {b : Nat} {L : Int} {sc : Int → Int} {k n : Nat} {v4 : Int} {h : Hp} (O : zOk l0 a cL_law RL 9 (some .boolean) 198 []) (hS : zScr a b L sc) (hz : ∀ i : Int, 0 ≤ i ∧ i < L → zr (sc i)) (hk : k ≤ 600000) (hn : n ≤ 7200000) (hL : L ≤ 3072) (hv : 0 ≤ v4) (hw : v4 + 6 ≤ L) (hi : inv h) (hK : ∀ (k2 n2 : Nat) (h : Hp), k2 ≤ k + 3 → n2 ≤ n + 18 → inv h → zV a (2048, 601024, 7293034, (qZ (fun z _ => z = 1)), xN) k2 n2 2046 [some (aA (b + 1)), some (aR 169), some (aR 185), some (aR 197), some (aI v4), none, none, none, none] [] h) : zV a (2048, 601024, 7293034, (qZ (fun z _ => z = 1)), xN) k n 734 [some (aA (b + 1)), some (aR 169), some (aR 185), some (aR 197), some (aI v4), none, none, none, none] [] h := by
  refine zV_aload_n O dL_law_734 rfl rfl ?_
  refine zV_aloadS O dL_law_735 rfl rfl ?_
  refine zV_iload O dL_law_736 rfl ?_
  refine zV_iconst (z := 1) O ⟨by omega, by omega⟩ dL_law_738 ?_
  refine zV_iadd O dL_law_739 (zri (by omega) (by omega)) ?_
  refine zV_sld O hS ⟨by omega, by omega⟩ dL_law_740 ?_
  refine zV_aloadS O dL_law_741 rfl rfl ?_
  refine zV_iload O dL_law_742 rfl ?_
  refine zV_iconst (z := 2) O ⟨by omega, by omega⟩ dL_law_744 ?_
  refine zV_iadd O dL_law_745 (zri (by omega) (by omega)) ?_
  refine zV_sld O hS ⟨by omega, by omega⟩ dL_law_746 ?_
  refine zV_aload_n O dL_law_747 rfl rfl ?_
  refine zV_callSH (as := [aR 169, aI (sc (v4 + 1)), aI (sc (v4 + 2)), aR 197]) (st := []) O zch_L_rule.1 zch_L_rule.2.1 zch_L_rule.2.2.1 zch_L_rule.2.2.2 zl_RL_127 zi_1058 (by first | exact Nat.le_of_ble_eq_true rfl | (show _ ≤ 601024; omega) | (show _ ≤ 7293034; omega)) rfl rfl (by first | exact Nat.le_of_ble_eq_true rfl | (show _ ≤ 601024; omega) | (show _ ≤ 7293034; omega)) (by first | exact Nat.le_of_ble_eq_true rfl | (show _ ≤ 601024; omega) | (show _ ≤ 7293034; omega)) (by first | exact Nat.le_of_ble_eq_true rfl | (show _ ≤ 601024; omega) | (show _ ≤ 7293034; omega)) (by first | exact Nat.le_of_ble_eq_true rfl | (show _ ≤ 601024; omega) | (show _ ≤ 7293034; omega)) (by first | exact Nat.le_of_ble_eq_true rfl | (show _ ≤ 601024; omega) | (show _ ≤ 7293034; omega)) (by first | exact Nat.le_of_ble_eq_true rfl | (show _ ≤ 601024; omega) | (show _ ≤ 7293034; omega)) dL_law_748 (sL_rule (c_rule hi)) (fun r h2 hq => ?_) (fun x h9 hq => hq.elim)
  obtain ⟨z1, rfl, hM⟩ := hq
  refine zV_istore O dL_law_751 (by first | exact Nat.le_of_ble_eq_true rfl | (show _ ≤ 601024; omega) | (show _ ≤ 7293034; omega)) rfl ?_
  refine zV_aload_n O dL_law_753 rfl rfl ?_
  refine zV_aloadS O dL_law_754 rfl rfl ?_
  refine zV_iload O dL_law_755 rfl ?_
  refine zV_iconst (z := 1) O ⟨by omega, by omega⟩ dL_law_757 ?_
  refine zV_iadd O dL_law_758 (zri (by omega) (by omega)) ?_
  refine zV_sld O hS ⟨by omega, by omega⟩ dL_law_759 ?_
  refine zV_aloadS O dL_law_760 rfl rfl ?_
  refine zV_iload O dL_law_761 rfl ?_
  refine zV_iconst (z := 2) O ⟨by omega, by omega⟩ dL_law_763 ?_
  refine zV_iadd O dL_law_764 (zri (by omega) (by omega)) ?_
  refine zV_sld O hS ⟨by omega, by omega⟩ dL_law_765 ?_
  refine zV_callV (as := [aI (sc (v4 + 1)), aI (sc (v4 + 2))]) (st := []) O zc_X8_rule (Or.inl zl_RL_129) zi_1618 zi_1619 zt_185 rfl rfl (by decide) (by first | exact Nat.le_of_ble_eq_true rfl | (show _ ≤ 601024; omega) | (show _ ≤ 7293034; omega)) rfl rfl (by first | exact Nat.le_of_ble_eq_true rfl | (show _ ≤ 601024; omega) | (show _ ≤ 7293034; omega)) (by first | exact Nat.le_of_ble_eq_true rfl | (show _ ≤ 601024; omega) | (show _ ≤ 7293034; omega)) (by first | exact Nat.le_of_ble_eq_true rfl | (show _ ≤ 601024; omega) | (show _ ≤ 7293034; omega)) (by first | exact Nat.le_of_ble_eq_true rfl | (show _ ≤ 601024; omega) | (show _ ≤ 7293034; omega)) (by first | exact Nat.le_of_ble_eq_true rfl | (show _ ≤ 601024; omega) | (show _ ≤ 7293034; omega)) (by first | exact Nat.le_of_ble_eq_true rfl | (show _ ≤ 601024; omega) | (show _ ≤ 7293034; omega)) dL_law_766 (sX8_rule hM) (fun r h4 hq => ?_) (fun x h9 hq => hq.elim)
  obtain ⟨z3, rfl, hM⟩ := hq
  have hA := hM
  refine zV_istore O dL_law_769 (by first | exact Nat.le_of_ble_eq_true rfl | (show _ ≤ 601024; omega) | (show _ ≤ 7293034; omega)) rfl ?_
  refine zV_aload_n O dL_law_771 rfl rfl ?_
  refine zV_callV (as := []) (st := []) O zc_X8_thrown (Or.inl zl_RL_100) zi_1295 zi_1296 zt_185 rfl rfl (by decide) (by first | exact Nat.le_of_ble_eq_true rfl | (show _ ≤ 601024; omega) | (show _ ≤ 7293034; omega)) rfl rfl (by first | exact Nat.le_of_ble_eq_true rfl | (show _ ≤ 601024; omega) | (show _ ≤ 7293034; omega)) (by first | exact Nat.le_of_ble_eq_true rfl | (show _ ≤ 601024; omega) | (show _ ≤ 7293034; omega)) (by first | exact Nat.le_of_ble_eq_true rfl | (show _ ≤ 601024; omega) | (show _ ≤ 7293034; omega)) (by first | exact Nat.le_of_ble_eq_true rfl | (show _ ≤ 601024; omega) | (show _ ≤ 7293034; omega)) (by first | exact Nat.le_of_ble_eq_true rfl | (show _ ≤ 601024; omega) | (show _ ≤ 7293034; omega)) (by first | exact Nat.le_of_ble_eq_true rfl | (show _ ≤ 601024; omega) | (show _ ≤ 7293034; omega)) dL_law_772 (sX8_thrown (Q := fun z => z = h4 185 0) rfl) (fun r h9 hq => ?_) (fun x h9 hq => hq.elim)
  obtain ⟨rfl, z5, rfl, hM⟩ := hq
  have hT := hM
  refine zV_iload O dL_law_775 rfl ?_
  refine zV_icmp_eq (tgt := 782) O dL_law_777 (by decide) (fun hc => ?_) (fun hc => ?_)
  · refine zV_iload O dL_law_782 rfl ?_
    refine zV_if_ne (tgt := 799) O dL_law_784 (by decide) (fun hc => ?_) (fun hc => ?_)
    · refine zV_goto (tgt := 2046) O dL_law_799 (by decide) ?_
      refine zV_sub (ls2 := [some (aA (b + 1)), some (aR 169), some (aR 185), some (aR 197), some (aI v4), none, none, none, none]) ⟨rfl, rfl, rfl, rfl, rfl, trivial⟩ ?_
      exact hK _ _ _ (by omega) (by omega) hA.1
    · have hk0 := hc
      refine zV_aload_n O dL_law_787 rfl rfl ?_
      refine zV_iconst (z := 0) O ⟨by omega, by omega⟩ dL_law_788 ?_
      refine zV_lald O zt_197 (by decide) ⟨by omega, by omega⟩ dL_law_789 ?_
      refine zV_iload O dL_law_790 rfl ?_
      refine zV_i2l O dL_law_792 ?_
      refine zV_lcmp O dL_law_793 ?_
      refine zV_if_eq (tgt := 799) O dL_law_794 (by decide) (fun hc => ?_) (fun hc => ?_)
      · refine zV_goto (tgt := 2046) O dL_law_799 (by decide) ?_
        refine zV_sub (ls2 := [some (aA (b + 1)), some (aR 169), some (aR 185), some (aR 197), some (aI v4), none, none, none, none]) ⟨rfl, rfl, rfl, rfl, rfl, trivial⟩ ?_
        exact hK _ _ _ (by omega) (by omega) hA.1
      · exact absurd (zlc_eq (hA.2.2 hk0)) hc
  · exact absurd (hT.trans hA.2.1) hc
set_option maxHeartbeats 4000000 in
set_option maxRecDepth 100000 in
theorem tW_10 {l0 : Launch} {a : ZC} {b : Nat} {L : Int} {sc : Int → Int} {k n : Nat} {v4 : Int} {h : Hp} (O : zOk l0 a cL_law RL 9 (some .boolean) 198 []) (hS : zScr a b L sc) (hz : ∀ i : Int, 0 ≤ i ∧ i < L → zr (sc i)) (hk : k ≤ 600000) (hn : n ≤ 7200000) (hL : L ≤ 3072) (hv : 0 ≤ v4) (hw : v4 + 6 ≤ L) (hi : inv h) (hK : ∀ (k2 n2 : Nat) (h : Hp), k2 ≤ k + 3 → n2 ≤ n + 18 → inv h → zV a (2048, 601024, 7293034, (qZ (fun z _ => z = 1)), xN) k2 n2 2046 [some (aA (b + 1)), some (aR 169), some (aR 185), some (aR 197), some (aI v4), none, none, none, none] [] h) : zV a (2048, 601024, 7293034, (qZ (fun z _ => z = 1)), xN) k n 802 [some (aA (b + 1)), some (aR 169), some (aR 185), some (aR 197), some (aI v4), none, none, none, none] [] h := by
  refine zV_aload_n O dL_law_802 rfl rfl ?_
  refine zV_aloadS O dL_law_803 rfl rfl ?_
  refine zV_iload O dL_law_804 rfl ?_
  refine zV_iconst (z := 1) O ⟨by omega, by omega⟩ dL_law_806 ?_
  refine zV_iadd O dL_law_807 (zri (by omega) (by omega)) ?_
  refine zV_sld O hS ⟨by omega, by omega⟩ dL_law_808 ?_
  refine zV_aloadS O dL_law_809 rfl rfl ?_
  refine zV_iload O dL_law_810 rfl ?_
  refine zV_iconst (z := 2) O ⟨by omega, by omega⟩ dL_law_812 ?_
  refine zV_iadd O dL_law_813 (zri (by omega) (by omega)) ?_
  refine zV_sld O hS ⟨by omega, by omega⟩ dL_law_814 ?_
  refine zV_aloadS O dL_law_815 rfl rfl ?_
  refine zV_iload O dL_law_816 rfl ?_
  refine zV_iconst (z := 3) O ⟨by omega, by omega⟩ dL_law_818 ?_
  refine zV_iadd O dL_law_819 (zri (by omega) (by omega)) ?_
  refine zV_sld O hS ⟨by omega, by omega⟩ dL_law_820 ?_
  refine zV_aload_n O dL_law_821 rfl rfl ?_
  refine zV_callSH (as := [aR 169, aI (sc (v4 + 1)), aI (sc (v4 + 2)), aI (sc (v4 + 3)), aR 197]) (st := []) O zch_L_decides.1 zch_L_decides.2.1 zch_L_decides.2.2.1 zch_L_decides.2.2.2 zl_RL_130 zi_1069 (by first | exact Nat.le_of_ble_eq_true rfl | (show _ ≤ 601024; omega) | (show _ ≤ 7293034; omega)) rfl rfl (by first | exact Nat.le_of_ble_eq_true rfl | (show _ ≤ 601024; omega) | (show _ ≤ 7293034; omega)) (by first | exact Nat.le_of_ble_eq_true rfl | (show _ ≤ 601024; omega) | (show _ ≤ 7293034; omega)) (by first | exact Nat.le_of_ble_eq_true rfl | (show _ ≤ 601024; omega) | (show _ ≤ 7293034; omega)) (by first | exact Nat.le_of_ble_eq_true rfl | (show _ ≤ 601024; omega) | (show _ ≤ 7293034; omega)) (by first | exact Nat.le_of_ble_eq_true rfl | (show _ ≤ 601024; omega) | (show _ ≤ 7293034; omega)) (by first | exact Nat.le_of_ble_eq_true rfl | (show _ ≤ 601024; omega) | (show _ ≤ 7293034; omega)) dL_law_822 (sL_decides (c_decides hi)) (fun r h2 hq => ?_) (fun x h9 hq => hq.elim)
  obtain ⟨z1, rfl, hM⟩ := hq
  refine zV_istore O dL_law_825 (by first | exact Nat.le_of_ble_eq_true rfl | (show _ ≤ 601024; omega) | (show _ ≤ 7293034; omega)) rfl ?_
  refine zV_aload_n O dL_law_827 rfl rfl ?_
  refine zV_aloadS O dL_law_828 rfl rfl ?_
  refine zV_iload O dL_law_829 rfl ?_
  refine zV_iconst (z := 1) O ⟨by omega, by omega⟩ dL_law_831 ?_
  refine zV_iadd O dL_law_832 (zri (by omega) (by omega)) ?_
  refine zV_sld O hS ⟨by omega, by omega⟩ dL_law_833 ?_
  refine zV_aloadS O dL_law_834 rfl rfl ?_
  refine zV_iload O dL_law_835 rfl ?_
  refine zV_iconst (z := 2) O ⟨by omega, by omega⟩ dL_law_837 ?_
  refine zV_iadd O dL_law_838 (zri (by omega) (by omega)) ?_
  refine zV_sld O hS ⟨by omega, by omega⟩ dL_law_839 ?_
  refine zV_aloadS O dL_law_840 rfl rfl ?_
  refine zV_iload O dL_law_841 rfl ?_
  refine zV_iconst (z := 3) O ⟨by omega, by omega⟩ dL_law_843 ?_
  refine zV_iadd O dL_law_844 (zri (by omega) (by omega)) ?_
  refine zV_sld O hS ⟨by omega, by omega⟩ dL_law_845 ?_
  refine zV_callV (as := [aI (sc (v4 + 1)), aI (sc (v4 + 2)), aI (sc (v4 + 3))]) (st := []) O zc_X8_decides (Or.inl zl_RL_133) zi_1627 zi_1628 zt_185 rfl rfl (by decide) (by first | exact Nat.le_of_ble_eq_true rfl | (show _ ≤ 601024; omega) | (show _ ≤ 7293034; omega)) rfl rfl (by first | exact Nat.le_of_ble_eq_true rfl | (show _ ≤ 601024; omega) | (show _ ≤ 7293034; omega)) (by first | exact Nat.le_of_ble_eq_true rfl | (show _ ≤ 601024; omega) | (show _ ≤ 7293034; omega)) (by first | exact Nat.le_of_ble_eq_true rfl | (show _ ≤ 601024; omega) | (show _ ≤ 7293034; omega)) (by first | exact Nat.le_of_ble_eq_true rfl | (show _ ≤ 601024; omega) | (show _ ≤ 7293034; omega)) (by first | exact Nat.le_of_ble_eq_true rfl | (show _ ≤ 601024; omega) | (show _ ≤ 7293034; omega)) (by first | exact Nat.le_of_ble_eq_true rfl | (show _ ≤ 601024; omega) | (show _ ≤ 7293034; omega)) dL_law_846 (sX8_decides hM) (fun r h4 hq => ?_) (fun x h9 hq => hq.elim)
  obtain ⟨z3, rfl, hM⟩ := hq
  have hA := hM
  refine zV_istore O dL_law_849 (by first | exact Nat.le_of_ble_eq_true rfl | (show _ ≤ 601024; omega) | (show _ ≤ 7293034; omega)) rfl ?_
  refine zV_aload_n O dL_law_851 rfl rfl ?_
  refine zV_callV (as := []) (st := []) O zc_X8_thrown (Or.inl zl_RL_100) zi_1295 zi_1296 zt_185 rfl rfl (by decide) (by first | exact Nat.le_of_ble_eq_true rfl | (show _ ≤ 601024; omega) | (show _ ≤ 7293034; omega)) rfl rfl (by first | exact Nat.le_of_ble_eq_true rfl | (show _ ≤ 601024; omega) | (show _ ≤ 7293034; omega)) (by first | exact Nat.le_of_ble_eq_true rfl | (show _ ≤ 601024; omega) | (show _ ≤ 7293034; omega)) (by first | exact Nat.le_of_ble_eq_true rfl | (show _ ≤ 601024; omega) | (show _ ≤ 7293034; omega)) (by first | exact Nat.le_of_ble_eq_true rfl | (show _ ≤ 601024; omega) | (show _ ≤ 7293034; omega)) (by first | exact Nat.le_of_ble_eq_true rfl | (show _ ≤ 601024; omega) | (show _ ≤ 7293034; omega)) (by first | exact Nat.le_of_ble_eq_true rfl | (show _ ≤ 601024; omega) | (show _ ≤ 7293034; omega)) dL_law_852 (sX8_thrown (Q := fun z => z = h4 185 0) rfl) (fun r h9 hq => ?_) (fun x h9 hq => hq.elim)
  obtain ⟨rfl, z5, rfl, hM⟩ := hq
  have hT := hM
  refine zV_iload O dL_law_855 rfl ?_
  refine zV_icmp_eq (tgt := 862) O dL_law_857 (by decide) (fun hc => ?_) (fun hc => ?_)
  · refine zV_iload O dL_law_862 rfl ?_
    refine zV_if_ne (tgt := 879) O dL_law_864 (by decide) (fun hc => ?_) (fun hc => ?_)
    · refine zV_goto (tgt := 2046) O dL_law_879 (by decide) ?_
      refine zV_sub (ls2 := [some (aA (b + 1)), some (aR 169), some (aR 185), some (aR 197), some (aI v4), none, none, none, none]) ⟨rfl, rfl, rfl, rfl, rfl, trivial⟩ ?_
      exact hK _ _ _ (by omega) (by omega) hA.1
    · have hk0 := hc
      refine zV_aload_n O dL_law_867 rfl rfl ?_
      refine zV_iconst (z := 0) O ⟨by omega, by omega⟩ dL_law_868 ?_
      refine zV_lald O zt_197 (by decide) ⟨by omega, by omega⟩ dL_law_869 ?_
      refine zV_iload O dL_law_870 rfl ?_
      refine zV_i2l O dL_law_872 ?_
      refine zV_lcmp O dL_law_873 ?_
      refine zV_if_eq (tgt := 879) O dL_law_874 (by decide) (fun hc => ?_) (fun hc => ?_)
      · refine zV_goto (tgt := 2046) O dL_law_879 (by decide) ?_
        refine zV_sub (ls2 := [some (aA (b + 1)), some (aR 169), some (aR 185), some (aR 197), some (aI v4), none, none, none, none]) ⟨rfl, rfl, rfl, rfl, rfl, trivial⟩ ?_
        exact hK _ _ _ (by omega) (by omega) hA.1
      · exact absurd (zlc_eq (hA.2.2 hk0)) hc
  · exact absurd (hT.trans hA.2.1) hc
set_option maxHeartbeats 4000000 in
set_option maxRecDepth 100000 in
theorem tW_11 {l0 : Launch} {a : ZC} {b : Nat} {L : Int} {sc : Int → Int} {k n : Nat} {v4 : Int} {h : Hp} (O : zOk l0 a cL_law RL 9 (some .boolean) 198 []) (hS : zScr a b L sc) (hz : ∀ i : Int, 0 ≤ i ∧ i < L → zr (sc i)) (hk : k ≤ 600000) (hn : n ≤ 7200000) (hL : L ≤ 3072) (hv : 0 ≤ v4) (hw : v4 + 6 ≤ L) (hi : inv h) (hK : ∀ (k2 n2 : Nat) (h : Hp), k2 ≤ k + 3 → n2 ≤ n + 18 → inv h → zV a (2048, 601024, 7293034, (qZ (fun z _ => z = 1)), xN) k2 n2 2046 [some (aA (b + 1)), some (aR 169), some (aR 185), some (aR 197), some (aI v4), none, none, none, none] [] h) : zV a (2048, 601024, 7293034, (qZ (fun z _ => z = 1)), xN) k n 882 [some (aA (b + 1)), some (aR 169), some (aR 185), some (aR 197), some (aI v4), none, none, none, none] [] h := by
  refine zV_aload_n O dL_law_882 rfl rfl ?_
  refine zV_aloadS O dL_law_883 rfl rfl ?_
  refine zV_iload O dL_law_884 rfl ?_
  refine zV_iconst (z := 1) O ⟨by omega, by omega⟩ dL_law_886 ?_
  refine zV_iadd O dL_law_887 (zri (by omega) (by omega)) ?_
  refine zV_sld O hS ⟨by omega, by omega⟩ dL_law_888 ?_
  refine zV_aloadS O dL_law_889 rfl rfl ?_
  refine zV_iload O dL_law_890 rfl ?_
  refine zV_iconst (z := 2) O ⟨by omega, by omega⟩ dL_law_892 ?_
  refine zV_iadd O dL_law_893 (zri (by omega) (by omega)) ?_
  refine zV_sld O hS ⟨by omega, by omega⟩ dL_law_894 ?_
  refine zV_aloadS O dL_law_895 rfl rfl ?_
  refine zV_iload O dL_law_896 rfl ?_
  refine zV_iconst (z := 3) O ⟨by omega, by omega⟩ dL_law_898 ?_
  refine zV_iadd O dL_law_899 (zri (by omega) (by omega)) ?_
  refine zV_sld O hS ⟨by omega, by omega⟩ dL_law_900 ?_
  refine zV_aload_n O dL_law_901 rfl rfl ?_
  refine zV_callSH (as := [aR 169, aI (sc (v4 + 1)), aI (sc (v4 + 2)), aI (sc (v4 + 3)), aR 197]) (st := []) O zch_L_allows.1 zch_L_allows.2.1 zch_L_allows.2.2.1 zch_L_allows.2.2.2 zl_RL_134 zi_1088 (by first | exact Nat.le_of_ble_eq_true rfl | (show _ ≤ 601024; omega) | (show _ ≤ 7293034; omega)) rfl rfl (by first | exact Nat.le_of_ble_eq_true rfl | (show _ ≤ 601024; omega) | (show _ ≤ 7293034; omega)) (by first | exact Nat.le_of_ble_eq_true rfl | (show _ ≤ 601024; omega) | (show _ ≤ 7293034; omega)) (by first | exact Nat.le_of_ble_eq_true rfl | (show _ ≤ 601024; omega) | (show _ ≤ 7293034; omega)) (by first | exact Nat.le_of_ble_eq_true rfl | (show _ ≤ 601024; omega) | (show _ ≤ 7293034; omega)) (by first | exact Nat.le_of_ble_eq_true rfl | (show _ ≤ 601024; omega) | (show _ ≤ 7293034; omega)) (by first | exact Nat.le_of_ble_eq_true rfl | (show _ ≤ 601024; omega) | (show _ ≤ 7293034; omega)) dL_law_902 (sL_allows (c_allows hi)) (fun r h2 hq => ?_) (fun x h9 hq => hq.elim)
  obtain ⟨z1, rfl, hM⟩ := hq
  refine zV_istore O dL_law_905 (by first | exact Nat.le_of_ble_eq_true rfl | (show _ ≤ 601024; omega) | (show _ ≤ 7293034; omega)) rfl ?_
  refine zV_aload_n O dL_law_907 rfl rfl ?_
  refine zV_aloadS O dL_law_908 rfl rfl ?_
  refine zV_iload O dL_law_909 rfl ?_
  refine zV_iconst (z := 1) O ⟨by omega, by omega⟩ dL_law_911 ?_
  refine zV_iadd O dL_law_912 (zri (by omega) (by omega)) ?_
  refine zV_sld O hS ⟨by omega, by omega⟩ dL_law_913 ?_
  refine zV_aloadS O dL_law_914 rfl rfl ?_
  refine zV_iload O dL_law_915 rfl ?_
  refine zV_iconst (z := 2) O ⟨by omega, by omega⟩ dL_law_917 ?_
  refine zV_iadd O dL_law_918 (zri (by omega) (by omega)) ?_
  refine zV_sld O hS ⟨by omega, by omega⟩ dL_law_919 ?_
  refine zV_aloadS O dL_law_920 rfl rfl ?_
  refine zV_iload O dL_law_921 rfl ?_
  refine zV_iconst (z := 3) O ⟨by omega, by omega⟩ dL_law_923 ?_
  refine zV_iadd O dL_law_924 (zri (by omega) (by omega)) ?_
  refine zV_sld O hS ⟨by omega, by omega⟩ dL_law_925 ?_
  refine zV_callV (as := [aI (sc (v4 + 1)), aI (sc (v4 + 2)), aI (sc (v4 + 3))]) (st := []) O zc_X8_allows (Or.inl zl_RL_136) zi_1643 zi_1644 zt_185 rfl rfl (by decide) (by first | exact Nat.le_of_ble_eq_true rfl | (show _ ≤ 601024; omega) | (show _ ≤ 7293034; omega)) rfl rfl (by first | exact Nat.le_of_ble_eq_true rfl | (show _ ≤ 601024; omega) | (show _ ≤ 7293034; omega)) (by first | exact Nat.le_of_ble_eq_true rfl | (show _ ≤ 601024; omega) | (show _ ≤ 7293034; omega)) (by first | exact Nat.le_of_ble_eq_true rfl | (show _ ≤ 601024; omega) | (show _ ≤ 7293034; omega)) (by first | exact Nat.le_of_ble_eq_true rfl | (show _ ≤ 601024; omega) | (show _ ≤ 7293034; omega)) (by first | exact Nat.le_of_ble_eq_true rfl | (show _ ≤ 601024; omega) | (show _ ≤ 7293034; omega)) (by first | exact Nat.le_of_ble_eq_true rfl | (show _ ≤ 601024; omega) | (show _ ≤ 7293034; omega)) dL_law_926 (sX8_allows hM) (fun r h4 hq => ?_) (fun x h9 hq => hq.elim)
  obtain ⟨z3, rfl, hzz3, hM⟩ := hq
  have hA := hM.1
  refine zV_istore O dL_law_929 (by first | exact Nat.le_of_ble_eq_true rfl | (show _ ≤ 601024; omega) | (show _ ≤ 7293034; omega)) rfl ?_
  refine zV_aload_n O dL_law_931 rfl rfl ?_
  refine zV_callV (as := []) (st := []) O zc_X8_thrown (Or.inl zl_RL_100) zi_1295 zi_1296 zt_185 rfl rfl (by decide) (by first | exact Nat.le_of_ble_eq_true rfl | (show _ ≤ 601024; omega) | (show _ ≤ 7293034; omega)) rfl rfl (by first | exact Nat.le_of_ble_eq_true rfl | (show _ ≤ 601024; omega) | (show _ ≤ 7293034; omega)) (by first | exact Nat.le_of_ble_eq_true rfl | (show _ ≤ 601024; omega) | (show _ ≤ 7293034; omega)) (by first | exact Nat.le_of_ble_eq_true rfl | (show _ ≤ 601024; omega) | (show _ ≤ 7293034; omega)) (by first | exact Nat.le_of_ble_eq_true rfl | (show _ ≤ 601024; omega) | (show _ ≤ 7293034; omega)) (by first | exact Nat.le_of_ble_eq_true rfl | (show _ ≤ 601024; omega) | (show _ ≤ 7293034; omega)) (by first | exact Nat.le_of_ble_eq_true rfl | (show _ ≤ 601024; omega) | (show _ ≤ 7293034; omega)) dL_law_932 (sX8_thrown (Q := fun z => z = h4 185 0) rfl) (fun r h9 hq => ?_) (fun x h9 hq => hq.elim)
  obtain ⟨rfl, z5, rfl, hM⟩ := hq
  have hT := hM
  refine zV_iload O dL_law_935 rfl ?_
  refine zV_icmp_eq (tgt := 942) O dL_law_937 (by decide) (fun hc => ?_) (fun hc => ?_)
  · refine zV_iload O dL_law_942 rfl ?_
    refine zV_if_ne (tgt := 966) O dL_law_944 (by decide) (fun hc => ?_) (fun hc => ?_)
    · refine zV_goto (tgt := 2046) O dL_law_966 (by decide) ?_
      refine zV_sub (ls2 := [some (aA (b + 1)), some (aR 169), some (aR 185), some (aR 197), some (aI v4), none, none, none, none]) ⟨rfl, rfl, rfl, rfl, rfl, trivial⟩ ?_
      exact hK _ _ _ (by omega) (by omega) hA.1
    · have hk0 := hc
      refine zV_aload_n O dL_law_947 rfl rfl ?_
      refine zV_iconst (z := 0) O ⟨by omega, by omega⟩ dL_law_948 ?_
      refine zV_lald O zt_197 (by decide) ⟨by omega, by omega⟩ dL_law_949 ?_
      refine zV_iload O dL_law_950 rfl ?_
      refine zV_if_eq (tgt := 959) O dL_law_952 (by decide) (fun hc => ?_) (fun hc => ?_)
      · have hb := hc
        refine zV_lconst (z := 0) O ⟨by omega, by omega⟩ rfl dL_law_959 ?_
        refine zV_lcmp O dL_law_960 ?_
        refine zV_if_eq (tgt := 966) O dL_law_961 (by decide) (fun hc => ?_) (fun hc => ?_)
        · refine zV_goto (tgt := 2046) O dL_law_966 (by decide) ?_
          refine zV_sub (ls2 := [some (aA (b + 1)), some (aR 169), some (aR 185), some (aR 197), some (aI v4), none, none, none, none]) ⟨rfl, rfl, rfl, rfl, rfl, trivial⟩ ?_
          exact hK _ _ _ (by omega) (by omega) hA.1
        · exact absurd (zlc_eq ((hA.2.2 hk0).trans hb)) hc
      · have hb := hc
        refine zV_lconst (z := 1) O ⟨by omega, by omega⟩ rfl dL_law_955 ?_
        refine zV_goto (tgt := 960) O dL_law_956 (by decide) ?_
        refine zV_lcmp O dL_law_960 ?_
        refine zV_if_eq (tgt := 966) O dL_law_961 (by decide) (fun hc => ?_) (fun hc => ?_)
        · refine zV_goto (tgt := 2046) O dL_law_966 (by decide) ?_
          refine zV_sub (ls2 := [some (aA (b + 1)), some (aR 169), some (aR 185), some (aR 197), some (aI v4), none, none, none, none]) ⟨rfl, rfl, rfl, rfl, rfl, trivial⟩ ?_
          exact hK _ _ _ (by omega) (by omega) hA.1
        · exact absurd (zlc_eq ((hA.2.2 hk0).trans (hzz3.resolve_left hb))) hc
  · exact absurd (hT.trans hA.2.1) hc
set_option maxHeartbeats 4000000 in
set_option maxRecDepth 100000 in
theorem tW_12 {l0 : Launch} {a : ZC} {b : Nat} {L : Int} {sc : Int → Int} {k n : Nat} {v4 : Int} {h : Hp} (O : zOk l0 a cL_law RL 9 (some .boolean) 198 []) (hS : zScr a b L sc) (hz : ∀ i : Int, 0 ≤ i ∧ i < L → zr (sc i)) (hk : k ≤ 600000) (hn : n ≤ 7200000) (hL : L ≤ 3072) (hv : 0 ≤ v4) (hw : v4 + 6 ≤ L) (hi : inv h) (hK : ∀ (k2 n2 : Nat) (h : Hp), k2 ≤ k + 3 → n2 ≤ n + 18 → inv h → zV a (2048, 601024, 7293034, (qZ (fun z _ => z = 1)), xN) k2 n2 2046 [some (aA (b + 1)), some (aR 169), some (aR 185), some (aR 197), some (aI v4), none, none, none, none] [] h) : zV a (2048, 601024, 7293034, (qZ (fun z _ => z = 1)), xN) k n 969 [some (aA (b + 1)), some (aR 169), some (aR 185), some (aR 197), some (aI v4), none, none, none, none] [] h := by
  refine zV_aload_n O dL_law_969 rfl rfl ?_
  refine zV_aloadS O dL_law_970 rfl rfl ?_
  refine zV_iload O dL_law_971 rfl ?_
  refine zV_iconst (z := 1) O ⟨by omega, by omega⟩ dL_law_973 ?_
  refine zV_iadd O dL_law_974 (zri (by omega) (by omega)) ?_
  refine zV_sld O hS ⟨by omega, by omega⟩ dL_law_975 ?_
  refine zV_aload_n O dL_law_976 rfl rfl ?_
  refine zV_callSH (as := [aR 169, aI (sc (v4 + 1)), aR 197]) (st := []) O zch_L_reach.1 zch_L_reach.2.1 zch_L_reach.2.2.1 zch_L_reach.2.2.2 zl_RL_137 zi_1096 (by first | exact Nat.le_of_ble_eq_true rfl | (show _ ≤ 601024; omega) | (show _ ≤ 7293034; omega)) rfl rfl (by first | exact Nat.le_of_ble_eq_true rfl | (show _ ≤ 601024; omega) | (show _ ≤ 7293034; omega)) (by first | exact Nat.le_of_ble_eq_true rfl | (show _ ≤ 601024; omega) | (show _ ≤ 7293034; omega)) (by first | exact Nat.le_of_ble_eq_true rfl | (show _ ≤ 601024; omega) | (show _ ≤ 7293034; omega)) (by first | exact Nat.le_of_ble_eq_true rfl | (show _ ≤ 601024; omega) | (show _ ≤ 7293034; omega)) (by first | exact Nat.le_of_ble_eq_true rfl | (show _ ≤ 601024; omega) | (show _ ≤ 7293034; omega)) (by first | exact Nat.le_of_ble_eq_true rfl | (show _ ≤ 601024; omega) | (show _ ≤ 7293034; omega)) dL_law_977 (sL_reach (c_reach hi)) (fun r h2 hq => ?_) (fun x h9 hq => hq.elim)
  obtain ⟨z1, rfl, hM⟩ := hq
  refine zV_istore O dL_law_980 (by first | exact Nat.le_of_ble_eq_true rfl | (show _ ≤ 601024; omega) | (show _ ≤ 7293034; omega)) rfl ?_
  refine zV_aload_n O dL_law_982 rfl rfl ?_
  refine zV_aloadS O dL_law_983 rfl rfl ?_
  refine zV_iload O dL_law_984 rfl ?_
  refine zV_iconst (z := 1) O ⟨by omega, by omega⟩ dL_law_986 ?_
  refine zV_iadd O dL_law_987 (zri (by omega) (by omega)) ?_
  refine zV_sld O hS ⟨by omega, by omega⟩ dL_law_988 ?_
  refine zV_callV (as := [aI (sc (v4 + 1))]) (st := []) O zc_X8_reach (Or.inl zl_RL_139) zi_1651 zi_1652 zt_185 rfl rfl (by decide) (by first | exact Nat.le_of_ble_eq_true rfl | (show _ ≤ 601024; omega) | (show _ ≤ 7293034; omega)) rfl rfl (by first | exact Nat.le_of_ble_eq_true rfl | (show _ ≤ 601024; omega) | (show _ ≤ 7293034; omega)) (by first | exact Nat.le_of_ble_eq_true rfl | (show _ ≤ 601024; omega) | (show _ ≤ 7293034; omega)) (by first | exact Nat.le_of_ble_eq_true rfl | (show _ ≤ 601024; omega) | (show _ ≤ 7293034; omega)) (by first | exact Nat.le_of_ble_eq_true rfl | (show _ ≤ 601024; omega) | (show _ ≤ 7293034; omega)) (by first | exact Nat.le_of_ble_eq_true rfl | (show _ ≤ 601024; omega) | (show _ ≤ 7293034; omega)) (by first | exact Nat.le_of_ble_eq_true rfl | (show _ ≤ 601024; omega) | (show _ ≤ 7293034; omega)) dL_law_989 (sX8_reach hM) (fun r h4 hq => ?_) (fun x h9 hq => hq.elim)
  obtain ⟨z3, rfl, hM⟩ := hq
  have hA := hM
  refine zV_istore O dL_law_992 (by first | exact Nat.le_of_ble_eq_true rfl | (show _ ≤ 601024; omega) | (show _ ≤ 7293034; omega)) rfl ?_
  refine zV_aload_n O dL_law_994 rfl rfl ?_
  refine zV_callV (as := []) (st := []) O zc_X8_thrown (Or.inl zl_RL_100) zi_1295 zi_1296 zt_185 rfl rfl (by decide) (by first | exact Nat.le_of_ble_eq_true rfl | (show _ ≤ 601024; omega) | (show _ ≤ 7293034; omega)) rfl rfl (by first | exact Nat.le_of_ble_eq_true rfl | (show _ ≤ 601024; omega) | (show _ ≤ 7293034; omega)) (by first | exact Nat.le_of_ble_eq_true rfl | (show _ ≤ 601024; omega) | (show _ ≤ 7293034; omega)) (by first | exact Nat.le_of_ble_eq_true rfl | (show _ ≤ 601024; omega) | (show _ ≤ 7293034; omega)) (by first | exact Nat.le_of_ble_eq_true rfl | (show _ ≤ 601024; omega) | (show _ ≤ 7293034; omega)) (by first | exact Nat.le_of_ble_eq_true rfl | (show _ ≤ 601024; omega) | (show _ ≤ 7293034; omega)) (by first | exact Nat.le_of_ble_eq_true rfl | (show _ ≤ 601024; omega) | (show _ ≤ 7293034; omega)) dL_law_995 (sX8_thrown (Q := fun z => z = h4 185 0) rfl) (fun r h9 hq => ?_) (fun x h9 hq => hq.elim)
  obtain ⟨rfl, z5, rfl, hM⟩ := hq
  have hT := hM
  refine zV_iload O dL_law_998 rfl ?_
  refine zV_icmp_eq (tgt := 1005) O dL_law_1000 (by decide) (fun hc => ?_) (fun hc => ?_)
  · refine zV_iload O dL_law_1005 rfl ?_
    refine zV_if_ne (tgt := 1022) O dL_law_1007 (by decide) (fun hc => ?_) (fun hc => ?_)
    · refine zV_goto (tgt := 2046) O dL_law_1022 (by decide) ?_
      refine zV_sub (ls2 := [some (aA (b + 1)), some (aR 169), some (aR 185), some (aR 197), some (aI v4), none, none, none, none]) ⟨rfl, rfl, rfl, rfl, rfl, trivial⟩ ?_
      exact hK _ _ _ (by omega) (by omega) hA.1
    · have hk0 := hc
      refine zV_aload_n O dL_law_1010 rfl rfl ?_
      refine zV_iconst (z := 0) O ⟨by omega, by omega⟩ dL_law_1011 ?_
      refine zV_lald O zt_197 (by decide) ⟨by omega, by omega⟩ dL_law_1012 ?_
      refine zV_iload O dL_law_1013 rfl ?_
      refine zV_i2l O dL_law_1015 ?_
      refine zV_lcmp O dL_law_1016 ?_
      refine zV_if_eq (tgt := 1022) O dL_law_1017 (by decide) (fun hc => ?_) (fun hc => ?_)
      · refine zV_goto (tgt := 2046) O dL_law_1022 (by decide) ?_
        refine zV_sub (ls2 := [some (aA (b + 1)), some (aR 169), some (aR 185), some (aR 197), some (aI v4), none, none, none, none]) ⟨rfl, rfl, rfl, rfl, rfl, trivial⟩ ?_
        exact hK _ _ _ (by omega) (by omega) hA.1
      · exact absurd (zlc_eq (hA.2.2 hk0)) hc
  · exact absurd (hT.trans hA.2.1) hc
set_option maxHeartbeats 4000000 in
set_option maxRecDepth 100000 in
theorem tW_13 {l0 : Launch} {a : ZC} {b : Nat} {L : Int} {sc : Int → Int} {k n : Nat} {v4 : Int} {h : Hp} (O : zOk l0 a cL_law RL 9 (some .boolean) 198 []) (hS : zScr a b L sc) (hz : ∀ i : Int, 0 ≤ i ∧ i < L → zr (sc i)) (hk : k ≤ 600000) (hn : n ≤ 7200000) (hL : L ≤ 3072) (hv : 0 ≤ v4) (hw : v4 + 6 ≤ L) (hi : inv h) (hK : ∀ (k2 n2 : Nat) (h : Hp), k2 ≤ k + 3 → n2 ≤ n + 18 → inv h → zV a (2048, 601024, 7293034, (qZ (fun z _ => z = 1)), xN) k2 n2 2046 [some (aA (b + 1)), some (aR 169), some (aR 185), some (aR 197), some (aI v4), none, none, none, none] [] h) : zV a (2048, 601024, 7293034, (qZ (fun z _ => z = 1)), xN) k n 1025 [some (aA (b + 1)), some (aR 169), some (aR 185), some (aR 197), some (aI v4), none, none, none, none] [] h := by
  refine zV_aload_n O dL_law_1025 rfl rfl ?_
  refine zV_callV (as := []) (st := []) O zc_X7_freeNumber (Or.inl zl_RL_140) zi_493 zi_494 zt_169 rfl rfl (by decide) (by first | exact Nat.le_of_ble_eq_true rfl | (show _ ≤ 601024; omega) | (show _ ≤ 7293034; omega)) rfl rfl (by first | exact Nat.le_of_ble_eq_true rfl | (show _ ≤ 601024; omega) | (show _ ≤ 7293034; omega)) (by first | exact Nat.le_of_ble_eq_true rfl | (show _ ≤ 601024; omega) | (show _ ≤ 7293034; omega)) (by first | exact Nat.le_of_ble_eq_true rfl | (show _ ≤ 601024; omega) | (show _ ≤ 7293034; omega)) (by first | exact Nat.le_of_ble_eq_true rfl | (show _ ≤ 601024; omega) | (show _ ≤ 7293034; omega)) (by first | exact Nat.le_of_ble_eq_true rfl | (show _ ≤ 601024; omega) | (show _ ≤ 7293034; omega)) (by first | exact Nat.le_of_ble_eq_true rfl | (show _ ≤ 601024; omega) | (show _ ≤ 7293034; omega)) dL_law_1026 (sX7_freeNumber (c_freeNumber hi)) (fun r h2 hq => ?_) (fun x h9 hq => hq.elim)
  obtain ⟨z1, rfl, hM⟩ := hq
  refine zV_aload_n O dL_law_1029 rfl rfl ?_
  refine zV_callV (as := []) (st := [aI z1]) O zc_X8_freeNumber (Or.inl zl_RL_143) zi_1663 zi_1664 zt_185 rfl rfl (by decide) (by first | exact Nat.le_of_ble_eq_true rfl | (show _ ≤ 601024; omega) | (show _ ≤ 7293034; omega)) rfl rfl (by first | exact Nat.le_of_ble_eq_true rfl | (show _ ≤ 601024; omega) | (show _ ≤ 7293034; omega)) (by first | exact Nat.le_of_ble_eq_true rfl | (show _ ≤ 601024; omega) | (show _ ≤ 7293034; omega)) (by first | exact Nat.le_of_ble_eq_true rfl | (show _ ≤ 601024; omega) | (show _ ≤ 7293034; omega)) (by first | exact Nat.le_of_ble_eq_true rfl | (show _ ≤ 601024; omega) | (show _ ≤ 7293034; omega)) (by first | exact Nat.le_of_ble_eq_true rfl | (show _ ≤ 601024; omega) | (show _ ≤ 7293034; omega)) (by first | exact Nat.le_of_ble_eq_true rfl | (show _ ≤ 601024; omega) | (show _ ≤ 7293034; omega)) dL_law_1030 (sX8_freeNumber hM) (fun r h4 hq => ?_) (fun x h9 hq => hq.elim)
  obtain ⟨z3, rfl, hM⟩ := hq
  have hA := hM
  refine zV_icmp_eq (tgt := 2046) O dL_law_1033 (by decide) (fun hc => ?_) (fun hc => ?_)
  · refine zV_sub (ls2 := [some (aA (b + 1)), some (aR 169), some (aR 185), some (aR 197), some (aI v4), none, none, none, none]) ⟨rfl, rfl, rfl, rfl, rfl, trivial⟩ ?_
    exact hK _ _ _ (by omega) (by omega) hA.1
  · exact absurd hA.2 hc
set_option maxHeartbeats 4000000 in
set_option maxRecDepth 100000 in
theorem tW_14 {l0 : Launch} {a : ZC} {b : Nat} {L : Int} {sc : Int → Int} {k n : Nat} {v4 : Int} {h : Hp} (O : zOk l0 a cL_law RL 9 (some .boolean) 198 []) (hS : zScr a b L sc) (hz : ∀ i : Int, 0 ≤ i ∧ i < L → zr (sc i)) (hk : k ≤ 600000) (hn : n ≤ 7200000) (hL : L ≤ 3072) (hv : 0 ≤ v4) (hw : v4 + 6 ≤ L) (hi : inv h) (hK : ∀ (k2 n2 : Nat) (h : Hp), k2 ≤ k + 3 → n2 ≤ n + 18 → inv h → zV a (2048, 601024, 7293034, (qZ (fun z _ => z = 1)), xN) k2 n2 2046 [some (aA (b + 1)), some (aR 169), some (aR 185), some (aR 197), some (aI v4), none, none, none, none] [] h) : zV a (2048, 601024, 7293034, (qZ (fun z _ => z = 1)), xN) k n 1038 [some (aA (b + 1)), some (aR 169), some (aR 185), some (aR 197), some (aI v4), none, none, none, none] [] h := by
  refine zV_aload_n O dL_law_1038 rfl rfl ?_
  refine zV_callV (as := []) (st := []) O zc_X7_whyNot (Or.inl zl_RL_144) zi_526 zi_527 zt_169 rfl rfl (by decide) (by first | exact Nat.le_of_ble_eq_true rfl | (show _ ≤ 601024; omega) | (show _ ≤ 7293034; omega)) rfl rfl (by first | exact Nat.le_of_ble_eq_true rfl | (show _ ≤ 601024; omega) | (show _ ≤ 7293034; omega)) (by first | exact Nat.le_of_ble_eq_true rfl | (show _ ≤ 601024; omega) | (show _ ≤ 7293034; omega)) (by first | exact Nat.le_of_ble_eq_true rfl | (show _ ≤ 601024; omega) | (show _ ≤ 7293034; omega)) (by first | exact Nat.le_of_ble_eq_true rfl | (show _ ≤ 601024; omega) | (show _ ≤ 7293034; omega)) (by first | exact Nat.le_of_ble_eq_true rfl | (show _ ≤ 601024; omega) | (show _ ≤ 7293034; omega)) (by first | exact Nat.le_of_ble_eq_true rfl | (show _ ≤ 601024; omega) | (show _ ≤ 7293034; omega)) dL_law_1039 (sX7_whyNot (c_whyNot hi)) (fun r h2 hq => ?_) (fun x h9 hq => hq.elim)
  obtain ⟨z1, rfl, hM⟩ := hq
  refine zV_aload_n O dL_law_1042 rfl rfl ?_
  refine zV_callV (as := []) (st := [aI z1]) O zc_X8_whyNot (Or.inl zl_RL_147) zi_1675 zi_1676 zt_185 rfl rfl (by decide) (by first | exact Nat.le_of_ble_eq_true rfl | (show _ ≤ 601024; omega) | (show _ ≤ 7293034; omega)) rfl rfl (by first | exact Nat.le_of_ble_eq_true rfl | (show _ ≤ 601024; omega) | (show _ ≤ 7293034; omega)) (by first | exact Nat.le_of_ble_eq_true rfl | (show _ ≤ 601024; omega) | (show _ ≤ 7293034; omega)) (by first | exact Nat.le_of_ble_eq_true rfl | (show _ ≤ 601024; omega) | (show _ ≤ 7293034; omega)) (by first | exact Nat.le_of_ble_eq_true rfl | (show _ ≤ 601024; omega) | (show _ ≤ 7293034; omega)) (by first | exact Nat.le_of_ble_eq_true rfl | (show _ ≤ 601024; omega) | (show _ ≤ 7293034; omega)) (by first | exact Nat.le_of_ble_eq_true rfl | (show _ ≤ 601024; omega) | (show _ ≤ 7293034; omega)) dL_law_1043 (sX8_whyNot hM) (fun r h4 hq => ?_) (fun x h9 hq => hq.elim)
  obtain ⟨z3, rfl, hM⟩ := hq
  have hA := hM
  refine zV_icmp_eq (tgt := 2046) O dL_law_1046 (by decide) (fun hc => ?_) (fun hc => ?_)
  · refine zV_sub (ls2 := [some (aA (b + 1)), some (aR 169), some (aR 185), some (aR 197), some (aI v4), none, none, none, none]) ⟨rfl, rfl, rfl, rfl, rfl, trivial⟩ ?_
    exact hK _ _ _ (by omega) (by omega) hA.1
  · exact absurd hA.2 hc
set_option maxHeartbeats 4000000 in
set_option maxRecDepth 100000 in
theorem tW_15 {l0 : Launch} {a : ZC} {b : Nat} {L : Int} {sc : Int → Int} {k n : Nat} {v4 : Int} {h : Hp} (O : zOk l0 a cL_law RL 9 (some .boolean) 198 []) (hS : zScr a b L sc) (hz : ∀ i : Int, 0 ≤ i ∧ i < L → zr (sc i)) (hk : k ≤ 600000) (hn : n ≤ 7200000) (hL : L ≤ 3072) (hv : 0 ≤ v4) (hw : v4 + 6 ≤ L) (hi : inv h) (hK : ∀ (k2 n2 : Nat) (h : Hp), k2 ≤ k + 3 → n2 ≤ n + 18 → inv h → zV a (2048, 601024, 7293034, (qZ (fun z _ => z = 1)), xN) k2 n2 2046 [some (aA (b + 1)), some (aR 169), some (aR 185), some (aR 197), some (aI v4), none, none, none, none] [] h) : zV a (2048, 601024, 7293034, (qZ (fun z _ => z = 1)), xN) k n 1051 [some (aA (b + 1)), some (aR 169), some (aR 185), some (aR 197), some (aI v4), none, none, none, none] [] h := by
  refine zV_aload_n O dL_law_1051 rfl rfl ?_
  refine zV_callV (as := []) (st := []) O zc_X7_conflict (Or.inl zl_RL_148) zi_580 zi_581 zt_169 rfl rfl (by decide) (by first | exact Nat.le_of_ble_eq_true rfl | (show _ ≤ 601024; omega) | (show _ ≤ 7293034; omega)) rfl rfl (by first | exact Nat.le_of_ble_eq_true rfl | (show _ ≤ 601024; omega) | (show _ ≤ 7293034; omega)) (by first | exact Nat.le_of_ble_eq_true rfl | (show _ ≤ 601024; omega) | (show _ ≤ 7293034; omega)) (by first | exact Nat.le_of_ble_eq_true rfl | (show _ ≤ 601024; omega) | (show _ ≤ 7293034; omega)) (by first | exact Nat.le_of_ble_eq_true rfl | (show _ ≤ 601024; omega) | (show _ ≤ 7293034; omega)) (by first | exact Nat.le_of_ble_eq_true rfl | (show _ ≤ 601024; omega) | (show _ ≤ 7293034; omega)) (by first | exact Nat.le_of_ble_eq_true rfl | (show _ ≤ 601024; omega) | (show _ ≤ 7293034; omega)) dL_law_1052 (sX7_conflict (c_conflict hi)) (fun r h2 hq => ?_) (fun x h9 hq => hq.elim)
  obtain ⟨z1, rfl, hM⟩ := hq
  refine zV_aload_n O dL_law_1055 rfl rfl ?_
  refine zV_callV (as := []) (st := [aI z1]) O zc_X8_conflict (Or.inl zl_RL_151) zi_1719 zi_1720 zt_185 rfl rfl (by decide) (by first | exact Nat.le_of_ble_eq_true rfl | (show _ ≤ 601024; omega) | (show _ ≤ 7293034; omega)) rfl rfl (by first | exact Nat.le_of_ble_eq_true rfl | (show _ ≤ 601024; omega) | (show _ ≤ 7293034; omega)) (by first | exact Nat.le_of_ble_eq_true rfl | (show _ ≤ 601024; omega) | (show _ ≤ 7293034; omega)) (by first | exact Nat.le_of_ble_eq_true rfl | (show _ ≤ 601024; omega) | (show _ ≤ 7293034; omega)) (by first | exact Nat.le_of_ble_eq_true rfl | (show _ ≤ 601024; omega) | (show _ ≤ 7293034; omega)) (by first | exact Nat.le_of_ble_eq_true rfl | (show _ ≤ 601024; omega) | (show _ ≤ 7293034; omega)) (by first | exact Nat.le_of_ble_eq_true rfl | (show _ ≤ 601024; omega) | (show _ ≤ 7293034; omega)) dL_law_1056 (sX8_conflict hM) (fun r h4 hq => ?_) (fun x h9 hq => hq.elim)
  obtain ⟨z3, rfl, hM⟩ := hq
  have hA := hM
  refine zV_icmp_eq (tgt := 2046) O dL_law_1059 (by decide) (fun hc => ?_) (fun hc => ?_)
  · refine zV_sub (ls2 := [some (aA (b + 1)), some (aR 169), some (aR 185), some (aR 197), some (aI v4), none, none, none, none]) ⟨rfl, rfl, rfl, rfl, rfl, trivial⟩ ?_
    exact hK _ _ _ (by omega) (by omega) hA.1
  · exact absurd hA.2 hc
set_option maxHeartbeats 4000000 in
set_option maxRecDepth 100000 in
theorem tW_16 {l0 : Launch} {a : ZC} {b : Nat} {L : Int} {sc : Int → Int} {k n : Nat} {v4 : Int} {h : Hp} (O : zOk l0 a cL_law RL 9 (some .boolean) 198 []) (hS : zScr a b L sc) (hz : ∀ i : Int, 0 ≤ i ∧ i < L → zr (sc i)) (hk : k ≤ 600000) (hn : n ≤ 7200000) (hL : L ≤ 3072) (hv : 0 ≤ v4) (hw : v4 + 6 ≤ L) (hi : inv h) (hK : ∀ (k2 n2 : Nat) (h : Hp), k2 ≤ k + 3 → n2 ≤ n + 18 → inv h → zV a (2048, 601024, 7293034, (qZ (fun z _ => z = 1)), xN) k2 n2 2046 [some (aA (b + 1)), some (aR 169), some (aR 185), some (aR 197), some (aI v4), none, none, none, none] [] h) : zV a (2048, 601024, 7293034, (qZ (fun z _ => z = 1)), xN) k n 1064 [some (aA (b + 1)), some (aR 169), some (aR 185), some (aR 197), some (aI v4), none, none, none, none] [] h := by
  refine zV_aload_n O dL_law_1064 rfl rfl ?_
  refine zV_callV (as := []) (st := []) O zc_X7_rewrites (Or.inl zl_RL_152) zi_584 zi_585 zt_169 rfl rfl (by decide) (by first | exact Nat.le_of_ble_eq_true rfl | (show _ ≤ 601024; omega) | (show _ ≤ 7293034; omega)) rfl rfl (by first | exact Nat.le_of_ble_eq_true rfl | (show _ ≤ 601024; omega) | (show _ ≤ 7293034; omega)) (by first | exact Nat.le_of_ble_eq_true rfl | (show _ ≤ 601024; omega) | (show _ ≤ 7293034; omega)) (by first | exact Nat.le_of_ble_eq_true rfl | (show _ ≤ 601024; omega) | (show _ ≤ 7293034; omega)) (by first | exact Nat.le_of_ble_eq_true rfl | (show _ ≤ 601024; omega) | (show _ ≤ 7293034; omega)) (by first | exact Nat.le_of_ble_eq_true rfl | (show _ ≤ 601024; omega) | (show _ ≤ 7293034; omega)) (by first | exact Nat.le_of_ble_eq_true rfl | (show _ ≤ 601024; omega) | (show _ ≤ 7293034; omega)) dL_law_1065 (sX7_rewrites (c_rewrites hi)) (fun r h2 hq => ?_) (fun x h9 hq => hq.elim)
  obtain ⟨z1, rfl, hM⟩ := hq
  refine zV_aload_n O dL_law_1068 rfl rfl ?_
  refine zV_callV (as := []) (st := [aI z1]) O zc_X8_rewrites (Or.inl zl_RL_155) zi_1723 zi_1724 zt_185 rfl rfl (by decide) (by first | exact Nat.le_of_ble_eq_true rfl | (show _ ≤ 601024; omega) | (show _ ≤ 7293034; omega)) rfl rfl (by first | exact Nat.le_of_ble_eq_true rfl | (show _ ≤ 601024; omega) | (show _ ≤ 7293034; omega)) (by first | exact Nat.le_of_ble_eq_true rfl | (show _ ≤ 601024; omega) | (show _ ≤ 7293034; omega)) (by first | exact Nat.le_of_ble_eq_true rfl | (show _ ≤ 601024; omega) | (show _ ≤ 7293034; omega)) (by first | exact Nat.le_of_ble_eq_true rfl | (show _ ≤ 601024; omega) | (show _ ≤ 7293034; omega)) (by first | exact Nat.le_of_ble_eq_true rfl | (show _ ≤ 601024; omega) | (show _ ≤ 7293034; omega)) (by first | exact Nat.le_of_ble_eq_true rfl | (show _ ≤ 601024; omega) | (show _ ≤ 7293034; omega)) dL_law_1069 (sX8_rewrites hM) (fun r h4 hq => ?_) (fun x h9 hq => hq.elim)
  obtain ⟨z3, rfl, hM⟩ := hq
  have hA := hM
  refine zV_icmp_eq (tgt := 2046) O dL_law_1072 (by decide) (fun hc => ?_) (fun hc => ?_)
  · refine zV_sub (ls2 := [some (aA (b + 1)), some (aR 169), some (aR 185), some (aR 197), some (aI v4), none, none, none, none]) ⟨rfl, rfl, rfl, rfl, rfl, trivial⟩ ?_
    exact hK _ _ _ (by omega) (by omega) hA.1
  · exact absurd hA.2 hc
