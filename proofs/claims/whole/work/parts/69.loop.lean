/-! the law's loop -/
set_option maxHeartbeats 4000000 in
set_option maxRecDepth 100000 in
theorem law_switch {l0 : Launch} {a : ZC} {b : Nat} {L : Int} {sc : Int → Int} {k n : Nat} {v4 : Int} {h : Hp} (O : zOk l0 a cL_law RL 9 (some .boolean) 198 []) (hS : zScr a b L sc) (hz : ∀ i : Int, 0 ≤ i ∧ i < L → zr (sc i)) (hk : k ≤ 600000) (hn : n ≤ 7200000) (hL : L ≤ 3072) (hv : 0 ≤ v4) (hw : v4 + 6 ≤ L) (hi : inv h) (hK : ∀ (k2 n2 : Nat) (h : Hp), k2 ≤ k + 3 → n2 ≤ n + 18 → inv h → zV a (2048, 601024, 7293034, (qZ (fun z _ => z = 1)), xN) k2 n2 2046 [some (aA (b + 1)), some (aR 169), some (aR 185), some (aR 197), some (aI v4), none, none, none, none] [] h) (w : Int) : zV a (2048, 601024, 7293034, (qZ (fun z _ => z = 1)), xN) k n 40 [some (aA (b + 1)), some (aR 169), some (aR 185), some (aR 197), some (aI v4), none, none, none, none] [aI w] h := by
  by_cases hx : 0 ≤ w ∧ w ≤ 40
  · have hj : w = 0 ∨ w = 1 ∨ w = 2 ∨ w = 3 ∨ w = 4 ∨ w = 5 ∨ w = 6 ∨ w = 7 ∨ w = 8 ∨ w = 9 ∨ w = 10 ∨ w = 11 ∨ w = 12 ∨ w = 13 ∨ w = 14 ∨ w = 15 ∨ w = 16 ∨ w = 17 ∨ w = 18 ∨ w = 19 ∨ w = 20 ∨ w = 21 ∨ w = 22 ∨ w = 23 ∨ w = 24 ∨ w = 25 ∨ w = 26 ∨ w = 27 ∨ w = 28 ∨ w = 29 ∨ w = 30 ∨ w = 31 ∨ w = 32 ∨ w = 33 ∨ w = 34 ∨ w = 35 ∨ w = 36 ∨ w = 37 ∨ w = 38 ∨ w = 39 ∨ w = 40 := by omega
    rcases hj with rfl | rfl | rfl | rfl | rfl | rfl | rfl | rfl | rfl | rfl | rfl | rfl | rfl | rfl | rfl | rfl | rfl | rfl | rfl | rfl | rfl | rfl | rfl | rfl | rfl | rfl | rfl | rfl | rfl | rfl | rfl | rfl | rfl | rfl | rfl | rfl | rfl | rfl | rfl | rfl | rfl
    · exact zV_tableIn (tgt := 220) O dL_law_40 (by omega) (by omega) rfl (by decide) (tW_0 O hS hz hk hn hL hv hw hi hK)
    · exact zV_tableIn (tgt := 293) O dL_law_40 (by omega) (by omega) rfl (by decide) (tW_1 O hS hz hk hn hL hv hw hi hK)
    · exact zV_tableIn (tgt := 349) O dL_law_40 (by omega) (by omega) rfl (by decide) (tW_2 O hS hz hk hn hL hv hw hi hK)
    · exact zV_tableIn (tgt := 362) O dL_law_40 (by omega) (by omega) rfl (by decide) (tW_3 O hS hz hk hn hL hv hw hi hK)
    · exact zV_tableIn (tgt := 418) O dL_law_40 (by omega) (by omega) rfl (by decide) (tW_4 O hS hz hk hn hL hv hw hi hK)
    · exact zV_tableIn (tgt := 486) O dL_law_40 (by omega) (by omega) rfl (by decide) (tW_5 O hS hz hk hn hL hv hw hi hK)
    · exact zV_tableIn (tgt := 554) O dL_law_40 (by omega) (by omega) rfl (by decide) (tW_6 O hS hz hk hn hL hv hw hi hK)
    · exact zV_tableIn (tgt := 622) O dL_law_40 (by omega) (by omega) rfl (by decide) (tW_7 O hS hz hk hn hL hv hw hi hK)
    · exact zV_tableIn (tgt := 678) O dL_law_40 (by omega) (by omega) rfl (by decide) (tW_8 O hS hz hk hn hL hv hw hi hK)
    · exact zV_tableIn (tgt := 734) O dL_law_40 (by omega) (by omega) rfl (by decide) (tW_9 O hS hz hk hn hL hv hw hi hK)
    · exact zV_tableIn (tgt := 802) O dL_law_40 (by omega) (by omega) rfl (by decide) (tW_10 O hS hz hk hn hL hv hw hi hK)
    · exact zV_tableIn (tgt := 882) O dL_law_40 (by omega) (by omega) rfl (by decide) (tW_11 O hS hz hk hn hL hv hw hi hK)
    · exact zV_tableIn (tgt := 969) O dL_law_40 (by omega) (by omega) rfl (by decide) (tW_12 O hS hz hk hn hL hv hw hi hK)
    · exact zV_tableIn (tgt := 1025) O dL_law_40 (by omega) (by omega) rfl (by decide) (tW_13 O hS hz hk hn hL hv hw hi hK)
    · exact zV_tableIn (tgt := 1038) O dL_law_40 (by omega) (by omega) rfl (by decide) (tW_14 O hS hz hk hn hL hv hw hi hK)
    · exact zV_tableIn (tgt := 1051) O dL_law_40 (by omega) (by omega) rfl (by decide) (tW_15 O hS hz hk hn hL hv hw hi hK)
    · exact zV_tableIn (tgt := 1064) O dL_law_40 (by omega) (by omega) rfl (by decide) (tW_16 O hS hz hk hn hL hv hw hi hK)
    · exact zV_tableIn (tgt := 1077) O dL_law_40 (by omega) (by omega) rfl (by decide) (tW_17 O hS hz hk hn hL hv hw hi hK)
    · exact zV_tableIn (tgt := 1133) O dL_law_40 (by omega) (by omega) rfl (by decide) (tW_18 O hS hz hk hn hL hv hw hi hK)
    · exact zV_tableIn (tgt := 1146) O dL_law_40 (by omega) (by omega) rfl (by decide) (tW_19 O hS hz hk hn hL hv hw hi hK)
    · exact zV_tableIn (tgt := 1189) O dL_law_40 (by omega) (by omega) rfl (by decide) (tW_20 O hS hz hk hn hL hv hw hi hK)
    · exact zV_tableIn (tgt := 1230) O dL_law_40 (by omega) (by omega) rfl (by decide) (tW_21 O hS hz hk hn hL hv hw hi hK)
    · exact zV_tableIn (tgt := 1298) O dL_law_40 (by omega) (by omega) rfl (by decide) (tW_22 O hS hz hk hn hL hv hw hi hK)
    · exact zV_tableIn (tgt := 1354) O dL_law_40 (by omega) (by omega) rfl (by decide) (tW_23 O hS hz hk hn hL hv hw hi hK)
    · exact zV_tableIn (tgt := 1434) O dL_law_40 (by omega) (by omega) rfl (by decide) (tW_24 O hS hz hk hn hL hv hw hi hK)
    · exact zV_tableIn (tgt := 1490) O dL_law_40 (by omega) (by omega) rfl (by decide) (tW_25 O hS hz hk hn hL hv hw hi hK)
    · exact zV_tableIn (tgt := 1503) O dL_law_40 (by omega) (by omega) rfl (by decide) (tW_26 O hS hz hk hn hL hv hw hi hK)
    · exact zV_tableIn (tgt := 1516) O dL_law_40 (by omega) (by omega) rfl (by decide) (tW_27 O hS hz hk hn hL hv hw hi hK)
    · exact zV_tableIn (tgt := 1529) O dL_law_40 (by omega) (by omega) rfl (by decide) (tW_28 O hS hz hk hn hL hv hw hi hK)
    · exact zV_tableIn (tgt := 1542) O dL_law_40 (by omega) (by omega) rfl (by decide) (tW_29 O hS hz hk hn hL hv hw hi hK)
    · exact zV_tableIn (tgt := 1555) O dL_law_40 (by omega) (by omega) rfl (by decide) (tW_30 O hS hz hk hn hL hv hw hi hK)
    · exact zV_tableIn (tgt := 1663) O dL_law_40 (by omega) (by omega) rfl (by decide) (tW_31 O hS hz hk hn hL hv hw hi hK)
    · exact zV_tableIn (tgt := 1719) O dL_law_40 (by omega) (by omega) rfl (by decide) (tW_32 O hS hz hk hn hL hv hw hi hK)
    · exact zV_tableIn (tgt := 1775) O dL_law_40 (by omega) (by omega) rfl (by decide) (tW_33 O hS hz hk hn hL hv hw hi hK)
    · exact zV_tableIn (tgt := 1859) O dL_law_40 (by omega) (by omega) rfl (by decide) (tW_34 O hS hz hk hn hL hv hw hi hK)
    · exact zV_tableIn (tgt := 1915) O dL_law_40 (by omega) (by omega) rfl (by decide) (tW_35 O hS hz hk hn hL hv hw hi hK)
    · exact zV_tableIn (tgt := 1940) O dL_law_40 (by omega) (by omega) rfl (by decide) (tW_36 O hS hz hk hn hL hv hw hi hK)
    · exact zV_tableIn (tgt := 1953) O dL_law_40 (by omega) (by omega) rfl (by decide) (tW_37 O hS hz hk hn hL hv hw hi hK)
    · exact zV_tableIn (tgt := 1966) O dL_law_40 (by omega) (by omega) rfl (by decide) (tW_38 O hS hz hk hn hL hv hw hi hK)
    · exact zV_tableIn (tgt := 1977) O dL_law_40 (by omega) (by omega) rfl (by decide) (tW_39 O hS hz hk hn hL hv hw hi hK)
    · exact zV_tableIn (tgt := 1990) O dL_law_40 (by omega) (by omega) rfl (by decide) (tW_40 O hS hz hk hn hL hv hw hi hK)
  · exact zV_tableOut (tgt := 2046) O dL_law_40 (by omega) (by decide) (hK k n h (by omega) (by omega) hi)
set_option maxHeartbeats 4000000 in
set_option maxRecDepth 100000 in
theorem law_loop {l0 : Launch} {a : ZC} {b : Nat} {L : Int} {sc : Int → Int} (O : zOk l0 a cL_law RL 9 (some .boolean) 198 []) (hS : zScr a b L sc) (hz : ∀ i : Int, 0 ≤ i ∧ i < L → zr (sc i)) (hL0 : 0 ≤ L) (hL : L ≤ 3072) : ∀ (f : Nat) (v4 : Int) (k n : Nat) (h : Hp), 0 ≤ v4 → v4 ≤ 3072 → L < v4 + 6 * f + 6 → f ≤ 513 → k + 3 * f ≤ 600000 → n + 18 * f ≤ 7200000 → inv h → zV a (2048, 601024, 7293034, (qZ (fun z _ => z = 1)), xN) k n 23 [some (aA (b + 1)), some (aR 169), some (aR 185), some (aR 197), some (aI v4), none, none, none, none] [] h := by
  intro f
  induction f with
  | zero =>
    intro v4 k n h hv hv2 hf hf2 hk hn hi
    refine zV_iload O dL_law_23 rfl ?_
    refine zV_aloadS O dL_law_25 rfl rfl ?_
    refine zV_slen' O hS (zri (by omega) (by omega)) dL_law_26 ?_
    refine zV_bipush (z := 6) O (zri (by omega) (by omega)) rfl dL_law_27 ?_
    refine zV_isub O dL_law_29 (zri (by omega) (by omega)) ?_
    refine zV_icmp_gt (tgt := 2052) O dL_law_30 (by decide) (fun hc => ?_) (fun hc => by omega)
    refine zV_iconst (z := 1) O (zri (by omega) (by omega)) dL_law_2052 ?_
    exact zV_zret O rfl (Or.inr rfl) ⟨_, rfl, Or.inr rfl, rfl⟩ (show _ ≤ 601024 by omega) (show _ ≤ 7293034 by omega) dL_law_2053
  | succ f ih =>
    intro v4 k n h hv hv2 hf hf2 hk hn hi
    refine zV_iload O dL_law_23 rfl ?_
    refine zV_aloadS O dL_law_25 rfl rfl ?_
    refine zV_slen' O hS (zri (by omega) (by omega)) dL_law_26 ?_
    refine zV_bipush (z := 6) O (zri (by omega) (by omega)) rfl dL_law_27 ?_
    refine zV_isub O dL_law_29 (zri (by omega) (by omega)) ?_
    refine zV_icmp_gt (tgt := 2052) O dL_law_30 (by decide) (fun hc => ?_) (fun hc => ?_)
    · refine zV_iconst (z := 1) O (zri (by omega) (by omega)) dL_law_2052 ?_
      exact zV_zret O rfl (Or.inr rfl) ⟨_, rfl, Or.inr rfl, rfl⟩ (show _ ≤ 601024 by omega) (show _ ≤ 7293034 by omega) dL_law_2053
    · refine zV_aloadS O dL_law_33 rfl rfl ?_
      refine zV_iload O dL_law_34 rfl ?_
      refine zV_sld O hS ⟨by omega, by omega⟩ dL_law_36 ?_
      refine zV_bipush (z := 63) O (zri (by omega) (by omega)) rfl dL_law_37 ?_
      refine zV_iand O dL_law_39 ?_
      refine law_switch O hS hz (by omega) (by omega) hL hv (by omega) hi (fun k2 n2 h2 g1 g2 g3 => ?_) _
      refine zV_iinc O dL_law_2046 rfl (by decide) rfl (zri (by omega) (by omega)) ?_
      refine zV_goto (tgt := 23) O dL_law_2049 (by decide) ?_
      exact ih (v4 + 6) k2 n2 h2 (by omega) (by omega) (by omega) (by omega) (by omega) (by omega) g3
