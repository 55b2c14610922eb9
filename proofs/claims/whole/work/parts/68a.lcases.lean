/-! the law's cases 0 to 8 -/
set_option maxHeartbeats 4000000 in
set_option maxRecDepth 100000 in
theorem tW_0 {l0 : Launch} {a : ZC} {b : Nat} {L : Int} {sc : Int → Int} {k n : Nat} {v4 : Int} {h : Hp} (O : zOk l0 a cL_law RL 9 (some .boolean) 198 []) (hS : zScr a b L sc) (hz : ∀ i : Int, 0 ≤ i ∧ i < L → zr (sc i)) (hk : k ≤ 600000) (hn : n ≤ 7200000) (hL : L ≤ 3072) (hv : 0 ≤ v4) (hw : v4 + 6 ≤ L) (hi : inv h) (hK : ∀ (k2 n2 : Nat) (h : Hp), k2 ≤ k + 3 → n2 ≤ n + 18 → inv h → zV a (2048, 601024, 7293034, (qZ (fun z _ => z = 1)), xN) k2 n2 2046 [some (aA (b + 1)), some (aR 169), some (aR 185), some (aR 197), some (aI v4), none, none, none, none] [] h) : zV a (2048, 601024, 7293034, (qZ (fun z _ => z = 1)), xN) k n 220 [some (aA (b + 1)), some (aR 169), some (aR 185), some (aR 197), some (aI v4), none, none, none, none] [] h := by
  refine zV_aload_n O dL_law_220 rfl rfl ?_
  refine zV_aloadS O dL_law_221 rfl rfl ?_
  refine zV_iload O dL_law_222 rfl ?_
  refine zV_iconst (z := 1) O ⟨by omega, by omega⟩ dL_law_224 ?_
  refine zV_iadd O dL_law_225 (zri (by omega) (by omega)) ?_
  refine zV_sld O hS ⟨by omega, by omega⟩ dL_law_226 ?_
  refine zV_aloadS O dL_law_227 rfl rfl ?_
  refine zV_iload O dL_law_228 rfl ?_
  refine zV_iconst (z := 2) O ⟨by omega, by omega⟩ dL_law_230 ?_
  refine zV_iadd O dL_law_231 (zri (by omega) (by omega)) ?_
  refine zV_sld O hS ⟨by omega, by omega⟩ dL_law_232 ?_
  refine zV_aloadS O dL_law_233 rfl rfl ?_
  refine zV_iload O dL_law_234 rfl ?_
  refine zV_iconst (z := 3) O ⟨by omega, by omega⟩ dL_law_236 ?_
  refine zV_iadd O dL_law_237 (zri (by omega) (by omega)) ?_
  refine zV_sld O hS ⟨by omega, by omega⟩ dL_law_238 ?_
  refine zV_aloadS O dL_law_239 rfl rfl ?_
  refine zV_iload O dL_law_240 rfl ?_
  refine zV_iconst (z := 4) O ⟨by omega, by omega⟩ dL_law_242 ?_
  refine zV_iadd O dL_law_243 (zri (by omega) (by omega)) ?_
  refine zV_sld O hS ⟨by omega, by omega⟩ dL_law_244 ?_
  refine zV_aloadS O dL_law_245 rfl rfl ?_
  refine zV_iload O dL_law_246 rfl ?_
  refine zV_iconst (z := 5) O ⟨by omega, by omega⟩ dL_law_248 ?_
  refine zV_iadd O dL_law_249 (zri (by omega) (by omega)) ?_
  refine zV_sld O hS ⟨by omega, by omega⟩ dL_law_250 ?_
  refine zV_callV (as := [aI (sc (v4 + 1)), aI (sc (v4 + 2)), aI (sc (v4 + 3)), aI (sc (v4 + 4)), aI (sc (v4 + 5))]) (st := []) O zc_X7_feed (Or.inl zl_RL_89) zi_481 zi_482 zt_169 rfl rfl (by decide) (by first | exact Nat.le_of_ble_eq_true rfl | (show _ ≤ 601024; omega) | (show _ ≤ 7293034; omega)) rfl rfl (by first | exact Nat.le_of_ble_eq_true rfl | (show _ ≤ 601024; omega) | (show _ ≤ 7293034; omega)) (by first | exact Nat.le_of_ble_eq_true rfl | (show _ ≤ 601024; omega) | (show _ ≤ 7293034; omega)) (by first | exact Nat.le_of_ble_eq_true rfl | (show _ ≤ 601024; omega) | (show _ ≤ 7293034; omega)) (by first | exact Nat.le_of_ble_eq_true rfl | (show _ ≤ 601024; omega) | (show _ ≤ 7293034; omega)) (by first | exact Nat.le_of_ble_eq_true rfl | (show _ ≤ 601024; omega) | (show _ ≤ 7293034; omega)) (by first | exact Nat.le_of_ble_eq_true rfl | (show _ ≤ 601024; omega) | (show _ ≤ 7293034; omega)) dL_law_251 (sX7_feed (c_feed hi (hz _ ⟨by omega, by omega⟩) (hz _ ⟨by omega, by omega⟩) (hz _ ⟨by omega, by omega⟩) (hz _ ⟨by omega, by omega⟩) (hz _ ⟨by omega, by omega⟩))) (fun r h2 hq => ?_) (fun x h9 hq => hq.elim)
  obtain ⟨z1, rfl, hM⟩ := hq
  refine zV_aload_n O dL_law_254 rfl rfl ?_
  refine zV_aloadS O dL_law_255 rfl rfl ?_
  refine zV_iload O dL_law_256 rfl ?_
  refine zV_iconst (z := 1) O ⟨by omega, by omega⟩ dL_law_258 ?_
  refine zV_iadd O dL_law_259 (zri (by omega) (by omega)) ?_
  refine zV_sld O hS ⟨by omega, by omega⟩ dL_law_260 ?_
  refine zV_aloadS O dL_law_261 rfl rfl ?_
  refine zV_iload O dL_law_262 rfl ?_
  refine zV_iconst (z := 2) O ⟨by omega, by omega⟩ dL_law_264 ?_
  refine zV_iadd O dL_law_265 (zri (by omega) (by omega)) ?_
  refine zV_sld O hS ⟨by omega, by omega⟩ dL_law_266 ?_
  refine zV_aloadS O dL_law_267 rfl rfl ?_
  refine zV_iload O dL_law_268 rfl ?_
  refine zV_iconst (z := 3) O ⟨by omega, by omega⟩ dL_law_270 ?_
  refine zV_iadd O dL_law_271 (zri (by omega) (by omega)) ?_
  refine zV_sld O hS ⟨by omega, by omega⟩ dL_law_272 ?_
  refine zV_aloadS O dL_law_273 rfl rfl ?_
  refine zV_iload O dL_law_274 rfl ?_
  refine zV_iconst (z := 4) O ⟨by omega, by omega⟩ dL_law_276 ?_
  refine zV_iadd O dL_law_277 (zri (by omega) (by omega)) ?_
  refine zV_sld O hS ⟨by omega, by omega⟩ dL_law_278 ?_
  refine zV_aloadS O dL_law_279 rfl rfl ?_
  refine zV_iload O dL_law_280 rfl ?_
  refine zV_iconst (z := 5) O ⟨by omega, by omega⟩ dL_law_282 ?_
  refine zV_iadd O dL_law_283 (zri (by omega) (by omega)) ?_
  refine zV_sld O hS ⟨by omega, by omega⟩ dL_law_284 ?_
  refine zV_callV (as := [aI (sc (v4 + 1)), aI (sc (v4 + 2)), aI (sc (v4 + 3)), aI (sc (v4 + 4)), aI (sc (v4 + 5))]) (st := [aI z1]) O zc_X8_feed (Or.inl zl_RL_93) zi_1400 zi_1401 zt_185 rfl rfl (by decide) (by first | exact Nat.le_of_ble_eq_true rfl | (show _ ≤ 601024; omega) | (show _ ≤ 7293034; omega)) rfl rfl (by first | exact Nat.le_of_ble_eq_true rfl | (show _ ≤ 601024; omega) | (show _ ≤ 7293034; omega)) (by first | exact Nat.le_of_ble_eq_true rfl | (show _ ≤ 601024; omega) | (show _ ≤ 7293034; omega)) (by first | exact Nat.le_of_ble_eq_true rfl | (show _ ≤ 601024; omega) | (show _ ≤ 7293034; omega)) (by first | exact Nat.le_of_ble_eq_true rfl | (show _ ≤ 601024; omega) | (show _ ≤ 7293034; omega)) (by first | exact Nat.le_of_ble_eq_true rfl | (show _ ≤ 601024; omega) | (show _ ≤ 7293034; omega)) (by first | exact Nat.le_of_ble_eq_true rfl | (show _ ≤ 601024; omega) | (show _ ≤ 7293034; omega)) dL_law_285 (sX8_feed hM) (fun r h4 hq => ?_) (fun x h9 hq => hq.elim)
  obtain ⟨z3, rfl, hM⟩ := hq
  have hA := hM
  refine zV_icmp_eq (tgt := 2046) O dL_law_288 (by decide) (fun hc => ?_) (fun hc => ?_)
  · refine zV_sub (ls2 := [some (aA (b + 1)), some (aR 169), some (aR 185), some (aR 197), some (aI v4), none, none, none, none]) ⟨rfl, rfl, rfl, rfl, rfl, trivial⟩ ?_
    exact hK _ _ _ (by omega) (by omega) hA.1
  · exact absurd hA.2 hc
set_option maxHeartbeats 4000000 in
set_option maxRecDepth 100000 in
theorem tW_1 {l0 : Launch} {a : ZC} {b : Nat} {L : Int} {sc : Int → Int} {k n : Nat} {v4 : Int} {h : Hp} (O : zOk l0 a cL_law RL 9 (some .boolean) 198 []) (hS : zScr a b L sc) (hz : ∀ i : Int, 0 ≤ i ∧ i < L → zr (sc i)) (hk : k ≤ 600000) (hn : n ≤ 7200000) (hL : L ≤ 3072) (hv : 0 ≤ v4) (hw : v4 + 6 ≤ L) (hi : inv h) (hK : ∀ (k2 n2 : Nat) (h : Hp), k2 ≤ k + 3 → n2 ≤ n + 18 → inv h → zV a (2048, 601024, 7293034, (qZ (fun z _ => z = 1)), xN) k2 n2 2046 [some (aA (b + 1)), some (aR 169), some (aR 185), some (aR 197), some (aI v4), none, none, none, none] [] h) : zV a (2048, 601024, 7293034, (qZ (fun z _ => z = 1)), xN) k n 293 [some (aA (b + 1)), some (aR 169), some (aR 185), some (aR 197), some (aI v4), none, none, none, none] [] h := by
  refine zV_aload_n O dL_law_293 rfl rfl ?_
  refine zV_aloadS O dL_law_294 rfl rfl ?_
  refine zV_iload O dL_law_295 rfl ?_
  refine zV_iconst (z := 1) O ⟨by omega, by omega⟩ dL_law_297 ?_
  refine zV_iadd O dL_law_298 (zri (by omega) (by omega)) ?_
  refine zV_sld O hS ⟨by omega, by omega⟩ dL_law_299 ?_
  refine zV_aload_n O dL_law_300 rfl rfl ?_
  refine zV_callSH (as := [aR 169, aI (sc (v4 + 1)), aR 197]) (st := []) O zch_L_load.1 zch_L_load.2.1 zch_L_load.2.2.1 zch_L_load.2.2.2 zl_RL_94 zi_732 (by first | exact Nat.le_of_ble_eq_true rfl | (show _ ≤ 601024; omega) | (show _ ≤ 7293034; omega)) rfl rfl (by first | exact Nat.le_of_ble_eq_true rfl | (show _ ≤ 601024; omega) | (show _ ≤ 7293034; omega)) (by first | exact Nat.le_of_ble_eq_true rfl | (show _ ≤ 601024; omega) | (show _ ≤ 7293034; omega)) (by first | exact Nat.le_of_ble_eq_true rfl | (show _ ≤ 601024; omega) | (show _ ≤ 7293034; omega)) (by first | exact Nat.le_of_ble_eq_true rfl | (show _ ≤ 601024; omega) | (show _ ≤ 7293034; omega)) (by first | exact Nat.le_of_ble_eq_true rfl | (show _ ≤ 601024; omega) | (show _ ≤ 7293034; omega)) (by first | exact Nat.le_of_ble_eq_true rfl | (show _ ≤ 601024; omega) | (show _ ≤ 7293034; omega)) dL_law_301 (sL_load (c_load hi)) (fun r h2 hq => ?_) (fun x h9 hq => hq.elim)
  obtain ⟨z1, rfl, hM⟩ := hq
  refine zV_istore O dL_law_304 (by first | exact Nat.le_of_ble_eq_true rfl | (show _ ≤ 601024; omega) | (show _ ≤ 7293034; omega)) rfl ?_
  refine zV_aload_n O dL_law_306 rfl rfl ?_
  refine zV_aloadS O dL_law_307 rfl rfl ?_
  refine zV_iload O dL_law_308 rfl ?_
  refine zV_iconst (z := 1) O ⟨by omega, by omega⟩ dL_law_310 ?_
  refine zV_iadd O dL_law_311 (zri (by omega) (by omega)) ?_
  refine zV_sld O hS ⟨by omega, by omega⟩ dL_law_312 ?_
  refine zV_callV (as := [aI (sc (v4 + 1))]) (st := []) O zc_X8_load (Or.inl zl_RL_99) zi_1412 zi_1413 zt_185 rfl rfl (by decide) (by first | exact Nat.le_of_ble_eq_true rfl | (show _ ≤ 601024; omega) | (show _ ≤ 7293034; omega)) rfl rfl (by first | exact Nat.le_of_ble_eq_true rfl | (show _ ≤ 601024; omega) | (show _ ≤ 7293034; omega)) (by first | exact Nat.le_of_ble_eq_true rfl | (show _ ≤ 601024; omega) | (show _ ≤ 7293034; omega)) (by first | exact Nat.le_of_ble_eq_true rfl | (show _ ≤ 601024; omega) | (show _ ≤ 7293034; omega)) (by first | exact Nat.le_of_ble_eq_true rfl | (show _ ≤ 601024; omega) | (show _ ≤ 7293034; omega)) (by first | exact Nat.le_of_ble_eq_true rfl | (show _ ≤ 601024; omega) | (show _ ≤ 7293034; omega)) (by first | exact Nat.le_of_ble_eq_true rfl | (show _ ≤ 601024; omega) | (show _ ≤ 7293034; omega)) dL_law_313 (sX8_load hM) (fun r h4 hq => ?_) (fun x h9 hq => hq.elim)
  obtain ⟨z3, rfl, hM⟩ := hq
  have hA := hM
  refine zV_istore O dL_law_316 (by first | exact Nat.le_of_ble_eq_true rfl | (show _ ≤ 601024; omega) | (show _ ≤ 7293034; omega)) rfl ?_
  refine zV_aload_n O dL_law_318 rfl rfl ?_
  refine zV_callV (as := []) (st := []) O zc_X8_thrown (Or.inl zl_RL_100) zi_1295 zi_1296 zt_185 rfl rfl (by decide) (by first | exact Nat.le_of_ble_eq_true rfl | (show _ ≤ 601024; omega) | (show _ ≤ 7293034; omega)) rfl rfl (by first | exact Nat.le_of_ble_eq_true rfl | (show _ ≤ 601024; omega) | (show _ ≤ 7293034; omega)) (by first | exact Nat.le_of_ble_eq_true rfl | (show _ ≤ 601024; omega) | (show _ ≤ 7293034; omega)) (by first | exact Nat.le_of_ble_eq_true rfl | (show _ ≤ 601024; omega) | (show _ ≤ 7293034; omega)) (by first | exact Nat.le_of_ble_eq_true rfl | (show _ ≤ 601024; omega) | (show _ ≤ 7293034; omega)) (by first | exact Nat.le_of_ble_eq_true rfl | (show _ ≤ 601024; omega) | (show _ ≤ 7293034; omega)) (by first | exact Nat.le_of_ble_eq_true rfl | (show _ ≤ 601024; omega) | (show _ ≤ 7293034; omega)) dL_law_319 (sX8_thrown (Q := fun z => z = h4 185 0) rfl) (fun r h9 hq => ?_) (fun x h9 hq => hq.elim)
  obtain ⟨rfl, z5, rfl, hM⟩ := hq
  have hT := hM
  refine zV_iload O dL_law_322 rfl ?_
  refine zV_icmp_eq (tgt := 329) O dL_law_324 (by decide) (fun hc => ?_) (fun hc => ?_)
  · refine zV_iload O dL_law_329 rfl ?_
    refine zV_if_ne (tgt := 346) O dL_law_331 (by decide) (fun hc => ?_) (fun hc => ?_)
    · refine zV_goto (tgt := 2046) O dL_law_346 (by decide) ?_
      refine zV_sub (ls2 := [some (aA (b + 1)), some (aR 169), some (aR 185), some (aR 197), some (aI v4), none, none, none, none]) ⟨rfl, rfl, rfl, rfl, rfl, trivial⟩ ?_
      exact hK _ _ _ (by omega) (by omega) hA.1
    · have hk0 := hc
      refine zV_aload_n O dL_law_334 rfl rfl ?_
      refine zV_iconst (z := 0) O ⟨by omega, by omega⟩ dL_law_335 ?_
      refine zV_lald O zt_197 (by decide) ⟨by omega, by omega⟩ dL_law_336 ?_
      refine zV_iload O dL_law_337 rfl ?_
      refine zV_i2l O dL_law_339 ?_
      refine zV_lcmp O dL_law_340 ?_
      refine zV_if_eq (tgt := 346) O dL_law_341 (by decide) (fun hc => ?_) (fun hc => ?_)
      · refine zV_goto (tgt := 2046) O dL_law_346 (by decide) ?_
        refine zV_sub (ls2 := [some (aA (b + 1)), some (aR 169), some (aR 185), some (aR 197), some (aI v4), none, none, none, none]) ⟨rfl, rfl, rfl, rfl, rfl, trivial⟩ ?_
        exact hK _ _ _ (by omega) (by omega) hA.1
      · exact absurd (zlc_eq (hA.2.2 hk0)) hc
  · exact absurd (hT.trans hA.2.1) hc
set_option maxHeartbeats 4000000 in
set_option maxRecDepth 100000 in
theorem tW_2 {l0 : Launch} {a : ZC} {b : Nat} {L : Int} {sc : Int → Int} {k n : Nat} {v4 : Int} {h : Hp} (O : zOk l0 a cL_law RL 9 (some .boolean) 198 []) (hS : zScr a b L sc) (hz : ∀ i : Int, 0 ≤ i ∧ i < L → zr (sc i)) (hk : k ≤ 600000) (hn : n ≤ 7200000) (hL : L ≤ 3072) (hv : 0 ≤ v4) (hw : v4 + 6 ≤ L) (hi : inv h) (hK : ∀ (k2 n2 : Nat) (h : Hp), k2 ≤ k + 3 → n2 ≤ n + 18 → inv h → zV a (2048, 601024, 7293034, (qZ (fun z _ => z = 1)), xN) k2 n2 2046 [some (aA (b + 1)), some (aR 169), some (aR 185), some (aR 197), some (aI v4), none, none, none, none] [] h) : zV a (2048, 601024, 7293034, (qZ (fun z _ => z = 1)), xN) k n 349 [some (aA (b + 1)), some (aR 169), some (aR 185), some (aR 197), some (aI v4), none, none, none, none] [] h := by
  refine zV_aload_n O dL_law_349 rfl rfl ?_
  refine zV_callV (as := []) (st := []) O zc_X7_errorPosition (Or.inl zl_RL_104) zi_489 zi_490 zt_169 rfl rfl (by decide) (by first | exact Nat.le_of_ble_eq_true rfl | (show _ ≤ 601024; omega) | (show _ ≤ 7293034; omega)) rfl rfl (by first | exact Nat.le_of_ble_eq_true rfl | (show _ ≤ 601024; omega) | (show _ ≤ 7293034; omega)) (by first | exact Nat.le_of_ble_eq_true rfl | (show _ ≤ 601024; omega) | (show _ ≤ 7293034; omega)) (by first | exact Nat.le_of_ble_eq_true rfl | (show _ ≤ 601024; omega) | (show _ ≤ 7293034; omega)) (by first | exact Nat.le_of_ble_eq_true rfl | (show _ ≤ 601024; omega) | (show _ ≤ 7293034; omega)) (by first | exact Nat.le_of_ble_eq_true rfl | (show _ ≤ 601024; omega) | (show _ ≤ 7293034; omega)) (by first | exact Nat.le_of_ble_eq_true rfl | (show _ ≤ 601024; omega) | (show _ ≤ 7293034; omega)) dL_law_350 (sX7_errorPosition (c_errorPosition hi)) (fun r h9 hq => ?_) (fun x h9 hq => hq.elim)
  obtain ⟨rfl, z1, rfl, hM⟩ := hq
  refine zV_aload_n O dL_law_353 rfl rfl ?_
  refine zV_callV (as := []) (st := [aI z1]) O zc_X8_errorPosition (Or.inl zl_RL_107) zi_1408 zi_1409 zt_185 rfl rfl (by decide) (by first | exact Nat.le_of_ble_eq_true rfl | (show _ ≤ 601024; omega) | (show _ ≤ 7293034; omega)) rfl rfl (by first | exact Nat.le_of_ble_eq_true rfl | (show _ ≤ 601024; omega) | (show _ ≤ 7293034; omega)) (by first | exact Nat.le_of_ble_eq_true rfl | (show _ ≤ 601024; omega) | (show _ ≤ 7293034; omega)) (by first | exact Nat.le_of_ble_eq_true rfl | (show _ ≤ 601024; omega) | (show _ ≤ 7293034; omega)) (by first | exact Nat.le_of_ble_eq_true rfl | (show _ ≤ 601024; omega) | (show _ ≤ 7293034; omega)) (by first | exact Nat.le_of_ble_eq_true rfl | (show _ ≤ 601024; omega) | (show _ ≤ 7293034; omega)) (by first | exact Nat.le_of_ble_eq_true rfl | (show _ ≤ 601024; omega) | (show _ ≤ 7293034; omega)) dL_law_354 (sX8_errorPosition hM) (fun r h3 hq => ?_) (fun x h9 hq => hq.elim)
  obtain ⟨z2, rfl, hM⟩ := hq
  have hA := hM
  refine zV_icmp_eq (tgt := 2046) O dL_law_357 (by decide) (fun hc => ?_) (fun hc => ?_)
  · refine zV_sub (ls2 := [some (aA (b + 1)), some (aR 169), some (aR 185), some (aR 197), some (aI v4), none, none, none, none]) ⟨rfl, rfl, rfl, rfl, rfl, trivial⟩ ?_
    exact hK _ _ _ (by omega) (by omega) hA.1
  · exact absurd hA.2 hc
set_option maxHeartbeats 4000000 in
set_option maxRecDepth 100000 in
theorem tW_3 {l0 : Launch} {a : ZC} {b : Nat} {L : Int} {sc : Int → Int} {k n : Nat} {v4 : Int} {h : Hp} (O : zOk l0 a cL_law RL 9 (some .boolean) 198 []) (hS : zScr a b L sc) (hz : ∀ i : Int, 0 ≤ i ∧ i < L → zr (sc i)) (hk : k ≤ 600000) (hn : n ≤ 7200000) (hL : L ≤ 3072) (hv : 0 ≤ v4) (hw : v4 + 6 ≤ L) (hi : inv h) (hK : ∀ (k2 n2 : Nat) (h : Hp), k2 ≤ k + 3 → n2 ≤ n + 18 → inv h → zV a (2048, 601024, 7293034, (qZ (fun z _ => z = 1)), xN) k2 n2 2046 [some (aA (b + 1)), some (aR 169), some (aR 185), some (aR 197), some (aI v4), none, none, none, none] [] h) : zV a (2048, 601024, 7293034, (qZ (fun z _ => z = 1)), xN) k n 362 [some (aA (b + 1)), some (aR 169), some (aR 185), some (aR 197), some (aI v4), none, none, none, none] [] h := by
  refine zV_aload_n O dL_law_362 rfl rfl ?_
  refine zV_aloadS O dL_law_363 rfl rfl ?_
  refine zV_iload O dL_law_364 rfl ?_
  refine zV_iconst (z := 1) O ⟨by omega, by omega⟩ dL_law_366 ?_
  refine zV_iadd O dL_law_367 (zri (by omega) (by omega)) ?_
  refine zV_sld O hS ⟨by omega, by omega⟩ dL_law_368 ?_
  refine zV_aload_n O dL_law_369 rfl rfl ?_
  refine zV_callSH (as := [aR 169, aI (sc (v4 + 1)), aR 197]) (st := []) O zch_L_size.1 zch_L_size.2.1 zch_L_size.2.2.1 zch_L_size.2.2.2 zl_RL_108 zi_969 (by first | exact Nat.le_of_ble_eq_true rfl | (show _ ≤ 601024; omega) | (show _ ≤ 7293034; omega)) rfl rfl (by first | exact Nat.le_of_ble_eq_true rfl | (show _ ≤ 601024; omega) | (show _ ≤ 7293034; omega)) (by first | exact Nat.le_of_ble_eq_true rfl | (show _ ≤ 601024; omega) | (show _ ≤ 7293034; omega)) (by first | exact Nat.le_of_ble_eq_true rfl | (show _ ≤ 601024; omega) | (show _ ≤ 7293034; omega)) (by first | exact Nat.le_of_ble_eq_true rfl | (show _ ≤ 601024; omega) | (show _ ≤ 7293034; omega)) (by first | exact Nat.le_of_ble_eq_true rfl | (show _ ≤ 601024; omega) | (show _ ≤ 7293034; omega)) (by first | exact Nat.le_of_ble_eq_true rfl | (show _ ≤ 601024; omega) | (show _ ≤ 7293034; omega)) dL_law_370 (sL_size (c_size hi)) (fun r h2 hq => ?_) (fun x h9 hq => hq.elim)
  obtain ⟨z1, rfl, hM⟩ := hq
  refine zV_istore O dL_law_373 (by first | exact Nat.le_of_ble_eq_true rfl | (show _ ≤ 601024; omega) | (show _ ≤ 7293034; omega)) rfl ?_
  refine zV_aload_n O dL_law_375 rfl rfl ?_
  refine zV_aloadS O dL_law_376 rfl rfl ?_
  refine zV_iload O dL_law_377 rfl ?_
  refine zV_iconst (z := 1) O ⟨by omega, by omega⟩ dL_law_379 ?_
  refine zV_iadd O dL_law_380 (zri (by omega) (by omega)) ?_
  refine zV_sld O hS ⟨by omega, by omega⟩ dL_law_381 ?_
  refine zV_callV (as := [aI (sc (v4 + 1))]) (st := []) O zc_X8_size (Or.inl zl_RL_110) zi_1539 zi_1540 zt_185 rfl rfl (by decide) (by first | exact Nat.le_of_ble_eq_true rfl | (show _ ≤ 601024; omega) | (show _ ≤ 7293034; omega)) rfl rfl (by first | exact Nat.le_of_ble_eq_true rfl | (show _ ≤ 601024; omega) | (show _ ≤ 7293034; omega)) (by first | exact Nat.le_of_ble_eq_true rfl | (show _ ≤ 601024; omega) | (show _ ≤ 7293034; omega)) (by first | exact Nat.le_of_ble_eq_true rfl | (show _ ≤ 601024; omega) | (show _ ≤ 7293034; omega)) (by first | exact Nat.le_of_ble_eq_true rfl | (show _ ≤ 601024; omega) | (show _ ≤ 7293034; omega)) (by first | exact Nat.le_of_ble_eq_true rfl | (show _ ≤ 601024; omega) | (show _ ≤ 7293034; omega)) (by first | exact Nat.le_of_ble_eq_true rfl | (show _ ≤ 601024; omega) | (show _ ≤ 7293034; omega)) dL_law_382 (sX8_size hM) (fun r h4 hq => ?_) (fun x h9 hq => hq.elim)
  obtain ⟨z3, rfl, hM⟩ := hq
  have hA := hM
  refine zV_istore O dL_law_385 (by first | exact Nat.le_of_ble_eq_true rfl | (show _ ≤ 601024; omega) | (show _ ≤ 7293034; omega)) rfl ?_
  refine zV_aload_n O dL_law_387 rfl rfl ?_
  refine zV_callV (as := []) (st := []) O zc_X8_thrown (Or.inl zl_RL_100) zi_1295 zi_1296 zt_185 rfl rfl (by decide) (by first | exact Nat.le_of_ble_eq_true rfl | (show _ ≤ 601024; omega) | (show _ ≤ 7293034; omega)) rfl rfl (by first | exact Nat.le_of_ble_eq_true rfl | (show _ ≤ 601024; omega) | (show _ ≤ 7293034; omega)) (by first | exact Nat.le_of_ble_eq_true rfl | (show _ ≤ 601024; omega) | (show _ ≤ 7293034; omega)) (by first | exact Nat.le_of_ble_eq_true rfl | (show _ ≤ 601024; omega) | (show _ ≤ 7293034; omega)) (by first | exact Nat.le_of_ble_eq_true rfl | (show _ ≤ 601024; omega) | (show _ ≤ 7293034; omega)) (by first | exact Nat.le_of_ble_eq_true rfl | (show _ ≤ 601024; omega) | (show _ ≤ 7293034; omega)) (by first | exact Nat.le_of_ble_eq_true rfl | (show _ ≤ 601024; omega) | (show _ ≤ 7293034; omega)) dL_law_388 (sX8_thrown (Q := fun z => z = h4 185 0) rfl) (fun r h9 hq => ?_) (fun x h9 hq => hq.elim)
  obtain ⟨rfl, z5, rfl, hM⟩ := hq
  have hT := hM
  refine zV_iload O dL_law_391 rfl ?_
  refine zV_icmp_eq (tgt := 398) O dL_law_393 (by decide) (fun hc => ?_) (fun hc => ?_)
  · refine zV_iload O dL_law_398 rfl ?_
    refine zV_if_ne (tgt := 415) O dL_law_400 (by decide) (fun hc => ?_) (fun hc => ?_)
    · refine zV_goto (tgt := 2046) O dL_law_415 (by decide) ?_
      refine zV_sub (ls2 := [some (aA (b + 1)), some (aR 169), some (aR 185), some (aR 197), some (aI v4), none, none, none, none]) ⟨rfl, rfl, rfl, rfl, rfl, trivial⟩ ?_
      exact hK _ _ _ (by omega) (by omega) hA.1
    · have hk0 := hc
      refine zV_aload_n O dL_law_403 rfl rfl ?_
      refine zV_iconst (z := 0) O ⟨by omega, by omega⟩ dL_law_404 ?_
      refine zV_lald O zt_197 (by decide) ⟨by omega, by omega⟩ dL_law_405 ?_
      refine zV_iload O dL_law_406 rfl ?_
      refine zV_i2l O dL_law_408 ?_
      refine zV_lcmp O dL_law_409 ?_
      refine zV_if_eq (tgt := 415) O dL_law_410 (by decide) (fun hc => ?_) (fun hc => ?_)
      · refine zV_goto (tgt := 2046) O dL_law_415 (by decide) ?_
        refine zV_sub (ls2 := [some (aA (b + 1)), some (aR 169), some (aR 185), some (aR 197), some (aI v4), none, none, none, none]) ⟨rfl, rfl, rfl, rfl, rfl, trivial⟩ ?_
        exact hK _ _ _ (by omega) (by omega) hA.1
      · exact absurd (zlc_eq (hA.2.2 hk0)) hc
  · exact absurd (hT.trans hA.2.1) hc
set_option maxHeartbeats 4000000 in
set_option maxRecDepth 100000 in
theorem tW_4 {l0 : Launch} {a : ZC} {b : Nat} {L : Int} {sc : Int → Int} {k n : Nat} {v4 : Int} {h : Hp} (O : zOk l0 a cL_law RL 9 (some .boolean) 198 []) (hS : zScr a b L sc) (hz : ∀ i : Int, 0 ≤ i ∧ i < L → zr (sc i)) (hk : k ≤ 600000) (hn : n ≤ 7200000) (hL : L ≤ 3072) (hv : 0 ≤ v4) (hw : v4 + 6 ≤ L) (hi : inv h) (hK : ∀ (k2 n2 : Nat) (h : Hp), k2 ≤ k + 3 → n2 ≤ n + 18 → inv h → zV a (2048, 601024, 7293034, (qZ (fun z _ => z = 1)), xN) k2 n2 2046 [some (aA (b + 1)), some (aR 169), some (aR 185), some (aR 197), some (aI v4), none, none, none, none] [] h) : zV a (2048, 601024, 7293034, (qZ (fun z _ => z = 1)), xN) k n 418 [some (aA (b + 1)), some (aR 169), some (aR 185), some (aR 197), some (aI v4), none, none, none, none] [] h := by
  refine zV_aload_n O dL_law_418 rfl rfl ?_
  refine zV_aloadS O dL_law_419 rfl rfl ?_
  refine zV_iload O dL_law_420 rfl ?_
  refine zV_iconst (z := 1) O ⟨by omega, by omega⟩ dL_law_422 ?_
  refine zV_iadd O dL_law_423 (zri (by omega) (by omega)) ?_
  refine zV_sld O hS ⟨by omega, by omega⟩ dL_law_424 ?_
  refine zV_aloadS O dL_law_425 rfl rfl ?_
  refine zV_iload O dL_law_426 rfl ?_
  refine zV_iconst (z := 2) O ⟨by omega, by omega⟩ dL_law_428 ?_
  refine zV_iadd O dL_law_429 (zri (by omega) (by omega)) ?_
  refine zV_sld O hS ⟨by omega, by omega⟩ dL_law_430 ?_
  refine zV_aload_n O dL_law_431 rfl rfl ?_
  refine zV_callSH (as := [aR 169, aI (sc (v4 + 1)), aI (sc (v4 + 2)), aR 197]) (st := []) O zch_L_host.1 zch_L_host.2.1 zch_L_host.2.2.1 zch_L_host.2.2.2 zl_RL_111 zi_1000 (by first | exact Nat.le_of_ble_eq_true rfl | (show _ ≤ 601024; omega) | (show _ ≤ 7293034; omega)) rfl rfl (by first | exact Nat.le_of_ble_eq_true rfl | (show _ ≤ 601024; omega) | (show _ ≤ 7293034; omega)) (by first | exact Nat.le_of_ble_eq_true rfl | (show _ ≤ 601024; omega) | (show _ ≤ 7293034; omega)) (by first | exact Nat.le_of_ble_eq_true rfl | (show _ ≤ 601024; omega) | (show _ ≤ 7293034; omega)) (by first | exact Nat.le_of_ble_eq_true rfl | (show _ ≤ 601024; omega) | (show _ ≤ 7293034; omega)) (by first | exact Nat.le_of_ble_eq_true rfl | (show _ ≤ 601024; omega) | (show _ ≤ 7293034; omega)) (by first | exact Nat.le_of_ble_eq_true rfl | (show _ ≤ 601024; omega) | (show _ ≤ 7293034; omega)) dL_law_432 (sL_host (c_host hi)) (fun r h2 hq => ?_) (fun x h9 hq => hq.elim)
  obtain ⟨z1, rfl, hM⟩ := hq
  refine zV_istore O dL_law_435 (by first | exact Nat.le_of_ble_eq_true rfl | (show _ ≤ 601024; omega) | (show _ ≤ 7293034; omega)) rfl ?_
  refine zV_aload_n O dL_law_437 rfl rfl ?_
  refine zV_aloadS O dL_law_438 rfl rfl ?_
  refine zV_iload O dL_law_439 rfl ?_
  refine zV_iconst (z := 1) O ⟨by omega, by omega⟩ dL_law_441 ?_
  refine zV_iadd O dL_law_442 (zri (by omega) (by omega)) ?_
  refine zV_sld O hS ⟨by omega, by omega⟩ dL_law_443 ?_
  refine zV_aloadS O dL_law_444 rfl rfl ?_
  refine zV_iload O dL_law_445 rfl ?_
  refine zV_iconst (z := 2) O ⟨by omega, by omega⟩ dL_law_447 ?_
  refine zV_iadd O dL_law_448 (zri (by omega) (by omega)) ?_
  refine zV_sld O hS ⟨by omega, by omega⟩ dL_law_449 ?_
  refine zV_callV (as := [aI (sc (v4 + 1)), aI (sc (v4 + 2))]) (st := []) O zc_X8_host (Or.inl zl_RL_114) zi_1584 zi_1585 zt_185 rfl rfl (by decide) (by first | exact Nat.le_of_ble_eq_true rfl | (show _ ≤ 601024; omega) | (show _ ≤ 7293034; omega)) rfl rfl (by first | exact Nat.le_of_ble_eq_true rfl | (show _ ≤ 601024; omega) | (show _ ≤ 7293034; omega)) (by first | exact Nat.le_of_ble_eq_true rfl | (show _ ≤ 601024; omega) | (show _ ≤ 7293034; omega)) (by first | exact Nat.le_of_ble_eq_true rfl | (show _ ≤ 601024; omega) | (show _ ≤ 7293034; omega)) (by first | exact Nat.le_of_ble_eq_true rfl | (show _ ≤ 601024; omega) | (show _ ≤ 7293034; omega)) (by first | exact Nat.le_of_ble_eq_true rfl | (show _ ≤ 601024; omega) | (show _ ≤ 7293034; omega)) (by first | exact Nat.le_of_ble_eq_true rfl | (show _ ≤ 601024; omega) | (show _ ≤ 7293034; omega)) dL_law_450 (sX8_host hM) (fun r h4 hq => ?_) (fun x h9 hq => hq.elim)
  obtain ⟨z3, rfl, hM⟩ := hq
  have hA := hM
  refine zV_istore O dL_law_453 (by first | exact Nat.le_of_ble_eq_true rfl | (show _ ≤ 601024; omega) | (show _ ≤ 7293034; omega)) rfl ?_
  refine zV_aload_n O dL_law_455 rfl rfl ?_
  refine zV_callV (as := []) (st := []) O zc_X8_thrown (Or.inl zl_RL_100) zi_1295 zi_1296 zt_185 rfl rfl (by decide) (by first | exact Nat.le_of_ble_eq_true rfl | (show _ ≤ 601024; omega) | (show _ ≤ 7293034; omega)) rfl rfl (by first | exact Nat.le_of_ble_eq_true rfl | (show _ ≤ 601024; omega) | (show _ ≤ 7293034; omega)) (by first | exact Nat.le_of_ble_eq_true rfl | (show _ ≤ 601024; omega) | (show _ ≤ 7293034; omega)) (by first | exact Nat.le_of_ble_eq_true rfl | (show _ ≤ 601024; omega) | (show _ ≤ 7293034; omega)) (by first | exact Nat.le_of_ble_eq_true rfl | (show _ ≤ 601024; omega) | (show _ ≤ 7293034; omega)) (by first | exact Nat.le_of_ble_eq_true rfl | (show _ ≤ 601024; omega) | (show _ ≤ 7293034; omega)) (by first | exact Nat.le_of_ble_eq_true rfl | (show _ ≤ 601024; omega) | (show _ ≤ 7293034; omega)) dL_law_456 (sX8_thrown (Q := fun z => z = h4 185 0) rfl) (fun r h9 hq => ?_) (fun x h9 hq => hq.elim)
  obtain ⟨rfl, z5, rfl, hM⟩ := hq
  have hT := hM
  refine zV_iload O dL_law_459 rfl ?_
  refine zV_icmp_eq (tgt := 466) O dL_law_461 (by decide) (fun hc => ?_) (fun hc => ?_)
  · refine zV_iload O dL_law_466 rfl ?_
    refine zV_if_ne (tgt := 483) O dL_law_468 (by decide) (fun hc => ?_) (fun hc => ?_)
    · refine zV_goto (tgt := 2046) O dL_law_483 (by decide) ?_
      refine zV_sub (ls2 := [some (aA (b + 1)), some (aR 169), some (aR 185), some (aR 197), some (aI v4), none, none, none, none]) ⟨rfl, rfl, rfl, rfl, rfl, trivial⟩ ?_
      exact hK _ _ _ (by omega) (by omega) hA.1
    · have hk0 := hc
      refine zV_aload_n O dL_law_471 rfl rfl ?_
      refine zV_iconst (z := 0) O ⟨by omega, by omega⟩ dL_law_472 ?_
      refine zV_lald O zt_197 (by decide) ⟨by omega, by omega⟩ dL_law_473 ?_
      refine zV_iload O dL_law_474 rfl ?_
      refine zV_i2l O dL_law_476 ?_
      refine zV_lcmp O dL_law_477 ?_
      refine zV_if_eq (tgt := 483) O dL_law_478 (by decide) (fun hc => ?_) (fun hc => ?_)
      · refine zV_goto (tgt := 2046) O dL_law_483 (by decide) ?_
        refine zV_sub (ls2 := [some (aA (b + 1)), some (aR 169), some (aR 185), some (aR 197), some (aI v4), none, none, none, none]) ⟨rfl, rfl, rfl, rfl, rfl, trivial⟩ ?_
        exact hK _ _ _ (by omega) (by omega) hA.1
      · exact absurd (zlc_eq (hA.2.2 hk0)) hc
  · exact absurd (hT.trans hA.2.1) hc
set_option maxHeartbeats 4000000 in
set_option maxRecDepth 100000 in
theorem tW_5 {l0 : Launch} {a : ZC} {b : Nat} {L : Int} {sc : Int → Int} {k n : Nat} {v4 : Int} {h : Hp} (O : zOk l0 a cL_law RL 9 (some .boolean) 198 []) (hS : zScr a b L sc) (hz : ∀ i : Int, 0 ≤ i ∧ i < L → zr (sc i)) (hk : k ≤ 600000) (hn : n ≤ 7200000) (hL : L ≤ 3072) (hv : 0 ≤ v4) (hw : v4 + 6 ≤ L) (hi : inv h) (hK : ∀ (k2 n2 : Nat) (h : Hp), k2 ≤ k + 3 → n2 ≤ n + 18 → inv h → zV a (2048, 601024, 7293034, (qZ (fun z _ => z = 1)), xN) k2 n2 2046 [some (aA (b + 1)), some (aR 169), some (aR 185), some (aR 197), some (aI v4), none, none, none, none] [] h) : zV a (2048, 601024, 7293034, (qZ (fun z _ => z = 1)), xN) k n 486 [some (aA (b + 1)), some (aR 169), some (aR 185), some (aR 197), some (aI v4), none, none, none, none] [] h := by
  refine zV_aload_n O dL_law_486 rfl rfl ?_
  refine zV_aloadS O dL_law_487 rfl rfl ?_
  refine zV_iload O dL_law_488 rfl ?_
  refine zV_iconst (z := 1) O ⟨by omega, by omega⟩ dL_law_490 ?_
  refine zV_iadd O dL_law_491 (zri (by omega) (by omega)) ?_
  refine zV_sld O hS ⟨by omega, by omega⟩ dL_law_492 ?_
  refine zV_aloadS O dL_law_493 rfl rfl ?_
  refine zV_iload O dL_law_494 rfl ?_
  refine zV_iconst (z := 2) O ⟨by omega, by omega⟩ dL_law_496 ?_
  refine zV_iadd O dL_law_497 (zri (by omega) (by omega)) ?_
  refine zV_sld O hS ⟨by omega, by omega⟩ dL_law_498 ?_
  refine zV_aload_n O dL_law_499 rfl rfl ?_
  refine zV_callSH (as := [aR 169, aI (sc (v4 + 1)), aI (sc (v4 + 2)), aR 197]) (st := []) O zch_L_name.1 zch_L_name.2.1 zch_L_name.2.2.1 zch_L_name.2.2.2 zl_RL_115 zi_1012 (by first | exact Nat.le_of_ble_eq_true rfl | (show _ ≤ 601024; omega) | (show _ ≤ 7293034; omega)) rfl rfl (by first | exact Nat.le_of_ble_eq_true rfl | (show _ ≤ 601024; omega) | (show _ ≤ 7293034; omega)) (by first | exact Nat.le_of_ble_eq_true rfl | (show _ ≤ 601024; omega) | (show _ ≤ 7293034; omega)) (by first | exact Nat.le_of_ble_eq_true rfl | (show _ ≤ 601024; omega) | (show _ ≤ 7293034; omega)) (by first | exact Nat.le_of_ble_eq_true rfl | (show _ ≤ 601024; omega) | (show _ ≤ 7293034; omega)) (by first | exact Nat.le_of_ble_eq_true rfl | (show _ ≤ 601024; omega) | (show _ ≤ 7293034; omega)) (by first | exact Nat.le_of_ble_eq_true rfl | (show _ ≤ 601024; omega) | (show _ ≤ 7293034; omega)) dL_law_500 (sL_name (c_name hi)) (fun r h2 hq => ?_) (fun x h9 hq => hq.elim)
  obtain ⟨z1, rfl, hM⟩ := hq
  refine zV_istore O dL_law_503 (by first | exact Nat.le_of_ble_eq_true rfl | (show _ ≤ 601024; omega) | (show _ ≤ 7293034; omega)) rfl ?_
  refine zV_aload_n O dL_law_505 rfl rfl ?_
  refine zV_aloadS O dL_law_506 rfl rfl ?_
  refine zV_iload O dL_law_507 rfl ?_
  refine zV_iconst (z := 1) O ⟨by omega, by omega⟩ dL_law_509 ?_
  refine zV_iadd O dL_law_510 (zri (by omega) (by omega)) ?_
  refine zV_sld O hS ⟨by omega, by omega⟩ dL_law_511 ?_
  refine zV_aloadS O dL_law_512 rfl rfl ?_
  refine zV_iload O dL_law_513 rfl ?_
  refine zV_iconst (z := 2) O ⟨by omega, by omega⟩ dL_law_515 ?_
  refine zV_iadd O dL_law_516 (zri (by omega) (by omega)) ?_
  refine zV_sld O hS ⟨by omega, by omega⟩ dL_law_517 ?_
  refine zV_callV (as := [aI (sc (v4 + 1)), aI (sc (v4 + 2))]) (st := []) O zc_X8_name (Or.inl zl_RL_117) zi_1593 zi_1594 zt_185 rfl rfl (by decide) (by first | exact Nat.le_of_ble_eq_true rfl | (show _ ≤ 601024; omega) | (show _ ≤ 7293034; omega)) rfl rfl (by first | exact Nat.le_of_ble_eq_true rfl | (show _ ≤ 601024; omega) | (show _ ≤ 7293034; omega)) (by first | exact Nat.le_of_ble_eq_true rfl | (show _ ≤ 601024; omega) | (show _ ≤ 7293034; omega)) (by first | exact Nat.le_of_ble_eq_true rfl | (show _ ≤ 601024; omega) | (show _ ≤ 7293034; omega)) (by first | exact Nat.le_of_ble_eq_true rfl | (show _ ≤ 601024; omega) | (show _ ≤ 7293034; omega)) (by first | exact Nat.le_of_ble_eq_true rfl | (show _ ≤ 601024; omega) | (show _ ≤ 7293034; omega)) (by first | exact Nat.le_of_ble_eq_true rfl | (show _ ≤ 601024; omega) | (show _ ≤ 7293034; omega)) dL_law_518 (sX8_name hM) (fun r h4 hq => ?_) (fun x h9 hq => hq.elim)
  obtain ⟨z3, rfl, hM⟩ := hq
  have hA := hM
  refine zV_istore O dL_law_521 (by first | exact Nat.le_of_ble_eq_true rfl | (show _ ≤ 601024; omega) | (show _ ≤ 7293034; omega)) rfl ?_
  refine zV_aload_n O dL_law_523 rfl rfl ?_
  refine zV_callV (as := []) (st := []) O zc_X8_thrown (Or.inl zl_RL_100) zi_1295 zi_1296 zt_185 rfl rfl (by decide) (by first | exact Nat.le_of_ble_eq_true rfl | (show _ ≤ 601024; omega) | (show _ ≤ 7293034; omega)) rfl rfl (by first | exact Nat.le_of_ble_eq_true rfl | (show _ ≤ 601024; omega) | (show _ ≤ 7293034; omega)) (by first | exact Nat.le_of_ble_eq_true rfl | (show _ ≤ 601024; omega) | (show _ ≤ 7293034; omega)) (by first | exact Nat.le_of_ble_eq_true rfl | (show _ ≤ 601024; omega) | (show _ ≤ 7293034; omega)) (by first | exact Nat.le_of_ble_eq_true rfl | (show _ ≤ 601024; omega) | (show _ ≤ 7293034; omega)) (by first | exact Nat.le_of_ble_eq_true rfl | (show _ ≤ 601024; omega) | (show _ ≤ 7293034; omega)) (by first | exact Nat.le_of_ble_eq_true rfl | (show _ ≤ 601024; omega) | (show _ ≤ 7293034; omega)) dL_law_524 (sX8_thrown (Q := fun z => z = h4 185 0) rfl) (fun r h9 hq => ?_) (fun x h9 hq => hq.elim)
  obtain ⟨rfl, z5, rfl, hM⟩ := hq
  have hT := hM
  refine zV_iload O dL_law_527 rfl ?_
  refine zV_icmp_eq (tgt := 534) O dL_law_529 (by decide) (fun hc => ?_) (fun hc => ?_)
  · refine zV_iload O dL_law_534 rfl ?_
    refine zV_if_ne (tgt := 551) O dL_law_536 (by decide) (fun hc => ?_) (fun hc => ?_)
    · refine zV_goto (tgt := 2046) O dL_law_551 (by decide) ?_
      refine zV_sub (ls2 := [some (aA (b + 1)), some (aR 169), some (aR 185), some (aR 197), some (aI v4), none, none, none, none]) ⟨rfl, rfl, rfl, rfl, rfl, trivial⟩ ?_
      exact hK _ _ _ (by omega) (by omega) hA.1
    · have hk0 := hc
      refine zV_aload_n O dL_law_539 rfl rfl ?_
      refine zV_iconst (z := 0) O ⟨by omega, by omega⟩ dL_law_540 ?_
      refine zV_lald O zt_197 (by decide) ⟨by omega, by omega⟩ dL_law_541 ?_
      refine zV_iload O dL_law_542 rfl ?_
      refine zV_i2l O dL_law_544 ?_
      refine zV_lcmp O dL_law_545 ?_
      refine zV_if_eq (tgt := 551) O dL_law_546 (by decide) (fun hc => ?_) (fun hc => ?_)
      · refine zV_goto (tgt := 2046) O dL_law_551 (by decide) ?_
        refine zV_sub (ls2 := [some (aA (b + 1)), some (aR 169), some (aR 185), some (aR 197), some (aI v4), none, none, none, none]) ⟨rfl, rfl, rfl, rfl, rfl, trivial⟩ ?_
        exact hK _ _ _ (by omega) (by omega) hA.1
      · exact absurd (zlc_eq (hA.2.2 hk0)) hc
  · exact absurd (hT.trans hA.2.1) hc
set_option maxHeartbeats 4000000 in
set_option maxRecDepth 100000 in
theorem tW_6 {l0 : Launch} {a : ZC} {b : Nat} {L : Int} {sc : Int → Int} {k n : Nat} {v4 : Int} {h : Hp} (O : zOk l0 a cL_law RL 9 (some .boolean) 198 []) (hS : zScr a b L sc) (hz : ∀ i : Int, 0 ≤ i ∧ i < L → zr (sc i)) (hk : k ≤ 600000) (hn : n ≤ 7200000) (hL : L ≤ 3072) (hv : 0 ≤ v4) (hw : v4 + 6 ≤ L) (hi : inv h) (hK : ∀ (k2 n2 : Nat) (h : Hp), k2 ≤ k + 3 → n2 ≤ n + 18 → inv h → zV a (2048, 601024, 7293034, (qZ (fun z _ => z = 1)), xN) k2 n2 2046 [some (aA (b + 1)), some (aR 169), some (aR 185), some (aR 197), some (aI v4), none, none, none, none] [] h) : zV a (2048, 601024, 7293034, (qZ (fun z _ => z = 1)), xN) k n 554 [some (aA (b + 1)), some (aR 169), some (aR 185), some (aR 197), some (aI v4), none, none, none, none] [] h := by
  refine zV_aload_n O dL_law_554 rfl rfl ?_
  refine zV_aloadS O dL_law_555 rfl rfl ?_
  refine zV_iload O dL_law_556 rfl ?_
  refine zV_iconst (z := 1) O ⟨by omega, by omega⟩ dL_law_558 ?_
  refine zV_iadd O dL_law_559 (zri (by omega) (by omega)) ?_
  refine zV_sld O hS ⟨by omega, by omega⟩ dL_law_560 ?_
  refine zV_aloadS O dL_law_561 rfl rfl ?_
  refine zV_iload O dL_law_562 rfl ?_
  refine zV_iconst (z := 2) O ⟨by omega, by omega⟩ dL_law_564 ?_
  refine zV_iadd O dL_law_565 (zri (by omega) (by omega)) ?_
  refine zV_sld O hS ⟨by omega, by omega⟩ dL_law_566 ?_
  refine zV_aload_n O dL_law_567 rfl rfl ?_
  refine zV_callSH (as := [aR 169, aI (sc (v4 + 1)), aI (sc (v4 + 2)), aR 197]) (st := []) O zch_L_holder.1 zch_L_holder.2.1 zch_L_holder.2.2.1 zch_L_holder.2.2.2 zl_RL_118 zi_1022 (by first | exact Nat.le_of_ble_eq_true rfl | (show _ ≤ 601024; omega) | (show _ ≤ 7293034; omega)) rfl rfl (by first | exact Nat.le_of_ble_eq_true rfl | (show _ ≤ 601024; omega) | (show _ ≤ 7293034; omega)) (by first | exact Nat.le_of_ble_eq_true rfl | (show _ ≤ 601024; omega) | (show _ ≤ 7293034; omega)) (by first | exact Nat.le_of_ble_eq_true rfl | (show _ ≤ 601024; omega) | (show _ ≤ 7293034; omega)) (by first | exact Nat.le_of_ble_eq_true rfl | (show _ ≤ 601024; omega) | (show _ ≤ 7293034; omega)) (by first | exact Nat.le_of_ble_eq_true rfl | (show _ ≤ 601024; omega) | (show _ ≤ 7293034; omega)) (by first | exact Nat.le_of_ble_eq_true rfl | (show _ ≤ 601024; omega) | (show _ ≤ 7293034; omega)) dL_law_568 (sL_holder (c_holder hi)) (fun r h2 hq => ?_) (fun x h9 hq => hq.elim)
  obtain ⟨z1, rfl, hM⟩ := hq
  refine zV_istore O dL_law_571 (by first | exact Nat.le_of_ble_eq_true rfl | (show _ ≤ 601024; omega) | (show _ ≤ 7293034; omega)) rfl ?_
  refine zV_aload_n O dL_law_573 rfl rfl ?_
  refine zV_aloadS O dL_law_574 rfl rfl ?_
  refine zV_iload O dL_law_575 rfl ?_
  refine zV_iconst (z := 1) O ⟨by omega, by omega⟩ dL_law_577 ?_
  refine zV_iadd O dL_law_578 (zri (by omega) (by omega)) ?_
  refine zV_sld O hS ⟨by omega, by omega⟩ dL_law_579 ?_
  refine zV_aloadS O dL_law_580 rfl rfl ?_
  refine zV_iload O dL_law_581 rfl ?_
  refine zV_iconst (z := 2) O ⟨by omega, by omega⟩ dL_law_583 ?_
  refine zV_iadd O dL_law_584 (zri (by omega) (by omega)) ?_
  refine zV_sld O hS ⟨by omega, by omega⟩ dL_law_585 ?_
  refine zV_callV (as := [aI (sc (v4 + 1)), aI (sc (v4 + 2))]) (st := []) O zc_X8_holder (Or.inl zl_RL_120) zi_1597 zi_1598 zt_185 rfl rfl (by decide) (by first | exact Nat.le_of_ble_eq_true rfl | (show _ ≤ 601024; omega) | (show _ ≤ 7293034; omega)) rfl rfl (by first | exact Nat.le_of_ble_eq_true rfl | (show _ ≤ 601024; omega) | (show _ ≤ 7293034; omega)) (by first | exact Nat.le_of_ble_eq_true rfl | (show _ ≤ 601024; omega) | (show _ ≤ 7293034; omega)) (by first | exact Nat.le_of_ble_eq_true rfl | (show _ ≤ 601024; omega) | (show _ ≤ 7293034; omega)) (by first | exact Nat.le_of_ble_eq_true rfl | (show _ ≤ 601024; omega) | (show _ ≤ 7293034; omega)) (by first | exact Nat.le_of_ble_eq_true rfl | (show _ ≤ 601024; omega) | (show _ ≤ 7293034; omega)) (by first | exact Nat.le_of_ble_eq_true rfl | (show _ ≤ 601024; omega) | (show _ ≤ 7293034; omega)) dL_law_586 (sX8_holder hM) (fun r h4 hq => ?_) (fun x h9 hq => hq.elim)
  obtain ⟨z3, rfl, hM⟩ := hq
  have hA := hM
  refine zV_istore O dL_law_589 (by first | exact Nat.le_of_ble_eq_true rfl | (show _ ≤ 601024; omega) | (show _ ≤ 7293034; omega)) rfl ?_
  refine zV_aload_n O dL_law_591 rfl rfl ?_
  refine zV_callV (as := []) (st := []) O zc_X8_thrown (Or.inl zl_RL_100) zi_1295 zi_1296 zt_185 rfl rfl (by decide) (by first | exact Nat.le_of_ble_eq_true rfl | (show _ ≤ 601024; omega) | (show _ ≤ 7293034; omega)) rfl rfl (by first | exact Nat.le_of_ble_eq_true rfl | (show _ ≤ 601024; omega) | (show _ ≤ 7293034; omega)) (by first | exact Nat.le_of_ble_eq_true rfl | (show _ ≤ 601024; omega) | (show _ ≤ 7293034; omega)) (by first | exact Nat.le_of_ble_eq_true rfl | (show _ ≤ 601024; omega) | (show _ ≤ 7293034; omega)) (by first | exact Nat.le_of_ble_eq_true rfl | (show _ ≤ 601024; omega) | (show _ ≤ 7293034; omega)) (by first | exact Nat.le_of_ble_eq_true rfl | (show _ ≤ 601024; omega) | (show _ ≤ 7293034; omega)) (by first | exact Nat.le_of_ble_eq_true rfl | (show _ ≤ 601024; omega) | (show _ ≤ 7293034; omega)) dL_law_592 (sX8_thrown (Q := fun z => z = h4 185 0) rfl) (fun r h9 hq => ?_) (fun x h9 hq => hq.elim)
  obtain ⟨rfl, z5, rfl, hM⟩ := hq
  have hT := hM
  refine zV_iload O dL_law_595 rfl ?_
  refine zV_icmp_eq (tgt := 602) O dL_law_597 (by decide) (fun hc => ?_) (fun hc => ?_)
  · refine zV_iload O dL_law_602 rfl ?_
    refine zV_if_ne (tgt := 619) O dL_law_604 (by decide) (fun hc => ?_) (fun hc => ?_)
    · refine zV_goto (tgt := 2046) O dL_law_619 (by decide) ?_
      refine zV_sub (ls2 := [some (aA (b + 1)), some (aR 169), some (aR 185), some (aR 197), some (aI v4), none, none, none, none]) ⟨rfl, rfl, rfl, rfl, rfl, trivial⟩ ?_
      exact hK _ _ _ (by omega) (by omega) hA.1
    · have hk0 := hc
      refine zV_aload_n O dL_law_607 rfl rfl ?_
      refine zV_iconst (z := 0) O ⟨by omega, by omega⟩ dL_law_608 ?_
      refine zV_lald O zt_197 (by decide) ⟨by omega, by omega⟩ dL_law_609 ?_
      refine zV_iload O dL_law_610 rfl ?_
      refine zV_i2l O dL_law_612 ?_
      refine zV_lcmp O dL_law_613 ?_
      refine zV_if_eq (tgt := 619) O dL_law_614 (by decide) (fun hc => ?_) (fun hc => ?_)
      · refine zV_goto (tgt := 2046) O dL_law_619 (by decide) ?_
        refine zV_sub (ls2 := [some (aA (b + 1)), some (aR 169), some (aR 185), some (aR 197), some (aI v4), none, none, none, none]) ⟨rfl, rfl, rfl, rfl, rfl, trivial⟩ ?_
        exact hK _ _ _ (by omega) (by omega) hA.1
      · exact absurd (zlc_eq (hA.2.2 hk0)) hc
  · exact absurd (hT.trans hA.2.1) hc
set_option maxHeartbeats 4000000 in
set_option maxRecDepth 100000 in
theorem tW_7 {l0 : Launch} {a : ZC} {b : Nat} {L : Int} {sc : Int → Int} {k n : Nat} {v4 : Int} {h : Hp} (O : zOk l0 a cL_law RL 9 (some .boolean) 198 []) (hS : zScr a b L sc) (hz : ∀ i : Int, 0 ≤ i ∧ i < L → zr (sc i)) (hk : k ≤ 600000) (hn : n ≤ 7200000) (hL : L ≤ 3072) (hv : 0 ≤ v4) (hw : v4 + 6 ≤ L) (hi : inv h) (hK : ∀ (k2 n2 : Nat) (h : Hp), k2 ≤ k + 3 → n2 ≤ n + 18 → inv h → zV a (2048, 601024, 7293034, (qZ (fun z _ => z = 1)), xN) k2 n2 2046 [some (aA (b + 1)), some (aR 169), some (aR 185), some (aR 197), some (aI v4), none, none, none, none] [] h) : zV a (2048, 601024, 7293034, (qZ (fun z _ => z = 1)), xN) k n 622 [some (aA (b + 1)), some (aR 169), some (aR 185), some (aR 197), some (aI v4), none, none, none, none] [] h := by
  refine zV_aload_n O dL_law_622 rfl rfl ?_
  refine zV_aloadS O dL_law_623 rfl rfl ?_
  refine zV_iload O dL_law_624 rfl ?_
  refine zV_iconst (z := 1) O ⟨by omega, by omega⟩ dL_law_626 ?_
  refine zV_iadd O dL_law_627 (zri (by omega) (by omega)) ?_
  refine zV_sld O hS ⟨by omega, by omega⟩ dL_law_628 ?_
  refine zV_aload_n O dL_law_629 rfl rfl ?_
  refine zV_callSH (as := [aR 169, aI (sc (v4 + 1)), aR 197]) (st := []) O zch_L_clash.1 zch_L_clash.2.1 zch_L_clash.2.2.1 zch_L_clash.2.2.2 zl_RL_121 zi_1036 (by first | exact Nat.le_of_ble_eq_true rfl | (show _ ≤ 601024; omega) | (show _ ≤ 7293034; omega)) rfl rfl (by first | exact Nat.le_of_ble_eq_true rfl | (show _ ≤ 601024; omega) | (show _ ≤ 7293034; omega)) (by first | exact Nat.le_of_ble_eq_true rfl | (show _ ≤ 601024; omega) | (show _ ≤ 7293034; omega)) (by first | exact Nat.le_of_ble_eq_true rfl | (show _ ≤ 601024; omega) | (show _ ≤ 7293034; omega)) (by first | exact Nat.le_of_ble_eq_true rfl | (show _ ≤ 601024; omega) | (show _ ≤ 7293034; omega)) (by first | exact Nat.le_of_ble_eq_true rfl | (show _ ≤ 601024; omega) | (show _ ≤ 7293034; omega)) (by first | exact Nat.le_of_ble_eq_true rfl | (show _ ≤ 601024; omega) | (show _ ≤ 7293034; omega)) dL_law_630 (sL_clash (c_clash hi (hz _ ⟨by omega, by omega⟩))) (fun r h2 hq => ?_) (fun x h9 hq => hq.elim)
  obtain ⟨z1, rfl, hM⟩ := hq
  refine zV_istore O dL_law_633 (by first | exact Nat.le_of_ble_eq_true rfl | (show _ ≤ 601024; omega) | (show _ ≤ 7293034; omega)) rfl ?_
  refine zV_aload_n O dL_law_635 rfl rfl ?_
  refine zV_aloadS O dL_law_636 rfl rfl ?_
  refine zV_iload O dL_law_637 rfl ?_
  refine zV_iconst (z := 1) O ⟨by omega, by omega⟩ dL_law_639 ?_
  refine zV_iadd O dL_law_640 (zri (by omega) (by omega)) ?_
  refine zV_sld O hS ⟨by omega, by omega⟩ dL_law_641 ?_
  refine zV_callV (as := [aI (sc (v4 + 1))]) (st := []) O zc_X8_clash (Or.inl zl_RL_123) zi_1607 zi_1608 zt_185 rfl rfl (by decide) (by first | exact Nat.le_of_ble_eq_true rfl | (show _ ≤ 601024; omega) | (show _ ≤ 7293034; omega)) rfl rfl (by first | exact Nat.le_of_ble_eq_true rfl | (show _ ≤ 601024; omega) | (show _ ≤ 7293034; omega)) (by first | exact Nat.le_of_ble_eq_true rfl | (show _ ≤ 601024; omega) | (show _ ≤ 7293034; omega)) (by first | exact Nat.le_of_ble_eq_true rfl | (show _ ≤ 601024; omega) | (show _ ≤ 7293034; omega)) (by first | exact Nat.le_of_ble_eq_true rfl | (show _ ≤ 601024; omega) | (show _ ≤ 7293034; omega)) (by first | exact Nat.le_of_ble_eq_true rfl | (show _ ≤ 601024; omega) | (show _ ≤ 7293034; omega)) (by first | exact Nat.le_of_ble_eq_true rfl | (show _ ≤ 601024; omega) | (show _ ≤ 7293034; omega)) dL_law_642 (sX8_clash hM) (fun r h4 hq => ?_) (fun x h9 hq => hq.elim)
  obtain ⟨z3, rfl, hM⟩ := hq
  have hA := hM
  refine zV_istore O dL_law_645 (by first | exact Nat.le_of_ble_eq_true rfl | (show _ ≤ 601024; omega) | (show _ ≤ 7293034; omega)) rfl ?_
  refine zV_aload_n O dL_law_647 rfl rfl ?_
  refine zV_callV (as := []) (st := []) O zc_X8_thrown (Or.inl zl_RL_100) zi_1295 zi_1296 zt_185 rfl rfl (by decide) (by first | exact Nat.le_of_ble_eq_true rfl | (show _ ≤ 601024; omega) | (show _ ≤ 7293034; omega)) rfl rfl (by first | exact Nat.le_of_ble_eq_true rfl | (show _ ≤ 601024; omega) | (show _ ≤ 7293034; omega)) (by first | exact Nat.le_of_ble_eq_true rfl | (show _ ≤ 601024; omega) | (show _ ≤ 7293034; omega)) (by first | exact Nat.le_of_ble_eq_true rfl | (show _ ≤ 601024; omega) | (show _ ≤ 7293034; omega)) (by first | exact Nat.le_of_ble_eq_true rfl | (show _ ≤ 601024; omega) | (show _ ≤ 7293034; omega)) (by first | exact Nat.le_of_ble_eq_true rfl | (show _ ≤ 601024; omega) | (show _ ≤ 7293034; omega)) (by first | exact Nat.le_of_ble_eq_true rfl | (show _ ≤ 601024; omega) | (show _ ≤ 7293034; omega)) dL_law_648 (sX8_thrown (Q := fun z => z = h4 185 0) rfl) (fun r h9 hq => ?_) (fun x h9 hq => hq.elim)
  obtain ⟨rfl, z5, rfl, hM⟩ := hq
  have hT := hM
  refine zV_iload O dL_law_651 rfl ?_
  refine zV_icmp_eq (tgt := 658) O dL_law_653 (by decide) (fun hc => ?_) (fun hc => ?_)
  · refine zV_iload O dL_law_658 rfl ?_
    refine zV_if_ne (tgt := 675) O dL_law_660 (by decide) (fun hc => ?_) (fun hc => ?_)
    · refine zV_goto (tgt := 2046) O dL_law_675 (by decide) ?_
      refine zV_sub (ls2 := [some (aA (b + 1)), some (aR 169), some (aR 185), some (aR 197), some (aI v4), none, none, none, none]) ⟨rfl, rfl, rfl, rfl, rfl, trivial⟩ ?_
      exact hK _ _ _ (by omega) (by omega) hA.1
    · have hk0 := hc
      refine zV_aload_n O dL_law_663 rfl rfl ?_
      refine zV_iconst (z := 0) O ⟨by omega, by omega⟩ dL_law_664 ?_
      refine zV_lald O zt_197 (by decide) ⟨by omega, by omega⟩ dL_law_665 ?_
      refine zV_iload O dL_law_666 rfl ?_
      refine zV_i2l O dL_law_668 ?_
      refine zV_lcmp O dL_law_669 ?_
      refine zV_if_eq (tgt := 675) O dL_law_670 (by decide) (fun hc => ?_) (fun hc => ?_)
      · refine zV_goto (tgt := 2046) O dL_law_675 (by decide) ?_
        refine zV_sub (ls2 := [some (aA (b + 1)), some (aR 169), some (aR 185), some (aR 197), some (aI v4), none, none, none, none]) ⟨rfl, rfl, rfl, rfl, rfl, trivial⟩ ?_
        exact hK _ _ _ (by omega) (by omega) hA.1
      · exact absurd (zlc_eq (hA.2.2 hk0)) hc
  · exact absurd (hT.trans hA.2.1) hc
set_option maxHeartbeats 4000000 in
set_option maxRecDepth 100000 in
theorem tW_8 {l0 : Launch} {a : ZC} {b : Nat} {L : Int} {sc : Int → Int} {k n : Nat} {v4 : Int} {h : Hp} (O : zOk l0 a cL_law RL 9 (some .boolean) 198 []) (hS : zScr a b L sc) (hz : ∀ i : Int, 0 ≤ i ∧ i < L → zr (sc i)) (hk : k ≤ 600000) (hn : n ≤ 7200000) (hL : L ≤ 3072) (hv : 0 ≤ v4) (hw : v4 + 6 ≤ L) (hi : inv h) (hK : ∀ (k2 n2 : Nat) (h : Hp), k2 ≤ k + 3 → n2 ≤ n + 18 → inv h → zV a (2048, 601024, 7293034, (qZ (fun z _ => z = 1)), xN) k2 n2 2046 [some (aA (b + 1)), some (aR 169), some (aR 185), some (aR 197), some (aI v4), none, none, none, none] [] h) : zV a (2048, 601024, 7293034, (qZ (fun z _ => z = 1)), xN) k n 678 [some (aA (b + 1)), some (aR 169), some (aR 185), some (aR 197), some (aI v4), none, none, none, none] [] h := by
  refine zV_aload_n O dL_law_678 rfl rfl ?_
  refine zV_aloadS O dL_law_679 rfl rfl ?_
  refine zV_iload O dL_law_680 rfl ?_
  refine zV_iconst (z := 1) O ⟨by omega, by omega⟩ dL_law_682 ?_
  refine zV_iadd O dL_law_683 (zri (by omega) (by omega)) ?_
  refine zV_sld O hS ⟨by omega, by omega⟩ dL_law_684 ?_
  refine zV_aload_n O dL_law_685 rfl rfl ?_
  refine zV_callSH (as := [aR 169, aI (sc (v4 + 1)), aR 197]) (st := []) O zch_L_plans.1 zch_L_plans.2.1 zch_L_plans.2.2.1 zch_L_plans.2.2.2 zl_RL_124 zi_1047 (by first | exact Nat.le_of_ble_eq_true rfl | (show _ ≤ 601024; omega) | (show _ ≤ 7293034; omega)) rfl rfl (by first | exact Nat.le_of_ble_eq_true rfl | (show _ ≤ 601024; omega) | (show _ ≤ 7293034; omega)) (by first | exact Nat.le_of_ble_eq_true rfl | (show _ ≤ 601024; omega) | (show _ ≤ 7293034; omega)) (by first | exact Nat.le_of_ble_eq_true rfl | (show _ ≤ 601024; omega) | (show _ ≤ 7293034; omega)) (by first | exact Nat.le_of_ble_eq_true rfl | (show _ ≤ 601024; omega) | (show _ ≤ 7293034; omega)) (by first | exact Nat.le_of_ble_eq_true rfl | (show _ ≤ 601024; omega) | (show _ ≤ 7293034; omega)) (by first | exact Nat.le_of_ble_eq_true rfl | (show _ ≤ 601024; omega) | (show _ ≤ 7293034; omega)) dL_law_686 (sL_plans (c_plans hi)) (fun r h2 hq => ?_) (fun x h9 hq => hq.elim)
  obtain ⟨z1, rfl, hM⟩ := hq
  refine zV_istore O dL_law_689 (by first | exact Nat.le_of_ble_eq_true rfl | (show _ ≤ 601024; omega) | (show _ ≤ 7293034; omega)) rfl ?_
  refine zV_aload_n O dL_law_691 rfl rfl ?_
  refine zV_aloadS O dL_law_692 rfl rfl ?_
  refine zV_iload O dL_law_693 rfl ?_
  refine zV_iconst (z := 1) O ⟨by omega, by omega⟩ dL_law_695 ?_
  refine zV_iadd O dL_law_696 (zri (by omega) (by omega)) ?_
  refine zV_sld O hS ⟨by omega, by omega⟩ dL_law_697 ?_
  refine zV_callV (as := [aI (sc (v4 + 1))]) (st := []) O zc_X8_plans (Or.inl zl_RL_126) zi_1611 zi_1612 zt_185 rfl rfl (by decide) (by first | exact Nat.le_of_ble_eq_true rfl | (show _ ≤ 601024; omega) | (show _ ≤ 7293034; omega)) rfl rfl (by first | exact Nat.le_of_ble_eq_true rfl | (show _ ≤ 601024; omega) | (show _ ≤ 7293034; omega)) (by first | exact Nat.le_of_ble_eq_true rfl | (show _ ≤ 601024; omega) | (show _ ≤ 7293034; omega)) (by first | exact Nat.le_of_ble_eq_true rfl | (show _ ≤ 601024; omega) | (show _ ≤ 7293034; omega)) (by first | exact Nat.le_of_ble_eq_true rfl | (show _ ≤ 601024; omega) | (show _ ≤ 7293034; omega)) (by first | exact Nat.le_of_ble_eq_true rfl | (show _ ≤ 601024; omega) | (show _ ≤ 7293034; omega)) (by first | exact Nat.le_of_ble_eq_true rfl | (show _ ≤ 601024; omega) | (show _ ≤ 7293034; omega)) dL_law_698 (sX8_plans hM) (fun r h4 hq => ?_) (fun x h9 hq => hq.elim)
  obtain ⟨z3, rfl, hM⟩ := hq
  have hA := hM
  refine zV_istore O dL_law_701 (by first | exact Nat.le_of_ble_eq_true rfl | (show _ ≤ 601024; omega) | (show _ ≤ 7293034; omega)) rfl ?_
  refine zV_aload_n O dL_law_703 rfl rfl ?_
  refine zV_callV (as := []) (st := []) O zc_X8_thrown (Or.inl zl_RL_100) zi_1295 zi_1296 zt_185 rfl rfl (by decide) (by first | exact Nat.le_of_ble_eq_true rfl | (show _ ≤ 601024; omega) | (show _ ≤ 7293034; omega)) rfl rfl (by first | exact Nat.le_of_ble_eq_true rfl | (show _ ≤ 601024; omega) | (show _ ≤ 7293034; omega)) (by first | exact Nat.le_of_ble_eq_true rfl | (show _ ≤ 601024; omega) | (show _ ≤ 7293034; omega)) (by first | exact Nat.le_of_ble_eq_true rfl | (show _ ≤ 601024; omega) | (show _ ≤ 7293034; omega)) (by first | exact Nat.le_of_ble_eq_true rfl | (show _ ≤ 601024; omega) | (show _ ≤ 7293034; omega)) (by first | exact Nat.le_of_ble_eq_true rfl | (show _ ≤ 601024; omega) | (show _ ≤ 7293034; omega)) (by first | exact Nat.le_of_ble_eq_true rfl | (show _ ≤ 601024; omega) | (show _ ≤ 7293034; omega)) dL_law_704 (sX8_thrown (Q := fun z => z = h4 185 0) rfl) (fun r h9 hq => ?_) (fun x h9 hq => hq.elim)
  obtain ⟨rfl, z5, rfl, hM⟩ := hq
  have hT := hM
  refine zV_iload O dL_law_707 rfl ?_
  refine zV_icmp_eq (tgt := 714) O dL_law_709 (by decide) (fun hc => ?_) (fun hc => ?_)
  · refine zV_iload O dL_law_714 rfl ?_
    refine zV_if_ne (tgt := 731) O dL_law_716 (by decide) (fun hc => ?_) (fun hc => ?_)
    · refine zV_goto (tgt := 2046) O dL_law_731 (by decide) ?_
      refine zV_sub (ls2 := [some (aA (b + 1)), some (aR 169), some (aR 185), some (aR 197), some (aI v4), none, none, none, none]) ⟨rfl, rfl, rfl, rfl, rfl, trivial⟩ ?_
      exact hK _ _ _ (by omega) (by omega) hA.1
    · have hk0 := hc
      refine zV_aload_n O dL_law_719 rfl rfl ?_
      refine zV_iconst (z := 0) O ⟨by omega, by omega⟩ dL_law_720 ?_
      refine zV_lald O zt_197 (by decide) ⟨by omega, by omega⟩ dL_law_721 ?_
      refine zV_iload O dL_law_722 rfl ?_
      refine zV_i2l O dL_law_724 ?_
      refine zV_lcmp O dL_law_725 ?_
      refine zV_if_eq (tgt := 731) O dL_law_726 (by decide) (fun hc => ?_) (fun hc => ?_)
      · refine zV_goto (tgt := 2046) O dL_law_731 (by decide) ?_
        refine zV_sub (ls2 := [some (aA (b + 1)), some (aR 169), some (aR 185), some (aR 197), some (aI v4), none, none, none, none]) ⟨rfl, rfl, rfl, rfl, rfl, trivial⟩ ?_
        exact hK _ _ _ (by omega) (by omega) hA.1
      · exact absurd (zlc_eq (hA.2.2 hk0)) hc
  · exact absurd (hT.trans hA.2.1) hc
