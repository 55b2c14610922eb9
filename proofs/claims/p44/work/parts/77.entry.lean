/-! the law from its entry -/
theorem yi_kL_8 : zIn (.classLink RL 8 RL) := zin_at 362 (by decide +kernel) (by decide +kernel)
theorem yi_kL_35 : zIn (.classLink RL 35 RX7) := zin_at 92 (by decide +kernel) (by decide +kernel)
theorem yi_lL_135 : zIn (.methodLink RL 135 yL_init) := zin_at 364 (by decide +kernel) (by decide +kernel)
theorem yi_lL_136 : zIn (.methodLink RL 136 yX7_init) := zin_at 94 (by decide +kernel) (by decide +kernel)
theorem yi_lL_137 : zIn (.methodLink RL 137 yL_loads) := zin_at 375 (by decide +kernel) (by decide +kernel)
theorem yi_lL_141 : zIn (.methodLink RL 141 yL_holds_) := zin_at 739 (by decide +kernel) (by decide +kernel)
theorem yi_mL_loads : zIn (.instanceMethod yL_loads) := zin_at 377 (by decide +kernel) (by decide +kernel)
theorem yi_sL_loads : zIn (.selects yL_loads.cls yL_loads yL_loads) := zin_at 1 (by decide +kernel) (by decide +kernel)
theorem yi_cL_loads : zIn (.code yL_loads cL_loads 11 (some .boolean)) := zin_at 378 (by decide +kernel) (by decide +kernel)
theorem yi_tL_holds : zIn (.static yL_holds_) := zin_at 740 (by decide +kernel) (by decide +kernel)
theorem yi_cL_holds : zIn (.code yL_holds_ cL_holds_ 4 (some .boolean)) := zin_at 741 (by decide +kernel) (by decide +kernel)
theorem yc_L_loads : zCl yL_loads cL_loads 11 (some .boolean) 2 := ⟨yi_iL, yi_cL_loads, by decide, by decide +kernel⟩
theorem yc_L_holds_ : zCl yL_holds_ cL_holds_ 4 (some .boolean) 2 := ⟨yi_iL, yi_cL_holds, by decide, by decide +kernel⟩
section YG
variable {p : Program} {l : Launch} {e : Env} {R : Room} {s : State} {m : MethodId} {args : Array Value} {below : List Frame} {meth : Method} {c : Code} {H : Heap} {locs : List Loc} {cells slots : Nat} {Q : State → Prop}
theorem y_go {E : EE} {mc ms pc : Nat} {ls : Array Slot} {st0 rest : List Value} {X : Outcome → State → Prop} (hr : va_Run p l e R s m args below meth c H locs cells slots mc ms (F0 m pc ls st0) rest (fun st oc t => X oc t ∧ va_F (zge E) st t) (zge E)) (hS : va_S (zge E) s.heap H locs)
    (kk : ∀ (v : Option Value) (t : State) (H1 : Heap) (locs1 : List Loc), t.heap = H1 → X (.returned v) t → va_S (zge E) s.heap H1 locs1 → W p l e R s m args below meth c H1 locs1 (cells + mc) (slots + ms) Q (F0 m (pc + 3) ls (v.toList ++ rest))) : W p l e R s m args below meth c H locs cells slots Q (F0 m pc ls st0) := by
  intro T hT X0
  obtain ⟨v, st₀, t, T', L, h0, X', hL, e1, e2, ⟨hq, hF⟩, st⟩ := hr T hT X0
  obtain ⟨k1, k2, k3⟩ := vx_keep h0 e1 hS (fun _ _ q => q) (fun _ q => q) hL hF
  obtain ⟨t2, a1, b1⟩ := kk v t T'.heap (locs ++ L) e1.symm hq k3 T' rfl X'
  exact ⟨t2, st t2 a1, b1⟩
end YG

section YC
variable {p : Program} {l : Launch} {e : Env} {s : State} {m : MethodId} {args : Array Value} {below : List Frame} {meth : Method} {c : Code} {H : Heap} {locs : List Loc} {cells slots : Nat} {Q : State → Prop}
variable {cc : ByteArray} {own : String} {pc : Nat} {ls : Array Slot} {rest : List Value} {E : EE} {A : Nat → Prop} {wr : va_W}
theorem y_callM {dR mR nR : Nat} {y : MethodName} {idx nn : Nat} {cc' : ByteArray} {mL' d' mc' ms' h0 : Nat} {as : List Value} {c0 : va_E} {Post : va_W → Prop} {st0 : List Value} (hx : p.tables.exec = Jvm.exec) (hb : c.code = cc) (ho : s.vm.findClass own = some m.cls) (hW : zKW s) (hO : yX s) (hK : va_K E.2.1 vwCl (ztys E) s)
    (sp : ysp l y cc' mL' d' mc' ms' E h0 as c0 Post) (hc : zCl y cc' mL' none nn) (hl : zIn (.methodLink own idx y)) (hi : zIn (.instanceMethod y)) (hy : y.name = "<init>")
    (hP : va_P E.2.1 vwCl (wr ++ [(h0, c0)]) H) (hD : va_D A (wr ++ [(h0, c0)])) (hS : va_S A s.heap H locs) (hA : ∀ q, s.heap.size ≤ q → A q) (hnn : as.length = nn) (hsz : ls.size = c.maxLocals) (hst : st0 = as.reverse ++ .ref h0 :: rest) (hw : (rest.map fun v => v.category).sum ≤ 8)
    (hd1 : d' + 1 ≤ dR) (hd2 : dR ≤ 13) (hmL : mL' ≤ 18) (hk : cells + mc' ≤ mR) (hn : slots + ms' ≤ nR) (hd : decode cc pc = .ok (.invokespecial idx, 3))
    (kk : ∀ (w1 : va_W) (H1 : Heap) (locs1 : List Loc), Post w1 → va_P E.2.1 vwCl (wr ++ w1) H1 → va_D A (wr ++ w1) → va_S A s.heap H1 locs1 → W p l e (zrm dR mR nR) s m args below meth c H1 locs1 (cells + mc') (slots + ms') Q (F0 m (pc + 3) ls rest)) : W p l e (zrm dR mR nR) s m args below meth c H locs cells slots Q (F0 m pc ls st0) := by
  obtain ⟨c1, c2, c3, c4⟩ := hc
  have hF : ∀ q, va_A [(h0, c0)] H.size q → A q := by
    intro q h
    rcases h with ⟨k, e1, h⟩ | h
    · have hk1 : k < 1 := (List.getElem?_eq_some_iff.mp h).1
      rw [show k = 0 by omega] at h
      cases h
      exact hD.2 wr.length (h0, c0) (by rw [List.getElem?_append_right (Nat.le_refl _), Nat.sub_self]; rfl)
    · exact hA q (Nat.le_trans hS.1 h)
  have hP0 : va_P E.2.1 vwCl [(h0, c0)] H := fun k q hk => by
    have hk1 : k < 1 := (List.getElem?_eq_some_iff.mp hk).1
    rw [show k = 0 by omega] at hk
    exact hP wr.length q (by rw [List.getElem?_append_right (Nat.le_refl _), Nat.sub_self]; exact hk)
  subst hst
  have hgo : ∀ w ∈ [Cond.code y cc' mL' none], ∀ (a' : Array Value) (U : State), s.WarmedH U.vm → w.before a' U = true := by
    intro w hw2 a' U hW2
    rw [List.mem_singleton.mp hw2]
    exact zIn_use (zKW_warm hW2 hW) c2
  refine va_callv (va_runI (own := own) (Ts := []) (nL := c.maxLocals) (As := as) (rest := rest) (b := h0) ⟨hx, hb, rfl, ho, fun w hw => by cases hw⟩ (sp H.size) ⟨⟨rfl, rfl, hd1, by show 8 + (mL' + 11) + zlo d' ≤ zlo dR; have := zlo_up hd1 hd2; omega, hgo, List.mem_singleton.mpr rfl, zIn_use hW c2, zIn_use hW c1, c3, zlen c4, zIn_use hW hl⟩, hy, zIn_use hW hi⟩ ⟨fun a U g mk q => ⟨q.1, q.2.1, q.2.2.1, va_K.moved (u := U) (U := U.calling g mk a) (Vm.Alike.refl U.vm) q.2.2.2.1, fun w hw ho2 => va_Nw.same (zok_tab ho2) (show U.vm = (U.calling g mk a).vm from rfl) (q.2.2.2.2.1 w hw ho2), yX_call q.2.2.2.2.2⟩, fun U hU hW2 => ⟨rfl, by rw [hU], by rw [hU]; exact hP0, va_K.moved hW2.alike hK, zKW_warm hW2 hW, yX_warm hW2 hO⟩⟩ rfl hnn hsz rfl (lv_room hw) hd ⟨hk, hn⟩) hS (fun q _ h => hF q h) hF (fun w1 t H1 locs1 ht hvm hw1 hB hz1 hk1 hS1 => ?_)
  rw [ht] at hB
  obtain ⟨j1, j2⟩ := y_join hP hD hk1 hF hB.1 hB.2
  exact kk w1 H1 locs1 hw1 j1 j2 hS1
end YC
/-- the law from its two objects on -/
theorem law_walk {l0 : Launch} {a : ZC} (O : zOk l0 a cL_law RL 3 (some .boolean) 187 []) (hN : a.2.2.2 = 187) {h : Hp} (hJ : J7 h) : zV a (13, 600086, 7301442, qZ (fun z _ => z = 1), xN) 187 13842 16 [some (aR 999), some (aR 185), some (aR 169)] [] h := by
  have hp : ∀ p k, p ≠ 0 → p ≠ 169 → h p k = 0 := fun p k q1 q2 => by rw [hJ.2 p q1]; exact if_neg q2
  have hh : hist h 0 (fun _ => bgR) := ⟨hp 170 2 (by omega) (by omega), ⟨by omega, by omega⟩, by rw [hp 170 1 (by omega) (by omega)]; exact ⟨by omega, by omega⟩, fun m m1 m2 => by omega⟩
  have hM : mL_loads h (fun z g => z = 1 ∧ inv g) := p_loads (hp 185 1 (by omega) (by omega)) (hp 176 1 (by omega) (by omega)) hh (fun g ig => ⟨rfl, ig⟩)
  refine zV_aload_n O dL_law_16 rfl rfl ?_
  refine zV_aload_n O dL_law_17 rfl rfl ?_
  refine zV_aload_n O dL_law_18 rfl rfl ?_
  refine zV_callV0 (as := [aR 169, aR 999]) (st := []) O yc_L_loads (Or.inl yi_lL_137) yi_mL_loads yi_sL_loads zt_185 rfl rfl (by decide) rfl rfl (Nat.le_of_ble_eq_true rfl) (Nat.le_of_ble_eq_true rfl) (Nat.le_of_ble_eq_true rfl) (Nat.le_of_ble_eq_true rfl) (Nat.le_of_ble_eq_true rfl) (Nat.le_of_ble_eq_true rfl) dL_law_19 (zSpA_to (sL_loads hM) hN) (fun r g hq => ?_) (fun x h9 hq => hq.elim)
  obtain ⟨z, rfl, hz, hz1, ig⟩ := hq
  subst hz1
  refine zV_if_eq (tgt := 37) O dL_law_22 (by decide) (fun hc => absurd hc (by decide)) (fun _ => ?_)
  refine zV_aload_n O dL_law_25 rfl rfl ?_
  refine zV_aload_n O dL_law_26 rfl rfl ?_
  refine zV_callS0 (as := [aR 169, aR 999]) (st := []) O yc_L_holds_ (Or.inl yi_lL_141) yi_tL_holds rfl rfl (Nat.le_of_ble_eq_true rfl) (Nat.le_of_ble_eq_true rfl) (Nat.le_of_ble_eq_true rfl) (Nat.le_of_ble_eq_true rfl) (Nat.le_of_ble_eq_true rfl) (Nat.le_of_ble_eq_true rfl) dL_law_27 (zSpA_to (sL_holds_ (p_holds_ (Q := fun z _ => z = 1) ig (fun _ => rfl))) hN) (fun r g2 hq => ?_) (fun x h9 hq => hq.elim)
  obtain ⟨z, rfl, hz2, hz3⟩ := hq
  subst hz3
  refine zV_if_eq (tgt := 37) O dL_law_30 (by decide) (fun hc => absurd hc (by decide)) (fun _ => ?_)
  refine zV_iconst (z := 1) O ⟨by omega, by omega⟩ dL_law_33 ?_
  refine zV_goto (tgt := 38) O dL_law_34 (by decide) ?_
  exact zV_zret O rfl (Or.inr rfl) ⟨_, rfl, Or.inr rfl, rfl⟩ (Nat.le_of_ble_eq_true rfl) (Nat.le_of_ble_eq_true rfl) dL_law_38
