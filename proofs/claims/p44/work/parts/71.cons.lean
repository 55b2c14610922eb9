/-! the inner constructors -/
theorem yi_oi : zIn (.instanceMethod objectInit) := zin_at 98 (by decide +kernel) (by decide +kernel)
theorem yi_oc : zIn (.code objectInit ⟨#[0xb1]⟩ 1 none) := zin_at 99 (by decide +kernel) (by decide +kernel)
theorem yi_oX0 : zIn (.methodLink RX0 3 objectInit) := zin_at 200 (by decide +kernel) (by decide +kernel)
theorem yi_mX0 : zIn (.instanceMethod yX0_init) := zin_at 198 (by decide +kernel) (by decide +kernel)
theorem yi_cX0 : zIn (.code yX0_init cX0_init 2 none) := zin_at 199 (by decide +kernel) (by decide +kernel)
theorem yi_nX0 : zIn (.instantiable RX0 3) := zin_at 196 (by decide +kernel) (by decide +kernel)
theorem yi_iX0 : zIn (.initialized RX0) := zin_at 74 (by decide +kernel) (by decide +kernel)
theorem yc_X0 : zCl yX0_init cX0_init 2 none 0 := ⟨yi_iX0, yi_cX0, ⟨by decide +kernel, by decide +kernel⟩, by decide +kernel⟩
theorem yi_oX1 : zIn (.methodLink RX1 3 objectInit) := zin_at 317 (by decide +kernel) (by decide +kernel)
theorem yi_mX1 : zIn (.instanceMethod yX1_init) := zin_at 315 (by decide +kernel) (by decide +kernel)
theorem yi_cX1 : zIn (.code yX1_init cX1_init 1 none) := zin_at 316 (by decide +kernel) (by decide +kernel)
theorem yi_nX1 : zIn (.instantiable RX1 2) := zin_at 313 (by decide +kernel) (by decide +kernel)
theorem yi_iX1 : zIn (.initialized RX1) := zin_at 79 (by decide +kernel) (by decide +kernel)
theorem yc_X1 : zCl yX1_init cX1_init 1 none 0 := ⟨yi_iX1, yi_cX1, ⟨by decide +kernel, by decide +kernel⟩, by decide +kernel⟩
theorem yi_oX2 : zIn (.methodLink RX2 3 objectInit) := zin_at 269 (by decide +kernel) (by decide +kernel)
theorem yi_mX2 : zIn (.instanceMethod yX2_init) := zin_at 267 (by decide +kernel) (by decide +kernel)
theorem yi_cX2 : zIn (.code yX2_init cX2_init 3 none) := zin_at 268 (by decide +kernel) (by decide +kernel)
theorem yi_nX2 : zIn (.instantiable RX2 4) := zin_at 265 (by decide +kernel) (by decide +kernel)
theorem yi_iX2 : zIn (.initialized RX2) := zin_at 77 (by decide +kernel) (by decide +kernel)
theorem yc_X2 : zCl yX2_init cX2_init 3 none 2 := ⟨yi_iX2, yi_cX2, ⟨by decide +kernel, by decide +kernel⟩, by decide +kernel⟩
theorem yi_oX3 : zIn (.methodLink RX3 3 objectInit) := zin_at 105 (by decide +kernel) (by decide +kernel)
theorem yi_mX3 : zIn (.instanceMethod yX3_init) := zin_at 103 (by decide +kernel) (by decide +kernel)
theorem yi_cX3 : zIn (.code yX3_init cX3_init 1 none) := zin_at 104 (by decide +kernel) (by decide +kernel)
theorem yi_nX3 : zIn (.instantiable RX3 20) := zin_at 101 (by decide +kernel) (by decide +kernel)
theorem yi_iX3 : zIn (.initialized RX3) := zin_at 73 (by decide +kernel) (by decide +kernel)
theorem yc_X3 : zCl yX3_init cX3_init 1 none 0 := ⟨yi_iX3, yi_cX3, ⟨by decide +kernel, by decide +kernel⟩, by decide +kernel⟩
theorem yi_oX4 : zIn (.methodLink RX4 3 objectInit) := zin_at 288 (by decide +kernel) (by decide +kernel)
theorem yi_mX4 : zIn (.instanceMethod yX4_init) := zin_at 286 (by decide +kernel) (by decide +kernel)
theorem yi_cX4 : zIn (.code yX4_init cX4_init 2 none) := zin_at 287 (by decide +kernel) (by decide +kernel)
theorem yi_nX4 : zIn (.instantiable RX4 9) := zin_at 284 (by decide +kernel) (by decide +kernel)
theorem yi_iX4 : zIn (.initialized RX4) := zin_at 78 (by decide +kernel) (by decide +kernel)
theorem yc_X4 : zCl yX4_init cX4_init 2 none 1 := ⟨yi_iX4, yi_cX4, ⟨by decide +kernel, by decide +kernel⟩, by decide +kernel⟩
theorem yi_oX5 : zIn (.methodLink RX5 3 objectInit) := zin_at 220 (by decide +kernel) (by decide +kernel)
theorem yi_mX5 : zIn (.instanceMethod yX5_init) := zin_at 218 (by decide +kernel) (by decide +kernel)
theorem yi_cX5 : zIn (.code yX5_init cX5_init 1 none) := zin_at 219 (by decide +kernel) (by decide +kernel)
theorem yi_nX5 : zIn (.instantiable RX5 3) := zin_at 216 (by decide +kernel) (by decide +kernel)
theorem yi_iX5 : zIn (.initialized RX5) := zin_at 75 (by decide +kernel) (by decide +kernel)
theorem yc_X5 : zCl yX5_init cX5_init 1 none 0 := ⟨yi_iX5, yi_cX5, ⟨by decide +kernel, by decide +kernel⟩, by decide +kernel⟩
theorem yi_oX6 : zIn (.methodLink RX6 3 objectInit) := zin_at 236 (by decide +kernel) (by decide +kernel)
theorem yi_mX6 : zIn (.instanceMethod yX6_init) := zin_at 234 (by decide +kernel) (by decide +kernel)
theorem yi_cX6 : zIn (.code yX6_init cX6_init 1 none) := zin_at 235 (by decide +kernel) (by decide +kernel)
theorem yi_nX6 : zIn (.instantiable RX6 7) := zin_at 232 (by decide +kernel) (by decide +kernel)
theorem yi_iX6 : zIn (.initialized RX6) := zin_at 76 (by decide +kernel) (by decide +kernel)
theorem yc_X6 : zCl yX6_init cX6_init 1 none 0 := ⟨yi_iX6, yi_cX6, ⟨by decide +kernel, by decide +kernel⟩, by decide +kernel⟩
theorem yi_oX7 : zIn (.methodLink RX7 1 objectInit) := zin_at 97 (by decide +kernel) (by decide +kernel)
theorem yi_mX7 : zIn (.instanceMethod yX7_init) := zin_at 95 (by decide +kernel) (by decide +kernel)
theorem yi_cX7 : zIn (.code yX7_init cX7_init 1 none) := zin_at 96 (by decide +kernel) (by decide +kernel)
theorem yi_nX7 : zIn (.instantiable RX7 11) := zin_at 93 (by decide +kernel) (by decide +kernel)
theorem yi_iX7 : zIn (.initialized RX7) := zin_at 72 (by decide +kernel) (by decide +kernel)
theorem yc_X7 : zCl yX7_init cX7_init 1 none 0 := ⟨yi_iX7, yi_cX7, ⟨by decide +kernel, by decide +kernel⟩, by decide +kernel⟩
theorem yi_oL : zIn (.methodLink RL 1 objectInit) := zin_at 367 (by decide +kernel) (by decide +kernel)
theorem yi_mL : zIn (.instanceMethod yL_init) := zin_at 365 (by decide +kernel) (by decide +kernel)
theorem yi_cL : zIn (.code yL_init cL_init 1 none) := zin_at 366 (by decide +kernel) (by decide +kernel)
theorem yi_nL : zIn (.instantiable RL 2) := zin_at 363 (by decide +kernel) (by decide +kernel)
theorem yi_iL : zIn (.initialized RL) := zin_at 71 (by decide +kernel) (by decide +kernel)
theorem yc_L : zCl yL_init cL_init 1 none 0 := ⟨yi_iL, yi_cL, ⟨by decide +kernel, by decide +kernel⟩, by decide +kernel⟩
theorem yi_fL_7 : zIn (.fieldLink RL 7 (TL 0).1 (TL 0).2.1 (TL 0).2.2.1) := zin_at 368 (by decide +kernel) (by decide +kernel)
theorem yi_fX3_9 : zIn (.fieldLink RX3 9 (TX3 8).1 (TX3 8).2.1 (TX3 8).2.2.1) := zin_at 129 (by decide +kernel) (by decide +kernel)
theorem yi_fX3_15 : zIn (.fieldLink RX3 15 (TX3 9).1 (TX3 9).2.1 (TX3 9).2.2.1) := zin_at 130 (by decide +kernel) (by decide +kernel)
theorem yi_fX3_19 : zIn (.fieldLink RX3 19 (TX3 10).1 (TX3 10).2.1 (TX3 10).2.2.1) := zin_at 133 (by decide +kernel) (by decide +kernel)
theorem yi_fX3_22 : zIn (.fieldLink RX3 22 (TX3 11).1 (TX3 11).2.1 (TX3 11).2.2.1) := zin_at 136 (by decide +kernel) (by decide +kernel)
theorem yi_fX3_25 : zIn (.fieldLink RX3 25 (TX3 12).1 (TX3 12).2.1 (TX3 12).2.2.1) := zin_at 139 (by decide +kernel) (by decide +kernel)
theorem yi_fX3_28 : zIn (.fieldLink RX3 28 (TX3 13).1 (TX3 13).2.1 (TX3 13).2.2.1) := zin_at 142 (by decide +kernel) (by decide +kernel)
theorem yi_fX3_31 : zIn (.fieldLink RX3 31 (TX3 14).1 (TX3 14).2.1 (TX3 14).2.2.1) := zin_at 145 (by decide +kernel) (by decide +kernel)
theorem yi_fX3_34 : zIn (.fieldLink RX3 34 (TX3 15).1 (TX3 15).2.1 (TX3 15).2.2.1) := zin_at 147 (by decide +kernel) (by decide +kernel)
theorem yi_fX3_37 : zIn (.fieldLink RX3 37 (TX3 16).1 (TX3 16).2.1 (TX3 16).2.2.1) := zin_at 148 (by decide +kernel) (by decide +kernel)
theorem yi_fX3_40 : zIn (.fieldLink RX3 40 (TX3 17).1 (TX3 17).2.1 (TX3 17).2.2.1) := zin_at 149 (by decide +kernel) (by decide +kernel)
theorem yi_fX3_43 : zIn (.fieldLink RX3 43 (TX3 18).1 (TX3 18).2.1 (TX3 18).2.2.1) := zin_at 150 (by decide +kernel) (by decide +kernel)
theorem yi_fX3_46 : zIn (.fieldLink RX3 46 (TX3 19).1 (TX3 19).2.1 (TX3 19).2.2.1) := zin_at 151 (by decide +kernel) (by decide +kernel)
theorem yi_fX5_9 : zIn (.fieldLink RX5 9 (TX5 0).1 (TX5 0).2.1 (TX5 0).2.2.1) := zin_at 221 (by decide +kernel) (by decide +kernel)
theorem yi_fX5_15 : zIn (.fieldLink RX5 15 (TX5 1).1 (TX5 1).2.1 (TX5 1).2.2.1) := zin_at 222 (by decide +kernel) (by decide +kernel)
theorem yi_fX5_18 : zIn (.fieldLink RX5 18 (TX5 2).1 (TX5 2).2.1 (TX5 2).2.2.1) := zin_at 223 (by decide +kernel) (by decide +kernel)
theorem yi_fX6_9 : zIn (.fieldLink RX6 9 (TX6 0).1 (TX6 0).2.1 (TX6 0).2.2.1) := zin_at 237 (by decide +kernel) (by decide +kernel)
theorem yi_fX1_11 : zIn (.fieldLink RX1 11 (TX1 0).1 (TX1 0).2.1 (TX1 0).2.2.1) := zin_at 318 (by decide +kernel) (by decide +kernel)
theorem yi_fX2_9 : zIn (.fieldLink RX2 9 (TX2 0).1 (TX2 0).2.1 (TX2 0).2.2.1) := zin_at 270 (by decide +kernel) (by decide +kernel)
theorem yi_fX2_15 : zIn (.fieldLink RX2 15 (TX2 1).1 (TX2 1).2.1 (TX2 1).2.2.1) := zin_at 271 (by decide +kernel) (by decide +kernel)
theorem yi_fX4_11 : zIn (.fieldLink RX4 11 (TX4 1).1 (TX4 1).2.1 (TX4 1).2.2.1) := zin_at 290 (by decide +kernel) (by decide +kernel)
theorem yi_fX4_15 : zIn (.fieldLink RX4 15 (TX4 5).1 (TX4 5).2.1 (TX4 5).2.2.1) := zin_at 291 (by decide +kernel) (by decide +kernel)
theorem yi_fX4_19 : zIn (.fieldLink RX4 19 (TX4 7).1 (TX4 7).2.1 (TX4 7).2.2.1) := zin_at 292 (by decide +kernel) (by decide +kernel)
theorem yi_fX4_22 : zIn (.fieldLink RX4 22 (TX4 0).1 (TX4 0).2.1 (TX4 0).2.2.1) := zin_at 289 (by decide +kernel) (by decide +kernel)
theorem yi_kX0_9 : zIn (.classLink RX0 9 RX3) := zin_at 201 (by decide +kernel) (by decide +kernel)
theorem yi_lX0_17 : zIn (.methodLinkNest RX0 17 yX3_init "NetMerge") := zin_at 203 (by decide +kernel) (by decide +kernel)
theorem yi_fX0_11 : zIn (.fieldLink RX0 11 (TX0 0).1 (TX0 0).2.1 (TX0 0).2.2.1) := zin_at 204 (by decide +kernel) (by decide +kernel)
set_option maxHeartbeats 4000000 in
set_option maxRecDepth 100000 in
theorem ysp_L (l : Launch) (E : EE) (h0 : Nat) : ysp l yL_init cL_init 1 1 1 1000 E h0 [] (.inr (8, [.null, .int 0])) (fun w1 => ∃ a : Nat, w1 = [(h0, .inr (8, [.ref a, .int 0])), (a, .inl (E.2.2.1 0, 1000, .inl fun _ => 0))]) := by
  intro sz
  refine Met.ofW (cc := cL_init) (maxL := 1) (ret := none) (by decide) rfl ?_
  intro p e s m args below meth c s₁ B hml hv
  obtain ⟨rfl, hsz, hP, hK, hW, hO⟩ := hv
  have hx := B.exec
  have hb := B.bytes
  have hr := B.returns
  have ho : s.vm.findClass RL = some m.cls := findClass_of_methodNamed B.named
  have hlk := B.notSynchronized
  have hin : meth.name = "<init>" := (name_of_methodNamed B.named B.method).1
  subst hsz
  show W p l e (zrm 1 1 1000) s m _ below meth c s.heap [] 0 0 _ _
  generalize hAe : va_A [(h0, (.inr (8, [.null, .int 0])))] s.heap.size = A
  have hA : ∀ q : Nat, s.heap.size ≤ q → A q := fun q h => by rw [← hAe]; exact Or.inr h
  have hD : va_D A [(h0, (.inr (8, [.null, .int 0])))] := y_one (by rw [← hAe]; exact Or.inl ⟨0, _, rfl⟩)
  have hS : va_S A s.heap s.heap [] := va_S.rf
  have hl := lv_entry ([.ref h0]) (n := 1) (Nat.le_of_ble_eq_true rfl)
  rw [lg_entry_eq]
  generalize (lg_sl ([.ref h0]) ++ List.replicate (1 - (lg_sl ([.ref h0])).length) Slot.unset).toArray = ls at hl ⊢
  have hl : lv_has ls 1 [(0, .ref h0)] := hl
  refine lv_aload_n hx hb dL_init_0 rfl (lv_at hl 0 rfl) ?_
  refine W.objInit hx hb ho (zIn_use hW yi_oL) (zIn_use hW yi_oi) (zIn_use hW yi_oc) rfl (by rw [hml]; exact hl.1) rfl dL_init_1 (Nat.le_of_ble_eq_true rfl) (Nat.le_of_ble_eq_true rfl) ?_
  refine W.eq (g2 := F0 m 4 ls []) rfl ?_
  refine lv_aload_n hx hb dL_init_4 rfl (lv_at hl 0 rfl) ?_
  refine lv_sipush (v := 1000) hx hb dL_init_5 rfl ?_
  refine y_newI (N' := 1000) hx hb hW hK hP hD hS hA hO (by decide) rfl (by decide) (Nat.le_of_ble_eq_true rfl) (Nat.le_of_ble_eq_true rfl) dL_init_8 (fun q1 H hP hD hS => ?_)
  have hP : va_P E.2.1 vwCl ((h0, .inr (8, [.null, .int 0])) :: [(q1, (.inl (E.2.2.1 0, 1000, .inl fun _ => 0)))]) H := hP
  have hD : va_D A ((h0, .inr (8, [.null, .int 0])) :: [(q1, (.inl (E.2.2.1 0, 1000, .inl fun _ => 0)))]) := hD
  refine y_putF (k := 0) (v := .ref q1) (ft := .array .int) hx hb ho hW hK tyL tyL_ok nmL zu_8 rfl (by decide) yi_fL_7 rfl hin rfl rfl rfl rfl (Nat.le_of_ble_eq_true rfl) hP hD hS dL_init_10 (fun H locs hP hD hS => ?_)
  have hP : va_P E.2.1 vwCl ((h0, .inr (8, [.ref q1, .int 0])) :: [(q1, (.inl (E.2.2.1 0, 1000, .inl fun _ => 0)))]) H := hP
  have hD : va_D A ((h0, .inr (8, [.ref q1, .int 0])) :: [(q1, (.inl (E.2.2.1 0, 1000, .inl fun _ => 0)))]) := hD
  exact W.widen (Nat.le_of_ble_eq_true rfl) (Nat.le_of_ble_eq_true rfl) (W.vret hx hb hr (fun t ht hW9 => ⟨⟨_, rfl, ⟨q1, rfl⟩, by rw [ht]; exact hP, hD⟩, hS.F ht⟩) hS.2.2 dL_init_13)
def nbk (E : EE) (a : Nat → Nat) : va_W := [(a 0, .inr (3, [.int 0, .int 0, .int 0, .int 0, .int 0, .int 0, .int 0, .int 0, .ref (a 1), .ref (a 2), .ref (a 3), .ref (a 4), .ref (a 5), .ref (a 6), .ref (a 7), .ref (a 8), .ref (a 9), .ref (a 10), .ref (a 11), .ref (a 12)])), (a 1, (.inl (E.2.2.1 2, 40, .inr (.inl fun _ => 0)))), (a 2, (.inl (E.2.2.1 0, 40, .inl fun _ => 0))), (a 3, (.inl (E.2.2.1 0, 40, .inl fun _ => 0))), (a 4, (.inl (E.2.2.1 0, 40, .inl fun _ => 0))), (a 5, (.inl (E.2.2.1 0, 40, .inl fun _ => 0))), (a 6, (.inl (E.2.2.1 0, 40, .inl fun _ => 0))), (a 7, (.inl (E.2.2.1 0, 40, .inl fun _ => 0))), (a 8, (.inl (E.2.2.1 0, 400, .inl fun _ => 0))), (a 9, (.inl (E.2.2.1 0, 30, .inl fun _ => 0))), (a 10, (.inl (E.2.2.1 0, 30, .inl fun _ => 0))), (a 11, (.inl (E.2.2.1 0, 30, .inl fun _ => 0))), (a 12, (.inl (E.2.2.1 0, 30, .inl fun _ => 0)))]
set_option maxHeartbeats 4000000 in
set_option maxRecDepth 100000 in
theorem ysp_X3 (l : Launch) (E : EE) (h0 : Nat) : ysp l yX3_init cX3_init 1 1 12 800 E h0 [] (.inr (3, [.int 0, .int 0, .int 0, .int 0, .int 0, .int 0, .int 0, .int 0, .null, .null, .null, .null, .null, .null, .null, .null, .null, .null, .null, .null])) (fun w1 => ∃ a : Nat → Nat, a 0 = h0 ∧ w1 = nbk E a) := by
  intro sz
  refine Met.ofW (cc := cX3_init) (maxL := 1) (ret := none) (by decide) rfl ?_
  intro p e s m args below meth c s₁ B hml hv
  obtain ⟨rfl, hsz, hP, hK, hW, hO⟩ := hv
  have hx := B.exec
  have hb := B.bytes
  have hr := B.returns
  have ho : s.vm.findClass RX3 = some m.cls := findClass_of_methodNamed B.named
  have hlk := B.notSynchronized
  have hin : meth.name = "<init>" := (name_of_methodNamed B.named B.method).1
  subst hsz
  show W p l e (zrm 1 12 800) s m _ below meth c s.heap [] 0 0 _ _
  generalize hAe : va_A [(h0, (.inr (3, [.int 0, .int 0, .int 0, .int 0, .int 0, .int 0, .int 0, .int 0, .null, .null, .null, .null, .null, .null, .null, .null, .null, .null, .null, .null])))] s.heap.size = A
  have hA : ∀ q : Nat, s.heap.size ≤ q → A q := fun q h => by rw [← hAe]; exact Or.inr h
  have hD : va_D A [(h0, (.inr (3, [.int 0, .int 0, .int 0, .int 0, .int 0, .int 0, .int 0, .int 0, .null, .null, .null, .null, .null, .null, .null, .null, .null, .null, .null, .null])))] := y_one (by rw [← hAe]; exact Or.inl ⟨0, _, rfl⟩)
  have hS : va_S A s.heap s.heap [] := va_S.rf
  have hl := lv_entry ([.ref h0]) (n := 1) (Nat.le_of_ble_eq_true rfl)
  rw [lg_entry_eq]
  generalize (lg_sl ([.ref h0]) ++ List.replicate (1 - (lg_sl ([.ref h0])).length) Slot.unset).toArray = ls at hl ⊢
  have hl : lv_has ls 1 [(0, .ref h0)] := hl
  refine lv_aload_n hx hb dX3_init_0 rfl (lv_at hl 0 rfl) ?_
  refine W.objInit hx hb ho (zIn_use hW yi_oX3) (zIn_use hW yi_oi) (zIn_use hW yi_oc) rfl (by rw [hml]; exact hl.1) rfl dX3_init_1 (Nat.le_of_ble_eq_true rfl) (Nat.le_of_ble_eq_true rfl) ?_
  refine W.eq (g2 := F0 m 4 ls []) rfl ?_
  refine lv_aload_n hx hb dX3_init_4 rfl (lv_at hl 0 rfl) ?_
  refine lv_bipush (v := 40) hx hb dX3_init_5 rfl ?_
  refine y_newL (N' := 40) hx hb hW hK hP hD hS hA hO (by decide) rfl (by decide) (Nat.le_of_ble_eq_true rfl) (Nat.le_of_ble_eq_true rfl) dX3_init_7 (fun q1 H hP hD hS => ?_)
  have hP : va_P E.2.1 vwCl ((h0, .inr (3, [.int 0, .int 0, .int 0, .int 0, .int 0, .int 0, .int 0, .int 0, .null, .null, .null, .null, .null, .null, .null, .null, .null, .null, .null, .null])) :: [(q1, (.inl (E.2.2.1 2, 40, .inr (.inl fun _ => 0))))]) H := hP
  have hD : va_D A ((h0, .inr (3, [.int 0, .int 0, .int 0, .int 0, .int 0, .int 0, .int 0, .int 0, .null, .null, .null, .null, .null, .null, .null, .null, .null, .null, .null, .null])) :: [(q1, (.inl (E.2.2.1 2, 40, .inr (.inl fun _ => 0))))]) := hD
  refine y_putF (k := 8) (v := .ref q1) (ft := .array .long) hx hb ho hW hK tyX3 tyX3_ok nmX3 zu_3 rfl (by decide) yi_fX3_9 rfl hin rfl rfl rfl rfl (Nat.le_of_ble_eq_true rfl) hP hD hS dX3_init_9 (fun H locs hP hD hS => ?_)
  have hP : va_P E.2.1 vwCl ((h0, .inr (3, [.int 0, .int 0, .int 0, .int 0, .int 0, .int 0, .int 0, .int 0, .ref q1, .null, .null, .null, .null, .null, .null, .null, .null, .null, .null, .null])) :: [(q1, (.inl (E.2.2.1 2, 40, .inr (.inl fun _ => 0))))]) H := hP
  have hD : va_D A ((h0, .inr (3, [.int 0, .int 0, .int 0, .int 0, .int 0, .int 0, .int 0, .int 0, .ref q1, .null, .null, .null, .null, .null, .null, .null, .null, .null, .null, .null])) :: [(q1, (.inl (E.2.2.1 2, 40, .inr (.inl fun _ => 0))))]) := hD
  refine lv_aload_n hx hb dX3_init_12 rfl (lv_at hl 0 rfl) ?_
  refine lv_bipush (v := 40) hx hb dX3_init_13 rfl ?_
  refine y_newI (N' := 40) hx hb hW hK hP hD hS hA hO (by decide) rfl (by decide) (Nat.le_of_ble_eq_true rfl) (Nat.le_of_ble_eq_true rfl) dX3_init_15 (fun q2 H hP hD hS => ?_)
  have hP : va_P E.2.1 vwCl ((h0, .inr (3, [.int 0, .int 0, .int 0, .int 0, .int 0, .int 0, .int 0, .int 0, .ref q1, .null, .null, .null, .null, .null, .null, .null, .null, .null, .null, .null])) :: [(q1, (.inl (E.2.2.1 2, 40, .inr (.inl fun _ => 0)))), (q2, (.inl (E.2.2.1 0, 40, .inl fun _ => 0)))]) H := hP
  have hD : va_D A ((h0, .inr (3, [.int 0, .int 0, .int 0, .int 0, .int 0, .int 0, .int 0, .int 0, .ref q1, .null, .null, .null, .null, .null, .null, .null, .null, .null, .null, .null])) :: [(q1, (.inl (E.2.2.1 2, 40, .inr (.inl fun _ => 0)))), (q2, (.inl (E.2.2.1 0, 40, .inl fun _ => 0)))]) := hD
  refine y_putF (k := 9) (v := .ref q2) (ft := .array .int) hx hb ho hW hK tyX3 tyX3_ok nmX3 zu_3 rfl (by decide) yi_fX3_15 rfl hin rfl rfl rfl rfl (Nat.le_of_ble_eq_true rfl) hP hD hS dX3_init_17 (fun H locs hP hD hS => ?_)
  have hP : va_P E.2.1 vwCl ((h0, .inr (3, [.int 0, .int 0, .int 0, .int 0, .int 0, .int 0, .int 0, .int 0, .ref q1, .ref q2, .null, .null, .null, .null, .null, .null, .null, .null, .null, .null])) :: [(q1, (.inl (E.2.2.1 2, 40, .inr (.inl fun _ => 0)))), (q2, (.inl (E.2.2.1 0, 40, .inl fun _ => 0)))]) H := hP
  have hD : va_D A ((h0, .inr (3, [.int 0, .int 0, .int 0, .int 0, .int 0, .int 0, .int 0, .int 0, .ref q1, .ref q2, .null, .null, .null, .null, .null, .null, .null, .null, .null, .null])) :: [(q1, (.inl (E.2.2.1 2, 40, .inr (.inl fun _ => 0)))), (q2, (.inl (E.2.2.1 0, 40, .inl fun _ => 0)))]) := hD
  refine lv_aload_n hx hb dX3_init_20 rfl (lv_at hl 0 rfl) ?_
  refine lv_bipush (v := 40) hx hb dX3_init_21 rfl ?_
  refine y_newI (N' := 40) hx hb hW hK hP hD hS hA hO (by decide) rfl (by decide) (Nat.le_of_ble_eq_true rfl) (Nat.le_of_ble_eq_true rfl) dX3_init_23 (fun q3 H hP hD hS => ?_)
  have hP : va_P E.2.1 vwCl ((h0, .inr (3, [.int 0, .int 0, .int 0, .int 0, .int 0, .int 0, .int 0, .int 0, .ref q1, .ref q2, .null, .null, .null, .null, .null, .null, .null, .null, .null, .null])) :: [(q1, (.inl (E.2.2.1 2, 40, .inr (.inl fun _ => 0)))), (q2, (.inl (E.2.2.1 0, 40, .inl fun _ => 0))), (q3, (.inl (E.2.2.1 0, 40, .inl fun _ => 0)))]) H := hP
  have hD : va_D A ((h0, .inr (3, [.int 0, .int 0, .int 0, .int 0, .int 0, .int 0, .int 0, .int 0, .ref q1, .ref q2, .null, .null, .null, .null, .null, .null, .null, .null, .null, .null])) :: [(q1, (.inl (E.2.2.1 2, 40, .inr (.inl fun _ => 0)))), (q2, (.inl (E.2.2.1 0, 40, .inl fun _ => 0))), (q3, (.inl (E.2.2.1 0, 40, .inl fun _ => 0)))]) := hD
  refine y_putF (k := 10) (v := .ref q3) (ft := .array .int) hx hb ho hW hK tyX3 tyX3_ok nmX3 zu_3 rfl (by decide) yi_fX3_19 rfl hin rfl rfl rfl rfl (Nat.le_of_ble_eq_true rfl) hP hD hS dX3_init_25 (fun H locs hP hD hS => ?_)
  have hP : va_P E.2.1 vwCl ((h0, .inr (3, [.int 0, .int 0, .int 0, .int 0, .int 0, .int 0, .int 0, .int 0, .ref q1, .ref q2, .ref q3, .null, .null, .null, .null, .null, .null, .null, .null, .null])) :: [(q1, (.inl (E.2.2.1 2, 40, .inr (.inl fun _ => 0)))), (q2, (.inl (E.2.2.1 0, 40, .inl fun _ => 0))), (q3, (.inl (E.2.2.1 0, 40, .inl fun _ => 0)))]) H := hP
  have hD : va_D A ((h0, .inr (3, [.int 0, .int 0, .int 0, .int 0, .int 0, .int 0, .int 0, .int 0, .ref q1, .ref q2, .ref q3, .null, .null, .null, .null, .null, .null, .null, .null, .null])) :: [(q1, (.inl (E.2.2.1 2, 40, .inr (.inl fun _ => 0)))), (q2, (.inl (E.2.2.1 0, 40, .inl fun _ => 0))), (q3, (.inl (E.2.2.1 0, 40, .inl fun _ => 0)))]) := hD
  refine lv_aload_n hx hb dX3_init_28 rfl (lv_at hl 0 rfl) ?_
  refine lv_bipush (v := 40) hx hb dX3_init_29 rfl ?_
  refine y_newI (N' := 40) hx hb hW hK hP hD hS hA hO (by decide) rfl (by decide) (Nat.le_of_ble_eq_true rfl) (Nat.le_of_ble_eq_true rfl) dX3_init_31 (fun q4 H hP hD hS => ?_)
  have hP : va_P E.2.1 vwCl ((h0, .inr (3, [.int 0, .int 0, .int 0, .int 0, .int 0, .int 0, .int 0, .int 0, .ref q1, .ref q2, .ref q3, .null, .null, .null, .null, .null, .null, .null, .null, .null])) :: [(q1, (.inl (E.2.2.1 2, 40, .inr (.inl fun _ => 0)))), (q2, (.inl (E.2.2.1 0, 40, .inl fun _ => 0))), (q3, (.inl (E.2.2.1 0, 40, .inl fun _ => 0))), (q4, (.inl (E.2.2.1 0, 40, .inl fun _ => 0)))]) H := hP
  have hD : va_D A ((h0, .inr (3, [.int 0, .int 0, .int 0, .int 0, .int 0, .int 0, .int 0, .int 0, .ref q1, .ref q2, .ref q3, .null, .null, .null, .null, .null, .null, .null, .null, .null])) :: [(q1, (.inl (E.2.2.1 2, 40, .inr (.inl fun _ => 0)))), (q2, (.inl (E.2.2.1 0, 40, .inl fun _ => 0))), (q3, (.inl (E.2.2.1 0, 40, .inl fun _ => 0))), (q4, (.inl (E.2.2.1 0, 40, .inl fun _ => 0)))]) := hD
  refine y_putF (k := 11) (v := .ref q4) (ft := .array .int) hx hb ho hW hK tyX3 tyX3_ok nmX3 zu_3 rfl (by decide) yi_fX3_22 rfl hin rfl rfl rfl rfl (Nat.le_of_ble_eq_true rfl) hP hD hS dX3_init_33 (fun H locs hP hD hS => ?_)
  have hP : va_P E.2.1 vwCl ((h0, .inr (3, [.int 0, .int 0, .int 0, .int 0, .int 0, .int 0, .int 0, .int 0, .ref q1, .ref q2, .ref q3, .ref q4, .null, .null, .null, .null, .null, .null, .null, .null])) :: [(q1, (.inl (E.2.2.1 2, 40, .inr (.inl fun _ => 0)))), (q2, (.inl (E.2.2.1 0, 40, .inl fun _ => 0))), (q3, (.inl (E.2.2.1 0, 40, .inl fun _ => 0))), (q4, (.inl (E.2.2.1 0, 40, .inl fun _ => 0)))]) H := hP
  have hD : va_D A ((h0, .inr (3, [.int 0, .int 0, .int 0, .int 0, .int 0, .int 0, .int 0, .int 0, .ref q1, .ref q2, .ref q3, .ref q4, .null, .null, .null, .null, .null, .null, .null, .null])) :: [(q1, (.inl (E.2.2.1 2, 40, .inr (.inl fun _ => 0)))), (q2, (.inl (E.2.2.1 0, 40, .inl fun _ => 0))), (q3, (.inl (E.2.2.1 0, 40, .inl fun _ => 0))), (q4, (.inl (E.2.2.1 0, 40, .inl fun _ => 0)))]) := hD
  refine lv_aload_n hx hb dX3_init_36 rfl (lv_at hl 0 rfl) ?_
  refine lv_bipush (v := 40) hx hb dX3_init_37 rfl ?_
  refine y_newI (N' := 40) hx hb hW hK hP hD hS hA hO (by decide) rfl (by decide) (Nat.le_of_ble_eq_true rfl) (Nat.le_of_ble_eq_true rfl) dX3_init_39 (fun q5 H hP hD hS => ?_)
  have hP : va_P E.2.1 vwCl ((h0, .inr (3, [.int 0, .int 0, .int 0, .int 0, .int 0, .int 0, .int 0, .int 0, .ref q1, .ref q2, .ref q3, .ref q4, .null, .null, .null, .null, .null, .null, .null, .null])) :: [(q1, (.inl (E.2.2.1 2, 40, .inr (.inl fun _ => 0)))), (q2, (.inl (E.2.2.1 0, 40, .inl fun _ => 0))), (q3, (.inl (E.2.2.1 0, 40, .inl fun _ => 0))), (q4, (.inl (E.2.2.1 0, 40, .inl fun _ => 0))), (q5, (.inl (E.2.2.1 0, 40, .inl fun _ => 0)))]) H := hP
  have hD : va_D A ((h0, .inr (3, [.int 0, .int 0, .int 0, .int 0, .int 0, .int 0, .int 0, .int 0, .ref q1, .ref q2, .ref q3, .ref q4, .null, .null, .null, .null, .null, .null, .null, .null])) :: [(q1, (.inl (E.2.2.1 2, 40, .inr (.inl fun _ => 0)))), (q2, (.inl (E.2.2.1 0, 40, .inl fun _ => 0))), (q3, (.inl (E.2.2.1 0, 40, .inl fun _ => 0))), (q4, (.inl (E.2.2.1 0, 40, .inl fun _ => 0))), (q5, (.inl (E.2.2.1 0, 40, .inl fun _ => 0)))]) := hD
  refine y_putF (k := 12) (v := .ref q5) (ft := .array .int) hx hb ho hW hK tyX3 tyX3_ok nmX3 zu_3 rfl (by decide) yi_fX3_25 rfl hin rfl rfl rfl rfl (Nat.le_of_ble_eq_true rfl) hP hD hS dX3_init_41 (fun H locs hP hD hS => ?_)
  have hP : va_P E.2.1 vwCl ((h0, .inr (3, [.int 0, .int 0, .int 0, .int 0, .int 0, .int 0, .int 0, .int 0, .ref q1, .ref q2, .ref q3, .ref q4, .ref q5, .null, .null, .null, .null, .null, .null, .null])) :: [(q1, (.inl (E.2.2.1 2, 40, .inr (.inl fun _ => 0)))), (q2, (.inl (E.2.2.1 0, 40, .inl fun _ => 0))), (q3, (.inl (E.2.2.1 0, 40, .inl fun _ => 0))), (q4, (.inl (E.2.2.1 0, 40, .inl fun _ => 0))), (q5, (.inl (E.2.2.1 0, 40, .inl fun _ => 0)))]) H := hP
  have hD : va_D A ((h0, .inr (3, [.int 0, .int 0, .int 0, .int 0, .int 0, .int 0, .int 0, .int 0, .ref q1, .ref q2, .ref q3, .ref q4, .ref q5, .null, .null, .null, .null, .null, .null, .null])) :: [(q1, (.inl (E.2.2.1 2, 40, .inr (.inl fun _ => 0)))), (q2, (.inl (E.2.2.1 0, 40, .inl fun _ => 0))), (q3, (.inl (E.2.2.1 0, 40, .inl fun _ => 0))), (q4, (.inl (E.2.2.1 0, 40, .inl fun _ => 0))), (q5, (.inl (E.2.2.1 0, 40, .inl fun _ => 0)))]) := hD
  refine lv_aload_n hx hb dX3_init_44 rfl (lv_at hl 0 rfl) ?_
  refine lv_bipush (v := 40) hx hb dX3_init_45 rfl ?_
  refine y_newI (N' := 40) hx hb hW hK hP hD hS hA hO (by decide) rfl (by decide) (Nat.le_of_ble_eq_true rfl) (Nat.le_of_ble_eq_true rfl) dX3_init_47 (fun q6 H hP hD hS => ?_)
  have hP : va_P E.2.1 vwCl ((h0, .inr (3, [.int 0, .int 0, .int 0, .int 0, .int 0, .int 0, .int 0, .int 0, .ref q1, .ref q2, .ref q3, .ref q4, .ref q5, .null, .null, .null, .null, .null, .null, .null])) :: [(q1, (.inl (E.2.2.1 2, 40, .inr (.inl fun _ => 0)))), (q2, (.inl (E.2.2.1 0, 40, .inl fun _ => 0))), (q3, (.inl (E.2.2.1 0, 40, .inl fun _ => 0))), (q4, (.inl (E.2.2.1 0, 40, .inl fun _ => 0))), (q5, (.inl (E.2.2.1 0, 40, .inl fun _ => 0))), (q6, (.inl (E.2.2.1 0, 40, .inl fun _ => 0)))]) H := hP
  have hD : va_D A ((h0, .inr (3, [.int 0, .int 0, .int 0, .int 0, .int 0, .int 0, .int 0, .int 0, .ref q1, .ref q2, .ref q3, .ref q4, .ref q5, .null, .null, .null, .null, .null, .null, .null])) :: [(q1, (.inl (E.2.2.1 2, 40, .inr (.inl fun _ => 0)))), (q2, (.inl (E.2.2.1 0, 40, .inl fun _ => 0))), (q3, (.inl (E.2.2.1 0, 40, .inl fun _ => 0))), (q4, (.inl (E.2.2.1 0, 40, .inl fun _ => 0))), (q5, (.inl (E.2.2.1 0, 40, .inl fun _ => 0))), (q6, (.inl (E.2.2.1 0, 40, .inl fun _ => 0)))]) := hD
  refine y_putF (k := 13) (v := .ref q6) (ft := .array .int) hx hb ho hW hK tyX3 tyX3_ok nmX3 zu_3 rfl (by decide) yi_fX3_28 rfl hin rfl rfl rfl rfl (Nat.le_of_ble_eq_true rfl) hP hD hS dX3_init_49 (fun H locs hP hD hS => ?_)
  have hP : va_P E.2.1 vwCl ((h0, .inr (3, [.int 0, .int 0, .int 0, .int 0, .int 0, .int 0, .int 0, .int 0, .ref q1, .ref q2, .ref q3, .ref q4, .ref q5, .ref q6, .null, .null, .null, .null, .null, .null])) :: [(q1, (.inl (E.2.2.1 2, 40, .inr (.inl fun _ => 0)))), (q2, (.inl (E.2.2.1 0, 40, .inl fun _ => 0))), (q3, (.inl (E.2.2.1 0, 40, .inl fun _ => 0))), (q4, (.inl (E.2.2.1 0, 40, .inl fun _ => 0))), (q5, (.inl (E.2.2.1 0, 40, .inl fun _ => 0))), (q6, (.inl (E.2.2.1 0, 40, .inl fun _ => 0)))]) H := hP
  have hD : va_D A ((h0, .inr (3, [.int 0, .int 0, .int 0, .int 0, .int 0, .int 0, .int 0, .int 0, .ref q1, .ref q2, .ref q3, .ref q4, .ref q5, .ref q6, .null, .null, .null, .null, .null, .null])) :: [(q1, (.inl (E.2.2.1 2, 40, .inr (.inl fun _ => 0)))), (q2, (.inl (E.2.2.1 0, 40, .inl fun _ => 0))), (q3, (.inl (E.2.2.1 0, 40, .inl fun _ => 0))), (q4, (.inl (E.2.2.1 0, 40, .inl fun _ => 0))), (q5, (.inl (E.2.2.1 0, 40, .inl fun _ => 0))), (q6, (.inl (E.2.2.1 0, 40, .inl fun _ => 0)))]) := hD
  refine lv_aload_n hx hb dX3_init_52 rfl (lv_at hl 0 rfl) ?_
  refine lv_bipush (v := 40) hx hb dX3_init_53 rfl ?_
  refine y_newI (N' := 40) hx hb hW hK hP hD hS hA hO (by decide) rfl (by decide) (Nat.le_of_ble_eq_true rfl) (Nat.le_of_ble_eq_true rfl) dX3_init_55 (fun q7 H hP hD hS => ?_)
  have hP : va_P E.2.1 vwCl ((h0, .inr (3, [.int 0, .int 0, .int 0, .int 0, .int 0, .int 0, .int 0, .int 0, .ref q1, .ref q2, .ref q3, .ref q4, .ref q5, .ref q6, .null, .null, .null, .null, .null, .null])) :: [(q1, (.inl (E.2.2.1 2, 40, .inr (.inl fun _ => 0)))), (q2, (.inl (E.2.2.1 0, 40, .inl fun _ => 0))), (q3, (.inl (E.2.2.1 0, 40, .inl fun _ => 0))), (q4, (.inl (E.2.2.1 0, 40, .inl fun _ => 0))), (q5, (.inl (E.2.2.1 0, 40, .inl fun _ => 0))), (q6, (.inl (E.2.2.1 0, 40, .inl fun _ => 0))), (q7, (.inl (E.2.2.1 0, 40, .inl fun _ => 0)))]) H := hP
  have hD : va_D A ((h0, .inr (3, [.int 0, .int 0, .int 0, .int 0, .int 0, .int 0, .int 0, .int 0, .ref q1, .ref q2, .ref q3, .ref q4, .ref q5, .ref q6, .null, .null, .null, .null, .null, .null])) :: [(q1, (.inl (E.2.2.1 2, 40, .inr (.inl fun _ => 0)))), (q2, (.inl (E.2.2.1 0, 40, .inl fun _ => 0))), (q3, (.inl (E.2.2.1 0, 40, .inl fun _ => 0))), (q4, (.inl (E.2.2.1 0, 40, .inl fun _ => 0))), (q5, (.inl (E.2.2.1 0, 40, .inl fun _ => 0))), (q6, (.inl (E.2.2.1 0, 40, .inl fun _ => 0))), (q7, (.inl (E.2.2.1 0, 40, .inl fun _ => 0)))]) := hD
  refine y_putF (k := 14) (v := .ref q7) (ft := .array .int) hx hb ho hW hK tyX3 tyX3_ok nmX3 zu_3 rfl (by decide) yi_fX3_31 rfl hin rfl rfl rfl rfl (Nat.le_of_ble_eq_true rfl) hP hD hS dX3_init_57 (fun H locs hP hD hS => ?_)
  have hP : va_P E.2.1 vwCl ((h0, .inr (3, [.int 0, .int 0, .int 0, .int 0, .int 0, .int 0, .int 0, .int 0, .ref q1, .ref q2, .ref q3, .ref q4, .ref q5, .ref q6, .ref q7, .null, .null, .null, .null, .null])) :: [(q1, (.inl (E.2.2.1 2, 40, .inr (.inl fun _ => 0)))), (q2, (.inl (E.2.2.1 0, 40, .inl fun _ => 0))), (q3, (.inl (E.2.2.1 0, 40, .inl fun _ => 0))), (q4, (.inl (E.2.2.1 0, 40, .inl fun _ => 0))), (q5, (.inl (E.2.2.1 0, 40, .inl fun _ => 0))), (q6, (.inl (E.2.2.1 0, 40, .inl fun _ => 0))), (q7, (.inl (E.2.2.1 0, 40, .inl fun _ => 0)))]) H := hP
  have hD : va_D A ((h0, .inr (3, [.int 0, .int 0, .int 0, .int 0, .int 0, .int 0, .int 0, .int 0, .ref q1, .ref q2, .ref q3, .ref q4, .ref q5, .ref q6, .ref q7, .null, .null, .null, .null, .null])) :: [(q1, (.inl (E.2.2.1 2, 40, .inr (.inl fun _ => 0)))), (q2, (.inl (E.2.2.1 0, 40, .inl fun _ => 0))), (q3, (.inl (E.2.2.1 0, 40, .inl fun _ => 0))), (q4, (.inl (E.2.2.1 0, 40, .inl fun _ => 0))), (q5, (.inl (E.2.2.1 0, 40, .inl fun _ => 0))), (q6, (.inl (E.2.2.1 0, 40, .inl fun _ => 0))), (q7, (.inl (E.2.2.1 0, 40, .inl fun _ => 0)))]) := hD
  refine lv_aload_n hx hb dX3_init_60 rfl (lv_at hl 0 rfl) ?_
  refine lv_sipush (v := 400) hx hb dX3_init_61 rfl ?_
  refine y_newI (N' := 400) hx hb hW hK hP hD hS hA hO (by decide) rfl (by decide) (Nat.le_of_ble_eq_true rfl) (Nat.le_of_ble_eq_true rfl) dX3_init_64 (fun q8 H hP hD hS => ?_)
  have hP : va_P E.2.1 vwCl ((h0, .inr (3, [.int 0, .int 0, .int 0, .int 0, .int 0, .int 0, .int 0, .int 0, .ref q1, .ref q2, .ref q3, .ref q4, .ref q5, .ref q6, .ref q7, .null, .null, .null, .null, .null])) :: [(q1, (.inl (E.2.2.1 2, 40, .inr (.inl fun _ => 0)))), (q2, (.inl (E.2.2.1 0, 40, .inl fun _ => 0))), (q3, (.inl (E.2.2.1 0, 40, .inl fun _ => 0))), (q4, (.inl (E.2.2.1 0, 40, .inl fun _ => 0))), (q5, (.inl (E.2.2.1 0, 40, .inl fun _ => 0))), (q6, (.inl (E.2.2.1 0, 40, .inl fun _ => 0))), (q7, (.inl (E.2.2.1 0, 40, .inl fun _ => 0))), (q8, (.inl (E.2.2.1 0, 400, .inl fun _ => 0)))]) H := hP
  have hD : va_D A ((h0, .inr (3, [.int 0, .int 0, .int 0, .int 0, .int 0, .int 0, .int 0, .int 0, .ref q1, .ref q2, .ref q3, .ref q4, .ref q5, .ref q6, .ref q7, .null, .null, .null, .null, .null])) :: [(q1, (.inl (E.2.2.1 2, 40, .inr (.inl fun _ => 0)))), (q2, (.inl (E.2.2.1 0, 40, .inl fun _ => 0))), (q3, (.inl (E.2.2.1 0, 40, .inl fun _ => 0))), (q4, (.inl (E.2.2.1 0, 40, .inl fun _ => 0))), (q5, (.inl (E.2.2.1 0, 40, .inl fun _ => 0))), (q6, (.inl (E.2.2.1 0, 40, .inl fun _ => 0))), (q7, (.inl (E.2.2.1 0, 40, .inl fun _ => 0))), (q8, (.inl (E.2.2.1 0, 400, .inl fun _ => 0)))]) := hD
  refine y_putF (k := 15) (v := .ref q8) (ft := .array .int) hx hb ho hW hK tyX3 tyX3_ok nmX3 zu_3 rfl (by decide) yi_fX3_34 rfl hin rfl rfl rfl rfl (Nat.le_of_ble_eq_true rfl) hP hD hS dX3_init_66 (fun H locs hP hD hS => ?_)
  have hP : va_P E.2.1 vwCl ((h0, .inr (3, [.int 0, .int 0, .int 0, .int 0, .int 0, .int 0, .int 0, .int 0, .ref q1, .ref q2, .ref q3, .ref q4, .ref q5, .ref q6, .ref q7, .ref q8, .null, .null, .null, .null])) :: [(q1, (.inl (E.2.2.1 2, 40, .inr (.inl fun _ => 0)))), (q2, (.inl (E.2.2.1 0, 40, .inl fun _ => 0))), (q3, (.inl (E.2.2.1 0, 40, .inl fun _ => 0))), (q4, (.inl (E.2.2.1 0, 40, .inl fun _ => 0))), (q5, (.inl (E.2.2.1 0, 40, .inl fun _ => 0))), (q6, (.inl (E.2.2.1 0, 40, .inl fun _ => 0))), (q7, (.inl (E.2.2.1 0, 40, .inl fun _ => 0))), (q8, (.inl (E.2.2.1 0, 400, .inl fun _ => 0)))]) H := hP
  have hD : va_D A ((h0, .inr (3, [.int 0, .int 0, .int 0, .int 0, .int 0, .int 0, .int 0, .int 0, .ref q1, .ref q2, .ref q3, .ref q4, .ref q5, .ref q6, .ref q7, .ref q8, .null, .null, .null, .null])) :: [(q1, (.inl (E.2.2.1 2, 40, .inr (.inl fun _ => 0)))), (q2, (.inl (E.2.2.1 0, 40, .inl fun _ => 0))), (q3, (.inl (E.2.2.1 0, 40, .inl fun _ => 0))), (q4, (.inl (E.2.2.1 0, 40, .inl fun _ => 0))), (q5, (.inl (E.2.2.1 0, 40, .inl fun _ => 0))), (q6, (.inl (E.2.2.1 0, 40, .inl fun _ => 0))), (q7, (.inl (E.2.2.1 0, 40, .inl fun _ => 0))), (q8, (.inl (E.2.2.1 0, 400, .inl fun _ => 0)))]) := hD
  refine lv_aload_n hx hb dX3_init_69 rfl (lv_at hl 0 rfl) ?_
  refine lv_bipush (v := 30) hx hb dX3_init_70 rfl ?_
  refine y_newI (N' := 30) hx hb hW hK hP hD hS hA hO (by decide) rfl (by decide) (Nat.le_of_ble_eq_true rfl) (Nat.le_of_ble_eq_true rfl) dX3_init_72 (fun q9 H hP hD hS => ?_)
  have hP : va_P E.2.1 vwCl ((h0, .inr (3, [.int 0, .int 0, .int 0, .int 0, .int 0, .int 0, .int 0, .int 0, .ref q1, .ref q2, .ref q3, .ref q4, .ref q5, .ref q6, .ref q7, .ref q8, .null, .null, .null, .null])) :: [(q1, (.inl (E.2.2.1 2, 40, .inr (.inl fun _ => 0)))), (q2, (.inl (E.2.2.1 0, 40, .inl fun _ => 0))), (q3, (.inl (E.2.2.1 0, 40, .inl fun _ => 0))), (q4, (.inl (E.2.2.1 0, 40, .inl fun _ => 0))), (q5, (.inl (E.2.2.1 0, 40, .inl fun _ => 0))), (q6, (.inl (E.2.2.1 0, 40, .inl fun _ => 0))), (q7, (.inl (E.2.2.1 0, 40, .inl fun _ => 0))), (q8, (.inl (E.2.2.1 0, 400, .inl fun _ => 0))), (q9, (.inl (E.2.2.1 0, 30, .inl fun _ => 0)))]) H := hP
  have hD : va_D A ((h0, .inr (3, [.int 0, .int 0, .int 0, .int 0, .int 0, .int 0, .int 0, .int 0, .ref q1, .ref q2, .ref q3, .ref q4, .ref q5, .ref q6, .ref q7, .ref q8, .null, .null, .null, .null])) :: [(q1, (.inl (E.2.2.1 2, 40, .inr (.inl fun _ => 0)))), (q2, (.inl (E.2.2.1 0, 40, .inl fun _ => 0))), (q3, (.inl (E.2.2.1 0, 40, .inl fun _ => 0))), (q4, (.inl (E.2.2.1 0, 40, .inl fun _ => 0))), (q5, (.inl (E.2.2.1 0, 40, .inl fun _ => 0))), (q6, (.inl (E.2.2.1 0, 40, .inl fun _ => 0))), (q7, (.inl (E.2.2.1 0, 40, .inl fun _ => 0))), (q8, (.inl (E.2.2.1 0, 400, .inl fun _ => 0))), (q9, (.inl (E.2.2.1 0, 30, .inl fun _ => 0)))]) := hD
  refine y_putF (k := 16) (v := .ref q9) (ft := .array .int) hx hb ho hW hK tyX3 tyX3_ok nmX3 zu_3 rfl (by decide) yi_fX3_37 rfl hin rfl rfl rfl rfl (Nat.le_of_ble_eq_true rfl) hP hD hS dX3_init_74 (fun H locs hP hD hS => ?_)
  have hP : va_P E.2.1 vwCl ((h0, .inr (3, [.int 0, .int 0, .int 0, .int 0, .int 0, .int 0, .int 0, .int 0, .ref q1, .ref q2, .ref q3, .ref q4, .ref q5, .ref q6, .ref q7, .ref q8, .ref q9, .null, .null, .null])) :: [(q1, (.inl (E.2.2.1 2, 40, .inr (.inl fun _ => 0)))), (q2, (.inl (E.2.2.1 0, 40, .inl fun _ => 0))), (q3, (.inl (E.2.2.1 0, 40, .inl fun _ => 0))), (q4, (.inl (E.2.2.1 0, 40, .inl fun _ => 0))), (q5, (.inl (E.2.2.1 0, 40, .inl fun _ => 0))), (q6, (.inl (E.2.2.1 0, 40, .inl fun _ => 0))), (q7, (.inl (E.2.2.1 0, 40, .inl fun _ => 0))), (q8, (.inl (E.2.2.1 0, 400, .inl fun _ => 0))), (q9, (.inl (E.2.2.1 0, 30, .inl fun _ => 0)))]) H := hP
  have hD : va_D A ((h0, .inr (3, [.int 0, .int 0, .int 0, .int 0, .int 0, .int 0, .int 0, .int 0, .ref q1, .ref q2, .ref q3, .ref q4, .ref q5, .ref q6, .ref q7, .ref q8, .ref q9, .null, .null, .null])) :: [(q1, (.inl (E.2.2.1 2, 40, .inr (.inl fun _ => 0)))), (q2, (.inl (E.2.2.1 0, 40, .inl fun _ => 0))), (q3, (.inl (E.2.2.1 0, 40, .inl fun _ => 0))), (q4, (.inl (E.2.2.1 0, 40, .inl fun _ => 0))), (q5, (.inl (E.2.2.1 0, 40, .inl fun _ => 0))), (q6, (.inl (E.2.2.1 0, 40, .inl fun _ => 0))), (q7, (.inl (E.2.2.1 0, 40, .inl fun _ => 0))), (q8, (.inl (E.2.2.1 0, 400, .inl fun _ => 0))), (q9, (.inl (E.2.2.1 0, 30, .inl fun _ => 0)))]) := hD
  refine lv_aload_n hx hb dX3_init_77 rfl (lv_at hl 0 rfl) ?_
  refine lv_bipush (v := 30) hx hb dX3_init_78 rfl ?_
  refine y_newI (N' := 30) hx hb hW hK hP hD hS hA hO (by decide) rfl (by decide) (Nat.le_of_ble_eq_true rfl) (Nat.le_of_ble_eq_true rfl) dX3_init_80 (fun q10 H hP hD hS => ?_)
  have hP : va_P E.2.1 vwCl ((h0, .inr (3, [.int 0, .int 0, .int 0, .int 0, .int 0, .int 0, .int 0, .int 0, .ref q1, .ref q2, .ref q3, .ref q4, .ref q5, .ref q6, .ref q7, .ref q8, .ref q9, .null, .null, .null])) :: [(q1, (.inl (E.2.2.1 2, 40, .inr (.inl fun _ => 0)))), (q2, (.inl (E.2.2.1 0, 40, .inl fun _ => 0))), (q3, (.inl (E.2.2.1 0, 40, .inl fun _ => 0))), (q4, (.inl (E.2.2.1 0, 40, .inl fun _ => 0))), (q5, (.inl (E.2.2.1 0, 40, .inl fun _ => 0))), (q6, (.inl (E.2.2.1 0, 40, .inl fun _ => 0))), (q7, (.inl (E.2.2.1 0, 40, .inl fun _ => 0))), (q8, (.inl (E.2.2.1 0, 400, .inl fun _ => 0))), (q9, (.inl (E.2.2.1 0, 30, .inl fun _ => 0))), (q10, (.inl (E.2.2.1 0, 30, .inl fun _ => 0)))]) H := hP
  have hD : va_D A ((h0, .inr (3, [.int 0, .int 0, .int 0, .int 0, .int 0, .int 0, .int 0, .int 0, .ref q1, .ref q2, .ref q3, .ref q4, .ref q5, .ref q6, .ref q7, .ref q8, .ref q9, .null, .null, .null])) :: [(q1, (.inl (E.2.2.1 2, 40, .inr (.inl fun _ => 0)))), (q2, (.inl (E.2.2.1 0, 40, .inl fun _ => 0))), (q3, (.inl (E.2.2.1 0, 40, .inl fun _ => 0))), (q4, (.inl (E.2.2.1 0, 40, .inl fun _ => 0))), (q5, (.inl (E.2.2.1 0, 40, .inl fun _ => 0))), (q6, (.inl (E.2.2.1 0, 40, .inl fun _ => 0))), (q7, (.inl (E.2.2.1 0, 40, .inl fun _ => 0))), (q8, (.inl (E.2.2.1 0, 400, .inl fun _ => 0))), (q9, (.inl (E.2.2.1 0, 30, .inl fun _ => 0))), (q10, (.inl (E.2.2.1 0, 30, .inl fun _ => 0)))]) := hD
  refine y_putF (k := 17) (v := .ref q10) (ft := .array .int) hx hb ho hW hK tyX3 tyX3_ok nmX3 zu_3 rfl (by decide) yi_fX3_40 rfl hin rfl rfl rfl rfl (Nat.le_of_ble_eq_true rfl) hP hD hS dX3_init_82 (fun H locs hP hD hS => ?_)
  have hP : va_P E.2.1 vwCl ((h0, .inr (3, [.int 0, .int 0, .int 0, .int 0, .int 0, .int 0, .int 0, .int 0, .ref q1, .ref q2, .ref q3, .ref q4, .ref q5, .ref q6, .ref q7, .ref q8, .ref q9, .ref q10, .null, .null])) :: [(q1, (.inl (E.2.2.1 2, 40, .inr (.inl fun _ => 0)))), (q2, (.inl (E.2.2.1 0, 40, .inl fun _ => 0))), (q3, (.inl (E.2.2.1 0, 40, .inl fun _ => 0))), (q4, (.inl (E.2.2.1 0, 40, .inl fun _ => 0))), (q5, (.inl (E.2.2.1 0, 40, .inl fun _ => 0))), (q6, (.inl (E.2.2.1 0, 40, .inl fun _ => 0))), (q7, (.inl (E.2.2.1 0, 40, .inl fun _ => 0))), (q8, (.inl (E.2.2.1 0, 400, .inl fun _ => 0))), (q9, (.inl (E.2.2.1 0, 30, .inl fun _ => 0))), (q10, (.inl (E.2.2.1 0, 30, .inl fun _ => 0)))]) H := hP
  have hD : va_D A ((h0, .inr (3, [.int 0, .int 0, .int 0, .int 0, .int 0, .int 0, .int 0, .int 0, .ref q1, .ref q2, .ref q3, .ref q4, .ref q5, .ref q6, .ref q7, .ref q8, .ref q9, .ref q10, .null, .null])) :: [(q1, (.inl (E.2.2.1 2, 40, .inr (.inl fun _ => 0)))), (q2, (.inl (E.2.2.1 0, 40, .inl fun _ => 0))), (q3, (.inl (E.2.2.1 0, 40, .inl fun _ => 0))), (q4, (.inl (E.2.2.1 0, 40, .inl fun _ => 0))), (q5, (.inl (E.2.2.1 0, 40, .inl fun _ => 0))), (q6, (.inl (E.2.2.1 0, 40, .inl fun _ => 0))), (q7, (.inl (E.2.2.1 0, 40, .inl fun _ => 0))), (q8, (.inl (E.2.2.1 0, 400, .inl fun _ => 0))), (q9, (.inl (E.2.2.1 0, 30, .inl fun _ => 0))), (q10, (.inl (E.2.2.1 0, 30, .inl fun _ => 0)))]) := hD
  refine lv_aload_n hx hb dX3_init_85 rfl (lv_at hl 0 rfl) ?_
  refine lv_bipush (v := 30) hx hb dX3_init_86 rfl ?_
  refine y_newI (N' := 30) hx hb hW hK hP hD hS hA hO (by decide) rfl (by decide) (Nat.le_of_ble_eq_true rfl) (Nat.le_of_ble_eq_true rfl) dX3_init_88 (fun q11 H hP hD hS => ?_)
  have hP : va_P E.2.1 vwCl ((h0, .inr (3, [.int 0, .int 0, .int 0, .int 0, .int 0, .int 0, .int 0, .int 0, .ref q1, .ref q2, .ref q3, .ref q4, .ref q5, .ref q6, .ref q7, .ref q8, .ref q9, .ref q10, .null, .null])) :: [(q1, (.inl (E.2.2.1 2, 40, .inr (.inl fun _ => 0)))), (q2, (.inl (E.2.2.1 0, 40, .inl fun _ => 0))), (q3, (.inl (E.2.2.1 0, 40, .inl fun _ => 0))), (q4, (.inl (E.2.2.1 0, 40, .inl fun _ => 0))), (q5, (.inl (E.2.2.1 0, 40, .inl fun _ => 0))), (q6, (.inl (E.2.2.1 0, 40, .inl fun _ => 0))), (q7, (.inl (E.2.2.1 0, 40, .inl fun _ => 0))), (q8, (.inl (E.2.2.1 0, 400, .inl fun _ => 0))), (q9, (.inl (E.2.2.1 0, 30, .inl fun _ => 0))), (q10, (.inl (E.2.2.1 0, 30, .inl fun _ => 0))), (q11, (.inl (E.2.2.1 0, 30, .inl fun _ => 0)))]) H := hP
  have hD : va_D A ((h0, .inr (3, [.int 0, .int 0, .int 0, .int 0, .int 0, .int 0, .int 0, .int 0, .ref q1, .ref q2, .ref q3, .ref q4, .ref q5, .ref q6, .ref q7, .ref q8, .ref q9, .ref q10, .null, .null])) :: [(q1, (.inl (E.2.2.1 2, 40, .inr (.inl fun _ => 0)))), (q2, (.inl (E.2.2.1 0, 40, .inl fun _ => 0))), (q3, (.inl (E.2.2.1 0, 40, .inl fun _ => 0))), (q4, (.inl (E.2.2.1 0, 40, .inl fun _ => 0))), (q5, (.inl (E.2.2.1 0, 40, .inl fun _ => 0))), (q6, (.inl (E.2.2.1 0, 40, .inl fun _ => 0))), (q7, (.inl (E.2.2.1 0, 40, .inl fun _ => 0))), (q8, (.inl (E.2.2.1 0, 400, .inl fun _ => 0))), (q9, (.inl (E.2.2.1 0, 30, .inl fun _ => 0))), (q10, (.inl (E.2.2.1 0, 30, .inl fun _ => 0))), (q11, (.inl (E.2.2.1 0, 30, .inl fun _ => 0)))]) := hD
  refine y_putF (k := 18) (v := .ref q11) (ft := .array .int) hx hb ho hW hK tyX3 tyX3_ok nmX3 zu_3 rfl (by decide) yi_fX3_43 rfl hin rfl rfl rfl rfl (Nat.le_of_ble_eq_true rfl) hP hD hS dX3_init_90 (fun H locs hP hD hS => ?_)
  have hP : va_P E.2.1 vwCl ((h0, .inr (3, [.int 0, .int 0, .int 0, .int 0, .int 0, .int 0, .int 0, .int 0, .ref q1, .ref q2, .ref q3, .ref q4, .ref q5, .ref q6, .ref q7, .ref q8, .ref q9, .ref q10, .ref q11, .null])) :: [(q1, (.inl (E.2.2.1 2, 40, .inr (.inl fun _ => 0)))), (q2, (.inl (E.2.2.1 0, 40, .inl fun _ => 0))), (q3, (.inl (E.2.2.1 0, 40, .inl fun _ => 0))), (q4, (.inl (E.2.2.1 0, 40, .inl fun _ => 0))), (q5, (.inl (E.2.2.1 0, 40, .inl fun _ => 0))), (q6, (.inl (E.2.2.1 0, 40, .inl fun _ => 0))), (q7, (.inl (E.2.2.1 0, 40, .inl fun _ => 0))), (q8, (.inl (E.2.2.1 0, 400, .inl fun _ => 0))), (q9, (.inl (E.2.2.1 0, 30, .inl fun _ => 0))), (q10, (.inl (E.2.2.1 0, 30, .inl fun _ => 0))), (q11, (.inl (E.2.2.1 0, 30, .inl fun _ => 0)))]) H := hP
  have hD : va_D A ((h0, .inr (3, [.int 0, .int 0, .int 0, .int 0, .int 0, .int 0, .int 0, .int 0, .ref q1, .ref q2, .ref q3, .ref q4, .ref q5, .ref q6, .ref q7, .ref q8, .ref q9, .ref q10, .ref q11, .null])) :: [(q1, (.inl (E.2.2.1 2, 40, .inr (.inl fun _ => 0)))), (q2, (.inl (E.2.2.1 0, 40, .inl fun _ => 0))), (q3, (.inl (E.2.2.1 0, 40, .inl fun _ => 0))), (q4, (.inl (E.2.2.1 0, 40, .inl fun _ => 0))), (q5, (.inl (E.2.2.1 0, 40, .inl fun _ => 0))), (q6, (.inl (E.2.2.1 0, 40, .inl fun _ => 0))), (q7, (.inl (E.2.2.1 0, 40, .inl fun _ => 0))), (q8, (.inl (E.2.2.1 0, 400, .inl fun _ => 0))), (q9, (.inl (E.2.2.1 0, 30, .inl fun _ => 0))), (q10, (.inl (E.2.2.1 0, 30, .inl fun _ => 0))), (q11, (.inl (E.2.2.1 0, 30, .inl fun _ => 0)))]) := hD
  refine lv_aload_n hx hb dX3_init_93 rfl (lv_at hl 0 rfl) ?_
  refine lv_bipush (v := 30) hx hb dX3_init_94 rfl ?_
  refine y_newI (N' := 30) hx hb hW hK hP hD hS hA hO (by decide) rfl (by decide) (Nat.le_of_ble_eq_true rfl) (Nat.le_of_ble_eq_true rfl) dX3_init_96 (fun q12 H hP hD hS => ?_)
  have hP : va_P E.2.1 vwCl ((h0, .inr (3, [.int 0, .int 0, .int 0, .int 0, .int 0, .int 0, .int 0, .int 0, .ref q1, .ref q2, .ref q3, .ref q4, .ref q5, .ref q6, .ref q7, .ref q8, .ref q9, .ref q10, .ref q11, .null])) :: [(q1, (.inl (E.2.2.1 2, 40, .inr (.inl fun _ => 0)))), (q2, (.inl (E.2.2.1 0, 40, .inl fun _ => 0))), (q3, (.inl (E.2.2.1 0, 40, .inl fun _ => 0))), (q4, (.inl (E.2.2.1 0, 40, .inl fun _ => 0))), (q5, (.inl (E.2.2.1 0, 40, .inl fun _ => 0))), (q6, (.inl (E.2.2.1 0, 40, .inl fun _ => 0))), (q7, (.inl (E.2.2.1 0, 40, .inl fun _ => 0))), (q8, (.inl (E.2.2.1 0, 400, .inl fun _ => 0))), (q9, (.inl (E.2.2.1 0, 30, .inl fun _ => 0))), (q10, (.inl (E.2.2.1 0, 30, .inl fun _ => 0))), (q11, (.inl (E.2.2.1 0, 30, .inl fun _ => 0))), (q12, (.inl (E.2.2.1 0, 30, .inl fun _ => 0)))]) H := hP
  have hD : va_D A ((h0, .inr (3, [.int 0, .int 0, .int 0, .int 0, .int 0, .int 0, .int 0, .int 0, .ref q1, .ref q2, .ref q3, .ref q4, .ref q5, .ref q6, .ref q7, .ref q8, .ref q9, .ref q10, .ref q11, .null])) :: [(q1, (.inl (E.2.2.1 2, 40, .inr (.inl fun _ => 0)))), (q2, (.inl (E.2.2.1 0, 40, .inl fun _ => 0))), (q3, (.inl (E.2.2.1 0, 40, .inl fun _ => 0))), (q4, (.inl (E.2.2.1 0, 40, .inl fun _ => 0))), (q5, (.inl (E.2.2.1 0, 40, .inl fun _ => 0))), (q6, (.inl (E.2.2.1 0, 40, .inl fun _ => 0))), (q7, (.inl (E.2.2.1 0, 40, .inl fun _ => 0))), (q8, (.inl (E.2.2.1 0, 400, .inl fun _ => 0))), (q9, (.inl (E.2.2.1 0, 30, .inl fun _ => 0))), (q10, (.inl (E.2.2.1 0, 30, .inl fun _ => 0))), (q11, (.inl (E.2.2.1 0, 30, .inl fun _ => 0))), (q12, (.inl (E.2.2.1 0, 30, .inl fun _ => 0)))]) := hD
  refine y_putF (k := 19) (v := .ref q12) (ft := .array .int) hx hb ho hW hK tyX3 tyX3_ok nmX3 zu_3 rfl (by decide) yi_fX3_46 rfl hin rfl rfl rfl rfl (Nat.le_of_ble_eq_true rfl) hP hD hS dX3_init_98 (fun H locs hP hD hS => ?_)
  have hP : va_P E.2.1 vwCl ((h0, .inr (3, [.int 0, .int 0, .int 0, .int 0, .int 0, .int 0, .int 0, .int 0, .ref q1, .ref q2, .ref q3, .ref q4, .ref q5, .ref q6, .ref q7, .ref q8, .ref q9, .ref q10, .ref q11, .ref q12])) :: [(q1, (.inl (E.2.2.1 2, 40, .inr (.inl fun _ => 0)))), (q2, (.inl (E.2.2.1 0, 40, .inl fun _ => 0))), (q3, (.inl (E.2.2.1 0, 40, .inl fun _ => 0))), (q4, (.inl (E.2.2.1 0, 40, .inl fun _ => 0))), (q5, (.inl (E.2.2.1 0, 40, .inl fun _ => 0))), (q6, (.inl (E.2.2.1 0, 40, .inl fun _ => 0))), (q7, (.inl (E.2.2.1 0, 40, .inl fun _ => 0))), (q8, (.inl (E.2.2.1 0, 400, .inl fun _ => 0))), (q9, (.inl (E.2.2.1 0, 30, .inl fun _ => 0))), (q10, (.inl (E.2.2.1 0, 30, .inl fun _ => 0))), (q11, (.inl (E.2.2.1 0, 30, .inl fun _ => 0))), (q12, (.inl (E.2.2.1 0, 30, .inl fun _ => 0)))]) H := hP
  have hD : va_D A ((h0, .inr (3, [.int 0, .int 0, .int 0, .int 0, .int 0, .int 0, .int 0, .int 0, .ref q1, .ref q2, .ref q3, .ref q4, .ref q5, .ref q6, .ref q7, .ref q8, .ref q9, .ref q10, .ref q11, .ref q12])) :: [(q1, (.inl (E.2.2.1 2, 40, .inr (.inl fun _ => 0)))), (q2, (.inl (E.2.2.1 0, 40, .inl fun _ => 0))), (q3, (.inl (E.2.2.1 0, 40, .inl fun _ => 0))), (q4, (.inl (E.2.2.1 0, 40, .inl fun _ => 0))), (q5, (.inl (E.2.2.1 0, 40, .inl fun _ => 0))), (q6, (.inl (E.2.2.1 0, 40, .inl fun _ => 0))), (q7, (.inl (E.2.2.1 0, 40, .inl fun _ => 0))), (q8, (.inl (E.2.2.1 0, 400, .inl fun _ => 0))), (q9, (.inl (E.2.2.1 0, 30, .inl fun _ => 0))), (q10, (.inl (E.2.2.1 0, 30, .inl fun _ => 0))), (q11, (.inl (E.2.2.1 0, 30, .inl fun _ => 0))), (q12, (.inl (E.2.2.1 0, 30, .inl fun _ => 0)))]) := hD
  exact W.widen (Nat.le_of_ble_eq_true rfl) (Nat.le_of_ble_eq_true rfl) (W.vret hx hb hr (fun t ht hW9 => ⟨⟨_, rfl, ⟨fun i => [h0, q1, q2, q3, q4, q5, q6, q7, q8, q9, q10, q11, q12].getD i 0, rfl, rfl⟩, by rw [ht]; exact hP, hD⟩, hS.F ht⟩) hS.2.2 dX3_init_101)
set_option maxHeartbeats 4000000 in
set_option maxRecDepth 100000 in
theorem ysp_X5 (l : Launch) (E : EE) (h0 : Nat) : ysp l yX5_init cX5_init 1 1 3 753 E h0 [] (.inr (5, [.null, .null, .null])) (fun w1 => ∃ a b d : Nat, w1 = [(h0, .inr (5, [.ref a, .ref b, .ref d])), (a, .inl (E.2.2.1 0, 251, .inl fun _ => 0)), (b, .inl (E.2.2.1 0, 251, .inl fun _ => 0)), (d, .inl (E.2.2.1 0, 251, .inl fun _ => 0))]) := by
  intro sz
  refine Met.ofW (cc := cX5_init) (maxL := 1) (ret := none) (by decide) rfl ?_
  intro p e s m args below meth c s₁ B hml hv
  obtain ⟨rfl, hsz, hP, hK, hW, hO⟩ := hv
  have hx := B.exec
  have hb := B.bytes
  have hr := B.returns
  have ho : s.vm.findClass RX5 = some m.cls := findClass_of_methodNamed B.named
  have hlk := B.notSynchronized
  have hin : meth.name = "<init>" := (name_of_methodNamed B.named B.method).1
  subst hsz
  show W p l e (zrm 1 3 753) s m _ below meth c s.heap [] 0 0 _ _
  generalize hAe : va_A [(h0, (.inr (5, [.null, .null, .null])))] s.heap.size = A
  have hA : ∀ q : Nat, s.heap.size ≤ q → A q := fun q h => by rw [← hAe]; exact Or.inr h
  have hD : va_D A [(h0, (.inr (5, [.null, .null, .null])))] := y_one (by rw [← hAe]; exact Or.inl ⟨0, _, rfl⟩)
  have hS : va_S A s.heap s.heap [] := va_S.rf
  have hl := lv_entry ([.ref h0]) (n := 1) (Nat.le_of_ble_eq_true rfl)
  rw [lg_entry_eq]
  generalize (lg_sl ([.ref h0]) ++ List.replicate (1 - (lg_sl ([.ref h0])).length) Slot.unset).toArray = ls at hl ⊢
  have hl : lv_has ls 1 [(0, .ref h0)] := hl
  refine lv_aload_n hx hb dX5_init_0 rfl (lv_at hl 0 rfl) ?_
  refine W.objInit hx hb ho (zIn_use hW yi_oX5) (zIn_use hW yi_oi) (zIn_use hW yi_oc) rfl (by rw [hml]; exact hl.1) rfl dX5_init_1 (Nat.le_of_ble_eq_true rfl) (Nat.le_of_ble_eq_true rfl) ?_
  refine W.eq (g2 := F0 m 4 ls []) rfl ?_
  refine lv_aload_n hx hb dX5_init_4 rfl (lv_at hl 0 rfl) ?_
  refine lv_sipush (v := 251) hx hb dX5_init_5 rfl ?_
  refine y_newI (N' := 251) hx hb hW hK hP hD hS hA hO (by decide) rfl (by decide) (Nat.le_of_ble_eq_true rfl) (Nat.le_of_ble_eq_true rfl) dX5_init_8 (fun q1 H hP hD hS => ?_)
  have hP : va_P E.2.1 vwCl ((h0, .inr (5, [.null, .null, .null])) :: [(q1, (.inl (E.2.2.1 0, 251, .inl fun _ => 0)))]) H := hP
  have hD : va_D A ((h0, .inr (5, [.null, .null, .null])) :: [(q1, (.inl (E.2.2.1 0, 251, .inl fun _ => 0)))]) := hD
  refine y_putF (k := 0) (v := .ref q1) (ft := .array .int) hx hb ho hW hK tyX5 tyX5_ok nmX5 zu_5 rfl (by decide) yi_fX5_9 rfl hin rfl rfl rfl rfl (Nat.le_of_ble_eq_true rfl) hP hD hS dX5_init_10 (fun H locs hP hD hS => ?_)
  have hP : va_P E.2.1 vwCl ((h0, .inr (5, [.ref q1, .null, .null])) :: [(q1, (.inl (E.2.2.1 0, 251, .inl fun _ => 0)))]) H := hP
  have hD : va_D A ((h0, .inr (5, [.ref q1, .null, .null])) :: [(q1, (.inl (E.2.2.1 0, 251, .inl fun _ => 0)))]) := hD
  refine lv_aload_n hx hb dX5_init_13 rfl (lv_at hl 0 rfl) ?_
  refine lv_sipush (v := 251) hx hb dX5_init_14 rfl ?_
  refine y_newI (N' := 251) hx hb hW hK hP hD hS hA hO (by decide) rfl (by decide) (Nat.le_of_ble_eq_true rfl) (Nat.le_of_ble_eq_true rfl) dX5_init_17 (fun q2 H hP hD hS => ?_)
  have hP : va_P E.2.1 vwCl ((h0, .inr (5, [.ref q1, .null, .null])) :: [(q1, (.inl (E.2.2.1 0, 251, .inl fun _ => 0))), (q2, (.inl (E.2.2.1 0, 251, .inl fun _ => 0)))]) H := hP
  have hD : va_D A ((h0, .inr (5, [.ref q1, .null, .null])) :: [(q1, (.inl (E.2.2.1 0, 251, .inl fun _ => 0))), (q2, (.inl (E.2.2.1 0, 251, .inl fun _ => 0)))]) := hD
  refine y_putF (k := 1) (v := .ref q2) (ft := .array .int) hx hb ho hW hK tyX5 tyX5_ok nmX5 zu_5 rfl (by decide) yi_fX5_15 rfl hin rfl rfl rfl rfl (Nat.le_of_ble_eq_true rfl) hP hD hS dX5_init_19 (fun H locs hP hD hS => ?_)
  have hP : va_P E.2.1 vwCl ((h0, .inr (5, [.ref q1, .ref q2, .null])) :: [(q1, (.inl (E.2.2.1 0, 251, .inl fun _ => 0))), (q2, (.inl (E.2.2.1 0, 251, .inl fun _ => 0)))]) H := hP
  have hD : va_D A ((h0, .inr (5, [.ref q1, .ref q2, .null])) :: [(q1, (.inl (E.2.2.1 0, 251, .inl fun _ => 0))), (q2, (.inl (E.2.2.1 0, 251, .inl fun _ => 0)))]) := hD
  refine lv_aload_n hx hb dX5_init_22 rfl (lv_at hl 0 rfl) ?_
  refine lv_sipush (v := 251) hx hb dX5_init_23 rfl ?_
  refine y_newI (N' := 251) hx hb hW hK hP hD hS hA hO (by decide) rfl (by decide) (Nat.le_of_ble_eq_true rfl) (Nat.le_of_ble_eq_true rfl) dX5_init_26 (fun q3 H hP hD hS => ?_)
  have hP : va_P E.2.1 vwCl ((h0, .inr (5, [.ref q1, .ref q2, .null])) :: [(q1, (.inl (E.2.2.1 0, 251, .inl fun _ => 0))), (q2, (.inl (E.2.2.1 0, 251, .inl fun _ => 0))), (q3, (.inl (E.2.2.1 0, 251, .inl fun _ => 0)))]) H := hP
  have hD : va_D A ((h0, .inr (5, [.ref q1, .ref q2, .null])) :: [(q1, (.inl (E.2.2.1 0, 251, .inl fun _ => 0))), (q2, (.inl (E.2.2.1 0, 251, .inl fun _ => 0))), (q3, (.inl (E.2.2.1 0, 251, .inl fun _ => 0)))]) := hD
  refine y_putF (k := 2) (v := .ref q3) (ft := .array .int) hx hb ho hW hK tyX5 tyX5_ok nmX5 zu_5 rfl (by decide) yi_fX5_18 rfl hin rfl rfl rfl rfl (Nat.le_of_ble_eq_true rfl) hP hD hS dX5_init_28 (fun H locs hP hD hS => ?_)
  have hP : va_P E.2.1 vwCl ((h0, .inr (5, [.ref q1, .ref q2, .ref q3])) :: [(q1, (.inl (E.2.2.1 0, 251, .inl fun _ => 0))), (q2, (.inl (E.2.2.1 0, 251, .inl fun _ => 0))), (q3, (.inl (E.2.2.1 0, 251, .inl fun _ => 0)))]) H := hP
  have hD : va_D A ((h0, .inr (5, [.ref q1, .ref q2, .ref q3])) :: [(q1, (.inl (E.2.2.1 0, 251, .inl fun _ => 0))), (q2, (.inl (E.2.2.1 0, 251, .inl fun _ => 0))), (q3, (.inl (E.2.2.1 0, 251, .inl fun _ => 0)))]) := hD
  exact W.widen (Nat.le_of_ble_eq_true rfl) (Nat.le_of_ble_eq_true rfl) (W.vret hx hb hr (fun t ht hW9 => ⟨⟨_, rfl, ⟨q1, q2, q3, rfl⟩, by rw [ht]; exact hP, hD⟩, hS.F ht⟩) hS.2.2 dX5_init_31)
set_option maxHeartbeats 4000000 in
set_option maxRecDepth 100000 in
theorem ysp_X6 (l : Launch) (E : EE) (h0 : Nat) : ysp l yX6_init cX6_init 1 1 1 900 E h0 [] (.inr (6, [.null, .int 0, .int 0, .int 0, .int 0, .int 0, .int 0])) (fun w1 => ∃ a : Nat, w1 = [(h0, .inr (6, [.ref a, .int 0, .int 0, .int 0, .int 0, .int 0, .int 0])), (a, .inl (E.2.2.1 1, 900, .inl fun _ => 0))]) := by
  intro sz
  refine Met.ofW (cc := cX6_init) (maxL := 1) (ret := none) (by decide) rfl ?_
  intro p e s m args below meth c s₁ B hml hv
  obtain ⟨rfl, hsz, hP, hK, hW, hO⟩ := hv
  have hx := B.exec
  have hb := B.bytes
  have hr := B.returns
  have ho : s.vm.findClass RX6 = some m.cls := findClass_of_methodNamed B.named
  have hlk := B.notSynchronized
  have hin : meth.name = "<init>" := (name_of_methodNamed B.named B.method).1
  subst hsz
  show W p l e (zrm 1 1 900) s m _ below meth c s.heap [] 0 0 _ _
  generalize hAe : va_A [(h0, (.inr (6, [.null, .int 0, .int 0, .int 0, .int 0, .int 0, .int 0])))] s.heap.size = A
  have hA : ∀ q : Nat, s.heap.size ≤ q → A q := fun q h => by rw [← hAe]; exact Or.inr h
  have hD : va_D A [(h0, (.inr (6, [.null, .int 0, .int 0, .int 0, .int 0, .int 0, .int 0])))] := y_one (by rw [← hAe]; exact Or.inl ⟨0, _, rfl⟩)
  have hS : va_S A s.heap s.heap [] := va_S.rf
  have hl := lv_entry ([.ref h0]) (n := 1) (Nat.le_of_ble_eq_true rfl)
  rw [lg_entry_eq]
  generalize (lg_sl ([.ref h0]) ++ List.replicate (1 - (lg_sl ([.ref h0])).length) Slot.unset).toArray = ls at hl ⊢
  have hl : lv_has ls 1 [(0, .ref h0)] := hl
  refine lv_aload_n hx hb dX6_init_0 rfl (lv_at hl 0 rfl) ?_
  refine W.objInit hx hb ho (zIn_use hW yi_oX6) (zIn_use hW yi_oi) (zIn_use hW yi_oc) rfl (by rw [hml]; exact hl.1) rfl dX6_init_1 (Nat.le_of_ble_eq_true rfl) (Nat.le_of_ble_eq_true rfl) ?_
  refine W.eq (g2 := F0 m 4 ls []) rfl ?_
  refine lv_aload_n hx hb dX6_init_4 rfl (lv_at hl 0 rfl) ?_
  refine lv_sipush (v := 900) hx hb dX6_init_5 rfl ?_
  refine y_newB (N' := 900) hx hb hW hK hP hD hS hA hO (by decide) rfl (by decide) (Nat.le_of_ble_eq_true rfl) (Nat.le_of_ble_eq_true rfl) dX6_init_8 (fun q1 H hP hD hS => ?_)
  have hP : va_P E.2.1 vwCl ((h0, .inr (6, [.null, .int 0, .int 0, .int 0, .int 0, .int 0, .int 0])) :: [(q1, (.inl (E.2.2.1 1, 900, .inl fun _ => 0)))]) H := hP
  have hD : va_D A ((h0, .inr (6, [.null, .int 0, .int 0, .int 0, .int 0, .int 0, .int 0])) :: [(q1, (.inl (E.2.2.1 1, 900, .inl fun _ => 0)))]) := hD
  refine y_putF (k := 0) (v := .ref q1) (ft := .array .byte) hx hb ho hW hK tyX6 tyX6_ok nmX6 zu_6 rfl (by decide) yi_fX6_9 rfl hin rfl rfl rfl rfl (Nat.le_of_ble_eq_true rfl) hP hD hS dX6_init_10 (fun H locs hP hD hS => ?_)
  have hP : va_P E.2.1 vwCl ((h0, .inr (6, [.ref q1, .int 0, .int 0, .int 0, .int 0, .int 0, .int 0])) :: [(q1, (.inl (E.2.2.1 1, 900, .inl fun _ => 0)))]) H := hP
  have hD : va_D A ((h0, .inr (6, [.ref q1, .int 0, .int 0, .int 0, .int 0, .int 0, .int 0])) :: [(q1, (.inl (E.2.2.1 1, 900, .inl fun _ => 0)))]) := hD
  exact W.widen (Nat.le_of_ble_eq_true rfl) (Nat.le_of_ble_eq_true rfl) (W.vret hx hb hr (fun t ht hW9 => ⟨⟨_, rfl, ⟨q1, rfl⟩, by rw [ht]; exact hP, hD⟩, hS.F ht⟩) hS.2.2 dX6_init_13)
set_option maxHeartbeats 4000000 in
set_option maxRecDepth 100000 in
theorem ysp_X1 (l : Launch) (E : EE) (h0 : Nat) : ysp l yX1_init cX1_init 1 1 1 32 E h0 [] (.inr (1, [.null, .int 0])) (fun w1 => ∃ a : Nat, w1 = [(h0, .inr (1, [.ref a, .int 0])), (a, .inl (E.2.2.1 1, 32, .inl fun _ => 0))]) := by
  intro sz
  refine Met.ofW (cc := cX1_init) (maxL := 1) (ret := none) (by decide) rfl ?_
  intro p e s m args below meth c s₁ B hml hv
  obtain ⟨rfl, hsz, hP, hK, hW, hO⟩ := hv
  have hx := B.exec
  have hb := B.bytes
  have hr := B.returns
  have ho : s.vm.findClass RX1 = some m.cls := findClass_of_methodNamed B.named
  have hlk := B.notSynchronized
  have hin : meth.name = "<init>" := (name_of_methodNamed B.named B.method).1
  subst hsz
  show W p l e (zrm 1 1 32) s m _ below meth c s.heap [] 0 0 _ _
  generalize hAe : va_A [(h0, (.inr (1, [.null, .int 0])))] s.heap.size = A
  have hA : ∀ q : Nat, s.heap.size ≤ q → A q := fun q h => by rw [← hAe]; exact Or.inr h
  have hD : va_D A [(h0, (.inr (1, [.null, .int 0])))] := y_one (by rw [← hAe]; exact Or.inl ⟨0, _, rfl⟩)
  have hS : va_S A s.heap s.heap [] := va_S.rf
  have hl := lv_entry ([.ref h0]) (n := 1) (Nat.le_of_ble_eq_true rfl)
  rw [lg_entry_eq]
  generalize (lg_sl ([.ref h0]) ++ List.replicate (1 - (lg_sl ([.ref h0])).length) Slot.unset).toArray = ls at hl ⊢
  have hl : lv_has ls 1 [(0, .ref h0)] := hl
  refine lv_aload_n hx hb dX1_init_0 rfl (lv_at hl 0 rfl) ?_
  refine W.objInit hx hb ho (zIn_use hW yi_oX1) (zIn_use hW yi_oi) (zIn_use hW yi_oc) rfl (by rw [hml]; exact hl.1) rfl dX1_init_1 (Nat.le_of_ble_eq_true rfl) (Nat.le_of_ble_eq_true rfl) ?_
  refine W.eq (g2 := F0 m 4 ls []) rfl ?_
  refine lv_aload_n hx hb dX1_init_4 rfl (lv_at hl 0 rfl) ?_
  refine lv_bipush (v := 32) hx hb dX1_init_5 rfl ?_
  refine y_newB (N' := 32) hx hb hW hK hP hD hS hA hO (by decide) rfl (by decide) (Nat.le_of_ble_eq_true rfl) (Nat.le_of_ble_eq_true rfl) dX1_init_7 (fun q1 H hP hD hS => ?_)
  have hP : va_P E.2.1 vwCl ((h0, .inr (1, [.null, .int 0])) :: [(q1, (.inl (E.2.2.1 1, 32, .inl fun _ => 0)))]) H := hP
  have hD : va_D A ((h0, .inr (1, [.null, .int 0])) :: [(q1, (.inl (E.2.2.1 1, 32, .inl fun _ => 0)))]) := hD
  refine y_putF (k := 0) (v := .ref q1) (ft := .array .byte) hx hb ho hW hK tyX1 tyX1_ok nmX1 zu_1 rfl (by decide) yi_fX1_11 rfl hin rfl rfl rfl rfl (Nat.le_of_ble_eq_true rfl) hP hD hS dX1_init_9 (fun H locs hP hD hS => ?_)
  have hP : va_P E.2.1 vwCl ((h0, .inr (1, [.ref q1, .int 0])) :: [(q1, (.inl (E.2.2.1 1, 32, .inl fun _ => 0)))]) H := hP
  have hD : va_D A ((h0, .inr (1, [.ref q1, .int 0])) :: [(q1, (.inl (E.2.2.1 1, 32, .inl fun _ => 0)))]) := hD
  exact W.widen (Nat.le_of_ble_eq_true rfl) (Nat.le_of_ble_eq_true rfl) (W.vret hx hb hr (fun t ht hW9 => ⟨⟨_, rfl, ⟨q1, rfl⟩, by rw [ht]; exact hP, hD⟩, hS.F ht⟩) hS.2.2 dX1_init_12)
set_option maxHeartbeats 4000000 in
set_option maxRecDepth 100000 in
theorem ysp_X2 (l : Launch) (E : EE) (h0 : Nat) (u v : Nat) : ysp l yX2_init cX2_init 3 1 0 0 E h0 [.ref u, .ref v] (.inr (2, [.null, .null, .int 0, .int 0])) (fun w1 => w1 = [(h0, .inr (2, [.ref u, .ref v, .int 0, .int 0]))]) := by
  intro sz
  refine Met.ofW (cc := cX2_init) (maxL := 3) (ret := none) (by decide) rfl ?_
  intro p e s m args below meth c s₁ B hml hv
  obtain ⟨rfl, hsz, hP, hK, hW, hO⟩ := hv
  have hx := B.exec
  have hb := B.bytes
  have hr := B.returns
  have ho : s.vm.findClass RX2 = some m.cls := findClass_of_methodNamed B.named
  have hlk := B.notSynchronized
  have hin : meth.name = "<init>" := (name_of_methodNamed B.named B.method).1
  subst hsz
  show W p l e (zrm 1 0 0) s m _ below meth c s.heap [] 0 0 _ _
  generalize hAe : va_A [(h0, (.inr (2, [.null, .null, .int 0, .int 0])))] s.heap.size = A
  have hA : ∀ q : Nat, s.heap.size ≤ q → A q := fun q h => by rw [← hAe]; exact Or.inr h
  have hD : va_D A [(h0, (.inr (2, [.null, .null, .int 0, .int 0])))] := y_one (by rw [← hAe]; exact Or.inl ⟨0, _, rfl⟩)
  have hS : va_S A s.heap s.heap [] := va_S.rf
  have hl := lv_entry ([.ref h0, .ref u, .ref v]) (n := 3) (Nat.le_of_ble_eq_true rfl)
  rw [lg_entry_eq]
  generalize (lg_sl ([.ref h0, .ref u, .ref v]) ++ List.replicate (3 - (lg_sl ([.ref h0, .ref u, .ref v])).length) Slot.unset).toArray = ls at hl ⊢
  have hl : lv_has ls 3 [(0, .ref h0), (1, .ref u), (2, .ref v)] := hl
  refine lv_aload_n hx hb dX2_init_0 rfl (lv_at hl 0 rfl) ?_
  refine W.objInit hx hb ho (zIn_use hW yi_oX2) (zIn_use hW yi_oi) (zIn_use hW yi_oc) rfl (by rw [hml]; exact hl.1) rfl dX2_init_1 (Nat.le_of_ble_eq_true rfl) (Nat.le_of_ble_eq_true rfl) ?_
  refine W.eq (g2 := F0 m 4 ls []) rfl ?_
  refine lv_aload_n hx hb dX2_init_4 rfl (lv_at hl 0 rfl) ?_
  refine lv_aload_n hx hb dX2_init_5 rfl (lv_at hl 1 rfl) ?_
  refine y_putF (k := 0) (v := .ref u) (ft := .object "NetMerge$Text") hx hb ho hW hK tyX2 tyX2_ok nmX2 zu_2 rfl (by decide) yi_fX2_9 rfl hin rfl rfl rfl rfl (Nat.le_of_ble_eq_true rfl) hP hD hS dX2_init_6 (fun H locs hP hD hS => ?_)
  have hP : va_P E.2.1 vwCl ((h0, .inr (2, [.ref u, .null, .int 0, .int 0])) :: []) H := hP
  have hD : va_D A ((h0, .inr (2, [.ref u, .null, .int 0, .int 0])) :: []) := hD
  refine lv_aload_n hx hb dX2_init_9 rfl (lv_at hl 0 rfl) ?_
  refine lv_aload_n hx hb dX2_init_10 rfl (lv_at hl 2 rfl) ?_
  refine y_putF (k := 1) (v := .ref v) (ft := .object "NetMerge$Nets") hx hb ho hW hK tyX2 tyX2_ok nmX2 zu_2 rfl (by decide) yi_fX2_15 rfl hin rfl rfl rfl rfl (Nat.le_of_ble_eq_true rfl) hP hD hS dX2_init_11 (fun H locs hP hD hS => ?_)
  have hP : va_P E.2.1 vwCl ((h0, .inr (2, [.ref u, .ref v, .int 0, .int 0])) :: []) H := hP
  have hD : va_D A ((h0, .inr (2, [.ref u, .ref v, .int 0, .int 0])) :: []) := hD
  exact W.widen (Nat.le_of_ble_eq_true rfl) (Nat.le_of_ble_eq_true rfl) (W.vret hx hb hr (fun t ht hW9 => ⟨⟨_, rfl, rfl, by rw [ht]; exact hP, hD⟩, hS.F ht⟩) hS.2.2 dX2_init_14)
set_option maxHeartbeats 4000000 in
set_option maxRecDepth 100000 in
theorem ysp_X4 (l : Launch) (E : EE) (h0 : Nat) (u : Nat) : ysp l yX4_init cX4_init 2 1 3 446 E h0 [.ref u] (.inr (4, [.null, .null, .int 0, .int 0, .int 0, .null, .int 0, .null, .int 0])) (fun w1 => ∃ a b d : Nat, w1 = [(h0, .inr (4, [.ref u, .ref a, .int 0, .int 0, .int 0, .ref b, .int 0, .ref d, .int 0])), (a, .inl (E.2.2.1 0, 203, .inl fun _ => 0)), (b, .inl (E.2.2.1 2, 203, .inr (.inl fun _ => 0))), (d, .inl (E.2.2.1 0, 40, .inl fun _ => 0))]) := by
  intro sz
  refine Met.ofW (cc := cX4_init) (maxL := 2) (ret := none) (by decide) rfl ?_
  intro p e s m args below meth c s₁ B hml hv
  obtain ⟨rfl, hsz, hP, hK, hW, hO⟩ := hv
  have hx := B.exec
  have hb := B.bytes
  have hr := B.returns
  have ho : s.vm.findClass RX4 = some m.cls := findClass_of_methodNamed B.named
  have hlk := B.notSynchronized
  have hin : meth.name = "<init>" := (name_of_methodNamed B.named B.method).1
  subst hsz
  show W p l e (zrm 1 3 446) s m _ below meth c s.heap [] 0 0 _ _
  generalize hAe : va_A [(h0, (.inr (4, [.null, .null, .int 0, .int 0, .int 0, .null, .int 0, .null, .int 0])))] s.heap.size = A
  have hA : ∀ q : Nat, s.heap.size ≤ q → A q := fun q h => by rw [← hAe]; exact Or.inr h
  have hD : va_D A [(h0, (.inr (4, [.null, .null, .int 0, .int 0, .int 0, .null, .int 0, .null, .int 0])))] := y_one (by rw [← hAe]; exact Or.inl ⟨0, _, rfl⟩)
  have hS : va_S A s.heap s.heap [] := va_S.rf
  have hl := lv_entry ([.ref h0, .ref u]) (n := 2) (Nat.le_of_ble_eq_true rfl)
  rw [lg_entry_eq]
  generalize (lg_sl ([.ref h0, .ref u]) ++ List.replicate (2 - (lg_sl ([.ref h0, .ref u])).length) Slot.unset).toArray = ls at hl ⊢
  have hl : lv_has ls 2 [(0, .ref h0), (1, .ref u)] := hl
  refine lv_aload_n hx hb dX4_init_0 rfl (lv_at hl 0 rfl) ?_
  refine W.objInit hx hb ho (zIn_use hW yi_oX4) (zIn_use hW yi_oi) (zIn_use hW yi_oc) rfl (by rw [hml]; exact hl.1) rfl dX4_init_1 (Nat.le_of_ble_eq_true rfl) (Nat.le_of_ble_eq_true rfl) ?_
  refine W.eq (g2 := F0 m 4 ls []) rfl ?_
  refine lv_aload_n hx hb dX4_init_4 rfl (lv_at hl 0 rfl) ?_
  refine lv_sipush (v := 203) hx hb dX4_init_5 rfl ?_
  refine y_newI (N' := 203) hx hb hW hK hP hD hS hA hO (by decide) rfl (by decide) (Nat.le_of_ble_eq_true rfl) (Nat.le_of_ble_eq_true rfl) dX4_init_8 (fun q1 H hP hD hS => ?_)
  have hP : va_P E.2.1 vwCl ((h0, .inr (4, [.null, .null, .int 0, .int 0, .int 0, .null, .int 0, .null, .int 0])) :: [(q1, (.inl (E.2.2.1 0, 203, .inl fun _ => 0)))]) H := hP
  have hD : va_D A ((h0, .inr (4, [.null, .null, .int 0, .int 0, .int 0, .null, .int 0, .null, .int 0])) :: [(q1, (.inl (E.2.2.1 0, 203, .inl fun _ => 0)))]) := hD
  refine y_putF (k := 1) (v := .ref q1) (ft := .array .int) hx hb ho hW hK tyX4 tyX4_ok nmX4 zu_4 rfl (by decide) yi_fX4_11 rfl hin rfl rfl rfl rfl (Nat.le_of_ble_eq_true rfl) hP hD hS dX4_init_10 (fun H locs hP hD hS => ?_)
  have hP : va_P E.2.1 vwCl ((h0, .inr (4, [.null, .ref q1, .int 0, .int 0, .int 0, .null, .int 0, .null, .int 0])) :: [(q1, (.inl (E.2.2.1 0, 203, .inl fun _ => 0)))]) H := hP
  have hD : va_D A ((h0, .inr (4, [.null, .ref q1, .int 0, .int 0, .int 0, .null, .int 0, .null, .int 0])) :: [(q1, (.inl (E.2.2.1 0, 203, .inl fun _ => 0)))]) := hD
  refine lv_aload_n hx hb dX4_init_13 rfl (lv_at hl 0 rfl) ?_
  refine lv_sipush (v := 203) hx hb dX4_init_14 rfl ?_
  refine y_newL (N' := 203) hx hb hW hK hP hD hS hA hO (by decide) rfl (by decide) (Nat.le_of_ble_eq_true rfl) (Nat.le_of_ble_eq_true rfl) dX4_init_17 (fun q2 H hP hD hS => ?_)
  have hP : va_P E.2.1 vwCl ((h0, .inr (4, [.null, .ref q1, .int 0, .int 0, .int 0, .null, .int 0, .null, .int 0])) :: [(q1, (.inl (E.2.2.1 0, 203, .inl fun _ => 0))), (q2, (.inl (E.2.2.1 2, 203, .inr (.inl fun _ => 0))))]) H := hP
  have hD : va_D A ((h0, .inr (4, [.null, .ref q1, .int 0, .int 0, .int 0, .null, .int 0, .null, .int 0])) :: [(q1, (.inl (E.2.2.1 0, 203, .inl fun _ => 0))), (q2, (.inl (E.2.2.1 2, 203, .inr (.inl fun _ => 0))))]) := hD
  refine y_putF (k := 5) (v := .ref q2) (ft := .array .long) hx hb ho hW hK tyX4 tyX4_ok nmX4 zu_4 rfl (by decide) yi_fX4_15 rfl hin rfl rfl rfl rfl (Nat.le_of_ble_eq_true rfl) hP hD hS dX4_init_19 (fun H locs hP hD hS => ?_)
  have hP : va_P E.2.1 vwCl ((h0, .inr (4, [.null, .ref q1, .int 0, .int 0, .int 0, .ref q2, .int 0, .null, .int 0])) :: [(q1, (.inl (E.2.2.1 0, 203, .inl fun _ => 0))), (q2, (.inl (E.2.2.1 2, 203, .inr (.inl fun _ => 0))))]) H := hP
  have hD : va_D A ((h0, .inr (4, [.null, .ref q1, .int 0, .int 0, .int 0, .ref q2, .int 0, .null, .int 0])) :: [(q1, (.inl (E.2.2.1 0, 203, .inl fun _ => 0))), (q2, (.inl (E.2.2.1 2, 203, .inr (.inl fun _ => 0))))]) := hD
  refine lv_aload_n hx hb dX4_init_22 rfl (lv_at hl 0 rfl) ?_
  refine lv_bipush (v := 40) hx hb dX4_init_23 rfl ?_
  refine y_newI (N' := 40) hx hb hW hK hP hD hS hA hO (by decide) rfl (by decide) (Nat.le_of_ble_eq_true rfl) (Nat.le_of_ble_eq_true rfl) dX4_init_25 (fun q3 H hP hD hS => ?_)
  have hP : va_P E.2.1 vwCl ((h0, .inr (4, [.null, .ref q1, .int 0, .int 0, .int 0, .ref q2, .int 0, .null, .int 0])) :: [(q1, (.inl (E.2.2.1 0, 203, .inl fun _ => 0))), (q2, (.inl (E.2.2.1 2, 203, .inr (.inl fun _ => 0)))), (q3, (.inl (E.2.2.1 0, 40, .inl fun _ => 0)))]) H := hP
  have hD : va_D A ((h0, .inr (4, [.null, .ref q1, .int 0, .int 0, .int 0, .ref q2, .int 0, .null, .int 0])) :: [(q1, (.inl (E.2.2.1 0, 203, .inl fun _ => 0))), (q2, (.inl (E.2.2.1 2, 203, .inr (.inl fun _ => 0)))), (q3, (.inl (E.2.2.1 0, 40, .inl fun _ => 0)))]) := hD
  refine y_putF (k := 7) (v := .ref q3) (ft := .array .int) hx hb ho hW hK tyX4 tyX4_ok nmX4 zu_4 rfl (by decide) yi_fX4_19 rfl hin rfl rfl rfl rfl (Nat.le_of_ble_eq_true rfl) hP hD hS dX4_init_27 (fun H locs hP hD hS => ?_)
  have hP : va_P E.2.1 vwCl ((h0, .inr (4, [.null, .ref q1, .int 0, .int 0, .int 0, .ref q2, .int 0, .ref q3, .int 0])) :: [(q1, (.inl (E.2.2.1 0, 203, .inl fun _ => 0))), (q2, (.inl (E.2.2.1 2, 203, .inr (.inl fun _ => 0)))), (q3, (.inl (E.2.2.1 0, 40, .inl fun _ => 0)))]) H := hP
  have hD : va_D A ((h0, .inr (4, [.null, .ref q1, .int 0, .int 0, .int 0, .ref q2, .int 0, .ref q3, .int 0])) :: [(q1, (.inl (E.2.2.1 0, 203, .inl fun _ => 0))), (q2, (.inl (E.2.2.1 2, 203, .inr (.inl fun _ => 0)))), (q3, (.inl (E.2.2.1 0, 40, .inl fun _ => 0)))]) := hD
  refine lv_aload_n hx hb dX4_init_30 rfl (lv_at hl 0 rfl) ?_
  refine lv_aload_n hx hb dX4_init_31 rfl (lv_at hl 1 rfl) ?_
  refine y_putF (k := 0) (v := .ref u) (ft := .object "NetMerge$Text") hx hb ho hW hK tyX4 tyX4_ok nmX4 zu_4 rfl (by decide) yi_fX4_22 rfl hin rfl rfl rfl rfl (Nat.le_of_ble_eq_true rfl) hP hD hS dX4_init_32 (fun H locs hP hD hS => ?_)
  have hP : va_P E.2.1 vwCl ((h0, .inr (4, [.ref u, .ref q1, .int 0, .int 0, .int 0, .ref q2, .int 0, .ref q3, .int 0])) :: [(q1, (.inl (E.2.2.1 0, 203, .inl fun _ => 0))), (q2, (.inl (E.2.2.1 2, 203, .inr (.inl fun _ => 0)))), (q3, (.inl (E.2.2.1 0, 40, .inl fun _ => 0)))]) H := hP
  have hD : va_D A ((h0, .inr (4, [.ref u, .ref q1, .int 0, .int 0, .int 0, .ref q2, .int 0, .ref q3, .int 0])) :: [(q1, (.inl (E.2.2.1 0, 203, .inl fun _ => 0))), (q2, (.inl (E.2.2.1 2, 203, .inr (.inl fun _ => 0)))), (q3, (.inl (E.2.2.1 0, 40, .inl fun _ => 0)))]) := hD
  exact W.widen (Nat.le_of_ble_eq_true rfl) (Nat.le_of_ble_eq_true rfl) (W.vret hx hb hr (fun t ht hW9 => ⟨⟨_, rfl, ⟨q1, q2, q3, rfl⟩, by rw [ht]; exact hP, hD⟩, hS.F ht⟩) hS.2.2 dX4_init_35)
def blk (E : EE) (a : Nat → Nat → Nat) (n : Nat) : va_W := (List.range n).flatMap (fun j => nbk E (a j))
def hbk (E : EE) (h0 r : Nat) (a : Nat → Nat → Nat) : va_W := (h0, .inr (0, [.ref r, .int 0, .int 0])) :: (r, .inl (E.2.2.1 3, 10, .inr (.inr (.inr (.inr fun j => some (a j 0)))))) :: blk E a 10
theorem blk_s {E : EE} {a : Nat → Nat → Nat} {n : Nat} : blk E a (n + 1) = blk E a n ++ nbk E (a n) := by
  unfold blk
  rw [List.range_succ, List.flatMap_append, List.flatMap_cons, List.flatMap_nil, List.append_nil]
theorem blk_congr {E : EE} {a b : Nat → Nat → Nat} {n : Nat} (h : ∀ j, j < n → a j = b j) : blk E a n = blk E b n := by
  induction n with
  | zero => rfl
  | succ n ih => rw [blk_s, blk_s, ih (fun j hj => h j (by omega)), h n (by omega)]
theorem vpq_congr {cA : ClassId} {n : Nat} {f g : Nat → Option Nat} (h : ∀ j, j < n → f j = g j) : vp_cell cA (n, .inr (.inr (.inr (.inr f)))) = vp_cell cA (n, .inr (.inr (.inr (.inr g)))) := by
  rw [vp_cell_q, vp_cell_q]
  unfold arrV
  congr 2
  funext j
  show va_rf (f j.val) = va_rf (g j.val)
  rw [h j.val j.isLt]
set_option maxHeartbeats 4000000 in
set_option maxRecDepth 100000 in
theorem ysp_X0 (l : Launch) (E : EE) (h0 : Nat) : ysp l yX0_init cX0_init 2 2 131 8210 E h0 [] (.inr (0, [.null, .int 0, .int 0])) (fun w1 => ∃ (r : Nat) (a : Nat → Nat → Nat), w1 = hbk E h0 r a) := by
  intro sz
  refine Met.ofW (cc := cX0_init) (maxL := 2) (ret := none) (by decide) rfl ?_
  intro p e s m args below meth c s₁ B hml hv
  obtain ⟨rfl, hsz, hP, hK, hW, hO⟩ := hv
  have hx := B.exec
  have hb := B.bytes
  have hr := B.returns
  have ho : s.vm.findClass RX0 = some m.cls := findClass_of_methodNamed B.named
  have hlk := B.notSynchronized
  have hin : meth.name = "<init>" := (name_of_methodNamed B.named B.method).1
  subst hsz
  show W p l e (zrm 2 131 8210) s m _ below meth c s.heap [] 0 0 _ _
  generalize hAe : va_A [(h0, (.inr (0, [.null, .int 0, .int 0])))] s.heap.size = A
  have hA : ∀ q : Nat, s.heap.size ≤ q → A q := fun q h => by rw [← hAe]; exact Or.inr h
  have hD : va_D A [(h0, (.inr (0, [.null, .int 0, .int 0])))] := y_one (by rw [← hAe]; exact Or.inl ⟨0, _, rfl⟩)
  have hS : va_S A s.heap s.heap [] := va_S.rf
  have hl := lv_entry ([.ref h0]) (n := 2) (Nat.le_of_ble_eq_true rfl)
  rw [lg_entry_eq]
  generalize (lg_sl ([.ref h0]) ++ List.replicate (2 - (lg_sl ([.ref h0])).length) Slot.unset).toArray = ls at hl ⊢
  have hl : lv_has ls 2 [(0, .ref h0)] := hl
  refine lv_aload_n hx hb dX0_init_0 rfl (lv_at hl 0 rfl) ?_
  refine W.objInit hx hb ho (zIn_use hW yi_oX0) (zIn_use hW yi_oi) (zIn_use hW yi_oc) rfl (by rw [hml]; exact hl.1) rfl dX0_init_1 (Nat.le_of_ble_eq_true rfl) (Nat.le_of_ble_eq_true rfl) ?_
  refine W.eq (g2 := F0 m 4 ls []) rfl ?_
  refine lv_aload_n hx hb dX0_init_4 rfl (lv_at hl 0 rfl) ?_
  refine lv_bipush (v := 10) hx hb dX0_init_5 rfl ?_
  refine y_newQ (N' := 10) hx hb ho hW hO hK hP hD hS hA yi_kX0_9 (by decide) rfl (by decide) (Nat.le_of_ble_eq_true rfl) (Nat.le_of_ble_eq_true rfl) dX0_init_7 (fun r H hP hD hS => ?_)
  have hP : va_P E.2.1 vwCl ((h0, .inr (0, [.null, .int 0, .int 0])) :: [(r, .inl (E.2.2.1 3, 10, .inr (.inr (.inr (.inr fun _ => none)))))]) H := hP
  have hD : va_D A ((h0, .inr (0, [.null, .int 0, .int 0])) :: [(r, .inl (E.2.2.1 3, 10, .inr (.inr (.inr (.inr fun _ => none)))))]) := hD
  refine y_putF (k := 0) (v := .ref r) (ft := .array (.object "NetMerge$Nets")) hx hb ho hW hK tyX0 tyX0_ok nmX0 zu_0 rfl (by decide) yi_fX0_11 rfl hin rfl rfl rfl rfl (by decide) hP hD hS dX0_init_10 (fun H locs hP hD hS => ?_)
  have hP : va_P E.2.1 vwCl ((h0, .inr (0, [.ref r, .int 0, .int 0])) :: (r, .inl (E.2.2.1 3, 10, .inr (.inr (.inr (.inr fun _ => none))))) :: blk E (fun _ _ => 0) 0) H := hP
  have hD : va_D A ((h0, .inr (0, [.ref r, .int 0, .int 0])) :: (r, .inl (E.2.2.1 3, 10, .inr (.inr (.inr (.inr fun _ => none))))) :: blk E (fun _ _ => 0) 0) := hD
  refine lv_iconst (v := 0) hx hb dX0_init_13 rfl ?_
  refine lv_istore_n (lv' := [(1, .int (Int32.ofInt ((0 : Nat) : Int))), (0, .ref h0)]) hx hb dX0_init_14 rfl hl (by decide) rfl (fun ls hl => ?_)
  have loop : ∀ (n i : Nat) (cells slots : Nat) (f : Nat → Option Nat) (a : Nat → Nat → Nat) (H : Heap) (locs : List Loc) (ls : Array Slot), i + n = 10 → cells ≤ 1 + 13 * i → slots ≤ 10 + 820 * i → (∀ j, j < i → f j = some (a j 0)) → va_P E.2.1 vwCl ((h0, .inr (0, [.ref r, .int 0, .int 0])) :: (r, .inl (E.2.2.1 3, 10, .inr (.inr (.inr (.inr f))))) :: blk E a i) H → va_D A ((h0, .inr (0, [.ref r, .int 0, .int 0])) :: (r, .inl (E.2.2.1 3, 10, .inr (.inr (.inr (.inr f))))) :: blk E a i) → va_S A s.heap H locs → lv_has ls 2 [(1, .int (Int32.ofInt (i : Int))), (0, .ref h0)] → W p l e (zrm 2 131 8210) s m #[.ref h0] below meth c H locs cells slots (MQ below (va_Qv (fun w1 : va_W => ∃ (r : Nat) (a : Nat → Nat → Nat), w1 = hbk E h0 r a) (fun w1 t => va_P E.2.1 vwCl w1 t.heap ∧ va_D A w1) A) #[.ref h0] s 131 8210 A) (F0 m 15 ls []) := by
    intro n
    induction n with
    | zero =>
      intro i cells slots f a H locs ls hi hc1 hc2 hf hP hD hS hl
      have hi : i = 10 := by omega
      subst hi
      refine lv_iload_n hx hb dX0_init_15 rfl (lv_at hl 0 rfl) ?_
      refine lv_bipush (v := 10) hx hb dX0_init_16 rfl ?_
      refine lv_icmp_ge (tgt := 40) hx hb dX0_init_18 (by decide) (fun _ => ?_) (fun q => absurd (by decide) q)
      have hP2 : va_P E.2.1 vwCl (hbk E h0 r a) H := fun k q hk => by
        match k, hk with
        | 0, hk => exact hP 0 q hk
        | 1, hk =>
          cases hk
          have h1 := hP 1 _ rfl
          show H[r]? = some (vp_cell _ _)
          rw [← vpq_congr hf]
          exact h1
        | k + 2, hk => exact hP (k + 2) q hk
      have hD2 : va_D A (hbk E h0 r a) := ⟨fun i j p q hi hj e => ?_, fun k q hk => ?_⟩
      · exact W.widen (by omega) (by omega) (W.vret hx hb hr (fun t ht hW9 => ⟨⟨_, rfl, ⟨r, a, rfl⟩, by rw [ht]; exact hP2, hD2⟩, hS.F ht⟩) hS.2.2 dX0_init_40)
      · have key : ∀ (k : Nat) (q : Nat × va_E), (hbk E h0 r a)[k]? = some q → ∃ e2, ((h0, .inr (0, [.ref r, .int 0, .int 0])) :: (r, .inl (E.2.2.1 3, 10, .inr (.inr (.inr (.inr f))))) :: blk E a 10 : va_W)[k]? = some (q.1, e2) := fun k q hk => by
          match k, hk with
          | 0, hk => exact ⟨_, hk⟩
          | 1, hk => cases hk; exact ⟨_, rfl⟩
          | k + 2, hk => exact ⟨_, hk⟩
        obtain ⟨e1, h1⟩ := key i p hi
        obtain ⟨e2, h2⟩ := key j q hj
        exact hD.1 i j _ _ h1 h2 e
      · match k, hk with
        | 0, hk => exact hD.2 0 q hk
        | 1, hk => cases hk; exact hD.2 1 (r, .inl (E.2.2.1 3, 10, .inr (.inr (.inr (.inr f))))) rfl
        | k + 2, hk => exact hD.2 (k + 2) q hk
    | succ n ih =>
      intro i cells slots f a H locs ls hi hc1 hc2 hf hP hD hS hl
      have ci : zr (i : Int) := zri (by omega) (by omega)
      have c10 : zr 10 := zri (by omega) (by omega)
      have n10 : (10 : Int32) = Int32.ofInt 10 := rfl
      refine lv_iload_n hx hb dX0_init_15 rfl (lv_at hl 0 rfl) ?_
      refine lv_bipush (v := 10) hx hb dX0_init_16 rfl ?_
      refine lv_icmp_ge (tgt := 40) hx hb dX0_init_18 (by decide) (fun q => absurd q (by rw [n10]; intro w; exact absurd (Int32.not_lt.mpr w) (fun z => z ((zI_lt ci c10).mpr (by omega))))) (fun _ => ?_)
      refine lv_aload_n hx hb dX0_init_21 rfl (lv_at hl 1 rfl) ?_
      refine y_get (k := 0) (v := .ref r) (C := RX0) (T := TX0) (N := 3) hx hb ho hW hK zu_0 rfl (by decide) yi_fX0_11 rfl hP dX0_init_22 ?_
      refine lv_iload_n hx hb dX0_init_25 rfl (lv_at hl 0 rfl) ?_
      refine y_new (fs := [.int 0, .int 0, .int 0, .int 0, .int 0, .int 0, .int 0, .int 0, .null, .null, .null, .null, .null, .null, .null, .null, .null, .null, .null, .null]) hx hb ho hW hK hP hD hS hA tyX3 tyX3_ok zu_3 yi_kX0_9 yi_nX3 yi_iX3 (ci := 3) rfl (by decide +kernel) (show _ ≤ 131 by omega) (show _ ≤ 8210 by omega) dX0_init_26 (fun q H hP hD hS => ?_)
      refine lv_dup hx hb dX0_init_29 rfl ?_
      refine y_callI hx hb ho hW hO hK (ysp_X3 l E q) yc_X3 yi_lX0_17 yi_mX3 rfl (wr := (h0, .inr (0, [.ref r, .int 0, .int 0])) :: (r, .inl (E.2.2.1 3, 10, .inr (.inr (.inr (.inr f))))) :: blk E a i) hP hD hS hA rfl (by rw [hml]; exact hl.1) rfl (Nat.le_of_ble_eq_true rfl) (by decide) (by decide) (by decide) (by omega) (by omega) dX0_init_30 (fun w1 H locs hw1 hP hD hS => ?_)
      obtain ⟨b, hb0, rfl⟩ := hw1
      have ea : blk E (fun j => if j = i then b else a j) (i + 1) = blk E a i ++ nbk E b := by
        rw [blk_s, if_pos rfl]
        congr 1
        exact blk_congr (fun j hj => if_neg (by omega))
      refine va_astq hx hb hK hP hD hS 1 3 ((blk E a i).length + 2) 3 rfl rfl (v := q) (vs := [.int 0, .int 0, .int 0, .int 0, .int 0, .int 0, .int 0, .int 0, .ref (b 1), .ref (b 2), .ref (b 3), .ref (b 4), .ref (b 5), .ref (b 6), .ref (b 7), .ref (b 8), .ref (b 9), .ref (b 10), .ref (b 11), .ref (b 12)]) ?_ rfl (zI_in ci (by omega)) dX0_init_33 (fun H locs hP hD hS => ?_)
      · show (blk E a i ++ nbk E b)[(blk E a i).length]? = _
        rw [List.getElem?_append_right (Nat.le_refl _), Nat.sub_self, ← hb0]
        rfl
      rw [zI_cl ci (by omega)] at hP hD
      refine lv_iinc (v := Int32.ofInt ((i + 1 : Nat) : Int)) (lv' := [(1, .int (Int32.ofInt ((i + 1 : Nat) : Int))), (0, .ref h0)]) hx hb dX0_init_34 hl (k := 0) rfl (by rw [Int.natCast_add, Int32.ofInt_add]; rfl) (by decide) rfl (fun ls hl => ?_)
      refine lv_goto (tgt := 15) hx hb dX0_init_37 (by decide) ?_
      refine ih (i + 1) _ _ (va_up f ((i : Int)).toNat (some q)) (fun j => if j = i then b else a j) H locs ls (by omega) (by omega) (by omega) (fun j hj => ?_) (by rw [ea]; exact hP) (by rw [ea]; exact hD) hS hl
      unfold va_up
      by_cases c : j = i
      · subst c; simp [hb0]
      · rw [if_neg (by omega), if_neg c]; exact hf j (by omega)
  exact loop 10 0 _ _ _ (fun _ _ => 0) H locs ls rfl (by decide) (by decide) (fun j hj => absurd hj (by omega)) hP hD hS hl
