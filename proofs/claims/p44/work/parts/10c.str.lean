theorem zc_J0_length_8abf5 : zCl yJ0_length_8abf5 cJ0_length_8abf5 1 (some .int) 0 := ⟨zin_at (w := .initialized yJ0_length_8abf5.cls) 80 (by decide +kernel) (by decide +kernel), zin_at (w := .code yJ0_length_8abf5 cJ0_length_8abf5 1 (some .int)) 391 (by decide +kernel) (by decide +kernel), by decide, by decide +kernel⟩
theorem zim_J0_length_8abf5 : zIn (.instanceMethod yJ0_length_8abf5) := zin_at (w := .instanceMethod yJ0_length_8abf5) 389 (by decide +kernel) (by decide +kernel)
theorem zse_J0_length_8abf5 : zIn (.selects yJ0_length_8abf5.cls yJ0_length_8abf5 yJ0_length_8abf5) := zin_at (w := .selects yJ0_length_8abf5.cls yJ0_length_8abf5 yJ0_length_8abf5) 390 (by decide +kernel) (by decide +kernel)
theorem zc_J0_coder_7d493 : zCl yJ0_coder_7d493 cJ0_coder_7d493 1 (some .byte) 0 := ⟨zin_at (w := .initialized yJ0_coder_7d493.cls) 80 (by decide +kernel) (by decide +kernel), zin_at (w := .code yJ0_coder_7d493 cJ0_coder_7d493 1 (some .byte)) 395 (by decide +kernel) (by decide +kernel), by decide, by decide +kernel⟩
theorem zim_J0_coder_7d493 : zIn (.instanceMethod yJ0_coder_7d493) := zin_at (w := .instanceMethod yJ0_coder_7d493) 393 (by decide +kernel) (by decide +kernel)
theorem zse_J0_coder_7d493 : zIn (.selects yJ0_coder_7d493.cls yJ0_coder_7d493 yJ0_coder_7d493) := zin_at (w := .selects yJ0_coder_7d493.cls yJ0_coder_7d493 yJ0_coder_7d493) 394 (by decide +kernel) (by decide +kernel)
theorem zc_J0_charAt_5068e : zCl yJ0_charAt_5068e cJ0_charAt_5068e 2 (some .char) 1 := ⟨zin_at (w := .initialized yJ0_charAt_5068e.cls) 80 (by decide +kernel) (by decide +kernel), zin_at (w := .code yJ0_charAt_5068e cJ0_charAt_5068e 2 (some .char)) 401 (by decide +kernel) (by decide +kernel), by decide, by decide +kernel⟩
theorem zim_J0_charAt_5068e : zIn (.instanceMethod yJ0_charAt_5068e) := zin_at (w := .instanceMethod yJ0_charAt_5068e) 399 (by decide +kernel) (by decide +kernel)
theorem zse_J0_charAt_5068e : zIn (.selects yJ0_charAt_5068e.cls yJ0_charAt_5068e yJ0_charAt_5068e) := zin_at (w := .selects yJ0_charAt_5068e.cls yJ0_charAt_5068e yJ0_charAt_5068e) 400 (by decide +kernel) (by decide +kernel)
theorem zc_J0_isLatin1_aae02 : zCl yJ0_isLatin1_aae02 cJ0_isLatin1_aae02 1 (some .boolean) 0 := ⟨zin_at (w := .initialized yJ0_isLatin1_aae02.cls) 80 (by decide +kernel) (by decide +kernel), zin_at (w := .code yJ0_isLatin1_aae02 cJ0_isLatin1_aae02 1 (some .boolean)) 405 (by decide +kernel) (by decide +kernel), by decide, by decide +kernel⟩
theorem zim_J0_isLatin1_aae02 : zIn (.instanceMethod yJ0_isLatin1_aae02) := zin_at (w := .instanceMethod yJ0_isLatin1_aae02) 403 (by decide +kernel) (by decide +kernel)
theorem zse_J0_isLatin1_aae02 : zIn (.selects yJ0_isLatin1_aae02.cls yJ0_isLatin1_aae02 yJ0_isLatin1_aae02) := zin_at (w := .selects yJ0_isLatin1_aae02.cls yJ0_isLatin1_aae02 yJ0_isLatin1_aae02) 404 (by decide +kernel) (by decide +kernel)
theorem zc_J1_charAt_3b067 : zCl yJ1_charAt_3b067 cJ1_charAt_3b067 2 (some .char) 2 := ⟨zin_at (w := .initialized yJ1_charAt_3b067.cls) 81 (by decide +kernel) (by decide +kernel), zin_at (w := .code yJ1_charAt_3b067 cJ1_charAt_3b067 2 (some .char)) 408 (by decide +kernel) (by decide +kernel), by decide, by decide +kernel⟩
theorem zst_J1_charAt_3b067 : zIn (.static yJ1_charAt_3b067) := zin_at (w := .static yJ1_charAt_3b067) 407 (by decide +kernel) (by decide +kernel)
theorem zc_J0_checkIndex_df160 : zCl yJ0_checkIndex_df160 cJ0_checkIndex_df160 2 none 2 := ⟨zin_at (w := .initialized yJ0_checkIndex_df160.cls) 80 (by decide +kernel) (by decide +kernel), zin_at (w := .code yJ0_checkIndex_df160 cJ0_checkIndex_df160 2 none) 411 (by decide +kernel) (by decide +kernel), by decide, by decide +kernel⟩
theorem zst_J0_checkIndex_df160 : zIn (.static yJ0_checkIndex_df160) := zin_at (w := .static yJ0_checkIndex_df160) 410 (by decide +kernel) (by decide +kernel)
theorem zc_J3_checkIndex_8e157 : zCl yJ3_checkIndex_8e157 cJ3_checkIndex_8e157 3 (some .int) 3 := ⟨zin_at (w := .initialized yJ3_checkIndex_8e157.cls) 82 (by decide +kernel) (by decide +kernel), zin_at (w := .code yJ3_checkIndex_8e157 cJ3_checkIndex_8e157 3 (some .int)) 416 (by decide +kernel) (by decide +kernel), by decide, by decide +kernel⟩
theorem zst_J3_checkIndex_8e157 : zIn (.static yJ3_checkIndex_8e157) := zin_at (w := .static yJ3_checkIndex_8e157) 415 (by decide +kernel) (by decide +kernel)
theorem zpnS_RJ0 : plainName RJ0 = true := by decide
theorem zpnS_RJ1 : plainName RJ1 = true := by decide
theorem zpnS_RJ3 : plainName RJ3 = true := by decide
section ZS
variable {l0 : Launch} {a : ZC} {M : ZM} {cc : ByteArray} {own : String} {mL : Nat} {ret : Option FieldType} {mn : Nat} {tb : List (Nat × Nat × Nat × Nat)} {k n pc : Nat} {ls : List (Option AV)} {st : List AV} {h : Hp}
theorem zST_of {l : Launch} {E : EE} {s : State} (hK : zKK l E s) : zST E s s.heap := hK.2.2.2.2.2.2.2
theorem zV_xret (O : zOk l0 a cc own mL ret mn tb) {z : Int} {ty : FieldType} (hr2 : ret = some ty) (hnar : narrow ty (.int (Int32.ofInt z)) = .int (Int32.ofInt z)) (hq : M.2.2.2.1 (some (aI z)) h) (hk : k ≤ M.2.1) (hn : n ≤ M.2.2.1) (hd : decode cc pc = .ok (.ireturn, 1)) : zV a M k n pc ls [aI z] h := by
  obtain ⟨⟨p, l, e, s, m, args, below, meth, c⟩, G, E, N⟩ := a
  obtain ⟨hx, hb, hml, hr, ho, hlk, hK, hAD, hN, hex, hl0, hG⟩ := O
  intro cs cl hh H locs la hP hS hL
  exact W.widen hk hn (vx_ret (W.zret hx hb (hr.trans hr2) hnar (fun t ht hW => ⟨⟨some (aI z), h, rfl, fun v hv => by cases hv; exact cs _ List.mem_cons_self, hh, hq, by rw [ht]; exact zEx_wd hG hP⟩, by rw [zEx_ge hG]; exact hS.F ht⟩) hS.2.2 hd hlk))
theorem zV_ldcS (O : zOk l0 a cc own mL ret mn tb) {w i : Nat} (hw : w < zSN ∧ (zsd w).1 = own ∧ (zsd w).2.1 = i) (hd : decode cc pc = .ok (.ldc i, 2)) (kk : zV a M k n (pc + 2) ls (aR (1000 + w) :: st) h) : zV a M k n pc ls st h := by
  obtain ⟨⟨p, l, e, s, m, args, below, meth, c⟩, G, E, N⟩ := a
  obtain ⟨hx, hb, hml, hr, ho, hlk, hK, hAD, hN, hex, hl0, hG⟩ := O
  intro cs cl hh H locs la hP hS hL
  obtain ⟨h1, h2, h3⟩ := hw
  subst h2
  subst h3
  exact va_ldcS hx hb ho ((zST_of hK).2.2.1 w h1).1 hd (kk (fun v hv => (List.mem_cons.mp hv).elim (fun e => e ▸ trivial) (cs v)) cl hh H locs la hP hS hL)
theorem zV_gCS (O : zOk l0 a cc own mL ret mn tb) {i : Nat} (hl : zIn (.fieldLink own i "java/lang/String" "COMPACT_STRINGS" "Z")) (hd : decode cc pc = .ok (.getstatic i, 3)) (kk : zV a M k n (pc + 3) ls (aI 1 :: st) h) : zV a M k n pc ls st h := by
  obtain ⟨⟨p, l, e, s, m, args, below, meth, c⟩, G, E, N⟩ := a
  obtain ⟨hx, hb, hml, hr, ho, hlk, hK, hAD, hN, hex, hl0, hG⟩ := O
  intro cs cl hh H locs la hP hS hL
  exact va_gets hx hb (zST_of hK).1 hS ho (zIn_use hK.2.1 hl) (fun _ h => h) hd (kk (fun v hv => (List.mem_cons.mp hv).elim (fun e => e ▸ ⟨by omega, by omega⟩) (cs v)) cl hh H locs la hP hS hL)
theorem zV_gSI (O : zOk l0 a cc own mL ret mn tb) {i : Nat} (hl : zIn (.fieldLink own i "jdk/internal/util/Preconditions" "SIOOBE_FORMATTER" "Ljava/util/function/BiFunction;")) (hd : decode cc pc = .ok (.getstatic i, 3)) (kk : ∀ q : Nat, zV a M k n (pc + 3) ls (aA q :: st) h) : zV a M k n pc ls st h := by
  obtain ⟨⟨p, l, e, s, m, args, below, meth, c⟩, G, E, N⟩ := a
  obtain ⟨hx, hb, hml, hr, ho, hlk, hK, hAD, hN, hex, hl0, hG⟩ := O
  intro cs cl hh H locs la hP hS hL
  rcases (zST_of hK).2.1 with hz | ⟨t, hz⟩
  · exact va_gets hx hb hz hS ho (zIn_use hK.2.1 hl) (fun _ h => h) hd (kk 0 (fun v hv => (List.mem_cons.mp hv).elim (fun e => e ▸ trivial) (cs v)) cl hh H locs la hP hS hL)
  · exact va_gets hx hb hz hS ho (zIn_use hK.2.1 hl) (fun _ h => h) hd (kk (t + 1) (fun v hv => (List.mem_cons.mp hv).elim (fun e => e ▸ trivial) (cs v)) cl hh H locs la hP hS hL)
theorem zV_gcod (O : zOk l0 a cc own mL ret mn tb) {w i : Nat} (hw : w < zSN) (hl : zIn (.fieldLink own i "java/lang/String" "coder" "B")) (hd : decode cc pc = .ok (.getfield i, 3)) (kk : zV a M k n (pc + 3) ls (aI 0 :: st) h) : zV a M k n pc ls (aR (1000 + w) :: st) h := by
  obtain ⟨⟨p, l, e, s, m, args, below, meth, c⟩, G, E, N⟩ := a
  obtain ⟨hx, hb, hml, hr, ho, hlk, hK, hAD, hN, hex, hl0, hG⟩ := O
  intro cs cl hh H locs la hP hS hL
  exact vk_getf hx hb ((zST_of hK).2.2.1 w hw).2.2.1 hS ho (zIn_use hK.2.1 hl) (fun _ h => h) hd (kk (fun v hv => (List.mem_cons.mp hv).elim (fun e => e ▸ zr0) (fun hv => cs v (List.mem_cons_of_mem _ hv))) cl hh H locs la hP hS hL)
theorem zV_gval (O : zOk l0 a cc own mL ret mn tb) {w i : Nat} (hw : w < zSN) (hl : zIn (.fieldLink own i "java/lang/String" "value" "[B")) (hd : decode cc pc = .ok (.getfield i, 3)) (kk : zV a M k n (pc + 3) ls (aR (2000 + w) :: st) h) : zV a M k n pc ls (aR (1000 + w) :: st) h := by
  obtain ⟨⟨p, l, e, s, m, args, below, meth, c⟩, G, E, N⟩ := a
  obtain ⟨hx, hb, hml, hr, ho, hlk, hK, hAD, hN, hex, hl0, hG⟩ := O
  intro cs cl hh H locs la hP hS hL
  exact vk_getf hx hb ((zST_of hK).2.2.1 w hw).2.2.2.1 hS ho (zIn_use hK.2.1 hl) (fun _ h => h) hd (kk (fun v hv => (List.mem_cons.mp hv).elim (fun e => e ▸ trivial) (fun hv => cs v (List.mem_cons_of_mem _ hv))) cl hh H locs la hP hS hL)
theorem zsd_small : ∀ w, w < zSN → (zsd w).2.2.2.length ≤ 9 ∧ ∀ b ∈ (zsd w).2.2.2, 32 ≤ b.toInt ∧ b.toInt ≤ 122 := by decide +kernel
theorem zslen_r {w : Nat} (hw : w < zSN) : zr (zslen w) := by
  have := (zsd_small w hw).1
  unfold zslen zr
  omega
theorem zV_vlen (O : zOk l0 a cc own mL ret mn tb) {w : Nat} (hw : w < zSN) (hd : decode cc pc = .ok (.arraylength, 1)) (kk : zV a M k n (pc + 1) ls (aI (zslen w) :: st) h) : zV a M k n pc ls (aR (2000 + w) :: st) h := by
  obtain ⟨⟨p, l, e, s, m, args, below, meth, c⟩, G, E, N⟩ := a
  obtain ⟨hx, hb, hml, hr, ho, hlk, hK, hAD, hN, hex, hl0, hG⟩ := O
  intro cs cl hh H locs la hP hS hL
  exact va_tlen hx hb ((zST_of hK).2.2.1 w hw).2.2.2.2 hS (v := Int32.ofInt (zslen w)) rfl hd (kk (fun v hv => (List.mem_cons.mp hv).elim (fun e => e ▸ zslen_r hw) (fun hv => cs v (List.mem_cons_of_mem _ hv))) cl hh H locs la hP hS hL)
theorem zV_vbald (O : zOk l0 a cc own mL ret mn tb) {w : Nat} {i : Int} (hw : w < zSN) (hin : 0 ≤ i ∧ i < zslen w) (hd : decode cc pc = .ok (.baload, 1)) (kk : zV a M k n (pc + 1) ls (aI (zsch w i) :: st) h) : zV a M k n pc ls (aI i :: aR (2000 + w) :: st) h := by
  obtain ⟨⟨p, l, e, s, m, args, below, meth, c⟩, G, E, N⟩ := a
  obtain ⟨hx, hb, hml, hr, ho, hlk, hK, hAD, hN, hex, hl0, hG⟩ := O
  intro cs cl hh H locs la hP hS hL
  have ci : zr i := cs (aI i) (by simp)
  refine va_tb hx hb ((zST_of hK).2.2.1 w hw).2.2.2.2 hS (zI_in ci hin) (v := cv E (aI (zsch w i))) ?_ hd (kk (fun v hv => (List.mem_cons.mp hv).elim (fun e => e ▸ zr_I _) (fun hv => cs v (List.mem_cons_of_mem _ (List.mem_cons_of_mem _ hv)))) cl hh H locs la hP hS hL)
  rw [zI_cl ci hin.1]
  exact congrArg Value.int (Int32.ofInt_toInt _).symm
theorem zV_i2c (O : zOk l0 a cc own mL ret mn tb) {x : Int} (hx0 : 0 ≤ x ∧ x < 65536) (hd : decode cc pc = .ok (.i2c, 1)) (kk : zV a M k n (pc + 1) ls (aI x :: st) h) : zV a M k n pc ls (aI x :: st) h := by
  obtain ⟨⟨p, l, e, s, m, args, below, meth, c⟩, G, E, N⟩ := a
  obtain ⟨hx, hb, hml, hr, ho, hlk, hK, hAD, hN, hex, hl0, hG⟩ := O
  intro cs cl hh H locs la hP hS hL
  have cx : zr x := cs (aI x) (by simp)
  refine lv_i2c hx hb hd (v := Int32.ofInt x) ?_ (kk cs cl hh H locs la hP hS hL)
  exact lg_i2c_word (by rw [zI_toInt cx]; exact hx0.1) (by rw [zI_toInt cx]; exact hx0.2)
/-- a call of a text's method -/
theorem zV_callT (O : zOk l0 a cc own mL ret mn tb) {y : MethodName} {idx nn w : Nat} {cc' : ByteArray} {mL' mn' d' mc' ms' : Nat} {ret' : Option FieldType} {as : List AV} {Q' : Option AV → Hp → Prop} {QX' : Nat → Hp → Prop} {st0 : List AV}
    (hc : zCl y cc' mL' ret' nn) (hl : zIn (.methodLink own idx y)) (hi : zIn (.instanceMethod y)) (hs : zIn (.selects y.cls y y))
    (hy : y.cls = "java/lang/String") (hw9 : w < zSN) (hmn : mn' ≤ mn) (hst : st0 = as.reverse ++ aR (1000 + w) :: st) (hnn : as.length = nn) (hw : zwd st ≤ 8)
    (hd1 : d' + 1 ≤ M.1) (hd2 : M.1 ≤ 13) (hmL : mL' ≤ 18) (hk : k + mc' ≤ M.2.1) (hn : n + ms' ≤ M.2.2.1) (hd : decode cc pc = .ok (.invokevirtual idx, 3))
    (sp : zSp l0 y cc' mL' ret' mn' d' mc' ms' (aR (1000 + w) :: as) h Q' QX')
    (kk : ∀ r h', Q' r h' → zV a M (k + mc') (n + ms') (pc + 3) ls (r.toList ++ st) h') (kx : ∀ x h', QX' x h' → zU a M (k + mc') (n + ms') pc ls x h') : zV a M k n pc ls st0 h := by
  obtain ⟨⟨p, l, e, s, m, args, below, meth, c⟩, G, E, N⟩ := a
  obtain ⟨hx, hb, hml, hr, ho, hlk, hK, hAD, hN, hex, hl0, hG⟩ := O
  intro cs cl hh H locs la hP hS hL
  subst hl0
  subst hst
  have hM := sp N (Nat.le_trans hmn hN) (fun v hv => by
    rcases List.mem_cons.mp hv with rfl | hv
    · exact trivial
    · exact cs v (List.mem_append_left _ (List.mem_reverse.mpr hv))) hh E hAD
  obtain ⟨c1, c2, c3, c4⟩ := hc
  have hpre : PreV s H y.cls (E.1 (1000 + w)) (zPc l E N (aR (1000 + w) :: as) h) (as.map (cv E)) := by
    refine ⟨zPc_blind, ?_, fun U hU hW => ⟨rfl, by rw [hU]; exact hP, zKK_warm hW (by rw [hU]; exact hS) hK⟩⟩
    rw [hy]
    exact va_Orecv ((zST_of hK).2.2.1 w hw9).2.1 hS
  have hlo : 8 + (mL' + 11) + (zrm d' mc' ms').locals ≤ (zrm M.1 M.2.1 M.2.2.1).locals := by show 8 + (mL' + 11) + zlo d' ≤ zlo M.1; have := zlo_up hd1 hd2; omega
  have hstk : (F0 m pc la (((as.reverse ++ aR (1000 + w) :: st)).map (cv E))).stack = (as.map (cv E)).reverse ++ .ref (E.1 (1000 + w)) :: st.map (cv E) := by
    show ((as.reverse ++ aR (1000 + w) :: st)).map (cv E) = _
    rw [List.map_append, List.map_reverse]
    rfl
  have hrun : vx_Run p l e (zrm M.1 M.2.1 M.2.2.1) s m args below meth c H locs k n mc' ms' (F0 m pc la (((as.reverse ++ aR (1000 + w) :: st)).map (cv E))) (st.map (cv E)) (zQ E N Q' (Value.ref (E.1 (1000 + w)) :: as.map (cv E)).toArray) (zX E N QX') (zge E) :=
    vx_runV (own := own) (Ts := []) (nL := c.maxLocals) (C := y.cls) (b := E.1 (1000 + w)) ⟨hx, hb, rfl, ho, fun w hw => by cases hw⟩ hM ⟨⟨rfl, rfl, hd1, hlo, zgood hK.2.1 c2, List.mem_singleton.mpr rfl, zIn_use hK.2.1 c2, zIn_use hK.2.1 c1, c3, zlen c4, zIn_use hK.2.1 hl⟩, zIn_use hK.2.1 hi, zIn_use hK.2.1 hs⟩ hpre rfl (by rw [List.length_map]; exact hnn) hL.1 hstk (zroom hw) hd ⟨hk, hn⟩
  refine zV_run hrun hS (fun r h' H1 locs1 q1 q2 q3 q4 q5 => ?_) (fun x h' H1 locs1 q ce q1 q2 q3 q4 q5 q6 q7 => ?_)
  · have := kk r h' q3 (fun v hv => by
      rcases List.mem_append.mp hv with hv | hv
      · exact q1 v (Option.mem_toList.mp hv)
      · exact cs v (List.mem_append_right _ (List.mem_cons_of_mem _ hv))) cl q2 H1 locs1 la q4 q5 hL
    rw [List.map_append] at this
    cases r <;> exact this
  · exact kx x h' q2 cl q1 H1 locs1 la q ce _ q3 q4 hL q5 q6 q7
end ZS
set_option maxHeartbeats 4000000 in
set_option maxRecDepth 100000 in
theorem sS_cod {l0 : Launch} {w : Nat} {h : Hp} (hw : w < zSN) : zSp l0 yJ0_coder_7d493 cJ0_coder_7d493 1 (some .byte) 185 1 0 0 [aR (1000 + w)] h (qPI h (fun z => z = 0)) xN := by
  refine zSp_intro zpnS_RJ0 (Nat.le_of_ble_eq_true rfl) (fun a O => ?_)
  show zV a (1, 0, 0, (qPI h (fun z => z = 0)), xN) 0 0 0 [some (aR (1000 + w))] [] h
  refine zV_gCS O (zin_at (w := .fieldLink RJ0 38 "java/lang/String" "COMPACT_STRINGS" "Z") 396 (by decide +kernel) (by decide +kernel)) dJ0_coder_7d493_0 ?_
  refine zV_if_eq (tgt := 13) O dJ0_coder_7d493_3 (by decide) (fun hc => absurd hc (by decide)) (fun hc => ?_)
  refine zV_aload_n O dJ0_coder_7d493_6 rfl rfl ?_
  refine zV_gcod O hw (zin_at (w := .fieldLink RJ0 15 "java/lang/String" "coder" "B") 983 (by decide +kernel) (by decide +kernel)) dJ0_coder_7d493_7 ?_
  refine zV_goto (tgt := 14) O dJ0_coder_7d493_10 (by decide) ?_
  exact zV_xret O rfl rfl ⟨rfl, _, rfl, rfl⟩ (Nat.le_of_ble_eq_true rfl) (Nat.le_of_ble_eq_true rfl) dJ0_coder_7d493_14
set_option maxHeartbeats 4000000 in
set_option maxRecDepth 100000 in
theorem sS_lat {l0 : Launch} {w : Nat} {h : Hp} (hw : w < zSN) : zSp l0 yJ0_isLatin1_aae02 cJ0_isLatin1_aae02 1 (some .boolean) 185 1 0 0 [aR (1000 + w)] h (qPI h (fun z => z = 1)) xN := by
  refine zSp_intro zpnS_RJ0 (Nat.le_of_ble_eq_true rfl) (fun a O => ?_)
  show zV a (1, 0, 0, (qPI h (fun z => z = 1)), xN) 0 0 0 [some (aR (1000 + w))] [] h
  refine zV_gCS O (zin_at (w := .fieldLink RJ0 38 "java/lang/String" "COMPACT_STRINGS" "Z") 396 (by decide +kernel) (by decide +kernel)) dJ0_isLatin1_aae02_0 ?_
  refine zV_if_eq (tgt := 17) O dJ0_isLatin1_aae02_3 (by decide) (fun hc => absurd hc (by decide)) (fun hc => ?_)
  refine zV_aload_n O dJ0_isLatin1_aae02_6 rfl rfl ?_
  refine zV_gcod O hw (zin_at (w := .fieldLink RJ0 15 "java/lang/String" "coder" "B") 983 (by decide +kernel) (by decide +kernel)) dJ0_isLatin1_aae02_7 ?_
  refine zV_if_ne (tgt := 17) O dJ0_isLatin1_aae02_10 (by decide) (fun hc => absurd rfl hc) (fun hc => ?_)
  refine zV_iconst (z := 1) O ⟨by omega, by omega⟩ dJ0_isLatin1_aae02_13 ?_
  refine zV_goto (tgt := 18) O dJ0_isLatin1_aae02_14 (by decide) ?_
  exact zV_zret O rfl (Or.inr rfl) ⟨rfl, _, rfl, rfl⟩ (Nat.le_of_ble_eq_true rfl) (Nat.le_of_ble_eq_true rfl) dJ0_isLatin1_aae02_18
set_option maxHeartbeats 4000000 in
set_option maxRecDepth 100000 in
theorem sS_len {l0 : Launch} {w : Nat} {h : Hp} (hw : w < zSN) : zSp l0 yJ0_length_8abf5 cJ0_length_8abf5 1 (some .int) 185 2 0 0 [aR (1000 + w)] h (qPI h (fun z => z = zslen w)) xN := by
  refine zSp_intro zpnS_RJ0 (Nat.le_of_ble_eq_true rfl) (fun a O => ?_)
  show zV a (2, 0, 0, (qPI h (fun z => z = zslen w)), xN) 0 0 0 [some (aR (1000 + w))] [] h
  refine zV_aload_n O dJ0_length_8abf5_0 rfl rfl ?_
  refine zV_gval O hw (zin_at (w := .fieldLink RJ0 9 "java/lang/String" "value" "[B") 982 (by decide +kernel) (by decide +kernel)) dJ0_length_8abf5_1 ?_
  refine zV_vlen O hw dJ0_length_8abf5_4 ?_
  refine zV_aload_n O dJ0_length_8abf5_5 rfl rfl ?_
  refine zV_callT (as := []) (st := [aI (zslen w)]) O zc_J0_coder_7d493 (zin_at (w := .methodLink RJ0 335 yJ0_coder_7d493) 392 (by decide +kernel) (by decide +kernel)) zim_J0_coder_7d493 zse_J0_coder_7d493 rfl hw (Nat.le_of_ble_eq_true rfl) rfl rfl (Nat.le_of_ble_eq_true rfl) (Nat.le_of_ble_eq_true rfl) (Nat.le_of_ble_eq_true rfl) (Nat.le_of_ble_eq_true rfl) (Nat.le_of_ble_eq_true rfl) (Nat.le_of_ble_eq_true rfl) dJ0_length_8abf5_6 (sS_cod hw) (fun r h9 hq => ?_) (fun x h9 hq => hq.elim)
  obtain ⟨rfl, z, rfl, rfl⟩ := hq
  refine zV_ishr O dJ0_length_8abf5_9 ?_
  refine zV_iret O rfl ⟨rfl, _, rfl, ?_⟩ (Nat.le_of_ble_eq_true rfl) (Nat.le_of_ble_eq_true rfl) dJ0_length_8abf5_10
  have h1 := zslen_r hw
  unfold zishr
  rw [show Int32.ofInt (zslen w) >>> (Int32.ofInt 0 &&& 31) = Int32.ofInt (zslen w) from sb_shr0 _, zI_toInt h1]
set_option maxHeartbeats 4000000 in
set_option maxRecDepth 100000 in
theorem sS_pc {l0 : Launch} {i n : Int} {q : Nat} {h : Hp} (hi : 0 ≤ i ∧ i < n) : zSp l0 yJ3_checkIndex_8e157 cJ3_checkIndex_8e157 3 (some .int) 185 1 0 0 [aI i, aI n, aA q] h (qPI h (fun z => z = i)) xN := by
  refine zSp_intro zpnS_RJ3 (Nat.le_of_ble_eq_true rfl) (fun a O => ?_)
  show zV a (1, 0, 0, (qPI h (fun z => z = i)), xN) 0 0 0 [some (aI i), some (aI n), some (aA q)] [] h
  refine zV_iload_n O dJ3_checkIndex_8e157_0 rfl rfl ?_
  refine zV_if_lt (tgt := 9) O dJ3_checkIndex_8e157_1 (by decide) (fun hc => absurd hc (by omega)) (fun hc => ?_)
  refine zV_iload_n O dJ3_checkIndex_8e157_4 rfl rfl ?_
  refine zV_iload_n O dJ3_checkIndex_8e157_5 rfl rfl ?_
  refine zV_icmp_lt (tgt := 16) O dJ3_checkIndex_8e157_6 (by decide) (fun hc => ?_) (fun hc => absurd hi.2 hc)
  refine zV_iload_n O dJ3_checkIndex_8e157_16 rfl rfl ?_
  exact zV_iret O rfl ⟨rfl, _, rfl, rfl⟩ (Nat.le_of_ble_eq_true rfl) (Nat.le_of_ble_eq_true rfl) dJ3_checkIndex_8e157_17
set_option maxHeartbeats 4000000 in
set_option maxRecDepth 100000 in
theorem sS_ci {l0 : Launch} {i n : Int} {h : Hp} (hi : 0 ≤ i ∧ i < n) : zSp l0 yJ0_checkIndex_df160 cJ0_checkIndex_df160 2 none 185 2 0 0 [aI i, aI n] h (qPV h True) xN := by
  refine zSp_intro zpnS_RJ0 (Nat.le_of_ble_eq_true rfl) (fun a O => ?_)
  show zV a (2, 0, 0, (qPV h True), xN) 0 0 0 [some (aI i), some (aI n)] [] h
  refine zV_iload_n O dJ0_checkIndex_df160_0 rfl rfl ?_
  refine zV_iload_n O dJ0_checkIndex_df160_1 rfl rfl ?_
  refine zV_gSI O (zin_at (w := .fieldLink RJ0 1053 "jdk/internal/util/Preconditions" "SIOOBE_FORMATTER" "Ljava/util/function/BiFunction;") 412 (by decide +kernel) (by decide +kernel)) dJ0_checkIndex_df160_2 (fun q => ?_)
  refine zV_callS (as := [aI i, aI n, aA q]) (st := []) O zc_J3_checkIndex_8e157 (Or.inl (zin_at (w := .methodLink RJ0 1059 yJ3_checkIndex_8e157) 414 (by decide +kernel) (by decide +kernel))) zst_J3_checkIndex_8e157 (Nat.le_of_ble_eq_true rfl) rfl rfl (Nat.le_of_ble_eq_true rfl) (Nat.le_of_ble_eq_true rfl) (Nat.le_of_ble_eq_true rfl) (Nat.le_of_ble_eq_true rfl) (Nat.le_of_ble_eq_true rfl) (Nat.le_of_ble_eq_true rfl) dJ0_checkIndex_df160_5 (sS_pc hi) (fun r h9 hq => ?_) (fun x h9 hq => hq.elim)
  obtain ⟨rfl, z, rfl, rfl⟩ := hq
  refine zV_pop O rfl dJ0_checkIndex_df160_8 ?_
  exact zV_vret O rfl ⟨rfl, rfl, trivial⟩ (Nat.le_of_ble_eq_true rfl) (Nat.le_of_ble_eq_true rfl) dJ0_checkIndex_df160_9
set_option maxHeartbeats 4000000 in
set_option maxRecDepth 100000 in
theorem sS_l1 {l0 : Launch} {w : Nat} {i : Int} {h : Hp} (hw : w < zSN) (hi : 0 ≤ i ∧ i < zslen w) : zSp l0 yJ1_charAt_3b067 cJ1_charAt_3b067 2 (some .char) 185 3 0 0 [aR (2000 + w), aI i] h (qPI h (fun z => z = zsch w i)) xN := by
  refine zSp_intro zpnS_RJ1 (Nat.le_of_ble_eq_true rfl) (fun a O => ?_)
  show zV a (3, 0, 0, (qPI h (fun z => z = zsch w i)), xN) 0 0 0 [some (aR (2000 + w)), some (aI i)] [] h
  have hb : 32 ≤ zsch w i ∧ zsch w i ≤ 122 := by
    refine (zsd_small w hw).2 ((zsd w).2.2.2.getD i.toNat 0) ?_
    have hlt : i.toNat < (zsd w).2.2.2.length := by have := hi.2; unfold zslen at this; omega
    rw [List.getD_eq_getElem?_getD, List.getElem?_eq_getElem hlt]
    exact List.getElem_mem hlt
  refine zV_iload_n O dJ1_charAt_3b067_0 rfl rfl ?_
  refine zV_aload_n O dJ1_charAt_3b067_1 rfl rfl ?_
  refine zV_vlen O hw dJ1_charAt_3b067_2 ?_
  refine zV_callS (as := [aI i, aI (zslen w)]) (st := []) O zc_J0_checkIndex_df160 (Or.inl (zin_at (w := .methodLink RJ1 9 yJ0_checkIndex_df160) 409 (by decide +kernel) (by decide +kernel))) zst_J0_checkIndex_df160 (Nat.le_of_ble_eq_true rfl) rfl rfl (Nat.le_of_ble_eq_true rfl) (Nat.le_of_ble_eq_true rfl) (Nat.le_of_ble_eq_true rfl) (Nat.le_of_ble_eq_true rfl) (Nat.le_of_ble_eq_true rfl) (Nat.le_of_ble_eq_true rfl) dJ1_charAt_3b067_3 (sS_ci hi) (fun r h9 hq => ?_) (fun x h9 hq => hq.elim)
  obtain ⟨rfl, rfl, -⟩ := hq
  refine zV_aload_n O dJ1_charAt_3b067_6 rfl rfl ?_
  refine zV_iload_n O dJ1_charAt_3b067_7 rfl rfl ?_
  refine zV_vbald O hw hi dJ1_charAt_3b067_8 ?_
  refine zV_sipush (z := 255) O ⟨by omega, by omega⟩ rfl dJ1_charAt_3b067_9 ?_
  refine zV_iand O dJ1_charAt_3b067_12 ?_
  have he : zand (zsch w i) 255 = zsch w i := by
    unfold zand
    obtain ⟨j, hj⟩ : ∃ j : Nat, zsch w i = (j : Int) := ⟨(zsch w i).toNat, by omega⟩
    rw [hj]
    have hj2 : j < 256 := by omega
    rw [show Int32.ofInt (j : Int) = nI j from rfl, show Int32.ofInt 255 = (255 : Int32) from rfl, pk_andN (n := j) (by omega) (m := 255) 8 (by decide), Nat.mod_eq_of_lt (by omega), nI_toInt (by omega)]
  rw [he]
  refine zV_i2c O ⟨by omega, by omega⟩ dJ1_charAt_3b067_13 ?_
  refine zV_xret O rfl ?_ ⟨rfl, _, rfl, rfl⟩ (Nat.le_of_ble_eq_true rfl) (Nat.le_of_ble_eq_true rfl) dJ1_charAt_3b067_14
  obtain ⟨j, hj⟩ : ∃ j : Nat, zsch w i = (j : Int) := ⟨(zsch w i).toNat, by omega⟩
  rw [hj]
  exact (pk_charN (q := j) (by omega)).1
set_option maxHeartbeats 4000000 in
set_option maxRecDepth 100000 in
theorem sS_chr {l0 : Launch} {w : Nat} {i : Int} {h : Hp} (hw : w < zSN) (hi : 0 ≤ i ∧ i < zslen w) : zSp l0 yJ0_charAt_5068e cJ0_charAt_5068e 2 (some .char) 185 4 0 0 [aR (1000 + w), aI i] h (qPI h (fun z => z = zsch w i)) xN := by
  refine zSp_intro zpnS_RJ0 (Nat.le_of_ble_eq_true rfl) (fun a O => ?_)
  show zV a (4, 0, 0, (qPI h (fun z => z = zsch w i)), xN) 0 0 0 [some (aR (1000 + w)), some (aI i)] [] h
  have hb : 32 ≤ zsch w i ∧ zsch w i ≤ 122 := by
    refine (zsd_small w hw).2 ((zsd w).2.2.2.getD i.toNat 0) ?_
    have hlt : i.toNat < (zsd w).2.2.2.length := by have := hi.2; unfold zslen at this; omega
    rw [List.getD_eq_getElem?_getD, List.getElem?_eq_getElem hlt]
    exact List.getElem_mem hlt
  refine zV_aload_n O dJ0_charAt_5068e_0 rfl rfl ?_
  refine zV_callT (as := []) (st := []) O zc_J0_isLatin1_aae02 (zin_at (w := .methodLink RJ0 492 yJ0_isLatin1_aae02) 402 (by decide +kernel) (by decide +kernel)) zim_J0_isLatin1_aae02 zse_J0_isLatin1_aae02 rfl hw (Nat.le_of_ble_eq_true rfl) rfl rfl (Nat.le_of_ble_eq_true rfl) (Nat.le_of_ble_eq_true rfl) (Nat.le_of_ble_eq_true rfl) (Nat.le_of_ble_eq_true rfl) (Nat.le_of_ble_eq_true rfl) (Nat.le_of_ble_eq_true rfl) dJ0_charAt_5068e_1 (sS_lat hw) (fun r h9 hq => ?_) (fun x h9 hq => hq.elim)
  obtain ⟨rfl, z, rfl, rfl⟩ := hq
  refine zV_if_eq (tgt := 16) O dJ0_charAt_5068e_4 (by decide) (fun hc => absurd hc (by decide)) (fun hc => ?_)
  refine zV_aload_n O dJ0_charAt_5068e_7 rfl rfl ?_
  refine zV_gval O hw (zin_at (w := .fieldLink RJ0 9 "java/lang/String" "value" "[B") 982 (by decide +kernel) (by decide +kernel)) dJ0_charAt_5068e_8 ?_
  refine zV_iload_n O dJ0_charAt_5068e_11 rfl rfl ?_
  refine zV_callS (as := [aR (2000 + w), aI i]) (st := []) O zc_J1_charAt_3b067 (Or.inl (zin_at (w := .methodLink RJ0 495 yJ1_charAt_3b067) 406 (by decide +kernel) (by decide +kernel))) zst_J1_charAt_3b067 (Nat.le_of_ble_eq_true rfl) rfl rfl (Nat.le_of_ble_eq_true rfl) (Nat.le_of_ble_eq_true rfl) (Nat.le_of_ble_eq_true rfl) (Nat.le_of_ble_eq_true rfl) (Nat.le_of_ble_eq_true rfl) (Nat.le_of_ble_eq_true rfl) dJ0_charAt_5068e_12 (sS_l1 hw hi) (fun r h9 hq => ?_) (fun x h9 hq => hq.elim)
  obtain ⟨rfl, z, rfl, rfl⟩ := hq
  refine zV_xret O rfl ?_ ⟨rfl, _, rfl, rfl⟩ (Nat.le_of_ble_eq_true rfl) (Nat.le_of_ble_eq_true rfl) dJ0_charAt_5068e_15
  obtain ⟨j, hj⟩ : ∃ j : Nat, zsch w i = (j : Int) := ⟨(zsch w i).toNat, by omega⟩
  rw [hj]
  exact (pk_charN (q := j) (by omega)).1
theorem zV_slen {l0 : Launch} {a : ZC} {M : ZM} {cc : ByteArray} {own : String} {mL : Nat} {ret : Option FieldType} {mn : Nat} {tb : List (Nat × Nat × Nat × Nat)} {k n pc : Nat} {ls : List (Option AV)} {st : List AV} {h : Hp} (O : zOk l0 a cc own mL ret mn tb) {idx w : Nat} (hw : w < zSN) (hl : zIn (.methodLink own idx yJ0_length_8abf5)) (hmn : 185 ≤ mn) (hwd : zwd st ≤ 8) (hd1 : 5 ≤ M.1) (hd2 : M.1 ≤ 13) (hkn : k ≤ M.2.1 ∧ n ≤ M.2.2.1) (hd : decode cc pc = .ok (.invokevirtual idx, 3)) (kk : zV a M k n (pc + 3) ls (aI (zslen w) :: st) h) : zV a M k n pc ls (aR (1000 + w) :: st) h := by
  refine zV_callT (as := []) (st := st) O zc_J0_length_8abf5 hl zim_J0_length_8abf5 zse_J0_length_8abf5 rfl hw hmn rfl rfl hwd (by omega) hd2 (by omega) hkn.1 hkn.2 hd (sS_len hw) (fun r h9 hq => ?_) (fun x h9 hq => hq.elim)
  obtain ⟨rfl, z, rfl, rfl⟩ := hq
  exact kk
theorem zV_schar {l0 : Launch} {a : ZC} {M : ZM} {cc : ByteArray} {own : String} {mL : Nat} {ret : Option FieldType} {mn : Nat} {tb : List (Nat × Nat × Nat × Nat)} {k n pc : Nat} {ls : List (Option AV)} {st : List AV} {h : Hp} (O : zOk l0 a cc own mL ret mn tb) {idx w : Nat} {i : Int} (hw : w < zSN) (hi : 0 ≤ i ∧ i < zslen w) (hl : zIn (.methodLink own idx yJ0_charAt_5068e)) (hmn : 185 ≤ mn) (hwd : zwd st ≤ 8) (hd1 : 5 ≤ M.1) (hd2 : M.1 ≤ 13) (hkn : k ≤ M.2.1 ∧ n ≤ M.2.2.1) (hd : decode cc pc = .ok (.invokevirtual idx, 3)) (kk : zV a M k n (pc + 3) ls (aI (zsch w i) :: st) h) : zV a M k n pc ls (aI i :: aR (1000 + w) :: st) h := by
  refine zV_callT (as := [aI i]) (st := st) O zc_J0_charAt_5068e hl zim_J0_charAt_5068e zse_J0_charAt_5068e rfl hw hmn rfl rfl hwd (by omega) hd2 (by omega) hkn.1 hkn.2 hd (sS_chr hw hi) (fun r h9 hq => ?_) (fun x h9 hq => hq.elim)
  obtain ⟨rfl, z, rfl, rfl⟩ := hq
  exact kk
