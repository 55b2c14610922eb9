/-! beginnings, copies of rows, the JDK's least and greatest, handlers -/
def zent0 : List AV → List (Option AV)
  | [] => []
  | v :: r => if zwide v then some v :: none :: zent0 r else some v :: zent0 r
def zent (mL : Nat) (as : List AV) : List (Option AV) := zent0 as ++ List.replicate (mL - (zent0 as).length) none
theorem zent_len (E : EE) (as : List AV) : (lg_sl (as.map (cv E))).length = (zent0 as).length := by
  induction as with
  | nil => rfl
  | cons v r ih =>
    show (lg_sl (cv E v :: r.map (cv E))).length = _
    unfold lg_sl at ih ⊢
    rw [List.flatMap_cons, List.length_append, ih]
    simp only [zent0, zcat]
    split <;> simp <;> omega
theorem zent_in (E : EE) : ∀ (as : List AV) (i t : Nat) (q : Nat × Value), q ∈ zpr E i (zent0 as ++ List.replicate t none) → q ∈ lv_args i (as.map (cv E)) := by
  intro as
  induction as with
  | nil =>
    intro i t q hq
    simp only [zent0, List.nil_append] at hq
    rw [zpr_mem] at hq
    obtain ⟨j, v, -, h2⟩ := hq
    rw [List.getElem?_replicate] at h2
    split at h2 <;> cases h2
  | cons v r ih =>
    intro i t q hq
    show q ∈ lv_args i (cv E v :: r.map (cv E))
    simp only [zent0] at hq
    unfold lv_args
    rw [zcat]
    by_cases hw : zwide v = true
    · rw [if_pos hw] at hq ⊢
      rcases List.mem_cons.mp hq with h | h
      · exact h ▸ List.mem_cons_self
      · exact List.mem_cons_of_mem _ (ih (i + 2) t q h)
    · rw [if_neg hw] at hq ⊢
      rcases List.mem_cons.mp hq with h | h
      · exact h ▸ List.mem_cons_self
      · exact List.mem_cons_of_mem _ (ih (i + 1) t q h)
theorem zent_can {as : List AV} {mL : Nat} (h : ∀ v ∈ as, zcan v) : ∀ v, some v ∈ zent mL as → zcan v := by
  have key : ∀ (l : List AV), (∀ v ∈ l, zcan v) → ∀ v, some v ∈ zent0 l → zcan v := by
    intro l
    induction l with
    | nil => intro _ v hv; cases hv
    | cons w r ih =>
      intro hl v hv
      simp only [zent0] at hv
      split at hv
      · rcases List.mem_cons.mp hv with e | hv
        · cases e; exact hl _ List.mem_cons_self
        · rcases List.mem_cons.mp hv with e | hv
          · cases e
          · exact ih (fun v hv => hl v (List.mem_cons_of_mem _ hv)) v hv
      · rcases List.mem_cons.mp hv with e | hv
        · cases e; exact hl _ List.mem_cons_self
        · exact ih (fun v hv => hl v (List.mem_cons_of_mem _ hv)) v hv
  intro v hv
  unfold zent at hv
  rcases List.mem_append.mp hv with hv | hv
  · exact key as h v hv
  · cases (List.mem_replicate.mp hv).2
theorem zSp_intro {l0 : Launch} {y : MethodName} {cc : ByteArray} {mL : Nat} {ret : Option FieldType} {mn d mc ms : Nat} {as : List AV} {h : Hp} {Q : Option AV → Hp → Prop} {QX : Nat → Hp → Prop}
    (hy : plainName y.cls = true) (hlen : (zent0 as).length ≤ mL) (body : ∀ a : ZC, zOk l0 a cc y.cls mL ret mn [] → zV a (d, mc, ms, Q, QX) 0 0 0 (zent mL as) [] h) : zSp l0 y cc mL ret mn d mc ms as h Q QX := by
  intro N hN hc hh E hAD
  refine vx_ofW (cc := cc) (maxL := mL) (ret := ret) hy rfl ?_
  intro p e s m args below meth c s₁ B hml hex hv
  obtain ⟨rfl, hP, hK⟩ := hv
  have hl := lv_entry (as.map (cv E)) (n := mL) (by rw [zent_len]; exact hlen)
  rw [lg_entry_eq]
  refine body ((p, l0, e, s, m, (as.map (cv E)).toArray, below, meth, c), (E, N), E, N) ⟨B.exec, B.bytes, hml, B.returns, findClass_of_methodNamed B.named, B.notSynchronized, hK, hAD, hN, ?_, rfl, zEx_rf⟩ (fun v hv => by cases hv) (zent_can hc) hh s.heap [] _ hP va_S.rf (lv_less (by rw [hml]; exact hl) fun q hq => zent_in E as 0 _ q hq)
  cases hcx : c.exceptionTable.toList with
  | nil => rfl
  | cons x r => exact (hex x (by rw [hcx]; exact List.mem_cons_self)).elim
theorem zSpA_intro {l0 : Launch} {y : MethodName} {cc : ByteArray} {mL : Nat} {ret : Option FieldType} {N d mc ms : Nat} {as : List AV} {h : Hp} {Q : Option AV → Hp → Prop} {QX : Nat → Hp → Prop}
    (hy : plainName y.cls = true) (hlen : (zent0 as).length ≤ mL) (body : ∀ a : ZC, zOk l0 a cc y.cls mL ret N [] → a.2.2.2 = N → zV a (d, mc, ms, Q, QX) 0 0 0 (zent mL as) [] h) : zSpA l0 y cc mL ret d mc ms as h Q QX N := by
  intro hc hh E hAD
  refine vx_ofW (cc := cc) (maxL := mL) (ret := ret) hy rfl ?_
  intro p e s m args below meth c s₁ B hml hex hv
  obtain ⟨rfl, hP, hK⟩ := hv
  have hl := lv_entry (as.map (cv E)) (n := mL) (by rw [zent_len]; exact hlen)
  rw [lg_entry_eq]
  refine body ((p, l0, e, s, m, (as.map (cv E)).toArray, below, meth, c), (E, N), E, N) ⟨B.exec, B.bytes, hml, B.returns, findClass_of_methodNamed B.named, B.notSynchronized, hK, hAD, Nat.le_refl _, ?_, rfl, zEx_rf⟩ rfl (fun v hv => by cases hv) (zent_can hc) hh s.heap [] _ hP va_S.rf (lv_less (by rw [hml]; exact hl) fun q hq => zent_in E as 0 _ q hq)
  cases hcx : c.exceptionTable.toList with
  | nil => rfl
  | cons x r => exact (hex x (by rw [hcx]; exact List.mem_cons_self)).elim
/-- a piece of a row laid elsewhere -/
def hcp (h : Hp) (p sp q dp n : Nat) : Hp := fun p' k' => if p' = q ∧ dp ≤ k' ∧ k' < dp + n then h p (sp + (k' - dp)) else h p' k'
section ZE
variable {l0 : Launch} {a : ZC} {M : ZM} {cc : ByteArray} {own : String} {mL : Nat} {ret : Option FieldType} {mn : Nat} {tb : List (Nat × Nat × Nat × Nat)} {k n pc : Nat} {ls : List (Option AV)} {st : List AV} {h : Hp}
theorem zV_min (O : zOk l0 a cc own mL ret mn tb) {idx : Nat} {x y : Int} (hl : zIn (.methodLink own idx Lib.Math.min.name)) (hs : zIn (.static Lib.Math.min.name)) (hi : zIn (.initialized "java/lang/Math")) (hc : zIn (.code Lib.Math.min.name Lib.Math.min.code 2 (some .int)))
    (hd1 : 1 ≤ M.1) (hw : zwd st ≤ 8) (hk : k ≤ M.2.1) (hn : n ≤ M.2.2.1) (hd : decode cc pc = .ok (.invokestatic idx, 3)) (kk : zV a M k n (pc + 3) ls (aI (min x y) :: st) h) : zV a M k n pc ls (aI y :: aI x :: st) h := by
  obtain ⟨⟨p, l, e, s, m, args, below, meth, c⟩, G, E, N⟩ := a
  obtain ⟨hx, hb, hml, hr, ho, hlk, hK, hAD, hN, hex, hl0, hG⟩ := O
  intro cs cl hh H locs la hP hS hL
  have cx : zr x := cs (aI x) (by simp)
  have cy : zr y := cs (aI y) (by simp)
  refine va_mmin hx hb hL.1.symm ho (zIn_use hK.2.1 hl) (zIn_use hK.2.1 hs) (zIn_use hK.2.1 hi) (zIn_use hK.2.1 hc) hd1 (by rw [zwd_eq]; show zwd st + 13 ≤ zlo M.1; have := zlo_ge M.1; omega) hk hn hd ?_
  have e1 : (if Int32.ofInt y < Int32.ofInt x then Int32.ofInt y else Int32.ofInt x) = Int32.ofInt (min x y) := by
    by_cases q : y < x
    · rw [if_pos ((zI_lt cy cx).mpr q), Int.min_eq_right (by omega)]
    · rw [if_neg (fun w => q ((zI_lt cy cx).mp w)), Int.min_eq_left (by omega)]
  rw [e1]
  have cm : zr (min x y) := by
    rcases Int.le_total x y with q | q
    · rw [Int.min_eq_left q]; exact cx
    · rw [Int.min_eq_right q]; exact cy
  exact kk (fun v hv => (List.mem_cons.mp hv).elim (fun e => e ▸ cm) (fun hv => cs v (List.mem_cons_of_mem _ (List.mem_cons_of_mem _ hv)))) cl hh H locs la hP hS hL
theorem zV_max (O : zOk l0 a cc own mL ret mn tb) {idx : Nat} {x y : Int} (hl : zIn (.methodLink own idx Lib.Math.max.name)) (hs : zIn (.static Lib.Math.max.name)) (hi : zIn (.initialized "java/lang/Math")) (hc : zIn (.code Lib.Math.max.name Lib.Math.max.code 2 (some .int)))
    (hd1 : 1 ≤ M.1) (hw : zwd st ≤ 8) (hk : k ≤ M.2.1) (hn : n ≤ M.2.2.1) (hd : decode cc pc = .ok (.invokestatic idx, 3)) (kk : zV a M k n (pc + 3) ls (aI (max x y) :: st) h) : zV a M k n pc ls (aI y :: aI x :: st) h := by
  obtain ⟨⟨p, l, e, s, m, args, below, meth, c⟩, G, E, N⟩ := a
  obtain ⟨hx, hb, hml, hr, ho, hlk, hK, hAD, hN, hex, hl0, hG⟩ := O
  intro cs cl hh H locs la hP hS hL
  have cx : zr x := cs (aI x) (by simp)
  have cy : zr y := cs (aI y) (by simp)
  refine va_mmax hx hb hL.1.symm ho (zIn_use hK.2.1 hl) (zIn_use hK.2.1 hs) (zIn_use hK.2.1 hi) (zIn_use hK.2.1 hc) hd1 (by rw [zwd_eq]; show zwd st + 13 ≤ zlo M.1; have := zlo_ge M.1; omega) hk hn hd ?_
  have e1 : (if Int32.ofInt x < Int32.ofInt y then Int32.ofInt y else Int32.ofInt x) = Int32.ofInt (max x y) := by
    by_cases q : x < y
    · rw [if_pos ((zI_lt cx cy).mpr q), Int.max_eq_right (by omega)]
    · rw [if_neg (fun w => q ((zI_lt cx cy).mp w)), Int.max_eq_left (by omega)]
  rw [e1]
  have cm : zr (max x y) := by
    rcases Int.le_total x y with q | q
    · rw [Int.max_eq_right q]; exact cy
    · rw [Int.max_eq_left q]; exact cx
  exact kk (fun v hv => (List.mem_cons.mp hv).elim (fun e => e ▸ cm) (fun hv => cs v (List.mem_cons_of_mem _ (List.mem_cons_of_mem _ hv)))) cl hh H locs la hP hS hL
theorem zV_copyI (O : zOk l0 a cc own mL ret mn tb) {idx pl ql n0 n1 : Nat} {sp dp nn : Int} (hl : zIn (.methodLink own idx arraycopyName)) (hna : zIn (.native arraycopyName)) (hs : zIn (.static arraycopyName)) (hi : zIn (.initialized "java/lang/System"))
    (ht0 : zT[pl]? = some (.inl (0, n0))) (ht1 : zT[ql]? = some (.inl (0, n1))) (hp0 : pl < mn) (hp1 : ql < mn) (h1 : 0 ≤ sp) (h2 : 0 ≤ dp) (h3 : 0 ≤ nn) (h4 : sp + nn ≤ n0) (h5 : dp + nn ≤ n1)
    (hd1 : 3 ≤ M.1) (hw : zwd st ≤ 8) (hd : decode cc pc = .ok (.invokestatic idx, 3)) (kk : zV a M k n (pc + 3) ls st (hcp h pl sp.toNat ql dp.toNat nn.toNat)) : zV a M k n pc ls (aI nn :: aI dp :: aR ql :: aI sp :: aR pl :: st) h := by
  obtain ⟨⟨p, l, e, s, m, args, below, meth, c⟩, G, E, N⟩ := a
  obtain ⟨hx, hb, hml, hr, ho, hlk, hK, hAD, hN, hex, hl0, hG⟩ := O
  intro cs cl hh H locs la hP hS hL
  have c1 : zr sp := cs (aI sp) (by simp)
  have c2 : zr dp := cs (aI dp) (by simp)
  have c3 : zr nn := cs (aI nn) (by simp)
  have a0 := zws_get (E := E) (h := h) (Nat.lt_of_lt_of_le hp0 hN)
  have a1 := zws_get (E := E) (h := h) (Nat.lt_of_lt_of_le hp1 hN)
  rw [zat_of ht0] at a0
  rw [zat_of ht1] at a1
  have nlt : ∀ {z : Int}, zr z → 0 ≤ z → ¬ Int32.ofInt z < 0 := fun {z} cz hz w => by
    have := (zI_lt cz zr0).mp w
    omega
  have cpy : ∀ p' k', hcp h pl sp.toNat ql dp.toNat nn.toNat p' k' = if p' = ql ∧ dp.toNat ≤ k' ∧ k' < dp.toNat + nn.toNat then h pl (sp.toNat + (k' - dp.toNat)) else h p' k' := fun _ _ => rfl
  refine va_copyi hx hb hL.1.symm ho (zIn_use hK.2.1 hl) (zIn_use hK.2.1 hna) (zIn_use hK.2.1 hs) (zIn_use hK.2.1 hi) hK.1 hP (hAD.D h) hS pl ql 0 0 a0 a1 rfl rfl rfl (nlt c1 h1) (nlt c2 h2) (nlt c3 h3) (by rw [zI_cl c1 h1, zI_cl c3 h3]; omega) (by rw [zI_cl c2 h2, zI_cl c3 h3]; omega) (fun i hi => rfl) (by show 1 ≤ M.1; omega) (by rw [zwd_eq]; show zwd st + _ ≤ zlo M.1; have := zlo_ge M.1; exact Nat.le_trans (Nat.add_le_add hw (show nativeFrameWords "java/lang/System" "arraycopy" 5 + 11 ≤ 100 by decide)) (by omega)) hd fun H1 locs1 hP1 hD1 hS1 => ?_
  rw [zI_cl c1 h1, zI_cl c2 h2, zI_cl c3 h3, zws_set (h' := hcp h pl sp.toNat ql dp.toNat nn.toNat) (by
    rw [zat_of ht1]
    show Sum.inl _ = Sum.inl _
    congr 4
    funext j
    show va_cpy _ _ _ _ _ j = Int32.ofInt (hcp h pl sp.toNat ql dp.toNat nn.toNat ql j)
    rw [cpy]
    unfold va_cpy
    by_cases hj : dp.toNat ≤ j ∧ j < dp.toNat + nn.toNat
    · rw [if_pos hj, if_pos ⟨rfl, hj⟩]
    · rw [if_neg hj, if_neg (fun w => hj w.2)]) (fun p' hp' j => by rw [cpy, if_neg (fun w => hp' w.1)])] at hP1
  refine kk (fun v hv => cs v (by simp [hv])) cl (fun p' k' => ?_) H1 locs1 la hP1 hS1 hL
  rw [cpy]
  by_cases hj : p' = ql ∧ dp.toNat ≤ k' ∧ k' < dp.toNat + nn.toNat
  · rw [if_pos hj, hj.1, zty_a ht1]
    have := hh pl (sp.toNat + (k' - dp.toNat))
    rw [zty_a ht0] at this
    exact this
  · rw [if_neg hj]
    exact hh p' k'
theorem zV_copyL (O : zOk l0 a cc own mL ret mn tb) {idx pl ql n0 n1 : Nat} {sp dp nn : Int} (hl : zIn (.methodLink own idx arraycopyName)) (hna : zIn (.native arraycopyName)) (hs : zIn (.static arraycopyName)) (hi : zIn (.initialized "java/lang/System"))
    (ht0 : zT[pl]? = some (.inl (2, n0))) (ht1 : zT[ql]? = some (.inl (2, n1))) (hp0 : pl < mn) (hp1 : ql < mn) (h1 : 0 ≤ sp) (h2 : 0 ≤ dp) (h3 : 0 ≤ nn) (h4 : sp + nn ≤ n0) (h5 : dp + nn ≤ n1)
    (hd1 : 3 ≤ M.1) (hw : zwd st ≤ 8) (hd : decode cc pc = .ok (.invokestatic idx, 3)) (kk : zV a M k n (pc + 3) ls st (hcp h pl sp.toNat ql dp.toNat nn.toNat)) : zV a M k n pc ls (aI nn :: aI dp :: aR ql :: aI sp :: aR pl :: st) h := by
  obtain ⟨⟨p, l, e, s, m, args, below, meth, c⟩, G, E, N⟩ := a
  obtain ⟨hx, hb, hml, hr, ho, hlk, hK, hAD, hN, hex, hl0, hG⟩ := O
  intro cs cl hh H locs la hP hS hL
  have c1 : zr sp := cs (aI sp) (by simp)
  have c2 : zr dp := cs (aI dp) (by simp)
  have c3 : zr nn := cs (aI nn) (by simp)
  have a0 := zws_get (E := E) (h := h) (Nat.lt_of_lt_of_le hp0 hN)
  have a1 := zws_get (E := E) (h := h) (Nat.lt_of_lt_of_le hp1 hN)
  rw [zat_of ht0] at a0
  rw [zat_of ht1] at a1
  have nlt : ∀ {z : Int}, zr z → 0 ≤ z → ¬ Int32.ofInt z < 0 := fun {z} cz hz w => by
    have := (zI_lt cz zr0).mp w
    omega
  have cpy : ∀ p' k', hcp h pl sp.toNat ql dp.toNat nn.toNat p' k' = if p' = ql ∧ dp.toNat ≤ k' ∧ k' < dp.toNat + nn.toNat then h pl (sp.toNat + (k' - dp.toNat)) else h p' k' := fun _ _ => rfl
  refine va_copyl hx hb hL.1.symm ho (zIn_use hK.2.1 hl) (zIn_use hK.2.1 hna) (zIn_use hK.2.1 hs) (zIn_use hK.2.1 hi) hK.1 hP (hAD.D h) hS pl ql 2 2 a0 a1 rfl rfl rfl (nlt c1 h1) (nlt c2 h2) (nlt c3 h3) (by rw [zI_cl c1 h1, zI_cl c3 h3]; omega) (by rw [zI_cl c2 h2, zI_cl c3 h3]; omega) (fun i hi => rfl) (by show 1 ≤ M.1; omega) (by rw [zwd_eq]; show zwd st + _ ≤ zlo M.1; have := zlo_ge M.1; exact Nat.le_trans (Nat.add_le_add hw (show nativeFrameWords "java/lang/System" "arraycopy" 5 + 11 ≤ 100 by decide)) (by omega)) hd fun H1 locs1 hP1 hD1 hS1 => ?_
  rw [zI_cl c1 h1, zI_cl c2 h2, zI_cl c3 h3, zws_set (h' := hcp h pl sp.toNat ql dp.toNat nn.toNat) (by
    rw [zat_of ht1]
    show Sum.inl _ = Sum.inl _
    congr 5
    funext j
    show va_cpy _ _ _ _ _ j = Int64.ofInt (hcp h pl sp.toNat ql dp.toNat nn.toNat ql j)
    rw [cpy]
    unfold va_cpy
    by_cases hj : dp.toNat ≤ j ∧ j < dp.toNat + nn.toNat
    · rw [if_pos hj, if_pos ⟨rfl, hj⟩]
    · rw [if_neg hj, if_neg (fun w => hj w.2)]) (fun p' hp' j => by rw [cpy, if_neg (fun w => hp' w.1)])] at hP1
  refine kk (fun v hv => cs v (by simp [hv])) cl (fun p' k' => ?_) H1 locs1 la hP1 hS1 hL
  rw [cpy]
  by_cases hj : p' = ql ∧ dp.toNat ≤ k' ∧ k' < dp.toNat + nn.toNat
  · rw [if_pos hj, hj.1, zty_a ht1]
    have := hh pl (sp.toNat + (k' - dp.toNat))
    rw [zty_a ht0] at this
    exact this
  · rw [if_neg hj]
    exact hh p' k'
end ZE
