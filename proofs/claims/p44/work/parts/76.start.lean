/-! what holds at the law's entry -/
theorem yi_aO : (.arrayOver (.object RX3) : Cond) ∈ lw_tbl := List.mem_of_getElem? (i := 202) (by decide +kernel)
theorem yi_aI : (.arrayClass .int : Cond) ∈ lw_tbl := List.mem_of_getElem? (i := 194) (by decide +kernel)
theorem yi_aB : (.arrayClass .byte : Cond) ∈ lw_tbl := List.mem_of_getElem? (i := 263) (by decide +kernel)
theorem yi_aZ : (.arrayClass .boolean : Cond) ∈ lw_tbl := List.mem_of_getElem? (i := 532) (by decide +kernel)
theorem yi_aL : (.arrayClass .long : Cond) ∈ lw_tbl := List.mem_of_getElem? (i := 193) (by decide +kernel)
theorem yi_s0 : (.laysStatic Bundle.tN "UNASSIGNED_STACK" Bundle.steD : Cond) ∈ lw_tbl := List.mem_of_getElem? (i := 497) (by decide +kernel)
theorem yi_s1 : (.laysStatic Bundle.tN "SUPPRESSED_SENTINEL" Bundle.listD : Cond) ∈ lw_tbl := List.mem_of_getElem? (i := 499) (by decide +kernel)
theorem yi_s2 : (.laysStatic "java/lang/String" "COMPACT_STRINGS" "Z" : Cond) ∈ lw_tbl := List.mem_of_getElem? (i := 397) (by decide +kernel)
theorem yi_s3 : (.laysStatic "jdk/internal/util/Preconditions" "SIOOBE_FORMATTER" "Ljava/util/function/BiFunction;" : Cond) ∈ lw_tbl := List.mem_of_getElem? (i := 413) (by decide +kernel)
theorem yi_iTh : (.initialized Bundle.tN : Cond) ∈ lw_tbl := List.mem_of_getElem? (i := 84) (by decide +kernel)
theorem yi_iSt : (.initialized "java/lang/String" : Cond) ∈ lw_tbl := List.mem_of_getElem? (i := 80) (by decide +kernel)
theorem yi_iPr : (.initialized "jdk/internal/util/Preconditions" : Cond) ∈ lw_tbl := List.mem_of_getElem? (i := 82) (by decide +kernel)
def yst (w : Nat) : Term := .string (zsd w).1 (zsd w).2.1
def ySc (w : Nat) : List Cond := [.exactly (yst w) "java/lang/String", .eq (.field (yst w) "java/lang/String" "coder" "B") (.int 0), .arrayOf (.field (yst w) "java/lang/String" "value" "[B") .byte, .eq (.length (.field (yst w) "java/lang/String" "value" "[B")) (.int (Int32.ofNat (zsd w).2.2.2.length))]
def ySe (w j : Nat) : Cond := .eq (.elem (.field (yst w) "java/lang/String" "value" "[B") (.int (Int32.ofNat j))) (.int ((zsd w).2.2.2.getD j 0))
theorem ySc_in : ((List.range 22).all fun w => (ySc w).all fun c => decide (c ∈ flatC (Jvm.Cond.and given_1 narrow_1))) = true := by decide +kernel
theorem ySe_in : ((List.range 22).all fun w => (List.range (zsd w).2.2.2.length).all fun j => decide (ySe w j ∈ flatC (Jvm.Cond.and given_1 narrow_1))) = true := by decide +kernel
theorem ySr_in : ((List.range 22).all fun w => decide (Cond.stringRef (zsd w).1 (zsd w).2.1 (zsd w).2.2.1 ∈ lw_tbl)) = true := by decide +kernel
theorem ySl_ok : ((List.range 22).all fun w => decide ((zsd w).2.2.2.length < 2 ^ 31)) = true := by decide +kernel
theorem y_narrow {args : Array Value} {s : State} {w : Cond} (h : (Jvm.Cond.and given_1 narrow_1).before args s = true) (hm : decide (w ∈ flatC (Jvm.Cond.and given_1 narrow_1)) = true) : w.before args s = true := flat_of_before _ h w (of_decide_eq_true hm)
theorem y_strs {A : Array Value} {s : State} {B : Nat → Prop} (hts : ∀ w ∈ lw_tbl, w.before A s = true) (hg : (Jvm.Cond.and given_1 narrow_1).before A s = true) (hA : ∀ a : Nat, a < s.heap.size → ¬ B a) : ∀ w, ∃ q : Nat × Nat, w < 22 → vk_R (zsd w).1 (zsd w).2.1 (zsd w).2.2.1 q.1 s ∧ va_O "java/lang/String" q.1 B s s.heap ∧ va_OF "java/lang/String" "coder" "B" (.int 0) q.1 B s s.heap ∧ va_OF "java/lang/String" "value" "[B" (.ref q.2) q.1 B s s.heap ∧ va_T .byte q.2 (zsd w).2.2.2.length (fun j => .int ((zsd w).2.2.2.getD j 0)) B s s.heap := by
  intro w
  by_cases hw : w < 22
  · have hr := List.mem_range.mpr hw
    have hc := List.all_eq_true.mp (List.all_eq_true.mp ySc_in w hr)
    have c1 := y_narrow hg (hc (.exactly (yst w) "java/lang/String") (by simp [ySc]))
    have c2 := y_narrow hg (hc (.eq (.field (yst w) "java/lang/String" "coder" "B") (.int 0)) (by simp [ySc]))
    have c3 := y_narrow hg (hc (.arrayOf (.field (yst w) "java/lang/String" "value" "[B") .byte) (by simp [ySc]))
    have c4 := y_narrow hg (hc (.eq (.length (.field (yst w) "java/lang/String" "value" "[B")) (.int (Int32.ofNat (zsd w).2.2.2.length))) (by simp [ySc]))
    have c5 : ∀ j, j < (zsd w).2.2.2.length → (ySe w j).before A s = true := fun j hj => y_narrow hg (List.all_eq_true.mp (List.all_eq_true.mp ySe_in w hr) j (List.mem_range.mpr hj))
    have c6 := hts _ (of_decide_eq_true (List.all_eq_true.mp ySr_in w hr))
    have c7 := of_decide_eq_true (List.all_eq_true.mp ySl_ok w hr)
    obtain ⟨a, c, cA, kA, q1, q2, q3, q4, q5, q6, -⟩ := Cond.exactly_spec (args := A) (first := s) (o := none) (s := s) (idx := []) (t := yst w) (cls := "java/lang/String") c1
    obtain ⟨t, ht, hT⟩ := va_Tof (f := fun j => .int ((zsd w).2.2.2.getD j 0)) (A := B) c7 c3 (va_eqt c4) (fun j hj => va_eqt (c5 j hj)) hA
    exact ⟨(a, t), fun _ => ⟨vk_R.of c6 q1, va_Oof c1 q1 hA, vk_OFof q1 (va_eqt c2) hA, vk_OFof q1 ht hA, hT⟩⟩
  · exact ⟨(0, 0), fun h => absurd h hw⟩
theorem y_arr {A : Array Value} {s : State} {ty : FieldType} (h : (Cond.arrayClass ty).before A s = true) (hn : ∀ C, ty ≠ .object C) : ∃ c, ArrOfT s c ty ∧ va_RA s c ty := by
  obtain ⟨c, k, comp, h1, h2, h3⟩ := Cond.arrayClass_spec (args := A) (first := s) (o := none) (s := s) (idx := []) h
  refine ⟨c, fun n z => ⟨fun k h => (by cases h), k, h2, comp, h3⟩, ?_⟩
  cases ty with
  | object C => exact absurd rfl (hn C)
  | _ => exact h1
theorem y_arrq {A : Array Value} {s : State} {C : String} (h : (Cond.arrayOver (.object C)).before A s = true) : ∃ c, ArrOfT s c (.object C) ∧ va_RA s c (.object C) := by
  obtain ⟨comp, c, k, h1, h2, h3, h4, h5⟩ := Cond.arrayOver_spec (args := A) (first := s) (o := none) (s := s) (idx := []) h
  exact ⟨c, fun n z => ⟨fun k h => (by cases h), k, h3, comp, h4⟩, k, comp, h3, h4, h1, h5⟩
set_option maxHeartbeats 4000000 in
set_option maxRecDepth 100000 in
theorem y_start {A : Array Value} {s : State} (l : Launch) {b L : Nat} {xs : Nat → Int32} (hX : va_X b L xs s s.heap) (hbl : b < s.heap.size) (hL : L ≤ 260) (hflags : l.flags = flags0) (hts : ∀ w ∈ lw_tbl, w.before A s = true) (hg : (Jvm.Cond.and given_1 narrow_1).before A s = true) : ∃ E : EE, E.2.2.2 = s.heap.size ∧ E.1 999 = b ∧ zKK l E s ∧ yX s := by
  have hKn : ∀ c : Nat, ∃ x : ClassId × (Nat → Nat), ∀ q : vw_C, vwCl[c]? = some q → u_Kn s q.1 q.2.1 q.2.2 x.1 x.2 := by
    intro c
    match c with
    | 0 =>
      obtain ⟨cC, iS, hKn⟩ := u_known (ws := lw_tbl) (C := RX0) (T := TX0) (N := 3) (n := 3) hts (fun w hw => (zu_0 w hw).1) (hts _ yi_nX0.1)
      exact ⟨(cC, iS), fun q hq => by cases hq; exact hKn⟩
    | 1 =>
      obtain ⟨cC, iS, hKn⟩ := u_known (ws := lw_tbl) (C := RX1) (T := TX1) (N := 2) (n := 2) hts (fun w hw => (zu_1 w hw).1) (hts _ yi_nX1.1)
      exact ⟨(cC, iS), fun q hq => by cases hq; exact hKn⟩
    | 2 =>
      obtain ⟨cC, iS, hKn⟩ := u_known (ws := lw_tbl) (C := RX2) (T := TX2) (N := 4) (n := 4) hts (fun w hw => (zu_2 w hw).1) (hts _ yi_nX2.1)
      exact ⟨(cC, iS), fun q hq => by cases hq; exact hKn⟩
    | 3 =>
      obtain ⟨cC, iS, hKn⟩ := u_known (ws := lw_tbl) (C := RX3) (T := TX3) (N := 20) (n := 20) hts (fun w hw => (zu_3 w hw).1) (hts _ yi_nX3.1)
      exact ⟨(cC, iS), fun q hq => by cases hq; exact hKn⟩
    | 4 =>
      obtain ⟨cC, iS, hKn⟩ := u_known (ws := lw_tbl) (C := RX4) (T := TX4) (N := 9) (n := 9) hts (fun w hw => (zu_4 w hw).1) (hts _ yi_nX4.1)
      exact ⟨(cC, iS), fun q hq => by cases hq; exact hKn⟩
    | 5 =>
      obtain ⟨cC, iS, hKn⟩ := u_known (ws := lw_tbl) (C := RX5) (T := TX5) (N := 3) (n := 3) hts (fun w hw => (zu_5 w hw).1) (hts _ yi_nX5.1)
      exact ⟨(cC, iS), fun q hq => by cases hq; exact hKn⟩
    | 6 =>
      obtain ⟨cC, iS, hKn⟩ := u_known (ws := lw_tbl) (C := RX6) (T := TX6) (N := 7) (n := 7) hts (fun w hw => (zu_6 w hw).1) (hts _ yi_nX6.1)
      exact ⟨(cC, iS), fun q hq => by cases hq; exact hKn⟩
    | 7 =>
      obtain ⟨cC, iS, hKn⟩ := u_known (ws := lw_tbl) (C := RX7) (T := TX7) (N := 11) (n := 11) hts (fun w hw => (zu_7 w hw).1) (hts _ yi_nX7.1)
      exact ⟨(cC, iS), fun q hq => by cases hq; exact hKn⟩
    | 8 =>
      obtain ⟨cC, iS, hKn⟩ := u_known (ws := lw_tbl) (C := RL) (T := TL) (N := 2) (n := 2) hts (fun w hw => (zu_8 w hw).1) (hts _ yi_nL.1)
      exact ⟨(cC, iS), fun q hq => by cases hq; exact hKn⟩
    | n + 9 => exact ⟨(0, fun _ => 0), fun q hq => by simp [vwCl] at hq⟩
  obtain ⟨dd, hdd⟩ := Classical.axiomOfChoice hKn
  have hO : va_AO RX3 s := va_AO.of (hts _ yi_aO)
  have aI := hts _ yi_aI
  have aB := hts _ yi_aB
  have aL := hts _ yi_aL
  have aZ := hts _ yi_aZ
  obtain ⟨c0, i0⟩ := y_arr aI (fun C h => by cases h)
  obtain ⟨c1, i1⟩ := y_arr aB (fun C h => by cases h)
  obtain ⟨c2, i2⟩ := y_arr aL (fun C h => by cases h)
  obtain ⟨c4, i4⟩ := y_arr aZ (fun C h => by cases h)
  obtain ⟨c3, i3⟩ := y_arrq (va_AO.use (A := A) hO)
  have hA : ∀ a : Nat, a < s.heap.size → ¬ (fun q : Nat => s.heap.size ≤ q) a := fun a h => Nat.not_le.mpr h
  obtain ⟨st, hst⟩ := Classical.axiomOfChoice (y_strs (B := fun q : Nat => s.heap.size ≤ q) hts hg hA)
  refine ⟨(fun p => if p = 999 then b else if p = 998 then L else if 2000 ≤ p then (st (p - 2000)).2 else (st (p - 1000)).1, (fun c => (dd c).1, fun c => (dd c).2), fun i => if i = 0 then c0 else if i = 1 then c1 else if i = 2 then c2 else if i = 3 then c3 else c4, s.heap.size), rfl, rfl, ⟨⟨fun c q hq => hdd c q hq, fun k q hk => ?_⟩, fun w hw ho => va_Nw.of (zok_tab ho) (hts w hw), ?_, Nat.le_refl _, vx_Zqof (hts _ yi_s0) (hts _ yi_iTh) (y_narrow hg (by decide +kernel)) hA, vx_Zqof (hts _ yi_s1) (hts _ yi_iTh) (y_narrow hg (by decide +kernel)) hA, trivial, va_Zof (hts _ yi_s2) (hts _ yi_iSt) (va_eqi (y_narrow hg (by decide +kernel))) hA, va_Zqof (hts _ yi_s3) (hts _ yi_iPr) (y_narrow hg (by decide +kernel)) hA, fun w hw => ?_, ⟨xs, hX⟩, hL, hbl, hbl, fun ty ht A2 => ?_⟩, hO, fun ty ht A2 => ?_⟩
  · match k, hk with
    | 0, hk => cases hk; exact i0
    | 1, hk => cases hk; exact i1
    | 2, hk => cases hk; exact i2
    | 3, hk => cases hk; exact i3
    | 4, hk => cases hk; exact i4
    | n + 5, hk => simp [ztys] at hk
  · show (!l.flags.contains noTraceFlag) = false
    rw [hflags]
    decide
  · have h1 := hst w hw
    have hw2 : w < 22 := hw
    show vk_R _ _ _ (if 1000 + w = 999 then b else if 1000 + w = 998 then L else if 2000 ≤ 1000 + w then _ else _) s ∧ va_O _ (if 1000 + w = 999 then b else if 1000 + w = 998 then L else if 2000 ≤ 1000 + w then _ else _) _ s _ ∧ va_OF _ _ _ _ (if 1000 + w = 999 then b else if 1000 + w = 998 then L else if 2000 ≤ 1000 + w then _ else _) _ s _ ∧ va_OF _ _ _ (.ref (if 2000 + w = 999 then b else if 2000 + w = 998 then L else if 2000 ≤ 2000 + w then _ else _)) (if 1000 + w = 999 then b else if 1000 + w = 998 then L else if 2000 ≤ 1000 + w then _ else _) _ s _ ∧ va_T _ (if 2000 + w = 999 then b else if 2000 + w = 998 then L else if 2000 ≤ 2000 + w then _ else _) _ _ _ s _
    rw [if_neg (show ¬ 1000 + w = 999 by omega), if_neg (show ¬ 1000 + w = 998 by omega), if_neg (show ¬ 2000 ≤ 1000 + w by omega), if_neg (show ¬ 2000 + w = 999 by omega), if_neg (show ¬ 2000 + w = 998 by omega), if_pos (show 2000 ≤ 2000 + w by omega), Nat.add_sub_cancel_left, Nat.add_sub_cancel_left]
    exact h1
  · have key : ∀ {t : FieldType}, (Cond.arrayClass t).before A s = true → (Cond.arrayClass t).before A2 s = true := fun h => word_at (State.WarmedH.refl s) (Or.inr ⟨_, rfl⟩) h
    simp only [List.mem_cons, List.not_mem_nil, or_false] at ht
    rcases ht with rfl | rfl
    · exact key aI
    · exact key aZ
  · have key : ∀ {t : FieldType}, (Cond.arrayClass t).before A s = true → (Cond.arrayClass t).before A2 s = true := fun h => word_at (State.WarmedH.refl s) (Or.inr ⟨_, rfl⟩) h
    simp only [List.mem_cons, List.not_mem_nil, or_false] at ht
    rcases ht with rfl | rfl | rfl
    · exact key aI
    · exact key aB
    · exact key aL
