theorem zOk_N {l0 : Launch} {a : ZC} {cc : ByteArray} {own : String} {mL : Nat} {ret : Option FieldType} {mn : Nat} {tb : List (Nat × Nat × Nat × Nat)} (O : zOk l0 a cc own mL ret mn tb) : mn ≤ a.2.2.2 := by
  obtain ⟨⟨p, l, e, s, m, args, below, meth, c⟩, G, E, N⟩ := a
  exact O.2.2.2.2.2.2.2.2.1
/-! rows of the light layer that leave, call, throw and begin -/
theorem zKK_same {l : Launch} {E : EE} {u U : State} (hvm : u.vm = U.vm) (hh : U.heap = u.heap) (h : zKK l E u) : zKK l E U := by
  obtain ⟨h1, h2, h3, h4, h5, h6, h7, h8⟩ := h
  have ha : u.vm.Alike U.vm := by rw [hvm]; exact Vm.Alike.refl _
  exact ⟨h1.moved ha, fun w hw ho => va_Nw.same (zok_tab ho) hvm (h2 w hw ho), h3, by rw [hh]; exact h4, by rw [hh]; exact vx_Zq.moved ha h5, by rw [hh]; exact vx_Zq.moved ha h6, h7, by rw [hh]; exact zST_same hvm h8⟩
theorem zKK_warm {l : Launch} {E : EE} {s U : State} {locs : List Loc} (hW : s.WarmedH U.vm) (hS : va_S (zge E) s.heap U.heap locs) (h : zKK l E s) : zKK l E U := by
  obtain ⟨h1, h2, h3, h4, h5, h6, h7, h8⟩ := h
  have hq : ∀ a : Nat, a < s.heap.size → ¬ zge E a → U.heap[a]? = s.heap[a]? := hS.2.1
  exact ⟨h1.moved hW.alike, zKW_warm hW h2, h3, Nat.le_trans h4 hS.1, (vx_Zq.moved hW.alike h5).kept hq, (vx_Zq.moved hW.alike h6).kept hq, h7, zST_warm hW hS.1 hq h8⟩
theorem zPc_blind {l : Launch} {E : EE} {N : Nat} {as : List AV} {h : Hp} : FrameBlind (zPc l E N as h) := fun a U g mk hp => ⟨hp.1, hp.2.1, zKK_same (u := U) (U := U.calling g mk a) rfl rfl hp.2.2⟩
section ZK
variable {l0 : Launch} {a : ZC} {M : ZM} {cc : ByteArray} {own : String} {mL : Nat} {ret : Option FieldType} {mn : Nat} {tb : List (Nat × Nat × Nat × Nat)} {k n pc : Nat} {ls : List (Option AV)} {st : List AV} {h : Hp}
theorem zV_iret (O : zOk l0 a cc own mL ret mn tb) {z : Int} (hr2 : ret = some .int) (hq : M.2.2.2.1 (some (aI z)) h) (hk : k ≤ M.2.1) (hn : n ≤ M.2.2.1) (hd : decode cc pc = .ok (.ireturn, 1)) : zV a M k n pc ls [aI z] h := by
  obtain ⟨⟨p, l, e, s, m, args, below, meth, c⟩, G, E, N⟩ := a
  obtain ⟨hx, hb, hml, hr, ho, hlk, hK, hAD, hN, hex, hl0, hG⟩ := O
  intro cs cl hh H locs la hP hS hL
  exact W.widen hk hn (vx_ret (W.zret hx hb (hr.trans hr2) rfl (fun t ht hW => ⟨⟨some (aI z), h, rfl, fun v hv => by cases hv; exact cs _ List.mem_cons_self, hh, hq, by rw [ht]; exact zEx_wd hG hP⟩, by rw [zEx_ge hG]; exact hS.F ht⟩) hS.2.2 hd hlk))
theorem zV_zret (O : zOk l0 a cc own mL ret mn tb) {z : Int} (hr2 : ret = some .boolean) (hz : z = 0 ∨ z = 1) (hq : M.2.2.2.1 (some (aI z)) h) (hk : k ≤ M.2.1) (hn : n ≤ M.2.2.1) (hd : decode cc pc = .ok (.ireturn, 1)) : zV a M k n pc ls [aI z] h := by
  obtain ⟨⟨p, l, e, s, m, args, below, meth, c⟩, G, E, N⟩ := a
  obtain ⟨hx, hb, hml, hr, ho, hlk, hK, hAD, hN, hex, hl0, hG⟩ := O
  intro cs cl hh H locs la hP hS hL
  exact W.widen hk hn (vx_ret (W.zret hx hb (hr.trans hr2) (by rcases hz with rfl | rfl <;> rfl) (fun t ht hW => ⟨⟨some (aI z), h, rfl, fun v hv => by cases hv; exact cs _ List.mem_cons_self, hh, hq, by rw [ht]; exact zEx_wd hG hP⟩, by rw [zEx_ge hG]; exact hS.F ht⟩) hS.2.2 hd hlk))
theorem zV_vret (O : zOk l0 a cc own mL ret mn tb) (hr2 : ret = none) (hq : M.2.2.2.1 none h) (hk : k ≤ M.2.1) (hn : n ≤ M.2.2.1) (hd : decode cc pc = .ok (.return_, 1)) : zV a M k n pc ls [] h := by
  obtain ⟨⟨p, l, e, s, m, args, below, meth, c⟩, G, E, N⟩ := a
  obtain ⟨hx, hb, hml, hr, ho, hlk, hK, hAD, hN, hex, hl0, hG⟩ := O
  intro cs cl hh H locs la hP hS hL
  exact W.widen hk hn (vx_ret (W.vret hx hb (hr.trans hr2) (fun t ht hW => ⟨⟨none, h, rfl, (fun v hv => by cases hv), hh, hq, by rw [ht]; exact zEx_wd hG hP⟩, by rw [zEx_ge hG]; exact hS.F ht⟩) hS.2.2 hd hlk))
theorem zV_lret (O : zOk l0 a cc own mL ret mn tb) {z : Int} (hr2 : ret = some .long) (hq : M.2.2.2.1 (some (aL z)) h) (hk : k ≤ M.2.1) (hn : n ≤ M.2.2.1) (hd : decode cc pc = .ok (.lreturn, 1)) : zV a M k n pc ls [aL z] h := by
  obtain ⟨⟨p, l, e, s, m, args, below, meth, c⟩, G, E, N⟩ := a
  obtain ⟨hx, hb, hml, hr, ho, hlk, hK, hAD, hN, hex, hl0, hG⟩ := O
  intro cs cl hh H locs la hP hS hL
  exact W.widen hk hn (vx_ret (W.lret hx hb (hr.trans hr2) (fun t ht hW => ⟨⟨some (aL z), h, rfl, fun v hv => by cases hv; exact cs _ List.mem_cons_self, hh, hq, by rw [ht]; exact zEx_wd hG hP⟩, by rw [zEx_ge hG]; exact hS.F ht⟩) hS.2.2 hd hlk))
theorem zV_fret (O : zOk l0 a cc own mL ret mn tb) {z : UInt32} (hr2 : ret = some .float) (hq : M.2.2.2.1 (some (aF z)) h) (hk : k ≤ M.2.1) (hn : n ≤ M.2.2.1) (hd : decode cc pc = .ok (.freturn, 1)) : zV a M k n pc ls [aF z] h := by
  obtain ⟨⟨p, l, e, s, m, args, below, meth, c⟩, G, E, N⟩ := a
  obtain ⟨hx, hb, hml, hr, ho, hlk, hK, hAD, hN, hex, hl0, hG⟩ := O
  intro cs cl hh H locs la hP hS hL
  exact W.widen hk hn (vx_ret (W.fret hx hb (hr.trans hr2) (fun t ht hW => ⟨⟨some (aF z), h, rfl, fun v hv => by cases hv; exact trivial, hh, hq, by rw [ht]; exact zEx_wd hG hP⟩, by rw [zEx_ge hG]; exact hS.F ht⟩) hS.2.2 hd hlk))
theorem zV_dret (O : zOk l0 a cc own mL ret mn tb) {z : UInt64} (hr2 : ret = some .double) (hq : M.2.2.2.1 (some (aD z)) h) (hk : k ≤ M.2.1) (hn : n ≤ M.2.2.1) (hd : decode cc pc = .ok (.dreturn, 1)) : zV a M k n pc ls [aD z] h := by
  obtain ⟨⟨p, l, e, s, m, args, below, meth, c⟩, G, E, N⟩ := a
  obtain ⟨hx, hb, hml, hr, ho, hlk, hK, hAD, hN, hex, hl0, hG⟩ := O
  intro cs cl hh H locs la hP hS hL
  exact W.widen hk hn (vx_ret (W.dret hx hb (hr.trans hr2) (fun t ht hW => ⟨⟨some (aD z), h, rfl, fun v hv => by cases hv; exact trivial, hh, hq, by rw [ht]; exact zEx_wd hG hP⟩, by rw [zEx_ge hG]; exact hS.F ht⟩) hS.2.2 hd hlk))
/-- a call's run, its answer and its throw -/
theorem zV_run {p : Program} {l : Launch} {e : Env} {R : Room} {s : State} {m : MethodId} {args : Array Value} {below : List Frame} {meth : Method} {c : Code} {H : Heap} {locs : List Loc} {QQ : State → Prop} {E : EE} {N : Nat} {mc' ms' : Nat} {la : Array Slot} {rest st0 : List Value} {Q' : Option AV → Hp → Prop} {QX' : Nat → Hp → Prop} {av : Array Value}
    (hr : vx_Run p l e R s m args below meth c H locs k n mc' ms' (F0 m pc la st0) rest (zQ E N Q' av) (zX E N QX') (zge E)) (hS : va_S (zge E) s.heap H locs)
    (kk : ∀ (r : Option AV) (h' : Hp) (H1 : Heap) (locs1 : List Loc), (∀ v, r = some v → zcan v) → zhok h' → Q' r h' → zWd E N h' H1 → va_S (zge E) s.heap H1 locs1 → W p l e R s m args below meth c H1 locs1 (k + mc') (n + ms') QQ (F0 m (pc + 3) la ((r.map (cv E)).toList ++ rest)))
    (kx : ∀ (x : Nat) (h' : Hp) (H1 : Heap) (locs1 : List Loc) (q : Addr) (ce : Cell), zhok h' → QX' x h' → zWd E N h' H1 → va_S (zge E) s.heap H1 locs1 → H1[q]? = some ce → ce.vm = .none → s.vm.findClass (zen x) = some ce.cls → vx_W p l e R s m args below meth c H1 locs1 (k + mc') (n + ms') QQ (F0 m pc la rest) q) :
    W p l e R s m args below meth c H locs k n QQ (F0 m pc la st0) := by
  intro T hT X
  rcases hr T hT X with ⟨v, st₀, t, T', L, h0, X', hL, e1, e2, ⟨⟨r, h', hv, hc, hh, hq, hw⟩, hF⟩, st⟩ | ⟨q, st₀, t, T', L, En, ce, h0, X', hL, e1, e2, ⟨⟨x, h', he, hh, hq, hw⟩, hF⟩, hce, hcv, hcl, st⟩
  · obtain ⟨k1, k2, k3⟩ := vx_keep h0 e1 hS (fun _ _ q => q) (fun _ q => q) hL hF
    cases hv
    obtain ⟨t2, a1, b1⟩ := kk r h' T'.heap (locs ++ L) hc hh hq (by rw [e1]; exact hw) k3 T' rfl X'
    exact ⟨t2, st t2 a1, b1⟩
  · obtain ⟨k1, k2, k3⟩ := vx_keep h0 e1 hS (fun _ _ q => q) (fun _ q => q) hL hF
    subst he
    obtain ⟨t2, a1, b1⟩ := kx x h' T'.heap (locs ++ L) q ce hh hq (by rw [e1]; exact hw) k3 (by rw [e1]; exact hce) hcv hcl T' rfl X'
    exact ⟨t2, st.trans a1, b1⟩
/-- what the tables say of a callee -/
def zCl (y : MethodName) (cc' : ByteArray) (mL' : Nat) (ret' : Option FieldType) (nn : Nat) : Prop :=
  zIn (.initialized y.cls) ∧ zIn (.code y cc' mL' ret') ∧ (y.cls ≠ "java/lang/invoke/MethodHandle" ∧ y.cls ≠ "java/lang/invoke/VarHandle") ∧ (parseMethodDescriptor y.desc).map (fun d => d.parameters.length) = some nn
theorem zgood {y : MethodName} {cc' : ByteArray} {mL' : Nat} {ret' : Option FieldType} {s : State} (hK : zKW s) (hw : zIn (.code y cc' mL' ret')) : ∀ w ∈ [Cond.code y cc' mL' ret'], ∀ (a' : Array Value) (U : State), s.WarmedH U.vm → w.before a' U = true := by
  intro w hw2 a' U hW
  rw [List.mem_singleton.mp hw2]
  exact zIn_use (zKW_warm hW hK) hw
theorem zlen {y : MethodName} {nn : Nat} (h : (parseMethodDescriptor y.desc).map (fun d => d.parameters.length) = some nn) : ∀ sig, parseMethodDescriptor y.desc = some sig → nn = sig.parameters.length := by
  intro sig hs
  rw [hs] at h
  exact (Option.some.inj h).symm
def zwd (st : List AV) : Nat := (st.map fun v => if zwide v then 2 else 1).sum
theorem zwd_eq (E : EE) (st : List AV) : ((st.map (cv E)).map fun v => v.category).sum = zwd st := by
  unfold zwd
  rw [List.map_map]
  congr 1
  apply List.map_congr_left
  intro v _
  exact zcat E v
theorem zroom {m : MethodId} {pc : Nat} {la : Array Slot} {E : EE} {st st0 : List AV} (h : zwd st ≤ 8) : 2 * (F0 m pc la (st0.map (cv E))).monitorRoom + ((st.map (cv E)).map fun v => v.category).sum ≤ 8 := by
  rw [zwd_eq]
  simp [JFrame.monitorRoom]
  exact h
theorem zV_callV0 (O : zOk l0 a cc own mL ret mn tb) {y : MethodName} {idx nn ci pl : Nat} {cc' : ByteArray} {mL' d' mc' ms' : Nat} {ret' : Option FieldType} {as : List AV} {Q' : Option AV → Hp → Prop} {QX' : Nat → Hp → Prop} {l1 : List Nat} {cq : vw_C} {st0 : List AV}
    (hc : zCl y cc' mL' ret' nn) (hl : zIn (.methodLink own idx y) ∨ ∃ host, zIn (.methodLinkNest own idx y host)) (hi : zIn (.instanceMethod y)) (hs : zIn (.selects y.cls y y))
    (ht : zT[pl]? = some (.inr (ci, l1))) (hcl : vwCl[ci]? = some cq) (hcn : cq.1 = y.cls) (hp : pl < mn) (hst : st0 = as.reverse ++ aR pl :: st) (hnn : as.length = nn) (hw : zwd st ≤ 8)
    (hd1 : d' + 1 ≤ M.1) (hd2 : M.1 ≤ 13) (hmL : mL' ≤ 18) (hk : k + mc' ≤ M.2.1) (hn : n + ms' ≤ M.2.2.1) (hd : decode cc pc = .ok (.invokevirtual idx, 3))
    (sp : zSpA l0 y cc' mL' ret' d' mc' ms' (aR pl :: as) h Q' QX' a.2.2.2)
    (kk : ∀ r h', Q' r h' → zV a M (k + mc') (n + ms') (pc + 3) ls (r.toList ++ st) h') (kx : ∀ x h', QX' x h' → zU a M (k + mc') (n + ms') pc ls x h') : zV a M k n pc ls st0 h := by
  obtain ⟨⟨p, l, e, s, m, args, below, meth, c⟩, G, E, N⟩ := a
  obtain ⟨hx, hb, hml, hr, ho, hlk, hK, hAD, hN, hex, hl0, hG⟩ := O
  intro cs cl hh H locs la hP hS hL
  subst hl0
  subst hst
  have hat := zws_get (E := E) (h := h) (Nat.lt_of_lt_of_le hp hN)
  rw [zat_of ht] at hat
  have hM := sp (fun v hv => by
    rcases List.mem_cons.mp hv with rfl | hv
    · exact trivial
    · exact cs v (List.mem_append_left _ (List.mem_reverse.mpr hv))) hh E hAD
  obtain ⟨c1, c2, c3, c4⟩ := hc
  have hpre : PreV s H y.cls (E.1 pl) (zPc l E N (aR pl :: as) h) (as.map (cv E)) := by
    refine ⟨zPc_blind, ?_, fun U hU hW => ⟨rfl, by rw [hU]; exact hP, zKK_warm hW (by rw [hU]; exact hS) hK⟩⟩
    rw [← hcn]
    exact va_recv hK.1 hP hcl hat
  have hbase : (zrm d' mc' ms').cells = mc' ∧ (zrm d' mc' ms').slots = ms' ∧ (zrm d' mc' ms').frames + 1 ≤ (zrm M.1 M.2.1 M.2.2.1).frames ∧ 8 + (mL' + 11) + (zrm d' mc' ms').locals ≤ (zrm M.1 M.2.1 M.2.2.1).locals := ⟨rfl, rfl, hd1, by show 8 + (mL' + 11) + zlo d' ≤ zlo M.1; have := zlo_up hd1 hd2; omega⟩
  have hstk : (F0 m pc la (((as.reverse ++ aR pl :: st)).map (cv E))).stack = (as.map (cv E)).reverse ++ .ref (E.1 pl) :: st.map (cv E) := by
    show ((as.reverse ++ aR pl :: st)).map (cv E) = _
    rw [List.map_append, List.map_reverse]
    rfl
  have hrun : vx_Run p l e (zrm M.1 M.2.1 M.2.2.1) s m args below meth c H locs k n mc' ms' (F0 m pc la (((as.reverse ++ aR pl :: st)).map (cv E))) (st.map (cv E)) (zQ E N Q' (Value.ref (E.1 pl) :: as.map (cv E)).toArray) (zX E N QX') (zge E) := by
    rcases hl with hl | ⟨host, hl⟩
    · exact vx_runV (own := own) (Ts := []) (nL := c.maxLocals) (C := y.cls) (b := E.1 pl) ⟨hx, hb, rfl, ho, fun w hw => by cases hw⟩ hM ⟨⟨hbase.1, hbase.2.1, hbase.2.2.1, hbase.2.2.2, zgood hK.2.1 c2, List.mem_singleton.mpr rfl, zIn_use hK.2.1 c2, zIn_use hK.2.1 c1, c3, zlen c4, zIn_use hK.2.1 hl⟩, zIn_use hK.2.1 hi, zIn_use hK.2.1 hs⟩ hpre rfl (by rw [List.length_map]; exact hnn) hL.1 hstk (zroom hw) hd ⟨hk, hn⟩
    · exact vx_runVN (own := own) (host := host) (Ts := []) (nL := c.maxLocals) (C := y.cls) (b := E.1 pl) ⟨hx, hb, rfl, ho, fun w hw => by cases hw⟩ hM ⟨⟨⟨hbase.1, hbase.2.1, hbase.2.2.1, hbase.2.2.2, zgood hK.2.1 c2, List.mem_singleton.mpr rfl⟩, zIn_use hK.2.1 c2, zIn_use hK.2.1 c1, c3, zlen c4, zIn_use hK.2.1 hl⟩, zIn_use hK.2.1 hi, zIn_use hK.2.1 hs⟩ hpre rfl (by rw [List.length_map]; exact hnn) hL.1 hstk (zroom hw) hd ⟨hk, hn⟩
  refine zV_run hrun hS (fun r h' H1 locs1 q1 q2 q3 q4 q5 => ?_) (fun x h' H1 locs1 q ce q1 q2 q3 q4 q5 q6 q7 => ?_)
  · have := kk r h' q3 (fun v hv => by
      rcases List.mem_append.mp hv with hv | hv
      · exact q1 v (Option.mem_toList.mp hv)
      · exact cs v (List.mem_append_right _ (List.mem_cons_of_mem _ hv))) cl q2 H1 locs1 la q4 q5 hL
    rw [List.map_append] at this
    cases r <;> exact this
  · exact kx x h' q2 cl q1 H1 locs1 la q ce _ q3 q4 hL q5 q6 q7
theorem zV_callV (O : zOk l0 a cc own mL ret mn tb) {y : MethodName} {idx nn ci pl : Nat} {cc' : ByteArray} {mL' mn' d' mc' ms' : Nat} {ret' : Option FieldType} {as : List AV} {Q' : Option AV → Hp → Prop} {QX' : Nat → Hp → Prop} {l1 : List Nat} {cq : vw_C} {st0 : List AV}
    (hc : zCl y cc' mL' ret' nn) (hl : zIn (.methodLink own idx y) ∨ ∃ host, zIn (.methodLinkNest own idx y host)) (hi : zIn (.instanceMethod y)) (hs : zIn (.selects y.cls y y))
    (ht : zT[pl]? = some (.inr (ci, l1))) (hcl : vwCl[ci]? = some cq) (hcn : cq.1 = y.cls) (hp : pl < mn) (hmn : mn' ≤ mn) (hst : st0 = as.reverse ++ aR pl :: st) (hnn : as.length = nn) (hw : zwd st ≤ 8)
    (hd1 : d' + 1 ≤ M.1) (hd2 : M.1 ≤ 13) (hmL : mL' ≤ 18) (hk : k + mc' ≤ M.2.1) (hn : n + ms' ≤ M.2.2.1) (hd : decode cc pc = .ok (.invokevirtual idx, 3))
    (sp : zSp l0 y cc' mL' ret' mn' d' mc' ms' (aR pl :: as) h Q' QX')
    (kk : ∀ r h', Q' r h' → zV a M (k + mc') (n + ms') (pc + 3) ls (r.toList ++ st) h') (kx : ∀ x h', QX' x h' → zU a M (k + mc') (n + ms') pc ls x h') : zV a M k n pc ls st0 h :=
  zV_callV0 O hc hl hi hs ht hcl hcn hp hst hnn hw hd1 hd2 hmL hk hn hd (sp _ (Nat.le_trans hmn (zOk_N O))) kk kx
theorem zV_callS0 (O : zOk l0 a cc own mL ret mn tb) {y : MethodName} {idx nn : Nat} {cc' : ByteArray} {mL' d' mc' ms' : Nat} {ret' : Option FieldType} {as : List AV} {Q' : Option AV → Hp → Prop} {QX' : Nat → Hp → Prop} {st0 : List AV}
    (hc : zCl y cc' mL' ret' nn) (hl : zIn (.methodLink own idx y) ∨ ∃ host, zIn (.methodLinkNest own idx y host)) (hi : zIn (.static y))
    (hst : st0 = as.reverse ++ st) (hnn : as.length = nn) (hw : zwd st ≤ 8)
    (hd1 : d' + 1 ≤ M.1) (hd2 : M.1 ≤ 13) (hmL : mL' ≤ 18) (hk : k + mc' ≤ M.2.1) (hn : n + ms' ≤ M.2.2.1) (hd : decode cc pc = .ok (.invokestatic idx, 3))
    (sp : zSpA l0 y cc' mL' ret' d' mc' ms' as h Q' QX' a.2.2.2)
    (kk : ∀ r h', Q' r h' → zV a M (k + mc') (n + ms') (pc + 3) ls (r.toList ++ st) h') (kx : ∀ x h', QX' x h' → zU a M (k + mc') (n + ms') pc ls x h') : zV a M k n pc ls st0 h := by
  obtain ⟨⟨p, l, e, s, m, args, below, meth, c⟩, G, E, N⟩ := a
  obtain ⟨hx, hb, hml, hr, ho, hlk, hK, hAD, hN, hex, hl0, hG⟩ := O
  intro cs cl hh H locs la hP hS hL
  subst hl0
  subst hst
  have hM := sp (fun v hv => cs v (List.mem_append_left _ (List.mem_reverse.mpr hv))) hh E hAD
  obtain ⟨c1, c2, c3, c4⟩ := hc
  have hpre : PreS s H (zPc l E N as h) (as.map (cv E)) := ⟨zPc_blind, fun U hU hW => ⟨rfl, by rw [hU]; exact hP, zKK_warm hW (by rw [hU]; exact hS) hK⟩⟩
  have hbase : (zrm d' mc' ms').cells = mc' ∧ (zrm d' mc' ms').slots = ms' ∧ (zrm d' mc' ms').frames + 1 ≤ (zrm M.1 M.2.1 M.2.2.1).frames ∧ 8 + (mL' + 11) + (zrm d' mc' ms').locals ≤ (zrm M.1 M.2.1 M.2.2.1).locals := ⟨rfl, rfl, hd1, by show 8 + (mL' + 11) + zlo d' ≤ zlo M.1; have := zlo_up hd1 hd2; omega⟩
  have hstk : (F0 m pc la ((as.reverse ++ st).map (cv E))).stack = (as.map (cv E)).reverse ++ st.map (cv E) := by
    show (as.reverse ++ st).map (cv E) = _
    rw [List.map_append, List.map_reverse]
  have hrun : vx_Run p l e (zrm M.1 M.2.1 M.2.2.1) s m args below meth c H locs k n mc' ms' (F0 m pc la ((as.reverse ++ st).map (cv E))) (st.map (cv E)) (zQ E N Q' (as.map (cv E)).toArray) (zX E N QX') (zge E) := by
    rcases hl with hl | ⟨host, hl⟩
    · exact vx_runS (own := own) (Ts := []) (nL := c.maxLocals) ⟨hx, hb, rfl, ho, fun w hw => by cases hw⟩ hM ⟨⟨hbase.1, hbase.2.1, hbase.2.2.1, hbase.2.2.2, zgood hK.2.1 c2, List.mem_singleton.mpr rfl, zIn_use hK.2.1 c2, zIn_use hK.2.1 c1, c3, zlen c4, zIn_use hK.2.1 hl⟩, zIn_use hK.2.1 hi⟩ hpre rfl (by rw [List.length_map]; exact hnn) hL.1 hstk (zroom hw) hd ⟨hk, hn⟩
    · exact vx_runSN (own := own) (host := host) (Ts := []) (nL := c.maxLocals) ⟨hx, hb, rfl, ho, fun w hw => by cases hw⟩ hM ⟨⟨⟨hbase.1, hbase.2.1, hbase.2.2.1, hbase.2.2.2, zgood hK.2.1 c2, List.mem_singleton.mpr rfl⟩, zIn_use hK.2.1 c2, zIn_use hK.2.1 c1, c3, zlen c4, zIn_use hK.2.1 hl⟩, zIn_use hK.2.1 hi, trivial⟩ hpre rfl (by rw [List.length_map]; exact hnn) hL.1 hstk (zroom hw) hd ⟨hk, hn⟩
  refine zV_run hrun hS (fun r h' H1 locs1 q1 q2 q3 q4 q5 => ?_) (fun x h' H1 locs1 q ce q1 q2 q3 q4 q5 q6 q7 => ?_)
  · have := kk r h' q3 (fun v hv => by
      rcases List.mem_append.mp hv with hv | hv
      · exact q1 v (Option.mem_toList.mp hv)
      · exact cs v (List.mem_append_right _ hv)) cl q2 H1 locs1 la q4 q5 hL
    rw [List.map_append] at this
    cases r <;> exact this
  · exact kx x h' q2 cl q1 H1 locs1 la q ce _ q3 q4 hL q5 q6 q7
theorem zV_callS (O : zOk l0 a cc own mL ret mn tb) {y : MethodName} {idx nn : Nat} {cc' : ByteArray} {mL' mn' d' mc' ms' : Nat} {ret' : Option FieldType} {as : List AV} {Q' : Option AV → Hp → Prop} {QX' : Nat → Hp → Prop} {st0 : List AV}
    (hc : zCl y cc' mL' ret' nn) (hl : zIn (.methodLink own idx y) ∨ ∃ host, zIn (.methodLinkNest own idx y host)) (hi : zIn (.static y))
    (hmn : mn' ≤ mn) (hst : st0 = as.reverse ++ st) (hnn : as.length = nn) (hw : zwd st ≤ 8)
    (hd1 : d' + 1 ≤ M.1) (hd2 : M.1 ≤ 13) (hmL : mL' ≤ 18) (hk : k + mc' ≤ M.2.1) (hn : n + ms' ≤ M.2.2.1) (hd : decode cc pc = .ok (.invokestatic idx, 3))
    (sp : zSp l0 y cc' mL' ret' mn' d' mc' ms' as h Q' QX')
    (kk : ∀ r h', Q' r h' → zV a M (k + mc') (n + ms') (pc + 3) ls (r.toList ++ st) h') (kx : ∀ x h', QX' x h' → zU a M (k + mc') (n + ms') pc ls x h') : zV a M k n pc ls st0 h :=
  zV_callS0 O hc hl hi hst hnn hw hd1 hd2 hmL hk hn hd (sp _ (Nat.le_trans hmn (zOk_N O))) kk kx
end ZK
