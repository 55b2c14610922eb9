/-! worlds that grow: rows of the constructors -/
theorem y_join {A0 : Nat → Prop} {D : va_G} {cl : List vw_C} {wr wc w1 : va_W} {H H1 : Heap} (hP : va_P D cl (wr ++ wc) H) (hD : va_D A0 (wr ++ wc)) (hk : ∀ q : Nat, q < H.size → ¬ va_A wc H.size q → H1[q]? = H[q]?) (hF : ∀ q, va_A wc H.size q → A0 q) (hP1 : va_P D cl w1 H1) (hD1 : va_D (va_A wc H.size) w1) : va_P D cl (wr ++ w1) H1 ∧ va_D A0 (wr ++ w1) := by
  have left : ∀ (k : Nat) (q : Nat × va_E), wr[k]? = some q → (wr ++ wc)[k]? = some q := fun k q hq => by
    rw [List.getElem?_append_left (List.getElem?_eq_some_iff.mp hq).1]
    exact hq
  have lt : ∀ (k : Nat) (q : Nat × va_E), wr[k]? = some q → q.1 < H.size ∧ ¬ va_A wc H.size q.1 := by
    intro k q hq
    have hk2 : k < wr.length := (List.getElem?_eq_some_iff.mp hq).1
    have h0 := left k q hq
    refine ⟨(hP k q h0).lt, fun h => ?_⟩
    rcases h with ⟨j, e, hj⟩ | h
    · have h1 : (wr ++ wc)[wr.length + j]? = some (q.1, e) := by
        rw [List.getElem?_append_right (by omega), Nat.add_sub_cancel_left]
        exact hj
      have := hD.1 k (wr.length + j) q (q.1, e) h0 h1 rfl
      omega
    · have := (hP k q h0).lt
      omega
  refine ⟨va_P.app (fun k q hq => (hP k q (left k q hq)).kept (hk q.1 (lt k q hq).1 (lt k q hq).2)) hP1, va_D.app ⟨fun i j p q hi hj he => hD.1 i j p q (left i p hi) (left j q hj) he, fun k q hq => hD.2 k q (left k q hq)⟩ (hD1.weaken (fun _ q _ h => hF q.1 h)) (fun i j p q hp hq he => ?_)⟩
  exact (lt i p hp).2 (by rw [he]; exact hD1.2 j q hq)
theorem y_cid {E : EE} {cA : ClassId} {i : Nat} {ty : FieldType} {s : State} (hK : va_K E.2.1 vwCl (ztys E ++ [(cA, ty)]) s) (hi : (ztys E)[i]? = some (E.2.2.1 i, ty)) : cA = E.2.2.1 i := by
  have h0 := (hK.2 i (E.2.2.1 i, ty) (by rw [List.getElem?_append_left (List.getElem?_eq_some_iff.mp hi).1]; exact hi)).2
  have h1 := (hK.2 5 (cA, ty) rfl).2
  cases ty with
  | object C =>
    obtain ⟨_, _, _, _, _, h4⟩ := h0
    obtain ⟨_, _, _, _, _, h5⟩ := h1
    exact Option.some.inj (h5.symm.trans h4)
  | _ => exact Option.some.inj (h1.symm.trans h0)
theorem y_one {A : Nat → Prop} {a : Nat} {e : va_E} (h : A a) : va_D A [(a, e)] := by
  refine ⟨fun i j p q hi hj _ => ?_, fun k q hk => ?_⟩
  · have h1 : i < 1 := (List.getElem?_eq_some_iff.mp hi).1
    have h2 : j < 1 := (List.getElem?_eq_some_iff.mp hj).1
    omega
  · have h1 : k < 1 := (List.getElem?_eq_some_iff.mp hk).1
    rw [show k = 0 by omega] at hk
    cases hk
    exact h
/-- the arrays' classes, which the tables' words alone don't keep -/
def yX (U : State) : Prop := va_AO RX3 U ∧ ∀ ty : FieldType, ty ∈ [FieldType.int, .byte, .long] → ∀ A : Array Value, (Cond.arrayClass ty).before A U = true
theorem yX_warm {s U : State} (hW : s.WarmedH U.vm) (h : yX s) : yX U := ⟨va_AO.moved hW.alike h.1, fun ty ht A => word_at hW (Or.inr ⟨_, rfl⟩) (h.2 ty ht A)⟩
theorem yX_call {U : State} {g : JFrame} {mk : MethodId} {a : Array Value} (h : yX U) : yX (U.calling g mk a) := yX_warm (s := U) (U := U.calling g mk a) (State.WarmedH.refl U) h
section Y
variable {p : Program} {l : Launch} {e : Env} {R : Room} {s : State} {m : MethodId} {args : Array Value} {below : List Frame} {meth : Method} {c : Code} {H : Heap} {locs : List Loc} {cells slots : Nat} {Q : State → Prop}
variable {cc : ByteArray} {own : String} {pc : Nat} {ls : Array Slot} {rest : List Value} {E : EE} {A : Nat → Prop} {ws : va_W}
theorem y_newI (hx : p.tables.exec = Jvm.exec) (hb : c.code = cc) (hW : zKW s) (hK : va_K E.2.1 vwCl (ztys E) s) (hP : va_P E.2.1 vwCl ws H) (hD : va_D A ws) (hS : va_S A s.heap H locs) (hA : ∀ q, s.heap.size ≤ q → A q) (hO : yX s) {n : Int32} {N' : Nat} (hn : ¬ n < 0) (hN : n.toNatClampNeg = N') (hbytes : N' * 4 ≤ 536870912) (hc : cells + 1 ≤ R.cells) (hs : slots + N' ≤ R.slots) (hd : decode cc pc = .ok (.newarray .int, 2))
    (kk : ∀ (q : Nat) (H1 : Heap), va_P E.2.1 vwCl (ws ++ [(q, .inl (E.2.2.1 0, N', .inl fun _ => 0))]) H1 → va_D A (ws ++ [(q, .inl (E.2.2.1 0, N', .inl fun _ => 0))]) → va_S A s.heap H1 locs → W p l e R s m args below meth c H1 locs (cells + 1) (slots + N') Q (F0 m (pc + 2) ls (.ref q :: rest))) : W p l e R s m args below meth c H locs cells slots Q (F0 m pc ls (.int n :: rest)) := by
  refine va_newa hx hb (atype := .int) (hO.2 .int (by simp) _) rfl hK hP hD hS hA (a0 := (N', .inl fun _ => 0)) (fun cA => rfl) hn hN hbytes hc hs hd fun q cA H1 hK1 hP1 hD1 hS1 => ?_
  have e1 := y_cid hK1 (i := 0) rfl
  subst e1
  exact kk q H1 hP1 hD1 hS1
theorem y_newB (hx : p.tables.exec = Jvm.exec) (hb : c.code = cc) (hW : zKW s) (hK : va_K E.2.1 vwCl (ztys E) s) (hP : va_P E.2.1 vwCl ws H) (hD : va_D A ws) (hS : va_S A s.heap H locs) (hA : ∀ q, s.heap.size ≤ q → A q) (hO : yX s) {n : Int32} {N' : Nat} (hn : ¬ n < 0) (hN : n.toNatClampNeg = N') (hbytes : N' * 1 ≤ 536870912) (hc : cells + 1 ≤ R.cells) (hs : slots + N' ≤ R.slots) (hd : decode cc pc = .ok (.newarray .byte, 2))
    (kk : ∀ (q : Nat) (H1 : Heap), va_P E.2.1 vwCl (ws ++ [(q, .inl (E.2.2.1 1, N', .inl fun _ => 0))]) H1 → va_D A (ws ++ [(q, .inl (E.2.2.1 1, N', .inl fun _ => 0))]) → va_S A s.heap H1 locs → W p l e R s m args below meth c H1 locs (cells + 1) (slots + N') Q (F0 m (pc + 2) ls (.ref q :: rest))) : W p l e R s m args below meth c H locs cells slots Q (F0 m pc ls (.int n :: rest)) := by
  refine va_newa hx hb (atype := .byte) (hO.2 .byte (by simp) _) rfl hK hP hD hS hA (a0 := (N', .inl fun _ => 0)) (fun cA => rfl) hn hN hbytes hc hs hd fun q cA H1 hK1 hP1 hD1 hS1 => ?_
  have e1 := y_cid hK1 (i := 1) rfl
  subst e1
  exact kk q H1 hP1 hD1 hS1
theorem y_newL (hx : p.tables.exec = Jvm.exec) (hb : c.code = cc) (hW : zKW s) (hK : va_K E.2.1 vwCl (ztys E) s) (hP : va_P E.2.1 vwCl ws H) (hD : va_D A ws) (hS : va_S A s.heap H locs) (hA : ∀ q, s.heap.size ≤ q → A q) (hO : yX s) {n : Int32} {N' : Nat} (hn : ¬ n < 0) (hN : n.toNatClampNeg = N') (hbytes : N' * 8 ≤ 536870912) (hc : cells + 1 ≤ R.cells) (hs : slots + N' ≤ R.slots) (hd : decode cc pc = .ok (.newarray .long, 2))
    (kk : ∀ (q : Nat) (H1 : Heap), va_P E.2.1 vwCl (ws ++ [(q, .inl (E.2.2.1 2, N', .inr (.inl fun _ => 0)))]) H1 → va_D A (ws ++ [(q, .inl (E.2.2.1 2, N', .inr (.inl fun _ => 0)))]) → va_S A s.heap H1 locs → W p l e R s m args below meth c H1 locs (cells + 1) (slots + N') Q (F0 m (pc + 2) ls (.ref q :: rest))) : W p l e R s m args below meth c H locs cells slots Q (F0 m pc ls (.int n :: rest)) := by
  refine va_newa hx hb (atype := .long) (hO.2 .long (by simp) _) rfl hK hP hD hS hA (a0 := (N', .inr (.inl fun _ => 0))) (fun cA => rfl) hn hN hbytes hc hs hd fun q cA H1 hK1 hP1 hD1 hS1 => ?_
  have e1 := y_cid hK1 (i := 2) rfl
  subst e1
  exact kk q H1 hP1 hD1 hS1
theorem y_newQ (hx : p.tables.exec = Jvm.exec) (hb : c.code = cc) (ho : s.vm.findClass own = some m.cls) (hW : zKW s) (hO : yX s) (hK : va_K E.2.1 vwCl (ztys E) s) (hP : va_P E.2.1 vwCl ws H) (hD : va_D A ws) (hS : va_S A s.heap H locs) (hA : ∀ q, s.heap.size ≤ q → A q) {idx : Nat} (w : zIn (.classLink own idx RX3)) {n : Int32} {N' : Nat} (hn : ¬ n < 0) (hN : n.toNatClampNeg = N') (hbytes : N' * 4 ≤ 536870912) (hc : cells + 1 ≤ R.cells) (hs : slots + N' ≤ R.slots) (hd : decode cc pc = .ok (.anewarray idx, 3))
    (kk : ∀ (q : Nat) (H1 : Heap), va_P E.2.1 vwCl (ws ++ [(q, .inl (E.2.2.1 3, N', .inr (.inr (.inr (.inr fun _ => none)))))]) H1 → va_D A (ws ++ [(q, .inl (E.2.2.1 3, N', .inr (.inr (.inr (.inr fun _ => none)))))]) → va_S A s.heap H1 locs → W p l e R s m args below meth c H1 locs (cells + 1) (slots + N') Q (F0 m (pc + 3) ls (.ref q :: rest))) : W p l e R s m args below meth c H locs cells slots Q (F0 m pc ls (.int n :: rest)) := by
  refine va_newq hx hb ho (zIn_use hW w) hO.1 hK hP hD hS hA hn hN hbytes hc hs hd fun q cA H1 hK1 hP1 hD1 hS1 => ?_
  have e1 := y_cid hK1 (i := 3) rfl
  subst e1
  exact kk q H1 hP1 hD1 hS1
theorem y_new (hx : p.tables.exec = Jvm.exec) (hb : c.code = cc) (ho : s.vm.findClass own = some m.cls) (hW : zKW s) (hK : va_K E.2.1 vwCl (ztys E) s) (hP : va_P E.2.1 vwCl ws H) (hD : va_D A ws) (hS : va_S A s.heap H locs) (hA : ∀ q, s.heap.size ≤ q → A q) {C : String} {T : u_T} {N ci idx : Nat} (ty : Nat → FieldType) (hty : ∀ k, k < N → parseFieldDescriptor (T k).2.2.1 = some (ty k)) (hu : ∀ w ∈ u_ws C T N, zIn w) (h1 : zIn (.classLink own idx C)) (h2 : zIn (.instantiable C N)) (h3 : zIn (.initialized C)) (hci : vwCl[ci]? = some (C, T, N)) {fs : List Value} (hfs : ∀ j, j < N → defaultValue (ty j) = vp_V fs j) (hc : cells + 1 ≤ R.cells) (hs : slots + N ≤ R.slots) (hd : decode cc pc = .ok (.new idx, 3))
    (kk : ∀ (q : Nat) (H1 : Heap), va_P E.2.1 vwCl (ws ++ [(q, .inr (ci, fs))]) H1 → va_D A (ws ++ [(q, .inr (ci, fs))]) → va_S A s.heap H1 locs → W p l e R s m args below meth c H1 locs (cells + 1) (slots + N) Q (F0 m (pc + 3) ls (.ref q :: rest))) : W p l e R s m args below meth c H locs cells slots Q (F0 m pc ls rest) :=
  va_new hx hb (Ts := u_ws C T N) (fun w hw => zIn_use hW (hu w hw)) (fun _ h => h) ty hty ho (zIn_use hW h1) (zIn_use hW h2) (zIn_use hW h3) hK hP hD hS hA hci hfs hc hs hd kk
theorem y_putF (hx : p.tables.exec = Jvm.exec) (hb : c.code = cc) (ho : s.vm.findClass own = some m.cls) (hW : zKW s) (hK : va_K E.2.1 vwCl (ztys E) s) {C : String} {T : u_T} {N ci idx k a : Nat} {fs : List Value} {v : Value} {ft : FieldType} (ty : Nat → FieldType) (hty : ∀ k, k < N → parseFieldDescriptor (T k).2.2.1 = some (ty k)) (hnm : ∀ a, a < N → ∀ b, b < N → a ≠ b → (T a).2.1 ≠ (T b).2.1) (hu : ∀ w ∈ u_ws C T N, zIn w) (hci : vwCl[ci]? = some (C, T, N)) (hk : k < N) (hl : zIn (.fieldLink own idx (T k).1 (T k).2.1 (T k).2.2.1)) (hfin : (T k).2.2.2 = true) (hin : meth.name = "<init>") (hdecl : (T k).1 = own) (hft : ty k = ft) (hn : narrow ft v = v) (hfit : fits ft v = true) (hlen : k < fs.length)
    (hP : va_P E.2.1 vwCl ((a, .inr (ci, fs)) :: ws) H) (hD : va_D A ((a, .inr (ci, fs)) :: ws)) (hS : va_S A s.heap H locs) (hd : decode cc pc = .ok (.putfield idx, 3))
    (kk : ∀ (H1 : Heap) (locs1 : List Loc), va_P E.2.1 vwCl ((a, .inr (ci, fs.set k v)) :: ws) H1 → va_D A ((a, .inr (ci, fs.set k v)) :: ws) → va_S A s.heap H1 locs1 → W p l e R s m args below meth c H1 locs1 cells slots Q (F0 m (pc + 3) ls rest)) : W p l e R s m args below meth c H locs cells slots Q (F0 m pc ls (v :: .ref a :: rest)) :=
  va_putF hx hb (Ts := u_ws C T N) (fun w hw => zIn_use hW (hu w hw)) (fun _ h => h) ty hty hnm ho hK hP hD hS 0 rfl hci k hk (zIn_use hW hl) (fun _ h => h) hfin hin hdecl (by rw [hty k hk, hft]) hn hfit hlen hd kk
theorem y_put (hx : p.tables.exec = Jvm.exec) (hb : c.code = cc) (ho : s.vm.findClass own = some m.cls) (hW : zKW s) (hK : va_K E.2.1 vwCl (ztys E) s) {C : String} {T : u_T} {N ci idx k a : Nat} {fs : List Value} {v : Value} {ft : FieldType} (ty : Nat → FieldType) (hty : ∀ k, k < N → parseFieldDescriptor (T k).2.2.1 = some (ty k)) (hnm : ∀ a, a < N → ∀ b, b < N → a ≠ b → (T a).2.1 ≠ (T b).2.1) (hu : ∀ w ∈ u_ws C T N, zIn w) (hci : vwCl[ci]? = some (C, T, N)) (hk : k < N) (hl : zIn (.fieldLink own idx (T k).1 (T k).2.1 (T k).2.2.1)) (hfin : (T k).2.2.2 = false) (hft : ty k = ft) (hn : narrow ft v = v) (hfit : fits ft v = true) (hlen : k < fs.length)
    (hP : va_P E.2.1 vwCl ((a, .inr (ci, fs)) :: ws) H) (hD : va_D A ((a, .inr (ci, fs)) :: ws)) (hS : va_S A s.heap H locs) (hd : decode cc pc = .ok (.putfield idx, 3))
    (kk : ∀ (H1 : Heap) (locs1 : List Loc), va_P E.2.1 vwCl ((a, .inr (ci, fs.set k v)) :: ws) H1 → va_D A ((a, .inr (ci, fs.set k v)) :: ws) → va_S A s.heap H1 locs1 → W p l e R s m args below meth c H1 locs1 cells slots Q (F0 m (pc + 3) ls rest)) : W p l e R s m args below meth c H locs cells slots Q (F0 m pc ls (v :: .ref a :: rest)) :=
  va_put hx hb (Ts := u_ws C T N) (fun w hw => zIn_use hW (hu w hw)) (fun _ h => h) ty hty hnm ho hK hP hD hS 0 rfl hci k hk (zIn_use hW hl) (fun _ h => h) hfin (by rw [hty k hk, hft]) hn hfit hlen hd kk
theorem y_get (hx : p.tables.exec = Jvm.exec) (hb : c.code = cc) (ho : s.vm.findClass own = some m.cls) (hW : zKW s) (hK : va_K E.2.1 vwCl (ztys E) s) {C : String} {T : u_T} {N ci idx k a : Nat} {fs : List Value} {v : Value} (hu : ∀ w ∈ u_ws C T N, zIn w) (hci : vwCl[ci]? = some (C, T, N)) (hk : k < N) (hl : zIn (.fieldLink own idx (T k).1 (T k).2.1 (T k).2.2.1)) (hv : fs[k]? = some v)
    (hP : va_P E.2.1 vwCl ((a, .inr (ci, fs)) :: ws) H) (hd : decode cc pc = .ok (.getfield idx, 3))
    (kk : W p l e R s m args below meth c H locs cells slots Q (F0 m (pc + 3) ls (v :: rest))) : W p l e R s m args below meth c H locs cells slots Q (F0 m pc ls (.ref a :: rest)) :=
  va_get hx hb (Ts := u_ws C T N) (fun w hw => zIn_use hW (hu w hw)) (fun _ h => h) ho hK hP 0 rfl hci k hk (zIn_use hW hl) (fun _ h => h) hv hd kk
theorem yW_mono {Q2 : State → Prop} {g : JFrame} (h : ∀ t, Q t → Q2 t) (k : W p l e R s m args below meth c H locs cells slots Q g) : W p l e R s m args below meth c H locs cells slots Q2 g := by
  intro T hT X
  obtain ⟨t, a1, b1⟩ := k T hT X
  exact ⟨t, a1, h t b1⟩
end Y
/-- an inner constructor's contract: from its own new cell c0 at h0 to its world -/
def ysp (l : Launch) (y : MethodName) (cc : ByteArray) (mL d mc ms : Nat) (E : EE) (h0 : Nat) (as : List Value) (c0 : va_E) (Post : va_W → Prop) : Prop := ∀ sz : Nat, Met l y [Cond.code y cc mL none] (zrm d mc ms) (va_Pc (.ref h0 :: as) (fun U => U.heap.size = sz ∧ va_P E.2.1 vwCl [(h0, c0)] U.heap ∧ va_K E.2.1 vwCl (ztys E) U ∧ zKW U ∧ yX U)) (va_Qv (fun w1 : va_W => Post w1) (fun w1 t => va_P E.2.1 vwCl w1 t.heap ∧ va_D (va_A [(h0, c0)] sz) w1) (va_A [(h0, c0)] sz)) mc ms (va_A [(h0, c0)] sz)
section YC
variable {p : Program} {l : Launch} {e : Env} {s : State} {m : MethodId} {args : Array Value} {below : List Frame} {meth : Method} {c : Code} {H : Heap} {locs : List Loc} {cells slots : Nat} {Q : State → Prop}
variable {cc : ByteArray} {own : String} {pc : Nat} {ls : Array Slot} {rest : List Value} {E : EE} {A : Nat → Prop} {wr : va_W}
theorem y_callI {dR mR nR : Nat} {y : MethodName} {idx nn : Nat} {host : String} {cc' : ByteArray} {mL' d' mc' ms' h0 : Nat} {as : List Value} {c0 : va_E} {Post : va_W → Prop} {st0 : List Value} (hx : p.tables.exec = Jvm.exec) (hb : c.code = cc) (ho : s.vm.findClass own = some m.cls) (hW : zKW s) (hO : yX s) (hK : va_K E.2.1 vwCl (ztys E) s)
    (sp : ysp l y cc' mL' d' mc' ms' E h0 as c0 Post) (hc : zCl y cc' mL' none nn) (hl : zIn (.methodLinkNest own idx y host)) (hi : zIn (.instanceMethod y)) (hy : y.name = "<init>")
    (hP : va_P E.2.1 vwCl (wr ++ [(h0, c0)]) H) (hD : va_D A (wr ++ [(h0, c0)])) (hS : va_S A s.heap H locs) (hA : ∀ q, s.heap.size ≤ q → A q) (hnn : as.length = nn) (hsz : ls.size = c.maxLocals) (hst : st0 = as.reverse ++ .ref h0 :: rest) (hw : (rest.map fun v => v.category).sum ≤ 8)
    (hd1 : d' + 1 ≤ dR) (hd2 : dR ≤ 13) (hmL : mL' ≤ 18) (hk : cells + mc' ≤ mR) (hn : slots + ms' ≤ nR) (hd : decode cc pc = .ok (.invokespecial idx, 3))
    (kk : ∀ (w1 : va_W) (H1 : Heap) (locs1 : List Loc), Post w1 → va_P E.2.1 vwCl (wr ++ w1) H1 → va_D A (wr ++ w1) → va_S A s.heap H1 locs1 → W p l e (zrm dR mR nR) s m args below meth c H1 locs1 (cells + mc') (slots + ms') Q (F0 m (pc + 3) ls rest)) : W p l e (zrm dR mR nR) s m args below meth c H locs cells slots Q (F0 m pc ls st0) := by
  obtain ⟨c1, c2, c3, c4⟩ := hc
  have hF : ∀ q, va_A [(h0, c0)] H.size q → A q := by
    intro q h
    rcases h with ⟨k, e1, h⟩ | h
    · have hk1 : k < 1 := (List.getElem?_eq_some_iff.mp h).1
      rw [show k = 0 by omega] at h
      cases h
      exact hD.2 wr.length (h0, c0) (by rw [List.getElem?_append_right (Nat.le_refl _), Nat.sub_self]; rfl)
    · exact hA q (Nat.le_trans hS.1 h)
  have hP0 : va_P E.2.1 vwCl [(h0, c0)] H := fun k q hk => by
    have hk1 : k < 1 := (List.getElem?_eq_some_iff.mp hk).1
    rw [show k = 0 by omega] at hk
    exact hP wr.length q (by rw [List.getElem?_append_right (Nat.le_refl _), Nat.sub_self]; exact hk)
  subst hst
  have hgo : ∀ w ∈ [Cond.code y cc' mL' none], ∀ (a' : Array Value) (U : State), s.WarmedH U.vm → w.before a' U = true := by
    intro w hw2 a' U hW2
    rw [List.mem_singleton.mp hw2]
    exact zIn_use (zKW_warm hW2 hW) c2
  refine va_callv (va_runIN (own := own) (host := host) (Ts := []) (nL := c.maxLocals) (As := as) (rest := rest) (b := h0) ⟨hx, hb, rfl, ho, fun w hw => by cases hw⟩ (sp H.size) ⟨⟨⟨rfl, rfl, hd1, by show 8 + (mL' + 11) + zlo d' ≤ zlo dR; have := zlo_up hd1 hd2; omega, hgo, List.mem_singleton.mpr rfl⟩, zIn_use hW c2, zIn_use hW c1, c3, zlen c4, zIn_use hW hl⟩, hy, zIn_use hW hi⟩ ⟨fun a U g mk q => ⟨q.1, q.2.1, q.2.2.1, va_K.moved (u := U) (U := U.calling g mk a) (Vm.Alike.refl U.vm) q.2.2.2.1, fun w hw ho2 => va_Nw.same (zok_tab ho2) (show U.vm = (U.calling g mk a).vm from rfl) (q.2.2.2.2.1 w hw ho2), yX_call q.2.2.2.2.2⟩, fun U hU hW2 => ⟨rfl, by rw [hU], by rw [hU]; exact hP0, va_K.moved hW2.alike hK, zKW_warm hW2 hW, yX_warm hW2 hO⟩⟩ rfl hnn hsz rfl (lv_room hw) hd ⟨hk, hn⟩) hS (fun q _ h => hF q h) hF (fun w1 t H1 locs1 ht hvm hw1 hB hz1 hk1 hS1 => ?_)
  rw [ht] at hB
  obtain ⟨j1, j2⟩ := y_join hP hD hk1 hF hB.1 hB.2
  exact kk w1 H1 locs1 hw1 j1 j2 hS1
end YC
