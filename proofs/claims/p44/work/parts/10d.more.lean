/-! more rows: shifts, the script, arrays laid anew -/
def zishl (x y : Int) : Int := (Int32.ofInt x <<< (Int32.ofInt y &&& 31)).toInt
def zior (x y : Int) : Int := (Int32.ofInt x ||| Int32.ofInt y).toInt
/-- place p laid anew: zeros, its length, its kind -/
def hnw (h : Hp) (p t : Nat) (z : Int) : Hp := fun p' k => if p' = p then (if k = 100000 then z else if k = 100001 then (t : Int) else 0) else h p' k
theorem hnw_np {h : Hp} {p t p' : Nat} {z : Int} (hn : p' ≠ p) : hnw h p t z p' = h p' := by
  funext k
  exact if_neg hn
/-- place p holds an array of the kind t, and i is in it -/
def zgk (t : Int) (h : Hp) (p : Nat) (i : Int) : Prop := (h p 100001 = t ∧ h p 100000 ≤ 1000) ∧ 0 ≤ i ∧ i < h p 100000
theorem vpi_congr {cA : ClassId} {n : Nat} {f g : Nat → Int32} (h : ∀ j, j < n → f j = g j) : vp_cell cA (n, .inl f) = vp_cell cA (n, .inl g) := by
  rw [vp_cell_i, vp_cell_i]
  unfold arrV
  congr 2
  funext j
  show Value.int (f j.val) = Value.int (g j.val)
  rw [h j.val j.isLt]
/-- the value doesn't name place p -/
def znoV (p : Nat) (v : AV) : Bool := match v with
  | .inr (.inr (.inl q)) => !(q == p)
  | _ => true
def zno (p : Nat) (ls : List (Option AV)) (st : List AV) : Bool := (ls.all fun o => match o with
  | some v => znoV p v
  | none => true) && st.all (znoV p)
theorem znoV_cv {E E' : EE} {p : Nat} (he : ∀ q, q ≠ p → E'.1 q = E.1 q) {v : AV} (h : znoV p v = true) : cv E' v = cv E v := by
  rcases v with z | z | q | u | u | q
  · rfl
  · rfl
  · have hq : (!(q == p)) = true := h
    have hq : q ≠ p := by simpa using hq
    show Value.ref (E'.1 q) = Value.ref (E.1 q)
    rw [he q hq]
  · rfl
  · rfl
  · cases q <;> rfl
theorem zno_st {E E' : EE} {p : Nat} (he : ∀ q, q ≠ p → E'.1 q = E.1 q) {st : List AV} (h : st.all (znoV p) = true) : st.map (cv E') = st.map (cv E) :=
  List.map_congr_left fun v hv => znoV_cv he (List.all_eq_true.mp h v hv)
theorem zno_pr {E E' : EE} {p : Nat} (he : ∀ q, q ≠ p → E'.1 q = E.1 q) : ∀ (ls : List (Option AV)) (i : Nat), (ls.all fun o => match o with
  | some v => znoV p v
  | none => true) = true → zpr E' i ls = zpr E i ls := by
  intro ls
  induction ls with
  | nil => intro i _; rfl
  | cons o r ih =>
    intro i h
    rw [List.all_cons, Bool.and_eq_true] at h
    cases o with
    | none => exact ih (i + 1) h.2
    | some v =>
      show (i, cv E' v) :: zpr E' (i + 1) r = (i, cv E v) :: zpr E (i + 1) r
      rw [znoV_cv he h.1, ih (i + 1) h.2]
/-- a' is a with place p laid anew besides -/
def zXt (a a' : ZC) (p : Nat) : Prop := ∃ (A : ZA) (G : EE × Nat) (E E' : EE), a = (A, G, E, p) ∧ a' = (A, G, E', p + 1) ∧ (∀ q, q ≠ p → E'.1 q = E.1 q) ∧ E'.2 = E.2
theorem zcell_G {E : EE} {h : Hp} {p : Nat} : zcell E h p (.inl (4, 0)) = .inl (E.2.2.1 (h p 100001).toNat, (h p 100000).toNat, .inl (fun j => Int32.ofInt (h p j))) := rfl
section ZM
variable {l0 : Launch} {a : ZC} {M : ZM} {cc : ByteArray} {own : String} {mL : Nat} {ret : Option FieldType} {mn : Nat} {tb : List (Nat × Nat × Nat × Nat)} {k n pc : Nat} {ls : List (Option AV)} {st : List AV} {h : Hp}
theorem zV_ishl (O : zOk l0 a cc own mL ret mn tb) {x y : Int}
    (hd : decode cc pc = .ok (.ishl, 1)) (kk : zV a M k n (pc + 1) ls (aI (zishl x y) :: st) h) : zV a M k n pc ls (aI y :: aI x :: st) h := by
  obtain ⟨⟨p, l, e, s, m, args, below, meth, c⟩, G, E, N⟩ := a
  obtain ⟨hx, hb, hml, hr, ho, hlk, hK, hAD, hN, hex, hl0, hG⟩ := O
  intro cs cl hh H locs la hP hS hL
  refine lv_ishl hx hb hd ?_
  have k2 := kk (fun v hv => (List.mem_cons.mp hv).elim (fun e => e ▸ zr_I _) (fun q => cs v (List.mem_cons_of_mem _ (List.mem_cons_of_mem _ q)))) cl hh H locs la hP hS hL
  rw [List.map_cons, show cv E (aI (zishl x y)) = .int (Int32.ofInt (zishl x y)) from rfl, show Int32.ofInt (zishl x y) = _ from Int32.ofInt_toInt _] at k2
  exact k2
theorem zV_ior (O : zOk l0 a cc own mL ret mn tb) {x y : Int}
    (hd : decode cc pc = .ok (.ior, 1)) (kk : zV a M k n (pc + 1) ls (aI (zior x y) :: st) h) : zV a M k n pc ls (aI y :: aI x :: st) h := by
  obtain ⟨⟨p, l, e, s, m, args, below, meth, c⟩, G, E, N⟩ := a
  obtain ⟨hx, hb, hml, hr, ho, hlk, hK, hAD, hN, hex, hl0, hG⟩ := O
  intro cs cl hh H locs la hP hS hL
  refine lv_ior hx hb hd ?_
  have k2 := kk (fun v hv => (List.mem_cons.mp hv).elim (fun e => e ▸ zr_I _) (fun q => cs v (List.mem_cons_of_mem _ (List.mem_cons_of_mem _ q)))) cl hh H locs la hP hS hL
  rw [List.map_cons, show cv E (aI (zior x y)) = .int (Int32.ofInt (zior x y)) from rfl, show Int32.ofInt (zior x y) = _ from Int32.ofInt_toInt _] at k2
  exact k2
/-- the script's length, and what stands in it -/
def zSL (a : ZC) : Int := (a.2.2.1.1 998 : Nat)
theorem zV_scl (O : zOk l0 a cc own mL ret mn tb) (hd : decode cc pc = .ok (.arraylength, 1)) (kk : 0 ≤ zSL a → zSL a ≤ 260 → zV a M k n (pc + 1) ls (aI (zSL a) :: st) h) : zV a M k n pc ls (aR 999 :: st) h := by
  obtain ⟨⟨p, l, e, s, m, args, below, meth, c⟩, G, E, N⟩ := a
  obtain ⟨hx, hb, hml, hr, ho, hlk, hK, hAD, hN, hex, hl0, hG⟩ := O
  intro cs cl hh H locs la hP hS hL
  obtain ⟨-, -, -, ⟨xs, hX⟩, h260, hbl, hbE, -⟩ := zST_of hK
  have hz : zSL ((p, l, e, s, m, args, below, meth, c), G, E, N) = ((E.1 998 : Nat) : Int) := rfl
  rw [hz] at kk
  refine va_slen hx hb hX hbl (by show ¬ E.2.2.2 ≤ E.1 999; omega) hS hd ?_
  exact kk (by omega) (by omega) (fun v hv => (List.mem_cons.mp hv).elim (fun e => e ▸ (show zr _ from ⟨by omega, by omega⟩)) (fun hv => cs v (List.mem_cons_of_mem _ hv))) cl hh H locs la hP hS hL
theorem zV_scd (O : zOk l0 a cc own mL ret mn tb) {i : Int} (hin : 0 ≤ i ∧ i < zSL a) (hd : decode cc pc = .ok (.iaload, 1)) (kk : ∀ z, zr z → zV a M k n (pc + 1) ls (aI z :: st) h) : zV a M k n pc ls (aI i :: aR 999 :: st) h := by
  obtain ⟨⟨p, l, e, s, m, args, below, meth, c⟩, G, E, N⟩ := a
  obtain ⟨hx, hb, hml, hr, ho, hlk, hK, hAD, hN, hex, hl0, hG⟩ := O
  intro cs cl hh H locs la hP hS hL
  obtain ⟨-, -, -, ⟨xs, hX⟩, h260, hbl, hbE, -⟩ := zST_of hK
  have hz : zSL ((p, l, e, s, m, args, below, meth, c), G, E, N) = ((E.1 998 : Nat) : Int) := rfl
  rw [hz] at hin
  have ci : zr i := cs (aI i) (by simp)
  refine va_sld hx hb hX hbl (by show ¬ E.2.2.2 ≤ E.1 999; omega) hS (zI_in ci hin) hd ?_
  rw [zI_cl ci hin.1]
  have k2 := kk (xs i.toNat).toInt (zr_I _) (fun v hv => (List.mem_cons.mp hv).elim (fun e => e ▸ zr_I _) (fun hv => cs v (List.mem_cons_of_mem _ (List.mem_cons_of_mem _ hv)))) cl hh H locs la hP hS hL
  rw [List.map_cons, show cv E (aI (xs i.toNat).toInt) = .int (Int32.ofInt (xs i.toNat).toInt) from rfl, show Int32.ofInt ((xs i.toNat).toInt) = xs i.toNat from Int32.ofInt_toInt _] at k2
  exact k2
theorem zV_ialdG (O : zOk l0 a cc own mL ret mn tb) {pl : Nat} {i : Int} (ht : zT[pl]? = some (.inl (4, 0))) (hp : pl < mn) (hc : zgk 0 h pl i)
    (hd : decode cc pc = .ok (.iaload, 1)) (kk : zV a M k n (pc + 1) ls (aI (h pl i.toNat) :: st) h) : zV a M k n pc ls (aI i :: aR pl :: st) h := by
  obtain ⟨⟨p, l, e, s, m, args, below, meth, c⟩, G, E, N⟩ := a
  obtain ⟨hx, hb, hml, hr, ho, hlk, hK, hAD, hN, hex, hl0, hG⟩ := O
  intro cs cl hh H locs la hP hS hL
  have ci : zr i := cs (aI i) (by simp)
  have hat := zws_get (E := E) (h := h) (Nat.lt_of_lt_of_le hp hN)
  rw [zat_of ht, zcell_G, hc.1.1] at hat
  have hz : zr (h pl i.toNat) := by have := hh pl i.toNat; rw [zty_a ht] at this; exact this
  refine va_iald hx hb hK.1 hP pl 0 hat rfl (zI_in ci ⟨hc.2.1, by have := hc.2.2; omega⟩) hd ?_
  rw [zI_cl ci hc.2.1]
  exact kk (fun v hv => (List.mem_cons.mp hv).elim (fun e => e ▸ hz) (fun hv => cs v (List.mem_cons_of_mem _ (List.mem_cons_of_mem _ hv)))) cl hh H locs la hP hS hL
theorem zV_zaldG (O : zOk l0 a cc own mL ret mn tb) {pl : Nat} {i : Int} (ht : zT[pl]? = some (.inl (4, 0))) (hp : pl < mn) (hc : zgk 4 h pl i)
    (hd : decode cc pc = .ok (.baload, 1)) (kk : zV a M k n (pc + 1) ls (aI (h pl i.toNat) :: st) h) : zV a M k n pc ls (aI i :: aR pl :: st) h := by
  obtain ⟨⟨p, l, e, s, m, args, below, meth, c⟩, G, E, N⟩ := a
  obtain ⟨hx, hb, hml, hr, ho, hlk, hK, hAD, hN, hex, hl0, hG⟩ := O
  intro cs cl hh H locs la hP hS hL
  have ci : zr i := cs (aI i) (by simp)
  have hat := zws_get (E := E) (h := h) (Nat.lt_of_lt_of_le hp hN)
  rw [zat_of ht, zcell_G, hc.1.1] at hat
  have hz : zr (h pl i.toNat) := by have := hh pl i.toNat; rw [zty_a ht] at this; exact this
  refine va_zald hx hb hK.1 hP pl 4 hat rfl (zI_in ci ⟨hc.2.1, by have := hc.2.2; omega⟩) hd ?_
  rw [zI_cl ci hc.2.1]
  exact kk (fun v hv => (List.mem_cons.mp hv).elim (fun e => e ▸ hz) (fun hv => cs v (List.mem_cons_of_mem _ (List.mem_cons_of_mem _ hv)))) cl hh H locs la hP hS hL
theorem zV_iastG (O : zOk l0 a cc own mL ret mn tb) {pl : Nat} {i z : Int} (ht : zT[pl]? = some (.inl (4, 0))) (hp : pl < mn) (hc : zgk 0 h pl i)
    (hd : decode cc pc = .ok (.iastore, 1)) (kk : zV a M k n (pc + 1) ls st (hu h pl i.toNat z)) : zV a M k n pc ls (aI z :: aI i :: aR pl :: st) h := by
  obtain ⟨⟨p, l, e, s, m, args, below, meth, c⟩, G, E, N⟩ := a
  obtain ⟨hx, hb, hml, hr, ho, hlk, hK, hAD, hN, hex, hl0, hG⟩ := O
  intro cs cl hh H locs la hP hS hL
  have ci : zr i := cs (aI i) (by simp)
  have cz : zr z := cs (aI z) (by simp)
  have hi : i.toNat < 1000 := by have := hc.1.2; have := hc.2.2; have := hc.2.1; omega
  have hat := zws_get (E := E) (h := h) (Nat.lt_of_lt_of_le hp hN)
  rw [zat_of ht, zcell_G, hc.1.1] at hat
  refine va_iast hx hb hK.1 hP (hAD.D h) hS pl 0 hat rfl (zI_in ci ⟨hc.2.1, by have := hc.2.2; omega⟩) hd fun H1 locs1 hP1 hD1 hS1 => ?_
  rw [zI_cl ci hc.2.1, zws_set (h' := hu h pl i.toNat z) (by
    rw [zat_of ht, zcell_G, hu_ne (by omega), hu_ne (by omega), hc.1.1]
    show Sum.inl _ = Sum.inl _
    congr 4
    funext j
    by_cases hj : j = i.toNat
    · subst hj; simp [upd, hu]
    · simp [upd, hu, hj]) (fun p' hp' j => hu_np hp')] at hP1
  exact kk (fun v hv => cs v (List.mem_cons_of_mem _ (List.mem_cons_of_mem _ (List.mem_cons_of_mem _ hv)))) cl (zhok_hu hh (by rw [zty_a ht]; exact cz)) H1 locs1 la hP1 hS1 hL
theorem zV_zastG (O : zOk l0 a cc own mL ret mn tb) {pl : Nat} {i z : Int} (ht : zT[pl]? = some (.inl (4, 0))) (hp : pl < mn) (hc : zgk 4 h pl i) (hz : z = 0 ∨ z = 1)
    (hd : decode cc pc = .ok (.bastore, 1)) (kk : zV a M k n (pc + 1) ls st (hu h pl i.toNat z)) : zV a M k n pc ls (aI z :: aI i :: aR pl :: st) h := by
  obtain ⟨⟨p, l, e, s, m, args, below, meth, c⟩, G, E, N⟩ := a
  obtain ⟨hx, hb, hml, hr, ho, hlk, hK, hAD, hN, hex, hl0, hG⟩ := O
  intro cs cl hh H locs la hP hS hL
  have ci : zr i := cs (aI i) (by simp)
  have cz : zr z := cs (aI z) (by simp)
  have hi : i.toNat < 1000 := by have := hc.1.2; have := hc.2.2; have := hc.2.1; omega
  have hat := zws_get (E := E) (h := h) (Nat.lt_of_lt_of_le hp hN)
  rw [zat_of ht, zcell_G, hc.1.1] at hat
  have hnar : vp_nar .boolean (Int32.ofInt z) = Int32.ofInt z := by rcases hz with rfl | rfl <;> decide
  refine va_zast hx hb hK.1 hP (hAD.D h) hS pl 4 hat rfl (zI_in ci ⟨hc.2.1, by have := hc.2.2; omega⟩) hd fun H1 locs1 hP1 hD1 hS1 => ?_
  rw [zI_cl ci hc.2.1, hnar, zws_set (h' := hu h pl i.toNat z) (by
    rw [zat_of ht, zcell_G, hu_ne (by omega), hu_ne (by omega), hc.1.1]
    show Sum.inl _ = Sum.inl _
    congr 4
    funext j
    by_cases hj : j = i.toNat
    · subst hj; simp [upd, hu]
    · simp [upd, hu, hj]) (fun p' hp' j => hu_np hp')] at hP1
  exact kk (fun v hv => cs v (List.mem_cons_of_mem _ (List.mem_cons_of_mem _ (List.mem_cons_of_mem _ hv)))) cl (zhok_hu hh (by rw [zty_a ht]; exact cz)) H1 locs1 la hP1 hS1 hL
theorem z_cid {E : EE} {cA : ClassId} {i : Nat} {ty : FieldType} {s : State} (hK : va_K E.2.1 vwCl (ztys E ++ [(cA, ty)]) s) (hi : (ztys E)[i]? = some (E.2.2.1 i, ty)) : cA = E.2.2.1 i := by
  have h0 := (hK.2 i (E.2.2.1 i, ty) (by rw [List.getElem?_append_left (List.getElem?_eq_some_iff.mp hi).1]; exact hi)).2
  have h1 := (hK.2 5 (cA, ty) rfl).2
  cases ty with
  | object C =>
    obtain ⟨_, _, _, _, _, h4⟩ := h0
    obtain ⟨_, _, _, _, _, h5⟩ := h1
    exact Option.some.inj (h5.symm.trans h4)
  | _ => exact Option.some.inj (h1.symm.trans h0)
/-- a new array, at the first place that is free -/
theorem zV_newG (O : zOk l0 a cc own mL ret mn tb) (hNe : a.2.2.2 = mn) (ht : zT[mn]? = some (.inl (4, 0))) {z : Int} {L ti : Nat} {atype : ArrayType} (hmn : mn = 187 ∨ mn = 188) (hz : 0 ≤ z ∧ z ≤ L) (hti : (ti = 0 ∧ atype = .int) ∨ (ti = 4 ∧ atype = .boolean))
    (hk : k + 1 ≤ M.2.1) (hn : n + L ≤ M.2.2.1) (hno : zno mn ls st = true) (hd : decode cc pc = .ok (.newarray atype, 2)) (hL : L ≤ 1000)
    (kk : ∀ a' : ZC, zOk l0 a' cc own mL ret (mn + 1) tb → a'.2.2.2 = mn + 1 → zXt a a' mn → zV a' M (k + 1) (n + L) (pc + 2) ls (aR mn :: st) (hnw h mn ti z)) : zV a M k n pc ls (aI z :: st) h := by
  obtain ⟨⟨p, l, e, s, m, args, below, meth, c⟩, G, E, N⟩ := a
  have hNe : N = mn := hNe
  subst hNe
  obtain ⟨hx, hb, hml, hr, ho, hlk, hK, hAD, hN, hex, hl0, hG⟩ := O
  intro cs cl hh H locs la hP hS hL2
  have cz : zr z := cs (aI z) (by simp)
  have hac := (zST_of hK).2.2.2.2.2.2.2
  have hge : ∀ q, s.heap.size ≤ q → zge E q := fun q hq => Nat.le_trans hK.2.2.2.1 hq
  have hneg : ¬ Int32.ofInt z < 0 := fun w => by have := (zI_lt cz zr0).mp w; omega
  unfold zno at hno
  rw [Bool.and_eq_true] at hno
  have key : ∀ (q : Nat) (H1 : Heap), va_P E.2.1 vwCl (zws E N h ++ [(q, .inl (E.2.2.1 ti, z.toNat, .inl fun _ => 0))]) H1 → va_D (zge E) (zws E N h ++ [(q, .inl (E.2.2.1 ti, z.toNat, .inl fun _ => 0))]) → va_S (zge E) s.heap H1 locs → W p l e (zrm M.1 M.2.1 M.2.2.1) s m args below meth c H1 locs (k + 1) (n + z.toNat) (vx_MQ below (zQ G.1 G.2 M.2.2.2.1) (zX G.1 G.2 M.2.2.2.2) args s M.2.1 M.2.2.1 (zge E)) (F0 m (pc + 2) la (.ref q :: st.map (cv E))) := by
    intro q H1 hP1 hD1 hS1
    have hlen : (zws E N h).length = N := by simp [zws]
    have hE : ∀ p, p ≠ N → (fun p => if p = N then q else E.1 p) p = E.1 p := fun p hp => if_neg hp
    have hq : (fun p => if p = N then q else E.1 p) N = q := if_pos rfl
    have hat : ∀ p, p < N → zat ((fun p => if p = N then q else E.1 p), E.2) (hnw h N ti z) p = zat E h p := fun p hp => by
      rw [zat_congr (h := h) (fun j => by rw [hnw_np (by omega)])]
      exact zat_E (E := ((fun p => if p = N then q else E.1 p), E.2)) (E0 := E) (fun r h1 h2 => hE r (by omega)) rfl
    have e1 : hnw h N ti z N 100001 = (ti : Int) := by unfold hnw; rw [if_pos rfl, if_neg (by decide), if_pos rfl]
    have e2 : hnw h N ti z N 100000 = z := by unfold hnw; rw [if_pos rfl, if_pos rfl]
    have hWd : zWd ((fun p => if p = N then q else E.1 p), E.2) (N + 1) (hnw h N ti z) H1 := by
      intro j x hj
      obtain ⟨h5, rfl⟩ := zws_in hj
      by_cases hjN : j = N
      · subst hjN
        have h1 := hP1 j _ (by rw [List.getElem?_append_right (by omega), hlen, Nat.sub_self]; rfl)
        show va_at _ _ _ _
        rw [zat_of ht, zcell_G, e1, e2]
        show H1[(fun p => if p = j then q else E.1 p) j]? = some (vp_cell _ _)
        rw [hq, show ((ti : Int)).toNat = ti by omega, vpi_congr (g := fun _ => 0) (fun i hi => by
          have : hnw h j ti z j i = 0 := by unfold hnw; rw [if_pos rfl, if_neg (by omega), if_neg (by omega)]
          rw [this]; rfl)]
        exact h1
      · have h1 := hP1 j _ (by rw [List.getElem?_append_left (by omega)]; exact zws_get (by omega))
        show va_at _ _ ((fun p => if p = N then q else E.1 p) j, _) _
        rw [hat j (by omega), hE j hjN]
        exact h1
    have hAD1 : zAD ((fun p => if p = N then q else E.1 p), E.2) (N + 1) := by
      have g0 : ∀ j, j < N + 1 → ∃ x, (zws E N h ++ [(q, (.inl (E.2.2.1 ti, z.toNat, .inl fun _ => 0) : va_E))])[j]? = some ((fun p => if p = N then q else E.1 p) j, x) := fun j hj => by
        by_cases hjN : j = N
        · subst hjN
          refine ⟨.inl (E.2.2.1 ti, z.toNat, .inl fun _ => 0), ?_⟩
          rw [List.getElem?_append_right (by omega), hlen, Nat.sub_self, hq]
          rfl
        · refine ⟨zat E h j, ?_⟩
          rw [List.getElem?_append_left (by omega), hE j hjN]
          exact zws_get (by omega)
      refine ⟨fun i j hi hj he => ?_, fun i hi => ?_⟩
      · obtain ⟨x, hx1⟩ := g0 i hi
        obtain ⟨y, hy1⟩ := g0 j hj
        exact hD1.1 i j _ _ hx1 hy1 he
      · obtain ⟨x, hx1⟩ := g0 i hi
        exact hD1.2 i _ hx1
    have hKK1 : zKK l ((fun p => if p = N then q else E.1 p), E.2) s := by
      obtain ⟨k1, k2, k3, k4, k5, k6, k7, k8⟩ := hK
      refine ⟨k1, k2, k3, k4, k5, k6, k7, ?_⟩
      obtain ⟨s1, s2, s3, s4, s5, s6, s7, s8⟩ := k8
      have g1 : ∀ w, (fun p => if p = N then q else E.1 p) (1000 + w) = E.1 (1000 + w) := fun w => hE _ (by omega)
      have g2 : ∀ w, (fun p => if p = N then q else E.1 p) (2000 + w) = E.1 (2000 + w) := fun w => hE _ (by omega)
      have g3 : (fun p => if p = N then q else E.1 p) 999 = E.1 999 := hE _ (by omega)
      have g4 : (fun p => if p = N then q else E.1 p) 998 = E.1 998 := hE _ (by omega)
      refine ⟨s1, s2, fun w hw => ?_, ?_, ?_, ?_, ?_, s8⟩
      · have := s3 w hw
        show vk_R _ _ _ ((fun p => if p = N then q else E.1 p) (1000 + w)) s ∧ va_O _ ((fun p => if p = N then q else E.1 p) (1000 + w)) _ s _ ∧ va_OF _ _ _ _ ((fun p => if p = N then q else E.1 p) (1000 + w)) _ s _ ∧ va_OF _ _ _ (.ref ((fun p => if p = N then q else E.1 p) (2000 + w))) ((fun p => if p = N then q else E.1 p) (1000 + w)) _ s _ ∧ va_T _ ((fun p => if p = N then q else E.1 p) (2000 + w)) _ _ _ s _
        rw [g1, g2]
        exact this
      · show ∃ xs, va_X ((fun p => if p = N then q else E.1 p) 999) ((fun p => if p = N then q else E.1 p) 998) xs s s.heap
        rw [g3, g4]
        exact s4
      · show (fun p => if p = N then q else E.1 p) 998 ≤ 260
        rw [g4]
        exact s5
      · show (fun p => if p = N then q else E.1 p) 999 < s.heap.size
        rw [g3]
        exact s6
      · show (fun p => if p = N then q else E.1 p) 999 < E.2.2.2
        rw [g3]
        exact s7
    have hG1 : zEx G ((fun p => if p = N then q else E.1 p), E.2) (N + 1) := ⟨Nat.le_succ_of_le hG.1, fun p hp => by
      show (fun p => if p = N then q else E.1 p) p = _
      rw [hE p (by have := hG.1; omega)]
      exact hG.2.1 p hp, fun p h1 h2 => by
      show (fun p => if p = N then q else E.1 p) p = _
      rw [hE p (by omega)]
      exact hG.2.2.1 p h1 h2, hG.2.2.2⟩
    have hEs : ∀ r, r ≠ N → ((fun p => if p = N then q else E.1 p), E.2).1 r = E.1 r := hE
    have V := kk ((p, l, e, s, m, args, below, meth, c), G, ((fun p => if p = N then q else E.1 p), E.2), N + 1) ⟨hx, hb, hml, hr, ho, hlk, hKK1, hAD1, Nat.le_refl _, hex, hl0, hG1⟩ rfl ⟨_, _, _, _, rfl, rfl, hE, rfl⟩ (fun v hv => (List.mem_cons.mp hv).elim (fun e => e ▸ trivial) (fun hv => cs v (List.mem_cons_of_mem _ hv))) cl (fun p' k' => by
      by_cases hp' : p' = N
      · subst hp'
        rw [zty_a ht]
        show zr (hnw h p' ti z p' k')
        unfold hnw
        rw [if_pos rfl]
        have ht4 : ti = 0 ∨ ti = 4 := hti.elim (fun w => Or.inl w.1) (fun w => Or.inr w.1)
        split
        · exact cz
        · split
          · exact ⟨by omega, by omega⟩
          · exact zr0
      · rw [hnw_np hp']
        exact hh p' k') H1 locs la hWd hS1 (by
      show lv_has la c.maxLocals _
      rw [zno_pr hEs ls 0 hno.1]
      exact hL2)
    rw [List.map_cons, zno_st hEs hno.2, show cv ((fun p => if p = N then q else E.1 p), E.2) (aR N) = .ref q from congrArg Value.ref hq] at V
    exact W.widen (Nat.le_refl _) (by omega) V
  rcases hti with ⟨rfl, rfl⟩ | ⟨rfl, rfl⟩
  · refine va_newa hx hb (atype := .int) (hac .int (by simp) _) rfl hK.1 hP (hAD.D h) hS hge (a0 := (z.toNat, .inl fun _ => 0)) (fun cA => rfl) hneg (zI_cl cz hz.1) (by show z.toNat * 4 ≤ _; omega) hk (by show _ ≤ M.2.2.1; omega) hd fun q cA H1 hK1 hP1 hD1 hS1 => ?_
    have e1 := z_cid hK1 (i := 0) rfl
    subst e1
    exact key q H1 hP1 hD1 hS1
  · refine va_newa hx hb (atype := .boolean) (hac .boolean (by simp) _) rfl hK.1 hP (hAD.D h) hS hge (a0 := (z.toNat, .inl fun _ => 0)) (fun cA => rfl) hneg (zI_cl cz hz.1) (by show z.toNat * 1 ≤ _; omega) hk (by show _ ≤ M.2.2.1; omega) hd fun q cA H1 hK1 hP1 hD1 hS1 => ?_
    have e1 := z_cid hK1 (i := 4) rfl
    subst e1
    exact key q H1 hP1 hD1 hS1
/-- what was laid anew is let go -/
theorem zV_back {a' : ZC} {p : Nat} (X : zXt a a' p) (hno : zno p ls st = true) (hp : p = 187 ∨ p = 188) (kk : zV a M k n pc ls st h) : zV a' M k n pc ls st h := by
  obtain ⟨⟨p1, l, e, s, m, args, below, meth, c⟩, G, E, E', rfl, rfl, he, h2⟩ := X
  intro cs cl hh H locs la hP hS hL
  unfold zno at hno
  rw [Bool.and_eq_true] at hno
  have hge : zge E' = zge E := by unfold zge; rw [h2]
  have K := kk cs cl hh H locs la (zWd_sub (Nat.le_succ _) (fun q hq => he q (by omega)) (fun q h3 h4 => he q (by omega)) h2 hP) (by rw [← hge]; exact hS) (by
    show lv_has la c.maxLocals _
    rw [← zno_pr he ls 0 hno.1]
    exact hL)
  rw [zno_st he hno.2, hge]
  exact K
end ZM
