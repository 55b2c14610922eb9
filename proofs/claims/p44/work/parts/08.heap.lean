/-! rows of the light layer that read and write the heap, call and leave -/
def zIn (w : Cond) : Prop := w ∈ lw_tbl ∧ zok w = true
theorem zIn_use {U : State} {w : Cond} {A : Array Value} (h : zKW U) (hw : zIn w) : w.before A U = true := zKW_use h hw.1 hw.2
/-- a field as an instruction names it: class and place of the field, its type, whether it is final -/
def zFl (own : String) (idx ci k : Nat) (ft : FieldType) (fin : Bool) : Prop := ∃ (C : String) (T : u_T) (N : Nat) (ty : Nat → FieldType), vwCl[ci]? = some (C, T, N) ∧ k < N ∧ (∀ w ∈ u_ws C T N, zIn w) ∧
  (∀ j, j < N → parseFieldDescriptor (T j).2.2.1 = some (ty j)) ∧ (∀ a, a < N → ∀ b, b < N → a ≠ b → (T a).2.1 ≠ (T b).2.1) ∧ ty k = ft ∧ (T k).2.2.2 = fin ∧
  (zIn (.fieldLink own idx (T k).1 (T k).2.1 (T k).2.2.1) ∨ ∃ host, zIn (.fieldLinkNest own idx (T k).1 (T k).2.1 (T k).2.2.1 host))
section ZH
variable {l0 : Launch} {a : ZC} {M : ZM} {cc : ByteArray} {own : String} {mL : Nat} {ret : Option FieldType} {mn : Nat} {tb : List (Nat × Nat × Nat × Nat)} {k n pc : Nat} {ls : List (Option AV)} {st : List AV} {h : Hp}
theorem zV_get0 {p l e R s m args below meth c H locs Q} {E : EE} {N idx ci i pl t : Nat} {ft : FieldType} {fin : Bool} {l1 : List Nat} {la : Array Slot} {rest : List Value} (hx : p.tables.exec = Jvm.exec) (hb : c.code = cc) (ho : s.vm.findClass own = some m.cls) (hK : zKK l E s) (F : zFl own idx ci i ft fin) (ht : zT[pl]? = some (.inr (ci, l1))) (hi : l1[i]? = some t) (hp : pl < N) (hP : zWd E N h H)
    (hd : decode cc pc = .ok (.getfield idx, 3)) (kk : W p l e R s m args below meth c H locs k n Q (F0 m (pc + 3) la (zf E h pl i t :: rest))) : W p l e R s m args below meth c H locs k n Q (F0 m pc la (.ref (E.1 pl) :: rest)) := by
  obtain ⟨C, T, N1, ty, hc, hk, hu, hty, hnm, hft, hfin, hl⟩ := F
  have hat := zws_get (E := E) (h := h) hp
  rw [zat_of ht] at hat
  have hv : (zfs E h pl 0 l1)[i]? = some (zf E h pl i t) := by rw [zfs_get, hi, Nat.zero_add]; rfl
  rcases hl with hl | ⟨host, hl⟩
  · exact va_get hx hb (Ts := u_ws C T N1) (fun w hw => zIn_use hK.2.1 (hu w hw)) (fun _ h => h) ho hK.1 hP pl hat hc i hk (zIn_use hK.2.1 hl) (fun _ h => h) hv hd kk
  · exact va_getN hx hb (Ts := u_ws C T N1) (fun w hw => zIn_use hK.2.1 (hu w hw)) (fun _ h => h) ho hK.1 hP pl hat hc i hk (zIn_use hK.2.1 hl) (fun _ h => h) hv hd kk
theorem zty_o {pl ci i t : Nat} {l1 : List Nat} (ht : zT[pl]? = some (.inr (ci, l1))) (hi : l1[i]? = some t) : zty pl i = (match t with | 1 => 1 | 2 => 2 | _ => 0) := by
  unfold zty
  rw [ht]
  simp only [hi]
  rcases t with _ | _ | _ | t <;> rfl
/-- a whole number's field -/
theorem zV_getI (O : zOk l0 a cc own mL ret mn tb) {idx ci i pl : Nat} {ft : FieldType} {fin : Bool} {l1 : List Nat} (F : zFl own idx ci i ft fin) (ht : zT[pl]? = some (.inr (ci, l1))) (hi : l1[i]? = some 0) (hp : pl < mn)
    (hd : decode cc pc = .ok (.getfield idx, 3)) (kk : zV a M k n (pc + 3) ls (aI (h pl i) :: st) h) : zV a M k n pc ls (aR pl :: st) h := by
  obtain ⟨⟨p, l, e, s, m, args, below, meth, c⟩, G, E, N⟩ := a
  obtain ⟨hx, hb, hml, hr, ho, hlk, hK, hAD, hN, hex, hl0, hG⟩ := O
  intro cs cl hh H locs la hP hS hL
  have hz : zr (h pl i) := by have := hh pl i; rw [zty_o ht hi] at this; exact this
  exact zV_get0 hx hb ho hK F ht hi (Nat.lt_of_lt_of_le hp hN) hP hd (kk (fun v hv => (List.mem_cons.mp hv).elim (fun e => e ▸ hz) (fun hv => cs v (List.mem_cons_of_mem _ hv))) cl hh H locs la hP hS hL)
theorem zV_getZ (O : zOk l0 a cc own mL ret mn tb) {idx ci i pl : Nat} {ft : FieldType} {fin : Bool} {l1 : List Nat} (F : zFl own idx ci i ft fin) (ht : zT[pl]? = some (.inr (ci, l1))) (hi : l1[i]? = some 2) (hp : pl < mn)
    (hd : decode cc pc = .ok (.getfield idx, 3)) (kk : (h pl i = 0 ∨ h pl i = 1) → zV a M k n (pc + 3) ls (aI (h pl i) :: st) h) : zV a M k n pc ls (aR pl :: st) h := by
  obtain ⟨⟨p, l, e, s, m, args, below, meth, c⟩, G, E, N⟩ := a
  obtain ⟨hx, hb, hml, hr, ho, hlk, hK, hAD, hN, hex, hl0, hG⟩ := O
  intro cs cl hh H locs la hP hS hL
  have hz : h pl i = 0 ∨ h pl i = 1 := by have := hh pl i; rw [zty_o ht hi] at this; exact this
  have hz2 : zr (h pl i) := by rcases hz with q | q <;> rw [q] <;> exact ⟨by omega, by omega⟩
  exact zV_get0 hx hb ho hK F ht hi (Nat.lt_of_lt_of_le hp hN) hP hd (kk hz (fun v hv => (List.mem_cons.mp hv).elim (fun e => e ▸ hz2) (fun hv => cs v (List.mem_cons_of_mem _ hv))) cl hh H locs la hP hS hL)
theorem zV_getL (O : zOk l0 a cc own mL ret mn tb) {idx ci i pl : Nat} {ft : FieldType} {fin : Bool} {l1 : List Nat} (F : zFl own idx ci i ft fin) (ht : zT[pl]? = some (.inr (ci, l1))) (hi : l1[i]? = some 1) (hp : pl < mn)
    (hd : decode cc pc = .ok (.getfield idx, 3)) (kk : zV a M k n (pc + 3) ls (aL (h pl i) :: st) h) : zV a M k n pc ls (aR pl :: st) h := by
  obtain ⟨⟨p, l, e, s, m, args, below, meth, c⟩, G, E, N⟩ := a
  obtain ⟨hx, hb, hml, hr, ho, hlk, hK, hAD, hN, hex, hl0, hG⟩ := O
  intro cs cl hh H locs la hP hS hL
  have hz : zr6 (h pl i) := by have := hh pl i; rw [zty_o ht hi] at this; exact this
  exact zV_get0 hx hb ho hK F ht hi (Nat.lt_of_lt_of_le hp hN) hP hd (kk (fun v hv => (List.mem_cons.mp hv).elim (fun e => e ▸ hz) (fun hv => cs v (List.mem_cons_of_mem _ hv))) cl hh H locs la hP hS hL)
theorem zV_getR (O : zOk l0 a cc own mL ret mn tb) {idx ci i pl q : Nat} {ft : FieldType} {fin : Bool} {l1 : List Nat} (F : zFl own idx ci i ft fin) (ht : zT[pl]? = some (.inr (ci, l1))) (hi : l1[i]? = some (q + 3)) (hp : pl < mn)
    (hd : decode cc pc = .ok (.getfield idx, 3)) (kk : zV a M k n (pc + 3) ls (aR q :: st) h) : zV a M k n pc ls (aR pl :: st) h := by
  obtain ⟨⟨p, l, e, s, m, args, below, meth, c⟩, G, E, N⟩ := a
  obtain ⟨hx, hb, hml, hr, ho, hlk, hK, hAD, hN, hex, hl0, hG⟩ := O
  intro cs cl hh H locs la hP hS hL
  exact zV_get0 hx hb ho hK F ht hi (Nat.lt_of_lt_of_le hp hN) hP hd (kk (fun v hv => (List.mem_cons.mp hv).elim (fun e => e ▸ trivial) (fun hv => cs v (List.mem_cons_of_mem _ hv))) cl hh H locs la hP hS hL)
theorem zV_put0 {p l e R s m args below meth c H locs Q} {E : EE} {N idx ci i pl t : Nat} {ft : FieldType} {l1 : List Nat} {la : Array Slot} {rest : List Value} {z : Int} (hx : p.tables.exec = Jvm.exec) (hb : c.code = cc) (ho : s.vm.findClass own = some m.cls) (hK : zKK l E s) (hAD : zAD E N) (F : zFl own idx ci i ft false) (ht : zT[pl]? = some (.inr (ci, l1))) (hi : l1[i]? = some t) (hp : pl < N) (hP : zWd E N h H) (hS : va_S (zge E) s.heap H locs)
    (hn : narrow ft (zf E (hu h pl i z) pl i t) = zf E (hu h pl i z) pl i t) (hf : fits ft (zf E (hu h pl i z) pl i t) = true)
    (hd : decode cc pc = .ok (.putfield idx, 3)) (kk : ∀ (H1 : Heap) (locs1 : List Loc), zWd E N (hu h pl i z) H1 → va_S (zge E) s.heap H1 locs1 → W p l e R s m args below meth c H1 locs1 k n Q (F0 m (pc + 3) la rest)) : W p l e R s m args below meth c H locs k n Q (F0 m pc la (zf E (hu h pl i z) pl i t :: .ref (E.1 pl) :: rest)) := by
  obtain ⟨C, T, N1, ty, hc, hk, hu2, hty, hnm, hft, hfin, hl⟩ := F
  have hat := zws_get (E := E) (h := h) hp
  rw [zat_of ht] at hat
  have hlen : i < (zfs E h pl 0 l1).length := by rw [zfs_len]; exact (List.getElem?_eq_some_iff.mp hi).1
  have hset : (zws E N h).set pl (E.1 pl, .inr (ci, (zfs E h pl 0 l1).set i (zf E (hu h pl i z) pl i t))) = zws E N (hu h pl i z) := by
    refine zws_set ?_ (fun p' hp' j => hu_np hp')
    rw [zat_of ht, zfs_set l1 hi]
    rfl
  have hpd : parseFieldDescriptor (T i).2.2.1 = some ft := by rw [hty i hk, hft]
  rcases hl with hl | ⟨host, hl⟩
  · refine va_put hx hb (Ts := u_ws C T N1) (fun w hw => zIn_use hK.2.1 (hu2 w hw)) (fun _ h => h) ty hty hnm ho hK.1 hP (hAD.D h) hS pl hat hc i hk (zIn_use hK.2.1 hl) (fun _ h => h) hfin hpd hn hf hlen hd fun H1 locs1 hP1 hD1 hS1 => ?_
    rw [hset] at hP1
    exact kk H1 locs1 hP1 hS1
  · refine va_putN hx hb (Ts := u_ws C T N1) (fun w hw => zIn_use hK.2.1 (hu2 w hw)) (fun _ h => h) ty hty hnm ho hK.1 hP (hAD.D h) hS pl hat hc i hk (zIn_use hK.2.1 hl) (fun _ h => h) hfin hpd hn hf hlen hd fun H1 locs1 hP1 hD1 hS1 => ?_
    rw [hset] at hP1
    exact kk H1 locs1 hP1 hS1
theorem zV_putI (O : zOk l0 a cc own mL ret mn tb) {idx ci i pl : Nat} {l1 : List Nat} {z : Int} (F : zFl own idx ci i .int false) (ht : zT[pl]? = some (.inr (ci, l1))) (hi : l1[i]? = some 0) (hp : pl < mn)
    (hd : decode cc pc = .ok (.putfield idx, 3)) (kk : zV a M k n (pc + 3) ls st (hu h pl i z)) : zV a M k n pc ls (aI z :: aR pl :: st) h := by
  obtain ⟨⟨p, l, e, s, m, args, below, meth, c⟩, G, E, N⟩ := a
  obtain ⟨hx, hb, hml, hr, ho, hlk, hK, hAD, hN, hex, hl0, hG⟩ := O
  intro cs cl hh H locs la hP hS hL
  have hz : zr z := cs (aI z) (by simp)
  have hv : zf E (hu h pl i z) pl i 0 = cv E (aI z) := by show Value.int _ = Value.int _; rw [hu_same]
  have hh2 : zhok (hu h pl i z) := zhok_hu hh (by rw [zty_o ht hi]; exact hz)
  have := zV_put0 (z := z) (rest := st.map (cv E)) (la := la) hx hb ho hK hAD F ht hi (Nat.lt_of_lt_of_le hp hN) hP hS (by rw [hv]; rfl) (by rw [hv]; rfl) hd (fun H1 locs1 hP1 hS1 => kk (fun v hv => cs v (List.mem_cons_of_mem _ (List.mem_cons_of_mem _ hv))) cl hh2 H1 locs1 la hP1 hS1 hL)
  rw [hv] at this
  exact this
theorem zV_putZ (O : zOk l0 a cc own mL ret mn tb) {idx ci i pl : Nat} {l1 : List Nat} {z : Int} (F : zFl own idx ci i .boolean false) (ht : zT[pl]? = some (.inr (ci, l1))) (hi : l1[i]? = some 2) (hp : pl < mn) (hz : z = 0 ∨ z = 1)
    (hd : decode cc pc = .ok (.putfield idx, 3)) (kk : zV a M k n (pc + 3) ls st (hu h pl i z)) : zV a M k n pc ls (aI z :: aR pl :: st) h := by
  obtain ⟨⟨p, l, e, s, m, args, below, meth, c⟩, G, E, N⟩ := a
  obtain ⟨hx, hb, hml, hr, ho, hlk, hK, hAD, hN, hex, hl0, hG⟩ := O
  intro cs cl hh H locs la hP hS hL
  have hv : zf E (hu h pl i z) pl i 2 = cv E (aI z) := by show Value.int _ = Value.int _; rw [hu_same]
  have hh2 : zhok (hu h pl i z) := zhok_hu hh (by rw [zty_o ht hi]; exact hz)
  have := zV_put0 (z := z) (rest := st.map (cv E)) (la := la) hx hb ho hK hAD F ht hi (Nat.lt_of_lt_of_le hp hN) hP hS (by rw [hv]; rcases hz with rfl | rfl <;> rfl) (by rw [hv]; rcases hz with rfl | rfl <;> rfl) hd (fun H1 locs1 hP1 hS1 => kk (fun v hv => cs v (List.mem_cons_of_mem _ (List.mem_cons_of_mem _ hv))) cl hh2 H1 locs1 la hP1 hS1 hL)
  rw [hv] at this
  exact this
theorem zV_putL (O : zOk l0 a cc own mL ret mn tb) {idx ci i pl : Nat} {l1 : List Nat} {z : Int} (F : zFl own idx ci i .long false) (ht : zT[pl]? = some (.inr (ci, l1))) (hi : l1[i]? = some 1) (hp : pl < mn)
    (hd : decode cc pc = .ok (.putfield idx, 3)) (kk : zV a M k n (pc + 3) ls st (hu h pl i z)) : zV a M k n pc ls (aL z :: aR pl :: st) h := by
  obtain ⟨⟨p, l, e, s, m, args, below, meth, c⟩, G, E, N⟩ := a
  obtain ⟨hx, hb, hml, hr, ho, hlk, hK, hAD, hN, hex, hl0, hG⟩ := O
  intro cs cl hh H locs la hP hS hL
  have hz : zr6 z := cs (aL z) (by simp)
  have hv : zf E (hu h pl i z) pl i 1 = cv E (aL z) := by show Value.long _ = Value.long _; rw [hu_same]
  have hh2 : zhok (hu h pl i z) := zhok_hu hh (by rw [zty_o ht hi]; exact hz)
  have := zV_put0 (z := z) (rest := st.map (cv E)) (la := la) hx hb ho hK hAD F ht hi (Nat.lt_of_lt_of_le hp hN) hP hS (by rw [hv]; rfl) (by rw [hv]; rfl) hd (fun H1 locs1 hP1 hS1 => kk (fun v hv => cs v (List.mem_cons_of_mem _ (List.mem_cons_of_mem _ hv))) cl hh2 H1 locs1 la hP1 hS1 hL)
  rw [hv] at this
  exact this
def ztc (t : Nat) : Nat := match t with | 1 => 3 | 2 => 1 | _ => 0
theorem zty_a {pl t len j : Nat} (ht : zT[pl]? = some (.inl (t, len))) : zty pl j = ztc t := by
  unfold zty
  rw [ht]
  rcases t with _ | _ | _ | t <;> rfl
theorem zV_iald (O : zOk l0 a cc own mL ret mn tb) {pl len : Nat} {i : Int} (ht : zT[pl]? = some (.inl (0, len))) (hp : pl < mn) (hin : 0 ≤ i ∧ i < len)
    (hd : decode cc pc = .ok (.iaload, 1)) (kk : zV a M k n (pc + 1) ls (aI (h pl i.toNat) :: st) h) : zV a M k n pc ls (aI i :: aR pl :: st) h := by
  obtain ⟨⟨p, l, e, s, m, args, below, meth, c⟩, G, E, N⟩ := a
  obtain ⟨hx, hb, hml, hr, ho, hlk, hK, hAD, hN, hex, hl0, hG⟩ := O
  intro cs cl hh H locs la hP hS hL
  have ci : zr i := cs (aI i) (by simp)
  have hat := zws_get (E := E) (h := h) (Nat.lt_of_lt_of_le hp hN)
  rw [zat_of ht] at hat
  have hz : zr (h pl i.toNat) := by have := hh pl i.toNat; rw [zty_a ht] at this; exact this
  refine va_iald hx hb hK.1 hP pl 0 hat rfl (zI_in ci hin) hd ?_
  rw [zI_cl ci hin.1]
  exact kk (fun v hv => (List.mem_cons.mp hv).elim (fun e => e ▸ hz) (fun hv => cs v (List.mem_cons_of_mem _ (List.mem_cons_of_mem _ hv)))) cl hh H locs la hP hS hL
theorem zV_bald (O : zOk l0 a cc own mL ret mn tb) {pl len : Nat} {i : Int} (ht : zT[pl]? = some (.inl (1, len))) (hp : pl < mn) (hin : 0 ≤ i ∧ i < len)
    (hd : decode cc pc = .ok (.baload, 1)) (kk : zV a M k n (pc + 1) ls (aI (h pl i.toNat) :: st) h) : zV a M k n pc ls (aI i :: aR pl :: st) h := by
  obtain ⟨⟨p, l, e, s, m, args, below, meth, c⟩, G, E, N⟩ := a
  obtain ⟨hx, hb, hml, hr, ho, hlk, hK, hAD, hN, hex, hl0, hG⟩ := O
  intro cs cl hh H locs la hP hS hL
  have ci : zr i := cs (aI i) (by simp)
  have hat := zws_get (E := E) (h := h) (Nat.lt_of_lt_of_le hp hN)
  rw [zat_of ht] at hat
  have hz : zr (h pl i.toNat) := by have := hh pl i.toNat; rw [zty_a ht] at this; exact ⟨by have := this.1; omega, by have := this.2; omega⟩
  refine va_bald hx hb hK.1 hP pl 1 hat rfl (zI_in ci hin) hd ?_
  rw [zI_cl ci hin.1]
  exact kk (fun v hv => (List.mem_cons.mp hv).elim (fun e => e ▸ hz) (fun hv => cs v (List.mem_cons_of_mem _ (List.mem_cons_of_mem _ hv)))) cl hh H locs la hP hS hL
theorem zV_lald (O : zOk l0 a cc own mL ret mn tb) {pl len : Nat} {i : Int} (ht : zT[pl]? = some (.inl (2, len))) (hp : pl < mn) (hin : 0 ≤ i ∧ i < len)
    (hd : decode cc pc = .ok (.laload, 1)) (kk : zV a M k n (pc + 1) ls (aL (h pl i.toNat) :: st) h) : zV a M k n pc ls (aI i :: aR pl :: st) h := by
  obtain ⟨⟨p, l, e, s, m, args, below, meth, c⟩, G, E, N⟩ := a
  obtain ⟨hx, hb, hml, hr, ho, hlk, hK, hAD, hN, hex, hl0, hG⟩ := O
  intro cs cl hh H locs la hP hS hL
  have ci : zr i := cs (aI i) (by simp)
  have hat := zws_get (E := E) (h := h) (Nat.lt_of_lt_of_le hp hN)
  rw [zat_of ht] at hat
  have hz : zr6 (h pl i.toNat) := by have := hh pl i.toNat; rw [zty_a ht] at this; exact this
  refine va_lald hx hb hK.1 hP pl 2 hat rfl (zI_in ci hin) hd ?_
  rw [zI_cl ci hin.1]
  exact kk (fun v hv => (List.mem_cons.mp hv).elim (fun e => e ▸ hz) (fun hv => cs v (List.mem_cons_of_mem _ (List.mem_cons_of_mem _ hv)))) cl hh H locs la hP hS hL
theorem zV_aald (O : zOk l0 a cc own mL ret mn tb) {pl len : Nat} {i : Int} (ht : zT[pl]? = some (.inl (3, len))) (hp : pl < mn) (hin : 0 ≤ i ∧ i < len)
    (hd : decode cc pc = .ok (.aaload, 1)) (kk : zV a M k n (pc + 1) ls (aR (39 + 13 * i.toNat) :: st) h) : zV a M k n pc ls (aI i :: aR pl :: st) h := by
  obtain ⟨⟨p, l, e, s, m, args, below, meth, c⟩, G, E, N⟩ := a
  obtain ⟨hx, hb, hml, hr, ho, hlk, hK, hAD, hN, hex, hl0, hG⟩ := O
  intro cs cl hh H locs la hP hS hL
  have ci : zr i := cs (aI i) (by simp)
  have hat := zws_get (E := E) (h := h) (Nat.lt_of_lt_of_le hp hN)
  rw [zat_of ht] at hat
  refine va_aldq hx hb hK.1 hP pl 3 hat rfl (zI_in ci hin) hd ?_
  rw [zI_cl ci hin.1]
  exact kk (fun v hv => (List.mem_cons.mp hv).elim (fun e => e ▸ trivial) (fun hv => cs v (List.mem_cons_of_mem _ (List.mem_cons_of_mem _ hv)))) cl hh H locs la hP hS hL
theorem zV_alen (O : zOk l0 a cc own mL ret mn tb) {pl len t : Nat} (ht : zT[pl]? = some (.inl (t, len))) (ht4 : t < 3) (hlen : zr len) (hp : pl < mn)
    (hd : decode cc pc = .ok (.arraylength, 1)) (kk : zV a M k n (pc + 1) ls (aI len :: st) h) : zV a M k n pc ls (aR pl :: st) h := by
  obtain ⟨⟨p, l, e, s, m, args, below, meth, c⟩, G, E, N⟩ := a
  obtain ⟨hx, hb, hml, hr, ho, hlk, hK, hAD, hN, hex, hl0, hG⟩ := O
  intro cs cl hh H locs la hP hS hL
  have hat := zws_get (E := E) (h := h) (Nat.lt_of_lt_of_le hp hN)
  rw [zat_of ht] at hat
  have hk2 := kk (fun v hv => (List.mem_cons.mp hv).elim (fun e => e ▸ hlen) (fun hv => cs v (List.mem_cons_of_mem _ hv))) cl hh H locs la hP hS hL
  have hl2 : Int32.ofNat len = Int32.ofInt len := rfl
  rcases t with _ | _ | _ | t
  · exact va_alen hx hb hK.1 hP pl 0 hat rfl hl2 hd hk2
  · exact va_alen hx hb hK.1 hP pl 1 hat rfl hl2 hd hk2
  · exact va_alen hx hb hK.1 hP pl 2 hat rfl hl2 hd hk2
  · omega
theorem zV_iast (O : zOk l0 a cc own mL ret mn tb) {pl len : Nat} {i z : Int} (ht : zT[pl]? = some (.inl (0, len))) (hp : pl < mn) (hin : 0 ≤ i ∧ i < len)
    (hd : decode cc pc = .ok (.iastore, 1)) (kk : zV a M k n (pc + 1) ls st (hu h pl i.toNat z)) : zV a M k n pc ls (aI z :: aI i :: aR pl :: st) h := by
  obtain ⟨⟨p, l, e, s, m, args, below, meth, c⟩, G, E, N⟩ := a
  obtain ⟨hx, hb, hml, hr, ho, hlk, hK, hAD, hN, hex, hl0, hG⟩ := O
  intro cs cl hh H locs la hP hS hL
  have ci : zr i := cs (aI i) (by simp)
  have cz : zr z := cs (aI z) (by simp)
  have hat := zws_get (E := E) (h := h) (Nat.lt_of_lt_of_le hp hN)
  rw [zat_of ht] at hat
  refine va_iast hx hb hK.1 hP (hAD.D h) hS pl 0 hat rfl (zI_in ci hin) hd fun H1 locs1 hP1 hD1 hS1 => ?_
  rw [zI_cl ci hin.1, zws_set (h' := hu h pl i.toNat z) (by
    rw [zat_of ht]
    show Sum.inl _ = Sum.inl _
    congr 4
    funext j
    by_cases hj : j = i.toNat
    · subst hj; simp [upd, hu]
    · simp [upd, hu, hj]) (fun p' hp' j => hu_np hp')] at hP1
  exact kk (fun v hv => cs v (List.mem_cons_of_mem _ (List.mem_cons_of_mem _ (List.mem_cons_of_mem _ hv)))) cl (zhok_hu hh (by rw [zty_a ht]; exact cz)) H1 locs1 la hP1 hS1 hL
theorem zV_bast (O : zOk l0 a cc own mL ret mn tb) {pl len : Nat} {i z : Int} (ht : zT[pl]? = some (.inl (1, len))) (hp : pl < mn) (hin : 0 ≤ i ∧ i < len) (hz : -128 ≤ z ∧ z ≤ 127)
    (hd : decode cc pc = .ok (.bastore, 1)) (kk : zV a M k n (pc + 1) ls st (hu h pl i.toNat z)) : zV a M k n pc ls (aI z :: aI i :: aR pl :: st) h := by
  obtain ⟨⟨p, l, e, s, m, args, below, meth, c⟩, G, E, N⟩ := a
  obtain ⟨hx, hb, hml, hr, ho, hlk, hK, hAD, hN, hex, hl0, hG⟩ := O
  intro cs cl hh H locs la hP hS hL
  have ci : zr i := cs (aI i) (by simp)
  have cz : zr z := cs (aI z) (by simp)
  have hat := zws_get (E := E) (h := h) (Nat.lt_of_lt_of_le hp hN)
  rw [zat_of ht] at hat
  have hnar : vp_nar .byte (Int32.ofInt z) = Int32.ofInt z := by
    rw [vp_nar_byte]
    exact lg_i2b_small (by rw [zI_toInt cz]; omega) (by rw [zI_toInt cz]; omega)
  refine va_bast hx hb hK.1 hP (hAD.D h) hS pl 1 hat rfl (zI_in ci hin) hd fun H1 locs1 hP1 hD1 hS1 => ?_
  rw [zI_cl ci hin.1, hnar, zws_set (h' := hu h pl i.toNat z) (by
    rw [zat_of ht]
    show Sum.inl _ = Sum.inl _
    congr 4
    funext j
    by_cases hj : j = i.toNat
    · subst hj; simp [upd, hu]
    · simp [upd, hu, hj]) (fun p' hp' j => hu_np hp')] at hP1
  exact kk (fun v hv => cs v (List.mem_cons_of_mem _ (List.mem_cons_of_mem _ (List.mem_cons_of_mem _ hv)))) cl (zhok_hu hh (by rw [zty_a ht]; exact hz)) H1 locs1 la hP1 hS1 hL
theorem zV_last (O : zOk l0 a cc own mL ret mn tb) {pl len : Nat} {i z : Int} (ht : zT[pl]? = some (.inl (2, len))) (hp : pl < mn) (hin : 0 ≤ i ∧ i < len)
    (hd : decode cc pc = .ok (.lastore, 1)) (kk : zV a M k n (pc + 1) ls st (hu h pl i.toNat z)) : zV a M k n pc ls (aL z :: aI i :: aR pl :: st) h := by
  obtain ⟨⟨p, l, e, s, m, args, below, meth, c⟩, G, E, N⟩ := a
  obtain ⟨hx, hb, hml, hr, ho, hlk, hK, hAD, hN, hex, hl0, hG⟩ := O
  intro cs cl hh H locs la hP hS hL
  have ci : zr i := cs (aI i) (by simp)
  have cz : zr6 z := cs (aL z) (by simp)
  have hat := zws_get (E := E) (h := h) (Nat.lt_of_lt_of_le hp hN)
  rw [zat_of ht] at hat
  refine va_last hx hb hK.1 hP (hAD.D h) hS pl 2 hat rfl (zI_in ci hin) hd fun H1 locs1 hP1 hD1 hS1 => ?_
  rw [zI_cl ci hin.1, zws_set (h' := hu h pl i.toNat z) (by
    rw [zat_of ht]
    show Sum.inl _ = Sum.inl _
    congr 5
    funext j
    by_cases hj : j = i.toNat
    · subst hj; simp [vp_updL, hu]
    · simp [vp_updL, hu, hj]) (fun p' hp' j => hu_np hp')] at hP1
  exact kk (fun v hv => cs v (List.mem_cons_of_mem _ (List.mem_cons_of_mem _ (List.mem_cons_of_mem _ hv)))) cl (zhok_hu hh (by rw [zty_a ht]; exact cz)) H1 locs1 la hP1 hS1 hL
end ZH
