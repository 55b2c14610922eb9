/-! the same world under another map of places -/
theorem zfs_E {E : EE} {ad : Nat → Nat} {h h' : Hp} {p N : Nat} (he : ∀ q, q < N → ad q = E.1 q) (hh : ∀ k, h' p k = h p k) : ∀ (l : List Nat) (k : Nat), (∀ t ∈ l, t < N + 3) → zfs (ad, E.2) h' p k l = zfs E h p k l := by
  intro l
  induction l with
  | nil => intro k _; rfl
  | cons t r ih =>
    intro k ht
    have h1 : zf (ad, E.2) h' p k t = zf E h p k t := by
      have h0 := ht t List.mem_cons_self
      match t, h0 with
      | 0, _ => show Value.int _ = Value.int _; rw [hh]
      | 1, _ => show Value.long _ = Value.long _; rw [hh]
      | 2, _ => show Value.int _ = Value.int _; rw [hh]
      | q + 3, h0 => show Value.ref (ad q) = Value.ref (E.1 q); rw [he q (by omega)]
    show zf (ad, E.2) h' p k t :: zfs (ad, E.2) h' p (k + 1) r = zf E h p k t :: zfs E h p (k + 1) r
    rw [h1, ih (k + 1) (fun t ht2 => ht t (List.mem_cons_of_mem _ ht2))]
def zTk (N : Nat) (t : TM) : Bool := match t with
  | .inl (t, n) => decide (t ≤ 2) || (decide (n ≤ 10) && decide (156 < N))
  | .inr (_, l) => l.all (fun t => decide (t < N + 3))
def zTb (N : Nat) : Bool := (List.range N).all fun p => match zT[p]? with | some t => zTk N t | none => true
theorem zTb185 : zTb 185 = true := by decide +kernel
theorem zTb197 : zTb 197 = true := by decide +kernel
theorem zAt_E {E : EE} {ad : Nat → Nat} {h h' : Hp} {N p : Nat} {H : Heap} (hN : zTb N = true) (he : ∀ q, q < N → ad q = E.1 q) (hp : p < N) (hh : ∀ k, h' p k = h p k) (hv : va_at E.2.1 vwCl (E.1 p, zat E h p) H) : va_at E.2.1 vwCl (ad p, zat (ad, E.2) h' p) H := by
  have hb := List.all_eq_true.mp hN p (List.mem_range.mpr hp)
  rw [he p hp]
  cases hz : zT[p]? with
  | none =>
    have e1 : zat E h p = .inr (0, []) := by unfold zat; rw [hz]
    have e2 : zat (ad, E.2) h' p = .inr (0, []) := by unfold zat; rw [hz]
    rw [e2]
    rw [e1] at hv
    exact hv
  | some t =>
    rw [zat_of hz]
    rw [zat_of hz] at hv
    simp only [hz] at hb
    have e : h' p = h p := funext hh
    rcases t with ⟨t, n⟩ | ⟨ci, l⟩
    · match t with
      | 0 =>
        show H[E.1 p]? = some (vp_cell (E.2.2.1 0) (n, .inl fun j => Int32.ofInt (h' p j)))
        rw [e]
        exact hv
      | 1 =>
        show H[E.1 p]? = some (vp_cell (E.2.2.1 1) (n, .inl fun j => Int32.ofInt (h' p j)))
        rw [e]
        exact hv
      | 2 =>
        show H[E.1 p]? = some (vp_cell (E.2.2.1 2) (n, .inr (.inl fun j => Int64.ofInt (h' p j))))
        rw [e]
        exact hv
      | t + 3 =>
        have h1 : H[E.1 p]? = some (vp_cell (E.2.2.1 3) (n, .inr (.inr (.inr (.inr fun j => some (E.1 (39 + 13 * j))))))) := hv
        show H[E.1 p]? = some (vp_cell (E.2.2.1 3) (n, .inr (.inr (.inr (.inr fun j => some (ad (39 + 13 * j)))))))
        rw [h1]
        congr 1
        refine vpq_congr (fun j hj => ?_)
        have h2 : (decide (t + 3 ≤ 2) || (decide (n ≤ 10) && decide (156 < N))) = true := hb
        rw [decide_eq_false (show ¬ t + 3 ≤ 2 by omega), Bool.false_or, Bool.and_eq_true] at h2
        have h3 := of_decide_eq_true h2.1
        have h4 := of_decide_eq_true h2.2
        rw [he _ (by omega)]
    · have h2 : l.all (fun t => decide (t < N + 3)) = true := hb
      show va_at E.2.1 vwCl (E.1 p, .inr (ci, zfs (ad, E.2) h' p 0 l)) H
      rw [zfs_E he hh l 0 (fun t ht => of_decide_eq_true (List.all_eq_true.mp h2 t ht))]
      exact hv
theorem zWd_E {E : EE} {ad : Nat → Nat} {h h' : Hp} {N : Nat} {H : Heap} (hN : zTb N = true) (he : ∀ q, q < N → ad q = E.1 q) (hh : ∀ p, p < N → ∀ k, h' p k = h p k) (hw : zWd E N h H) : zWd (ad, E.2) N h' H := by
  intro k q hk
  obtain ⟨h1, rfl⟩ := zws_in hk
  exact zAt_E (E := E) (ad := ad) (h := h) (h' := h') hN he h1 (hh k h1) (hw k _ (zws_get h1))
theorem y_rot {D : va_G} {cl : List vw_C} {A : Nat → Prop} {X : va_W} {y : Nat × va_E} {H : Heap} (hP : va_P D cl (X ++ [y]) H) (hD : va_D A (X ++ [y])) : va_P D cl (y :: X) H ∧ va_D A (y :: X) := by
  have key : ∀ (k : Nat) (q : Nat × va_E), (y :: X)[k]? = some q → (X ++ [y])[if k = 0 then X.length else k - 1]? = some q := by
    intro k q hk
    cases k with
    | zero =>
      rw [if_pos rfl, List.getElem?_append_right (Nat.le_refl _), Nat.sub_self]
      exact hk
    | succ k =>
      rw [if_neg (by omega), Nat.add_sub_cancel]
      rw [List.getElem?_cons_succ] at hk
      rw [List.getElem?_append_left (List.getElem?_eq_some_iff.mp hk).1]
      exact hk
  refine ⟨fun k q hk => hP _ q (key k q hk), fun i j p q hi hj e => ?_, fun k q hk => hD.2 _ q (key k q hk)⟩
  have h1 := hD.1 _ _ p q (key i p hi) (key j q hj) e
  have l1 : i < X.length + 1 := by have := (List.getElem?_eq_some_iff.mp hi).1; simpa using this
  have l2 : j < X.length + 1 := by have := (List.getElem?_eq_some_iff.mp hj).1; simpa using this
  split at h1 <;> split at h1 <;> omega
theorem y_left {X Y : va_W} {p : Nat} {q : Nat × va_E} (h : X[p]? = some q) : (X ++ Y)[p]? = some q := by
  rw [List.getElem?_append_left (List.getElem?_eq_some_iff.mp h).1]
  exact h
/-- the reference's cells just made -/
def hm8 (h : Hp) : Hp := fun p k => if p < 185 then h p k else if p = 185 then (if k = 17 then -1 else 0) else 0
theorem hm8_ok {h : Hp} (hh : zhok h) : zhok (hm8 h) := by
  intro p k
  unfold hm8
  by_cases c : p < 185
  · rw [if_pos c]
    exact hh p k
  · rw [if_neg c]
    by_cases c2 : p = 185
    · subst c2
      rw [if_pos rfl]
      by_cases c3 : k = 17
      · subst c3
        show zr (-1)
        exact zri (by omega) (by omega)
      · rw [if_neg c3]
        exact zin_0 _
    · rw [if_neg c2]
      exact zin_0 _
def J8 (h h2 : Hp) : Prop := (∀ p, p < 185 → h2 p = h p) ∧ (∀ k, 0 ≤ k → k < 8 → rd h2 186 k = bgR k) ∧ ∀ k, h2 185 k = if k = 17 then -1 else 0
