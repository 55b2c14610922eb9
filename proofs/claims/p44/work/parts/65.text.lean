/-! the law's text: what it writes -/
def wl (w : Nat) : List Int := (zsd w).2.2.2.map (fun b => b.toInt)
def DD (v : Int) : List Int := if v < 10 then [48 + v] else [48 + v / 10, 48 + v % 10]
/-- the law's text so far -/
def tx (h : Hp) (t : List Int) : Prop := h 185 1 = t.length ∧ ∀ i : Nat, i < t.length → h 186 i = t.getD i 0
/-- all but the law's text stays -/
def ft (h h' : Hp) : Prop := ∀ p, p ≠ 185 → p ≠ 186 → h' p = h p
theorem ft_rf {h : Hp} : ft h h := fun _ _ _ => rfl
theorem ft_tr {h a c : Hp} (x : ft h a) (y : ft a c) : ft h c := fun p h1 h2 => (y p h1 h2).trans (x p h1 h2)
theorem getD_app {t : List Int} {z : Int} {i : Nat} (hi : i < t.length + 1) : (t ++ [z]).getD i 0 = if i = t.length then z else t.getD i 0 := by
  rw [List.getD_eq_getElem?_getD, List.getD_eq_getElem?_getD]
  by_cases e : i = t.length
  · rw [if_pos e, List.getElem?_append_right (by omega), e, Nat.sub_self]; rfl
  · rw [if_neg e, List.getElem?_append_left (by omega)]
theorem tx_put {h h3 h4 : Hp} {t : List Int} {z : Int} (k : tx h t) (e3 : h3 = wr h 186 (h 185 1) z) (e4 : h4 = hu h3 185 1 ((h3 185 1) + 1)) : tx h4 (t ++ [z]) ∧ ft h h4 := by
  have q3 : h3 185 1 = t.length := by rw [e3, wr_np (by omega)]; exact k.1
  refine ⟨⟨?_, fun i hi => ?_⟩, fun p h1 h2 => by rw [e4, hu_q h1, e3, wr_q h2]⟩
  · rw [e4, hu_same, q3, List.length_append]; rfl
  · rw [List.length_append] at hi
    have hi : i < t.length + 1 := hi
    rw [getD_app hi, e4, hu_np (by omega), e3, k.1]
    by_cases e : i = t.length
    · rw [if_pos e]
      have : wr h 186 (t.length : Int) z 186 i = z := by rw [e]; exact (show rd (wr h 186 (t.length : Int) z) 186 (t.length : Int) = z from rw_same)
      exact this
    · rw [if_neg e]
      have : wr h 186 (t.length : Int) z 186 i = h 186 i := hu_ne (by omega)
      rw [this]
      exact k.2 i (by omega)
theorem p_letter {x : Int} {h : Hp} {Q : Hp → Prop} {t : List Int} (k : tx h t) (hx : 0 ≤ x ∧ x ≤ 25) (hl : t.length < 1000) (hQ : ∀ h', tx h' (t ++ [97 + x]) → ft h h' → Q h') : mL_letter x h Q := by
  unfold mL_letter
  refine ⟨zri (by omega) (by omega), by rw [k.1]; omega, fun h3 e3 => ⟨?_, fun h4 e4 => ?_⟩⟩
  · rw [e3, wr_np (by omega), k.1]; exact zri (by omega) (by omega)
  · obtain ⟨a, b⟩ := tx_put k e3 e4
    exact hQ h4 a b
theorem wl_len {w : Nat} : ((wl w).length : Int) = zslen w := by unfold wl zslen; rw [List.length_map]
theorem wl_get {w i : Nat} (hi : i < (wl w).length) : (wl w).getD i 0 = zsch w i := by
  unfold wl at hi ⊢
  unfold zsch
  rw [List.length_map] at hi
  rw [List.getD_eq_getElem?_getD, List.getElem?_map, List.getElem?_eq_getElem hi, List.getD_eq_getElem?_getD, show ((i : Int)).toNat = i by omega, List.getElem?_eq_getElem hi]
  rfl
theorem take_s {l : List Int} {i : Nat} (hi : i < l.length) : l.take (i + 1) = l.take i ++ [l.getD i 0] := by
  rw [List.take_add_one, List.getD_eq_getElem?_getD, List.getElem?_eq_getElem hi]
  rfl
theorem p_writes {w : Nat} {h : Hp} {Q : Hp → Prop} {t : List Int} (k : tx h t) (hl : t.length + (wl w).length ≤ 1000) (hQ : ∀ h', tx h' (t ++ wl w) → ft h h' → Q h') : mL_writes w h Q := by
  unfold mL_writes
  have e := wl_len (w := w)
  obtain ⟨f, hf⟩ := forU (fun f i => ∀ g, tx g (t ++ (wl w).take i.toNat) → ft h g → mL_writes_b2 w Q f i g) 0 (zslen w) (by omega) (fun f g kg fg => by
      unfold mL_writes_b2
      refine ⟨fun _ => hQ g ?_ fg, fun c => absurd (Int.le_refl _) c⟩
      rw [← e, Int.toNat_natCast, List.take_length] at kg
      exact kg) (fun f i i1 i2 ih g kg fg => by
      unfold mL_writes_b2
      have hlen : (t ++ (wl w).take i.toNat).length = t.length + i.toNat := by rw [List.length_append, List.length_take]; omega
      refine ⟨fun c => by omega, fun _ => ⟨⟨i1, i2⟩, by rw [kg.1, hlen]; omega, fun h3 e3 => ⟨?_, fun h4 e4 => ⟨zri (by omega) (by omega), ?_⟩⟩⟩⟩
      · rw [e3, wr_np (by omega), kg.1, hlen]; exact zri (by omega) (by omega)
      · obtain ⟨a, b⟩ := tx_put kg e3 e4
        refine ih h4 ?_ (ft_tr fg b)
        have q := wl_get (w := w) (i := i.toNat) (by omega)
        rw [show ((i.toNat : Nat) : Int) = i by omega] at q
        rw [show (i + 1).toNat = i.toNat + 1 by omega, take_s (by omega), q, ← List.append_assoc]
        exact a)
  exact ⟨f, hf h (by rw [show (0 : Int).toNat = 0 from rfl, List.take_zero, List.append_nil]; exact k) ft_rf⟩
theorem p_spaced {v : Int} {h : Hp} {Q : Hp → Prop} {t : List Int} (k : tx h t) (hv : 0 ≤ v ∧ v ≤ 99) (hl : t.length + 3 ≤ 1000) (hQ : ∀ h', tx h' (t ++ (32 :: DD v)) → ft h h' → Q h') : mL_spaced v h Q := by
  unfold mL_spaced
  have e11 : wl 11 = [32] := by decide
  refine p_writes k (by rw [e11]; simp; omega) fun g kg fg => ?_
  rw [e11] at kg
  have hlen : (t ++ [32]).length = t.length + 1 := by rw [List.length_append]; rfl
  -- a figure
  have dig : ∀ (f : Nat) (one : Int) (g : Hp) (u : List Int), (one = 1 ∨ one = 10) → tx g u → u.length ≤ 999 → (∀ g', tx g' (u ++ [48 + (v / one) % 10]) → ft g g' → mL_spaced_b24 Q f v (one / 10) g') → mL_spaced_b24 Q (f + 1) v one g := fun f one g u ho ku hu2 hn => by
    have hd : 0 ≤ v / one ∧ v / one ≤ 99 := by rcases ho with rfl | rfl <;> omega
    have hm : 0 ≤ (v / one) % 10 ∧ (v / one) % 10 < 10 := by omega
    show _ ∧ _
    refine ⟨fun c => by omega, fun _ => ⟨by omega, by omega, zri (by omega) (by omega), by rw [ku.1]; omega, fun h3 e3 => ⟨?_, fun h4 e4 => ⟨by omega, ?_⟩⟩⟩⟩
    · rw [e3, wr_np (by omega), ku.1]; exact zri (by omega) (by omega)
    · obtain ⟨a, b⟩ := tx_put ku e3 e4
      exact hn h4 a b
  by_cases c : v < 10
  · refine ⟨1, ?_⟩
    show _ ∧ _
    refine ⟨by omega, fun _ => ⟨2, dig 1 1 g _ (Or.inl rfl) kg (by omega) fun g2 k2 f2 => ?_⟩, fun d => by omega⟩
    show _ ∧ _
    refine ⟨fun _ => hQ g2 ?_ (ft_tr fg f2), fun d => absurd (by decide) d⟩
    rw [List.append_assoc] at k2
    unfold DD
    rw [if_pos c]
    have e : (v / 1) % 10 = v := by omega
    rw [e] at k2
    exact k2
  · refine ⟨2, ?_⟩
    show _ ∧ _
    refine ⟨by omega, fun d => by omega, fun _ => ⟨zri (by omega) (by omega), ?_⟩⟩
    show _ ∧ _
    refine ⟨by omega, fun _ => ⟨3, dig 2 10 g _ (Or.inr rfl) kg (by omega) fun g2 k2 f2 => ?_⟩, fun d => by omega⟩
    refine dig 1 1 g2 _ (Or.inl rfl) k2 (by rw [List.length_append, hlen]; simp; omega) fun g3 k3 f3 => ?_
    show _ ∧ _
    refine ⟨fun _ => hQ g3 ?_ (ft_tr fg (ft_tr f2 f3)), fun d => absurd (by decide) d⟩
    rw [List.append_assoc, List.append_assoc] at k3
    unfold DD
    rw [if_neg c]
    have e : (v / 10) % 10 = v / 10 := by omega
    have e2 : (v / 1) % 10 = v % 10 := by omega
    rw [e, e2] at k3
    exact k3
