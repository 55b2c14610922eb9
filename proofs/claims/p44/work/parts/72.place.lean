/-! where the cells of the class stand -/
theorem y_tab {p : Program} {l : Launch} {y : MethodName} {ws : List Cond} {rm : Room} {cc : ByteArray} {mL : Nat} {ret : Option FieldType} {e : Env} {s s₁ : State} {m : MethodId} {args : Array Value} {below : List Frame} {meth : Method} {c : Code} (B : BodyLoose p l y (headSpec ws rm) cc mL ret e s m args below meth c s₁) (hw : Cond.code y cc mL ret ∈ ws) : c.exceptionTable.toList = [] := by
  obtain ⟨meth9, c9, h1, h2, -, -, -, -, h7, -⟩ := Cond.code_spec B.named (atoms_spec (ws := ws) B.pre _ hw)
  cases Option.some.inj (h1.symm.trans B.method)
  cases Option.some.inj (h2.symm.trans (Stand.of_body B).code)
  rw [Array.isEmpty_iff.mp h7]
theorem zin_0 (t : Nat) : zin t 0 := by
  match t with
  | 0 => exact zri (by omega) (by omega)
  | 1 => exact ⟨by omega, by omega⟩
  | 2 => exact Or.inl rfl
  | 3 => exact ⟨by omega, by omega⟩
  | _ + 4 => exact zri (by omega) (by omega)
/-- the cells just made -/
def hp0 : Hp := fun p k => if p = 169 then (if k = 10 then -1 else 0) else 0
theorem hp0_ok : zhok hp0 := by
  intro p k
  unfold hp0
  by_cases h : p = 169
  · subst h
    rw [if_pos rfl]
    by_cases h2 : k = 10
    · subst h2
      show zr (-1)
      exact zri (by omega) (by omega)
    · rw [if_neg h2]
      exact zin_0 _
  · rw [if_neg h]
    exact zin_0 _
def J7 (h : Hp) : Prop := nets h 0 bgR ∧ ∀ p, p ≠ 0 → h p = hp0 p
theorem zKK_ad {l : Launch} {E : EE} {ad : Nat → Nat} {U : State} (he : ∀ p, 998 ≤ p → ad p = E.1 p) (h : zKK l E U) : zKK l (ad, E.2) U := by
  obtain ⟨h1, h2, h3, h4, h5, h6, h7, h8, h9, h10, h11, h12, h13, h14, h15⟩ := h
  have e3 : ad 999 = E.1 999 := he _ (by omega)
  have e4 : ad 998 = E.1 998 := he _ (by omega)
  refine ⟨h1, h2, h3, h4, h5, h6, h7, h8, h9, fun w hw => ?_, ?_, ?_, ?_, ?_, h15⟩
  · have e1 : ad (1000 + w) = E.1 (1000 + w) := he _ (by omega)
    have e2 : ad (2000 + w) = E.1 (2000 + w) := he _ (by omega)
    show vk_R _ _ _ (ad (1000 + w)) U ∧ va_O _ (ad (1000 + w)) (zge E) U _ ∧ va_OF _ _ _ _ (ad (1000 + w)) (zge E) U _ ∧ va_OF _ _ _ (.ref (ad (2000 + w))) (ad (1000 + w)) (zge E) U _ ∧ va_T _ (ad (2000 + w)) _ _ (zge E) U _
    rw [e1, e2]
    exact h10 w hw
  · show ∃ xs : Nat → Int32, va_X (ad 999) (ad 998) xs U U.heap
    rw [e3, e4]
    exact h11
  · show ad 998 ≤ 260
    rw [e4]
    exact h12
  · show ad 999 < U.heap.size
    rw [e3]
    exact h13
  · show ad 999 < E.2.2.2
    rw [e3]
    exact h14
theorem y_rotP {D : va_G} {cl : List vw_C} {ws : va_W} {x : Nat × va_E} {H : Heap} (hP : va_P D cl (ws ++ [x]) H) : va_P D cl (x :: ws) H := fun k q hk => by
  match k, hk with
  | 0, hk => exact hP ws.length q (by rw [List.getElem?_append_right (Nat.le_refl _), Nat.sub_self]; exact hk)
  | k + 1, hk =>
    have hk : ws[k]? = some q := hk
    exact hP k q (by rw [List.getElem?_append_left (List.getElem?_eq_some_iff.mp hk).1]; exact hk)
theorem y_rotD {A : Nat → Prop} {ws : va_W} {x : Nat × va_E} (hD : va_D A (ws ++ [x])) : va_D A (x :: ws) := by
  have key : ∀ (k : Nat) (q : Nat × va_E), (x :: ws)[k]? = some q → ∃ i, (ws ++ [x])[i]? = some q ∧ (k = 0 → i = ws.length) ∧ (∀ j, k = j + 1 → i = j ∧ j < ws.length) := fun k q hk => by
    match k, hk with
    | 0, hk => exact ⟨ws.length, by rw [List.getElem?_append_right (Nat.le_refl _), Nat.sub_self]; exact hk, fun _ => rfl, fun j e => by omega⟩
    | k + 1, hk =>
      have hk : ws[k]? = some q := hk
      have hl := (List.getElem?_eq_some_iff.mp hk).1
      exact ⟨k, by rw [List.getElem?_append_left hl]; exact hk, fun e => by omega, fun j e => ⟨by omega, by omega⟩⟩
  refine ⟨fun i j p q hi hj e => ?_, fun k q hk => ?_⟩
  · obtain ⟨i1, a1, b1, c1⟩ := key i p hi
    obtain ⟨j1, a2, b2, c2⟩ := key j q hj
    have h := hD.1 i1 j1 p q a1 a2 e
    match i, j with
    | 0, 0 => rfl
    | 0, j + 1 => have := b1 rfl; have := c2 j rfl; omega
    | i + 1, 0 => have := b2 rfl; have := c1 i rfl; omega
    | i + 1, j + 1 => have := c1 i rfl; have := c2 j rfl; omega
  · obtain ⟨i1, a1, -, -⟩ := key k q hk
    exact hD.2 i1 q a1
def w7 (E : EE) (l0 l1 h0 q4 r q5 t1 t2 t3 q6 x1 q7 q8 u1 u2 u3 q9 b1 : Nat) (a1 a2 a3 : Nat → Nat) (d : Nat → Nat → Nat) : va_W := ((h0, .inr (7, [.ref (a1 0), .ref (a2 0), .ref (a3 0), .int 0, .ref q4, .ref q5, .ref q6, .ref q7, .ref q8, .ref q9, .int (-1)])) :: ((((((((((([] : va_W) ++ ([(l0, .inr (8, [.ref l1, .int 0])), (l1, .inl (E.2.2.1 0, 1000, .inl fun _ => 0))] : va_W)) ++ nbk E a1) ++ nbk E a2) ++ nbk E a3) ++ hbk E q4 r d) ++ ([(q5, .inr (5, [.ref t1, .ref t2, .ref t3])), (t1, .inl (E.2.2.1 0, 251, .inl fun _ => 0)), (t2, .inl (E.2.2.1 0, 251, .inl fun _ => 0)), (t3, .inl (E.2.2.1 0, 251, .inl fun _ => 0))] : va_W)) ++ ([(q6, .inr (6, [.ref x1, .int 0, .int 0, .int 0, .int 0, .int 0, .int 0])), (x1, .inl (E.2.2.1 1, 900, .inl fun _ => 0))] : va_W)) ++ ([(q7, .inr (2, [.ref q6, .ref (a2 0), .int 0, .int 0]))] : va_W)) ++ ([(q8, .inr (4, [.ref q6, .ref u1, .int 0, .int 0, .int 0, .ref u2, .int 0, .ref u3, .int 0])), (u1, .inl (E.2.2.1 0, 203, .inl fun _ => 0)), (u2, .inl (E.2.2.1 2, 203, .inr (.inl fun _ => 0))), (u3, .inl (E.2.2.1 0, 40, .inl fun _ => 0))] : va_W)) ++ ([(q9, .inr (1, [.ref b1, .int 0])), (b1, .inl (E.2.2.1 1, 32, .inl fun _ => 0))] : va_W)))
def ad7 (E : EE) (l0 l1 h0 q4 r q5 t1 t2 t3 q6 x1 q7 q8 u1 u2 u3 q9 b1 : Nat) (a1 a2 a3 : Nat → Nat) (d : Nat → Nat → Nat) (p : Nat) : Nat := if p < 13 then a1 p else if p < 26 then a2 (p - 13) else if p < 39 then a3 (p - 26) else if p < 169 then d ((p - 39) / 13) ((p - 39) % 13) else ([h0, q4, r, q5, t1, t2, t3, q6, x1, q7, q8, u1, u2, u3, q9, b1, l0, l1] : List Nat).getD (p - 169) (E.1 p)
def pos7 (p : Nat) : Nat := if p < 39 then p + 3 else if p < 169 then p + 5 else if p = 169 then 0 else if p < 172 then p - 128 else if p < 185 then p + 2 else p - 184
theorem pos7_inj {i j : Nat} (h : pos7 i = pos7 j) (hi : i < 187) (hj : j < 187) : i = j := by
  unfold pos7 at h
  repeat' split at h
  all_goals omega
set_option maxHeartbeats 4000000 in
set_option maxRecDepth 100000 in
theorem place7 (E : EE) (l0 l1 h0 q4 r q5 t1 t2 t3 q6 x1 q7 q8 u1 u2 u3 q9 b1 : Nat) (a1 a2 a3 : Nat → Nat) (d : Nat → Nat → Nat) : ∀ p, p < 187 → p ≠ 171 → (w7 E l0 l1 h0 q4 r q5 t1 t2 t3 q6 x1 q7 q8 u1 u2 u3 q9 b1 a1 a2 a3 d)[pos7 p]? = some (ad7 E l0 l1 h0 q4 r q5 t1 t2 t3 q6 x1 q7 q8 u1 u2 u3 q9 b1 a1 a2 a3 d p, zat (ad7 E l0 l1 h0 q4 r q5 t1 t2 t3 q6 x1 q7 q8 u1 u2 u3 q9 b1 a1 a2 a3 d, E.2) hp0 p) := by
  intro p hp hq
  match p, hp with
  | 0, _ => rfl
  | 1, _ => rfl
  | 2, _ => rfl
  | 3, _ => rfl
  | 4, _ => rfl
  | 5, _ => rfl
  | 6, _ => rfl
  | 7, _ => rfl
  | 8, _ => rfl
  | 9, _ => rfl
  | 10, _ => rfl
  | 11, _ => rfl
  | 12, _ => rfl
  | 13, _ => rfl
  | 14, _ => rfl
  | 15, _ => rfl
  | 16, _ => rfl
  | 17, _ => rfl
  | 18, _ => rfl
  | 19, _ => rfl
  | 20, _ => rfl
  | 21, _ => rfl
  | 22, _ => rfl
  | 23, _ => rfl
  | 24, _ => rfl
  | 25, _ => rfl
  | 26, _ => rfl
  | 27, _ => rfl
  | 28, _ => rfl
  | 29, _ => rfl
  | 30, _ => rfl
  | 31, _ => rfl
  | 32, _ => rfl
  | 33, _ => rfl
  | 34, _ => rfl
  | 35, _ => rfl
  | 36, _ => rfl
  | 37, _ => rfl
  | 38, _ => rfl
  | 39, _ => rfl
  | 40, _ => rfl
  | 41, _ => rfl
  | 42, _ => rfl
  | 43, _ => rfl
  | 44, _ => rfl
  | 45, _ => rfl
  | 46, _ => rfl
  | 47, _ => rfl
  | 48, _ => rfl
  | 49, _ => rfl
  | 50, _ => rfl
  | 51, _ => rfl
  | 52, _ => rfl
  | 53, _ => rfl
  | 54, _ => rfl
  | 55, _ => rfl
  | 56, _ => rfl
  | 57, _ => rfl
  | 58, _ => rfl
  | 59, _ => rfl
  | 60, _ => rfl
  | 61, _ => rfl
  | 62, _ => rfl
  | 63, _ => rfl
  | 64, _ => rfl
  | 65, _ => rfl
  | 66, _ => rfl
  | 67, _ => rfl
  | 68, _ => rfl
  | 69, _ => rfl
  | 70, _ => rfl
  | 71, _ => rfl
  | 72, _ => rfl
  | 73, _ => rfl
  | 74, _ => rfl
  | 75, _ => rfl
  | 76, _ => rfl
  | 77, _ => rfl
  | 78, _ => rfl
  | 79, _ => rfl
  | 80, _ => rfl
  | 81, _ => rfl
  | 82, _ => rfl
  | 83, _ => rfl
  | 84, _ => rfl
  | 85, _ => rfl
  | 86, _ => rfl
  | 87, _ => rfl
  | 88, _ => rfl
  | 89, _ => rfl
  | 90, _ => rfl
  | 91, _ => rfl
  | 92, _ => rfl
  | 93, _ => rfl
  | 94, _ => rfl
  | 95, _ => rfl
  | 96, _ => rfl
  | 97, _ => rfl
  | 98, _ => rfl
  | 99, _ => rfl
  | 100, _ => rfl
  | 101, _ => rfl
  | 102, _ => rfl
  | 103, _ => rfl
  | 104, _ => rfl
  | 105, _ => rfl
  | 106, _ => rfl
  | 107, _ => rfl
  | 108, _ => rfl
  | 109, _ => rfl
  | 110, _ => rfl
  | 111, _ => rfl
  | 112, _ => rfl
  | 113, _ => rfl
  | 114, _ => rfl
  | 115, _ => rfl
  | 116, _ => rfl
  | 117, _ => rfl
  | 118, _ => rfl
  | 119, _ => rfl
  | 120, _ => rfl
  | 121, _ => rfl
  | 122, _ => rfl
  | 123, _ => rfl
  | 124, _ => rfl
  | 125, _ => rfl
  | 126, _ => rfl
  | 127, _ => rfl
  | 128, _ => rfl
  | 129, _ => rfl
  | 130, _ => rfl
  | 131, _ => rfl
  | 132, _ => rfl
  | 133, _ => rfl
  | 134, _ => rfl
  | 135, _ => rfl
  | 136, _ => rfl
  | 137, _ => rfl
  | 138, _ => rfl
  | 139, _ => rfl
  | 140, _ => rfl
  | 141, _ => rfl
  | 142, _ => rfl
  | 143, _ => rfl
  | 144, _ => rfl
  | 145, _ => rfl
  | 146, _ => rfl
  | 147, _ => rfl
  | 148, _ => rfl
  | 149, _ => rfl
  | 150, _ => rfl
  | 151, _ => rfl
  | 152, _ => rfl
  | 153, _ => rfl
  | 154, _ => rfl
  | 155, _ => rfl
  | 156, _ => rfl
  | 157, _ => rfl
  | 158, _ => rfl
  | 159, _ => rfl
  | 160, _ => rfl
  | 161, _ => rfl
  | 162, _ => rfl
  | 163, _ => rfl
  | 164, _ => rfl
  | 165, _ => rfl
  | 166, _ => rfl
  | 167, _ => rfl
  | 168, _ => rfl
  | 169, _ => rfl
  | 170, _ => rfl
  | 171, _ => exact absurd rfl hq
  | 172, _ => rfl
  | 173, _ => rfl
  | 174, _ => rfl
  | 175, _ => rfl
  | 176, _ => rfl
  | 177, _ => rfl
  | 178, _ => rfl
  | 179, _ => rfl
  | 180, _ => rfl
  | 181, _ => rfl
  | 182, _ => rfl
  | 183, _ => rfl
  | 184, _ => rfl
  | 185, _ => rfl
  | 186, _ => rfl
  | p + 187, hp => omega
theorem w7_ok {E : EE} {H : Heap} {l0 l1 h0 q4 r q5 t1 t2 t3 q6 x1 q7 q8 u1 u2 u3 q9 b1 : Nat} {a1 a2 a3 : Nat → Nat} {d : Nat → Nat → Nat} (hP : va_P E.2.1 vwCl (w7 E l0 l1 h0 q4 r q5 t1 t2 t3 q6 x1 q7 q8 u1 u2 u3 q9 b1 a1 a2 a3 d) H) (hD : va_D (zge E) (w7 E l0 l1 h0 q4 r q5 t1 t2 t3 q6 x1 q7 q8 u1 u2 u3 q9 b1 a1 a2 a3 d)) : zAD (ad7 E l0 l1 h0 q4 r q5 t1 t2 t3 q6 x1 q7 q8 u1 u2 u3 q9 b1 a1 a2 a3 d, E.2) 187 ∧ zWd (ad7 E l0 l1 h0 q4 r q5 t1 t2 t3 q6 x1 q7 q8 u1 u2 u3 q9 b1 a1 a2 a3 d, E.2) 187 hp0 H := by
  have hp := place7 E l0 l1 h0 q4 r q5 t1 t2 t3 q6 x1 q7 q8 u1 u2 u3 q9 b1 a1 a2 a3 d
  have h171 : (w7 E l0 l1 h0 q4 r q5 t1 t2 t3 q6 x1 q7 q8 u1 u2 u3 q9 b1 a1 a2 a3 d)[43]? = some (r, .inl (E.2.2.1 3, 10, .inr (.inr (.inr (.inr fun j => some (d j 0)))))) := rfl
  have hq : ∀ p, p < 187 → ∃ e, (w7 E l0 l1 h0 q4 r q5 t1 t2 t3 q6 x1 q7 q8 u1 u2 u3 q9 b1 a1 a2 a3 d)[pos7 p]? = some (ad7 E l0 l1 h0 q4 r q5 t1 t2 t3 q6 x1 q7 q8 u1 u2 u3 q9 b1 a1 a2 a3 d p, e) := fun p h => by
    by_cases c : p = 171
    · subst c
      exact ⟨_, h171⟩
    · exact ⟨_, hp p h c⟩
  refine ⟨⟨fun i j hi hj e => ?_, fun i hi => ?_⟩, fun k q hk => ?_⟩
  · obtain ⟨e1, h1⟩ := hq i hi
    obtain ⟨e2, h2⟩ := hq j hj
    exact pos7_inj (hD.1 _ _ _ _ h1 h2 e) hi hj
  · obtain ⟨e1, h1⟩ := hq i hi
    exact hD.2 _ _ h1
  · obtain ⟨h1, rfl⟩ := zws_in hk
    by_cases c : k = 171
    · subst c
      have h2 : H[r]? = some (vp_cell (E.2.2.1 3) (10, .inr (.inr (.inr (.inr fun j => some (d j 0)))))) := hP 43 _ h171
      show H[r]? = some (vp_cell (E.2.2.1 3) (10, .inr (.inr (.inr (.inr fun j => some (ad7 E l0 l1 h0 q4 r q5 t1 t2 t3 q6 x1 q7 q8 u1 u2 u3 q9 b1 a1 a2 a3 d (39 + 13 * j)))))))
      rw [h2]
      congr 1
      refine vpq_congr (fun j hj => ?_)
      unfold ad7
      rw [if_neg (by omega), if_neg (by omega), if_neg (by omega), if_pos (by omega), show (39 + 13 * j - 39) / 13 = j by omega, show (39 + 13 * j - 39) % 13 = 0 by omega]
    · exact hP _ _ (hp k h1 c)
