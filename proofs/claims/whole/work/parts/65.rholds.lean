/-! the hosts that pass: the reference -/
section RHO
variable {r : Rw}
theorem p8_hasClash {l : Int} {h : Hp} {Q : Int → Prop} (e : rd h 186 = r) (ho : okS r) (hl : 0 ≤ l ∧ l < r 0) (hQ : Q (b2i (hcl r l))) : mX8_hasClash l h Q := by
  have o1 := ho.1.1
  have o1' := ho.1.1
  unfold okR at o1'
  have i40 : 0 ≤ l ∧ l < 40 := ⟨hl.1, by omega⟩
  unfold mX8_hasClash
  unfold hcl at hQ
  refine p8_of i40 (by omega) (p8_isClash (by rw [e]; exact o1) ?_)
  rw [e]
  refine ⟨fun c => ?_, fun c => p8_kept (by rw [e]; exact o1) i40 ?_⟩
  · rw [b2i1.mp c, Bool.true_or] at hQ; exact hQ
  rw [e]
  rw [b2i0.mp c, Bool.false_or] at hQ
  refine ⟨fun d => ?_, fun d => p8_kept (by rw [e]; exact o1) i40 (p8_isClash (by rw [e]; exact o1) ?_)⟩
  · rw [decide_eq_false (by omega), Bool.false_and] at hQ; exact hQ
  · rw [e]
    rw [decide_eq_true (by omega), Bool.true_and] at hQ
    refine ⟨fun q => ?_, fun q => ?_⟩
    · rw [b2i0.mp q] at hQ; exact hQ
    · rw [b2i1.mp q] at hQ; exact hQ
theorem p8_propertyOf {l x : Int} {h : Hp} {Q : Int → Prop} (e : rd h 186 = r) (ho : okS r) (hl : 0 ≤ l ∧ l < r 0) (hx : 0 ≤ x ∧ x ≤ 8) (hQ : Q (vl r l x)) : mX8_propertyOf x l h Q := by
  have o1 := ho.1.1
  have o1' := ho.1.1
  unfold okR at o1'
  have i40 : 0 ≤ l ∧ l < 40 := ⟨hl.1, by omega⟩
  unfold mX8_propertyOf
  unfold vl at hQ
  rw [if_neg (by omega)] at hQ
  refine ⟨fun q => ?_, fun q => p8_of i40 (by omega) ?_, fun q => p8_of i40 (by omega) ?_, fun q => p8_kept (by rw [e]; exact o1) i40 ?_, fun q => p8_of i40 (by omega) ?_, fun q => p8_of i40 (by omega) ?_, fun q => p8_of i40 (by omega) ?_, fun q => p8_hasClash e ho hl ?_, fun q => p8_reachOf (by rw [e]; exact ho.1) (by rw [e]; exact hl) ?_⟩
  · rw [if_pos q] at hQ; exact hQ
  · rw [if_neg (by omega), if_pos q] at hQ; rw [e]; exact hQ
  · rw [if_neg (by omega), if_neg (by omega), if_pos q] at hQ; rw [e]; exact hQ
  · rw [if_neg (by omega), if_neg (by omega), if_neg (by omega), if_pos q] at hQ; rw [e]; exact hQ
  · rw [if_neg (by omega), if_neg (by omega), if_neg (by omega), if_neg (by omega), if_pos q] at hQ; rw [e]; exact hQ
  · rw [if_neg (by omega), if_neg (by omega), if_neg (by omega), if_neg (by omega), if_neg (by omega), if_pos q] at hQ; rw [e]; exact hQ
  · rw [if_neg (by omega), if_neg (by omega), if_neg (by omega), if_neg (by omega), if_neg (by omega), if_neg (by omega), if_pos q] at hQ; rw [e]; exact hQ
  · rw [if_neg (by omega), if_neg (by omega), if_neg (by omega), if_neg (by omega), if_neg (by omega), if_neg (by omega), if_neg (by omega), if_pos q] at hQ
    refine ⟨fun c => ?_, fun c => ?_⟩
    · rw [b2i0.mp c] at hQ; exact hQ
    · rw [b2i1.mp c] at hQ; exact hQ
  · rw [if_neg (by omega), if_neg (by omega), if_neg (by omega), if_neg (by omega), if_neg (by omega), if_neg (by omega), if_neg (by omega), if_neg (by omega)] at hQ
    rw [e]
    exact hQ
def stB (h : Hp) (st : List Bool) : Prop := ∀ (i : Nat) (a : Bool), st.reverse[i]? = some a → h 196 i = b2i a
theorem rev_at {α : Type} {a c : α} {s : List α} {i : Nat} (h : (a :: s).reverse[i]? = some c) : (i < s.length ∧ s.reverse[i]? = some c) ∨ (i = s.length ∧ c = a) := by
  rw [List.reverse_cons] at h
  by_cases hi : i < s.reverse.length
  · rw [List.getElem?_append_left hi] at h
    exact Or.inl ⟨by rw [List.length_reverse] at hi; exact hi, h⟩
  · rw [List.getElem?_append_right (by omega)] at h
    rw [List.length_reverse] at h hi
    by_cases q : i - s.length = 0
    · rw [q] at h
      have hg' : a = c := by simpa using h
      exact Or.inr ⟨by omega, hg'.symm⟩
    · obtain ⟨j, hj⟩ : ∃ j, i - s.length = j + 1 := ⟨i - s.length - 1, by omega⟩
      rw [hj] at h
      simp at h
theorem rev_top {α : Type} {a : α} {s : List α} : (a :: s).reverse[s.length]? = some a := by
  rw [List.reverse_cons, List.getElem?_append_right (by rw [List.length_reverse]; exact Nat.le_refl _), List.length_reverse, Nat.sub_self]
  rfl
theorem rev_in {α : Type} {a c : α} {s : List α} {i : Nat} (h : s.reverse[i]? = some c) : (a :: s).reverse[i]? = some c := by
  have hi : i < s.reverse.length := by
    by_cases hi : i < s.reverse.length
    · exact hi
    · rw [List.getElem?_eq_none (by omega)] at h; cases h
  rw [List.reverse_cons, List.getElem?_append_left hi]
  exact h
theorem rev_len {α : Type} {c : α} {s : List α} {i : Nat} (h : s.reverse[i]? = some c) : i < s.length := by
  by_cases hi : i < s.reverse.length
  · rw [List.length_reverse] at hi; exact hi
  · rw [List.getElem?_eq_none (by omega)] at h; cases h
theorem b2i_01 {a : Bool} : b2i a = 0 ∨ b2i a = 1 := by cases a <;> simp [b2i]
theorem p8_value {l x v2 v3 : Int} {h : Hp} {Q : Int → Hp → Prop} {f : Nat} {n : Nat} (e : rd h 186 = r) (ho : okS r) (hl : 0 ≤ l ∧ l < r 0) (hx : okv x) (h26 : h 185 26 = (n : Int)) (h200 : n ≤ 200) (h3 : 0 ≤ v3 ∧ v3 < n) (h2 : 0 ≤ v2 ∧ v2 < 200) (hc : rd h 194 v3 = x) (hQ : ∀ g, g = wr h 196 v2 (vl r l x) → mX8_holds__b4 Q f l (v2 + 1) (v3 + 1) g) : mX8_holds__b4 Q (f + 1) l v2 v3 h := by
  unfold mX8_holds__b4
  rw [hc, h26]
  have fin : ∀ z, z = vl r l x → mX8_holds__b131 Q (mX8_holds__b4 Q f) l v2 v3 z v2 h := fun z ez => by
    unfold mX8_holds__b131 mX8_holds__b135
    exact ⟨h2, fun g eg => ⟨zri (by omega) (by omega), zri (by omega) (by omega), hQ g (by rw [eg, ez])⟩⟩
  unfold okv at hx
  refine ⟨fun w => by omega, fun _ => ⟨⟨by omega, by omega⟩, fun _ => p8_in ⟨fun _ => ⟨fun c => p8_propertyOf e ho hl (by omega) (fin _ rfl), fun c => ⟨zri (by omega) (by omega), fin _ ?_⟩⟩, fun w => ?_⟩, fun w => by omega⟩⟩
  · unfold vl
    rw [if_pos (by omega)]
  · have := of_decide_eq_true (b2i1.mp w)
    omega
theorem p8_joined {op a c : Int} {h : Hp} {Q : Int → Prop} (hop : (20 ≤ op ∧ op ≤ 22) ∨ ((op = 24 ∨ op = 25) ∧ (0 ≤ a ∧ a ≤ 1) ∧ (0 ≤ c ∧ c ≤ 1))) (hQ : Q (b2i (if op = 20 then decide (a < c) else if op = 21 then decide (a = c) else if op = 22 then decide (c < a) else if op = 24 then decide (a + c = 2) else decide (0 < a + c)))) : mX8_joined op a c h Q := by
  unfold mX8_joined
  refine ⟨fun q => ⟨fun d => ?_, fun d => ?_⟩, fun q => ⟨fun d => ?_, fun d => ?_⟩, fun q => ⟨fun d => ?_, fun d => ?_⟩, fun q => by omega, fun q => ⟨zri (by omega) (by omega), fun d => ?_, fun d => ?_⟩, fun q => ⟨zri (by omega) (by omega), fun d => ?_, fun d => ?_⟩⟩
  · rw [if_pos q, decide_eq_false (by omega)] at hQ; exact hQ
  · rw [if_pos q, decide_eq_true (by omega)] at hQ; exact hQ
  · rw [if_neg (by omega), if_pos q, decide_eq_false d] at hQ; exact hQ
  · rw [if_neg (by omega), if_pos q, decide_eq_true d] at hQ; exact hQ
  · rw [if_neg (by omega), if_neg (by omega), if_pos q, decide_eq_false (by omega)] at hQ; exact hQ
  · rw [if_neg (by omega), if_neg (by omega), if_pos q, decide_eq_true (by omega)] at hQ; exact hQ
  · rw [if_neg (by omega), if_neg (by omega), if_neg (by omega), if_pos q, decide_eq_false d] at hQ; exact hQ
  · rw [if_neg (by omega), if_neg (by omega), if_neg (by omega), if_pos q, decide_eq_true d] at hQ; exact hQ
  · rw [if_neg (by omega), if_neg (by omega), if_neg (by omega), if_neg (by omega), decide_eq_false (by omega)] at hQ; exact hQ
  · rw [if_neg (by omega), if_neg (by omega), if_neg (by omega), if_neg (by omega), decide_eq_true (by omega)] at hQ; exact hQ
/-- one code that joins the two on top -/
theorem p8_join {l op v2 v3 a c : Int} {h : Hp} {Q : Int → Hp → Prop} {f : Nat} {n : Nat} (h26 : h 185 26 = (n : Int)) (h200 : n ≤ 200) (h3 : 0 ≤ v3 ∧ v3 < n) (h2 : 2 ≤ v2 ∧ v2 ≤ 200) (hc : rd h 194 v3 = op) (ha : rd h 196 (v2 + (-1) - 1) = a) (hb : rd h 196 (v2 + (-1)) = c) (hop : (20 ≤ op ∧ op ≤ 22) ∨ ((op = 24 ∨ op = 25) ∧ (0 ≤ a ∧ a ≤ 1) ∧ (0 ≤ c ∧ c ≤ 1))) (hQ : ∀ g, g = wr h 196 (v2 + (-1) - 1) (b2i (if op = 20 then decide (a < c) else if op = 21 then decide (a = c) else if op = 22 then decide (c < a) else if op = 24 then decide (a + c = 2) else decide (0 < a + c))) → mX8_holds__b4 Q f l (v2 + (-1)) (v3 + 1) g) : mX8_holds__b4 Q (f + 1) l v2 v3 h := by
  unfold mX8_holds__b4
  rw [hc, h26, ha, hb]
  refine ⟨fun w => by omega, fun _ => ⟨⟨by omega, by omega⟩, fun _ => p8_in ⟨fun w => ?_, fun _ => ⟨zri (by omega) (by omega), zri (by omega) (by omega), zri (by omega) (by omega), ⟨by omega, by omega⟩, ⟨by omega, by omega⟩, p8_joined hop ⟨fun q => ?_, fun q => ?_⟩⟩⟩, fun w => by omega⟩⟩
  · have := of_decide_eq_false (b2i0.mp w)
    omega
  · unfold mX8_holds__b100 mX8_holds__b135
    refine ⟨⟨by omega, by omega⟩, fun g eg => ⟨zri (by omega) (by omega), hQ g ?_⟩⟩
    rw [eg, q]
  · unfold mX8_holds__b100 mX8_holds__b135
    refine ⟨⟨by omega, by omega⟩, fun g eg => ⟨zri (by omega) (by omega), hQ g ?_⟩⟩
    rw [eg, b2i1.mp q]
    rfl
theorem p8_codes {l : Int} {Q : Int → Hp → Prop} {h0 : Hp} (ho : okS r) (hl : 0 ≤ l ∧ l < r 0) (T : List It) : ∀ (P : List It) (st : List Bool) (h : Hp) (v2 v3 : Int) (fu : Nat), v2 = (st.length : Int) → v3 = ((cM P).length : Int) → st.length ≤ (cM P).length → (cM (P ++ T)).length ≤ 200 → wfI T st.length → (cM T).length < fu → cod h (cM (P ++ T)) → rd h 186 = r → stB h st → (∀ p, p ≠ 196 → h p = h0 p) → (∀ a h', evB r l T st = [a] → (∀ p, p ≠ 196 → h' p = h0 p) → Q (b2i a) h') → mX8_holds__b4 Q fu l v2 v3 h := by
  induction T with
  | nil =>
    intro P st h v2 v3 fu e2 e3 hle h2 hw hfu hs hr hst hf hQ
    obtain ⟨f, rfl⟩ : ∃ f, fu = f + 1 := ⟨fu - 1, by omega⟩
    have k1 : st.length = 1 := hw
    obtain ⟨a, rfl⟩ : ∃ a, st = [a] := by
      cases st with
      | nil => cases k1
      | cons a s =>
        cases s with
        | nil => exact ⟨a, rfl⟩
        | cons c s => simp at k1
    rw [List.append_nil] at hs
    unfold mX8_holds__b4
    have e0 : rd h 196 0 = b2i a := hst 0 a rfl
    rw [e0, hs.1]
    refine ⟨fun _ => ⟨by omega, fun q => ?_, fun q => ?_⟩, fun c => by omega⟩
    · have := hQ a h rfl hf
      rcases b2i_01 (a := a) with w | w
      · rw [w] at this; exact this
      · exact absurd w q
    · have := hQ a h rfl hf
      rw [q] at this; exact this
  | cons t T ih =>
    intro P st h v2 v3 fu e2 e3 hle h2 hw hfu hs hr hst hf hQ
    have eP : P ++ t :: T = P ++ [t] ++ T := by simp
    have eA : cM (P ++ t :: T) = cM P ++ (cM1 t ++ cM T) := by rw [cM_app, cM_cons]
    have at_j : ∀ (j : Nat) (z : Int), (cM1 t)[j]? = some z → h 194 ((cM P).length + j) = z := fun j z hz => hs.2 _ z (by rw [eA]; exact get_mid hz)
    have lA : (cM (P ++ t :: T)).length = (cM P).length + ((cM1 t).length + (cM T).length) := by rw [eA, List.length_append, List.length_append]
    have lT : (cM (t :: T)).length = (cM1 t).length + (cM T).length := by rw [cM_cons, List.length_append]
    have eP1 : (cM (P ++ [t])).length = (cM P).length + (cM1 t).length := by rw [cM_app, cM_1, List.length_append]
    have h2n := hs.1
    have next : ∀ (g : Hp) (s : List Bool) (f : Nat), (cM T).length < f → s.length ≤ (cM (P ++ [t])).length → wfI T s.length → (∀ p, p ≠ 196 → g p = h p) → stB g s → (∀ a, evB r l T s = [a] → evB r l (t :: T) st = [a]) → mX8_holds__b4 Q f l (s.length : Int) ((cM (P ++ [t])).length : Int) g := fun g s f hfu sl sw gf sb se => by
      refine ih (P ++ [t]) s g _ _ f rfl rfl sl (by rw [← eP]; exact h2) sw hfu ?_ (by rw [rd_ne (gf 186 (by omega))]; exact hr) sb (fun p hp => (gf p hp).trans (hf p hp)) (fun a h' i1 i2 => hQ a h' (se a i1) i2)
      rw [← eP]
      exact cod_f hs (by rw [gf 185 (by omega)]) (gf 194 (by omega))
    unfold wfI at hw
    by_cases c : t.1 < 23
    · rw [if_pos c] at hw
      obtain ⟨⟨w20, wx, wy⟩, hw⟩ := hw
      have e1 : cM1 t = [t.2.1, t.2.2, t.1] := by unfold cM1; rw [if_pos c]
      have l3 : (cM1 t).length = 3 := by rw [e1]; rfl
      have r0 : rd h 194 v3 = t.2.1 := by
        unfold rd
        rw [show v3.toNat = (cM P).length + 0 by omega]
        exact at_j 0 _ (by rw [e1]; rfl)
      have r1 : rd h 194 (v3 + 1) = t.2.2 := by
        unfold rd
        rw [show (v3 + 1).toNat = (cM P).length + 1 by omega]
        exact at_j 1 _ (by rw [e1]; rfl)
      have r2 : rd h 194 (v3 + 1 + 1) = t.1 := by
        unfold rd
        rw [show (v3 + 1 + 1).toNat = (cM P).length + 2 by omega]
        exact at_j 2 _ (by rw [e1]; rfl)
      obtain ⟨f, rfl⟩ : ∃ f, fu = f + 1 + 1 + 1 := ⟨fu - 3, by omega⟩
      refine p8_value (n := (cM (P ++ t :: T)).length) hr ho hl wx h2n h2 (by omega) (by omega) r0 fun g eg => ?_
      have gf : ∀ p, p ≠ 196 → g p = h p := fun p hp => by rw [eg, wr_q hp]
      refine p8_value (n := (cM (P ++ t :: T)).length) (by rw [rd_ne (gf 186 (by omega))]; exact hr) ho hl wy (by rw [gf 185 (by omega)]; exact h2n) h2 (by omega) (by omega) (by rw [rd_ne (gf 194 (by omega))]; exact r1) fun u eu => ?_
      have uf : ∀ p, p ≠ 196 → u p = h p := fun p hp => by rw [eu, wr_q hp, gf p hp]
      have ur : rd u 196 = up (up (rd h 196) v2 (vl r l t.2.1)) (v2 + 1) (vl r l t.2.2) := by rw [eu, rd_wr, eg, rd_wr]
      refine p8_join (n := (cM (P ++ t :: T)).length) (a := vl r l t.2.1) (c := vl r l t.2.2) (by rw [uf 185 (by omega)]; exact h2n) h2 (by omega) (by omega) (by rw [rd_ne (uf 194 (by omega))]; exact r2) ?_ ?_ (Or.inl ⟨w20, by omega⟩) fun w ew => ?_
      · rw [ur, up_ne (by omega) (by omega) (by omega), show v2 + 1 + 1 + -1 - 1 = v2 by omega, up_same]
      · rw [ur, show v2 + 1 + 1 + -1 = v2 + 1 by omega, up_same]
      · rw [show v2 + 1 + 1 + -1 = (((cmv r t l :: st).length : Nat) : Int) by rw [List.length_cons]; omega, show v3 + 1 + 1 + 1 = ((cM (P ++ [t])).length : Int) by omega]
        refine next w (cmv r t l :: st) f (by omega) (by rw [List.length_cons]; omega) (by rw [List.length_cons]; exact hw) (fun p hp => by rw [ew, wr_q hp, uf p hp]) (fun i a hi => ?_) (fun a q => ?_)
        · have er : w 196 i = rd w 196 (i : Int) := rfl
          rw [er, ew, rd_wr, ur]
          rcases rev_at hi with ⟨i1, i2⟩ | ⟨i1, i2⟩
          · rw [up_ne (by omega) (by omega) (by omega), up_ne (by omega) (by omega) (by omega), up_ne (by omega) (by omega) (by omega)]
            exact hst i a i2
          · rw [show v2 + 1 + 1 + -1 - 1 = (i : Int) by omega, up_same, i2]
            unfold cmv
            by_cases q0 : t.1 = 20
            · rw [if_pos q0, if_pos q0]
            · rw [if_neg q0, if_neg q0]
              by_cases q1 : t.1 = 21
              · rw [if_pos q1, if_pos q1]
              · rw [if_neg q1, if_neg q1, if_pos (by omega)]
        · unfold evB evG
          rw [if_pos c]
          exact q
    · rw [if_neg c] at hw
      have e1 : cM1 t = [t.1] := by unfold cM1; rw [if_neg c]
      have l3 : (cM1 t).length = 1 := by rw [e1]; rfl
      have r0 : rd h 194 v3 = t.1 := by
        unfold rd
        rw [show v3.toNat = (cM P).length + 0 by omega]
        exact at_j 0 _ (by rw [e1]; rfl)
      obtain ⟨f, rfl⟩ : ∃ f, fu = f + 1 := ⟨fu - 1, by omega⟩
      by_cases d : t.1 = 23
      · rw [if_pos d] at hw
        obtain ⟨a, s, rfl⟩ : ∃ a s, st = a :: s := by
          cases st with
          | nil => simp at hw
          | cons a s => exact ⟨a, s, rfl⟩
        rw [List.length_cons] at hw hle e2
        have rt : rd h 196 (v2 - 1) = b2i a := by
          unfold rd
          rw [show (v2 - 1).toNat = s.length by omega]
          exact hst _ a rev_top
        unfold mX8_holds__b4 mX8_holds__b135
        rw [r0, h2n, rt]
        have b01 := b2i_01 (a := a)
        refine ⟨fun w => by omega, fun _ => ⟨⟨by omega, by omega⟩, fun w => absurd d w, fun _ => ⟨zri (by omega) (by omega), zri (by omega) (by omega), ⟨by omega, by omega⟩, zri (by omega) (by omega), ⟨by omega, by omega⟩, fun g eg => ⟨zri (by omega) (by omega), ?_⟩⟩⟩⟩
        rw [show v2 = (((not a :: s).length : Nat) : Int) by rw [List.length_cons]; omega, show v3 + 1 = ((cM (P ++ [t])).length : Int) by omega]
        refine next g (not a :: s) f (by omega) (by rw [List.length_cons]; omega) (by rw [List.length_cons]; exact hw.2) (fun p hp => by rw [eg, wr_q hp]) (fun i e hi => ?_) (fun e q => ?_)
        · have er : g 196 i = rd g 196 (i : Int) := rfl
          rw [er, eg, rd_wr]
          rcases rev_at hi with ⟨i1, i2⟩ | ⟨i1, i2⟩
          · rw [up_ne (by omega) (by omega) (by omega)]
            exact hst i e (rev_in i2)
          · rw [show v2 - 1 = (i : Int) by omega, up_same, i2]
            cases a <;> rfl
        · unfold evB evG
          rw [if_neg c, if_pos d]
          exact q
      · rw [if_neg d] at hw
        obtain ⟨a, e, s, rfl⟩ : ∃ a e s, st = a :: e :: s := by
          cases st with
          | nil => simp at hw
          | cons a s =>
            cases s with
            | nil => simp at hw
            | cons e s => exact ⟨a, e, s, rfl⟩
        rw [List.length_cons, List.length_cons] at hw hle e2
        obtain ⟨hw1, hw2, hw3⟩ := hw
        have ba := b2i_01 (a := a)
        have be := b2i_01 (a := e)
        refine p8_join (n := (cM (P ++ t :: T)).length) (a := b2i e) (c := b2i a) h2n h2 (by omega) (by omega) r0 ?_ ?_ (Or.inr ⟨hw1, by omega, by omega⟩) fun w ew => ?_
        · unfold rd
          rw [show (v2 + -1 - 1).toNat = s.length by omega]
          exact hst _ e (rev_in rev_top)
        · unfold rd
          rw [show (v2 + -1).toNat = (e :: s).length by rw [List.length_cons]; omega]
          exact hst _ a rev_top
        · have ej : (if t.1 = 20 then decide (b2i e < b2i a) else if t.1 = 21 then decide (b2i e = b2i a) else if t.1 = 22 then decide (b2i a < b2i e) else if t.1 = 24 then decide (b2i e + b2i a = 2) else decide (0 < b2i e + b2i a)) = (if t.1 = 24 then a && e else a || e) := by
            rw [if_neg (by omega), if_neg (by omega), if_neg (by omega)]
            by_cases q : t.1 = 24
            · rw [if_pos q, if_pos q]
              cases a <;> cases e <;> rfl
            · rw [if_neg q, if_neg q]
              cases a <;> cases e <;> rfl
          rw [ej] at ew
          rw [show v2 + -1 = ((((if t.1 = 24 then a && e else a || e) :: s).length : Nat) : Int) by rw [List.length_cons]; omega, show v3 + 1 = ((cM (P ++ [t])).length : Int) by omega]
          refine next w ((if t.1 = 24 then a && e else a || e) :: s) f (by omega) (by rw [List.length_cons]; omega) (by rw [List.length_cons]; exact hw3) (fun p hp => by rw [ew, wr_q hp]) (fun i k hi => ?_) (fun k q => ?_)
          · have er : w 196 i = rd w 196 (i : Int) := rfl
            rw [er, ew, rd_wr]
            rcases rev_at hi with ⟨i1, i2⟩ | ⟨i1, i2⟩
            · rw [up_ne (by omega) (by omega) (by omega)]
              exact hst i k (rev_in (rev_in i2))
            · rw [show v2 + -1 - 1 = (i : Int) by omega, up_same, i2]
          · unfold evB evG
            rw [if_neg c, if_neg d]
            exact q
theorem p8_holds_ {l : Int} {Q : Int → Hp → Prop} {h : Hp} {L : List It} {a : Bool} (ho : okS r) (hl : 0 ≤ l ∧ l < r 0) (e : rd h 186 = r) (hc : cod h (cM L)) (h2 : (cM L).length ≤ 200) (hw : wfI L 0) (ha : evB r l L [] = [a]) (hQ : ∀ h', (∀ p, p ≠ 196 → h' p = h p) → Q (b2i a) h') : mX8_holds_ l h Q := by
  unfold mX8_holds_
  refine ⟨(cM L).length + 1, p8_codes (P := []) (st := []) (h0 := h) ho hl L h 0 0 _ rfl rfl (by decide) h2 hw (by omega) hc e (fun i a hi => by simp at hi) (fun _ _ => rfl) fun c h' i1 i2 => ?_⟩
  have : a = c := by
    rw [ha] at i1
    simpa using i1
  rw [← this]
  exact hQ h' i2
theorem p8_all {v2 : Int} {Q : Int → Hp → Prop} {h : Hp} {L : List It} {f : SetF} (ho : okS r) (e : rd h 186 = r) (hc : cod h (cM L)) (h2 : (cM L).length ≤ 200) (hw : wfI L 0) (ha : ∀ l, 0 ≤ l → l < r 0 → evB r l L [] = [f l]) (hQ : ∀ h', (∀ p, p ≠ 196 → h' p = h p) → Q (if v2 = 0 then cn f 0 (r 0) else fs f 0 (r 0)) h') : ∃ ff, mX8_query_b90 Q ff v2 0 0 h := by
  have o1 := ho.1.1
  unfold okR at o1
  obtain ⟨k, hk⟩ := forU (fun k i => ∀ (g : Hp) (v3 : Int), (∀ p, p ≠ 196 → g p = h p) → 0 ≤ v3 ∧ v3 ≤ i → (v2 = 0 → v3 + cn f i (r 0) = cn f 0 (r 0)) → (¬ v2 = 0 → fs f i (r 0) = fs f 0 (r 0)) → mX8_query_b90 Q k v2 v3 i g) 0 (r 0) o1.1.1 (fun k g v3 gf hv hm hn => by
      have hr : rd g 186 = r := by rw [rd_ne (gf 186 (by omega))]; exact e
      have := hQ g gf
      unfold mX8_query_b90
      rw [hr]
      refine ⟨by omega, fun _ => ⟨fun c => ?_, fun c => ?_⟩, fun w => absurd (Int.le_refl _) w⟩
      · rw [if_pos c, ← hm c, cn_end (Int.le_refl _), Int.add_zero] at this
        exact this
      · rw [if_neg c, ← hn c, fs_end (Int.le_refl _)] at this
        exact this) (fun k i i1 i2 ih g v3 gf hv hm hn => by
      have hr : rd g 186 = r := by rw [rd_ne (gf 186 (by omega))]; exact e
      unfold mX8_query_b90 mX8_query_b123
      rw [hr]
      refine ⟨by omega, fun w => by omega, fun _ => p8_holds_ ho ⟨i1, i2⟩ hr (cod_f hc (by rw [gf 185 (by omega)]) (gf 194 (by omega))) h2 hw (ha i i1 i2) fun u fu => ?_⟩
      have uf : ∀ p, p ≠ 196 → u p = h p := fun p hp => (fu p hp).trans (gf p hp)
      refine ⟨fun c => ⟨fun d => ⟨zri (by omega) (by omega), zri (by omega) (by omega), ih u _ uf (by omega) (fun _ => ?_) (fun q => absurd d q)⟩, fun d => ?_⟩, fun c => ⟨zri (by omega) (by omega), ih u _ uf (by omega) (fun d => ?_) (fun d => ?_)⟩⟩
      · have := hm d
        rw [cn_hit i2 (b2i1.mp c)] at this
        omega
      · have := hQ u uf
        rw [if_neg d, ← hn d, fs_hit i2 (b2i1.mp c)] at this
        exact this
      · have := hm d
        rw [cn_skip i2 (b2i0.mp c)] at this
        omega
      · rw [← hn d, fs_skip i2 (b2i0.mp c)])
  exact ⟨k, hk h 0 (fun _ _ => rfl) (by omega) (fun _ => by omega) (fun _ => rfl)⟩
end RHO
