/-! the hosts that pass: the class -/
section PAS
variable {r : Rw}
theorem zl_one {m : Int} (h : 0 ≤ m ∧ m ≤ 40) : zlshl 1 m - 1 = ((2 ^ m.toNat - 1 : Nat) : Int) := by
  have hp := two_lt h
  have h1 := Nat.two_pow_pos m.toNat
  rw [zlshl_n (by decide) ⟨h.1, by omega⟩ (by show 1 * 2 ^ m.toNat < _; omega)]
  show ((1 * 2 ^ m.toNat : Nat) : Int) - 1 = _
  omega
theorem zl_not {k N : Nat} (hk : k ≤ 40) (hN : N < 2 ^ k) : zland ((2 ^ k - 1 : Nat) : Int) (zlxor (N : Int) (-1)) = ((2 ^ k - (N + 1) : Nat) : Int) := by
  have hp : 2 ^ k ≤ 2 ^ 40 := Nat.pow_le_pow_right (by omega) hk
  have hp' : (2 : Nat) ^ 40 = 1099511627776 := by decide
  unfold zland zlxor
  rw [Int64.ofInt_toInt]
  have e : (Int64.ofInt ((2 ^ k - 1 : Nat) : Int) &&& (Int64.ofInt (N : Int) ^^^ Int64.ofInt (-1))).toBitVec.toNat = 2 ^ k - (N + 1) := by
    rw [Int64.toBitVec_and, Int64.toBitVec_xor, BitVec.toNat_and, BitVec.toNat_xor, b_bv _ (by omega), b_bv _ (by omega), Int.toNat_natCast, Int.toNat_natCast, show (Int64.ofInt (-1)).toBitVec.toNat = 2 ^ 64 - 1 by decide]
    apply Nat.eq_of_testBit_eq
    intro i
    rw [Nat.testBit_and, Nat.testBit_xor, Nat.testBit_two_pow_sub_one, Nat.testBit_two_pow_sub_one, Nat.testBit_two_pow_sub_succ hN]
    by_cases c : i < k
    · rw [decide_eq_true c, decide_eq_true (show i < 64 by omega), Bool.xor_true]
    · rw [decide_eq_false c, Bool.false_and, Bool.false_and]
  rw [b_int _ (by rw [e]; omega), e]
theorem is_not {m z : Int} {f : SetF} (h : 0 ≤ m ∧ m ≤ 40) (hz : isS m z f) : isS m (zland (zlshl 1 m - 1) (zlxor z (-1))) (ntF f) := by
  obtain ⟨N, rfl, n1, n2⟩ := hz
  rw [zl_one h, zl_not (by omega) n1]
  refine ⟨_, rfl, by have := Nat.two_pow_pos m.toNat; omega, fun i hi => ?_⟩
  rw [Nat.testBit_two_pow_sub_succ n1, decide_eq_true hi, Bool.true_and, n2 i hi]
  rfl
theorem is_and {m z w : Int} {f g : SetF} (h : 0 ≤ m ∧ m ≤ 40) (hz : isS m z f) (hw : isS m w g) : isS m (zland z w) (anF f g) := by
  obtain ⟨N, rfl, n1, n2⟩ := hz
  obtain ⟨M, rfl, m1, m2⟩ := hw
  have hp := two_lt h
  rw [zland_n (by omega) (by omega)]
  refine ⟨_, rfl, Nat.and_lt_two_pow _ m1, fun i hi => ?_⟩
  rw [Nat.testBit_and, n2 i hi, m2 i hi]
  rfl
theorem is_or {m z w : Int} {f g : SetF} (h : 0 ≤ m ∧ m ≤ 40) (hz : isS m z f) (hw : isS m w g) : isS m (zlor z w) (orF f g) := by
  obtain ⟨N, rfl, n1, n2⟩ := hz
  obtain ⟨M, rfl, m1, m2⟩ := hw
  have hp := two_lt h
  rw [zlor_n (by omega) (by omega)]
  refine ⟨_, rfl, Nat.or_lt_two_pow n1 m1, fun i hi => ?_⟩
  rw [Nat.testBit_or, n2 i hi, m2 i hi]
  rfl
theorem cS_cons {t : It} {T : List It} : cS (t :: T) = cS1 t ++ cS T := by unfold cS; simp
theorem cM_cons {t : It} {T : List It} : cM (t :: T) = cM1 t ++ cM T := by unfold cM; simp
theorem get_mid {A B C : List Int} {j : Nat} {z : Int} (h : B[j]? = some z) : (A ++ (B ++ C))[A.length + j]? = some z := by
  have hj : j < B.length := by
    by_cases q : j < B.length
    · exact q
    · rw [List.getElem?_eq_none (by omega)] at h; cases h
  rw [List.getElem?_append_right (by omega), Nat.add_sub_cancel_left, List.getElem?_append_left hj]
  exact h
theorem p4_steps {Q : Int → Hp → Prop} {h0 : Hp} {v3 : Int} (ho : okS r) (hv3 : v3 = zlshl 1 (r 0) - 1) (T : List It) : ∀ (P : List It) (st : List SetF) (h : Hp) (v5 : Int) (fu : Nat), v5 = ((cS P).length : Int) → st.length ≤ (cS P).length → (cS (P ++ T)).length ≤ 200 → wfI T st.length → T.length < fu → stp h (cS (P ++ T)) → nets h 0 r → tly h r → knR h r → stS h (r 0) st → frS h0 h → (∀ z f h', isS (r 0) z f → evF r T st = [f] → frS h0 h' → Q z h') → mX4_hostsThatPass_b22 0 Q fu v3 v5 h := by
  have o1 := ho.1.1
  unfold okR at o1
  have h40 : 0 ≤ r 0 ∧ r 0 ≤ 40 := o1.1
  induction T with
  | nil =>
    intro P st h v5 fu e5 hl h2 hw hfu hs hn ht hk hst hf hQ
    obtain ⟨f, rfl⟩ : ∃ f, fu = f + 1 := ⟨fu - 1, by omega⟩
    have k1 : st.length = 1 := hw
    obtain ⟨g, rfl⟩ : ∃ g, st = [g] := by
      cases st with
      | nil => cases k1
      | cons a s =>
        cases s with
        | nil => exact ⟨a, rfl⟩
        | cons c s => simp at k1
    rw [List.append_nil] at hs
    unfold mX4_hostsThatPass_b22
    refine ⟨fun _ => p4_pop hst (by show (0 : Nat) < 203; decide) hk fun z g' hz _ _ fg => hQ z g g' hz rfl (frS_tr hf fg), fun c => ?_⟩
    rw [hs.1] at c
    omega
  | cons t T ih =>
    intro P st h v5 fu e5 hl h2 hw hfu hs hn ht hk hst hf hQ
    obtain ⟨f, rfl⟩ : ∃ f, fu = f + 1 := ⟨fu - 1, by omega⟩
    have hfu' : T.length < f := by rw [List.length_cons] at hfu; omega
    have eP : P ++ t :: T = P ++ [t] ++ T := by simp
    have eA : cS (P ++ t :: T) = cS P ++ (cS1 t ++ cS T) := by rw [cS_app, cS_cons]
    have at_j : ∀ (j : Nat) (z : Int), (cS1 t)[j]? = some z → h 180 ((cS P).length + j) = z := fun j z hz => hs.2 _ z (by rw [eA]; exact get_mid hz)
    have lA : (cS (P ++ t :: T)).length = (cS P).length + ((cS1 t).length + (cS T).length) := by rw [eA, List.length_append, List.length_append]
    have l1 : 1 ≤ (cS1 t).length := by unfold cS1; split <;> simp
    have eP1 : ((cS (P ++ [t])).length : Int) = (cS P).length + (cS1 t).length := by rw [cS_app, cS_1, List.length_append]; omega
    have h2n := hs.1
    have next : ∀ (g : Hp) (s : List SetF), s.length ≤ (cS (P ++ [t])).length → wfI T s.length → knR g r → stS g (r 0) s → frS h g → (∀ f, evF r T s = [f] → evF r (t :: T) st = [f]) → mX4_hostsThatPass_b22 0 Q f v3 ((cS (P ++ [t])).length : Int) g := fun g s sl sw sk ss sf se => by
      refine ih (P ++ [t]) s g _ f rfl sl (by rw [← eP]; exact h2) sw hfu' ?_ (nets_frame hn (fun p p1 p2 => sf.2 p (by omega) (by omega) (by omega))) ?_ sk ss (frS_tr hf sf) (fun z f' h' i1 i2 i3 => hQ z f' h' i1 (se f' i2) i3)
      · rw [← eP]
        unfold stp at hs ⊢
        rw [sf.1 2 (by omega) (by omega), sf.2 180 (by omega) (by omega) (by omega)]
        exact hs
      · unfold tly at ht ⊢
        intro v v1 v2
        rw [rd_same (sf.2 173 (by omega) (by omega) (by omega)), rd_same (sf.2 174 (by omega) (by omega) (by omega)), rd_same (sf.2 175 (by omega) (by omega) (by omega))]
        exact ht v v1 v2
    unfold wfI at hw
    unfold mX4_hostsThatPass_b22 mX4_hostsThatPass_b151
    refine ⟨fun c => by omega, fun _ => ⟨⟨by omega, by omega⟩, zri (by omega) (by omega), ?_⟩⟩
    by_cases c : t.1 < 23
    · rw [if_pos c] at hw
      obtain ⟨⟨w20, wx, wy⟩, hw⟩ := hw
      have e1 : cS1 t = [t.1 + 40, qv t.2.1, qv t.2.2] := by unfold cS1; rw [if_pos c]
      have l3 : (cS1 t).length = 3 := by rw [e1]; rfl
      have r0 : rd h 180 v5 = t.1 + 40 := by
        unfold rd
        rw [show v5.toNat = (cS P).length + 0 by omega]
        exact at_j 0 _ (by rw [e1]; rfl)
      have r1 : rd h 180 (v5 + 1) = qv t.2.1 := by
        unfold rd
        rw [show (v5 + 1).toNat = (cS P).length + 1 by omega]
        exact at_j 1 _ (by rw [e1]; rfl)
      have r2 : rd h 180 ((v5 + 1) + 1) = qv t.2.2 := by
        unfold rd
        rw [show ((v5 + 1) + 1).toNat = (cS P).length + 2 by omega]
        exact at_j 2 _ (by rw [e1]; rfl)
      rw [r0, r1, r2]
      refine ⟨fun _ => ⟨fun _ => ⟨fun _ => ⟨zri (by omega) (by omega), fun d => by omega, fun _ => ⟨⟨by omega, by omega⟩, zri (by omega) (by omega), ⟨by omega, by omega⟩, ?_⟩⟩, fun q => by omega⟩, fun q => by omega⟩, fun q => by omega⟩
      refine p4_compared hn ho ht hk ⟨w20, c⟩ wx wy hst fun z g hz sg kg fg => p4_push sg hz (by omega) kg fun u su ku fu' => ⟨zri (by omega) (by omega), ?_⟩
      rw [show (v5 + 1) + 2 = ((cS (P ++ [t])).length : Int) by omega]
      refine next u (cmv r t :: st) (by rw [List.length_cons]; omega) (by rw [List.length_cons]; exact hw) ku su (frS_tr fg fu') (fun f' q => ?_)
      unfold evF evG
      rw [if_pos c]
      exact q
    · rw [if_neg c] at hw
      have e1 : cS1 t = [t.1 - 23] := by unfold cS1; rw [if_neg c]
      have l3 : (cS1 t).length = 1 := by rw [e1]; rfl
      have r0 : rd h 180 v5 = t.1 - 23 := by
        unfold rd
        rw [show v5.toNat = (cS P).length + 0 by omega]
        exact at_j 0 _ (by rw [e1]; rfl)
      rw [r0, show v5 + 1 = ((cS (P ++ [t])).length : Int) by omega]
      by_cases d : t.1 = 23
      · rw [if_pos d] at hw
        obtain ⟨a, s, rfl⟩ : ∃ a s, st = a :: s := by
          cases st with
          | nil => simp at hw
          | cons a s => exact ⟨a, s, rfl⟩
        rw [List.length_cons] at hw hl
        refine ⟨fun q => by omega, fun _ => p4_pop hst (by omega) hk fun z g hz sg kg fg => p4_push (f := ntF a) sg (by rw [hv3]; exact is_not h40 hz) (by omega) kg fun u su ku fu' => next u (ntF a :: s) (by rw [List.length_cons]; omega) (by rw [List.length_cons]; exact hw.2) ku su (frS_tr fg fu') (fun f' q => ?_)⟩
        unfold evF evG
        rw [if_neg c, if_pos d]
        exact q
      · rw [if_neg d] at hw
        obtain ⟨a, e, s, rfl⟩ : ∃ a e s, st = a :: e :: s := by
          cases st with
          | nil => simp at hw
          | cons a s =>
            cases s with
            | nil => simp at hw
            | cons e s => exact ⟨a, e, s, rfl⟩
        rw [List.length_cons, List.length_cons] at hw hl
        obtain ⟨hw1, hw2, hw3⟩ := hw
        by_cases q : t.1 = 24
        · refine ⟨fun _ => ⟨fun j => by omega, fun _ => p4_pop hst (by rw [List.length_cons]; omega) hk fun z g hz sg kg fg => p4_pop sg (by omega) kg fun w g' hw' sg' kg' fg' => p4_push (f := anF a e) sg' (is_and h40 hz hw') (by omega) kg' fun u su ku fu' => next u (anF a e :: s) (by rw [List.length_cons]; omega) (by rw [List.length_cons]; exact hw3) ku su (frS_tr fg (frS_tr fg' fu')) (fun f' j => ?_)⟩, fun j => by omega⟩
          unfold evF evG
          rw [if_neg c, if_neg d]
          show evG (cmv r) ntF anF orF T ((if t.1 = 24 then anF a e else orF a e) :: s) = [f']
          rw [if_pos q]
          exact j
        · refine ⟨fun _ => ⟨fun _ => ⟨fun j => by omega, fun _ => p4_pop hst (by rw [List.length_cons]; omega) hk fun z g hz sg kg fg => p4_pop sg (by omega) kg fun w g' hw' sg' kg' fg' => p4_push (f := orF a e) sg' (is_or h40 hz hw') (by omega) kg' fun u su ku fu' => next u (orF a e :: s) (by rw [List.length_cons]; omega) (by rw [List.length_cons]; exact hw3) ku su (frS_tr fg (frS_tr fg' fu')) (fun f' j => ?_)⟩, fun j => by omega⟩, fun j => by omega⟩
          unfold evF evG
          rw [if_neg c, if_neg d]
          show evG (cmv r) ntF anF orF T ((if t.1 = 24 then anF a e else orF a e) :: s) = [f']
          rw [if_neg q]
          exact j
theorem p4_hosts {Q : Int → Hp → Prop} {h : Hp} {L : List It} (ho : okS r) (hn : nets h 0 r) (ht : tly h r) (hs : stp h (cS L)) (hl : (cS L).length ≤ 200) (hw : wfI L 0) (hQ : ∀ z f h', isS (r 0) z f → evF r L [] = [f] → frS h h' → Q z h') : mX4_hostsThatPass 0 h Q := by
  have o1 := ho.1.1
  unfold okR at o1
  have e0 : h 0 0 = r 0 := hn.1.1
  have e1 := zl_one (m := r 0) o1.1
  have hp := two_lt (m := r 0) o1.1
  unfold mX4_hostsThatPass
  rw [e0]
  refine ⟨by rw [e1]; unfold zr6; omega, fun a ea c ec => ⟨L.length + 1, ?_⟩⟩
  have cf : ∀ p, p ≠ 179 → c p = h p := fun p hp => by rw [ec, hu_q hp, ea, hu_q hp]
  have ck : ∀ k, k ≠ 6 → k ≠ 8 → c 179 k = h 179 k := fun k k1 k2 => by rw [ec, hu_ne (by omega), ea, hu_ne (by omega)]
  refine p4_steps (P := []) (st := []) ho rfl L c 0 _ rfl (by decide) hl hw (by omega) ?_ (nets_frame hn (fun p p1 p2 => cf p (by omega))) ?_ (Or.inl (by rw [ec]; exact hu_same)) ⟨?_, fun i f hi => by simp at hi⟩ ⟨ck, fun p p1 _ _ => cf p p1⟩ hQ
  · show stp c (cS L)
    unfold stp at hs ⊢
    rw [ck 2 (by omega) (by omega), cf 180 (by omega)]
    exact hs
  · unfold tly at ht ⊢
    intro v v1 v2
    rw [rd_same (cf 173 (by omega)), rd_same (cf 174 (by omega)), rd_same (cf 175 (by omega))]
    exact ht v v1 v2
  · rw [ec, hu_ne (by omega), ea]; exact hu_same
theorem p7_smallestOf {z : Int} {f : SetF} {h : Hp} {Q : Int → Prop} {m : Int} (hm : 0 ≤ m ∧ m ≤ 40) (hz : isS m z f) (hQ : Q (fs f 0 m)) : mX7_smallestOf z h Q := by
  obtain ⟨N, rfl, n1, n2⟩ := hz
  have hp := two_lt hm
  unfold mX7_smallestOf
  have bit : ∀ i : Int, 0 ≤ i → i < 40 → (zlcmp (zland (zlushr (N : Int) i) 1) 1 = 0 ↔ (i < m ∧ f i = true)) := fun i i0 i1 => by
    rw [zlushr_n ⟨by omega, by omega⟩ ⟨i0, by omega⟩]
    have hle : N / 2 ^ i.toNat ≤ N := Nat.div_le_self _ _
    rw [show ((N : Int).toNat) = N from rfl]
    have e : zland ((N / 2 ^ i.toNat : Nat) : Int) 1 = ((N / 2 ^ i.toNat % 2 : Nat) : Int) := by
      rw [show (1 : Int) = ((1 : Nat) : Int) from rfl, zland_n (by omega) (by decide), Nat.and_one_is_mod]
    rw [e]
    have tb : N.testBit i.toNat = decide (N / 2 ^ i.toNat % 2 = 1) := Nat.testBit_eq_decide_div_mod_eq
    have ci : ((i.toNat : Nat) : Int) = i := by omega
    have key : N.testBit i.toNat = true ↔ (i < m ∧ f i = true) := by
      by_cases c : i < m
      · rw [n2 i.toNat (by omega), ci]
        exact ⟨fun q => ⟨c, q⟩, fun q => q.2⟩
      · have : N.testBit i.toNat = false := Nat.testBit_lt_two_pow (Nat.lt_of_lt_of_le n1 (Nat.pow_le_pow_right (by omega) (by omega)))
        rw [this]
        exact ⟨fun q => absurd q (by decide), fun q => absurd q.1 c⟩
    rw [← key, tb, decide_eq_true_eq]
    unfold zlcmp
    split
    · exact ⟨fun q => by omega, fun q => by omega⟩
    · split
      · exact ⟨fun _ => by omega, fun _ => rfl⟩
      · exact ⟨fun q => by omega, fun q => by omega⟩
  obtain ⟨k, hk⟩ := forU (fun k i => Q (fs f i m) → mX7_smallestOf_b2 h Q k (N : Int) i) 0 40 (by omega) (fun k hq => by
      unfold mX7_smallestOf_b2
      rw [fs_end (by omega)] at hq
      exact ⟨fun _ => hq, fun w => absurd (Int.le_refl _) w⟩) (fun k i i1 i2 ih hq => by
      unfold mX7_smallestOf_b2
      refine ⟨fun w => by omega, fun _ => ⟨fun c => ⟨zri (by omega) (by omega), ih ?_⟩, fun c => ?_⟩⟩
      · rw [bit i i1 i2] at c
        by_cases d : i < m
        · rw [fs_skip d (by cases hf : f i with | false => rfl | true => exact absurd ⟨d, hf⟩ c)] at hq; exact hq
        · rw [fs_end (by omega)] at hq
          rw [fs_end (by omega)]; exact hq
      · have := (bit i i1 i2).mp c
        rw [fs_hit this.1 this.2] at hq
        exact hq)
  exact ⟨k, hk hQ⟩
theorem cn_shift {p : Int → Bool} : ∀ (k : Nat) (a : Int), cn p (a + 1) (a + 1 + k) = cn (fun i => p (i + 1)) a (a + k) := by
  intro k
  induction k with
  | zero => intro a; rw [cn_end (by omega), cn_end (by omega)]
  | succ k ih =>
    intro a
    rw [cn_step (by omega), cn_step (a := a) (by omega)]
    have := ih (a + 1)
    rw [show a + 1 + ((k + 1 : Nat) : Int) = a + 1 + 1 + (k : Int) by omega, this, show a + ((k + 1 : Nat) : Int) = a + 1 + (k : Int) by omega]
theorem bc_cn : ∀ (m N : Nat) (f : SetF), (∀ i : Nat, i < m → N.testBit i = f i) → ((bc m N : Nat) : Int) = cn f 0 m := by
  intro m
  induction m with
  | zero => intro N f _; rw [cn_end (by omega)]; rfl
  | succ m ih =>
    intro N f h
    rw [cn_step (by omega)]
    have e := cn_shift (p := f) m 0
    have i2 := ih (N / 2) (fun i => f (i + 1)) (fun i hi => by
      rw [← Nat.testBit_succ]
      exact h (i + 1) (by omega))
    rw [show (0 : Int) + 1 + (m : Int) = ((m + 1 : Nat) : Int) by omega, show (0 : Int) + (m : Int) = m by omega] at e
    rw [e, ← i2]
    have h0 := h 0 (by omega)
    have tb : N.testBit 0 = decide (N % 2 = 1) := Nat.testBit_zero N
    show ((N % 2 + bc m (N / 2) : Nat) : Int) = _
    have h0' : f 0 = decide (N % 2 = 1) := by rw [← tb]; exact h0.symm
    rw [h0']
    by_cases q : N % 2 = 1
    · rw [decide_eq_true q, if_pos rfl]; omega
    · rw [decide_eq_false q, if_neg (by decide)]; omega
theorem bc_0 : ∀ m : Nat, bc m 0 = 0 := by
  intro m
  induction m with
  | zero => rfl
  | succ m ih => show 0 % 2 + bc m (0 / 2) = 0; rw [Nat.zero_div, ih]
theorem bc_top : ∀ (k j N : Nat), N < 2 ^ k → bc (k + j) N = bc k N := by
  intro k
  induction k with
  | zero =>
    intro j N h
    have : N = 0 := by simpa using h
    rw [this, bc_0, bc_0]
  | succ k ih =>
    intro j N h
    rw [show k + 1 + j = k + j + 1 by omega]
    show N % 2 + bc (k + j) (N / 2) = N % 2 + bc k (N / 2)
    rw [ih j (N / 2) (by rw [Nat.pow_succ] at h; omega)]
theorem p7_bits {z : Int} {f : SetF} {h : Hp} {Q : Int → Prop} {m : Int} (hm : 0 ≤ m ∧ m ≤ 40) (hz : isS m z f) (hQ : Q (cn f 0 m)) : mJ13_bitCount_95d88 z h Q := by
  obtain ⟨N, rfl, n1, n2⟩ := hz
  have hp := two_lt hm
  refine p13_count (by omega) ?_
  have e := bc_top m.toNat (64 - m.toNat) N n1
  rw [show m.toNat + (64 - m.toNat) = 64 by omega] at e
  rw [e, bc_cn m.toNat N f n2, show ((m.toNat : Nat) : Int) = m by omega]
  exact hQ
end PAS
