/-! what a query says of a host; the class's sets -/
def hcl (r : Rw) (l : Int) : Bool := clash r (fl r l 1) || (decide (0 < kept r l) && clash r (kept r l))
def vl (r : Rw) (l x : Int) : Int := if 100 ≤ x then x - 100 else if x = 0 then l else if x = 1 then fl r l 0 else if x = 2 then fl r l 1 else if x = 3 then kept r l else if x = 4 then fl r l 2 else if x = 5 then fl r l 3 else if x = 6 then fl r l 4 else if x = 7 then b2i (hcl r l) else rcm r l
def cmv (r : Rw) (t : It) (l : Int) : Bool := if t.1 = 20 then decide (vl r l t.2.1 < vl r l t.2.2) else if t.1 = 21 then decide (vl r l t.2.1 = vl r l t.2.2) else decide (vl r l t.2.2 < vl r l t.2.1)
def evG {α : Type} (cm : It → α) (nt : α → α) (an orr : α → α → α) : List It → List α → List α
  | [], st => st
  | t :: T, st => if t.1 < 23 then evG cm nt an orr T (cm t :: st) else if t.1 = 23 then (match st with | a :: s => evG cm nt an orr T (nt a :: s) | [] => []) else (match st with | a :: c :: s => evG cm nt an orr T ((if t.1 = 24 then an a c else orr a c) :: s) | _ => [])
abbrev SetF : Type := Int → Bool
def ntF (f : SetF) : SetF := fun l => !f l
def anF (f g : SetF) : SetF := fun l => f l && g l
def orF (f g : SetF) : SetF := fun l => f l || g l
def evF (r : Rw) : List It → List SetF → List SetF := evG (cmv r) ntF anF orF
def evB (r : Rw) (l : Int) : List It → List Bool → List Bool := evG (fun t => cmv r t l) not and or
theorem ev_hom {r : Rw} {l : Int} : ∀ (T : List It) (st : List SetF), (evF r T st).map (fun f => f l) = evB r l T (st.map (fun f => f l)) := by
  intro T
  induction T with
  | nil => intro st; rfl
  | cons t T ih =>
    intro st
    unfold evF evB evG
    by_cases c : t.1 < 23
    · rw [if_pos c, if_pos c]
      exact ih _
    · rw [if_neg c, if_neg c]
      by_cases d : t.1 = 23
      · rw [if_pos d, if_pos d]
        cases st with
        | nil => rfl
        | cons a s => exact ih _
      · rw [if_neg d, if_neg d]
        cases st with
        | nil => rfl
        | cons a s =>
          cases s with
          | nil => rfl
          | cons e s =>
            by_cases q : t.1 = 24
            · simp only [if_pos q]
              exact ih _
            · simp only [if_neg q]
              exact ih _
/-- a long as a set of hosts -/
def isS (m z : Int) (f : SetF) : Prop := ∃ N : Nat, z = (N : Int) ∧ N < 2 ^ m.toNat ∧ ∀ i : Nat, i < m.toNat → N.testBit i = f i
def stS (h : Hp) (m : Int) (st : List SetF) : Prop := h 179 6 = (st.length : Int) ∧ ∀ (i : Nat) (f : SetF), st.reverse[i]? = some f → isS m (h 181 i) f
def frS (h h' : Hp) : Prop := (∀ k, k ≠ 6 → k ≠ 8 → h' 179 k = h 179 k) ∧ ∀ p, p ≠ 179 → p ≠ 181 → p ≠ 182 → h' p = h p
theorem frS_tr {h a c : Hp} (x : frS h a) (y : frS a c) : frS h c := ⟨fun k k1 k2 => (y.1 k k1 k2).trans (x.1 k k1 k2), fun p p1 p2 p3 => (y.2 p p1 p2 p3).trans (x.2 p p1 p2 p3)⟩
theorem frS_rfl {h : Hp} : frS h h := ⟨fun _ _ _ => rfl, fun _ _ _ _ => rfl⟩
theorem two_lt {m : Int} (h : 0 ≤ m ∧ m ≤ 40) : 2 ^ m.toNat ≤ 1099511627776 := by
  have : (1099511627776 : Nat) = 2 ^ 40 := by decide
  rw [this]
  exact Nat.pow_le_pow_right (by omega) (by omega)
/-- what is known of what hosts reach -/
def knR (h : Hp) (r : Rw) : Prop := h 179 8 = 0 ∨ ∀ l, 0 ≤ l → l < r 0 → rd h 182 l = rcm r l
section SET
variable {r : Rw}
theorem p4_push {x m : Int} {f : SetF} {st : List SetF} {h : Hp} {Q : Hp → Prop} (hs : stS h m st) (hx : isS m x f) (hl : st.length < 203) (hk : knR h r) (hQ : ∀ h', stS h' m (f :: st) → knR h' r → frS h h' → Q h') : mX4_push x h Q := by
  obtain ⟨s1, s2⟩ := hs
  unfold mX4_push
  refine ⟨fun c => by omega, fun c => ⟨⟨by omega, by omega⟩, fun a ea => ?_⟩⟩
  have a6 : a 179 6 = h 179 6 := by rw [ea, wr_np (by omega)]
  refine ⟨zri (by omega) (by omega), fun d ed => hQ d ⟨?_, fun i g hg => ?_⟩ ?_ ⟨fun k k1 k2 => ?_, fun p p1 p2 _ => ?_⟩⟩
  · rw [ed, hu_same, a6, s1, List.length_cons]; omega
  · rw [ed, hu_np (by omega), ea]
    rw [List.reverse_cons] at hg
    by_cases hi : i < st.reverse.length
    · rw [List.getElem?_append_left hi] at hg
      unfold wr
      rw [List.length_reverse] at hi
      rw [hu_ne (by omega)]
      exact s2 i g hg
    · rw [List.getElem?_append_right (by omega)] at hg
      have hi2 : i = st.length := by
        by_cases q : i - st.reverse.length = 0
        · rw [List.length_reverse] at q hi; omega
        · obtain ⟨j, hj⟩ : ∃ j, i - st.reverse.length = j + 1 := ⟨i - st.reverse.length - 1, by omega⟩
          rw [hj] at hg
          simp at hg
      have : i - st.reverse.length = 0 := by rw [List.length_reverse]; omega
      rw [this] at hg
      have hg' : f = g := by simpa using hg
      unfold wr
      rw [show i = (h 179 6).toNat by omega, hu_same, ← hg']
      exact hx
  · rcases hk with q | q
    · left; rw [ed, hu_ne (by omega), ea, wr_np (by omega)]; exact q
    · right; intro l l1 l2
      rw [rd_same (show d 182 = h 182 by rw [ed, hu_q (by omega), ea, wr_q (by omega)])]
      exact q l l1 l2
  · rw [ed, hu_ne (by omega), ea, wr_np (by omega)]
  · rw [ed, hu_q p1, ea, wr_q p2]
theorem p4_pop {m : Int} {f : SetF} {st : List SetF} {h : Hp} {Q : Int → Hp → Prop} (hs : stS h m (f :: st)) (hl : st.length < 203) (hk : knR h r) (hQ : ∀ z h', isS m z f → stS h' m st → knR h' r → frS h h' → Q z h') : mX4_pop h Q := by
  obtain ⟨s1, s2⟩ := hs
  rw [List.length_cons] at s1
  unfold mX4_pop
  refine ⟨fun _ => ⟨zri (by omega) (by omega), fun a ea => ?_⟩, fun c => by omega⟩
  have a6 : a 179 6 = (st.length : Int) := by rw [ea, hu_same]; omega
  have a1 : a 181 = h 181 := by rw [ea, hu_q (by omega)]
  rw [a6]
  refine ⟨⟨by omega, by omega⟩, hQ _ a ?_ ⟨a6, fun i g hg => ?_⟩ ?_ ⟨fun k k1 k2 => ?_, fun p p1 p2 _ => ?_⟩⟩
  · unfold rd
    rw [a1]
    refine s2 st.length f ?_
    rw [List.reverse_cons, List.getElem?_append_right (by rw [List.length_reverse]; exact Nat.le_refl _), List.length_reverse, Nat.sub_self]
    rfl
  · rw [a1]
    refine s2 i g ?_
    have hi : i < st.reverse.length := by
      by_cases hi : i < st.reverse.length
      · exact hi
      · rw [List.getElem?_eq_none (by omega)] at hg; cases hg
    rw [List.reverse_cons, List.getElem?_append_left hi]
    exact hg
  · rcases hk with q | q
    · left; rw [ea, hu_ne (by omega)]; exact q
    · right; intro l l1 l2
      rw [rd_same (show a 182 = h 182 by rw [ea, hu_q (by omega)])]
      exact q l l1 l2
  · rw [ea, hu_ne (by omega)]
  · rw [ea, hu_q p1]
theorem p4_valueFor {l x : Int} {h : Hp} {Q : Int → Prop} (hn : nets h 0 r) (ho : okS r) (ht : tly h r) (hx : okv x) (h8 : x = 8 → rd h 182 l = rcm r l) (hl : 0 ≤ l ∧ l < r 0) (hQ : Q (vl r l x)) : mX4_valueFor l (qv x) 0 h Q := by
  have o1 := ho.1.1
  unfold okR at o1
  obtain ⟨f1, f2, f3, f4, f5, f6, f7, f8⟩ := hn.2.1 l hl.1 hl.2
  have oH := ho.1.2.2.2.2.1 l hl.1 hl.2
  have kr := kept_r oH (r 2)
  unfold okv at hx
  unfold qv
  unfold vl at hQ
  have i40 : 0 ≤ l ∧ l < 40 := ⟨hl.1, by omega⟩
  unfold mX4_valueFor
  by_cases c : x < 100
  · rw [if_pos c]
    rw [if_neg (by omega)] at hQ
    refine ⟨fun q => ⟨i40, ?_⟩, fun q => ⟨i40, ?_⟩, fun q => ⟨i40, ?_⟩, fun q => ⟨i40, ?_⟩, fun q => ⟨i40, ?_⟩, fun q => ?_, fun q => ⟨i40, ?_⟩, fun q => ⟨i40, ?_⟩, fun q => ?_, fun q => by omega⟩
    · rw [h8 (by omega)]
      rw [if_neg (by omega), if_neg (by omega), if_neg (by omega), if_neg (by omega), if_neg (by omega), if_neg (by omega), if_neg (by omega), if_neg (by omega)] at hQ
      exact hQ
    · rw [if_neg (by omega), if_neg (by omega), if_neg (by omega), if_neg (by omega), if_neg (by omega), if_neg (by omega), if_neg (by omega), if_pos (by omega)] at hQ
      rw [show rd h (0 + 3) l = fl r l 1 from f3]
      unfold hcl at hQ
      refine p5_isClash1 ht oH.2.1 ⟨fun d => ?_, fun d => p3_keptBy hn ho.1 hl (p5_isClash ht ⟨fun e => ?_, fun e => ?_⟩)⟩
      · rw [b2i1.mp d, Bool.true_or] at hQ; exact hQ
      · rw [b2i0.mp d, Bool.false_or] at hQ
        have e' := b2i0.mp e
        have : (decide (0 < kept r l) && clash r (kept r l)) = false := by
          rw [← e']
          by_cases k0 : 0 < kept r l
          · rw [decide_eq_true k0, decide_eq_true (show 1 ≤ kept r l by omega), decide_eq_true (show kept r l ≤ 250 from kr.2)]; rfl
          · rw [decide_eq_false k0, decide_eq_false (show ¬ 1 ≤ kept r l by omega)]; rfl
        rw [this] at hQ
        exact hQ
      · rw [b2i0.mp d, Bool.false_or] at hQ
        have e' := b2i1.mp e
        rw [Bool.and_eq_true, Bool.and_eq_true, decide_eq_true_eq, decide_eq_true_eq] at e'
        rw [decide_eq_true (show 0 < kept r l by omega), e'.2.2] at hQ
        exact hQ
    · rw [if_neg (by omega), if_neg (by omega), if_neg (by omega), if_neg (by omega), if_neg (by omega), if_neg (by omega), if_pos (by omega)] at hQ
      rw [show rd h (0 + 6) l = fl r l 4 from f6]; exact hQ
    · rw [if_neg (by omega), if_neg (by omega), if_neg (by omega), if_neg (by omega), if_neg (by omega), if_pos (by omega)] at hQ
      rw [show rd h (0 + 5) l = fl r l 3 from f5]; exact hQ
    · rw [if_neg (by omega), if_neg (by omega), if_neg (by omega), if_neg (by omega), if_pos (by omega)] at hQ
      rw [show rd h (0 + 4) l = fl r l 2 from f4]; exact hQ
    · rw [if_neg (by omega), if_neg (by omega), if_neg (by omega), if_pos (by omega)] at hQ
      exact p3_keptBy hn ho.1 hl hQ
    · rw [if_neg (by omega), if_neg (by omega), if_pos (by omega)] at hQ
      rw [show rd h (0 + 3) l = fl r l 1 from f3]; exact hQ
    · rw [if_neg (by omega), if_pos (by omega)] at hQ
      rw [show rd h (0 + 2) l = fl r l 0 from f2]; exact hQ
    · rw [if_pos (by omega)] at hQ; exact hQ
  · rw [if_neg c]
    rw [if_pos (by omega)] at hQ
    exact ⟨fun q => by omega, fun q => by omega, fun q => by omega, fun q => by omega, fun q => by omega, fun q => by omega, fun q => by omega, fun q => by omega, fun q => by omega, fun _ => hQ⟩
theorem p4_findReaches {h : Hp} {Q : Hp → Prop} (hn : nets h 0 r) (ho : okS r) (hk : knR h r) (hQ : ∀ h', (∀ l, 0 ≤ l → l < r 0 → rd h' 182 l = rcm r l) → knR h' r → h' 179 6 = h 179 6 → frS h h' → h' 181 = h 181 → Q h') : mX4_findReaches 0 h Q := by
  have o1 := ho.1.1
  unfold okR at o1
  unfold mX4_findReaches
  refine ⟨fun c => ?_, fun c => ?_⟩
  · have e0 : ∀ g : Hp, (∀ p, p ≠ 182 → g p = h p) → g 0 0 = r 0 := fun g fg => by rw [fg 0 (by omega)]; exact hn.1.1
    obtain ⟨f, hf⟩ := forU (fun f i => ∀ g : Hp, (∀ p, p ≠ 182 → g p = h p) → (∀ l, 0 ≤ l → l < i → rd g 182 l = rcm r l) → mX4_findReaches_b10 0 Q f i g) 0 (r 0) o1.1.1 (fun f g fg vg => by
        unfold mX4_findReaches_b10
        rw [e0 g fg]
        refine ⟨fun _ => fun a ea => ?_, fun w => absurd (Int.le_refl _) w⟩
        have a2 : ∀ l, 0 ≤ l → l < r 0 → rd a 182 l = rcm r l := fun l l1 l2 => by
          rw [rd_same (show a 182 = g 182 by rw [ea, hu_q (by omega)])]
          exact vg l l1 l2
        refine hQ a a2 (Or.inr a2) ?_ ⟨fun k k1 k2 => ?_, fun p p1 p2 p3 => ?_⟩ ?_
        · rw [ea, hu_ne (by omega), fg 179 (by omega)]
        · rw [ea, hu_ne (by omega), fg 179 (by omega)]
        · rw [ea, hu_q p1, fg p p3]
        · rw [ea, hu_q (by omega), fg 181 (by omega)]) (fun f i i1 i2 ih g fg vg => by
        unfold mX4_findReaches_b10
        rw [e0 g fg]
        refine ⟨fun w => by omega, fun _ => p3_reachOf (nets_frame hn (fun p p1 p2 => fg p (by omega))) ho.1 ⟨i1, i2⟩ ⟨⟨i1, by omega⟩, fun a ea => ⟨zri (by omega) (by omega), ih a (fun p hp => by rw [ea, wr_q hp]; exact fg p hp) (fun l l1 l2 => ?_)⟩⟩⟩
        rw [ea, rd_wr]
        by_cases q : l = i
        · rw [q, up_same]
          exact rch_rcm ho ⟨i1, i2⟩
        · rw [up_ne i1 l1 q]
          exact vg l l1 (by omega))
    exact ⟨f, hf h (fun _ _ => rfl) (fun l l1 l2 => by omega)⟩
  · rcases hk with q | q
    · exact absurd q c
    · exact hQ h q (Or.inr q) rfl frS_rfl rfl
theorem p4_compared {t : It} {h : Hp} {Q : Int → Hp → Prop} {st : List SetF} (hn : nets h 0 r) (ho : okS r) (ht : tly h r) (hk : knR h r) (h20 : 20 ≤ t.1 ∧ t.1 < 23) (hx : okv t.2.1) (hy : okv t.2.2) (hs : stS h (r 0) st) (hQ : ∀ z h', isS (r 0) z (cmv r t) → stS h' (r 0) st → knR h' r → frS h h' → Q z h') : mX4_compared (t.1 + 40) (qv t.2.1) (qv t.2.2) 0 h Q := by
  have o1 := ho.1.1
  unfold okR at o1
  have loop : ∀ g : Hp, (∀ l, 0 ≤ l → l < r 0 → (t.2.1 = 8 ∨ t.2.2 = 8) → rd g 182 l = rcm r l) → nets g 0 r → tly g r → stS g (r 0) st → knR g r → frS h g → mX4_compared_b18 0 Q (t.1 + 40) (qv t.2.1) (qv t.2.2) g := fun g hr ng tg sg kg fg => by
    have e0 : g 0 0 = r 0 := ng.1.1
    unfold mX4_compared_b18
    obtain ⟨f, hf⟩ := forU (fun f i => ∀ N : Nat, N < 2 ^ i.toNat → (∀ j : Nat, j < i.toNat → N.testBit j = cmv r t j) → mX4_compared_b24 0 Q f (t.1 + 40) (qv t.2.1) (qv t.2.2) (N : Int) i g) 0 (r 0) o1.1.1 (fun f N hN hb => by
        unfold mX4_compared_b24
        rw [e0]
        exact ⟨fun _ => hQ _ g ⟨N, rfl, hN, hb⟩ sg kg fg, fun w => absurd (Int.le_refl _) w⟩) (fun f i i1 i2 ih N hN hb => by
        unfold mX4_compared_b24
        rw [e0]
        have hp : 2 ^ i.toNat ≤ 1099511627776 := two_lt ⟨i1, by omega⟩
        have ei : (i + 1).toNat = i.toNat + 1 := by omega
        have ci : ((i.toNat : Nat) : Int) = i := by omega
        have no : cmv r t i = false → mX4_compared_b108 0 Q (mX4_compared_b24 0 Q f) (t.1 + 40) (qv t.2.1) (qv t.2.2) (N : Int) i g := fun hc => by
          unfold mX4_compared_b108
          refine ⟨zri (by omega) (by omega), ih N (by rw [ei, Nat.pow_succ]; omega) (fun j hj => ?_)⟩
          by_cases q : j = i.toNat
          · rw [q, Nat.testBit_lt_two_pow hN, ci, hc]
          · exact hb j (by omega)
        have yes : cmv r t i = true → mX4_compared_b99 0 Q (mX4_compared_b24 0 Q f) (t.1 + 40) (qv t.2.1) (qv t.2.2) (N : Int) i g := fun hc => by
          unfold mX4_compared_b99 mX4_compared_b108
          have e1 : zlshl 1 i = ((2 ^ i.toNat : Nat) : Int) := by
            rw [zlshl_n (by decide) ⟨i1, by omega⟩ (by show 1 * 2 ^ i.toNat < _; omega)]
            show ((1 * 2 ^ i.toNat : Nat) : Int) = _
            rw [Nat.one_mul]
          rw [e1, zlor_n (by omega) (by omega)]
          refine ⟨zri (by omega) (by omega), ih _ (by rw [ei]; exact Nat.or_lt_two_pow (by rw [Nat.pow_succ]; omega) (by rw [Nat.pow_succ]; have := Nat.two_pow_pos i.toNat; omega)) (fun j hj => ?_)⟩
          rw [Nat.testBit_or, Nat.testBit_two_pow]
          by_cases q : j = i.toNat
          · rw [q, decide_eq_true rfl, Bool.or_true, ci, hc]
          · rw [decide_eq_false (by omega), Bool.or_false]
            exact hb j (by omega)
        refine ⟨fun w => by omega, fun _ => ?_⟩
        refine p4_valueFor ng ho tg hx (fun q => hr i i1 i2 (Or.inl q)) ⟨i1, i2⟩ ?_
        refine p4_valueFor ng ho tg hy (fun q => hr i i1 i2 (Or.inr q)) ⟨i1, i2⟩ ?_
        unfold cmv at no yes
        refine ⟨fun c => ⟨fun d => ⟨fun e => no ?_, fun e => yes ?_⟩, fun d => ⟨fun e => no ?_, fun e => yes ?_⟩⟩, fun c => ⟨fun e => no ?_, fun e => yes ?_⟩⟩
        · rw [if_neg (by omega), if_neg (by omega), decide_eq_false (by omega)]
        · rw [if_neg (by omega), if_neg (by omega), decide_eq_true (by omega)]
        · rw [if_neg (by omega), if_pos (by omega), decide_eq_false e]
        · rw [if_neg (by omega), if_pos (by omega), decide_eq_true e]
        · rw [if_pos (by omega), decide_eq_false (by omega)]
        · rw [if_pos (by omega), decide_eq_true (by omega)])
    exact ⟨f, hf 0 Nat.one_pos (fun j hj => by simp at hj)⟩
  have q8 : ∀ x, okv x → (qv x = -9 ↔ x = 8) := fun x hx => by
    unfold okv at hx
    unfold qv
    by_cases c : x < 100
    · rw [if_pos c]; omega
    · rw [if_neg c]; omega
  have go : mX4_compared_b12 0 Q (t.1 + 40) (qv t.2.1) (qv t.2.2) h := by
    unfold mX4_compared_b12
    refine p4_findReaches hn ho hk fun g vg kg g6 fg g1 => loop g (fun l l1 l2 _ => vg l l1 l2) (nets_frame hn (fun p p1 p2 => fg.2 p (by omega) (by omega) (by omega))) ?_ ?_ kg fg
    · unfold tly at ht ⊢
      intro v v1 v2
      rw [rd_same (fg.2 173 (by omega) (by omega) (by omega)), rd_same (fg.2 174 (by omega) (by omega) (by omega)), rd_same (fg.2 175 (by omega) (by omega) (by omega))]
      exact ht v v1 v2
    · unfold stS
      rw [g6, g1]
      exact hs
  unfold mX4_compared
  refine ⟨fun _ => go, fun c => ⟨fun d => loop h (fun l _ _ q => ?_) hn ht hs hk frS_rfl, fun _ => go⟩⟩
  rcases q with q | q
  · exact absurd ((q8 _ hx).mpr q) c
  · exact absurd ((q8 _ hy).mpr q) d
end SET
