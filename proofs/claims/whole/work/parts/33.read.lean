/-! class and reference say the same: rules, what reaches what, free numbers, clashes by their place -/
theorem uniq2 {r : Rw} (ho : okS r) {i j o v : Int} (hv : 1 ≤ v ∧ v ≤ 250) (hi : 0 ≤ i ∧ i < r 0) (hj : 0 ≤ j ∧ j < r 0) (h1 : onet r i o = true) (h2 : onet r j o = true) (a : hds r i v = true) (b : hds r j v = true) : i = j := by
  have key : ∀ i j, 0 ≤ j → j < i → i < r 0 → onet r i o = true → onet r j o = true → hds r i v = true → hds r j v = true → False := by
    intro i j h1 h2 h3 h4 h5 h6 h7
    refine twice_no ho.2.1 hv h1 h2 h3 ?_ h6 h7
    unfold net onet at *
    simp only [Bool.or_eq_true, decide_eq_true_eq] at *
    omega
  rcases Int.lt_trichotomy i j with c | c | c
  · exact (key j i hi.1 c hj.2 h2 h1 b a).elim
  · exact c
  · exact (key i j hj.1 c hi.2 h1 h2 a b).elim
theorem hds_own {r : Rw} {i : Int} : hds r i (fl r i 1) = true := by unfold hds; simp
theorem hnet_is {r : Rw} (ho : okS r) {i o v : Int} (hv : 1 ≤ v ∧ v ≤ 250) (hi : 0 ≤ i ∧ i < r 0) (h1 : onet r i o = true) (a : hds r i v = true) : hnet r o v = i := by
  unfold hnet
  refine fs_is hi.1 hi.2 (by simp [h1, a]) fun x x1 x2 => ?_
  cases e : (onet r x o && hds r x v) with
  | false => rfl
  | true =>
    rw [Bool.and_eq_true] at e
    have := uniq2 ho hv ⟨x1, by omega⟩ hi e.1 h1 e.2 a
    omega
theorem tw_own {r : Rw} (ho : okS r) {i o : Int} (hi : 0 ≤ i ∧ i < r 0) (h1 : onet r i o = true) : tw r o (fl r i 1) = kept r i := by
  have hO := ho.1.2.2.2.2.1 i hi.1 hi.2
  unfold tw
  rw [hnet_is ho hO.2.1 hi h1 hds_own, if_neg (by omega), if_pos rfl]
theorem mt_mtm {r : Rw} (ho : okS r) {s v o : Int} (hv : 1 ≤ v ∧ v ≤ 250) (hs : 0 ≤ s) : mt s v (tw r o v) = mtm r s v o := by
  unfold mt mtm
  by_cases c0 : s = 0
  · rw [decide_eq_true c0, Bool.true_or, Bool.true_or]
  rw [decide_eq_false c0, Bool.false_or, Bool.false_or]
  by_cases c1 : s = v
  · rw [decide_eq_true c1, Bool.true_or, Bool.true_or]
  rw [decide_eq_false c1, Bool.false_or, Bool.false_or]
  rw [decide_eq_decide, fs_ne (Int.le_refl 0)]
  rcases fs_spec (fun i => onet r i o && hds r i v) 0 (r 0) with ⟨e, hh⟩ | ⟨e1, e2, e3, e4⟩
  · have : tw r o v = 0 := by unfold tw hnet; rw [if_pos e]
    rw [this]
    constructor
    · intro q; exact absurd q c0
    · rintro ⟨i, i1, i2, i3⟩
      simp only [Bool.and_eq_true] at i3
      have := hh i i1 i2
      simp only [i3.1, i3.2.2, Bool.and_self] at this
      cases this
  · rw [Bool.and_eq_true] at e3
    generalize hn : fs (fun i => onet r i o && hds r i v) 0 (r 0) = n at e1 e2 e3 e4
    have hk := kept_r (ho.1.2.2.2.2.1 n e1 e2) (r 2)
    have hd := e3.2
    unfold hds at hd
    rw [Bool.or_eq_true, decide_eq_true_eq, decide_eq_true_eq] at hd
    have ht : tw r o v = if fl r n 1 = v then kept r n else fl r n 1 := by
      unfold tw hnet
      rw [hn, if_neg (by omega)]
    rw [ht]
    constructor
    · intro q
      refine ⟨n, e1, e2, ?_⟩
      rw [Bool.and_eq_true, Bool.and_eq_true]
      refine ⟨e3.1, ?_, e3.2⟩
      unfold hds
      rw [Bool.or_eq_true, decide_eq_true_eq, decide_eq_true_eq]
      by_cases c : fl r n 1 = v
      · rw [if_pos c] at q; exact Or.inr q.symm
      · rw [if_neg c] at q; exact Or.inl q.symm
    · rintro ⟨i, i1, i2, i3⟩
      rw [Bool.and_eq_true, Bool.and_eq_true] at i3
      have hi := uniq2 ho hv ⟨i1, i2⟩ ⟨e1, e2⟩ i3.1 e3.1 i3.2.2 e3.2
      subst hi
      have h2 := i3.2.1
      unfold hds at h2
      rw [Bool.or_eq_true, decide_eq_true_eq, decide_eq_true_eq] at h2
      by_cases c : fl r i 1 = v
      · rw [if_pos c]; omega
      · rw [if_neg c]; omega
theorem dec_dcm {r : Rw} (ho : okS r) {o a b : Int} (ha : 1 ≤ a ∧ a ≤ 250) (hb : 1 ≤ b ∧ b ≤ 250) : dec r o a b = dcm r o a b := by
  unfold dec fru dcm
  refine fs_congr fun k k1 k2 => ?_
  have hU := ho.1.2.2.2.2.2 k k1 k2
  unfold okU at hU
  rw [mt_mtm ho ha (by omega), mt_mtm ho hb (by omega)]
theorem rch_rcm {r : Rw} (ho : okS r) {x : Int} (hx : 0 ≤ x ∧ x < r 0) : rch r x = rcm r x := by
  unfold rch rcm
  refine cn_congr 0 fun i i1 i2 => ?_
  have ns : net r i x = net r x i := by
    unfold net
    congr 1
    exact decide_eq_decide.mpr ⟨fun q => q.symm, fun q => q.symm⟩
  show (decide (¬ i = x) && (net r i x && _)) = (decide (¬ i = x) && (net r x i && _))
  rw [ns]
  cases hn : net r x i with
  | false => rw [Bool.false_and, Bool.false_and]
  | true =>
    have hX := ho.1.2.2.2.2.1 x hx.1 hx.2
    have hI := ho.1.2.2.2.2.1 i i1 i2
    have ox : onet r x (fl r x 0) = true := by unfold onet; simp
    have oi : onet r i (fl r x 0) = true := by
      unfold net at hn
      unfold onet
      simp only [Bool.or_eq_true, decide_eq_true_eq] at *
      omega
    have e : fru r (fl r x 0) (fl r x 1) (kept r x) (fl r i 1) (kept r i) = dcm r (fl r x 0) (fl r x 1) (fl r i 1) := by
      rw [← dec_dcm ho hX.2.1 hI.2.1]
      unfold dec
      rw [tw_own ho hx ox, tw_own ho ⟨i1, i2⟩ oi]
    rw [e]
theorem fre_5 {r : Rw} (ho : okW r) {v : Int} : fre5 r v = fre r v := by
  unfold fre5 fre hc pcn
  rw [Bool.eq_iff_iff]
  simp only [Bool.and_eq_true, decide_eq_true_eq]
  rw [fs_none (Int.le_refl 0)]
  have z : ∀ p : Int → Bool, cn p 0 (r 0) = 0 ↔ ∀ i, 0 ≤ i → i < r 0 → p i = false := fun p => by
    have h0 := (cn_r p (b := r 0) 0 ho.1.1.1).1
    have hp := cn_pos (p := p) (b := r 0) 0
    constructor
    · intro h i i1 i2
      cases e : p i with
      | false => rfl
      | true => have := hp.mpr ⟨i, i1, i2, e⟩; omega
    · intro h
      rcases Int.lt_or_eq_of_le h0 with c | c
      · obtain ⟨i, i1, i2, i3⟩ := hp.mp c
        rw [h i i1 i2] at i3; cases i3
      · exact c.symm
  rw [z, z, z]
  constructor
  · rintro ⟨h0, h1, h2⟩ i i1 i2
    have a0 := h0 i i1 i2
    have a1 := h1 i i1 i2
    have a2 := h2 i i1 i2
    rcases (ho.2.2.2.2.1 i i1 i2).1 with c | c
    · rw [decide_eq_true c, Bool.true_and] at a0
      rw [a0, a2]; rfl
    · rw [decide_eq_true c, Bool.true_and] at a1
      rw [a1, a2]; rfl
  · intro h
    refine ⟨fun i i1 i2 => ?_, fun i i1 i2 => ?_, fun i i1 i2 => ?_⟩
    · have := h i i1 i2
      rw [Bool.or_eq_false_iff] at this
      rw [this.1, Bool.and_false]
    · have := h i i1 i2
      rw [Bool.or_eq_false_iff] at this
      rw [this.1, Bool.and_false]
    · have := h i i1 i2
      rw [Bool.or_eq_false_iff] at this
      exact this.2
theorem ffr_5 {r : Rw} (ho : okW r) : fs (fre5 r) (r 5) (r 6 + 1) = ffr r := fs_congr fun v _ _ => fre_5 ho
theorem ffr_r {r : Rw} (ho : okW r) : ffr r = -1 ∨ (1 ≤ ffr r ∧ ffr r ≤ 250) := by
  have h := fs_r (p := fre r) (a := r 5) (b := r 6 + 1) (by have := ho.2.2.1; omega)
  have := ho.2.2.1
  unfold ffr
  omega
/-- the reference's refusal of a call -/
def noA (k : Int) (h : Hp) (M : (Int → Hp → Prop) → Prop) : Prop := M (fun b h2 => okA k b h2)
theorem c_reach {x : Int} {h : Hp} (hi : inv h) : mL_reach x h (fun k h1 => mX8_reach x h1 (fun b h2 => okA k b h2)) := by
  obtain ⟨⟨n, o⟩, -⟩ := id hi
  unfold mL_reach mX7_reach
  refine p7_needHost n.1.1 (fun hx => p3_reachOf n o.1 hx ⟨by omega, fun h4 e => ?_⟩) (fun hx => ⟨rfl, ?_⟩)
  · rw [e]
    unfold mX8_reach
    intro g eg
    rw [eg]
    refine p8_hostF (by rw [tR, oR]; exact o.1.1) t0 (by omega) (fun _ => ⟨fun _ => p8_reachOf (by rw [tR, oR]; exact o.1) (by rw [tR, oR]; exact hx) ?_, fun c => absurd rfl c⟩) (fun c => absurd (by rw [tR, oR]; exact hx) c)
    rw [tR, oR]
    exact okA_v hi (rch_rcm o hx)
  · unfold mX8_reach
    intro g eg
    rw [eg]
    exact p8_hostF (by rw [tR]; exact o.1.1) t0 (by omega) (fun c => absurd (by rw [tR] at c; exact c) hx) (fun _ => ⟨fun c => absurd c (by decide), fun _ => okA_x hi (by omega)⟩)
theorem c_holder {x y : Int} {h : Hp} (hi : inv h) : mL_holder x y h (fun k h1 => mX8_holder x y h1 (fun b h2 => okA k b h2)) := by
  obtain ⟨⟨n, o⟩, -⟩ := id hi
  unfold mL_holder mX7_holder
  refine p7_needOffice (fun hx => p7_needNumber (fun hy => p3_holderInOffice n o.1 ⟨by omega, fun h4 e => ?_⟩) (fun hy => Or.inr ⟨rfl, ?_⟩)) (fun hx => Or.inl ⟨rfl, ?_⟩)
  · rw [e]
    unfold mX8_holder mX8_isOffice mX8_isNumber
    intro g eg
    rw [eg]
    refine p8_inF t0 (by omega) (fun _ => ⟨fun c => absurd rfl c, fun _ => p8_inF t0 (by omega) (fun _ => ⟨fun _ => p8_holderOf (by rw [tR, oR]; exact o.1.1) ?_, fun c => absurd rfl c⟩) (fun c => absurd hy c)⟩) (fun c => absurd hx c)
    rw [tR, oR]
    exact okA_v hi rfl
  · unfold mX8_holder mX8_isOffice mX8_isNumber
    intro g eg
    rw [eg]
    exact p8_inF t0 (by omega) (fun _ => ⟨fun c => absurd rfl c, fun _ => p8_inF t0 (by omega) (fun c => absurd c hy) (fun _ => ⟨fun c => absurd c (by decide), fun _ => okA_x hi (by omega)⟩)⟩) (fun c => absurd hx c)
  · unfold mX8_holder mX8_isOffice
    intro g eg
    rw [eg]
    exact p8_inF t0 (by omega) (fun c => absurd c hx) (fun _ => ⟨fun _ => okA_x hi (by omega), fun c => absurd c (by decide)⟩)
theorem p8_andF {x y k : Int} {h : Hp} {Q : Int → Prop} {M : Prop} (a b c d : Int) (hy : a ≤ x ∧ x ≤ b → c ≤ y ∧ y ≤ d → Q 1) (hn : ¬ ((a ≤ x ∧ x ≤ b) ∧ c ≤ y ∧ y ≤ d) → Q 0) : mX8_in x a b h (fun z => (z = 0 → Q 0) ∧ (¬ z = 0 → mX8_in y c d h (fun w => (w = 0 → Q 0) ∧ (¬ w = 0 → Q 1)))) := by
  refine p8_in ⟨fun e => hn fun w => ?_, fun e => p8_in ⟨fun e2 => hn fun w => ?_, fun e2 => ?_⟩⟩
  · exact (of_decide_eq_false (b2i0.mp e)) w.1
  · exact (of_decide_eq_false (b2i0.mp e2)) w.2
  · exact hy (of_decide_eq_true (b2i1.mp e)) (of_decide_eq_true (b2i1.mp e2))
theorem c_decides {x y z : Int} {h : Hp} (hi : inv h) : mL_decides x y z h (fun k h1 => mX8_decides x y z h1 (fun b h2 => okA k b h2)) := by
  obtain ⟨⟨n, o⟩, -⟩ := id hi
  unfold mL_decides mX7_decides
  have bad : (0 ≤ x ∧ x ≤ 1) → ¬ ((1 ≤ y ∧ y ≤ 250) ∧ 1 ≤ z ∧ z ≤ 250) → mX8_decides x y z h (fun b h2 => okA 2 b h2) := by
    intro hx hyz
    unfold mX8_decides mX8_isOffice mX8_isNumber mX8_decides_b36
    intro g eg
    rw [eg]
    have go : mX8_decides_b37 (fun b h2 => okA 2 b h2) x y z 0 (hu h 185 0 0) := by
      unfold mX8_decides_b37
      exact p8_fails t0 (by omega) (fun c => absurd rfl c) (fun _ => ⟨fun c => absurd c (by decide), fun _ => okA_x hi (by omega)⟩)
    refine p8_inF t0 (by omega) (fun _ => ⟨fun c => absurd rfl c, fun _ => p8_in ⟨fun _ => go, fun e => p8_in ⟨fun _ => go, fun e2 => ?_⟩⟩⟩) (fun c => absurd hx c)
    exact absurd ⟨of_decide_eq_true (b2i1.mp e), of_decide_eq_true (b2i1.mp e2)⟩ hyz
  refine p7_needOffice (fun hx => p7_needNumber (fun hy => p7_needNumber (fun hz => p3_decidingRule n o.1 ⟨by omega, fun h4 e => ?_⟩) (fun hz => Or.inr ⟨rfl, bad hx (fun w => hz w.2)⟩)) (fun hy => Or.inr ⟨rfl, bad hx (fun w => hy w.1)⟩)) (fun hx => Or.inl ⟨rfl, ?_⟩)
  · rw [e]
    unfold mX8_decides mX8_isOffice mX8_isNumber
    intro g eg
    rw [eg]
    refine p8_inF t0 (by omega) (fun _ => ⟨fun c => absurd rfl c, fun _ => p8_in ?_⟩) (fun c => absurd hx c)
    rw [decide_eq_true hy]
    refine ⟨fun c => absurd c (by decide), fun _ => p8_in ?_⟩
    rw [decide_eq_true hz]
    refine ⟨fun c => absurd c (by decide), fun _ => ?_⟩
    unfold mX8_decides_b37
    refine p8_fails t0 (by omega) (fun _ => ⟨fun _ => p8_decidesOf (by rw [tR, oR]; exact o.1) ?_, fun c => absurd rfl c⟩) (fun c => absurd c (by decide))
    rw [tR, oR]
    exact okA_v hi (dec_dcm o hy hz)
  · unfold mX8_decides mX8_isOffice
    intro g eg
    rw [eg]
    exact p8_inF t0 (by omega) (fun c => absurd c hx) (fun _ => ⟨fun _ => okA_x hi (by omega), fun c => absurd c (by decide)⟩)
theorem c_allows {x y z : Int} {h : Hp} (hi : inv h) : mL_allows x y z h (fun k h1 => mX8_allows x y z h1 (fun b h2 => okA k b h2 ∧ (b = 0 ∨ b = 1))) := by
  obtain ⟨⟨n, o⟩, -⟩ := id hi
  unfold mL_allows mX7_allows
  have bad : (0 ≤ x ∧ x ≤ 1) → ¬ ((1 ≤ y ∧ y ≤ 250) ∧ 1 ≤ z ∧ z ≤ 250) → mX8_allows x y z h (fun b h2 => okA 2 b h2 ∧ (b = 0 ∨ b = 1)) := by
    intro hx hyz
    unfold mX8_allows mX8_isOffice mX8_isNumber mX8_allows_b36
    intro g eg
    rw [eg]
    have go : mX8_allows_b37 (fun b h2 => okA 2 b h2 ∧ (b = 0 ∨ b = 1)) x y z 0 (hu h 185 0 0) := by
      unfold mX8_allows_b37
      exact p8_fails t0 (by omega) (fun c => absurd rfl c) (fun _ => ⟨fun _ => ⟨okA_x hi (by omega), Or.inl rfl⟩, fun c => absurd c (by decide)⟩)
    refine p8_inF t0 (by omega) (fun _ => ⟨fun c => absurd rfl c, fun _ => p8_in ⟨fun _ => go, fun e => p8_in ⟨fun _ => go, fun e2 => ?_⟩⟩⟩) (fun c => absurd hx c)
    exact absurd ⟨of_decide_eq_true (b2i1.mp e), of_decide_eq_true (b2i1.mp e2)⟩ hyz
  have good : ∀ v, (0 ≤ x ∧ x ≤ 1) → (1 ≤ y ∧ y ≤ 250) → (1 ≤ z ∧ z ≤ 250) → v = b2i (alw (rd h 186) (dcm (rd h 186) x y z)) → mX8_allows x y z (wr h 197 0 v) (fun b h2 => okA 0 b h2 ∧ (b = 0 ∨ b = 1)) := by
    intro v hx hy hz hv
    unfold mX8_allows mX8_isOffice mX8_isNumber
    intro g eg
    rw [eg]
    refine p8_inF t0 (by omega) (fun _ => ⟨fun c => absurd rfl c, fun _ => p8_in ?_⟩) (fun c => absurd hx c)
    rw [decide_eq_true hy]
    refine ⟨fun c => absurd c (by decide), fun _ => p8_in ?_⟩
    rw [decide_eq_true hz]
    refine ⟨fun c => absurd c (by decide), fun _ => ?_⟩
    unfold mX8_allows_b37
    refine p8_fails t0 (by omega) (fun _ => ⟨fun c => absurd rfl c, fun _ => p8_allowsFor (by rw [tR, oR]; exact o.1) ?_⟩) (fun c => absurd c (by decide))
    rw [tR, oR, ← hv]
    refine ⟨fun c => ⟨okA_v hi c, Or.inl rfl⟩, fun c => ⟨okA_v hi ?_, Or.inr rfl⟩⟩
    rw [hv] at c ⊢
    rw [b2i1.mp c]
    rfl
  refine p7_needOffice (fun hx => p7_needNumber (fun hy => p7_needNumber (fun hz => p3_decidingRule n o.1 (p3_isAllowing n o.1 ?_)) (fun hz => Or.inr ⟨rfl, bad hx (fun w => hz w.2)⟩)) (fun hy => Or.inr ⟨rfl, bad hx (fun w => hy w.1)⟩)) (fun hx => Or.inl ⟨rfl, ?_⟩)
  · rw [dec_dcm o hy hz]
    unfold mL_allows_b18
    refine ⟨fun c => ⟨by omega, fun h4 e => ?_⟩, fun c => ⟨by omega, fun h4 e => ?_⟩⟩
    · rw [e]; exact good 0 hx hy hz c.symm
    · rw [e]; refine good 1 hx hy hz ?_
      rw [b2i1.mp c]; rfl
  · unfold mX8_allows mX8_isOffice
    intro g eg
    rw [eg]
    exact p8_inF t0 (by omega) (fun c => absurd c hx) (fun _ => ⟨fun _ => ⟨okA_x hi (by omega), Or.inl rfl⟩, fun c => absurd c (by decide)⟩)
theorem c_rule {x y : Int} {h : Hp} (hi : inv h) : mL_rule x y h (fun k h1 => mX8_rule x y h1 (fun b h2 => okA k b h2)) := by
  obtain ⟨⟨n, o⟩, -⟩ := id hi
  have o1 := o.1.1
  unfold okR at o1
  unfold mL_rule mX7_rule
  have bad : ¬ ((0 ≤ x ∧ x < rd h 186 1) ∧ 0 ≤ y ∧ y ≤ 3) → mX8_rule x y h (fun b h2 => okA 1 b h2) := by
    intro hb
    unfold mX8_rule mX8_rule_b30
    intro g eg
    rw [eg]
    have go : mX8_rule_b31 (fun b h2 => okA 1 b h2) x y 0 (hu h 185 0 0) := by
      unfold mX8_rule_b31
      exact p8_fails t0 (by omega) (fun c => absurd rfl c) (fun _ => ⟨fun c => absurd c (by decide), fun _ => okA_x hi (by omega)⟩)
    refine p8_isRule (by rw [tR]; exact o.1.1) ⟨fun _ => go, fun c => p8_in ⟨fun _ => go, fun d => ?_⟩⟩
    have c' := of_decide_eq_true (b2i1.mp c)
    have d' := of_decide_eq_true (b2i1.mp d)
    rw [tR] at c'
    exact absurd ⟨c', d'⟩ hb
  have good : ∀ z, (0 ≤ x ∧ x < rd h 186 1) → (0 ≤ y ∧ y ≤ 3) → z = rl (rd h 186) x y → mX8_rule x y (wr h 197 0 z) (fun b h2 => okA 0 b h2) := by
    intro z hx hy hz
    unfold mX8_rule mX8_rule_b30
    intro g eg
    rw [eg]
    have hr : rd (hu (wr h 197 0 z) 185 0 0) 186 = rd h 186 := by rw [tR, oR]
    refine p8_isRule (by rw [hr]; exact o.1.1) ?_
    rw [hr, decide_eq_true hx]
    refine ⟨fun c => absurd c (by decide), fun _ => p8_in ?_⟩
    rw [decide_eq_true hy]
    refine ⟨fun c => absurd c (by decide), fun _ => ?_⟩
    unfold mX8_rule_b31
    refine p8_fails t0 (by omega) (fun _ => ⟨fun _ => p8_ruleCell ⟨by omega, by omega⟩ (by omega) ⟨⟨by omega, by omega⟩, okA_v hi ?_⟩, fun c => absurd rfl c⟩) (fun c => absurd c (by decide))
    rw [hr, hz]
    rfl
  refine p7_needRule n.1.2.1 (fun hx => ?_) (fun hx => ⟨rfl, bad (fun w => hx w.1)⟩)
  obtain ⟨e1, e2, e3, e4⟩ := n.2.2 x hx.1 hx.2
  have hx4 : 0 ≤ x ∧ x < 30 := by omega
  refine ⟨fun c => ⟨hx4, ⟨by omega, fun h4 e => ?_⟩⟩, fun c => ⟨hx4, ⟨by omega, fun h4 e => ?_⟩⟩, fun c => ⟨hx4, ⟨by omega, fun h4 e => ?_⟩⟩, fun c => ⟨hx4, ⟨by omega, fun h4 e => ?_⟩⟩, fun c => ⟨rfl, bad (fun w => by omega)⟩⟩
  · rw [e]; exact good _ hx (by omega) (by rw [c]; exact e1)
  · rw [e]; exact good _ hx (by omega) (by rw [c]; exact e2)
  · rw [e]; exact good _ hx (by omega) (by rw [c]; exact e3)
  · rw [e]; exact good _ hx (by omega) (by rw [c]; exact e4)
/-- two answers without a throw -/
def okB (z b : Int) (h : Hp) : Prop := inv h ∧ z = b
theorem c_errorPosition {h : Hp} (hi : inv h) : mX7_errorPosition h (fun z => mX8_errorPosition h (fun b h2 => okB z b h2)) := by
  unfold mX7_errorPosition mX8_errorPosition
  intro g e
  rw [e]
  exact ⟨inv_t hi, by rw [hu_ne (by omega)]; exact hi.2.2.2.2.1⟩
theorem c_undoCount {h : Hp} (hi : inv h) : mX7_undoCount h (fun z => mX8_undoCount h (fun b h2 => okB z b h2)) := by
  unfold mX7_undoCount mX8_undoCount
  intro g e
  rw [e]
  exact ⟨inv_t hi, by rw [hu_ne (by omega)]; exact hi.2.2.1.1.1⟩
theorem c_formattedByte {x : Int} {h : Hp} (hi : inv h) : mX7_formattedByte x h (fun z => mX8_formattedByte x h (fun b h2 => okB z b h2)) := by
  obtain ⟨f1, f2, f3⟩ := hi.2.2.2.2.2
  have g22 : hu h 185 0 0 185 22 = h 185 22 := hu_ne (by omega)
  unfold mX7_formattedByte mX1_byteAt
  have out : ¬ (0 ≤ x ∧ x < h 185 22) → mX8_formattedByte x h (fun b h2 => okB (-1) b h2) := by
    intro hb
    unfold mX8_formattedByte
    intro g e
    rw [e, g22]
    refine ⟨zri (by omega) (by omega), p8_in ⟨fun _ => ⟨inv_t hi, rfl⟩, fun c => ?_⟩⟩
    have := of_decide_eq_true (b2i1.mp c)
    omega
  rw [f1]
  refine ⟨fun c => out (by omega), fun c => ⟨fun d => ⟨⟨by omega, by omega⟩, ?_⟩, fun d => out (by omega)⟩⟩
  unfold mX8_formattedByte
  intro g e
  rw [e, g22]
  refine ⟨zri (by omega) (by omega), p8_in ?_⟩
  rw [decide_eq_true (by omega)]
  refine ⟨fun c => absurd c (by decide), fun _ => ⟨⟨by omega, by omega⟩, inv_t hi, ?_⟩⟩
  rw [rd_same (hu_q (show (193 : Nat) ≠ 185 by omega))]
  exact f3 x (by omega) (by omega)
theorem c_freeNumber {h : Hp} (hi : inv h) : mX7_freeNumber h (fun z h1 => mX8_freeNumber h1 (fun b h2 => okB z b h2)) := by
  obtain ⟨⟨n, o⟩, -⟩ := id hi
  unfold mX7_freeNumber
  refine p5_count n o.1 (by omega) fun g t f => ?_
  have hi2 : inv g := inv_c hi (fun p p1 p2 p3 => f p (by omega) (by omega) (by omega))
  have e0 : g 0 = h 0 := f 0 (by omega) (by omega) (by omega)
  have hr : rd g 186 = rd h 186 := rd_ne (f 186 (by omega) (by omega) (by omega))
  have hp := o.1.2.2.1
  rw [e0, n.1.2.2.2.2.2.1, n.1.2.2.2.2.2.2.1]
  refine p5_smallestFree t hp.1 hp.2.2 ?_
  rw [ffr_5 o.1]
  have hf := ffr_r o.1
  have go : ∀ z, z = ffr (rd h 186) → mX8_freeNumber g (fun b h2 => okB z b h2) := by
    intro z hz
    unfold mX8_freeNumber
    intro a e
    rw [e]
    refine p8_firstFree (by rw [tR, hr]; exact o.1) ⟨inv_t hi2, ?_⟩
    rw [tR, hr, hz]
  by_cases c : ffr (rd h 186) = -1
  · rw [if_pos c]
    exact ⟨fun d => absurd rfl d, fun _ => go _ c.symm⟩
  · rw [if_neg c]
    exact ⟨fun _ => go _ rfl, fun d => by omega⟩
