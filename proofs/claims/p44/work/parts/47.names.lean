/-! numbers, names, signs that must stand -/
def nbE (b : Int → Int) (n s lo hi : Int) : Int := if kd b n s = 2 then (if lo ≤ vM b n s ∧ vM b n s ≤ hi then 0 else 2) else 1
theorem nbE_r {b : Int → Int} {n s lo hi : Int} : nbE b n s lo hi = 0 ∨ nbE b n s lo hi = 1 ∨ nbE b n s lo hi = 2 := by unfold nbE; split <;> (try split) <;> simp
theorem nbE_0 {b : Int → Int} {n s lo hi : Int} : nbE b n s lo hi = 0 ↔ kd b n s = 2 ∧ lo ≤ vM b n s ∧ vM b n s ≤ hi := by
  unfold nbE
  by_cases c : kd b n s = 2
  · rw [if_pos c]
    by_cases d : lo ≤ vM b n s ∧ vM b n s ≤ hi
    · rw [if_pos d]; exact ⟨fun _ => ⟨c, d⟩, fun _ => rfl⟩
    · rw [if_neg d]; exact ⟨fun q => by omega, fun q => absurd q.2 d⟩
  · rw [if_neg c]; exact ⟨fun q => by omega, fun q => absurd q.1 c⟩
theorem vC_in {b : Int → Int} {n s hi : Int} (h0 : 0 ≤ s) (h1 : s ≤ n) (hk : kd b n s = 2) (hh : hi ≤ 9999) (hv : vM b n s ≤ hi) : vC b n s = vM b n s := by
  have := v_CM h0 h1 hk
  omega
theorem p2_fail {e : Int} {h : Hp} {Q : Int → Hp → Prop} (hQ : Q 0 (hu h 178 2 e)) : mX2_fail e h Q := by
  unfold mX2_fail
  exact fun _ w => w ▸ hQ
theorem p2_isNumber {lo hi : Int} {h : Hp} {Q : Int → Hp → Prop} {b : Int → Int} {n s : Int} (hl : 0 ≤ lo) (hh : hi ≤ 9999) (ht : tkC h b n s) (h0 : 0 ≤ s) (h1 : s ≤ n) (hQ : Q (if nbE b n s lo hi = 0 then 1 else 0) (hu h 178 2 (nbE b n s lo hi))) : mX2_isNumber lo hi h Q := by
  obtain ⟨-, -, t4, -, t6⟩ := ht
  have fin : ∀ e, e = nbE b n s lo hi → mX2_isNumber_b53 Q e h := fun e he => by
    unfold mX2_isNumber_b53
    intro a ea
    have : a 178 2 = nbE b n s lo hi := by rw [ea, he]; exact hu_same
    rw [this]
    rw [← he] at hQ ⊢
    refine ⟨fun c => ?_, fun c => ?_⟩
    · rw [if_neg c] at hQ; rw [ea]; exact hQ
    · rw [if_pos c] at hQ; rw [ea]; exact hQ
  have out : ¬ (lo ≤ h 176 6 ∧ h 176 6 ≤ hi) → mX2_isNumber_b27 Q 0 h := fun hc => by
    unfold mX2_isNumber_b27
    rw [t4]
    refine ⟨fun c => ⟨fun _ => fin 2 ?_, fun w => absurd rfl w⟩, fun c => fin 1 (by unfold nbE; rw [if_neg c])⟩
    have := v_CM h0 h1 c
    rw [t6, if_pos c] at hc
    unfold nbE
    rw [if_pos c, if_neg (by omega)]
  have ins : lo ≤ h 176 6 ∧ h 176 6 ≤ hi → mX2_isNumber_b27 Q 1 h := fun hc => by
    unfold mX2_isNumber_b27
    rw [t4]
    refine ⟨fun c => ⟨fun w => absurd w (by decide), fun _ => fin 0 ?_⟩, fun c => fin 1 (by unfold nbE; rw [if_neg c])⟩
    have := v_CM h0 h1 c
    rw [t6, if_pos c] at hc
    unfold nbE
    rw [if_pos c, if_pos (by omega)]
  unfold mX2_isNumber mX2_isNumber_b26
  exact ⟨fun c => out (by omega), fun c => ⟨fun d => out (by omega), fun d => ins (by omega)⟩⟩
/-- the class's reader: what stays -/
def frT (h h' : Hp) : Prop := h' 176 1 = h 176 1 ∧ ∀ p, p ≠ 176 → p ≠ 178 → h' p = h p
theorem frT_rfl {h : Hp} : frT h h := ⟨rfl, fun _ _ _ => rfl⟩
theorem frT_tr {h a c : Hp} (x : frT h a) (y : frT a c) : frT h c := ⟨y.1.trans x.1, fun p p1 p2 => (y.2 p p1 p2).trans (x.2 p p1 p2)⟩
theorem frT_hu {h : Hp} {k : Nat} {z : Int} : frT h (hu h 178 k z) := ⟨by rw [hu_q (by omega)], fun p p1 p2 => hu_q p2⟩
theorem tkC_hu {h : Hp} {b : Int → Int} {n s : Int} {k : Nat} {z : Int} (ht : tkC h b n s) : tkC (hu h 178 k z) b n s := by
  unfold tkC byC at *
  have e : hu h 178 k z 176 = h 176 := hu_q (by omega)
  have e2 : ∀ i, rd (hu h 178 k z) 177 i = rd h 177 i := fun i => rd_same (hu_q (by omega))
  simp only [e, e2]
  exact ht
theorem tkC_fr {h h' : Hp} {b : Int → Int} {n s : Int} (ht : tkC h b n s) (e6 : h' 176 = h 176) (e7 : h' 177 = h 177) : tkC h' b n s := by
  unfold tkC byC at *
  have e2 : ∀ i, rd h' 177 i = rd h 177 i := fun i => rd_same e7
  simp only [e6, e2]
  exact ht
theorem p2_takeNumber {lo hi : Int} {h : Hp} {Q : Int → Hp → Prop} {b : Int → Int} {n s : Int} (hl : 0 ≤ lo) (hh : hi ≤ 9999) (he : eT b n) (ht : tkC h b n s) (h0 : 0 ≤ s) (h1 : s ≤ n) (hy : nbE b n s lo hi = 0 → ∀ h', tkC h' b n (nx b n s) → h' 178 2 = 0 → h' 178 3 = vM b n s → frT h h' → Q 1 h') (hn : ¬ nbE b n s lo hi = 0 → ∀ h', tkC h' b n s → h' 178 2 = nbE b n s lo hi → frT h h' → Q 0 h') : mX2_takeNumber lo hi h Q := by
  unfold mX2_takeNumber
  refine p2_isNumber hl hh ht h0 h1 ?_
  by_cases c : nbE b n s lo hi = 0
  · rw [if_pos c]
    refine ⟨fun _ a ea => ?_, fun w => absurd w (by decide)⟩
    have hv := nbE_0.mp c
    have ta : tkC a b n s := by rw [ea]; exact tkC_hu (tkC_hu ht)
    refine p6_advance he ta h0 h1 fun g tg g1 gf => hy c g tg ?_ ?_ ⟨?_, fun p p1 p2 => ?_⟩
    · rw [gf 178 (by omega), ea, hu_ne (by omega), hu_same]; exact c
    · rw [gf 178 (by omega), ea, hu_same, hu_q (by omega), ht.2.2.2.2, if_pos hv.1]
      exact vC_in h0 h1 hv.1 hh hv.2.2
    · rw [g1, ea, hu_q (by omega), hu_q (by omega)]
    · rw [gf p p1, ea, hu_q p2, hu_q p2]
  · rw [if_neg c]
    exact ⟨fun w => absurd rfl w, fun _ => hn c _ (tkC_hu ht) hu_same frT_hu⟩
theorem p2_takeSemicolon {h : Hp} {Q : Int → Hp → Prop} {b : Int → Int} {n s : Int} (he : eT b n) (ht : tkC h b n s) (h0 : 0 ≤ s) (h1 : s ≤ n) (hy : isG b n s 59 = true → ∀ h', tkC h' b n (nx b n s) → h' 178 = h 178 → frT h h' → Q 1 h') (hn : isG b n s 59 = false → ∀ h', tkC h' b n s → h' 178 2 = 1 → frT h h' → Q 0 h') : mX2_takeSemicolon h Q := by
  unfold mX2_takeSemicolon
  refine p6_isSign (by omega) he ht h0 h1 ⟨fun c => p6_advance he ht h0 h1 fun g tg g1 gf => hy (b2i1.mp c) g tg (gf 178 (by omega)) ⟨g1, fun p p1 p2 => gf p p1⟩, fun c => p2_fail (hn (b2i0.mp c) _ (tkC_hu ht) hu_same frT_hu)⟩
theorem p2_takeWord {w : Nat} {h : Hp} {Q : Int → Hp → Prop} {b : Int → Int} {n s : Int} (hw : w < 11) (he : eT b n) (ht : tkC h b n s) (h0 : 0 ≤ s) (h1 : s ≤ n) (hy : isW b n s w = true → ∀ h', tkC h' b n (nx b n s) → h' 178 = h 178 → frT h h' → Q 1 h') (hn : isW b n s w = false → ∀ h', tkC h' b n s → h' 178 2 = 1 → frT h h' → Q 0 h') : mX2_takeWord w h Q := by
  unfold mX2_takeWord
  refine p6_isWord hw he ht h0 h1 ⟨fun c => p6_advance he ht h0 h1 fun g tg g1 gf => hy (b2i1.mp c) g tg (gf 178 (by omega)) ⟨g1, fun p p1 p2 => gf p p1⟩, fun c => p2_fail (hn (b2i0.mp c) _ (tkC_hu ht) hu_same frT_hu)⟩
theorem p2_takeSide {h : Hp} {Q : Int → Hp → Prop} {b : Int → Int} {n s : Int} (he : eT b n) (ht : tkC h b n s) (h0 : 0 ≤ s) (h1 : s ≤ n) (hy : isW b n s 9 = true ∨ nbE b n s 1 250 = 0 → ∀ h', tkC h' b n (nx b n s) → (h' 178 2 = 0 ∨ h' 178 2 = h 178 2) → h' 178 3 = (if isW b n s 9 = true then 0 else vM b n s) → frT h h' → Q 1 h') (hn : isW b n s 9 = false → ¬ nbE b n s 1 250 = 0 → ∀ h', tkC h' b n s → h' 178 2 = nbE b n s 1 250 → frT h h' → Q 0 h') : mX2_takeSide h Q := by
  unfold mX2_takeSide
  refine p6_isWord (by omega) he ht h0 h1 ⟨fun c => ?_, fun c => fun a ea => ?_⟩
  · have c' := b2i0.mp c
    refine p2_takeNumber (by omega) (by omega) he ht h0 h1 (fun d g tg g2 g3 gf => hy (Or.inr d) g tg (Or.inl g2) (by rw [c', if_neg (by decide)]; exact g3) gf) (fun d g tg g2 gf => hn c' d g tg g2 gf)
  · have c' := b2i1.mp c
    refine p6_advance he (by rw [ea]; exact tkC_hu ht) h0 h1 fun g tg g1 gf => hy (Or.inl c') g tg (Or.inr ?_) ?_ ⟨?_, fun p p1 p2 => ?_⟩
    · rw [gf 178 (by omega), ea, hu_ne (by omega)]
    · rw [gf 178 (by omega), ea, hu_same, if_pos c']
    · rw [g1, ea, hu_q (by omega)]
    · rw [gf p p1, ea, hu_q p2]
theorem p6_letters {h : Hp} {Q : Int → Prop} {b : Int → Int} {n s : Int} (he : eT b n) (ht : tkC h b n s) (h0 : 0 ≤ s) (h1 : s ≤ n) (hQ : Q (if kd b n s = 1 then te b n s - s else 0)) : mX6_letters h Q := by
  obtain ⟨-, t3, t4, t5, -⟩ := ht
  obtain ⟨⟨n0, n9⟩, -⟩ := he
  have hr := te_r (b := b) h0 h1
  unfold mX6_letters
  rw [t4, t3, t5]
  refine ⟨fun c => ?_, fun c => ⟨zri (by omega) (by omega), ?_⟩⟩
  · rw [if_neg c] at hQ; exact hQ
  · rw [if_pos c] at hQ; exact hQ
/-- the cells of a name that stands at s -/
def ltk (b : Int → Int) (s L : Int) : Int → Int := fun j => if j = 5 then L else if j - 6 < L then b (s + (j - 6)) else 0
def hvl (f : Int → Int) : Int → Nat → Int
  | _, 0 => 0
  | i, k + 1 => f i + 256 * hvl f (i + 1) k
theorem hvl_r {f : Int → Int} : ∀ (k : Nat) (i : Int), (∀ j, i ≤ j → j < i + k → 0 ≤ f j ∧ f j ≤ 122) → 0 ≤ hvl f i k ∧ 2 * hvl f i k + 1 ≤ 256 ^ k := by
  intro k
  induction k with
  | zero => intro i _; exact ⟨Int.le_refl 0, by show (2 : Int) * 0 + 1 ≤ 256 ^ 0; decide⟩
  | succ k ih =>
    intro i h
    have a := ih (i + 1) (fun j j1 j2 => h j (by omega) (by omega))
    have c := h i (by omega) (by omega)
    show 0 ≤ f i + 256 * hvl f (i + 1) k ∧ 2 * (f i + 256 * hvl f (i + 1) k) + 1 ≤ 256 ^ (k + 1)
    rw [Int.pow_succ]
    omega
theorem hvl_nm {b : Int → Int} {s L : Int} (hL : 0 ≤ L ∧ L ≤ 8) : hvl b s L.toNat = nmLl (ltk b s L) := by
  have c : L = 0 ∨ L = 1 ∨ L = 2 ∨ L = 3 ∨ L = 4 ∨ L = 5 ∨ L = 6 ∨ L = 7 ∨ L = 8 := by omega
  unfold nmLl ltk
  rcases c with c | c | c | c | c | c | c | c | c <;> subst c <;> simp [hvl] <;> (try omega) <;> (simp [Int.add_assoc])
theorem p6_asName {h : Hp} {Q : Int → Prop} {b : Int → Int} {n s : Int} (he : eT b n) (ht : tkC h b n s) (h0 : 0 ≤ s) (h1 : s ≤ n) (hk : kd b n s = 1) (hQ : Q (if te b n s - s ≤ 8 then nmLl (ltk b s (te b n s - s)) else 0)) : mX6_asName h Q := by
  have hr := te_r (b := b) h0 h1
  have hlt : s < te b n s := te_lt h0 (kd_lt (b := b) (by omega))
  have he' := he
  obtain ⟨⟨n0, n9⟩, hB⟩ := he
  unfold mX6_asName
  refine p6_letters he' ht h0 h1 ?_
  rw [if_pos hk]
  refine ⟨fun c => p6_letters he' ht h0 h1 ?_, fun c => ?_⟩
  · rw [if_pos hk]
    rw [if_pos c] at hQ
    generalize hLe : te b n s - s = L at *
    refine ⟨zri (by omega) (by omega), ?_⟩
    have p256 : ∀ k : Nat, k ≤ 7 → (256 : Int) ^ k ≤ 72057594037927936 := fun k hk => by
      have : k = 0 ∨ k = 1 ∨ k = 2 ∨ k = 3 ∨ k = 4 ∨ k = 5 ∨ k = 6 ∨ k = 7 := by omega
      rcases this with c | c | c | c | c | c | c | c <;> subst c <;> decide
    obtain ⟨f, hf⟩ := forD (fun f i => ∀ v, v = hvl b (s + (i + 1)) (L - 1 - i).toNat → mX6_asName_b20 h Q f v i) (L - 1) (-1) (by omega) (fun f v hv => by
        unfold mX6_asName_b20
        refine ⟨fun _ => ?_, fun w => by omega⟩
        rw [hv, show s + (-1 + 1) = s by omega, show (L - 1 - -1).toNat = L.toNat by omega, hvl_nm (by omega)]
        exact hQ) (fun f i i1 i2 ih v hv => by
        unfold mX6_asName_b20
        have hc := te_in h0 hk (i := s + i) (by omega) (by omega)
        unfold pL at hc
        rw [Bool.and_eq_true, decide_eq_true_eq, decide_eq_true_eq] at hc
        have hv1 := hvl_r (f := b) (L - 1 - i).toNat (s + (i + 1)) (fun j j1 j2 => by
          have := te_in h0 hk (i := j) (by omega) (by omega)
          unfold pL at this
          rw [Bool.and_eq_true, decide_eq_true_eq, decide_eq_true_eq] at this
          omega)
        have hp := p256 (L - 1 - i).toNat (by omega)
        rw [← hv] at hv1
        rw [ht.2.2.2.1]
        refine ⟨fun w => by omega, fun _ => ⟨zri (by omega) (by omega), ⟨by omega, by omega⟩, zri (by omega) (by omega), ih _ ?_⟩⟩
        rw [ht.1.2 (s + i) (by omega) (by omega), (bt_lo (k := b (s + i)) (hB _ (by omega) (by omega)) (by omega)).mpr rfl]
        rw [zlshl_n hv1.1 (by omega) (by show v.toNat * 256 < _; omega)]
        have eb : b (s + i) = ((b (s + i)).toNat : Int) := by omega
        rw [eb, zlor_n (by show v.toNat * 256 < _; omega) (by omega)]
        have e2 : v.toNat * 2 ^ (8 : Int).toNat ||| (b (s + i)).toNat = v.toNat * 256 + (b (s + i)).toNat := by
          have := Nat.shiftLeft_add_eq_or_of_lt (b := (b (s + i)).toNat) (i := 8) (by omega) v.toNat
          rw [Nat.shiftLeft_eq] at this
          exact this.symm
        rw [e2, show (L - 1 - (i + -1)).toNat = (L - 1 - i).toNat + 1 by omega, show s + (i + -1 + 1) = s + i by omega]
        show _ = b (s + i) + 256 * hvl b (s + i + 1) (L - 1 - i).toNat
        rw [show s + i + 1 = s + (i + 1) by omega, ← hv]
        omega)
    exact ⟨f, hf 0 (by rw [show (L - 1 - (L - 1)).toNat = 0 by omega]; rfl)⟩
  · rw [if_neg c] at hQ; exact hQ
/-- does host i bear the name that stands at s, L letters long? -/
def nmd (r : Rw) (b : Int → Int) (s L i : Int) : Bool := decide (fl r i 5 = L) && decide (fs (fun k => !decide (fl r i (6 + k) = b (s + k))) 0 L = -1)
theorem nm8 {d0 d1 d2 d3 d4 d5 d6 d7 e0 e1 e2 e3 e4 e5 e6 e7 : Int} (hd : (0 ≤ d0 ∧ d0 ≤ 255) ∧ (0 ≤ d1 ∧ d1 ≤ 255) ∧ (0 ≤ d2 ∧ d2 ≤ 255) ∧ (0 ≤ d3 ∧ d3 ≤ 255) ∧ (0 ≤ d4 ∧ d4 ≤ 255) ∧ (0 ≤ d5 ∧ d5 ≤ 255) ∧ (0 ≤ d6 ∧ d6 ≤ 255) ∧ (0 ≤ d7 ∧ d7 ≤ 255)) (he : (0 ≤ e0 ∧ e0 ≤ 255) ∧ (0 ≤ e1 ∧ e1 ≤ 255) ∧ (0 ≤ e2 ∧ e2 ≤ 255) ∧ (0 ≤ e3 ∧ e3 ≤ 255) ∧ (0 ≤ e4 ∧ e4 ≤ 255) ∧ (0 ≤ e5 ∧ e5 ≤ 255) ∧ (0 ≤ e6 ∧ e6 ≤ 255) ∧ (0 ≤ e7 ∧ e7 ≤ 255)) (h : d0 + 256 * (d1 + 256 * (d2 + 256 * (d3 + 256 * (d4 + 256 * (d5 + 256 * (d6 + 256 * d7)))))) = e0 + 256 * (e1 + 256 * (e2 + 256 * (e3 + 256 * (e4 + 256 * (e5 + 256 * (e6 + 256 * e7))))))) : d0 = e0 ∧ d1 = e1 ∧ d2 = e2 ∧ d3 = e3 ∧ d4 = e4 ∧ d5 = e5 ∧ d6 = e6 ∧ d7 = e7 := by
  have st : ∀ {a c x y : Int}, 0 ≤ a → a ≤ 255 → 0 ≤ c → c ≤ 255 → a + 256 * x = c + 256 * y → a = c ∧ x = y := by intro a c x y a1 a2 c1 c2 q; omega
  obtain ⟨⟨a0, b0⟩, ⟨a1, b1⟩, ⟨a2, b2⟩, ⟨a3, b3⟩, ⟨a4, b4⟩, ⟨a5, b5⟩, ⟨a6, b6⟩, a7, b7⟩ := hd
  obtain ⟨⟨c0, f0⟩, ⟨c1, f1⟩, ⟨c2, f2⟩, ⟨c3, f3⟩, ⟨c4, f4⟩, ⟨c5, f5⟩, ⟨c6, f6⟩, c7, f7⟩ := he
  obtain ⟨q0, h⟩ := st a0 b0 c0 f0 h
  obtain ⟨q1, h⟩ := st a1 b1 c1 f1 h
  obtain ⟨q2, h⟩ := st a2 b2 c2 f2 h
  obtain ⟨q3, h⟩ := st a3 b3 c3 f3 h
  obtain ⟨q4, h⟩ := st a4 b4 c4 f4 h
  obtain ⟨q5, h⟩ := st a5 b5 c5 f5 h
  obtain ⟨q6, h⟩ := st a6 b6 c6 f6 h
  exact ⟨q0, q1, q2, q3, q4, q5, q6, h⟩
theorem nm_nmd {r : Rw} {b : Int → Int} {s L i : Int} (ho : okH r i) (h5 : 1 ≤ fl r i 5) (hL : 1 ≤ L ∧ L ≤ 8) (hb : ∀ k, 0 ≤ k → k < L → 97 ≤ b (s + k) ∧ b (s + k) ≤ 122) : decide (nm r i = nmLl (ltk b s L)) = nmd r b s L i := by
  have lr := fun k (hk : 0 ≤ k ∧ k < 8) => let_r ho hk
  obtain ⟨-, -, -, -, -, -, o5, oL, -⟩ := ho
  have er : ∀ k, 0 ≤ k → k < 8 → 0 ≤ ltk b s L (6 + k) ∧ ltk b s L (6 + k) ≤ 255 := fun k k1 k2 => by
    unfold ltk
    rw [if_neg (by omega)]
    by_cases c : 6 + k - 6 < L
    · rw [if_pos c]
      have := hb (6 + k - 6) (by omega) c
      omega
    · rw [if_neg c]; omega
  have ek : ∀ k, 0 ≤ k → k < 8 → ltk b s L (6 + k) = if k < L then b (s + k) else 0 := fun k k1 k2 => by
    unfold ltk
    rw [if_neg (by omega), show 6 + k - 6 = k by omega]
  unfold nmd
  rw [Bool.eq_iff_iff, Bool.and_eq_true, decide_eq_true_eq, decide_eq_true_eq, decide_eq_true_eq, fs_none (Int.le_refl 0)]
  constructor
  · intro h
    have L' : ∀ k, 0 ≤ k → k < 8 → 0 ≤ fl r i (6 + k) ∧ fl r i (6 + k) ≤ 255 := fun k k1 k2 => by have := lr k ⟨k1, k2⟩; omega
    obtain ⟨q0, q1, q2, q3, q4, q5, q6, q7⟩ := nm8 ⟨L' 0 (by omega) (by omega), L' 1 (by omega) (by omega), L' 2 (by omega) (by omega), L' 3 (by omega) (by omega), L' 4 (by omega) (by omega), L' 5 (by omega) (by omega), L' 6 (by omega) (by omega), L' 7 (by omega) (by omega)⟩ ⟨er 0 (by omega) (by omega), er 1 (by omega) (by omega), er 2 (by omega) (by omega), er 3 (by omega) (by omega), er 4 (by omega) (by omega), er 5 (by omega) (by omega), er 6 (by omega) (by omega), er 7 (by omega) (by omega)⟩ h
    have all : ∀ k, 0 ≤ k → k < 8 → fl r i (6 + k) = ltk b s L (6 + k) := fun k k1 k2 => by
      have : k = 0 ∨ k = 1 ∨ k = 2 ∨ k = 3 ∨ k = 4 ∨ k = 5 ∨ k = 6 ∨ k = 7 := by omega
      rcases this with c | c | c | c | c | c | c | c <;> subst c <;> assumption
    have hlen : fl r i 5 = L := by
      rcases Int.lt_trichotomy (fl r i 5) L with c | c | c
      · have a := all (fl r i 5) (by omega) (by omega)
        rw [ek _ (by omega) (by omega), if_pos c, (oL (fl r i 5) (by omega) (by omega)).2 (Int.le_refl _)] at a
        have := hb (fl r i 5) (by omega) c
        omega
      · exact c
      · have a := all L (by omega) (by omega)
        rw [ek _ (by omega) (by omega), if_neg (Int.lt_irrefl _)] at a
        have := (oL L (by omega) (by omega)).1 c
        omega
    refine ⟨hlen, fun k k1 k2 => ?_⟩
    rw [all k k1 (by omega), ek k k1 (by omega), if_pos k2, decide_eq_true rfl]
    rfl
  · rintro ⟨hlen, hall⟩
    have all : ∀ k, 0 ≤ k → k < 8 → fl r i (6 + k) = ltk b s L (6 + k) := fun k k1 k2 => by
      rw [ek k k1 k2]
      by_cases c : k < L
      · rw [if_pos c]
        have := hall k k1 c
        simpa using this
      · rw [if_neg c]
        exact (oL k k1 k2).2 (by omega)
    unfold nm nmLl
    have a0 := all 0 (by omega) (by omega)
    have a1 := all 1 (by omega) (by omega)
    have a2 := all 2 (by omega) (by omega)
    have a3 := all 3 (by omega) (by omega)
    have a4 := all 4 (by omega) (by omega)
    have a5 := all 5 (by omega) (by omega)
    have a6 := all 6 (by omega) (by omega)
    have a7 := all 7 (by omega) (by omega)
    simp only [show (6 : Int) + 0 = 6 from rfl, show (6 : Int) + 1 = 7 from rfl, show (6 : Int) + 2 = 8 from rfl, show (6 : Int) + 3 = 9 from rfl, show (6 : Int) + 4 = 10 from rfl, show (6 : Int) + 5 = 11 from rfl, show (6 : Int) + 6 = 12 from rfl, show (6 : Int) + 7 = 13 from rfl] at a0 a1 a2 a3 a4 a5 a6 a7
    rw [a0, a1, a2, a3, a4, a5, a6, a7]

