/-! isRight, isClashes -/
theorem p_holds {x v : Int} {h : Hp} {Q : Int → Prop} {r : Rw} (s : st h r) (hx : 0 ≤ x ∧ x < r 0) (hQ : Q (b2i (hds r x v))) : mL_holds x v h Q := by
  unfold mL_holds
  unfold hds at hQ
  refine k_h1 s hx ⟨fun e => ?_, fun e => k_h2 s hx ⟨fun e2 => ?_, fun e2 => ?_⟩⟩
  · rw [decide_eq_true e] at hQ; exact hQ
  · rw [decide_eq_false e, decide_eq_false e2] at hQ; exact hQ
  · rw [decide_eq_true e2, Bool.or_true] at hQ; exact hQ
theorem p_areOfNet {x y : Int} {h : Hp} {Q : Int → Hp → Prop} {r : Rw} (s : st h r) (hx : 0 ≤ x ∧ x < r 0) (hy : 0 ≤ y ∧ y < r 0) (hQ : Q (b2i (net r x y)) h) : mL_areOfNet x y h Q := by
  unfold mL_areOfNet
  unfold net at hQ
  refine k_s8 s ⟨fun e => ?_, fun e => k_h0 s hx (k_h0 s hy ⟨fun e2 => ?_, fun e2 => ?_⟩)⟩
  · rw [decide_eq_true e] at hQ; exact hQ
  · rw [decide_eq_false e, decide_eq_false e2] at hQ; exact hQ
  · rw [decide_eq_true e2, Bool.or_true] at hQ; exact hQ
theorem b2i_no {b : Bool} {P : Prop} (h : b = true → False) (c : ¬ b2i b = 0) : P := (h (b2i1.mp c)).elim
theorem cn_up {p : Int → Bool} {c : Int} : ∀ (n : Nat) (a : Int), c ≤ a → cn p c a ≤ cn p c (a + n) := by
  intro n
  induction n with
  | zero => intro a _; rw [show a + ((0 : Nat) : Int) = a by omega]; exact Int.le_refl _
  | succ n ih =>
    intro a h
    have := ih a h
    rw [show a + ((n + 1 : Nat) : Int) = (a + n) + 1 by omega, cn_snoc c (by omega)]
    split <;> omega
theorem cn_st {p : Int → Bool} {c a : Int} (h0 : c ≤ a) : ∀ n : Nat, (∀ i, a ≤ i → i < a + n → p i = false) → cn p c (a + n) = cn p c a := by
  intro n
  induction n with
  | zero => intro _; rw [show a + ((0 : Nat) : Int) = a by omega]
  | succ n ih =>
    intro h
    rw [show a + ((n + 1 : Nat) : Int) = (a + n) + 1 by omega, cn_snoc c (by omega), h (a + n) (by omega) (by omega), ih (fun i i1 i2 => h i i1 (by omega)), if_neg (by decide), Int.add_zero]
theorem kept60 {r : Rw} (l : LI r) {i : Int} (hi : 0 ≤ i ∧ i < r 0) {c : Int} : kp r i c ≤ 60 := by
  rw [kpa_kp]
  split
  · rename_i q
    have h1 : 0 < lat r i := by unfold kpa at q; simp at q; exact q.1
    have h2 := lat_r (r := r) (i := i)
    exact (l.2 i hi.1 hi.2).1.2.2 _ (by omega) h2.2
  · decide
theorem kp_pos {r : Rw} {i c : Int} : ¬ kp r i c = 0 ↔ 0 < lat r i ∧ c < lat r i + r 3 := by
  rw [kp0]
  unfold kpa
  simp
theorem p_isRight {h : Hp} {Q : Int → Hp → Prop} {r : Rw} (s : st h r) (l : LI r) (hQ : Q 1 h) : mL_isRight h Q := by
  have o1 := st_b s
  unfold mL_isRight
  obtain ⟨f, hf⟩ := forU (fun f i => ∀ v1 v2, v1 = cn (fun i => decide (¬ kept r i = 0)) 0 i → v2 = cn (fun i => decide (¬ fl r i 4 = 0)) 0 i → mL_isRight_b6 Q f v1 v2 i h) 0 (r 0) o1.1.1 (fun f v1 v2 e1 e2 => by
      unfold mL_isRight_b6
      exact k_s0 s ⟨fun _ => k_s10 s ⟨fun c => absurd e1.symm c, fun _ => k_s2 s ⟨fun c => absurd e2.symm c, fun _ => hQ⟩⟩, fun c => absurd (Int.le_refl _) c⟩) (fun f i i1 i2 ih v1 v2 e1 e2 => by
      have hx : 0 ≤ i ∧ i < r 0 := ⟨i1, i2⟩
      have hO := s.2.1.1.2.2.2.2.1 i i1 i2
      have hK := kept_r hO (r 2)
      have hP := s.2.1.2.2 i i1 i2
      obtain ⟨-, l4⟩ := l.2 i i1 i2
      have hl := lat_le s.2.1.1 hx
      have hp := kp_pos (r := r) (i := i) (c := r 2)
      have c1 := cn_r (fun i => decide (¬ kept r i = 0)) (b := i) 0 i1
      have c2 := cn_r (fun i => decide (¬ fl r i 4 = 0)) (b := i) 0 i1
      have n1 := cn_snoc (p := fun i => decide (¬ kept r i = 0)) (b := i) 0 i1
      have n2 := cn_snoc (p := fun i => decide (¬ fl r i 4 = 0)) (b := i) 0 i1
      have ek : kp r i (r 2) = kept r i := rfl
      unfold okH at hO
      rw [ek] at hK hp
      -- the inner loop
      have inner : ∀ w1 w2, mL_isRight_b6 Q f w1 w2 (i + 1) h → mL_isRight_b175 Q (mL_isRight_b6 Q f) w1 w2 i (kept r i) h := fun w1 w2 hk => by
        unfold mL_isRight_b175
        obtain ⟨g, hg⟩ := forU (fun g j => mL_isRight_b178 Q (mL_isRight_b6 Q f) g w1 w2 i (kept r i) j h) 0 i i1 (fun g => by
            unfold mL_isRight_b178
            exact ⟨fun _ => ⟨zri (by omega) (by omega), hk⟩, fun c => absurd (Int.le_refl _) c⟩) (fun g j j1 j2 jh => by
            have hy : 0 ≤ j ∧ j < r 0 := by omega
            have nx : mL_isRight_b230 Q (mL_isRight_b6 Q f) (mL_isRight_b178 Q (mL_isRight_b6 Q f) g) w1 w2 i (kept r i) j h := ⟨zri (by omega) (by omega), jh⟩
            unfold mL_isRight_b178
            refine ⟨fun c => by omega, fun _ => p_areOfNet s hx hy ⟨fun c => k_h1 s hx (p_holds s hy ⟨b2i_no fun d => ?_, fun _ => ⟨fun _ => nx, fun e => p_holds s hy ⟨fun _ => nx, b2i_no fun d => ?_⟩⟩⟩), fun _ => nx⟩⟩
            · exact twice_no s.2.1.2.1 (v := fl r i 1) hO.2.1 j1 j2 i2 (b2i1.mp c) hds_own d
            · exact twice_no s.2.1.2.1 (v := kept r i) (by omega) j1 j2 i2 (b2i1.mp c) (by unfold hds; simp) d)
        exact ⟨g, hg⟩
      have b155 : ∀ w1 w2, mL_isRight_b6 Q f w1 w2 (i + 1) h → mL_isRight_b155 Q (mL_isRight_b6 Q f) w1 w2 i (kept r i) h := fun w1 w2 hk => by
        unfold mL_isRight_b155
        exact k_h5 s hx ⟨fun _ => inner w1 w2 hk, fun c => k_h4 s hx ⟨fun _ => inner w1 w2 hk, fun d => absurd (hP c) d⟩⟩
      have b98 : ∀ w1 w2 z, mL_isRight_b6 Q f w1 w2 (i + 1) h → mL_isRight_b98 Q (mL_isRight_b6 Q f) w1 w2 i (kept r i) (lat r i) z z h := fun w1 w2 z hk => by
        unfold mL_isRight_b98
        refine ⟨fun c => absurd rfl c, fun _ => k_s3 s ⟨fun _ => k_h5 s hx ⟨fun _ => b155 w1 w2 hk, fun c => k_h3 s hx ⟨fun d => ?_, fun _ => k_h5 s hx (k_s3 s ⟨fun d => ?_, fun _ => k_h4 s hx ⟨fun d => ?_, fun _ => b155 w1 w2 hk⟩⟩)⟩⟩, fun c => absurd hl c⟩⟩
        · have := l4 (by omega); omega
        · have := l4 (by omega); omega
        · omega
      have b72 : ∀ w1 w2 z, z = (if kept r i ≤ 0 then 0 else 1) → mL_isRight_b6 Q f w1 w2 (i + 1) h → mL_isRight_b72 Q (mL_isRight_b6 Q f) w1 w2 i (kept r i) (lat r i) z h := fun w1 w2 z hz hk => by
        unfold mL_isRight_b72
        refine ⟨fun c => ?_, fun c => k_s3 s (k_s4 s ⟨zri (by omega) (by omega), fun d => ?_, fun d => ?_⟩)⟩
        · unfold mL_isRight_b97
          rw [show z = 0 by rw [hz, if_pos (by omega)]]
          exact b98 w1 w2 0 hk
        · unfold mL_isRight_b97
          rw [show z = 0 by rw [hz, if_pos (by omega)]]
          exact b98 w1 w2 0 hk
        · rw [show z = 1 by rw [hz, if_neg (by omega)]]
          exact b98 w1 w2 1 hk
      have b60 : ∀ w1 a b, 0 ≤ a → a ≤ 100 → 0 ≤ b → b ≤ 1 → mL_isRight_b6 Q f w1 (a + b) (i + 1) h → mL_isRight_b60 Q (mL_isRight_b6 Q f) w1 i (kept r i) (lat r i) b a h := fun w1 a b a0 a1 b0 b1 hk => by
        unfold mL_isRight_b60
        exact ⟨zri (by omega) (by omega), fun c => b72 w1 _ 0 (by rw [if_pos c]) hk, fun c => b72 w1 _ 1 (by rw [if_neg c]) hk⟩
      have b43 : ∀ b, b = (if kept r i = 0 then 0 else 1) → mL_isRight_b43 Q (mL_isRight_b6 Q f) v2 i (kept r i) (lat r i) b v1 h := fun b hb => by
        unfold mL_isRight_b43
        have h1 : v1 + b = cn (fun i => decide (¬ kept r i = 0)) 0 (i + 1) := by
          rw [n1, e1, hb]
          by_cases q : kept r i = 0
          · rw [if_pos q, if_neg (by simp [q])]
          · rw [if_neg q, if_pos (by simp [q])]
        have hb2 : 0 ≤ b ∧ b ≤ 1 := by rw [hb]; split <;> omega
        refine ⟨zri (by omega) (by omega), k_h5 s hx ⟨fun c => b60 _ v2 0 (by omega) (by omega) (by omega) (by omega) (ih _ _ h1 ?_), fun c => b60 _ v2 1 (by omega) (by omega) (by omega) (by omega) (ih _ _ h1 ?_)⟩⟩
        · rw [n2, e2, if_neg (by simp; omega)]
        · rw [n2, e2, if_pos (by simp; omega)]
      unfold mL_isRight_b6
      exact k_s0 s ⟨fun c => by omega, fun _ => k_h2 s hx (k_h6 s hx ⟨fun c => b43 0 (by rw [if_pos (by omega)]), fun c => b43 1 (by rw [if_neg (by omega)])⟩)⟩)
  exact ⟨f, hf 0 0 (by rw [cn_end (Int.le_refl _)]) (by rw [cn_end (Int.le_refl _)])⟩
theorem hds60 {r : Rw} (l : LI r) {i v : Int} (hi : 0 ≤ i ∧ i < r 0) (hv : 60 < v) : hds r i v = false := by
  have h1 := (l.2 i hi.1 hi.2).1.1
  have h2 : kept r i ≤ 60 := kept60 l hi
  unfold hds
  rw [decide_eq_false (by omega), decide_eq_false (by omega)]
  rfl
theorem clash60 {r : Rw} (l : LI r) {v : Int} (hv : 60 < v) : clash r v = false := by
  have : hold r 0 v = -1 := (fs_none (by omega)).mpr fun i i1 i2 => by rw [hds60 l ⟨i1, i2⟩ hv, Bool.and_false]
  unfold clash
  rw [this]
  rfl
theorem clashes60 {r : Rw} (l : LI r) : clashes r = cn (clash r) 1 61 := by
  have := cn_st (p := clash r) (c := 1) (a := 61) (by omega) 190 (fun i i1 _ => clash60 l (by omega))
  exact this
theorem ckA_is {r : Rw} {v : Int} (h1 : 1 ≤ v) (h2 : v ≤ 60) (hc : clash r v = true) : ckA r (cn (clash r) 1 v) = v := by
  refine fs_is h1 (by omega) (by unfold ckp; rw [hc]; simp) (fun i i1 i2 => ?_)
  unfold ckp
  by_cases q : clash r i = true
  · have a1 := cn_snoc (p := clash r) (b := i) 1 i1
    rw [if_pos q] at a1
    have a2 := cn_up (p := clash r) (c := 1) (v - (i + 1)).toNat (i + 1) (by omega)
    rw [show i + 1 + ((v - (i + 1)).toNat : Int) = v by omega] at a2
    rw [decide_eq_false (by omega), Bool.and_false]
  · rw [show clash r i = false by simpa using q, Bool.false_and]
theorem clash_open {r : Rw} (ho : okS r) (h7 : r 7 = 1) {v : Int} (hv : 1 ≤ v ∧ v ≤ 250) : clash r v = false := by
  cases hc : clash r v with
  | false => rfl
  | true =>
    exfalso
    unfold clash at hc
    simp only [Bool.and_eq_true, decide_eq_true_eq] at hc
    obtain ⟨i, i1, i2, i3⟩ := (fs_ne (p := fun i => decide (fl r i 0 = 0) && hds r i v) (by omega)).mp hc.1
    obtain ⟨j, j1, j2, j3⟩ := (fs_ne (p := fun i => decide (fl r i 0 = 1) && hds r i v) (by omega)).mp hc.2
    simp only [Bool.and_eq_true, decide_eq_true_eq] at i3 j3
    rcases Int.lt_trichotomy i j with q | q | q
    · exact twice_no ho.2.1 hv i1 q j2 (by unfold net; rw [decide_eq_true h7]; rfl) j3.2 i3.2
    · subst q; omega
    · exact twice_no ho.2.1 hv j1 q i2 (by unfold net; rw [decide_eq_true h7]; rfl) i3.2 j3.2
theorem p_isClashes {h : Hp} {Q : Int → Hp → Prop} {r : Rw} (s : st h r) (l : LI r) (hQ : ∀ h', st h' r → fr h h' → Q 1 h') : mL_isClashes h Q := by
  have o1 := st_b s
  have o7 := s.2.1.1.2.2.2.1
  unfold mL_isClashes
  obtain ⟨f, hf⟩ := forU (fun f v => ∀ n h', n = cn (clash r) 1 v → st h' r → fr h h' → mL_isClashes_b4 Q f n v h') 1 61 (by omega) (fun f n g en sg fg => by
      unfold mL_isClashes_b4
      refine ⟨fun _ => k_s9 sg fun g2 f2 => ⟨fun c => absurd (by rw [clashes60 l, en]) c, fun _ => ?_⟩, fun c => absurd (by omega) c⟩
      have s2 := st_sm sg f2
      have q := hQ g2 s2 (fr_tr fg (sm_fr f2))
      refine k_s8 s2 ⟨fun _ => q, fun c => ⟨fun d => ?_, fun _ => q⟩⟩
      exfalso
      have h0 := cn_r (clash r) (b := 61) 1 (by omega)
      obtain ⟨v, v1, v2, v3⟩ := (cn_pos (p := clash r) (b := 61) 1).mp (by omega)
      rw [clash_open s.2.1 (by omega) (by omega)] at v3
      cases v3) (fun f v v1 v2 ih n g en sg fg => by
      have hn := cn_r (clash r) (b := v) 1 v1
      have sn := cn_snoc (p := clash r) (b := v) 1 v1
      have nx : ∀ m g2, m = cn (clash r) 1 (v + 1) → st g2 r → fr g g2 → mL_isClashes_b119 Q (mL_isClashes_b4 Q f) m v g2 := fun m g2 em s2 f2 => ⟨zri (by omega) (by omega), ih m g2 em s2 (fr_tr fg f2)⟩
      unfold mL_isClashes_b4
      refine ⟨fun c => by omega, fun _ => k_s0 sg ⟨zri (by omega) (by omega), ?_⟩⟩
      obtain ⟨e, he⟩ := forD (fun e i => ∀ a b, a = fs (fun i => decide (fl r i 0 = 0) && hds r i v) (i + 1) (r 0) → b = fs (fun i => decide (fl r i 0 = 1) && hds r i v) (i + 1) (r 0) → mL_isClashes_b24 Q (mL_isClashes_b4 Q f) e n v a b i g) (r 0 - 1) (-1) (by omega) (fun e a b ea eb => by
          have ea : a = hold r 0 v := ea
          have eb : b = hold r 1 v := eb
          have cl : ¬ a = -1 → ¬ b = -1 → clash r v = true := fun c d => by unfold clash; rw [← ea, ← eb, decide_eq_true c, decide_eq_true d]; rfl
          unfold mL_isClashes_b24
          refine ⟨fun _ => k_holder sg (by omega) (by omega) ⟨fun c => absurd ea.symm c, fun _ => k_holder sg (by omega) (by omega) ⟨fun _ => ⟨fun c => nx _ _ ?_ sg fr_rf, fun c => ⟨fun d => k_clash sg (by rw [en]; exact ckA_is v1 (by omega) (cl c d)) v1 fun g2 f2 => ⟨fun _ => ⟨zri (by omega) (by omega), nx _ _ ?_ (st_sm sg f2) (sm_fr f2)⟩, fun c => absurd rfl c⟩, fun d => nx _ _ ?_ sg fr_rf⟩⟩, fun c => absurd eb.symm c⟩⟩, fun c => absurd (by omega) c⟩
          · rw [sn, en, if_neg (by unfold clash; rw [← ea, c]; simp), Int.add_zero]
          · rw [sn, en, if_pos (cl c d)]
          · rw [sn, en, if_neg (by unfold clash; rw [← eb, d]; simp), Int.add_zero]) (fun e i i1 i2 jh a b ea eb => by
          have hx : 0 ≤ i ∧ i < r 0 := by omega
          have hO := s.2.1.1.2.2.2.2.1 i hx.1 hx.2
          unfold okH at hO
          have go : ∀ a b, a = fs (fun i => decide (fl r i 0 = 0) && hds r i v) i (r 0) → b = fs (fun i => decide (fl r i 0 = 1) && hds r i v) i (r 0) → mL_isClashes_b62 Q (mL_isClashes_b4 Q f) (mL_isClashes_b24 Q (mL_isClashes_b4 Q f) e) n v a b i g := fun a b ea eb => ⟨zri (by omega) (by omega), jh a b (by rw [show i + (-1) + 1 = i by omega]; exact ea) (by rw [show i + (-1) + 1 = i by omega]; exact eb)⟩
          unfold mL_isClashes_b24
          refine ⟨fun c => by omega, fun _ => p_holds sg hx ⟨fun c => k_h0 sg hx ⟨fun d => go _ _ ?_ ?_, fun d => go _ _ ?_ ?_⟩, fun c => go _ _ ?_ ?_⟩⟩
          · rw [fs_skip hx.2 (by rw [decide_eq_false d]; rfl)]; exact ea
          · rw [fs_hit hx.2 (by rw [decide_eq_true (by omega), b2i1.mp c]; rfl)]
          · rw [fs_hit hx.2 (by rw [decide_eq_true d, b2i1.mp c]; rfl)]
          · rw [fs_skip hx.2 (by rw [decide_eq_false (by omega)]; rfl)]; exact eb
          · rw [fs_skip hx.2 (by rw [b2i0.mp c, Bool.and_false])]; exact ea
          · rw [fs_skip hx.2 (by rw [b2i0.mp c, Bool.and_false])]; exact eb)
      exact ⟨e, he _ _ (by rw [fs_end (by omega)]) (by rw [fs_end (by omega)])⟩)
  exact ⟨f, hf 0 h (by rw [cn_end (Int.le_refl _)]) s fr_rf⟩
