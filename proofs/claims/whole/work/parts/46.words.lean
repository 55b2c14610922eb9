/-! words and signs on both sides -/
def isW (b : Int → Int) (n s : Int) (w : Nat) : Bool := decide (kd b n s = 1) && (decide (te b n s - s = zslen w) && decide (fs (fun i => !decide (b (s + i) = zsch w i)) 0 (zslen w) = -1))
def isG (b : Int → Int) (n s c : Int) : Bool := decide (kd b n s = 3) && decide (b s = c)
theorem zs_r : ∀ w : Fin 25, (1 ≤ zslen w.val ∧ zslen w.val ≤ 8) := by decide +kernel
theorem zs_c0 : ∀ w : Fin 25, ∀ i : Fin 8, ((i.val : Nat) : Int) < zslen w.val → (97 ≤ zsch w.val (i.val : Int) ∧ zsch w.val (i.val : Int) ≤ 122) := by decide +kernel
theorem zs_c {w : Nat} (hw : w < 25) {i : Int} (h0 : 0 ≤ i) (h1 : i < zslen w) : 97 ≤ zsch w i ∧ zsch w i ≤ 122 := by
  have hr := zs_r ⟨w, hw⟩
  have h := zs_c0 ⟨w, hw⟩ ⟨i.toNat, by simp only at hr; omega⟩
  have e : ((i.toNat : Nat) : Int) = i := by omega
  simp only [e] at h
  exact h h1
theorem p6_isWord {w : Nat} {h : Hp} {Q : Int → Prop} {b : Int → Int} {n s : Int} (hw : w < 25) (he : eT b n) (ht : tkC h b n s) (h0 : 0 ≤ s) (h1 : s ≤ n) (hQ : Q (b2i (isW b n s w))) : mX6_isWord w h Q := by
  obtain ⟨⟨t2, tb⟩, t3, t4, t5, t6⟩ := ht
  obtain ⟨⟨n0, n9⟩, hB⟩ := he
  have hr := te_r (b := b) h0 h1
  have hz := zs_r ⟨w, hw⟩
  simp only at hz
  unfold mX6_isWord
  unfold isW at hQ
  rw [t4, t3, t5]
  refine ⟨fun c => ?_, fun c => ⟨zri (by omega) (by omega), fun d => ?_, fun d => ?_⟩⟩
  · rw [decide_eq_false c, Bool.false_and] at hQ; exact hQ
  · rw [decide_eq_true c, decide_eq_true d, Bool.true_and, Bool.true_and] at hQ
    obtain ⟨f, hf⟩ := forU (fun f i => Q (b2i (decide (fs (fun i => !decide (b (s + i) = zsch w i)) i (zslen w) = -1))) → mX6_isWord_b28 w h Q f i) 0 (zslen w) (by omega) (fun f hq => by
        unfold mX6_isWord_b28
        rw [fs_end (Int.le_refl _), decide_eq_true rfl] at hq
        exact ⟨fun _ => hq, fun c => absurd (Int.le_refl _) c⟩) (fun f i i1 i2 ih hq => by
        unfold mX6_isWord_b28
        have hc := zs_c hw i1 i2
        rw [t5, tb _ (by omega) (by omega), bt_lo (hB _ (by omega) (by omega)) (by omega)]
        refine ⟨fun c => by omega, fun _ => ⟨zri (by omega) (by omega), ⟨by omega, by omega⟩, ⟨by omega, by omega⟩, fun e => ⟨zri (by omega) (by omega), ih ?_⟩, fun e => ?_⟩⟩
        · rw [fs_skip i2 (by rw [decide_eq_true e]; rfl)] at hq
          exact hq
        · rw [fs_hit i2 (by rw [decide_eq_false e]; rfl), decide_eq_false (by omega)] at hq
          exact hq)
    exact ⟨f, hf hQ⟩
  · rw [decide_eq_false d, Bool.false_and, Bool.and_false] at hQ; exact hQ
theorem p6_isSign {c : Int} {h : Hp} {Q : Int → Prop} {b : Int → Int} {n s : Int} (hc : 0 ≤ c ∧ c ≤ 127) (he : eT b n) (ht : tkC h b n s) (h0 : 0 ≤ s) (h1 : s ≤ n) (hQ : Q (b2i (isG b n s c))) : mX6_isSign c h Q := by
  obtain ⟨⟨t2, tb⟩, t3, t4, t5, t6⟩ := ht
  obtain ⟨⟨n0, n9⟩, hB⟩ := he
  unfold mX6_isSign
  unfold isG at hQ
  rw [t4, t2, t5]
  refine ⟨fun d => ?_, fun d => ⟨fun e => ?_, fun e => ⟨⟨by omega, by omega⟩, ?_⟩⟩⟩
  · rw [decide_eq_false d, Bool.false_and] at hQ; exact hQ
  · have := (kd_0 (b := b)).mpr e
    omega
  · rw [tb s h0 (by omega), bt_lo (hB _ h0 (by omega)) hc]
    rw [decide_eq_true d, Bool.true_and] at hQ
    refine ⟨fun g => ?_, fun g => ?_⟩
    · rw [decide_eq_false g] at hQ; exact hQ
    · rw [decide_eq_true g] at hQ; exact hQ
theorem p8_isGood {h : Hp} {Q : Int → Prop} (hQ : Q (b2i (decide (h 185 16 = 0)))) : mX8_isGood h Q := by
  unfold mX8_isGood
  refine ⟨fun c => ?_, fun c => ?_⟩
  · rw [decide_eq_false c] at hQ; exact hQ
  · rw [decide_eq_true c] at hQ; exact hQ
theorem p8_good1 {h : Hp} {Q : Int → Prop} (hg : h 185 16 = 0) (hQ : Q 1) : mX8_isGood h Q := p8_isGood (by rw [decide_eq_true hg]; exact hQ)
theorem p8_good0 {h : Hp} {Q : Int → Prop} (hg : ¬ h 185 16 = 0) (hQ : Q 0) : mX8_isGood h Q := p8_isGood (by rw [decide_eq_false hg]; exact hQ)
theorem p8_isByte {c : Int} {h : Hp} {Q : Int → Prop} {b : Int → Int} {n s : Int} (hg : h 185 16 = 0) (he : eT b n) (ht : tkM h b n s) (h0 : 0 ≤ s) (h1 : s ≤ n) (hQ : Q (b2i (isG b n s c))) : mX8_isByte c h Q := by
  obtain ⟨⟨t2, tb⟩, t3, t4, t5, t6⟩ := ht
  obtain ⟨⟨n0, n9⟩, hB⟩ := he
  unfold mX8_isByte
  unfold isG at hQ
  refine p8_good1 hg ⟨fun w => absurd w (by decide), fun _ => ?_⟩
  rw [t4, t5]
  refine ⟨fun d => ?_, fun d => ?_⟩
  · rw [decide_eq_false d, Bool.false_and] at hQ; exact hQ
  · have hs : ¬ n ≤ s := fun e => by have := (kd_0 (b := b)).mpr e; omega
    refine ⟨⟨by omega, by omega⟩, ?_⟩
    rw [tb s h0 (by omega)]
    rw [decide_eq_true d, Bool.true_and] at hQ
    refine ⟨fun g => ?_, fun g => ?_⟩
    · rw [decide_eq_false g] at hQ; exact hQ
    · rw [decide_eq_true g] at hQ; exact hQ
theorem p8_isByte0 {c : Int} {h : Hp} {Q : Int → Prop} (hg : ¬ h 185 16 = 0) (hQ : Q 0) : mX8_isByte c h Q := by
  unfold mX8_isByte
  exact p8_good0 hg ⟨fun _ => hQ, fun w => absurd rfl w⟩
/-- the code of a word, base 27 -/
def wdk (f : Int → Int) : Int → Int → Nat → Int
  | acc, _, 0 => acc
  | acc, i, k + 1 => wdk f (27 * acc + f i - 96) (i + 1) k
theorem wdk_snoc {f : Int → Int} : ∀ (k : Nat) (acc i : Int), wdk f acc i (k + 1) = 27 * wdk f acc i k + f (i + k) - 96 := by
  intro k
  induction k with
  | zero => intro acc i; show 27 * acc + f i - 96 = 27 * acc + f (i + ((0 : Nat) : Int)) - 96; rw [show i + ((0 : Nat) : Int) = i by omega]
  | succ k ih =>
    intro acc i
    show wdk f (27 * acc + f i - 96) (i + 1) (k + 1) = 27 * wdk f (27 * acc + f i - 96) (i + 1) k + f (i + ((k + 1 : Nat) : Int)) - 96
    rw [ih, show i + 1 + (k : Int) = i + ((k + 1 : Nat) : Int) by omega]
theorem waM_k {b : Int → Int} {s : Int} : ∀ (k : Nat) (acc i : Int), i - s + k ≤ 10 → waM b s acc i k = wdk b acc i k := by
  intro k
  induction k with
  | zero => intro acc i _; rfl
  | succ k ih =>
    intro acc i h
    show waM b s (if 10 ≤ i - s then acc else 27 * acc + b i - 96) (i + 1) k = wdk b (27 * acc + b i - 96) (i + 1) k
    rw [if_neg (by omega)]
    exact ih _ _ (by omega)
theorem wdk_pos {f : Int → Int} {i : Int} : ∀ k : Nat, (∀ j : Nat, j < k → 97 ≤ f (i + j) ∧ f (i + j) ≤ 122) → 0 ≤ wdk f 0 i k ∧ (1 ≤ k → 1 ≤ wdk f 0 i k) := by
  intro k
  induction k with
  | zero => intro _; exact ⟨Int.le_refl 0, fun h => by omega⟩
  | succ k ih =>
    intro h
    rw [wdk_snoc]
    have a := ih (fun j hj => h j (by omega))
    have c := h k (by omega)
    omega
theorem wdk_inj {f g : Int → Int} {i i2 : Int} : ∀ k m : Nat, (∀ j : Nat, j < k → 97 ≤ f (i + j) ∧ f (i + j) ≤ 122) → (∀ j : Nat, j < m → 97 ≤ g (i2 + j) ∧ g (i2 + j) ≤ 122) → wdk f 0 i k = wdk g 0 i2 m → k = m ∧ ∀ j : Nat, j < k → f (i + j) = g (i2 + j) := by
  intro k
  induction k with
  | zero =>
    intro m _ hg e
    cases m with
    | zero => exact ⟨rfl, fun j hj => by omega⟩
    | succ m =>
      have := (wdk_pos (m + 1) hg).2 (by omega)
      rw [← e] at this
      exact absurd this (show ¬ (1 : Int) ≤ 0 by decide)
  | succ k ih =>
    intro m hf hg e
    cases m with
    | zero =>
      have := (wdk_pos (k + 1) hf).2 (by omega)
      rw [e] at this
      exact absurd this (show ¬ (1 : Int) ≤ 0 by decide)
    | succ m =>
      rw [wdk_snoc, wdk_snoc] at e
      have a := hf k (by omega)
      have c := hg m (by omega)
      obtain ⟨q1, q2⟩ := ih m (fun j hj => hf j (by omega)) (fun j hj => hg j (by omega)) (by omega)
      subst q1
      refine ⟨rfl, fun j hj => ?_⟩
      by_cases d : j = k
      · subst d; omega
      · exact q2 j (by omega)
def cdw (w : Nat) : Int := wdk (zsch w) 0 0 (zslen w).toNat
theorem isW_code {b : Int → Int} {n s : Int} {w : Nat} (hw : w < 25) (h0 : 0 ≤ s) (h1 : s ≤ n) (hk : kd b n s = 1) : (te b n s - s ≤ 10 ∧ wM b n s = cdw w) ↔ isW b n s w = true := by
  have hz := zs_r ⟨w, hw⟩
  simp only at hz
  have hr := te_r (b := b) h0 h1
  have hl : ∀ j : Nat, j < (te b n s - s).toNat → 97 ≤ b (s + j) ∧ b (s + j) ≤ 122 := fun j hj => by
    have := te_in h0 hk (i := s + j) (by omega) (by omega)
    unfold pL at this
    rw [Bool.and_eq_true, decide_eq_true_eq, decide_eq_true_eq] at this
    exact this
  have hl2 : ∀ j : Nat, j < (zslen w).toNat → 97 ≤ zsch w (0 + j) ∧ zsch w (0 + j) ≤ 122 := fun j hj => by
    rw [Int.zero_add]
    exact zs_c hw (by omega) (by omega)
  unfold isW
  rw [Bool.and_eq_true, Bool.and_eq_true, decide_eq_true_eq, decide_eq_true_eq, decide_eq_true_eq, fs_none (Int.le_refl 0)]
  constructor
  · rintro ⟨q1, q2⟩
    unfold wM at q2
    rw [waM_k _ _ _ (by omega)] at q2
    obtain ⟨e1, e2⟩ := wdk_inj _ _ hl hl2 q2
    refine ⟨hk, by omega, fun i i1 i2 => ?_⟩
    have := e2 i.toNat (by omega)
    rw [show s + ((i.toNat : Nat) : Int) = s + i by omega, show (0 : Int) + ((i.toNat : Nat) : Int) = i by omega] at this
    rw [this, decide_eq_true rfl]
    rfl
  · rintro ⟨_, q2, q3⟩
    refine ⟨by omega, ?_⟩
    unfold wM cdw
    rw [waM_k _ _ _ (by omega), q2]
    have key : ∀ k : Nat, (k : Int) ≤ zslen w → wdk b 0 s k = wdk (zsch w) 0 0 k := by
      intro k
      induction k with
      | zero => intro _; rfl
      | succ k ih =>
        intro hk2
        rw [wdk_snoc, wdk_snoc, ih (by omega)]
        have := q3 k (by omega) (by omega)
        have e : b (s + k) = zsch w k := by simpa using this
        rw [e, Int.zero_add]
    exact key _ (by omega)
theorem p8_isWord {x : Int} {w : Nat} {h : Hp} {Q : Int → Prop} {b : Int → Int} {n s : Int} (hx : x = cdw w) (hw : w < 25) (hg : h 185 16 = 0) (ht : tkM h b n s) (h0 : 0 ≤ s) (h1 : s ≤ n) (he : eT b n) (hQ : Q (b2i (isW b n s w))) : mX8_isWord x h Q := by
  obtain ⟨⟨t2, tb⟩, t3, t4, t5, t6, t7⟩ := ht
  obtain ⟨⟨n0, n9⟩, hB⟩ := he
  have hr := te_r (b := b) h0 h1
  unfold mX8_isWord
  refine p8_good1 hg ⟨fun w => absurd w (by decide), fun _ => ?_⟩
  rw [t4, t3, t5]
  refine ⟨fun c => ?_, fun c => ⟨zri (by omega) (by omega), fun d => ?_, fun d => ?_⟩⟩
  · unfold isW at hQ
    rw [decide_eq_false c, Bool.false_and] at hQ; exact hQ
  · have : isW b n s w = false := by
      cases e : isW b n s w with
      | false => rfl
      | true => have := (isW_code hw h0 h1 c).mpr e; omega
    rw [this] at hQ; exact hQ
  · rw [t7 c, zlcmp_0, hx]
    refine ⟨fun e => ?_, fun e => ?_⟩
    · have : isW b n s w = false := by
        cases q : isW b n s w with
        | false => rfl
        | true => exact absurd ((isW_code hw h0 h1 c).mpr q).2 e
      rw [this] at hQ; exact hQ
    · rw [(isW_code hw h0 h1 c).mp ⟨by omega, e⟩] at hQ; exact hQ
theorem p8_isWord0 {x : Int} {h : Hp} {Q : Int → Prop} (hg : ¬ h 185 16 = 0) (hQ : Q 0) : mX8_isWord x h Q := by
  unfold mX8_isWord
  exact p8_good0 hg ⟨fun _ => hQ, fun w => absurd rfl w⟩
/-- codes of the words that the reference names -/
theorem cdws : cdw 0 = 279766 ∧ cdw 1 = 220309 ∧ cdw 2 = 11817 ∧ cdw 3 = 326280 ∧ cdw 4 = 168932 ∧ cdw 5 = 234651388 ∧ cdw 6 = 369932 ∧ cdw 7 = 776813 ∧ cdw 8 = 82780 ∧ cdw 9 = 1132 ∧ cdw 10 = 267413 ∧ cdw 11 = 257011 ∧ cdw 12 = 3379448 ∧ cdw 13 = 10631 ∧ cdw 14 = 168932 ∧ cdw 15 = 218546996 ∧ cdw 16 = 212302449 ∧ cdw 17 = 11263 ∧ cdw 18 = 234651388 ∧ cdw 19 = 6371732056 ∧ cdw 20 = 454037 ∧ cdw 21 = 1831769 ∧ cdw 22 = 9665171 ∧ cdw 23 = 1111 ∧ cdw 24 = 423 := by decide +kernel
/-- two words don't stand at one place -/
theorem isW_kd {b : Int → Int} {n s : Int} {w : Nat} (h : isW b n s w = true) : kd b n s = 1 := by
  unfold isW at h
  rw [Bool.and_eq_true, decide_eq_true_eq] at h
  exact h.1
theorem isG_kd {b : Int → Int} {n s c : Int} (h : isG b n s c = true) : kd b n s = 3 := by
  unfold isG at h
  rw [Bool.and_eq_true, decide_eq_true_eq] at h
  exact h.1
theorem kd_lt {b : Int → Int} {n s : Int} (h : ¬ kd b n s = 0) : s < n := by
  have := kd_0 (b := b) (n := n) (s := s)
  omega
theorem p8_passes {x : Int} {w : Nat} {h : Hp} {Q : Int → Hp → Prop} {b : Int → Int} {n s : Int} (hx : x = cdw w) (hw : w < 25) (hg : h 185 16 = 0) (ht : tkM h b n s) (h0 : 0 ≤ s) (h1 : s ≤ n) (he : eT b n) (hy : isW b n s w = true → ∀ h', tkM h' b n (nx b n s) → keM h h' → (∀ p, p ≠ 185 → h' p = h p) → Q 1 h') (hn : isW b n s w = false → Q 0 h) : mX8_passes x h Q := by
  unfold mX8_passes
  refine p8_isWord hx hw hg ht h0 h1 he ⟨fun c => p8_next he ht h0 h1 fun h' t k f => hy (b2i1.mp c) h' t k f, fun c => hn (b2i0.mp c)⟩
theorem p8_passes0 {x : Int} {h : Hp} {Q : Int → Hp → Prop} (hg : ¬ h 185 16 = 0) (hQ : Q 0 h) : mX8_passes x h Q := by
  unfold mX8_passes
  exact p8_isWord0 hg ⟨fun w => absurd rfl w, fun _ => hQ⟩
theorem p8_wrongs {e : Int} {h : Hp} {Q : Int → Hp → Prop} (hg : h 185 16 = 0) (hQ : ∀ h', h' 185 16 = e → h' 185 17 = h 185 12 → (∀ k, k ≠ 16 → k ≠ 17 → h' 185 k = h 185 k) → (∀ p, p ≠ 185 → h' p = h p) → Q 0 h') : mX8_wrongs e h Q := by
  unfold mX8_wrongs
  refine ⟨fun c => absurd hg c, fun _ a ea c ec => hQ c ?_ ?_ (fun k k1 k2 => ?_) (fun p hp => ?_)⟩
  · rw [ec, hu_ne (by omega), ea]; exact hu_same
  · rw [ec, hu_same, ea, hu_ne (by omega)]
  · rw [ec, hu_ne (by omega), ea, hu_ne (by omega)]
  · rw [ec, hu_q hp, ea, hu_q hp]
theorem p8_wrongs0 {e : Int} {h : Hp} {Q : Int → Hp → Prop} (hg : ¬ h 185 16 = 0) (hQ : Q 0 h) : mX8_wrongs e h Q := by
  unfold mX8_wrongs
  exact ⟨fun _ => hQ, fun c => absurd c hg⟩
