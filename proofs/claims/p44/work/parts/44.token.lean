/-! tokens: positions in a text, and both sides' readings of it -/
def rn (p : Int → Bool) (b : Int → Int) (a n : Int) : Int := if fs (fun i => !p (b i)) a n = -1 then n else fs (fun i => !p (b i)) a n
theorem rn_r {p : Int → Bool} {b : Int → Int} {a n : Int} (h0 : 0 ≤ a) (h : a ≤ n) : a ≤ rn p b a n ∧ rn p b a n ≤ n := by
  have := fs_r (p := fun i => !p (b i)) (a := a) (b := n) h0
  unfold rn
  split <;> omega
theorem rn_in {p : Int → Bool} {b : Int → Int} {a n i : Int} (h0 : 0 ≤ a) (h1 : a ≤ i) (h2 : i < rn p b a n) : p (b i) = true := by
  unfold rn at h2
  rcases fs_spec (fun i => !p (b i)) a n with ⟨e, hh⟩ | ⟨e1, e2, e3, e4⟩
  · rw [if_pos e] at h2
    have := hh i h1 h2
    simpa using this
  · rw [if_neg (by omega)] at h2
    have := e4 i h1 h2
    simpa using this
theorem rn_at {p : Int → Bool} {b : Int → Int} {a n : Int} (h0 : 0 ≤ a) (h2 : rn p b a n < n) : p (b (rn p b a n)) = false := by
  unfold rn at h2 ⊢
  rcases fs_spec (fun i => !p (b i)) a n with ⟨e, hh⟩ | ⟨e1, e2, e3, e4⟩
  · rw [if_pos e] at h2; omega
  · rw [if_neg (by omega)]
    simpa using e3
def pS (z : Int) : Bool := decide (z = 32) || decide (z = 10)
def pL (z : Int) : Bool := decide (97 ≤ z) && decide (z ≤ 122)
def pD (z : Int) : Bool := decide (48 ≤ z) && decide (z ≤ 57)
def ws (b : Int → Int) (n a : Int) : Int := rn pS b a n
def kd (b : Int → Int) (n s : Int) : Int := if n ≤ s then 0 else if pL (b s) = true then 1 else if pD (b s) = true then 2 else 3
def te (b : Int → Int) (n s : Int) : Int := if n ≤ s then s else if pL (b s) = true then rn pL b s n else if pD (b s) = true then rn pD b s n else s + 1
def nx (b : Int → Int) (n s : Int) : Int := ws b n (te b n s)
def vaM (b : Int → Int) : Int → Int → Nat → Int
  | acc, _, 0 => acc
  | acc, i, k + 1 => vaM b (if acc ≤ 9999999 then 10 * acc + b i - 48 else acc) (i + 1) k
def vaC (b : Int → Int) : Int → Int → Nat → Int
  | acc, _, 0 => acc
  | acc, i, k + 1 => vaC b (min 10000 (acc * 10 + b i - 48)) (i + 1) k
def waM (b : Int → Int) (s : Int) : Int → Int → Nat → Int
  | acc, _, 0 => acc
  | acc, i, k + 1 => waM b s (if 10 ≤ i - s then acc else 27 * acc + b i - 96) (i + 1) k
def vM (b : Int → Int) (n s : Int) : Int := vaM b 0 s (te b n s - s).toNat
def vC (b : Int → Int) (n s : Int) : Int := vaC b 0 s (te b n s - s).toNat
def wM (b : Int → Int) (n s : Int) : Int := waM b s 0 s (te b n s - s).toNat
/-- a text -/
def eT (b : Int → Int) (n : Int) : Prop := (0 ≤ n ∧ n ≤ 900) ∧ ∀ i, 0 ≤ i → i < n → 0 ≤ b i ∧ b i ≤ 255
def byC (h : Hp) (b : Int → Int) (n : Int) : Prop := ∀ i, 0 ≤ i → i < n → rd h 177 i = bt (b i)
def tkC (h : Hp) (b : Int → Int) (n s : Int) : Prop := (h 176 2 = n ∧ byC h b n) ∧ h 176 3 = te b n s ∧ h 176 4 = kd b n s ∧ h 176 5 = s ∧ h 176 6 = (if kd b n s = 2 then vC b n s else 0)
theorem bt_lo {z k : Int} (hz : 0 ≤ z ∧ z ≤ 255) (hk : 0 ≤ k ∧ k ≤ 127) : bt z = k ↔ z = k := by unfold bt; split <;> omega
theorem bt_ge {z k : Int} (hz : 0 ≤ z ∧ z ≤ 255) (hk : 0 ≤ k ∧ k ≤ 127) : bt z < k ∨ z < k ↔ bt z < k := by unfold bt; split <;> omega
theorem bt_in {z : Int} (hz : 0 ≤ z ∧ z ≤ 255) : (97 ≤ bt z ∧ bt z ≤ 122 ↔ 97 ≤ z ∧ z ≤ 122) ∧ (48 ≤ bt z ∧ bt z ≤ 57 ↔ 48 ≤ z ∧ z ≤ 57) := by unfold bt; split <;> omega
theorem p6_isLetter {z : Int} {h : Hp} {Q : Int → Prop} (hz : 0 ≤ z ∧ z ≤ 255) (hQ : Q (b2i (pL z))) : mX6_isLetter (bt z) h Q := by
  have e := (bt_in hz).1
  unfold mX6_isLetter
  unfold pL at hQ
  refine ⟨fun c => ?_, fun c => ⟨fun d => ?_, fun d => ?_⟩⟩
  · rw [← Bool.decide_and, decide_eq_false (by omega)] at hQ; exact hQ
  · rw [← Bool.decide_and, decide_eq_false (by omega)] at hQ; exact hQ
  · rw [← Bool.decide_and, decide_eq_true (by omega)] at hQ; exact hQ
theorem p6_isDigit {z : Int} {h : Hp} {Q : Int → Prop} (hz : 0 ≤ z ∧ z ≤ 255) (hQ : Q (b2i (pD z))) : mX6_isDigit (bt z) h Q := by
  have e := (bt_in hz).2
  unfold mX6_isDigit
  unfold pD at hQ
  refine ⟨fun c => ?_, fun c => ⟨fun d => ?_, fun d => ?_⟩⟩
  · rw [← Bool.decide_and, decide_eq_false (by omega)] at hQ; exact hQ
  · rw [← Bool.decide_and, decide_eq_false (by omega)] at hQ; exact hQ
  · rw [← Bool.decide_and, decide_eq_true (by omega)] at hQ; exact hQ
theorem vaC_r {b : Int → Int} : ∀ (k : Nat) (acc i : Int), 0 ≤ acc → acc ≤ 10000 → (∀ j, i ≤ j → j < i + k → pD (b j) = true) → 0 ≤ vaC b acc i k ∧ vaC b acc i k ≤ 10000 := by
  intro k
  induction k with
  | zero => intro acc i h1 h2 _; exact ⟨h1, h2⟩
  | succ k ih =>
    intro acc i h1 h2 hd
    have hb := hd i (by omega) (by omega)
    unfold pD at hb
    rw [Bool.and_eq_true, decide_eq_true_eq, decide_eq_true_eq] at hb
    exact ih _ _ (by omega) (by omega) (fun j j1 j2 => hd j (by omega) (by omega))
/-- the class's number beside the reference's -/
theorem va_CM {b : Int → Int} : ∀ (k : Nat) (c m i : Int), ((c = m ∧ 0 ≤ m ∧ m < 10000) ∨ (c = 10000 ∧ 10000 ≤ m ∧ m ≤ 100000000)) → (∀ j, i ≤ j → j < i + k → pD (b j) = true) → ((vaC b c i k = vaM b m i k ∧ 0 ≤ vaM b m i k ∧ vaM b m i k < 10000) ∨ (vaC b c i k = 10000 ∧ 10000 ≤ vaM b m i k ∧ vaM b m i k ≤ 100000000)) := by
  intro k
  induction k with
  | zero => intro c m i h _; exact h
  | succ k ih =>
    intro c m i h hd
    have hb := hd i (by omega) (by omega)
    unfold pD at hb
    rw [Bool.and_eq_true, decide_eq_true_eq, decide_eq_true_eq] at hb
    refine ih _ _ _ ?_ (fun j j1 j2 => hd j (by omega) (by omega))
    split <;> omega
theorem te_r {b : Int → Int} {n s : Int} (h0 : 0 ≤ s) (h1 : s ≤ n) : s ≤ te b n s ∧ te b n s ≤ n := by
  unfold te
  split
  · omega
  · split
    · exact rn_r h0 h1
    · split
      · exact rn_r h0 h1
      · omega
theorem te_lt {b : Int → Int} {n s : Int} (h0 : 0 ≤ s) (h1 : s < n) : s < te b n s := by
  unfold te
  rw [if_neg (by omega)]
  have key : ∀ p : Int → Bool, p (b s) = true → s < rn p b s n := fun p hp => by
    have := rn_r (p := p) (b := b) h0 (show s ≤ n by omega)
    rcases Int.lt_or_eq_of_le this.1 with c | c
    · exact c
    · have := rn_at (p := p) (b := b) (a := s) (n := n) h0 (by omega)
      rw [← c, hp] at this
      cases this
  split
  · exact key pL (by assumption)
  · split
    · exact key pD (by assumption)
    · omega
theorem te_in {b : Int → Int} {n s : Int} (h0 : 0 ≤ s) (hk : kd b n s = 1) {i : Int} (h1 : s ≤ i) (h2 : i < te b n s) : pL (b i) = true := by
  unfold kd at hk
  unfold te at h2
  split at hk
  · omega
  · rw [if_neg (by assumption)] at h2
    split at hk
    · rw [if_pos (by assumption)] at h2
      exact rn_in h0 h1 h2
    · split at hk <;> omega
theorem te_dg {b : Int → Int} {n s : Int} (h0 : 0 ≤ s) (hk : kd b n s = 2) {i : Int} (h1 : s ≤ i) (h2 : i < te b n s) : pD (b i) = true := by
  unfold kd at hk
  unfold te at h2
  split at hk
  · omega
  · rw [if_neg (by assumption)] at h2
    split at hk
    · omega
    · rw [if_neg (by assumption)] at h2
      split at hk
      · rw [if_pos (by assumption)] at h2
        exact rn_in h0 h1 h2
      · omega
theorem v_CM {b : Int → Int} {n s : Int} (h0 : 0 ≤ s) (h1 : s ≤ n) (hk : kd b n s = 2) : (vC b n s = vM b n s ∧ 0 ≤ vM b n s ∧ vM b n s < 10000) ∨ (vC b n s = 10000 ∧ 10000 ≤ vM b n s ∧ vM b n s ≤ 100000000) := by
  have := te_r (b := b) h0 h1
  exact va_CM _ 0 0 s (by omega) (fun j j1 j2 => te_dg h0 hk j1 (by omega))
theorem kd_r {b : Int → Int} {n s : Int} : 0 ≤ kd b n s ∧ kd b n s ≤ 3 := by
  unfold kd
  split
  · omega
  · split
    · omega
    · split <;> omega
theorem kd_0 {b : Int → Int} {n s : Int} : kd b n s = 0 ↔ n ≤ s := by
  unfold kd
  split
  · simp; assumption
  · split
    · constructor
      · intro q; omega
      · intro q; omega
    · split
      · constructor <;> intro q <;> omega
      · constructor <;> intro q <;> omega
theorem nx_r {b : Int → Int} {n s : Int} (h0 : 0 ≤ s) (h1 : s ≤ n) : s ≤ nx b n s ∧ nx b n s ≤ n := by
  have a := te_r (b := b) h0 h1
  have := rn_r (p := pS) (b := b) (a := te b n s) (n := n) (by omega) (by omega)
  unfold nx ws
  omega
theorem nx_lt {b : Int → Int} {n s : Int} (h0 : 0 ≤ s) (h1 : s < n) : s < nx b n s := by
  have a := te_r (b := b) h0 (show s ≤ n by omega)
  have a2 := te_lt (b := b) h0 h1
  have := rn_r (p := pS) (b := b) (a := te b n s) (n := n) (by omega) (by omega)
  unfold nx ws
  omega
/-- the class steps to the token behind a place -/
theorem p6_adv {h : Hp} {Q : Hp → Prop} {b : Int → Int} {n a : Int} (he : eT b n) (hn : h 176 2 = n) (hb : byC h b n) (ha : h 176 3 = a) (h0 : 0 ≤ a) (h1 : a ≤ n) (hQ : ∀ h', tkC h' b n (ws b n a) → h' 176 1 = h 176 1 → (∀ p, p ≠ 176 → h' p = h p) → Q h') : mX6_advance h Q := by
  obtain ⟨⟨n0, n9⟩, hB⟩ := he
  have hw := rn_r (p := pS) (b := b) h0 h1
  -- behind the blanks
  have tok : ∀ g : Hp, g 176 2 = n → g 176 3 = ws b n a → g 176 1 = h 176 1 → (∀ p, p ≠ 176 → g p = h p) → mX6_advance_b52 Q g := by
    intro g g2 g3 g1 gf
    have hs0 : 0 ≤ ws b n a := by unfold ws; omega
    have hs1 : ws b n a ≤ n := by unfold ws; omega
    generalize ws b n a = s at *
    unfold mX6_advance_b52
    intro a1 e1 a2 e2
    have f2 : ∀ p, p ≠ 176 → a2 p = h p := fun p hp => by rw [e2, hu_q hp, e1, hu_q hp, gf p hp]
    have v : a2 176 1 = h 176 1 ∧ a2 176 2 = n ∧ a2 176 3 = s ∧ a2 176 5 = s ∧ a2 176 6 = 0 := by
      rw [e2, hu_ne (by omega), hu_ne (by omega), hu_ne (by omega), hu_ne (by omega), hu_same, e1, hu_ne (by omega), hu_ne (by omega), hu_ne (by omega), hu_same]
      exact ⟨g1, g2, g3, g3, rfl⟩
    obtain ⟨v1, v2, v3, v5, v6⟩ := v
    have hb2 : byC a2 b n := fun i i0 i1 => by rw [rd_same (f2 177 (by omega))]; exact hb i i0 i1
    rw [v2, v3]
    refine ⟨fun hs => ⟨⟨by omega, by omega⟩, ?_⟩, fun hs => fun a3 e3 => ?_⟩
    · rw [hb2 s hs0 hs]
      have hk : kd b n s = if pL (b s) = true then 1 else if pD (b s) = true then 2 else 3 := by unfold kd; rw [if_neg (by omega)]
      have ht : te b n s = if pL (b s) = true then rn pL b s n else if pD (b s) = true then rn pD b s n else s + 1 := by unfold te; rw [if_neg (by omega)]
      refine p6_isLetter (hB s hs0 hs) ⟨fun c => ⟨⟨by omega, by omega⟩, ?_⟩, fun c => ?_⟩
      · have c' := b2i0.mp c
        rw [c', if_neg (by decide)] at hk ht
        refine p6_isDigit (hB s hs0 hs) ⟨fun d => fun a3 e3 => ?_, fun d => fun a3 e3 => ?_⟩
        · have d' := b2i0.mp d
          rw [d', if_neg (by decide)] at hk ht
          have w3 : a3 176 3 = s := by rw [e3, hu_ne (by omega)]; exact v3
          rw [w3]
          refine ⟨zri (by omega) (by omega), fun a4 e4 => hQ a4 ⟨⟨?_, ?_⟩, ?_, ?_, ?_, ?_⟩ ?_ (fun p hp => by rw [e4, hu_q hp, e3, hu_q hp, f2 p hp])⟩
          · rw [e4, hu_ne (by omega), e3, hu_ne (by omega)]; exact v2
          · intro i i0 i1
            rw [rd_same (show a4 177 = a2 177 by rw [e4, hu_q (by omega), e3, hu_q (by omega)])]
            exact hb2 i i0 i1
          · rw [e4, hu_same, ht]
          · rw [e4, hu_ne (by omega), e3, hu_same, hk]
          · rw [e4, hu_ne (by omega), e3, hu_ne (by omega)]; exact v5
          · rw [e4, hu_ne (by omega), e3, hu_ne (by omega), hk, if_neg (by omega)]; exact v6
          · rw [e4, hu_ne (by omega), e3, hu_ne (by omega)]; exact v1
        · have d' := b2i1.mp d
          rw [d', if_pos rfl] at hk ht
          have hr := te_r (b := b) hs0 hs1
          obtain ⟨f, hf⟩ := forU (fun f i => ∀ g : Hp, g 176 3 = i → 0 ≤ g 176 6 → g 176 6 ≤ 10000 → vaC b (g 176 6) i (te b n s - i).toNat = vC b n s → g 176 1 = h 176 1 → g 176 2 = n → g 176 4 = 2 → g 176 5 = s → (∀ p, p ≠ 176 → g p = h p) → mX6_advance_b163 Q f g) s (te b n s) hr.1 (fun f g q3 q6 q6' qv q1 q2 q4 q5 qf => by
              unfold mX6_advance_b163
              have hb3 : byC g b n := fun i i0 i1 => by rw [rd_same (qf 177 (by omega))]; exact hb i i0 i1
              rw [Int.sub_self] at qv
              have fin : Q g := hQ g ⟨⟨q2, hb3⟩, q3, by rw [q4, hk], q5, by rw [if_pos hk, ← qv]; rfl⟩ q1 qf
              rw [q2, q3]
              refine ⟨fun _ => fin, fun w => ⟨⟨by omega, by omega⟩, ?_⟩⟩
              rw [hb3 _ (by omega) (by omega)]
              refine p6_isDigit (hB _ (by omega) (by omega)) ⟨fun _ => fin, fun w2 => ?_⟩
              have w2' := b2i1.mp w2
              have := rn_at (p := pD) (b := b) (a := s) (n := n) hs0 (by omega)
              rw [← ht, w2'] at this
              cases this) (fun f i i1 i2 ih g q3 q6 q6' qv q1 q2 q4 q5 qf => by
              unfold mX6_advance_b163
              have hb3 : byC g b n := fun i i0 i1 => by rw [rd_same (qf 177 (by omega))]; exact hb i i0 i1
              have hd := te_dg hs0 (by rw [hk]) i1 i2
              have hd2 := hd
              unfold pD at hd2
              rw [Bool.and_eq_true, decide_eq_true_eq, decide_eq_true_eq] at hd2
              rw [q2, q3]
              refine ⟨fun w => by omega, fun _ => ⟨⟨by omega, by omega⟩, ?_⟩⟩
              rw [hb3 i (by omega) (by omega)]
              refine p6_isDigit (hB i (by omega) (by omega)) ?_
              rw [hd, (bt_lo (k := b i) (hB i (by omega) (by omega)) (by omega)).mpr rfl]
              refine ⟨fun w => absurd w (by decide), fun _ => ⟨zri (by omega) (by omega), ⟨by omega, by omega⟩, zri (by omega) (by omega), zri (by omega) (by omega), fun g2 w2 => ?_⟩⟩
              have z3 : g2 176 3 = i := by rw [w2, hu_ne (by omega)]; exact q3
              rw [z3]
              refine ⟨zri (by omega) (by omega), fun g3 w3 => ih g3 (by rw [w3]; exact hu_same) ?_ ?_ ?_ ?_ ?_ ?_ ?_ (fun p hp => by rw [w3, hu_q hp, w2, hu_q hp, qf p hp])⟩
              · rw [w3, hu_ne (by omega), w2, hu_same]; omega
              · rw [w3, hu_ne (by omega), w2, hu_same]; omega
              · rw [w3, hu_ne (by omega), w2, hu_same]
                rw [show (te b n s - i).toNat = (te b n s - (i + 1)).toNat + 1 by omega] at qv
                exact qv
              · rw [w3, hu_ne (by omega), w2, hu_ne (by omega)]; exact q1
              · rw [w3, hu_ne (by omega), w2, hu_ne (by omega)]; exact q2
              · rw [w3, hu_ne (by omega), w2, hu_ne (by omega)]; exact q4
              · rw [w3, hu_ne (by omega), w2, hu_ne (by omega)]; exact q5)
          have A : ∀ k, k ≠ 4 → a3 176 k = a2 176 k := fun k hk => by rw [e3]; exact hu_ne (by omega)
          refine ⟨f, hf a3 (by rw [A 3 (by omega)]; exact v3) (by rw [A 6 (by omega), v6]; omega) (by rw [A 6 (by omega), v6]; omega) (by rw [A 6 (by omega), v6]; rfl) (by rw [A 1 (by omega)]; exact v1) (by rw [A 2 (by omega)]; exact v2) (by rw [e3]; exact hu_same) (by rw [A 5 (by omega)]; exact v5) (fun p hp => by rw [e3, hu_q hp, f2 p hp])⟩
      · have c' := b2i1.mp c
        rw [c', if_pos rfl] at hk ht
        have hr := te_r (b := b) hs0 hs1
        intro a3 e3
        obtain ⟨f, hf⟩ := forU (fun f i => ∀ g : Hp, g 176 3 = i → g 176 6 = 0 → g 176 1 = h 176 1 → g 176 2 = n → g 176 4 = 1 → g 176 5 = s → (∀ p, p ≠ 176 → g p = h p) → mX6_advance_b104 Q f g) s (te b n s) hr.1 (fun f g q3 q6 q1 q2 q4 q5 qf => by
            unfold mX6_advance_b104
            have hb3 : byC g b n := fun i i0 i1 => by rw [rd_same (qf 177 (by omega))]; exact hb i i0 i1
            have fin : Q g := hQ g ⟨⟨q2, hb3⟩, q3, by rw [q4, hk], q5, by rw [if_neg (by omega)]; exact q6⟩ q1 qf
            rw [q2, q3]
            refine ⟨fun _ => fin, fun w => ⟨⟨by omega, by omega⟩, ?_⟩⟩
            rw [hb3 _ (by omega) (by omega)]
            refine p6_isLetter (hB _ (by omega) (by omega)) ⟨fun _ => fin, fun w2 => ?_⟩
            have w2' := b2i1.mp w2
            have := rn_at (p := pL) (b := b) (a := s) (n := n) hs0 (by omega)
            rw [← ht, w2'] at this
            cases this) (fun f i i1 i2 ih g q3 q6 q1 q2 q4 q5 qf => by
            unfold mX6_advance_b104
            have hb3 : byC g b n := fun i i0 i1 => by rw [rd_same (qf 177 (by omega))]; exact hb i i0 i1
            have hd := te_in hs0 (by rw [hk]) i1 i2
            rw [q2, q3]
            refine ⟨fun w => by omega, fun _ => ⟨⟨by omega, by omega⟩, ?_⟩⟩
            rw [hb3 i (by omega) (by omega)]
            refine p6_isLetter (hB i (by omega) (by omega)) ?_
            rw [hd]
            refine ⟨fun w => absurd w (by decide), fun _ => ⟨zri (by omega) (by omega), fun g2 w2 => ih g2 (by rw [w2]; exact hu_same) ?_ ?_ ?_ ?_ ?_ (fun p hp => by rw [w2, hu_q hp, qf p hp])⟩⟩
            · rw [w2, hu_ne (by omega)]; exact q6
            · rw [w2, hu_ne (by omega)]; exact q1
            · rw [w2, hu_ne (by omega)]; exact q2
            · rw [w2, hu_ne (by omega)]; exact q4
            · rw [w2, hu_ne (by omega)]; exact q5)
        have A : ∀ k, k ≠ 4 → a3 176 k = a2 176 k := fun k hk => by rw [e3]; exact hu_ne (by omega)
        exact ⟨f, hf a3 (by rw [A 3 (by omega)]; exact v3) (by rw [A 6 (by omega)]; exact v6) (by rw [A 1 (by omega)]; exact v1) (by rw [A 2 (by omega)]; exact v2) (by rw [e3]; exact hu_same) (by rw [A 5 (by omega)]; exact v5) (fun p hp => by rw [e3, hu_q hp, f2 p hp])⟩
    · have hk : kd b n s = 0 := kd_0.mpr (by omega)
      have ht : te b n s = s := by unfold te; rw [if_pos (by omega)]
      refine hQ a3 ⟨⟨?_, ?_⟩, ?_, ?_, ?_, ?_⟩ ?_ (fun p hp => by rw [e3, hu_q hp, f2 p hp])
      · rw [e3, hu_ne (by omega)]; exact v2
      · intro i i0 i1
        rw [rd_same (show a3 177 = a2 177 by rw [e3, hu_q (by omega)])]
        exact hb2 i i0 i1
      · rw [e3, hu_ne (by omega), ht]; exact v3
      · rw [e3, hu_same, hk]
      · rw [e3, hu_ne (by omega)]; exact v5
      · rw [e3, hu_ne (by omega), hk, if_neg (by omega)]; exact v6
      · rw [e3, hu_ne (by omega)]; exact v1
  unfold mX6_advance
  obtain ⟨f, hf⟩ := forU (fun f i => ∀ g : Hp, g 176 3 = i → g 176 1 = h 176 1 → g 176 2 = n → (∀ p, p ≠ 176 → g p = h p) → mX6_advance_b0 Q f g) a (ws b n a) hw.1 (fun f g q3 q1 q2 qf => by
      unfold mX6_advance_b0
      have go := tok g q2 q3 q1 qf
      have hb3 : byC g b n := fun i i0 i1 => by rw [rd_same (qf 177 (by omega))]; exact hb i i0 i1
      have hw2 : ws b n a ≤ n := hw.2
      have hw1 : a ≤ ws b n a := hw.1
      rw [q2, q3]
      refine ⟨fun _ => go, fun w => ⟨⟨by omega, by omega⟩, ?_⟩⟩
      rw [hb3 _ (by omega) (by omega), bt_lo (hB _ (by omega) (by omega)) (by omega), bt_lo (hB _ (by omega) (by omega)) (by omega)]
      have hp := rn_at (p := pS) (b := b) (a := a) (n := n) h0 (show rn pS b a n < n by unfold ws at w; omega)
      have hp2 : pS (b (ws b n a)) = false := hp
      unfold pS at hp2
      rw [Bool.or_eq_false_iff, decide_eq_false_iff_not, decide_eq_false_iff_not] at hp2
      exact ⟨fun w2 => absurd w2 hp2.1, fun _ => ⟨⟨by omega, by omega⟩, fun _ => go, fun w2 => absurd w2 hp2.2⟩⟩) (fun f i i1 i2 ih g q3 q1 q2 qf => by
      unfold mX6_advance_b0 mX6_advance_b39
      have hb3 : byC g b n := fun i i0 i1 => by rw [rd_same (qf 177 (by omega))]; exact hb i i0 i1
      have hw2 : ws b n a ≤ n := hw.2
      rw [q2, q3]
      have nxt : zr (i + 1) ∧ ∀ h45 : Hp, h45 = hu g 176 3 (i + 1) → mX6_advance_b0 Q f h45 := ⟨zri (by omega) (by omega), fun g2 w2 => ih g2 (by rw [w2]; exact hu_same) (by rw [w2, hu_ne (by omega)]; exact q1) (by rw [w2, hu_ne (by omega)]; exact q2) (fun p hp => by rw [w2, hu_q hp, qf p hp])⟩
      refine ⟨fun w => by omega, fun _ => ⟨⟨by omega, by omega⟩, ?_⟩⟩
      rw [hb3 _ (by omega) (by omega), bt_lo (hB _ (by omega) (by omega)) (by omega), bt_lo (hB _ (by omega) (by omega)) (by omega)]
      have hp := rn_in (p := pS) (b := b) (a := a) (n := n) h0 i1 i2
      unfold pS at hp
      rw [Bool.or_eq_true, decide_eq_true_eq, decide_eq_true_eq] at hp
      exact ⟨fun _ => nxt, fun w2 => ⟨⟨by omega, by omega⟩, fun w3 => by omega, fun _ => nxt⟩⟩)
  exact ⟨f, hf h ha rfl hn (fun _ _ => rfl)⟩
theorem p6_advance {h : Hp} {Q : Hp → Prop} {b : Int → Int} {n s : Int} (he : eT b n) (ht : tkC h b n s) (h0 : 0 ≤ s) (h1 : s ≤ n) (hQ : ∀ h', tkC h' b n (nx b n s) → h' 176 1 = h 176 1 → (∀ p, p ≠ 176 → h' p = h p) → Q h') : mX6_advance h Q := by
  have := te_r (b := b) h0 h1
  exact p6_adv he ht.1.1 ht.1.2 ht.2.1 (by omega) (by omega) hQ

