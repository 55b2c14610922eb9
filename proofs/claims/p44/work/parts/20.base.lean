/-! mathematics: loops, counts, first places, rows -/
theorem zri {z : Int} (h1 : -2147483648 ≤ z) (h2 : z ≤ 2147483647) : zr z := ⟨h1, h2⟩
/-- a loop upwards -/
theorem forU (L : Nat → Int → Prop) (a b : Int) (hab : a ≤ b) (hend : ∀ f, L (f + 1) b) (hstep : ∀ f i, a ≤ i → i < b → L f (i + 1) → L (f + 1) i) : ∃ f, L f a := by
  have key : ∀ (n : Nat) (i : Int), a ≤ i → i ≤ b → (b - i).toNat = n → L (n + 1) i := by
    intro n
    induction n with
    | zero =>
      intro i h1 h2 h3
      have : i = b := by omega
      subst this
      exact hend 0
    | succ n ih =>
      intro i h1 h2 h3
      exact hstep (n + 1) i h1 (by omega) (ih (i + 1) (by omega) (by omega) (by omega))
  exact ⟨_, key _ a (Int.le_refl a) hab rfl⟩
/-- a loop downwards -/
theorem forD (L : Nat → Int → Prop) (a b : Int) (hab : b ≤ a) (hend : ∀ f, L (f + 1) b) (hstep : ∀ f i, b < i → i ≤ a → L f (i + (-1)) → L (f + 1) i) : ∃ f, L f a := by
  have key : ∀ (n : Nat) (i : Int), i ≤ a → b ≤ i → (i - b).toNat = n → L (n + 1) i := by
    intro n
    induction n with
    | zero =>
      intro i h1 h2 h3
      have : i = b := by omega
      subst this
      exact hend 0
    | succ n ih =>
      intro i h1 h2 h3
      exact hstep (n + 1) i (by omega) h1 (ih (i + (-1)) (by omega) (by omega) (by omega))
  exact ⟨_, key _ a (Int.le_refl a) hab rfl⟩
def fsN (p : Int → Bool) : Int → Nat → Int
  | _, 0 => -1
  | a, n + 1 => if p a then a else fsN p (a + 1) n
/-- the first place from a on, below b, where p holds; -1 without one -/
def fs (p : Int → Bool) (a b : Int) : Int := fsN p a (b - a).toNat
theorem fs_end {p : Int → Bool} {a b : Int} (h : b ≤ a) : fs p a b = -1 := by
  unfold fs
  rw [show (b - a).toNat = 0 by omega]
  rfl
theorem fs_hit {p : Int → Bool} {a b : Int} (h : a < b) (hp : p a = true) : fs p a b = a := by
  unfold fs
  obtain ⟨n, hn⟩ : ∃ n, (b - a).toNat = n + 1 := ⟨(b - a).toNat - 1, by omega⟩
  rw [hn]
  simp [fsN, hp]
theorem fs_skip {p : Int → Bool} {a b : Int} (h : a < b) (hp : p a = false) : fs p a b = fs p (a + 1) b := by
  unfold fs
  obtain ⟨n, hn⟩ : ∃ n, (b - a).toNat = n + 1 := ⟨(b - a).toNat - 1, by omega⟩
  rw [hn, show (b - (a + 1)).toNat = n by omega]
  simp [fsN, hp]
theorem fs_spec (p : Int → Bool) (a b : Int) : (fs p a b = -1 ∧ ∀ i, a ≤ i → i < b → p i = false) ∨ (a ≤ fs p a b ∧ fs p a b < b ∧ p (fs p a b) = true ∧ ∀ i, a ≤ i → i < fs p a b → p i = false) := by
  have key : ∀ (n : Nat) (a : Int), (b - a).toNat = n → ((fs p a b = -1 ∧ ∀ i, a ≤ i → i < b → p i = false) ∨ (a ≤ fs p a b ∧ fs p a b < b ∧ p (fs p a b) = true ∧ ∀ i, a ≤ i → i < fs p a b → p i = false)) := by
    intro n
    induction n with
    | zero =>
      intro a h
      exact Or.inl ⟨fs_end (by omega), fun i h1 h2 => by omega⟩
    | succ n ih =>
      intro a h
      by_cases hp : p a = true
      · rw [fs_hit (by omega) hp]
        exact Or.inr ⟨Int.le_refl a, by omega, hp, fun i h1 h2 => by omega⟩
      · have hp2 : p a = false := by simpa using hp
        rw [fs_skip (by omega) hp2]
        rcases ih (a + 1) (by omega) with ⟨h1, h2⟩ | ⟨h1, h2, h3, h4⟩
        · refine Or.inl ⟨h1, fun i h3 h4 => ?_⟩
          by_cases e : i = a
          · rw [e]; exact hp2
          · exact h2 i (by omega) h4
        · refine Or.inr ⟨by omega, h2, h3, fun i h5 h6 => ?_⟩
          by_cases e : i = a
          · rw [e]; exact hp2
          · exact h4 i (by omega) h6
  exact key _ a rfl
theorem fs_congr {p q : Int → Bool} {a b : Int} (h : ∀ i, a ≤ i → i < b → p i = q i) : fs p a b = fs q a b := by
  have key : ∀ (n : Nat) (a : Int), (b - a).toNat = n → (∀ i, a ≤ i → i < b → p i = q i) → fs p a b = fs q a b := by
    intro n
    induction n with
    | zero => intro a h _; rw [fs_end (by omega), fs_end (by omega)]
    | succ n ih =>
      intro a h hc
      have e := hc a (Int.le_refl a) (by omega)
      by_cases hp : p a = true
      · rw [fs_hit (by omega) hp, fs_hit (by omega) (e ▸ hp)]
      · have hp2 : p a = false := by simpa using hp
        rw [fs_skip (by omega) hp2, fs_skip (p := q) (by omega) (by rw [← e]; exact hp2)]
        exact ih (a + 1) (by omega) (fun i h1 h2 => hc i (by omega) h2)
  exact key _ a rfl h
theorem fs_none {p : Int → Bool} {a b : Int} (ha : 0 ≤ a) : fs p a b = -1 ↔ ∀ i, a ≤ i → i < b → p i = false := by
  rcases fs_spec p a b with ⟨h1, h2⟩ | ⟨h1, h2, h3, h4⟩
  · exact ⟨fun _ => h2, fun _ => h1⟩
  · refine ⟨fun h => by omega, fun h => ?_⟩
    rw [h _ h1 h2] at h3
    cases h3
theorem fs_is {p : Int → Bool} {a b k : Int} (h1 : a ≤ k) (h2 : k < b) (hk : p k = true) (hb : ∀ i, a ≤ i → i < k → p i = false) : fs p a b = k := by
  rcases fs_spec p a b with ⟨g1, g2⟩ | ⟨g1, g2, g3, g4⟩
  · rw [g2 k h1 h2] at hk; cases hk
  · rcases Int.lt_trichotomy (fs p a b) k with q | q | q
    · rw [hb _ g1 q] at g3; cases g3
    · exact q
    · rw [g4 k h1 q] at hk; cases hk
def cnN (p : Int → Bool) : Int → Nat → Int
  | _, 0 => 0
  | a, n + 1 => (if p a then 1 else 0) + cnN p (a + 1) n
/-- how many places from a on, below b, p holds at -/
def cn (p : Int → Bool) (a b : Int) : Int := cnN p a (b - a).toNat
theorem cn_end {p : Int → Bool} {a b : Int} (h : b ≤ a) : cn p a b = 0 := by
  unfold cn
  rw [show (b - a).toNat = 0 by omega]
  rfl
theorem cn_step {p : Int → Bool} {a b : Int} (h : a < b) : cn p a b = (if p a then 1 else 0) + cn p (a + 1) b := by
  unfold cn
  obtain ⟨n, hn⟩ : ∃ n, (b - a).toNat = n + 1 := ⟨(b - a).toNat - 1, by omega⟩
  rw [hn, show (b - (a + 1)).toNat = n by omega]
  rfl
theorem cn_hit {p : Int → Bool} {a b : Int} (h : a < b) (hp : p a = true) : cn p a b = 1 + cn p (a + 1) b := by rw [cn_step h, if_pos hp]
theorem cn_skip {p : Int → Bool} {a b : Int} (h : a < b) (hp : p a = false) : cn p a b = 0 + cn p (a + 1) b := by rw [cn_step h, if_neg (by rw [hp]; decide)]
/-- induction from the end -/
theorem upI {b : Int} {P : Int → Prop} (h0 : ∀ a, b ≤ a → P a) (hs : ∀ a, a < b → P (a + 1) → P a) : ∀ a, P a := by
  have key : ∀ (n : Nat) (a : Int), (b - a).toNat = n → P a := by
    intro n
    induction n with
    | zero => intro a h; exact h0 a (by omega)
    | succ n ih => intro a h; exact hs a (by omega) (ih (a + 1) (by omega))
  exact fun a => key _ a rfl
theorem cn_r (p : Int → Bool) {b : Int} : ∀ a, a ≤ b → 0 ≤ cn p a b ∧ cn p a b ≤ b - a := by
  refine upI (b := b) (fun a h h2 => ?_) (fun a h ih h2 => ?_)
  · rw [cn_end h]; omega
  · have := ih (by omega)
    rw [cn_step h]
    by_cases hp : p a = true
    · rw [if_pos hp]; omega
    · rw [if_neg hp]; omega
theorem cn_congr {p q : Int → Bool} {b : Int} : ∀ a, (∀ i, a ≤ i → i < b → p i = q i) → cn p a b = cn q a b := by
  refine upI (b := b) (fun a h _ => ?_) (fun a h ih hc => ?_)
  · rw [cn_end h, cn_end h]
  · rw [cn_step h, cn_step h, hc a (Int.le_refl a) h, ih (fun i h1 h2 => hc i (by omega) h2)]
theorem cn_pos {p : Int → Bool} {b : Int} : ∀ a, 0 < cn p a b ↔ ∃ i, a ≤ i ∧ i < b ∧ p i = true := by
  refine upI (b := b) (fun a h => ?_) (fun a h ih => ?_)
  · rw [cn_end h]
    exact ⟨fun h => by omega, fun ⟨i, h1, h2, _⟩ => by omega⟩
  · rw [cn_step h]
    have hr := cn_r p (b := b) (a + 1) (by omega)
    by_cases hp : p a = true
    · rw [if_pos hp]
      exact ⟨fun _ => ⟨a, Int.le_refl a, h, hp⟩, fun _ => by omega⟩
    · rw [if_neg hp, Int.zero_add, ih]
      constructor
      · rintro ⟨i, h1, h2, h3⟩
        exact ⟨i, by omega, h2, h3⟩
      · rintro ⟨i, h1, h2, h3⟩
        refine ⟨i, ?_, h2, h3⟩
        by_cases e : i = a
        · subst e; exact absurd h3 hp
        · omega
theorem cn_two {p : Int → Bool} {b : Int} : ∀ a, 1 < cn p a b ↔ ∃ i j, a ≤ i ∧ i < j ∧ j < b ∧ p i = true ∧ p j = true := by
  refine upI (b := b) (fun a h => ?_) (fun a h ih => ?_)
  · rw [cn_end h]
    exact ⟨fun h => by omega, fun ⟨i, j, h1, h2, h3, _⟩ => by omega⟩
  · rw [cn_step h]
    by_cases hp : p a = true
    · rw [if_pos hp]
      constructor
      · intro h1
        obtain ⟨j, h2, h3, h4⟩ := (cn_pos (p := p) (b := b) (a + 1)).mp (by omega)
        exact ⟨a, j, Int.le_refl a, by omega, h3, hp, h4⟩
      · rintro ⟨i, j, h1, h2, h3, h4, h5⟩
        have := (cn_pos (p := p) (b := b) (a + 1)).mpr ⟨j, by omega, h3, h5⟩
        omega
    · rw [if_neg hp, Int.zero_add, ih]
      constructor
      · rintro ⟨i, j, h1, h2, h3, h4, h5⟩
        exact ⟨i, j, by omega, h2, h3, h4, h5⟩
      · rintro ⟨i, j, h1, h2, h3, h4, h5⟩
        refine ⟨i, j, ?_, h2, h3, h4, h5⟩
        by_cases e : i = a
        · subst e; exact absurd h4 hp
        · omega
def b2i (b : Bool) : Int := if b then 1 else 0
theorem b2i_t : b2i true = 1 := rfl
theorem b2i_f : b2i false = 0 := rfl
/-! reads behind writes -/
theorem rw_same {h : Hp} {p : Nat} {i z : Int} : rd (wr h p i z) p i = z := hu_same
theorem rw_ne {h : Hp} {p : Nat} {i j z : Int} (hi : 0 ≤ i) (hj : 0 ≤ j) (hn : j ≠ i) : rd (wr h p i z) p j = rd h p j := hu_ne (fun q => hn (by omega))
theorem rw_np {h : Hp} {p q : Nat} {i j z : Int} (hn : q ≠ p) : rd (wr h p i z) q j = rd h q j := hu_np hn
theorem wr_np {h : Hp} {p q k : Nat} {i z : Int} (hn : q ≠ p) : wr h p i z q k = h q k := hu_np hn

