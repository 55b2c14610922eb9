/-! what an answer must be, by its kind; a state's part -/
theorem zin_at {w : Cond} (i : Nat) (h : lw_tbl[i]? = some w) (h2 : zok w = true) : zIn w := ⟨List.mem_of_getElem? h, h2⟩
abbrev qPI (h : Hp) (Q : Int → Prop) : Option AV → Hp → Prop := fun r h' => h = h' ∧ ∃ z, r = some (aI z) ∧ Q z
abbrev qPZ (h : Hp) (Q : Int → Prop) : Option AV → Hp → Prop := fun r h' => h = h' ∧ ∃ z, r = some (aI z) ∧ (z = 0 ∨ z = 1) ∧ Q z
abbrev qPL (h : Hp) (Q : Int → Prop) : Option AV → Hp → Prop := fun r h' => h = h' ∧ ∃ z, r = some (aL z) ∧ Q z
abbrev qPF (h : Hp) (Q : UInt32 → Prop) : Option AV → Hp → Prop := fun r h' => h = h' ∧ ∃ z, r = some (aF z) ∧ Q z
abbrev qPD (h : Hp) (Q : UInt64 → Prop) : Option AV → Hp → Prop := fun r h' => h = h' ∧ ∃ z, r = some (aD z) ∧ Q z
abbrev qPV (h : Hp) (Q : Prop) : Option AV → Hp → Prop := fun r h' => h = h' ∧ r = none ∧ Q
abbrev qI (Q : Int → Hp → Prop) : Option AV → Hp → Prop := fun r h' => ∃ z, r = some (aI z) ∧ Q z h'
abbrev qZ (Q : Int → Hp → Prop) : Option AV → Hp → Prop := fun r h' => ∃ z, r = some (aI z) ∧ (z = 0 ∨ z = 1) ∧ Q z h'
abbrev qL (Q : Int → Hp → Prop) : Option AV → Hp → Prop := fun r h' => ∃ z, r = some (aL z) ∧ Q z h'
abbrev qF (Q : UInt32 → Hp → Prop) : Option AV → Hp → Prop := fun r h' => ∃ z, r = some (aF z) ∧ Q z h'
abbrev qD (Q : UInt64 → Hp → Prop) : Option AV → Hp → Prop := fun r h' => ∃ z, r = some (aD z) ∧ Q z h'
abbrev qV (Q : Hp → Prop) : Option AV → Hp → Prop := fun r h' => r = none ∧ Q h'
abbrev xN : Nat → Hp → Prop := fun _ _ => False
abbrev xP (h : Hp) (QX : Nat → Prop) : Nat → Hp → Prop := fun x h' => h = h' ∧ QX x
def zsub : List (Option AV) → List (Option AV) → Prop
  | [], _ => True
  | none :: r, [] => zsub r []
  | none :: r, _ :: t => zsub r t
  | some _ :: _, [] => False
  | some v :: r, o :: t => o = some v ∧ zsub r t
theorem zsub_get : ∀ (l t : List (Option AV)) (i : Nat) (v : AV), zsub l t → l[i]? = some (some v) → t[i]? = some (some v) := by
  intro l
  induction l with
  | nil => intro t i v _ h; simp at h
  | cons o r ih =>
    intro t i v hs h
    cases o with
    | none =>
      cases t with
      | nil =>
        simp only [zsub] at hs
        cases i with
        | zero => simp at h
        | succ i =>
          rw [List.getElem?_cons_succ] at h
          have := ih [] i v hs h
          simp at this
      | cons u t =>
        simp only [zsub] at hs
        cases i with
        | zero => simp at h
        | succ i =>
          rw [List.getElem?_cons_succ] at h ⊢
          exact ih t i v hs h
    | some w =>
      cases t with
      | nil => simp only [zsub] at hs
      | cons u t =>
        simp only [zsub] at hs
        cases i with
        | zero =>
          rw [List.getElem?_cons_zero] at h ⊢
          rw [hs.1]
          exact h
        | succ i =>
          rw [List.getElem?_cons_succ] at h ⊢
          exact ih t i v hs.2 h
theorem zV_sub {a : ZC} {M : ZM} {k n pc : Nat} {ls ls2 : List (Option AV)} {st : List AV} {h : Hp} (hs : zsub ls2 ls) (kk : zV a M k n pc ls2 st h) : zV a M k n pc ls st h := by
  refine zV_less (ls2 := ls2) (fun i hi => ?_) kk
  cases ho : ls2[i]? with
  | none => rw [List.getElem?_eq_none_iff] at ho; omega
  | some o =>
    cases o with
    | none => exact Or.inl rfl
    | some v => exact Or.inr (by rw [zsub_get ls2 ls i v hs ho])
/-- where an object of the nets stands -/
def zisN (o : Nat) : Prop := o % 13 = 0 ∧ o < 169
theorem zisN_0 : zisN 0 := ⟨by decide, by decide⟩
theorem zisN_13 : zisN 13 := ⟨by decide, by decide⟩
theorem zisN_26 : zisN 26 := ⟨by decide, by decide⟩
theorem zisN_hist {i : Int} (h : 0 ≤ i ∧ i < 10) : zisN (39 + 13 * Int.toNat i) := by
  unfold zisN
  omega
theorem zN_lt0 {o : Nat} (h : zisN o) : o < 185 := by unfold zisN at h; omega
theorem zN_lt {o : Nat} (h : zisN o) {k : Nat} (hk : k ≤ 12) : o + k < 185 := by unfold zisN at h; omega
theorem zN_cases {P : Nat → Prop} {o : Nat} (h : zisN o) (hp : P 0 ∧ P 13 ∧ P 26 ∧ P 39 ∧ P 52 ∧ P 65 ∧ P 78 ∧ P 91 ∧ P 104 ∧ P 117 ∧ P 130 ∧ P 143 ∧ P 156) : P o := by
  obtain ⟨p0, p1, p2, p3, p4, p5, p6, p7, p8, p9, p10, p11, p12⟩ := hp
  unfold zisN at h
  have : o = 0 ∨ o = 13 ∨ o = 26 ∨ o = 39 ∨ o = 52 ∨ o = 65 ∨ o = 78 ∨ o = 91 ∨ o = 104 ∨ o = 117 ∨ o = 130 ∨ o = 143 ∨ o = 156 := by omega
  rcases this with rfl | rfl | rfl | rfl | rfl | rfl | rfl | rfl | rfl | rfl | rfl | rfl | rfl <;> assumption
theorem zN_o {o : Nat} (h : zisN o) : zT[o]? = some (.inr (3, [0, 0, 0, 0, 0, 0, 0, 2, o + 1 + 3, o + 2 + 3, o + 3 + 3, o + 4 + 3, o + 5 + 3, o + 6 + 3, o + 7 + 3, o + 8 + 3, o + 9 + 3, o + 10 + 3, o + 11 + 3, o + 12 + 3])) :=
  zN_cases (P := fun o => zT[o]? = some (.inr (3, [0, 0, 0, 0, 0, 0, 0, 2, o + 1 + 3, o + 2 + 3, o + 3 + 3, o + 4 + 3, o + 5 + 3, o + 6 + 3, o + 7 + 3, o + 8 + 3, o + 9 + 3, o + 10 + 3, o + 11 + 3, o + 12 + 3]))) h ⟨rfl, rfl, rfl, rfl, rfl, rfl, rfl, rfl, rfl, rfl, rfl, rfl, rfl⟩
theorem zN_a1 {o : Nat} (h : zisN o) : zT[o + 1]? = some (.inl (2, 40)) := zN_cases (P := fun o => zT[o + 1]? = some (.inl (2, 40))) h ⟨rfl, rfl, rfl, rfl, rfl, rfl, rfl, rfl, rfl, rfl, rfl, rfl, rfl⟩
theorem zN_a2 {o : Nat} (h : zisN o) : zT[o + 2]? = some (.inl (0, 40)) := zN_cases (P := fun o => zT[o + 2]? = some (.inl (0, 40))) h ⟨rfl, rfl, rfl, rfl, rfl, rfl, rfl, rfl, rfl, rfl, rfl, rfl, rfl⟩
theorem zN_a3 {o : Nat} (h : zisN o) : zT[o + 3]? = some (.inl (0, 40)) := zN_cases (P := fun o => zT[o + 3]? = some (.inl (0, 40))) h ⟨rfl, rfl, rfl, rfl, rfl, rfl, rfl, rfl, rfl, rfl, rfl, rfl, rfl⟩
theorem zN_a4 {o : Nat} (h : zisN o) : zT[o + 4]? = some (.inl (0, 40)) := zN_cases (P := fun o => zT[o + 4]? = some (.inl (0, 40))) h ⟨rfl, rfl, rfl, rfl, rfl, rfl, rfl, rfl, rfl, rfl, rfl, rfl, rfl⟩
theorem zN_a5 {o : Nat} (h : zisN o) : zT[o + 5]? = some (.inl (0, 40)) := zN_cases (P := fun o => zT[o + 5]? = some (.inl (0, 40))) h ⟨rfl, rfl, rfl, rfl, rfl, rfl, rfl, rfl, rfl, rfl, rfl, rfl, rfl⟩
theorem zN_a6 {o : Nat} (h : zisN o) : zT[o + 6]? = some (.inl (0, 40)) := zN_cases (P := fun o => zT[o + 6]? = some (.inl (0, 40))) h ⟨rfl, rfl, rfl, rfl, rfl, rfl, rfl, rfl, rfl, rfl, rfl, rfl, rfl⟩
theorem zN_a7 {o : Nat} (h : zisN o) : zT[o + 7]? = some (.inl (0, 40)) := zN_cases (P := fun o => zT[o + 7]? = some (.inl (0, 40))) h ⟨rfl, rfl, rfl, rfl, rfl, rfl, rfl, rfl, rfl, rfl, rfl, rfl, rfl⟩
theorem zN_a8 {o : Nat} (h : zisN o) : zT[o + 8]? = some (.inl (0, 400)) := zN_cases (P := fun o => zT[o + 8]? = some (.inl (0, 400))) h ⟨rfl, rfl, rfl, rfl, rfl, rfl, rfl, rfl, rfl, rfl, rfl, rfl, rfl⟩
theorem zN_a9 {o : Nat} (h : zisN o) : zT[o + 9]? = some (.inl (0, 30)) := zN_cases (P := fun o => zT[o + 9]? = some (.inl (0, 30))) h ⟨rfl, rfl, rfl, rfl, rfl, rfl, rfl, rfl, rfl, rfl, rfl, rfl, rfl⟩
theorem zN_a10 {o : Nat} (h : zisN o) : zT[o + 10]? = some (.inl (0, 30)) := zN_cases (P := fun o => zT[o + 10]? = some (.inl (0, 30))) h ⟨rfl, rfl, rfl, rfl, rfl, rfl, rfl, rfl, rfl, rfl, rfl, rfl, rfl⟩
theorem zN_a11 {o : Nat} (h : zisN o) : zT[o + 11]? = some (.inl (0, 30)) := zN_cases (P := fun o => zT[o + 11]? = some (.inl (0, 30))) h ⟨rfl, rfl, rfl, rfl, rfl, rfl, rfl, rfl, rfl, rfl, rfl, rfl, rfl⟩
theorem zN_a12 {o : Nat} (h : zisN o) : zT[o + 12]? = some (.inl (0, 30)) := zN_cases (P := fun o => zT[o + 12]? = some (.inl (0, 30))) h ⟨rfl, rfl, rfl, rfl, rfl, rfl, rfl, rfl, rfl, rfl, rfl, rfl, rfl⟩
