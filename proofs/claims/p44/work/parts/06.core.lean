/-! The light layer: one heap of whole numbers, places for addresses, and a row an instruction that moves between states of it. -/
abbrev Hp : Type := Nat → Nat → Int
abbrev EE : Type := (Nat → Nat) × va_G × (Nat → ClassId) × Nat
abbrev AV : Type := Int ⊕ Int ⊕ Nat ⊕ UInt32 ⊕ UInt64 ⊕ Nat
abbrev TM : Type := (Nat × Nat) ⊕ (Nat × List Nat)
abbrev aI (z : Int) : AV := .inl z
abbrev aL (z : Int) : AV := .inr (.inl z)
abbrev aR (p : Nat) : AV := .inr (.inr (.inl p))
abbrev aF (u : UInt32) : AV := .inr (.inr (.inr (.inl u)))
abbrev aD (u : UInt64) : AV := .inr (.inr (.inr (.inr (.inl u))))
abbrev aA (q : Nat) : AV := .inr (.inr (.inr (.inr (.inr q))))
def cv (E : EE) : AV → Value := fun v => match v with
  | .inl z => .int (Int32.ofInt z)
  | .inr (.inl z) => .long (Int64.ofInt z)
  | .inr (.inr (.inl p)) => .ref (E.1 p)
  | .inr (.inr (.inr (.inl u))) => .float u
  | .inr (.inr (.inr (.inr (.inl u)))) => .double u
  | .inr (.inr (.inr (.inr (.inr 0)))) => .null
  | .inr (.inr (.inr (.inr (.inr (q + 1))))) => .ref q
def zr (z : Int) : Prop := -2147483648 ≤ z ∧ z ≤ 2147483647
def zr6 (z : Int) : Prop := -9223372036854775808 ≤ z ∧ z ≤ 9223372036854775807
def zcan (v : AV) : Prop := match v with
  | .inl z => zr z
  | .inr (.inl z) => zr6 z
  | _ => True
def zwide (v : AV) : Bool := match v with
  | .inr (.inl _) => true
  | .inr (.inr (.inr (.inr (.inl _)))) => true
  | _ => false
theorem zcat (E : EE) (v : AV) : (cv E v).category = if zwide v then 2 else 1 := by
  rcases v with z | z | p | u | u | q
  · rfl
  · rfl
  · rfl
  · rfl
  · rfl
  · cases q <;> rfl
/-- what a place holds: arrays (kind, length): 0 int, 1 byte, 2 long, 3 the saved nets; objects (class, fields): 0 int, 1 long, 2 boolean, q + 3 the place q -/
def zT : List TM := [
  .inr (3, [0, 0, 0, 0, 0, 0, 0, 2, 4, 5, 6, 7, 8, 9, 10, 11, 12, 13, 14, 15]),
  .inl (2, 40),
  .inl (0, 40),
  .inl (0, 40),
  .inl (0, 40),
  .inl (0, 40),
  .inl (0, 40),
  .inl (0, 40),
  .inl (0, 400),
  .inl (0, 30),
  .inl (0, 30),
  .inl (0, 30),
  .inl (0, 30),
  .inr (3, [0, 0, 0, 0, 0, 0, 0, 2, 17, 18, 19, 20, 21, 22, 23, 24, 25, 26, 27, 28]),
  .inl (2, 40),
  .inl (0, 40),
  .inl (0, 40),
  .inl (0, 40),
  .inl (0, 40),
  .inl (0, 40),
  .inl (0, 40),
  .inl (0, 400),
  .inl (0, 30),
  .inl (0, 30),
  .inl (0, 30),
  .inl (0, 30),
  .inr (3, [0, 0, 0, 0, 0, 0, 0, 2, 30, 31, 32, 33, 34, 35, 36, 37, 38, 39, 40, 41]),
  .inl (2, 40),
  .inl (0, 40),
  .inl (0, 40),
  .inl (0, 40),
  .inl (0, 40),
  .inl (0, 40),
  .inl (0, 40),
  .inl (0, 400),
  .inl (0, 30),
  .inl (0, 30),
  .inl (0, 30),
  .inl (0, 30),
  .inr (3, [0, 0, 0, 0, 0, 0, 0, 2, 43, 44, 45, 46, 47, 48, 49, 50, 51, 52, 53, 54]),
  .inl (2, 40),
  .inl (0, 40),
  .inl (0, 40),
  .inl (0, 40),
  .inl (0, 40),
  .inl (0, 40),
  .inl (0, 40),
  .inl (0, 400),
  .inl (0, 30),
  .inl (0, 30),
  .inl (0, 30),
  .inl (0, 30),
  .inr (3, [0, 0, 0, 0, 0, 0, 0, 2, 56, 57, 58, 59, 60, 61, 62, 63, 64, 65, 66, 67]),
  .inl (2, 40),
  .inl (0, 40),
  .inl (0, 40),
  .inl (0, 40),
  .inl (0, 40),
  .inl (0, 40),
  .inl (0, 40),
  .inl (0, 400),
  .inl (0, 30),
  .inl (0, 30),
  .inl (0, 30),
  .inl (0, 30),
  .inr (3, [0, 0, 0, 0, 0, 0, 0, 2, 69, 70, 71, 72, 73, 74, 75, 76, 77, 78, 79, 80]),
  .inl (2, 40),
  .inl (0, 40),
  .inl (0, 40),
  .inl (0, 40),
  .inl (0, 40),
  .inl (0, 40),
  .inl (0, 40),
  .inl (0, 400),
  .inl (0, 30),
  .inl (0, 30),
  .inl (0, 30),
  .inl (0, 30),
  .inr (3, [0, 0, 0, 0, 0, 0, 0, 2, 82, 83, 84, 85, 86, 87, 88, 89, 90, 91, 92, 93]),
  .inl (2, 40),
  .inl (0, 40),
  .inl (0, 40),
  .inl (0, 40),
  .inl (0, 40),
  .inl (0, 40),
  .inl (0, 40),
  .inl (0, 400),
  .inl (0, 30),
  .inl (0, 30),
  .inl (0, 30),
  .inl (0, 30),
  .inr (3, [0, 0, 0, 0, 0, 0, 0, 2, 95, 96, 97, 98, 99, 100, 101, 102, 103, 104, 105, 106]),
  .inl (2, 40),
  .inl (0, 40),
  .inl (0, 40),
  .inl (0, 40),
  .inl (0, 40),
  .inl (0, 40),
  .inl (0, 40),
  .inl (0, 400),
  .inl (0, 30),
  .inl (0, 30),
  .inl (0, 30),
  .inl (0, 30),
  .inr (3, [0, 0, 0, 0, 0, 0, 0, 2, 108, 109, 110, 111, 112, 113, 114, 115, 116, 117, 118, 119]),
  .inl (2, 40),
  .inl (0, 40),
  .inl (0, 40),
  .inl (0, 40),
  .inl (0, 40),
  .inl (0, 40),
  .inl (0, 40),
  .inl (0, 400),
  .inl (0, 30),
  .inl (0, 30),
  .inl (0, 30),
  .inl (0, 30),
  .inr (3, [0, 0, 0, 0, 0, 0, 0, 2, 121, 122, 123, 124, 125, 126, 127, 128, 129, 130, 131, 132]),
  .inl (2, 40),
  .inl (0, 40),
  .inl (0, 40),
  .inl (0, 40),
  .inl (0, 40),
  .inl (0, 40),
  .inl (0, 40),
  .inl (0, 400),
  .inl (0, 30),
  .inl (0, 30),
  .inl (0, 30),
  .inl (0, 30),
  .inr (3, [0, 0, 0, 0, 0, 0, 0, 2, 134, 135, 136, 137, 138, 139, 140, 141, 142, 143, 144, 145]),
  .inl (2, 40),
  .inl (0, 40),
  .inl (0, 40),
  .inl (0, 40),
  .inl (0, 40),
  .inl (0, 40),
  .inl (0, 40),
  .inl (0, 400),
  .inl (0, 30),
  .inl (0, 30),
  .inl (0, 30),
  .inl (0, 30),
  .inr (3, [0, 0, 0, 0, 0, 0, 0, 2, 147, 148, 149, 150, 151, 152, 153, 154, 155, 156, 157, 158]),
  .inl (2, 40),
  .inl (0, 40),
  .inl (0, 40),
  .inl (0, 40),
  .inl (0, 40),
  .inl (0, 40),
  .inl (0, 40),
  .inl (0, 400),
  .inl (0, 30),
  .inl (0, 30),
  .inl (0, 30),
  .inl (0, 30),
  .inr (3, [0, 0, 0, 0, 0, 0, 0, 2, 160, 161, 162, 163, 164, 165, 166, 167, 168, 169, 170, 171]),
  .inl (2, 40),
  .inl (0, 40),
  .inl (0, 40),
  .inl (0, 40),
  .inl (0, 40),
  .inl (0, 40),
  .inl (0, 40),
  .inl (0, 400),
  .inl (0, 30),
  .inl (0, 30),
  .inl (0, 30),
  .inl (0, 30),
  .inr (7, [3, 16, 29, 2, 173, 175, 179, 181, 182, 186, 0]),
  .inr (0, [174, 0, 0]),
  .inl (3, 10),
  .inr (5, [176, 177, 178]),
  .inl (0, 251),
  .inl (0, 251),
  .inl (0, 251),
  .inr (6, [180, 0, 0, 0, 0, 0, 0]),
  .inl (1, 900),
  .inr (2, [179, 16, 0, 0]),
  .inr (4, [179, 183, 0, 2, 0, 184, 0, 185, 2]),
  .inl (0, 203),
  .inl (2, 203),
  .inl (0, 40),
  .inr (1, [187, 0]),
  .inl (1, 32),
  .inr (8, [189, 0]),
  .inl (0, 1000),
  .inl (4, 0),
  .inl (4, 0)]
def hu (h : Hp) (p k : Nat) (z : Int) : Hp := fun p' k' => if p' = p ∧ k' = k then z else h p' k'
theorem hu_same {h : Hp} {p k : Nat} {z : Int} : hu h p k z p k = z := by simp [hu]
theorem hu_ne {h : Hp} {p k p' k' : Nat} {z : Int} (hn : ¬ (p' = p ∧ k' = k)) : hu h p k z p' k' = h p' k' := by simp [hu, hn]
theorem hu_np {h : Hp} {p k p' k' : Nat} {z : Int} (hn : p' ≠ p) : hu h p k z p' k' = h p' k' := by simp [hu, hn]
def zf (E : EE) (h : Hp) (p k t : Nat) : Value := match t with
  | 0 => .int (Int32.ofInt (h p k))
  | 1 => .long (Int64.ofInt (h p k))
  | 2 => .int (Int32.ofInt (h p k))
  | q + 3 => .ref (E.1 q)
def zfs (E : EE) (h : Hp) (p : Nat) : Nat → List Nat → List Value
  | _, [] => []
  | k, t :: r => zf E h p k t :: zfs E h p (k + 1) r
theorem zfs_get (E : EE) (h : Hp) (p : Nat) : ∀ (l : List Nat) (k i : Nat), (zfs E h p k l)[i]? = (l[i]?).map (zf E h p (k + i)) := by
  intro l
  induction l with
  | nil => intro k i; simp [zfs]
  | cons t r ih =>
    intro k i
    cases i with
    | zero => simp [zfs]
    | succ i =>
      simp only [zfs, List.getElem?_cons_succ]
      rw [ih (k + 1) i]
      congr 2
      omega
theorem zfs_len (E : EE) (h : Hp) (p : Nat) : ∀ (l : List Nat) (k : Nat), (zfs E h p k l).length = l.length := by
  intro l
  induction l with
  | nil => intro k; rfl
  | cons t r ih => intro k; simp [zfs, ih]
theorem zf_congr {E : EE} {h h' : Hp} {p k : Nat} (e : h' p k = h p k) (t : Nat) : zf E h' p k t = zf E h p k t := by
  unfold zf
  rw [e]
theorem zfs_congr {E : EE} {h h' : Hp} {p : Nat} (l : List Nat) (k : Nat) (e : ∀ j, h' p j = h p j) : zfs E h' p k l = zfs E h p k l := by
  apply List.ext_getElem?
  intro i
  rw [zfs_get, zfs_get]
  cases l[i]? with
  | none => rfl
  | some t => simp only [Option.map_some]; rw [zf_congr (e _)]
theorem zfs_set {E : EE} {h : Hp} {p : Nat} (l : List Nat) {i t : Nat} {z : Int} (hi : l[i]? = some t) : (zfs E h p 0 l).set i (zf E (hu h p i z) p i t) = zfs E (hu h p i z) p 0 l := by
  apply List.ext_getElem?
  intro j
  rw [zfs_get, List.getElem?_set]
  have hlt : i < l.length := (List.getElem?_eq_some_iff.mp hi).1
  by_cases hj : i = j
  · subst hj
    rw [if_pos rfl, if_pos (by rw [zfs_len]; exact hlt), hi]
    simp
  · rw [if_neg hj, zfs_get]
    cases l[j]? with
    | none => rfl
    | some t' =>
      simp only [Option.map_some]
      rw [zf_congr (h := h) (hu_ne (by omega))]
def zcell (E : EE) (h : Hp) (p : Nat) (t : TM) : va_E := match t with
  | .inl (0, n) => .inl (E.2.2.1 0, n, .inl (fun j => Int32.ofInt (h p j)))
  | .inl (1, n) => .inl (E.2.2.1 1, n, .inl (fun j => Int32.ofInt (h p j)))
  | .inl (2, n) => .inl (E.2.2.1 2, n, .inr (.inl (fun j => Int64.ofInt (h p j))))
  | .inl (3, n) => .inl (E.2.2.1 3, n, .inr (.inr (.inr (.inr (fun j => some (E.1 (39 + 13 * j)))))))
  | .inl (_, _) => .inl (E.2.2.1 (h p 100001).toNat, (h p 100000).toNat, .inl (fun j => Int32.ofInt (h p j)))
  | .inr (ci, l) => .inr (ci, zfs E h p 0 l)
def zat (E : EE) (h : Hp) (p : Nat) : va_E := match zT[p]? with
  | some t => zcell E h p t
  | none => .inr (0, [])
theorem zat_of {E : EE} {h : Hp} {p : Nat} {t : TM} (ht : zT[p]? = some t) : zat E h p = zcell E h p t := by
  unfold zat
  rw [ht]
theorem zcell_congr {E : EE} {h h' : Hp} {p : Nat} (e : ∀ j, h' p j = h p j) (t : TM) : zcell E h' p t = zcell E h p t := by
  have e2 : h' p = h p := funext e
  unfold zcell
  rw [e2]
  split <;> first | rfl | rw [zfs_congr _ _ e]
theorem zat_congr {E : EE} {h h' : Hp} {p : Nat} (e : ∀ j, h' p j = h p j) : zat E h' p = zat E h p := by
  unfold zat
  split
  · exact zcell_congr e _
  · rfl
def zws (E : EE) (N : Nat) (h : Hp) : va_W := (List.range N).map fun p => (E.1 p, zat E h p)
theorem zws_get {E : EE} {N : Nat} {h : Hp} {p : Nat} (hp : p < N) : (zws E N h)[p]? = some (E.1 p, zat E h p) := by
  unfold zws
  rw [List.getElem?_map, List.getElem?_range hp]
  rfl
theorem zws_in {E : EE} {N : Nat} {h : Hp} {p : Nat} {q : Nat × va_E} (hq : (zws E N h)[p]? = some q) : p < N ∧ q = (E.1 p, zat E h p) := by
  unfold zws at hq
  rw [List.getElem?_map] at hq
  by_cases hp : p < N
  · rw [List.getElem?_range hp] at hq
    exact ⟨hp, (Option.some.inj hq).symm⟩
  · rw [List.getElem?_eq_none (by simp; omega)] at hq
    cases hq
theorem zws_set {E : EE} {N : Nat} {h h' : Hp} {p : Nat} {c : va_E} (hc : c = zat E h' p) (ho : ∀ p', p' ≠ p → ∀ j, h' p' j = h p' j) : (zws E N h).set p (E.1 p, c) = zws E N h' := by
  apply List.ext_getElem?
  intro j
  rw [List.getElem?_set]
  by_cases hj : p = j
  · subst hj
    rw [if_pos rfl]
    by_cases hN : p < N
    · rw [if_pos (by simp [zws]; exact hN), zws_get hN, hc]
    · rw [if_neg (by simp [zws]; omega)]
      unfold zws
      rw [List.getElem?_eq_none (by simp; omega)]
  · rw [if_neg hj]
    by_cases hN : j < N
    · rw [zws_get hN, zws_get hN, zat_congr (fun k => ho j (fun q => hj q.symm) k)]
    · unfold zws
      rw [List.getElem?_eq_none (by simp; omega), List.getElem?_eq_none (by simp; omega)]
/-- the kind of a cell's row: 0 int, 1 long, 2 boolean, 3 byte -/
def zty (p k : Nat) : Nat := match zT[p]? with
  | some (.inl (1, _)) => 3
  | some (.inl (2, _)) => 1
  | some (.inl _) => 0
  | some (.inr (_, l)) => match l[k]? with
    | some 1 => 1
    | some 2 => 2
    | _ => 0
  | none => 0
def zin (t : Nat) (z : Int) : Prop := match t with
  | 1 => zr6 z
  | 2 => z = 0 ∨ z = 1
  | 3 => -128 ≤ z ∧ z ≤ 127
  | _ => zr z
def zhok (h : Hp) : Prop := ∀ p k, zin (zty p k) (h p k)
theorem zhok_hu {h : Hp} {p k : Nat} {z : Int} (hh : zhok h) (hz : zin (zty p k) z) : zhok (hu h p k z) := by
  intro p' k'
  by_cases e : p' = p ∧ k' = k
  · obtain ⟨rfl, rfl⟩ := e
    rw [hu_same]
    exact hz
  · rw [hu_ne e]
    exact hh p' k'
def zge (E : EE) : Nat → Prop := fun q => E.2.2.2 ≤ q
def zAD (E : EE) (N : Nat) : Prop := (∀ i j, i < N → j < N → E.1 i = E.1 j → i = j) ∧ ∀ i, i < N → E.2.2.2 ≤ E.1 i
theorem zAD.D {E : EE} {N : Nat} (h : zAD E N) (hp : Hp) : va_D (zge E) (zws E N hp) := by
  refine ⟨fun i j p q hi hj e => ?_, fun k q hk => ?_⟩
  · obtain ⟨h1, rfl⟩ := zws_in hi
    obtain ⟨h2, rfl⟩ := zws_in hj
    exact h.1 i j h1 h2 e
  · obtain ⟨h1, rfl⟩ := zws_in hk
    exact h.2 k h1
def ztys (E : EE) : List (ClassId × FieldType) := [(E.2.2.1 0, .int), (E.2.2.1 1, .byte), (E.2.2.1 2, .long), (E.2.2.1 3, .object "NetMerge$Nets"), (E.2.2.1 4, .boolean)]
def zWd (E : EE) (N : Nat) (h : Hp) (H : Heap) : Prop := va_P E.2.1 vwCl (zws E N h) H
/-- the tables' words that every method may use -/
def zok (w : Cond) : Bool := (w.onTables && goodWord w) || (match w with
  | .fieldLinkNest _ _ _ _ _ _ => true
  | .methodLinkNest _ _ _ _ => true
  | .castable _ _ => true
  | .declares _ => true
  | _ => false)
def zKW (U : State) : Prop := ∀ w ∈ lw_tbl, zok w = true → va_Nw w U
theorem zok_tab {w : Cond} (h : zok w = true) : w.onTables = true := by
  unfold zok at h
  rw [Bool.or_eq_true] at h
  rcases h with h | h
  · rw [Bool.and_eq_true] at h
    exact h.1
  · split at h <;> first | rfl | cases h
theorem zKW_warm {s U : State} (hW : s.WarmedH U.vm) (h : zKW s) : zKW U := by
  intro w hw ho
  have h1 := h w hw ho
  unfold zok at ho
  rw [Bool.or_eq_true] at ho
  rcases ho with hg | hg
  · rw [Bool.and_eq_true] at hg
    exact word_at hW (good_of_word hg.2) h1
  · split at hg
    · exact va_Nw.warmF hW h1
    · exact va_Nw.warmM hW h1
    · exact va_Nw.warmC hW h1
    · exact va_Nw.warmD hW h1
    · cases hg
theorem zKW_use {U : State} {w : Cond} {A : Array Value} (h : zKW U) (hw : w ∈ lw_tbl) (ho : zok w = true) : w.before A U = true := va_Nw.use (zok_tab ho) (h w hw ho)
/-- the texts that the code names: class, entry, text, bytes -/
def zSD : List (String × Nat × String × List Int32) := [
  ("NetMerge$Loader", 63, "nets", [110, 101, 116, 115]),
  ("NetMerge$Loader", 76, "keep", [107, 101, 101, 112]),
  ("NetMerge$Loader", 90, "per", [112, 101, 114]),
  ("NetMerge$Loader", 94, "pool", [112, 111, 111, 108]),
  ("NetMerge$Loader", 37, "host", [104, 111, 115, 116]),
  ("NetMerge$Loader", 131, "pinned", [112, 105, 110, 110, 101, 100]),
  ("NetMerge$Loader", 46, "rule", [114, 117, 108, 101]),
  ("NetMerge$Loader", 139, "allow", [97, 108, 108, 111, 119]),
  ("NetMerge$Loader", 141, "deny", [100, 101, 110, 121]),
  ("NetMerge$Loader", 150, "any", [97, 110, 121]),
  ("NetMerge$Loader", 51, "move", [109, 111, 118, 101]),
  ("NetMergeLaw", 27, " ", [32]),
  ("NetMergeLaw", 44, "nets keep", [110, 101, 116, 115, 32, 107, 101, 101, 112]),
  ("NetMergeLaw", 50, " per", [32, 112, 101, 114]),
  ("NetMergeLaw", 52, " pool", [32, 112, 111, 111, 108]),
  ("NetMergeLaw", 54, ";", [59]),
  ("NetMergeLaw", 56, "host ", [104, 111, 115, 116, 32]),
  ("NetMergeLaw", 61, " pinned;", [32, 112, 105, 110, 110, 101, 100, 59]),
  ("NetMergeLaw", 63, "rule", [114, 117, 108, 101]),
  ("NetMergeLaw", 65, " allow", [32, 97, 108, 108, 111, 119]),
  ("NetMergeLaw", 67, " deny", [32, 100, 101, 110, 121]),
  ("NetMergeLaw", 69, " any", [32, 97, 110, 121])]
def zSN : Nat := 22
def zsd (w : Nat) : String × Nat × String × List Int32 := zSD.getD w ("", 0, "", [])
def zslen (w : Nat) : Int := (zsd w).2.2.2.length
def zsch (w : Nat) (i : Int) : Int := ((zsd w).2.2.2.getD i.toNat 0).toInt
def zST (E : EE) (U : State) (H : Heap) : Prop := va_Z "java/lang/String" "COMPACT_STRINGS" "Z" (.int 1) (zge E) U H ∧ va_Zq "jdk/internal/util/Preconditions" "SIOOBE_FORMATTER" "Ljava/util/function/BiFunction;" (zge E) U H ∧
  (∀ w, w < zSN → vk_R (zsd w).1 (zsd w).2.1 (zsd w).2.2.1 (E.1 (1000 + w)) U ∧ va_O "java/lang/String" (E.1 (1000 + w)) (zge E) U H ∧ va_OF "java/lang/String" "coder" "B" (.int 0) (E.1 (1000 + w)) (zge E) U H ∧
    va_OF "java/lang/String" "value" "[B" (.ref (E.1 (2000 + w))) (E.1 (1000 + w)) (zge E) U H ∧ va_T .byte (E.1 (2000 + w)) (zsd w).2.2.2.length (fun j => .int ((zsd w).2.2.2.getD j 0)) (zge E) U H) ∧
  (∃ xs : Nat → Int32, va_X (E.1 999) (E.1 998) xs U H) ∧ E.1 998 ≤ 260 ∧ E.1 999 < H.size ∧ E.1 999 < E.2.2.2 ∧ (∀ ty : FieldType, ty ∈ [FieldType.int, .boolean] → ∀ A : Array Value, (Cond.arrayClass ty).before A U = true)
theorem zST_same {E : EE} {u U : State} {H : Heap} (hvm : u.vm = U.vm) (h : zST E u H) : zST E U H := by
  have ha : u.vm.Alike U.vm := by rw [hvm]; exact Vm.Alike.refl _
  obtain ⟨h1, h2, h3, ⟨xs, h4⟩, h5, h6, h7, h8⟩ := h
  refine ⟨h1.moved ha, h2.moved ha, fun w hw => ?_, ⟨xs, h4.moved ha⟩, h5, h6, h7, fun ty ht A => word_at (by rw [← hvm]; exact State.WarmedH.refl u) (Or.inr ⟨_, rfl⟩) (h8 ty ht A)⟩
  obtain ⟨a1, a2, a3, a4, a5⟩ := h3 w hw
  exact ⟨vk_R.same hvm.symm a1, a2.moved ha, a3.moved ha, a4.moved ha, a5.moved ha⟩
theorem zST_warm {E : EE} {s U : State} {H H1 : Heap} (hW : s.WarmedH U.vm) (hz : H.size ≤ H1.size) (hq : ∀ a : Nat, a < H.size → ¬ zge E a → H1[a]? = H[a]?) (h : zST E s H) : zST E U H1 := by
  have ha := hW.alike
  obtain ⟨h1, h2, h3, ⟨xs, h4⟩, h5, h6, h7, h8⟩ := h
  refine ⟨(h1.moved ha).kept hq, (h2.moved ha).kept hq, fun w hw => ?_, ⟨xs, (h4.moved ha).kept (hq _ h6 (fun c => absurd h7 (Nat.not_lt.mpr c)))⟩, h5, Nat.lt_of_lt_of_le h6 hz, h7, fun ty ht A => word_at hW (Or.inr ⟨_, rfl⟩) (h8 ty ht A)⟩
  obtain ⟨a1, a2, a3, a4, a5⟩ := h3 w hw
  exact ⟨vk_R.warm hW a1, (a2.moved ha).kept hq, (a3.moved ha).kept hq, (a4.moved ha).kept hq, (a5.moved ha).kept hq⟩
/-- what is known of a state's tables, and of its cells that are older than the system -/
def zKK (l : Launch) (E : EE) (U : State) : Prop := va_K E.2.1 vwCl (ztys E) U ∧ zKW U ∧ l.stackTraces = false ∧ E.2.2.2 ≤ U.heap.size ∧
  vx_Zq Bundle.tN "UNASSIGNED_STACK" Bundle.steD (zge E) U U.heap ∧ vx_Zq Bundle.tN "SUPPRESSED_SENTINEL" Bundle.listD (zge E) U U.heap ∧ True ∧ zST E U U.heap
def zQ (E : EE) (N : Nat) (Q : Option AV → Hp → Prop) : Array Value → State → Outcome → State → Prop := fun _ st oc t =>
  (∃ (r : Option AV) (h' : Hp), oc = .returned (r.map (cv E)) ∧ (∀ v, r = some v → zcan v) ∧ zhok h' ∧ Q r h' ∧ zWd E N h' t.heap) ∧ va_F (zge E) st t
def zen (k : Nat) : String := match k with
  | 0 => "java/lang/IllegalArgumentException"
  | _ => "java/util/NoSuchElementException"
def zX (E : EE) (N : Nat) (QX : Nat → Hp → Prop) : String → State → State → Prop := fun nm st t =>
  (∃ (k : Nat) (h' : Hp), nm = zen k ∧ zhok h' ∧ QX k h' ∧ zWd E N h' t.heap) ∧ va_F (zge E) st t
def zlo (d : Nat) : Nat := if d = 13 then 490 else 37 * d
theorem zlo_ge (d : Nat) : 37 * d ≤ zlo d := by
  unfold zlo
  split <;> omega
theorem zlo_up {d d' : Nat} (h : d' + 1 ≤ d) (h2 : d ≤ 13) : zlo d' + 37 ≤ zlo d := by
  have h3 := zlo_ge d
  have h4 : zlo d' = 37 * d' := if_neg (by omega)
  omega
def zrm (d mc ms : Nat) : Room := { frames := d, cells := mc, slots := ms, locals := zlo d }
def zPc (l : Launch) (E : EE) (N : Nat) (as : List AV) (h : Hp) : Array Value → State → Prop := va_Pc (as.map (cv E)) (fun U => zWd E N h U.heap ∧ zKK l E U)
/-- a method's contract: from these arguments and this heap it comes back with Q, or throws with QX; at N places -/
def zSpA (l : Launch) (y : MethodName) (cc : ByteArray) (mL : Nat) (ret : Option FieldType) (d mc ms : Nat) (as : List AV) (h : Hp) (Q : Option AV → Hp → Prop) (QX : Nat → Hp → Prop) (N : Nat) : Prop :=
  (∀ v ∈ as, zcan v) → zhok h → ∀ E : EE, zAD E N → vx_Met l y [Cond.code y cc mL ret] (zrm d mc ms) (zPc l E N as h) (zQ E N Q) (zX E N QX) mc ms (zge E)
def zSp (l : Launch) (y : MethodName) (cc : ByteArray) (mL : Nat) (ret : Option FieldType) (mn d mc ms : Nat) (as : List AV) (h : Hp) (Q : Option AV → Hp → Prop) (QX : Nat → Hp → Prop) : Prop :=
  ∀ N, mn ≤ N → zSpA l y cc mL ret d mc ms as h Q QX N

/-- places that may have been laid anew since the method's entry -/
def zEx (G : EE × Nat) (E : EE) (N : Nat) : Prop := G.2 ≤ N ∧ (∀ p, p < G.2 → E.1 p = G.1.1 p) ∧ (∀ p, p ≠ 187 → p ≠ 188 → E.1 p = G.1.1 p) ∧ E.2 = G.1.2
theorem zEx_rf {E : EE} {N : Nat} : zEx (E, N) E N := ⟨Nat.le_refl _, fun _ _ => rfl, fun _ _ _ => rfl, rfl⟩
theorem zT_ref : (zT.all fun t => match t with | .inr (_, l) => l.all (fun x => decide (x ≠ 190 ∧ x ≠ 191)) | .inl _ => true) = true := by decide +kernel
theorem zfs_E {E E0 : EE} (he : ∀ p, p ≠ 187 → p ≠ 188 → E.1 p = E0.1 p) {h : Hp} {p : Nat} : ∀ (l : List Nat) (k : Nat), (∀ x ∈ l, x ≠ 190 ∧ x ≠ 191) → zfs E h p k l = zfs E0 h p k l := by
  intro l
  induction l with
  | nil => intro k _; rfl
  | cons t r ih =>
    intro k hl
    show zf E h p k t :: zfs E h p (k + 1) r = zf E0 h p k t :: zfs E0 h p (k + 1) r
    rw [ih (k + 1) (fun x hx => hl x (List.mem_cons_of_mem _ hx))]
    congr 1
    have ht := hl t List.mem_cons_self
    rcases t with _ | _ | _ | q
    · rfl
    · rfl
    · rfl
    · show Value.ref (E.1 q) = Value.ref (E0.1 q)
      rw [he q (by omega) (by omega)]
theorem zat_E {E E0 : EE} (he : ∀ p, p ≠ 187 → p ≠ 188 → E.1 p = E0.1 p) (h2 : E.2 = E0.2) {h : Hp} {p : Nat} : zat E h p = zat E0 h p := by
  unfold zat
  cases ht : zT[p]? with
  | none => rfl
  | some t =>
    have hm := List.all_eq_true.mp zT_ref t (List.mem_of_getElem? ht)
    show zcell E h p t = zcell E0 h p t
    rcases t with ⟨c, n⟩ | ⟨ci, l⟩
    · unfold zcell
      rw [h2]
      split
      · rfl
      · rfl
      · rfl
      · exact congrArg (fun f => (Sum.inl (E0.2.2.1 3, _, .inr (.inr (.inr (.inr f)))) : va_E)) (funext fun j => by rw [he _ (by omega) (by omega)])
      · rfl
      · rename_i w; cases w
    · show Sum.inr (ci, zfs E h p 0 l) = Sum.inr (ci, zfs E0 h p 0 l)
      rw [zfs_E he l 0 (fun x hx => of_decide_eq_true (List.all_eq_true.mp hm x hx))]
theorem zWd_sub {E E0 : EE} {N N0 : Nat} {h : Hp} {H : Heap} (hN : N0 ≤ N) (hp : ∀ p, p < N0 → E.1 p = E0.1 p) (he : ∀ p, p ≠ 187 → p ≠ 188 → E.1 p = E0.1 p) (h2 : E.2 = E0.2) (hP : zWd E N h H) : zWd E0 N0 h H := by
  unfold zWd at hP ⊢
  rw [← h2]
  intro k q hk
  obtain ⟨h5, rfl⟩ := zws_in hk
  have := hP k (E.1 k, zat E h k) (zws_get (Nat.lt_of_lt_of_le h5 hN))
  rw [hp k h5, zat_E he h2] at this
  exact this
theorem zEx_wd {G : EE × Nat} {E : EE} {N : Nat} {h : Hp} {H : Heap} (hG : zEx G E N) (hP : zWd E N h H) : zWd G.1 G.2 h H := zWd_sub hG.1 hG.2.1 hG.2.2.1 hG.2.2.2 hP
theorem zEx_ge {G : EE × Nat} {E : EE} {N : Nat} (hG : zEx G E N) : zge G.1 = zge E := by
  unfold zge
  rw [hG.2.2.2]
/-! the state between two instructions -/
abbrev ZA : Type := Program × Launch × Env × State × MethodId × Array Value × List Frame × Method × Code
abbrev ZC : Type := ZA × (EE × Nat) × EE × Nat
/-- the method's own: the depth that it may use, its cells and slots, what it answers, what it throws -/
abbrev ZM : Type := Nat × Nat × Nat × (Option AV → Hp → Prop) × (Nat → Hp → Prop)
def zpr (E : EE) : Nat → List (Option AV) → List (Nat × Value)
  | _, [] => []
  | i, none :: r => zpr E (i + 1) r
  | i, some v :: r => (i, cv E v) :: zpr E (i + 1) r
theorem zpr_mem (E : EE) : ∀ (ls : List (Option AV)) (i : Nat) (q : Nat × Value), q ∈ zpr E i ls ↔ ∃ j v, q = (i + j, cv E v) ∧ ls[j]? = some (some v) := by
  intro ls
  induction ls with
  | nil => intro i q; simp [zpr]
  | cons o r ih =>
    intro i q
    have step : (q ∈ zpr E (i + 1) r) ↔ ∃ j v, q = (i + (j + 1), cv E v) ∧ (o :: r)[j + 1]? = some (some v) := by
      rw [ih (i + 1) q]
      constructor
      · rintro ⟨j, v, h1, h2⟩
        exact ⟨j, v, by rw [h1]; congr 1; omega, by rw [List.getElem?_cons_succ]; exact h2⟩
      · rintro ⟨j, v, h1, h2⟩
        exact ⟨j, v, by rw [h1]; congr 1; omega, by rw [List.getElem?_cons_succ] at h2; exact h2⟩
    cases o with
    | none =>
      simp only [zpr]
      rw [step]
      constructor
      · rintro ⟨j, v, h1, h2⟩
        exact ⟨j + 1, v, h1, h2⟩
      · rintro ⟨j, v, h1, h2⟩
        cases j with
        | zero => rw [List.getElem?_cons_zero] at h2; cases h2
        | succ j => exact ⟨j, v, h1, h2⟩
    | some w =>
      simp only [zpr, List.mem_cons]
      rw [step]
      constructor
      · rintro (h | ⟨j, v, h1, h2⟩)
        · exact ⟨0, w, h, rfl⟩
        · exact ⟨j + 1, v, h1, h2⟩
      · rintro ⟨j, v, h1, h2⟩
        cases j with
        | zero =>
          rw [List.getElem?_cons_zero] at h2
          cases h2
          exact Or.inl h1
        | succ j => exact Or.inr ⟨j, v, h1, h2⟩
def zL (E : EE) (la : Array Slot) (nL : Nat) (ls : List (Option AV)) : Prop := lv_has la nL (zpr E 0 ls)
theorem zL_get {E : EE} {la : Array Slot} {nL i : Nat} {ls : List (Option AV)} {v : AV} (h : zL E la nL ls) (hi : ls[i]? = some (some v)) : la[i]? = some (.val (cv E v)) := by
  refine h.2.2 (i, cv E v) ?_
  rw [zpr_mem]
  exact ⟨i, v, by rw [Nat.zero_add], hi⟩
theorem zL_lt {E : EE} {la : Array Slot} {nL i : Nat} {ls : List (Option AV)} {v : AV} (h : zL E la nL ls) (hi : ls[i]? = some (some v)) : i < nL := by
  have h1 := (Array.getElem?_eq_some_iff.mp (zL_get h hi)).1
  rw [h.1] at h1
  exact h1
theorem lv_less {la : Array Slot} {nL : Nat} {l l' : List (Nat × Value)} (h : lv_has la nL l) (hs : ∀ q ∈ l', q ∈ l) : lv_has la nL l' := ⟨h.1, h.2.1, fun q hq => h.2.2 q (hs q hq)⟩
/-- a store at i doesn't cut a wide value in two -/
def zcut (ls : List (Option AV)) (i : Nat) : Bool := match i with
  | 0 => true
  | j + 1 => match ls[j]? with
    | some (some v) => !zwide v
    | _ => true
theorem zL_set1 {E : EE} {la : Array Slot} {nL i : Nat} {ls : List (Option AV)} {v : AV} (h : lv_has la nL ((i, cv E v) :: (zpr E 0 ls).filter (fun q => !(q.1 == i) && !(q.1 + 1 == i && q.2.category == 2)))) (ho : zcut ls i = true) : zL E la nL (ls.set i (some v)) := by
  refine lv_less h fun q hq => ?_
  rw [zpr_mem] at hq
  obtain ⟨j, w, rfl, h2⟩ := hq
  rw [Nat.zero_add]
  rw [List.getElem?_set] at h2
  by_cases hj : i = j
  · subst hj
    rw [if_pos rfl] at h2
    split at h2
    · cases h2
      exact List.mem_cons_self
    · cases h2
  · rw [if_neg hj] at h2
    refine List.mem_cons_of_mem _ (List.mem_filter.mpr ⟨(zpr_mem E ls 0 _).mpr ⟨j, w, by rw [Nat.zero_add], h2⟩, ?_⟩)
    simp only [Bool.and_eq_true, Bool.not_eq_true', beq_eq_false_iff_ne, ne_eq, Bool.and_eq_false_iff]
    refine ⟨fun q => hj q.symm, ?_⟩
    by_cases hc : j + 1 = i
    · right
      subst hc
      unfold zcut at ho
      simp only [h2, Bool.not_eq_true'] at ho
      rw [zcat, ho]
      decide
    · exact Or.inl hc
theorem zL_set2 {E : EE} {la : Array Slot} {nL i : Nat} {ls : List (Option AV)} {v : AV} (h : lv_has la nL ((i, cv E v) :: (zpr E 0 ls).filter (fun q => !(q.1 == i) && (!(q.1 == i + 1) && !(q.1 + 1 == i && q.2.category == 2))))) (ho : zcut ls i = true) : zL E la nL ((ls.set i (some v)).set (i + 1) none) := by
  refine lv_less h fun q hq => ?_
  rw [zpr_mem] at hq
  obtain ⟨j, w, rfl, h2⟩ := hq
  rw [Nat.zero_add]
  rw [List.getElem?_set] at h2
  by_cases hj1 : i + 1 = j
  · subst hj1
    rw [if_pos rfl] at h2
    split at h2 <;> cases h2
  · rw [if_neg hj1, List.getElem?_set] at h2
    by_cases hj : i = j
    · subst hj
      rw [if_pos rfl] at h2
      split at h2
      · cases h2
        exact List.mem_cons_self
      · cases h2
    · rw [if_neg hj] at h2
      refine List.mem_cons_of_mem _ (List.mem_filter.mpr ⟨(zpr_mem E ls 0 _).mpr ⟨j, w, by rw [Nat.zero_add], h2⟩, ?_⟩)
      simp only [Bool.and_eq_true, Bool.not_eq_true', beq_eq_false_iff_ne, ne_eq, Bool.and_eq_false_iff]
      refine ⟨fun q => hj q.symm, fun q => hj1 q.symm, ?_⟩
      by_cases hc : j + 1 = i
      · right
        subst hc
        unfold zcut at ho
        simp only [h2, Bool.not_eq_true'] at ho
        rw [zcat, ho]
        decide
      · exact Or.inl hc
theorem zset_can {ls : List (Option AV)} {i : Nat} {v : AV} (h : ∀ w, some w ∈ ls → zcan w) (hv : zcan v) : ∀ w, some w ∈ ls.set i (some v) → zcan w := by
  intro w hw
  rcases List.mem_or_eq_of_mem_set hw with h1 | h1
  · exact h w h1
  · cases h1
    exact hv
theorem zset_canN {ls : List (Option AV)} {i : Nat} (h : ∀ w, some w ∈ ls → zcan w) : ∀ w, some w ∈ ls.set i none → zcan w := by
  intro w hw
  rcases List.mem_or_eq_of_mem_set hw with h1 | h1
  · exact h w h1
  · cases h1
def zV (a : ZC) (M : ZM) (k n pc : Nat) (ls : List (Option AV)) (st : List AV) (h : Hp) : Prop := match a with
  | ((p, l, e, s, m, args, below, meth, c), G, E, N) =>
    (∀ v ∈ st, zcan v) → (∀ v, some v ∈ ls → zcan v) → zhok h → ∀ (H : Heap) (locs : List Loc) (la : Array Slot), zWd E N h H → va_S (zge E) s.heap H locs → zL E la c.maxLocals ls →
      W p l e (zrm M.1 M.2.1 M.2.2.1) s m args below meth c H locs k n (vx_MQ below (zQ G.1 G.2 M.2.2.2.1) (zX G.1 G.2 M.2.2.2.2) args s M.2.1 M.2.2.1 (zge E)) (F0 m pc la (st.map (cv E)))
/-- an exception of the kind x is on its way at pc -/
def zU (a : ZC) (M : ZM) (k n pc : Nat) (ls : List (Option AV)) (x : Nat) (h : Hp) : Prop := match a with
  | ((p, l, e, s, m, args, below, meth, c), G, E, N) =>
    (∀ v, some v ∈ ls → zcan v) → zhok h → ∀ (H : Heap) (locs : List Loc) (la : Array Slot) (q : Addr) (ce : Cell) (rest : List Value), zWd E N h H → va_S (zge E) s.heap H locs → zL E la c.maxLocals ls → H[q]? = some ce → ce.vm = .none → s.vm.findClass (zen x) = some ce.cls →
      vx_W p l e (zrm M.1 M.2.1 M.2.2.1) s m args below meth c H locs k n (vx_MQ below (zQ G.1 G.2 M.2.2.2.1) (zX G.1 G.2 M.2.2.2.2) args s M.2.1 M.2.2.1 (zge E)) (F0 m pc la rest) q
def zOk (l0 : Launch) (a : ZC) (cc : ByteArray) (own : String) (mL : Nat) (ret : Option FieldType) (mn : Nat) (tb : List (Nat × Nat × Nat × Nat)) : Prop := match a with
  | ((p, l, e, s, m, args, below, meth, c), G, E, N) =>
    p.tables.exec = Jvm.exec ∧ c.code = cc ∧ c.maxLocals = mL ∧ meth.sig.returnType = ret ∧ s.vm.findClass own = some m.cls ∧ meth.locks = false ∧ zKK l E s ∧ zAD E N ∧ mn ≤ N ∧ c.exceptionTable.toList = tableOf tb ∧ l = l0 ∧ zEx G E N
