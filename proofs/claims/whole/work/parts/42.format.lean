/-! the text of a host -/
def lnC (h : Hp) (L : List Int) : Prop := h 183 1 = (L.length : Int) ∧ ∀ (i : Nat) (z : Int), L[i]? = some z → h 184 i = z
def lnM (h : Hp) (L : List Int) : Prop := h 185 22 = (L.length : Int) ∧ ∀ (i : Nat) (z : Int), L[i]? = some z → h 193 i = z
theorem sn_get {L : List Int} {c z : Int} {i : Nat} (h : (L ++ [c])[i]? = some z) : (i < L.length ∧ L[i]? = some z) ∨ (i = L.length ∧ z = c) := by
  by_cases hi : i < L.length
  · rw [List.getElem?_append_left hi] at h
    exact Or.inl ⟨hi, h⟩
  · rw [List.getElem?_append_right (by omega)] at h
    obtain ⟨d, hd⟩ : ∃ d, i - L.length = d := ⟨_, rfl⟩
    rw [hd] at h
    cases d with
    | zero =>
      rw [List.getElem?_cons_zero] at h
      exact Or.inr ⟨by omega, (Option.some.inj h).symm⟩
    | succ d =>
      rw [List.getElem?_cons_succ, List.getElem?_nil] at h
      cases h
theorem sn_len {L : List Int} {c : Int} : ((L ++ [c]).length : Int) = L.length + 1 := by simp
theorem p1_addSign {c : Int} {h : Hp} {Q : Hp → Prop} {L : List Int} (hl : lnC h L) (hn : L.length < 32) (hc : 0 ≤ c ∧ c ≤ 127) (hQ : ∀ h', lnC h' (L ++ [c]) → (∀ p, p ≠ 183 → p ≠ 184 → h' p = h p) → Q h') : mX1_addSign c h Q := by
  unfold mX1_addSign
  obtain ⟨l1, l2⟩ := hl
  rw [l1, zi2b_z (by omega)]
  refine ⟨fun w => by omega, fun _ => ⟨⟨by omega, by omega⟩, ⟨by omega, by omega⟩, fun a e => ?_⟩⟩
  have f1 : ∀ p, p ≠ 184 → a p = h p := fun p hp => by rw [e, wr_q hp]
  rw [f1 183 (by omega), l1]
  refine ⟨zri (by omega) (by omega), fun b e2 => hQ b ⟨?_, fun i z hz => ?_⟩ (fun p p1 p2 => by rw [e2, hu_q p1, f1 p p2])⟩
  · rw [e2, hu_same, sn_len]
  · have e3 : b 184 = a 184 := by rw [e2, hu_q (by omega)]
    rw [e3, e]
    rcases sn_get hz with ⟨h1, h2⟩ | ⟨h1, h2⟩
    · rw [← l2 i z h2]
      exact hu_ne (by omega)
    · subst h2
      have : i = Int.toNat (L.length : Int) := by omega
      rw [this]
      exact hu_same
theorem p8_writes {c : Int} {h : Hp} {Q : Hp → Prop} {L : List Int} (hl : lnM h L) (hn : L.length < 40) (hQ : ∀ h', lnM h' (L ++ [c]) → (∀ p, p ≠ 185 → p ≠ 193 → h' p = h p) → (∀ k, k ≠ 22 → h' 185 k = h 185 k) → Q h') : mX8_writes c h Q := by
  unfold mX8_writes
  obtain ⟨l1, l2⟩ := hl
  rw [l1]
  refine ⟨⟨by omega, by omega⟩, fun a e => ?_⟩
  have f1 : ∀ p, p ≠ 193 → a p = h p := fun p hp => by rw [e, wr_q hp]
  rw [f1 185 (by omega), l1]
  refine ⟨zri (by omega) (by omega), fun b e2 => hQ b ⟨?_, fun i z hz => ?_⟩ (fun p p1 p2 => by rw [e2, hu_q p1, f1 p p2]) (fun k hk => by rw [e2, hu_ne (by omega), f1 185 (by omega)])⟩
  · rw [e2, hu_same, sn_len]
  · have e3 : b 193 = a 193 := by rw [e2, hu_q (by omega)]
    rw [e3, e]
    rcases sn_get hz with ⟨h1, h2⟩ | ⟨h1, h2⟩
    · rw [← l2 i z h2]
      exact hu_ne (by omega)
    · subst h2
      have : i = Int.toNat (L.length : Int) := by omega
      rw [this]
      exact hu_same
def dg (v : Int) : List Int := if 100 ≤ v then [48 + v / 100, 48 + v / 10 % 10, 48 + v % 10] else if 10 ≤ v then [48 + v / 10 % 10, 48 + v % 10] else [48 + v % 10]
theorem dg_len {v : Int} : (dg v).length ≤ 3 := by unfold dg; split <;> (try split) <;> simp
theorem p1_addNumber {v : Int} {h : Hp} {Q : Hp → Prop} {L : List Int} (hl : lnC h L) (hn : L.length < 29) (hv : 0 ≤ v ∧ v ≤ 999) (hQ : ∀ h', lnC h' (L ++ dg v) → (∀ p, p ≠ 183 → p ≠ 184 → h' p = h p) → Q h') : mX1_addNumber v h Q := by
  have last : ∀ (L2 : List Int) (g : Hp), lnC g L2 → L2.length < 32 → (∀ p, p ≠ 183 → p ≠ 184 → g p = h p) → L2 ++ [48 + v % 10] = L ++ dg v → mX1_addNumber_b37 Q v g := by
    intro L2 g lg n2 fg e
    unfold mX1_addNumber_b37
    exact ⟨by omega, zri (by omega) (by omega), p1_addSign lg n2 (by omega) fun g2 l2 f2 => hQ g2 (by rw [← e]; exact l2) (fun p p1 p2 => by rw [f2 p p1 p2, fg p p1 p2])⟩
  have mid : ∀ (L2 : List Int) (g : Hp), lnC g L2 → L2.length < 31 → (∀ p, p ≠ 183 → p ≠ 184 → g p = h p) → (if 10 ≤ v then L2 ++ [48 + v / 10 % 10] ++ [48 + v % 10] else L2 ++ [48 + v % 10]) = L ++ dg v → mX1_addNumber_b17 Q v g := by
    intro L2 g lg n2 fg e
    unfold mX1_addNumber_b17
    refine ⟨fun c => last L2 g lg (by omega) fg (by rw [if_neg (by omega)] at e; exact e), fun c => ⟨by omega, by omega, zri (by omega) (by omega), p1_addSign lg (by omega) (by omega) fun g2 l2 f2 => last _ g2 l2 (by simp; omega) (fun p p1 p2 => by rw [f2 p p1 p2, fg p p1 p2]) (by rw [if_pos (by omega)] at e; exact e)⟩⟩
  unfold mX1_addNumber
  refine ⟨fun c => mid L h hl (by omega) (fun _ _ _ => rfl) ?_, fun c => ⟨by omega, zri (by omega) (by omega), p1_addSign hl (by omega) (by omega) fun g2 l2 f2 => mid _ g2 l2 (by simp; omega) f2 ?_⟩⟩
  · unfold dg
    rw [if_neg (show ¬ 100 ≤ v by omega)]
    by_cases c2 : 10 ≤ v
    · rw [if_pos c2, if_pos c2, List.append_assoc]; rfl
    · rw [if_neg c2, if_neg c2]
  · unfold dg
    rw [if_pos (show 100 ≤ v by omega), if_pos (show 10 ≤ v by omega), List.append_assoc, List.append_assoc]
    rfl
theorem p8_writesNumber {v : Int} {h : Hp} {Q : Hp → Prop} {L : List Int} (hl : lnM h L) (hn : L.length < 37) (hv : 0 ≤ v ∧ v ≤ 999) (hQ : ∀ h', lnM h' (L ++ dg v) → (∀ p, p ≠ 185 → p ≠ 193 → h' p = h p) → (∀ k, k ≠ 22 → h' 185 k = h 185 k) → Q h') : mX8_writesNumber v h Q := by
  have w1 : ∀ (f : Nat) (L2 : List Int) (g : Hp), lnM g L2 → L2.length < 40 → (∀ p, p ≠ 185 → p ≠ 193 → g p = h p) → (∀ k, k ≠ 22 → g 185 k = h 185 k) → L2 ++ [48 + v % 10] = L ++ dg v → mX8_writesNumber_b18 Q (f + 2) v 1 g := by
    intro f L2 g lg n2 fg kg e
    unfold mX8_writesNumber_b18
    rw [Int.ediv_one]
    refine ⟨fun w => by omega, fun _ => ⟨by omega, by omega, zri (by omega) (by omega), p8_writes lg n2 fun g2 l2 f2 k2 => ⟨by omega, ?_⟩⟩⟩
    unfold mX8_writesNumber_b18
    exact ⟨fun _ => hQ g2 (by rw [← e]; exact l2) (fun p p1 p2 => by rw [f2 p p1 p2, fg p p1 p2]) (fun k hk => by rw [k2 k hk, kg k hk]), fun w => absurd (by decide) w⟩
  have w10 : ∀ (f : Nat) (L2 : List Int) (g : Hp), lnM g L2 → L2.length < 39 → (∀ p, p ≠ 185 → p ≠ 193 → g p = h p) → (∀ k, k ≠ 22 → g 185 k = h 185 k) → L2 ++ [48 + v / 10 % 10] ++ [48 + v % 10] = L ++ dg v → mX8_writesNumber_b18 Q (f + 3) v 10 g := by
    intro f L2 g lg n2 fg kg e
    unfold mX8_writesNumber_b18
    exact ⟨fun w => by omega, fun _ => ⟨by omega, by omega, zri (by omega) (by omega), p8_writes lg (by omega) fun g2 l2 f2 k2 => ⟨by omega, w1 f _ g2 l2 (by simp; omega) (fun p p1 p2 => by rw [f2 p p1 p2, fg p p1 p2]) (fun k hk => by rw [k2 k hk, kg k hk]) e⟩⟩⟩
  have w100 : ∀ (f : Nat) (L2 : List Int) (g : Hp), lnM g L2 → L2.length < 38 → (∀ p, p ≠ 185 → p ≠ 193 → g p = h p) → (∀ k, k ≠ 22 → g 185 k = h 185 k) → L2 ++ [48 + v / 100 % 10] ++ [48 + v / 10 % 10] ++ [48 + v % 10] = L ++ dg v → mX8_writesNumber_b18 Q (f + 4) v 100 g := by
    intro f L2 g lg n2 fg kg e
    unfold mX8_writesNumber_b18
    exact ⟨fun w => by omega, fun _ => ⟨by omega, by omega, zri (by omega) (by omega), p8_writes lg (by omega) fun g2 l2 f2 k2 => ⟨by omega, w10 f _ g2 l2 (by simp; omega) (fun p p1 p2 => by rw [f2 p p1 p2, fg p p1 p2]) (fun k hk => by rw [k2 k hk, kg k hk]) e⟩⟩⟩
  unfold mX8_writesNumber
  refine ⟨3, ?_⟩
  unfold mX8_writesNumber_b2
  rw [Int.ediv_one]
  refine ⟨by omega, fun c => ⟨2, w1 0 L h hl (by omega) (fun _ _ _ => rfl) (fun _ _ => rfl) ?_⟩, fun c => ⟨zri (by omega) (by omega), ?_⟩⟩
  · unfold dg; rw [if_neg (by omega), if_neg (by omega)]
  · unfold mX8_writesNumber_b2
    rw [show (1 : Int) * 10 = 10 from rfl]
    refine ⟨by omega, fun c2 => ⟨3, w10 0 L h hl (by omega) (fun _ _ _ => rfl) (fun _ _ => rfl) ?_⟩, fun c2 => ⟨zri (by omega) (by omega), ?_⟩⟩
    · unfold dg; rw [if_neg (by omega), if_pos (by omega), List.append_assoc]; rfl
    · unfold mX8_writesNumber_b2
      rw [show (10 : Int) * 10 = 100 from rfl]
      refine ⟨by omega, fun c3 => ⟨4, w100 0 L h hl (by omega) (fun _ _ _ => rfl) (fun _ _ => rfl) ?_⟩, fun c3 => by omega⟩
      unfold dg
      rw [if_pos (by omega), show v / 100 % 10 = v / 100 by omega, List.append_assoc, List.append_assoc]
      rfl
def ltr (r : Rw) (x : Int) (k : Nat) : List Int := (List.range k).map fun (j : Nat) => fl r x (6 + (j : Int))
theorem ltr_s {r : Rw} {x : Int} {k : Nat} : ltr r x (k + 1) = ltr r x k ++ [fl r x (6 + (k : Int))] := by
  unfold ltr
  rw [List.range_succ, List.map_append]
  rfl
theorem ltr_len {r : Rw} {x : Int} {k : Nat} : (ltr r x k).length = k := by unfold ltr; simp
theorem p1_addName {r : Rw} {x : Int} {h : Hp} {Q : Hp → Prop} (ho : okH r x) (hl : lnC h []) (hQ : ∀ h', lnC h' (ltr r x (fl r x 5).toNat) → (∀ p, p ≠ 183 → p ≠ 184 → h' p = h p) → Q h') : mX1_addName (nm r x) h Q := by
  have hO := ho
  unfold okH at hO
  obtain ⟨-, -, -, -, -, -, h5, hL, -⟩ := hO
  unfold mX1_addName
  obtain ⟨f, hf⟩ := forU (fun f k => ∀ g : Hp, lnC g (ltr r x k.toNat) → (∀ p, p ≠ 183 → p ≠ 184 → g p = h p) → mX1_addName_b2 Q f (nm r x) k g) 0 (fl r x 5) h5.1 (fun f g lg fg => by
      unfold mX1_addName_b2
      refine ⟨fun _ => hQ g lg fg, fun c => p7_letterOf ho ⟨h5.1, by omega⟩ ⟨fun _ => hQ g lg fg, fun c2 => ?_⟩⟩
      exact absurd ((hL (fl r x 5) h5.1 (by omega)).2 (Int.le_refl _)) c2) (fun f k k1 k2 ih g lg fg => by
      unfold mX1_addName_b2
      have hk := (hL k k1 (by omega)).1 k2
      refine ⟨fun c => by omega, fun _ => p7_letterOf ho ⟨k1, by omega⟩ ⟨fun c => by omega, fun _ => p7_letterOf ho ⟨k1, by omega⟩ (p1_addSign lg (by rw [ltr_len]; omega) (by omega) fun g2 l2 f2 => ⟨zri (by omega) (by omega), ih g2 ?_ (fun p p1 p2 => by rw [f2 p p1 p2, fg p p1 p2])⟩)⟩⟩
      rw [show (k + 1).toNat = k.toNat + 1 by omega, ltr_s, show ((k.toNat : Nat) : Int) = k by omega]
      exact l2)
  exact ⟨f, hf h hl (fun _ _ _ => rfl)⟩
/-- what format writes -/
def fmA (r : Rw) (x : Int) : List Int := ltr r x (fl r x 5).toNat ++ [32] ++ dg (fl r x 1)
def fmB (r : Rw) (x : Int) : List Int := if kept r x = 0 then fmA r x else fmA r x ++ [43] ++ dg (kept r x)
def fmC (r : Rw) (x : Int) : List Int := if fl r x 2 = 1 then fmB r x ++ [33] else fmB r x
def fmt (r : Rw) (x : Int) : List Int := if fl r x 4 = 0 then fmC r x else fmC r x ++ [32] ++ [62] ++ [32] ++ dg (fl r x 3) ++ [64] ++ dg (fl r x 4)
theorem dg_len1 {v : Int} (h : v ≤ 9) : (dg v).length = 1 := by unfold dg; rw [if_neg (by omega), if_neg (by omega)]; rfl
theorem fmA_len {r : Rw} {x : Int} (ho : okH r x) : (fmA r x).length ≤ 12 := by
  unfold okH at ho
  have := dg_len (v := fl r x 1)
  unfold fmA
  simp only [List.length_append, ltr_len, List.length_singleton]
  omega
theorem fmB_len {r : Rw} {x : Int} (ho : okH r x) : (fmB r x).length ≤ 16 := by
  have a := fmA_len ho
  have := dg_len (v := kept r x)
  unfold fmB
  split
  · omega
  · simp only [List.length_append, List.length_singleton]
    omega
theorem fmC_len {r : Rw} {x : Int} (ho : okH r x) : (fmC r x).length ≤ 17 := by
  have a := fmB_len ho
  unfold fmC
  split
  · simp only [List.length_append, List.length_singleton]
    omega
  · omega
theorem fmt_len {r : Rw} {x : Int} (ho : okH r x) : (fmt r x).length ≤ 25 := by
  have a := fmC_len ho
  have b := dg_len (v := fl r x 3)
  unfold okH at ho
  have c := dg_len1 (v := fl r x 4) (by omega)
  unfold fmt
  split
  · omega
  · simp only [List.length_append, List.length_singleton]
    omega
theorem inv_ln {h h2 : Hp} {L : List Int} (hi : inv h) (f : ∀ p, p ≠ 183 → p ≠ 184 → p ≠ 185 → p ≠ 193 → p ≠ 197 → h2 p = h p) (k : ∀ j, j ≠ 0 → j ≠ 22 → h2 185 j = h 185 j) (c : lnC h2 L) (m : lnM h2 L) (hl : L.length ≤ 32) : inv h2 := by
  obtain ⟨⟨a1, a2⟩, ⟨b1, b2, b3⟩, ⟨i1, i2⟩, ⟨d1, d2, d3⟩, e1, -⟩ := hi
  have r186 : rd h2 186 = rd h 186 := rd_ne (f 186 (by omega) (by omega) (by omega) (by omega) (by omega))
  have eb : bf h2 = bf h := bf_ne (f 190 (by omega) (by omega) (by omega) (by omega) (by omega))
  refine ⟨⟨?_, ?_⟩, ⟨?_, ?_, fun hs => ?_⟩, ⟨?_, fun j q1 q2 => ?_⟩, ⟨?_, ?_, fun i i1 i2 => ?_⟩, ?_, ?_, ?_, fun i i1 i2 => ?_⟩
  · rw [r186]; exact nets_frame a1 (fun p p1 p2 => f p (by omega) (by omega) (by omega) (by omega) (by omega))
  · rw [r186]; exact a2
  · rw [f 169 (by omega) (by omega) (by omega) (by omega) (by omega), k 7 (by omega) (by omega)]; exact b1
  · rw [k 7 (by omega) (by omega)]; exact b2
  · rw [k 7 (by omega) (by omega)] at hs
    rw [rd_ne (f 188 (by omega) (by omega) (by omega) (by omega) (by omega))]
    exact ⟨nets_frame (b3 hs).1 (fun p p1 p2 => f p (by omega) (by omega) (by omega) (by omega) (by omega)), (b3 hs).2⟩
  · rw [k 6 (by omega) (by omega), eb]; exact hist_frame i1 (fun p hp => f p (by omega) (by omega) (by omega) (by omega) (by omega))
  · rw [k 6 (by omega) (by omega)] at q2; rw [eb]; exact i2 j q1 q2
  · rw [f 176 (by omega) (by omega) (by omega) (by omega) (by omega), k 9 (by omega) (by omega)]; exact d1
  · rw [k 9 (by omega) (by omega)]; exact d2
  · rw [k 9 (by omega) (by omega)] at i2
    rw [rd_same (f 191 (by omega) (by omega) (by omega) (by omega) (by omega)), rd_same (f 177 (by omega) (by omega) (by omega) (by omega) (by omega))]
    exact d3 i i1 i2
  · rw [f 169 (by omega) (by omega) (by omega) (by omega) (by omega), k 17 (by omega) (by omega)]; exact e1
  · rw [c.1, m.1]
  · rw [m.1]; omega
  · rw [m.1] at i2
    obtain ⟨z, hz⟩ : ∃ z, L[i.toNat]? = some z := by
      have hl : i.toNat < L.length := by omega
      exact ⟨L[i.toNat], List.getElem?_eq_getElem hl⟩
    have p1 := c.2 i.toNat z hz
    have p2 := m.2 i.toNat z hz
    show h2 184 i.toNat = h2 193 i.toNat
    rw [p1, p2]
theorem c_format {x : Int} {h : Hp} (hi : inv h) : mL_format x h (fun k h1 => mX8_format x h1 (fun b h2 => okA k b h2)) := by
  obtain ⟨⟨n, o⟩, -⟩ := id hi
  have o1 := o.1.1
  unfold okR at o1
  unfold mL_format mX7_format
  refine p7_needHost n.1.1 (fun hx => ?_) (fun hx => ⟨rfl, ?_⟩)
  · have ok := o.1.2.2.2.2.1 x hx.1 hx.2
    have hO := ok
    unfold okH at hO
    have hk := kept_r ok (rd h 186 2)
    have hk2 : 0 ≤ kept (rd h 186) x ∧ kept (rd h 186) x ≤ 250 := hk
    have hx4 : 0 ≤ x ∧ x < 40 := by omega
    obtain ⟨lA, lB, lC, lT⟩ := And.intro (fmA_len ok) (And.intro (fmB_len ok) (And.intro (fmC_len ok) (fmt_len ok)))
    -- the reference
    have ref : ∀ g : Hp, (∀ p, p ≠ 183 → p ≠ 184 → g p = h p) → lnC g (fmt (rd h 186) x) → mX8_format x (wr g 197 0 ((fmt (rd h 186) x).length : Int)) (fun b h2 => okA 0 b h2) := by
      intro g fg lg
      have r2 : rd g 186 = rd h 186 := rd_ne (fg 186 (by omega) (by omega))
      unfold mX8_format
      intro a ea
      rw [ea]
      have hr : ∀ z, rd (hu (wr g 197 0 z) 185 0 0) 186 = rd h 186 := fun z => by rw [tR, oR, r2]
      refine p8_hostF (by rw [hr]; exact o.1.1) t0 (by omega) (fun _ => ⟨fun _ => fun b0 w0 => ?_, fun c => absurd rfl c⟩) (fun c => absurd (by rw [hr]; exact hx) c)
      have f0 : ∀ p, p ≠ 185 → b0 p = (wr g 197 0 ((fmt (rd h 186) x).length : Int)) p := fun p hp => by rw [w0, hu_q hp, hu_q hp]
      have k0 : ∀ j, j ≠ 0 → j ≠ 22 → b0 185 j = h 185 j := fun j j0 j22 => by rw [w0, hu_ne (by omega), hu_ne (by omega), wr_q (by omega), fg 185 (by omega) (by omega)]
      have z0 : b0 185 0 = 0 := by rw [w0, hu_ne (by omega)]; exact hu_same
      have ln0 : lnM b0 [] := ⟨by rw [w0]; exact hu_same, fun i z hz => by rw [List.getElem?_nil] at hz; cases hz⟩
      have rb0 : rd b0 186 = rd h 186 := by rw [rd_ne (f0 186 (by omega)), oR, r2]
      have S : ∀ (b : Hp), (∀ p, p ≠ 185 → p ≠ 193 → b p = b0 p) → (∀ k, k ≠ 22 → b 185 k = b0 185 k) → rd b 186 = rd h 186 := fun b f k => by rw [rd_ne (f 186 (by omega) (by omega))]; exact rb0
      have fin : ∀ (b : Hp), (∀ p, p ≠ 185 → p ≠ 193 → b p = b0 p) → (∀ k, k ≠ 22 → b 185 k = b0 185 k) → lnM b (fmt (rd h 186) x) → okA 0 (b 185 22) b := fun b f k l => by
        refine ⟨inv_ln (L := fmt (rd h 186) x) hi (fun p p1 p2 p3 p4 p5 => by rw [f p p3 p4, f0 p p3, wr_q p5, fg p p1 p2]) (fun j j0 j22 => by rw [k j j22, k0 j j0 j22]) ⟨?_, fun i z hz => ?_⟩ l (by omega), by rw [k 0 (by omega), z0], fun _ => ?_⟩
        · rw [f 183 (by omega) (by omega), f0 183 (by omega), wr_q (by omega)]; exact lg.1
        · rw [f 184 (by omega) (by omega), f0 184 (by omega), wr_q (by omega)]; exact lg.2 i z hz
        · rw [rd_same (f 197 (by omega) (by omega)), rd_same (f0 197 (by omega)), rw_same, l.1]
      have plan : ∀ (b : Hp), (∀ p, p ≠ 185 → p ≠ 193 → b p = b0 p) → (∀ k, k ≠ 22 → b 185 k = b0 185 k) → lnM b (fmC (rd h 186) x) → mX8_format_b111 (fun b h2 => okA 0 b h2) x b := fun b f k l => by
        unfold mX8_format_b111
        refine p8_of hx4 (by omega) ?_
        rw [S b f k]
        refine ⟨fun c => p8_writes l (by omega) fun b1 l1 f1 k1 => p8_writes l1 (by simp; omega) fun b2 l2 f2 k2 => p8_writes l2 (by simp; omega) fun b3 l3 f3 k3 => p8_of hx4 (by omega) ?_, fun c => fin b f k (by unfold fmt; rw [if_pos c]; exact l)⟩
        have F3 : ∀ p, p ≠ 185 → p ≠ 193 → b3 p = b0 p := fun p p1 p2 => by rw [f3 p p1 p2, f2 p p1 p2, f1 p p1 p2, f p p1 p2]
        have K3 : ∀ k, k ≠ 22 → b3 185 k = b0 185 k := fun j hj => by rw [k3 j hj, k2 j hj, k1 j hj, k j hj]
        rw [S b3 F3 K3]
        refine p8_writesNumber l3 (by simp; omega) (by omega) fun b4 l4 f4 k4 => p8_writes l4 (by have := dg_len (v := fl (rd h 186) x 3); simp; omega) fun b5 l5 f5 k5 => p8_of hx4 (by omega) ?_
        have F5 : ∀ p, p ≠ 185 → p ≠ 193 → b5 p = b0 p := fun p p1 p2 => by rw [f5 p p1 p2, f4 p p1 p2, F3 p p1 p2]
        have K5 : ∀ k, k ≠ 22 → b5 185 k = b0 185 k := fun j hj => by rw [k5 j hj, k4 j hj, K3 j hj]
        rw [S b5 F5 K5]
        refine p8_writesNumber l5 (by have := dg_len (v := fl (rd h 186) x 3); simp; omega) (by omega) fun b6 l6 f6 k6 => fin b6 (fun p p1 p2 => by rw [f6 p p1 p2, F5 p p1 p2]) (fun j hj => by rw [k6 j hj, K5 j hj]) ?_
        unfold fmt
        rw [if_neg c]
        exact l6
      have pin : ∀ (b : Hp), (∀ p, p ≠ 185 → p ≠ 193 → b p = b0 p) → (∀ k, k ≠ 22 → b 185 k = b0 185 k) → lnM b (fmB (rd h 186) x) → mX8_format_b95 (fun b h2 => okA 0 b h2) x b := fun b f k l => by
        unfold mX8_format_b95
        refine p8_of hx4 (by omega) ?_
        rw [S b f k]
        refine ⟨fun c => plan b f k (by unfold fmC; rw [if_neg c]; exact l), fun c => p8_writes l (by omega) fun b1 l1 f1 k1 => plan b1 (fun p p1 p2 => by rw [f1 p p1 p2, f p p1 p2]) (fun j hj => by rw [k1 j hj, k j hj]) (by unfold fmC; rw [if_pos c]; exact l1)⟩
      obtain ⟨f, hf⟩ := forU (fun f k => ∀ b : Hp, (∀ p, p ≠ 185 → p ≠ 193 → b p = b0 p) → (∀ k, k ≠ 22 → b 185 k = b0 185 k) → lnM b (ltr (rd h 186) x k.toNat) → mX8_format_b27 (fun b h2 => okA 0 b h2) f x k b) 0 (fl (rd h 186) x 5) hO.2.2.2.2.2.2.1.1 (fun f b fb kb l => by
          unfold mX8_format_b27
          refine p8_of hx4 (by omega) ?_
          rw [S b fb kb]
          refine ⟨fun _ => p8_writes l (by rw [ltr_len]; omega) fun b1 l1 f1 k1 => p8_of hx4 (by omega) ?_, fun w => absurd (Int.le_refl _) w⟩
          have F1 : ∀ p, p ≠ 185 → p ≠ 193 → b1 p = b0 p := fun p p1 p2 => by rw [f1 p p1 p2, fb p p1 p2]
          have K1 : ∀ k, k ≠ 22 → b1 185 k = b0 185 k := fun j hj => by rw [k1 j hj, kb j hj]
          rw [S b1 F1 K1]
          refine p8_writesNumber l1 (by simp [ltr_len]; omega) (by omega) fun b2 l2 f2 k2 => p8_kept ?_ hx4 ?_
          · rw [S b2 (fun p p1 p2 => by rw [f2 p p1 p2, F1 p p1 p2]) (fun j hj => by rw [k2 j hj, K1 j hj])]; exact o.1.1
          have F2 : ∀ p, p ≠ 185 → p ≠ 193 → b2 p = b0 p := fun p p1 p2 => by rw [f2 p p1 p2, F1 p p1 p2]
          have K2 : ∀ k, k ≠ 22 → b2 185 k = b0 185 k := fun j hj => by rw [k2 j hj, K1 j hj]
          have LA : lnM b2 (fmA (rd h 186) x) := l2
          rw [S b2 F2 K2]
          refine ⟨fun c => pin b2 F2 K2 (by unfold fmB; rw [if_pos (by omega)]; exact LA), fun c => p8_writes LA (by omega) fun b3 l3 f3 k3 => p8_kept ?_ hx4 ?_⟩
          · rw [S b3 (fun p p1 p2 => by rw [f3 p p1 p2, F2 p p1 p2]) (fun j hj => by rw [k3 j hj, K2 j hj])]; exact o.1.1
          · rw [S b3 (fun p p1 p2 => by rw [f3 p p1 p2, F2 p p1 p2]) (fun j hj => by rw [k3 j hj, K2 j hj])]
            refine p8_writesNumber l3 (by simp; omega) (by omega) fun b4 l4 f4 k4 => pin b4 (fun p p1 p2 => by rw [f4 p p1 p2, f3 p p1 p2, F2 p p1 p2]) (fun j hj => by rw [k4 j hj, k3 j hj, K2 j hj]) ?_
            unfold fmB
            rw [if_neg (by omega)]
            exact l4) (fun f k k1 k2 ih b fb kb l => by
          unfold mX8_format_b27
          refine p8_of hx4 (by omega) ?_
          rw [S b fb kb]
          refine ⟨fun w => by omega, fun _ => ⟨zri (by omega) (by omega), p8_of hx4 (by omega) ?_⟩⟩
          rw [S b fb kb]
          refine p8_writes l (by rw [ltr_len]; omega) fun b1 l1 f1 k1' => ⟨zri (by omega) (by omega), ih b1 (fun p p1 p2 => by rw [f1 p p1 p2, fb p p1 p2]) (fun j hj => by rw [k1' j hj, kb j hj]) ?_⟩
          rw [show (k + 1).toNat = k.toNat + 1 by omega, ltr_s, show ((k.toNat : Nat) : Int) = k by omega]
          exact l1)
      exact ⟨f, hf b0 (fun _ _ _ => rfl) (fun _ _ => rfl) ln0⟩
    -- the class
    have H : ∀ g : Hp, (∀ p, p ≠ 183 → p ≠ 184 → g p = h p) → nets g 0 (rd h 186) := fun g fg => nets_frame n (fun p p1 p2 => fg p (by omega) (by omega))
    have fin : ∀ g : Hp, (∀ p, p ≠ 183 → p ≠ 184 → g p = h p) → lnC g (fmt (rd h 186) x) → mX7_format_b185 (fun z4 h5 => ((0 : Int) ≤ 0 ∧ (0 : Int) < 1) ∧ ∀ h6 : Hp, h6 = wr h5 197 0 z4 → mX8_format x h6 (fun b h2 => okA 0 b h2)) (fun y h5 => y = 1 ∧ mX8_format x h5 (fun b h2 => okA 1 b h2)) g := fun g fg lg => by
      unfold mX7_format_b185
      refine ⟨by omega, fun h6 e => ?_⟩
      rw [e, lg.1]
      exact ref g fg lg
    have plan : ∀ g : Hp, (∀ p, p ≠ 183 → p ≠ 184 → g p = h p) → lnC g (fmC (rd h 186) x) → mX7_format_b105 (fun z4 h5 => ((0 : Int) ≤ 0 ∧ (0 : Int) < 1) ∧ ∀ h6 : Hp, h6 = wr h5 197 0 z4 → mX8_format x h6 (fun b h2 => okA 0 b h2)) (fun y h5 => y = 1 ∧ mX8_format x h5 (fun b h2 => okA 1 b h2)) x g := fun g fg lg => by
      unfold mX7_format_b105
      obtain ⟨c1, c2, c3, c4, c5, c6, c7, c8⟩ := (H g fg).2.1 x hx.1 hx.2
      rw [c6]
      refine ⟨hx4, fun c => fin g fg (by unfold fmt; rw [if_pos c]; exact lg), fun c => p1_addSign lg (by omega) (by omega) fun g1 l1 f1 => p1_addSign l1 (by simp; omega) (by omega) fun g2 l2 f2 => p1_addSign l2 (by simp; omega) (by omega) fun g3 l3 f3 => ⟨hx4, ?_⟩⟩
      have F3 : ∀ p, p ≠ 183 → p ≠ 184 → g3 p = h p := fun p p1 p2 => by rw [f3 p p1 p2, f2 p p1 p2, f1 p p1 p2, fg p p1 p2]
      rw [((H g3 F3).2.1 x hx.1 hx.2).2.2.2.2.1]
      refine p1_addNumber l3 (by simp; omega) (by omega) fun g4 l4 f4 => p1_addSign l4 (by have := dg_len (v := fl (rd h 186) x 3); simp; omega) (by omega) fun g5 l5 f5 => ⟨hx4, ?_⟩
      have F5 : ∀ p, p ≠ 183 → p ≠ 184 → g5 p = h p := fun p p1 p2 => by rw [f5 p p1 p2, f4 p p1 p2, F3 p p1 p2]
      rw [((H g5 F5).2.1 x hx.1 hx.2).2.2.2.2.2.1]
      refine p1_addNumber l5 (by have := dg_len (v := fl (rd h 186) x 3); simp; omega) (by omega) fun g6 l6 f6 => fin g6 (fun p p1 p2 => by rw [f6 p p1 p2, F5 p p1 p2]) ?_
      unfold fmt
      rw [if_neg c]
      exact l6
    have pin : ∀ g : Hp, (∀ p, p ≠ 183 → p ≠ 184 → g p = h p) → lnC g (fmB (rd h 186) x) → mX7_format_b83 (fun z4 h5 => ((0 : Int) ≤ 0 ∧ (0 : Int) < 1) ∧ ∀ h6 : Hp, h6 = wr h5 197 0 z4 → mX8_format x h6 (fun b h2 => okA 0 b h2)) (fun y h5 => y = 1 ∧ mX8_format x h5 (fun b h2 => okA 1 b h2)) x g := fun g fg lg => by
      unfold mX7_format_b83
      rw [((H g fg).2.1 x hx.1 hx.2).2.2.2.1]
      refine ⟨hx4, fun c => plan g fg (by unfold fmC; rw [if_neg c]; exact lg), fun c => p1_addSign lg (by omega) (by omega) fun g1 l1 f1 => plan g1 (fun p p1 p2 => by rw [f1 p p1 p2, fg p p1 p2]) (by unfold fmC; rw [if_pos c]; exact l1)⟩
    unfold mX1_clear
    intro g0 e0
    have F0 : ∀ p, p ≠ 183 → p ≠ 184 → g0 p = h p := fun p p1 p2 => by rw [e0, hu_q p1]
    have l0 : lnC g0 [] := ⟨by rw [e0]; exact hu_same, fun i z hz => by rw [List.getElem?_nil] at hz; cases hz⟩
    rw [((H g0 F0).2.1 x hx.1 hx.2).1]
    refine ⟨hx4, p1_addName ok l0 fun g1 l1 f1 => p1_addSign l1 (by rw [ltr_len]; omega) (by omega) fun g2 l2 f2 => ⟨hx4, ?_⟩⟩
    have F2 : ∀ p, p ≠ 183 → p ≠ 184 → g2 p = h p := fun p p1 p2 => by rw [f2 p p1 p2, f1 p p1 p2, F0 p p1 p2]
    rw [((H g2 F2).2.1 x hx.1 hx.2).2.2.1]
    refine p1_addNumber l2 (by simp [ltr_len]; omega) (by omega) fun g3 l3 f3 => ?_
    have F3 : ∀ p, p ≠ 183 → p ≠ 184 → g3 p = h p := fun p p1 p2 => by rw [f3 p p1 p2, F2 p p1 p2]
    have LA : lnC g3 (fmA (rd h 186) x) := l3
    refine p3_keptBy (H g3 F3) o.1 hx ⟨fun c => pin g3 F3 (by unfold fmB; rw [if_pos c]; exact LA), fun c => p1_addSign LA (by omega) (by omega) fun g4 l4 f4 => p1_addNumber l4 (by simp; omega) (by omega) fun g5 l5 f5 => pin g5 (fun p p1 p2 => by rw [f5 p p1 p2, f4 p p1 p2, F3 p p1 p2]) ?_⟩
    unfold fmB
    rw [if_neg c]
    exact l5
  · unfold mX8_format
    intro a e
    rw [e]
    exact p8_hostF (by rw [tR]; exact o.1.1) t0 (by omega) (fun c => absurd (by rw [tR] at c; exact c) hx) (fun _ => ⟨fun c => absurd c (by decide), fun _ => okA_x hi (by omega)⟩)
