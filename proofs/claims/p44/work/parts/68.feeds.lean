/-! feeds -/
def good (t : List Int) : Prop := ∀ c ∈ t, 32 ≤ c ∧ c ≤ 122
def TB (t : List Int) (i : Int) : Int := if i < t.length then t.getD i.toNat 0 else 32
theorem TB_r {t : List Int} (h : good t) {i : Int} (hi : 0 ≤ i) : 32 ≤ TB t i ∧ TB t i ≤ 122 := by
  unfold TB
  split
  · have hl : i.toNat < t.length := by omega
    rw [List.getD_eq_getElem?_getD, List.getElem?_eq_getElem hl]
    exact h _ (List.getElem_mem hl)
  · omega
def pv (T : Int → Int) (a : Int) : Nat → Int
  | 0 => 0
  | c + 1 => pv T a c * 256 + T (a + c)
theorem zishl8 {x : Int} (hx : 0 ≤ x ∧ x < 8388608) : zishl x 8 = x * 256 := by
  unfold zishl
  have e : (Int32.ofInt x <<< (Int32.ofInt 8 &&& 31)).toBitVec.toNat = x.toNat * 256 := by
    rw [Int32.toBitVec_shiftLeft]
    have hm : ((Int32.ofInt 8 &&& 31).toBitVec.smod 32).toNat = 8 := by decide
    rw [BitVec.shiftLeft_eq', BitVec.toNat_shiftLeft, hm, b_32, Nat.shiftLeft_eq]
    have : (x % 4294967296).toNat = x.toNat := by omega
    rw [this]
    exact Nat.mod_eq_of_lt (by show x.toNat * 256 < 4294967296; omega)
  show (Int32.ofInt x <<< (Int32.ofInt 8 &&& 31)).toBitVec.toInt = _
  rw [BitVec.toInt_eq_toNat_cond, if_pos (by rw [e]; show 2 * (x.toNat * 256) < 4294967296; omega), e]
  omega
theorem zior_b {x c : Int} (hx : 0 ≤ x ∧ x < 8388608) (hc : 0 ≤ c ∧ c < 256) : zior (x * 256) c = x * 256 + c := by
  unfold zior
  have e : (Int32.ofInt (x * 256) ||| Int32.ofInt c).toBitVec.toNat = 256 * x.toNat + c.toNat := by
    rw [Int32.toBitVec_or, BitVec.toNat_or, b_32, b_32, show (x * 256 % 4294967296).toNat = 2 ^ 8 * x.toNat by omega, show (c % 4294967296).toNat = c.toNat by omega, ← Nat.two_pow_add_eq_or_of_lt (show c.toNat < 2 ^ 8 by omega)]
  show (Int32.ofInt (x * 256) ||| Int32.ofInt c).toBitVec.toInt = _
  rw [BitVec.toInt_eq_toNat_cond, if_pos (by rw [e]; show 2 * (256 * x.toNat + c.toNat) < 4294967296; omega), e]
  omega
section PV
variable {T : Int → Int} (hT : ∀ i, 0 ≤ i → 32 ≤ T i ∧ T i ≤ 122)
theorem pv_4 {a : Int} : pv T a 4 = ((T a * 256 + T (a + 1)) * 256 + T (a + 2)) * 256 + T (a + 3) := by
  show (((0 * 256 + T (a + ((0 : Nat) : Int))) * 256 + T (a + ((1 : Nat) : Int))) * 256 + T (a + ((2 : Nat) : Int))) * 256 + T (a + ((3 : Nat) : Int)) = _
  rw [show a + ((0 : Nat) : Int) = a by omega, show a + ((1 : Nat) : Int) = a + 1 by omega, show a + ((2 : Nat) : Int) = a + 2 by omega, show a + ((3 : Nat) : Int) = a + 3 by omega]
  omega
end PV
theorem pv_r {T : Int → Int} (hT : ∀ i, 0 ≤ i → 32 ≤ T i ∧ T i ≤ 122) {a : Int} (ha : 0 ≤ a) : ∀ c : Nat, c ≤ 3 → 0 ≤ pv T a c ∧ pv T a c < 8388608 := by
  intro c hc
  have h0 := hT (a + ((0 : Nat) : Int)) (by omega)
  have h1 := hT (a + ((1 : Nat) : Int)) (by omega)
  have h2 := hT (a + ((2 : Nat) : Int)) (by omega)
  have : c = 0 ∨ c = 1 ∨ c = 2 ∨ c = 3 := by omega
  rcases this with rfl | rfl | rfl | rfl
  · show 0 ≤ (0 : Int) ∧ (0 : Int) < _; omega
  · show 0 ≤ 0 * 256 + T (a + ((0 : Nat) : Int)) ∧ 0 * 256 + T (a + ((0 : Nat) : Int)) < _; omega
  · show 0 ≤ (0 * 256 + T (a + ((0 : Nat) : Int))) * 256 + T (a + ((1 : Nat) : Int)) ∧ (0 * 256 + T (a + ((0 : Nat) : Int))) * 256 + T (a + ((1 : Nat) : Int)) < _; omega
  · show 0 ≤ ((0 * 256 + T (a + ((0 : Nat) : Int))) * 256 + T (a + ((1 : Nat) : Int))) * 256 + T (a + ((2 : Nat) : Int)) ∧ ((0 * 256 + T (a + ((0 : Nat) : Int))) * 256 + T (a + ((1 : Nat) : Int))) * 256 + T (a + ((2 : Nat) : Int)) < _; omega
theorem p_app {T : Int → Int} (hT : ∀ i, 0 ≤ i → 32 ≤ T i ∧ T i ≤ 122) {n : Int} {h : Hp} {Q : Hp → Prop} (hb : bfC h n T) (hn : 0 ≤ n ∧ n + 4 ≤ 900) (hQ : ∀ h', bfC h' (n + 4) T → (∀ p, p ≠ 176 → p ≠ 177 → h' p = h p) → Q h') : mX6_append (pv T n 4) h Q := by
  have t0 := hT n hn.1
  have t1 := hT (n + 1) (by omega)
  have t2 := hT (n + 2) (by omega)
  have t3 := hT (n + 3) (by omega)
  have e := pv_4 (T := T) (a := n)
  generalize pv T n 4 = v at e ⊢
  have hv : zr v := zri (by omega) (by omega)
  have e24 : zand (zishr v 24) 255 = T n := by
    rw [fb_ref hv 24 (by omega) (by decide)]
    show v / 16777216 % 256 = _
    omega
  have e16 : zand (zishr v 16) 255 = T (n + 1) := by
    rw [fb_ref hv 16 (by omega) (by decide)]
    show v / 65536 % 256 = _
    omega
  have e8 : zand (zishr v 8) 255 = T (n + 2) := by
    rw [fb_ref hv 8 (by omega) (by decide)]
    show v / 256 % 256 = _
    omega
  have e0 : zand (zishr v 0) 255 = T (n + 3) := by
    rw [fb_ref hv 0 (by omega) (by decide)]
    show v / 1 % 256 = _
    omega
  refine p6_append hv hb hn fun h' hb' f' => hQ h' ?_ f'
  have eq : bup (bup (bup (bup T n (zand (zishr v 24) 255)) (n + 1) (zand (zishr v 16) 255)) (n + 2) (zand (zishr v 8) 255)) (n + 3) (zand (zishr v 0) 255) = T := by
    funext i
    unfold bup
    rw [e24, e16, e8, e0]
    by_cases c3 : i = n + 3
    · rw [if_pos c3, c3]
    · rw [if_neg c3]
      by_cases c2 : i = n + 2
      · rw [if_pos c2, c2]
      · rw [if_neg c2]
        by_cases c1 : i = n + 1
        · rw [if_pos c1, c1]
        · rw [if_neg c1]
          by_cases c0 : i = n
          · rw [if_pos c0, c0]
          · rw [if_neg c0]
  rw [eq] at hb'
  exact hb'
theorem k_feed {T : Int → Int} (hT : ∀ i, 0 ≤ i → 32 ≤ T i ∧ T i ≤ 122) {n : Int} {h : Hp} {Q : Int → Hp → Prop} (hb : bfC h n T) (hn : 0 ≤ n ∧ n + 20 ≤ 900) (hQ : ∀ z h', bfC h' (n + 20) T → (∀ p, p ≠ 176 → p ≠ 177 → h' p = h p) → Q z h') : mX7_feed (pv T n 4) (pv T (n + 4) 4) (pv T (n + 8) 4) (pv T (n + 12) 4) (pv T (n + 16) 4) h Q := by
  unfold mX7_feed
  rw [hb.1]
  refine ⟨zri (by omega) (by omega), fun _ => ?_, fun c => by omega⟩
  refine p_app hT hb ⟨by omega, by omega⟩ fun a1 b1 f1 => ?_
  refine p_app hT b1 ⟨by omega, by omega⟩ fun a2 b2 f2 => ?_
  rw [show n + 4 + 4 = n + 8 by omega] at b2
  refine p_app hT b2 ⟨by omega, by omega⟩ fun a3 b3 f3 => ?_
  rw [show n + 8 + 4 = n + 12 by omega] at b3
  refine p_app hT b3 ⟨by omega, by omega⟩ fun a4 b4 f4 => ?_
  rw [show n + 12 + 4 = n + 16 by omega] at b4
  refine p_app hT b4 ⟨by omega, by omega⟩ fun a5 b5 f5 => ?_
  rw [show n + 16 + 4 = n + 20 by omega] at b5
  exact hQ _ a5 b5 fun p p1 p2 => by rw [f5 p p1 p2, f4 p p1 p2, f3 p p1 p2, f2 p p1 p2, f1 p p1 p2]
def clp (i j : Int) : Nat := (min 4 (max 0 (i - 4 * j))).toNat
theorem p_feeds {t : List Int} {h : Hp} {Q : Int → Hp → Prop} (k : tx h t) (hg : good t) (hl : t.length ≤ 480) (h0 : h 176 1 = 0) (hQ : ∀ h', (∀ i : Int, 0 ≤ i → i < t.length → rd h' 177 i = bt (TB t i)) → (t.length : Int) ≤ h' 176 1 → (∀ p, p ≠ 176 → p ≠ 177 → p ≠ 185 → p ≠ 188 → h' p = h p) → Q t.length h') : mL_feeds h Q := by
  have hT : ∀ i, 0 ≤ i → 32 ≤ TB t i ∧ TB t i ≤ 122 := fun i hi => TB_r hg hi
  have main : ∀ (m : Nat) (c : Int) (g : Hp), 0 ≤ c → c + 20 * m ≤ 880 → (t.length : Int) ≤ c + 20 * m → tx g t → bfC g c (TB t) → (∀ p, p ≠ 176 → p ≠ 177 → p ≠ 188 → g p = h p) → mL_feeds_b2 Q (m + 1) c g := by
    intro m
    induction m with
    | zero =>
      intro c g c0 c1 cl kg bg fg
      show _ ∧ _
      rw [kg.1]
      refine ⟨fun _ => fun g2 e2 => hQ g2 (fun i i1 i2 => ?_) ?_ (fun p p1 p2 p3 p4 => by rw [e2, hu_q p3]; exact fg p p1 p2 p4), fun d => by omega⟩
      · rw [e2, rd_hu (by omega)]; exact bg.2 i i1 (by omega)
      · rw [e2, hu_np (by omega), bg.1]; omega
    | succ m ih =>
      intro c g c0 c1 cl kg bg fg
      show _ ∧ _
      rw [kg.1]
      refine ⟨fun _ => fun g2 e2 => hQ g2 (fun i i1 i2 => ?_) ?_ (fun p p1 p2 p3 p4 => by rw [e2, hu_q p3]; exact fg p p1 p2 p4), fun _ => ⟨⟨by decide, by decide⟩, fun g2 e2 => ?_⟩⟩
      · rw [e2, rd_hu (by omega)]; exact bg.2 i i1 (by omega)
      · rw [e2, hu_np (by omega), bg.1]; omega
      have f2 : ∀ p, p ≠ 188 → g2 p = g p := fun p hp => by rw [e2, hnw_np hp]
      obtain ⟨f, hf⟩ := forU (fun f i => ∀ a, (a 188 100001 = 0 ∧ a 188 100000 = 5) → (∀ j, 0 ≤ j → j < 5 → rd a 188 j = pv (TB t) (c + 4 * j) (clp i j)) → (∀ p, p ≠ 188 → a p = g p) → mL_feeds_b17 Q (mL_feeds_b2 Q (m + 1)) f c i a) 0 20 (by omega) (fun f a ga wa fa => by
          have hz : ∀ j : Int, 0 ≤ j → j < 5 → zgk 0 a 188 j := fun j j1 j2 => ⟨⟨ga.1, by rw [ga.2]; decide⟩, j1, by rw [ga.2]; exact j2⟩
          have w4 : ∀ j : Int, 0 ≤ j → j < 5 → rd a 188 j = pv (TB t) (c + 4 * j) 4 := fun j j1 j2 => by
            rw [wa j j1 j2, show clp 20 j = 4 by unfold clp; omega]
          unfold mL_feeds_b17
          refine ⟨fun _ => ⟨hz 0 (by omega) (by omega), hz 1 (by omega) (by omega), hz 2 (by omega) (by omega), hz 3 (by omega) (by omega), hz 4 (by omega) (by omega), ?_⟩, fun d => absurd (Int.le_refl _) d⟩
          rw [w4 0 (by omega) (by omega), w4 1 (by omega) (by omega), w4 2 (by omega) (by omega), w4 3 (by omega) (by omega), w4 4 (by omega) (by omega)]
          rw [show c + 4 * 0 = c by omega, show c + 4 * 1 = c + 4 by omega, show c + 4 * 2 = c + 8 by omega, show c + 4 * 3 = c + 12 by omega, show c + 4 * 4 = c + 16 by omega]
          have ba : bfC a c (TB t) := ⟨by rw [fa 176 (by omega)]; exact bg.1, fun i i1 i2 => by rw [rd_same (fa 177 (by omega))]; exact bg.2 i i1 i2⟩
          refine k_feed hT ba ⟨c0, by omega⟩ fun z a2 b2 g2 => ⟨zri (by omega) (by omega), ih (c + 20) a2 (by omega) (by omega) (by omega) ?_ b2 (fun p p1 p2 p3 => by rw [g2 p p1 p2, fa p p3, fg p p1 p2 p3])⟩
          exact ⟨by rw [g2 185 (by omega) (by omega), fa 185 (by omega)]; exact kg.1, fun i hi => by rw [g2 186 (by omega) (by omega), fa 186 (by omega)]; exact kg.2 i hi⟩) (fun f i i1 i2 jh a ga wa fa => by
          have hj : 0 ≤ i / 4 ∧ i / 4 < 5 := by omega
          have hz : zgk 0 a 188 (i / 4) := ⟨⟨ga.1, by rw [ga.2]; decide⟩, hj.1, by rw [ga.2]; exact hj.2⟩
          have ec : clp i (i / 4) = (i % 4).toNat := by unfold clp; omega
          have hw := wa (i / 4) hj.1 hj.2
          rw [ec] at hw
          have hp := pv_r hT (a := c + 4 * (i / 4)) (by omega) (i % 4).toNat (by omega)
          have ti := hT (c + i) (by omega)
          have b63 : ∀ s0, s0 = TB t (c + i) → mL_feeds_b63 Q (mL_feeds_b2 Q (m + 1)) (mL_feeds_b17 Q (mL_feeds_b2 Q (m + 1)) f) c i s0 (zishl (rd a 188 (i / 4)) 8) (i / 4) a := fun s0 h0 => by
            unfold mL_feeds_b63
            refine ⟨hz, fun a2 e2 => ⟨zri (by omega) (by omega), jh a2 ?_ (fun j j1 j2 => ?_) (fun p hp => by rw [e2, wr_q hp]; exact fa p hp)⟩⟩
            · have e : ∀ q : Nat, 1000 ≤ q → a2 188 q = a 188 q := fun q hq => by rw [e2]; exact hu_ne (by omega)
              rw [e 100001 (by decide), e 100000 (by decide)]
              exact ga
            · rw [e2]
              by_cases e : j = i / 4
              · rw [e, rw_same, hw, zishl8 hp, h0, zior_b hp (by omega), show clp (i + 1) (i / 4) = (i % 4).toNat + 1 by unfold clp; omega]
                show _ = pv (TB t) (c + 4 * (i / 4)) (i % 4).toNat * 256 + TB t (c + 4 * (i / 4) + ((i % 4).toNat : Int))
                rw [show c + 4 * (i / 4) + ((i % 4).toNat : Int) = c + i by omega]
              · rw [rw_ne hj.1 j1 e, wa j j1 j2, show clp (i + 1) j = clp i j by unfold clp; omega]
          have ka : a 185 1 = t.length := by rw [fa 185 (by omega)]; exact kg.1
          unfold mL_feeds_b17
          rw [ka]
          refine ⟨fun d => by omega, fun _ => ⟨by omega, by omega, hz, zri (by omega) (by omega), fun d => b63 _ ?_, fun d => ⟨zri (by omega) (by omega), by omega, b63 _ ?_⟩⟩⟩
          · unfold TB; rw [if_neg (by omega)]
          · rw [rd_same (fa 186 (by omega))]
            have := kg.2 (c + i).toNat (by omega)
            unfold TB
            rw [if_pos (by omega)]
            exact this)
      refine ⟨f, hf g2 ?_ (fun j j1 j2 => ?_) f2⟩
      · rw [e2]; exact ⟨rfl, rfl⟩
      · rw [show clp 0 j = 0 by unfold clp; omega, e2]
        show hnw g 188 0 5 188 j.toNat = 0
        unfold hnw
        rw [if_pos rfl, if_neg (by omega), if_neg (by omega)]
  unfold mL_feeds
  exact ⟨25, Nat.le_refl _, main 24 0 h (by omega) (by omega) (by omega) k ⟨h0, fun i i1 i2 => by omega⟩ (fun _ _ _ _ => rfl)⟩
