/-! loads -/
def TX (g : Hp) (t : List Int) (N : Nat) : Prop := tx g t ∧ good t ∧ t.length ≤ N
theorem good_app {t u : List Int} (a : good t) (c : good u) : good (t ++ u) := fun x hx => (List.mem_append.mp hx).elim (a x) (c x)
theorem wlg : ∀ w : Fin 22, ∀ c ∈ wl w.val, 32 ≤ c ∧ c ≤ 122 := by decide
theorem DD_l {v : Int} : (DD v).length ≤ 2 := by unfold DD; split <;> simp
theorem DD_g {v : Int} (hv : 0 ≤ v ∧ v ≤ 99) : good (32 :: DD v) := fun c hc => by
  rcases List.mem_cons.mp hc with e | hc
  · omega
  · have := (DD_d hv).2 c hc
    unfold pD at this
    simp at this
    omega
theorem q_writes {w L N : Nat} {g : Hp} {t : List Int} {Q : Hp → Prop} (hw : w < 22) (hL : (wl w).length = L) (k : TX g t N) (hN : N + L ≤ 1000) (hQ : ∀ g', TX g' (t ++ wl w) (N + L) → ft g g' → Q g') : mL_writes w g Q :=
  p_writes k.1 (by have := k.2.2; omega) fun g' k' f' => hQ g' ⟨k', good_app k.2.1 (wlg ⟨w, hw⟩), by rw [List.length_append, hL]; have := k.2.2; omega⟩ f'
theorem q_spaced {v : Int} {N : Nat} {g : Hp} {t : List Int} {Q : Hp → Prop} (hv : 0 ≤ v ∧ v ≤ 99) (k : TX g t N) (hN : N + 3 ≤ 1000) (hQ : ∀ g', TX g' (t ++ (32 :: DD v)) (N + 3) → ft g g' → Q g') : mL_spaced v g Q :=
  p_spaced k.1 hv (by have := k.2.2; omega) fun g' k' f' => hQ g' ⟨k', good_app k.2.1 (DD_g hv), by rw [List.length_append, List.length_cons]; have := k.2.2; have := DD_l (v := v); omega⟩ f'
theorem q_letter {x : Int} {N : Nat} {g : Hp} {t : List Int} {Q : Hp → Prop} (hx : 0 ≤ x ∧ x ≤ 25) (k : TX g t N) (hN : N + 1 ≤ 1000) (hQ : ∀ g', TX g' (t ++ [97 + x]) (N + 1) → ft g g' → Q g') : mL_letter x g Q :=
  p_letter k.1 hx (by have := k.2.2; omega) fun g' k' f' => hQ g' ⟨k', good_app k.2.1 (fun c hc => by rw [List.mem_singleton.mp hc]; omega), by rw [List.length_append]; have := k.2.2; simp; omega⟩ f'
theorem q_cell {x : Int} {h : Hp} {Q : Int → Prop} (hx : 0 ≤ x) (hQ : ∀ z, 0 ≤ z → z ≤ 1073741823 → Q z) : mL_cell x h Q := ⟨hx, hQ⟩
/-- all but the law's text and its first row stays -/
def f7 (h g : Hp) : Prop := ∀ p, p ≠ 185 → p ≠ 186 → p ≠ 187 → g p = h p
theorem f7_ft {h g g' : Hp} (x : f7 h g) (y : ft g g') : f7 h g' := fun p h1 h2 h3 => (y p h1 h2).trans (x p h1 h2 h3)
theorem load_ok {g : Hp} {Q : Int → Hp → Prop} {t : List Int} {n0 : Int} {b0 : Int → Rw} {s' : Int} {r : Rw} (hg : good t) (hl : t.length ≤ 480) (hb : ∀ i : Int, 0 ≤ i → i < t.length → rd g 177 i = bt (TB t i)) (hf : (t.length : Int) ≤ g 176 1) (hh : hist g n0 b0) (hR : LD (TB t) t.length = (0, s', r)) (hr : LIn r) (hQ : ∀ g', st g' r → g' 169 10 = -1 → r 2 = 0 → r 7 = 0 → Q (r 0) g') : mX7_load t.length g Q := by
  have he : eT (TB t) t.length := ⟨by omega, fun i i1 _ => by have := TB_r hg i1; omega⟩
  unfold mX7_load
  refine ⟨fun c => by omega, fun _ => ⟨fun _ => p6_begin he hb fun g1 k1 e1 f1 => p2_readText he k1 hR (fun _ g2 n2 o2 _ f2 => ⟨fun _ => fun g3 e3 => ?_, fun c => absurd rfl c⟩) (fun c => absurd rfl c), fun c => absurd hf c⟩⟩
  have n2 : nets g2 13 r := n2
  have o2 : okL r := o2
  refine p3_copyFrom (nets_frame n2 (fun p p1 p2 => by rw [e3]; exact hu_q (by omega))) o2.1.1.1 (by omega) fun g4 n4 f4 => p0_clear fun g5 e5 => ?_
  have hh5 : hist g5 0 b0 := by
    have h3 : hist g3 n0 b0 := hist_frame hh (fun p hp => by rw [e3, hu_q (by omega), f2.2 p (by omega) (by omega) (by omega), f1 p (by omega)])
    have h4 : hist g4 n0 b0 := hist_frame h3 (fun p hp => f4 p (by omega))
    rw [e5]
    exact hist_frame (hist_clear h4) (fun p hp => hu_q (by omega))
  have n5 : nets g5 0 r := nets_frame n4 (fun p p1 p2 => by rw [e5, hu_q (by omega), hu_q (by omega)])
  rw [n5.1.1]
  refine hQ g5 ⟨n5, o2.1, 0, b0, hh5⟩ ?_ o2.2.1 o2.2.2.1
  rw [e5, hu_ne (by omega), hu_q (by omega), f4 169 (by omega), e3, hu_same]
def hF (g : Hp) (o v : Int → Int) (i : Int) : Prop := (g 187 100001 = 4 ∧ g 187 100000 = 60) ∧ (∀ j, 0 ≤ j → j < i → ¬ rd g 187 (2 * (v j - 1) + o j) = 0) ∧ ∀ q, (q = 0 ∨ q = 1) → cn (fun w => decide (¬ rd g 187 (2 * w + q) = 0)) 0 30 ≤ i
theorem hF_ft {g g' : Hp} {o v : Int → Int} {i : Int} (x : hF g o v i) (y : ft g g') : hF g' o v i := by
  have e : g' 187 = g 187 := y 187 (by omega) (by omega)
  unfold hF at x ⊢
  simp only [rd, e]
  exact x
theorem cn_all {p : Int → Bool} {b : Int} : ∀ a, a ≤ b → (∀ i, a ≤ i → i < b → p i = true) → cn p a b = b - a := by
  refine upI (b := b) (fun a h h2 _ => ?_) (fun a h ih h2 hp => ?_)
  · rw [cn_end h]; omega
  · rw [cn_hit h (hp a (Int.le_refl _) h), ih (by omega) (fun i i1 i2 => hp i (by omega) i2)]; omega
theorem cn_lo {p : Int → Bool} {b : Int} : ∀ (n : Nat) (a : Int), a + n ≤ b → cn p (a + n) b ≤ cn p a b := by
  intro n
  induction n with
  | zero => intro a _; rw [show a + ((0 : Nat) : Int) = a by omega]; exact Int.le_refl _
  | succ n ih =>
    intro a h
    have := ih (a + 1) (by omega)
    rw [show a + ((n + 1 : Nat) : Int) = a + 1 + n by omega]
    rw [cn_step (p := p) (show a < b by omega)]
    split <;> omega
/-- the hosts told so far -/
def HS (h : Hp) (H : List Int → List Int) (o v : Int → Int) (p : Int → Bool) (i : Int) (g : Hp) : Prop := ∃ t, TX g t (31 + 20 * i.toNat) ∧ (∀ rest, t ++ rest = H (HTf o v p 0 i.toNat rest)) ∧ (∀ j, 0 ≤ j → j < i → (0 ≤ o j ∧ o j ≤ 1) ∧ 1 ≤ v j ∧ v j ≤ 60) ∧ (∀ j k, 0 ≤ j → j < k → k < i → ¬ (o j = o k ∧ v j = v k)) ∧ f7 h g ∧ hF g o v i
/-- and the rules -/
def RS (h : Hp) (H : List Int → List Int) (m : Nat) (o x y : Int → Int) (a : Int → Bool) (k : Int) (g : Hp) : Prop := ∃ t, TX g t (31 + 20 * m + 22 * k.toNat) ∧ (∀ rest, t ++ rest = H (RTf o a x y 0 k.toNat rest)) ∧ (∀ j, 0 ≤ j → j < k → (0 ≤ o j ∧ o j ≤ 1) ∧ (0 ≤ x j ∧ x j ≤ 16) ∧ (0 ≤ y j ∧ y j ≤ 16)) ∧ f7 h g
theorem wln : (wl 12).length = 9 ∧ (wl 13).length = 4 ∧ (wl 14).length = 5 ∧ (wl 15).length = 1 ∧ (wl 16).length = 5 ∧ (wl 17).length = 8 ∧ (wl 18).length = 4 ∧ (wl 19).length = 6 ∧ (wl 20).length = 5 ∧ (wl 21).length = 4 := by decide
theorem RT_snoc {o2 x y : Int → Int} {a : Int → Bool} {i oo xx yy : Int} {al : Bool} {rest : List Int} (i0 : 0 ≤ i) : RTf (fun j => if j = i then oo else o2 j) (fun j => if j = i then al else a j) (fun j => if j = i then xx else x j) (fun j => if j = i then yy else y j) 0 (i + 1).toNat rest = RTf o2 a x y 0 i.toNat (rT oo al xx yy rest) := by
  rw [show (i + 1).toNat = i.toNat + 1 by omega, RTf_s]
  simp only [show (0 : Int) + (i.toNat : Int) = i by omega, if_pos]
  exact RTf_c _ _ _ (fun j j1 j2 => ⟨if_neg (by omega), if_neg (by omega), if_neg (by omega), if_neg (by omega)⟩)
theorem HT_snoc {o v : Int → Int} {p : Int → Bool} {i oo vv : Int} {pp : Bool} {rest : List Int} (i0 : 0 ≤ i) : HTf (fun j => if j = i then oo else o j) (fun j => if j = i then vv else v j) (fun j => if j = i then pp else p j) 0 (i + 1).toNat rest = HTf o v p 0 i.toNat (hT i oo vv pp rest) := by
  rw [show (i + 1).toNat = i.toNat + 1 by omega, HTf_s]
  simp only [show (0 : Int) + (i.toNat : Int) = i by omega, if_pos]
  exact HTf_c _ _ _ (fun j j1 j2 => ⟨if_neg (by omega), if_neg (by omega), if_neg (by omega)⟩)
section LO
variable {h : Hp} {Q : Int → Hp → Prop}
theorem l_226 {K P A B : Int} {o v : Int → Int} {p : Int → Bool} {m q : Int} {n0 : Int} {b0 : Int → Rw} (hK : 0 ≤ K ∧ K ≤ 3) (hP : 1 ≤ P ∧ P ≤ 9) (hA : 1 ≤ A) (hAB : A ≤ B) (hB : B ≤ 60) (hm : 0 ≤ m ∧ m ≤ 10) (hq : 0 ≤ q ∧ q ≤ 6) (h0 : h 176 1 = 0) (hh : hist h n0 b0)
    (hb : ∀ j, 0 ≤ j → j < m → (0 ≤ o j ∧ o j ≤ 1) ∧ 1 ≤ v j ∧ v j ≤ 60) (hd : ∀ j k, 0 ≤ j → j < k → k < m → ¬ (o j = o k ∧ v j = v k)) (hQ : ∀ g, inv g → Q 1 g)
    {g : Hp} (S : RS h (fun r => hdT K P A B (HTf o v p 0 m.toNat r)) m.toNat (fun _ => 0) (fun _ => 0) (fun _ => 0) (fun _ => false) 0 g) : ∃ ff, mL_loads_b226 Q ff m q 0 g := by
  obtain ⟨f, hf⟩ := forU (fun f i => ∀ o2 x y a g, RS h (fun r => hdT K P A B (HTf o v p 0 m.toNat r)) m.toNat o2 x y a i g → mL_loads_b226 Q f m q i g) 0 q hq.1 (fun f o2 x y a g S => by
      obtain ⟨t, k, ht, hb2, hf7⟩ := S
      have hl : t.length ≤ 480 := by have := k.2.2; omega
      unfold mL_loads_b226
      refine ⟨fun _ => p_feeds k.1 k.2.1 hl (by rw [hf7 176 (by omega) (by omega) (by omega)]; exact h0) fun g1 b1 f1 e1 => ?_, fun c => absurd (Int.le_refl _) c⟩
      have hps : PS (TB t) t.length 0 (hdT K P A B (HTf o v p 0 m.toNat (RTf o2 a x y 0 q.toNat []))) := by
        have := ht []
        rw [List.append_nil] at this
        have this : t = hdT K P A B (HTf o v p 0 m.toNat (RTf o2 a x y 0 q.toNat [])) := this
        rw [← this]
        refine ⟨Int.le_refl 0, by omega, fun i hi => ?_⟩
        unfold TB
        rw [if_pos (by omega), show (0 + (i : Int)).toNat = i by omega]
      obtain ⟨s', r, hR, r0, r1, hr⟩ := LD_T hps hK hP hA hAB hB (by omega) (by omega) (fun j j1 j2 => hb j j1 (by omega)) (fun j k j1 jk k2 => hd j k j1 jk (by omega)) (fun j j1 j2 => hb2 j j1 (by omega))
      have r0 : r 0 = m := by omega
      have r1 : r 1 = q := by omega
      have hh1 : hist g1 n0 b0 := hist_frame hh (fun p hp => by rw [e1 p (by omega) (by omega) (by omega) (by omega), hf7 p (by omega) (by omega) (by omega)])
      refine load_ok k.2.1 hl b1 f1 hh1 hR hr fun g2 s2 e2 r2 r7 => ?_
      have n2 : cn (fun i => decide (¬ fl r i 4 = 0)) 0 (r 0) = 0 := by
        have := cn_st (p := fun i => decide (¬ fl r i 4 = 0)) (c := 0) (a := 0) (Int.le_refl 0) (r 0).toNat (fun i i1 i2 => by rw [hr.2 i i1 (by omega)]; rfl)
        rw [show (0 : Int) + ((r 0).toNat : Int) = r 0 by omega, cn_end (Int.le_refl _)] at this
        exact this
      refine ⟨fun c => absurd r0 c, fun _ => ?_⟩
      show _ ∧ _
      rw [e2]
      refine ⟨fun c => absurd rfl c, fun _ => k_s0 s2 ⟨fun c => absurd r0 c, fun _ => k_s1 s2 ⟨fun c => absurd r1 c, fun _ => k_s2 s2 ?_⟩⟩⟩
      rw [n2]
      refine ⟨fun c => absurd rfl c, fun _ => k_s3 s2 ⟨fun c => absurd r2 c, fun _ => k_s8 s2 ⟨fun c => absurd r7 c, fun _ => hQ g2 ⟨r, s2, hr.1⟩⟩⟩⟩) (fun f i i1 i2 ih o2 x y a g S => by
      obtain ⟨t, k, ht, hb2, hf7⟩ := S
      unfold mL_loads_b226
      refine ⟨fun c => by omega, fun _ => ⟨zri (by omega) (by omega), q_cell (by omega) fun z z0 z1 => ?_⟩⟩
      refine q_writes (by decide) wln.2.2.2.2.2.2.1 k (by omega) fun g1 k1 f1 => ⟨by omega, q_spaced (by omega) k1 (by omega) fun g2 k2 f2 => ⟨by omega, by omega, ?_⟩⟩
      have b275 : ∀ (al : Bool) (L : Nat), (wl (if al then 19 else 20)).length = L → L ≤ 6 → mL_loads_b275 Q (mL_loads_b226 Q f) m q i z (if al then 19 else 20) g2 := fun al L hL hL6 => by
        unfold mL_loads_b275
        refine q_writes (by split <;> omega) hL k2 (by omega) fun g3 k3 f3 => ?_
        -- the sides
        have side : ∀ (d : Int) (s0 : Int) (f9 : Nat) (N : Nat) (u : List Int) (e : Hp), (s0 = 8 ∨ s0 = 256) → 0 ≤ d → d ≤ 1 → TX e u N → N ≤ 900 → (∀ e', TX e' (u ++ (if (z / s0) % 17 = 0 then wl 21 else 32 :: DD ((z / s0) % 17))) (N + 4) → ft e e' → mL_loads_b281 Q (mL_loads_b226 Q f) f9 m q i z (d + 1) e') → mL_loads_b302 Q (mL_loads_b226 Q f) (mL_loads_b281 Q (mL_loads_b226 Q f) f9) m q i z d s0 z e := fun d s0 f9 N u e hs d0 d1 ke hN hn => by
          unfold mL_loads_b302 mL_loads_b328
          have hz : 0 ≤ z / s0 := by rcases hs with rfl | rfl <;> omega
          refine ⟨by omega, by omega, fun c => q_spaced (by omega) ke (by omega) fun e' k' f' => ⟨zri (by omega) (by omega), hn e' ?_ f'⟩, fun c => q_writes (by decide) wln.2.2.2.2.2.2.2.2.2 ke (by omega) fun e' k' f' => ⟨zri (by omega) (by omega), hn e' ?_ f'⟩⟩
          · rw [if_neg c]; exact ⟨k'.1, k'.2.1, by have := k'.2.2; omega⟩
          · rw [if_pos c]; exact k'
        refine ⟨3, ?_⟩
        show _ ∧ _
        refine ⟨fun c => absurd c (by decide), fun _ => ⟨fun c => absurd rfl c, fun _ => side 0 8 2 _ _ g3 (Or.inl rfl) (by omega) (by omega) k3 (by omega) fun g4 k4 f4 => ?_⟩⟩
        show _ ∧ _
        refine ⟨fun c => absurd c (by decide), fun _ => ⟨fun _ => side 1 256 1 _ _ g4 (Or.inr rfl) (by omega) (by omega) k4 (by omega) fun g5 k5 f5 => ?_, fun c => absurd c (by decide)⟩⟩
        show _ ∧ _
        refine ⟨fun _ => q_writes (by decide) wln.2.2.2.1 k5 (by omega) fun g6 k6 f6 => ⟨zri (by omega) (by omega), ih (fun j => if j = i then z % 2 else o2 j) (fun j => if j = i then (z / 8) % 17 else x j) (fun j => if j = i then (z / 256) % 17 else y j) (fun j => if j = i then al else a j) g6 ⟨_, ⟨k6.1, k6.2.1, by have := k6.2.2; omega⟩, fun rest => ?_, fun j j1 j2 => ?_, f7_ft (f7_ft (f7_ft (f7_ft (f7_ft (f7_ft hf7 f1) f2) f3) f4) f5) f6⟩⟩, fun c => absurd (by decide) c⟩
        · rw [RT_snoc i1, ← ht]
          unfold rT sT
          simp only [List.append_assoc]
        · by_cases e : j = i
          · simp only [if_pos e]; omega
          · simp only [if_neg e]; exact hb2 j j1 (by omega)
      refine ⟨fun c => b275 false 5 wln.2.2.2.2.2.2.2.2.1 (by omega), fun c => b275 true 6 wln.2.2.2.2.2.2.2.1 (by omega)⟩)
  exact ⟨f, hf _ _ _ _ g S⟩
theorem l_98 {K P A B : Int} {m c : Int} {n0 : Int} {b0 : Int → Rw} (hK : 0 ≤ K ∧ K ≤ 3) (hP : 1 ≤ P ∧ P ≤ 9) (hA : 1 ≤ A) (hAB : A ≤ B) (hB : B ≤ 60) (hm : 0 ≤ m ∧ m ≤ 10) (hc : 0 ≤ c ∧ c ≤ 1073741823) (h0 : h 176 1 = 0) (hh : hist h n0 b0) (hQ : ∀ g, inv g → Q 1 g)
    {g : Hp} (S : HS h (hdT K P A B) (fun _ => 0) (fun _ => 0) (fun _ => false) 0 g) : ∃ ff, mL_loads_b98 Q ff c m 0 g := by
  obtain ⟨f, hf⟩ := forU (fun f i => ∀ o v p g, HS h (hdT K P A B) o v p i g → mL_loads_b98 Q f c m i g) 0 m hm.1 (fun f o v p g S => by
      obtain ⟨t, k, ht, hb, hd, hf7, -⟩ := S
      unfold mL_loads_b98
      refine ⟨fun _ => ⟨by omega, by omega, l_226 hK hP hA hAB hB hm (by omega) h0 hh hb hd hQ (p := p) ⟨t, ⟨k.1, k.2.1, by have := k.2.2; simp; omega⟩, fun rest => ht rest, fun j j1 j2 => by omega, hf7⟩⟩, fun c => absurd (Int.le_refl _) c⟩) (fun f i i1 i2 ih o v p g S => by
      obtain ⟨t, k, ht, hb, hd, hf7, hg, hreg, hcn⟩ := S
      unfold mL_loads_b98
      refine ⟨fun c => by omega, fun _ => ⟨zri (by omega) (by omega), q_cell (by omega) fun z z0 z1 => ⟨by omega, by omega, by omega, ?_⟩⟩⟩
      -- the first number that is free in the office
      have hq : z % 2 = 0 ∨ z % 2 = 1 := by omega
      have hW : ∃ W, (z / 2) % 15 ≤ W ∧ W < 30 ∧ rd g 187 (2 * W + z % 2) = 0 ∧ ∀ w, (z / 2) % 15 ≤ w → w < W → ¬ rd g 187 (2 * w + z % 2) = 0 := by
        rcases fs_spec (fun w => decide (rd g 187 (2 * w + z % 2) = 0)) ((z / 2) % 15) 30 with ⟨-, q⟩ | ⟨q1, q2, q3, q4⟩
        · exfalso
          have a1 := hcn (z % 2) hq
          have a2 := cn_all (p := fun w => decide (¬ rd g 187 (2 * w + z % 2) = 0)) (b := 30) ((z / 2) % 15) (by omega) (fun w w1 w2 => by have := q w w1 w2; simpa using this)
          have a3 := cn_lo (p := fun w => decide (¬ rd g 187 (2 * w + z % 2) = 0)) (b := 30) ((z / 2) % 15).toNat 0 (by omega)
          rw [show (0 : Int) + (((z / 2) % 15).toNat : Int) = (z / 2) % 15 by omega] at a3
          omega
        · exact ⟨_, q1, q2, of_decide_eq_true q3, fun w w1 w2 => of_decide_eq_false (q4 w w1 w2)⟩
      obtain ⟨W, w1, w2, w3, w4⟩ := hW
      have hz : ∀ w : Int, 0 ≤ w → w < 30 → zgk 4 g 187 (2 * w + z % 2) := fun w a b => ⟨⟨hg.1, by rw [hg.2]; decide⟩, by omega, by rw [hg.2]; omega⟩
      refine forU (fun f2 w => mL_loads_b130 Q (mL_loads_b98 Q f) f2 c m i z (z % 2) w g) ((z / 2) % 15) W w1 (fun f2 => ?_) (fun f2 w a b jh => ?_)
      · unfold mL_loads_b130
        refine ⟨zri (by omega) (by omega), zri (by omega) (by omega), hz W (by omega) w2, fun _ => ⟨zri (by omega) (by omega), zri (by omega) (by omega), hz W (by omega) w2, fun g1 e1 => ?_⟩, fun d => absurd w3 d⟩
        have k1 : TX g1 t (31 + 20 * i.toNat) := ⟨⟨by rw [e1, wr_q (by omega)]; exact k.1.1, fun j hj => by rw [e1, wr_q (by omega)]; exact k.1.2 j hj⟩, k.2⟩
        refine q_writes (by decide) wln.2.2.2.2.1 k1 (by omega) fun g2 k2 f2 => q_letter (by omega) k2 (by omega) fun g3 k3 f3 => q_spaced (by omega) k3 (by omega) fun g4 k4 f4 => ⟨zri (by omega) (by omega), q_spaced (by omega) k4 (by omega) fun g5 k5 f5 => ⟨by omega, by omega, ?_⟩⟩
        have f25 : ft g1 g5 := ft_tr f2 (ft_tr f3 (ft_tr f4 f5))
        have hne : ∀ j, 0 ≤ j → j < i → ¬ (o j = z % 2 ∧ v j = W + 1) := fun j j1 j2 q => hreg j j1 j2 (by rw [q.1, q.2, show 2 * (W + 1 - 1) + z % 2 = 2 * W + z % 2 by omega]; exact w3)
        have hF1 : hF g1 (fun j => if j = i then z % 2 else o j) (fun j => if j = i then W + 1 else v j) (i + 1) := by
          refine ⟨?_, fun j j1 j2 => ?_, fun q hq2 => ?_⟩
          · have e : ∀ q : Nat, 1000 ≤ q → g1 187 q = g 187 q := fun q hq => by rw [e1]; exact hu_ne (by omega)
            rw [e 100001 (by decide), e 100000 (by decide)]
            exact hg
          · by_cases e : j = i
            · simp only [if_pos e]
              rw [e1, show 2 * (W + 1 - 1) + z % 2 = 2 * W + z % 2 by omega, rw_same]
              decide
            · simp only [if_neg e]
              have b2 := hb j j1 (by omega)
              have r2 := hreg j j1 (by omega)
              rw [e1, rw_if (by omega) (by omega)]
              split
              · decide
              · exact r2
          · have old := hcn q hq2
            by_cases e : q = z % 2
            · have := cn_upd (p := fun w => decide (¬ rd g 187 (2 * w + q) = 0)) (q := fun w => decide (¬ rd g1 187 (2 * w + q) = 0)) (x := W) (b := 30) 0 (by omega) w2 (fun w a1 a2 a3 => by
                show decide (¬ rd g 187 (2 * w + q) = 0) = decide (¬ rd g1 187 (2 * w + q) = 0)
                rw [e1, rw_ne (by omega) (by omega) (by omega)])
              rw [this]
              have u1 : ∀ b, 0 ≤ b2i b ∧ b2i b ≤ 1 := fun b => by cases b <;> decide
              have := u1 (decide (¬ rd g 187 (2 * W + q) = 0))
              have := u1 (decide (¬ rd g1 187 (2 * W + q) = 0))
              omega
            · have : cn (fun w => decide (¬ rd g1 187 (2 * w + q) = 0)) 0 30 = cn (fun w => decide (¬ rd g 187 (2 * w + q) = 0)) 0 30 := cn_congr 0 (fun w a1 a2 => by
                show decide (¬ rd g1 187 (2 * w + q) = 0) = decide (¬ rd g 187 (2 * w + q) = 0)
                rw [e1, rw_ne (by omega) (by omega) (by omega)])
              rw [this]
              omega
        have b204 : ∀ (pp : Bool) (L : Nat), (wl (if pp then 17 else 15)).length = L → L ≤ 8 → mL_loads_b204 Q (mL_loads_b98 Q f) c m i (if pp then 17 else 15) g5 := fun pp L hL h8 => by
          unfold mL_loads_b204
          refine q_writes (by split <;> omega) hL k5 (by omega) fun g6 k6 f6 => ⟨zri (by omega) (by omega), ih (fun j => if j = i then z % 2 else o j) (fun j => if j = i then W + 1 else v j) (fun j => if j = i then pp else p j) g6 ⟨_, ⟨k6.1, k6.2.1, by have := k6.2.2; omega⟩, fun rest => ?_, fun j j1 j2 => ?_, fun j k' j1 jk k2' => ?_, fun p p1 p2 p3 => by rw [f6 p p1 p2, f25 p p1 p2, e1, wr_q p3]; exact hf7 p p1 p2 p3, hF_ft (hF_ft hF1 f25) f6⟩⟩
          · rw [HT_snoc i1, ← ht]
            unfold hT
            simp only [List.append_assoc]
          · by_cases e : j = i
            · simp only [if_pos e]; omega
            · simp only [if_neg e]; exact hb j j1 (by omega)
          · by_cases e : k' = i
            · simp only [if_pos e, if_neg (show ¬ j = i by omega)]
              exact hne j j1 (by omega)
            · simp only [if_neg e, if_neg (show ¬ j = i by omega)]
              exact hd j k' j1 jk (by omega)
        exact ⟨fun d => b204 false 1 wln.2.2.2.1 (by omega), fun d => b204 true 8 wln.2.2.2.2.2.1 (by omega)⟩
      · unfold mL_loads_b130
        exact ⟨zri (by omega) (by omega), zri (by omega) (by omega), hz w (by omega) (by omega), fun d => absurd d (w4 w a b), fun _ => ⟨zri (by omega) (by omega), jh⟩⟩)
  exact ⟨f, hf _ _ _ g S⟩
theorem p_loads {n0 : Int} {b0 : Int → Rw} (ht : h 185 1 = 0) (h0 : h 176 1 = 0) (hh : hist h n0 b0) (hQ : ∀ g, inv g → Q 1 g) : mL_loads h Q := by
  have k0 : TX h [] 0 := ⟨⟨ht, fun i hi => absurd hi (by simp)⟩, (by intro c hc; cases hc), Nat.le_refl _⟩
  unfold mL_loads
  refine q_cell (by omega) fun z z0 z1 => ?_
  refine q_writes (by decide) wln.1 k0 (by omega) fun g1 k1 f1 => ⟨by omega, ?_⟩
  refine q_spaced (by omega) k1 (by omega) fun g2 k2 f2 => ?_
  refine q_writes (by decide) wln.2.1 k2 (by omega) fun g3 k3 f3 => ⟨by omega, by omega, zri (by omega) (by omega), ?_⟩
  refine q_spaced (by omega) k3 (by omega) fun g4 k4 f4 => ?_
  refine q_writes (by decide) wln.2.2.1 k4 (by omega) fun g5 k5 f5 => ⟨by omega, by omega, zri (by omega) (by omega), ?_⟩
  refine q_spaced (by omega) k5 (by omega) fun g6 k6 f6 => ⟨by omega, by omega, zri (by omega) (by omega), ?_⟩
  refine q_spaced (by omega) k6 (by omega) fun g7 k7 f7' => ?_
  refine q_writes (by decide) wln.2.2.2.1 k7 (by omega) fun g8 k8 f8 => ⟨by omega, by omega, zri (by omega) (by omega), ⟨by decide, by decide⟩, fun g9 e9 => ?_⟩
  have ff : ft h g8 := ft_tr f1 (ft_tr f2 (ft_tr f3 (ft_tr f4 (ft_tr f5 (ft_tr f6 (ft_tr f7' f8))))))
  have e8 : ∀ p, p ≠ 187 → g9 p = g8 p := fun p hp => by rw [e9, hnw_np hp]
  refine l_98 (h := h) (K := z % 4) (P := 1 + (z / 4) % 4) (A := 8 + (z / 16) % 8) (B := 16 + (z / 128) % 10) (by omega) (by omega) (by omega) (by omega) (by omega) (by omega) ⟨z0, z1⟩ h0 hh hQ ⟨_, ⟨⟨by rw [e8 185 (by omega)]; exact k8.1.1, fun i hi => by rw [e8 186 (by omega)]; exact k8.1.2 i hi⟩, k8.2.1, by have := k8.2.2; simpa using this⟩, fun rest => ?_, fun j j1 j2 => by omega, fun j k j1 jk k2 => by omega, fun p p1 p2 p3 => by rw [e8 p p3]; exact ff p p1 p2, ?_, fun j j1 j2 => by omega, fun q hq => ?_⟩
  · show _ = hdT _ _ _ _ rest
    unfold hdT
    simp only [List.append_assoc, List.nil_append]
  · rw [e9]; exact ⟨rfl, rfl⟩
  · have : ∀ w, 0 ≤ w → w < 30 → decide (¬ rd g9 187 (2 * w + q) = 0) = false := fun w a b => by
      have e : rd g9 187 (2 * w + q) = 0 := by
        rw [e9]
        show (if (187 : Nat) = 187 then _ else _) = _
        rw [if_pos rfl, if_neg (by omega), if_neg (by omega)]
      rw [e]
      rfl
    have := cn_st (p := fun w => decide (¬ rd g9 187 (2 * w + q) = 0)) (c := 0) (a := 0) (Int.le_refl 0) 30 (fun i i1 i2 => this i i1 (by omega))
    rw [cn_end (Int.le_refl _)] at this
    have this : cn (fun w => decide (¬ rd g9 187 (2 * w + q) = 0)) 0 30 = 0 := this
    omega
end LO
