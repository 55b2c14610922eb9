/-! letters, means and shares, when the bridge can be opened -/
theorem let_r {r : Rw} {i k : Int} (ho : okH r i) (hk : 0 ≤ k ∧ k < 8) : 0 ≤ fl r i (6 + k) ∧ fl r i (6 + k) ≤ 122 := by
  obtain ⟨-, -, -, -, -, -, -, h, -⟩ := ho
  have := h k hk.1 hk.2
  by_cases c : k < fl r i 5
  · have := this.1 c; omega
  · have := this.2 (by omega); omega
theorem nml_r {r : Rw} {i : Int} (ho : okH r i) : 0 ≤ nm r i ∧ nm r i < 9223372036854775808 := by
  have a0 := let_r ho (k := 0) (by omega)
  have a1 := let_r ho (k := 1) (by omega)
  have a2 := let_r ho (k := 2) (by omega)
  have a3 := let_r ho (k := 3) (by omega)
  have a4 := let_r ho (k := 4) (by omega)
  have a5 := let_r ho (k := 5) (by omega)
  have a6 := let_r ho (k := 6) (by omega)
  have a7 := let_r ho (k := 7) (by omega)
  simp only [show (6 : Int) + 0 = 6 from rfl, show (6 : Int) + 1 = 7 from rfl, show (6 : Int) + 2 = 8 from rfl, show (6 : Int) + 3 = 9 from rfl, show (6 : Int) + 4 = 10 from rfl, show (6 : Int) + 5 = 11 from rfl, show (6 : Int) + 6 = 12 from rfl, show (6 : Int) + 7 = 13 from rfl] at a0 a1 a2 a3 a4 a5 a6 a7
  unfold nm
  omega
theorem nm_let {r : Rw} {i k : Int} (ho : okH r i) (hk : 0 ≤ k ∧ k < 8) : ((nm r i).toNat / 2 ^ (8 * k).toNat : Nat) % 256 = (fl r i (6 + k)).toNat := by
  have hr := nml_r ho
  have a0 := let_r ho (k := 0) (by omega)
  have a1 := let_r ho (k := 1) (by omega)
  have a2 := let_r ho (k := 2) (by omega)
  have a3 := let_r ho (k := 3) (by omega)
  have a4 := let_r ho (k := 4) (by omega)
  have a5 := let_r ho (k := 5) (by omega)
  have a6 := let_r ho (k := 6) (by omega)
  have a7 := let_r ho (k := 7) (by omega)
  simp only [show (6 : Int) + 0 = 6 from rfl, show (6 : Int) + 1 = 7 from rfl, show (6 : Int) + 2 = 8 from rfl, show (6 : Int) + 3 = 9 from rfl, show (6 : Int) + 4 = 10 from rfl, show (6 : Int) + 5 = 11 from rfl, show (6 : Int) + 6 = 12 from rfl, show (6 : Int) + 7 = 13 from rfl] at a0 a1 a2 a3 a4 a5 a6 a7
  have hn : nm r i = fl r i 6 + 256 * (fl r i 7 + 256 * (fl r i 8 + 256 * (fl r i 9 + 256 * (fl r i 10 + 256 * (fl r i 11 + 256 * (fl r i 12 + 256 * fl r i 13)))))) := rfl
  have hk8 : k = 0 ∨ k = 1 ∨ k = 2 ∨ k = 3 ∨ k = 4 ∨ k = 5 ∨ k = 6 ∨ k = 7 := by omega
  rcases hk8 with c | c | c | c | c | c | c | c <;> subst c
  · show (nm r i).toNat / 1 % 256 = (fl r i 6).toNat
    omega
  · show (nm r i).toNat / 256 % 256 = (fl r i 7).toNat
    omega
  · show (nm r i).toNat / 65536 % 256 = (fl r i 8).toNat
    omega
  · show (nm r i).toNat / 16777216 % 256 = (fl r i 9).toNat
    omega
  · show (nm r i).toNat / 4294967296 % 256 = (fl r i 10).toNat
    omega
  · show (nm r i).toNat / 1099511627776 % 256 = (fl r i 11).toNat
    omega
  · show (nm r i).toNat / 281474976710656 % 256 = (fl r i 12).toNat
    omega
  · show (nm r i).toNat / 72057594037927936 % 256 = (fl r i 13).toNat
    omega
theorem p7_letterOf {r : Rw} {i k : Int} {h : Hp} {Q : Int → Prop} (ho : okH r i) (hk : 0 ≤ k ∧ k < 8) (hQ : Q (fl r i (6 + k))) : mX7_letterOf (nm r i) k h Q := by
  have hr := nml_r ho
  have hl := let_r ho hk
  unfold mX7_letterOf
  refine ⟨zri (by omega) (by omega), ?_⟩
  have hd : (nm r i).toNat / 2 ^ (8 * k).toNat < 9223372036854775808 := Nat.lt_of_le_of_lt (Nat.div_le_self _ _) (by omega)
  have hm := nm_let ho hk
  rw [zlushr_n hr (by omega)]
  generalize (nm r i).toNat / 2 ^ (8 * k).toNat = d at hd hm ⊢
  rw [zbyte (by omega), show (d : Int) % 256 = fl r i (6 + k) by omega]
  exact hQ
theorem c_name {x y : Int} {h : Hp} (hi : inv h) : mL_name x y h (fun k h1 => mX8_name x y h1 (fun b h2 => okA k b h2)) := by
  obtain ⟨⟨n, o⟩, -⟩ := id hi
  unfold mL_name mX7_name
  refine p7_needHost n.1.1 (fun hx => ?_) (fun hx => ⟨rfl, ?_⟩)
  · obtain ⟨e1, -⟩ := n.2.1 x hx.1 hx.2
    have hO := o.1.2.2.2.2.1 x hx.1 hx.2
    have hO2 := hO
    unfold okH at hO2
    have o1 := o.1.1
    unfold okR at o1
    have good : ∀ z, z = (if 0 ≤ y ∧ y < fl (rd h 186) x 5 then fl (rd h 186) x (6 + y) else -1) → mX8_name x y (wr h 197 0 z) (fun b h2 => okA 0 b h2) := by
      intro z hz
      unfold mX8_name
      intro a e
      rw [e]
      have hr : rd (hu (wr h 197 0 z) 185 0 0) 186 = rd h 186 := by rw [tR, oR]
      refine p8_hostF (by rw [hr]; exact o.1.1) t0 (by omega) (fun _ => ⟨fun _ => p8_of ⟨by omega, by omega⟩ (by omega) ?_, fun w => absurd rfl w⟩) (fun w => absurd (by rw [hr]; exact hx) w)
      rw [hr]
      refine ⟨zri (by omega) (by omega), p8_in ⟨fun c => ?_, fun c => ?_⟩⟩
      · have c' := of_decide_eq_false (b2i0.mp c)
        exact okA_v hi (by rw [hz, if_neg (by omega)])
      · have c' := of_decide_eq_true (b2i1.mp c)
        refine ⟨zri (by omega) (by omega), p8_of ⟨by omega, by omega⟩ (by omega) (okA_v hi ?_)⟩
        rw [hr, hz, if_pos (by omega)]
    refine ⟨fun c => ⟨by omega, fun h4 e => ?_⟩, fun c => ⟨fun d => ⟨⟨by omega, by omega⟩, ?_⟩, fun d => ⟨by omega, fun h4 e => ?_⟩⟩⟩
    · rw [e]; exact good _ (by rw [if_neg (by omega)])
    · rw [e1]
      refine p7_letterOf hO ⟨by omega, d⟩ ?_
      have hL := hO2.2.2.2.2.2.2.2.1 y (by omega) d
      refine ⟨fun c2 => ⟨by omega, fun h4 e => ?_⟩, fun c2 => ⟨by omega, fun h4 e => ?_⟩⟩
      · rw [e]
        have hq : y < fl (rd h 186) x 5 := by
          by_cases q : y < fl (rd h 186) x 5
          · exact q
          · exact absurd (hL.2 (by omega)) c2
        exact good _ (by rw [if_pos ⟨by omega, hq⟩])
      · rw [e]
        refine good _ ?_
        rw [if_neg]
        intro q
        have := hL.1 q.2
        omega
    · rw [e]; exact good _ (by rw [if_neg (by omega)])
  · unfold mX8_name
    intro a e
    rw [e]
    exact p8_hostF (by rw [tR]; exact o.1.1) t0 (by omega) (fun c => absurd (by rw [tR] at c; exact c) hx) (fun _ => ⟨fun c => absurd c (by decide), fun _ => okA_x hi (by omega)⟩)
def oIn : Nat → Rw → Int → Int
  | 0, _, _ => -1
  | f + 1, r, n => if clashes r ≤ 0 then n else if tw0 r = 0 then oIn f (wv r) (n + 1) else -1
theorem oIn_s {f : Nat} {r : Rw} {n : Int} : oIn (f + 1) r n = if clashes r ≤ 0 then n else if tw0 r = 0 then oIn f (wv r) (n + 1) else -1 := rfl
theorem wv_2 {r : Rw} : wv r 2 = r 2 + 1 := (mk_h (by omega)).trans wvH_2
theorem clashes_r {r : Rw} : 0 ≤ clashes r ∧ clashes r ≤ 250 := cn_r (clash r) (b := 251) 1 (by omega)
theorem c_openIn {h : Hp} (hi : inv h) : mX7_openIn h (fun z h1 => mX8_openIn h1 (fun b h2 => okB z b h2)) := by
  obtain ⟨⟨n, o⟩, -⟩ := id hi
  have good : ∀ z g, inv g → rd g 186 = rd h 186 → z = oIn 10 (rd h 186) 0 → mX8_openIn g (fun b h2 => okB z b h2) := by
    intro z g hi2 hg hz
    unfold mX8_openIn
    intro a e
    rw [e]
    have hr2 : rd (hu g 185 0 0) 186 = rd h 186 := by rw [tR, hg]
    refine p8_laysAside fun a1 fa ea => ?_
    have back : ∀ (s v : Int) (b1 : Hp), (if v = 0 then s else -1) = z → (∀ p, p ≠ 185 → p ≠ 186 → p ≠ 192 → b1 p = a1 p) → (∀ k, k ≠ 19 → k ≠ 20 → b1 185 k = a1 185 k) → mX8_openIn_b35 (fun b h2 => okB z b h2) s v b1 := by
      intro s v b1 hs fb kb
      unfold mX8_openIn_b35
      refine p8_laysBack fun c1 fc ec => ?_
      have hi3 := inv_back (inv_t hi2) fa ea fb kb fc ec
      exact ⟨fun d => ⟨hi3, by rw [if_neg d] at hs; exact hs.symm⟩, fun d => ⟨hi3, by rw [if_pos d] at hs; exact hs.symm⟩⟩
    obtain ⟨f, hf⟩ := forU (fun f k => ∀ (r : Rw) (b1 : Hp), okS r → k ≤ r 2 → eqV r (rd b1 186) → oIn (10 - k).toNat r k = z → (∀ p, p ≠ 185 → p ≠ 186 → p ≠ 192 → b1 p = a1 p) → (∀ k, k ≠ 19 → k ≠ 20 → b1 185 k = a1 185 k) → mX8_openIn_b13 (fun b h2 => okB z b h2) (f + 1) k 0 b1) 0 10 (by omega) (fun f r b1 ho h2 eb hc fb kb => by
        have := ho.1.1.2.2.1
        omega) (fun f k k1 k2 ih r b1 ho h2 eb hc fb kb => by
        unfold mX8_openIn_b13
        rw [show (10 - k).toNat = (10 - (k + 1)).toNat + 1 by omega] at hc
        rw [oIn_s] at hc
        refine ⟨fun w => absurd rfl w, fun _ => p8_clashes (okR_eqV ho.1.1 eb) ?_⟩
        rw [ev_clashes eb]
        refine ⟨fun c => ?_, fun c => p8_movesIf eb ho fun b2 eb2 kb2 fb2 => ⟨zri (by omega) (by omega), ?_⟩⟩
        · rw [if_pos c] at hc
          exact back k 0 b1 (by rw [if_pos rfl]; exact hc) fb kb
        · rw [if_neg c] at hc
          have fb3 : ∀ p, p ≠ 185 → p ≠ 186 → p ≠ 192 → b2 p = a1 p := fun p p1 p2 p3 => by rw [fb2 p p1 p2 p3, fb p p1 p2 p3]
          have kb3 : ∀ k, k ≠ 19 → k ≠ 20 → b2 185 k = a1 185 k := fun k k1 k2 => by rw [kb2 k k1 k2, kb k k1 k2]
          by_cases d : tw0 r = 0
          · rw [if_pos d] at hc
            rw [d]
            exact ih (wv r) b2 (tw0_ok ho d).1 (by rw [wv_2]; omega) (eb2 d).1 hc fb3 kb3
          · rw [if_neg d] at hc
            unfold mX8_openIn_b13
            exact ⟨fun _ => back (k + 1) (tw0 r) b2 (by rw [if_neg d]; exact hc) fb3 kb3, fun w => absurd w d⟩)
    exact ⟨f + 1, hf (rd h 186) a1 o o.1.1.2.2.1.1 (by rw [rd_ne (fa 186 (by omega)), hr2]; exact ev_rfl) hz.symm (fun _ _ _ _ => rfl) (fun _ _ _ => rfl)⟩
  unfold mX7_openIn
  refine p3_copyFrom n o.1.1 (by omega) fun g1 n1 f1 => ?_
  obtain ⟨f, hf⟩ := forU (fun f k => ∀ (r : Rw) (b1 : Hp), okS r → k ≤ r 2 → nets b1 13 r → oIn (10 - k).toNat r k = oIn 10 (rd h 186) 0 → (∀ p, ¬ (13 ≤ p ∧ p ≤ 25) → p ≠ 173 → p ≠ 174 → p ≠ 175 → b1 p = g1 p) → mX7_openIn_b13 (fun z h1 => mX8_openIn h1 (fun b h2 => okB z b h2)) f k b1) 0 10 (by omega) (fun f r b1 ho h2 nb hc fb => by
      have := ho.1.1.2.2.1
      omega) (fun f k k1 k2 ih r b1 ho h2 nb hc fb => by
      unfold mX7_openIn_b13
      rw [show (10 - k).toNat = (10 - (k + 1)).toNat + 1 by omega] at hc
      rw [oIn_s] at hc
      have hcl := clashes_r (r := r)
      have hcn := cn_r (mvg r) (b := r 0) 0 ho.1.1.1.1
      have ht := tw0_r (r := r)
      refine ⟨fun w => by omega, fun _ => p7_clashCount nb ho.1 (by omega) fun b2 f2 => ?_⟩
      have fb2 : ∀ p, ¬ (13 ≤ p ∧ p ≤ 25) → p ≠ 173 → p ≠ 174 → p ≠ 175 → b2 p = g1 p := fun p p1 p2 p3 p4 => by rw [f2 p p2 p3 p4, fb p p1 p2 p3 p4]
      have ok2 : ∀ b3 : Hp, (∀ p, ¬ (13 ≤ p ∧ p ≤ 25) → p ≠ 173 → p ≠ 174 → p ≠ 175 → b3 p = g1 p) → inv b3 ∧ rd b3 186 = rd h 186 := fun b3 f3 => ⟨inv_c hi (fun p p1 p2 p3 => by rw [f3 p p1 (by omega) (by omega) (by omega), f1 p (by omega)]), by rw [rd_ne (f3 186 (by omega) (by omega) (by omega) (by omega)), rd_ne (f1 186 (by omega))]⟩
      refine ⟨fun c => p7_tryWave (nets_frame nb (fun p p1 p2 => f2 p (by omega) (by omega) (by omega))) ho fun b3 n3 f3 => ?_, fun c => ?_⟩
      · rw [if_neg (by omega)] at hc
        have fb3 : ∀ p, ¬ (13 ≤ p ∧ p ≤ 25) → p ≠ 173 → p ≠ 174 → p ≠ 175 → b3 p = g1 p := fun p p1 p2 p3 p4 => by rw [f3 p p1 p2 p3 p4, fb2 p p1 p2 p3 p4]
        by_cases d : tw0 r = 0
        · rw [if_pos d] at hc
          rw [if_pos d]
          exact ⟨fun _ => ⟨zri (by omega) (by omega), ih (wv r) b3 (tw0_ok ho d).1 (by rw [wv_2]; omega) (n3 d) hc fb3⟩, fun w => by omega⟩
        · rw [if_neg d] at hc
          rw [if_neg d]
          exact ⟨fun w => by omega, fun _ => good _ b3 (ok2 b3 fb3).1 (ok2 b3 fb3).2 hc⟩
      · rw [if_pos (by omega)] at hc
        exact good _ b2 (ok2 b2 fb2).1 (ok2 b2 fb2).2 hc)
  exact ⟨f, hf (rd h 186) g1 o o.1.1.2.2.1.1 n1 rfl (fun _ _ _ _ _ => rfl)⟩
def smN (F : Int → Int) : Int → Nat → Int
  | _, 0 => 0
  | a, n + 1 => F a + smN F (a + 1) n
def sm (F : Int → Int) (a b : Int) : Int := smN F a (b - a).toNat
theorem sm_end {F : Int → Int} {a b : Int} (h : b ≤ a) : sm F a b = 0 := by
  unfold sm
  rw [show (b - a).toNat = 0 by omega]
  rfl
theorem sm_step {F : Int → Int} {a b : Int} (h : a < b) : sm F a b = F a + sm F (a + 1) b := by
  unfold sm
  obtain ⟨n, hn⟩ : ∃ n, (b - a).toNat = n + 1 := ⟨(b - a).toNat - 1, by omega⟩
  rw [hn, show (b - (a + 1)).toNat = n by omega]
  rfl
theorem rcm_r {r : Rw} (ho : okR r) {x : Int} : 0 ≤ rcm r x ∧ rcm r x ≤ 40 := by
  unfold okR at ho
  have := cn_r (fun i => decide (¬ i = x) && (net r x i && alw r (dcm r (fl r x 0) (fl r x 1) (fl r i 1)))) (b := r 0) 0 ho.1.1
  unfold rcm
  omega
def okF (z b : UInt32) (h : Hp) : Prop := inv h ∧ z = b
def okD (z b : UInt64) (h : Hp) : Prop := inv h ∧ z = b
def mcn (r : Rw) : Int := cn (fun i => decide (0 < lat r i)) 0 (r 0)
theorem p8_movedShare {h : Hp} {Q : UInt32 → Hp → Prop} {r : Rw} (e : rd h 186 = r) (ho : okR r) (hQ : (r 0 = 0 → Q FP.fconst0 (hu h 185 0 0)) ∧ (¬ r 0 = 0 → Q (FP.fdiv (FP.i2f (Int32.ofInt (mcn r))) (FP.i2f (Int32.ofInt (r 0)))) (hu h 185 0 0))) : mX8_movedShare h Q := by
  unfold okR at ho
  unfold mX8_movedShare
  intro g eg
  rw [eg]
  have hr : rd (hu h 185 0 0) 186 = r := by rw [tR, e]
  have hc := cn_r (fun i => decide (0 < lat r i)) (b := r 0) 0 ho.1.1
  obtain ⟨f, hf⟩ := forU (fun f i => ∀ s, 0 ≤ s → s ≤ i → s + cn (fun i => decide (0 < lat r i)) i (r 0) = mcn r → mX8_movedShare_b9 Q f s i (hu h 185 0 0)) 0 (r 0) ho.1.1 (fun f s s0 s1 hs => by
      unfold mX8_movedShare_b9
      rw [hr]
      rw [cn_end (Int.le_refl _), Int.add_zero] at hs
      rw [hs]
      refine ⟨by omega, fun _ => ⟨by omega, fun c => ⟨by omega, nn_f ?_ ⟨by omega, by omega⟩, hQ.2 c⟩, fun c => hQ.1 c⟩, fun w => absurd (Int.le_refl _) w⟩
      unfold mcn
      omega) (fun f i i1 i2 ih s s0 s1 hs => by
      unfold mX8_movedShare_b9 mX8_movedShare_b33
      rw [hr]
      refine ⟨by omega, fun w => by omega, fun _ => p8_latest ⟨i1, by omega⟩ ?_⟩
      rw [hr]
      refine ⟨fun c => ⟨zri (by omega) (by omega), zri (by omega) (by omega), ih _ (by omega) (by omega) ?_⟩, fun c => ⟨zri (by omega) (by omega), zri (by omega) (by omega), ih _ (by omega) (by omega) ?_⟩⟩
      · rw [cn_skip i2 (decide_eq_false (by omega))] at hs; omega
      · rw [cn_hit i2 (decide_eq_true (by omega))] at hs; omega)
  exact ⟨f, hf 0 (by omega) (by omega) (by rw [Int.zero_add]; rfl)⟩
theorem c_movedShare {h : Hp} (hi : inv h) : mX7_movedShare h (fun z => mX8_movedShare h (fun b h2 => okF z b h2)) := by
  obtain ⟨⟨n, o⟩, -⟩ := id hi
  have o1 := o.1.1
  unfold okR at o1
  have hc := cn_r (fun i => decide (0 < lat (rd h 186) i)) (b := rd h 186 0) 0 o1.1.1
  unfold mX7_movedShare
  rw [n.1.1]
  refine ⟨fun c => p3_movedCount n o.1 ⟨nn_f ⟨hc.1, by omega⟩ ⟨by omega, by omega⟩, p8_movedShare rfl o.1.1 ⟨fun d => absurd d c, fun _ => ⟨inv_t hi, rfl⟩⟩⟩, fun c => p8_movedShare rfl o.1.1 ⟨fun _ => ⟨inv_t hi, rfl⟩, fun d => absurd c d⟩⟩
theorem p8_meanReach {h : Hp} {Q : UInt64 → Hp → Prop} {r : Rw} (e : rd h 186 = r) (ho : okW r) (hQ : (r 0 = 0 → Q FP.dconst0 (hu h 185 0 0)) ∧ (¬ r 0 = 0 → Q (FP.ddiv (FP.i2d (Int32.ofInt (sm (rcm r) 0 (r 0)))) (FP.i2d (Int32.ofInt (r 0)))) (hu h 185 0 0))) : mX8_meanReach h Q := by
  have ho1 := ho.1
  unfold okR at ho1
  unfold mX8_meanReach
  intro g eg
  rw [eg]
  have hr : rd (hu h 185 0 0) 186 = r := by rw [tR, e]
  obtain ⟨f, hf⟩ := forU (fun f i => ∀ s, 0 ≤ s → s ≤ 40 * i → s + sm (rcm r) i (r 0) = sm (rcm r) 0 (r 0) → mX8_meanReach_b9 Q f s i (hu h 185 0 0)) 0 (r 0) ho1.1.1 (fun f s s0 s1 hs => by
      unfold mX8_meanReach_b9
      rw [hr]
      rw [sm_end (Int.le_refl _), Int.add_zero] at hs
      refine ⟨by omega, fun _ => ⟨by omega, fun c => ⟨by omega, nn_d ⟨by omega, by omega⟩ ⟨by omega, by omega⟩, ?_⟩, fun c => hQ.1 c⟩, fun w => absurd (Int.le_refl _) w⟩
      rw [hs]
      exact hQ.2 c) (fun f i i1 i2 ih s s0 s1 hs => by
      unfold mX8_meanReach_b9
      rw [hr]
      have hb := rcm_r ho.1 (x := i)
      refine ⟨by omega, fun w => by omega, fun _ => p8_reachOf (by rw [hr]; exact ho) (by rw [hr]; exact ⟨i1, i2⟩) ?_⟩
      rw [hr]
      have er : cn (fun i_1 => decide (¬ i_1 = i) && (net r i i_1 && alw r (dcm r (fl r i 0) (fl r i 1) (fl r i_1 1)))) 0 (r 0) = rcm r i := rfl
      rw [er]
      rw [sm_step i2] at hs
      exact ⟨zri (by omega) (by omega), zri (by omega) (by omega), ih _ (by omega) (by omega) (by omega)⟩)
  exact ⟨f, hf 0 (by omega) (by omega) (by rw [Int.zero_add])⟩
theorem c_meanReach {h : Hp} (hi : inv h) : mX7_meanReach h (fun z => mX8_meanReach h (fun b h2 => okD z b h2)) := by
  obtain ⟨⟨n, o⟩, -⟩ := id hi
  have o1 := o.1.1
  unfold okR at o1
  have e0 := n.1.1
  unfold mX7_meanReach
  rw [e0]
  refine ⟨fun c => ?_, fun c => p8_meanReach rfl o.1 ⟨fun _ => ⟨inv_t hi, rfl⟩, fun d => absurd c d⟩⟩
  obtain ⟨f, hf⟩ := forU (fun f i => ∀ s, 0 ≤ s → s ≤ 40 * i → s + sm (rcm (rd h 186)) i (rd h 186 0) = sm (rcm (rd h 186)) 0 (rd h 186 0) → mX7_meanReach_b16 h (fun z => mX8_meanReach h (fun b h2 => okD z b h2)) f s i) 0 (rd h 186 0) o1.1.1 (fun f s s0 s1 hs => by
      unfold mX7_meanReach_b16
      rw [e0]
      rw [sm_end (Int.le_refl _), Int.add_zero] at hs
      refine ⟨fun _ => ⟨nn_d ⟨by omega, by omega⟩ ⟨by omega, by omega⟩, p8_meanReach rfl o.1 ⟨fun d => absurd d c, fun _ => ⟨inv_t hi, by rw [hs]⟩⟩⟩, fun w => absurd (Int.le_refl _) w⟩) (fun f i i1 i2 ih s s0 s1 hs => by
      unfold mX7_meanReach_b16
      rw [e0]
      have hb := rcm_r o.1.1 (x := i)
      have hx := rch_rcm o (x := i) ⟨i1, i2⟩
      rw [sm_step i2] at hs
      refine ⟨fun w => by omega, fun _ => p3_reachOf n o.1 ⟨i1, i2⟩ ?_⟩
      have er : ∀ z, z = rcm (rd h 186) i → zr (s + z) ∧ zr (i + 1) ∧ mX7_meanReach_b16 h (fun z => mX8_meanReach h (fun b h2 => okD z b h2)) f (s + z) (i + 1) := fun z hz => by
        rw [hz]
        exact ⟨zri (by omega) (by omega), zri (by omega) (by omega), ih _ (by omega) (by omega) (by omega)⟩
      exact er _ hx)
  exact ⟨f, hf 0 (by omega) (by omega) (by rw [Int.zero_add])⟩
