/-! isWave -/
def NN (r : Rw) (i : Int) : Int := if fl r i 4 = r 2 + 1 then fl r i 3 else fl r i 1
def OO (r : Rw) (i : Int) : Int := if fl r i 4 = r 2 + 1 then (if r 3 ≤ 0 then 0 else fl r i 1) else if kpa r i (r 2 + 1) = true then kept r i else 0
def TT (r : Rw) (i j : Int) : Bool := net r i j && (decide (NN r i = NN r j) || (decide (NN r i = OO r j) || (decide (OO r i = NN r j) || (decide (0 < OO r i) && decide (OO r i = OO r j)))))
section WV
variable {r : Rw}
theorem wv_f (ho : okW r) {i j : Int} (hi : 0 ≤ i ∧ i < r 0) (hj : 0 ≤ j ∧ j < 24) : fl (wv r) i j = wvM r i j := by
  have o1 := ho.1
  unfold okR at o1
  exact mk_f ⟨hi.1, by omega⟩ hj
theorem wv_k {k : Int} (h : ¬ k = 2) (hk : k < 16) : wv r k = r k := (mk_h hk).trans (wvH_k h)
theorem wv_1 (ho : okW r) {i : Int} (hi : 0 ≤ i ∧ i < r 0) : fl (wv r) i 1 = NN r i := by
  rw [wv_f ho hi (by omega)]
  unfold wvM NN
  split
  · rw [if_pos rfl]
  · rfl
theorem wv_0 (ho : okW r) {i : Int} (hi : 0 ≤ i ∧ i < r 0) : fl (wv r) i 0 = fl r i 0 := by
  have o1 := ho.1
  unfold okR at o1
  rw [wv_f ho hi (by omega)]
  unfold wvM
  split
  · rw [if_neg (by omega), if_neg (by omega), if_neg (by omega), if_neg (by omega)]
  · rfl
theorem wv_kept (ho : okW r) (h2 : r 2 < 9) {i : Int} (hi : 0 ≤ i ∧ i < r 0) : kept (wv r) i = OO r i := by
  have o1 := ho.1
  unfold okR at o1
  have hl := wvM_lat (s := wv r) ho h2 hi (fun j j1 j2 => wv_f ho hi ⟨j1, j2⟩)
  have e3 : wv r 3 = r 3 := wv_k (by omega) (by omega)
  have lr := lat_r (r := r) (i := i)
  unfold kept kp OO
  rw [hl, e3, wv_2]
  by_cases c : fl r i 4 = r 2 + 1
  · rw [if_pos c, if_pos c, if_neg (by omega)]
    by_cases d : r 3 ≤ 0
    · rw [if_pos (by omega), if_pos d]
    · rw [if_neg (by omega), if_neg d, wv_f ho hi (by omega)]
      unfold wvM
      rw [if_pos c, if_neg (by omega), if_neg (by omega), if_neg (by omega), if_pos (by omega)]
  · rw [if_neg c, if_neg c]
    unfold kpa
    by_cases d : lat r i ≤ 0
    · rw [if_pos d, if_neg (by simp; omega)]
    · rw [if_neg d]
      by_cases e : lat r i + r 3 ≤ r 2 + 1
      · rw [if_pos e, if_neg (by simp; omega)]
      · rw [if_neg e, if_pos (by simp; omega), wv_f ho hi (by omega)]
        unfold kept kp wvM
        rw [if_neg c, if_neg d, if_neg (by omega)]
theorem wv_net (ho : okW r) {i j : Int} (hi : 0 ≤ i ∧ i < r 0) (hj : 0 ≤ j ∧ j < r 0) : net (wv r) i j = net r i j := by
  unfold net
  rw [wv_k (by omega) (by omega), wv_0 ho hi, wv_0 ho hj]
theorem wv_hds (ho : okW r) (h2 : r 2 < 9) {i v : Int} (hi : 0 ≤ i ∧ i < r 0) : hds (wv r) i v = (decide (NN r i = v) || decide (OO r i = v)) := by
  unfold hds
  rw [wv_1 ho hi, wv_kept ho h2 hi]
theorem wv_twice (ho : okW r) (h2 : r 2 < 9) : twice (wv r) = -1 ↔ ∀ i j, 0 ≤ j → j < i → i < r 0 → TT r i j = false := by
  have e0 : wv r 0 = r 0 := wv_k (by omega) (by omega)
  have okw := wv_okW ho h2
  have rg : ∀ i, 0 ≤ i → i < r 0 → (1 ≤ NN r i ∧ NN r i ≤ 250) ∧ (0 ≤ OO r i ∧ OO r i ≤ 250) := fun i i1 i2 => by
    have hO := okw.2.2.2.2.1 i i1 (by rw [e0]; exact i2)
    have hk := kept_r hO (wv r 2)
    unfold okH at hO
    rw [← wv_1 ho ⟨i1, i2⟩, ← wv_kept ho h2 ⟨i1, i2⟩]
    exact ⟨hO.2.1, hk⟩
  constructor
  · intro ht i j j1 j2 i2
    cases hT : TT r i j with
    | false => rfl
    | true =>
      exfalso
      have hi : 0 ≤ i ∧ i < r 0 := by omega
      have hj : 0 ≤ j ∧ j < r 0 := by omega
      have gi := rg i hi.1 hi.2
      have gj := rg j hj.1 hj.2
      unfold TT at hT
      rw [Bool.and_eq_true] at hT
      have fin : ∀ v, 1 ≤ v ∧ v ≤ 250 → (NN r i = v ∨ OO r i = v) → (NN r j = v ∨ OO r j = v) → False := fun v hv a b =>
        twice_no ht hv j1 j2 (by rw [e0]; exact i2) (by rw [wv_net ho hi hj]; exact hT.1) (by rw [wv_hds ho h2 hi]; simpa using a) (by rw [wv_hds ho h2 hj]; simpa using b)
      have q := hT.2
      simp only [Bool.or_eq_true, Bool.and_eq_true, decide_eq_true_eq] at q
      rcases q with q | q | q | q
      · exact fin _ gi.1 (Or.inl rfl) (Or.inl q.symm)
      · exact fin _ gi.1 (Or.inl rfl) (Or.inr q.symm)
      · exact fin _ gj.1 (Or.inr q) (Or.inl rfl)
      · exact fin (OO r i) (by omega) (Or.inr rfl) (Or.inr q.2.symm)
  · intro hT
    refine twice_mk fun v j i v1 v2 j1 j2 i2 hn a b => ?_
    rw [e0] at i2
    have hi : 0 ≤ i ∧ i < r 0 := by omega
    have hj : 0 ≤ j ∧ j < r 0 := by omega
    rw [wv_net ho hi hj] at hn
    rw [wv_hds ho h2 hi] at a
    rw [wv_hds ho h2 hj] at b
    simp only [Bool.or_eq_true, decide_eq_true_eq] at a b
    have := hT i j j1 j2 i2
    unfold TT at this
    rw [hn, Bool.true_and] at this
    simp only [Bool.or_eq_false_iff, Bool.and_eq_false_iff, decide_eq_false_iff_not] at this
    omega
end WV
/-- what the two rows at 187 and 188 are -/
def gk (g : Hp) (n : Int) : Prop := (g 187 100001 = 0 ∧ g 187 100000 = n) ∧ (g 188 100001 = 0 ∧ g 188 100000 = n)
theorem gk_fr {g g' : Hp} {n : Int} (k : gk g n) (f : fr g g') : gk g' n := by
  unfold gk
  rw [f 187 (by omega), f 188 (by omega)]
  exact k
theorem gk_w {g : Hp} {n i z : Int} {p : Nat} (k : gk g n) (hi : i < 1000) : gk (wr g p i z) n := by
  have e : ∀ q c, 1000 ≤ c → wr g p i z q c = g q c := fun q c hc => hu_ne (by omega)
  unfold gk
  rw [e 187 100001 (by decide), e 187 100000 (by decide), e 188 100001 (by decide), e 188 100000 (by decide)]
  exact k
theorem gk_7 {g : Hp} {n i : Int} (k : gk g n) (hn : n ≤ 40) (hi : 0 ≤ i ∧ i < n) : zgk 0 g 187 i := ⟨⟨k.1.1, by rw [k.1.2]; omega⟩, hi.1, by rw [k.1.2]; exact hi.2⟩
theorem gk_8 {g : Hp} {n i : Int} (k : gk g n) (hn : n ≤ 40) (hi : 0 ≤ i ∧ i < n) : zgk 0 g 188 i := ⟨⟨k.2.1, by rw [k.2.2]; omega⟩, hi.1, by rw [k.2.2]; exact hi.2⟩
def gv (g : Hp) (r : Rw) (n : Int) : Prop := ∀ j, 0 ≤ j → j < n → rd g 187 j = NN r j ∧ rd g 188 j = OO r j
theorem gv_fr {g g' : Hp} {r : Rw} {n : Int} (k : gv g r n) (f : fr g g') : gv g' r n := fun j j1 j2 => by
  rw [rd_same (f 187 (by omega)), rd_same (f 188 (by omega))]
  exact k j j1 j2
/-- the law's object and its text stay -/
def fl6 (h g : Hp) : Prop := g 185 = h 185 ∧ g 186 = h 186
theorem fl6_fr {h g g' : Hp} (k : fl6 h g) (f : fr g g') : fl6 h g' := ⟨by rw [f 185 (by omega)]; exact k.1, by rw [f 186 (by omega)]; exact k.2⟩
section IW
variable {r : Rw} {h : Hp} {Q : Int → Hp → Prop}
/-- the wave is done, looked at, and taken back -/
theorem w_469 {g : Hp} (ho : okS r) (h2 : r 2 < 9) (w : sw g (wv r) r) (k : gk g (r 0)) (v : gv g r (r 0)) (f6 : fl6 h g) (hQ : ∀ g', st g' r → fl6 h g' → Q 1 g') : ∃ ff, mL_isWave_b469 Q ff (r 0) (r 2) 0 g := by
  have o1 := ho.1.1
  unfold okR at o1
  have s := sw_st w
  have e0 : wv r 0 = r 0 := wv_k (by omega) (by omega)
  refine forU (fun f i => mL_isWave_b469 Q f (r 0) (r 2) i g) 0 (r 0) o1.1.1 (fun f => ?_) (fun f i i1 i2 ih => ?_)
  · unfold mL_isWave_b469
    exact ⟨fun _ => k_undo w ho fun z g2 z0 s2 f2 => ⟨fun c => by omega, fun _ => k_s3 s2 ⟨fun c => absurd rfl c, fun _ => hQ g2 s2 (fl6_fr f6 f2)⟩⟩, fun c => absurd (Int.le_refl _) c⟩
  · have hx : 0 ≤ i ∧ i < r 0 := ⟨i1, i2⟩
    have hx2 : 0 ≤ i ∧ i < wv r 0 := by rw [e0]; exact hx
    obtain ⟨v1, v2⟩ := v i i1 i2
    unfold mL_isWave_b469
    refine ⟨fun c => by omega, fun _ => k_h1 s hx2 ⟨gk_7 k o1.1.2 hx, ?_⟩⟩
    rw [v1, wv_1 ho.1 hx]
    refine ⟨fun c => absurd rfl c, fun _ => k_h2 s hx2 ⟨gk_8 k o1.1.2 hx, ?_⟩⟩
    rw [v2, wv_kept ho.1 h2 hx]
    exact ⟨fun _ => ⟨zri (by omega) (by omega), ih⟩, fun c => absurd rfl c⟩
theorem w_360 {g : Hp} (s : st g r) (k : gk g (r 0)) (v : gv g r (r 0)) (f6 : fl6 h g) (hQ : ∀ g', st g' r → fl6 h g' → Q 1 g') : mL_isWave_b360 Q (r 0) (r 2) (r 2 + 1) (cn (mvg r) 0 (r 0)) (tw0 r) g := by
  have o1 := st_b s
  have b377 : ∀ d, d = (if r 2 = 9 then 0 else cn (mvg r) 0 (r 0)) → mL_isWave_b377 Q (r 0) (r 2) (r 2 + 1) (cn (mvg r) 0 (r 0)) (tw0 r) d g := fun d hd => by
    unfold mL_isWave_b377
    refine k_whyNot s fun g1 s1 f1 => ⟨fun c => absurd rfl c, fun _ => ?_⟩
    have b402 : ∀ e, e = d → mL_isWave_b402 Q (r 0) (r 2) (r 2 + 1) (cn (mvg r) 0 (r 0)) (tw0 r) e d g1 := fun e he => by
      unfold mL_isWave_b402
      refine ⟨fun _ => k_wave s1 (fun t0 g2 w2 f2 => ?_) (fun t0 g2 s2 f2 => ?_), fun c => absurd he.symm c⟩
      · have h2 : r 2 < 9 := (tw0_ok s.2.1 t0).2
        have s2 := sw_st w2
        refine ⟨fun _ => ⟨fun c => absurd rfl c, fun _ => k_s3 s2 ?_⟩, fun c => absurd t0 c⟩
        rw [wv_2]
        refine ⟨fun c => absurd rfl c, fun _ => k_plans s2 (by omega) ?_⟩
        have z : pln (wv r) (r 2 + 1) = 0 := by
          have e0 : wv r 0 = r 0 := wv_k (by omega) (by omega)
          unfold pln
          rw [e0]
          have hc := cn_r (fun i => decide (fl (wv r) i 4 = r 2 + 1)) (b := r 0) 0 o1.1.1
          by_cases q : 0 < cn (fun i => decide (fl (wv r) i 4 = r 2 + 1)) 0 (r 0)
          · exfalso
            obtain ⟨i, i1, i2, i3⟩ := (cn_pos (p := fun i => decide (fl (wv r) i 4 = r 2 + 1)) (b := r 0) 0).mp q
            have i3 : fl (wv r) i 4 = r 2 + 1 := of_decide_eq_true i3
            rw [wv_f s.2.1.1 ⟨i1, i2⟩ (by omega)] at i3
            unfold wvM at i3
            by_cases d : fl r i 4 = r 2 + 1
            · rw [if_pos d, if_neg (by omega), if_neg (by omega), if_pos rfl] at i3
              omega
            · rw [if_neg d] at i3
              exact d i3
          · omega
        rw [z]
        exact ⟨fun _ => w_469 s.2.1 h2 w2 (gk_fr (gk_fr k f1) f2) (gv_fr (gv_fr v f1) f2) (fl6_fr (fl6_fr f6 f1) f2) hQ, fun c => absurd rfl c⟩
      · exact ⟨fun c => absurd c t0, fun _ => ⟨fun c => absurd rfl c, fun _ => k_s3 s2 ⟨fun c => absurd rfl c, fun _ => hQ g2 s2 (fl6_fr (fl6_fr f6 f1) f2)⟩⟩⟩
    exact ⟨fun c => b402 _ (by rw [hd, if_neg c]), fun c => b402 _ (by rw [hd, if_pos c])⟩
  unfold mL_isWave_b360
  exact ⟨fun c => k_plans s (by omega) (b377 _ (by rw [if_neg c]; rfl)), fun c => b377 _ (by rw [if_pos c])⟩
def bdp (r : Rw) (i : Int) : Bool := decide (fl r i 4 = r 2 + 1) && kpa r i (r 2 + 1)
theorem w_217 {g : Hp} (s : st g r) (k : gk g (r 0)) (v : gv g r (r 0)) (f6 : fl6 h g) (hQ : ∀ g', st g' r → fl6 h g' → Q 1 g') {b : Int} (hb : b = 0 ↔ bnd r = -1) : ∃ ff, mL_isWave_b217 Q ff (r 0) (r 2) (r 2 + 1) (cn (mvg r) 0 (r 0)) b 0 0 g := by
  have o1 := st_b s
  obtain ⟨f, hf⟩ := forU (fun f i => ∀ t, (t = 0 ∨ t = 1) → (t = 0 ↔ ∀ a c, 0 ≤ c → c < a → a < i → TT r a c = false) → mL_isWave_b217 Q f (r 0) (r 2) (r 2 + 1) (cn (mvg r) 0 (r 0)) b t i g) 0 (r 0) o1.1.1 (fun f t ht hT => by
      unfold mL_isWave_b217
      have W := fun z (hz : z = tw0 r) => hz ▸ w_360 s k v f6 hQ
      refine ⟨fun _ => ⟨fun c => ⟨fun d => ⟨fun e => W _ ?_, fun e => W _ ?_⟩, fun d => W _ ?_⟩, fun c => W _ ?_⟩, fun c => absurd (Int.le_refl _) c⟩
      · unfold tw0
        rw [if_neg (by omega), if_neg (fun q => q (hb.mp d)), if_pos ((wv_twice s.2.1.1 (by omega)).mpr (hT.mp e))]
      · unfold tw0
        rw [if_neg (by omega), if_neg (fun q => q (hb.mp d)), if_neg (fun q => e (hT.mpr ((wv_twice s.2.1.1 (by omega)).mp q)))]
      · unfold tw0
        rw [if_neg (by omega), if_pos (fun q => d (hb.mpr q))]
      · unfold tw0
        rw [if_pos (by omega)]) (fun f i i1 i2 ih t ht hT => by
      have hx : 0 ≤ i ∧ i < r 0 := ⟨i1, i2⟩
      unfold mL_isWave_b217
      refine ⟨fun c => by omega, fun _ => ?_⟩
      obtain ⟨e, he⟩ := forU (fun e j => ∀ t, (t = 0 ∨ t = 1) → (t = 0 ↔ (∀ a c, 0 ≤ c → c < a → a < i → TT r a c = false) ∧ ∀ c, 0 ≤ c → c < j → TT r i c = false) → mL_isWave_b226 Q (mL_isWave_b217 Q f) e (r 0) (r 2) (r 2 + 1) (cn (mvg r) 0 (r 0)) b t i j g) 0 i i1 (fun e t ht hT => by
          unfold mL_isWave_b226
          refine ⟨fun _ => ⟨zri (by omega) (by omega), ih t ht ?_⟩, fun c => absurd (Int.le_refl _) c⟩
          rw [hT]
          constructor
          · rintro ⟨q1, q2⟩ a c c0 ca ai
            by_cases z : a = i
            · subst z; exact q2 c c0 ca
            · exact q1 a c c0 ca (by omega)
          · intro q
            exact ⟨fun a c c0 ca ai => q a c c0 ca (by omega), fun c c0 ci => q i c c0 ci (by omega)⟩) (fun e j j1 j2 jh t ht hT => by
          have hy : 0 ≤ j ∧ j < r 0 := by omega
          obtain ⟨vi1, vi2⟩ := v i i1 i2
          obtain ⟨vj1, vj2⟩ := v j hy.1 hy.2
          have yes : (t = 0 → TT r i j = true) → mL_isWave_b309 Q (mL_isWave_b217 Q f) (mL_isWave_b226 Q (mL_isWave_b217 Q f) e) (r 0) (r 2) (r 2 + 1) (cn (mvg r) 0 (r 0)) b i j g := fun q => by
            unfold mL_isWave_b309 mL_isWave_b314
            refine ⟨zri (by omega) (by omega), jh 1 (Or.inr rfl) ⟨fun z => absurd z (by decide), fun z => ?_⟩⟩
            exfalso
            have t0 : t = 0 := hT.mpr ⟨z.1, fun c c0 cj => z.2 c c0 (by omega)⟩
            have := z.2 j j1 (by omega)
            rw [q t0] at this
            cases this
          have no : t = 0 → TT r i j = false → mL_isWave_b313 Q (mL_isWave_b217 Q f) (mL_isWave_b226 Q (mL_isWave_b217 Q f) e) (r 0) (r 2) (r 2 + 1) (cn (mvg r) 0 (r 0)) b i j g := fun t0 q => by
            unfold mL_isWave_b313 mL_isWave_b314
            refine ⟨zri (by omega) (by omega), jh 0 (Or.inl rfl) ⟨fun _ => ⟨(hT.mp t0).1, fun c c0 cj => ?_⟩, fun _ => rfl⟩⟩
            by_cases z : c = j
            · subst z; exact q
            · exact (hT.mp t0).2 c c0 (by omega)
          have zi7 := gk_7 k o1.1.2 hx
          have zi8 := gk_8 k o1.1.2 hx
          have zj7 := gk_7 k o1.1.2 hy
          have zj8 := gk_8 k o1.1.2 hy
          unfold mL_isWave_b226
          refine ⟨fun c => by omega, fun _ => ⟨fun c => yes (fun q => absurd q c), fun t0 => p_areOfNet s hx hy ⟨fun c => no t0 ?_, fun c => ⟨zi7, zj7, ?_⟩⟩⟩⟩
          · unfold TT
            rw [b2i0.mp c, Bool.false_and]
          · have hn := b2i1.mp c
            rw [vi1, vj1, vi2, vj2]
            refine ⟨fun d => yes (fun _ => ?_), fun d => ⟨zi7, zj8, fun d2 => yes (fun _ => ?_), fun d2 => ⟨zi8, zj7, fun d3 => yes (fun _ => ?_), fun d3 => ⟨zi8, fun d4 => no t0 ?_, fun d4 => ⟨zi8, zj8, fun d5 => no t0 ?_, fun d5 => yes (fun _ => ?_)⟩⟩⟩⟩⟩
            · unfold TT; rw [hn, decide_eq_true d]; rfl
            · unfold TT; rw [hn, decide_eq_true d2]; simp
            · unfold TT; rw [hn, decide_eq_true d3]; simp
            · unfold TT; rw [hn, decide_eq_false d, decide_eq_false d2, decide_eq_false d3, decide_eq_false (show ¬ 0 < OO r i by omega)]; rfl
            · unfold TT; rw [hn, decide_eq_false d, decide_eq_false d2, decide_eq_false d3, decide_eq_false d5]; simp
            · unfold TT; rw [hn, decide_eq_true (show 0 < OO r i by omega), decide_eq_true d5]; simp)
      exact ⟨e, he t ht ⟨fun z => ⟨hT.mp z, fun c c0 ci => by omega⟩, fun z => hT.mpr z.1⟩⟩)
  exact ⟨f, hf 0 (Or.inl rfl) ⟨fun _ a c c0 ca ai => by omega, fun _ => rfl⟩⟩
theorem w_35 {g : Hp} (s : st g r) (k : gk g (r 0)) (f6 : fl6 h g) (hQ : ∀ g', st g' r → fl6 h g' → Q 1 g') : ∃ ff, mL_isWave_b35 Q ff (r 0) (r 2) (r 2 + 1) 0 0 0 g := by
  have o1 := st_b s
  obtain ⟨f, hf⟩ := forU (fun f i => ∀ d b g, d = cn (mvg r) 0 i → (b = 0 ∨ b = 1) → (b = 0 ↔ fs (bdp r) 0 i = -1) → st g r → gk g (r 0) → gv g r i → fl6 h g → mL_isWave_b35 Q f (r 0) (r 2) (r 2 + 1) d b i g) 0 (r 0) o1.1.1 (fun f d b g hd hb hB s k v f6 => by
      unfold mL_isWave_b35
      rw [hd]
      exact ⟨fun _ => w_217 s k v f6 hQ hB, fun c => absurd (Int.le_refl _) c⟩) (fun f i i1 i2 ih d b g hd hb hB s k v f6 => by
      have hx : 0 ≤ i ∧ i < r 0 := ⟨i1, i2⟩
      have cd := cn_r (mvg r) (b := i) 0 i1
      have sd := cn_snoc (p := mvg r) (b := i) 0 i1
      have sb := fs_snoc (p := bdp r) i1
      have fb := fs_r (p := bdp r) (a := 0) (b := i) (Int.le_refl 0)
      have lr := lat_r (r := r) (i := i)
      -- the end of a host
      have b204 : ∀ d' b' g' z, d' = cn (mvg r) 0 (i + 1) → (b' = 0 ∨ b' = 1) → (b' = 0 ↔ fs (bdp r) 0 (i + 1) = -1) → st g' r → gk g' (r 0) → gv g' r i → fl6 h g' → rd g' 187 i = NN r i → z = OO r i → mL_isWave_b204 Q (mL_isWave_b35 Q f) (r 0) (r 2) (r 2 + 1) d' b' i z i g' := fun d' b' g' z e1 e2 e3 s' k' v' f6' n1 n2 => by
        unfold mL_isWave_b204
        refine ⟨gk_8 k' o1.1.2 hx, fun g2 e => ⟨zri (by omega) (by omega), ih d' b' g2 e1 e2 e3 ?_ ?_ (fun j j1 j2 => ?_) ⟨by rw [e, wr_q (by omega)]; exact f6'.1, by rw [e, wr_q (by omega)]; exact f6'.2⟩⟩⟩
        · exact st_mv s' fun p hp => by rw [e, wr_q (by omega)]
        · rw [e]; exact gk_w k' (by omega)
        · rw [e, rw_np (by omega)]
          by_cases q : j = i
          · subst q; rw [rw_same]; exact ⟨n1, n2⟩
          · rw [rw_ne i1 j1 q]; exact v' j j1 (by omega)
      have b128 : ∀ m p d' b', (m = 0 ∨ m = 1) → (m = 0 ↔ ¬ fl r i 4 = r 2 + 1) → (p = 0 ↔ kpa r i (r 2 + 1) = false) → d' = cn (mvg r) 0 (i + 1) → (b' = 0 ∨ b' = 1) → (b' = 0 ↔ fs (bdp r) 0 (i + 1) = -1) → mL_isWave_b128 Q (mL_isWave_b35 Q f) (r 0) (r 2) (r 2 + 1) d' i m p b' g := fun m p d' b' hm mm pp e1 e2 e3 => by
        have b156 : ∀ z, z = NN r i → mL_isWave_b156 Q (mL_isWave_b35 Q f) (r 0) (r 2) (r 2 + 1) d' b' i m p z i g := fun z hz => by
          unfold mL_isWave_b156
          refine ⟨gk_7 k o1.1.2 hx, fun g2 e => ?_⟩
          have s2 : st g2 r := st_mv s fun p hp => by rw [e, wr_q (by omega)]
          have k2 : gk g2 (r 0) := by rw [e]; exact gk_w k (by omega)
          have v2 : gv g2 r i := fun j j1 j2 => by
            rw [e, rw_ne i1 j1 (by omega), rw_np (by omega)]
            exact v j j1 j2
          have f2 : fl6 h g2 := ⟨by rw [e, wr_q (by omega)]; exact f6.1, by rw [e, wr_q (by omega)]; exact f6.2⟩
          have n1 : rd g2 187 i = NN r i := by rw [e, rw_same, hz]
          have go : ∀ z, z = OO r i → mL_isWave_b204 Q (mL_isWave_b35 Q f) (r 0) (r 2) (r 2 + 1) d' b' i z i g2 := fun z hz => b204 d' b' g2 z e1 e2 e3 s2 k2 v2 f2 n1 hz
          refine ⟨fun c => ⟨fun c2 => go _ ?_, fun c2 => k_h2 s2 hx (go _ ?_)⟩, fun c => k_s4 s2 ⟨fun c2 => go _ ?_, fun c2 => k_h1 s2 hx (go _ ?_)⟩⟩
          · unfold OO
            rw [if_neg (mm.mp c), if_neg (by rw [pp.mp c2]; decide)]
          · unfold OO
            rw [if_neg (mm.mp c), if_pos (by cases q : kpa r i (r 2 + 1) with | true => rfl | false => exact absurd (pp.mpr q) c2)]
          · unfold OO
            rw [if_pos (Decidable.of_not_not fun q => c (mm.mpr q)), if_pos c2]
          · unfold OO
            rw [if_pos (Decidable.of_not_not fun q => c (mm.mpr q)), if_neg c2]
        unfold mL_isWave_b128
        refine ⟨fun c => k_h1 s hx (b156 _ ?_), fun c => k_h4 s hx (b156 _ ?_)⟩
        · unfold NN; rw [if_neg (mm.mp c)]
        · unfold NN; rw [if_pos (Decidable.of_not_not fun q => c (mm.mpr q))]
      have b91 : ∀ m p, (m = 0 ∨ m = 1) → (m = 0 ↔ ¬ fl r i 4 = r 2 + 1) → (p = 0 ∨ p = 1) → (p = 0 ↔ kpa r i (r 2 + 1) = false) → mL_isWave_b91 Q (mL_isWave_b35 Q f) (r 0) (r 2) (r 2 + 1) d b i m p g := fun m p hm mm hp pp => by
        have b105 : ∀ z, (z = 0 ∨ z = 1) → (z = 0 ↔ m = 0) → mL_isWave_b105 Q (mL_isWave_b35 Q f) (r 0) (r 2) (r 2 + 1) b i m p z d g := fun z hz zz => by
          have e1 : d + z = cn (mvg r) 0 (i + 1) := by
            rw [sd, hd]
            unfold mvg
            by_cases q : fl r i 4 = r 2 + 1
            · rw [if_pos (by simp [q])]
              have : ¬ z = 0 := fun w => (mm.mp (zz.mp w)) q
              omega
            · rw [if_neg (by simp [q])]
              have := zz.mpr (mm.mpr q)
              omega
          have pb : bdp r i = true ↔ ¬ m = 0 ∧ ¬ p = 0 := by
            unfold bdp
            rw [mm, pp]
            simp
          have yes : (¬ b = 0 ∨ (¬ m = 0 ∧ ¬ p = 0)) → mL_isWave_b128 Q (mL_isWave_b35 Q f) (r 0) (r 2) (r 2 + 1) (d + z) i m p 1 g := fun q => by
            refine b128 m p _ 1 hm mm pp e1 (Or.inr rfl) ⟨fun w => absurd w (by decide), fun w => ?_⟩
            exfalso
            rw [sb] at w
            rcases q with q | q
            · rw [if_neg (fun e => q (hB.mpr e))] at w
              exact q (hB.mpr w)
            · by_cases e : fs (bdp r) 0 i = -1
              · rw [if_pos e, if_pos (pb.mpr q)] at w; omega
              · rw [if_neg e] at w; exact e w
          have no : b = 0 → (m = 0 ∨ p = 0) → mL_isWave_b128 Q (mL_isWave_b35 Q f) (r 0) (r 2) (r 2 + 1) (d + z) i m p 0 g := fun q q2 => by
            refine b128 m p _ 0 hm mm pp e1 (Or.inl rfl) ⟨fun _ => ?_, fun _ => rfl⟩
            rw [sb, if_pos (hB.mp q), if_neg (fun w => by have := pb.mp w; omega)]
          unfold mL_isWave_b105 mL_isWave_b123 mL_isWave_b127
          exact ⟨zri (by omega) (by omega), fun c => yes (Or.inl c), fun c => ⟨fun c2 => no c (Or.inl c2), fun c2 => ⟨fun c3 => no c (Or.inr c3), fun c3 => yes (Or.inr ⟨c2, c3⟩)⟩⟩⟩
        unfold mL_isWave_b91
        exact ⟨fun c => b105 0 (Or.inl rfl) ⟨fun _ => c, fun _ => rfl⟩, fun c => b105 1 (Or.inr rfl) ⟨fun w => absurd w (by decide), fun w => absurd w c⟩⟩
      have b57 : ∀ m, (m = 0 ∨ m = 1) → (m = 0 ↔ ¬ fl r i 4 = r 2 + 1) → mL_isWave_b57 Q (mL_isWave_b35 Q f) (r 0) (r 2) (r 2 + 1) d b i m g := fun m hm mm => by
        have kf : kpa r i (r 2 + 1) = true ↔ 0 < lat r i ∧ r 2 + 1 < lat r i + r 3 := by unfold kpa; simp
        have kz : (¬ (0 < lat r i ∧ r 2 + 1 < lat r i + r 3)) → kpa r i (r 2 + 1) = false := fun q => by
          cases w : kpa r i (r 2 + 1) with
          | false => rfl
          | true => exact absurd (kf.mp w) q
        unfold mL_isWave_b57 mL_isWave_b90
        refine k_h6 s hx ⟨fun c => b91 m 0 hm mm (Or.inl rfl) ⟨fun _ => kz (by omega), fun _ => rfl⟩, fun c => k_s4 s ⟨zri (by omega) (by omega), fun c2 => b91 m 0 hm mm (Or.inl rfl) ⟨fun _ => kz (by omega), fun _ => rfl⟩, fun c2 => b91 m 1 hm mm (Or.inr rfl) ⟨fun w => absurd w (by decide), fun w => ?_⟩⟩⟩
        rw [kf.mpr (by omega)] at w
        cases w
      unfold mL_isWave_b35
      exact ⟨fun c => by omega, fun _ => k_h5 s hx ⟨fun c => b57 0 (Or.inl rfl) ⟨fun _ => c, fun _ => rfl⟩, fun c => b57 1 (Or.inr rfl) ⟨fun w => absurd w (by decide), fun w => absurd c w⟩⟩⟩)
  exact ⟨f, hf 0 0 g (by rw [cn_end (Int.le_refl _)]) (Or.inl rfl) ⟨fun _ => fs_end (Int.le_refl _), fun _ => rfl⟩ s k (fun j j1 j2 => by omega) f6⟩
theorem p_isWave (s : st h r) (hQ : ∀ g', st g' r → fl6 h g' → Q 1 g') : mL_isWave h Q := by
  have o1 := st_b s
  unfold mL_isWave
  refine k_s0 s (k_s3 s ⟨zri (by omega) (by omega), ⟨o1.1.1, o1.1.2⟩, fun g1 e1 => ⟨⟨o1.1.1, o1.1.2⟩, fun g2 e2 => w_35 (h := h) ?_ ?_ ?_ hQ⟩⟩)
  · exact st_mv s fun p hp => by rw [e2, hnw_np (by omega), e1, hnw_np (by omega)]
  · unfold gk
    rw [e2, hnw_np (show (187 : Nat) ≠ 188 by decide), e1]
    exact ⟨⟨rfl, rfl⟩, rfl, rfl⟩
  · exact ⟨by rw [e2, hnw_np (by omega), e1, hnw_np (by omega)], by rw [e2, hnw_np (by omega), e1, hnw_np (by omega)]⟩
end IW
