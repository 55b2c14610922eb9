/-! the reference reads a query: its stacks -/
def wtp (h : Hp) (W : List Int) : Prop := h 185 27 = (W.length : Int) ∧ ∀ (i : Nat) (z : Int), W[i]? = some z → h 195 i = z
def cod (h : Hp) (M : List Int) : Prop := h 185 26 = (M.length : Int) ∧ ∀ (i : Nat) (z : Int), M[i]? = some z → h 194 i = z
def opn (W : List Int) : Int := (W.countP (fun z => decide (z = 1) || decide (z = 23)) : Nat)
theorem opn_app {W V : List Int} : opn (W ++ V) = opn W + opn V := by unfold opn; rw [List.countP_append]; omega
def stg (x : Int) : Int := if x = 25 then 1 else if x = 24 then 2 else if x = 23 then 3 else 0
def fr16 (h h' : Hp) : Prop := h' 185 16 = 0 → h 185 16 = 0 ∧ h' 185 17 = h 185 17
def frM (h h' : Hp) : Prop := ((∀ k, k < 10 ∨ (17 < k ∧ k ≠ 26 ∧ k ≠ 27 ∧ k ≠ 28) → h' 185 k = h 185 k) ∧ fr16 h h') ∧ ∀ p, p ≠ 185 → p ≠ 194 → p ≠ 195 → h' p = h p
def frV (h h' : Hp) : Prop := ((∀ k, k < 10 ∨ (17 < k ∧ k ≠ 26) → h' 185 k = h 185 k) ∧ fr16 h h') ∧ ∀ p, p ≠ 185 → p ≠ 194 → h' p = h p
theorem fr16_tr {h a c : Hp} (x : fr16 h a) (y : fr16 a c) : fr16 h c := fun w => ⟨(x (y w).1).1, (y w).2.trans (x (y w).1).2⟩
theorem frM_tr {h a c : Hp} (x : frM h a) (y : frM a c) : frM h c := ⟨⟨fun k hk => (y.1.1 k hk).trans (x.1.1 k hk), fr16_tr x.1.2 y.1.2⟩, fun p p1 p2 p3 => (y.2 p p1 p2 p3).trans (x.2 p p1 p2 p3)⟩
theorem frV_tr {h a c : Hp} (x : frV h a) (y : frV a c) : frV h c := ⟨⟨fun k hk => (y.1.1 k hk).trans (x.1.1 k hk), fr16_tr x.1.2 y.1.2⟩, fun p p1 p2 => (y.2 p p1 p2).trans (x.2 p p1 p2)⟩
theorem frV_M {h h' : Hp} (x : frV h h') : frM h h' := ⟨⟨fun k hk => x.1.1 k (by omega), x.1.2⟩, fun p p1 p2 _ => x.2 p p1 p2⟩
theorem frE_V {h h' : Hp} (x : frE h h') : frV h h' := ⟨⟨fun k hk => x.1.1 k (by omega), x.1.2⟩, fun p p1 _ => x.2 p p1⟩
theorem frM_k {h h' : Hp} (k : ∀ j, j ≠ 26 → j ≠ 27 → j ≠ 28 → h' 185 j = h 185 j) (f : ∀ p, p ≠ 185 → p ≠ 194 → p ≠ 195 → h' p = h p) : frM h h' := ⟨⟨fun j hj => k j (by omega) (by omega) (by omega), fun w => ⟨by rw [← k 16 (by omega) (by omega) (by omega)]; exact w, k 17 (by omega) (by omega) (by omega)⟩⟩, f⟩
section YAR
variable {b : Int → Int} {n : Int}
theorem p8_adds {x : Int} {h : Hp} {Q : Hp → Prop} {M : List Int} (hs : cod h M) (hl : M.length < 200) (hQ : ∀ h', cod h' (M ++ [x]) → (∀ k, k ≠ 26 → h' 185 k = h 185 k) → (∀ p, p ≠ 185 → p ≠ 194 → h' p = h p) → Q h') : mX8_adds x h Q := by
  unfold mX8_adds
  obtain ⟨s1, s2⟩ := hs
  refine ⟨⟨by omega, by omega⟩, fun a ea => ?_⟩
  have a2 : a 185 26 = h 185 26 := by rw [ea, wr_np (by omega)]
  refine ⟨zri (by omega) (by omega), fun d ed => hQ d ⟨?_, fun i z hz => ?_⟩ (fun k hk => ?_) (fun p p1 p2 => ?_)⟩
  · rw [ed, hu_same, a2, s1, List.length_append]; rfl
  · rw [ed, hu_np (by omega), ea]
    rcases sn_get hz with ⟨hi, hz⟩ | ⟨hi, hz⟩
    · unfold wr
      rw [hu_ne (by omega)]
      exact s2 i z hz
    · unfold wr
      rw [show i = (h 185 26).toNat by omega, hu_same, hz]
  · rw [ed, hu_ne (by omega), ea, wr_np (by omega)]
  · rw [ed, hu_q p1, ea, wr_q p2]
theorem cod_f {h h' : Hp} {M : List Int} (hs : cod h M) (k : h' 185 26 = h 185 26) (f : h' 194 = h 194) : cod h' M := by
  unfold cod at *
  rw [k, f]
  exact hs
theorem wtp_f {h h' : Hp} {M : List Int} (hs : wtp h M) (k : h' 185 27 = h 185 27) (f : h' 195 = h 195) : wtp h' M := by
  unfold wtp at *
  rw [k, f]
  exact hs
theorem p8_strength {x : Int} {h : Hp} {Q : Int → Prop} (hQ : Q (stg x)) : mX8_strength x h Q := by
  unfold mX8_strength
  unfold stg at hQ
  refine ⟨fun c => ⟨fun d => ⟨fun e => ?_, fun e => ?_⟩, fun d => ?_⟩, fun c => ?_⟩
  · rw [if_neg c, if_neg d, if_neg e] at hQ; exact hQ
  · rw [if_neg c, if_neg d, if_pos e] at hQ; exact hQ
  · rw [if_neg c, if_pos d] at hQ; exact hQ
  · rw [if_pos c] at hQ; exact hQ
/-- the state between two tokens -/
def RSt (h : Hp) (b : Int → Int) (n s : Int) (W : List Int) (L : List It) : Prop := tkM h b n s ∧ h 185 16 = 0 ∧ (wtp h W ∧ cod h (cM L) ∧ h 185 28 = opn W) ∧ ((cM L).length : Int) + (W.length : Int) ≤ s ∧ 0 ≤ s ∧ s ≤ n
theorem st_0 {v : Int} {G : Hp → Prop} {f : Nat} {h : Hp} (hg : ¬ h 185 16 = 0) (hG : G h) : mX8_settles_b0 G (f + 1) v h := by
  unfold mX8_settles_b0
  exact p8_good0 hg ⟨fun _ => hG, fun w => absurd rfl w⟩
theorem st_stop {v s : Int} {G : Hp → Prop} {f : Nat} {h : Hp} {W : List Int} {L : List It} (h2 : n ≤ 200) (hs : RSt h b n s W L) (ht : W = [] ∨ ∃ V c, W = V ++ [c] ∧ stg c < v) (hG : G h) : mX8_settles_b0 G (f + 1) v h := by
  obtain ⟨ht0, hg, ⟨⟨w1, w2⟩, -, -⟩, rm, s0, s1⟩ := hs
  unfold mX8_settles_b0
  refine p8_good1 hg ⟨fun w => absurd w (by decide), fun _ => ⟨fun _ => hG, fun c => ?_⟩⟩
  rcases ht with rfl | ⟨V, c0, rfl, hc⟩
  · rw [w1] at c
    exact absurd (Int.le_refl _) c
  · rw [List.length_append] at w1 rm
    have e1 : ([c0] : List Int).length = 1 := rfl
    refine ⟨zri (by omega) (by omega), ⟨by omega, by omega⟩, p8_strength ?_⟩
    have : rd h 195 (h 185 27 - 1) = c0 := by
      unfold rd
      rw [show (h 185 27 - 1).toNat = V.length by omega]
      exact w2 V.length c0 (by rw [List.getElem?_append_right (Nat.le_refl _), Nat.sub_self]; rfl)
    rw [this]
    exact ⟨fun _ => hG, fun w => absurd hc w⟩
theorem st_pop {v s c : Int} {G : Hp → Prop} {f : Nat} {h : Hp} {W : List Int} {L : List It} {t : It} (h2 : n ≤ 200) (hs : RSt h b n s (W ++ [c]) L) (hv : 1 ≤ v) (hc : v ≤ stg c) (et : cM1 t = [c]) (hQ : ∀ h', RSt h' b n s W (L ++ [t]) → frM h h' → mX8_settles_b0 G f v h') : mX8_settles_b0 G (f + 1) v h := by
  obtain ⟨ht, hg, ⟨⟨w1, w2⟩, cc, op⟩, rm, s0, s1⟩ := hs
  rw [List.length_append] at w1 rm
  have e1 : ([c] : List Int).length = 1 := rfl
  unfold mX8_settles_b0
  refine p8_good1 hg ⟨fun w => absurd w (by decide), fun _ => ⟨fun w => by omega, fun _ => ⟨zri (by omega) (by omega), ⟨by omega, by omega⟩, p8_strength ?_⟩⟩⟩
  have ec : rd h 195 (h 185 27 - 1) = c := by
    unfold rd
    rw [show (h 185 27 - 1).toNat = W.length by omega]
    exact w2 W.length c (by rw [List.getElem?_append_right (Nat.le_refl _), Nat.sub_self]; rfl)
  rw [ec]
  refine ⟨fun w => by omega, fun _ => ⟨zri (by omega) (by omega), fun a ea => ?_⟩⟩
  have a27 : a 185 27 = (W.length : Int) := by rw [ea, hu_same]; omega
  have af : ∀ p, p ≠ 185 → a p = h p := fun p hp => by rw [ea, hu_q hp]
  have ak : ∀ k, k ≠ 27 → a 185 k = h 185 k := fun k hk => by rw [ea, hu_ne (by omega)]
  have ac : rd a 195 (a 185 27) = c := by
    rw [← ec]
    unfold rd
    rw [a27, af 195 (by omega), w1, e1]
    congr 1
    omega
  rw [ac]
  refine ⟨⟨by omega, by omega⟩, p8_adds (cod_f cc (ak 26 (by omega)) (af 194 (by omega))) (by omega) fun d cd dk df => ?_⟩
  have d27 : d 185 27 = (W.length : Int) := by rw [dk 27 (by omega), a27]
  have dc : rd d 195 (d 185 27) = c := by
    rw [← ac]
    unfold rd
    rw [d27, a27, df 195 (by omega) (by omega)]
  rw [dc]
  have ko : ∀ k, k ≠ 26 → k ≠ 27 → d 185 k = h 185 k := fun k k1 k2 => by rw [dk k k1, ak k k2]
  have pf : ∀ p, p ≠ 185 → p ≠ 194 → d p = h p := fun p p1 p2 => by rw [df p p1 p2, af p p1]
  have oc : opn (W ++ [c]) = opn W + (if c = 23 then 1 else 0) := by
    rw [opn_app]
    unfold stg at hc
    have : ¬ c = 1 := fun w => by subst w; simp at hc; omega
    by_cases q : c = 23
    · subst q; rfl
    · rw [if_neg q]
      unfold opn
      simp [q, this]
  have fin : ∀ g : Hp, (∀ k, k ≠ 26 → k ≠ 27 → k ≠ 28 → g 185 k = h 185 k) → g 185 26 = d 185 26 → g 185 27 = d 185 27 → g 185 28 = opn W → (∀ p, p ≠ 185 → g p = d p) → RSt g b n s W (L ++ [t]) ∧ frM h g := fun g gk g26 g27 g28 gf => by
    have gp : ∀ p, p ≠ 185 → p ≠ 194 → g p = h p := fun p p1 p2 => by rw [gf p p1, pf p p1 p2]
    refine ⟨⟨tkM_fr ht (fun k k1 k2 => gk k (by omega) (by omega) (by omega)) (gp 191 (by omega) (by omega)), by rw [gk 16 (by omega) (by omega) (by omega)]; exact hg, ⟨⟨by rw [g27, d27], fun i z hz => ?_⟩, ?_, g28⟩, ?_, s0, s1⟩, frM_k gk fun p p1 p2 _ => gp p p1 p2⟩
    · rw [gp 195 (by omega) (by omega)]
      refine w2 i z ?_
      have hi : i < W.length := by
        by_cases hi : i < W.length
        · exact hi
        · rw [List.getElem?_eq_none (by omega)] at hz; cases hz
      rw [List.getElem?_append_left hi]; exact hz
    · rw [cM_app, cM_1, et]
      exact cod_f cd g26 (gf 194 (by omega))
    · rw [cM_app, cM_1, et, List.length_append, e1]; omega
  refine ⟨⟨by omega, by omega⟩, fun q => ?_, fun q => ⟨?_, fun g eg => ?_⟩⟩
  · obtain ⟨r1, r2⟩ := fin d (fun k k1 k2 _ => ko k k1 k2) rfl rfl (by rw [ko 28 (by omega) (by omega), op, oc, if_neg q]; omega) (fun _ _ => rfl)
    exact hQ d r1 r2
  · have : d 185 28 = opn W + 1 := by rw [ko 28 (by omega) (by omega), op, oc, if_pos q]
    have : 0 ≤ opn W := by unfold opn; omega
    have : opn W ≤ W.length := by unfold opn; exact Int.ofNat_le.mpr List.countP_le_length
    exact zri (by omega) (by omega)
  · obtain ⟨r1, r2⟩ := fin g (fun k k1 k2 k3 => by rw [eg, hu_ne (by omega), ko k k1 k2]) (by rw [eg, hu_ne (by omega)]) (by rw [eg, hu_ne (by omega)]) (by rw [eg, hu_same, ko 28 (by omega) (by omega), op, oc, if_pos q]; omega) (fun p hp => by rw [eg, hu_q hp])
    exact hQ g r1 r2
theorem in_yes {h : Hp} {Q : Int → Prop} {W : List Int} {j : Nat} (hl : W.length ≤ 200) (hw : wtp h W) (hj : W[j]? = some 1) (hQ : Q 1) : mX8_isInside h Q := by
  obtain ⟨w1, w2⟩ := hw
  have hjl : j < W.length := by
    by_cases hi : j < W.length
    · exact hi
    · rw [List.getElem?_eq_none (by omega)] at hj; cases hj
  unfold mX8_isInside
  refine forU (fun f i => mX8_isInside_b2 h Q f i) 0 (j : Int) (by omega) (fun f => ?_) (fun f i i1 i2 ih => ?_)
  · unfold mX8_isInside_b2
    have e1 : rd h 195 (j : Int) = 1 := w2 j 1 hj
    exact ⟨fun w => by omega, fun _ => ⟨⟨by omega, by omega⟩, fun w => absurd e1 w, fun _ => hQ⟩⟩
  · unfold mX8_isInside_b2
    exact ⟨fun w => by omega, fun _ => ⟨⟨by omega, by omega⟩, fun _ => ⟨zri (by omega) (by omega), ih⟩, fun _ => hQ⟩⟩
theorem in_no {h : Hp} {Q : Int → Prop} {W : List Int} (hl : W.length ≤ 200) (hw : wtp h W) (hj : ∀ z, z ∈ W → ¬ z = 1) (hQ : Q 0) : mX8_isInside h Q := by
  obtain ⟨w1, w2⟩ := hw
  unfold mX8_isInside
  refine forU (fun f i => mX8_isInside_b2 h Q f i) 0 (W.length : Int) (by omega) (fun f => ?_) (fun f i i1 i2 ih => ?_)
  · unfold mX8_isInside_b2
    exact ⟨fun _ => hQ, fun w => by omega⟩
  · unfold mX8_isInside_b2
    have hi : i.toNat < W.length := by omega
    have e1 : rd h 195 i = W[i.toNat] := w2 i.toNat _ (List.getElem?_eq_getElem hi)
    have := hj _ (List.getElem_mem hi)
    exact ⟨fun w => by omega, fun _ => ⟨⟨by omega, by omega⟩, fun _ => ⟨zri (by omega) (by omega), ih⟩, fun w => absurd (e1.symm.trans w) this⟩⟩
theorem p8_propertyHere {s : Int} {h : Hp} {Q : Int → Prop} (he : eT b n) (ht : tkM h b n s) (hg : h 185 16 = 0) (s0 : 0 ≤ s) (s1 : s ≤ n) (hQ : Q (vP b n s)) : mX8_propertyHere h Q := by
  obtain ⟨-, -, -, -, -, -, -, -, -, -, -, -, -, -, c14, c15, c16, c17, c18, c19, c20, c21, c22, -⟩ := cdws
  unfold mX8_propertyHere
  unfold vP at hQ
  refine p8_isWord c14.symm (by omega) hg ht s0 s1 he ⟨fun c => ?_, fun c => ?_⟩
  · rw [b2i0.mp c] at hQ
    refine p8_isWord c15.symm (by omega) hg ht s0 s1 he ⟨fun c => ?_, fun c => ?_⟩
    · rw [b2i0.mp c] at hQ
      refine p8_isWord c16.symm (by omega) hg ht s0 s1 he ⟨fun c => ?_, fun c => ?_⟩
      · rw [b2i0.mp c] at hQ
        refine p8_isWord c17.symm (by omega) hg ht s0 s1 he ⟨fun c => ?_, fun c => ?_⟩
        · rw [b2i0.mp c] at hQ
          refine p8_isWord c18.symm (by omega) hg ht s0 s1 he ⟨fun c => ?_, fun c => ?_⟩
          · rw [b2i0.mp c] at hQ
            refine p8_isWord c19.symm (by omega) hg ht s0 s1 he ⟨fun c => ?_, fun c => ?_⟩
            · rw [b2i0.mp c] at hQ
              refine p8_isWord c20.symm (by omega) hg ht s0 s1 he ⟨fun c => ?_, fun c => ?_⟩
              · rw [b2i0.mp c] at hQ
                refine p8_isWord c21.symm (by omega) hg ht s0 s1 he ⟨fun c => ?_, fun c => ?_⟩
                · rw [b2i0.mp c] at hQ
                  refine p8_isWord c22.symm (by omega) hg ht s0 s1 he ⟨fun c => ?_, fun c => ?_⟩
                  · rw [b2i0.mp c] at hQ; exact hQ
                  · rw [b2i1.mp c] at hQ; exact hQ
                · rw [b2i1.mp c] at hQ; exact hQ
              · rw [b2i1.mp c] at hQ; exact hQ
            · rw [b2i1.mp c] at hQ; exact hQ
          · rw [b2i1.mp c] at hQ; exact hQ
        · rw [b2i1.mp c] at hQ; exact hQ
      · rw [b2i1.mp c] at hQ; exact hQ
    · rw [b2i1.mp c] at hQ; exact hQ
  · rw [b2i1.mp c] at hQ; exact hQ
theorem p8_valueRead {s : Int} {h : Hp} {Q : Hp → Prop} {M : List Int} (he : eT b n) (ht : tkM h b n s) (hg : h 185 16 = 0) (s0 : 0 ≤ s) (s1 : s ≤ n) (hc : cod h M) (hl0 : s < n → M.length < 200) (hy : vE b n s = 0 → ∀ h', tkM h' b n (nx b n s) → h' 185 16 = 0 → cod h' (M ++ [vV b n s]) → frV h h' → Q h') (hx : ¬ vE b n s = 0 → ∀ h', h' 185 16 = vE b n s → h' 185 17 = s → frV h h' → Q h') : mX8_valueRead h Q := by
  unfold mX8_valueRead
  have r := vP_r (b := b) (n := n) (s := s)
  have hlt : vE b n s = 0 → M.length < 200 := fun w => hl0 (vE_lt s0 s1 w)
  unfold vE vV at *
  rw [ht.2.2.1]
  refine p8_good1 hg ⟨fun _ => ⟨fun c => p8_propertyHere he ht hg s0 s1 ⟨fun d => ?_, fun d => ?_⟩, fun c => ?_⟩, fun w => absurd w (by decide)⟩
  · rw [if_neg c] at hy
    rw [if_neg d] at hy
    have hl := hlt (by rw [if_neg c, if_neg d])
    refine p8_adds hc hl fun a ca ak af => ?_
    have ta : tkM a b n s := tkM_fr ht (fun k k1 k2 => ak k (by omega)) (af 191 (by omega) (by omega))
    refine p8_next he ta s0 s1 fun g tg kg fg => hy rfl g tg (by rw [kg 16 (by omega), ak 16 (by omega)]; exact hg) ?_ ?_
    · rw [if_neg c]
      exact cod_f ca (kg 26 (by omega)) (fg 194 (by omega))
    · refine frV_tr ⟨⟨fun k hk => ak k (by omega), fun w => ⟨by rw [← ak 16 (by omega)]; exact w, ak 17 (by omega)⟩⟩, fun p p1 p2 => af p p1 p2⟩ (frE_V (frE_ke kg fg))
  · rw [if_neg c, if_pos d] at hx
    exact p8_wrongs hg fun a a1 a2 a3 a4 => hx (by decide) a a1 (a2.trans ht.2.2.2.1) (frE_V (frE_w (by rw [a1]; decide) a3 a4))
  · rw [if_pos c] at hy hx
    have hl := hl0 (kd_lt (b := b) (by omega))
    refine p8_number he ht hg s0 s1 (fun d g tg g1 fg => ?_) (fun d g g1 g2 fg => ?_)
    · have hv := nbE_0.mp d
      rw [if_pos hv.2.2, if_pos c] at hy
      refine ⟨zri (by omega) (by omega), p8_adds (cod_f hc (fg.1.1 26 (by omega)) (fg.2 194 (by omega))) hl fun a ca ak af => hy rfl a ?_ (by rw [ak 16 (by omega)]; exact g1) ca ?_⟩
      · exact tkM_fr tg (fun k k1 k2 => ak k (by omega)) (af 191 (by omega) (by omega))
      · exact frV_tr (frE_V fg) ⟨⟨fun k hk => ak k (by omega), fun w => ⟨by rw [← ak 16 (by omega)]; exact w, ak 17 (by omega)⟩⟩, fun p p1 p2 => af p p1 p2⟩
    · have hv := v_CM (b := b) s0 s1 c
      have d2 : ¬ vM b n s ≤ 9999 := fun q => d (nbE_0.mpr ⟨c, by omega, q⟩)
      have d3 : nbE b n s 0 9999 = 2 := by unfold nbE; rw [if_pos c, if_neg (by omega)]
      rw [if_neg d2] at hx
      have gn : ¬ g 185 16 = 0 := by rw [g1]; exact d
      refine ⟨zri (by omega) (by omega), ?_⟩
      have c26 : cod g M := cod_f hc (fg.1.1 26 (by omega)) (fg.2 194 (by omega))
      refine p8_adds c26 hl fun a ca ak af => hx (by decide) a (by rw [ak 16 (by omega), g1, d3]) (by rw [ak 17 (by omega)]; exact g2) ?_
      exact frV_tr (frE_V fg) ⟨⟨fun k hk => ak k (by omega), fun w => ⟨by rw [← ak 16 (by omega)]; exact w, ak 17 (by omega)⟩⟩, fun p p1 p2 => af p p1 p2⟩
end YAR
