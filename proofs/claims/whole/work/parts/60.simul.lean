/-! the reference reads a query: it follows the same text -/
def JN (Q : Hp → Prop) (fu : Nat) (h47 : Hp) : Prop := mX8_isWord 1111 h47 (fun z48 => ((z48 = 0 → (mX8_isWord 423 h47 (fun z49 => ((z49 = 0 → (mX8_reads_b71 Q (mX8_reads_b20 Q fu) 0 h47)) ∧ (¬ z49 = 0 → (mX8_reads_b71 Q (mX8_reads_b20 Q fu) 25 h47)))))) ∧ (¬ z48 = 0 → (mX8_reads_b71 Q (mX8_reads_b20 Q fu) 24 h47))))
def CT (Q : Hp → Prop) (fu : Nat) (h45 : Hp) : Prop := mX8_isGood h45 (fun z46 => ((¬ z46 = 0 → (mX8_closes h45 (fun h47 => JN Q fu h47))) ∧ (z46 = 0 → (Q h45))))
def Bst (Q : Hp → Prop) (b : Int → Int) (n : Int) (h0 : Hp) (s : Int) (W : List Int) (L : List It) : Prop := ∀ (h : Hp) (f5 fu : Nat) (G : Hp → Prop), RSt h b n s W L → frM h0 h → n - s < f5 → n - s < fu → (∀ h', mX8_closes_b5 (fun h47 => JN Q fu h47) f5 h' → G h') → mX8_settles_b0 G (W.length + 1) 3 h
def Ast (Q : Hp → Prop) (b : Int → Int) (n : Int) (h0 : Hp) (s : Int) (W : List Int) (L : List It) : Prop := ∀ (h : Hp) (f0 fu : Nat), RSt h b n s W L → frM h0 h → n - s < f0 → n - s < fu → mX8_comparisonRead_b0 (fun h45 => CT Q fu h45) f0 h
def Pw (o a : Bool) : List Int := (if o = true then [25] else []) ++ (if a = true then [24] else [])
def oA (a : Bool) : List It := if a = true then [tA] else []
def Tst (Q : Hp → Prop) (b : Int → Int) (n : Int) (h0 : Hp) (s : Int) (W : List Int) (L' : List It) : Prop := ∀ (o a : Bool) (Lr : List It), L' = Lr ++ oA a ++ oO o → Bst Q b n h0 s (W ++ Pw o a) Lr
def noQ (Q : Hp → Prop) (h0 : Hp) (e s : Int) : Prop := ∀ h : Hp, h 185 16 = e → h 185 17 = s → frM h0 h → Q h
def baseW (W : List Int) : Prop := W = [] ∨ ∃ V, W = V ++ [1]
section SIM
variable {b : Int → Int} {n : Int} {Q : Hp → Prop} {h0 : Hp}
theorem base_stop {W : List Int} {v : Int} (hw : baseW W) (hv : 1 ≤ v) : W = [] ∨ ∃ V c, W = V ++ [c] ∧ stg c < v := by
  rcases hw with w | ⟨V, w⟩
  · exact Or.inl w
  · exact Or.inr ⟨V, 1, w, by show (0 : Int) < v; omega⟩
theorem Pw_ff {W : List Int} : W ++ Pw false false = W := by unfold Pw; simp
theorem Pw_t {W : List Int} {o : Bool} : W ++ Pw o false ++ [24] = W ++ Pw o true := by unfold Pw; simp
theorem Pw_o {W : List Int} : W ++ [25] = W ++ Pw true false := by unfold Pw; simp
theorem Pw_stop {W : List Int} {o a : Bool} (hw : baseW W) : W ++ Pw o a = [] ∨ ∃ V c, W ++ Pw o a = V ++ [c] ∧ stg c < 3 := by
  cases a with
  | true => exact Or.inr ⟨W ++ Pw o false, 24, Pw_t.symm, by decide⟩
  | false =>
    cases o with
    | true => exact Or.inr ⟨W, 25, Pw_o.symm, by decide⟩
    | false =>
      rw [Pw_ff]
      exact base_stop hw (by decide)
theorem Pw_opn {W : List Int} {o a : Bool} : opn (W ++ Pw o a) = opn W := by
  rw [opn_app]
  have : opn (Pw o a) = 0 := by cases o <;> cases a <;> rfl
  omega
theorem st_all {s : Int} {G : Hp → Prop} {h : Hp} {W : List Int} {Lr : List It} {o a : Bool} (h2 : n ≤ 200) (hw : baseW W) (hs : RSt h b n s (W ++ Pw o a) Lr) (hG : ∀ h', RSt h' b n s W (Lr ++ oA a ++ oO o) → frM h h' → G h') : ∃ ff, mX8_settles_b0 G ff 1 h := by
  have fin : ∀ (k : Nat) (g : Hp) (M : List It), M = Lr ++ oA a ++ oO o → RSt g b n s W M → frM h g → mX8_settles_b0 G (k + 1) 1 g := fun k g M eM hg hf => st_stop h2 hg (base_stop hw (by decide)) (hG g (by rw [← eM]; exact hg) hf)
  have rfl' : frM h h := frM_k (fun _ _ _ _ => rfl) (fun _ _ _ _ => rfl)
  refine ⟨3, ?_⟩
  cases a with
  | false =>
    cases o with
    | false => exact fin 2 h Lr (by unfold oA oO; simp) (by rw [Pw_ff] at hs; exact hs) rfl'
    | true =>
      rw [← Pw_o] at hs
      exact st_pop (t := tO) h2 hs (by decide) (by decide) rfl fun g hg hf => fin 1 g _ (by unfold oA oO; simp) hg hf
  | true =>
    rw [← Pw_t] at hs
    refine st_pop (t := tA) h2 hs (by decide) (by decide) rfl fun g hg hf => ?_
    cases o with
    | false =>
      rw [Pw_ff] at hg
      exact fin 1 g _ (by unfold oA oO; simp) hg hf
    | true =>
      rw [← Pw_o] at hg
      exact st_pop (t := tO) h2 hg (by decide) (by decide) rfl fun g' hg' hf' => fin 0 g' _ (by unfold oA oO; simp) hg' (frM_tr hf hf')
theorem st_and {s : Int} {G : Hp → Prop} {h : Hp} {W : List Int} {Lr : List It} {o a : Bool} (h2 : n ≤ 200) (hw : baseW W) (hs : RSt h b n s (W ++ Pw o a) Lr) (hG : ∀ h', RSt h' b n s (W ++ Pw o false) (Lr ++ oA a) → frM h h' → G h') : ∃ ff, mX8_settles_b0 G ff 2 h := by
  have fin : ∀ (k : Nat) (g : Hp) (M : List It), M = Lr ++ oA a → RSt g b n s (W ++ Pw o false) M → frM h g → mX8_settles_b0 G (k + 1) 2 g := fun k g M eM hg hf => by
    refine st_stop h2 hg ?_ (hG g (by rw [← eM]; exact hg) hf)
    cases o with
    | true => exact Or.inr ⟨W, 25, Pw_o.symm, by decide⟩
    | false =>
      rw [Pw_ff]
      exact base_stop hw (by decide)
  have rfl' : frM h h := frM_k (fun _ _ _ _ => rfl) (fun _ _ _ _ => rfl)
  refine ⟨3, ?_⟩
  cases a with
  | false => exact fin 2 h Lr (by unfold oA; simp) hs rfl'
  | true =>
    rw [← Pw_t] at hs
    exact st_pop (t := tA) h2 hs (by decide) (by decide) rfl fun g hg hf => fin 1 g _ (by unfold oA; simp) hg hf
theorem wtp_put {h : Hp} {W : List Int} {c : Int} {g u : Hp} (hw : wtp h W) (e1 : g = wr h 195 (h 185 27) c) (e2 : u = hu g 185 27 (g 185 27 + 1)) : wtp u (W ++ [c]) := by
  obtain ⟨w1, w2⟩ := hw
  refine ⟨?_, fun i z hz => ?_⟩
  · rw [e2, hu_same, e1, wr_np (by omega), w1, List.length_append]; rfl
  · rw [e2, hu_np (by omega), e1]
    rcases sn_get hz with ⟨hi, hz⟩ | ⟨hi, hz⟩
    · unfold wr
      rw [hu_ne (by omega)]
      exact w2 i z hz
    · unfold wr
      rw [show i = (h 185 27).toNat by omega, hu_same, hz]
theorem p_push {s c : Int} {K : Hp → Prop} {h : Hp} {W : List Int} {L : List It} (he : eT b n) (h2 : n ≤ 200) (hs : RSt h b n s W L) (hl : s < n) (hc : c = 24 ∨ c = 25) (hK : ∀ h', RSt h' b n (nx b n s) (W ++ [c]) L → frM h h' → K h') : ((0:Int) ≤ (h 185 27) ∧ (h 185 27) < 200) ∧ (∀ h40 : Hp, h40 = wr h 195 (h 185 27) c → (zr ((h40 185 27) + 1) ∧ (∀ h41 : Hp, h41 = hu h40 185 27 ((h40 185 27) + 1) → (mX8_next h41 (fun h42 => K h42))))) := by
  obtain ⟨ht, hg, ⟨hw, cc, op⟩, rm, s0, s1⟩ := hs
  have w1 := hw.1
  refine ⟨⟨by omega, by omega⟩, fun a ea => ?_⟩
  have a27 : a 185 27 = h 185 27 := by rw [ea, wr_np (by omega)]
  refine ⟨zri (by omega) (by omega), fun u eu => ?_⟩
  have uf : ∀ p, p ≠ 185 → p ≠ 195 → u p = h p := fun p p1 p2 => by rw [eu, hu_q p1, ea, wr_q p2]
  have uk : ∀ k, k ≠ 27 → u 185 k = h 185 k := fun k hk => by rw [eu, hu_ne (by omega), ea, wr_np (by omega)]
  have tu : tkM u b n s := tkM_fr ht (fun k k1 k2 => uk k (by omega)) (uf 191 (by omega) (by omega))
  have l1 := nx_lt (b := b) s0 hl
  have a1 := nx_r (b := b) s0 s1
  have Fu : frM h u := frM_k (fun k _ k2 _ => uk k k2) (fun p p1 _ p3 => uf p p1 p3)
  refine p8_next he tu s0 s1 fun g tg kg fg => hK g ⟨tg, by rw [kg 16 (by omega), uk 16 (by omega)]; exact hg, ⟨wtp_f (wtp_put hw ea eu) (kg 27 (by omega)) (fg 195 (by omega)), cod_f cc (by rw [kg 26 (by omega), uk 26 (by omega)]) (by rw [fg 194 (by omega), uf 194 (by omega) (by omega)]), ?_⟩, ?_, by omega, a1.2⟩ (frM_tr Fu (frV_M (frE_V (frE_ke kg fg))))
  · rw [kg 28 (by omega), uk 28 (by omega), op, opn_app]
    have : opn [c] = 0 := by rcases hc with q | q <;> subst q <;> rfl
    omega
  · rw [List.length_append]
    have : ([c] : List Int).length = 1 := rfl
    omega
theorem p8_goesIn {s c : Int} {G : Int → Hp → Prop} {h : Hp} {W : List Int} {L : List It} (he : eT b n) (h2 : n ≤ 200) (hs : RSt h b n s W L) (hl : s < n) (hc : c = 1 ∨ c = 23) (ho : opn W ≤ 6) (hy : opn W < 6 → ∀ h', RSt h' b n (nx b n s) (W ++ [c]) L → frM h h' → G 1 h') (hx : ¬ opn W < 6 → ∀ h', h' 185 16 = 3 → h' 185 17 = s → frM h h' → G 0 h') : mX8_goesIn c h G := by
  obtain ⟨ht, hg, ⟨hw, cc, op⟩, rm, s0, s1⟩ := hs
  have w1 := hw.1
  have o0 : 0 ≤ opn W := by unfold opn; omega
  unfold mX8_goesIn
  refine ⟨fun q => ⟨zri (by omega) (by omega), fun x ex => ?_⟩, fun q => p8_wrongs hg fun a a1 a2 a3 a4 => hx (by omega) a a1 (a2.trans ht.2.2.2.1) (frV_M (frE_V (frE_w (by rw [a1]; decide) a3 a4)))⟩
  have x27 : x 185 27 = h 185 27 := by rw [ex, hu_ne (by omega)]
  have hwx : wtp x W := wtp_f hw x27 (by rw [ex, hu_q (by omega)])
  refine ⟨⟨by omega, by omega⟩, fun a ea => ?_⟩
  have a27 : a 185 27 = h 185 27 := by rw [ea, wr_np (by omega), x27]
  refine ⟨zri (by omega) (by omega), fun u eu => ?_⟩
  have uf : ∀ p, p ≠ 185 → p ≠ 195 → u p = h p := fun p p1 p2 => by rw [eu, hu_q p1, ea, wr_q p2, ex, hu_q p1]
  have uk : ∀ k, k ≠ 27 → k ≠ 28 → u 185 k = h 185 k := fun k hk hk2 => by rw [eu, hu_ne (by omega), ea, wr_np (by omega), ex, hu_ne (by omega)]
  have u28 : u 185 28 = h 185 28 + 1 := by rw [eu, hu_ne (by omega), ea, wr_np (by omega), ex, hu_same]
  have tu : tkM u b n s := tkM_fr ht (fun k k1 k2 => uk k (by omega) (by omega)) (uf 191 (by omega) (by omega))
  have l1 := nx_lt (b := b) s0 hl
  have a1 := nx_r (b := b) s0 s1
  have Fu : frM h u := frM_k (fun k _ k2 k3 => uk k k2 k3) (fun p p1 _ p3 => uf p p1 p3)
  refine p8_next he tu s0 s1 fun g tg kg fg => hy (by omega) g ⟨tg, by rw [kg 16 (by omega), uk 16 (by omega) (by omega)]; exact hg, ⟨wtp_f (wtp_put hwx ea eu) (kg 27 (by omega)) (fg 195 (by omega)), cod_f cc (by rw [kg 26 (by omega), uk 26 (by omega) (by omega)]) (by rw [fg 194 (by omega), uf 194 (by omega) (by omega)]), ?_⟩, ?_, by omega, a1.2⟩ (frM_tr Fu (frV_M (frE_V (frE_ke kg fg))))
  · rw [kg 28 (by omega), u28, op, opn_app]
    have : opn [c] = 1 := by rcases hc with q | q <;> subst q <;> rfl
    omega
  · rw [List.length_append]
    have : ([c] : List Int).length = 1 := rfl
    omega
theorem isG_ne {s c d : Int} (h : isG b n s c = true) (hd : ¬ d = c) : isG b n s d = false := by
  unfold isG at *
  rw [Bool.and_eq_true, decide_eq_true_eq, decide_eq_true_eq] at h
  rw [decide_eq_false (show ¬ b s = d from fun q => hd (q.symm.trans h.2)), Bool.and_false]
theorem isG_W {s c : Int} {w : Nat} (h : isW b n s w = true) : isG b n s c = false := by
  unfold isG
  rw [isW_kd h]
  rfl
theorem y_comp {s : Int} {W : List Int} {L : List It} (he : eT b n) (h2 : n ≤ 200) (nW : isW b n s 13 = false) (nG : isG b n s 40 = false) (hy : (pC b n s L).1 = 0 → Bst Q b n h0 (pC b n s L).2.1 W (pC b n s L).2.2) (hx : ¬ (pC b n s L).1 = 0 → noQ Q h0 (pC b n s L).1 (pC b n s L).2.1) : Ast Q b n h0 s W L := by
  intro h f0 fu hs hf hf0 hfu
  obtain ⟨ht, hg, ⟨hw, cc, opE⟩, rm, s0, s1⟩ := id hs
  obtain ⟨f, rfl⟩ : ∃ f, f0 = f + 1 := ⟨f0 - 1, by omega⟩
  unfold mX8_comparisonRead_b0
  unfold pC at hy hx
  have bad : ∀ (g : Hp), ¬ g 185 16 = 0 → Q g → CT Q fu g := fun g g1 g2 => by
    unfold CT
    exact p8_good0 g1 ⟨fun w => absurd rfl w, fun _ => g2⟩
  have bad99 : ∀ (op : Int) (g : Hp), ¬ g 185 16 = 0 → Q g → mX8_comparisonRead_b99 (fun h45 => CT Q fu h45) op g := fun op g g1 g2 => by
    unfold mX8_comparisonRead_b99
    exact p8_good0 g1 ⟨fun w => absurd rfl w, fun _ => bad g g1 g2⟩
  have a1 := nx_r (b := b) s0 s1
  have a2 := nx_r (b := b) (show 0 ≤ nx b n s by omega) a1.2
  refine p8_isWord cdws.2.2.2.2.2.2.2.2.2.2.2.2.2.1.symm (by omega) hg ht s0 s1 he ⟨fun w => absurd w (by rw [nW]; decide), fun _ => p8_isByte hg he ht s0 s1 ⟨fun _ => ?_, fun w => absurd w (by rw [nG]; decide)⟩⟩
  refine p8_valueRead he ht hg s0 s1 cc (fun q => by omega) (fun c g tg g1 cg Vg => ?_) (fun c g g1 g2 Vg => ?_)
  · rw [if_pos c] at hy hx
    have l1 := nx_lt (b := b) s0 (vE_lt s0 s1 c)
    have Fg : frM h0 g := frM_tr hf (frV_M Vg)
    have go : ∀ op, op = cOp b n (nx b n s) → ¬ op = 0 → mX8_comparisonRead_b99 (fun h45 => CT Q fu h45) op g := fun op eo no => by
      have no' : ¬ cOp b n (nx b n s) = 0 := by rw [← eo]; exact no
      rw [if_neg no'] at hy hx
      have l2 := nx_lt (b := b) (show 0 ≤ nx b n s by omega) (cOp_lt no')
      have ro := cOp_r no'
      have a3 := nx_r (b := b) (show 0 ≤ nx b n (nx b n s) by omega) a2.2
      have e2 : (cM L ++ [vV b n s]).length = (cM L).length + 1 := by rw [List.length_append]; rfl
      unfold mX8_comparisonRead_b99
      refine p8_good1 g1 ⟨fun _ => p8_next he tg (by omega) a1.2 fun u tu ku fu' => ?_, fun w => absurd w (by decide)⟩
      have u1 : u 185 16 = 0 := by rw [ku 16 (by omega)]; exact g1
      have Vu : frV h u := frV_tr Vg (frE_V (frE_ke ku fu'))
      refine p8_valueRead he tu u1 (by omega) a2.2 (cod_f cg (ku 26 (by omega)) (fu' 194 (by omega))) (fun q => by omega) (fun d v tv v1 cv Vv => ?_) (fun d v v1 v2 Vv => ?_)
      · rw [if_pos d] at hy
        have l3 := nx_lt (b := b) (show 0 ≤ nx b n (nx b n s) by omega) (vE_lt (by omega) a2.2 d)
        have e3 : (cM L ++ [vV b n s] ++ [vV b n (nx b n (nx b n s))]).length = (cM L).length + 2 := by rw [List.length_append, e2]; rfl
        have Vv' : frV h v := frV_tr Vu Vv
        refine p8_good1 v1 ⟨fun w => absurd w (by decide), fun _ => p8_adds cv (by omega) fun x cx xk xf => ?_⟩
        have x1 : x 185 16 = 0 := by rw [xk 16 (by omega)]; exact v1
        have Vx : frV h x := frV_tr Vv' ⟨⟨fun k hk => xk k (by omega), fun w => ⟨by rw [← xk 16 (by omega)]; exact w, xk 17 (by omega)⟩⟩, fun p p1 p2 => xf p p1 p2⟩
        have ec : cM (L ++ [(op, vV b n s, vV b n (nx b n (nx b n s)))]) = cM L ++ [vV b n s] ++ [vV b n (nx b n (nx b n s))] ++ [op] := by
          rw [cM_app, cM_1]
          unfold cM1
          rw [if_pos (by show op < 23; omega)]
          simp
        have Rx : RSt x b n (nx b n (nx b n (nx b n s))) W (L ++ [(op, vV b n s, vV b n (nx b n (nx b n s)))]) := by
          refine ⟨tkM_fr tv (fun k k1 k2 => xk k (by omega)) (xf 191 (by omega) (by omega)), x1, ⟨wtp_f hw (Vx.1.1 27 (by omega)) (Vx.2 195 (by omega) (by omega)), by rw [ec]; exact cx, by rw [Vx.1.1 28 (by omega)]; exact opE⟩, ?_, by omega, a3.2⟩
          rw [ec, List.length_append, e3]
          show ((_ + 2 + 1 : Nat) : Int) + _ ≤ _
          omega
        unfold CT
        refine p8_good1 x1 ⟨fun _ => ?_, fun w => absurd w (by decide)⟩
        unfold mX8_closes mX8_settles
        rw [← eo] at hy
        exact ⟨_, hy rfl x ((n - nx b n (nx b n (nx b n s))).toNat + 1) fu _ Rx (frM_tr hf (frV_M Vx)) (by show n - nx b n (nx b n (nx b n s)) < _; omega) (by show n - nx b n (nx b n (nx b n s)) < _; omega) fun h' w => ⟨_, w⟩⟩
      · rw [if_neg d] at hx
        have vn : ¬ v 185 16 = 0 := by rw [v1]; exact d
        exact p8_good0 vn ⟨fun _ => bad v vn (hx d v v1 v2 (frM_tr hf (frV_M (frV_tr Vu Vv)))), fun w => absurd rfl w⟩
    refine p8_isByte g1 he tg (by omega) a1.2 ⟨fun c60 => p8_isByte g1 he tg (by omega) a1.2 ⟨fun c62 => ?_, fun c62 => ?_⟩, fun c60 => ?_⟩
    · unfold mX8_comparisonRead_b77
      refine ⟨fun w => absurd rfl w, fun _ => p8_isByte g1 he tg (by omega) a1.2 ⟨fun c61 => ?_, fun c61 => ?_⟩⟩
      · refine go 21 ?_ (by decide)
        unfold cOp
        rw [b2i0.mp c60, if_neg (by decide), if_pos (b2i1.mp c61)]
      · have z : cOp b n (nx b n s) = 0 := by
          unfold cOp
          rw [b2i0.mp c60, if_neg (by decide), b2i0.mp c61, if_neg (by decide), b2i0.mp c62, if_neg (by decide)]
        rw [if_pos z] at hx
        refine p8_wrongs g1 fun a w1 w2 w3 w4 => bad99 _ a (by rw [w1]; decide) ?_
        exact hx (by show ¬ (1 : Int) = 0; decide) a w1 (w2.trans tg.2.2.2.1) (frM_tr Fg (frV_M (frE_V (frE_w (by rw [w1]; decide) w3 w4))))
    · unfold mX8_comparisonRead_b77
      refine ⟨fun _ => go 22 ?_ (by decide), fun w => absurd w (by decide)⟩
      unfold cOp
      rw [b2i0.mp c60, if_neg (by decide), isG_ne (b2i1.mp c62) (by decide), if_neg (by decide), if_pos (b2i1.mp c62)]
    · unfold mX8_comparisonRead_b77
      refine ⟨fun _ => go 20 ?_ (by decide), fun w => absurd w (by decide)⟩
      unfold cOp
      rw [if_pos (b2i1.mp c60)]
  · rw [if_neg c] at hx
    have gn : ¬ g 185 16 = 0 := by rw [g1]; exact c
    have hq := hx c g g1 g2 (frM_tr hf (frV_M Vg))
    refine p8_isByte0 gn ⟨fun _ => p8_isByte0 gn ⟨fun _ => ?_, fun w => absurd rfl w⟩, fun w => absurd rfl w⟩
    unfold mX8_comparisonRead_b77
    exact ⟨fun w => absurd rfl w, fun _ => p8_isByte0 gn ⟨fun w => absurd rfl w, fun _ => p8_wrongs0 gn (bad99 _ g gn hq)⟩⟩
end SIM
