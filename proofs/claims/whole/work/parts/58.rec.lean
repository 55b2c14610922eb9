/-! the class reads a query: tests, factors, the whole -/
section CLR
variable {b : Int → Int} {n : Int}
theorem CSt_f {h h' : Hp} {s t : Int} {L : List It} (hc : CSt h b n s L) (ht : tkC h' b n t) (f : ∀ p, p ≠ 176 → h' p = h p) : CSt h' b n t L := ⟨ht, by rw [f 179 (by omega)]; exact hc.2.1, stp_f hc.2.2 f⟩
theorem p4_addI {h h0 : Hp} {Q : Hp → Prop} {L : List It} {s : Int} {t : It} {x : Int} (hc : CSt h b n s L) (hl : (cS L).length < 203) (e : cS1 t = [x]) (hf : frQ h0 h) (hQ : ∀ h', CSt h' b n s (L ++ [t]) → frQ h0 h' → Q h') : mX4_addStep x h Q := by
  refine p4_add hc.2.2 hl fun a sa ak af => hQ a ⟨tkC_fr hc.1 (af 176 (by omega) (by omega)) (af 177 (by omega) (by omega)), by rw [ak 4 (by omega)]; exact hc.2.1, ?_⟩ (frQ_tr hf (frQ_s ak af))
  rw [cS_app, cS_1, e]
  exact sa
theorem p4_addX {h h0 : Hp} {Q : Hp → Prop} {e s x : Int} (hc : ERt h b n e s) (hf : frQ h0 h) (hQ : ∀ h', ERt h' b n e s → frQ h0 h' → Q h') : mX4_addStep x h Q :=
  p4_addE hc.2.2 fun a a2 ak af => hQ a ⟨tkC_fr hc.1 (af 176 (by omega) (by omega)) (af 177 (by omega) (by omega)), by rw [ak 4 (by omega)]; exact hc.2.1, a2⟩ (frQ_tr hf (frQ_s ak af))
theorem p4_b9e {RT RF : Int → Hp → (Hp → Prop) → Prop} {Q : Hp → Prop} {k : Nat} {d v w e s : Int} {h h0 : Hp} (hc : ERt h b n e s) (he : ¬ e = 0) (hf : frQ h0 h) (hQ : ∀ h', ERt h' b n e s → frQ h0 h' → Q h') : mX4_readTest_b9 RT RF Q (k + 1) d v w h := by
  have fin : mX4_readTest_b115 RT RF Q v h := by
    unfold mX4_readTest_b115
    exact ⟨fun _ => hQ h hc hf, fun _ => p4_addX hc hf hQ⟩
  unfold mX4_readTest_b9
  exact ⟨fun _ => fin, fun _ => ⟨fun _ => fin, fun q => absurd q (by rw [hc.2.1]; exact he)⟩⟩
theorem p4_loop {RT RF : Int → Hp → (Hp → Prop) → Prop} {Q : Hp → Prop} {F : Int → List It → QR} {d : Int} {h0 : Hp} (he : eT b n) (h2 : n ≤ 200) (hF : ∀ s L, 0 ≤ s → s ≤ n → okP1 n s L (F s L)) (hRF : ∀ (s : Int) (L : List It) (h : Hp) (Q : Hp → Prop), 0 ≤ s → s ≤ n → CSt h b n s L → ((cS L).length : Int) ≤ s → frQ h0 h → ((F s L).1 = 0 → ∀ h', CSt h' b n (F s L).2.1 (F s L).2.2 → frQ h0 h' → Q h') → (¬ (F s L).1 = 0 → ∀ h', ERt h' b n (F s L).1 (F s L).2.1 → frQ h0 h' → Q h') → RF d h Q) : ∀ (m : Nat) (o : Bool) (v3 s : Int) (L : List It) (h : Hp), v3 = 200 - (m : Int) → m ≤ 200 → 0 ≤ s → s ≤ n → CSt h b n s L → ((cS L).length : Int) + o1 o ≤ s → frQ h0 h → ((pLoop b n F m o s L).1 = 0 → ∀ h', CSt h' b n (pLoop b n F m o s L).2.1 (pLoop b n F m o s L).2.2 → frQ h0 h' → Q h') → (¬ (pLoop b n F m o s L).1 = 0 → ∀ h', ERt h' b n (pLoop b n F m o s L).1 (pLoop b n F m o s L).2.1 → frQ h0 h' → Q h') → mX4_readTest_b9 RT RF Q (m + 1) d (o1 o : Nat) v3 h := by
  have fin : ∀ (o : Bool) (s : Int) (L : List It) (h : Hp), s ≤ n → CSt h b n s L → ((cS L).length : Int) + o1 o ≤ s → frQ h0 h → (∀ h', CSt h' b n s (L ++ oO o) → frQ h0 h' → Q h') → mX4_readTest_b115 RT RF Q (o1 o : Nat) h := fun o s L h s1 hc hl hf hy => by
    unfold mX4_readTest_b115
    cases o with
    | false =>
      have e : L ++ oO false = L := by unfold oO; simp
      rw [e] at hy
      exact ⟨fun _ => hy h hc hf, fun w => absurd rfl w⟩
    | true => exact ⟨fun w => absurd w (by decide), fun _ => p4_addI hc (by omega) rfl hf hy⟩
  intro m
  induction m with
  | zero =>
    intro o v3 s L h hv m2 s0 s1 hc hl hf hy hx
    unfold mX4_readTest_b9
    exact ⟨fun _ => fin o s L h s1 hc hl hf (hy rfl), fun w => by omega⟩
  | succ m ih =>
    intro o v3 s L h hv m2 s0 s1 hc hl hf hy hx
    have a1 := nx_r (b := b) s0 s1
    unfold pLoop at hy hx
    unfold mX4_readTest_b9
    rw [hc.2.1]
    refine ⟨fun w => by omega, fun _ => ⟨fun w => absurd rfl w, fun _ => ?_⟩⟩
    refine p6_isWord (by omega) he hc.1 s0 s1 ⟨fun c => ?_, fun c => ?_⟩
    · have c' := b2i1.mp c
      rw [if_pos c'] at hy hx
      have l1 := nx_lt (b := b) s0 (kd_lt (b := b) (by rw [isW_kd c']; decide))
      unfold mX4_readTest_b47
      refine p6_isWord (by omega) he hc.1 s0 s1 ?_
      rw [c']
      refine p6_advance he hc.1 s0 s1 fun g tg g1 gf => ⟨fun _ => ?_, fun w => absurd w (by decide)⟩
      have cg := CSt_f hc tg gf
      have Fg : frQ h0 g := frQ_tr hf (frQ_a g1 gf)
      have go : mX4_readTest_b93 RT RF Q (mX4_readTest_b9 RT RF Q (m + 1)) d v3 (b2i true) (o1 o : Nat) g := by
        unfold mX4_readTest_b93
        obtain ⟨f1, f2, f3⟩ := hF (nx b n s) L (by omega) a1.2
        refine hRF (nx b n s) L g _ (by omega) a1.2 cg (by omega) Fg (fun e u cu Fu => ⟨fun w => absurd w (by decide), fun _ => ?_⟩) (fun e u cu Fu => ⟨fun w => absurd w (by decide), fun _ => ?_⟩)
        · rw [qb_0 e] at hy hx
          obtain ⟨g1, X, g2, g3, g4⟩ := f3 e
          have len : ((cS (F (nx b n s) L).2.2).length : Int) + 1 + o1 o ≤ (F (nx b n s) L).2.1 := by
            rw [g2, cS_app, List.length_append]
            omega
          refine p4_addI (t := tA) cu (by omega) rfl Fu fun x cx Fx => ?_
          unfold mX4_readTest_b109
          refine ⟨zri (by omega) (by omega), ih o (v3 + 1) _ _ x (by omega) (by omega) (by omega) f1.2 cx ?_ Fx hy hx⟩
          rw [cS_app, List.length_append]
          have : (cS [tA]).length = 1 := rfl
          omega
        · rw [qb_n e] at hy hx
          refine p4_addX cu Fu fun x cx Fx => ?_
          unfold mX4_readTest_b109
          exact ⟨zri (by omega) (by omega), p4_b9e cx e Fx (hx e)⟩
      unfold mX4_readTest_b79 mX4_readTest_b88
      cases o with
      | false => exact ⟨fun w => absurd rfl w, fun _ => ⟨fun _ => go, fun w => absurd w (by decide)⟩⟩
      | true => exact ⟨fun _ => go, fun w => absurd w (by decide)⟩
    · have c' := b2i0.mp c
      rw [c', if_neg (by decide)] at hy hx
      refine p6_isWord (by omega) he hc.1 s0 s1 ⟨fun k => ?_, fun k => ?_⟩
      · rw [b2i0.mp k, if_neg (by decide)] at hy hx
        exact fin o s L h s1 hc hl hf (hy rfl)
      · have d' := b2i1.mp k
        rw [if_pos d'] at hy hx
        have l1 := nx_lt (b := b) s0 (kd_lt (b := b) (by rw [isW_kd d']; decide))
        unfold mX4_readTest_b47
        refine p6_isWord (by omega) he hc.1 s0 s1 ?_
        rw [c']
        refine p6_advance he hc.1 s0 s1 fun g tg g1 gf => ⟨fun w => absurd rfl w, fun _ => ?_⟩
        have cg := CSt_f hc tg gf
        have Fg : frQ h0 g := frQ_tr hf (frQ_a g1 gf)
        have go : ∀ u : Hp, CSt u b n (nx b n s) (L ++ oO o) → frQ h0 u → mX4_readTest_b88 RT RF Q (mX4_readTest_b9 RT RF Q (m + 1)) d v3 (b2i false) u := fun u cu Fu => by
          unfold mX4_readTest_b88 mX4_readTest_b93
          obtain ⟨f1, f2, f3⟩ := hF (nx b n s) (L ++ oO o) (by omega) a1.2
          have len0 : ((cS (L ++ oO o)).length : Int) ≤ s := by rw [cS_app, List.length_append, oO_len]; omega
          refine hRF (nx b n s) (L ++ oO o) u _ (by omega) a1.2 cu (by omega) Fu (fun e x cx Fx => ⟨fun _ => ?_, fun w => absurd rfl w⟩) (fun e x cx Fx => ⟨fun _ => ?_, fun w => absurd rfl w⟩)
          · rw [qb_0 e] at hy hx
            obtain ⟨g1, X, g2, g3, g4⟩ := f3 e
            unfold mX4_readTest_b109
            refine ⟨zri (by omega) (by omega), ih true (v3 + 1) _ _ x (by omega) (by omega) (by omega) f1.2 cx ?_ Fx hy hx⟩
            rw [g2, cS_app, List.length_append]
            have : o1 true = 1 := rfl
            omega
          · rw [qb_n e] at hy hx
            unfold mX4_readTest_b109
            exact ⟨zri (by omega) (by omega), p4_b9e cx e Fx (hx e)⟩
        unfold mX4_readTest_b79
        cases o with
        | false =>
          have e : L ++ oO false = L := by unfold oO; simp
          rw [e] at go
          exact ⟨fun _ => ⟨fun w => absurd rfl w, fun _ => ⟨fun w => absurd rfl w, fun _ => go g cg Fg⟩⟩, fun w => absurd rfl w⟩
        | true => exact ⟨fun w => absurd w (by decide), fun _ => p4_addI cg (by omega) rfl Fg fun u cu Fu => ⟨fun _ => go u cu Fu, fun w => absurd w (by decide)⟩⟩
theorem p4_rec (he : eT b n) (h2 : n ≤ 200) : ∀ (f : Nat) (t : Bool) (d s : Int) (L : List It) (h h0 : Hp) (Q : Hp → Prop), 0 ≤ d ∧ d ≤ 6 → 2 * (6 - d) + (if t = true then 2 else 1) ≤ f → 0 ≤ s → s ≤ n → CSt h b n s L → ((cS L).length : Int) ≤ s → frQ h0 h → ((pQ b n f t d s L).1 = 0 → ∀ h', CSt h' b n (pQ b n f t d s L).2.1 (pQ b n f t d s L).2.2 → frQ h0 h' → Q h') → (¬ (pQ b n f t d s L).1 = 0 → ∀ h', ERt h' b n (pQ b n f t d s L).1 (pQ b n f t d s L).2.1 → frQ h0 h' → Q h') → mX4_rec f t d h Q := by
  intro f
  induction f with
  | zero =>
    intro t d s L h h0 Q hd hfu
    exfalso
    cases t <;> simp at hfu <;> omega
  | succ f ih =>
    intro t d s L h h0 Q hd hfu s0 s1 hc hl hf hy hx
    have a1 := nx_r (b := b) s0 s1
    cases t with
    | true =>
      rw [if_pos rfl] at hfu
      unfold pQ at hy hx
      unfold mX4_rec mX4_readTestF
      obtain ⟨f1, f2, f3⟩ := pQ_r (b := b) (n := n) f false d s L s0 s1
      refine ih false d s L h h0 _ hd (by rw [if_neg (by decide)]; omega) s0 s1 hc hl hf (fun e u cu Fu => ⟨201, ?_⟩) (fun e u cu Fu => ⟨1, ?_⟩)
      · rw [qb_0 e] at hy hx
        obtain ⟨g1, X, g2, g3, g4⟩ := f3 e
        refine p4_loop (F := pQ b n f false d) he h2 (fun s L q1 q2 => pQ_r f false d s L q1 q2) (fun s L h Q q1 q2 q3 q4 q5 q6 q7 => ih false d s L h h0 Q hd (by rw [if_neg (by decide)]; omega) q1 q2 q3 q4 q5 q6 q7) 200 false 0 _ _ u (by omega) (by omega) (by omega) f1.2 cu ?_ Fu hy hx
        rw [g2, cS_app, List.length_append]
        have : o1 false = 0 := rfl
        omega
      · rw [qb_n e] at hy hx
        exact p4_b9e cu e Fu (hx e)
    | false =>
      rw [if_neg (by decide)] at hfu
      unfold pQ at hy hx
      unfold mX4_rec mX4_readFactorF
      refine p6_isWord (by omega) he hc.1 s0 s1 ⟨fun c => ?_, fun c => ?_⟩
      · have c' := b2i1.mp c
        rw [if_pos c'] at hy hx
        rw [c']
        have l1 := nx_lt (b := b) s0 (kd_lt (b := b) (by rw [isW_kd c']; decide))
        unfold mX4_readFactor_b31
        refine ⟨fun d6 => ?_, fun d6 => fun a ea => ?_⟩
        · rw [if_pos d6] at hy hx
          refine p6_advance he hc.1 s0 s1 fun g tg g1 gf => ⟨fun w => absurd w (by decide), fun _ => ⟨zri (by omega) (by omega), ?_⟩⟩
          have cg := CSt_f hc tg gf
          have Fg : frQ h0 g := frQ_tr hf (frQ_a g1 gf)
          obtain ⟨f1, f2, f3⟩ := pQ_r (b := b) (n := n) f false (d + 1) (nx b n s) L (by omega) a1.2
          refine ih false (d + 1) (nx b n s) L g h0 _ (by omega) (by rw [if_neg (by decide)]; omega) (by omega) a1.2 cg (by omega) Fg (fun e u cu Fu => ?_) (fun e u cu Fu => ?_)
          · rw [qb_0 e] at hy
            obtain ⟨g1, X, g2, g3, g4⟩ := f3 e
            refine p4_addI (t := tN) cu ?_ rfl Fu (hy rfl)
            have len : ((cS (pQ b n f false (d + 1) (nx b n s) L).2.2).length : Int) ≤ (pQ b n f false (d + 1) (nx b n s) L).2.1 := by
              rw [g2, cS_app, List.length_append]
              omega
            omega
          · rw [qb_n e] at hx
            exact p4_addX cu Fu (hx e)
        · rw [if_neg d6] at hx
          refine hx (by show ¬ (3 : Int) = 0; decide) a ⟨?_, ?_, ?_⟩ (frQ_tr hf (by rw [ea]; exact frQ_4))
          · exact tkC_fr hc.1 (by rw [ea, hu_q (by omega)]) (by rw [ea, hu_q (by omega)])
          · rw [ea]; exact hu_same
          · rw [ea, hu_ne (by omega), hc.2.2.1]; omega
      · have c' := b2i0.mp c
        rw [c', if_neg (by decide)] at hy hx
        rw [c']
        refine p6_isSign (by omega) he hc.1 s0 s1 ⟨fun k => ?_, fun k => ?_⟩
        · have k' := b2i1.mp k
          rw [if_pos k'] at hy hx
          have l1 := nx_lt (b := b) s0 (kd_lt (b := b) (by rw [isG_kd k']; decide))
          unfold mX4_readFactor_b31
          refine ⟨fun d6 => ?_, fun d6 => fun a ea => ?_⟩
          · rw [if_pos d6] at hy hx
            refine p6_advance he hc.1 s0 s1 fun g tg g1 gf => ⟨fun _ => ⟨zri (by omega) (by omega), ?_⟩, fun w => absurd rfl w⟩
            have cg := CSt_f hc tg gf
            have Fg : frQ h0 g := frQ_tr hf (frQ_a g1 gf)
            obtain ⟨f1, f2, f3⟩ := pQ_r (b := b) (n := n) f true (d + 1) (nx b n s) L (by omega) a1.2
            refine ih true (d + 1) (nx b n s) L g h0 _ (by omega) (by rw [if_pos rfl]; omega) (by omega) a1.2 cg (by omega) Fg (fun e u cu Fu => ?_) (fun e u cu Fu => ?_)
            · rw [qb_0 e] at hy hx
              obtain ⟨g1, X, g2, g3, g4⟩ := f3 e
              refine ⟨fun w => absurd cu.2.1 w, fun _ => p6_isSign (by omega) he cu.1 (by omega) f1.2 ⟨fun j => ?_, fun j => fun a ea => ?_⟩⟩
              · unfold mX4_readFactor_b98
                rw [if_pos (b2i1.mp j)] at hy
                exact ⟨fun w => absurd cu.2.1 w, fun _ => p6_advance he cu.1 (by omega) f1.2 fun x tx x1 xf => hy rfl x (CSt_f cu tx xf) (frQ_tr Fu (frQ_a x1 xf))⟩
              · rw [b2i0.mp j, if_neg (by decide)] at hx
                have a4 : a 179 4 = 1 := by rw [ea]; exact hu_same
                unfold mX4_readFactor_b98
                refine ⟨fun _ => hx (by show ¬ (1 : Int) = 0; decide) a ⟨?_, a4, ?_⟩ (frQ_tr Fu (by rw [ea]; exact frQ_4)), fun w => by omega⟩
                · exact tkC_fr cu.1 (by rw [ea, hu_q (by omega)]) (by rw [ea, hu_q (by omega)])
                · rw [ea, hu_ne (by omega), cu.2.2.1]; omega
            · rw [qb_n e] at hx
              have e4 : ¬ u 179 4 = 0 := by rw [cu.2.1]; exact e
              unfold mX4_readFactor_b98
              exact ⟨fun _ => ⟨fun _ => hx e u cu Fu, fun w => absurd w e4⟩, fun w => absurd w e4⟩
          · rw [if_neg d6] at hx
            refine hx (by show ¬ (3 : Int) = 0; decide) a ⟨?_, ?_, ?_⟩ (frQ_tr hf (by rw [ea]; exact frQ_4))
            · exact tkC_fr hc.1 (by rw [ea, hu_q (by omega)]) (by rw [ea, hu_q (by omega)])
            · rw [ea]; exact hu_same
            · rw [ea, hu_ne (by omega), hc.2.2.1]; omega
        · rw [b2i0.mp k, if_neg (by decide)] at hy hx
          exact p4_comp he h2 hc s0 s1 hl hf hy hx
def QD (b : Int → Int) (n : Int) : QR := if isW b n (ws b n 0) 11 = true ∨ isW b n (ws b n 0) 12 = true then qb (pQ b n 14 true 0 (nx b n (ws b n 0)) []) (fun s L => if kd b n s = 0 then (0, s, L) else (1, s, L)) else (1, ws b n 0, [])
theorem p4_readQuery {h : Hp} {Q : Int → Hp → Prop} (he : eT b n) (h2 : n ≤ 200) (ht : tkC h b n (ws b n 0)) (hy : (QD b n).1 = 0 → ∀ h', stp h' (cS (QD b n).2.2) → h' 179 3 = b2i (isW b n (ws b n 0) 11) → h' 176 1 = h 176 1 → (∀ p, p ≠ 176 → p ≠ 179 → p ≠ 180 → h' p = h p) → Q 0 h') (hx : ¬ (QD b n).1 = 0 → ∀ h', tkC h' b n (QD b n).2.1 → h' 176 1 = h 176 1 → (∀ p, p ≠ 176 → p ≠ 179 → p ≠ 180 → h' p = h p) → Q (QD b n).1 h') : mX4_readQuery h Q := by
  have s0 : 0 ≤ ws b n 0 ∧ ws b n 0 ≤ n := rn_r (Int.le_refl 0) he.1.1
  have a1 := nx_r (b := b) s0.1 s0.2
  unfold mX4_readQuery
  intro a ea c ec
  have cf : ∀ p, p ≠ 179 → c p = h p := fun p hp => by rw [ec, hu_q hp, ea, hu_q hp]
  have tc : tkC c b n (ws b n 0) := tkC_fr ht (cf 176 (by omega)) (cf 177 (by omega))
  refine p6_isWord (by omega) he tc s0.1 s0.2 fun d ed => ?_
  have df : ∀ p, p ≠ 179 → d p = h p := fun p hp => by rw [ed, hu_q hp, cf p hp]
  have td : tkC d b n (ws b n 0) := tkC_fr ht (df 176 (by omega)) (df 177 (by omega))
  have d3 : d 179 3 = b2i (isW b n (ws b n 0) 11) := by rw [ed]; exact hu_same
  have d4 : d 179 4 = 0 := by rw [ed, hu_ne (by omega), ec, hu_ne (by omega), ea]; exact hu_same
  have d2 : d 179 2 = 0 := by rw [ed, hu_ne (by omega), ec]; exact hu_same
  rw [d3]
  unfold QD at hy hx
  have go : (isW b n (ws b n 0) 11 = true ∨ isW b n (ws b n 0) 12 = true) → mX4_readQuery_b44 Q d := fun w => by
    rw [if_pos w] at hy hx
    unfold mX4_readQuery_b44 mX4_readQuery_b78
    refine p6_advance he td s0.1 s0.2 fun g tg g1 gf => ⟨14, by decide, ?_⟩
    have cg : CSt g b n (nx b n (ws b n 0)) [] := ⟨tg, by rw [gf 179 (by omega)]; exact d4, by rw [gf 179 (by omega)]; exact d2, fun i z q => by simp [cS] at q⟩
    obtain ⟨f1, f2, f3⟩ := pQ_r (b := b) (n := n) 14 true 0 (nx b n (ws b n 0)) [] (by omega) a1.2
    refine p4_rec he h2 14 true 0 _ [] g d _ (by omega) (by rw [if_pos rfl]; decide) (by omega) a1.2 cg (by show ((0 : Nat) : Int) ≤ _; omega) (frQ_a g1 gf) (fun e u cu Fu => ?_) (fun e u cu Fu => ?_)
    · rw [qb_0 e] at hy hx
      refine ⟨fun w => absurd cu.2.1 w, fun _ => ?_⟩
      rw [cu.1.2.2.1]
      refine ⟨fun k => ?_, fun k => fun x ex => ?_⟩
      · rw [if_pos k] at hy
        rw [cu.2.1]
        exact hy rfl u cu.2.2 (by rw [Fu.1.2]; exact d3) (by rw [Fu.1.1, df 176 (by omega)]) (fun p p1 p2 p3 => by rw [Fu.2 p p1 p2 p3, df p p2])
      · rw [if_neg k] at hx
        have x4 : x 179 4 = 1 := by rw [ex]; exact hu_same
        rw [x4]
        refine hx (by show ¬ (1 : Int) = 0; decide) x ?_ ?_ (fun p p1 p2 p3 => ?_)
        · exact tkC_fr cu.1 (by rw [ex, hu_q (by omega)]) (by rw [ex, hu_q (by omega)])
        · rw [ex, hu_q (by omega), Fu.1.1, df 176 (by omega)]
        · rw [ex, hu_q p2, Fu.2 p p1 p2 p3, df p p2]
    · rw [qb_n e] at hx
      have u4 : ¬ u 179 4 = 0 := by rw [cu.2.1]; exact e
      refine ⟨fun _ => ?_, fun w => absurd w u4⟩
      rw [cu.2.1]
      exact hx e u cu.1 (by rw [Fu.1.1, df 176 (by omega)]) (fun p p1 p2 p3 => by rw [Fu.2 p p1 p2 p3, df p p2])
  refine ⟨fun w => go (Or.inl (b2i1.mp w)), fun w => p6_isWord (by omega) he td s0.1 s0.2 ⟨fun k => go (Or.inr (b2i1.mp k)), fun k => ?_⟩⟩
  have w' := b2i0.mp w
  have k' := b2i0.mp k
  rw [if_neg (by rw [w', k']; decide)] at hx
  exact hx (by show ¬ (1 : Int) = 0; decide) d td (by rw [df 176 (by omega)]) (fun p p1 p2 p3 => df p p2)
end CLR
