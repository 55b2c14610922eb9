/-! more calls that leave all as it was -/
theorem cn_snoc {p : Int → Bool} {b : Int} : ∀ a, a ≤ b → cn p a (b + 1) = cn p a b + (if p b = true then 1 else 0) := by
  refine upI (b := b) (fun a h h2 => ?_) (fun a h ih _ => ?_)
  · have : a = b := by omega
    subst this
    rw [cn_step (by omega), cn_end (show a + 1 ≤ a + 1 by omega), cn_end (Int.le_refl _)]
    by_cases c : p a = true
    · rw [if_pos c]; omega
    · rw [if_neg c]
  · rw [cn_step (b := b + 1) (by omega), cn_step (b := b) h, ih (by omega)]
    omega
/-- the clash at place i -/
def ckp (r : Rw) (i : Int) : Int → Bool := fun v => clash r v && decide (cn (clash r) 1 v = i)
def ckA (r : Rw) (i : Int) : Int := fs (ckp r i) 1 251
theorem p5_clashAt {x : Int} {h : Hp} {Q : Int → Prop} {r : Rw} (ht : tly h r) (hQ : Q (if ckA r x = -1 then 0 else ckA r x)) : mX5_clashAt x h Q := by
  unfold mX5_clashAt
  unfold ckA at hQ
  obtain ⟨f, hf⟩ := forU (fun f v => Q (if fs (ckp r x) v 251 = -1 then 0 else fs (ckp r x) v 251) → mX5_clashAt_b4 h Q f x (cn (clash r) 1 v) v) 1 251 (by omega) (fun f hq => by
      unfold mX5_clashAt_b4
      rw [fs_end (Int.le_refl _)] at hq
      exact ⟨fun _ => hq, fun hc => absurd (by omega) hc⟩) (fun f v v1 v2 ih hq => by
      unfold mX5_clashAt_b4 mX5_clashAt_b29
      have hr := cn_r (clash r) (b := v) 1 (by omega)
      have hs := cn_snoc (p := clash r) (b := v) 1 (by omega)
      refine ⟨fun hc => by omega, fun _ => p5_isClash1 ht ⟨by omega, by omega⟩ ⟨fun c => ⟨zri (by omega) (by omega), ?_⟩, fun c => ⟨fun d => ⟨zri (by omega) (by omega), zri (by omega) (by omega), ?_⟩, fun d => ?_⟩⟩⟩
      · have c' := b2i0.mp c
        rw [c', if_neg (by decide), Int.add_zero] at hs
        rw [← hs]
        refine ih ?_
        rw [fs_skip v2 (by unfold ckp; rw [c', Bool.false_and])] at hq
        exact hq
      · have c' := b2i1.mp c
        rw [c', if_pos rfl] at hs
        rw [← hs]
        refine ih ?_
        rw [fs_skip v2 (by unfold ckp; rw [decide_eq_false d, Bool.and_false])] at hq
        exact hq
      · have c' := b2i1.mp c
        rw [fs_hit v2 (by unfold ckp; rw [c', decide_eq_true d]; rfl), if_neg (by omega)] at hq
        exact hq)
  exact ⟨f, by have := hf hQ; rw [cn_end (Int.le_refl _)] at this; exact this⟩
theorem zw_z {x : Int} (h : -2147483648 ≤ x ∧ x ≤ 2147483647) : zw x = x := Int32.toInt_ofInt_of_le (by omega) (by omega)
theorem zw_p {x : Int} (h : x < -2147483648) (h2 : -2147483648 - 4294967296 ≤ x) : zw x = x + 4294967296 := by
  unfold zw
  rw [Int32.toInt_ofInt]
  show (if x % 4294967296 < (4294967296 + 1) / 2 then x % 4294967296 else x % 4294967296 - 4294967296) = _
  split <;> omega
theorem p8_clash {x : Int} {h : Hp} {Q : Int → Hp → Prop} (hx : zr x) (ho : okR (rd h 186)) (hQ : if ckA (rd h 186) x = -1 then Q 0 (hu h 185 0 1) else Q (ckA (rd h 186) x) h) : ∃ f, mX8_clash_b9 Q f x 1 h := by
  unfold ckA at hQ
  have key : ∃ f, mX8_clash_b9 Q f (zw (x - cn (clash (rd h 186)) 1 1)) 1 h := by
    obtain ⟨f, hf⟩ := forU (fun f v => (if fs (ckp (rd h 186) x) v 251 = -1 then Q 0 (hu h 185 0 1) else Q (fs (ckp (rd h 186) x) v 251) h) → mX8_clash_b9 Q f (zw (x - cn (clash (rd h 186)) 1 v)) v h) 1 251 (by omega) (fun f hq => by
        unfold mX8_clash_b9
        rw [fs_end (Int.le_refl _), if_pos rfl] at hq
        exact ⟨fun _ g e => by rw [e]; exact hq, fun hc => absurd (by omega) hc⟩) (fun f v v1 v2 ih hq => by
        unfold mX8_clash_b9 mX8_clash_b36
        have hr := cn_r (clash (rd h 186)) (b := v) 1 (by omega)
        have hs := cn_snoc (p := clash (rd h 186)) (b := v) 1 (by omega)
        unfold zr at hx
        refine ⟨fun hc => by omega, fun _ => p8_isClash ho ⟨fun c => ⟨fun d => ⟨zri (by omega) (by omega), ?_⟩, fun d => ?_⟩, fun c => ⟨zri (by omega) (by omega), ?_⟩⟩⟩
        · have c' := b2i1.mp c
          rw [c', if_pos rfl] at hs
          have e : zw (zw (x - cn (clash (rd h 186)) 1 v) + (-1)) = zw (x - cn (clash (rd h 186)) 1 (v + 1)) := by
            rw [hs]
            by_cases lo : x - cn (clash (rd h 186)) 1 v < -2147483648
            · rw [zw_p lo (by omega), zw_z (by omega), zw_p (by omega) (by omega)]; omega
            · rw [zw_z (show -2147483648 ≤ x - cn (clash (rd h 186)) 1 v ∧ x - cn (clash (rd h 186)) 1 v ≤ 2147483647 by omega)]
              congr 1
              omega
          rw [e]
          refine ih ?_
          have nd : ¬ cn (clash (rd h 186)) 1 v = x := fun w => d (by rw [w, Int.sub_self]; exact zw_z (by omega))
          rw [fs_skip v2 (by unfold ckp; rw [decide_eq_false nd, Bool.and_false])] at hq
          exact hq
        · have c' := b2i1.mp c
          have nd : cn (clash (rd h 186)) 1 v = x := by
            by_cases lo : x - cn (clash (rd h 186)) 1 v < -2147483648
            · rw [zw_p lo (by omega)] at d; omega
            · rw [zw_z (by omega)] at d; omega
          rw [fs_hit v2 (by unfold ckp; rw [c', decide_eq_true nd]; rfl), if_neg (by omega)] at hq
          exact hq
        · have c' := b2i0.mp c
          rw [c', if_neg (by decide), Int.add_zero] at hs
          rw [← hs]
          refine ih ?_
          rw [fs_skip v2 (by unfold ckp; rw [c', Bool.false_and])] at hq
          exact hq)
    exact ⟨f, hf hQ⟩
  rw [cn_end (Int.le_refl _), Int.sub_zero, zw_z hx] at key
  exact key
theorem c_clash {x : Int} {h : Hp} (hi : inv h) (hx : zr x) : mL_clash x h (fun k h1 => mX8_clash x h1 (fun b h2 => okA k b h2)) := by
  obtain ⟨⟨n, o⟩, -⟩ := id hi
  unfold mL_clash mX7_clash
  refine p5_count n o.1 (by omega) fun g t f => p5_clashAt t ?_
  have hi2 : inv g := inv_c hi (fun p p1 p2 p3 => f p (by omega) (by omega) (by omega))
  have hr : rd g 186 = rd h 186 := rd_ne (f 186 (by omega) (by omega) (by omega))
  have hc := fs_r (p := ckp (rd h 186) x) (a := 1) (b := 251) (by omega)
  by_cases c : ckA (rd h 186) x = -1
  · rw [if_pos c]
    refine ⟨fun d => absurd rfl d, fun _ => ⟨rfl, ?_⟩⟩
    unfold mX8_clash
    intro a e
    rw [e]
    refine p8_clash hx (by rw [tR, hr]; exact o.1.1) ?_
    rw [tR, hr, if_pos c]
    exact okA_x hi2 (by omega)
  · rw [if_neg c]
    have c2 : ¬ ckA (rd h 186) x = 0 := by unfold ckA at c ⊢; omega
    refine ⟨fun _ => ⟨by omega, fun h4 e => ?_⟩, fun d => absurd d c2⟩
    rw [e]
    unfold mX8_clash
    intro a e
    rw [e]
    refine p8_clash hx (by rw [tR, oR, hr]; exact o.1.1) ?_
    rw [tR, oR, hr, if_neg c]
    exact okA_v hi2 rfl
theorem c_size {x : Int} {h : Hp} (hi : inv h) : mL_size x h (fun k h1 => mX8_size x h1 (fun b h2 => okA k b h2)) := by
  obtain ⟨⟨n, o⟩, -⟩ := id hi
  have o7 := o.1.2.2.2.1
  obtain ⟨n0, n1, n2, n3, n4, n5, n6, n7⟩ := n.1
  unfold mL_size mX7_size
  have good : ∀ z g, inv g → rd g 186 = rd h 186 → (0 ≤ x ∧ x ≤ 10) → z = (if x = 0 then rd h 186 0 else if x = 1 then rd h 186 1 else if x = 2 then cn (fun i => decide (¬ fl (rd h 186) i 4 = 0)) 0 (rd h 186 0) else if x = 3 then rd h 186 2 else if x = 4 then rd h 186 3 else if x = 5 then rd h 186 4 else if x = 6 then rd h 186 5 else if x = 7 then rd h 186 6 else if x = 8 then rd h 186 7 else if x = 9 then clashes (rd h 186) else cn (fun i => decide (¬ kept (rd h 186) i = 0)) 0 (rd h 186 0)) → mX8_size x (wr g 197 0 z) (fun b h2 => okA 0 b h2) := by
    intro z g hi2 hg hx hz
    unfold mX8_size
    intro a e
    rw [e]
    have hr : rd (hu (wr g 197 0 z) 185 0 0) 186 = rd h 186 := by rw [tR, oR, hg]
    refine p8_inF t0 (by omega) (fun _ => ⟨fun _ => ?_, fun c => absurd rfl c⟩) (fun c => absurd hx c)
    refine ⟨fun c => ⟨by omega, okA_v hi2 ?_⟩, fun c => ⟨by omega, okA_v hi2 ?_⟩, fun c => p8_plansNow (by rw [hr]; exact o.1) (okA_v hi2 ?_), fun c => ⟨by omega, okA_v hi2 ?_⟩, fun c => ⟨by omega, okA_v hi2 ?_⟩, fun c => ⟨by omega, okA_v hi2 ?_⟩, fun c => ⟨by omega, okA_v hi2 ?_⟩, fun c => ⟨by omega, okA_v hi2 ?_⟩, fun c => ⟨by omega, okA_v hi2 ?_⟩, fun c => p8_clashes (by rw [hr]; exact o.1.1) (okA_v hi2 ?_), fun c => p8_keeping (by rw [hr]; exact o.1) (okA_v hi2 ?_)⟩
    · rw [hr, hz, if_pos c]
    · rw [hr, hz, if_neg (by omega), if_pos c]
    · rw [hr, hz, if_neg (by omega), if_neg (by omega), if_pos c]
    · rw [hr, hz, if_neg (by omega), if_neg (by omega), if_neg (by omega), if_pos c]
    · rw [hr, hz, if_neg (by omega), if_neg (by omega), if_neg (by omega), if_neg (by omega), if_pos c]
    · rw [hr, hz, if_neg (by omega), if_neg (by omega), if_neg (by omega), if_neg (by omega), if_neg (by omega), if_pos c]
    · rw [hr, hz, if_neg (by omega), if_neg (by omega), if_neg (by omega), if_neg (by omega), if_neg (by omega), if_neg (by omega), if_pos c]
    · rw [hr, hz, if_neg (by omega), if_neg (by omega), if_neg (by omega), if_neg (by omega), if_neg (by omega), if_neg (by omega), if_neg (by omega), if_pos c]
    · rw [hr, hz, if_neg (by omega), if_neg (by omega), if_neg (by omega), if_neg (by omega), if_neg (by omega), if_neg (by omega), if_neg (by omega), if_neg (by omega), if_pos c]
    · rw [hr, hz, if_neg (by omega), if_neg (by omega), if_neg (by omega), if_neg (by omega), if_neg (by omega), if_neg (by omega), if_neg (by omega), if_neg (by omega), if_neg (by omega), if_pos c]
    · rw [hr, hz, if_neg (by omega), if_neg (by omega), if_neg (by omega), if_neg (by omega), if_neg (by omega), if_neg (by omega), if_neg (by omega), if_neg (by omega), if_neg (by omega), if_neg (by omega)]
  have go : ∀ z, (0 ≤ x ∧ x ≤ 10) → z = (if x = 0 then rd h 186 0 else if x = 1 then rd h 186 1 else if x = 2 then cn (fun i => decide (¬ fl (rd h 186) i 4 = 0)) 0 (rd h 186 0) else if x = 3 then rd h 186 2 else if x = 4 then rd h 186 3 else if x = 5 then rd h 186 4 else if x = 6 then rd h 186 5 else if x = 7 then rd h 186 6 else if x = 8 then rd h 186 7 else if x = 9 then clashes (rd h 186) else cn (fun i => decide (¬ kept (rd h 186) i = 0)) 0 (rd h 186 0)) → ((0 : Int) ≤ 0 ∧ (0 : Int) < 1) ∧ ∀ h6 : Hp, h6 = wr h 197 0 z → mX8_size x h6 (fun b h2 => okA 0 b h2) := fun z hx hz => ⟨by omega, fun h6 e => by rw [e]; exact good z h hi rfl hx hz⟩
  rw [n0, n1, n2, n3, n4, n5, n6, n7]
  refine ⟨fun c => go _ (by omega) ?_, fun c => go _ (by omega) ?_, fun c => p3_planCount n o.1 (go _ (by omega) ?_), fun c => go _ (by omega) ?_, fun c => go _ (by omega) ?_, fun c => go _ (by omega) ?_, fun c => go _ (by omega) ?_, fun c => go _ (by omega) ?_, fun c => ⟨fun d => go _ (by omega) ?_, fun d => go _ (by omega) ?_⟩, fun c => p7_clashCount n o.1 (by omega) fun g f => ⟨by omega, fun h6 e => ?_⟩, fun c => p3_keeperCount n o.1 (go _ (by omega) ?_), fun c => ⟨rfl, ?_⟩⟩
  · rw [if_pos c]
  · rw [if_neg (by omega), if_pos c]
  · rw [if_neg (by omega), if_neg (by omega), if_pos c]
  · rw [if_neg (by omega), if_neg (by omega), if_neg (by omega), if_pos c]
  · rw [if_neg (by omega), if_neg (by omega), if_neg (by omega), if_neg (by omega), if_pos c]
  · rw [if_neg (by omega), if_neg (by omega), if_neg (by omega), if_neg (by omega), if_neg (by omega), if_pos c]
  · rw [if_neg (by omega), if_neg (by omega), if_neg (by omega), if_neg (by omega), if_neg (by omega), if_neg (by omega), if_pos c]
  · rw [if_neg (by omega), if_neg (by omega), if_neg (by omega), if_neg (by omega), if_neg (by omega), if_neg (by omega), if_neg (by omega), if_pos c]
  · rw [if_neg (by omega), if_neg (by omega), if_neg (by omega), if_neg (by omega), if_neg (by omega), if_neg (by omega), if_neg (by omega), if_neg (by omega), if_pos c]; omega
  · rw [if_neg (by omega), if_neg (by omega), if_neg (by omega), if_neg (by omega), if_neg (by omega), if_neg (by omega), if_neg (by omega), if_neg (by omega), if_pos c]; omega
  · rw [e]
    refine good _ g (inv_c hi (fun p p1 p2 p3 => f p (by omega) (by omega) (by omega))) (rd_ne (f 186 (by omega) (by omega) (by omega))) (by omega) ?_
    rw [if_neg (by omega), if_neg (by omega), if_neg (by omega), if_neg (by omega), if_neg (by omega), if_neg (by omega), if_neg (by omega), if_neg (by omega), if_neg (by omega), if_pos c]
  · rw [if_neg (by omega), if_neg (by omega), if_neg (by omega), if_neg (by omega), if_neg (by omega), if_neg (by omega), if_neg (by omega), if_neg (by omega), if_neg (by omega), if_neg (by omega)]
  · unfold mX8_size
    intro a e
    rw [e]
    exact p8_inF t0 (by omega) (fun w => by omega) (fun _ => ⟨fun w => absurd w (by decide), fun _ => okA_x hi (by omega)⟩)
/-- the reference tries out in its row, and lays it back -/
theorem inv_back {g a b c : Hp} (hi : inv g) (fa : ∀ p, p ≠ 189 → a p = g p) (ea : ∀ j, 0 ≤ j → j < 1096 → rd a 189 j = rd g 186 j) (fb : ∀ p, p ≠ 185 → p ≠ 186 → p ≠ 192 → b p = a p) (kb : ∀ k, k ≠ 19 → k ≠ 20 → b 185 k = a 185 k) (fc : ∀ p, p ≠ 186 → c p = b p) (ec : ∀ j, 0 ≤ j → j < 1096 → rd c 186 j = rd b 189 j) : inv c := by
  have e185 : ∀ k, k ≠ 19 → k ≠ 20 → c 185 k = g 185 k := fun k k1 k2 => by rw [fc 185 (by omega), kb k k1 k2, fa 185 (by omega)]
  refine inv_fr hi (fun p hp => ?_) (e185 6 (by omega) (by omega)) (e185 7 (by omega) (by omega)) (e185 9 (by omega) (by omega)) (e185 17 (by omega) (by omega)) (e185 22 (by omega) (by omega)) (eqV_of hi.1.2.1.1 fun j j1 j2 => ?_)
  · unfold perm at hp
    rw [fc p (by omega), fb p (by omega) (by omega) (by omega), fa p (by omega)]
  · rw [ec j j1 j2, rd_same (fb 189 (by omega) (by omega) (by omega)), ea j j1 j2]
theorem eqV_rd {h h' : Hp} (e : h' 186 = h 186) : eqV (rd h 186) (rd h' 186) := by rw [rd_ne e]; exact ev_rfl
theorem c_whyNot {h : Hp} (hi : inv h) : mX7_whyNot h (fun z h1 => mX8_whyNot h1 (fun b h2 => okB z b h2)) := by
  obtain ⟨⟨n, o⟩, -⟩ := id hi
  unfold mX7_whyNot
  refine p3_copyFrom n o.1.1 (by omega) fun g1 n1 f1 => p7_tryWave n1 o fun g2 _ f2 => ?_
  have hi2 : inv g2 := inv_c hi (fun p p1 p2 p3 => by rw [f2 p p1 (by omega) (by omega) (by omega), f1 p (by omega)])
  have hr : rd g2 186 = rd h 186 := by rw [rd_ne (f2 186 (by omega) (by omega) (by omega) (by omega)), rd_ne (f1 186 (by omega))]
  unfold mX8_whyNot
  intro a e
  rw [e]
  have hr2 : rd (hu g2 185 0 0) 186 = rd h 186 := by rw [tR, hr]
  refine p8_laysAside fun a1 fa ea => p8_movesIf (r := rd h 186) (by rw [rd_ne (fa 186 (by omega)), hr2]; exact ev_rfl) o fun b1 _ kb fb => p8_laysBack fun c1 fc ec => ?_
  refine ⟨inv_back (inv_t hi2) fa ea fb kb fc ec, ?_⟩
  have hc := cn_r (mvg (rd h 186)) (b := rd h 186 0) 0 o.1.1.1.1
  have ht := tw0_r (r := rd h 186)
  by_cases c : tw0 (rd h 186) = 0
  · rw [if_pos c]; omega
  · rw [if_neg c]; omega
theorem c_conflict {h : Hp} (hi : inv h) : mX7_conflict h (fun z h1 => mX8_conflict h1 (fun b h2 => okB z b h2)) := by
  obtain ⟨⟨n, o⟩, -⟩ := id hi
  have o1 := o.1.1
  unfold okR at o1
  unfold mX7_conflict
  rw [n.1.2.2.1]
  refine ⟨fun hc => p3_copyFrom n o.1.1 (by omega) fun g1 n1 f1 => p3_doWave n1 o.1 hc fun g2 n2 f2 => p7_heldTwice n2 (wv_okW o.1 hc) (by omega) fun g3 f3 => ?_, fun hc => ?_⟩
  · have hi2 : inv g3 := inv_c hi (fun p p1 p2 p3 => by rw [f3 p (by omega) (by omega) (by omega), f2 p (by omega), f1 p (by omega)])
    have hr : rd g3 186 = rd h 186 := by rw [rd_ne (f3 186 (by omega) (by omega) (by omega)), rd_ne (f2 186 (by omega)), rd_ne (f1 186 (by omega))]
    have go : ∀ z, z = twice (wv (rd h 186)) → mX8_conflict g3 (fun b h2 => okB z b h2) := by
      intro z hz
      unfold mX8_conflict
      intro a e
      rw [e]
      have hr2 : rd (hu g3 185 0 0) 186 = rd h 186 := by rw [tR, hr]
      rw [hr2]
      refine ⟨by omega, fun _ => p8_laysAside fun a1 fa ea => p8_moves (r := rd h 186) (by rw [rd_ne (fa 186 (by omega)), hr2]; exact ev_rfl) o hc fun b1 eb1 _ _ kb fb => p8_twice (okW_eqV (wv_okW o.1 hc) eb1) (p8_laysBack fun c1 fc ec => ?_), fun d => by omega⟩
      exact ⟨inv_back (inv_t hi2) fa ea fb (fun k k1 k2 => kb k k1 k2) fc ec, by rw [hz, ev_twice eb1]⟩
    have ht := twice_r (r := wv (rd h 186))
    by_cases c : twice (wv (rd h 186)) = -1
    · rw [if_pos c]
      exact ⟨fun d => absurd rfl d, fun _ => go _ c.symm⟩
    · rw [if_neg c]
      exact ⟨fun _ => go _ rfl, fun d => by omega⟩
  · unfold mX8_conflict
    intro a e
    rw [e]
    have hr2 : rd (hu h 185 0 0) 186 = rd h 186 := tR
    rw [hr2]
    exact ⟨by omega, fun d => by omega, fun _ => ⟨inv_t hi, rfl⟩⟩
theorem c_rewrites {h : Hp} (hi : inv h) : mX7_rewrites h (fun z h1 => mX8_rewrites h1 (fun b h2 => okB z b h2)) := by
  obtain ⟨⟨n, o⟩, -⟩ := id hi
  unfold mX7_rewrites
  refine p3_copyFrom n o.1.1 (by omega) fun g1 n1 f1 => p7_tryWave n1 o fun g2 n2 f2 => ?_
  have hi2 : inv g2 := inv_c hi (fun p p1 p2 p3 => by rw [f2 p p1 (by omega) (by omega) (by omega), f1 p (by omega)])
  have hr : rd g2 186 = rd h 186 := by rw [rd_ne (f2 186 (by omega) (by omega) (by omega) (by omega)), rd_ne (f1 186 (by omega))]
  have go : ∀ z, z = (if tw0 (rd h 186) = 0 then sdc (rd h 186) else -1) → mX8_rewrites g2 (fun b h2 => okB z b h2) := by
    intro z hz
    unfold mX8_rewrites
    intro a e
    rw [e]
    have hr2 : rd (hu g2 185 0 0) 186 = rd h 186 := by rw [tR, hr]
    refine p8_laysAside fun a1 fa ea => p8_movesIf (r := rd h 186) (by rw [rd_ne (fa 186 (by omega)), hr2]; exact ev_rfl) o fun b1 eb kb fb => p8_laysBack fun c1 fc ec => ?_
    have hi3 := inv_back (inv_t hi2) fa ea fb kb fc ec
    refine ⟨fun d => ⟨hi3, ?_⟩, fun d => ⟨hi3, ?_⟩⟩
    · rw [hz, if_neg d]
    · rw [hz, if_pos d, fc 185 (by omega), (eb d).2.2]
  have hc := cn_r (mvg (rd h 186)) (b := rd h 186 0) 0 o.1.1.1.1
  have ht := tw0_r (r := rd h 186)
  by_cases c : tw0 (rd h 186) = 0
  · rw [if_pos c]
    have hn0 : nets g2 0 (rd h 186) := nets_frame n (fun p p1 p2 => by rw [f2 p (by omega) (by omega) (by omega) (by omega), f1 p (by omega)])
    have e1 : rd h 186 1 = wv (rd h 186) 1 := ((mk_h (by omega)).trans (wvH_k (by omega))).symm
    refine ⟨fun _ => p3_sidesUnlike (n2 c) hn0 (tw0_ok o c).1.1 e1 (go _ ?_), fun d => by omega⟩
    rw [if_pos c, ← sdc_wv, ← e1]
  · rw [if_neg c]
    exact ⟨fun d => by omega, fun _ => go _ (by rw [if_neg c])⟩
/-- how many clashes there are in so many waves -/
def cIn : Nat → Rw → Int
  | 0, r => clashes r
  | n + 1, r => if tw0 r = 0 then cIn n (wv r) else -1
theorem cIn_s {n : Nat} {r : Rw} : cIn (n + 1) r = if tw0 r = 0 then cIn n (wv r) else -1 := rfl
theorem c_clashesIn {x : Int} {h : Hp} (hi : inv h) : mL_clashesIn x h (fun k h1 => mX8_clashesIn x h1 (fun b h2 => okA k b h2)) := by
  obtain ⟨⟨n, o⟩, -⟩ := id hi
  unfold mL_clashesIn mX7_clashesIn
  have bad : ¬ (0 ≤ x ∧ x ≤ 9) → mX8_clashesIn x h (fun b h2 => okA 1 b h2) := by
    intro hx
    unfold mX8_clashesIn
    intro a e
    rw [e]
    exact p8_inF t0 (by omega) (fun w => absurd w hx) (fun _ => ⟨fun w => absurd w (by decide), fun _ => okA_x hi (by omega)⟩)
  refine ⟨fun c => ⟨rfl, bad (by omega)⟩, fun c => ⟨fun d => ?_, fun d => ⟨rfl, bad (by omega)⟩⟩⟩
  have hx : 0 ≤ x ∧ x ≤ 9 := by omega
  have good : ∀ z g, inv g → rd g 186 = rd h 186 → z = cIn x.toNat (rd h 186) → mX8_clashesIn x (wr g 197 0 z) (fun b h2 => okA 0 b h2) := by
    intro z g hi2 hg hz
    unfold mX8_clashesIn
    intro a e
    rw [e]
    have hr2 : rd (hu (wr g 197 0 z) 185 0 0) 186 = rd h 186 := by rw [tR, oR, hg]
    refine p8_inF t0 (by omega) (fun _ => ⟨fun _ => p8_laysAside fun a1 fa ea => ?_, fun w => absurd rfl w⟩) (fun w => absurd hx w)
    have back : ∀ (s : Int) (b1 : Hp), s = z → (∀ p, p ≠ 185 → p ≠ 186 → p ≠ 192 → b1 p = a1 p) → (∀ k, k ≠ 19 → k ≠ 20 → b1 185 k = a1 185 k) → mX8_clashesIn_b64 (fun b h2 => okA 0 b h2) s b1 := by
      intro s b1 hs fb kb
      unfold mX8_clashesIn_b64
      refine p8_laysBack fun c1 fc ec => ⟨inv_back (inv_t (inv_o hi2)) fa ea fb kb fc ec, ?_, fun _ => ?_⟩
      · rw [fc 185 (by omega), kb 0 (by omega) (by omega), fa 185 (by omega)]; exact hu_same
      · rw [rd_same (fc 197 (by omega)), rd_same (fb 197 (by omega) (by omega) (by omega)), rd_same (fa 197 (by omega)), rd_same (hu_q (show (197 : Nat) ≠ 185 by omega)), rw_same, hs]
    obtain ⟨f, hf⟩ := forU (fun f k => ∀ (r : Rw) (b1 : Hp), okS r → eqV r (rd b1 186) → cIn (x - k).toNat r = z → (∀ p, p ≠ 185 → p ≠ 186 → p ≠ 192 → b1 p = a1 p) → (∀ k, k ≠ 19 → k ≠ 20 → b1 185 k = a1 185 k) → mX8_clashesIn_b32 (fun b h2 => okA 0 b h2) (f + 1) x 0 k b1) 0 x hx.1 (fun f r b1 ho eb hc fb kb => by
        unfold mX8_clashesIn_b32 mX8_clashesIn_b52
        rw [show (x - x).toNat = 0 by omega] at hc
        refine ⟨fun _ => ⟨fun w => absurd rfl w, fun _ => p8_clashes (okR_eqV ho.1.1 eb) ?_⟩, fun w => absurd (Int.le_refl _) w⟩
        rw [ev_clashes eb]
        exact back _ b1 hc fb kb) (fun f k k1 k2 ih r b1 ho eb hc fb kb => by
        unfold mX8_clashesIn_b32
        rw [show (x - k).toNat = (x - (k + 1)).toNat + 1 by omega] at hc
        rw [cIn_s] at hc
        refine ⟨fun w => by omega, fun _ => ⟨fun w => absurd rfl w, fun _ => p8_movesIf eb ho fun b2 eb2 kb2 fb2 => ⟨zri (by omega) (by omega), ?_⟩⟩⟩
        have fb3 : ∀ p, p ≠ 185 → p ≠ 186 → p ≠ 192 → b2 p = a1 p := fun p p1 p2 p3 => by rw [fb2 p p1 p2 p3, fb p p1 p2 p3]
        have kb3 : ∀ k, k ≠ 19 → k ≠ 20 → b2 185 k = a1 185 k := fun k k1 k2 => by rw [kb2 k k1 k2, kb k k1 k2]
        by_cases c : tw0 r = 0
        · rw [if_pos c] at hc
          rw [c]
          exact ih (wv r) b2 (tw0_ok ho c).1 (eb2 c).1 hc fb3 kb3
        · rw [if_neg c] at hc
          unfold mX8_clashesIn_b32 mX8_clashesIn_b52
          have go := back (-1) b2 hc fb3 kb3
          exact ⟨fun _ => ⟨fun _ => go, fun w => absurd w c⟩, fun _ => ⟨fun _ => ⟨fun _ => go, fun w => absurd w c⟩, fun w => absurd w c⟩⟩)
    refine ⟨f + 1, hf (rd h 186) a1 o (by rw [rd_ne (fa 186 (by omega)), hr2]; exact ev_rfl) ?_ (fun _ _ _ _ => rfl) (fun _ _ _ => rfl)⟩
    rw [Int.sub_zero]
    exact hz.symm
  refine p3_copyFrom n o.1.1 (by omega) fun g1 n1 f1 => ?_
  obtain ⟨f, hf⟩ := forU (fun f k => ∀ (r : Rw) (b1 : Hp), okS r → nets b1 13 r → cIn (x - k).toNat r = cIn x.toNat (rd h 186) → (∀ p, ¬ (13 ≤ p ∧ p ≤ 25) → p ≠ 173 → p ≠ 174 → p ≠ 175 → b1 p = g1 p) → mX7_clashesIn_b31 (fun z4 h5 => ((0 : Int) ≤ 0 ∧ (0 : Int) < 1) ∧ ∀ h6 : Hp, h6 = wr h5 197 0 z4 → mX8_clashesIn x h6 (fun b h2 => okA 0 b h2)) (fun x_1 h5 => x_1 = 0 ∧ mX8_clashesIn x h5 (fun b h2 => okA 1 b h2)) f x k b1) 0 x hx.1 (fun f r b1 ho nb hc fb => by
      unfold mX7_clashesIn_b31
      rw [show (x - x).toNat = 0 by omega] at hc
      refine ⟨fun _ => p7_clashCount nb ho.1 (by omega) fun g f2 => ⟨by omega, fun h6 e => ?_⟩, fun w => absurd (Int.le_refl _) w⟩
      rw [e]
      exact good _ g (inv_c hi (fun p p1 p2 p3 => by rw [f2 p (by omega) (by omega) (by omega), fb p p1 (by omega) (by omega) (by omega), f1 p (by omega)])) (by rw [rd_ne (f2 186 (by omega) (by omega) (by omega)), rd_ne (fb 186 (by omega) (by omega) (by omega) (by omega)), rd_ne (f1 186 (by omega))]) hc) (fun f k k1 k2 ih r b1 ho nb hc fb => by
      unfold mX7_clashesIn_b31
      rw [show (x - k).toNat = (x - (k + 1)).toNat + 1 by omega] at hc
      rw [cIn_s] at hc
      have hcn := cn_r (mvg r) (b := r 0) 0 ho.1.1.1.1
      have ht := tw0_r (r := r)
      refine ⟨fun w => by omega, fun _ => p7_tryWave nb ho fun g ng f2 => ?_⟩
      have fg : ∀ p, ¬ (13 ≤ p ∧ p ≤ 25) → p ≠ 173 → p ≠ 174 → p ≠ 175 → g p = g1 p := fun p p1 p2 p3 p4 => by rw [f2 p p1 p2 p3 p4, fb p p1 p2 p3 p4]
      by_cases c : tw0 r = 0
      · rw [if_pos c] at hc
        rw [if_pos c]
        exact ⟨fun _ => ⟨zri (by omega) (by omega), ih (wv r) g (tw0_ok ho c).1 (ng c) hc fg⟩, fun w => by omega⟩
      · rw [if_neg c] at hc
        rw [if_neg c]
        refine ⟨fun w => by omega, fun _ => ⟨by omega, fun h6 e => ?_⟩⟩
        rw [e]
        exact good _ g (inv_c hi (fun p p1 p2 p3 => by rw [fg p p1 (by omega) (by omega) (by omega), f1 p (by omega)])) (by rw [rd_ne (fg 186 (by omega) (by omega) (by omega) (by omega)), rd_ne (f1 186 (by omega))]) hc)
  exact ⟨f, hf (rd h 186) g1 o n1 (by rw [Int.sub_zero]) (fun _ _ _ _ _ => rfl)⟩
