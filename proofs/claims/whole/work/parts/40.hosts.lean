/-! hosts and rules that come and go -/
theorem apN_okS {r : Rw} {L : Int → Int} {w v p : Int} (ho : okS r) (h40 : r 0 < 40) (hw : w = 0 ∨ w = 1) (hv : 1 ≤ v ∧ v ≤ 250) (hp : p = 0 ∨ p = 1) (hL : (0 ≤ L 5 ∧ L 5 ≤ 8) ∧ ∀ k, 0 ≤ k → k < 8 → (k < L 5 → 97 ≤ L (6 + k) ∧ L (6 + k) ≤ 122) ∧ (L 5 ≤ k → L (6 + k) = 0)) (hn : ∀ i, 0 ≤ i → i < r 0 → onet r i w = true → hds r i v = false) : okS (apN r L w v p) := by
  obtain ⟨⟨a1, a2, a3, a4, a5, a6⟩, ht, hP⟩ := ho
  unfold okR at a1
  have k0 : apN r L w v p 0 = r 0 + 1 := apN_0
  have kk : ∀ k, 0 < k → k < 16 → apN r L w v p k = r k := fun k k1 k2 => apN_k k1 k2
  have fo : ∀ i, 0 ≤ i → i < r 0 → ∀ j, 0 ≤ j → j < 24 → fl (apN r L w v p) i j = fl r i j := fun i i1 i2 j j1 j2 => apN_f ⟨i1, by omega⟩ ⟨j1, j2⟩ (by omega)
  have fn : ∀ j, 0 ≤ j → j < 24 → fl (apN r L w v p) (r 0) j = (if j = 0 then w else if j = 1 then v else if j = 2 then p else if 5 ≤ j ∧ j < 14 then L j else 0) := fun j j1 j2 => apN_n ⟨by omega, h40⟩ ⟨j1, j2⟩
  have latn : lat (apN r L w v p) (r 0) = 0 := lat_z (fun u u1 u2 => by rw [fn _ (by omega) (by omega), if_neg (by omega), if_neg (by omega), if_neg (by omega), if_neg (by omega)])
  have hdn : ∀ u, 1 ≤ u → hds (apN r L w v p) (r 0) u = true → u = v := by
    intro u u1 hu
    unfold hds kept kp at hu
    rw [latn, if_pos (Int.le_refl 0), fn 1 (by omega) (by omega), if_neg (by omega), if_pos rfl] at hu
    simp only [Bool.or_eq_true, decide_eq_true_eq] at hu
    omega
  refine ⟨⟨?_, ?_, ?_, ?_, fun i i1 i2 => ?_, fun k k1 k2 => ?_⟩, twice_mk fun u j i u1 u2 j1 j2 i2 h4 h5 h6 => ?_, fun i i1 i2 h4 => ?_⟩
  · unfold okR
    rw [k0, kk 1 (by omega) (by omega), kk 2 (by omega) (by omega), kk 3 (by omega) (by omega)]
    omega
  · rw [kk 4 (by omega) (by omega)]; exact a2
  · rw [kk 5 (by omega) (by omega), kk 6 (by omega) (by omega)]; exact a3
  · rw [kk 7 (by omega) (by omega)]; exact a4
  · rw [k0] at i2
    by_cases c : i = r 0
    · subst c
      unfold okH
      have n0 : fl (apN r L w v p) (r 0) 0 = w := by rw [fn 0 (by omega) (by omega)]; rfl
      have n1 : fl (apN r L w v p) (r 0) 1 = v := by rw [fn 1 (by omega) (by omega)]; rfl
      have n2 : fl (apN r L w v p) (r 0) 2 = p := by rw [fn 2 (by omega) (by omega)]; rfl
      have n3 : fl (apN r L w v p) (r 0) 3 = 0 := by rw [fn 3 (by omega) (by omega)]; rfl
      have n4 : fl (apN r L w v p) (r 0) 4 = 0 := by rw [fn 4 (by omega) (by omega)]; rfl
      have n5 : fl (apN r L w v p) (r 0) 5 = L 5 := by rw [fn 5 (by omega) (by omega)]; rfl
      rw [n0, n1, n2, n3, n4, n5]
      refine ⟨hw, hv, hp, ⟨by decide, by decide⟩, ⟨by decide, by decide⟩, Or.inl rfl, hL.1, fun k k1 k2 => ?_, fun u u1 u2 => ?_⟩
      · have nk : fl (apN r L w v p) (r 0) (6 + k) = L (6 + k) := by rw [fn (6 + k) (by omega) (by omega), if_neg (by omega), if_neg (by omega), if_neg (by omega), if_pos (by omega)]
        rw [nk]
        exact hL.2 k k1 k2
      · have nk : fl (apN r L w v p) (r 0) ((14 + u) - 1) = 0 := by rw [fn _ (by omega) (by omega), if_neg (by omega), if_neg (by omega), if_neg (by omega), if_neg (by omega)]
        rw [nk]
        exact ⟨⟨by decide, by decide⟩, fun _ => rfl⟩
    · exact okH_ext (a5 i i1 (by omega)) (kk 2 (by omega) (by omega)) (fo i i1 (by omega))
  · rw [kk 1 (by omega) (by omega)] at k2
    exact okU_ext (a6 k k1 k2) (fun j j1 j2 => apN_r k1 ⟨j1, j2⟩)
  · rw [k0] at i2
    have hj : hds r j u = true := by
      rw [hds_ext (r := r) (i := j) (kk 3 (by omega) (by omega)) (kk 2 (by omega) (by omega)) (fo j j1 (by omega))] at h6
      exact h6
    unfold net at h4
    rw [kk 7 (by omega) (by omega), fo j j1 (by omega) 0 (by omega) (by omega)] at h4
    by_cases c : i = r 0
    · subst c
      have e := hdn u u1 h5
      subst e
      rw [fn 0 (by omega) (by omega), if_pos rfl] at h4
      have := hn j j1 j2 (by unfold onet; simp only [Bool.or_eq_true, decide_eq_true_eq] at h4 ⊢; omega)
      rw [this] at hj
      cases hj
    · have hi : hds r i u = true := by
        rw [hds_ext (r := r) (i := i) (kk 3 (by omega) (by omega)) (kk 2 (by omega) (by omega)) (fo i (by omega) (by omega))] at h5
        exact h5
      rw [fo i (by omega) (by omega) 0 (by omega) (by omega)] at h4
      exact twice_no ht ⟨u1, u2⟩ j1 j2 (by omega) h4 hi hj
  · rw [k0] at i2
    by_cases c : i = r 0
    · subst c
      rw [fn 3 (by omega) (by omega)]; rfl
    · rw [fo i i1 (by omega) 4 (by omega) (by omega)] at h4
      rw [fo i i1 (by omega) 3 (by omega) (by omega)]
      exact hP i i1 (by omega) h4
theorem hnet_no {r : Rw} {o v : Int} (h : hnet r o v = -1) : ∀ i, 0 ≤ i → i < r 0 → onet r i o = true → hds r i v = false := by
  intro i i1 i2 h1
  unfold hnet at h
  rw [fs_none (by omega)] at h
  have := h i i1 i2
  rw [h1, Bool.true_and] at this
  exact this
theorem c_addHost {x v : Int} {h : Hp} (hi : inv h) : mL_addHost x v h (fun k h1 => mX8_addHost x v h1 (fun b h2 => okA k b h2)) := by
  obtain ⟨⟨n, o⟩, -, ⟨hh, -⟩, -⟩ := id hi
  have o1 := o.1.1
  unfold okR at o1
  unfold mL_addHost mX7_addHost
  refine p7_needOffice (fun hx => p7_needNumber (fun hv => ?_) (fun hv => Or.inr ⟨rfl, ?_⟩)) (fun hx => Or.inl ⟨rfl, ?_⟩)
  · have pre : ∀ (g : Hp) (Q : Int → Hp → Prop), rd g 186 = rd h 186 → (rd h 186 0 = 40 → Q (-2) (hu g 185 0 0)) → (¬ rd h 186 0 = 40 → ¬ hnet (rd h 186) x v = -1 → Q (-3) (hu g 185 0 0)) → (¬ rd h 186 0 = 40 → hnet (rd h 186) x v = -1 → mX8_keeps 186 1096 (hu g 185 0 0) (fun h46 => ∃ ff, mX8_addHost_b70 Q ff x v (rd h 186 0) 0 h46)) → mX8_addHost x v g Q := by
      intro g Q hg q1 q2 q3
      unfold mX8_addHost mX8_isOffice mX8_isNumber
      intro a e
      rw [e]
      have hr : rd (hu g 185 0 0) 186 = rd h 186 := by rw [tR, hg]
      refine p8_inF t0 (by omega) (fun _ => ⟨fun c => absurd rfl c, fun _ => p8_inF t0 (by omega) (fun _ => ⟨fun _ => ?_, fun c => absurd rfl c⟩) (fun c => absurd hv c)⟩) (fun c => absurd hx c)
      rw [hr]
      refine ⟨by omega, fun d => p8_isHeldIn (by rw [hr]; exact o.1) ?_, q1⟩
      rw [hr]
      have en : fs (fun i => onet (rd h 186) i x && hds (rd h 186) i v) 0 (rd h 186 0) = hnet (rd h 186) x v := rfl
      rw [en]
      by_cases c : hnet (rd h 186) x v = -1
      · rw [if_pos c]; exact ⟨fun _ => q3 d c, fun w => absurd rfl w⟩
      · rw [if_neg c]; exact ⟨fun w => absurd w (by decide), fun _ => q2 d c⟩
    rw [n.1.1]
    refine ⟨fun d => p3_holderInNet n o.1 ?_, fun d => ⟨by omega, fun h4 e => ?_⟩⟩
    · have en : fs (fun i => onet (rd h 186) i x && hds (rd h 186) i v) 0 (rd h 186 0) = hnet (rd h 186) x v := rfl
      rw [en]
      refine ⟨fun c => p0_push hi fun g1 cg fg1 => p3_appendHost (L := fun _ => 0) cg.2.1 o.1.1 d rfl fun g2 n2 f2 => ⟨by omega, fun h4 e => ?_⟩, fun c => ⟨by omega, fun h4 e => ?_⟩⟩
      · rw [e]
        have cs : cst h g2 (rd h 186) (apN (rd h 186) (fun _ => 0) x v 0) := cst_n cg n2 (fun p hp => f2 p (by omega))
        have r2 : rd g2 186 = rd h 186 := rd_ne (cs.2.2 186 (by omega))
        have e6 : g2 185 6 = h 185 6 := by rw [cs.2.2 185 (by omega)]
        have okn : okS (apN (rd h 186) (fun _ => 0) x v 0) := apN_okS o d (by omega) hv (Or.inl rfl) ⟨by decide, fun k k1 k2 => ⟨fun w => by omega, fun _ => rfl⟩⟩ (hnet_no c)
        refine pre _ _ (by rw [oR, r2]) (fun q => by omega) (fun _ q => absurd c q) (fun _ _ => p8_push (by rw [wr_q (by omega), e6]; exact hh.2.1) fun a1 m1 ma m0 mo => ?_)
        have ra1 : rd a1 186 = rd h 186 := by rw [rd_ne ma, oR, r2]
        obtain ⟨f, hf⟩ := forU (fun f k => ∀ g : Hp, (∀ p, p ≠ 186 → g p = a1 p) → (∀ q, 0 ≤ q → rd g 186 q = if 16 + 24 * rd h 186 0 ≤ q ∧ q < 16 + 24 * rd h 186 0 + k then 0 else rd h 186 q) → mX8_addHost_b70 (fun b h2 => okA 0 b h2) f x v (rd h 186 0) k g) 0 24 (by omega) (fun f g fg vg => by
            unfold mX8_addHost_b70
            refine ⟨fun _ => p8_put ⟨by omega, by omega⟩ (by omega) fun b1 rb1 fb1 => p8_put ⟨by omega, by omega⟩ (by omega) fun b2 rb2 fb2 => ⟨zri (by omega) (by omega), by omega, fun b3 w3 => ?_⟩, fun w => absurd (by omega) w⟩
            have rb3 : rd b3 186 = up (sf (sf (rd g 186) (rd h 186 0) 0 x) (rd h 186 0) 1 v) 0 (rd h 186 0 + 1) := by rw [w3, rd_wr, rb2, rb1]
            have fb3 : ∀ p, p ≠ 186 → b3 p = a1 p := fun p hp => by rw [w3, wr_q hp, fb2 p hp, fb1 p hp, fg p hp]
            have m3 := mst_w m1 fb3
            rw [oR, r2] at m3
            refine okA_op hi cs okn m3 ?_ (by rw [fb3 185 (by omega)]; exact m0) rfl
            rw [rb3]
            refine ⟨fun k k1 k2 => ?_, fun i i1 i2 j j1 j2 => ?_, fun k k1 k2 j j1 j2 => ?_⟩
            · by_cases c0 : k = 0
              · subst c0; rw [up_same, apN_0]
              · rw [up_ne (by omega) k1 c0, hd_sf (by omega) (by omega) ⟨k1, by omega⟩, hd_sf (by omega) (by omega) ⟨k1, by omega⟩, vg k k1, if_neg (by omega), apN_k (by omega) (by omega)]
            · rw [apN_0] at i2
              rw [fl_up (by omega) i1 j1 (by omega) (by omega) j2, fl_sf (by omega) (by omega) i1 ⟨j1, j2⟩, fl_sf (by omega) (by omega) i1 ⟨j1, j2⟩]
              have ev : fl (rd g 186) i j = if i = rd h 186 0 then 0 else fl (rd h 186) i j := by
                unfold fl
                rw [vg _ (by omega)]
                by_cases c : i = rd h 186 0
                · rw [if_pos (by omega), if_pos c]
                · rw [if_neg (by omega), if_neg c]
              rw [ev]
              by_cases c : i = rd h 186 0
              · rw [c, apN_n (by omega) ⟨j1, j2⟩]
                by_cases j0' : j = 0
                · rw [if_neg (by omega), if_pos ⟨rfl, j0'⟩, if_pos j0']
                · by_cases j1' : j = 1
                  · rw [if_pos ⟨rfl, j1'⟩, if_neg j0', if_pos j1']
                  · rw [if_neg (fun w => j1' w.2), if_neg (fun w => j0' w.2), if_pos rfl, if_neg j0', if_neg j1']
                    split
                    · rfl
                    · split <;> rfl
              · rw [if_neg (fun w => c w.1), if_neg (fun w => c w.1), if_neg c, apN_f ⟨i1, by omega⟩ ⟨j1, j2⟩ c]
            · rw [apN_k (by omega) (by omega)] at k2
              rw [rl_up (by omega) k1 j1 (by omega), rl_sf (by omega) (by omega) k1 j1, rl_sf (by omega) (by omega) k1 j1, apN_r k1 ⟨j1, j2⟩]
              unfold rl
              rw [vg _ (by omega), if_neg (by omega)]) (fun f k k1 k2 ih g fg vg => by
            unfold mX8_addHost_b70
            refine ⟨fun w => by omega, fun _ => p8_cell ⟨by omega, by omega⟩ (by omega) ⟨⟨by omega, by omega⟩, fun b1 w1 => ⟨zri (by omega) (by omega), ih b1 (fun p hp => by rw [w1, wr_q hp, fg p hp]) (fun q q0 => ?_)⟩⟩⟩
            rw [w1, rw_if (by omega) q0, vg q q0]
            by_cases c : q = (16 + 24 * rd h 186 0) + k
            · rw [if_pos ⟨rfl, c⟩, if_pos (by omega)]
            · rw [if_neg (fun w => c w.2)]
              by_cases d2 : 16 + 24 * rd h 186 0 ≤ q ∧ q < 16 + 24 * rd h 186 0 + k
              · rw [if_pos d2, if_pos (by omega)]
              · rw [if_neg d2, if_neg (by omega)])
        exact ⟨f, hf a1 (fun _ _ => rfl) (fun q q0 => by rw [if_neg (by omega), ra1])⟩
      · rw [e]
        exact pre _ _ oR (fun q => by omega) (fun _ _ => okA_v hi rfl) (fun _ q => absurd q c)
    · rw [e]
      exact pre _ _ oR (fun _ => okA_v hi rfl) (fun q => by omega) (fun q => by omega)
  · unfold mX8_addHost mX8_isOffice mX8_isNumber
    intro a e
    rw [e]
    exact p8_inF t0 (by omega) (fun _ => ⟨fun c => absurd rfl c, fun _ => p8_inF t0 (by omega) (fun c => absurd c hv) (fun _ => ⟨fun c => absurd c (by decide), fun _ => okA_x hi (by omega)⟩)⟩) (fun c => absurd hx c)
  · unfold mX8_addHost mX8_isOffice
    intro a e
    rw [e]
    exact p8_inF t0 (by omega) (fun c => absurd c hx) (fun _ => ⟨fun _ => okA_x hi (by omega), fun c => absurd c (by decide)⟩)
theorem drH_okS {r : Rw} {x : Int} (ho : okS r) (hx : 0 ≤ x ∧ x < r 0) : okS (drH r x) := by
  obtain ⟨⟨a1, a2, a3, a4, a5, a6⟩, ht, hP⟩ := ho
  unfold okR at a1
  have k0 : drH r x 0 = r 0 - 1 := by unfold drH; rw [mk_h (by omega), if_pos rfl]
  have kk : ∀ k, 0 < k → k < 16 → drH r x k = r k := fun k k1 k2 => by unfold drH; rw [mk_h k2, if_neg (by omega)]
  have fe : ∀ i, 0 ≤ i → i < r 0 - 1 → ∀ j, 0 ≤ j → j < 24 → fl (drH r x) i j = fl r (if x ≤ i then i + 1 else i) j := fun i i1 i2 j j1 j2 => by
    unfold drH
    rw [mk_f ⟨i1, by omega⟩ ⟨j1, j2⟩]
    by_cases c : x ≤ i
    · rw [if_pos c, if_pos c]
    · rw [if_neg c, if_neg c]
  have fr : ∀ i, 0 ≤ i → i < r 0 - 1 → 0 ≤ (if x ≤ i then i + 1 else i) ∧ (if x ≤ i then i + 1 else i) < r 0 := fun i i1 i2 => by split <;> omega
  refine ⟨⟨?_, ?_, ?_, ?_, fun i i1 i2 => ?_, fun k k1 k2 => ?_⟩, ?_, fun i i1 i2 h4 => ?_⟩
  · unfold okR
    rw [k0, kk 1 (by omega) (by omega), kk 2 (by omega) (by omega), kk 3 (by omega) (by omega)]
    omega
  · rw [kk 4 (by omega) (by omega)]; exact a2
  · rw [kk 5 (by omega) (by omega), kk 6 (by omega) (by omega)]; exact a3
  · rw [kk 7 (by omega) (by omega)]; exact a4
  · rw [k0] at i2
    exact okH_ext (a5 _ (fr i i1 i2).1 (fr i i1 i2).2) (kk 2 (by omega) (by omega)) (fe i i1 i2)
  · rw [kk 1 (by omega) (by omega)] at k2
    exact okU_ext (a6 k k1 k2) (fun j j1 j2 => mk_r k1 ⟨j1, j2⟩)
  · refine twice_map (fun i => if x ≤ i then i + 1 else i) (fun i i1 i2 => fr i i1 (by omega)) (fun i j j1 j2 i2 => ?_) (fun i v i1 i2 q => ?_) (fun i j i1 i2 j1 j2 q => ?_) ht
    · show (if x ≤ j then j + 1 else j) < (if x ≤ i then i + 1 else i)
      split <;> split <;> omega
    · rw [hds_ext (r := r) (kk 3 (by omega) (by omega)) (kk 2 (by omega) (by omega)) (fe i i1 (by omega))] at q
      exact q
    · unfold net at q ⊢
      rw [kk 7 (by omega) (by omega), fe i i1 (by omega) 0 (by omega) (by omega), fe j j1 (by omega) 0 (by omega) (by omega)] at q
      exact q
  · rw [k0] at i2
    rw [fe i i1 i2 4 (by omega) (by omega)] at h4
    rw [fe i i1 i2 3 (by omega) (by omega)]
    exact hP _ (fr i i1 i2).1 (fr i i1 i2).2 h4
theorem c_removeHost {x : Int} {h : Hp} (hi : inv h) : mL_removeHost x h (fun k h1 => mX8_removeHost x h1 (fun b h2 => okA k b h2)) := by
  obtain ⟨⟨n, o⟩, -, ⟨hh, -⟩, -⟩ := id hi
  have o1 := o.1.1
  unfold okR at o1
  unfold mL_removeHost mX7_removeHost
  refine p7_needHost n.1.1 (fun hx => p0_push hi fun g1 cg fg1 => p3_dropHost cg.2.1 o.1.1 hx fun g2 n2 f2 => ⟨by omega, fun h6 e => ?_⟩) (fun hx => ⟨rfl, ?_⟩)
  · have k0 : drH (rd h 186) x 0 = rd h 186 0 - 1 := by unfold drH; rw [mk_h (by omega), if_pos rfl]
    rw [e, n2.1.1, k0]
    have cs : cst h g2 (rd h 186) (drH (rd h 186) x) := cst_n cg n2 (fun p hp => f2 p (by omega))
    have r2 : rd g2 186 = rd h 186 := rd_ne (cs.2.2 186 (by omega))
    have e6 : g2 185 6 = h 185 6 := by rw [cs.2.2 185 (by omega)]
    unfold mX8_removeHost
    intro a ea
    rw [ea]
    have hr : ∀ z, rd (hu (wr g2 197 0 z) 185 0 0) 186 = rd h 186 := fun z => by rw [tR, oR, r2]
    refine p8_hostF (by rw [hr]; exact o.1.1) t0 (by omega) (fun _ => ⟨fun _ => p8_push (by rw [wr_q (by omega), e6]; exact hh.2.1) fun a1 m1 ma m0 mo => ?_, fun c => absurd rfl c⟩) (fun c => absurd (by rw [hr]; exact hx) c)
    have ra1 : rd a1 186 = rd h 186 := by rw [rd_ne ma, oR, r2]
    rw [ra1]
    refine ⟨by omega, zri (by omega) (by omega), by omega, fun a2 w2 => p8_cell ⟨hx.1, by omega⟩ (by omega) ?_⟩
    have ra2 : ∀ q, 0 ≤ q → rd a2 186 q = if q = 0 then rd h 186 0 - 1 else rd h 186 q := fun q q0 => by
      rw [w2, rw_if (by omega) q0, ra1]
      by_cases c : q = 0
      · rw [if_pos ⟨rfl, c⟩, if_pos c]
      · rw [if_neg (fun w => c w.2), if_neg c]
    have fa2 : ∀ p, p ≠ 186 → a2 p = a1 p := fun p hp => by rw [w2, wr_q hp]
    obtain ⟨f, hf⟩ := forU (fun f k => ∀ g : Hp, (∀ p, p ≠ 186 → g p = a1 p) → (∀ q, 0 ≤ q → rd g 186 q = if (16 + (24 * x)) + 0 ≤ q ∧ q < k then rd a2 186 (q + 24) else rd a2 186 q) → mX8_removeHost_b44 (fun b h2 => okA 0 b h2) f k g) ((16 + (24 * x)) + 0) ((16 + (24 * (rd h 186 0 - 1))) + 0) (by omega) (fun f g fg vg => by
        unfold mX8_removeHost_b44
        have g0 : rd g 186 0 = rd h 186 0 - 1 := by rw [vg 0 (by omega), if_neg (by omega), ra2 0 (by omega), if_pos rfl]
        rw [g0]
        refine ⟨by omega, p8_cell ⟨by omega, by omega⟩ (by omega) ⟨fun _ => ⟨by omega, ?_⟩, fun w => absurd (Int.le_refl _) w⟩⟩
        have m3 := mst_w m1 fg
        rw [oR, r2] at m3
        refine okA_op hi cs (drH_okS o hx) m3 ⟨fun k k1 k2 => ?_, fun i i1 i2 j j1 j2 => ?_, fun k k1 k2 j j1 j2 => ?_⟩ (by rw [fg 185 (by omega)]; exact m0) rfl
        · by_cases c : k = 0
          · subst c; rw [g0, k0]
          · rw [vg k k1, if_neg (by omega), ra2 k k1, if_neg c]
            unfold drH
            rw [mk_h (by omega), if_neg c]
        · rw [k0] at i2
          unfold drH
          rw [mk_f ⟨i1, by omega⟩ ⟨j1, j2⟩]
          unfold fl
          rw [vg _ (by omega)]
          by_cases c : x ≤ i
          · rw [if_pos (by omega), if_pos c, ra2 _ (by omega), if_neg (by omega), show (16 + 24 * i + j + 24) = (16 + 24 * (i + 1) + j) by omega]
          · rw [if_neg (by omega), if_neg c, ra2 _ (by omega), if_neg (by omega)]
        · unfold drH at k2 ⊢
          rw [mk_h (by omega), if_neg (by omega)] at k2
          rw [mk_r k1 ⟨j1, j2⟩]
          unfold rl
          rw [vg _ (by omega), if_neg (by omega), ra2 _ (by omega), if_neg (by omega)]) (fun f k k1 k2 ih g fg vg => by
        unfold mX8_removeHost_b44
        have g0 : rd g 186 0 = rd h 186 0 - 1 := by rw [vg 0 (by omega), if_neg (by omega), ra2 0 (by omega), if_pos rfl]
        rw [g0]
        refine ⟨by omega, p8_cell ⟨by omega, by omega⟩ (by omega) ⟨fun w => by omega, fun _ => ⟨zri (by omega) (by omega), ⟨by omega, by omega⟩, ⟨by omega, by omega⟩, fun b1 w1 => ⟨zri (by omega) (by omega), ih b1 (fun p hp => by rw [w1, wr_q hp, fg p hp]) (fun q q0 => ?_)⟩⟩⟩⟩
        rw [w1, rw_if (by omega) q0, vg q q0, vg (k + 24) (by omega), if_neg (show ¬ ((16 + (24 * x)) + 0 ≤ k + 24 ∧ k + 24 < k) by omega)]
        by_cases c : q = k
        · rw [if_pos ⟨rfl, c⟩, if_pos (by omega), c]
        · rw [if_neg (fun w => c w.2)]
          by_cases d2 : (16 + (24 * x)) + 0 ≤ q ∧ q < k
          · rw [if_pos d2, if_pos (by omega)]
          · rw [if_neg d2, if_neg (by omega)])
    exact ⟨f, hf a2 fa2 (fun q q0 => by rw [if_neg (by omega)])⟩
  · unfold mX8_removeHost
    intro a e
    rw [e]
    exact p8_hostF (by rw [tR]; exact o.1.1) t0 (by omega) (fun c => absurd (by rw [tR] at c; exact c) hx) (fun _ => ⟨fun c => absurd c (by decide), fun _ => okA_x hi (by omega)⟩)
theorem rules_okS {r s : Rw} (ho : okS r) (h : ∀ k, 0 ≤ k → k < 16 → k ≠ 1 → s k = r k) (h1 : 0 ≤ s 1 ∧ s 1 ≤ 30) (hf : ∀ i, 0 ≤ i → i < r 0 → ∀ j, 0 ≤ j → j < 24 → fl s i j = fl r i j) (hu : ∀ k, 0 ≤ k → k < s 1 → okU s k) : okS s := by
  obtain ⟨⟨a1, a2, a3, a4, a5, a6⟩, ht, hP⟩ := ho
  unfold okR at a1
  have e0 := h 0 (by omega) (by omega) (by omega)
  have e2 := h 2 (by omega) (by omega) (by omega)
  have e3 := h 3 (by omega) (by omega) (by omega)
  have e4 := h 4 (by omega) (by omega) (by omega)
  have e5 := h 5 (by omega) (by omega) (by omega)
  have e6 := h 6 (by omega) (by omega) (by omega)
  have e7 := h 7 (by omega) (by omega) (by omega)
  refine ⟨⟨by unfold okR; omega, by omega, by omega, by omega, fun i i1 i2 => okH_ext (a5 i i1 (by omega)) e2 (hf i i1 (by omega)), hu⟩, twice_map (fun i => i) (fun i i1 i2 => ⟨i1, by omega⟩) (fun i j _ q _ => q) (fun i v i1 i2 q => ?_) (fun i j i1 i2 j1 j2 q => ?_) ht, fun i i1 i2 h4 => ?_⟩
  · rw [hds_ext (r := r) e3 e2 (hf i i1 (by omega))] at q
    exact q
  · unfold net at q ⊢
    rw [e7, hf i i1 (by omega) 0 (by omega) (by omega), hf j j1 (by omega) 0 (by omega) (by omega)] at q
    exact q
  · rw [hf i i1 (by omega) 4 (by omega) (by omega)] at h4
    rw [hf i i1 (by omega) 3 (by omega) (by omega)]
    exact hP i i1 (by omega) h4
theorem apU_okS {r : Rw} {w a b c : Int} (ho : okS r) (h30 : r 1 < 30) (hw : w = 0 ∨ w = 1) (ha : a = 0 ∨ a = 1) (hb : 0 ≤ b ∧ b ≤ 250) (hc : 0 ≤ c ∧ c ≤ 250) : okS (apU r w a b c) := by
  have o1 := ho.1.1
  unfold okR at o1
  refine rules_okS ho (fun k k1 k2 k3 => apU_k k3 k2) (by rw [apU_1]; omega) (fun i i1 i2 j j1 j2 => apU_f ⟨i1, by omega⟩ ⟨j1, j2⟩) (fun k k1 k2 => ?_)
  rw [apU_1] at k2
  by_cases e : k = r 1
  · subst e
    unfold okU
    rw [apU_n k1 (by omega), apU_n k1 (by omega), apU_n k1 (by omega), apU_n k1 (by omega)]
    exact ⟨hw, ha, hb, hc⟩
  · exact okU_ext (ho.1.2.2.2.2.2 k k1 (by omega)) (fun j j1 j2 => apU_r k1 ⟨j1, j2⟩ e)
theorem drU_okS {r : Rw} {x : Int} (ho : okS r) (hx : 0 ≤ x ∧ x < r 1) : okS (drU r x) := by
  have o1 := ho.1.1
  unfold okR at o1
  have k1' : drU r x 1 = r 1 - 1 := by unfold drU; rw [mk_h (by omega), if_pos rfl]
  refine rules_okS ho (fun k k1 k2 k3 => by unfold drU; rw [mk_h k2, if_neg k3]) (by rw [k1']; omega) (fun i i1 i2 j j1 j2 => mk_f ⟨i1, by omega⟩ ⟨j1, j2⟩) (fun k k1 k2 => ?_)
  rw [k1'] at k2
  by_cases c : x ≤ k
  · exact okU_ext (ho.1.2.2.2.2.2 (k + 1) (by omega) (by omega)) (fun j j1 j2 => by unfold drU; rw [mk_r k1 ⟨j1, j2⟩, if_pos c])
  · exact okU_ext (ho.1.2.2.2.2.2 k k1 (by omega)) (fun j j1 j2 => by unfold drU; rw [mk_r k1 ⟨j1, j2⟩, if_neg c])
theorem c_addRule {x y a b : Int} {h : Hp} (hi : inv h) : mL_addRule x y a b h (fun k h1 => mX8_addRule x y a b h1 (fun z h2 => okA k z h2)) := by
  obtain ⟨⟨n, o⟩, -, ⟨hh, -⟩, -⟩ := id hi
  have o1 := o.1.1
  unfold okR at o1
  have bad : (0 ≤ x ∧ x ≤ 1) → ¬ ((0 ≤ a ∧ a ≤ 250) ∧ 0 ≤ b ∧ b ≤ 250) → mX8_addRule x y a b h (fun b h2 => okA 2 b h2) := by
    intro hx hab
    unfold mX8_addRule mX8_isOffice mX8_isSide mX8_addRule_b37
    intro g eg
    rw [eg]
    have go : mX8_addRule_b38 (fun b h2 => okA 2 b h2) x y a b 0 (hu h 185 0 0) := by
      unfold mX8_addRule_b38
      exact p8_fails t0 (by omega) (fun c => absurd rfl c) (fun _ => ⟨fun c => absurd c (by decide), fun _ => okA_x hi (by omega)⟩)
    refine p8_inF t0 (by omega) (fun _ => ⟨fun c => absurd rfl c, fun _ => p8_in ⟨fun _ => go, fun e => p8_in ⟨fun _ => go, fun e2 => ?_⟩⟩⟩) (fun c => absurd hx c)
    exact absurd ⟨of_decide_eq_true (b2i1.mp e), of_decide_eq_true (b2i1.mp e2)⟩ hab
  unfold mL_addRule mX7_addRule
  refine p7_needOffice (fun hx => p7_needSide (fun ha => p7_needSide (fun hb => ?_) (fun hb => Or.inr ⟨rfl, bad hx (fun q => hb q.2)⟩)) (fun ha => Or.inr ⟨rfl, bad hx (fun q => ha q.1)⟩)) (fun hx => Or.inl ⟨rfl, ?_⟩)
  · have pre : ∀ (g : Hp) (Q : Int → Hp → Prop), rd g 186 = rd h 186 → (rd h 186 1 = 30 → Q (-2) (hu g 185 0 0)) → (¬ rd h 186 1 = 30 → mX8_keeps 186 1096 (hu g 185 0 0) (fun h39 => (mX8_ruleCell (rd h 186 1) 0 h39 (fun z40 => ((0 : Int) ≤ z40 ∧ z40 < 1096) ∧ (∀ h41 : Hp, h41 = wr h39 186 z40 x → (mX8_ruleCell (rd h 186 1) 1 h41 (fun z42 => ((y = 0 → (mX8_addRule_b104 Q a b (rd h 186 1) 0 z42 h41)) ∧ (¬ y = 0 → (mX8_addRule_b104 Q a b (rd h 186 1) 1 z42 h41)))))))))) → mX8_addRule x y a b g Q := by
      intro g Q hg q1 q2
      unfold mX8_addRule mX8_isOffice mX8_isSide
      intro s e
      rw [e]
      have hr : rd (hu g 185 0 0) 186 = rd h 186 := by rw [tR, hg]
      refine p8_inF t0 (by omega) (fun _ => ⟨fun c => absurd rfl c, fun _ => p8_in ?_⟩) (fun c => absurd hx c)
      rw [decide_eq_true ha]
      refine ⟨fun c => absurd c (by decide), fun _ => p8_in ?_⟩
      rw [decide_eq_true hb]
      refine ⟨fun c => absurd c (by decide), fun _ => ?_⟩
      unfold mX8_addRule_b38
      refine p8_fails t0 (by omega) (fun _ => ⟨fun _ => ?_, fun c => absurd rfl c⟩) (fun c => absurd c (by decide))
      rw [hr]
      exact ⟨by omega, q2, q1⟩
    rw [n.1.2.1]
    refine ⟨fun d => p0_push hi fun g1 cg fg1 => p3_appendRule cg.2.1 o.1.1 d fun g2 n2 f2 => ⟨by omega, fun h4 e => ?_⟩, fun d => ⟨by omega, fun h4 e => ?_⟩⟩
    · rw [e]
      have cs : cst h g2 (rd h 186) (apU (rd h 186) x (if y = 0 then 0 else 1) a b) := cst_n cg n2 (fun p hp => f2 p (by omega))
      have r2 : rd g2 186 = rd h 186 := rd_ne (cs.2.2 186 (by omega))
      have e6 : g2 185 6 = h 185 6 := by rw [cs.2.2 185 (by omega)]
      have okn : okS (apU (rd h 186) x (if y = 0 then 0 else 1) a b) := apU_okS o d (by omega) (by split <;> omega) ha hb
      refine pre _ _ (by rw [oR, r2]) (fun q => by omega) (fun _ => p8_push (by rw [wr_q (by omega), e6]; exact hh.2.1) fun a1 m1 ma m0 mo => p8_putU ⟨by omega, by omega⟩ (by omega) fun a2 ra2 fa2 => ?_)
      have ra1 : rd a1 186 = rd h 186 := by rw [rd_ne ma, oR, r2]
      have body : ∀ c : Int, c = (if y = 0 then 0 else 1) → mX8_addRule_b104 (fun b h2 => okA 0 b h2) a b (rd h 186 1) c ((976 + (4 * rd h 186 1)) + 1) a2 := by
        intro c hc
        unfold mX8_addRule_b104
        refine ⟨⟨by omega, by omega⟩, fun a3 w3 => p8_putU ⟨by omega, by omega⟩ (by omega) fun a4 ra4 fa4 => p8_putU ⟨by omega, by omega⟩ (by omega) fun a5 ra5 fa5 => ⟨zri (by omega) (by omega), by omega, fun a6 w6 => ?_⟩⟩
        have ra3 : rd a3 186 = sr (sr (rd h 186) (rd h 186 1) 0 x) (rd h 186 1) 1 c := by rw [w3, rd_wr, ra2, ra1]; rfl
        have ra6 : rd a6 186 = up (sr (sr (sr (sr (rd h 186) (rd h 186 1) 0 x) (rd h 186 1) 1 c) (rd h 186 1) 2 a) (rd h 186 1) 3 b) 1 (rd h 186 1 + 1) := by rw [w6, rd_wr, ra5, ra4, ra3]
        have fa6 : ∀ p, p ≠ 186 → a6 p = a1 p := fun p hp => by rw [w6, wr_q hp, fa5 p hp, fa4 p hp, w3, wr_q hp, fa2 p hp]
        have m3 := mst_w m1 fa6
        rw [oR, r2] at m3
        refine okA_op hi cs okn m3 ?_ (by rw [fa6 185 (by omega)]; exact m0) rfl
        rw [ra6, ← hc]
        have h10 : 0 ≤ rd h 186 1 := by omega
        refine ⟨fun k k1 k2 => ?_, fun i i1 i2 j j1 j2 => ?_, fun k k1 k2 j j1 j2 => ?_⟩
        · by_cases c0 : k = 1
          · subst c0; rw [up_same, apU_1]
          · rw [up_ne (by omega) k1 c0, hd_sr h10 (by omega) ⟨k1, by omega⟩, hd_sr h10 (by omega) ⟨k1, by omega⟩, hd_sr h10 (by omega) ⟨k1, by omega⟩, hd_sr h10 (by omega) ⟨k1, by omega⟩, apU_k c0 (by omega)]
        · rw [apU_k (by omega) (by omega)] at i2
          rw [fl_up (by omega) i1 j1 (by omega) (by omega) j2, fl_sr h10 (by omega) ⟨i1, by omega⟩ ⟨j1, j2⟩, fl_sr h10 (by omega) ⟨i1, by omega⟩ ⟨j1, j2⟩, fl_sr h10 (by omega) ⟨i1, by omega⟩ ⟨j1, j2⟩, fl_sr h10 (by omega) ⟨i1, by omega⟩ ⟨j1, j2⟩, apU_f ⟨i1, by omega⟩ ⟨j1, j2⟩]
        · rw [apU_1] at k2
          rw [rl_up (by omega) k1 j1 (by omega), rl_sr h10 (by omega) k1 ⟨j1, j2⟩, rl_sr h10 (by omega) k1 ⟨j1, j2⟩, rl_sr h10 (by omega) k1 ⟨j1, j2⟩, rl_sr h10 (by omega) k1 ⟨j1, j2⟩]
          by_cases e : k = rd h 186 1
          · rw [e, apU_n h10 ⟨j1, j2⟩]
            have hj : j = 0 ∨ j = 1 ∨ j = 2 ∨ j = 3 := by omega
            rcases hj with e | e | e | e <;> subst e <;> simp
          · rw [if_neg (fun w => e w.1), if_neg (fun w => e w.1), if_neg (fun w => e w.1), if_neg (fun w => e w.1), apU_r k1 ⟨j1, j2⟩ e]
      exact p8_ruleCell ⟨by omega, by omega⟩ (by omega) ⟨fun c => body 0 (by rw [if_pos c]), fun c => body 1 (by rw [if_neg c])⟩
    · rw [e]
      exact pre _ _ oR (fun _ => okA_v hi rfl) (fun q => by omega)
  · unfold mX8_addRule mX8_isOffice
    intro a e
    rw [e]
    exact p8_inF t0 (by omega) (fun c => absurd c hx) (fun _ => ⟨fun _ => okA_x hi (by omega), fun c => absurd c (by decide)⟩)
theorem c_removeRule {x : Int} {h : Hp} (hi : inv h) : mL_removeRule x h (fun k h1 => mX8_removeRule x h1 (fun b h2 => okA k b h2)) := by
  obtain ⟨⟨n, o⟩, -, ⟨hh, -⟩, -⟩ := id hi
  have o1 := o.1.1
  unfold okR at o1
  unfold mL_removeRule mX7_removeRule
  refine p7_needRule n.1.2.1 (fun hx => p0_push hi fun g1 cg fg1 => p3_dropRule cg.2.1 o.1.1 hx fun g2 n2 f2 => ⟨by omega, fun h6 e => ?_⟩) (fun hx => ⟨rfl, ?_⟩)
  · have k0 : drU (rd h 186) x 1 = rd h 186 1 - 1 := by unfold drU; rw [mk_h (by omega), if_pos rfl]
    rw [e, n2.1.2.1, k0]
    have cs : cst h g2 (rd h 186) (drU (rd h 186) x) := cst_n cg n2 (fun p hp => f2 p (by omega))
    have r2 : rd g2 186 = rd h 186 := rd_ne (cs.2.2 186 (by omega))
    have e6 : g2 185 6 = h 185 6 := by rw [cs.2.2 185 (by omega)]
    unfold mX8_removeRule
    intro a ea
    rw [ea]
    have hr : ∀ z, rd (hu (wr g2 197 0 z) 185 0 0) 186 = rd h 186 := fun z => by rw [tR, oR, r2]
    refine p8_ruleF (by rw [hr]; exact o.1.1) t0 (by omega) (fun _ => ⟨fun _ => p8_push (by rw [wr_q (by omega), e6]; exact hh.2.1) fun a1 m1 ma m0 mo => ?_, fun c => absurd rfl c⟩) (fun c => absurd (by rw [hr]; exact hx) c)
    have ra1 : rd a1 186 = rd h 186 := by rw [rd_ne ma, oR, r2]
    rw [ra1]
    refine ⟨by omega, zri (by omega) (by omega), by omega, fun a2 w2 => p8_ruleCell ⟨hx.1, by omega⟩ (by omega) ?_⟩
    have ra2 : ∀ q, 0 ≤ q → rd a2 186 q = if q = 1 then rd h 186 1 - 1 else rd h 186 q := fun q q0 => by
      rw [w2, rw_if (by omega) q0, ra1]
      by_cases c : q = 1
      · rw [if_pos ⟨rfl, c⟩, if_pos c]
      · rw [if_neg (fun w => c w.2), if_neg c]
    have fa2 : ∀ p, p ≠ 186 → a2 p = a1 p := fun p hp => by rw [w2, wr_q hp]
    obtain ⟨f, hf⟩ := forU (fun f k => ∀ g : Hp, (∀ p, p ≠ 186 → g p = a1 p) → (∀ q, 0 ≤ q → rd g 186 q = if (976 + (4 * x)) + 0 ≤ q ∧ q < k then rd a2 186 (q + 4) else rd a2 186 q) → mX8_removeRule_b44 (fun b h2 => okA 0 b h2) f k g) ((976 + (4 * x)) + 0) ((976 + (4 * (rd h 186 1 - 1))) + 0) (by omega) (fun f g fg vg => by
        unfold mX8_removeRule_b44
        have g0 : rd g 186 1 = rd h 186 1 - 1 := by rw [vg 1 (by omega), if_neg (by omega), ra2 1 (by omega), if_pos rfl]
        rw [g0]
        refine ⟨by omega, p8_ruleCell ⟨by omega, by omega⟩ (by omega) ⟨fun _ => ⟨by omega, ?_⟩, fun w => absurd (Int.le_refl _) w⟩⟩
        have m3 := mst_w m1 fg
        rw [oR, r2] at m3
        refine okA_op hi cs (drU_okS o hx) m3 ⟨fun k k1 k2 => ?_, fun i i1 i2 j j1 j2 => ?_, fun k k1 k2 j j1 j2 => ?_⟩ (by rw [fg 185 (by omega)]; exact m0) rfl
        · by_cases c : k = 1
          · subst c; rw [g0, k0]
          · rw [vg k k1, if_neg (by omega), ra2 k k1, if_neg c]
            unfold drU
            rw [mk_h (by omega), if_neg c]
        · unfold drU at i2 ⊢
          rw [mk_h (by omega), if_neg (by omega)] at i2
          rw [mk_f ⟨i1, by omega⟩ ⟨j1, j2⟩]
          unfold fl
          rw [vg _ (by omega), if_neg (by omega), ra2 _ (by omega), if_neg (by omega)]
        · rw [k0] at k2
          unfold drU
          rw [mk_r k1 ⟨j1, j2⟩]
          unfold rl
          rw [vg _ (by omega)]
          by_cases c : x ≤ k
          · rw [if_pos (by omega), if_pos c, ra2 _ (by omega), if_neg (by omega), show (976 + 4 * k + j + 4) = (976 + 4 * (k + 1) + j) by omega]
          · rw [if_neg (by omega), if_neg c, ra2 _ (by omega), if_neg (by omega)]) (fun f k k1 k2 ih g fg vg => by
        unfold mX8_removeRule_b44
        have g0 : rd g 186 1 = rd h 186 1 - 1 := by rw [vg 1 (by omega), if_neg (by omega), ra2 1 (by omega), if_pos rfl]
        rw [g0]
        refine ⟨by omega, p8_ruleCell ⟨by omega, by omega⟩ (by omega) ⟨fun w => by omega, fun _ => ⟨zri (by omega) (by omega), ⟨by omega, by omega⟩, ⟨by omega, by omega⟩, fun b1 w1 => ⟨zri (by omega) (by omega), ih b1 (fun p hp => by rw [w1, wr_q hp, fg p hp]) (fun q q0 => ?_)⟩⟩⟩⟩
        rw [w1, rw_if (by omega) q0, vg q q0, vg (k + 4) (by omega), if_neg (show ¬ ((976 + (4 * x)) + 0 ≤ k + 4 ∧ k + 4 < k) by omega)]
        by_cases c : q = k
        · rw [if_pos ⟨rfl, c⟩, if_pos (by omega), c]
        · rw [if_neg (fun w => c w.2)]
          by_cases d2 : (976 + (4 * x)) + 0 ≤ q ∧ q < k
          · rw [if_pos d2, if_pos (by omega)]
          · rw [if_neg d2, if_neg (by omega)])
    exact ⟨f, hf a2 fa2 (fun q q0 => by rw [if_neg (by omega)])⟩
  · unfold mX8_removeRule
    intro a e
    rw [e]
    exact p8_ruleF (by rw [tR]; exact o.1.1) t0 (by omega) (fun c => absurd (by rw [tR] at c; exact c) hx) (fun _ => ⟨fun c => absurd c (by decide), fun _ => okA_x hi (by omega)⟩)
