/-! loading -/
def inR (R : PR) : Prop := 0 ≤ R.1 ∧ R.1 ≤ 4
theorem in_mk {e s : Int} {r : Rw} (h : 0 ≤ e ∧ e ≤ 4) : inR (e, s, r) := h
theorem in_semi {b : Int → Int} {n s : Int} {k : Int → PR} (h : ∀ s, inR (k s)) : inR (ldSemi b n s k) := by
  unfold ldSemi
  split
  · exact h _
  · exact in_mk (by decide)
theorem in_num {b : Int → Int} {n s lo hi : Int} {k : Int → Int → PR} (h : ∀ v s, inR (k v s)) : inR (ldNum b n lo hi s k) := by
  unfold ldNum
  split
  · exact h _ _
  · have := nbE_r (b := b) (n := n) (s := s) (lo := lo) (hi := hi)
    exact in_mk (by omega)
theorem in_keep {b : Int → Int} {n s : Int} {r : Rw} {k : Int → Rw → PR} (h : ∀ s r, inR (k s r)) : inR (ldKeep b n s r k) := by
  unfold ldKeep
  split
  · exact in_num fun v s => h _ _
  · exact h _ _
theorem in_per {b : Int → Int} {n s : Int} {r : Rw} {k : Int → Rw → PR} (h : ∀ s r, inR (k s r)) : inR (ldPer b n s r k) := by
  unfold ldPer
  split
  · exact in_num fun v s => h _ _
  · exact h _ _
theorem in_pool {b : Int → Int} {n s : Int} {r : Rw} {k : Int → Rw → PR} (h : ∀ s r, inR (k s r)) : inR (ldPool b n s r k) := by
  unfold ldPool
  split
  · exact in_num fun v s => in_num fun w t => h _ _
  · exact h _ _
theorem in_host {b : Int → Int} {n s : Int} {r : Rw} {k : Int → Rw → PR} (h : ∀ s r, inR (k s r)) : inR (ldHost b n s r k) := by
  unfold ldHost
  split
  · split
    · split
      · split
        · refine in_num fun v s => ?_
          unfold ldH3
          split
          · split
            · split
              · exact h _ _
              · exact h _ _
            · exact in_mk (by decide)
          · rename_i q
            have := nbE_r (b := b) (n := n) (s := s) (lo := 1) (hi := 250)
            exact in_mk (by omega)
        · exact in_mk (by decide)
      · exact in_mk (by decide)
    · exact in_mk (by decide)
  · exact in_mk (by decide)
theorem in_side {b : Int → Int} {n s : Int} {k : Int → Int → PR} (h : ∀ v s, inR (k v s)) : inR (ldSide b n s k) := by
  unfold ldSide
  split
  · exact h _ _
  · exact in_num h
theorem in_rule {b : Int → Int} {n s : Int} {r : Rw} {k : Int → Rw → PR} (h : ∀ s r, inR (k s r)) : inR (ldRule b n s r k) := by
  unfold ldRule
  split
  · refine in_num fun v s => ?_
    split
    · unfold ldR2
      exact in_side fun v s => in_side fun w t => h _ _
    · split
      · unfold ldR2
        exact in_side fun v s => in_side fun w t => h _ _
      · exact in_mk (by decide)
  · exact in_mk (by decide)
theorem in_move {b : Int → Int} {n s : Int} {r : Rw} {k : Int → Rw → PR} (h : ∀ s r, inR (k s r)) : inR (ldMove b n s r k) := by
  unfold ldMove
  split
  · split
    · exact in_mk (by decide)
    · split
      · exact in_mk (by decide)
      · split
        · refine in_num fun v s => ?_
          unfold ldM3
          split
          · split
            · exact h _ _
            · exact in_mk (by decide)
          · have := nbE_r (b := b) (n := n) (s := s) (lo := 1) (hi := 9)
            exact in_mk (by omega)
        · exact in_mk (by decide)
  · exact in_mk (by decide)
theorem in_cl {b : Int → Int} {n : Int} : ∀ (f : Nat) (s : Int) (r : Rw), inR (ldCl b n f s r) := by
  intro f
  induction f with
  | zero => intro s r; exact in_mk (by decide)
  | succ f ih =>
    intro s r
    rw [ldCl_s]
    split
    · exact in_mk (by decide)
    · split
      · exact in_host fun s r => in_semi fun s => ih _ _
      · split
        · exact in_rule fun s r => in_semi fun s => ih _ _
        · split
          · exact in_move fun s r => in_semi fun s => ih _ _
          · exact in_mk (by decide)
theorem LD_in {b : Int → Int} {n : Int} : inR (LD b n) := by
  unfold LD
  split
  · exact in_keep fun s r => in_per fun s r => in_pool fun s r => in_semi fun s => in_cl _ _ _
  · exact in_mk (by decide)
theorem p6_begin {x : Int} {h : Hp} {Q : Hp → Prop} {b : Int → Int} (he : eT b x) (hb : byC h b x) (hQ : ∀ h', tkC h' b x (ws b x 0) → h' 176 1 = 0 → (∀ p, p ≠ 176 → h' p = h p) → Q h') : mX6_begin x h Q := by
  have h9 := he.1
  unfold mX6_begin
  intro a ea c ec d ed
  have dp : ∀ p, p ≠ 176 → d p = h p := fun p hp => by rw [ed, hu_q hp, ec, hu_q hp, ea, hu_q hp]
  refine p6_adv he ?_ ?_ (by rw [ed]; exact hu_same) (Int.le_refl 0) h9.1 fun g tg g1 gf => hQ g tg ?_ (fun p hp => by rw [gf p hp, dp p hp])
  · rw [ed, hu_ne (by omega), ec, hu_ne (by omega), ea, hu_same]
    omega
  · intro i i1 i2
    rw [rd_same (dp 177 (by omega))]
    exact hb i i1 i2
  · rw [g1, ed, hu_ne (by omega), ec]; exact hu_same
theorem p8_starts {x : Int} {h : Hp} {Q : Hp → Prop} {b : Int → Int} (he : eT b x) (hb : byM h b x) (hQ : ∀ h', tkM h' b x (ws b x 0) → h' 185 16 = 0 → h' 185 17 = -1 → h' 185 9 = 0 → (∀ k, k < 9 ∨ 17 < k → h' 185 k = h 185 k) → (∀ p, p ≠ 185 → h' p = h p) → Q h') : mX8_starts x h Q := by
  have h9 := he.1
  unfold mX8_starts
  intro a ea c ec d ed e ee f ef
  have fp : ∀ p, p ≠ 185 → f p = h p := fun p hp => by rw [ef, hu_q hp, ee, hu_q hp, ed, hu_q hp, ec, hu_q hp, ea, hu_q hp]
  refine p8_nxt he ?_ ?_ ?_ (Int.le_refl 0) h9.1 fun g tg kg fg => hQ g tg ?_ ?_ ?_ (fun k hk => ?_) (fun p hp => by rw [fg p hp, fp p hp])
  · rw [ef, hu_ne (by omega), ee, hu_ne (by omega), ed, hu_ne (by omega), ec, hu_ne (by omega), ea, hu_same]
  · intro i i1 i2
    rw [rd_same (fp 191 (by omega))]
    exact hb i i1 i2
  · rw [ef, hu_ne (by omega), ee, hu_ne (by omega), ed, hu_same]
  · rw [kg 16 (by omega), ef, hu_ne (by omega), ee, hu_same]
  · rw [kg 17 (by omega), ef, hu_same]
  · rw [kg 9 (by omega), ef, hu_ne (by omega), ee, hu_ne (by omega), ed, hu_ne (by omega), ec, hu_same]
  · rw [kg k (by omega), ef, hu_ne (by omega), ee, hu_ne (by omega), ed, hu_ne (by omega), ec, hu_ne (by omega), ea, hu_ne (by omega)]
theorem c_load {x : Int} {h : Hp} (hi : inv h) : mL_load x h (fun k h1 => mX8_load x h1 (fun b h2 => okA k b h2)) := by
  obtain ⟨⟨n, o⟩, ⟨b1, b2, b3⟩, ⟨hh, hk⟩, ⟨d1, d2, d3⟩, e1, l1, l2, l3⟩ := id hi
  have bad : ¬ (0 ≤ x ∧ x ≤ h 185 9) → mX8_load x h (fun b h2 => okA 1 b h2) := by
    intro hx
    unfold mX8_load
    intro a e
    rw [e, hu_ne (show ¬ ((185 : Nat) = 185 ∧ (9 : Nat) = 0) by omega)]
    exact p8_inF t0 (by omega) (fun w => absurd w hx) (fun _ => ⟨fun w => absurd w (by decide), fun _ => okA_x hi (by omega)⟩)
  unfold mL_load mX7_load
  rw [d1]
  refine ⟨fun c => ⟨rfl, bad (by omega)⟩, fun c => ⟨fun d => ?_, fun d => ⟨rfl, bad (by omega)⟩⟩⟩
  generalize hb : rd h 191 = b
  have he : eT b x := ⟨⟨by omega, by omega⟩, fun i i1 i2 => by rw [← hb]; exact (d3 i i1 (by omega)).1⟩
  have byc : byC h b x := fun i i1 i2 => by rw [← hb]; exact (d3 i i1 (by omega)).2
  have pre : ∀ (g : Hp) (Q : Int → Hp → Prop), g 185 = h 185 → g 191 = h 191 → (∀ u : Hp, tkM u b x (ws b x 0) → u 185 16 = 0 → u 185 17 = -1 → u 185 9 = 0 → u 185 0 = 0 → (∀ k, 0 < k → k < 9 ∨ 17 < k → u 185 k = h 185 k) → (∀ p, p ≠ 185 → u p = g p) → mX8_readsAll u (fun h16 => mX8_isGood h16 (fun z17 => ((¬ z17 = 0 → (mX8_copies 187 1096 0 186 1096 0 h16 (fun h18 => (∀ h19, h19 = hu h18 185 6 0 → (∀ h20, h20 = hu h19 185 7 0 → (((0:Int) ≤ 0 ∧ (0:Int) < 1096) ∧ (Q (rd h20 186 0) h20))))))) ∧ (z17 = 0 → (zr ((-10) - (h16 185 16)) ∧ (Q ((-10) - (h16 185 16)) h16))))))) → mX8_load x g Q := by
    intro g Q g5 g1 hq
    unfold mX8_load
    intro a e
    have a9 : a 185 9 = h 185 9 := by rw [e, hu_ne (by omega), g5]
    have ab : rd a 191 = b := by rw [← hb]; exact rd_ne (by rw [e, hu_q (by omega), g1])
    rw [a9]
    refine p8_inF (by rw [e]; exact t0) (by omega) (fun _ => ⟨fun _ => ?_, fun w => absurd rfl w⟩) (fun w => absurd ⟨by omega, d⟩ w)
    refine p8_starts he (fun i i1 i2 => by rw [ab]) fun u tu u16 u17 u9 uk uf => hq u tu u16 u17 u9 (by rw [uk 0 (by omega), e]; exact hu_same) (fun k k0 k1 => ?_) (fun p hp => by rw [uf p hp, e, hu_q hp])
    rw [uk k k1, e, hu_ne (by omega), g5]
  have lin := LD_in (b := b) (n := x)
  unfold inR at lin
  refine p6_begin he byc fun g tg g1 gf => p2_readText (R := LD b x) he tg rfl (fun r0 v nv ov v2 fv => ⟨fun _ => ?_, fun w => absurd rfl w⟩) (fun r0 v tv r1 r2 v2 fv => ⟨fun w => absurd w r0, fun _ => ?_⟩)
  · intro a ea
    have av : ∀ p, p ≠ 169 → a p = v p := fun p hp => by rw [ea, hu_q hp]
    refine p3_copyFrom (nets_frame nv fun p p1 p2 => av p (by omega)) ov.1.1.1 (by omega) fun m nm mf => p0_clear fun y ey => ⟨by omega, fun w ew => ?_⟩
    have ym : ∀ p, p ≠ 169 → p ≠ 170 → y p = m p := fun p p1 p2 => by rw [ey, hu_q p1, hu_q p2]
    have wf : ∀ p, 12 < p → ¬ (13 ≤ p ∧ p ≤ 25) → p ≠ 169 → p ≠ 170 → p ≠ 176 → p ≠ 178 → p ≠ 197 → w p = h p := fun p p0 p1 p2 p3 p4 p5 p6 => by rw [ew, wr_q p6, ym p p2 p3, mf p (by omega), av p p2, fv.2 p p4 p5 p1, gf p p4]
    refine pre w _ (wf 185 (by omega) (by omega) (by omega) (by omega) (by omega) (by omega) (by omega)) (wf 191 (by omega) (by omega) (by omega) (by omega) (by omega) (by omega) (by omega)) fun u tu u16 u17 u9 u0 uk uf => ?_
    refine p8_readsAll (R := LD b x) he tu u16 rfl (fun q => absurd r0 q) (fun _ z vz _ z16 fz => p8_good1 z16 ⟨fun _ => p8_copies (by omega) (by omega) (by omega) (by omega) (by omega) (by omega) (Or.inl (by omega)) fun i fi vi j ej l el => ⟨by omega, ?_⟩, fun q => absurd q (by decide)⟩) (fun q => absurd r0 q)
    have o2 := okS_eqV ov.1 vz
    have ri : rd l 186 = rd i 186 := by rw [el, ej, rd_hu (by omega), rd_hu (by omega)]
    have ev : eqV (LD b x).2.2 (rd l 186) := by
      rw [ri]
      refine vz.trans (eqV_of o2.1.1 fun q q1 q2 => ?_)
      rw [vi q q1, if_pos (by omega), show (0 : Int) + (q - 0) = q by omega]
    have lf : ∀ p, p ≠ 185 → p ≠ 186 → p ≠ 187 → l p = w p := fun p p1 p2 p3 => by rw [el, hu_q p1, ej, hu_q p1, fi p p2, fz.2 p p1 p3, uf p p1]
    have l5 : ∀ k, k ≠ 6 → k ≠ 7 → l 185 k = z 185 k := fun k k1 k2 => by rw [el, hu_ne (by omega), ej, hu_ne (by omega), fi 185 (by omega)]
    have z9 : z 185 9 = 0 := by rw [fz.1.1 9 (by omega)]; exact u9
    have z22 : z 185 22 = h 185 22 := by rw [fz.1.1 22 (by omega)]; exact uk 22 (by omega) (by omega)
    have z17 : z 185 17 = -1 := by rw [(fz.1.2 z16).2]; exact u17
    have nw : nets l 0 (LD b x).2.2 := nets_frame nm fun p p1 p2 => by rw [lf p (by omega) (by omega) (by omega), ew, wr_q (by omega), ym p (by omega) (by omega)]
    have w197 : rd w 197 0 = (LD b x).2.2 0 := by
      rw [ew, rw_same, ym 0 (by omega) (by omega)]
      exact nm.1.1
    refine ⟨⟨⟨nets_eqV nw ev, okS_eqV ov.1 ev⟩, ⟨?_, ?_, fun q => ?_⟩, ⟨?_, fun k k1 k2 => ?_⟩, ⟨?_, ?_, fun k k1 k2 => ?_⟩, ?_, ?_, ?_, fun k k1 k2 => ?_⟩, ?_, fun _ => ?_⟩
    · rw [lf 169 (by omega) (by omega) (by omega), ew, wr_q (by omega), ey, hu_same, el, hu_same]
    · left
      rw [el]; exact hu_same
    · rw [el, hu_same] at q
      exact absurd q (by decide)
    · have l6 : l 185 6 = 0 := by rw [el, hu_ne (by omega), ej]; exact hu_same
      rw [l6]
      refine ⟨?_, by omega, ?_, fun m m1 m2 => by omega⟩
      · rw [lf 170 (by omega) (by omega) (by omega), ew, wr_q (by omega), ey, hu_q (by omega)]; exact hu_same
      · rw [lf 170 (by omega) (by omega) (by omega), ew, wr_q (by omega), ey, hu_q (by omega), hu_ne (by omega), mf 170 (by omega), av 170 (by omega), fv.2 170 (by omega) (by omega) (by omega), gf 170 (by omega)]
        exact hh.2.2.1
    · have l6 : l 185 6 = 0 := by rw [el, hu_ne (by omega), ej]; exact hu_same
      omega
    · rw [l5 9 (by omega) (by omega), z9, lf 176 (by omega) (by omega) (by omega), ew, wr_q (by omega), ym 176 (by omega) (by omega), mf 176 (by omega), av 176 (by omega), fv.1, g1]
    · rw [l5 9 (by omega) (by omega), z9]; omega
    · rw [l5 9 (by omega) (by omega), z9] at k2; omega
    · rw [l5 17 (by omega) (by omega), z17, lf 169 (by omega) (by omega) (by omega), ew, wr_q (by omega), ey, hu_ne (by omega), hu_q (by omega), mf 169 (by omega), ea]
      exact hu_same
    · rw [l5 22 (by omega) (by omega), z22, lf 183 (by omega) (by omega) (by omega), wf 183 (by omega) (by omega) (by omega) (by omega) (by omega) (by omega) (by omega)]; exact l1
    · rw [l5 22 (by omega) (by omega), z22]; exact l2
    · rw [l5 22 (by omega) (by omega), z22] at k2
      rw [rd_same ((lf 184 (by omega) (by omega) (by omega)).trans (wf 184 (by omega) (by omega) (by omega) (by omega) (by omega) (by omega) (by omega))), rd_same ((lf 193 (by omega) (by omega) (by omega)).trans (wf 193 (by omega) (by omega) (by omega) (by omega) (by omega) (by omega) (by omega)))]
      exact l3 k k1 k2
    · rw [l5 0 (by omega) (by omega), fz.1.1 0 (by omega)]; exact u0
    · rw [rd_same (lf 197 (by omega) (by omega) (by omega)), w197]
      exact (ev.1 0 (by omega) (by omega)).symm
  · intro a ea
    have av : ∀ p, p ≠ 169 → a p = v p := fun p hp => by rw [ea, hu_q hp]
    refine ⟨zri (by omega) (by omega), by omega, fun w ew => ?_⟩
    have wf : ∀ p, ¬ (13 ≤ p ∧ p ≤ 25) → p ≠ 169 → p ≠ 176 → p ≠ 178 → p ≠ 197 → w p = h p := fun p p1 p2 p4 p5 p6 => by rw [ew, wr_q p6, av p p2, fv.2 p p4 p5 p1, gf p p4]
    refine pre w _ (wf 185 (by omega) (by omega) (by omega) (by omega) (by omega)) (wf 191 (by omega) (by omega) (by omega) (by omega) (by omega)) fun u tu u16 u17 u9 u0 uk uf => ?_
    refine p8_readsAll (R := LD b x) he tu u16 rfl (fun _ => r1) (fun q => absurd q r0) (fun _ z _ z16 z17 fz => p8_good0 (by rw [z16]; exact r0) ⟨fun q => absurd rfl q, fun _ => ?_⟩)
    rw [z16]
    refine ⟨zri (by omega) (by omega), ?_⟩
    have lf : ∀ p, p ≠ 185 → p ≠ 187 → z p = w p := fun p p1 p3 => by rw [fz.2 p p1 p3, uf p p1]
    have pf : ∀ p, ¬ (13 ≤ p ∧ p ≤ 25) → p ≠ 169 → p ≠ 176 → p ≠ 178 → p ≠ 185 → p ≠ 187 → p ≠ 197 → z p = h p := fun p p1 p2 p3 p4 p5 p6 p7 => by rw [lf p p5 p6, wf p p1 p2 p3 p4 p7]
    have zk : ∀ k, 0 < k → k < 9 ∨ 17 < k → z 185 k = h 185 k := fun k k0 k1 => by rw [fz.1.1 k (by omega), uk k k0 k1]
    have z9 : z 185 9 = 0 := by rw [fz.1.1 9 (by omega)]; exact u9
    have w169 : ∀ k, k ≠ 10 → w 169 k = h 169 k := fun k hk => by rw [ew, wr_q (by omega), ea, hu_ne (by omega), fv.2 169 (by omega) (by omega) (by omega), gf 169 (by omega)]
    have r186 : rd z 186 = rd h 186 := rd_ne (pf 186 (by omega) (by omega) (by omega) (by omega) (by omega) (by omega) (by omega))
    refine ⟨⟨⟨?_, ?_⟩, ⟨?_, ?_, fun q => ?_⟩, ⟨?_, fun k k1 k2 => ?_⟩, ⟨?_, ?_, fun k k1 k2 => ?_⟩, ?_, ?_, ?_, fun k k1 k2 => ?_⟩, ?_, fun _ => ?_⟩
    · rw [r186]
      exact nets_frame n fun p p1 p2 => pf p (by omega) (by omega) (by omega) (by omega) (by omega) (by omega) (by omega)
    · rw [r186]; exact o
    · rw [lf 169 (by omega) (by omega), w169 3 (by omega), zk 7 (by omega) (by omega)]; exact b1
    · rw [zk 7 (by omega) (by omega)]; exact b2
    · rw [zk 7 (by omega) (by omega)] at q
      rw [rd_ne (pf 188 (by omega) (by omega) (by omega) (by omega) (by omega) (by omega) (by omega))]
      exact ⟨nets_frame (b3 q).1 fun p p1 p2 => pf p (by omega) (by omega) (by omega) (by omega) (by omega) (by omega) (by omega), (b3 q).2⟩
    · rw [zk 6 (by omega) (by omega), bf_ne (pf 190 (by omega) (by omega) (by omega) (by omega) (by omega) (by omega) (by omega))]
      exact hist_frame hh fun p p1 => pf p (by omega) (by omega) (by omega) (by omega) (by omega) (by omega) (by omega)
    · rw [zk 6 (by omega) (by omega)] at k2
      rw [bf_ne (pf 190 (by omega) (by omega) (by omega) (by omega) (by omega) (by omega) (by omega))]
      exact hk k k1 k2
    · rw [z9, lf 176 (by omega) (by omega), ew, wr_q (by omega), av 176 (by omega), fv.1, g1]
    · rw [z9]; omega
    · rw [z9] at k2; omega
    · rw [z17, lf 169 (by omega) (by omega), ew, wr_q (by omega), ea, hu_same]
      exact tv.2.2.2.1
    · rw [zk 22 (by omega) (by omega), pf 183 (by omega) (by omega) (by omega) (by omega) (by omega) (by omega) (by omega)]; exact l1
    · rw [zk 22 (by omega) (by omega)]; exact l2
    · rw [zk 22 (by omega) (by omega)] at k2
      rw [rd_same (pf 184 (by omega) (by omega) (by omega) (by omega) (by omega) (by omega) (by omega)), rd_same (pf 193 (by omega) (by omega) (by omega) (by omega) (by omega) (by omega) (by omega))]
      exact l3 k k1 k2
    · rw [fz.1.1 0 (by omega)]; exact u0
    · rw [rd_same (lf 197 (by omega) (by omega)), ew, rw_same]
