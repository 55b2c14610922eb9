/-! rows as values: one cell changed, rows by their fields, when two rows say the same -/
def up (r : Rw) (k z : Int) : Rw := fun j => if j.toNat = k.toNat then z else r j
theorem rd_wr {h : Hp} {p : Nat} {k z : Int} : rd (wr h p k z) p = up (rd h p) k z := by
  funext j
  unfold rd wr hu up
  by_cases e : j.toNat = k.toNat
  · rw [if_pos ⟨rfl, e⟩, if_pos e]
  · rw [if_neg (fun w => e w.2), if_neg e]
theorem rd_ne {h h' : Hp} {q : Nat} (e : h' q = h q) : rd h' q = rd h q := by
  funext j
  unfold rd
  rw [e]
theorem wr_q {h : Hp} {p q : Nat} {k z : Int} (hn : q ≠ p) : (wr h p k z) q = h q := by
  funext j
  exact wr_np hn
theorem hu_q {h : Hp} {p q k : Nat} {z : Int} (hn : q ≠ p) : (hu h p k z) q = h q := by
  funext j
  exact hu_np hn
theorem up_same {r : Rw} {k z : Int} : up r k z k = z := by unfold up; rw [if_pos rfl]
theorem up_ne {r : Rw} {k j z : Int} (hk : 0 ≤ k) (hj : 0 ≤ j) (hn : j ≠ k) : up r k z j = r j := by unfold up; rw [if_neg (by omega)]
def sf (r : Rw) (i j z : Int) : Rw := up r ((16 + (24 * i)) + j) z
def sr (r : Rw) (k j z : Int) : Rw := up r ((976 + (4 * k)) + j) z
theorem fl_up {r : Rw} {k i j z : Int} (hk : 0 ≤ k) (hi : 0 ≤ i) (hj : 0 ≤ j) (hn : k < 16 ∨ 976 ≤ k) (h2 : i < 40) (h3 : j < 24) : fl (up r k z) i j = fl r i j := by
  unfold fl
  rw [up_ne hk (by omega) (by omega)]
theorem rl_up {r : Rw} {k i j z : Int} (hk : 0 ≤ k) (hi : 0 ≤ i) (hj : 0 ≤ j) (hn : k < 976) : rl (up r k z) i j = rl r i j := by
  unfold rl
  rw [up_ne hk (by omega) (by omega)]
theorem fl_sf {r : Rw} {i j i2 j2 z : Int} (hi : 0 ≤ i) (hj : 0 ≤ j ∧ j < 24) (hi2 : 0 ≤ i2) (hj2 : 0 ≤ j2 ∧ j2 < 24) : fl (sf r i j z) i2 j2 = if i2 = i ∧ j2 = j then z else fl r i2 j2 := by
  unfold fl sf
  by_cases e : i2 = i ∧ j2 = j
  · obtain ⟨rfl, rfl⟩ := e
    rw [up_same, if_pos ⟨rfl, rfl⟩]
  · rw [up_ne (by omega) (by omega) (by omega), if_neg e]
theorem fl_sf_ne {r : Rw} {i j i2 j2 z : Int} (hi : 0 ≤ i) (hj : 0 ≤ j ∧ j < 24) (hi2 : 0 ≤ i2) (hj2 : 0 ≤ j2 ∧ j2 < 24) (hn : ¬ (i2 = i ∧ j2 = j)) : fl (sf r i j z) i2 j2 = fl r i2 j2 := by
  rw [fl_sf hi hj hi2 hj2, if_neg hn]
theorem rl_sf {r : Rw} {i j k j2 z : Int} (hi : 0 ≤ i ∧ i < 40) (hj : 0 ≤ j ∧ j < 24) (hk : 0 ≤ k) (hj2 : 0 ≤ j2) : rl (sf r i j z) k j2 = rl r k j2 := rl_up (by omega) hk hj2 (by omega)
theorem hd_sf {r : Rw} {i j k z : Int} (hi : 0 ≤ i) (hj : 0 ≤ j) (hk : 0 ≤ k ∧ k < 16) : sf r i j z k = r k := up_ne (by omega) (by omega) (by omega)
theorem rl_sr {r : Rw} {i j i2 j2 z : Int} (hi : 0 ≤ i) (hj : 0 ≤ j ∧ j < 4) (hi2 : 0 ≤ i2) (hj2 : 0 ≤ j2 ∧ j2 < 4) : rl (sr r i j z) i2 j2 = if i2 = i ∧ j2 = j then z else rl r i2 j2 := by
  unfold rl sr
  by_cases e : i2 = i ∧ j2 = j
  · obtain ⟨rfl, rfl⟩ := e
    rw [up_same, if_pos ⟨rfl, rfl⟩]
  · rw [up_ne (by omega) (by omega) (by omega), if_neg e]
theorem fl_sr {r : Rw} {i j k j2 z : Int} (hi : 0 ≤ i) (hj : 0 ≤ j) (hk : 0 ≤ k ∧ k < 40) (hj2 : 0 ≤ j2 ∧ j2 < 24) : fl (sr r i j z) k j2 = fl r k j2 := fl_up (by omega) (by omega) (by omega) (by omega) (by omega) (by omega)
theorem hd_sr {r : Rw} {i j k z : Int} (hi : 0 ≤ i) (hj : 0 ≤ j) (hk : 0 ≤ k ∧ k < 16) : sr r i j z k = r k := up_ne (by omega) (by omega) (by omega)
def mkR (a : Int → Int) (f g : Int → Int → Int) : Rw := fun k => if k < 16 then a k else if k < 976 then f ((k - 16) / 24) ((k - 16) % 24) else g ((k - 976) / 4) ((k - 976) % 4)
theorem mk_h {a : Int → Int} {f g : Int → Int → Int} {k : Int} (h : k < 16) : mkR a f g k = a k := by unfold mkR; rw [if_pos h]
theorem mk_f {a : Int → Int} {f g : Int → Int → Int} {i j : Int} (hi : 0 ≤ i ∧ i < 40) (hj : 0 ≤ j ∧ j < 24) : fl (mkR a f g) i j = f i j := by
  unfold fl mkR
  rw [if_neg (by omega), if_pos (by omega), show ((16 + 24 * i + j - 16) / 24) = i by omega, show ((16 + 24 * i + j - 16) % 24) = j by omega]
theorem mk_r {a : Int → Int} {f g : Int → Int → Int} {i j : Int} (hi : 0 ≤ i) (hj : 0 ≤ j ∧ j < 4) : rl (mkR a f g) i j = g i j := by
  unfold rl mkR
  rw [if_neg (by omega), if_neg (by omega), show ((976 + 4 * i + j - 976) / 4) = i by omega, show ((976 + 4 * i + j - 976) % 4) = j by omega]
/-- two rows say the same of all that lives -/
def eqV (r s : Rw) : Prop := (∀ k, 0 ≤ k → k < 8 → s k = r k) ∧ (∀ i, 0 ≤ i → i < r 0 → ∀ j, 0 ≤ j → j < 24 → fl s i j = fl r i j) ∧ (∀ k, 0 ≤ k → k < r 1 → ∀ j, 0 ≤ j → j < 4 → rl s k j = rl r k j)
theorem ev_rfl {r : Rw} : eqV r r := ⟨fun _ _ _ => rfl, fun _ _ _ _ _ _ => rfl, fun _ _ _ _ _ _ => rfl⟩
theorem eqV.symm {r s : Rw} (h : eqV r s) : eqV s r := by
  have h0 := h.1 0 (by omega) (by omega)
  have h1 := h.1 1 (by omega) (by omega)
  exact ⟨fun k a b => (h.1 k a b).symm, fun i a b j c d => (h.2.1 i a (by omega) j c d).symm, fun i a b j c d => (h.2.2 i a (by omega) j c d).symm⟩
theorem eqV.trans {r s t : Rw} (h : eqV r s) (g : eqV s t) : eqV r t := by
  have h0 := h.1 0 (by omega) (by omega)
  have h1 := h.1 1 (by omega) (by omega)
  exact ⟨fun k a b => (g.1 k a b).trans (h.1 k a b), fun i a b j c d => (g.2.1 i a (by omega) j c d).trans (h.2.1 i a b j c d), fun i a b j c d => (g.2.2 i a (by omega) j c d).trans (h.2.2 i a b j c d)⟩
theorem eqV_of {r s : Rw} (ho : okR r) (h : ∀ j, 0 ≤ j → j < 1096 → s j = r j) : eqV r s := by
  unfold okR at ho
  refine ⟨fun k a b => h k a (by omega), fun i a b j c d => ?_, fun k a b j c d => ?_⟩
  · unfold fl; exact h _ (by omega) (by omega)
  · unfold rl; exact h _ (by omega) (by omega)
theorem lat0_ext {r s : Rw} {i i2 : Int} : ∀ w : Int, 0 ≤ w → (∀ v, 1 ≤ v → v ≤ w → fl s i2 ((14 + v) - 1) = fl r i ((14 + v) - 1)) → lat0 s i2 w = lat0 r i w := by
  have key : ∀ (n : Nat) (w : Int), w.toNat = n → 0 ≤ w → (∀ v, 1 ≤ v → v ≤ w → fl s i2 ((14 + v) - 1) = fl r i ((14 + v) - 1)) → lat0 s i2 w = lat0 r i w := by
    intro n
    induction n with
    | zero => intro w h h0 _; rw [lat0_0 (by omega), lat0_0 (by omega)]
    | succ n ih =>
      intro w h h0 hv
      rw [lat0_s (r := s) (w := w) (by omega), lat0_s (r := r) (w := w) (by omega), hv w (by omega) (by omega), ih (w + (-1)) (by omega) (by omega) (fun v a b => hv v a (by omega))]
  exact fun w h hv => key _ w rfl h hv
theorem lat_ext {r s : Rw} {i i2 : Int} (hv : ∀ v, 1 ≤ v → v ≤ 9 → fl s i2 ((14 + v) - 1) = fl r i ((14 + v) - 1)) : lat s i2 = lat r i := lat0_ext 9 (by omega) hv
theorem lat0_is {r : Rw} {i w : Int} (h1 : 1 ≤ w) (hz : ¬ fl r i ((14 + w) - 1) = 0) : ∀ t, w ≤ t → (∀ v, w < v → v ≤ t → fl r i ((14 + v) - 1) = 0) → lat0 r i t = w := by
  have key : ∀ (n : Nat) (t : Int), (t - w).toNat = n → w ≤ t → (∀ v, w < v → v ≤ t → fl r i ((14 + v) - 1) = 0) → lat0 r i t = w := by
    intro n
    induction n with
    | zero =>
      intro t h h0 _
      have : t = w := by omega
      subst this
      rw [lat0_s (by omega), if_neg hz]
    | succ n ih =>
      intro t h h0 hv
      rw [lat0_s (by omega), if_pos (hv t (by omega) (by omega))]
      exact ih (t + (-1)) (by omega) (by omega) (fun v a b => hv v a (by omega))
  exact fun t h hv => key _ t rfl h hv
theorem lat_is {r : Rw} {i w : Int} (h1 : 1 ≤ w) (h9 : w ≤ 9) (hz : ¬ fl r i ((14 + w) - 1) = 0) (hv : ∀ v, w < v → v ≤ 9 → fl r i ((14 + v) - 1) = 0) : lat r i = w := lat0_is h1 hz 9 h9 hv
theorem lat0_z {r : Rw} {i : Int} : ∀ t, 0 ≤ t → (∀ v, 1 ≤ v → v ≤ t → fl r i ((14 + v) - 1) = 0) → lat0 r i t = 0 := by
  have key : ∀ (n : Nat) (t : Int), t.toNat = n → 0 ≤ t → (∀ v, 1 ≤ v → v ≤ t → fl r i ((14 + v) - 1) = 0) → lat0 r i t = 0 := by
    intro n
    induction n with
    | zero => intro t h h0 _; exact lat0_0 (by omega)
    | succ n ih =>
      intro t h h0 hv
      rw [lat0_s (by omega), if_pos (hv t (by omega) (by omega))]
      exact ih (t + (-1)) (by omega) (by omega) (fun v a b => hv v a (by omega))
  exact fun t h hv => key _ t rfl h hv
theorem lat_z {r : Rw} {i : Int} (hv : ∀ v, 1 ≤ v → v ≤ 9 → fl r i ((14 + v) - 1) = 0) : lat r i = 0 := lat0_z 9 (by omega) hv
theorem ev_lat {r s : Rw} (h : eqV r s) {i : Int} (h1 : 0 ≤ i) (h2 : i < r 0) : lat s i = lat r i := lat_ext (fun v a b => h.2.1 i h1 h2 _ (by omega) (by omega))
theorem eqV.hd {r s : Rw} (h : eqV r s) : s 0 = r 0 ∧ s 1 = r 1 ∧ s 2 = r 2 ∧ s 3 = r 3 ∧ s 4 = r 4 ∧ s 5 = r 5 ∧ s 6 = r 6 ∧ s 7 = r 7 := ⟨h.1 0 (by omega) (by omega), h.1 1 (by omega) (by omega), h.1 2 (by omega) (by omega), h.1 3 (by omega) (by omega), h.1 4 (by omega) (by omega), h.1 5 (by omega) (by omega), h.1 6 (by omega) (by omega), h.1 7 (by omega) (by omega)⟩
theorem mv_ext {r s : Rw} {i i2 w : Int} (hw : 0 ≤ w ∧ w < 10) (hv : ∀ v, 1 ≤ v → v ≤ 9 → fl s i2 ((14 + v) - 1) = fl r i ((14 + v) - 1)) : mv s i2 w = mv r i w := by
  unfold mv
  by_cases e : w = 0
  · rw [if_pos e, if_pos e]
  · rw [if_neg e, if_neg e, hv w (by omega) (by omega)]
theorem nm_ext {r s : Rw} {i i2 : Int} (hv : ∀ j, 6 ≤ j → j < 14 → fl s i2 j = fl r i j) : nm s i2 = nm r i := by
  unfold nm
  rw [hv 6 (by omega) (by omega), hv 7 (by omega) (by omega), hv 8 (by omega) (by omega), hv 9 (by omega) (by omega), hv 10 (by omega) (by omega), hv 11 (by omega) (by omega), hv 12 (by omega) (by omega), hv 13 (by omega) (by omega)]
/-- a host as another host of another row, behind another heap -/
theorem netH_ext {h h' : Hp} {o o2 : Nat} {r s : Rw} {i i2 : Int} (hn : netH h o r i) (hv : ∀ j, 0 ≤ j → j < 24 → fl s i2 j = fl r i j) (e1 : rd h' (o2 + 1) i2 = rd h (o + 1) i) (e2 : rd h' (o2 + 2) i2 = rd h (o + 2) i) (e3 : rd h' (o2 + 3) i2 = rd h (o + 3) i) (e4 : rd h' (o2 + 4) i2 = rd h (o + 4) i) (e5 : rd h' (o2 + 5) i2 = rd h (o + 5) i) (e6 : rd h' (o2 + 6) i2 = rd h (o + 6) i) (e7 : rd h' (o2 + 7) i2 = rd h (o + 7) i) (e8 : ∀ w, 0 ≤ w → w < 10 → rd h' (o2 + 8) (i2 * 10 + w) = rd h (o + 8) (i * 10 + w)) : netH h' o2 s i2 := by
  obtain ⟨a1, a2, a3, a4, a5, a6, a7, a8⟩ := hn
  refine ⟨?_, ?_, ?_, ?_, ?_, ?_, ?_, fun w w1 w2 => ?_⟩
  · rw [e1, a1, nm_ext (fun j q1 q2 => hv j (by omega) (by omega))]
  · rw [e2, a2, hv 0 (by omega) (by omega)]
  · rw [e3, a3, hv 1 (by omega) (by omega)]
  · rw [e4, a4, hv 2 (by omega) (by omega)]
  · rw [e5, a5, hv 3 (by omega) (by omega)]
  · rw [e6, a6, hv 4 (by omega) (by omega)]
  · rw [e7, a7, lat_ext (fun v q1 q2 => hv _ (by omega) (by omega))]
  · rw [e8 w w1 w2, a8 w w1 w2, mv_ext ⟨w1, w2⟩ (fun v q1 q2 => hv _ (by omega) (by omega))]
theorem netR_ext {h h' : Hp} {o o2 : Nat} {r s : Rw} {i i2 : Int} (hn : netR h o r i) (hv : ∀ j, 0 ≤ j → j < 4 → rl s i2 j = rl r i j) (e1 : rd h' (o2 + 9) i2 = rd h (o + 9) i) (e2 : rd h' (o2 + 10) i2 = rd h (o + 10) i) (e3 : rd h' (o2 + 11) i2 = rd h (o + 11) i) (e4 : rd h' (o2 + 12) i2 = rd h (o + 12) i) : netR h' o2 s i2 := by
  obtain ⟨a1, a2, a3, a4⟩ := hn
  exact ⟨by rw [e1, a1, hv 0 (by omega) (by omega)], by rw [e2, a2, hv 1 (by omega) (by omega)], by rw [e3, a3, hv 2 (by omega) (by omega)], by rw [e4, a4, hv 3 (by omega) (by omega)]⟩
theorem nets_eqV {h : Hp} {o : Nat} {r s : Rw} (hn : nets h o r) (he : eqV r s) : nets h o s := by
  obtain ⟨e0, e1, e2, e3, e4, e5, e6, e7⟩ := he.hd
  refine ⟨?_, fun i i1 i2 => ?_, fun k k1 k2 => ?_⟩
  · rw [e0, e1, e2, e3, e4, e5, e6, e7]; exact hn.1
  · exact netH_ext (hn.2.1 i i1 (by omega)) (fun j => he.2.1 i i1 (by omega) j) rfl rfl rfl rfl rfl rfl rfl (fun _ _ _ => rfl)
  · exact netR_ext (hn.2.2 k k1 (by omega)) (fun j => he.2.2 k k1 (by omega) j) rfl rfl rfl rfl
theorem okR_eqV {r s : Rw} (ho : okR r) (he : eqV r s) : okR s := by
  obtain ⟨e0, e1, e2, e3, -⟩ := he.hd
  unfold okR at *
  omega
theorem okH_ext {r s : Rw} {i i2 : Int} (ho : okH r i) (h2 : s 2 = r 2) (hv : ∀ j, 0 ≤ j → j < 24 → fl s i2 j = fl r i j) : okH s i2 := by
  unfold okH at *
  rw [hv 0 (by omega) (by omega), hv 1 (by omega) (by omega), hv 2 (by omega) (by omega), hv 3 (by omega) (by omega), hv 4 (by omega) (by omega), hv 5 (by omega) (by omega), h2]
  obtain ⟨a1, a2, a3, a4, a5, a6, a7, a8, a9⟩ := ho
  refine ⟨a1, a2, a3, a4, a5, a6, a7, fun k q1 q2 => ?_, fun w q1 q2 => ?_⟩
  · rw [hv (6 + k) (by omega) (by omega)]; exact a8 k q1 q2
  · rw [hv ((14 + w) - 1) (by omega) (by omega)]; exact a9 w q1 q2
theorem okU_ext {r s : Rw} {i i2 : Int} (ho : okU r i) (hv : ∀ j, 0 ≤ j → j < 4 → rl s i2 j = rl r i j) : okU s i2 := by
  unfold okU at *
  rw [hv 0 (by omega) (by omega), hv 1 (by omega) (by omega), hv 2 (by omega) (by omega), hv 3 (by omega) (by omega)]
  exact ho
theorem okW_eqV {r s : Rw} (ho : okW r) (he : eqV r s) : okW s := by
  obtain ⟨e0, e1, e2, e3, e4, e5, e6, e7⟩ := he.hd
  obtain ⟨a1, a2, a3, a4, a5, a6⟩ := ho
  refine ⟨okR_eqV a1 he, by omega, by omega, by omega, fun i i1 i2 => ?_, fun k k1 k2 => ?_⟩
  · exact okH_ext (a5 i i1 (by omega)) e2 (he.2.1 i i1 (by omega))
  · exact okU_ext (a6 k k1 (by omega)) (he.2.2 k k1 (by omega))
theorem kp_ext {r s : Rw} {i i2 c : Int} (h3 : s 3 = r 3) (hv : ∀ j, 0 ≤ j → j < 24 → fl s i2 j = fl r i j) : kp s i2 c = kp r i c := by
  have e := lat_ext (r := r) (s := s) (i := i) (i2 := i2) (fun v q1 q2 => hv _ (by omega) (by omega))
  have hl := lat_r (r := r) (i := i)
  unfold kp
  rw [e, h3]
  by_cases c1 : lat r i ≤ 0
  · rw [if_pos c1, if_pos c1]
  · rw [hv _ (by omega) (by omega)]
theorem hds_ext {r s : Rw} {i i2 v : Int} (h3 : s 3 = r 3) (h2 : s 2 = r 2) (hv : ∀ j, 0 ≤ j → j < 24 → fl s i2 j = fl r i j) : hds s i2 v = hds r i v := by
  unfold hds kept
  rw [hv 1 (by omega) (by omega), h2, kp_ext h3 hv]
theorem ev_hds {r s : Rw} (he : eqV r s) {i v : Int} (h1 : 0 ≤ i) (h2 : i < r 0) : hds s i v = hds r i v := hds_ext he.hd.2.2.2.1 he.hd.2.2.1 (he.2.1 i h1 h2)
theorem ev_net {r s : Rw} (he : eqV r s) {i j : Int} (h1 : 0 ≤ i) (h2 : i < r 0) (h3 : 0 ≤ j) (h4 : j < r 0) : net s i j = net r i j := by
  unfold net
  rw [he.hd.2.2.2.2.2.2.2, he.2.1 i h1 h2 0 (by omega) (by omega), he.2.1 j h3 h4 0 (by omega) (by omega)]
theorem ev_hold {r s : Rw} (he : eqV r s) {o v : Int} : hold s o v = hold r o v := by
  unfold hold
  rw [he.hd.1]
  refine fs_congr fun i i1 i2 => ?_
  rw [ev_hds he i1 i2, he.2.1 i i1 i2 0 (by omega) (by omega)]
theorem ev_clash {r s : Rw} (he : eqV r s) {v : Int} : clash s v = clash r v := by
  unfold clash
  rw [(ev_hold he), (ev_hold he)]
theorem ev_clashes {r s : Rw} (he : eqV r s) : clashes s = clashes r := by
  unfold clashes
  exact cn_congr _ fun i _ _ => (ev_clash he)
theorem ev_pair {r s : Rw} (he : eqV r s) {v : Int} : pair s v = pair r v := by
  unfold pair
  rw [he.hd.1]
  have : fs (fun i => hds s i v && pair0 s v i) 0 (r 0) = fs (fun i => hds r i v && pair0 r v i) 0 (r 0) := by
    refine fs_congr fun i i1 i2 => ?_
    rw [ev_hds he i1 i2]
    congr 1
    unfold pair0
    have : fs (fun o => net s i o && hds s o v) 0 i = fs (fun o => net r i o && hds r o v) 0 i := by
      refine fs_congr fun o o1 o2 => ?_
      rw [ev_hds he o1 (by omega), ev_net he i1 i2 o1 (by omega)]
    rw [this]
  rw [this]
theorem ev_twice {r s : Rw} (he : eqV r s) : twice s = twice r := by
  unfold twice
  exact fs_congr fun i _ _ => (ev_pair he)
/-- what every row that is kept keeps -/
def okP (r : Rw) : Prop := ∀ i, 0 ≤ i → i < r 0 → fl r i 4 = 0 → fl r i 3 = 0
def okS (r : Rw) : Prop := okW r ∧ twice r = -1 ∧ okP r
theorem okS_eqV {r s : Rw} (ho : okS r) (he : eqV r s) : okS s := ⟨okW_eqV ho.1 he, by rw [(ev_twice he)]; exact ho.2.1, fun i i1 i2 h4 => by
  have e0 := he.hd.1
  rw [he.2.1 i i1 (by omega) 3 (by omega) (by omega)]
  rw [he.2.1 i i1 (by omega) 4 (by omega) (by omega)] at h4
  exact ho.2.2 i i1 (by omega) h4⟩
/-- no two hosts of a net hold one number -/
theorem twice_no {r : Rw} (h : twice r = -1) {i j v : Int} (hv : 1 ≤ v ∧ v ≤ 250) (h1 : 0 ≤ j) (h2 : j < i) (h3 : i < r 0) (hn : net r i j = true) (a : hds r i v = true) (b : hds r j v = true) : False := by
  unfold twice at h
  rw [fs_none (by omega)] at h
  have := h v (by omega) (by omega)
  rw [pair_iff.mpr ⟨j, i, h1, h2, h3, hn, a, b⟩] at this
  cases this
theorem twice_mk {r : Rw} (h : ∀ v j i, 1 ≤ v → v ≤ 250 → 0 ≤ j → j < i → i < r 0 → net r i j = true → hds r i v = true → hds r j v = true → False) : twice r = -1 := by
  unfold twice
  rw [fs_none (by omega)]
  intro v v1 v2
  cases e : pair r v with
  | false => rfl
  | true =>
    obtain ⟨j, i, h1, h2, h3, h4, h5, h6⟩ := pair_iff.mp e
    exact (h v j i v1 (by omega) h1 h2 h3 h4 h5 h6).elim

