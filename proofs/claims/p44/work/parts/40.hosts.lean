/-! hosts and rules that come and go -/
theorem apN_okS {r : Rw} {L : Int → Int} {w v p : Int} (ho : okS r) (h40 : r 0 < 40) (hw : w = 0 ∨ w = 1) (hv : 1 ≤ v ∧ v ≤ 250) (hp : p = 0 ∨ p = 1) (hL : (0 ≤ L 5 ∧ L 5 ≤ 8) ∧ ∀ k, 0 ≤ k → k < 8 → (k < L 5 → 97 ≤ L (6 + k) ∧ L (6 + k) ≤ 122) ∧ (L 5 ≤ k → L (6 + k) = 0)) (hn : ∀ i, 0 ≤ i → i < r 0 → onet r i w = true → hds r i v = false) : okS (apN r L w v p) := by
  obtain ⟨⟨a1, a2, a3, a4, a5, a6⟩, ht, hP⟩ := ho
  unfold okR at a1
  have k0 : apN r L w v p 0 = r 0 + 1 := apN_0
  have kk : ∀ k, 0 < k → k < 16 → apN r L w v p k = r k := fun k k1 k2 => apN_k k1 k2
  have fo : ∀ i, 0 ≤ i → i < r 0 → ∀ j, 0 ≤ j → j < 24 → fl (apN r L w v p) i j = fl r i j := fun i i1 i2 j j1 j2 => apN_f ⟨i1, by omega⟩ ⟨j1, j2⟩ (by omega)
  have fn : ∀ j, 0 ≤ j → j < 24 → fl (apN r L w v p) (r 0) j = (if j = 0 then w else if j = 1 then v else if j = 2 then p else if 5 ≤ j ∧ j < 14 then L j else 0) := fun j j1 j2 => apN_n ⟨by omega, h40⟩ ⟨j1, j2⟩
  have latn : lat (apN r L w v p) (r 0) = 0 := lat_z (fun u u1 u2 => by rw [fn _ (by omega) (by omega), if_neg (by omega), if_neg (by omega), if_neg (by omega), if_neg (by omega)])
  have hdn : ∀ u, 1 ≤ u → hds (apN r L w v p) (r 0) u = true → u = v := by
    intro u u1 hu
    unfold hds kept kp at hu
    rw [latn, if_pos (Int.le_refl 0), fn 1 (by omega) (by omega), if_neg (by omega), if_pos rfl] at hu
    simp only [Bool.or_eq_true, decide_eq_true_eq] at hu
    omega
  refine ⟨⟨?_, ?_, ?_, ?_, fun i i1 i2 => ?_, fun k k1 k2 => ?_⟩, twice_mk fun u j i u1 u2 j1 j2 i2 h4 h5 h6 => ?_, fun i i1 i2 h4 => ?_⟩
  · unfold okR
    rw [k0, kk 1 (by omega) (by omega), kk 2 (by omega) (by omega), kk 3 (by omega) (by omega)]
    omega
  · rw [kk 4 (by omega) (by omega)]; exact a2
  · rw [kk 5 (by omega) (by omega), kk 6 (by omega) (by omega)]; exact a3
  · rw [kk 7 (by omega) (by omega)]; exact a4
  · rw [k0] at i2
    by_cases c : i = r 0
    · subst c
      unfold okH
      have n0 : fl (apN r L w v p) (r 0) 0 = w := by rw [fn 0 (by omega) (by omega)]; rfl
      have n1 : fl (apN r L w v p) (r 0) 1 = v := by rw [fn 1 (by omega) (by omega)]; rfl
      have n2 : fl (apN r L w v p) (r 0) 2 = p := by rw [fn 2 (by omega) (by omega)]; rfl
      have n3 : fl (apN r L w v p) (r 0) 3 = 0 := by rw [fn 3 (by omega) (by omega)]; rfl
      have n4 : fl (apN r L w v p) (r 0) 4 = 0 := by rw [fn 4 (by omega) (by omega)]; rfl
      have n5 : fl (apN r L w v p) (r 0) 5 = L 5 := by rw [fn 5 (by omega) (by omega)]; rfl
      rw [n0, n1, n2, n3, n4, n5]
      refine ⟨hw, hv, hp, ⟨by decide, by decide⟩, ⟨by decide, by decide⟩, Or.inl rfl, hL.1, fun k k1 k2 => ?_, fun u u1 u2 => ?_⟩
      · have nk : fl (apN r L w v p) (r 0) (6 + k) = L (6 + k) := by rw [fn (6 + k) (by omega) (by omega), if_neg (by omega), if_neg (by omega), if_neg (by omega), if_pos (by omega)]
        rw [nk]
        exact hL.2 k k1 k2
      · have nk : fl (apN r L w v p) (r 0) ((14 + u) - 1) = 0 := by rw [fn _ (by omega) (by omega), if_neg (by omega), if_neg (by omega), if_neg (by omega), if_neg (by omega)]
        rw [nk]
        exact ⟨⟨by decide, by decide⟩, fun _ => rfl⟩
    · exact okH_ext (a5 i i1 (by omega)) (kk 2 (by omega) (by omega)) (fo i i1 (by omega))
  · rw [kk 1 (by omega) (by omega)] at k2
    exact okU_ext (a6 k k1 k2) (fun j j1 j2 => apN_r k1 ⟨j1, j2⟩)
  · rw [k0] at i2
    have hj : hds r j u = true := by
      rw [hds_ext (r := r) (i := j) (kk 3 (by omega) (by omega)) (kk 2 (by omega) (by omega)) (fo j j1 (by omega))] at h6
      exact h6
    unfold net at h4
    rw [kk 7 (by omega) (by omega), fo j j1 (by omega) 0 (by omega) (by omega)] at h4
    by_cases c : i = r 0
    · subst c
      have e := hdn u u1 h5
      subst e
      rw [fn 0 (by omega) (by omega), if_pos rfl] at h4
      have := hn j j1 j2 (by unfold onet; simp only [Bool.or_eq_true, decide_eq_true_eq] at h4 ⊢; omega)
      rw [this] at hj
      cases hj
    · have hi : hds r i u = true := by
        rw [hds_ext (r := r) (i := i) (kk 3 (by omega) (by omega)) (kk 2 (by omega) (by omega)) (fo i (by omega) (by omega))] at h5
        exact h5
      rw [fo i (by omega) (by omega) 0 (by omega) (by omega)] at h4
      exact twice_no ht ⟨u1, u2⟩ j1 j2 (by omega) h4 hi hj
  · rw [k0] at i2
    by_cases c : i = r 0
    · subst c
      rw [fn 3 (by omega) (by omega)]; rfl
    · rw [fo i i1 (by omega) 4 (by omega) (by omega)] at h4
      rw [fo i i1 (by omega) 3 (by omega) (by omega)]
      exact hP i i1 (by omega) h4
theorem hnet_no {r : Rw} {o v : Int} (h : hnet r o v = -1) : ∀ i, 0 ≤ i → i < r 0 → onet r i o = true → hds r i v = false := by
  intro i i1 i2 h1
  unfold hnet at h
  rw [fs_none (by omega)] at h
  have := h i i1 i2
  rw [h1, Bool.true_and] at this
  exact this
theorem drH_okS {r : Rw} {x : Int} (ho : okS r) (hx : 0 ≤ x ∧ x < r 0) : okS (drH r x) := by
  obtain ⟨⟨a1, a2, a3, a4, a5, a6⟩, ht, hP⟩ := ho
  unfold okR at a1
  have k0 : drH r x 0 = r 0 - 1 := by unfold drH; rw [mk_h (by omega), if_pos rfl]
  have kk : ∀ k, 0 < k → k < 16 → drH r x k = r k := fun k k1 k2 => by unfold drH; rw [mk_h k2, if_neg (by omega)]
  have fe : ∀ i, 0 ≤ i → i < r 0 - 1 → ∀ j, 0 ≤ j → j < 24 → fl (drH r x) i j = fl r (if x ≤ i then i + 1 else i) j := fun i i1 i2 j j1 j2 => by
    unfold drH
    rw [mk_f ⟨i1, by omega⟩ ⟨j1, j2⟩]
    by_cases c : x ≤ i
    · rw [if_pos c, if_pos c]
    · rw [if_neg c, if_neg c]
  have fr : ∀ i, 0 ≤ i → i < r 0 - 1 → 0 ≤ (if x ≤ i then i + 1 else i) ∧ (if x ≤ i then i + 1 else i) < r 0 := fun i i1 i2 => by split <;> omega
  refine ⟨⟨?_, ?_, ?_, ?_, fun i i1 i2 => ?_, fun k k1 k2 => ?_⟩, ?_, fun i i1 i2 h4 => ?_⟩
  · unfold okR
    rw [k0, kk 1 (by omega) (by omega), kk 2 (by omega) (by omega), kk 3 (by omega) (by omega)]
    omega
  · rw [kk 4 (by omega) (by omega)]; exact a2
  · rw [kk 5 (by omega) (by omega), kk 6 (by omega) (by omega)]; exact a3
  · rw [kk 7 (by omega) (by omega)]; exact a4
  · rw [k0] at i2
    exact okH_ext (a5 _ (fr i i1 i2).1 (fr i i1 i2).2) (kk 2 (by omega) (by omega)) (fe i i1 i2)
  · rw [kk 1 (by omega) (by omega)] at k2
    exact okU_ext (a6 k k1 k2) (fun j j1 j2 => mk_r k1 ⟨j1, j2⟩)
  · refine twice_map (fun i => if x ≤ i then i + 1 else i) (fun i i1 i2 => fr i i1 (by omega)) (fun i j j1 j2 i2 => ?_) (fun i v i1 i2 q => ?_) (fun i j i1 i2 j1 j2 q => ?_) ht
    · show (if x ≤ j then j + 1 else j) < (if x ≤ i then i + 1 else i)
      split <;> split <;> omega
    · rw [hds_ext (r := r) (kk 3 (by omega) (by omega)) (kk 2 (by omega) (by omega)) (fe i i1 (by omega))] at q
      exact q
    · unfold net at q ⊢
      rw [kk 7 (by omega) (by omega), fe i i1 (by omega) 0 (by omega) (by omega), fe j j1 (by omega) 0 (by omega) (by omega)] at q
      exact q
  · rw [k0] at i2
    rw [fe i i1 i2 4 (by omega) (by omega)] at h4
    rw [fe i i1 i2 3 (by omega) (by omega)]
    exact hP _ (fr i i1 i2).1 (fr i i1 i2).2 h4
theorem rules_okS {r s : Rw} (ho : okS r) (h : ∀ k, 0 ≤ k → k < 16 → k ≠ 1 → s k = r k) (h1 : 0 ≤ s 1 ∧ s 1 ≤ 30) (hf : ∀ i, 0 ≤ i → i < r 0 → ∀ j, 0 ≤ j → j < 24 → fl s i j = fl r i j) (hu : ∀ k, 0 ≤ k → k < s 1 → okU s k) : okS s := by
  obtain ⟨⟨a1, a2, a3, a4, a5, a6⟩, ht, hP⟩ := ho
  unfold okR at a1
  have e0 := h 0 (by omega) (by omega) (by omega)
  have e2 := h 2 (by omega) (by omega) (by omega)
  have e3 := h 3 (by omega) (by omega) (by omega)
  have e4 := h 4 (by omega) (by omega) (by omega)
  have e5 := h 5 (by omega) (by omega) (by omega)
  have e6 := h 6 (by omega) (by omega) (by omega)
  have e7 := h 7 (by omega) (by omega) (by omega)
  refine ⟨⟨by unfold okR; omega, by omega, by omega, by omega, fun i i1 i2 => okH_ext (a5 i i1 (by omega)) e2 (hf i i1 (by omega)), hu⟩, twice_map (fun i => i) (fun i i1 i2 => ⟨i1, by omega⟩) (fun i j _ q _ => q) (fun i v i1 i2 q => ?_) (fun i j i1 i2 j1 j2 q => ?_) ht, fun i i1 i2 h4 => ?_⟩
  · rw [hds_ext (r := r) e3 e2 (hf i i1 (by omega))] at q
    exact q
  · unfold net at q ⊢
    rw [e7, hf i i1 (by omega) 0 (by omega) (by omega), hf j j1 (by omega) 0 (by omega) (by omega)] at q
    exact q
  · rw [hf i i1 (by omega) 4 (by omega) (by omega)] at h4
    rw [hf i i1 (by omega) 3 (by omega) (by omega)]
    exact hP i i1 (by omega) h4
theorem apU_okS {r : Rw} {w a b c : Int} (ho : okS r) (h30 : r 1 < 30) (hw : w = 0 ∨ w = 1) (ha : a = 0 ∨ a = 1) (hb : 0 ≤ b ∧ b ≤ 250) (hc : 0 ≤ c ∧ c ≤ 250) : okS (apU r w a b c) := by
  have o1 := ho.1.1
  unfold okR at o1
  refine rules_okS ho (fun k k1 k2 k3 => apU_k k3 k2) (by rw [apU_1]; omega) (fun i i1 i2 j j1 j2 => apU_f ⟨i1, by omega⟩ ⟨j1, j2⟩) (fun k k1 k2 => ?_)
  rw [apU_1] at k2
  by_cases e : k = r 1
  · subst e
    unfold okU
    rw [apU_n k1 (by omega), apU_n k1 (by omega), apU_n k1 (by omega), apU_n k1 (by omega)]
    exact ⟨hw, ha, hb, hc⟩
  · exact okU_ext (ho.1.2.2.2.2.2 k k1 (by omega)) (fun j j1 j2 => apU_r k1 ⟨j1, j2⟩ e)
theorem drU_okS {r : Rw} {x : Int} (ho : okS r) (hx : 0 ≤ x ∧ x < r 1) : okS (drU r x) := by
  have o1 := ho.1.1
  unfold okR at o1
  have k1' : drU r x 1 = r 1 - 1 := by unfold drU; rw [mk_h (by omega), if_pos rfl]
  refine rules_okS ho (fun k k1 k2 k3 => by unfold drU; rw [mk_h k2, if_neg k3]) (by rw [k1']; omega) (fun i i1 i2 j j1 j2 => mk_f ⟨i1, by omega⟩ ⟨j1, j2⟩) (fun k k1 k2 => ?_)
  rw [k1'] at k2
  by_cases c : x ≤ k
  · exact okU_ext (ho.1.2.2.2.2.2 (k + 1) (by omega) (by omega)) (fun j j1 j2 => by unfold drU; rw [mk_r k1 ⟨j1, j2⟩, if_pos c])
  · exact okU_ext (ho.1.2.2.2.2.2 k k1 (by omega)) (fun j j1 j2 => by unfold drU; rw [mk_r k1 ⟨j1, j2⟩, if_neg c])
