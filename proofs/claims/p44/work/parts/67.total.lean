/-! the whole text read -/
def HTf (o v : Int → Int) (p : Int → Bool) (i : Int) : Nat → List Int → List Int
  | 0, r => r
  | m + 1, r => hT i (o i) (v i) (p i) (HTf o v p (i + 1) m r)
def RTf (o : Int → Int) (a : Int → Bool) (x y : Int → Int) (i : Int) : Nat → List Int → List Int
  | 0, r => r
  | m + 1, r => rT (o i) (a i) (x i) (y i) (RTf o a x y (i + 1) m r)
theorem HTf_s {o v : Int → Int} {p : Int → Bool} : ∀ (m : Nat) (i : Int) (r : List Int), HTf o v p i (m + 1) r = HTf o v p i m (hT (i + m) (o (i + m)) (v (i + m)) (p (i + m)) r) := by
  intro m
  induction m with
  | zero => intro i r; rw [show i + ((0 : Nat) : Int) = i by omega]; rfl
  | succ m ih =>
    intro i r
    show hT i (o i) (v i) (p i) (HTf o v p (i + 1) (m + 1) r) = hT i (o i) (v i) (p i) (HTf o v p (i + 1) m _)
    rw [ih (i + 1) r, show i + 1 + (m : Int) = i + ((m + 1 : Nat) : Int) by omega]
theorem HTf_c {o v o2 v2 : Int → Int} {p p2 : Int → Bool} : ∀ (m : Nat) (i : Int) (r : List Int), (∀ j, i ≤ j → j < i + m → o2 j = o j ∧ v2 j = v j ∧ p2 j = p j) → HTf o2 v2 p2 i m r = HTf o v p i m r := by
  intro m
  induction m with
  | zero => intro i r _; rfl
  | succ m ih =>
    intro i r h
    obtain ⟨a, c, d⟩ := h i (Int.le_refl _) (by omega)
    show hT i (o2 i) (v2 i) (p2 i) (HTf o2 v2 p2 (i + 1) m r) = hT i (o i) (v i) (p i) (HTf o v p (i + 1) m r)
    rw [a, c, d, ih (i + 1) r (fun j j1 j2 => h j (by omega) (by omega))]
theorem RTf_s {o x y : Int → Int} {a : Int → Bool} : ∀ (m : Nat) (i : Int) (r : List Int), RTf o a x y i (m + 1) r = RTf o a x y i m (rT (o (i + m)) (a (i + m)) (x (i + m)) (y (i + m)) r) := by
  intro m
  induction m with
  | zero => intro i r; rw [show i + ((0 : Nat) : Int) = i by omega]; rfl
  | succ m ih =>
    intro i r
    show rT (o i) (a i) (x i) (y i) (RTf o a x y (i + 1) (m + 1) r) = rT (o i) (a i) (x i) (y i) (RTf o a x y (i + 1) m _)
    rw [ih (i + 1) r, show i + 1 + (m : Int) = i + ((m + 1 : Nat) : Int) by omega]
theorem RTf_c {o x y o2 x2 y2 : Int → Int} {a a2 : Int → Bool} : ∀ (m : Nat) (i : Int) (r : List Int), (∀ j, i ≤ j → j < i + m → o2 j = o j ∧ a2 j = a j ∧ x2 j = x j ∧ y2 j = y j) → RTf o2 a2 x2 y2 i m r = RTf o a x y i m r := by
  intro m
  induction m with
  | zero => intro i r _; rfl
  | succ m ih =>
    intro i r h
    obtain ⟨e1, e2, e3, e4⟩ := h i (Int.le_refl _) (by omega)
    show rT (o2 i) (a2 i) (x2 i) (y2 i) (RTf o2 a2 x2 y2 (i + 1) m r) = rT (o i) (a i) (x i) (y i) (RTf o a x y (i + 1) m r)
    rw [e1, e2, e3, e4, ih (i + 1) r (fun j j1 j2 => h j (by omega) (by omega))]
theorem rst_h {i o v : Int} {p : Bool} {r : List Int} : rst (hT i o v p r) := by
  unfold hT
  rw [wlS.1, wlc.2.2.2.2.1]
  exact ⟨hd_c (by decide), rfl⟩
theorem rst_r {o x y : Int} {a : Bool} {r : List Int} : rst (rT o a x y r) := by
  unfold rT
  rw [wlS.2.2.1, wlc.2.2.2.2.2.2.1]
  exact ⟨hd_c (by decide), rfl⟩
theorem rst_HT {o v : Int → Int} {p : Int → Bool} {i : Int} {m : Nat} {r : List Int} (h : rst r) : rst (HTf o v p i m r) := by
  cases m with
  | zero => exact h
  | succ m => exact rst_h
theorem rst_RT {o x y : Int → Int} {a : Int → Bool} {i : Int} {m : Nat} {r : List Int} (h : rst r) : rst (RTf o a x y i m r) := by
  cases m with
  | zero => exact h
  | succ m => exact rst_r
section PT
variable {b : Int → Int} {n : Int}
theorem pr_hosts {o v : Int → Int} {p : Int → Bool} : ∀ (m : Nat) (i s : Int) (r : Rw) (f : Nat) (rest : List Int), PS b n s (HTf o v p i m rest) → rst rest → PH o v r i → 0 ≤ i → i + m ≤ 26 → (∀ j, 0 ≤ j → j < i + m → (0 ≤ o j ∧ o j ≤ 1) ∧ 1 ≤ v j ∧ v j ≤ 60) → (∀ j k, 0 ≤ j → j < k → k < i + m → ¬ (o j = o k ∧ v j = v k)) → ∃ (s' : Int) (r' : Rw), PS b n s' rest ∧ PH o v r' (i + m) ∧ r' 1 = r 1 ∧ ldCl b n (f + m) s r = ldCl b n f s' r' := by
  intro m
  induction m with
  | zero =>
    intro i s r f rest P hR hr i0 i1 hb hd
    exact ⟨s, r, P, by rw [show i + ((0 : Nat) : Int) = i by omega]; exact hr, rfl, rfl⟩
  | succ m ih =>
    intro i s r f rest P hR hr i0 i1 hb hd
    have hi := hb i i0 (by omega)
    obtain ⟨s1, L, q, P1, L5, L6, e1⟩ := cl_host (f := f + m) P (rst_HT hR) ⟨i0, by omega⟩ hi.1 hi.2 hr (fun j j1 j2 => hd j i j1 j2 (by omega))
    obtain ⟨h0, h1, h2⟩ := hr
    have hr1 : PH o v (apN r L (o i) (v i) q) (i + 1) := by
      refine ⟨by rw [apN_0, h0], LIn_apN h1 (by omega) hi.2.2, fun j j1 j2 => ?_⟩
      by_cases e : j = r 0
      · have ej : j = i := by omega
        subst e
        rw [apN_n (by omega) (by omega), apN_n (by omega) (by omega), apN_n (by omega) (by omega), apN_n (by omega) (by omega)]
        simp only [h0]
        refine ⟨by simp, by simp, by simp [L5], by simp [L6]⟩
      · rw [apN_f (by omega) (by omega) e, apN_f (by omega) (by omega) e, apN_f (by omega) (by omega) e, apN_f (by omega) (by omega) e]
        exact h2 j j1 (by omega)
    obtain ⟨s2, r2, P2, hr2, e2, e3⟩ := ih (i + 1) s1 _ f rest P1 hR hr1 (by omega) (by omega) (fun j j1 j2 => hb j j1 (by omega)) (fun j k j1 jk k2 => hd j k j1 jk (by omega))
    refine ⟨s2, r2, P2, by rw [show i + ((m + 1 : Nat) : Int) = i + 1 + m by omega]; exact hr2, by rw [e2, apN_k (by omega) (by omega)], ?_⟩
    rw [show f + (m + 1) = f + m + 1 by omega, e1, e3]
theorem pr_rules {o x y : Int → Int} {a : Int → Bool} : ∀ (m : Nat) (i s : Int) (r : Rw) (f : Nat) (rest : List Int), PS b n s (RTf o a x y i m rest) → rst rest → LIn r → r 0 ≤ 40 → r 1 = i → 0 ≤ i → i + m ≤ 30 → (∀ j, 0 ≤ j → j < i + m → (0 ≤ o j ∧ o j ≤ 1) ∧ (0 ≤ x j ∧ x j ≤ 16) ∧ (0 ≤ y j ∧ y j ≤ 16)) → ∃ (s' : Int) (r' : Rw), PS b n s' rest ∧ LIn r' ∧ r' 0 = r 0 ∧ r' 1 = i + m ∧ ldCl b n (f + m) s r = ldCl b n f s' r' := by
  intro m
  induction m with
  | zero =>
    intro i s r f rest P hR hr h40 h1 i0 i1 hb
    exact ⟨s, r, P, hr, rfl, by omega, rfl⟩
  | succ m ih =>
    intro i s r f rest P hR hr h40 h1 i0 i1 hb
    have hi := hb i i0 (by omega)
    obtain ⟨s1, q, P1, e1⟩ := cl_rule (f := f + m) P (rst_RT hR) hi.1 hi.2.1 hi.2.2 (show r 1 < 30 by omega)
    have e0 : apU r (o i) q (x i) (y i) 0 = r 0 := apU_k (by omega) (by omega)
    have hr1 : LIn (apU r (o i) q (x i) (y i)) := by
      refine ⟨LI_of hr.1 (apU_k (by omega) (by omega)) (apU_k (by omega) (by omega)) id (fun j j1 j2 => ?_), fun j j1 j2 => ?_⟩
      · rw [e0] at j2
        exact ⟨⟨j1, j2⟩, fun c c1 c2 => apU_f ⟨j1, by omega⟩ ⟨c1, c2⟩⟩
      · rw [e0] at j2
        rw [apU_f ⟨j1, by omega⟩ (by omega)]
        exact hr.2 j j1 j2
    obtain ⟨s2, r2, P2, hr2, e2, e3, e4⟩ := ih (i + 1) s1 _ f rest P1 hR hr1 (by rw [e0]; exact h40) (by rw [apU_1, h1]) (by omega) (by omega) (fun j j1 j2 => hb j j1 (by omega))
    refine ⟨s2, r2, P2, hr2, by rw [e2, e0], by omega, ?_⟩
    rw [show f + (m + 1) = f + m + 1 by omega, e1, e4]
def hdT (K P A B : Int) (r : List Int) : List Int := wl 12 ++ ((32 :: DD K) ++ (wl 13 ++ ((32 :: DD P) ++ (wl 14 ++ ((32 :: DD A) ++ ((32 :: DD B) ++ (wl 15 ++ r)))))))
theorem num_st {v lo hi s : Int} {r : List Int} (p : PS b n s (DD v ++ r)) (hv : 0 ≤ v ∧ v ≤ 99) (hr : hdp pD r) (h : hdp pS (sk r)) (hb : lo ≤ v ∧ v ≤ hi) : PS b n (nx b n s) (sk r) ∧ ∀ k, ldNum b n lo hi s k = k v (nx b n s) :=
  ⟨(ldNum_DD p hv hr h hb (fun _ _ => (0, 0, bgR))).1, fun k => (ldNum_DD p hv hr h hb k).2⟩
theorem LD_T {K P A B : Int} {o v o2 x y : Int → Int} {p a : Int → Bool} {m q : Nat} (T : PS b n 0 (hdT K P A B (HTf o v p 0 m (RTf o2 a x y 0 q [])))) (hK : 0 ≤ K ∧ K ≤ 3) (hP : 1 ≤ P ∧ P ≤ 9) (hA : 1 ≤ A) (hAB : A ≤ B) (hB : B ≤ 60) (hm : m ≤ 20) (hq : q ≤ 20) (hb : ∀ j, 0 ≤ j → j < (m : Int) → (0 ≤ o j ∧ o j ≤ 1) ∧ 1 ≤ v j ∧ v j ≤ 60) (hd : ∀ j k, 0 ≤ j → j < k → k < (m : Int) → ¬ (o j = o k ∧ v j = v k)) (hb2 : ∀ j, 0 ≤ j → j < (q : Int) → (0 ≤ o2 j ∧ o2 j ≤ 1) ∧ (0 ≤ x j ∧ x j ≤ 16) ∧ (0 ≤ y j ∧ y j ≤ 16)) :
    ∃ (s' : Int) (r' : Rw), LD b n = (0, s', r') ∧ r' 0 = m ∧ r' 1 = q ∧ LIn r' := by
  unfold hdT at T
  rw [wlS.2.2.2.2.2.2.1, wlS.2.2.2.2.2.2.2.1, wlS.2.2.2.2.2.2.2.2, wlc.2.2.2.2.2.2.2.2.2.2, List.append_assoc] at T
  generalize hZ : HTf o v p 0 m (RTf o2 a x y 0 q []) = Z at T
  have hZr : rst Z := by rw [← hZ]; exact rst_HT (rst_RT ⟨trivial, rfl⟩)
  have T : PS b n 0 (wl 0 ++ (32 :: (wl 1 ++ (32 :: (DD K ++ (32 :: (wl 2 ++ (32 :: (DD P ++ (32 :: (wl 3 ++ (32 :: (DD A ++ (32 :: (DD B ++ (59 :: Z)))))))))))))))) := T
  have t0 : ∀ {l : List Int}, sk (wl 0 ++ l) = wl 0 ++ l := fun {l} => by rw [wlc.1]; rfl
  have T0 := ws_sk T (by rw [t0]; exact hd_wl (by decide))
  rw [t0] at T0
  generalize hs0 : ws b n 0 = s0 at T0
  obtain ⟨-, T1, w0⟩ := wd (by decide) T0 (hd_c (by decide)) (by rw [sk_32]; exact hd_wl (by decide))
  rw [sk_32] at T1
  obtain ⟨-, T2, w1⟩ := wd (by decide) T1 (hd_c (by decide)) (by rw [sk_32]; exact (DD_h (by omega)).1)
  rw [sk_32] at T2
  obtain ⟨T3, n3⟩ := num_st (lo := 0) (hi := 3) T2 (by omega) (hd_c (by decide)) (by rw [sk_32]; exact hd_wl (by decide)) hK
  rw [sk_32] at T3
  obtain ⟨-, T4, w4⟩ := wd (by decide) T3 (hd_c (by decide)) (by rw [sk_32]; exact (DD_h (by omega)).1)
  rw [sk_32] at T4
  obtain ⟨T5, n5⟩ := num_st (lo := 1) (hi := 9) T4 (by omega) (hd_c (by decide)) (by rw [sk_32]; exact hd_wl (by decide)) hP
  rw [sk_32] at T5
  obtain ⟨-, T6, w6⟩ := wd (by decide) T5 (hd_c (by decide)) (by rw [sk_32]; exact (DD_h (by omega)).1)
  rw [sk_32] at T6
  obtain ⟨T7, n7⟩ := num_st (lo := 1) (hi := 250) T6 (by omega) (hd_c (by decide)) (by rw [sk_32]; exact (DD_h (by omega)).1) (by omega)
  rw [sk_32] at T7
  obtain ⟨T8, n8⟩ := num_st (lo := A) (hi := 250) T7 (by omega) (hd_c (by decide)) (by rw [sk_59]; exact hd_c (by decide)) (by omega)
  rw [sk_59] at T8
  have T9 := fun k => semi_l T8 hZr.1 hZr.2 k
  have P9 := (T9 (fun _ => (0, 0, bgR))).1
  have r0 : (up (up (up (up bgR 3 K) 4 P) 5 A) 6 B) 0 = 0 := by
    rw [up_ne (by omega) (by omega) (by omega), up_ne (by omega) (by omega) (by omega), up_ne (by omega) (by omega) (by omega), up_ne (by omega) (by omega) (by omega)]; exact bg_h.1
  have r1 : (up (up (up (up bgR 3 K) 4 P) 5 A) 6 B) 1 = 0 := by
    rw [up_ne (by omega) (by omega) (by omega), up_ne (by omega) (by omega) (by omega), up_ne (by omega) (by omega) (by omega), up_ne (by omega) (by omega) (by omega)]; exact bg_h.2.1
  have r6 : (up (up (up (up bgR 3 K) 4 P) 5 A) 6 B) 6 = B := up_same
  have start : LD b n = ldCl b n ((900 - m - q) + q + m) (nx b n (nx b n (nx b n (nx b n (nx b n (nx b n (nx b n (nx b n (nx b n s0))))))))) (up (up (up (up bgR 3 K) 4 P) 5 A) 6 B) := by
    rw [show 900 - m - q + q + m = 900 by omega]
    have k1 : ∀ r k, ldKeep b n (nx b n s0) r k = k (nx b n (nx b n (nx b n s0))) (up r 3 K) := fun r k => by
      unfold ldKeep
      rw [w1, if_pos (by decide), n3]
    have k2 : ∀ r k, ldPer b n (nx b n (nx b n (nx b n s0))) r k = k (nx b n (nx b n (nx b n (nx b n (nx b n s0))))) (up r 4 P) := fun r k => by
      unfold ldPer
      rw [w4, if_pos (by decide), n5]
    have k3 : ∀ r k, ldPool b n (nx b n (nx b n (nx b n (nx b n (nx b n s0))))) r k = k (nx b n (nx b n (nx b n (nx b n (nx b n (nx b n (nx b n (nx b n s0)))))))) (up (up r 5 A) 6 B) := fun r k => by
      unfold ldPool
      rw [w6, if_pos (by decide), n7]
      exact n8 _
    unfold LD
    rw [hs0, w0, if_pos (by decide)]
    exact (k1 _ _).trans ((k2 _ _).trans ((k3 _ _).trans (T9 (fun s4 => ldCl b n 900 s4 (up (up (up (up bgR 3 K) 4 P) 5 A) 6 B))).2))
  generalize nx b n (nx b n (nx b n (nx b n (nx b n (nx b n (nx b n (nx b n (nx b n s0)))))))) = s9 at P9 start
  rw [← hZ] at P9
  have hPH : PH o v (up (up (up (up bgR 3 K) 4 P) 5 A) 6 B) 0 := ⟨r0, ⟨⟨by rw [r6]; exact hB, fun i i1 i2 => by rw [r0] at i2; omega⟩, fun i i1 i2 => by rw [r0] at i2; omega⟩, fun i i1 i2 => by omega⟩
  obtain ⟨s10, r10, P10, h10, e10, l10⟩ := pr_hosts (f := (900 - m - q) + q) m 0 s9 _ _ P9 (rst_RT ⟨trivial, rfl⟩) hPH (by omega) (by omega) (fun j j1 j2 => hb j j1 (by omega)) (fun j k j1 jk k2 => hd j k j1 jk (by omega))
  obtain ⟨s11, r11, P11, h11, e11, g11, l11⟩ := pr_rules (f := 900 - m - q) q 0 s10 r10 _ P10 ⟨trivial, rfl⟩ h10.2.1 (by rw [h10.1]; omega) (by rw [e10, r1]) (by omega) (by omega) (fun j j1 j2 => hb2 j j1 (by omega))
  refine ⟨s11, r11, ?_, by rw [e11, h10.1]; omega, by rw [g11]; omega, h11⟩
  rw [start, l10, l11, show 900 - m - q = (899 - m - q) + 1 by omega, ldCl_s, if_pos (kd_0.mpr (by have := PS_e P11; omega))]
end PT
