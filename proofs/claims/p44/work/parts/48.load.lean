/-! a text as nets: what loading says, and the class's loading -/
abbrev PR : Type := Int × Int × Rw
def ldSemi (b : Int → Int) (n s : Int) (k : Int → PR) : PR := if isG b n s 59 = true then k (nx b n s) else (1, s, bgR)
def ldNum (b : Int → Int) (n lo hi s : Int) (k : Int → Int → PR) : PR := if nbE b n s lo hi = 0 then k (vM b n s) (nx b n s) else (nbE b n s lo hi, s, bgR)
def ldKeep (b : Int → Int) (n s : Int) (r : Rw) (k : Int → Rw → PR) : PR := if isW b n s 1 = true then ldNum b n 0 3 (nx b n s) (fun v s' => k s' (up r 3 v)) else k s r
def ldPer (b : Int → Int) (n s : Int) (r : Rw) (k : Int → Rw → PR) : PR := if isW b n s 2 = true then ldNum b n 1 9 (nx b n s) (fun v s' => k s' (up r 4 v)) else k s r
def ldPool (b : Int → Int) (n s : Int) (r : Rw) (k : Int → Rw → PR) : PR := if isW b n s 3 = true then ldNum b n 1 250 (nx b n s) (fun v s' => ldNum b n v 250 s' (fun v2 s2 => k s2 (up (up r 5 v) 6 v2))) else k s r
def tld (r : Rw) (o v : Int) : Int := fs (fun i => decide (fl r i 0 = o) && decide (fl r i 1 = v)) 0 (r 0)
def hnm (r : Rw) (b : Int → Int) (n s : Int) : Int := fs (nmd r b s (te b n s - s)) 0 (r 0)
def ldH3 (b : Int → Int) (n s1 o s3 : Int) (r : Rw) (k : Int → Rw → PR) : PR := if nbE b n s3 1 250 = 0 then (if tld r o (vM b n s3) = -1 then (if isW b n (nx b n s3) 5 = true then k (nx b n (nx b n s3)) (apN r (ltk b s1 (te b n s1 - s1)) o (vM b n s3) 1) else k (nx b n s3) (apN r (ltk b s1 (te b n s1 - s1)) o (vM b n s3) 0)) else (3, s3, bgR)) else (nbE b n s3 1 250, s3, bgR)
def ldHost (b : Int → Int) (n s : Int) (r : Rw) (k : Int → Rw → PR) : PR := if r 0 < 40 then (if kd b n (nx b n s) = 1 then (if te b n (nx b n s) - nx b n s ≤ 8 then (if hnm r b n (nx b n s) = -1 then ldNum b n 0 1 (nx b n (nx b n s)) (fun o s3 => ldH3 b n (nx b n s) o s3 r k) else (3, nx b n s, bgR)) else (2, nx b n s, bgR)) else (1, nx b n s, bgR)) else (3, s, bgR)
def ldSide (b : Int → Int) (n s : Int) (k : Int → Int → PR) : PR := if isW b n s 9 = true then k 0 (nx b n s) else ldNum b n 1 250 s k
def ldR2 (b : Int → Int) (n o a s : Int) (r : Rw) (k : Int → Rw → PR) : PR := ldSide b n s (fun x s4 => ldSide b n s4 (fun y s5 => k s5 (apU r o a x y)))
def ldRule (b : Int → Int) (n s : Int) (r : Rw) (k : Int → Rw → PR) : PR := if r 1 < 30 then ldNum b n 0 1 (nx b n s) (fun o s2 => if isW b n s2 7 = true then ldR2 b n o 1 (nx b n s2) r k else if isW b n s2 8 = true then ldR2 b n o 0 (nx b n s2) r k else (1, s2, bgR)) else (3, s, bgR)
def ldM3 (b : Int → Int) (n i v s3 : Int) (r : Rw) (k : Int → Rw → PR) : PR := if nbE b n s3 1 9 = 0 then (if pln r (vM b n s3) < r 4 then k (nx b n s3) (plR r i v (vM b n s3)) else (4, s3, bgR)) else (nbE b n s3 1 9, s3, bgR)
def ldMove (b : Int → Int) (n s : Int) (r : Rw) (k : Int → Rw → PR) : PR := if kd b n (nx b n s) = 1 then (if hnm r b n (nx b n s) = -1 then (4, nx b n s, bgR) else if fl r (hnm r b n (nx b n s)) 2 = 1 then (4, nx b n s, bgR) else if fl r (hnm r b n (nx b n s)) 4 = 0 then ldNum b n 1 250 (nx b n (nx b n s)) (fun v s3 => ldM3 b n (hnm r b n (nx b n s)) v s3 r k) else (4, nx b n s, bgR)) else (1, nx b n s, bgR)
def ldCl (b : Int → Int) (n : Int) : Nat → Int → Rw → PR
  | 0, s, r => (0, s, r)
  | f + 1, s, r => if kd b n s = 0 then (0, s, r) else if isW b n s 4 = true then ldHost b n s r (fun s' r' => ldSemi b n s' (fun s2 => ldCl b n f s2 r')) else if isW b n s 6 = true then ldRule b n s r (fun s' r' => ldSemi b n s' (fun s2 => ldCl b n f s2 r')) else if isW b n s 10 = true then ldMove b n s r (fun s' r' => ldSemi b n s' (fun s2 => ldCl b n f s2 r')) else (1, s, bgR)
theorem ldCl_s {b : Int → Int} {n s : Int} {f : Nat} {r : Rw} : ldCl b n (f + 1) s r = if kd b n s = 0 then (0, s, r) else if isW b n s 4 = true then ldHost b n s r (fun s' r' => ldSemi b n s' (fun s2 => ldCl b n f s2 r')) else if isW b n s 6 = true then ldRule b n s r (fun s' r' => ldSemi b n s' (fun s2 => ldCl b n f s2 r')) else if isW b n s 10 = true then ldMove b n s r (fun s' r' => ldSemi b n s' (fun s2 => ldCl b n f s2 r')) else (1, s, bgR) := rfl
def LD (b : Int → Int) (n : Int) : PR := if isW b n (ws b n 0) 0 = true then ldKeep b n (nx b n (ws b n 0)) bgR (fun s1 r1 => ldPer b n s1 r1 (fun s2 r2 => ldPool b n s2 r2 (fun s3 r3 => ldSemi b n s3 (fun s4 => ldCl b n 900 s4 r3)))) else (1, ws b n 0, bgR)
/-- rows while a text is read -/
def okL (r : Rw) : Prop := okS r ∧ r 2 = 0 ∧ r 7 = 0 ∧ ∀ i, 0 ≤ i → i < r 0 → 1 ≤ fl r i 5
def okE (r : Rw) : Prop := r 0 = 0 ∧ r 1 = 0 ∧ okL r
theorem okE_mk {r : Rw} (h0 : r 0 = 0) (h1 : r 1 = 0) (h2 : r 2 = 0) (h3 : 0 ≤ r 3 ∧ r 3 ≤ 3) (h4 : 1 ≤ r 4 ∧ r 4 ≤ 9) (h5 : 1 ≤ r 5 ∧ r 5 ≤ r 6 ∧ r 6 ≤ 250) (h7 : r 7 = 0) : okE r := by
  refine ⟨h0, h1, ⟨⟨?_, h4, h5, Or.inl h7, fun i i1 i2 => by omega, fun k k1 k2 => by omega⟩, twice_mk fun v j i v1 v2 j1 j2 i2 => by omega, fun i i1 i2 => by omega⟩, h2, h7, fun i i1 i2 => by omega⟩
  unfold okR
  omega
theorem okE_bg : okE bgR := by
  obtain ⟨e0, e1, e2, e3, e4, e5, e6, e7⟩ := bg_h
  exact okE_mk e0 e1 e2 (by omega) (by omega) (by omega) e7
theorem okE_h {r : Rw} (h : okE r) : (r 0 = 0 ∧ r 1 = 0 ∧ r 2 = 0 ∧ r 7 = 0) ∧ (0 ≤ r 3 ∧ r 3 ≤ 3) ∧ (1 ≤ r 4 ∧ r 4 ≤ 9) ∧ (1 ≤ r 5 ∧ r 5 ≤ r 6 ∧ r 6 ≤ 250) :=
  ⟨⟨h.1, h.2.1, h.2.2.2.1, h.2.2.2.2.1⟩, h.2.2.1.1.1.2.2.2, h.2.2.1.1.2.1, h.2.2.1.1.2.2.1⟩
theorem okE_u3 {r : Rw} {v : Int} (h : okE r) (hv : 0 ≤ v ∧ v ≤ 3) : okE (up r 3 v) := by
  obtain ⟨⟨e0, e1, e2, e7⟩, e3, e4, e5⟩ := okE_h h
  have u : ∀ j, 0 ≤ j → j ≠ 3 → up r 3 v j = r j := fun j j1 j2 => up_ne (by omega) j1 j2
  exact okE_mk (by rw [u 0 (by omega) (by omega)]; exact e0) (by rw [u 1 (by omega) (by omega)]; exact e1) (by rw [u 2 (by omega) (by omega)]; exact e2) (by rw [up_same]; exact hv) (by rw [u 4 (by omega) (by omega)]; exact e4) (by rw [u 5 (by omega) (by omega), u 6 (by omega) (by omega)]; exact e5) (by rw [u 7 (by omega) (by omega)]; exact e7)
theorem okE_u4 {r : Rw} {v : Int} (h : okE r) (hv : 1 ≤ v ∧ v ≤ 9) : okE (up r 4 v) := by
  obtain ⟨⟨e0, e1, e2, e7⟩, e3, e4, e5⟩ := okE_h h
  have u : ∀ j, 0 ≤ j → j ≠ 4 → up r 4 v j = r j := fun j j1 j2 => up_ne (by omega) j1 j2
  exact okE_mk (by rw [u 0 (by omega) (by omega)]; exact e0) (by rw [u 1 (by omega) (by omega)]; exact e1) (by rw [u 2 (by omega) (by omega)]; exact e2) (by rw [u 3 (by omega) (by omega)]; exact e3) (by rw [up_same]; exact hv) (by rw [u 5 (by omega) (by omega), u 6 (by omega) (by omega)]; exact e5) (by rw [u 7 (by omega) (by omega)]; exact e7)
theorem okE_u56 {r : Rw} {v w : Int} (h : okE r) (hv : 1 ≤ v ∧ v ≤ w ∧ w ≤ 250) : okE (up (up r 5 v) 6 w) := by
  obtain ⟨⟨e0, e1, e2, e7⟩, e3, e4, e5⟩ := okE_h h
  have u : ∀ j, 0 ≤ j → j ≠ 5 → j ≠ 6 → up (up r 5 v) 6 w j = r j := fun j j1 j2 j3 => by rw [up_ne (by omega) j1 j3, up_ne (by omega) j1 j2]
  exact okE_mk (by rw [u 0 (by omega) (by omega) (by omega)]; exact e0) (by rw [u 1 (by omega) (by omega) (by omega)]; exact e1) (by rw [u 2 (by omega) (by omega) (by omega)]; exact e2) (by rw [u 3 (by omega) (by omega) (by omega)]; exact e3) (by rw [u 4 (by omega) (by omega) (by omega)]; exact e4) (by rw [up_same, up_ne (by omega) (by omega) (by omega), up_same]; exact hv) (by rw [u 7 (by omega) (by omega) (by omega)]; exact e7)
theorem kept_0 {r : Rw} (h : okL r) {i : Int} (hi : 0 ≤ i ∧ i < r 0) : kept r i = 0 := by
  have := lat_le h.1.1 hi
  have := h.2.1
  unfold kept kp
  rw [if_pos (by omega)]
theorem hds_0 {r : Rw} (h : okL r) {i v : Int} (hi : 0 ≤ i ∧ i < r 0) (hv : 1 ≤ v) : hds r i v = decide (fl r i 1 = v) := by
  unfold hds
  rw [kept_0 h hi, decide_eq_false (show ¬ (0 : Int) = v by omega), Bool.or_false]
theorem hold_tld {r : Rw} (h : okL r) {o v : Int} (hv : 1 ≤ v) : hold r o v = tld r o v := by
  unfold hold tld
  exact fs_congr fun i i1 i2 => by rw [hds_0 h ⟨i1, i2⟩ hv]
theorem ltk_ok {b : Int → Int} {n s : Int} (h0 : 0 ≤ s) (hk : kd b n s = 1) (h8 : te b n s - s ≤ 8) : ((0 ≤ ltk b s (te b n s - s) 5 ∧ ltk b s (te b n s - s) 5 ≤ 8) ∧ ∀ k, 0 ≤ k → k < 8 → (k < ltk b s (te b n s - s) 5 → 97 ≤ ltk b s (te b n s - s) (6 + k) ∧ ltk b s (te b n s - s) (6 + k) ≤ 122) ∧ (ltk b s (te b n s - s) 5 ≤ k → ltk b s (te b n s - s) (6 + k) = 0)) ∧ 1 ≤ ltk b s (te b n s - s) 5 := by
  have hlt := te_lt (b := b) (n := n) h0 (kd_lt (b := b) (by omega))
  have e5 : ltk b s (te b n s - s) 5 = te b n s - s := by unfold ltk; rw [if_pos rfl]
  rw [e5]
  refine ⟨⟨by omega, fun k k1 k2 => ⟨fun c => ?_, fun c => ?_⟩⟩, by omega⟩
  · unfold ltk
    rw [if_neg (by omega), if_pos (by omega)]
    have := te_in h0 hk (i := s + (6 + k - 6)) (by omega) (by omega)
    unfold pL at this
    rw [Bool.and_eq_true, decide_eq_true_eq, decide_eq_true_eq] at this
    exact this
  · unfold ltk
    rw [if_neg (by omega), if_neg (by omega)]
theorem okL_apN {r : Rw} {L : Int → Int} {o v p : Int} (h : okL r) (h40 : r 0 < 40) (ho : o = 0 ∨ o = 1) (hv : 1 ≤ v ∧ v ≤ 250) (hp : p = 0 ∨ p = 1) (hL : ((0 ≤ L 5 ∧ L 5 ≤ 8) ∧ ∀ k, 0 ≤ k → k < 8 → (k < L 5 → 97 ≤ L (6 + k) ∧ L (6 + k) ≤ 122) ∧ (L 5 ≤ k → L (6 + k) = 0)) ∧ 1 ≤ L 5) (ht : tld r o v = -1) : okL (apN r L o v p) := by
  have o1 := h.1.1.1
  unfold okR at o1
  refine ⟨apN_okS h.1 h40 ho hv hp hL.1 (fun i i1 i2 h1 => ?_), ?_, ?_, fun i i1 i2 => ?_⟩
  · rw [hds_0 h ⟨i1, i2⟩ hv.1]
    unfold tld at ht
    rw [fs_none (by omega)] at ht
    have := ht i i1 i2
    unfold onet at h1
    rw [Bool.or_eq_true, decide_eq_true_eq, decide_eq_true_eq] at h1
    have h7 := h.2.2.1
    rw [decide_eq_true (show fl r i 0 = o by omega), Bool.true_and] at this
    exact this
  · rw [apN_k (by omega) (by omega)]; exact h.2.1
  · rw [apN_k (by omega) (by omega)]; exact h.2.2.1
  · rw [apN_0] at i2
    by_cases c : i = r 0
    · rw [c, apN_n ⟨o1.1.1, h40⟩ (by omega), if_neg (by omega), if_neg (by omega), if_neg (by omega), if_pos (by omega)]
      exact hL.2
    · rw [apN_f ⟨i1, by omega⟩ (by omega) c]
      exact h.2.2.2 i i1 (by omega)
theorem okL_apU {r : Rw} {o a x y : Int} (h : okL r) (h30 : r 1 < 30) (ho : o = 0 ∨ o = 1) (ha : a = 0 ∨ a = 1) (hx : 0 ≤ x ∧ x ≤ 250) (hy : 0 ≤ y ∧ y ≤ 250) : okL (apU r o a x y) := by
  have o1 := h.1.1.1
  unfold okR at o1
  refine ⟨apU_okS h.1 h30 ho ha hx hy, by rw [apU_k (by omega) (by omega)]; exact h.2.1, by rw [apU_k (by omega) (by omega)]; exact h.2.2.1, fun i i1 i2 => ?_⟩
  rw [apU_k (by omega) (by omega)] at i2
  rw [apU_f ⟨i1, by omega⟩ (by omega)]
  exact h.2.2.2 i i1 i2
theorem okL_pl {r : Rw} {x a w : Int} (h : okL r) (hx : 0 ≤ x ∧ x < r 0) (ha : 1 ≤ a ∧ a ≤ 250) (hw : 1 ≤ w ∧ w ≤ 9) : okL (plR r x a w) := by
  refine ⟨?_, by rw [plR_h hx.1 (by omega)]; exact h.2.1, by rw [plR_h hx.1 (by omega)]; exact h.2.2.1, fun i i1 i2 => ?_⟩
  · rcases plR_okS (a := a) (b := w) h.1 hx (by omega) (by omega) with q | q
    · exact q
    · omega
  · rw [plR_h hx.1 (by omega)] at i2
    rw [plR_n hx.1 i1 (by omega) (by omega)]
    exact h.2.2.2 i i1 i2
theorem hnm_r {r : Rw} {b : Int → Int} {n s : Int} : hnm r b n s = -1 ∨ (0 ≤ hnm r b n s ∧ hnm r b n s < r 0) := by
  have := fs_r (p := nmd r b s (te b n s - s)) (a := 0) (b := r 0) (Int.le_refl 0)
  unfold hnm
  omega
/-- what stays while the class loads -/
def frL (h h' : Hp) : Prop := h' 176 1 = h 176 1 ∧ ∀ p, p ≠ 176 → p ≠ 178 → ¬ (13 ≤ p ∧ p ≤ 25) → h' p = h p
theorem frL_T {h h' : Hp} (x : frT h h') : frL h h' := ⟨x.1, fun p p1 p2 _ => x.2 p p1 p2⟩
theorem frL_tr {h a c : Hp} (x : frL h a) (y : frL a c) : frL h c := ⟨y.1.trans x.1, fun p p1 p2 p3 => (y.2 p p1 p2 p3).trans (x.2 p p1 p2 p3)⟩
theorem frL_n {h h' : Hp} (f : ∀ p, ¬ (13 ≤ p ∧ p ≤ 25) → h' p = h p) : frL h h' := ⟨by rw [f 176 (by omega)], fun p _ _ p3 => f p p3⟩
theorem nets_T {h h' : Hp} {r : Rw} (hn : nets h 13 r) (x : frT h h') : nets h' 13 r := nets_frame hn (fun p p1 p2 => x.2 p (by omega) (by omega))
section LDC
variable {b : Int → Int} {n : Int} {R : PR} {Q : Int → Hp → Prop} {h0 : Hp}
/-- where reading goes on, and where it fails -/
def goC (b : Int → Int) (n : Int) (R : PR) (Q : Int → Hp → Prop) (h0 : Hp) (P : Rw → Prop) (s0 : Int) (k : Int → Rw → PR) : Prop := ∀ s' r' h', k s' r' = R → s0 ≤ s' → s' ≤ n → tkC h' b n s' → nets h' 13 r' → P r' → h' 178 2 = 0 → frL h0 h' → Q 1 h'
def noC (b : Int → Int) (n : Int) (R : PR) (Q : Int → Hp → Prop) (h0 : Hp) : Prop := ∀ h', ¬ R.1 = 0 → 0 ≤ R.2.1 → R.2.1 ≤ n → tkC h' b n R.2.1 → h' 178 2 = R.1 → frL h0 h' → Q 0 h'
theorem p2_readKeep {h : Hp} {s : Int} {r : Rw} {k : Int → Rw → PR} (he : eT b n) (ht : tkC h b n s) (s0 : 0 ≤ s) (s1 : s ≤ n) (hn : nets h 13 r) (ho : okE r) (h2 : h 178 2 = 0) (hf : frL h0 h) (hR : ldKeep b n s r k = R) (hy : goC b n R Q h0 okE s k) (hx : noC b n R Q h0) : mX2_readKeep h Q := by
  unfold mX2_readKeep
  unfold ldKeep at hR
  have a1 := nx_r (b := b) s0 s1
  refine p6_isWord (by omega) he ht s0 s1 ⟨fun c => p6_advance he ht s0 s1 fun g tg g1 gf => ?_, fun c => ?_⟩
  · have c' := b2i1.mp c
    rw [if_pos c'] at hR
    unfold ldNum at hR
    have a2 := nx_r (b := b) (show 0 ≤ nx b n s by omega) a1.2
    have fg : frT h g := ⟨g1, fun p p1 p2 => gf p p1⟩
    refine p2_takeNumber (by omega) (by omega) he tg (by omega) a1.2 (fun d q tq q2 q3 fq => ⟨fun _ m em => ?_, fun w => absurd w (by decide)⟩) (fun d q tq q2 fq => ⟨fun w => absurd rfl w, fun _ => ?_⟩)
    · rw [if_pos d] at hR
      have hv := nbE_0.mp d
      rw [q3] at em
      refine hy _ _ m hR (by omega) a2.2 ?_ ?_ (okE_u3 ho hv.2) ?_ ?_
      · exact tkC_fr tq (by rw [em, hu_q (by omega)]) (by rw [em, hu_q (by omega)])
      · rw [em]; exact nets_u3 (nets_T (nets_T hn fg) fq) ho.2.2.1.1.1
      · rw [em, hu_q (by omega)]; exact q2
      · exact frL_tr hf (frL_tr (frL_T fg) (frL_tr (frL_T fq) (frL_n fun p hp => by rw [em, hu_q (by omega)])))
    · rw [if_neg d] at hR
      rw [← hR] at hx
      exact hx q d (by show 0 ≤ nx b n s; omega) a1.2 tq q2 (frL_tr hf (frL_tr (frL_T fg) (frL_T fq)))
  · have c' := b2i0.mp c
    rw [c', if_neg (by decide)] at hR
    exact hy s r h hR (Int.le_refl s) s1 ht hn ho h2 hf
theorem nets_he {h : Hp} {o : Nat} {r : Rw} (e : okE r) (hd : h o 0 = r 0 ∧ h o 1 = r 1 ∧ h o 2 = r 2 ∧ h o 3 = r 3 ∧ h o 4 = r 4 ∧ h o 5 = r 5 ∧ h o 6 = r 6 ∧ h o 7 = r 7) : nets h o r := ⟨hd, fun i i1 i2 => by have := e.1; omega, fun q q1 q2 => by have := e.2.1; omega⟩
theorem p2_readPer {h : Hp} {s : Int} {r : Rw} {k : Int → Rw → PR} (he : eT b n) (ht : tkC h b n s) (s0 : 0 ≤ s) (s1 : s ≤ n) (hn : nets h 13 r) (ho : okE r) (h2 : h 178 2 = 0) (hf : frL h0 h) (hR : ldPer b n s r k = R) (hy : goC b n R Q h0 okE s k) (hx : noC b n R Q h0) : mX2_readPer h Q := by
  unfold mX2_readPer
  unfold ldPer at hR
  have a1 := nx_r (b := b) s0 s1
  refine p6_isWord (by omega) he ht s0 s1 ⟨fun c => p6_advance he ht s0 s1 fun g tg g1 gf => ?_, fun c => ?_⟩
  · have c' := b2i1.mp c
    rw [if_pos c'] at hR
    unfold ldNum at hR
    have a2 := nx_r (b := b) (show 0 ≤ nx b n s by omega) a1.2
    have fg : frT h g := ⟨g1, fun p p1 p2 => gf p p1⟩
    refine p2_takeNumber (by omega) (by omega) he tg (by omega) a1.2 (fun d q tq q2 q3 fq => ⟨fun _ m em => ?_, fun w => absurd w (by decide)⟩) (fun d q tq q2 fq => ⟨fun w => absurd rfl w, fun _ => ?_⟩)
    · rw [if_pos d] at hR
      have hv := nbE_0.mp d
      rw [q3] at em
      obtain ⟨g0, g1', g2, g3, g4, g5, g6, g7⟩ := (nets_T (nets_T hn fg) fq).1
      have u : ∀ j, 0 ≤ j → j ≠ 4 → up r 4 (vM b n (nx b n s)) j = r j := fun j j1 j2 => up_ne (by omega) j1 j2
      refine hy _ _ m hR (by omega) a2.2 ?_ (nets_he (okE_u4 ho hv.2) ?_) (okE_u4 ho hv.2) ?_ ?_
      · exact tkC_fr tq (by rw [em, hu_q (by omega)]) (by rw [em, hu_q (by omega)])
      · rw [em, u 0 (by omega) (by omega), u 1 (by omega) (by omega), u 2 (by omega) (by omega), u 3 (by omega) (by omega), u 5 (by omega) (by omega), u 6 (by omega) (by omega), u 7 (by omega) (by omega), up_same]
        refine ⟨?_, ?_, ?_, ?_, hu_same, ?_, ?_, ?_⟩ <;> (rw [hu_ne (by omega)]; assumption)
      · rw [em, hu_q (by omega)]; exact q2
      · exact frL_tr hf (frL_tr (frL_T fg) (frL_tr (frL_T fq) (frL_n fun p hp => by rw [em, hu_q (by omega)])))
    · rw [if_neg d] at hR
      rw [← hR] at hx
      exact hx q d (by show 0 ≤ nx b n s; omega) a1.2 tq q2 (frL_tr hf (frL_tr (frL_T fg) (frL_T fq)))
  · have c' := b2i0.mp c
    rw [c', if_neg (by decide)] at hR
    exact hy s r h hR (Int.le_refl s) s1 ht hn ho h2 hf
theorem p2_readPool {h : Hp} {s : Int} {r : Rw} {k : Int → Rw → PR} (he : eT b n) (ht : tkC h b n s) (s0 : 0 ≤ s) (s1 : s ≤ n) (hn : nets h 13 r) (ho : okE r) (h2 : h 178 2 = 0) (hf : frL h0 h) (hR : ldPool b n s r k = R) (hy : goC b n R Q h0 okE s k) (hx : noC b n R Q h0) : mX2_readPool h Q := by
  unfold mX2_readPool
  unfold ldPool at hR
  have a1 := nx_r (b := b) s0 s1
  refine p6_isWord (by omega) he ht s0 s1 ⟨fun c => p6_advance he ht s0 s1 fun g tg g1 gf => ?_, fun c => ?_⟩
  · have c' := b2i1.mp c
    rw [if_pos c'] at hR
    unfold ldNum at hR
    have a2 := nx_r (b := b) (show 0 ≤ nx b n s by omega) a1.2
    have fg : frT h g := ⟨g1, fun p p1 p2 => gf p p1⟩
    refine p2_takeNumber (by omega) (by omega) he tg (by omega) a1.2 (fun d q tq q2 q3 fq => ⟨fun _ m em => ?_, fun w => absurd w (by decide)⟩) (fun d q tq q2 fq => ⟨fun w => absurd rfl w, fun _ => ?_⟩)
    · rw [if_pos d] at hR
      dsimp only at hR
      have hv := nbE_0.mp d
      rw [q3] at em
      have fm : frL h m := frL_tr (frL_T fg) (frL_tr (frL_T fq) (frL_n fun p hp => by rw [em, hu_q (by omega)]))
      have tm : tkC m b n (nx b n (nx b n s)) := tkC_fr tq (by rw [em, hu_q (by omega)]) (by rw [em, hu_q (by omega)])
      have m5 : m 13 5 = vM b n (nx b n s) := by rw [em]; exact hu_same
      rw [m5]
      have a3 := nx_r (b := b) (show 0 ≤ nx b n (nx b n s) by omega) a2.2
      refine p2_takeNumber (by omega) (by omega) he tm (by omega) a2.2 (fun d2 q' tq' q2' q3' fq' => ⟨fun _ m' em' => ?_, fun w => absurd w (by decide)⟩) (fun d2 q' tq' q2' fq' => ⟨fun w => absurd rfl w, fun _ => ?_⟩)
      · rw [if_pos d2] at hR
        have hv2 := nbE_0.mp d2
        rw [q3'] at em'
        obtain ⟨g0, g1', g2, g3, g4, g5, g6, g7⟩ := (nets_T (nets_T hn fg) fq).1
        have e13 : q' 13 = m 13 := fq'.2 13 (by omega) (by omega)
        have u : ∀ j, 0 ≤ j → j ≠ 5 → j ≠ 6 → up (up r 5 (vM b n (nx b n s))) 6 (vM b n (nx b n (nx b n s))) j = r j := fun j j1 j2 j3 => by rw [up_ne (by omega) j1 j3, up_ne (by omega) j1 j2]
        have ok6 := okE_u56 (v := vM b n (nx b n s)) (w := vM b n (nx b n (nx b n s))) ho ⟨hv.2.1, hv2.2⟩
        refine hy _ _ m' hR (by omega) a3.2 ?_ (nets_he ok6 ?_) ok6 ?_ ?_
        · exact tkC_fr tq' (by rw [em', hu_q (by omega)]) (by rw [em', hu_q (by omega)])
        · rw [em', u 0 (by omega) (by omega) (by omega), u 1 (by omega) (by omega) (by omega), u 2 (by omega) (by omega) (by omega), u 3 (by omega) (by omega) (by omega), u 4 (by omega) (by omega) (by omega), u 7 (by omega) (by omega) (by omega), up_same, up_ne (k := 6) (j := 5) (by omega) (by omega) (by omega), up_same]
          refine ⟨?_, ?_, ?_, ?_, ?_, ?_, hu_same, ?_⟩
          · rw [hu_ne (by omega), e13, em, hu_ne (by omega)]; exact g0
          · rw [hu_ne (by omega), e13, em, hu_ne (by omega)]; exact g1'
          · rw [hu_ne (by omega), e13, em, hu_ne (by omega)]; exact g2
          · rw [hu_ne (by omega), e13, em, hu_ne (by omega)]; exact g3
          · rw [hu_ne (by omega), e13, em, hu_ne (by omega)]; exact g4
          · rw [hu_ne (by omega), e13]; exact m5
          · rw [hu_ne (by omega), e13, em, hu_ne (by omega)]; exact g7
        · rw [em', hu_q (by omega)]; exact q2'
        · exact frL_tr hf (frL_tr fm (frL_tr (frL_T fq') (frL_n fun p hp => by rw [em', hu_q (by omega)])))
      · rw [if_neg d2] at hR
        rw [← hR] at hx
        exact hx q' d2 (by show 0 ≤ nx b n (nx b n s); omega) a2.2 tq' q2' (frL_tr hf (frL_tr fm (frL_T fq')))
    · rw [if_neg d] at hR
      rw [← hR] at hx
      exact hx q d (by show 0 ≤ nx b n s; omega) a1.2 tq q2 (frL_tr hf (frL_tr (frL_T fg) (frL_T fq)))
  · have c' := b2i0.mp c
    rw [c', if_neg (by decide)] at hR
    exact hy s r h hR (Int.le_refl s) s1 ht hn ho h2 hf
/-- the class's failing ends -/
theorem noC_fail {h : Hp} {e s : Int} (ht : tkC h b n s) (s0 : 0 ≤ s) (s1 : s ≤ n) (he : ¬ e = 0) (hf : frL h0 h) (hR : (e, s, bgR) = R) (hx : noC b n R Q h0) : mX2_fail e h (fun z h' => Q z h') := by
  rw [← hR] at hx
  exact p2_fail (hx _ he s0 s1 (tkC_hu ht) hu_same (frL_tr hf (frL_T frT_hu)))
theorem p2_readHost {h : Hp} {s : Int} {r : Rw} {k : Int → Rw → PR} (he : eT b n) (ht : tkC h b n s) (s0 : 0 ≤ s) (s1 : s ≤ n) (hn : nets h 13 r) (ho : okL r) (h2 : h 178 2 = 0) (hf : frL h0 h) (hR : ldHost b n s r k = R) (hy : goC b n R Q h0 okL s k) (hx : noC b n R Q h0) : mX2_readHost h Q := by
  unfold mX2_readHost
  unfold ldHost at hR
  have o1 := ho.1.1.1
  unfold okR at o1
  have a1 := nx_r (b := b) s0 s1
  rw [hn.1.1]
  refine ⟨fun c0 => p6_advance he ht s0 s1 fun g tg g1 gf => ?_, fun c0 => noC_fail ht s0 s1 (by decide) hf (by rw [if_neg c0] at hR; exact hR) hx⟩
  rw [if_pos c0] at hR
  have fg : frT h g := ⟨g1, fun p p1 p2 => gf p p1⟩
  have ng := nets_T hn fg
  have a2 := nx_r (b := b) (show 0 ≤ nx b n s by omega) a1.2
  generalize hs1 : nx b n s = t at *
  rw [tg.2.2.1]
  refine ⟨fun c1 => ?_, fun c1 => noC_fail tg (by omega) a1.2 (by decide) (frL_tr hf (frL_T fg)) (by rw [if_neg c1] at hR; exact hR) hx⟩
  rw [if_pos c1] at hR
  refine p6_letters he tg (by omega) a1.2 ?_
  rw [if_pos c1]
  refine ⟨fun c2 => ?_, fun c2 => noC_fail tg (by omega) a1.2 (by decide) (frL_tr hf (frL_T fg)) (by rw [if_neg c2] at hR; exact hR) hx⟩
  rw [if_pos c2] at hR
  refine p6_asName he tg (by omega) a1.2 c1 ?_
  rw [if_pos c2]
  have hlt := te_lt (b := b) (n := n) (show 0 ≤ t by omega) (kd_lt (b := b) (by omega))
  have hlet : ∀ k, 0 ≤ k → k < te b n t - t → 97 ≤ b (t + k) ∧ b (t + k) ≤ 122 := fun k k1 k2 => by
    have := te_in (show 0 ≤ t by omega) c1 (i := t + k) (by omega) (by omega)
    unfold pL at this
    rw [Bool.and_eq_true, decide_eq_true_eq, decide_eq_true_eq] at this
    exact this
  have en : fs (fun i => decide (nm r i = nmLl (ltk b t (te b n t - t)))) 0 (r 0) = hnm r b n t := by
    unfold hnm
    exact fs_congr fun i i1 i2 => nm_nmd (ho.1.1.2.2.2.2.1 i i1 i2) (ho.2.2.2 i i1 i2) (by omega) hlet
  refine p3_hostNamed ng ho.1.1 ?_
  rw [en]
  refine ⟨fun c3 => ?_, fun c3 => noC_fail tg (by omega) a1.2 (by decide) (frL_tr hf (frL_T fg)) (by rw [if_neg c3] at hR; exact hR) hx⟩
  rw [if_pos c3] at hR
  refine p6_advance he tg (by omega) a1.2 fun q tq q1 qf => ?_
  have fq : frT h q := frT_tr fg ⟨q1, fun p p1 p2 => qf p p1⟩
  unfold ldNum at hR
  have a3 := nx_r (b := b) (show 0 ≤ nx b n t by omega) a2.2
  refine p2_takeNumber (by omega) (by omega) he tq (by omega) a2.2 (fun d q' tq' q2' q3' fq' => ⟨fun _ => ?_, fun w => absurd w (by decide)⟩) (fun d q' tq' q2' fq' => ⟨fun w => absurd rfl w, fun _ => ?_⟩)
  · rw [if_pos d] at hR
    unfold ldH3 at hR
    dsimp only at hR
    have hv := nbE_0.mp d
    have F' : frT h q' := frT_tr fq fq'
    generalize hs3 : nx b n (nx b n t) = u at *
    refine p2_isNumber (by omega) (by omega) tq' (by omega) a3.2 ?_
    have tm : tkC (hu q' 178 2 (nbE b n u 1 250)) b n u := tkC_hu tq'
    have Fm : frT h (hu q' 178 2 (nbE b n u 1 250)) := frT_tr F' frT_hu
    by_cases d2 : nbE b n u 1 250 = 0
    · rw [if_pos d2]
      rw [if_pos d2] at hR
      have hv2 := nbE_0.mp d2
      refine ⟨fun _ => ?_, fun w => absurd w (by decide)⟩
      have e6 : hu q' 178 2 (nbE b n u 1 250) 176 6 = vM b n u := by
        rw [tm.2.2.2.2, if_pos hv2.1]
        exact vC_in (by omega) a3.2 hv2.1 (by omega) hv2.2.2
      have nm' := nets_T hn Fm
      rw [q3', e6]
      refine p3_holderInOffice nm' ho.1.1 ?_
      have eh : fs (fun i => decide (fl r i 0 = vM b n (nx b n t)) && hds r i (vM b n u)) 0 (r 0) = tld r (vM b n (nx b n t)) (vM b n u) := hold_tld ho hv2.2.1
      rw [eh]
      refine ⟨fun c4 => ?_, fun c4 => noC_fail tm (by omega) a3.2 (by decide) (frL_tr hf (frL_T Fm)) (by rw [if_neg c4] at hR; exact hR) hx⟩
      rw [if_pos c4] at hR
      refine p3_appendHost nm' ho.1.1.1 c0 rfl fun m nmm fm => ?_
      have Fm2 : frL h m := frL_tr (frL_T Fm) (frL_n fun p hp => fm p (by omega))
      have tmm : tkC m b n u := tkC_fr tm (fm 176 (by omega)) (fm 177 (by omega))
      have a4 := nx_r (b := b) (show 0 ≤ u by omega) a3.2
      have m2 : m 178 2 = 0 := by rw [fm 178 (by omega), hu_same]; exact d2
      refine p6_advance he tmm (by omega) a3.2 fun v tv v1 vf => ⟨fun w => by omega, fun _ => ?_⟩
      have Fv : frL h v := frL_tr Fm2 (frL_T ⟨v1, fun p p1 p2 => vf p p1⟩)
      have okN : ∀ p, p = 0 ∨ p = 1 → okL (apN r (ltk b t (te b n t - t)) (vM b n (nx b n t)) (vM b n u) p) := fun p hp => okL_apN ho c0 (by omega) hv2.2 hp (ltk_ok (by omega) c1 c2) c4
      have nv : nets v 13 (apN r (ltk b t (te b n t - t)) (vM b n (nx b n t)) (vM b n u) 0) := nets_frame nmm (fun p p1 p2 => vf p (by omega))
      refine p6_isWord (by omega) he tv (by omega) a4.2 ⟨fun c5 => ?_, fun c5 => ⟨⟨by omega, by omega⟩, fun x ex => ?_⟩⟩
      · have c5' := b2i0.mp c5
        rw [c5', if_neg (by decide)] at hR
        exact hy _ _ v hR (by omega) a4.2 tv nv (okN 0 (Or.inl rfl)) (by rw [vf 178 (by omega)]; exact m2) (frL_tr hf Fv)
      · have c5' := b2i1.mp c5
        rw [if_pos c5'] at hR
        have nx' : nets x 13 (sf (apN r (ltk b t (te b n t - t)) (vM b n (nx b n t)) (vM b n u) 0) (r 0) 2 1) := by
          rw [ex]
          exact nets_pin nv (okN 0 (Or.inl rfl)).1.1.1 (by rw [apN_0]; omega)
        have nx2 : nets x 13 (apN r (ltk b t (te b n t - t)) (vM b n (nx b n t)) (vM b n u) 1) := by
          refine nets_eqV nx' ⟨fun q q0 q1 => ?_, fun i i1 i2 j j1 j2 => ?_, fun q q0 q1 j j1 j2 => ?_⟩
          · rw [hd_sf (by omega) (by omega) ⟨q0, by omega⟩]
            by_cases z : q = 0
            · rw [z, apN_0, apN_0]
            · rw [apN_k (by omega) (by omega), apN_k (by omega) (by omega)]
          · rw [hd_sf (by omega) (by omega) (by omega), apN_0] at i2
            rw [fl_sf (by omega) (by omega) i1 ⟨j1, j2⟩]
            by_cases z : i = r 0
            · rw [z, apN_n ⟨by omega, c0⟩ ⟨j1, j2⟩, apN_n ⟨by omega, c0⟩ ⟨j1, j2⟩]
              by_cases y2 : j = 2
              · subst y2
                simp
              · simp [y2]
            · rw [if_neg (fun w => z w.1), apN_f ⟨i1, by omega⟩ ⟨j1, j2⟩ z, apN_f ⟨i1, by omega⟩ ⟨j1, j2⟩ z]
          · rw [rl_sf ⟨by omega, c0⟩ (by omega) q0 j1, apN_r q0 ⟨j1, j2⟩, apN_r q0 ⟨j1, j2⟩]
        have a5 := nx_r (b := b) (show 0 ≤ nx b n u by omega) a4.2
        refine p6_advance he (tkC_fr tv (by rw [ex, wr_q (by omega)]) (by rw [ex, wr_q (by omega)])) (by omega) a4.2 fun y ty y1 yf => hy _ _ y hR (by omega) a5.2 ty (nets_frame nx2 (fun p p1 p2 => yf p (by omega))) (okN 1 (Or.inr rfl)) ?_ ?_
        · rw [yf 178 (by omega), ex, wr_q (by omega), vf 178 (by omega)]; exact m2
        · exact frL_tr hf (frL_tr Fv (frL_tr (frL_n fun p hp => by rw [ex, wr_q (by omega)]) (frL_T ⟨y1, fun p p1 p2 => yf p p1⟩)))
    · rw [if_neg d2]
      rw [if_neg d2] at hR
      rw [← hR] at hx
      exact ⟨fun w => absurd rfl w, fun _ => hx _ d2 (by show 0 ≤ u; omega) a3.2 tm hu_same (frL_tr hf (frL_T Fm))⟩
  · rw [if_neg d] at hR
    rw [← hR] at hx
    exact hx q' d (by show 0 ≤ nx b n t; omega) a2.2 tq' q2' (frL_tr hf (frL_tr (frL_T fq) (frL_T fq')))
end LDC

