/-! how such a text is read -/
def PS (b : Int → Int) (n s : Int) (l : List Int) : Prop := 0 ≤ s ∧ n = s + l.length ∧ ∀ i : Nat, i < l.length → b (s + i) = l.getD i 0
def hdp (p : Int → Bool) : List Int → Prop
  | [] => True
  | c :: _ => p c = false
def sk : List Int → List Int
  | [] => []
  | c :: r => if c = 32 then r else c :: r
section PA
variable {b : Int → Int} {n s : Int}
theorem PS_0 {c : Int} {l : List Int} (p : PS b n s (c :: l)) : b s = c ∧ s < n ∧ PS b n (s + 1) l := by
  obtain ⟨p0, p1, p2⟩ := p
  rw [List.length_cons] at p1
  refine ⟨by have := p2 0 (by simp); rw [show s + ((0 : Nat) : Int) = s by omega] at this; exact this, by omega, by omega, by omega, fun i hi => ?_⟩
  have := p2 (i + 1) (by simp; exact hi)
  rw [show s + ((i + 1 : Nat) : Int) = s + 1 + i by omega] at this
  exact this
theorem PS_e (p : PS b n s []) : n = s := by have := p.2.1; simp at this; exact this
theorem PS_app : ∀ (w : List Int) {s : Int} {l : List Int}, PS b n s (w ++ l) → PS b n (s + w.length) l := by
  intro w
  induction w with
  | nil => intro s l p; rw [show s + ((([] : List Int)).length : Int) = s by simp]; exact p
  | cons c w ih =>
    intro s l p
    have := ih (PS_0 p).2.2
    rw [show s + ((c :: w).length : Int) = s + 1 + w.length by simp; omega]
    exact this
theorem PS_get : ∀ (w : List Int) {s : Int} {l : List Int}, PS b n s (w ++ l) → ∀ i : Nat, i < w.length → b (s + i) = w.getD i 0 := by
  intro w s l p i hi
  have := p.2.2 i (by rw [List.length_append]; omega)
  rw [this, List.getD_eq_getElem?_getD, List.getElem?_append_left hi, ← List.getD_eq_getElem?_getD]
theorem rn_w {p : Int → Bool} : ∀ (w : List Int) {s : Int} {r : List Int}, PS b n s (w ++ r) → (∀ c ∈ w, p c = true) → hdp p r → rn p b s n = s + w.length := by
  intro w
  induction w with
  | nil =>
    intro s r q _ hr
    have q : PS b n s r := q
    unfold rn
    cases r with
    | nil =>
      rw [fs_end (by have := PS_e q; omega), if_pos rfl, PS_e q]
      simp
    | cons c r =>
      obtain ⟨h1, h2, h3⟩ := PS_0 q
      have q0 := q.1
      have hr : p c = false := hr
      rw [fs_hit h2 (by rw [h1, hr]; rfl), if_neg (by omega)]
      simp
  | cons c w ih =>
    intro s r q hw hr
    obtain ⟨h1, h2, h3⟩ := PS_0 q
    have := ih h3 (fun c hc => hw c (List.mem_cons_of_mem _ hc)) hr
    unfold rn at this ⊢
    rw [fs_skip h2 (by rw [h1, hw c List.mem_cons_self]; rfl), this]
    simp
    omega
theorem ws_sk {l : List Int} (p : PS b n s l) (h : hdp pS (sk l)) : PS b n (ws b n s) (sk l) := by
  unfold ws
  cases l with
  | nil =>
    have := rn_w (p := pS) [] p (fun c hc => by cases hc) trivial
    rw [this]
    have q : PS b n (s + ((([] : List Int)).length : Int)) [] := PS_app [] p
    exact q
  | cons c r =>
    by_cases e : c = 32
    · have e1 : sk (c :: r) = r := if_pos e
      rw [e1] at h ⊢
      have := rn_w (p := pS) [c] (r := r) p (fun d hd => by rw [List.mem_singleton.mp hd, e]; decide) h
      rw [this]
      exact (PS_0 p).2.2
    · have e1 : sk (c :: r) = c :: r := if_neg e
      rw [e1] at h ⊢
      have := rn_w (p := pS) [] (r := c :: r) p (fun d hd => by cases hd) h
      rw [this]
      exact PS_app [] p
theorem tk_w {w r : List Int} (p : PS b n s (w ++ r)) (h0 : w ≠ []) (hw : ∀ c ∈ w, pL c = true) (hr : hdp pL r) : kd b n s = 1 ∧ te b n s = s + w.length := by
  cases w with
  | nil => exact absurd rfl h0
  | cons c w =>
    obtain ⟨h1, h2, h3⟩ := PS_0 p
    have hc := hw c List.mem_cons_self
    refine ⟨?_, ?_⟩
    · unfold kd; rw [if_neg (by omega), h1, if_pos hc]
    · unfold te; rw [if_neg (by omega), h1, if_pos hc]; exact rn_w (c :: w) p hw hr
theorem tk_d {w r : List Int} (p : PS b n s (w ++ r)) (h0 : w ≠ []) (hw : ∀ c ∈ w, pD c = true) (hr : hdp pD r) : kd b n s = 2 ∧ te b n s = s + w.length := by
  cases w with
  | nil => exact absurd rfl h0
  | cons c w =>
    obtain ⟨h1, h2, h3⟩ := PS_0 p
    have hc := hw c List.mem_cons_self
    have hn : pL c = false := by unfold pD at hc; unfold pL; simp at hc ⊢; omega
    refine ⟨?_, ?_⟩
    · unfold kd; rw [if_neg (by omega), h1, if_neg (by rw [hn]; decide), if_pos hc]
    · unfold te; rw [if_neg (by omega), h1, if_neg (by rw [hn]; decide), if_pos hc]; exact rn_w (c :: w) p hw hr
theorem tk_s {c : Int} {r : List Int} (p : PS b n s (c :: r)) (h1 : pL c = false) (h2 : pD c = false) : kd b n s = 3 ∧ te b n s = s + 1 := by
  obtain ⟨q1, q2, q3⟩ := PS_0 p
  refine ⟨?_, ?_⟩
  · unfold kd; rw [if_neg (by omega), q1, if_neg (by rw [h1]; decide), if_neg (by rw [h2]; decide)]
  · unfold te; rw [if_neg (by omega), q1, if_neg (by rw [h1]; decide), if_neg (by rw [h2]; decide)]
theorem nx_w {w r : List Int} (p : PS b n s (w ++ r)) (ht : te b n s = s + w.length) (h : hdp pS (sk r)) : PS b n (nx b n s) (sk r) := by
  unfold nx
  rw [ht]
  exact ws_sk (PS_app w p) h
theorem isW_l {w r : List Int} (p : PS b n s (w ++ r)) (h0 : w ≠ []) (hw : ∀ c ∈ w, pL c = true) (hr : hdp pL r) (w0 : Nat) : isW b n s w0 = decide (w = wl w0) := by
  obtain ⟨h1, h2⟩ := tk_w p h0 hw hr
  have e := wl_len (w := w0)
  have key : isW b n s w0 = true ↔ w = wl w0 := by
    unfold isW
    rw [h1, h2, decide_eq_true rfl, Bool.true_and, Bool.and_eq_true, decide_eq_true_eq, decide_eq_true_eq, fs_none (by omega)]
    constructor
    · rintro ⟨q1, q2⟩
      have hl : w.length = (wl w0).length := by omega
      refine List.ext_getElem hl (fun i i1 i2 => ?_)
      have a := q2 i (by omega) (by omega)
      rw [PS_get w p i i1, ← wl_get i2] at a
      simp only [Bool.not_eq_false', decide_eq_true_eq] at a
      rw [List.getD_eq_getElem?_getD, List.getD_eq_getElem?_getD, List.getElem?_eq_getElem i1, List.getElem?_eq_getElem i2] at a
      exact a
    · intro q
      refine ⟨by rw [q]; omega, fun i i1 i2 => ?_⟩
      have hi : i.toNat < w.length := by rw [q]; omega
      have a := PS_get w p i.toNat hi
      have c := wl_get (w := w0) (i := i.toNat) (by rw [← q]; exact hi)
      rw [show ((i.toNat : Nat) : Int) = i by omega] at a c
      rw [a, q, c, decide_eq_true rfl]
      rfl
  cases h : isW b n s w0 with
  | true => rw [decide_eq_true (key.mp h)]
  | false => rw [decide_eq_false (fun q => by rw [key.mpr q] at h; cases h)]
theorem isW_n {w0 : Nat} (h : ¬ kd b n s = 1) : isW b n s w0 = false := by
  cases q : isW b n s w0 with
  | false => rfl
  | true => exact absurd (isW_kd q) h
theorem DD_d {v : Int} (hv : 0 ≤ v ∧ v ≤ 99) : DD v ≠ [] ∧ ∀ c ∈ DD v, pD c = true := by
  unfold DD
  split
  · exact ⟨by simp, fun c hc => by rw [List.mem_singleton.mp hc]; unfold pD; simp; omega⟩
  · refine ⟨by simp, fun c hc => ?_⟩
    rcases List.mem_cons.mp hc with e | hc
    · rw [e]; unfold pD; simp; omega
    · rw [List.mem_singleton.mp hc]; unfold pD; simp; omega
theorem num_DD {v : Int} {r : List Int} (p : PS b n s (DD v ++ r)) (hv : 0 ≤ v ∧ v ≤ 99) (hr : hdp pD r) : kd b n s = 2 ∧ te b n s = s + (DD v).length ∧ vM b n s = v := by
  obtain ⟨d0, d1⟩ := DD_d hv
  obtain ⟨h1, h2⟩ := tk_d p d0 d1 hr
  refine ⟨h1, h2, ?_⟩
  unfold vM
  rw [h2, show (s + (DD v).length - s).toNat = (DD v).length by omega]
  have g := PS_get (DD v) p
  unfold DD at g ⊢
  by_cases c : v < 10
  · rw [if_pos c] at g ⊢
    have g0 := g 0 (by simp)
    rw [show s + ((0 : Nat) : Int) = s by omega] at g0
    show vaM b 0 s 1 = v
    show (if (0 : Int) ≤ 9999999 then 10 * 0 + b s - 48 else 0) = v
    rw [if_pos (by decide), g0]
    show 10 * 0 + (48 + v) - 48 = v
    omega
  · rw [if_neg c] at g ⊢
    have g0 := g 0 (by simp)
    have g1 := g 1 (by simp)
    rw [show s + ((0 : Nat) : Int) = s by omega] at g0
    rw [show s + ((1 : Nat) : Int) = s + 1 by omega] at g1
    have g0 : b s = 48 + v / 10 := g0
    have g1 : b (s + 1) = 48 + v % 10 := g1
    show vaM b 0 s 2 = v
    show (if (if (0 : Int) ≤ 9999999 then 10 * 0 + b s - 48 else 0) ≤ 9999999 then 10 * (if (0 : Int) ≤ 9999999 then 10 * 0 + b s - 48 else 0) + b (s + 1) - 48 else (if (0 : Int) ≤ 9999999 then 10 * 0 + b s - 48 else 0)) = v
    rw [if_pos (show (0 : Int) ≤ 9999999 by decide), g0, g1, if_pos (by omega)]
    omega
theorem ldNum_DD {v lo hi : Int} {r : List Int} (p : PS b n s (DD v ++ r)) (hv : 0 ≤ v ∧ v ≤ 99) (hr : hdp pD r) (h : hdp pS (sk r)) (hb : lo ≤ v ∧ v ≤ hi) (k : Int → Int → PR) : PS b n (nx b n s) (sk r) ∧ ldNum b n lo hi s k = k v (nx b n s) := by
  obtain ⟨h1, h2, h3⟩ := num_DD p hv hr
  refine ⟨nx_w p h2 h, ?_⟩
  unfold ldNum
  rw [if_pos (nbE_0.mpr ⟨h1, by rw [h3]; exact hb⟩), h3]
theorem semi_l {r : List Int} (p : PS b n s (59 :: r)) (h : hdp pS r) (h2 : sk r = r) (k : Int → PR) : PS b n (nx b n s) r ∧ ldSemi b n s k = k (nx b n s) := by
  obtain ⟨h1, h3⟩ := tk_s p (by decide) (by decide)
  have q := nx_w (w := [59]) (r := r) p (by rw [h3]; rfl) (by rw [h2]; exact h)
  rw [h2] at q
  refine ⟨q, ?_⟩
  unfold ldSemi isG
  rw [if_pos (by rw [h1, (PS_0 p).1]; rfl)]
/-- the rest begins with neither space nor figure nor letter's tail: a clause, or nothing -/
def rst (r : List Int) : Prop := hdp pS r ∧ sk r = r
theorem DD_h {v : Int} {r : List Int} (hv : 0 ≤ v ∧ v ≤ 99) : hdp pS (DD v ++ r) ∧ hdp pL (DD v ++ r) := by
  unfold DD
  split
  · exact ⟨by show pS (48 + v) = false; unfold pS; simp; omega, by show pL (48 + v) = false; unfold pL; simp; omega⟩
  · exact ⟨by show pS (48 + v / 10) = false; unfold pS; simp; omega, by show pL (48 + v / 10) = false; unfold pL; simp; omega⟩
theorem sk_c {c : Int} {r : List Int} : sk (c :: r) = if c = 32 then r else c :: r := rfl
theorem hd_c {p : Int → Bool} {c : Int} {r : List Int} (h : p c = false) : hdp p (c :: r) := h
theorem sk_32 {r : List Int} : sk (32 :: r) = r := by rw [sk_c, if_pos rfl]
theorem sk_59 {r : List Int} : sk (59 :: r) = 59 :: r := by rw [sk_c, if_neg (by decide)]
/-! the clauses -/
def hT (i o v : Int) (p : Bool) (r : List Int) : List Int := wl 16 ++ ([97 + i] ++ ((32 :: DD o) ++ ((32 :: DD v) ++ (wl (if p then 17 else 15) ++ r))))
def sT (x : Int) (r : List Int) : List Int := (if x = 0 then wl 21 else 32 :: DD x) ++ r
def rT (o : Int) (a : Bool) (x y : Int) (r : List Int) : List Int := wl 18 ++ ((32 :: DD o) ++ (wl (if a then 19 else 20) ++ sT x (sT y (wl 15 ++ r))))
def LIn (r : Rw) : Prop := LI r ∧ ∀ i, 0 ≤ i → i < r 0 → fl r i 4 = 0
theorem LIn_apN {r : Rw} {L : Int → Int} {o v p : Int} (l : LIn r) (h0 : 0 ≤ r 0 ∧ r 0 < 40) (hv : v ≤ 60) : LIn (apN r L o v p) := by
  obtain ⟨l, l4⟩ := l
  refine ⟨⟨by rw [apN_k (by omega) (by omega)]; exact l.1, fun i i1 i2 => ?_⟩, fun i i1 i2 => ?_⟩
  · rw [apN_0] at i2
    by_cases e : i = r 0
    · subst e
      unfold LH
      rw [apN_n h0 (by omega), apN_n h0 (by omega), apN_n h0 (by omega), apN_n h0 (by omega)]
      refine ⟨⟨by simp; omega, by simp, fun w w1 w2 => ?_⟩, fun q => by simp at q⟩
      rw [apN_n h0 (by omega), if_neg (by omega), if_neg (by omega), if_neg (by omega), if_neg (by omega)]
      decide
    · exact LH_of (l.2 i i1 (by omega)) (apN_k (by omega) (by omega)) (fun j j1 j2 => apN_f (by omega) ⟨j1, j2⟩ e)
  · rw [apN_0] at i2
    by_cases e : i = r 0
    · subst e
      rw [apN_n h0 (by omega)]
      simp
    · rw [apN_f (by omega) (by omega) e]
      exact l4 i i1 (by omega)
/-- the hosts read so far -/
def PH (o v : Int → Int) (r : Rw) (m : Int) : Prop := r 0 = m ∧ LIn r ∧ ∀ i, 0 ≤ i → i < m → fl r i 0 = o i ∧ fl r i 1 = v i ∧ fl r i 5 = 1 ∧ fl r i 6 = 97 + i
theorem wlc : wl 0 = [110, 101, 116, 115] ∧ wl 1 = [107, 101, 101, 112] ∧ wl 2 = [112, 101, 114] ∧ wl 3 = [112, 111, 111, 108] ∧ wl 4 = [104, 111, 115, 116] ∧ wl 5 = [112, 105, 110, 110, 101, 100] ∧ wl 6 = [114, 117, 108, 101] ∧ wl 7 = [97, 108, 108, 111, 119] ∧ wl 8 = [100, 101, 110, 121] ∧ wl 9 = [97, 110, 121] ∧ wl 15 = [59] := by decide
theorem wlL : ∀ w : Fin 11, wl w.val ≠ [] ∧ ∀ c ∈ wl w.val, pL c = true := by decide
theorem wlS : wl 16 = wl 4 ++ [32] ∧ wl 17 = 32 :: (wl 5 ++ [59]) ∧ wl 18 = wl 6 ∧ wl 19 = 32 :: wl 7 ∧ wl 20 = 32 :: wl 8 ∧ wl 21 = 32 :: wl 9 ∧ wl 12 = wl 0 ++ (32 :: wl 1) ∧ wl 13 = 32 :: wl 2 ∧ wl 14 = 32 :: wl 3 := by decide
/-- a word of the reader's own -/
theorem wd {w0 : Nat} {r : List Int} (h : w0 < 11) (p : PS b n s (wl w0 ++ r)) (hr : hdp pL r) (hs : hdp pS (sk r)) : kd b n s = 1 ∧ PS b n (nx b n s) (sk r) ∧ ∀ w1, isW b n s w1 = decide (wl w0 = wl w1) := by
  obtain ⟨a, c⟩ := wlL ⟨w0, h⟩
  obtain ⟨h1, h2⟩ := tk_w p a c hr
  exact ⟨h1, nx_w p h2 hs, isW_l p a c hr⟩
theorem hd_wl {w0 : Nat} {r : List Int} (h : w0 < 11) : hdp pS (wl w0 ++ r) := by
  obtain ⟨a, c⟩ := wlL ⟨w0, h⟩
  cases hw : wl w0 with
  | nil => exact absurd hw a
  | cons d l =>
    have := c d (by show d ∈ wl w0; rw [hw]; exact List.mem_cons_self)
    show pS d = false
    unfold pL at this
    unfold pS
    simp at this ⊢
    omega
theorem cl_host {i o v : Int} {p : Bool} {rest : List Int} {r : Rw} {f : Nat} {oo vv : Int → Int} (P : PS b n s (hT i o v p rest)) (hR : rst rest) (hi : 0 ≤ i ∧ i ≤ 25) (ho : 0 ≤ o ∧ o ≤ 1) (hv : 1 ≤ v ∧ v ≤ 60) (hr : PH oo vv r i) (hd : ∀ j, 0 ≤ j → j < i → ¬ (oo j = o ∧ vv j = v)) :
    ∃ (s' : Int) (L : Int → Int) (q : Int), PS b n s' rest ∧ L 5 = 1 ∧ L 6 = 97 + i ∧ ldCl b n (f + 1) s r = ldCl b n f s' (apN r L o v q) := by
  unfold hT at P
  rw [wlS.1, List.append_assoc] at P
  have P : PS b n s (wl 4 ++ (32 :: ([97 + i] ++ ((32 :: DD o) ++ ((32 :: DD v) ++ (wl (if p then 17 else 15) ++ rest)))))) := P
  have hL : pL (97 + i) = true := by unfold pL; simp; omega
  have hS : pS (97 + i) = false := by unfold pS; simp; omega
  obtain ⟨a1, a2, a3⟩ := wd (by decide) P (hd_c (by decide)) (by rw [sk_32]; exact hS)
  rw [sk_32] at a2
  generalize hs1 : nx b n s = s1 at a2
  obtain ⟨b1, b2⟩ := tk_w (w := [97 + i]) a2 (by simp) (fun c hc => by rw [List.mem_singleton.mp hc]; exact hL) (show pL 32 = false by decide)
  have b3 := nx_w (w := [97 + i]) a2 b2 (by show hdp pS (sk (32 :: (DD o ++ _))); rw [sk_32]; exact (DD_h (by omega)).1)
  have b3 : PS b n (nx b n s1) (sk (32 :: (DD o ++ ((32 :: DD v) ++ (wl (if p then 17 else 15) ++ rest))))) := b3
  rw [sk_32] at b3
  have bs1 := (PS_0 a2).1
  have bt : te b n s1 - s1 = 1 := by rw [b2]; simp; omega
  generalize hs2 : nx b n s1 = s2 at b3
  have e32 : ∀ l : List Int, (32 :: DD v) ++ l = 32 :: (DD v ++ l) := fun l => rfl
  obtain ⟨r0, r1, r2⟩ := hr
  have hnm0 : hnm r b n s1 = -1 := by
    unfold hnm
    rw [bt]
    refine (fs_none (by omega)).mpr fun j j1 j2 => ?_
    obtain ⟨-, -, c5, c6⟩ := r2 j j1 (by omega)
    unfold nmd
    rw [fs_hit (a := 0) (b := 1) (by omega) (by rw [show (6 : Int) + 0 = 6 by omega, show s1 + 0 = s1 by omega, c6, bs1, decide_eq_false (by omega)]; rfl), decide_eq_false (show ¬ (0 : Int) = -1 by decide), Bool.and_false]
  have tld0 : tld r o v = -1 := (fs_none (by omega)).mpr fun j j1 j2 => by
    obtain ⟨c0, c1, -, -⟩ := r2 j j1 (by omega)
    rw [c0, c1]
    by_cases q : oo j = o
    · rw [decide_eq_false (fun w => hd j j1 (by omega) ⟨q, w⟩), Bool.and_false]
    · rw [decide_eq_false q, Bool.false_and]
  rw [e32] at b3
  -- the office
  obtain ⟨c1, c2⟩ := ldNum_DD (lo := 0) (hi := 1) b3 (by omega) (show pD 32 = false by decide) (by rw [sk_32]; exact (DD_h (by omega)).1) (by omega) (fun o s3 => ldH3 b n s1 o s3 r (fun s' r' => ldSemi b n s' (fun s2 => ldCl b n f s2 r')))
  rw [sk_32] at c1
  generalize hs3 : nx b n s2 = s3 at c1 c2
  have go : ∀ (t : List Int), PS b n s3 (DD v ++ t) → hdp pD t → hdp pS (sk t) → (nbE b n s3 1 250 = 0 ∧ vM b n s3 = v) ∧ PS b n (nx b n s3) (sk t) := fun t P3 h1 h2 => by
    obtain ⟨g1, g2, g3⟩ := num_DD P3 (by omega) h1
    exact ⟨⟨nbE_0.mpr ⟨g1, by rw [g3]; omega⟩, g3⟩, nx_w P3 g2 h2⟩
  have start : ldCl b n (f + 1) s r = ldH3 b n s1 o s3 r (fun s' r' => ldSemi b n s' (fun s2 => ldCl b n f s2 r')) := by
    rw [ldCl_s, if_neg (by omega), a3, if_pos (by decide)]
    unfold ldHost
    rw [if_pos (by omega), hs1, if_pos b1, if_pos (by omega), if_pos hnm0, hs2]
    exact c2
  rw [start]
  unfold ldH3
  cases p with
  | true =>
    have c1 : PS b n s3 (DD v ++ (wl 17 ++ rest)) := c1
    rw [wlS.2.1] at c1
    have c1 : PS b n s3 (DD v ++ (32 :: ((wl 5 ++ [59]) ++ rest))) := c1
    rw [List.append_assoc] at c1
    obtain ⟨⟨d1, d2⟩, d3⟩ := go _ c1 (hd_c (by decide)) (by rw [sk_32]; exact hd_wl (by decide))
    rw [sk_32] at d3
    generalize hs4 : nx b n s3 = s4 at d3
    obtain ⟨e1, e2, e3⟩ := wd (by decide) d3 (show pL 59 = false by decide) (show hdp pS (sk (59 :: rest)) by rw [sk_59]; exact hd_c (by decide))
    have e2 : PS b n (nx b n s4) (59 :: rest) := by have : sk ([59] ++ rest) = 59 :: rest := sk_59; rw [this] at e2; exact e2
    obtain ⟨g1, g2⟩ := semi_l e2 hR.1 hR.2 (fun s2 => ldCl b n f s2 (apN r (ltk b s1 (te b n s1 - s1)) o v 1))
    refine ⟨_, ltk b s1 (te b n s1 - s1), 1, g1, by unfold ltk; rw [if_pos rfl, bt], by unfold ltk; rw [if_neg (by decide), if_pos (by omega), show s1 + ((6 : Int) - 6) = s1 by omega]; exact bs1, ?_⟩
    rw [if_pos d1, d2, if_pos tld0, e3, if_pos (by decide)]
    exact g2
  | false =>
    have c1 : PS b n s3 (DD v ++ (wl 15 ++ rest)) := c1
    rw [wlc.2.2.2.2.2.2.2.2.2.2] at c1
    have c1 : PS b n s3 (DD v ++ (59 :: rest)) := c1
    obtain ⟨⟨d1, d2⟩, d3⟩ := go _ c1 (hd_c (by decide)) (by rw [sk_59]; exact hd_c (by decide))
    rw [sk_59] at d3
    generalize hs4 : nx b n s3 = s4 at d3
    have k3 := (tk_s d3 (by decide) (by decide)).1
    obtain ⟨g1, g2⟩ := semi_l d3 hR.1 hR.2 (fun s2 => ldCl b n f s2 (apN r (ltk b s1 (te b n s1 - s1)) o v 0))
    refine ⟨_, ltk b s1 (te b n s1 - s1), 0, g1, by unfold ltk; rw [if_pos rfl, bt], by unfold ltk; rw [if_neg (by decide), if_pos (by omega), show s1 + ((6 : Int) - 6) = s1 by omega]; exact bs1, ?_⟩
    rw [if_pos d1, d2, if_pos tld0, isW_n (by omega), if_neg (by decide)]
    exact g2
theorem sd_l {x : Int} {rest : List Int} (P : PS b n s (sk (sT x rest))) (hx : 0 ≤ x ∧ x ≤ 16) (h1 : hdp pL rest) (h2 : hdp pD rest) (h3 : hdp pS (sk rest)) (k : Int → Int → PR) : PS b n (nx b n s) (sk rest) ∧ ldSide b n s k = k x (nx b n s) := by
  unfold sT at P
  unfold ldSide
  by_cases e : x = 0
  · rw [if_pos e, wlS.2.2.2.2.2.1] at P
    have P : PS b n s (sk (32 :: (wl 9 ++ rest))) := P
    rw [sk_32] at P
    obtain ⟨a1, a2, a3⟩ := wd (by decide) P h1 h3
    exact ⟨a2, by rw [a3, if_pos (by decide), e]⟩
  · rw [if_neg e] at P
    have P : PS b n s (sk (32 :: (DD x ++ rest))) := P
    rw [sk_32] at P
    obtain ⟨c1, c2⟩ := ldNum_DD (lo := 1) (hi := 250) P (by omega) h2 h3 (by omega) k
    obtain ⟨k2, -⟩ := num_DD P (by omega) h2
    exact ⟨c1, by rw [isW_n (by omega), if_neg (by decide)]; exact c2⟩
theorem sT_h {x : Int} {r : List Int} (hx : 0 ≤ x ∧ x ≤ 16) : hdp pL (sT x r) ∧ hdp pD (sT x r) ∧ hdp pS (sk (sT x r)) := by
  unfold sT
  by_cases e : x = 0
  · rw [if_pos e, wlS.2.2.2.2.2.1]
    refine ⟨show pL 32 = false by decide, show pD 32 = false by decide, ?_⟩
    show hdp pS (sk (32 :: (wl 9 ++ r)))
    rw [sk_32]
    exact hd_wl (by decide)
  · rw [if_neg e]
    refine ⟨show pL 32 = false by decide, show pD 32 = false by decide, ?_⟩
    show hdp pS (sk (32 :: (DD x ++ r)))
    rw [sk_32]
    exact (DD_h (by omega)).1
theorem cl_rule {o x y : Int} {a : Bool} {rest : List Int} {r : Rw} {f : Nat} (P : PS b n s (rT o a x y rest)) (hR : rst rest) (ho : 0 ≤ o ∧ o ≤ 1) (hx : 0 ≤ x ∧ x ≤ 16) (hy : 0 ≤ y ∧ y ≤ 16) (h1 : r 1 < 30) :
    ∃ (s' : Int) (q : Int), PS b n s' rest ∧ ldCl b n (f + 1) s r = ldCl b n f s' (apU r o q x y) := by
  unfold rT at P
  rw [wlS.2.2.1, wlc.2.2.2.2.2.2.2.2.2.2] at P
  have P : PS b n s (wl 6 ++ (32 :: (DD o ++ (wl (if a then 19 else 20) ++ sT x (sT y (59 :: rest)))))) := P
  obtain ⟨a1, a2, a3⟩ := wd (by decide) P (show pL 32 = false by decide) (by rw [sk_32]; exact (DD_h (by omega)).1)
  rw [sk_32] at a2
  have tY := sT_h (x := y) (r := 59 :: rest) hy
  have tX := sT_h (x := x) (r := sT y (59 :: rest)) hx
  have start : ∀ (wa : Nat) (q : Int), (wa = 7 ∧ q = 1 ∨ wa = 8 ∧ q = 0) → PS b n (nx b n s) (DD o ++ (32 :: (wl wa ++ sT x (sT y (59 :: rest))))) → ∃ (s' : Int) (q : Int), PS b n s' rest ∧ ldCl b n (f + 1) s r = ldCl b n f s' (apU r o q x y) := fun wa q hwa P1 => by
    obtain ⟨c1, c2⟩ := ldNum_DD (lo := 0) (hi := 1) P1 (by omega) (show pD 32 = false by decide) (by rw [sk_32]; exact hd_wl (by omega)) (by omega) (fun o s2 => if isW b n s2 7 = true then ldR2 b n o 1 (nx b n s2) r (fun s' r' => ldSemi b n s' (fun s2 => ldCl b n f s2 r')) else if isW b n s2 8 = true then ldR2 b n o 0 (nx b n s2) r (fun s' r' => ldSemi b n s' (fun s2 => ldCl b n f s2 r')) else (1, s2, bgR))
    rw [sk_32] at c1
    generalize hs2 : nx b n (nx b n s) = s2 at c1 c2
    obtain ⟨d1, d2, d3⟩ := wd (by omega) c1 tX.1 tX.2.2
    have fin : ∃ s', PS b n s' rest ∧ ldR2 b n o q (nx b n s2) r (fun s' r' => ldSemi b n s' (fun s2 => ldCl b n f s2 r')) = ldCl b n f s' (apU r o q x y) := by
      unfold ldR2
      obtain ⟨e1, e2⟩ := sd_l d2 hx tY.1 tY.2.1 tY.2.2 (fun x s4 => ldSide b n s4 (fun y s5 => ldSemi b n s5 (fun s2 => ldCl b n f s2 (apU r o q x y))))
      obtain ⟨g1, g2⟩ := sd_l e1 hy (show pL 59 = false by decide) (show pD 59 = false by decide) (by rw [sk_59]; exact hd_c (by decide)) (fun y s5 => ldSemi b n s5 (fun s2 => ldCl b n f s2 (apU r o q x y)))
      rw [sk_59] at g1
      obtain ⟨m1, m2⟩ := semi_l g1 hR.1 hR.2 (fun s2 => ldCl b n f s2 (apU r o q x y))
      exact ⟨_, m1, by rw [e2, g2, m2]⟩
    obtain ⟨s', m1, m2⟩ := fin
    refine ⟨s', q, m1, ?_⟩
    rw [ldCl_s, if_neg (by omega), a3, if_neg (by decide), a3, if_pos (by decide)]
    unfold ldRule
    rw [if_pos h1, c2]
    rcases hwa with ⟨rfl, rfl⟩ | ⟨rfl, rfl⟩
    · rw [d3, if_pos (by decide)]; exact m2
    · rw [d3, if_neg (by decide), d3, if_pos (by decide)]; exact m2
  cases a with
  | true => exact start 7 1 (Or.inl ⟨rfl, rfl⟩) (by have a2 : PS b n (nx b n s) (DD o ++ (wl 19 ++ sT x (sT y (59 :: rest)))) := a2; rw [wlS.2.2.2.1] at a2; exact a2)
  | false => exact start 8 0 (Or.inr ⟨rfl, rfl⟩) (by have a2 : PS b n (nx b n s) (DD o ++ (wl 20 ++ sT x (sT y (59 :: rest)))) := a2; rw [wlS.2.2.2.2.1] at a2; exact a2)
end PA
