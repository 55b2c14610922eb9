/-! queries: what reading one says -/
abbrev It : Type := Int × Int × Int
abbrev QR : Type := Int × Int × List It
def qv (x : Int) : Int := if x < 100 then -1 - x else x - 100
def cS1 (t : It) : List Int := if t.1 < 23 then [t.1 + 40, qv t.2.1, qv t.2.2] else [t.1 - 23]
def cM1 (t : It) : List Int := if t.1 < 23 then [t.2.1, t.2.2, t.1] else [t.1]
def cS (L : List It) : List Int := L.flatMap cS1
def cM (L : List It) : List Int := L.flatMap cM1
theorem cS_app {L M : List It} : cS (L ++ M) = cS L ++ cS M := by unfold cS; exact List.flatMap_append
theorem cM_app {L M : List It} : cM (L ++ M) = cM L ++ cM M := by unfold cM; exact List.flatMap_append
theorem cS_1 {t : It} : cS [t] = cS1 t := by unfold cS; simp
theorem cM_1 {t : It} : cM [t] = cM1 t := by unfold cM; simp
theorem cSM1 {t : It} : (cS1 t).length = (cM1 t).length := by unfold cS1 cM1; split <;> rfl
theorem cSM : ∀ {L : List It}, (cS L).length = (cM L).length := by
  intro L
  induction L with
  | nil => rfl
  | cons t L ih =>
    have e1 : cS (t :: L) = cS1 t ++ cS L := by unfold cS; simp
    have e2 : cM (t :: L) = cM1 t ++ cM L := by unfold cM; simp
    rw [e1, e2, List.length_append, List.length_append, cSM1, ih]
def tN : It := (23, 0, 0)
def tA : It := (24, 0, 0)
def tO : It := (25, 0, 0)
def okv (x : Int) : Prop := (0 ≤ x ∧ x ≤ 8) ∨ (100 ≤ x ∧ x ≤ 10099)
def wfI : List It → Nat → Prop
  | [], k => k = 1
  | t :: T, k => if t.1 < 23 then (20 ≤ t.1 ∧ okv t.2.1 ∧ okv t.2.2) ∧ wfI T (k + 1) else if t.1 = 23 then 1 ≤ k ∧ wfI T k else (t.1 = 24 ∨ t.1 = 25) ∧ 2 ≤ k ∧ wfI T (k - 1)
def ex (X : List It) : Prop := ∀ T k, wfI T (k + 1) → wfI (X ++ T) k
def vP (b : Int → Int) (n s : Int) : Int := if isW b n s 14 = true then 0 else if isW b n s 15 = true then 1 else if isW b n s 16 = true then 2 else if isW b n s 17 = true then 3 else if isW b n s 18 = true then 4 else if isW b n s 19 = true then 5 else if isW b n s 20 = true then 6 else if isW b n s 21 = true then 7 else if isW b n s 22 = true then 8 else -1
theorem vP_r {b : Int → Int} {n s : Int} : -1 ≤ vP b n s ∧ vP b n s ≤ 8 := by
  unfold vP
  repeat' split
  all_goals omega
def vE (b : Int → Int) (n s : Int) : Int := if kd b n s = 2 then (if vM b n s ≤ 9999 then 0 else 2) else if vP b n s = -1 then 1 else 0
def vV (b : Int → Int) (n s : Int) : Int := if kd b n s = 2 then 100 + vM b n s else vP b n s
def cOp (b : Int → Int) (n s : Int) : Int := if isG b n s 60 = true then 20 else if isG b n s 61 = true then 21 else if isG b n s 62 = true then 22 else 0
def qb (r : QR) (k : Int → List It → QR) : QR := if r.1 = 0 then k r.2.1 r.2.2 else r
def pC (b : Int → Int) (n s : Int) (L : List It) : QR := if vE b n s = 0 then (if cOp b n (nx b n s) = 0 then (1, nx b n s, L) else if vE b n (nx b n (nx b n s)) = 0 then (0, nx b n (nx b n (nx b n s)), L ++ [(cOp b n (nx b n s), vV b n s, vV b n (nx b n (nx b n s)))]) else (vE b n (nx b n (nx b n s)), nx b n (nx b n s), L)) else (vE b n s, s, L)
def oO (o : Bool) : List It := if o = true then [tO] else []
def pLoop (b : Int → Int) (n : Int) (F : Int → List It → QR) : Nat → Bool → Int → List It → QR
  | 0, o, s, L => (0, s, L ++ oO o)
  | m + 1, o, s, L => if isW b n s 23 = true then qb (F (nx b n s) L) (fun s' L' => pLoop b n F m o s' (L' ++ [tA])) else if isW b n s 24 = true then qb (F (nx b n s) (L ++ oO o)) (fun s' L' => pLoop b n F m true s' L') else (0, s, L ++ oO o)
def pQ (b : Int → Int) (n : Int) : Nat → Bool → Int → Int → List It → QR
  | 0, _, _, s, L => (1, s, L)
  | f + 1, true, d, s, L => qb (pQ b n f false d s L) (fun s' L' => pLoop b n (pQ b n f false d) 200 false s' L')
  | f + 1, false, d, s, L => if isW b n s 13 = true then (if d < 6 then qb (pQ b n f false (d + 1) (nx b n s) L) (fun s' L' => (0, s', L' ++ [tN])) else (3, s, L)) else if isG b n s 40 = true then (if d < 6 then qb (pQ b n f true (d + 1) (nx b n s) L) (fun s' L' => if isG b n s' 41 = true then (0, nx b n s', L') else (1, s', L')) else (3, s, L)) else pC b n s L
section PUR
variable {b : Int → Int} {n : Int}
theorem qb_0 {r : QR} {k : Int → List It → QR} (h : r.1 = 0) : qb r k = k r.2.1 r.2.2 := by unfold qb; rw [if_pos h]
theorem qb_n {r : QR} {k : Int → List It → QR} (h : ¬ r.1 = 0) : qb r k = r := by unfold qb; rw [if_neg h]
/-- a part that reads an operand: where it ends, what it adds -/
def okP1 (n : Int) (s : Int) (L : List It) (r : QR) : Prop := (s ≤ r.2.1 ∧ r.2.1 ≤ n) ∧ (0 ≤ r.1 ∧ r.1 ≤ 3) ∧ (r.1 = 0 → s < r.2.1 ∧ ∃ X, r.2.2 = L ++ X ∧ ex X ∧ ((cS X).length : Int) + s ≤ r.2.1)
theorem ex_c {t : It} (h : (20 ≤ t.1 ∧ t.1 < 23) ∧ okv t.2.1 ∧ okv t.2.2) : ex [t] := fun T k hT => by
  show wfI (t :: T) k
  unfold wfI
  rw [if_pos h.1.2]
  exact ⟨⟨h.1.1, h.2.1, h.2.2⟩, hT⟩
theorem ex_N {X : List It} (h : ex X) : ex (X ++ [tN]) := fun T k hT => by
  rw [List.append_assoc]
  refine h _ _ ?_
  show wfI (tN :: T) (k + 1)
  unfold wfI tN
  rw [if_neg (by decide), if_pos rfl]
  exact ⟨by omega, hT⟩
theorem wf_A {T : List It} {k : Nat} (h : wfI T (k + 1)) : wfI (tA :: T) (k + 2) := by
  unfold wfI tA
  rw [if_neg (by decide), if_neg (by decide)]
  exact ⟨Or.inl rfl, by omega, h⟩
theorem wf_O {T : List It} {k : Nat} (h : wfI T (k + 1)) : wfI (tO :: T) (k + 2) := by
  unfold wfI tO
  rw [if_neg (by decide), if_neg (by decide)]
  exact ⟨Or.inr rfl, by omega, h⟩
theorem vV_ok {s : Int} (h0 : 0 ≤ s) (h1 : s ≤ n) (he : vE b n s = 0) : okv (vV b n s) := by
  unfold vE at he
  unfold vV okv
  have := vP_r (b := b) (n := n) (s := s)
  by_cases c : kd b n s = 2
  · rw [if_pos c] at he ⊢
    have := v_CM (b := b) h0 h1 c
    by_cases d : vM b n s ≤ 9999
    · omega
    · rw [if_neg d] at he
      omega
  · rw [if_neg c] at he ⊢
    by_cases d : vP b n s = -1
    · rw [if_pos d] at he
      omega
    · omega
theorem vE_r {s : Int} : 0 ≤ vE b n s ∧ vE b n s ≤ 2 := by
  unfold vE
  repeat' split
  all_goals omega
theorem vE_lt {s : Int} (h0 : 0 ≤ s) (h1 : s ≤ n) (he : vE b n s = 0) : s < n := by
  refine kd_lt (b := b) fun q => ?_
  unfold vE at he
  have z : ∀ w, isW b n s w = false := fun w => by
    unfold isW
    rw [decide_eq_false (by omega), Bool.false_and]
  rw [if_neg (by omega)] at he
  unfold vP at he
  simp [z] at he
theorem cOp_lt {s : Int} (he : ¬ cOp b n s = 0) : s < n := by
  refine kd_lt (b := b) fun q => he ?_
  have z : ∀ w, isG b n s w = false := fun w => by
    unfold isG
    rw [decide_eq_false (by omega), Bool.false_and]
  unfold cOp
  simp [z]
theorem cOp_r {s : Int} (he : ¬ cOp b n s = 0) : 20 ≤ cOp b n s ∧ cOp b n s < 23 := by
  unfold cOp at *
  split
  · omega
  · split
    · omega
    · split
      · omega
      · rename_i a c d
        rw [if_neg a, if_neg c, if_neg d] at he
        exact absurd rfl he
theorem pC_r {s : Int} {L : List It} (h0 : 0 ≤ s) (h1 : s ≤ n) : okP1 n s L (pC b n s L) := by
  have a1 := nx_r (b := b) h0 h1
  have a2 := nx_r (b := b) (show 0 ≤ nx b n s by omega) a1.2
  have a3 := nx_r (b := b) (show 0 ≤ nx b n (nx b n s) by omega) a2.2
  have r1 := vE_r (b := b) (n := n) (s := s)
  have r2 := vE_r (b := b) (n := n) (s := nx b n (nx b n s))
  unfold pC
  by_cases c : vE b n s = 0
  · rw [if_pos c]
    by_cases d : cOp b n (nx b n s) = 0
    · rw [if_pos d]
      exact ⟨⟨a1.1, a1.2⟩, by show (0 : Int) ≤ 1 ∧ (1 : Int) ≤ 3; omega, fun w => absurd w (by show ¬ (1 : Int) = 0; decide)⟩
    · rw [if_neg d]
      by_cases e : vE b n (nx b n (nx b n s)) = 0
      · rw [if_pos e]
        have l1 := nx_lt (b := b) h0 (vE_lt h0 h1 c)
        have l2 := nx_lt (b := b) (show 0 ≤ nx b n s by omega) (cOp_lt d)
        have l3 := nx_lt (b := b) (show 0 ≤ nx b n (nx b n s) by omega) (vE_lt (by omega) a2.2 e)
        refine ⟨⟨by show s ≤ nx b n (nx b n (nx b n s)); omega, a3.2⟩, by show (0 : Int) ≤ 0 ∧ (0 : Int) ≤ 3; omega, fun _ => ⟨by show s < nx b n (nx b n (nx b n s)); omega, _, rfl, ex_c ⟨cOp_r d, vV_ok h0 h1 c, vV_ok (by omega) a2.2 e⟩, ?_⟩⟩
        rw [cS_1]
        unfold cS1
        rw [if_pos (cOp_r d).2]
        show (3 : Int) + s ≤ nx b n (nx b n (nx b n s))
        omega
      · rw [if_neg e]
        exact ⟨⟨by show s ≤ nx b n (nx b n s); omega, a2.2⟩, by show (0 : Int) ≤ vE b n (nx b n (nx b n s)) ∧ vE b n (nx b n (nx b n s)) ≤ 3; omega, fun w => absurd w e⟩
  · rw [if_neg c]
    exact ⟨⟨Int.le_refl s, h1⟩, by show (0 : Int) ≤ vE b n s ∧ vE b n s ≤ 3; omega, fun w => absurd w c⟩
def o1 (o : Bool) : Nat := if o = true then 1 else 0
theorem oO_len {o : Bool} : (cS (oO o)).length = o1 o := by cases o <;> rfl
theorem wf_oO {o : Bool} {T : List It} {k : Nat} (h : wfI T (k + 1)) : wfI (oO o ++ T) (k + 1 + o1 o) := by
  cases o
  · exact h
  · exact wf_O h
theorem pLoop_r {F : Int → List It → QR} (hF : ∀ s L, 0 ≤ s → s ≤ n → okP1 n s L (F s L)) : ∀ (m : Nat) (o : Bool) (s : Int) (L : List It), 0 ≤ s → s ≤ n → (s ≤ (pLoop b n F m o s L).2.1 ∧ (pLoop b n F m o s L).2.1 ≤ n) ∧ (0 ≤ (pLoop b n F m o s L).1 ∧ (pLoop b n F m o s L).1 ≤ 3) ∧ ((pLoop b n F m o s L).1 = 0 → ∃ X, (pLoop b n F m o s L).2.2 = L ++ X ∧ (∀ T k, wfI T (k + 1) → wfI (X ++ T) (k + 1 + o1 o)) ∧ ((cS X).length : Int) + s ≤ (pLoop b n F m o s L).2.1 + o1 o) := by
  have fin : ∀ (o : Bool) (s : Int) (L : List It), 0 ≤ s → s ≤ n → (s ≤ s ∧ s ≤ n) ∧ ((0 : Int) ≤ 0 ∧ (0 : Int) ≤ 3) ∧ ((0 : Int) = 0 → ∃ X, L ++ oO o = L ++ X ∧ (∀ T k, wfI T (k + 1) → wfI (X ++ T) (k + 1 + o1 o)) ∧ ((cS X).length : Int) + s ≤ s + o1 o) := fun o s L s0 s1 => ⟨⟨Int.le_refl s, s1⟩, by decide, fun _ => ⟨oO o, rfl, fun T k h => wf_oO h, by rw [oO_len]; omega⟩⟩
  intro m
  induction m with
  | zero => intro o s L s0 s1; exact fin o s L s0 s1
  | succ m ih =>
    intro o s L s0 s1
    have a1 := nx_r (b := b) s0 s1
    unfold pLoop
    by_cases c : isW b n s 23 = true
    · rw [if_pos c]
      have l1 := nx_lt (b := b) s0 (kd_lt (b := b) (by rw [isW_kd c]; decide))
      obtain ⟨f1, f2, f3⟩ := hF (nx b n s) L (by omega) a1.2
      by_cases e : (F (nx b n s) L).1 = 0
      · rw [qb_0 e]
        obtain ⟨g1, X, g2, g3, g4⟩ := f3 e
        obtain ⟨i1, i2, i3⟩ := ih o (F (nx b n s) L).2.1 ((F (nx b n s) L).2.2 ++ [tA]) (by omega) f1.2
        refine ⟨⟨by omega, i1.2⟩, i2, fun w => ?_⟩
        obtain ⟨Y, j1, j2, j3⟩ := i3 w
        refine ⟨X ++ ([tA] ++ Y), ?_, fun T k h => ?_, ?_⟩
        · rw [j1, g2]
          simp only [List.append_assoc]
        · rw [List.append_assoc]
          refine g3 _ _ ?_
          show wfI (tA :: (Y ++ T)) _
          have := wf_A (k := k + o1 o) (j2 T k h |> fun q => by rw [show k + o1 o + 1 = k + 1 + o1 o by omega]; exact q)
          rw [show k + 1 + o1 o + 1 = k + o1 o + 2 by omega]
          exact this
        · rw [cS_app, cS_app, List.length_append, List.length_append]
          have : (cS [tA]).length = 1 := rfl
          omega
      · rw [qb_n e]
        exact ⟨⟨by omega, f1.2⟩, f2, fun w => absurd w e⟩
    · rw [if_neg c]
      by_cases c2 : isW b n s 24 = true
      · rw [if_pos c2]
        have l1 := nx_lt (b := b) s0 (kd_lt (b := b) (by rw [isW_kd c2]; decide))
        obtain ⟨f1, f2, f3⟩ := hF (nx b n s) (L ++ oO o) (by omega) a1.2
        by_cases e : (F (nx b n s) (L ++ oO o)).1 = 0
        · rw [qb_0 e]
          obtain ⟨g1, X, g2, g3, g4⟩ := f3 e
          obtain ⟨i1, i2, i3⟩ := ih true (F (nx b n s) (L ++ oO o)).2.1 (F (nx b n s) (L ++ oO o)).2.2 (by omega) f1.2
          refine ⟨⟨by omega, i1.2⟩, i2, fun w => ?_⟩
          obtain ⟨Y, j1, j2, j3⟩ := i3 w
          refine ⟨oO o ++ (X ++ Y), ?_, fun T k h => ?_, ?_⟩
          · rw [j1, g2]
            simp only [List.append_assoc]
          · rw [List.append_assoc]
            refine wf_oO ?_
            rw [List.append_assoc]
            exact g3 _ _ (j2 T k h)
          · rw [cS_app, cS_app, List.length_append, List.length_append, oO_len]
            have : o1 true = 1 := rfl
            omega
        · rw [qb_n e]
          exact ⟨⟨by omega, f1.2⟩, f2, fun w => absurd w e⟩
      · rw [if_neg c2]
        exact fin o s L s0 s1
theorem pQ_r : ∀ (f : Nat) (t : Bool) (d s : Int) (L : List It), 0 ≤ s → s ≤ n → okP1 n s L (pQ b n f t d s L) := by
  intro f
  induction f with
  | zero => intro t d s L s0 s1; exact ⟨⟨Int.le_refl s, s1⟩, by show (0 : Int) ≤ 1 ∧ (1 : Int) ≤ 3; omega, fun w => absurd w (by show ¬ (1 : Int) = 0; decide)⟩
  | succ f ih =>
    intro t d s L s0 s1
    have a1 := nx_r (b := b) s0 s1
    have e3 : ∀ e s', s ≤ s' → s' ≤ n → 1 ≤ e → e ≤ 3 → okP1 n s L (e, s', L) := fun e s' h1 h2 h3 h4 => ⟨⟨h1, h2⟩, by show (0 : Int) ≤ e ∧ e ≤ 3; omega, fun w => by have : e = 0 := w; omega⟩
    cases t with
    | true =>
      unfold pQ
      obtain ⟨f1, f2, f3⟩ := ih false d s L s0 s1
      by_cases e : (pQ b n f false d s L).1 = 0
      · rw [qb_0 e]
        obtain ⟨g1, X, g2, g3, g4⟩ := f3 e
        obtain ⟨i1, i2, i3⟩ := pLoop_r (b := b) (n := n) (F := pQ b n f false d) (fun s L h1 h2 => ih false d s L h1 h2) 200 false (pQ b n f false d s L).2.1 (pQ b n f false d s L).2.2 (by omega) f1.2
        refine ⟨⟨by omega, i1.2⟩, i2, fun w => ⟨by omega, ?_⟩⟩
        obtain ⟨Y, j1, j2, j3⟩ := i3 w
        refine ⟨X ++ Y, ?_, fun T k h => ?_, ?_⟩
        · rw [j1, g2]
          simp only [List.append_assoc]
        · rw [List.append_assoc]
          exact g3 _ _ (j2 T k h)
        · rw [cS_app, List.length_append]
          have : o1 false = 0 := rfl
          omega
      · rw [qb_n e]
        exact ⟨f1, f2, fun w => absurd w e⟩
    | false =>
      unfold pQ
      by_cases c : isW b n s 13 = true
      · rw [if_pos c]
        have l1 := nx_lt (b := b) s0 (kd_lt (b := b) (by rw [isW_kd c]; decide))
        by_cases d6 : d < 6
        · rw [if_pos d6]
          obtain ⟨f1, f2, f3⟩ := ih false (d + 1) (nx b n s) L (by omega) a1.2
          by_cases e : (pQ b n f false (d + 1) (nx b n s) L).1 = 0
          · rw [qb_0 e]
            obtain ⟨g1, X, g2, g3, g4⟩ := f3 e
            refine ⟨⟨by show s ≤ (pQ b n f false (d + 1) (nx b n s) L).2.1; omega, f1.2⟩, by show (0 : Int) ≤ 0 ∧ (0 : Int) ≤ 3; decide, fun _ => ⟨by show s < (pQ b n f false (d + 1) (nx b n s) L).2.1; omega, X ++ [tN], ?_, ex_N g3, ?_⟩⟩
            · show (pQ b n f false (d + 1) (nx b n s) L).2.2 ++ [tN] = _
              rw [g2, List.append_assoc]
            · rw [cS_app, List.length_append]
              have : (cS [tN]).length = 1 := rfl
              show _ ≤ (pQ b n f false (d + 1) (nx b n s) L).2.1
              omega
          · rw [qb_n e]
            exact ⟨⟨by omega, f1.2⟩, f2, fun w => absurd w e⟩
        · rw [if_neg d6]
          exact e3 3 s (Int.le_refl s) s1 (by decide) (by decide)
      · rw [if_neg c]
        by_cases c2 : isG b n s 40 = true
        · rw [if_pos c2]
          have l1 := nx_lt (b := b) s0 (kd_lt (b := b) (by rw [isG_kd c2]; decide))
          by_cases d6 : d < 6
          · rw [if_pos d6]
            obtain ⟨f1, f2, f3⟩ := ih true (d + 1) (nx b n s) L (by omega) a1.2
            by_cases e : (pQ b n f true (d + 1) (nx b n s) L).1 = 0
            · rw [qb_0 e]
              obtain ⟨g1, X, g2, g3, g4⟩ := f3 e
              have a2 := nx_r (b := b) (show 0 ≤ (pQ b n f true (d + 1) (nx b n s) L).2.1 by omega) f1.2
              by_cases c3 : isG b n (pQ b n f true (d + 1) (nx b n s) L).2.1 41 = true
              · rw [if_pos c3]
                refine ⟨⟨by show s ≤ nx b n (pQ b n f true (d + 1) (nx b n s) L).2.1; omega, a2.2⟩, by show (0 : Int) ≤ 0 ∧ (0 : Int) ≤ 3; decide, fun _ => ⟨by show s < nx b n (pQ b n f true (d + 1) (nx b n s) L).2.1; omega, X, g2, g3, ?_⟩⟩
                show _ ≤ nx b n (pQ b n f true (d + 1) (nx b n s) L).2.1
                omega
              · rw [if_neg c3]
                exact ⟨⟨by show s ≤ (pQ b n f true (d + 1) (nx b n s) L).2.1; omega, f1.2⟩, by show (0 : Int) ≤ 1 ∧ (1 : Int) ≤ 3; decide, fun w => absurd w (by show ¬ (1 : Int) = 0; decide)⟩
            · rw [qb_n e]
              exact ⟨⟨by omega, f1.2⟩, f2, fun w => absurd w e⟩
          · rw [if_neg d6]
            exact e3 3 s (Int.le_refl s) s1 (by decide) (by decide)
        · rw [if_neg c2]
          exact pC_r s0 s1
end PUR
