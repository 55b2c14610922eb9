/-! what a row of the reference says: r 0 hosts, 1 rules, 2 waves, 3 KEEP, 4 PER, 5 6 the pool, 7 open -/
abbrev Rw : Type := Int → Int
def fl (r : Rw) (i j : Int) : Int := r ((16 + (24 * i)) + j)
def rl (r : Rw) (k j : Int) : Int := r ((976 + (4 * k)) + j)
def ltN (r : Rw) (i : Int) : Nat → Int
  | 0 => 0
  | n + 1 => if fl r i ((14 + ((n : Int) + 1)) - 1) = 0 then ltN r i n else (n : Int) + 1
def lat0 (r : Rw) (i w : Int) : Int := ltN r i w.toNat
theorem lat0_0 {r : Rw} {i w : Int} (h : w ≤ 0) : lat0 r i w = 0 := by
  unfold lat0
  rw [show w.toNat = 0 by omega]
  rfl
theorem lat0_s {r : Rw} {i w : Int} (h : 0 < w) : lat0 r i w = if fl r i ((14 + w) - 1) = 0 then lat0 r i (w + (-1)) else w := by
  unfold lat0
  obtain ⟨n, hn⟩ : ∃ n, w.toNat = n + 1 := ⟨w.toNat - 1, by omega⟩
  have hw : (n : Int) + 1 = w := by omega
  rw [hn, show (w + (-1)).toNat = n by omega]
  show (if fl r i ((14 + ((n : Int) + 1)) - 1) = 0 then ltN r i n else (n : Int) + 1) = _
  rw [hw]
theorem lat0_r {r : Rw} {i : Int} : ∀ w, 0 ≤ w → 0 ≤ lat0 r i w ∧ lat0 r i w ≤ w := by
  have key : ∀ (n : Nat) (w : Int), w.toNat = n → 0 ≤ w → 0 ≤ lat0 r i w ∧ lat0 r i w ≤ w := by
    intro n
    induction n with
    | zero => intro w h h0; rw [lat0_0 (by omega)]; omega
    | succ n ih =>
      intro w h h0
      rw [lat0_s (by omega)]
      split
      · have := ih (w + (-1)) (by omega) (by omega)
        omega
      · omega
  exact fun w h => key _ w rfl h
/-- the wave of a host's latest move -/
def lat (r : Rw) (i : Int) : Int := lat0 r i 9
theorem lat_r {r : Rw} {i : Int} : 0 ≤ lat r i ∧ lat r i ≤ 9 := lat0_r 9 (by omega)
def kp (r : Rw) (i c : Int) : Int := if lat r i ≤ 0 then 0 else if lat r i + r 3 ≤ c then 0 else fl r i ((14 + lat r i) - 1)
def kept (r : Rw) (i : Int) : Int := kp r i (r 2)
def hds (r : Rw) (i v : Int) : Bool := decide (fl r i 1 = v) || decide (kept r i = v)
def net (r : Rw) (i j : Int) : Bool := decide (r 7 = 1) || decide (fl r i 0 = fl r j 0)
def onet (r : Rw) (i o : Int) : Bool := decide (r 7 = 1) || decide (fl r i 0 = o)
def hold (r : Rw) (o v : Int) : Int := fs (fun i => decide (fl r i 0 = o) && hds r i v) 0 (r 0)
def clash (r : Rw) (v : Int) : Bool := decide (¬ hold r 0 v = -1) && decide (¬ hold r 1 v = -1)
def clashes (r : Rw) : Int := cn (clash r) 1 251
def pair0 (r : Rw) (v i : Int) : Bool := decide (¬ fs (fun o => net r i o && hds r o v) 0 i = -1)
def pair (r : Rw) (v : Int) : Bool := decide (¬ fs (fun i => hds r i v && pair0 r v i) 0 (r 0) = -1)
def twice (r : Rw) : Int := fs (pair r) 1 251
/-- the ranges that every row keeps -/
def okR (r : Rw) : Prop := (0 ≤ r 0 ∧ r 0 ≤ 40) ∧ (0 ≤ r 1 ∧ r 1 ≤ 30) ∧ (0 ≤ r 2 ∧ r 2 ≤ 9) ∧ (0 ≤ r 3 ∧ r 3 ≤ 3)
/-! the reference's small methods -/
theorem b2i0 {b : Bool} : b2i b = 0 ↔ b = false := by cases b <;> simp [b2i]
theorem b2i1 {b : Bool} : ¬ b2i b = 0 ↔ b = true := by cases b <;> simp [b2i]
