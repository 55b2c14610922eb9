/-! words and signs on both sides -/
def isW (b : Int → Int) (n s : Int) (w : Nat) : Bool := decide (kd b n s = 1) && (decide (te b n s - s = zslen w) && decide (fs (fun i => !decide (b (s + i) = zsch w i)) 0 (zslen w) = -1))
def isG (b : Int → Int) (n s c : Int) : Bool := decide (kd b n s = 3) && decide (b s = c)
theorem zs_r : ∀ w : Fin 11, (1 ≤ zslen w.val ∧ zslen w.val ≤ 8) := by decide +kernel
theorem zs_c0 : ∀ w : Fin 11, ∀ i : Fin 8, ((i.val : Nat) : Int) < zslen w.val → (97 ≤ zsch w.val (i.val : Int) ∧ zsch w.val (i.val : Int) ≤ 122) := by decide +kernel
theorem zs_c {w : Nat} (hw : w < 11) {i : Int} (h0 : 0 ≤ i) (h1 : i < zslen w) : 97 ≤ zsch w i ∧ zsch w i ≤ 122 := by
  have hr := zs_r ⟨w, hw⟩
  have h := zs_c0 ⟨w, hw⟩ ⟨i.toNat, by simp only at hr; omega⟩
  have e : ((i.toNat : Nat) : Int) = i := by omega
  simp only [e] at h
  exact h h1
theorem p6_isWord {w : Nat} {h : Hp} {Q : Int → Prop} {b : Int → Int} {n s : Int} (hw : w < 11) (he : eT b n) (ht : tkC h b n s) (h0 : 0 ≤ s) (h1 : s ≤ n) (hQ : Q (b2i (isW b n s w))) : mX6_isWord w h Q := by
  obtain ⟨⟨t2, tb⟩, t3, t4, t5, t6⟩ := ht
  obtain ⟨⟨n0, n9⟩, hB⟩ := he
  have hr := te_r (b := b) h0 h1
  have hz := zs_r ⟨w, hw⟩
  simp only at hz
  unfold mX6_isWord
  unfold isW at hQ
  rw [t4, t3, t5]
  refine ⟨fun c => ?_, fun c => ⟨zri (by omega) (by omega), fun d => ?_, fun d => ?_⟩⟩
  · rw [decide_eq_false c, Bool.false_and] at hQ; exact hQ
  · rw [decide_eq_true c, decide_eq_true d, Bool.true_and, Bool.true_and] at hQ
    obtain ⟨f, hf⟩ := forU (fun f i => Q (b2i (decide (fs (fun i => !decide (b (s + i) = zsch w i)) i (zslen w) = -1))) → mX6_isWord_b28 w h Q f i) 0 (zslen w) (by omega) (fun f hq => by
        unfold mX6_isWord_b28
        rw [fs_end (Int.le_refl _), decide_eq_true rfl] at hq
        exact ⟨fun _ => hq, fun c => absurd (Int.le_refl _) c⟩) (fun f i i1 i2 ih hq => by
        unfold mX6_isWord_b28
        have hc := zs_c hw i1 i2
        rw [t5, tb _ (by omega) (by omega), bt_lo (hB _ (by omega) (by omega)) (by omega)]
        refine ⟨fun c => by omega, fun _ => ⟨zri (by omega) (by omega), ⟨by omega, by omega⟩, ⟨by omega, by omega⟩, fun e => ⟨zri (by omega) (by omega), ih ?_⟩, fun e => ?_⟩⟩
        · rw [fs_skip i2 (by rw [decide_eq_true e]; rfl)] at hq
          exact hq
        · rw [fs_hit i2 (by rw [decide_eq_false e]; rfl), decide_eq_false (by omega)] at hq
          exact hq)
    exact ⟨f, hf hQ⟩
  · rw [decide_eq_false d, Bool.false_and, Bool.and_false] at hQ; exact hQ
theorem p6_isSign {c : Int} {h : Hp} {Q : Int → Prop} {b : Int → Int} {n s : Int} (hc : 0 ≤ c ∧ c ≤ 127) (he : eT b n) (ht : tkC h b n s) (h0 : 0 ≤ s) (h1 : s ≤ n) (hQ : Q (b2i (isG b n s c))) : mX6_isSign c h Q := by
  obtain ⟨⟨t2, tb⟩, t3, t4, t5, t6⟩ := ht
  obtain ⟨⟨n0, n9⟩, hB⟩ := he
  unfold mX6_isSign
  unfold isG at hQ
  rw [t4, t2, t5]
  refine ⟨fun d => ?_, fun d => ⟨fun e => ?_, fun e => ⟨⟨by omega, by omega⟩, ?_⟩⟩⟩
  · rw [decide_eq_false d, Bool.false_and] at hQ; exact hQ
  · have := (kd_0 (b := b)).mpr e
    omega
  · rw [tb s h0 (by omega), bt_lo (hB _ h0 (by omega)) hc]
    rw [decide_eq_true d, Bool.true_and] at hQ
    refine ⟨fun g => ?_, fun g => ?_⟩
    · rw [decide_eq_false g] at hQ; exact hQ
    · rw [decide_eq_true g] at hQ; exact hQ
/-- two words don't stand at one place -/
theorem isW_kd {b : Int → Int} {n s : Int} {w : Nat} (h : isW b n s w = true) : kd b n s = 1 := by
  unfold isW at h
  rw [Bool.and_eq_true, decide_eq_true_eq] at h
  exact h.1
theorem isG_kd {b : Int → Int} {n s c : Int} (h : isG b n s c = true) : kd b n s = 3 := by
  unfold isG at h
  rw [Bool.and_eq_true, decide_eq_true_eq] at h
  exact h.1
theorem kd_lt {b : Int → Int} {n s : Int} (h : ¬ kd b n s = 0) : s < n := by
  have := kd_0 (b := b) (n := n) (s := s)
  omega
