/-! the maker of the reference -/
theorem yi_fX8_13 : zIn (.fieldLink RX8 13 (TX8 1).1 (TX8 1).2.1 (TX8 1).2.2.1) := zin_at 1312 (by decide +kernel) (by decide +kernel)
theorem yi_fX8_17 : zIn (.fieldLink RX8 17 (TX8 2).1 (TX8 2).2.1 (TX8 2).2.2.1) := zin_at 1313 (by decide +kernel) (by decide +kernel)
theorem yi_fX8_20 : zIn (.fieldLink RX8 20 (TX8 3).1 (TX8 3).2.1 (TX8 3).2.2.1) := zin_at 1314 (by decide +kernel) (by decide +kernel)
theorem yi_fX8_23 : zIn (.fieldLink RX8 23 (TX8 4).1 (TX8 4).2.1 (TX8 4).2.2.1) := zin_at 1315 (by decide +kernel) (by decide +kernel)
theorem yi_fX8_26 : zIn (.fieldLink RX8 26 (TX8 5).1 (TX8 5).2.1 (TX8 5).2.2.1) := zin_at 1316 (by decide +kernel) (by decide +kernel)
theorem yi_fX8_29 : zIn (.fieldLink RX8 29 (TX8 8).1 (TX8 8).2.1 (TX8 8).2.2.1) := zin_at 1319 (by decide +kernel) (by decide +kernel)
theorem yi_fX8_32 : zIn (.fieldLink RX8 32 (TX8 17).1 (TX8 17).2.1 (TX8 17).2.2.1) := zin_at 1328 (by decide +kernel) (by decide +kernel)
theorem yi_fX8_35 : zIn (.fieldLink RX8 35 (TX8 18).1 (TX8 18).2.1 (TX8 18).2.2.1) := zin_at 1329 (by decide +kernel) (by decide +kernel)
theorem yi_fX8_38 : zIn (.fieldLink RX8 38 (TX8 21).1 (TX8 21).2.1 (TX8 21).2.2.1) := zin_at 1332 (by decide +kernel) (by decide +kernel)
theorem yi_fX8_41 : zIn (.fieldLink RX8 41 (TX8 23).1 (TX8 23).2.1 (TX8 23).2.2.1) := zin_at 1334 (by decide +kernel) (by decide +kernel)
theorem yi_fX8_44 : zIn (.fieldLink RX8 44 (TX8 24).1 (TX8 24).2.1 (TX8 24).2.2.1) := zin_at 1335 (by decide +kernel) (by decide +kernel)
theorem yi_fX8_47 : zIn (.fieldLink RX8 47 (TX8 25).1 (TX8 25).2.1 (TX8 25).2.2.1) := zin_at 1336 (by decide +kernel) (by decide +kernel)
theorem yi_bgI : zIn (.instanceMethod yX8_begins) := zin_at 1306 (by decide +kernel) (by decide +kernel)
theorem yi_bgS : zIn (.selects yX8_begins.cls yX8_begins yX8_begins) := zin_at 91 (by decide +kernel) (by decide +kernel)
def w8 (E : EE) (h : Hp) (h0 q1 q2 q3 q4 q5 q6 q7 q8 q9 q10 q11 : Nat) : va_W := ((h0, .inr (8, [.int 0, .ref q1, .ref q2, .ref q3, .ref q4, .ref q5, .int 0, .int 0, .ref q6, .int 0, .int 0, .int 0, .int 0, .int 0, .int 0, .long 0, .int 0, .int (-1), .ref q7, .int 0, .int 0, .ref q8, .int 0, .ref q9, .ref q10, .ref q11, .int 0, .int 0, .int 0])) :: ((((((((((((zws E 185 h) ++ ([(q1, .inl (E.2.2.1 0, 1096, .inl fun _ => 0))] : va_W)) ++ ([(q2, .inl (E.2.2.1 0, 1096, .inl fun _ => 0))] : va_W)) ++ ([(q3, .inl (E.2.2.1 0, 1096, .inl fun _ => 0))] : va_W)) ++ ([(q4, .inl (E.2.2.1 0, 1096, .inl fun _ => 0))] : va_W)) ++ ([(q5, .inl (E.2.2.1 0, 10960, .inl fun _ => 0))] : va_W)) ++ ([(q6, .inl (E.2.2.1 0, 900, .inl fun _ => 0))] : va_W)) ++ ([(q7, .inl (E.2.2.1 0, 502, .inl fun _ => 0))] : va_W)) ++ ([(q8, .inl (E.2.2.1 0, 40, .inl fun _ => 0))] : va_W)) ++ ([(q9, .inl (E.2.2.1 0, 200, .inl fun _ => 0))] : va_W)) ++ ([(q10, .inl (E.2.2.1 0, 200, .inl fun _ => 0))] : va_W)) ++ ([(q11, .inl (E.2.2.1 0, 200, .inl fun _ => 0))] : va_W)))
def ad8 (E : EE) (h0 q1 q2 q3 q4 q5 q6 q7 q8 q9 q10 q11 : Nat) (p : Nat) : Nat := if p < 185 then E.1 p else ([h0, q1, q2, q3, q4, q5, q6, q7, q8, q9, q10, q11] : List Nat).getD (p - 185) (E.1 p)
def pos8 (p : Nat) : Nat := if p < 185 then p + 1 else if p = 185 then 0 else p
theorem pos8_inj {i j : Nat} (h : pos8 i = pos8 j) (hi : i < 197) (hj : j < 197) : i = j := by
  unfold pos8 at h
  repeat' split at h
  all_goals omega
theorem place8a (E : EE) (h : Hp) (h0 q1 q2 q3 q4 q5 q6 q7 q8 q9 q10 q11 : Nat) : ∀ p, p < 185 → (w8 E h h0 q1 q2 q3 q4 q5 q6 q7 q8 q9 q10 q11)[pos8 p]? = some (E.1 p, zat E h p) := by
  intro p hp
  unfold pos8 w8
  rw [if_pos hp, List.getElem?_cons_succ]
  exact y_left (y_left (y_left (y_left (y_left (y_left (y_left (y_left (y_left (y_left (y_left ((zws_get hp))))))))))))
theorem y_here {X : va_W} {n : Nat} {y : Nat × va_E} (h : X.length = n) : (X ++ [y])[n]? = some y := by
  rw [List.getElem?_append_right (by omega), h, Nat.sub_self]
  rfl
set_option maxHeartbeats 4000000 in
set_option maxRecDepth 100000 in
theorem p8b_185 (E : EE) (h : Hp) (h0 q1 q2 q3 q4 q5 q6 q7 q8 q9 q10 q11 : Nat) : (w8 E h h0 q1 q2 q3 q4 q5 q6 q7 q8 q9 q10 q11)[0]? = some (h0, zat (ad8 E h0 q1 q2 q3 q4 q5 q6 q7 q8 q9 q10 q11, E.2) (hm8 h) 185) := rfl
set_option maxHeartbeats 4000000 in
set_option maxRecDepth 100000 in
theorem p8b_186 (E : EE) (h : Hp) (h0 q1 q2 q3 q4 q5 q6 q7 q8 q9 q10 q11 : Nat) : (w8 E h h0 q1 q2 q3 q4 q5 q6 q7 q8 q9 q10 q11)[186]? = some (q1, zat (ad8 E h0 q1 q2 q3 q4 q5 q6 q7 q8 q9 q10 q11, E.2) (hm8 h) 186) := by
  have e : zat (ad8 E h0 q1 q2 q3 q4 q5 q6 q7 q8 q9 q10 q11, E.2) (hm8 h) 186 = .inl (E.2.2.1 0, 1096, .inl fun _ => 0) := by
    rw [zat_of (show zT[186]? = some (.inl (0, 1096)) from rfl)]
    rfl
  rw [e]
  unfold w8
  rw [List.getElem?_cons_succ]
  exact y_left (y_left (y_left (y_left (y_left (y_left (y_left (y_left (y_left (y_left ((y_here (by simp [zws]))))))))))))
set_option maxHeartbeats 4000000 in
set_option maxRecDepth 100000 in
theorem p8b_187 (E : EE) (h : Hp) (h0 q1 q2 q3 q4 q5 q6 q7 q8 q9 q10 q11 : Nat) : (w8 E h h0 q1 q2 q3 q4 q5 q6 q7 q8 q9 q10 q11)[187]? = some (q2, zat (ad8 E h0 q1 q2 q3 q4 q5 q6 q7 q8 q9 q10 q11, E.2) (hm8 h) 187) := by
  have e : zat (ad8 E h0 q1 q2 q3 q4 q5 q6 q7 q8 q9 q10 q11, E.2) (hm8 h) 187 = .inl (E.2.2.1 0, 1096, .inl fun _ => 0) := by
    rw [zat_of (show zT[187]? = some (.inl (0, 1096)) from rfl)]
    rfl
  rw [e]
  unfold w8
  rw [List.getElem?_cons_succ]
  exact y_left (y_left (y_left (y_left (y_left (y_left (y_left (y_left (y_left ((y_here (by simp [zws])))))))))))
set_option maxHeartbeats 4000000 in
set_option maxRecDepth 100000 in
theorem p8b_188 (E : EE) (h : Hp) (h0 q1 q2 q3 q4 q5 q6 q7 q8 q9 q10 q11 : Nat) : (w8 E h h0 q1 q2 q3 q4 q5 q6 q7 q8 q9 q10 q11)[188]? = some (q3, zat (ad8 E h0 q1 q2 q3 q4 q5 q6 q7 q8 q9 q10 q11, E.2) (hm8 h) 188) := by
  have e : zat (ad8 E h0 q1 q2 q3 q4 q5 q6 q7 q8 q9 q10 q11, E.2) (hm8 h) 188 = .inl (E.2.2.1 0, 1096, .inl fun _ => 0) := by
    rw [zat_of (show zT[188]? = some (.inl (0, 1096)) from rfl)]
    rfl
  rw [e]
  unfold w8
  rw [List.getElem?_cons_succ]
  exact y_left (y_left (y_left (y_left (y_left (y_left (y_left (y_left ((y_here (by simp [zws]))))))))))
set_option maxHeartbeats 4000000 in
set_option maxRecDepth 100000 in
theorem p8b_189 (E : EE) (h : Hp) (h0 q1 q2 q3 q4 q5 q6 q7 q8 q9 q10 q11 : Nat) : (w8 E h h0 q1 q2 q3 q4 q5 q6 q7 q8 q9 q10 q11)[189]? = some (q4, zat (ad8 E h0 q1 q2 q3 q4 q5 q6 q7 q8 q9 q10 q11, E.2) (hm8 h) 189) := by
  have e : zat (ad8 E h0 q1 q2 q3 q4 q5 q6 q7 q8 q9 q10 q11, E.2) (hm8 h) 189 = .inl (E.2.2.1 0, 1096, .inl fun _ => 0) := by
    rw [zat_of (show zT[189]? = some (.inl (0, 1096)) from rfl)]
    rfl
  rw [e]
  unfold w8
  rw [List.getElem?_cons_succ]
  exact y_left (y_left (y_left (y_left (y_left (y_left (y_left ((y_here (by simp [zws])))))))))
set_option maxHeartbeats 4000000 in
set_option maxRecDepth 100000 in
theorem p8b_190 (E : EE) (h : Hp) (h0 q1 q2 q3 q4 q5 q6 q7 q8 q9 q10 q11 : Nat) : (w8 E h h0 q1 q2 q3 q4 q5 q6 q7 q8 q9 q10 q11)[190]? = some (q5, zat (ad8 E h0 q1 q2 q3 q4 q5 q6 q7 q8 q9 q10 q11, E.2) (hm8 h) 190) := by
  have e : zat (ad8 E h0 q1 q2 q3 q4 q5 q6 q7 q8 q9 q10 q11, E.2) (hm8 h) 190 = .inl (E.2.2.1 0, 10960, .inl fun _ => 0) := by
    rw [zat_of (show zT[190]? = some (.inl (0, 10960)) from rfl)]
    rfl
  rw [e]
  unfold w8
  rw [List.getElem?_cons_succ]
  exact y_left (y_left (y_left (y_left (y_left (y_left ((y_here (by simp [zws]))))))))
set_option maxHeartbeats 4000000 in
set_option maxRecDepth 100000 in
theorem p8b_191 (E : EE) (h : Hp) (h0 q1 q2 q3 q4 q5 q6 q7 q8 q9 q10 q11 : Nat) : (w8 E h h0 q1 q2 q3 q4 q5 q6 q7 q8 q9 q10 q11)[191]? = some (q6, zat (ad8 E h0 q1 q2 q3 q4 q5 q6 q7 q8 q9 q10 q11, E.2) (hm8 h) 191) := by
  have e : zat (ad8 E h0 q1 q2 q3 q4 q5 q6 q7 q8 q9 q10 q11, E.2) (hm8 h) 191 = .inl (E.2.2.1 0, 900, .inl fun _ => 0) := by
    rw [zat_of (show zT[191]? = some (.inl (0, 900)) from rfl)]
    rfl
  rw [e]
  unfold w8
  rw [List.getElem?_cons_succ]
  exact y_left (y_left (y_left (y_left (y_left ((y_here (by simp [zws])))))))
set_option maxHeartbeats 4000000 in
set_option maxRecDepth 100000 in
theorem p8b_192 (E : EE) (h : Hp) (h0 q1 q2 q3 q4 q5 q6 q7 q8 q9 q10 q11 : Nat) : (w8 E h h0 q1 q2 q3 q4 q5 q6 q7 q8 q9 q10 q11)[192]? = some (q7, zat (ad8 E h0 q1 q2 q3 q4 q5 q6 q7 q8 q9 q10 q11, E.2) (hm8 h) 192) := by
  have e : zat (ad8 E h0 q1 q2 q3 q4 q5 q6 q7 q8 q9 q10 q11, E.2) (hm8 h) 192 = .inl (E.2.2.1 0, 502, .inl fun _ => 0) := by
    rw [zat_of (show zT[192]? = some (.inl (0, 502)) from rfl)]
    rfl
  rw [e]
  unfold w8
  rw [List.getElem?_cons_succ]
  exact y_left (y_left (y_left (y_left ((y_here (by simp [zws]))))))
set_option maxHeartbeats 4000000 in
set_option maxRecDepth 100000 in
theorem p8b_193 (E : EE) (h : Hp) (h0 q1 q2 q3 q4 q5 q6 q7 q8 q9 q10 q11 : Nat) : (w8 E h h0 q1 q2 q3 q4 q5 q6 q7 q8 q9 q10 q11)[193]? = some (q8, zat (ad8 E h0 q1 q2 q3 q4 q5 q6 q7 q8 q9 q10 q11, E.2) (hm8 h) 193) := by
  have e : zat (ad8 E h0 q1 q2 q3 q4 q5 q6 q7 q8 q9 q10 q11, E.2) (hm8 h) 193 = .inl (E.2.2.1 0, 40, .inl fun _ => 0) := by
    rw [zat_of (show zT[193]? = some (.inl (0, 40)) from rfl)]
    rfl
  rw [e]
  unfold w8
  rw [List.getElem?_cons_succ]
  exact y_left (y_left (y_left ((y_here (by simp [zws])))))
set_option maxHeartbeats 4000000 in
set_option maxRecDepth 100000 in
theorem p8b_194 (E : EE) (h : Hp) (h0 q1 q2 q3 q4 q5 q6 q7 q8 q9 q10 q11 : Nat) : (w8 E h h0 q1 q2 q3 q4 q5 q6 q7 q8 q9 q10 q11)[194]? = some (q9, zat (ad8 E h0 q1 q2 q3 q4 q5 q6 q7 q8 q9 q10 q11, E.2) (hm8 h) 194) := by
  have e : zat (ad8 E h0 q1 q2 q3 q4 q5 q6 q7 q8 q9 q10 q11, E.2) (hm8 h) 194 = .inl (E.2.2.1 0, 200, .inl fun _ => 0) := by
    rw [zat_of (show zT[194]? = some (.inl (0, 200)) from rfl)]
    rfl
  rw [e]
  unfold w8
  rw [List.getElem?_cons_succ]
  exact y_left (y_left ((y_here (by simp [zws]))))
set_option maxHeartbeats 4000000 in
set_option maxRecDepth 100000 in
theorem p8b_195 (E : EE) (h : Hp) (h0 q1 q2 q3 q4 q5 q6 q7 q8 q9 q10 q11 : Nat) : (w8 E h h0 q1 q2 q3 q4 q5 q6 q7 q8 q9 q10 q11)[195]? = some (q10, zat (ad8 E h0 q1 q2 q3 q4 q5 q6 q7 q8 q9 q10 q11, E.2) (hm8 h) 195) := by
  have e : zat (ad8 E h0 q1 q2 q3 q4 q5 q6 q7 q8 q9 q10 q11, E.2) (hm8 h) 195 = .inl (E.2.2.1 0, 200, .inl fun _ => 0) := by
    rw [zat_of (show zT[195]? = some (.inl (0, 200)) from rfl)]
    rfl
  rw [e]
  unfold w8
  rw [List.getElem?_cons_succ]
  exact y_left ((y_here (by simp [zws])))
set_option maxHeartbeats 4000000 in
set_option maxRecDepth 100000 in
theorem p8b_196 (E : EE) (h : Hp) (h0 q1 q2 q3 q4 q5 q6 q7 q8 q9 q10 q11 : Nat) : (w8 E h h0 q1 q2 q3 q4 q5 q6 q7 q8 q9 q10 q11)[196]? = some (q11, zat (ad8 E h0 q1 q2 q3 q4 q5 q6 q7 q8 q9 q10 q11, E.2) (hm8 h) 196) := by
  have e : zat (ad8 E h0 q1 q2 q3 q4 q5 q6 q7 q8 q9 q10 q11, E.2) (hm8 h) 196 = .inl (E.2.2.1 0, 200, .inl fun _ => 0) := by
    rw [zat_of (show zT[196]? = some (.inl (0, 200)) from rfl)]
    rfl
  rw [e]
  unfold w8
  rw [List.getElem?_cons_succ]
  exact (y_here (by simp [zws]))
set_option maxHeartbeats 4000000 in
set_option maxRecDepth 100000 in
theorem place8b (E : EE) (h : Hp) (h0 q1 q2 q3 q4 q5 q6 q7 q8 q9 q10 q11 : Nat) : ∀ p, p < 197 → ¬ p < 185 → (w8 E h h0 q1 q2 q3 q4 q5 q6 q7 q8 q9 q10 q11)[pos8 p]? = some (ad8 E h0 q1 q2 q3 q4 q5 q6 q7 q8 q9 q10 q11 p, zat (ad8 E h0 q1 q2 q3 q4 q5 q6 q7 q8 q9 q10 q11, E.2) (hm8 h) p) := by
  intro p hp hq
  have hj : p = 185 ∨ p = 186 ∨ p = 187 ∨ p = 188 ∨ p = 189 ∨ p = 190 ∨ p = 191 ∨ p = 192 ∨ p = 193 ∨ p = 194 ∨ p = 195 ∨ p = 196 := by omega
  rcases hj with rfl | rfl | rfl | rfl | rfl | rfl | rfl | rfl | rfl | rfl | rfl | rfl
  · exact p8b_185 E h h0 q1 q2 q3 q4 q5 q6 q7 q8 q9 q10 q11
  · exact p8b_186 E h h0 q1 q2 q3 q4 q5 q6 q7 q8 q9 q10 q11
  · exact p8b_187 E h h0 q1 q2 q3 q4 q5 q6 q7 q8 q9 q10 q11
  · exact p8b_188 E h h0 q1 q2 q3 q4 q5 q6 q7 q8 q9 q10 q11
  · exact p8b_189 E h h0 q1 q2 q3 q4 q5 q6 q7 q8 q9 q10 q11
  · exact p8b_190 E h h0 q1 q2 q3 q4 q5 q6 q7 q8 q9 q10 q11
  · exact p8b_191 E h h0 q1 q2 q3 q4 q5 q6 q7 q8 q9 q10 q11
  · exact p8b_192 E h h0 q1 q2 q3 q4 q5 q6 q7 q8 q9 q10 q11
  · exact p8b_193 E h h0 q1 q2 q3 q4 q5 q6 q7 q8 q9 q10 q11
  · exact p8b_194 E h h0 q1 q2 q3 q4 q5 q6 q7 q8 q9 q10 q11
  · exact p8b_195 E h h0 q1 q2 q3 q4 q5 q6 q7 q8 q9 q10 q11
  · exact p8b_196 E h h0 q1 q2 q3 q4 q5 q6 q7 q8 q9 q10 q11
theorem w8_ok {E : EE} {h : Hp} {H : Heap} {h0 q1 q2 q3 q4 q5 q6 q7 q8 q9 q10 q11 : Nat} (hP : va_P E.2.1 vwCl (w8 E h h0 q1 q2 q3 q4 q5 q6 q7 q8 q9 q10 q11) H) (hD : va_D (zge E) (w8 E h h0 q1 q2 q3 q4 q5 q6 q7 q8 q9 q10 q11)) : zAD (ad8 E h0 q1 q2 q3 q4 q5 q6 q7 q8 q9 q10 q11, E.2) 197 ∧ zWd (ad8 E h0 q1 q2 q3 q4 q5 q6 q7 q8 q9 q10 q11, E.2) 197 (hm8 h) H := by
  have ha := place8a E h h0 q1 q2 q3 q4 q5 q6 q7 q8 q9 q10 q11
  have hb := place8b E h h0 q1 q2 q3 q4 q5 q6 q7 q8 q9 q10 q11
  have he : ∀ q, q < 185 → ad8 E h0 q1 q2 q3 q4 q5 q6 q7 q8 q9 q10 q11 q = E.1 q := fun q hq => if_pos hq
  have hq : ∀ p, p < 197 → ∃ e, (w8 E h h0 q1 q2 q3 q4 q5 q6 q7 q8 q9 q10 q11)[pos8 p]? = some (ad8 E h0 q1 q2 q3 q4 q5 q6 q7 q8 q9 q10 q11 p, e) := fun p hp => by
    by_cases c : p < 185
    · rw [he p c]
      exact ⟨_, ha p c⟩
    · exact ⟨_, hb p hp c⟩
  refine ⟨⟨fun i j hi hj e => ?_, fun i hi => ?_⟩, fun k q hk => ?_⟩
  · obtain ⟨e1, h1⟩ := hq i hi
    obtain ⟨e2, h2⟩ := hq j hj
    exact pos8_inj (hD.1 _ _ _ _ h1 h2 e) hi hj
  · obtain ⟨e1, h1⟩ := hq i hi
    exact hD.2 _ _ h1
  · obtain ⟨h1, rfl⟩ := zws_in hk
    by_cases c : k < 185
    · exact zAt_E (E := E) (ad := ad8 E h0 q1 q2 q3 q4 q5 q6 q7 q8 q9 q10 q11) (h := h) zTb185 he c (fun k2 => if_pos c) (hP _ _ (ha k c))
    · exact hP _ _ (hb k h1 c)
set_option maxHeartbeats 4000000 in
set_option maxRecDepth 100000 in
theorem make8 (l : Launch) (E : EE) (h : Hp) (h0 : Nat) (hh : zhok h) : Met l yX8_init [Cond.code yX8_init cX8_init 1 none] (zrm 2 11 17386) (va_Pc [.ref h0] (fun U => va_P E.2.1 vwCl (zws E 185 h ++ [(h0, .inr (8, [.int 0, .null, .null, .null, .null, .null, .int 0, .int 0, .null, .int 0, .int 0, .int 0, .int 0, .int 0, .int 0, .long 0, .int 0, .int 0, .null, .int 0, .int 0, .null, .int 0, .null, .null, .null, .int 0, .int 0, .int 0]))]) U.heap ∧ va_D (zge E) (zws E 185 h ++ [(h0, .inr (8, [.int 0, .null, .null, .null, .null, .null, .int 0, .int 0, .null, .int 0, .int 0, .int 0, .int 0, .int 0, .int 0, .long 0, .int 0, .int 0, .null, .int 0, .int 0, .null, .int 0, .null, .null, .null, .int 0, .int 0, .int 0]))]) ∧ zKK l E U ∧ yX U)) (fun _ st oc t => (∃ (ad : Nat → Nat) (h2 : Hp), oc = .returned none ∧ (∀ p, p < 185 → ad p = E.1 p) ∧ ad 185 = h0 ∧ (∀ p, 197 ≤ p → ad p = E.1 p) ∧ zAD (ad, E.2) 197 ∧ zhok h2 ∧ J8 h h2 ∧ zWd (ad, E.2) 197 h2 t.heap) ∧ va_F (zge E) st t) 11 17386 (zge E) := by
  refine Met.ofW (cc := cX8_init) (maxL := 1) (ret := none) (by decide) rfl ?_
  intro p e s m args below meth c s₁ B hml hv
  obtain ⟨rfl, hPr, hDr, hKK, hO⟩ := hv
  have hx := B.exec
  have hb := B.bytes
  have hr := B.returns
  have ho : s.vm.findClass RX8 = some m.cls := findClass_of_methodNamed B.named
  have hlk := B.notSynchronized
  have hin : meth.name = "<init>" := (name_of_methodNamed B.named B.method).1
  have hex := y_tab B List.mem_cons_self
  have hK := hKK.1
  have hW := hKK.2.1
  show W p l e (zrm 2 11 17386) s m _ below meth c s.heap [] 0 0 _ _
  have hA : ∀ q : Nat, s.heap.size ≤ q → zge E q := fun q h => Nat.le_trans hKK.2.2.2.1 h
  obtain ⟨hP, hD⟩ := y_rot hPr hDr
  have hS : va_S (zge E) s.heap s.heap [] := va_S.rf
  have hl := lv_entry [.ref h0] (n := 1) (Nat.le_of_ble_eq_true rfl)
  rw [lg_entry_eq]
  generalize (lg_sl [.ref h0] ++ List.replicate (1 - (lg_sl [.ref h0]).length) Slot.unset).toArray = ls at hl ⊢
  have hl : lv_has ls 1 [(0, .ref h0)] := hl
  refine lv_aload_n hx hb dX8_init_0 rfl (lv_at hl 0 rfl) ?_
  refine W.objInit hx hb ho (zIn_use hW yi_oX8) (zIn_use hW yi_oi) (zIn_use hW yi_oc) rfl (by rw [hml]; exact hl.1) rfl dX8_init_1 (Nat.le_of_ble_eq_true rfl) (Nat.le_of_ble_eq_true rfl) ?_
  refine W.eq (g2 := F0 m 4 ls []) rfl ?_
  refine lv_aload_n hx hb dX8_init_4 rfl (lv_at hl 0 rfl) ?_
  refine lv_sipush (v := 1096) hx hb dX8_init_5 rfl ?_
  refine y_newI (N' := 1096) hx hb hW hK hP hD hS hA hO (by decide) rfl (by decide) (Nat.le_of_ble_eq_true rfl) (Nat.le_of_ble_eq_true rfl) dX8_init_8 (fun q1 H hP hD hS => ?_)
  have hP : va_P E.2.1 vwCl ((h0, .inr (8, [.int 0, .null, .null, .null, .null, .null, .int 0, .int 0, .null, .int 0, .int 0, .int 0, .int 0, .int 0, .int 0, .long 0, .int 0, .int 0, .null, .int 0, .int 0, .null, .int 0, .null, .null, .null, .int 0, .int 0, .int 0])) :: ((zws E 185 h) ++ ([(q1, .inl (E.2.2.1 0, 1096, .inl fun _ => 0))] : va_W))) H := hP
  have hD : va_D (zge E) ((h0, .inr (8, [.int 0, .null, .null, .null, .null, .null, .int 0, .int 0, .null, .int 0, .int 0, .int 0, .int 0, .int 0, .int 0, .long 0, .int 0, .int 0, .null, .int 0, .int 0, .null, .int 0, .null, .null, .null, .int 0, .int 0, .int 0])) :: ((zws E 185 h) ++ ([(q1, .inl (E.2.2.1 0, 1096, .inl fun _ => 0))] : va_W))) := hD
  refine y_putF (k := 1) (v := .ref q1) (ft := .array .int) hx hb ho hW hK tyX8 tyX8_ok nmX8 zu_8 rfl (by decide) yi_fX8_13 rfl hin rfl rfl rfl rfl (Nat.le_of_ble_eq_true rfl) hP hD hS dX8_init_10 (fun H locs hP hD hS => ?_)
  have hP : va_P E.2.1 vwCl ((h0, .inr (8, [.int 0, .ref q1, .null, .null, .null, .null, .int 0, .int 0, .null, .int 0, .int 0, .int 0, .int 0, .int 0, .int 0, .long 0, .int 0, .int 0, .null, .int 0, .int 0, .null, .int 0, .null, .null, .null, .int 0, .int 0, .int 0])) :: ((zws E 185 h) ++ ([(q1, .inl (E.2.2.1 0, 1096, .inl fun _ => 0))] : va_W))) H := hP
  have hD : va_D (zge E) ((h0, .inr (8, [.int 0, .ref q1, .null, .null, .null, .null, .int 0, .int 0, .null, .int 0, .int 0, .int 0, .int 0, .int 0, .int 0, .long 0, .int 0, .int 0, .null, .int 0, .int 0, .null, .int 0, .null, .null, .null, .int 0, .int 0, .int 0])) :: ((zws E 185 h) ++ ([(q1, .inl (E.2.2.1 0, 1096, .inl fun _ => 0))] : va_W))) := hD
  refine lv_aload_n hx hb dX8_init_13 rfl (lv_at hl 0 rfl) ?_
  refine lv_sipush (v := 1096) hx hb dX8_init_14 rfl ?_
  refine y_newI (N' := 1096) hx hb hW hK hP hD hS hA hO (by decide) rfl (by decide) (Nat.le_of_ble_eq_true rfl) (Nat.le_of_ble_eq_true rfl) dX8_init_17 (fun q2 H hP hD hS => ?_)
  have hP : va_P E.2.1 vwCl ((h0, .inr (8, [.int 0, .ref q1, .null, .null, .null, .null, .int 0, .int 0, .null, .int 0, .int 0, .int 0, .int 0, .int 0, .int 0, .long 0, .int 0, .int 0, .null, .int 0, .int 0, .null, .int 0, .null, .null, .null, .int 0, .int 0, .int 0])) :: (((zws E 185 h) ++ ([(q1, .inl (E.2.2.1 0, 1096, .inl fun _ => 0))] : va_W)) ++ ([(q2, .inl (E.2.2.1 0, 1096, .inl fun _ => 0))] : va_W))) H := hP
  have hD : va_D (zge E) ((h0, .inr (8, [.int 0, .ref q1, .null, .null, .null, .null, .int 0, .int 0, .null, .int 0, .int 0, .int 0, .int 0, .int 0, .int 0, .long 0, .int 0, .int 0, .null, .int 0, .int 0, .null, .int 0, .null, .null, .null, .int 0, .int 0, .int 0])) :: (((zws E 185 h) ++ ([(q1, .inl (E.2.2.1 0, 1096, .inl fun _ => 0))] : va_W)) ++ ([(q2, .inl (E.2.2.1 0, 1096, .inl fun _ => 0))] : va_W))) := hD
  refine y_putF (k := 2) (v := .ref q2) (ft := .array .int) hx hb ho hW hK tyX8 tyX8_ok nmX8 zu_8 rfl (by decide) yi_fX8_17 rfl hin rfl rfl rfl rfl (Nat.le_of_ble_eq_true rfl) hP hD hS dX8_init_19 (fun H locs hP hD hS => ?_)
  have hP : va_P E.2.1 vwCl ((h0, .inr (8, [.int 0, .ref q1, .ref q2, .null, .null, .null, .int 0, .int 0, .null, .int 0, .int 0, .int 0, .int 0, .int 0, .int 0, .long 0, .int 0, .int 0, .null, .int 0, .int 0, .null, .int 0, .null, .null, .null, .int 0, .int 0, .int 0])) :: (((zws E 185 h) ++ ([(q1, .inl (E.2.2.1 0, 1096, .inl fun _ => 0))] : va_W)) ++ ([(q2, .inl (E.2.2.1 0, 1096, .inl fun _ => 0))] : va_W))) H := hP
  have hD : va_D (zge E) ((h0, .inr (8, [.int 0, .ref q1, .ref q2, .null, .null, .null, .int 0, .int 0, .null, .int 0, .int 0, .int 0, .int 0, .int 0, .int 0, .long 0, .int 0, .int 0, .null, .int 0, .int 0, .null, .int 0, .null, .null, .null, .int 0, .int 0, .int 0])) :: (((zws E 185 h) ++ ([(q1, .inl (E.2.2.1 0, 1096, .inl fun _ => 0))] : va_W)) ++ ([(q2, .inl (E.2.2.1 0, 1096, .inl fun _ => 0))] : va_W))) := hD
  refine lv_aload_n hx hb dX8_init_22 rfl (lv_at hl 0 rfl) ?_
  refine lv_sipush (v := 1096) hx hb dX8_init_23 rfl ?_
  refine y_newI (N' := 1096) hx hb hW hK hP hD hS hA hO (by decide) rfl (by decide) (Nat.le_of_ble_eq_true rfl) (Nat.le_of_ble_eq_true rfl) dX8_init_26 (fun q3 H hP hD hS => ?_)
  have hP : va_P E.2.1 vwCl ((h0, .inr (8, [.int 0, .ref q1, .ref q2, .null, .null, .null, .int 0, .int 0, .null, .int 0, .int 0, .int 0, .int 0, .int 0, .int 0, .long 0, .int 0, .int 0, .null, .int 0, .int 0, .null, .int 0, .null, .null, .null, .int 0, .int 0, .int 0])) :: ((((zws E 185 h) ++ ([(q1, .inl (E.2.2.1 0, 1096, .inl fun _ => 0))] : va_W)) ++ ([(q2, .inl (E.2.2.1 0, 1096, .inl fun _ => 0))] : va_W)) ++ ([(q3, .inl (E.2.2.1 0, 1096, .inl fun _ => 0))] : va_W))) H := hP
  have hD : va_D (zge E) ((h0, .inr (8, [.int 0, .ref q1, .ref q2, .null, .null, .null, .int 0, .int 0, .null, .int 0, .int 0, .int 0, .int 0, .int 0, .int 0, .long 0, .int 0, .int 0, .null, .int 0, .int 0, .null, .int 0, .null, .null, .null, .int 0, .int 0, .int 0])) :: ((((zws E 185 h) ++ ([(q1, .inl (E.2.2.1 0, 1096, .inl fun _ => 0))] : va_W)) ++ ([(q2, .inl (E.2.2.1 0, 1096, .inl fun _ => 0))] : va_W)) ++ ([(q3, .inl (E.2.2.1 0, 1096, .inl fun _ => 0))] : va_W))) := hD
  refine y_putF (k := 3) (v := .ref q3) (ft := .array .int) hx hb ho hW hK tyX8 tyX8_ok nmX8 zu_8 rfl (by decide) yi_fX8_20 rfl hin rfl rfl rfl rfl (Nat.le_of_ble_eq_true rfl) hP hD hS dX8_init_28 (fun H locs hP hD hS => ?_)
  have hP : va_P E.2.1 vwCl ((h0, .inr (8, [.int 0, .ref q1, .ref q2, .ref q3, .null, .null, .int 0, .int 0, .null, .int 0, .int 0, .int 0, .int 0, .int 0, .int 0, .long 0, .int 0, .int 0, .null, .int 0, .int 0, .null, .int 0, .null, .null, .null, .int 0, .int 0, .int 0])) :: ((((zws E 185 h) ++ ([(q1, .inl (E.2.2.1 0, 1096, .inl fun _ => 0))] : va_W)) ++ ([(q2, .inl (E.2.2.1 0, 1096, .inl fun _ => 0))] : va_W)) ++ ([(q3, .inl (E.2.2.1 0, 1096, .inl fun _ => 0))] : va_W))) H := hP
  have hD : va_D (zge E) ((h0, .inr (8, [.int 0, .ref q1, .ref q2, .ref q3, .null, .null, .int 0, .int 0, .null, .int 0, .int 0, .int 0, .int 0, .int 0, .int 0, .long 0, .int 0, .int 0, .null, .int 0, .int 0, .null, .int 0, .null, .null, .null, .int 0, .int 0, .int 0])) :: ((((zws E 185 h) ++ ([(q1, .inl (E.2.2.1 0, 1096, .inl fun _ => 0))] : va_W)) ++ ([(q2, .inl (E.2.2.1 0, 1096, .inl fun _ => 0))] : va_W)) ++ ([(q3, .inl (E.2.2.1 0, 1096, .inl fun _ => 0))] : va_W))) := hD
  refine lv_aload_n hx hb dX8_init_31 rfl (lv_at hl 0 rfl) ?_
  refine lv_sipush (v := 1096) hx hb dX8_init_32 rfl ?_
  refine y_newI (N' := 1096) hx hb hW hK hP hD hS hA hO (by decide) rfl (by decide) (Nat.le_of_ble_eq_true rfl) (Nat.le_of_ble_eq_true rfl) dX8_init_35 (fun q4 H hP hD hS => ?_)
  have hP : va_P E.2.1 vwCl ((h0, .inr (8, [.int 0, .ref q1, .ref q2, .ref q3, .null, .null, .int 0, .int 0, .null, .int 0, .int 0, .int 0, .int 0, .int 0, .int 0, .long 0, .int 0, .int 0, .null, .int 0, .int 0, .null, .int 0, .null, .null, .null, .int 0, .int 0, .int 0])) :: (((((zws E 185 h) ++ ([(q1, .inl (E.2.2.1 0, 1096, .inl fun _ => 0))] : va_W)) ++ ([(q2, .inl (E.2.2.1 0, 1096, .inl fun _ => 0))] : va_W)) ++ ([(q3, .inl (E.2.2.1 0, 1096, .inl fun _ => 0))] : va_W)) ++ ([(q4, .inl (E.2.2.1 0, 1096, .inl fun _ => 0))] : va_W))) H := hP
  have hD : va_D (zge E) ((h0, .inr (8, [.int 0, .ref q1, .ref q2, .ref q3, .null, .null, .int 0, .int 0, .null, .int 0, .int 0, .int 0, .int 0, .int 0, .int 0, .long 0, .int 0, .int 0, .null, .int 0, .int 0, .null, .int 0, .null, .null, .null, .int 0, .int 0, .int 0])) :: (((((zws E 185 h) ++ ([(q1, .inl (E.2.2.1 0, 1096, .inl fun _ => 0))] : va_W)) ++ ([(q2, .inl (E.2.2.1 0, 1096, .inl fun _ => 0))] : va_W)) ++ ([(q3, .inl (E.2.2.1 0, 1096, .inl fun _ => 0))] : va_W)) ++ ([(q4, .inl (E.2.2.1 0, 1096, .inl fun _ => 0))] : va_W))) := hD
  refine y_putF (k := 4) (v := .ref q4) (ft := .array .int) hx hb ho hW hK tyX8 tyX8_ok nmX8 zu_8 rfl (by decide) yi_fX8_23 rfl hin rfl rfl rfl rfl (Nat.le_of_ble_eq_true rfl) hP hD hS dX8_init_37 (fun H locs hP hD hS => ?_)
  have hP : va_P E.2.1 vwCl ((h0, .inr (8, [.int 0, .ref q1, .ref q2, .ref q3, .ref q4, .null, .int 0, .int 0, .null, .int 0, .int 0, .int 0, .int 0, .int 0, .int 0, .long 0, .int 0, .int 0, .null, .int 0, .int 0, .null, .int 0, .null, .null, .null, .int 0, .int 0, .int 0])) :: (((((zws E 185 h) ++ ([(q1, .inl (E.2.2.1 0, 1096, .inl fun _ => 0))] : va_W)) ++ ([(q2, .inl (E.2.2.1 0, 1096, .inl fun _ => 0))] : va_W)) ++ ([(q3, .inl (E.2.2.1 0, 1096, .inl fun _ => 0))] : va_W)) ++ ([(q4, .inl (E.2.2.1 0, 1096, .inl fun _ => 0))] : va_W))) H := hP
  have hD : va_D (zge E) ((h0, .inr (8, [.int 0, .ref q1, .ref q2, .ref q3, .ref q4, .null, .int 0, .int 0, .null, .int 0, .int 0, .int 0, .int 0, .int 0, .int 0, .long 0, .int 0, .int 0, .null, .int 0, .int 0, .null, .int 0, .null, .null, .null, .int 0, .int 0, .int 0])) :: (((((zws E 185 h) ++ ([(q1, .inl (E.2.2.1 0, 1096, .inl fun _ => 0))] : va_W)) ++ ([(q2, .inl (E.2.2.1 0, 1096, .inl fun _ => 0))] : va_W)) ++ ([(q3, .inl (E.2.2.1 0, 1096, .inl fun _ => 0))] : va_W)) ++ ([(q4, .inl (E.2.2.1 0, 1096, .inl fun _ => 0))] : va_W))) := hD
  refine lv_aload_n hx hb dX8_init_40 rfl (lv_at hl 0 rfl) ?_
  refine lv_sipush (v := 10960) hx hb dX8_init_41 rfl ?_
  refine y_newI (N' := 10960) hx hb hW hK hP hD hS hA hO (by decide) rfl (by decide) (Nat.le_of_ble_eq_true rfl) (Nat.le_of_ble_eq_true rfl) dX8_init_44 (fun q5 H hP hD hS => ?_)
  have hP : va_P E.2.1 vwCl ((h0, .inr (8, [.int 0, .ref q1, .ref q2, .ref q3, .ref q4, .null, .int 0, .int 0, .null, .int 0, .int 0, .int 0, .int 0, .int 0, .int 0, .long 0, .int 0, .int 0, .null, .int 0, .int 0, .null, .int 0, .null, .null, .null, .int 0, .int 0, .int 0])) :: ((((((zws E 185 h) ++ ([(q1, .inl (E.2.2.1 0, 1096, .inl fun _ => 0))] : va_W)) ++ ([(q2, .inl (E.2.2.1 0, 1096, .inl fun _ => 0))] : va_W)) ++ ([(q3, .inl (E.2.2.1 0, 1096, .inl fun _ => 0))] : va_W)) ++ ([(q4, .inl (E.2.2.1 0, 1096, .inl fun _ => 0))] : va_W)) ++ ([(q5, .inl (E.2.2.1 0, 10960, .inl fun _ => 0))] : va_W))) H := hP
  have hD : va_D (zge E) ((h0, .inr (8, [.int 0, .ref q1, .ref q2, .ref q3, .ref q4, .null, .int 0, .int 0, .null, .int 0, .int 0, .int 0, .int 0, .int 0, .int 0, .long 0, .int 0, .int 0, .null, .int 0, .int 0, .null, .int 0, .null, .null, .null, .int 0, .int 0, .int 0])) :: ((((((zws E 185 h) ++ ([(q1, .inl (E.2.2.1 0, 1096, .inl fun _ => 0))] : va_W)) ++ ([(q2, .inl (E.2.2.1 0, 1096, .inl fun _ => 0))] : va_W)) ++ ([(q3, .inl (E.2.2.1 0, 1096, .inl fun _ => 0))] : va_W)) ++ ([(q4, .inl (E.2.2.1 0, 1096, .inl fun _ => 0))] : va_W)) ++ ([(q5, .inl (E.2.2.1 0, 10960, .inl fun _ => 0))] : va_W))) := hD
  refine y_putF (k := 5) (v := .ref q5) (ft := .array .int) hx hb ho hW hK tyX8 tyX8_ok nmX8 zu_8 rfl (by decide) yi_fX8_26 rfl hin rfl rfl rfl rfl (Nat.le_of_ble_eq_true rfl) hP hD hS dX8_init_46 (fun H locs hP hD hS => ?_)
  have hP : va_P E.2.1 vwCl ((h0, .inr (8, [.int 0, .ref q1, .ref q2, .ref q3, .ref q4, .ref q5, .int 0, .int 0, .null, .int 0, .int 0, .int 0, .int 0, .int 0, .int 0, .long 0, .int 0, .int 0, .null, .int 0, .int 0, .null, .int 0, .null, .null, .null, .int 0, .int 0, .int 0])) :: ((((((zws E 185 h) ++ ([(q1, .inl (E.2.2.1 0, 1096, .inl fun _ => 0))] : va_W)) ++ ([(q2, .inl (E.2.2.1 0, 1096, .inl fun _ => 0))] : va_W)) ++ ([(q3, .inl (E.2.2.1 0, 1096, .inl fun _ => 0))] : va_W)) ++ ([(q4, .inl (E.2.2.1 0, 1096, .inl fun _ => 0))] : va_W)) ++ ([(q5, .inl (E.2.2.1 0, 10960, .inl fun _ => 0))] : va_W))) H := hP
  have hD : va_D (zge E) ((h0, .inr (8, [.int 0, .ref q1, .ref q2, .ref q3, .ref q4, .ref q5, .int 0, .int 0, .null, .int 0, .int 0, .int 0, .int 0, .int 0, .int 0, .long 0, .int 0, .int 0, .null, .int 0, .int 0, .null, .int 0, .null, .null, .null, .int 0, .int 0, .int 0])) :: ((((((zws E 185 h) ++ ([(q1, .inl (E.2.2.1 0, 1096, .inl fun _ => 0))] : va_W)) ++ ([(q2, .inl (E.2.2.1 0, 1096, .inl fun _ => 0))] : va_W)) ++ ([(q3, .inl (E.2.2.1 0, 1096, .inl fun _ => 0))] : va_W)) ++ ([(q4, .inl (E.2.2.1 0, 1096, .inl fun _ => 0))] : va_W)) ++ ([(q5, .inl (E.2.2.1 0, 10960, .inl fun _ => 0))] : va_W))) := hD
  refine lv_aload_n hx hb dX8_init_49 rfl (lv_at hl 0 rfl) ?_
  refine lv_sipush (v := 900) hx hb dX8_init_50 rfl ?_
  refine y_newI (N' := 900) hx hb hW hK hP hD hS hA hO (by decide) rfl (by decide) (Nat.le_of_ble_eq_true rfl) (Nat.le_of_ble_eq_true rfl) dX8_init_53 (fun q6 H hP hD hS => ?_)
  have hP : va_P E.2.1 vwCl ((h0, .inr (8, [.int 0, .ref q1, .ref q2, .ref q3, .ref q4, .ref q5, .int 0, .int 0, .null, .int 0, .int 0, .int 0, .int 0, .int 0, .int 0, .long 0, .int 0, .int 0, .null, .int 0, .int 0, .null, .int 0, .null, .null, .null, .int 0, .int 0, .int 0])) :: (((((((zws E 185 h) ++ ([(q1, .inl (E.2.2.1 0, 1096, .inl fun _ => 0))] : va_W)) ++ ([(q2, .inl (E.2.2.1 0, 1096, .inl fun _ => 0))] : va_W)) ++ ([(q3, .inl (E.2.2.1 0, 1096, .inl fun _ => 0))] : va_W)) ++ ([(q4, .inl (E.2.2.1 0, 1096, .inl fun _ => 0))] : va_W)) ++ ([(q5, .inl (E.2.2.1 0, 10960, .inl fun _ => 0))] : va_W)) ++ ([(q6, .inl (E.2.2.1 0, 900, .inl fun _ => 0))] : va_W))) H := hP
  have hD : va_D (zge E) ((h0, .inr (8, [.int 0, .ref q1, .ref q2, .ref q3, .ref q4, .ref q5, .int 0, .int 0, .null, .int 0, .int 0, .int 0, .int 0, .int 0, .int 0, .long 0, .int 0, .int 0, .null, .int 0, .int 0, .null, .int 0, .null, .null, .null, .int 0, .int 0, .int 0])) :: (((((((zws E 185 h) ++ ([(q1, .inl (E.2.2.1 0, 1096, .inl fun _ => 0))] : va_W)) ++ ([(q2, .inl (E.2.2.1 0, 1096, .inl fun _ => 0))] : va_W)) ++ ([(q3, .inl (E.2.2.1 0, 1096, .inl fun _ => 0))] : va_W)) ++ ([(q4, .inl (E.2.2.1 0, 1096, .inl fun _ => 0))] : va_W)) ++ ([(q5, .inl (E.2.2.1 0, 10960, .inl fun _ => 0))] : va_W)) ++ ([(q6, .inl (E.2.2.1 0, 900, .inl fun _ => 0))] : va_W))) := hD
  refine y_putF (k := 8) (v := .ref q6) (ft := .array .int) hx hb ho hW hK tyX8 tyX8_ok nmX8 zu_8 rfl (by decide) yi_fX8_29 rfl hin rfl rfl rfl rfl (Nat.le_of_ble_eq_true rfl) hP hD hS dX8_init_55 (fun H locs hP hD hS => ?_)
  have hP : va_P E.2.1 vwCl ((h0, .inr (8, [.int 0, .ref q1, .ref q2, .ref q3, .ref q4, .ref q5, .int 0, .int 0, .ref q6, .int 0, .int 0, .int 0, .int 0, .int 0, .int 0, .long 0, .int 0, .int 0, .null, .int 0, .int 0, .null, .int 0, .null, .null, .null, .int 0, .int 0, .int 0])) :: (((((((zws E 185 h) ++ ([(q1, .inl (E.2.2.1 0, 1096, .inl fun _ => 0))] : va_W)) ++ ([(q2, .inl (E.2.2.1 0, 1096, .inl fun _ => 0))] : va_W)) ++ ([(q3, .inl (E.2.2.1 0, 1096, .inl fun _ => 0))] : va_W)) ++ ([(q4, .inl (E.2.2.1 0, 1096, .inl fun _ => 0))] : va_W)) ++ ([(q5, .inl (E.2.2.1 0, 10960, .inl fun _ => 0))] : va_W)) ++ ([(q6, .inl (E.2.2.1 0, 900, .inl fun _ => 0))] : va_W))) H := hP
  have hD : va_D (zge E) ((h0, .inr (8, [.int 0, .ref q1, .ref q2, .ref q3, .ref q4, .ref q5, .int 0, .int 0, .ref q6, .int 0, .int 0, .int 0, .int 0, .int 0, .int 0, .long 0, .int 0, .int 0, .null, .int 0, .int 0, .null, .int 0, .null, .null, .null, .int 0, .int 0, .int 0])) :: (((((((zws E 185 h) ++ ([(q1, .inl (E.2.2.1 0, 1096, .inl fun _ => 0))] : va_W)) ++ ([(q2, .inl (E.2.2.1 0, 1096, .inl fun _ => 0))] : va_W)) ++ ([(q3, .inl (E.2.2.1 0, 1096, .inl fun _ => 0))] : va_W)) ++ ([(q4, .inl (E.2.2.1 0, 1096, .inl fun _ => 0))] : va_W)) ++ ([(q5, .inl (E.2.2.1 0, 10960, .inl fun _ => 0))] : va_W)) ++ ([(q6, .inl (E.2.2.1 0, 900, .inl fun _ => 0))] : va_W))) := hD
  refine lv_aload_n hx hb dX8_init_58 rfl (lv_at hl 0 rfl) ?_
  refine lv_iconst (v := -1) hx hb dX8_init_59 rfl ?_
  refine y_put (k := 17) (v := .int (-1)) (ft := .int) hx hb ho hW hK tyX8 tyX8_ok nmX8 zu_8 rfl (by decide) yi_fX8_32 rfl rfl rfl rfl (Nat.le_of_ble_eq_true rfl) hP hD hS dX8_init_60 (fun H locs hP hD hS => ?_)
  have hP : va_P E.2.1 vwCl ((h0, .inr (8, [.int 0, .ref q1, .ref q2, .ref q3, .ref q4, .ref q5, .int 0, .int 0, .ref q6, .int 0, .int 0, .int 0, .int 0, .int 0, .int 0, .long 0, .int 0, .int (-1), .null, .int 0, .int 0, .null, .int 0, .null, .null, .null, .int 0, .int 0, .int 0])) :: (((((((zws E 185 h) ++ ([(q1, .inl (E.2.2.1 0, 1096, .inl fun _ => 0))] : va_W)) ++ ([(q2, .inl (E.2.2.1 0, 1096, .inl fun _ => 0))] : va_W)) ++ ([(q3, .inl (E.2.2.1 0, 1096, .inl fun _ => 0))] : va_W)) ++ ([(q4, .inl (E.2.2.1 0, 1096, .inl fun _ => 0))] : va_W)) ++ ([(q5, .inl (E.2.2.1 0, 10960, .inl fun _ => 0))] : va_W)) ++ ([(q6, .inl (E.2.2.1 0, 900, .inl fun _ => 0))] : va_W))) H := hP
  have hD : va_D (zge E) ((h0, .inr (8, [.int 0, .ref q1, .ref q2, .ref q3, .ref q4, .ref q5, .int 0, .int 0, .ref q6, .int 0, .int 0, .int 0, .int 0, .int 0, .int 0, .long 0, .int 0, .int (-1), .null, .int 0, .int 0, .null, .int 0, .null, .null, .null, .int 0, .int 0, .int 0])) :: (((((((zws E 185 h) ++ ([(q1, .inl (E.2.2.1 0, 1096, .inl fun _ => 0))] : va_W)) ++ ([(q2, .inl (E.2.2.1 0, 1096, .inl fun _ => 0))] : va_W)) ++ ([(q3, .inl (E.2.2.1 0, 1096, .inl fun _ => 0))] : va_W)) ++ ([(q4, .inl (E.2.2.1 0, 1096, .inl fun _ => 0))] : va_W)) ++ ([(q5, .inl (E.2.2.1 0, 10960, .inl fun _ => 0))] : va_W)) ++ ([(q6, .inl (E.2.2.1 0, 900, .inl fun _ => 0))] : va_W))) := hD
  refine lv_aload_n hx hb dX8_init_63 rfl (lv_at hl 0 rfl) ?_
  refine lv_sipush (v := 502) hx hb dX8_init_64 rfl ?_
  refine y_newI (N' := 502) hx hb hW hK hP hD hS hA hO (by decide) rfl (by decide) (Nat.le_of_ble_eq_true rfl) (Nat.le_of_ble_eq_true rfl) dX8_init_67 (fun q7 H hP hD hS => ?_)
  have hP : va_P E.2.1 vwCl ((h0, .inr (8, [.int 0, .ref q1, .ref q2, .ref q3, .ref q4, .ref q5, .int 0, .int 0, .ref q6, .int 0, .int 0, .int 0, .int 0, .int 0, .int 0, .long 0, .int 0, .int (-1), .null, .int 0, .int 0, .null, .int 0, .null, .null, .null, .int 0, .int 0, .int 0])) :: ((((((((zws E 185 h) ++ ([(q1, .inl (E.2.2.1 0, 1096, .inl fun _ => 0))] : va_W)) ++ ([(q2, .inl (E.2.2.1 0, 1096, .inl fun _ => 0))] : va_W)) ++ ([(q3, .inl (E.2.2.1 0, 1096, .inl fun _ => 0))] : va_W)) ++ ([(q4, .inl (E.2.2.1 0, 1096, .inl fun _ => 0))] : va_W)) ++ ([(q5, .inl (E.2.2.1 0, 10960, .inl fun _ => 0))] : va_W)) ++ ([(q6, .inl (E.2.2.1 0, 900, .inl fun _ => 0))] : va_W)) ++ ([(q7, .inl (E.2.2.1 0, 502, .inl fun _ => 0))] : va_W))) H := hP
  have hD : va_D (zge E) ((h0, .inr (8, [.int 0, .ref q1, .ref q2, .ref q3, .ref q4, .ref q5, .int 0, .int 0, .ref q6, .int 0, .int 0, .int 0, .int 0, .int 0, .int 0, .long 0, .int 0, .int (-1), .null, .int 0, .int 0, .null, .int 0, .null, .null, .null, .int 0, .int 0, .int 0])) :: ((((((((zws E 185 h) ++ ([(q1, .inl (E.2.2.1 0, 1096, .inl fun _ => 0))] : va_W)) ++ ([(q2, .inl (E.2.2.1 0, 1096, .inl fun _ => 0))] : va_W)) ++ ([(q3, .inl (E.2.2.1 0, 1096, .inl fun _ => 0))] : va_W)) ++ ([(q4, .inl (E.2.2.1 0, 1096, .inl fun _ => 0))] : va_W)) ++ ([(q5, .inl (E.2.2.1 0, 10960, .inl fun _ => 0))] : va_W)) ++ ([(q6, .inl (E.2.2.1 0, 900, .inl fun _ => 0))] : va_W)) ++ ([(q7, .inl (E.2.2.1 0, 502, .inl fun _ => 0))] : va_W))) := hD
  refine y_putF (k := 18) (v := .ref q7) (ft := .array .int) hx hb ho hW hK tyX8 tyX8_ok nmX8 zu_8 rfl (by decide) yi_fX8_35 rfl hin rfl rfl rfl rfl (Nat.le_of_ble_eq_true rfl) hP hD hS dX8_init_69 (fun H locs hP hD hS => ?_)
  have hP : va_P E.2.1 vwCl ((h0, .inr (8, [.int 0, .ref q1, .ref q2, .ref q3, .ref q4, .ref q5, .int 0, .int 0, .ref q6, .int 0, .int 0, .int 0, .int 0, .int 0, .int 0, .long 0, .int 0, .int (-1), .ref q7, .int 0, .int 0, .null, .int 0, .null, .null, .null, .int 0, .int 0, .int 0])) :: ((((((((zws E 185 h) ++ ([(q1, .inl (E.2.2.1 0, 1096, .inl fun _ => 0))] : va_W)) ++ ([(q2, .inl (E.2.2.1 0, 1096, .inl fun _ => 0))] : va_W)) ++ ([(q3, .inl (E.2.2.1 0, 1096, .inl fun _ => 0))] : va_W)) ++ ([(q4, .inl (E.2.2.1 0, 1096, .inl fun _ => 0))] : va_W)) ++ ([(q5, .inl (E.2.2.1 0, 10960, .inl fun _ => 0))] : va_W)) ++ ([(q6, .inl (E.2.2.1 0, 900, .inl fun _ => 0))] : va_W)) ++ ([(q7, .inl (E.2.2.1 0, 502, .inl fun _ => 0))] : va_W))) H := hP
  have hD : va_D (zge E) ((h0, .inr (8, [.int 0, .ref q1, .ref q2, .ref q3, .ref q4, .ref q5, .int 0, .int 0, .ref q6, .int 0, .int 0, .int 0, .int 0, .int 0, .int 0, .long 0, .int 0, .int (-1), .ref q7, .int 0, .int 0, .null, .int 0, .null, .null, .null, .int 0, .int 0, .int 0])) :: ((((((((zws E 185 h) ++ ([(q1, .inl (E.2.2.1 0, 1096, .inl fun _ => 0))] : va_W)) ++ ([(q2, .inl (E.2.2.1 0, 1096, .inl fun _ => 0))] : va_W)) ++ ([(q3, .inl (E.2.2.1 0, 1096, .inl fun _ => 0))] : va_W)) ++ ([(q4, .inl (E.2.2.1 0, 1096, .inl fun _ => 0))] : va_W)) ++ ([(q5, .inl (E.2.2.1 0, 10960, .inl fun _ => 0))] : va_W)) ++ ([(q6, .inl (E.2.2.1 0, 900, .inl fun _ => 0))] : va_W)) ++ ([(q7, .inl (E.2.2.1 0, 502, .inl fun _ => 0))] : va_W))) := hD
  refine lv_aload_n hx hb dX8_init_72 rfl (lv_at hl 0 rfl) ?_
  refine lv_bipush (v := 40) hx hb dX8_init_73 rfl ?_
  refine y_newI (N' := 40) hx hb hW hK hP hD hS hA hO (by decide) rfl (by decide) (Nat.le_of_ble_eq_true rfl) (Nat.le_of_ble_eq_true rfl) dX8_init_75 (fun q8 H hP hD hS => ?_)
  have hP : va_P E.2.1 vwCl ((h0, .inr (8, [.int 0, .ref q1, .ref q2, .ref q3, .ref q4, .ref q5, .int 0, .int 0, .ref q6, .int 0, .int 0, .int 0, .int 0, .int 0, .int 0, .long 0, .int 0, .int (-1), .ref q7, .int 0, .int 0, .null, .int 0, .null, .null, .null, .int 0, .int 0, .int 0])) :: (((((((((zws E 185 h) ++ ([(q1, .inl (E.2.2.1 0, 1096, .inl fun _ => 0))] : va_W)) ++ ([(q2, .inl (E.2.2.1 0, 1096, .inl fun _ => 0))] : va_W)) ++ ([(q3, .inl (E.2.2.1 0, 1096, .inl fun _ => 0))] : va_W)) ++ ([(q4, .inl (E.2.2.1 0, 1096, .inl fun _ => 0))] : va_W)) ++ ([(q5, .inl (E.2.2.1 0, 10960, .inl fun _ => 0))] : va_W)) ++ ([(q6, .inl (E.2.2.1 0, 900, .inl fun _ => 0))] : va_W)) ++ ([(q7, .inl (E.2.2.1 0, 502, .inl fun _ => 0))] : va_W)) ++ ([(q8, .inl (E.2.2.1 0, 40, .inl fun _ => 0))] : va_W))) H := hP
  have hD : va_D (zge E) ((h0, .inr (8, [.int 0, .ref q1, .ref q2, .ref q3, .ref q4, .ref q5, .int 0, .int 0, .ref q6, .int 0, .int 0, .int 0, .int 0, .int 0, .int 0, .long 0, .int 0, .int (-1), .ref q7, .int 0, .int 0, .null, .int 0, .null, .null, .null, .int 0, .int 0, .int 0])) :: (((((((((zws E 185 h) ++ ([(q1, .inl (E.2.2.1 0, 1096, .inl fun _ => 0))] : va_W)) ++ ([(q2, .inl (E.2.2.1 0, 1096, .inl fun _ => 0))] : va_W)) ++ ([(q3, .inl (E.2.2.1 0, 1096, .inl fun _ => 0))] : va_W)) ++ ([(q4, .inl (E.2.2.1 0, 1096, .inl fun _ => 0))] : va_W)) ++ ([(q5, .inl (E.2.2.1 0, 10960, .inl fun _ => 0))] : va_W)) ++ ([(q6, .inl (E.2.2.1 0, 900, .inl fun _ => 0))] : va_W)) ++ ([(q7, .inl (E.2.2.1 0, 502, .inl fun _ => 0))] : va_W)) ++ ([(q8, .inl (E.2.2.1 0, 40, .inl fun _ => 0))] : va_W))) := hD
  refine y_putF (k := 21) (v := .ref q8) (ft := .array .int) hx hb ho hW hK tyX8 tyX8_ok nmX8 zu_8 rfl (by decide) yi_fX8_38 rfl hin rfl rfl rfl rfl (Nat.le_of_ble_eq_true rfl) hP hD hS dX8_init_77 (fun H locs hP hD hS => ?_)
  have hP : va_P E.2.1 vwCl ((h0, .inr (8, [.int 0, .ref q1, .ref q2, .ref q3, .ref q4, .ref q5, .int 0, .int 0, .ref q6, .int 0, .int 0, .int 0, .int 0, .int 0, .int 0, .long 0, .int 0, .int (-1), .ref q7, .int 0, .int 0, .ref q8, .int 0, .null, .null, .null, .int 0, .int 0, .int 0])) :: (((((((((zws E 185 h) ++ ([(q1, .inl (E.2.2.1 0, 1096, .inl fun _ => 0))] : va_W)) ++ ([(q2, .inl (E.2.2.1 0, 1096, .inl fun _ => 0))] : va_W)) ++ ([(q3, .inl (E.2.2.1 0, 1096, .inl fun _ => 0))] : va_W)) ++ ([(q4, .inl (E.2.2.1 0, 1096, .inl fun _ => 0))] : va_W)) ++ ([(q5, .inl (E.2.2.1 0, 10960, .inl fun _ => 0))] : va_W)) ++ ([(q6, .inl (E.2.2.1 0, 900, .inl fun _ => 0))] : va_W)) ++ ([(q7, .inl (E.2.2.1 0, 502, .inl fun _ => 0))] : va_W)) ++ ([(q8, .inl (E.2.2.1 0, 40, .inl fun _ => 0))] : va_W))) H := hP
  have hD : va_D (zge E) ((h0, .inr (8, [.int 0, .ref q1, .ref q2, .ref q3, .ref q4, .ref q5, .int 0, .int 0, .ref q6, .int 0, .int 0, .int 0, .int 0, .int 0, .int 0, .long 0, .int 0, .int (-1), .ref q7, .int 0, .int 0, .ref q8, .int 0, .null, .null, .null, .int 0, .int 0, .int 0])) :: (((((((((zws E 185 h) ++ ([(q1, .inl (E.2.2.1 0, 1096, .inl fun _ => 0))] : va_W)) ++ ([(q2, .inl (E.2.2.1 0, 1096, .inl fun _ => 0))] : va_W)) ++ ([(q3, .inl (E.2.2.1 0, 1096, .inl fun _ => 0))] : va_W)) ++ ([(q4, .inl (E.2.2.1 0, 1096, .inl fun _ => 0))] : va_W)) ++ ([(q5, .inl (E.2.2.1 0, 10960, .inl fun _ => 0))] : va_W)) ++ ([(q6, .inl (E.2.2.1 0, 900, .inl fun _ => 0))] : va_W)) ++ ([(q7, .inl (E.2.2.1 0, 502, .inl fun _ => 0))] : va_W)) ++ ([(q8, .inl (E.2.2.1 0, 40, .inl fun _ => 0))] : va_W))) := hD
  refine lv_aload_n hx hb dX8_init_80 rfl (lv_at hl 0 rfl) ?_
  refine lv_sipush (v := 200) hx hb dX8_init_81 rfl ?_
  refine y_newI (N' := 200) hx hb hW hK hP hD hS hA hO (by decide) rfl (by decide) (Nat.le_of_ble_eq_true rfl) (Nat.le_of_ble_eq_true rfl) dX8_init_84 (fun q9 H hP hD hS => ?_)
  have hP : va_P E.2.1 vwCl ((h0, .inr (8, [.int 0, .ref q1, .ref q2, .ref q3, .ref q4, .ref q5, .int 0, .int 0, .ref q6, .int 0, .int 0, .int 0, .int 0, .int 0, .int 0, .long 0, .int 0, .int (-1), .ref q7, .int 0, .int 0, .ref q8, .int 0, .null, .null, .null, .int 0, .int 0, .int 0])) :: ((((((((((zws E 185 h) ++ ([(q1, .inl (E.2.2.1 0, 1096, .inl fun _ => 0))] : va_W)) ++ ([(q2, .inl (E.2.2.1 0, 1096, .inl fun _ => 0))] : va_W)) ++ ([(q3, .inl (E.2.2.1 0, 1096, .inl fun _ => 0))] : va_W)) ++ ([(q4, .inl (E.2.2.1 0, 1096, .inl fun _ => 0))] : va_W)) ++ ([(q5, .inl (E.2.2.1 0, 10960, .inl fun _ => 0))] : va_W)) ++ ([(q6, .inl (E.2.2.1 0, 900, .inl fun _ => 0))] : va_W)) ++ ([(q7, .inl (E.2.2.1 0, 502, .inl fun _ => 0))] : va_W)) ++ ([(q8, .inl (E.2.2.1 0, 40, .inl fun _ => 0))] : va_W)) ++ ([(q9, .inl (E.2.2.1 0, 200, .inl fun _ => 0))] : va_W))) H := hP
  have hD : va_D (zge E) ((h0, .inr (8, [.int 0, .ref q1, .ref q2, .ref q3, .ref q4, .ref q5, .int 0, .int 0, .ref q6, .int 0, .int 0, .int 0, .int 0, .int 0, .int 0, .long 0, .int 0, .int (-1), .ref q7, .int 0, .int 0, .ref q8, .int 0, .null, .null, .null, .int 0, .int 0, .int 0])) :: ((((((((((zws E 185 h) ++ ([(q1, .inl (E.2.2.1 0, 1096, .inl fun _ => 0))] : va_W)) ++ ([(q2, .inl (E.2.2.1 0, 1096, .inl fun _ => 0))] : va_W)) ++ ([(q3, .inl (E.2.2.1 0, 1096, .inl fun _ => 0))] : va_W)) ++ ([(q4, .inl (E.2.2.1 0, 1096, .inl fun _ => 0))] : va_W)) ++ ([(q5, .inl (E.2.2.1 0, 10960, .inl fun _ => 0))] : va_W)) ++ ([(q6, .inl (E.2.2.1 0, 900, .inl fun _ => 0))] : va_W)) ++ ([(q7, .inl (E.2.2.1 0, 502, .inl fun _ => 0))] : va_W)) ++ ([(q8, .inl (E.2.2.1 0, 40, .inl fun _ => 0))] : va_W)) ++ ([(q9, .inl (E.2.2.1 0, 200, .inl fun _ => 0))] : va_W))) := hD
  refine y_putF (k := 23) (v := .ref q9) (ft := .array .int) hx hb ho hW hK tyX8 tyX8_ok nmX8 zu_8 rfl (by decide) yi_fX8_41 rfl hin rfl rfl rfl rfl (Nat.le_of_ble_eq_true rfl) hP hD hS dX8_init_86 (fun H locs hP hD hS => ?_)
  have hP : va_P E.2.1 vwCl ((h0, .inr (8, [.int 0, .ref q1, .ref q2, .ref q3, .ref q4, .ref q5, .int 0, .int 0, .ref q6, .int 0, .int 0, .int 0, .int 0, .int 0, .int 0, .long 0, .int 0, .int (-1), .ref q7, .int 0, .int 0, .ref q8, .int 0, .ref q9, .null, .null, .int 0, .int 0, .int 0])) :: ((((((((((zws E 185 h) ++ ([(q1, .inl (E.2.2.1 0, 1096, .inl fun _ => 0))] : va_W)) ++ ([(q2, .inl (E.2.2.1 0, 1096, .inl fun _ => 0))] : va_W)) ++ ([(q3, .inl (E.2.2.1 0, 1096, .inl fun _ => 0))] : va_W)) ++ ([(q4, .inl (E.2.2.1 0, 1096, .inl fun _ => 0))] : va_W)) ++ ([(q5, .inl (E.2.2.1 0, 10960, .inl fun _ => 0))] : va_W)) ++ ([(q6, .inl (E.2.2.1 0, 900, .inl fun _ => 0))] : va_W)) ++ ([(q7, .inl (E.2.2.1 0, 502, .inl fun _ => 0))] : va_W)) ++ ([(q8, .inl (E.2.2.1 0, 40, .inl fun _ => 0))] : va_W)) ++ ([(q9, .inl (E.2.2.1 0, 200, .inl fun _ => 0))] : va_W))) H := hP
  have hD : va_D (zge E) ((h0, .inr (8, [.int 0, .ref q1, .ref q2, .ref q3, .ref q4, .ref q5, .int 0, .int 0, .ref q6, .int 0, .int 0, .int 0, .int 0, .int 0, .int 0, .long 0, .int 0, .int (-1), .ref q7, .int 0, .int 0, .ref q8, .int 0, .ref q9, .null, .null, .int 0, .int 0, .int 0])) :: ((((((((((zws E 185 h) ++ ([(q1, .inl (E.2.2.1 0, 1096, .inl fun _ => 0))] : va_W)) ++ ([(q2, .inl (E.2.2.1 0, 1096, .inl fun _ => 0))] : va_W)) ++ ([(q3, .inl (E.2.2.1 0, 1096, .inl fun _ => 0))] : va_W)) ++ ([(q4, .inl (E.2.2.1 0, 1096, .inl fun _ => 0))] : va_W)) ++ ([(q5, .inl (E.2.2.1 0, 10960, .inl fun _ => 0))] : va_W)) ++ ([(q6, .inl (E.2.2.1 0, 900, .inl fun _ => 0))] : va_W)) ++ ([(q7, .inl (E.2.2.1 0, 502, .inl fun _ => 0))] : va_W)) ++ ([(q8, .inl (E.2.2.1 0, 40, .inl fun _ => 0))] : va_W)) ++ ([(q9, .inl (E.2.2.1 0, 200, .inl fun _ => 0))] : va_W))) := hD
  refine lv_aload_n hx hb dX8_init_89 rfl (lv_at hl 0 rfl) ?_
  refine lv_sipush (v := 200) hx hb dX8_init_90 rfl ?_
  refine y_newI (N' := 200) hx hb hW hK hP hD hS hA hO (by decide) rfl (by decide) (Nat.le_of_ble_eq_true rfl) (Nat.le_of_ble_eq_true rfl) dX8_init_93 (fun q10 H hP hD hS => ?_)
  have hP : va_P E.2.1 vwCl ((h0, .inr (8, [.int 0, .ref q1, .ref q2, .ref q3, .ref q4, .ref q5, .int 0, .int 0, .ref q6, .int 0, .int 0, .int 0, .int 0, .int 0, .int 0, .long 0, .int 0, .int (-1), .ref q7, .int 0, .int 0, .ref q8, .int 0, .ref q9, .null, .null, .int 0, .int 0, .int 0])) :: (((((((((((zws E 185 h) ++ ([(q1, .inl (E.2.2.1 0, 1096, .inl fun _ => 0))] : va_W)) ++ ([(q2, .inl (E.2.2.1 0, 1096, .inl fun _ => 0))] : va_W)) ++ ([(q3, .inl (E.2.2.1 0, 1096, .inl fun _ => 0))] : va_W)) ++ ([(q4, .inl (E.2.2.1 0, 1096, .inl fun _ => 0))] : va_W)) ++ ([(q5, .inl (E.2.2.1 0, 10960, .inl fun _ => 0))] : va_W)) ++ ([(q6, .inl (E.2.2.1 0, 900, .inl fun _ => 0))] : va_W)) ++ ([(q7, .inl (E.2.2.1 0, 502, .inl fun _ => 0))] : va_W)) ++ ([(q8, .inl (E.2.2.1 0, 40, .inl fun _ => 0))] : va_W)) ++ ([(q9, .inl (E.2.2.1 0, 200, .inl fun _ => 0))] : va_W)) ++ ([(q10, .inl (E.2.2.1 0, 200, .inl fun _ => 0))] : va_W))) H := hP
  have hD : va_D (zge E) ((h0, .inr (8, [.int 0, .ref q1, .ref q2, .ref q3, .ref q4, .ref q5, .int 0, .int 0, .ref q6, .int 0, .int 0, .int 0, .int 0, .int 0, .int 0, .long 0, .int 0, .int (-1), .ref q7, .int 0, .int 0, .ref q8, .int 0, .ref q9, .null, .null, .int 0, .int 0, .int 0])) :: (((((((((((zws E 185 h) ++ ([(q1, .inl (E.2.2.1 0, 1096, .inl fun _ => 0))] : va_W)) ++ ([(q2, .inl (E.2.2.1 0, 1096, .inl fun _ => 0))] : va_W)) ++ ([(q3, .inl (E.2.2.1 0, 1096, .inl fun _ => 0))] : va_W)) ++ ([(q4, .inl (E.2.2.1 0, 1096, .inl fun _ => 0))] : va_W)) ++ ([(q5, .inl (E.2.2.1 0, 10960, .inl fun _ => 0))] : va_W)) ++ ([(q6, .inl (E.2.2.1 0, 900, .inl fun _ => 0))] : va_W)) ++ ([(q7, .inl (E.2.2.1 0, 502, .inl fun _ => 0))] : va_W)) ++ ([(q8, .inl (E.2.2.1 0, 40, .inl fun _ => 0))] : va_W)) ++ ([(q9, .inl (E.2.2.1 0, 200, .inl fun _ => 0))] : va_W)) ++ ([(q10, .inl (E.2.2.1 0, 200, .inl fun _ => 0))] : va_W))) := hD
  refine y_putF (k := 24) (v := .ref q10) (ft := .array .int) hx hb ho hW hK tyX8 tyX8_ok nmX8 zu_8 rfl (by decide) yi_fX8_44 rfl hin rfl rfl rfl rfl (Nat.le_of_ble_eq_true rfl) hP hD hS dX8_init_95 (fun H locs hP hD hS => ?_)
  have hP : va_P E.2.1 vwCl ((h0, .inr (8, [.int 0, .ref q1, .ref q2, .ref q3, .ref q4, .ref q5, .int 0, .int 0, .ref q6, .int 0, .int 0, .int 0, .int 0, .int 0, .int 0, .long 0, .int 0, .int (-1), .ref q7, .int 0, .int 0, .ref q8, .int 0, .ref q9, .ref q10, .null, .int 0, .int 0, .int 0])) :: (((((((((((zws E 185 h) ++ ([(q1, .inl (E.2.2.1 0, 1096, .inl fun _ => 0))] : va_W)) ++ ([(q2, .inl (E.2.2.1 0, 1096, .inl fun _ => 0))] : va_W)) ++ ([(q3, .inl (E.2.2.1 0, 1096, .inl fun _ => 0))] : va_W)) ++ ([(q4, .inl (E.2.2.1 0, 1096, .inl fun _ => 0))] : va_W)) ++ ([(q5, .inl (E.2.2.1 0, 10960, .inl fun _ => 0))] : va_W)) ++ ([(q6, .inl (E.2.2.1 0, 900, .inl fun _ => 0))] : va_W)) ++ ([(q7, .inl (E.2.2.1 0, 502, .inl fun _ => 0))] : va_W)) ++ ([(q8, .inl (E.2.2.1 0, 40, .inl fun _ => 0))] : va_W)) ++ ([(q9, .inl (E.2.2.1 0, 200, .inl fun _ => 0))] : va_W)) ++ ([(q10, .inl (E.2.2.1 0, 200, .inl fun _ => 0))] : va_W))) H := hP
  have hD : va_D (zge E) ((h0, .inr (8, [.int 0, .ref q1, .ref q2, .ref q3, .ref q4, .ref q5, .int 0, .int 0, .ref q6, .int 0, .int 0, .int 0, .int 0, .int 0, .int 0, .long 0, .int 0, .int (-1), .ref q7, .int 0, .int 0, .ref q8, .int 0, .ref q9, .ref q10, .null, .int 0, .int 0, .int 0])) :: (((((((((((zws E 185 h) ++ ([(q1, .inl (E.2.2.1 0, 1096, .inl fun _ => 0))] : va_W)) ++ ([(q2, .inl (E.2.2.1 0, 1096, .inl fun _ => 0))] : va_W)) ++ ([(q3, .inl (E.2.2.1 0, 1096, .inl fun _ => 0))] : va_W)) ++ ([(q4, .inl (E.2.2.1 0, 1096, .inl fun _ => 0))] : va_W)) ++ ([(q5, .inl (E.2.2.1 0, 10960, .inl fun _ => 0))] : va_W)) ++ ([(q6, .inl (E.2.2.1 0, 900, .inl fun _ => 0))] : va_W)) ++ ([(q7, .inl (E.2.2.1 0, 502, .inl fun _ => 0))] : va_W)) ++ ([(q8, .inl (E.2.2.1 0, 40, .inl fun _ => 0))] : va_W)) ++ ([(q9, .inl (E.2.2.1 0, 200, .inl fun _ => 0))] : va_W)) ++ ([(q10, .inl (E.2.2.1 0, 200, .inl fun _ => 0))] : va_W))) := hD
  refine lv_aload_n hx hb dX8_init_98 rfl (lv_at hl 0 rfl) ?_
  refine lv_sipush (v := 200) hx hb dX8_init_99 rfl ?_
  refine y_newI (N' := 200) hx hb hW hK hP hD hS hA hO (by decide) rfl (by decide) (Nat.le_of_ble_eq_true rfl) (Nat.le_of_ble_eq_true rfl) dX8_init_102 (fun q11 H hP hD hS => ?_)
  have hP : va_P E.2.1 vwCl ((h0, .inr (8, [.int 0, .ref q1, .ref q2, .ref q3, .ref q4, .ref q5, .int 0, .int 0, .ref q6, .int 0, .int 0, .int 0, .int 0, .int 0, .int 0, .long 0, .int 0, .int (-1), .ref q7, .int 0, .int 0, .ref q8, .int 0, .ref q9, .ref q10, .null, .int 0, .int 0, .int 0])) :: ((((((((((((zws E 185 h) ++ ([(q1, .inl (E.2.2.1 0, 1096, .inl fun _ => 0))] : va_W)) ++ ([(q2, .inl (E.2.2.1 0, 1096, .inl fun _ => 0))] : va_W)) ++ ([(q3, .inl (E.2.2.1 0, 1096, .inl fun _ => 0))] : va_W)) ++ ([(q4, .inl (E.2.2.1 0, 1096, .inl fun _ => 0))] : va_W)) ++ ([(q5, .inl (E.2.2.1 0, 10960, .inl fun _ => 0))] : va_W)) ++ ([(q6, .inl (E.2.2.1 0, 900, .inl fun _ => 0))] : va_W)) ++ ([(q7, .inl (E.2.2.1 0, 502, .inl fun _ => 0))] : va_W)) ++ ([(q8, .inl (E.2.2.1 0, 40, .inl fun _ => 0))] : va_W)) ++ ([(q9, .inl (E.2.2.1 0, 200, .inl fun _ => 0))] : va_W)) ++ ([(q10, .inl (E.2.2.1 0, 200, .inl fun _ => 0))] : va_W)) ++ ([(q11, .inl (E.2.2.1 0, 200, .inl fun _ => 0))] : va_W))) H := hP
  have hD : va_D (zge E) ((h0, .inr (8, [.int 0, .ref q1, .ref q2, .ref q3, .ref q4, .ref q5, .int 0, .int 0, .ref q6, .int 0, .int 0, .int 0, .int 0, .int 0, .int 0, .long 0, .int 0, .int (-1), .ref q7, .int 0, .int 0, .ref q8, .int 0, .ref q9, .ref q10, .null, .int 0, .int 0, .int 0])) :: ((((((((((((zws E 185 h) ++ ([(q1, .inl (E.2.2.1 0, 1096, .inl fun _ => 0))] : va_W)) ++ ([(q2, .inl (E.2.2.1 0, 1096, .inl fun _ => 0))] : va_W)) ++ ([(q3, .inl (E.2.2.1 0, 1096, .inl fun _ => 0))] : va_W)) ++ ([(q4, .inl (E.2.2.1 0, 1096, .inl fun _ => 0))] : va_W)) ++ ([(q5, .inl (E.2.2.1 0, 10960, .inl fun _ => 0))] : va_W)) ++ ([(q6, .inl (E.2.2.1 0, 900, .inl fun _ => 0))] : va_W)) ++ ([(q7, .inl (E.2.2.1 0, 502, .inl fun _ => 0))] : va_W)) ++ ([(q8, .inl (E.2.2.1 0, 40, .inl fun _ => 0))] : va_W)) ++ ([(q9, .inl (E.2.2.1 0, 200, .inl fun _ => 0))] : va_W)) ++ ([(q10, .inl (E.2.2.1 0, 200, .inl fun _ => 0))] : va_W)) ++ ([(q11, .inl (E.2.2.1 0, 200, .inl fun _ => 0))] : va_W))) := hD
  refine y_putF (k := 25) (v := .ref q11) (ft := .array .int) hx hb ho hW hK tyX8 tyX8_ok nmX8 zu_8 rfl (by decide) yi_fX8_47 rfl hin rfl rfl rfl rfl (Nat.le_of_ble_eq_true rfl) hP hD hS dX8_init_104 (fun H locs hP hD hS => ?_)
  have hP : va_P E.2.1 vwCl ((h0, .inr (8, [.int 0, .ref q1, .ref q2, .ref q3, .ref q4, .ref q5, .int 0, .int 0, .ref q6, .int 0, .int 0, .int 0, .int 0, .int 0, .int 0, .long 0, .int 0, .int (-1), .ref q7, .int 0, .int 0, .ref q8, .int 0, .ref q9, .ref q10, .ref q11, .int 0, .int 0, .int 0])) :: ((((((((((((zws E 185 h) ++ ([(q1, .inl (E.2.2.1 0, 1096, .inl fun _ => 0))] : va_W)) ++ ([(q2, .inl (E.2.2.1 0, 1096, .inl fun _ => 0))] : va_W)) ++ ([(q3, .inl (E.2.2.1 0, 1096, .inl fun _ => 0))] : va_W)) ++ ([(q4, .inl (E.2.2.1 0, 1096, .inl fun _ => 0))] : va_W)) ++ ([(q5, .inl (E.2.2.1 0, 10960, .inl fun _ => 0))] : va_W)) ++ ([(q6, .inl (E.2.2.1 0, 900, .inl fun _ => 0))] : va_W)) ++ ([(q7, .inl (E.2.2.1 0, 502, .inl fun _ => 0))] : va_W)) ++ ([(q8, .inl (E.2.2.1 0, 40, .inl fun _ => 0))] : va_W)) ++ ([(q9, .inl (E.2.2.1 0, 200, .inl fun _ => 0))] : va_W)) ++ ([(q10, .inl (E.2.2.1 0, 200, .inl fun _ => 0))] : va_W)) ++ ([(q11, .inl (E.2.2.1 0, 200, .inl fun _ => 0))] : va_W))) H := hP
  have hD : va_D (zge E) ((h0, .inr (8, [.int 0, .ref q1, .ref q2, .ref q3, .ref q4, .ref q5, .int 0, .int 0, .ref q6, .int 0, .int 0, .int 0, .int 0, .int 0, .int 0, .long 0, .int 0, .int (-1), .ref q7, .int 0, .int 0, .ref q8, .int 0, .ref q9, .ref q10, .ref q11, .int 0, .int 0, .int 0])) :: ((((((((((((zws E 185 h) ++ ([(q1, .inl (E.2.2.1 0, 1096, .inl fun _ => 0))] : va_W)) ++ ([(q2, .inl (E.2.2.1 0, 1096, .inl fun _ => 0))] : va_W)) ++ ([(q3, .inl (E.2.2.1 0, 1096, .inl fun _ => 0))] : va_W)) ++ ([(q4, .inl (E.2.2.1 0, 1096, .inl fun _ => 0))] : va_W)) ++ ([(q5, .inl (E.2.2.1 0, 10960, .inl fun _ => 0))] : va_W)) ++ ([(q6, .inl (E.2.2.1 0, 900, .inl fun _ => 0))] : va_W)) ++ ([(q7, .inl (E.2.2.1 0, 502, .inl fun _ => 0))] : va_W)) ++ ([(q8, .inl (E.2.2.1 0, 40, .inl fun _ => 0))] : va_W)) ++ ([(q9, .inl (E.2.2.1 0, 200, .inl fun _ => 0))] : va_W)) ++ ([(q10, .inl (E.2.2.1 0, 200, .inl fun _ => 0))] : va_W)) ++ ([(q11, .inl (E.2.2.1 0, 200, .inl fun _ => 0))] : va_W))) := hD
  have hP : va_P E.2.1 vwCl (w8 E h h0 q1 q2 q3 q4 q5 q6 q7 q8 q9 q10 q11) H := hP
  have hD : va_D (zge E) (w8 E h h0 q1 q2 q3 q4 q5 q6 q7 q8 q9 q10 q11) := hD
  obtain ⟨hAD, hWd⟩ := w8_ok hP hD
  have e0 : ∀ q, q < 185 → ad8 E h0 q1 q2 q3 q4 q5 q6 q7 q8 q9 q10 q11 q = E.1 q := fun q hq => if_pos hq
  have e185 : ad8 E h0 q1 q2 q3 q4 q5 q6 q7 q8 q9 q10 q11 185 = h0 := rfl
  have e197 : ∀ p, 197 ≤ p → ad8 E h0 q1 q2 q3 q4 q5 q6 q7 q8 q9 q10 q11 p = E.1 p := fun p hp => by
    unfold ad8
    rw [if_neg (by omega), List.getD_eq_getElem?_getD, List.getElem?_eq_none (by simp; omega)]
    rfl
  generalize ad8 E h0 q1 q2 q3 q4 q5 q6 q7 q8 q9 q10 q11 = ad at hAD hWd e0 e185 e197
  have hKK2 : zKK l (ad, E.2) s := zKK_ad (fun p hp => e197 p (by omega)) hKK
  have O : zOk l ((p, l, e, s, m, #[.ref h0], below, meth, c), (ad, E.2), 197) cX8_init RX8 1 none 197 [] := ⟨hx, hb, hml, hr, ho, hlk, hKK2, hAD, Nat.le_refl _, hex, rfl⟩
  have V : zV ((p, l, e, s, m, #[.ref h0], below, meth, c), (ad, E.2), 197) (2, 11, 17386, (qV (J8 h)), xN) 11 17386 107 [some (aR 185)] [] (hm8 h) := by
    refine zV_aload_n O dX8_init_107 rfl rfl ?_
    refine zV_callV (as := []) (st := []) O zc_X8_begins (Or.inl zl_RX8_50) yi_bgI yi_bgS zt_185 rfl rfl (by decide) (Nat.le_of_ble_eq_true rfl) rfl rfl (Nat.le_of_ble_eq_true rfl) (Nat.le_of_ble_eq_true rfl) (Nat.le_of_ble_eq_true rfl) (Nat.le_of_ble_eq_true rfl) (Nat.le_of_ble_eq_true rfl) (Nat.le_of_ble_eq_true rfl) dX8_init_108 (sX8_begins (Q := fun h1 => mdR bgR (rd h1 187) ∧ ∀ p, p ≠ 187 → h1 p = hm8 h p) (p8_begins fun h1 m1 f1 => ⟨m1, f1⟩)) (fun r9 h1 hq => ?_) (fun x9 h9 hq => hq.elim)
    obtain ⟨rfl, hm, hf⟩ := hq
    refine zV_aload_n O dX8_init_111 rfl rfl ?_
    refine zV_getR O zf_RX8_17 zt_185 rfl (by decide) dX8_init_112 ?_
    refine zV_iconst (z := 0) O (zri (by omega) (by omega)) dX8_init_115 ?_
    refine zV_aload_n O dX8_init_116 rfl rfl ?_
    refine zV_getR O zf_RX8_13 zt_185 rfl (by decide) dX8_init_117 ?_
    refine zV_iconst (z := 0) O (zri (by omega) (by omega)) dX8_init_120 ?_
    refine zV_callS (as := [aR 187, aI 0, aR 186, aI 0]) (st := []) O zc_X8_copies (Or.inl zl_RX8_53) zi_1309 (Nat.le_of_ble_eq_true rfl) rfl rfl (Nat.le_of_ble_eq_true rfl) (Nat.le_of_ble_eq_true rfl) (Nat.le_of_ble_eq_true rfl) (Nat.le_of_ble_eq_true rfl) (Nat.le_of_ble_eq_true rfl) (Nat.le_of_ble_eq_true rfl) dX8_init_121 (sX8_copies zt_187 (by decide) ⟨by decide, by decide⟩ zt_186 (by decide) ⟨by decide, by decide⟩ (Q := J8 h) (p8_copies (by omega) (by omega) (by omega) (by omega) (by omega) (by omega) (Or.inl (by omega)) fun h2 f2 v2 => ⟨fun p hp => ?_, fun k k1 k2 => ?_, fun k => ?_⟩)) (fun r9 h2 hq => ?_) (fun x9 h9 hq => hq.elim)
    · rw [f2 p (by omega), hf p (by omega)]
      funext k
      exact if_pos hp
    · rw [v2 k k1, if_pos (by omega), show (0 : Int) + (k - 0) = k by omega]
      exact hm.1.1 k k1 k2
    · rw [f2 185 (by omega), hf 185 (by omega)]
      rfl
    · obtain ⟨rfl, hJ⟩ := hq
      exact zV_vret O rfl ⟨rfl, hJ⟩ (Nat.le_of_ble_eq_true rfl) (Nat.le_of_ble_eq_true rfl) dX8_init_124
  refine yW_mono (Q := vx_MQ below (zQ (ad, E.2) 197 (qV (J8 h))) (zX (ad, E.2) 197 xN) #[.ref h0] s 11 17386 (zge (ad, E.2))) ?_ (V (fun v hv => by cases hv) (fun v hv => by cases List.mem_singleton.mp hv; trivial) (hm8_ok hh) H locs ls hWd hS ?_)
  · rintro t ⟨o9, g1, g2, g3⟩
    rcases g3 with ⟨⟨⟨r9, h1, k1, k2, k3, ⟨rfl, k4⟩, k5⟩, k6⟩, k7⟩ | ⟨q9, _, En, ce, L9, ⟨⟨k9, h1, _, _, hxx, _⟩, _⟩, _⟩
    · exact ⟨o9, g1, g2, ⟨⟨ad, h1, k1, e0, e185, e197, hAD, k3, k4, k5⟩, k6⟩, k7⟩
    · exact hxx.elim
  · refine lv_less (by rw [hml]; exact hl) (fun q hq => ?_)
    rw [List.mem_singleton.mp hq]
    show (0, Value.ref (ad 185)) ∈ _
    rw [e185]
    exact List.mem_cons_self
