/-! The protocol's steps, abstractly -/
section Inv2
variable {R T : RS} {n l s a m o : Int}
theorem a_gets2 (I : pIv R) (t : pT R T n l (R 20 (8 * n + l)) (R 22 (8 * n + l)) (0) (1)) (hl : 0 ≤ l ∧ l < 8) (hn : 0 ≤ n ∧ n < 6)
    (hC : ∀ f : PW, cnt f T + f 0 l n s a m = cnt f R + f 4 l o n s 0) : pIv T := by
  obtain ⟨t1, t2, _⟩ := t
  intro n' l' a0 a1 b0 b1
  have P := I n' l' a0 a1 b0 b1
  have c1 := hC (wS n' l')
  have c2 := hC (wM n' l')
  have c3 := hC (wD n' l')
  have c4 := hC (wK n' l')
  have c5 := hC (wJ n' l')
  have c6 := hC (wP n' l')
  unfold pN pA at *
  rw [t1, t2]
  have e := i8 (n := n) (n' := n') hl.1 hl.2 b0 b1
  try simp [wS] at c1
  try simp [wM] at c2
  try simp [wD] at c3
  try simp [wK] at c4
  try simp [wJ] at c5
  try simp [wP] at c6
  clear hC I t1 t2
  generalize cnt (wS n' l') T = x1 at *
  generalize cnt (wM n' l') T = x2 at *
  generalize cnt (wD n' l') T = x3 at *
  generalize cnt (wK n' l') T = x4 at *
  generalize cnt (wJ n' l') T = x5 at *
  generalize cnt (wP n' l') T = x6 at *
  generalize cnt (wS n' l') R = y1 at *
  generalize cnt (wM n' l') R = y2 at *
  generalize cnt (wD n' l') R = y3 at *
  generalize cnt (wK n' l') R = y4 at *
  generalize cnt (wJ n' l') R = y5 at *
  generalize cnt (wP n' l') R = y6 at *
  by_cases q1 : l' = l <;> by_cases q2 : n' = n <;> grind (splits := 40)
theorem a_gets1 (I : pIv R) (t : pT R T n l (R 20 (8 * n + l)) (R 22 (8 * n + l)) (0) (1)) (hl : 0 ≤ l ∧ l < 8) (hn : 0 ≤ n ∧ n < 6)
    (hC : ∀ f : PW, cnt f T + f 0 l n s a m = cnt f R + f 8 l s n 0 0) : pIv T := by
  obtain ⟨t1, t2, _⟩ := t
  intro n' l' a0 a1 b0 b1
  have P := I n' l' a0 a1 b0 b1
  have c1 := hC (wS n' l')
  have c2 := hC (wM n' l')
  have c3 := hC (wD n' l')
  have c4 := hC (wK n' l')
  have c5 := hC (wJ n' l')
  have c6 := hC (wP n' l')
  unfold pN pA at *
  rw [t1, t2]
  have e := i8 (n := n) (n' := n') hl.1 hl.2 b0 b1
  try simp [wS] at c1
  try simp [wM] at c2
  try simp [wD] at c3
  try simp [wK] at c4
  try simp [wJ] at c5
  try simp [wP] at c6
  clear hC I t1 t2
  generalize cnt (wS n' l') T = x1 at *
  generalize cnt (wM n' l') T = x2 at *
  generalize cnt (wD n' l') T = x3 at *
  generalize cnt (wK n' l') T = x4 at *
  generalize cnt (wJ n' l') T = x5 at *
  generalize cnt (wP n' l') T = x6 at *
  generalize cnt (wS n' l') R = y1 at *
  generalize cnt (wM n' l') R = y2 at *
  generalize cnt (wD n' l') R = y3 at *
  generalize cnt (wK n' l') R = y4 at *
  generalize cnt (wJ n' l') R = y5 at *
  generalize cnt (wP n' l') R = y6 at *
  by_cases q1 : l' = l <;> by_cases q2 : n' = n <;> grind (splits := 40)
theorem a_getm2 (I : pIv R) (t : pT R T n l (R 20 (8 * n + l)) (R 22 (8 * n + l)) (0) (1)) (hl : 0 ≤ l ∧ l < 8) (hn : 0 ≤ n ∧ n < 6)
    (hC : ∀ f : PW, cnt f T + f 1 l n s a m = cnt f R + f 5 l o n s 0) : pIv T := by
  obtain ⟨t1, t2, _⟩ := t
  intro n' l' a0 a1 b0 b1
  have P := I n' l' a0 a1 b0 b1
  have c1 := hC (wS n' l')
  have c2 := hC (wM n' l')
  have c3 := hC (wD n' l')
  have c4 := hC (wK n' l')
  have c5 := hC (wJ n' l')
  have c6 := hC (wP n' l')
  unfold pN pA at *
  rw [t1, t2]
  have e := i8 (n := n) (n' := n') hl.1 hl.2 b0 b1
  try simp [wS] at c1
  try simp [wM] at c2
  try simp [wD] at c3
  try simp [wK] at c4
  try simp [wJ] at c5
  try simp [wP] at c6
  clear hC I t1 t2
  generalize cnt (wS n' l') T = x1 at *
  generalize cnt (wM n' l') T = x2 at *
  generalize cnt (wD n' l') T = x3 at *
  generalize cnt (wK n' l') T = x4 at *
  generalize cnt (wJ n' l') T = x5 at *
  generalize cnt (wP n' l') T = x6 at *
  generalize cnt (wS n' l') R = y1 at *
  generalize cnt (wM n' l') R = y2 at *
  generalize cnt (wD n' l') R = y3 at *
  generalize cnt (wK n' l') R = y4 at *
  generalize cnt (wJ n' l') R = y5 at *
  generalize cnt (wP n' l') R = y6 at *
  by_cases q1 : l' = l <;> by_cases q2 : n' = n <;> grind (splits := 40)
theorem a_put {k : Int} (hk : k = 2 ∨ k = 3) (I : pIv R) (t : pT R T n l (R 20 (8 * n + l)) (R 22 (8 * n + l)) (0) (1)) (hl : 0 ≤ l ∧ l < 8) (hn : 0 ≤ n ∧ n < 6)
    (hC : ∀ f : PW, cnt f T + f k l n s a m = cnt f R + f 7 l s n 0 0) : pIv T := by
  obtain ⟨t1, t2, _⟩ := t
  intro n' l' a0 a1 b0 b1
  have P := I n' l' a0 a1 b0 b1
  have c1 := hC (wS n' l')
  have c2 := hC (wM n' l')
  have c3 := hC (wD n' l')
  have c4 := hC (wK n' l')
  have c5 := hC (wJ n' l')
  have c6 := hC (wP n' l')
  unfold pN pA at *
  rw [t1, t2]
  have e := i8 (n := n) (n' := n') hl.1 hl.2 b0 b1
  try simp [wS] at c1
  try simp [wM] at c2
  try simp [wD] at c3
  try simp [wK] at c4
  try simp [wJ] at c5
  try simp [wP] at c6
  clear hC I t1 t2
  generalize cnt (wS n' l') T = x1 at *
  generalize cnt (wM n' l') T = x2 at *
  generalize cnt (wD n' l') T = x3 at *
  generalize cnt (wK n' l') T = x4 at *
  generalize cnt (wJ n' l') T = x5 at *
  generalize cnt (wP n' l') T = x6 at *
  generalize cnt (wS n' l') R = y1 at *
  generalize cnt (wM n' l') R = y2 at *
  generalize cnt (wD n' l') R = y3 at *
  generalize cnt (wK n' l') R = y4 at *
  generalize cnt (wJ n' l') R = y5 at *
  generalize cnt (wP n' l') R = y6 at *
  by_cases q1 : l' = l <;> by_cases q2 : n' = n <;> grind (splits := 40)
theorem a_fwdS {x : Int} (h1 : (R 20 (8 * n + l) = 7 ∧ x = 4) ∨ (R 20 (8 * n + l) = 8 ∧ x = 9)) (I : pIv R) (t : pT R T n l (x) (R 22 (8 * n + l)) (0) (2)) (hl : 0 ≤ l ∧ l < 8) (hn : 0 ≤ n ∧ n < 6)
    (hC : ∀ f : PW, cnt f T + f 4 l n s a m = cnt f R + f 8 l a n 0 0 + f 10 l o n 0 0) : pIv T := by
  obtain ⟨t1, t2, _⟩ := t
  intro n' l' a0 a1 b0 b1
  have P := I n' l' a0 a1 b0 b1
  have c1 := hC (wS n' l')
  have c2 := hC (wM n' l')
  have c3 := hC (wD n' l')
  have c4 := hC (wK n' l')
  have c5 := hC (wJ n' l')
  have c6 := hC (wP n' l')
  unfold pN pA at *
  rw [t1, t2]
  have e := i8 (n := n) (n' := n') hl.1 hl.2 b0 b1
  try simp [wS] at c1
  try simp [wM] at c2
  try simp [wD] at c3
  try simp [wK] at c4
  try simp [wJ] at c5
  try simp [wP] at c6
  clear hC I t1 t2
  generalize cnt (wS n' l') T = x1 at *
  generalize cnt (wM n' l') T = x2 at *
  generalize cnt (wD n' l') T = x3 at *
  generalize cnt (wK n' l') T = x4 at *
  generalize cnt (wJ n' l') T = x5 at *
  generalize cnt (wP n' l') T = x6 at *
  generalize cnt (wS n' l') R = y1 at *
  generalize cnt (wM n' l') R = y2 at *
  generalize cnt (wD n' l') R = y3 at *
  generalize cnt (wK n' l') R = y4 at *
  generalize cnt (wJ n' l') R = y5 at *
  generalize cnt (wP n' l') R = y6 at *
  by_cases q1 : l' = l <;> by_cases q2 : n' = n <;> grind (splits := 40)
theorem a_fwdM {x : Int} (h1 : (R 20 (8 * n + l) = 7 ∧ x = 0) ∨ (R 20 (8 * n + l) = 8 ∧ x = 10)) (I : pIv R) (t : pT R T n l (x) (R 22 (8 * n + l)) (0) (1)) (hl : 0 ≤ l ∧ l < 8) (hn : 0 ≤ n ∧ n < 6)
    (hC : ∀ f : PW, cnt f T + f 5 l n s a m = cnt f R + f 8 l a n 0 0) : pIv T := by
  obtain ⟨t1, t2, _⟩ := t
  intro n' l' a0 a1 b0 b1
  have P := I n' l' a0 a1 b0 b1
  have c1 := hC (wS n' l')
  have c2 := hC (wM n' l')
  have c3 := hC (wD n' l')
  have c4 := hC (wK n' l')
  have c5 := hC (wJ n' l')
  have c6 := hC (wP n' l')
  unfold pN pA at *
  rw [t1, t2]
  have e := i8 (n := n) (n' := n') hl.1 hl.2 b0 b1
  try simp [wS] at c1
  try simp [wM] at c2
  try simp [wD] at c3
  try simp [wK] at c4
  try simp [wJ] at c5
  try simp [wP] at c6
  clear hC I t1 t2
  generalize cnt (wS n' l') T = x1 at *
  generalize cnt (wM n' l') T = x2 at *
  generalize cnt (wD n' l') T = x3 at *
  generalize cnt (wK n' l') T = x4 at *
  generalize cnt (wJ n' l') T = x5 at *
  generalize cnt (wP n' l') T = x6 at *
  generalize cnt (wS n' l') R = y1 at *
  generalize cnt (wM n' l') R = y2 at *
  generalize cnt (wD n' l') R = y3 at *
  generalize cnt (wK n' l') R = y4 at *
  generalize cnt (wJ n' l') R = y5 at *
  generalize cnt (wP n' l') R = y6 at *
  by_cases q1 : l' = l <;> by_cases q2 : n' = n <;> grind (splits := 40)
theorem a_inv {x : Int} (h1 : (R 20 (8 * n + l) = 4 ∧ x = 0) ∨ (R 20 (8 * n + l) = 5 ∧ x = 2) ∨ (R 20 (8 * n + l) = 9 ∧ x = 10)) (I : pIv R) (t : pT R T n l (x) (R 22 (8 * n + l)) (0) (1)) (hl : 0 ≤ l ∧ l < 8) (hn : 0 ≤ n ∧ n < 6)
    (hC : ∀ f : PW, cnt f T + f 6 l n s a m = cnt f R + f 9 l a n 0 0) : pIv T := by
  obtain ⟨t1, t2, _⟩ := t
  intro n' l' a0 a1 b0 b1
  have P := I n' l' a0 a1 b0 b1
  have c1 := hC (wS n' l')
  have c2 := hC (wM n' l')
  have c3 := hC (wD n' l')
  have c4 := hC (wK n' l')
  have c5 := hC (wJ n' l')
  have c6 := hC (wP n' l')
  unfold pN pA at *
  rw [t1, t2]
  have e := i8 (n := n) (n' := n') hl.1 hl.2 b0 b1
  try simp [wS] at c1
  try simp [wM] at c2
  try simp [wD] at c3
  try simp [wK] at c4
  try simp [wJ] at c5
  try simp [wP] at c6
  clear hC I t1 t2
  generalize cnt (wS n' l') T = x1 at *
  generalize cnt (wM n' l') T = x2 at *
  generalize cnt (wD n' l') T = x3 at *
  generalize cnt (wK n' l') T = x4 at *
  generalize cnt (wJ n' l') T = x5 at *
  generalize cnt (wP n' l') T = x6 at *
  generalize cnt (wS n' l') R = y1 at *
  generalize cnt (wM n' l') R = y2 at *
  generalize cnt (wD n' l') R = y3 at *
  generalize cnt (wK n' l') R = y4 at *
  generalize cnt (wJ n' l') R = y5 at *
  generalize cnt (wP n' l') R = y6 at *
  by_cases q1 : l' = l <;> by_cases q2 : n' = n <;> grind (splits := 40)
theorem a_done (I : pIv R) (t : pT R T n l (0) (R 22 (8 * n + l)) (0) (0)) (hl : 0 ≤ l ∧ l < 8) (hn : 0 ≤ n ∧ n < 6)
    (hC : ∀ f : PW, cnt f T + f 7 l n s a m = cnt f R) : pIv T := by
  obtain ⟨t1, t2, _⟩ := t
  intro n' l' a0 a1 b0 b1
  have P := I n' l' a0 a1 b0 b1
  have c1 := hC (wS n' l')
  have c2 := hC (wM n' l')
  have c3 := hC (wD n' l')
  have c4 := hC (wK n' l')
  have c5 := hC (wJ n' l')
  have c6 := hC (wP n' l')
  unfold pN pA at *
  rw [t1, t2]
  have e := i8 (n := n) (n' := n') hl.1 hl.2 b0 b1
  try simp [wS] at c1
  try simp [wM] at c2
  try simp [wD] at c3
  try simp [wK] at c4
  try simp [wJ] at c5
  try simp [wP] at c6
  clear hC I t1 t2
  generalize cnt (wS n' l') T = x1 at *
  generalize cnt (wM n' l') T = x2 at *
  generalize cnt (wD n' l') T = x3 at *
  generalize cnt (wK n' l') T = x4 at *
  generalize cnt (wJ n' l') T = x5 at *
  generalize cnt (wP n' l') T = x6 at *
  generalize cnt (wS n' l') R = y1 at *
  generalize cnt (wM n' l') R = y2 at *
  generalize cnt (wD n' l') R = y3 at *
  generalize cnt (wK n' l') R = y4 at *
  generalize cnt (wJ n' l') R = y5 at *
  generalize cnt (wP n' l') R = y6 at *
  by_cases q1 : l' = l <;> by_cases q2 : n' = n <;> grind (splits := 40)
theorem a_data {x d : Int} (hm : 0 ≤ m) (hK : ∀ n l, cnt (wK n l) T ≤ 5 * cnt (wD n l) T) (h1 : (R 20 (8 * n + l) = 1 ∧ x = 4) ∨ (R 20 (8 * n + l) ≠ 1 ∧ R 22 (8 * n + l) + m = 0 ∧ x = 7) ∨ (R 20 (8 * n + l) = 2 ∧ R 22 (8 * n + l) + m ≠ 0 ∧ x = 3) ∨ (R 20 (8 * n + l) ≠ 1 ∧ R 20 (8 * n + l) ≠ 2 ∧ R 22 (8 * n + l) + m ≠ 0 ∧ x = 6)) (I : pIv R) (t : pT R T n l (x) (R 22 (8 * n + l) + m) (d) (0)) (hl : 0 ≤ l ∧ l < 8) (hn : 0 ≤ n ∧ n < 6)
    (hC : ∀ f : PW, cnt f T + f 8 l n s a m = cnt f R) : pIv T := by
  obtain ⟨t1, t2, _⟩ := t
  intro n' l' a0 a1 b0 b1
  have P := I n' l' a0 a1 b0 b1
  have c1 := hC (wS n' l')
  have c2 := hC (wM n' l')
  have c3 := hC (wD n' l')
  have c4 := hC (wK n' l')
  have c5 := hC (wJ n' l')
  have c6 := hC (wP n' l')
  have k0 := hK n' l'
  unfold pN pA at *
  rw [t1, t2]
  have e := i8 (n := n) (n' := n') hl.1 hl.2 b0 b1
  try simp [wS] at c1
  try simp [wM] at c2
  try simp [wD] at c3
  try simp [wK] at c4
  try simp [wJ] at c5
  try simp [wP] at c6
  clear hC I t1 t2 hK
  generalize cnt (wS n' l') T = x1 at *
  generalize cnt (wM n' l') T = x2 at *
  generalize cnt (wD n' l') T = x3 at *
  generalize cnt (wK n' l') T = x4 at *
  generalize cnt (wJ n' l') T = x5 at *
  generalize cnt (wP n' l') T = x6 at *
  generalize cnt (wS n' l') R = y1 at *
  generalize cnt (wM n' l') R = y2 at *
  generalize cnt (wD n' l') R = y3 at *
  generalize cnt (wK n' l') R = y4 at *
  generalize cnt (wJ n' l') R = y5 at *
  generalize cnt (wP n' l') R = y6 at *
  by_cases q1 : l' = l <;> by_cases q2 : n' = n <;> grind (splits := 40)
theorem a_ack {x d : Int} (hK : ∀ n l, cnt (wK n l) T ≤ 5 * cnt (wD n l) T) (h1 : (R 22 (8 * n + l) - 1 = 0 ∧ (R 20 (8 * n + l) = 3 ∨ R 20 (8 * n + l) = 6) ∧ x = 7) ∨ (¬(R 22 (8 * n + l) - 1 = 0 ∧ (R 20 (8 * n + l) = 3 ∨ R 20 (8 * n + l) = 6)) ∧ x = R 20 (8 * n + l))) (I : pIv R) (t : pT R T n l (x) (R 22 (8 * n + l) - 1) (d) (0)) (hl : 0 ≤ l ∧ l < 8) (hn : 0 ≤ n ∧ n < 6)
    (hC : ∀ f : PW, cnt f T + f 9 l n s a m = cnt f R) : pIv T := by
  obtain ⟨t1, t2, _⟩ := t
  intro n' l' a0 a1 b0 b1
  have P := I n' l' a0 a1 b0 b1
  have c1 := hC (wS n' l')
  have c2 := hC (wM n' l')
  have c3 := hC (wD n' l')
  have c4 := hC (wK n' l')
  have c5 := hC (wJ n' l')
  have c6 := hC (wP n' l')
  have k0 := hK n' l'
  unfold pN pA at *
  rw [t1, t2]
  have e := i8 (n := n) (n' := n') hl.1 hl.2 b0 b1
  try simp [wS] at c1
  try simp [wM] at c2
  try simp [wD] at c3
  try simp [wK] at c4
  try simp [wJ] at c5
  try simp [wP] at c6
  clear hC I t1 t2 hK
  generalize cnt (wS n' l') T = x1 at *
  generalize cnt (wM n' l') T = x2 at *
  generalize cnt (wD n' l') T = x3 at *
  generalize cnt (wK n' l') T = x4 at *
  generalize cnt (wJ n' l') T = x5 at *
  generalize cnt (wP n' l') T = x6 at *
  generalize cnt (wS n' l') R = y1 at *
  generalize cnt (wM n' l') R = y2 at *
  generalize cnt (wD n' l') R = y3 at *
  generalize cnt (wK n' l') R = y4 at *
  generalize cnt (wJ n' l') R = y5 at *
  generalize cnt (wP n' l') R = y6 at *
  by_cases q1 : l' = l <;> by_cases q2 : n' = n <;> grind (splits := 40)
theorem a_hd (I : pIv R) (t : pT R T n l (R 20 (8 * n + l)) (R 22 (8 * n + l)) (0) (0)) (hl : 0 ≤ l ∧ l < 8) (hn : 0 ≤ n ∧ n < 6)
    (hC : ∀ f : PW, cnt f T + f 10 l n s a m = cnt f R) : pIv T := by
  obtain ⟨t1, t2, _⟩ := t
  intro n' l' a0 a1 b0 b1
  have P := I n' l' a0 a1 b0 b1
  have c1 := hC (wS n' l')
  have c2 := hC (wM n' l')
  have c3 := hC (wD n' l')
  have c4 := hC (wK n' l')
  have c5 := hC (wJ n' l')
  have c6 := hC (wP n' l')
  unfold pN pA at *
  rw [t1, t2]
  have e := i8 (n := n) (n' := n') hl.1 hl.2 b0 b1
  try simp [wS] at c1
  try simp [wM] at c2
  try simp [wD] at c3
  try simp [wK] at c4
  try simp [wJ] at c5
  try simp [wP] at c6
  clear hC I t1 t2
  generalize cnt (wS n' l') T = x1 at *
  generalize cnt (wM n' l') T = x2 at *
  generalize cnt (wD n' l') T = x3 at *
  generalize cnt (wK n' l') T = x4 at *
  generalize cnt (wJ n' l') T = x5 at *
  generalize cnt (wP n' l') T = x6 at *
  generalize cnt (wS n' l') R = y1 at *
  generalize cnt (wM n' l') R = y2 at *
  generalize cnt (wD n' l') R = y3 at *
  generalize cnt (wK n' l') R = y4 at *
  generalize cnt (wJ n' l') R = y5 at *
  generalize cnt (wP n' l') R = y6 at *
  by_cases q1 : l' = l <;> by_cases q2 : n' = n <;> grind (splits := 40)
theorem a_fin {d : Int} (I : pIv R) (t : pT R T n l (R 20 (8 * n + l)) (R 22 (8 * n + l)) (d) (0)) (hl : 0 ≤ l ∧ l < 8) (hn : 0 ≤ n ∧ n < 6)
    (hC : ∀ f : PW, cnt f T = cnt f R) : pIv T := by
  obtain ⟨t1, t2, _⟩ := t
  intro n' l' a0 a1 b0 b1
  have P := I n' l' a0 a1 b0 b1
  have c1 := hC (wS n' l')
  have c2 := hC (wM n' l')
  have c3 := hC (wD n' l')
  have c4 := hC (wK n' l')
  have c5 := hC (wJ n' l')
  have c6 := hC (wP n' l')
  unfold pN pA at *
  rw [t1, t2]
  have e := i8 (n := n) (n' := n') hl.1 hl.2 b0 b1
  try simp [wS] at c1
  try simp [wM] at c2
  try simp [wD] at c3
  try simp [wK] at c4
  try simp [wJ] at c5
  try simp [wP] at c6
  clear hC I t1 t2
  generalize cnt (wS n' l') T = x1 at *
  generalize cnt (wM n' l') T = x2 at *
  generalize cnt (wD n' l') T = x3 at *
  generalize cnt (wK n' l') T = x4 at *
  generalize cnt (wJ n' l') T = x5 at *
  generalize cnt (wP n' l') T = x6 at *
  generalize cnt (wS n' l') R = y1 at *
  generalize cnt (wM n' l') R = y2 at *
  generalize cnt (wD n' l') R = y3 at *
  generalize cnt (wK n' l') R = y4 at *
  generalize cnt (wJ n' l') R = y5 at *
  generalize cnt (wP n' l') R = y6 at *
  by_cases q1 : l' = l <;> by_cases q2 : n' = n <;> grind (splits := 40)
theorem a_sS {h : Int} (h1 : R 20 (8 * n + l) = 0) (I : pIv R) (t : pT R T n l (1) (R 22 (8 * n + l)) (0) (1)) (hl : 0 ≤ l ∧ l < 8) (hn : 0 ≤ n ∧ n < 6)
    (hC : ∀ f : PW, cnt f T = cnt f R + f 0 l h n 0 0) : pIv T := by
  obtain ⟨t1, t2, _⟩ := t
  intro n' l' a0 a1 b0 b1
  have P := I n' l' a0 a1 b0 b1
  have c1 := hC (wS n' l')
  have c2 := hC (wM n' l')
  have c3 := hC (wD n' l')
  have c4 := hC (wK n' l')
  have c5 := hC (wJ n' l')
  have c6 := hC (wP n' l')
  unfold pN pA at *
  rw [t1, t2]
  have e := i8 (n := n) (n' := n') hl.1 hl.2 b0 b1
  try simp [wS] at c1
  try simp [wM] at c2
  try simp [wD] at c3
  try simp [wK] at c4
  try simp [wJ] at c5
  try simp [wP] at c6
  clear hC I t1 t2
  generalize cnt (wS n' l') T = x1 at *
  generalize cnt (wM n' l') T = x2 at *
  generalize cnt (wD n' l') T = x3 at *
  generalize cnt (wK n' l') T = x4 at *
  generalize cnt (wJ n' l') T = x5 at *
  generalize cnt (wP n' l') T = x6 at *
  generalize cnt (wS n' l') R = y1 at *
  generalize cnt (wM n' l') R = y2 at *
  generalize cnt (wD n' l') R = y3 at *
  generalize cnt (wK n' l') R = y4 at *
  generalize cnt (wJ n' l') R = y5 at *
  generalize cnt (wP n' l') R = y6 at *
  by_cases q1 : l' = l <;> by_cases q2 : n' = n <;> grind (splits := 40)
theorem a_sM {h x : Int} (h1 : (R 20 (8 * n + l) = 0 ∧ x = 2) ∨ (R 20 (8 * n + l) = 4 ∧ x = 5)) (I : pIv R) (t : pT R T n l (x) (R 22 (8 * n + l)) (0) (1)) (hl : 0 ≤ l ∧ l < 8) (hn : 0 ≤ n ∧ n < 6)
    (hC : ∀ f : PW, cnt f T = cnt f R + f 1 l h n 0 0) : pIv T := by
  obtain ⟨t1, t2, _⟩ := t
  intro n' l' a0 a1 b0 b1
  have P := I n' l' a0 a1 b0 b1
  have c1 := hC (wS n' l')
  have c2 := hC (wM n' l')
  have c3 := hC (wD n' l')
  have c4 := hC (wK n' l')
  have c5 := hC (wJ n' l')
  have c6 := hC (wP n' l')
  unfold pN pA at *
  rw [t1, t2]
  have e := i8 (n := n) (n' := n') hl.1 hl.2 b0 b1
  try simp [wS] at c1
  try simp [wM] at c2
  try simp [wD] at c3
  try simp [wK] at c4
  try simp [wJ] at c5
  try simp [wP] at c6
  clear hC I t1 t2
  generalize cnt (wS n' l') T = x1 at *
  generalize cnt (wM n' l') T = x2 at *
  generalize cnt (wD n' l') T = x3 at *
  generalize cnt (wK n' l') T = x4 at *
  generalize cnt (wJ n' l') T = x5 at *
  generalize cnt (wP n' l') T = x6 at *
  generalize cnt (wS n' l') R = y1 at *
  generalize cnt (wM n' l') R = y2 at *
  generalize cnt (wD n' l') R = y3 at *
  generalize cnt (wK n' l') R = y4 at *
  generalize cnt (wJ n' l') R = y5 at *
  generalize cnt (wP n' l') R = y6 at *
  by_cases q1 : l' = l <;> by_cases q2 : n' = n <;> grind (splits := 40)
theorem a_sP {h x k : Int} (hk : k = 2 ∨ k = 3) (h1 : (R 20 (8 * n + l) = 7 ∧ x = 8) ∨ (R 20 (8 * n + l) = 4 ∧ x = 9)) (I : pIv R) (t : pT R T n l (x) (R 22 (8 * n + l)) (0) (1)) (hl : 0 ≤ l ∧ l < 8) (hn : 0 ≤ n ∧ n < 6)
    (hC : ∀ f : PW, cnt f T = cnt f R + f k l h n 0 0) : pIv T := by
  obtain ⟨t1, t2, _⟩ := t
  intro n' l' a0 a1 b0 b1
  have P := I n' l' a0 a1 b0 b1
  have c1 := hC (wS n' l')
  have c2 := hC (wM n' l')
  have c3 := hC (wD n' l')
  have c4 := hC (wK n' l')
  have c5 := hC (wJ n' l')
  have c6 := hC (wP n' l')
  unfold pN pA at *
  rw [t1, t2]
  have e := i8 (n := n) (n' := n') hl.1 hl.2 b0 b1
  try simp [wS] at c1
  try simp [wM] at c2
  try simp [wD] at c3
  try simp [wK] at c4
  try simp [wJ] at c5
  try simp [wP] at c6
  clear hC I t1 t2
  generalize cnt (wS n' l') T = x1 at *
  generalize cnt (wM n' l') T = x2 at *
  generalize cnt (wD n' l') T = x3 at *
  generalize cnt (wK n' l') T = x4 at *
  generalize cnt (wJ n' l') T = x5 at *
  generalize cnt (wP n' l') T = x6 at *
  generalize cnt (wS n' l') R = y1 at *
  generalize cnt (wM n' l') R = y2 at *
  generalize cnt (wD n' l') R = y3 at *
  generalize cnt (wK n' l') R = y4 at *
  generalize cnt (wJ n' l') R = y5 at *
  generalize cnt (wP n' l') R = y6 at *
  by_cases q1 : l' = l <;> by_cases q2 : n' = n <;> grind (splits := 40)
def ivS (f : PW) (o l n s : Int) : Nat := sN (fun k => if eAnd (eShr o (k : Int)) 1 = 1 then f 6 l (k : Int) n s 0 else 0) 6
theorem ivS_0 {f : PW} (h : ∀ k, f 6 l k n s 0 = 0) : ivS f o l n s = 0 := by
  unfold ivS sN sN sN sN sN sN sN
  simp only [h, ite_self]
theorem ivS_1 {f : PW} (ho : 0 ≤ o ∧ o ≤ 63) (h : ∀ k, f 6 l k n s 0 = 1) : (ivS f o l n s : Int) = nCnt o := by
  have hb := bit_s ho
  have b0 := hb 0 (by omega) (by omega)
  have b1 := hb 1 (by omega) (by omega)
  have b2 := hb 2 (by omega) (by omega)
  have b3 := hb 3 (by omega) (by omega)
  have b4 := hb 4 (by omega) (by omega)
  have b5 := hb 5 (by omega) (by omega)
  unfold ivS nCnt sN sN sN sN sN sN sN
  simp only [h]
  norm_cast
  push_cast
  grind
theorem a_getm1 {c : Int} (ho : 0 ≤ o ∧ o ≤ 63) (hc : c = nCnt o) (h5 : c ≤ 5) (I : pIv R) (t : pT R T n l (R 20 (8 * n + l)) (R 22 (8 * n + l)) (0) (1 + c)) (hl : 0 ≤ l ∧ l < 8) (hn : 0 ≤ n ∧ n < 6)
    (hC : ∀ f : PW, cnt f T + f 1 l n s a m = cnt f R + f 8 l s n 0 c + ivS f o l n s) : pIv T := by
  obtain ⟨t1, t2, _⟩ := t
  intro n' l' a0 a1 b0 b1
  have P := I n' l' a0 a1 b0 b1
  have c1 := hC (wS n' l')
  have c2 := hC (wM n' l')
  have c3 := hC (wD n' l')
  have c4 := hC (wK n' l')
  have c5 := hC (wJ n' l')
  have c6 := hC (wP n' l')
  rw [ivS_0 (by intro k; unfold wS; simp)] at c1
  rw [ivS_0 (by intro k; unfold wM; simp)] at c2
  rw [ivS_0 (by intro k; unfold wD; simp)] at c3
  rw [ivS_0 (by intro k; unfold wK; simp)] at c4
  rw [ivS_0 (by intro k; unfold wP; simp)] at c6
  have c0 : 0 ≤ c := by
    have := ivS_1 (f := fun _ _ _ _ _ _ => 1) (l := l) (n := n) (s := s) ho (fun _ => rfl)
    omega
  have c7 : ivS (wJ n' l') o l n s = if l' = l ∧ n' = s then c.toNat else 0 := by
    by_cases hh : l' = l ∧ n' = s
    · rw [if_pos hh]
      have := ivS_1 (f := wJ n' l') (l := l) (n := n) (s := s) ho (fun k => by unfold wJ; simp [hh.1, hh.2])
      omega
    · rw [if_neg hh]
      exact ivS_0 (fun k => by unfold wJ; simp; intro h1 h2; exact hh ⟨h1.symm, h2.symm⟩)
  rw [c7] at c5
  unfold pN pA at *
  rw [t1, t2]
  have e := i8 (n := n) (n' := n') hl.1 hl.2 b0 b1
  try simp [wS] at c1
  try simp [wM] at c2
  try simp [wD] at c3
  try simp [wK] at c4
  try simp [wJ] at c5
  try simp [wP] at c6
  clear hC I t1 t2
  generalize cnt (wS n' l') T = x1 at *
  generalize cnt (wM n' l') T = x2 at *
  generalize cnt (wD n' l') T = x3 at *
  generalize cnt (wK n' l') T = x4 at *
  generalize cnt (wJ n' l') T = x5 at *
  generalize cnt (wP n' l') T = x6 at *
  generalize cnt (wS n' l') R = y1 at *
  generalize cnt (wM n' l') R = y2 at *
  generalize cnt (wD n' l') R = y3 at *
  generalize cnt (wK n' l') R = y4 at *
  generalize cnt (wJ n' l') R = y5 at *
  generalize cnt (wP n' l') R = y6 at *
  by_cases q1 : l' = l <;> by_cases q2 : n' = n <;> grind (splits := 40)
end Inv2
