/-! What the protocol's invariant gives -/
section Inv9
variable {R T X : RS} {n l p : Int}
theorem cnt_add {f g : PW} : cnt (fun k l t s a m => f k l t s a m + g k l t s a m) R = cnt f R + cnt g R := by
  unfold cnt
  rw [← sN_add]
  refine sN_congr (fun i _ => ?_)
  unfold pw
  split <;> rfl
theorem sN_z : ∀ m, sN (fun _ => 0) m = 0 := by
  intro m
  induction m with
  | zero => rfl
  | succ m ih => exact ih
theorem cnt_sum {F : Nat → PW} {m : Nat} : cnt (fun k l t s a c => sN (fun i => F i k l t s a c) m) R = sN (fun i => cnt (F i) R) m := by
  unfold cnt
  rw [← sN_swap]
  refine sN_congr (fun i _ => ?_)
  unfold pw
  by_cases h : R 1 (i : Int) = 1
  · simp only [if_pos h]
  · simp only [if_neg h]
    exact (sN_z m).symm
theorem sN_pt {L : Int} {a b : Nat} : ∀ k : Nat, sN (fun i => if (i : Int) = L then a + b else b) k ≤ b * k + (if 0 ≤ L ∧ L < k then a else 0) := by
  intro k
  induction k with
  | zero => exact Nat.zero_le _
  | succ k ih =>
    have e : sN (fun i => if (i : Int) = L then a + b else b) (k + 1) = sN (fun i => if (i : Int) = L then a + b else b) k + (if (k : Int) = L then a + b else b) := rfl
    rw [e, Nat.mul_add, Nat.mul_one]
    by_cases h : (k : Int) = L
    · rw [if_pos h, if_pos (by omega)]
      rw [if_neg (by omega)] at ih
      omega
    · rw [if_neg h]
      by_cases h2 : 0 ≤ L ∧ L < k
      · rw [if_pos h2] at ih
        rw [if_pos (by omega)]
        omega
      · rw [if_neg h2] at ih
        rw [if_neg (by omega)]
        omega
theorem sN_pl {L : Int} {b : Nat} : ∀ k : Nat, b * k ≤ sN (fun i => if (i : Int) = L then 0 else b) k + (if 0 ≤ L ∧ L < k then b else 0) := by
  intro k
  induction k with
  | zero => exact Nat.zero_le _
  | succ k ih =>
    have e : sN (fun i => if (i : Int) = L then 0 else b) (k + 1) = sN (fun i => if (i : Int) = L then 0 else b) k + (if (k : Int) = L then 0 else b) := rfl
    rw [e, Nat.mul_add, Nat.mul_one]
    by_cases h : (k : Int) = L
    · rw [if_pos h, if_pos (by omega)]
      rw [if_neg (by omega)] at ih
      omega
    · rw [if_neg h]
      by_cases h2 : 0 ≤ L ∧ L < k
      · rw [if_pos h2] at ih
        rw [if_pos (by omega)]
        omega
      · rw [if_neg h2] at ih
        rw [if_neg (by omega)]
        omega
theorem sN_nest {f : Nat → Nat} : ∀ m, sN f (8 * m) = sN (fun n => sN (fun j => f (8 * n + j)) 8) m := by
  intro m
  induction m with
  | zero => rfl
  | succ m ih =>
    have e : sN f (8 * (m + 1)) = sN f (8 * m) + f (8 * m) + f (8 * m + 1) + f (8 * m + 2) + f (8 * m + 3) + f (8 * m + 4) + f (8 * m + 5) + f (8 * m + 6) + f (8 * m + 7) := rfl
    have e2 : sN (fun n => sN (fun j => f (8 * n + j)) 8) (m + 1) = sN (fun n => sN (fun j => f (8 * n + j)) 8) m + (0 + f (8 * m + 0) + f (8 * m + 1) + f (8 * m + 2) + f (8 * m + 3) + f (8 * m + 4) + f (8 * m + 5) + f (8 * m + 6) + f (8 * m + 7)) := rfl
    rw [e, e2, ih]
    simp only [Nat.add_zero]
    omega
def uW (n l : Int) : PW := fun k l' t s a m => wS n l k l' t s a m + wM n l k l' t s a m + wD n l k l' t s a m + wJ n l k l' t s a m + wP n l k l' t s a m
theorem cnt_uW : cnt (uW n l) R = cnt (wS n l) R + cnt (wM n l) R + cnt (wD n l) R + cnt (wJ n l) R + cnt (wP n l) R := by
  unfold uW
  rw [cnt_add (f := fun k l' t s a m => wS n l k l' t s a m + wM n l k l' t s a m + wD n l k l' t s a m + wJ n l k l' t s a m), cnt_add (f := fun k l' t s a m => wS n l k l' t s a m + wM n l k l' t s a m + wD n l k l' t s a m), cnt_add (f := fun k l' t s a m => wS n l k l' t s a m + wM n l k l' t s a m), cnt_add]
def aW : PW := fun k l t s a m => sN (fun n => sN (fun j => uW (n : Int) (j : Int) k l t s a m) 8) 6 + sN (fun j => wH (j : Int) k l t s a m) 8
theorem aW_1 {k l t s a m : Int} (hk : 0 ≤ k ∧ k ≤ 10) (hl : 0 ≤ l ∧ l < 8) (ht : 0 ≤ t ∧ t ≤ 5) (hs : 0 ≤ s ∧ s ≤ 5) (ha : 0 ≤ a ∧ a ≤ 5) : 1 ≤ aW k l t s a m := by
  have key : ∀ x : Int, 0 ≤ x ∧ x ≤ 5 → 1 ≤ uW x l k l t s a m → 1 ≤ aW k l t s a m := by
    intro x hx h
    have e1 := sN_get (f := fun n => sN (fun j => uW (n : Int) (j : Int) k l t s a m) 8) (i := x.toNat) (k := 6) (by omega)
    have e2 := sN_get (f := fun j => uW ((x.toNat : Nat) : Int) (j : Int) k l t s a m) (i := l.toNat) (k := 8) (by omega)
    rw [Int.toNat_of_nonneg hl.1, Int.toNat_of_nonneg hx.1] at e2
    simp only [Int.toNat_of_nonneg hx.1] at e1
    unfold aW
    omega
  by_cases h0 : k ≤ 3
  · refine key s hs ?_
    unfold uW wS wM wP
    rcases (by omega : k = 0 ∨ k = 1 ∨ k = 2 ∨ k = 3) with h | h | h | h <;> subst h <;> simp <;> omega
  by_cases h1 : k ≤ 6
  · refine key a ha ?_
    unfold uW wS wM wJ
    rcases (by omega : k = 4 ∨ k = 5 ∨ k = 6) with h | h | h <;> subst h <;> simp <;> omega
  by_cases h2 : k ≤ 9
  · refine key t ht ?_
    unfold uW wD wJ wP
    rcases (by omega : k = 7 ∨ k = 8 ∨ k = 9) with h | h | h <;> subst h <;> simp <;> omega
  have e2 := sN_get (f := fun j => wH (j : Int) k l t s a m) (i := l.toNat) (k := 8) (by omega)
  rw [Int.toNat_of_nonneg hl.1] at e2
  have e3 : wH l k l t s a m = 1 := by
    unfold wH
    rw [if_pos (by omega)]
  unfold aW
  omega
theorem lv_92 (V : iV R) : lvC R ≤ 92 := by
  obtain ⟨v1, v2, v3, v4, v5, v6, v7, v8, v9, v10⟩ := V
  have e0 : lvC R ≤ cnt aW R := by
    unfold lvC cnt
    refine sN_mono (fun i hi => ?_)
    obtain ⟨g1, g2, g3, g4, g5, g6, g7, g8⟩ := v6 (i : Int) (by omega) (by omega)
    unfold pw
    rcases g1 with h | h
    · rw [h]; exact Nat.zero_le _
    · rw [if_pos h, h]
      exact aW_1 g2 (by omega) g4 g5 g6
  have e1 : cnt aW R = sN (fun n => sN (fun j => cnt (uW (n : Int) (j : Int)) R) 8) 6 + sN (fun j => cnt (wH (j : Int)) R) 8 := by
    unfold aW
    rw [cnt_add (f := fun k l t s a m => sN (fun n => sN (fun j => uW (n : Int) (j : Int) k l t s a m) 8) 6), cnt_sum (F := fun n k l t s a m => sN (fun j => uW (n : Int) (j : Int) k l t s a m) 8), cnt_sum (F := fun j => wH (j : Int))]
    congr 1
    refine sN_congr (fun n _ => ?_)
    exact cnt_sum (F := fun j => uW (n : Int) (j : Int))
  have e2 : sN (fun j => cnt (wH (j : Int)) R) 8 ≤ 1 * 8 := sN_le (fun i hi => by
    have := v2 (i : Int) (by omega) (by omega)
    by_cases h : R 24 (i : Int) = 3
    · rw [this.1 h]; exact Nat.le_refl _
    · rw [this.2 h]; exact Nat.zero_le _)
  have e3 : sN (fun n => sN (fun j => cnt (uW (n : Int) (j : Int)) R) 8) 6 ≤ 14 * 6 := sN_le (fun n hn => by
    have f1 : sN (fun j => cnt (uW (n : Int) (j : Int)) R) 8 ≤ sN (fun j => if (j : Int) = R 29 (40 * (n : Int) + R 34 (n : Int)) then 6 + 1 else 1) 8 := by
      refine sN_mono (fun j hj => ?_)
      have q := v1 (n : Int) (j : Int) (by omega) (by omega) (by omega) (by omega)
      have q2 := v3 (n : Int) (j : Int) (by omega) (by omega) (by omega) (by omega)
      rw [cnt_uW]
      unfold pN pA at q
      generalize R 20 (8 * (n : Int) + (j : Int)) = st at *
      by_cases h : (j : Int) = R 29 (40 * (n : Int) + R 34 (n : Int))
      · rw [if_pos h]
        omega
      · rw [if_neg h]
        have : ¬(1 ≤ st ∧ st ≤ 6 ∧ st ≠ 4) := fun g => h (q2 g).2.symm
        omega
    have f2 := sN_pt (L := R 29 (40 * (n : Int) + R 34 (n : Int))) (a := 6) (b := 1) 8
    have f3 : (if 0 ≤ R 29 (40 * (n : Int) + R 34 (n : Int)) ∧ R 29 (40 * (n : Int) + R 34 (n : Int)) < ((8 : Nat) : Int) then 6 else 0) ≤ 6 := by split <;> omega
    omega)
  omega
theorem sent_le (V : iV R) : R 0 38 ≤ 3360 := by
  obtain ⟨v1, v2, v3, v4, v5, v6, v7, v8, v9, v10⟩ := V
  have key : ∀ n : Nat, n < 6 → 14 * (R 34 (n : Int)).toNat + 96 ≤ 560 + sN (fun j => pF (R 20 (8 * (n : Int) + (j : Int)))) 8 := by
    intro n hn
    have i10 := v10 (n : Int) (by omega) (by omega)
    by_cases he : R 34 (n : Int) < R 33 (n : Int)
    · have f1 : sN (fun j => if (j : Int) = R 29 (40 * (n : Int) + R 34 (n : Int)) then 0 else 12) 8 ≤ sN (fun j => pF (R 20 (8 * (n : Int) + (j : Int)))) 8 := by
        refine sN_mono (fun j hj => ?_)
        have q2 := v3 (n : Int) (j : Int) (by omega) (by omega) (by omega) (by omega)
        by_cases h : (j : Int) = R 29 (40 * (n : Int) + R 34 (n : Int))
        · rw [if_pos h]; exact Nat.zero_le _
        · rw [if_neg h]
          unfold pF
          split
          · omega
          · rw [if_neg (fun g => h (q2 (by omega)).2.symm)]
            omega
      have f2 := sN_pl (L := R 29 (40 * (n : Int) + R 34 (n : Int))) (b := 12) 8
      have f3 : (if 0 ≤ R 29 (40 * (n : Int) + R 34 (n : Int)) ∧ R 29 (40 * (n : Int) + R 34 (n : Int)) < ((8 : Nat) : Int) then 12 else 0) ≤ 12 := by split <;> omega
      omega
    · have f1 : sN (fun j => if (j : Int) = -1 then 0 else 12) 8 ≤ sN (fun j => pF (R 20 (8 * (n : Int) + (j : Int)))) 8 := by
        refine sN_mono (fun j hj => ?_)
        have q2 := v3 (n : Int) (j : Int) (by omega) (by omega) (by omega) (by omega)
        rw [if_neg (by omega)]
        unfold pF
        split
        · omega
        · rw [if_neg (fun g => he (q2 (by omega)).1)]
          omega
      have f2 := sN_pl (L := -1) (b := 12) 8
      rw [if_neg (by omega)] at f2
      omega
  have e48 : sN (fun i => pF (R 20 (i : Int))) 48 = sN (fun n => sN (fun j => pF (R 20 (8 * (n : Int) + (j : Int)))) 8) 6 := by
    refine (sN_nest 6).trans (sN_congr (fun n _ => sN_congr (fun j _ => ?_)))
    rw [show ((8 * n + j : Nat) : Int) = 8 * (n : Int) + (j : Int) from by omega]
  unfold rI at v5
  rw [e48] at v5
  have s1 : sN (fun n => 14 * (R 34 (n : Int)).toNat + 96) 6 ≤ sN (fun n => 560 + sN (fun j => pF (R 20 (8 * (n : Int) + (j : Int)))) 8) 6 := sN_mono key
  rw [sN_add, sN_add, sN_mul] at s1
  have s2 : sN (fun _ => 96) 6 = 576 := rfl
  have s3 : sN (fun _ => 560) 6 = 3360 := rfl
  rw [s2, s3] at s1
  omega
theorem bC_of (V : iV R) : bC R := by
  obtain ⟨v1, v2, v3, v4, v5, v6, v7, v8, v9, v10⟩ := V
  intro k b0 b1
  have i7 := v7 k b0 b1
  have q := v1 (k / 8) (k % 8) (by omega) (by omega) (by omega) (by omega)
  have e : 8 * (k / 8) + k % 8 = k := by omega
  have w := wK_le v6 (n := k / 8) (l := k % 8)
  unfold pN pA at q
  rw [e] at q
  refine ⟨i7.1, i7.2.1, ?_, i7.2.2⟩
  omega
end Inv9
