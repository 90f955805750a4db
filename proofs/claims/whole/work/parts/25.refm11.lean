-- the face: answers
def iN (n : Int) : Prop := 0 ≤ n ∧ n < 6
def nOper (R : RS) (n k l v d : Int) : Int × RS :=
  if 0 ≤ n ∧ n < 6 ∧ 0 ≤ k ∧ k ≤ 2 ∧ 0 ≤ l ∧ l < 8 ∧ 0 ≤ d ∧ d ≤ 50 ∧ R 33 n ≠ 40 then (R 33 n, up3 (up3 (up3 (up3 (up3 R 28 (40 * n + R 33 n) k) 29 (40 * n + R 33 n) l) 30 (40 * n + R 33 n) v) 31 (40 * n + R 33 n) d) 33 n (R 33 n + 1))
  else (-1, R)
def nRes (R : RS) (n k : Int) : Int := if 0 ≤ n ∧ n < 6 ∧ 0 ≤ k ∧ k < R 34 n then R 32 (40 * n + k) else 0
def nDone (R : RS) (n : Int) : Int := if 0 ≤ n ∧ n < 6 then R 34 n else -1
def nCache (R : RS) (n l w : Int) : Int := if 0 ≤ n ∧ n < 6 ∧ 0 ≤ l ∧ l < 8 then (if w = 0 then R 20 (8 * n + l) else if w = 1 then R 21 (8 * n + l) else if w = 2 then R 22 (8 * n + l) else if w = 3 then R 23 (8 * n + l) else -1) else -1
def nHome (R : RS) (l w : Int) : Int := if 0 ≤ l ∧ l < 8 then (if w = 0 then R 24 l else if w = 1 then R 25 l else if w = 2 then R 26 l + 1 else if w = 3 then R 27 l else -1) else -1
def nBuf (R : RS) (n p c : Int) : Int := if 0 ≤ n ∧ n < 6 ∧ 0 ≤ p ∧ p ≤ 6 ∧ 0 ≤ c ∧ c < 3 then (if p = 5 then R 10 (3 * n + c) else if p = 6 then R 13 (3 * n + c) else R 17 (15 * n + 3 * p + c)) else -1
def nHeld (R : RS) (n o c : Int) : Int := if 0 ≤ n ∧ n < 6 ∧ 0 ≤ o ∧ o ≤ 4 ∧ 0 ≤ c ∧ c < 3 then R 18 (15 * n + 3 * o + c) + 1 else -1
def nCount (R : RS) (w : Int) : Int := if w = 0 then R 0 38 else if w = 1 then R 0 39 else if w = 2 then R 0 40 else 0
def oK (z : Int) : Prop := -2147483648 ≤ z ∧ z < 2147483648
section RefM11
variable {h : ev_hs} {c0 : Nat} {Rc Rr : RS}
theorem b_isNode {α : Type} {K : Int → ev_hs → Option α} {n : Int} {g : ev_hs} (hn : oK n) : bI (f_Mo_isNode n g) K = if 0 ≤ n ∧ n < 6 then K 1 g else K 0 g := by
  unfold oK at hn
  simp (disch := omega) only [f_Mo_isNode, ↓eLt_i, ↓jn_eq, ↓eBo_1, ↓eBo_0]
  by_cases h1 : n < 0
  · rw [if_pos h1, if_neg (by omega)]; rfl
  · by_cases h2 : n < 6
    · rw [if_neg h1, if_pos h2, if_pos (by omega)]; rfl
    · rw [if_neg h1, if_neg h2, if_neg (by omega)]; rfl
theorem b_isLine {α : Type} {K : Int → ev_hs → Option α} {n : Int} {g : ev_hs} (hn : oK n) : bI (f_Mo_isLine n g) K = if 0 ≤ n ∧ n < 8 then K 1 g else K 0 g := by
  unfold oK at hn
  simp (disch := omega) only [f_Mo_isLine, ↓eLt_i, ↓jn_eq, ↓eBo_1, ↓eBo_0]
  by_cases h1 : n < 0
  · rw [if_pos h1, if_neg (by omega)]; rfl
  · by_cases h2 : n < 8
    · rw [if_neg h1, if_pos h2, if_pos (by omega)]; rfl
    · rw [if_neg h1, if_neg h2, if_neg (by omega)]; rfl
theorem m_operation (hs : shR h c0) (gN : bN Rr) {n k l v d : Int} (i1 : oK n) (i2 : oK k) (i3 : oK l) (i5 : oK d) : f_Mo_operation (some (c0 + 373)) n k l v d (vw h c0 Rc Rr) = some ((nOper Rr n k l v d).1, vw h c0 Rc (nOper Rr n k l v d).2) := by
  unfold f_Mo_operation nOper
  rw [jn_eq, b_isNode i1]
  unfold oK at i2 i5
  by_cases a1 : 0 ≤ n ∧ n < 6
  · have g1 := gN n a1.1 a1.2
    rw [if_pos a1]
    by_cases a2 : k < 0
    · simp (disch := first | omega | (simp (disch := omega) only [u3s, u3n, u3i]; omega)) only [↓rg33 hs, ↓rl33 hs, ↓rs33 hs, ↓rg28 hs, ↓rl28 hs, ↓rs28 hs, ↓rg29 hs, ↓rl29 hs, ↓rs29 hs, ↓rg30 hs, ↓rl30 hs, ↓rs30 hs, ↓rg31 hs, ↓rl31 hs, ↓rs31 hs, ↓r_vK hs, ↓eEq_i, ↓eLt_i, ↓eDiv_i, ↓eRem_i, ↓bI_some, ↓bR_some, ↓bV_some, ↓nN_some, ↓eBo_1, ↓eBo_0, ↓jn_eq, u3s, u3n, u3i, ↓reduceIte, Int.reduceLT, Int.reduceLE, Int.reduceEq, Int.reduceNeg, Int.reduceAdd, Int.reduceSub, Int.reduceMul, Int.reduceMod, Int.reduceDiv, not_true_eq_false, not_false_eq_true, and_self, and_true, true_and, and_false, false_and, or_true, or_false, false_or, true_or, a2]
      rw [if_neg (by omega)]
    by_cases a3 : 2 < k
    · simp (disch := first | omega | (simp (disch := omega) only [u3s, u3n, u3i]; omega)) only [↓rg33 hs, ↓rl33 hs, ↓rs33 hs, ↓rg28 hs, ↓rl28 hs, ↓rs28 hs, ↓rg29 hs, ↓rl29 hs, ↓rs29 hs, ↓rg30 hs, ↓rl30 hs, ↓rs30 hs, ↓rg31 hs, ↓rl31 hs, ↓rs31 hs, ↓r_vK hs, ↓eEq_i, ↓eLt_i, ↓eDiv_i, ↓eRem_i, ↓bI_some, ↓bR_some, ↓bV_some, ↓nN_some, ↓eBo_1, ↓eBo_0, ↓jn_eq, u3s, u3n, u3i, ↓reduceIte, Int.reduceLT, Int.reduceLE, Int.reduceEq, Int.reduceNeg, Int.reduceAdd, Int.reduceSub, Int.reduceMul, Int.reduceMod, Int.reduceDiv, not_true_eq_false, not_false_eq_true, and_self, and_true, true_and, and_false, false_and, or_true, or_false, false_or, true_or, a2, a3]
      rw [if_neg (by omega)]
    by_cases a4 : 0 ≤ l ∧ l < 8
    · by_cases a5 : d < 0
      · simp (disch := first | omega | (simp (disch := omega) only [u3s, u3n, u3i]; omega)) only [↓rg33 hs, ↓rl33 hs, ↓rs33 hs, ↓rg28 hs, ↓rl28 hs, ↓rs28 hs, ↓rg29 hs, ↓rl29 hs, ↓rs29 hs, ↓rg30 hs, ↓rl30 hs, ↓rs30 hs, ↓rg31 hs, ↓rl31 hs, ↓rs31 hs, ↓r_vK hs, ↓eEq_i, ↓eLt_i, ↓eDiv_i, ↓eRem_i, ↓bI_some, ↓bR_some, ↓bV_some, ↓nN_some, ↓eBo_1, ↓eBo_0, ↓jn_eq, u3s, u3n, u3i, ↓reduceIte, Int.reduceLT, Int.reduceLE, Int.reduceEq, Int.reduceNeg, Int.reduceAdd, Int.reduceSub, Int.reduceMul, Int.reduceMod, Int.reduceDiv, not_true_eq_false, not_false_eq_true, and_self, and_true, true_and, and_false, false_and, or_true, or_false, false_or, true_or, ↓b_isLine i3, a2, a3, a4, a5]
        rw [if_neg (by omega)]
      by_cases a6 : 50 < d
      · simp (disch := first | omega | (simp (disch := omega) only [u3s, u3n, u3i]; omega)) only [↓rg33 hs, ↓rl33 hs, ↓rs33 hs, ↓rg28 hs, ↓rl28 hs, ↓rs28 hs, ↓rg29 hs, ↓rl29 hs, ↓rs29 hs, ↓rg30 hs, ↓rl30 hs, ↓rs30 hs, ↓rg31 hs, ↓rl31 hs, ↓rs31 hs, ↓r_vK hs, ↓eEq_i, ↓eLt_i, ↓eDiv_i, ↓eRem_i, ↓bI_some, ↓bR_some, ↓bV_some, ↓nN_some, ↓eBo_1, ↓eBo_0, ↓jn_eq, u3s, u3n, u3i, ↓reduceIte, Int.reduceLT, Int.reduceLE, Int.reduceEq, Int.reduceNeg, Int.reduceAdd, Int.reduceSub, Int.reduceMul, Int.reduceMod, Int.reduceDiv, not_true_eq_false, not_false_eq_true, and_self, and_true, true_and, and_false, false_and, or_true, or_false, false_or, true_or, ↓b_isLine i3, a2, a3, a4, a5, a6]
        rw [if_neg (by omega)]
      by_cases a7 : Rr 33 n = 40
      · simp (disch := first | omega | (simp (disch := omega) only [u3s, u3n, u3i]; omega)) only [↓rg33 hs, ↓rl33 hs, ↓rs33 hs, ↓rg28 hs, ↓rl28 hs, ↓rs28 hs, ↓rg29 hs, ↓rl29 hs, ↓rs29 hs, ↓rg30 hs, ↓rl30 hs, ↓rs30 hs, ↓rg31 hs, ↓rl31 hs, ↓rs31 hs, ↓r_vK hs, ↓eEq_i, ↓eLt_i, ↓eDiv_i, ↓eRem_i, ↓bI_some, ↓bR_some, ↓bV_some, ↓nN_some, ↓eBo_1, ↓eBo_0, ↓jn_eq, u3s, u3n, u3i, ↓reduceIte, Int.reduceLT, Int.reduceLE, Int.reduceEq, Int.reduceNeg, Int.reduceAdd, Int.reduceSub, Int.reduceMul, Int.reduceMod, Int.reduceDiv, not_true_eq_false, not_false_eq_true, and_self, and_true, true_and, and_false, false_and, or_true, or_false, false_or, true_or, ↓b_isLine i3, a2, a3, a4, a5, a6, a7]
        try rw [if_neg (by omega)]
        try simp
      · simp (disch := first | omega | (simp (disch := omega) only [u3s, u3n, u3i]; omega)) only [↓rg33 hs, ↓rl33 hs, ↓rs33 hs, ↓rg28 hs, ↓rl28 hs, ↓rs28 hs, ↓rg29 hs, ↓rl29 hs, ↓rs29 hs, ↓rg30 hs, ↓rl30 hs, ↓rs30 hs, ↓rg31 hs, ↓rl31 hs, ↓rs31 hs, ↓r_vK hs, ↓eEq_i, ↓eLt_i, ↓eDiv_i, ↓eRem_i, ↓bI_some, ↓bR_some, ↓bV_some, ↓nN_some, ↓eBo_1, ↓eBo_0, ↓jn_eq, u3s, u3n, u3i, ↓reduceIte, Int.reduceLT, Int.reduceLE, Int.reduceEq, Int.reduceNeg, Int.reduceAdd, Int.reduceSub, Int.reduceMul, Int.reduceMod, Int.reduceDiv, not_true_eq_false, not_false_eq_true, and_self, and_true, true_and, and_false, false_and, or_true, or_false, false_or, true_or, ↓b_isLine i3, a2, a3, a4, a5, a6, a7]
        rw [if_pos (by omega)]
        simp
    · simp (disch := first | omega | (simp (disch := omega) only [u3s, u3n, u3i]; omega)) only [↓rg33 hs, ↓rl33 hs, ↓rs33 hs, ↓rg28 hs, ↓rl28 hs, ↓rs28 hs, ↓rg29 hs, ↓rl29 hs, ↓rs29 hs, ↓rg30 hs, ↓rl30 hs, ↓rs30 hs, ↓rg31 hs, ↓rl31 hs, ↓rs31 hs, ↓r_vK hs, ↓eEq_i, ↓eLt_i, ↓eDiv_i, ↓eRem_i, ↓bI_some, ↓bR_some, ↓bV_some, ↓nN_some, ↓eBo_1, ↓eBo_0, ↓jn_eq, u3s, u3n, u3i, ↓reduceIte, Int.reduceLT, Int.reduceLE, Int.reduceEq, Int.reduceNeg, Int.reduceAdd, Int.reduceSub, Int.reduceMul, Int.reduceMod, Int.reduceDiv, not_true_eq_false, not_false_eq_true, and_self, and_true, true_and, and_false, false_and, or_true, or_false, false_or, true_or, ↓b_isLine i3, a2, a3, a4]
      rw [if_neg (by omega)]
  · rw [if_neg a1, eEq_i (by omega) (by omega) (by omega) (by omega), if_pos rfl, if_neg (by omega)]
theorem m_result (hs : shR h c0) (gN : bN Rr) {n k : Int} (i1 : oK n) (i2 : oK k) : f_Mo_result (some (c0 + 373)) n k (vw h c0 Rc Rr) = some (nRes Rr n k, vw h c0 Rc Rr) := by
  unfold f_Mo_result nRes
  rw [jn_eq, jn_eq, b_isNode i1]
  unfold oK at i2
  by_cases a1 : 0 ≤ n ∧ n < 6
  · have g1 := gN n a1.1 a1.2
    rw [if_pos a1]
    by_cases a2 : k < 0
    · simp (disch := first | omega | (simp (disch := omega) only [u3s, u3n, u3i]; omega)) only [↓rg34 hs, ↓rl34 hs, ↓rs34 hs, ↓rg32 hs, ↓rl32 hs, ↓rs32 hs, ↓r_vK hs, ↓eEq_i, ↓eLt_i, ↓eDiv_i, ↓eRem_i, ↓bI_some, ↓bR_some, ↓bV_some, ↓nN_some, ↓eBo_1, ↓eBo_0, ↓jn_eq, u3s, u3n, u3i, ↓reduceIte, Int.reduceLT, Int.reduceLE, Int.reduceEq, Int.reduceNeg, Int.reduceAdd, Int.reduceSub, Int.reduceMul, Int.reduceMod, Int.reduceDiv, not_true_eq_false, not_false_eq_true, and_self, and_true, true_and, and_false, false_and, or_true, or_false, false_or, true_or, a2]
      rw [if_neg (by omega)]
    by_cases a3 : k < Rr 34 n
    · simp (disch := first | omega | (simp (disch := omega) only [u3s, u3n, u3i]; omega)) only [↓rg34 hs, ↓rl34 hs, ↓rs34 hs, ↓rg32 hs, ↓rl32 hs, ↓rs32 hs, ↓r_vK hs, ↓eEq_i, ↓eLt_i, ↓eDiv_i, ↓eRem_i, ↓bI_some, ↓bR_some, ↓bV_some, ↓nN_some, ↓eBo_1, ↓eBo_0, ↓jn_eq, u3s, u3n, u3i, ↓reduceIte, Int.reduceLT, Int.reduceLE, Int.reduceEq, Int.reduceNeg, Int.reduceAdd, Int.reduceSub, Int.reduceMul, Int.reduceMod, Int.reduceDiv, not_true_eq_false, not_false_eq_true, and_self, and_true, true_and, and_false, false_and, or_true, or_false, false_or, true_or, a2, a3]
      rw [if_pos (by omega)]
    · simp (disch := first | omega | (simp (disch := omega) only [u3s, u3n, u3i]; omega)) only [↓rg34 hs, ↓rl34 hs, ↓rs34 hs, ↓rg32 hs, ↓rl32 hs, ↓rs32 hs, ↓r_vK hs, ↓eEq_i, ↓eLt_i, ↓eDiv_i, ↓eRem_i, ↓bI_some, ↓bR_some, ↓bV_some, ↓nN_some, ↓eBo_1, ↓eBo_0, ↓jn_eq, u3s, u3n, u3i, ↓reduceIte, Int.reduceLT, Int.reduceLE, Int.reduceEq, Int.reduceNeg, Int.reduceAdd, Int.reduceSub, Int.reduceMul, Int.reduceMod, Int.reduceDiv, not_true_eq_false, not_false_eq_true, and_self, and_true, true_and, and_false, false_and, or_true, or_false, false_or, true_or, a2, a3]
      try rw [if_neg (by omega)]
  · rw [if_neg a1, eEq_i (by omega) (by omega) (by omega) (by omega), if_pos rfl, if_neg (by omega)]
theorem m_done (hs : shR h c0) {n : Int} (i1 : oK n) : f_Mo_done (some (c0 + 373)) n (vw h c0 Rc Rr) = some (nDone Rr n, vw h c0 Rc Rr) := by
  unfold f_Mo_done nDone
  rw [jn_eq, b_isNode i1]
  by_cases a1 : 0 ≤ n ∧ n < 6
  · simp (disch := first | omega | (simp (disch := omega) only [u3s, u3n, u3i]; omega)) only [↓rg34 hs, ↓rl34 hs, ↓rs34 hs, ↓r_vK hs, ↓eEq_i, ↓eLt_i, ↓eDiv_i, ↓eRem_i, ↓bI_some, ↓bR_some, ↓bV_some, ↓nN_some, ↓eBo_1, ↓eBo_0, ↓jn_eq, u3s, u3n, u3i, ↓reduceIte, Int.reduceLT, Int.reduceLE, Int.reduceEq, Int.reduceNeg, Int.reduceAdd, Int.reduceSub, Int.reduceMul, Int.reduceMod, Int.reduceDiv, not_true_eq_false, not_false_eq_true, and_self, and_true, true_and, and_false, false_and, or_true, or_false, false_or, true_or, a1]
  · simp (disch := first | omega | (simp (disch := omega) only [u3s, u3n, u3i]; omega)) only [↓rg34 hs, ↓rl34 hs, ↓rs34 hs, ↓r_vK hs, ↓eEq_i, ↓eLt_i, ↓eDiv_i, ↓eRem_i, ↓bI_some, ↓bR_some, ↓bV_some, ↓nN_some, ↓eBo_1, ↓eBo_0, ↓jn_eq, u3s, u3n, u3i, ↓reduceIte, Int.reduceLT, Int.reduceLE, Int.reduceEq, Int.reduceNeg, Int.reduceAdd, Int.reduceSub, Int.reduceMul, Int.reduceMod, Int.reduceDiv, not_true_eq_false, not_false_eq_true, and_self, and_true, true_and, and_false, false_and, or_true, or_false, false_or, true_or, a1]
theorem m_cache (hs : shR h c0) {n l w : Int} (i1 : oK n) (i2 : oK l) (i3 : oK w) : f_Mo_cache (some (c0 + 373)) n l w (vw h c0 Rc Rr) = some (nCache Rr n l w, vw h c0 Rc Rr) := by
  unfold f_Mo_cache nCache
  rw [jn_eq, b_isNode i1]
  unfold oK at i3
  by_cases a1 : 0 ≤ n ∧ n < 6
  · by_cases a2 : 0 ≤ l ∧ l < 8
    · rw [if_pos a1, if_pos (by omega)]
      by_cases w0 : w = 0
      · simp (disch := first | omega | (simp (disch := omega) only [u3s, u3n, u3i]; omega)) only [↓rg20 hs, ↓rl20 hs, ↓rs20 hs, ↓rg21 hs, ↓rl21 hs, ↓rs21 hs, ↓rg22 hs, ↓rl22 hs, ↓rs22 hs, ↓rg23 hs, ↓rl23 hs, ↓rs23 hs, ↓r_vK hs, ↓eEq_i, ↓eLt_i, ↓eDiv_i, ↓eRem_i, ↓bI_some, ↓bR_some, ↓bV_some, ↓nN_some, ↓eBo_1, ↓eBo_0, ↓jn_eq, u3s, u3n, u3i, ↓reduceIte, Int.reduceLT, Int.reduceLE, Int.reduceEq, Int.reduceNeg, Int.reduceAdd, Int.reduceSub, Int.reduceMul, Int.reduceMod, Int.reduceDiv, not_true_eq_false, not_false_eq_true, and_self, and_true, true_and, and_false, false_and, or_true, or_false, false_or, true_or, ↓b_isLine i2, a2, w0]
      by_cases w1 : w = 1
      · simp (disch := first | omega | (simp (disch := omega) only [u3s, u3n, u3i]; omega)) only [↓rg20 hs, ↓rl20 hs, ↓rs20 hs, ↓rg21 hs, ↓rl21 hs, ↓rs21 hs, ↓rg22 hs, ↓rl22 hs, ↓rs22 hs, ↓rg23 hs, ↓rl23 hs, ↓rs23 hs, ↓r_vK hs, ↓eEq_i, ↓eLt_i, ↓eDiv_i, ↓eRem_i, ↓bI_some, ↓bR_some, ↓bV_some, ↓nN_some, ↓eBo_1, ↓eBo_0, ↓jn_eq, u3s, u3n, u3i, ↓reduceIte, Int.reduceLT, Int.reduceLE, Int.reduceEq, Int.reduceNeg, Int.reduceAdd, Int.reduceSub, Int.reduceMul, Int.reduceMod, Int.reduceDiv, not_true_eq_false, not_false_eq_true, and_self, and_true, true_and, and_false, false_and, or_true, or_false, false_or, true_or, ↓b_isLine i2, a2, w1]
      by_cases w2 : w = 2
      · simp (disch := first | omega | (simp (disch := omega) only [u3s, u3n, u3i]; omega)) only [↓rg20 hs, ↓rl20 hs, ↓rs20 hs, ↓rg21 hs, ↓rl21 hs, ↓rs21 hs, ↓rg22 hs, ↓rl22 hs, ↓rs22 hs, ↓rg23 hs, ↓rl23 hs, ↓rs23 hs, ↓r_vK hs, ↓eEq_i, ↓eLt_i, ↓eDiv_i, ↓eRem_i, ↓bI_some, ↓bR_some, ↓bV_some, ↓nN_some, ↓eBo_1, ↓eBo_0, ↓jn_eq, u3s, u3n, u3i, ↓reduceIte, Int.reduceLT, Int.reduceLE, Int.reduceEq, Int.reduceNeg, Int.reduceAdd, Int.reduceSub, Int.reduceMul, Int.reduceMod, Int.reduceDiv, not_true_eq_false, not_false_eq_true, and_self, and_true, true_and, and_false, false_and, or_true, or_false, false_or, true_or, ↓b_isLine i2, a2, w2]
      by_cases w3 : w = 3
      · simp (disch := first | omega | (simp (disch := omega) only [u3s, u3n, u3i]; omega)) only [↓rg20 hs, ↓rl20 hs, ↓rs20 hs, ↓rg21 hs, ↓rl21 hs, ↓rs21 hs, ↓rg22 hs, ↓rl22 hs, ↓rs22 hs, ↓rg23 hs, ↓rl23 hs, ↓rs23 hs, ↓r_vK hs, ↓eEq_i, ↓eLt_i, ↓eDiv_i, ↓eRem_i, ↓bI_some, ↓bR_some, ↓bV_some, ↓nN_some, ↓eBo_1, ↓eBo_0, ↓jn_eq, u3s, u3n, u3i, ↓reduceIte, Int.reduceLT, Int.reduceLE, Int.reduceEq, Int.reduceNeg, Int.reduceAdd, Int.reduceSub, Int.reduceMul, Int.reduceMod, Int.reduceDiv, not_true_eq_false, not_false_eq_true, and_self, and_true, true_and, and_false, false_and, or_true, or_false, false_or, true_or, ↓b_isLine i2, a2, w3]
      by_cases w4 : w < 0
      · simp (disch := first | omega | (simp (disch := omega) only [u3s, u3n, u3i]; omega)) only [↓rg20 hs, ↓rl20 hs, ↓rs20 hs, ↓rg21 hs, ↓rl21 hs, ↓rs21 hs, ↓rg22 hs, ↓rl22 hs, ↓rs22 hs, ↓rg23 hs, ↓rl23 hs, ↓rs23 hs, ↓r_vK hs, ↓eEq_i, ↓eLt_i, ↓eDiv_i, ↓eRem_i, ↓bI_some, ↓bR_some, ↓bV_some, ↓nN_some, ↓eBo_1, ↓eBo_0, ↓jn_eq, u3s, u3n, u3i, ↓reduceIte, Int.reduceLT, Int.reduceLE, Int.reduceEq, Int.reduceNeg, Int.reduceAdd, Int.reduceSub, Int.reduceMul, Int.reduceMod, Int.reduceDiv, not_true_eq_false, not_false_eq_true, and_self, and_true, true_and, and_false, false_and, or_true, or_false, false_or, true_or, ↓b_isLine i2, a2, w0, w1, w2, w3, w4]
      · have w5 : 3 < w := by omega
        simp (disch := first | omega | (simp (disch := omega) only [u3s, u3n, u3i]; omega)) only [↓rg20 hs, ↓rl20 hs, ↓rs20 hs, ↓rg21 hs, ↓rl21 hs, ↓rs21 hs, ↓rg22 hs, ↓rl22 hs, ↓rs22 hs, ↓rg23 hs, ↓rl23 hs, ↓rs23 hs, ↓r_vK hs, ↓eEq_i, ↓eLt_i, ↓eDiv_i, ↓eRem_i, ↓bI_some, ↓bR_some, ↓bV_some, ↓nN_some, ↓eBo_1, ↓eBo_0, ↓jn_eq, u3s, u3n, u3i, ↓reduceIte, Int.reduceLT, Int.reduceLE, Int.reduceEq, Int.reduceNeg, Int.reduceAdd, Int.reduceSub, Int.reduceMul, Int.reduceMod, Int.reduceDiv, not_true_eq_false, not_false_eq_true, and_self, and_true, true_and, and_false, false_and, or_true, or_false, false_or, true_or, ↓b_isLine i2, a2, w0, w1, w2, w3, w4, w5]
    · rw [if_pos a1, if_neg (by omega)]
      simp (disch := first | omega | (simp (disch := omega) only [u3s, u3n, u3i]; omega)) only [↓rg20 hs, ↓rl20 hs, ↓rs20 hs, ↓rg21 hs, ↓rl21 hs, ↓rs21 hs, ↓rg22 hs, ↓rl22 hs, ↓rs22 hs, ↓rg23 hs, ↓rl23 hs, ↓rs23 hs, ↓r_vK hs, ↓eEq_i, ↓eLt_i, ↓eDiv_i, ↓eRem_i, ↓bI_some, ↓bR_some, ↓bV_some, ↓nN_some, ↓eBo_1, ↓eBo_0, ↓jn_eq, u3s, u3n, u3i, ↓reduceIte, Int.reduceLT, Int.reduceLE, Int.reduceEq, Int.reduceNeg, Int.reduceAdd, Int.reduceSub, Int.reduceMul, Int.reduceMod, Int.reduceDiv, not_true_eq_false, not_false_eq_true, and_self, and_true, true_and, and_false, false_and, or_true, or_false, false_or, true_or, ↓b_isLine i2, a2]
  · rw [if_neg a1, if_neg (by omega), eEq_i (by omega) (by omega) (by omega) (by omega), if_pos rfl]
theorem m_home (hs : shR h c0) {l w : Int} (i2 : oK l) (i3 : oK w) : f_Mo_home (some (c0 + 373)) l w (vw h c0 Rc Rr) = some (nHome Rr l w, vw h c0 Rc Rr) := by
  unfold f_Mo_home nHome
  rw [jn_eq, b_isLine i2]
  unfold oK at i3
  by_cases a2 : 0 ≤ l ∧ l < 8
  · rw [if_pos a2, if_pos a2]
    by_cases w0 : w = 0
    · simp (disch := first | omega | (simp (disch := omega) only [u3s, u3n, u3i]; omega)) only [↓rg24 hs, ↓rl24 hs, ↓rs24 hs, ↓rg25 hs, ↓rl25 hs, ↓rs25 hs, ↓rg26 hs, ↓rl26 hs, ↓rs26 hs, ↓rg27 hs, ↓rl27 hs, ↓rs27 hs, ↓r_vK hs, ↓eEq_i, ↓eLt_i, ↓eDiv_i, ↓eRem_i, ↓bI_some, ↓bR_some, ↓bV_some, ↓nN_some, ↓eBo_1, ↓eBo_0, ↓jn_eq, u3s, u3n, u3i, ↓reduceIte, Int.reduceLT, Int.reduceLE, Int.reduceEq, Int.reduceNeg, Int.reduceAdd, Int.reduceSub, Int.reduceMul, Int.reduceMod, Int.reduceDiv, not_true_eq_false, not_false_eq_true, and_self, and_true, true_and, and_false, false_and, or_true, or_false, false_or, true_or, w0]
    by_cases w1 : w = 1
    · simp (disch := first | omega | (simp (disch := omega) only [u3s, u3n, u3i]; omega)) only [↓rg24 hs, ↓rl24 hs, ↓rs24 hs, ↓rg25 hs, ↓rl25 hs, ↓rs25 hs, ↓rg26 hs, ↓rl26 hs, ↓rs26 hs, ↓rg27 hs, ↓rl27 hs, ↓rs27 hs, ↓r_vK hs, ↓eEq_i, ↓eLt_i, ↓eDiv_i, ↓eRem_i, ↓bI_some, ↓bR_some, ↓bV_some, ↓nN_some, ↓eBo_1, ↓eBo_0, ↓jn_eq, u3s, u3n, u3i, ↓reduceIte, Int.reduceLT, Int.reduceLE, Int.reduceEq, Int.reduceNeg, Int.reduceAdd, Int.reduceSub, Int.reduceMul, Int.reduceMod, Int.reduceDiv, not_true_eq_false, not_false_eq_true, and_self, and_true, true_and, and_false, false_and, or_true, or_false, false_or, true_or, w1]
    by_cases w2 : w = 2
    · simp (disch := first | omega | (simp (disch := omega) only [u3s, u3n, u3i]; omega)) only [↓rg24 hs, ↓rl24 hs, ↓rs24 hs, ↓rg25 hs, ↓rl25 hs, ↓rs25 hs, ↓rg26 hs, ↓rl26 hs, ↓rs26 hs, ↓rg27 hs, ↓rl27 hs, ↓rs27 hs, ↓r_vK hs, ↓eEq_i, ↓eLt_i, ↓eDiv_i, ↓eRem_i, ↓bI_some, ↓bR_some, ↓bV_some, ↓nN_some, ↓eBo_1, ↓eBo_0, ↓jn_eq, u3s, u3n, u3i, ↓reduceIte, Int.reduceLT, Int.reduceLE, Int.reduceEq, Int.reduceNeg, Int.reduceAdd, Int.reduceSub, Int.reduceMul, Int.reduceMod, Int.reduceDiv, not_true_eq_false, not_false_eq_true, and_self, and_true, true_and, and_false, false_and, or_true, or_false, false_or, true_or, w2]
    by_cases w3 : w = 3
    · simp (disch := first | omega | (simp (disch := omega) only [u3s, u3n, u3i]; omega)) only [↓rg24 hs, ↓rl24 hs, ↓rs24 hs, ↓rg25 hs, ↓rl25 hs, ↓rs25 hs, ↓rg26 hs, ↓rl26 hs, ↓rs26 hs, ↓rg27 hs, ↓rl27 hs, ↓rs27 hs, ↓r_vK hs, ↓eEq_i, ↓eLt_i, ↓eDiv_i, ↓eRem_i, ↓bI_some, ↓bR_some, ↓bV_some, ↓nN_some, ↓eBo_1, ↓eBo_0, ↓jn_eq, u3s, u3n, u3i, ↓reduceIte, Int.reduceLT, Int.reduceLE, Int.reduceEq, Int.reduceNeg, Int.reduceAdd, Int.reduceSub, Int.reduceMul, Int.reduceMod, Int.reduceDiv, not_true_eq_false, not_false_eq_true, and_self, and_true, true_and, and_false, false_and, or_true, or_false, false_or, true_or, w3]
    by_cases w4 : w < 0
    · simp (disch := first | omega | (simp (disch := omega) only [u3s, u3n, u3i]; omega)) only [↓rg24 hs, ↓rl24 hs, ↓rs24 hs, ↓rg25 hs, ↓rl25 hs, ↓rs25 hs, ↓rg26 hs, ↓rl26 hs, ↓rs26 hs, ↓rg27 hs, ↓rl27 hs, ↓rs27 hs, ↓r_vK hs, ↓eEq_i, ↓eLt_i, ↓eDiv_i, ↓eRem_i, ↓bI_some, ↓bR_some, ↓bV_some, ↓nN_some, ↓eBo_1, ↓eBo_0, ↓jn_eq, u3s, u3n, u3i, ↓reduceIte, Int.reduceLT, Int.reduceLE, Int.reduceEq, Int.reduceNeg, Int.reduceAdd, Int.reduceSub, Int.reduceMul, Int.reduceMod, Int.reduceDiv, not_true_eq_false, not_false_eq_true, and_self, and_true, true_and, and_false, false_and, or_true, or_false, false_or, true_or, w0, w1, w2, w3, w4]
    · have w5 : 3 < w := by omega
      simp (disch := first | omega | (simp (disch := omega) only [u3s, u3n, u3i]; omega)) only [↓rg24 hs, ↓rl24 hs, ↓rs24 hs, ↓rg25 hs, ↓rl25 hs, ↓rs25 hs, ↓rg26 hs, ↓rl26 hs, ↓rs26 hs, ↓rg27 hs, ↓rl27 hs, ↓rs27 hs, ↓r_vK hs, ↓eEq_i, ↓eLt_i, ↓eDiv_i, ↓eRem_i, ↓bI_some, ↓bR_some, ↓bV_some, ↓nN_some, ↓eBo_1, ↓eBo_0, ↓jn_eq, u3s, u3n, u3i, ↓reduceIte, Int.reduceLT, Int.reduceLE, Int.reduceEq, Int.reduceNeg, Int.reduceAdd, Int.reduceSub, Int.reduceMul, Int.reduceMod, Int.reduceDiv, not_true_eq_false, not_false_eq_true, and_self, and_true, true_and, and_false, false_and, or_true, or_false, false_or, true_or, w0, w1, w2, w3, w4, w5]
  · rw [if_neg a2, if_neg a2, eEq_i (by omega) (by omega) (by omega) (by omega), if_pos rfl]
theorem m_buffer (hs : shR h c0) {n p c : Int} (i1 : oK n) (i2 : oK p) (i3 : oK c) : f_Mo_buffer (some (c0 + 373)) n p c (vw h c0 Rc Rr) = some (nBuf Rr n p c, vw h c0 Rc Rr) := by
  unfold f_Mo_buffer nBuf
  rw [jn_eq, b_isNode i1]
  unfold oK at i2 i3
  by_cases a1 : 0 ≤ n ∧ n < 6
  · rw [if_pos a1]
    by_cases a2 : p < 0
    · simp (disch := first | omega | (simp (disch := omega) only [u3s, u3n, u3i]; omega)) only [↓rg17 hs, ↓rl17 hs, ↓rs17 hs, ↓rg10 hs, ↓rl10 hs, ↓rs10 hs, ↓rg13 hs, ↓rl13 hs, ↓rs13 hs, ↓r_vK hs, ↓eEq_i, ↓eLt_i, ↓eDiv_i, ↓eRem_i, ↓bI_some, ↓bR_some, ↓bV_some, ↓nN_some, ↓eBo_1, ↓eBo_0, ↓jn_eq, u3s, u3n, u3i, ↓reduceIte, Int.reduceLT, Int.reduceLE, Int.reduceEq, Int.reduceNeg, Int.reduceAdd, Int.reduceSub, Int.reduceMul, Int.reduceMod, Int.reduceDiv, not_true_eq_false, not_false_eq_true, and_self, and_true, true_and, and_false, false_and, or_true, or_false, false_or, true_or, a2]
      rw [if_neg (by omega)]
    by_cases a3 : 6 < p
    · simp (disch := first | omega | (simp (disch := omega) only [u3s, u3n, u3i]; omega)) only [↓rg17 hs, ↓rl17 hs, ↓rs17 hs, ↓rg10 hs, ↓rl10 hs, ↓rs10 hs, ↓rg13 hs, ↓rl13 hs, ↓rs13 hs, ↓r_vK hs, ↓eEq_i, ↓eLt_i, ↓eDiv_i, ↓eRem_i, ↓bI_some, ↓bR_some, ↓bV_some, ↓nN_some, ↓eBo_1, ↓eBo_0, ↓jn_eq, u3s, u3n, u3i, ↓reduceIte, Int.reduceLT, Int.reduceLE, Int.reduceEq, Int.reduceNeg, Int.reduceAdd, Int.reduceSub, Int.reduceMul, Int.reduceMod, Int.reduceDiv, not_true_eq_false, not_false_eq_true, and_self, and_true, true_and, and_false, false_and, or_true, or_false, false_or, true_or, a2, a3]
      rw [if_neg (by omega)]
    by_cases a4 : c < 0
    · simp (disch := first | omega | (simp (disch := omega) only [u3s, u3n, u3i]; omega)) only [↓rg17 hs, ↓rl17 hs, ↓rs17 hs, ↓rg10 hs, ↓rl10 hs, ↓rs10 hs, ↓rg13 hs, ↓rl13 hs, ↓rs13 hs, ↓r_vK hs, ↓eEq_i, ↓eLt_i, ↓eDiv_i, ↓eRem_i, ↓bI_some, ↓bR_some, ↓bV_some, ↓nN_some, ↓eBo_1, ↓eBo_0, ↓jn_eq, u3s, u3n, u3i, ↓reduceIte, Int.reduceLT, Int.reduceLE, Int.reduceEq, Int.reduceNeg, Int.reduceAdd, Int.reduceSub, Int.reduceMul, Int.reduceMod, Int.reduceDiv, not_true_eq_false, not_false_eq_true, and_self, and_true, true_and, and_false, false_and, or_true, or_false, false_or, true_or, a2, a3, a4]
      rw [if_neg (by omega)]
    by_cases a5 : 2 < c
    · simp (disch := first | omega | (simp (disch := omega) only [u3s, u3n, u3i]; omega)) only [↓rg17 hs, ↓rl17 hs, ↓rs17 hs, ↓rg10 hs, ↓rl10 hs, ↓rs10 hs, ↓rg13 hs, ↓rl13 hs, ↓rs13 hs, ↓r_vK hs, ↓eEq_i, ↓eLt_i, ↓eDiv_i, ↓eRem_i, ↓bI_some, ↓bR_some, ↓bV_some, ↓nN_some, ↓eBo_1, ↓eBo_0, ↓jn_eq, u3s, u3n, u3i, ↓reduceIte, Int.reduceLT, Int.reduceLE, Int.reduceEq, Int.reduceNeg, Int.reduceAdd, Int.reduceSub, Int.reduceMul, Int.reduceMod, Int.reduceDiv, not_true_eq_false, not_false_eq_true, and_self, and_true, true_and, and_false, false_and, or_true, or_false, false_or, true_or, a2, a3, a4, a5]
      rw [if_neg (by omega)]
    rw [if_pos (show 0 ≤ n ∧ n < 6 ∧ 0 ≤ p ∧ p ≤ 6 ∧ 0 ≤ c ∧ c < 3 by omega)]
    by_cases p5 : p = 5
    · have a6 : ¬ p < 5 := by omega
      simp (disch := first | omega | (simp (disch := omega) only [u3s, u3n, u3i]; omega)) only [↓rg17 hs, ↓rl17 hs, ↓rs17 hs, ↓rg10 hs, ↓rl10 hs, ↓rs10 hs, ↓rg13 hs, ↓rl13 hs, ↓rs13 hs, ↓r_vK hs, ↓eEq_i, ↓eLt_i, ↓eDiv_i, ↓eRem_i, ↓bI_some, ↓bR_some, ↓bV_some, ↓nN_some, ↓eBo_1, ↓eBo_0, ↓jn_eq, u3s, u3n, u3i, ↓reduceIte, Int.reduceLT, Int.reduceLE, Int.reduceEq, Int.reduceNeg, Int.reduceAdd, Int.reduceSub, Int.reduceMul, Int.reduceMod, Int.reduceDiv, not_true_eq_false, not_false_eq_true, and_self, and_true, true_and, and_false, false_and, or_true, or_false, false_or, true_or, a2, a3, a4, a5, a6, p5]
    by_cases p6 : p = 6
    · have a6 : ¬ p < 5 := by omega
      simp (disch := first | omega | (simp (disch := omega) only [u3s, u3n, u3i]; omega)) only [↓rg17 hs, ↓rl17 hs, ↓rs17 hs, ↓rg10 hs, ↓rl10 hs, ↓rs10 hs, ↓rg13 hs, ↓rl13 hs, ↓rs13 hs, ↓r_vK hs, ↓eEq_i, ↓eLt_i, ↓eDiv_i, ↓eRem_i, ↓bI_some, ↓bR_some, ↓bV_some, ↓nN_some, ↓eBo_1, ↓eBo_0, ↓jn_eq, u3s, u3n, u3i, ↓reduceIte, Int.reduceLT, Int.reduceLE, Int.reduceEq, Int.reduceNeg, Int.reduceAdd, Int.reduceSub, Int.reduceMul, Int.reduceMod, Int.reduceDiv, not_true_eq_false, not_false_eq_true, and_self, and_true, true_and, and_false, false_and, or_true, or_false, false_or, true_or, a2, a3, a4, a5, a6, p6]
    · have a6 : p < 5 := by omega
      simp (disch := first | omega | (simp (disch := omega) only [u3s, u3n, u3i]; omega)) only [↓rg17 hs, ↓rl17 hs, ↓rs17 hs, ↓rg10 hs, ↓rl10 hs, ↓rs10 hs, ↓rg13 hs, ↓rl13 hs, ↓rs13 hs, ↓r_vK hs, ↓eEq_i, ↓eLt_i, ↓eDiv_i, ↓eRem_i, ↓bI_some, ↓bR_some, ↓bV_some, ↓nN_some, ↓eBo_1, ↓eBo_0, ↓jn_eq, u3s, u3n, u3i, ↓reduceIte, Int.reduceLT, Int.reduceLE, Int.reduceEq, Int.reduceNeg, Int.reduceAdd, Int.reduceSub, Int.reduceMul, Int.reduceMod, Int.reduceDiv, not_true_eq_false, not_false_eq_true, and_self, and_true, true_and, and_false, false_and, or_true, or_false, false_or, true_or, a2, a3, a4, a5, a6, p5, p6]
  · rw [if_neg a1, eEq_i (by omega) (by omega) (by omega) (by omega), if_pos rfl, if_neg (by omega)]
theorem m_held (hs : shR h c0) {n o c : Int} (i1 : oK n) (i2 : oK o) (i3 : oK c) : f_Mo_held (some (c0 + 373)) n o c (vw h c0 Rc Rr) = some (nHeld Rr n o c, vw h c0 Rc Rr) := by
  unfold f_Mo_held nHeld
  rw [jn_eq, b_isNode i1]
  unfold oK at i2 i3
  by_cases a1 : 0 ≤ n ∧ n < 6
  · rw [if_pos a1]
    by_cases a2 : o < 0
    · simp (disch := first | omega | (simp (disch := omega) only [u3s, u3n, u3i]; omega)) only [↓rg18 hs, ↓rl18 hs, ↓rs18 hs, ↓r_vK hs, ↓eEq_i, ↓eLt_i, ↓eDiv_i, ↓eRem_i, ↓bI_some, ↓bR_some, ↓bV_some, ↓nN_some, ↓eBo_1, ↓eBo_0, ↓jn_eq, u3s, u3n, u3i, ↓reduceIte, Int.reduceLT, Int.reduceLE, Int.reduceEq, Int.reduceNeg, Int.reduceAdd, Int.reduceSub, Int.reduceMul, Int.reduceMod, Int.reduceDiv, not_true_eq_false, not_false_eq_true, and_self, and_true, true_and, and_false, false_and, or_true, or_false, false_or, true_or, a2]
      rw [if_neg (by omega)]
    by_cases a3 : 4 < o
    · simp (disch := first | omega | (simp (disch := omega) only [u3s, u3n, u3i]; omega)) only [↓rg18 hs, ↓rl18 hs, ↓rs18 hs, ↓r_vK hs, ↓eEq_i, ↓eLt_i, ↓eDiv_i, ↓eRem_i, ↓bI_some, ↓bR_some, ↓bV_some, ↓nN_some, ↓eBo_1, ↓eBo_0, ↓jn_eq, u3s, u3n, u3i, ↓reduceIte, Int.reduceLT, Int.reduceLE, Int.reduceEq, Int.reduceNeg, Int.reduceAdd, Int.reduceSub, Int.reduceMul, Int.reduceMod, Int.reduceDiv, not_true_eq_false, not_false_eq_true, and_self, and_true, true_and, and_false, false_and, or_true, or_false, false_or, true_or, a2, a3]
      rw [if_neg (by omega)]
    by_cases a4 : c < 0
    · simp (disch := first | omega | (simp (disch := omega) only [u3s, u3n, u3i]; omega)) only [↓rg18 hs, ↓rl18 hs, ↓rs18 hs, ↓r_vK hs, ↓eEq_i, ↓eLt_i, ↓eDiv_i, ↓eRem_i, ↓bI_some, ↓bR_some, ↓bV_some, ↓nN_some, ↓eBo_1, ↓eBo_0, ↓jn_eq, u3s, u3n, u3i, ↓reduceIte, Int.reduceLT, Int.reduceLE, Int.reduceEq, Int.reduceNeg, Int.reduceAdd, Int.reduceSub, Int.reduceMul, Int.reduceMod, Int.reduceDiv, not_true_eq_false, not_false_eq_true, and_self, and_true, true_and, and_false, false_and, or_true, or_false, false_or, true_or, a2, a3, a4]
      rw [if_neg (by omega)]
    by_cases a5 : 2 < c
    · simp (disch := first | omega | (simp (disch := omega) only [u3s, u3n, u3i]; omega)) only [↓rg18 hs, ↓rl18 hs, ↓rs18 hs, ↓r_vK hs, ↓eEq_i, ↓eLt_i, ↓eDiv_i, ↓eRem_i, ↓bI_some, ↓bR_some, ↓bV_some, ↓nN_some, ↓eBo_1, ↓eBo_0, ↓jn_eq, u3s, u3n, u3i, ↓reduceIte, Int.reduceLT, Int.reduceLE, Int.reduceEq, Int.reduceNeg, Int.reduceAdd, Int.reduceSub, Int.reduceMul, Int.reduceMod, Int.reduceDiv, not_true_eq_false, not_false_eq_true, and_self, and_true, true_and, and_false, false_and, or_true, or_false, false_or, true_or, a2, a3, a4, a5]
      rw [if_neg (by omega)]
    rw [if_pos (show 0 ≤ n ∧ n < 6 ∧ 0 ≤ o ∧ o ≤ 4 ∧ 0 ≤ c ∧ c < 3 by omega)]
    simp (disch := first | omega | (simp (disch := omega) only [u3s, u3n, u3i]; omega)) only [↓rg18 hs, ↓rl18 hs, ↓rs18 hs, ↓r_vK hs, ↓eEq_i, ↓eLt_i, ↓eDiv_i, ↓eRem_i, ↓bI_some, ↓bR_some, ↓bV_some, ↓nN_some, ↓eBo_1, ↓eBo_0, ↓jn_eq, u3s, u3n, u3i, ↓reduceIte, Int.reduceLT, Int.reduceLE, Int.reduceEq, Int.reduceNeg, Int.reduceAdd, Int.reduceSub, Int.reduceMul, Int.reduceMod, Int.reduceDiv, not_true_eq_false, not_false_eq_true, and_self, and_true, true_and, and_false, false_and, or_true, or_false, false_or, true_or, a2, a3, a4, a5]
  · rw [if_neg a1, eEq_i (by omega) (by omega) (by omega) (by omega), if_pos rfl, if_neg (by omega)]
theorem m_count (hs : shR h c0) {w : Int} (i1 : oK w) : f_Mo_count (some (c0 + 373)) w (vw h c0 Rc Rr) = some (nCount Rr w, vw h c0 Rc Rr) := by
  unfold f_Mo_count nCount
  unfold oK at i1
  by_cases w0 : w = 0
  · simp (disch := first | omega | (simp (disch := omega) only [u3s, u3n, u3i]; omega)) only [↓ri38 hs, ↓rq38 hs, ↓ri39 hs, ↓rq39 hs, ↓ri40 hs, ↓rq40 hs, ↓r_vK hs, ↓eEq_i, ↓eLt_i, ↓eDiv_i, ↓eRem_i, ↓bI_some, ↓bR_some, ↓bV_some, ↓nN_some, ↓eBo_1, ↓eBo_0, ↓jn_eq, u3s, u3n, u3i, ↓reduceIte, Int.reduceLT, Int.reduceLE, Int.reduceEq, Int.reduceNeg, Int.reduceAdd, Int.reduceSub, Int.reduceMul, Int.reduceMod, Int.reduceDiv, not_true_eq_false, not_false_eq_true, and_self, and_true, true_and, and_false, false_and, or_true, or_false, false_or, true_or, w0]
  by_cases w1 : w = 1
  · simp (disch := first | omega | (simp (disch := omega) only [u3s, u3n, u3i]; omega)) only [↓ri38 hs, ↓rq38 hs, ↓ri39 hs, ↓rq39 hs, ↓ri40 hs, ↓rq40 hs, ↓r_vK hs, ↓eEq_i, ↓eLt_i, ↓eDiv_i, ↓eRem_i, ↓bI_some, ↓bR_some, ↓bV_some, ↓nN_some, ↓eBo_1, ↓eBo_0, ↓jn_eq, u3s, u3n, u3i, ↓reduceIte, Int.reduceLT, Int.reduceLE, Int.reduceEq, Int.reduceNeg, Int.reduceAdd, Int.reduceSub, Int.reduceMul, Int.reduceMod, Int.reduceDiv, not_true_eq_false, not_false_eq_true, and_self, and_true, true_and, and_false, false_and, or_true, or_false, false_or, true_or, w1]
  by_cases w2 : w = 2
  · simp (disch := first | omega | (simp (disch := omega) only [u3s, u3n, u3i]; omega)) only [↓ri38 hs, ↓rq38 hs, ↓ri39 hs, ↓rq39 hs, ↓ri40 hs, ↓rq40 hs, ↓r_vK hs, ↓eEq_i, ↓eLt_i, ↓eDiv_i, ↓eRem_i, ↓bI_some, ↓bR_some, ↓bV_some, ↓nN_some, ↓eBo_1, ↓eBo_0, ↓jn_eq, u3s, u3n, u3i, ↓reduceIte, Int.reduceLT, Int.reduceLE, Int.reduceEq, Int.reduceNeg, Int.reduceAdd, Int.reduceSub, Int.reduceMul, Int.reduceMod, Int.reduceDiv, not_true_eq_false, not_false_eq_true, and_self, and_true, true_and, and_false, false_and, or_true, or_false, false_or, true_or, w2]
  · simp (disch := first | omega | (simp (disch := omega) only [u3s, u3n, u3i]; omega)) only [↓ri38 hs, ↓rq38 hs, ↓ri39 hs, ↓rq39 hs, ↓ri40 hs, ↓rq40 hs, ↓r_vK hs, ↓eEq_i, ↓eLt_i, ↓eDiv_i, ↓eRem_i, ↓bI_some, ↓bR_some, ↓bV_some, ↓nN_some, ↓eBo_1, ↓eBo_0, ↓jn_eq, u3s, u3n, u3i, ↓reduceIte, Int.reduceLT, Int.reduceLE, Int.reduceEq, Int.reduceNeg, Int.reduceAdd, Int.reduceSub, Int.reduceMul, Int.reduceMod, Int.reduceDiv, not_true_eq_false, not_false_eq_true, and_self, and_true, true_and, and_false, false_and, or_true, or_false, false_or, true_or, w0, w1, w2]
def nRun (R : RS) : Nat → RS
  | 0 => R
  | m + 1 => nRun (nCyc R) m
theorem m_run14 (hs : shR h c0) {P : RS → Prop} (H : ∀ R, P R → f_Mo_oneCycle (some (c0 + 373)) (vw h c0 Rc R) = some (vw h c0 Rc (nCyc R)) ∧ P (nCyc R)) {x : Int} (hx : 0 ≤ x ∧ x ≤ 100) : ∀ (m fu : Nat) (k : Int) (R : RS), 0 ≤ k → k + m = x → P R → m < fu → f_Mo_run_14 fu (some (c0 + 373)) x k (vw h c0 Rc R) = some (nRun R m 0 2, vw h c0 Rc (nRun R m)) ∧ P (nRun R m) := by
  intro m
  induction m with
  | zero =>
    intro fu k R h1 h2 hP hf
    cases fu with
    | zero => omega
    | succ fu =>
      rw [f_Mo_run_14, eLt_i (by omega) (by omega) (by omega) (by omega), if_neg (by omega), ri2 hs]
      exact ⟨rfl, hP⟩
  | succ m ih =>
    intro fu k R h1 h2 hP hf
    cases fu with
    | zero => omega
    | succ fu =>
      obtain ⟨e1, e2⟩ := H R hP
      unfold nRun
      generalize nCyc R = R2 at e1 e2 ⊢
      rw [f_Mo_run_14, eLt_i (by omega) (by omega) (by omega) (by omega), if_pos (by omega), r_vK hs, e1, bV_some]
      exact ih fu (k + 1) R2 (by omega) (by omega) e2 (by omega)
end RefM11
