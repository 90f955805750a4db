def nIt (g : Int → RS → RS) : Nat → Int → RS → RS
  | 0, _, R => R
  | m + 1, k, R => nIt g m (k + 1) (g k R)
def nDn (g : Int → RS → RS) : Nat → RS → RS
  | 0, R => R
  | m + 1, R => nDn g m (g m R)
-- of the channels 2, 1, 0 the first that moves
def nMv3 (R : RS) (n o : Int) : RS :=
  if (nMv R n o 2).1 = 1 then (nMv R n o 2).2
  else if (nMv (nMv R n o 2).2 n o 1).1 = 1 then (nMv (nMv R n o 2).2 n o 1).2
  else (nMv (nMv (nMv R n o 2).2 n o 1).2 n o 0).2
def nCyc1 (R : RS) : RS := nIt (fun n R => nIt (fun c R => nInj R n c) 3 0 R) 6 0 (up3 R 0 2 (R 0 2 + 1))
def nCyc2 (R : RS) : RS := nIt (fun n R => nIt (fun o R => nMv3 R n o) 5 0 R) 6 0 R
def nCyc3 (R : RS) : RS := nIt (fun n R => up3 R 35 n 0) 6 0 R
def nCyc4 (R : RS) : RS := nIt (fun n R => nDn (fun c R => nTF R n c) 3 R) 6 0 R
def nCyc5 (R : RS) : RS := nIt (fun n R => nCore R n) 6 0 R
def nCyc (R : RS) : RS := nCyc5 (nCyc4 (nCyc3 (nCyc2 (nCyc1 R))))
theorem nMv_b (R : RS) (n o c : Int) : (nMv R n o c).1 = 0 ∨ (nMv R n o c).1 = 1 := by
  unfold nMv nMv2
  split
  · simp
  split
  · simp
  split
  · simp
  split
  · simp
  split
  · simp
  split <;> simp
section RefM9
variable {h : ev_hs} {c0 : Nat} {Rc Rr : RS}
theorem m_core168 (hs : shR h c0) (gC : bC Rr) {n l y : Int} (hn : 0 ≤ n ∧ n < 6) {K : Option Nat → Int → Int → Int → Int → ev_hs → Option ev_hs} : ∀ (f fu : Nat) (m x : Int), 0 ≤ m → (m + 2 * f = 8 ∨ m + 2 * f = 9) → f < fu → f_Mo_core_168 fu (some (c0 + 373)) n l y x m (vw h c0 Rc Rr) K = K (some (c0 + 373)) n l y (nInL Rr n f m x) (vw h c0 Rc Rr) := by
  intro f
  induction f with
  | zero =>
    intro fu m x h1 h2 hf
    cases fu with
    | zero => omega
    | succ fu =>
      rw [f_Mo_core_168, eLt_i (by omega) (by omega) (by omega) (by omega), if_neg (by omega)]
      rfl
  | succ f ih =>
    intro fu m x h1 h2 hf
    cases fu with
    | zero => omega
    | succ fu =>
      have c1 := gC (8 * n + m) (by omega) (by omega)
      rw [f_Mo_core_168, eLt_i (by omega) (by omega) (by omega) (by omega), if_pos (by omega)]
      unfold nInL nZ
      by_cases a1 : Rr 20 (8 * n + m) = 0
      · simp (disch := first | omega | (simp (disch := omega) only [u3s, u3n, u3i]; omega)) only [↓rg20 hs, ↓rl20 hs, ↓rs20 hs, ↓r_vK hs, ↓eEq_i, ↓eLt_i, ↓eDiv_i, ↓eRem_i, ↓bI_some, ↓bR_some, ↓bV_some, ↓nN_some, ↓eBo_1, ↓eBo_0, ↓jn_eq, u3s, u3n, u3i, ↓reduceIte, Int.reduceLT, Int.reduceLE, Int.reduceEq, Int.reduceNeg, Int.reduceAdd, Int.reduceSub, Int.reduceMul, Int.reduceMod, Int.reduceDiv, not_true_eq_false, not_false_eq_true, and_self, and_true, true_and, and_false, false_and, or_true, or_false, false_or, true_or, a1]
        exact ih fu (m + 2) (x + 0) (by omega) (by omega) (by omega)
      · simp (disch := first | omega | (simp (disch := omega) only [u3s, u3n, u3i]; omega)) only [↓rg20 hs, ↓rl20 hs, ↓rs20 hs, ↓r_vK hs, ↓eEq_i, ↓eLt_i, ↓eDiv_i, ↓eRem_i, ↓bI_some, ↓bR_some, ↓bV_some, ↓nN_some, ↓eBo_1, ↓eBo_0, ↓jn_eq, u3s, u3n, u3i, ↓reduceIte, Int.reduceLT, Int.reduceLE, Int.reduceEq, Int.reduceNeg, Int.reduceAdd, Int.reduceSub, Int.reduceMul, Int.reduceMod, Int.reduceDiv, not_true_eq_false, not_false_eq_true, and_self, and_true, true_and, and_false, false_and, or_true, or_false, false_or, true_or, a1]
        exact ih fu (m + 2) (x + 1) (by omega) (by omega) (by omega)
theorem nInL_r {R : RS} {n : Int} : ∀ (f : Nat) (m x : Int), x ≤ nInL R n f m x ∧ nInL R n f m x ≤ x + f := by
  intro f
  induction f with
  | zero => intro m x; unfold nInL; omega
  | succ f ih =>
    intro m x
    have := ih (m + 2) (x + nZ (R 20 (8 * n + m)))
    unfold nInL
    have : 0 ≤ nZ (R 20 (8 * n + m)) ∧ nZ (R 20 (8 * n + m)) ≤ 1 := by unfold nZ; split <;> omega
    omega
theorem m_core (hs : shR h c0) (gC : bC Rr) (gO : bO Rr) (gN : bN Rr) (S : sOK Rr 1) {n : Int} (hn : 0 ≤ n ∧ n < 6) : f_Mo_core (some (c0 + 373)) n (vw h c0 Rc Rr) = some (vw h c0 Rc (nCore Rr n)) := by
  have g1 := gN n hn.1 hn.2
  unfold f_Mo_core nCore
  by_cases a1 : Rr 35 n = 0
  · by_cases a2 : Rr 34 n = Rr 33 n
    · simp (disch := first | omega | (simp (disch := omega) only [u3s, u3n, u3i]; omega)) only [↓rg35 hs, ↓rl35 hs, ↓rs35 hs, ↓rg34 hs, ↓rl34 hs, ↓rs34 hs, ↓rg33 hs, ↓rl33 hs, ↓rs33 hs, ↓rg31 hs, ↓rl31 hs, ↓rs31 hs, ↓rg20 hs, ↓rl20 hs, ↓rs20 hs, ↓rg29 hs, ↓rl29 hs, ↓rs29 hs, ↓rg28 hs, ↓rl28 hs, ↓rs28 hs, ↓r_vK hs, ↓eEq_i, ↓eLt_i, ↓eDiv_i, ↓eRem_i, ↓bI_some, ↓bR_some, ↓bV_some, ↓nN_some, ↓eBo_1, ↓eBo_0, ↓jn_eq, u3s, u3n, u3i, ↓reduceIte, Int.reduceLT, Int.reduceLE, Int.reduceEq, Int.reduceNeg, Int.reduceAdd, Int.reduceSub, Int.reduceMul, Int.reduceMod, Int.reduceDiv, not_true_eq_false, not_false_eq_true, and_self, and_true, true_and, and_false, false_and, or_true, or_false, false_or, true_or, a1, a2]
    · have g2 := gO (40 * n + Rr 34 n) (by omega) (by omega)
      by_cases a3 : 0 < Rr 31 (40 * n + Rr 34 n)
      · simp (disch := first | omega | (simp (disch := omega) only [u3s, u3n, u3i]; omega)) only [↓rg35 hs, ↓rl35 hs, ↓rs35 hs, ↓rg34 hs, ↓rl34 hs, ↓rs34 hs, ↓rg33 hs, ↓rl33 hs, ↓rs33 hs, ↓rg31 hs, ↓rl31 hs, ↓rs31 hs, ↓rg20 hs, ↓rl20 hs, ↓rs20 hs, ↓rg29 hs, ↓rl29 hs, ↓rs29 hs, ↓rg28 hs, ↓rl28 hs, ↓rs28 hs, ↓r_vK hs, ↓eEq_i, ↓eLt_i, ↓eDiv_i, ↓eRem_i, ↓bI_some, ↓bR_some, ↓bV_some, ↓nN_some, ↓eBo_1, ↓eBo_0, ↓jn_eq, u3s, u3n, u3i, ↓reduceIte, Int.reduceLT, Int.reduceLE, Int.reduceEq, Int.reduceNeg, Int.reduceAdd, Int.reduceSub, Int.reduceMul, Int.reduceMod, Int.reduceDiv, not_true_eq_false, not_false_eq_true, and_self, and_true, true_and, and_false, false_and, or_true, or_false, false_or, true_or, a1, a2, a3]
      · have g3 := gC (8 * n + Rr 29 (40 * n + Rr 34 n)) (by omega) (by omega)
        have hin := nInL_r (R := Rr) (n := n) 4 (Rr 29 (40 * n + Rr 34 n) % 2) 0
        unfold nCore1 nIn
        by_cases s7 : Rr 20 (8 * n + Rr 29 (40 * n + Rr 34 n)) = 7
        · by_cases a4 : Rr 28 (40 * n + Rr 34 n) = 0
          · simp (disch := first | omega | (simp (disch := omega) only [u3s, u3n, u3i]; omega)) only [↓rg35 hs, ↓rl35 hs, ↓rs35 hs, ↓rg34 hs, ↓rl34 hs, ↓rs34 hs, ↓rg33 hs, ↓rl33 hs, ↓rs33 hs, ↓rg31 hs, ↓rl31 hs, ↓rs31 hs, ↓rg20 hs, ↓rl20 hs, ↓rs20 hs, ↓rg29 hs, ↓rl29 hs, ↓rs29 hs, ↓rg28 hs, ↓rl28 hs, ↓rs28 hs, ↓r_vK hs, ↓eEq_i, ↓eLt_i, ↓eDiv_i, ↓eRem_i, ↓bI_some, ↓bR_some, ↓bV_some, ↓nN_some, ↓eBo_1, ↓eBo_0, ↓jn_eq, u3s, u3n, u3i, ↓reduceIte, Int.reduceLT, Int.reduceLE, Int.reduceEq, Int.reduceNeg, Int.reduceAdd, Int.reduceSub, Int.reduceMul, Int.reduceMod, Int.reduceDiv, not_true_eq_false, not_false_eq_true, and_self, and_true, true_and, and_false, false_and, or_true, or_false, false_or, true_or, ↓b_finish hs hn, a1, a2, a3, a4, s7]
          · simp (disch := first | omega | (simp (disch := omega) only [u3s, u3n, u3i]; omega)) only [↓rg35 hs, ↓rl35 hs, ↓rs35 hs, ↓rg34 hs, ↓rl34 hs, ↓rs34 hs, ↓rg33 hs, ↓rl33 hs, ↓rs33 hs, ↓rg31 hs, ↓rl31 hs, ↓rs31 hs, ↓rg20 hs, ↓rl20 hs, ↓rs20 hs, ↓rg29 hs, ↓rl29 hs, ↓rs29 hs, ↓rg28 hs, ↓rl28 hs, ↓rs28 hs, ↓r_vK hs, ↓eEq_i, ↓eLt_i, ↓eDiv_i, ↓eRem_i, ↓bI_some, ↓bR_some, ↓bV_some, ↓nN_some, ↓eBo_1, ↓eBo_0, ↓jn_eq, u3s, u3n, u3i, ↓reduceIte, Int.reduceLT, Int.reduceLE, Int.reduceEq, Int.reduceNeg, Int.reduceAdd, Int.reduceSub, Int.reduceMul, Int.reduceMod, Int.reduceDiv, not_true_eq_false, not_false_eq_true, and_self, and_true, true_and, and_false, false_and, or_true, or_false, false_or, true_or, ↓b_finish hs hn, a1, a2, a3, a4, s7]
        by_cases s4 : Rr 20 (8 * n + Rr 29 (40 * n + Rr 34 n)) = 4
        · by_cases a4 : Rr 28 (40 * n + Rr 34 n) = 0
          · simp (disch := first | omega | (simp (disch := omega) only [u3s, u3n, u3i]; omega)) only [↓rg35 hs, ↓rl35 hs, ↓rs35 hs, ↓rg34 hs, ↓rl34 hs, ↓rs34 hs, ↓rg33 hs, ↓rl33 hs, ↓rs33 hs, ↓rg31 hs, ↓rl31 hs, ↓rs31 hs, ↓rg20 hs, ↓rl20 hs, ↓rs20 hs, ↓rg29 hs, ↓rl29 hs, ↓rs29 hs, ↓rg28 hs, ↓rl28 hs, ↓rs28 hs, ↓r_vK hs, ↓eEq_i, ↓eLt_i, ↓eDiv_i, ↓eRem_i, ↓bI_some, ↓bR_some, ↓bV_some, ↓nN_some, ↓eBo_1, ↓eBo_0, ↓jn_eq, u3s, u3n, u3i, ↓reduceIte, Int.reduceLT, Int.reduceLE, Int.reduceEq, Int.reduceNeg, Int.reduceAdd, Int.reduceSub, Int.reduceMul, Int.reduceMod, Int.reduceDiv, not_true_eq_false, not_false_eq_true, and_self, and_true, true_and, and_false, false_and, or_true, or_false, false_or, true_or, ↓b_finish hs hn, a1, a2, a3, a4, s4]
          · simp (disch := first | omega | (simp (disch := omega) only [u3s, u3n, u3i, nSend_n]; omega)) only [↓rg35 hs, ↓rl35 hs, ↓rs35 hs, ↓rg34 hs, ↓rl34 hs, ↓rs34 hs, ↓rg33 hs, ↓rl33 hs, ↓rs33 hs, ↓rg31 hs, ↓rl31 hs, ↓rs31 hs, ↓rg20 hs, ↓rl20 hs, ↓rs20 hs, ↓rg29 hs, ↓rl29 hs, ↓rs29 hs, ↓rg28 hs, ↓rl28 hs, ↓rs28 hs, ↓r_vK hs, ↓eEq_i, ↓eLt_i, ↓eDiv_i, ↓eRem_i, ↓bI_some, ↓bR_some, ↓bV_some, ↓nN_some, ↓eBo_1, ↓eBo_0, ↓jn_eq, u3s, u3n, u3i, ↓reduceIte, Int.reduceLT, Int.reduceLE, Int.reduceEq, Int.reduceNeg, Int.reduceAdd, Int.reduceSub, Int.reduceMul, Int.reduceMod, Int.reduceDiv, not_true_eq_false, not_false_eq_true, and_self, and_true, true_and, and_false, false_and, or_true, or_false, false_or, true_or, ↓b_homeOf, ↓b_sendS hs (m0 := 0) S hn, a1, a2, a3, a4, s4]
        by_cases s0 : Rr 20 (8 * n + Rr 29 (40 * n + Rr 34 n)) = 0
        · by_cases a5 : nInL Rr n 4 (Rr 29 (40 * n + Rr 34 n) % 2) 0 = 2
          · by_cases a4 : Rr 28 (40 * n + Rr 34 n) = 0
            · simp (disch := first | omega | (simp (disch := omega) only [u3s, u3n, u3i]; omega)) only [↓rg35 hs, ↓rl35 hs, ↓rs35 hs, ↓rg34 hs, ↓rl34 hs, ↓rs34 hs, ↓rg33 hs, ↓rl33 hs, ↓rs33 hs, ↓rg31 hs, ↓rl31 hs, ↓rs31 hs, ↓rg20 hs, ↓rl20 hs, ↓rs20 hs, ↓rg29 hs, ↓rl29 hs, ↓rs29 hs, ↓rg28 hs, ↓rl28 hs, ↓rs28 hs, ↓r_vK hs, ↓eEq_i, ↓eLt_i, ↓eDiv_i, ↓eRem_i, ↓bI_some, ↓bR_some, ↓bV_some, ↓nN_some, ↓eBo_1, ↓eBo_0, ↓jn_eq, u3s, u3n, u3i, ↓reduceIte, Int.reduceLT, Int.reduceLE, Int.reduceEq, Int.reduceNeg, Int.reduceAdd, Int.reduceSub, Int.reduceMul, Int.reduceMod, Int.reduceDiv, not_true_eq_false, not_false_eq_true, and_self, and_true, true_and, and_false, false_and, or_true, or_false, false_or, true_or, ↓m_core168 hs gC hn 4 FU (Rr 29 (40 * n + Rr 34 n) % 2) 0 (by omega) (by omega) (by unfold FU; omega), ↓b_evict hs gC S hn, a1, a2, a3, a4, s0, a5]
            · simp (disch := first | omega | (simp (disch := omega) only [u3s, u3n, u3i]; omega)) only [↓rg35 hs, ↓rl35 hs, ↓rs35 hs, ↓rg34 hs, ↓rl34 hs, ↓rs34 hs, ↓rg33 hs, ↓rl33 hs, ↓rs33 hs, ↓rg31 hs, ↓rl31 hs, ↓rs31 hs, ↓rg20 hs, ↓rl20 hs, ↓rs20 hs, ↓rg29 hs, ↓rl29 hs, ↓rs29 hs, ↓rg28 hs, ↓rl28 hs, ↓rs28 hs, ↓r_vK hs, ↓eEq_i, ↓eLt_i, ↓eDiv_i, ↓eRem_i, ↓bI_some, ↓bR_some, ↓bV_some, ↓nN_some, ↓eBo_1, ↓eBo_0, ↓jn_eq, u3s, u3n, u3i, ↓reduceIte, Int.reduceLT, Int.reduceLE, Int.reduceEq, Int.reduceNeg, Int.reduceAdd, Int.reduceSub, Int.reduceMul, Int.reduceMod, Int.reduceDiv, not_true_eq_false, not_false_eq_true, and_self, and_true, true_and, and_false, false_and, or_true, or_false, false_or, true_or, ↓m_core168 hs gC hn 4 FU (Rr 29 (40 * n + Rr 34 n) % 2) 0 (by omega) (by omega) (by unfold FU; omega), ↓b_evict hs gC S hn, a1, a2, a3, a4, s0, a5]
          · by_cases a4 : Rr 28 (40 * n + Rr 34 n) = 0
            · simp (disch := first | omega | (simp (disch := omega) only [u3s, u3n, u3i, nSend_n]; omega)) only [↓rg35 hs, ↓rl35 hs, ↓rs35 hs, ↓rg34 hs, ↓rl34 hs, ↓rs34 hs, ↓rg33 hs, ↓rl33 hs, ↓rs33 hs, ↓rg31 hs, ↓rl31 hs, ↓rs31 hs, ↓rg20 hs, ↓rl20 hs, ↓rs20 hs, ↓rg29 hs, ↓rl29 hs, ↓rs29 hs, ↓rg28 hs, ↓rl28 hs, ↓rs28 hs, ↓r_vK hs, ↓eEq_i, ↓eLt_i, ↓eDiv_i, ↓eRem_i, ↓bI_some, ↓bR_some, ↓bV_some, ↓nN_some, ↓eBo_1, ↓eBo_0, ↓jn_eq, u3s, u3n, u3i, ↓reduceIte, Int.reduceLT, Int.reduceLE, Int.reduceEq, Int.reduceNeg, Int.reduceAdd, Int.reduceSub, Int.reduceMul, Int.reduceMod, Int.reduceDiv, not_true_eq_false, not_false_eq_true, and_self, and_true, true_and, and_false, false_and, or_true, or_false, false_or, true_or, ↓m_core168 hs gC hn 4 FU (Rr 29 (40 * n + Rr 34 n) % 2) 0 (by omega) (by omega) (by unfold FU; omega), ↓b_homeOf, ↓b_sendS hs (m0 := 0) S hn, a1, a2, a3, a4, s0, a5]
            · simp (disch := first | omega | (simp (disch := omega) only [u3s, u3n, u3i, nSend_n]; omega)) only [↓rg35 hs, ↓rl35 hs, ↓rs35 hs, ↓rg34 hs, ↓rl34 hs, ↓rs34 hs, ↓rg33 hs, ↓rl33 hs, ↓rs33 hs, ↓rg31 hs, ↓rl31 hs, ↓rs31 hs, ↓rg20 hs, ↓rl20 hs, ↓rs20 hs, ↓rg29 hs, ↓rl29 hs, ↓rs29 hs, ↓rg28 hs, ↓rl28 hs, ↓rs28 hs, ↓r_vK hs, ↓eEq_i, ↓eLt_i, ↓eDiv_i, ↓eRem_i, ↓bI_some, ↓bR_some, ↓bV_some, ↓nN_some, ↓eBo_1, ↓eBo_0, ↓jn_eq, u3s, u3n, u3i, ↓reduceIte, Int.reduceLT, Int.reduceLE, Int.reduceEq, Int.reduceNeg, Int.reduceAdd, Int.reduceSub, Int.reduceMul, Int.reduceMod, Int.reduceDiv, not_true_eq_false, not_false_eq_true, and_self, and_true, true_and, and_false, false_and, or_true, or_false, false_or, true_or, ↓m_core168 hs gC hn 4 FU (Rr 29 (40 * n + Rr 34 n) % 2) 0 (by omega) (by omega) (by unfold FU; omega), ↓b_homeOf, ↓b_sendS hs (m0 := 0) S hn, a1, a2, a3, a4, s0, a5]
        · by_cases a4 : Rr 28 (40 * n + Rr 34 n) = 0
          · simp (disch := first | omega | (simp (disch := omega) only [u3s, u3n, u3i]; omega)) only [↓rg35 hs, ↓rl35 hs, ↓rs35 hs, ↓rg34 hs, ↓rl34 hs, ↓rs34 hs, ↓rg33 hs, ↓rl33 hs, ↓rs33 hs, ↓rg31 hs, ↓rl31 hs, ↓rs31 hs, ↓rg20 hs, ↓rl20 hs, ↓rs20 hs, ↓rg29 hs, ↓rl29 hs, ↓rs29 hs, ↓rg28 hs, ↓rl28 hs, ↓rs28 hs, ↓r_vK hs, ↓eEq_i, ↓eLt_i, ↓eDiv_i, ↓eRem_i, ↓bI_some, ↓bR_some, ↓bV_some, ↓nN_some, ↓eBo_1, ↓eBo_0, ↓jn_eq, u3s, u3n, u3i, ↓reduceIte, Int.reduceLT, Int.reduceLE, Int.reduceEq, Int.reduceNeg, Int.reduceAdd, Int.reduceSub, Int.reduceMul, Int.reduceMod, Int.reduceDiv, not_true_eq_false, not_false_eq_true, and_self, and_true, true_and, and_false, false_and, or_true, or_false, false_or, true_or, a1, a2, a3, a4, s7, s4, s0]
          · simp (disch := first | omega | (simp (disch := omega) only [u3s, u3n, u3i]; omega)) only [↓rg35 hs, ↓rl35 hs, ↓rs35 hs, ↓rg34 hs, ↓rl34 hs, ↓rs34 hs, ↓rg33 hs, ↓rl33 hs, ↓rs33 hs, ↓rg31 hs, ↓rl31 hs, ↓rs31 hs, ↓rg20 hs, ↓rl20 hs, ↓rs20 hs, ↓rg29 hs, ↓rl29 hs, ↓rs29 hs, ↓rg28 hs, ↓rl28 hs, ↓rs28 hs, ↓r_vK hs, ↓eEq_i, ↓eLt_i, ↓eDiv_i, ↓eRem_i, ↓bI_some, ↓bR_some, ↓bV_some, ↓nN_some, ↓eBo_1, ↓eBo_0, ↓jn_eq, u3s, u3n, u3i, ↓reduceIte, Int.reduceLT, Int.reduceLE, Int.reduceEq, Int.reduceNeg, Int.reduceAdd, Int.reduceSub, Int.reduceMul, Int.reduceMod, Int.reduceDiv, not_true_eq_false, not_false_eq_true, and_self, and_true, true_and, and_false, false_and, or_true, or_false, false_or, true_or, a1, a2, a3, a4, s7, s4, s0]
  · simp (disch := first | omega | (simp (disch := omega) only [u3s, u3n, u3i]; omega)) only [↓rg35 hs, ↓rl35 hs, ↓rs35 hs, ↓rg34 hs, ↓rl34 hs, ↓rs34 hs, ↓rg33 hs, ↓rl33 hs, ↓rs33 hs, ↓rg31 hs, ↓rl31 hs, ↓rs31 hs, ↓rg20 hs, ↓rl20 hs, ↓rs20 hs, ↓rg29 hs, ↓rl29 hs, ↓rs29 hs, ↓rg28 hs, ↓rl28 hs, ↓rs28 hs, ↓r_vK hs, ↓eEq_i, ↓eLt_i, ↓eDiv_i, ↓eRem_i, ↓bI_some, ↓bR_some, ↓bV_some, ↓nN_some, ↓eBo_1, ↓eBo_0, ↓jn_eq, u3s, u3n, u3i, ↓reduceIte, Int.reduceLT, Int.reduceLE, Int.reduceEq, Int.reduceNeg, Int.reduceAdd, Int.reduceSub, Int.reduceMul, Int.reduceMod, Int.reduceDiv, not_true_eq_false, not_false_eq_true, and_self, and_true, true_and, and_false, false_and, or_true, or_false, false_or, true_or, a1]
theorem b_core {α : Type} {K : ev_hs → Option α} (hs : shR h c0) (gC : bC Rr) (gO : bO Rr) (gN : bN Rr) (S : sOK Rr 1) {n : Int} (hn : 0 ≤ n ∧ n < 6) : bV (f_Mo_core (some (c0 + 373)) n (vw h c0 Rc Rr)) K = K (vw h c0 Rc (nCore Rr n)) := by rw [m_core hs gC gO gN S hn]; rfl
end RefM9
