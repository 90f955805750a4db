/-! The class looks for the packet to take, and takes it -/
section Cls10
variable {α : Type} {h g : ev_hs} {c0 : Nat} {R T U Rr Rc : RS} {F : Int → Int} {D FL : Int} {n p : Int} {d : Nat → Int → Nat} {X : Nat → Int → Int → Nat} {Y : Int → Int → Nat}
theorem t_stalls {a : Nat} (hs : shC h c0 D FL) (hp : pa h c0 a) (pk0 : pk h R p a) (hn : 0 ≤ n ∧ n < 6) (hk : 0 ≤ R 2 p ∧ R 2 p ≤ 10) (hl : 0 ≤ R 3 p ∧ R 3 p < 8) (gH : bH R) (gC : bC R) {K : Int → ev_hs → Option α} :
    bI (f_No_stalls (some (qN c0 n 0)) (some a) (vw h c0 (wF R F) Rr)) K = K (if (nTak R n p).1 = 1 then 0 else 1) (vw h c0 (wF R F) Rr) := by
  obtain ⟨k0, k1, k2, k3, k4, k5, k6, k7⟩ := pk0
  have gh := gH (R 3 p) (by omega) (by omega)
  have gc := gC (8 * n + R 3 p) (by omega) (by omega)
  have hh : R 2 p = 0 ∨ R 2 p = 1 ∨ R 2 p = 2 ∨ R 2 p = 3 ∨ R 2 p = 4 ∨ R 2 p = 5 ∨ R 2 p = 6 ∨ R 2 p = 7 ∨ R 2 p = 8 ∨ R 2 p = 9 ∨ R 2 p = 10 := by omega
  have fin : ∀ z w : Int, f_No_stalls (some (qN c0 n 0)) (some a) (vw h c0 (wF R F) Rr) = some (z, vw h c0 (wF R F) Rr) → z = w → bI (f_No_stalls (some (qN c0 n 0)) (some a) (vw h c0 (wF R F) Rr)) K = K w (vw h c0 (wF R F) Rr) := by
    intro z w E e
    rw [E, e]
    rfl
  rcases hh with e | e | e | e | e | e | e | e | e | e | e <;> rw [e] at k0
  · by_cases h3 : R 24 (R 3 p) = 3
    · refine fin 1 _ ?_ ?_
      · simp (disch := omega) only [f_No_stalls, f_Ho_stalls, ↓zgNo3 hs, ↓zgNo2 hs, ↓zqHo hs, ↓zvCa hs, ↓zvHo hs, ↓ziHo3 hs, ↓zpHo3 hs, ↓eEq_i, ↓eLt_i, ↓eDiv_i, ↓eRem_i, ↓bI_some, ↓bR_some, ↓bV_some, ↓nN_some, ↓eNu_n, ↓eNu_s, ↓eBo_1, ↓eBo_0, ↓jn_eq, u3s, u3n, u3i, ↓reduceIte, Int.reduceLT, Int.reduceLE, Int.reduceEq, Int.reduceNeg, Int.reduceAdd, Int.reduceSub, Int.reduceMul, Int.reduceMod, Int.reduceDiv, not_true_eq_false, not_false_eq_true, and_self, and_true, true_and, and_false, false_and, or_true, or_false, false_or, true_or, ↓t_qv hp, ↓t_isH hp k0, ↓t_q0 hp k0, ↓t_q1 hp k1, h3]
      · unfold nTak nGets
        simp [e, h3]
    · refine fin 0 _ ?_ ?_
      · simp (disch := omega) only [f_No_stalls, f_Ho_stalls, ↓zgNo3 hs, ↓zgNo2 hs, ↓zqHo hs, ↓zvCa hs, ↓zvHo hs, ↓ziHo3 hs, ↓zpHo3 hs, ↓eEq_i, ↓eLt_i, ↓eDiv_i, ↓eRem_i, ↓bI_some, ↓bR_some, ↓bV_some, ↓nN_some, ↓eNu_n, ↓eNu_s, ↓eBo_1, ↓eBo_0, ↓jn_eq, u3s, u3n, u3i, ↓reduceIte, Int.reduceLT, Int.reduceLE, Int.reduceEq, Int.reduceNeg, Int.reduceAdd, Int.reduceSub, Int.reduceMul, Int.reduceMod, Int.reduceDiv, not_true_eq_false, not_false_eq_true, and_self, and_true, true_and, and_false, false_and, or_true, or_false, false_or, true_or, ↓t_qv hp, ↓t_isH hp k0, ↓t_q0 hp k0, ↓t_q1 hp k1, h3]
      · unfold nTak nGets
        by_cases h2 : R 24 (R 3 p) = 2 <;> simp [e, h3, h2]
  · by_cases h3 : R 24 (R 3 p) = 3
    · refine fin 1 _ ?_ ?_
      · simp (disch := omega) only [f_No_stalls, f_Ho_stalls, ↓zgNo3 hs, ↓zgNo2 hs, ↓zqHo hs, ↓zvCa hs, ↓zvHo hs, ↓ziHo3 hs, ↓zpHo3 hs, ↓eEq_i, ↓eLt_i, ↓eDiv_i, ↓eRem_i, ↓bI_some, ↓bR_some, ↓bV_some, ↓nN_some, ↓eNu_n, ↓eNu_s, ↓eBo_1, ↓eBo_0, ↓jn_eq, u3s, u3n, u3i, ↓reduceIte, Int.reduceLT, Int.reduceLE, Int.reduceEq, Int.reduceNeg, Int.reduceAdd, Int.reduceSub, Int.reduceMul, Int.reduceMod, Int.reduceDiv, not_true_eq_false, not_false_eq_true, and_self, and_true, true_and, and_false, false_and, or_true, or_false, false_or, true_or, ↓t_qv hp, ↓t_isH hp k0, ↓t_q0 hp k0, ↓t_q1 hp k1, h3]
      · unfold nTak nGetm
        simp [e, h3]
    · refine fin 0 _ ?_ ?_
      · simp (disch := omega) only [f_No_stalls, f_Ho_stalls, ↓zgNo3 hs, ↓zgNo2 hs, ↓zqHo hs, ↓zvCa hs, ↓zvHo hs, ↓ziHo3 hs, ↓zpHo3 hs, ↓eEq_i, ↓eLt_i, ↓eDiv_i, ↓eRem_i, ↓bI_some, ↓bR_some, ↓bV_some, ↓nN_some, ↓eNu_n, ↓eNu_s, ↓eBo_1, ↓eBo_0, ↓jn_eq, u3s, u3n, u3i, ↓reduceIte, Int.reduceLT, Int.reduceLE, Int.reduceEq, Int.reduceNeg, Int.reduceAdd, Int.reduceSub, Int.reduceMul, Int.reduceMod, Int.reduceDiv, not_true_eq_false, not_false_eq_true, and_self, and_true, true_and, and_false, false_and, or_true, or_false, false_or, true_or, ↓t_qv hp, ↓t_isH hp k0, ↓t_q0 hp k0, ↓t_q1 hp k1, h3]
      · unfold nTak nGetm
        by_cases h2 : R 24 (R 3 p) = 2 <;> simp [e, h3, h2]
  · refine fin 0 _ ?_ (by unfold nTak; simp [e])
    by_cases h3 : R 24 (R 3 p) = 3
    · simp (disch := omega) only [f_No_stalls, f_Ho_stalls, ↓zgNo3 hs, ↓zgNo2 hs, ↓zqHo hs, ↓zvCa hs, ↓zvHo hs, ↓ziHo3 hs, ↓zpHo3 hs, ↓eEq_i, ↓eLt_i, ↓eDiv_i, ↓eRem_i, ↓bI_some, ↓bR_some, ↓bV_some, ↓nN_some, ↓eNu_n, ↓eNu_s, ↓eBo_1, ↓eBo_0, ↓jn_eq, u3s, u3n, u3i, ↓reduceIte, Int.reduceLT, Int.reduceLE, Int.reduceEq, Int.reduceNeg, Int.reduceAdd, Int.reduceSub, Int.reduceMul, Int.reduceMod, Int.reduceDiv, not_true_eq_false, not_false_eq_true, and_self, and_true, true_and, and_false, false_and, or_true, or_false, false_or, true_or, ↓t_qv hp, ↓t_isH hp k0, ↓t_q0 hp k0, ↓t_q1 hp k1, h3]
    · simp (disch := omega) only [f_No_stalls, f_Ho_stalls, ↓zgNo3 hs, ↓zgNo2 hs, ↓zqHo hs, ↓zvCa hs, ↓zvHo hs, ↓ziHo3 hs, ↓zpHo3 hs, ↓eEq_i, ↓eLt_i, ↓eDiv_i, ↓eRem_i, ↓bI_some, ↓bR_some, ↓bV_some, ↓nN_some, ↓eNu_n, ↓eNu_s, ↓eBo_1, ↓eBo_0, ↓jn_eq, u3s, u3n, u3i, ↓reduceIte, Int.reduceLT, Int.reduceLE, Int.reduceEq, Int.reduceNeg, Int.reduceAdd, Int.reduceSub, Int.reduceMul, Int.reduceMod, Int.reduceDiv, not_true_eq_false, not_false_eq_true, and_self, and_true, true_and, and_false, false_and, or_true, or_false, false_or, true_or, ↓t_qv hp, ↓t_isH hp k0, ↓t_q0 hp k0, ↓t_q1 hp k1, h3]
  · refine fin 0 _ ?_ (by unfold nTak; simp [e])
    by_cases h3 : R 24 (R 3 p) = 3
    · simp (disch := omega) only [f_No_stalls, f_Ho_stalls, ↓zgNo3 hs, ↓zgNo2 hs, ↓zqHo hs, ↓zvCa hs, ↓zvHo hs, ↓ziHo3 hs, ↓zpHo3 hs, ↓eEq_i, ↓eLt_i, ↓eDiv_i, ↓eRem_i, ↓bI_some, ↓bR_some, ↓bV_some, ↓nN_some, ↓eNu_n, ↓eNu_s, ↓eBo_1, ↓eBo_0, ↓jn_eq, u3s, u3n, u3i, ↓reduceIte, Int.reduceLT, Int.reduceLE, Int.reduceEq, Int.reduceNeg, Int.reduceAdd, Int.reduceSub, Int.reduceMul, Int.reduceMod, Int.reduceDiv, not_true_eq_false, not_false_eq_true, and_self, and_true, true_and, and_false, false_and, or_true, or_false, false_or, true_or, ↓t_qv hp, ↓t_isH hp k0, ↓t_q0 hp k0, ↓t_q1 hp k1, h3]
    · simp (disch := omega) only [f_No_stalls, f_Ho_stalls, ↓zgNo3 hs, ↓zgNo2 hs, ↓zqHo hs, ↓zvCa hs, ↓zvHo hs, ↓ziHo3 hs, ↓zpHo3 hs, ↓eEq_i, ↓eLt_i, ↓eDiv_i, ↓eRem_i, ↓bI_some, ↓bR_some, ↓bV_some, ↓nN_some, ↓eNu_n, ↓eNu_s, ↓eBo_1, ↓eBo_0, ↓jn_eq, u3s, u3n, u3i, ↓reduceIte, Int.reduceLT, Int.reduceLE, Int.reduceEq, Int.reduceNeg, Int.reduceAdd, Int.reduceSub, Int.reduceMul, Int.reduceMod, Int.reduceDiv, not_true_eq_false, not_false_eq_true, and_self, and_true, true_and, and_false, false_and, or_true, or_false, false_or, true_or, ↓t_qv hp, ↓t_isH hp k0, ↓t_q0 hp k0, ↓t_q1 hp k1, h3]
  · by_cases h7 : R 20 (8 * n + R 3 p) = 7
    · refine fin 0 _ ?_ (by unfold nTak nFwdS; simp [e, h7])
      simp (disch := omega) only [f_No_stalls, f_Ca_stalls, ↓zgNo3 hs, ↓zgNo2 hs, ↓zqHo hs, ↓zvCa hs, ↓zvHo hs, ↓zgCa2 hs, ↓zlCa2 hs, ↓zsCa2 hs, ↓eEq_i, ↓eLt_i, ↓eDiv_i, ↓eRem_i, ↓bI_some, ↓bR_some, ↓bV_some, ↓nN_some, ↓eNu_n, ↓eNu_s, ↓eBo_1, ↓eBo_0, ↓jn_eq, u3s, u3n, u3i, ↓reduceIte, Int.reduceLT, Int.reduceLE, Int.reduceEq, Int.reduceNeg, Int.reduceAdd, Int.reduceSub, Int.reduceMul, Int.reduceMod, Int.reduceDiv, not_true_eq_false, not_false_eq_true, and_self, and_true, true_and, and_false, false_and, or_true, or_false, false_or, true_or, ↓t_qv hp, ↓t_isH hp k0, ↓t_q0 hp k0, ↓t_q1 hp k1, h7]
    · by_cases h8 : R 20 (8 * n + R 3 p) = 8
      · refine fin 0 _ ?_ (by unfold nTak nFwdS; simp [e, h8])
        simp (disch := omega) only [f_No_stalls, f_Ca_stalls, ↓zgNo3 hs, ↓zgNo2 hs, ↓zqHo hs, ↓zvCa hs, ↓zvHo hs, ↓zgCa2 hs, ↓zlCa2 hs, ↓zsCa2 hs, ↓eEq_i, ↓eLt_i, ↓eDiv_i, ↓eRem_i, ↓bI_some, ↓bR_some, ↓bV_some, ↓nN_some, ↓eNu_n, ↓eNu_s, ↓eBo_1, ↓eBo_0, ↓jn_eq, u3s, u3n, u3i, ↓reduceIte, Int.reduceLT, Int.reduceLE, Int.reduceEq, Int.reduceNeg, Int.reduceAdd, Int.reduceSub, Int.reduceMul, Int.reduceMod, Int.reduceDiv, not_true_eq_false, not_false_eq_true, and_self, and_true, true_and, and_false, false_and, or_true, or_false, false_or, true_or, ↓t_qv hp, ↓t_isH hp k0, ↓t_q0 hp k0, ↓t_q1 hp k1, h8]
      · refine fin 1 _ ?_ (by unfold nTak nFwdS; simp [e, h7, h8])
        simp (disch := omega) only [f_No_stalls, f_Ca_stalls, ↓zgNo3 hs, ↓zgNo2 hs, ↓zqHo hs, ↓zvCa hs, ↓zvHo hs, ↓zgCa2 hs, ↓zlCa2 hs, ↓zsCa2 hs, ↓eEq_i, ↓eLt_i, ↓eDiv_i, ↓eRem_i, ↓bI_some, ↓bR_some, ↓bV_some, ↓nN_some, ↓eNu_n, ↓eNu_s, ↓eBo_1, ↓eBo_0, ↓jn_eq, u3s, u3n, u3i, ↓reduceIte, Int.reduceLT, Int.reduceLE, Int.reduceEq, Int.reduceNeg, Int.reduceAdd, Int.reduceSub, Int.reduceMul, Int.reduceMod, Int.reduceDiv, not_true_eq_false, not_false_eq_true, and_self, and_true, true_and, and_false, false_and, or_true, or_false, false_or, true_or, ↓t_qv hp, ↓t_isH hp k0, ↓t_q0 hp k0, ↓t_q1 hp k1, h7, h8]
  · by_cases h7 : R 20 (8 * n + R 3 p) = 7
    · refine fin 0 _ ?_ (by unfold nTak nFwdM; simp [e, h7])
      simp (disch := omega) only [f_No_stalls, f_Ca_stalls, ↓zgNo3 hs, ↓zgNo2 hs, ↓zqHo hs, ↓zvCa hs, ↓zvHo hs, ↓zgCa2 hs, ↓zlCa2 hs, ↓zsCa2 hs, ↓eEq_i, ↓eLt_i, ↓eDiv_i, ↓eRem_i, ↓bI_some, ↓bR_some, ↓bV_some, ↓nN_some, ↓eNu_n, ↓eNu_s, ↓eBo_1, ↓eBo_0, ↓jn_eq, u3s, u3n, u3i, ↓reduceIte, Int.reduceLT, Int.reduceLE, Int.reduceEq, Int.reduceNeg, Int.reduceAdd, Int.reduceSub, Int.reduceMul, Int.reduceMod, Int.reduceDiv, not_true_eq_false, not_false_eq_true, and_self, and_true, true_and, and_false, false_and, or_true, or_false, false_or, true_or, ↓t_qv hp, ↓t_isH hp k0, ↓t_q0 hp k0, ↓t_q1 hp k1, h7]
    · by_cases h8 : R 20 (8 * n + R 3 p) = 8
      · refine fin 0 _ ?_ (by unfold nTak nFwdM; simp [e, h8])
        simp (disch := omega) only [f_No_stalls, f_Ca_stalls, ↓zgNo3 hs, ↓zgNo2 hs, ↓zqHo hs, ↓zvCa hs, ↓zvHo hs, ↓zgCa2 hs, ↓zlCa2 hs, ↓zsCa2 hs, ↓eEq_i, ↓eLt_i, ↓eDiv_i, ↓eRem_i, ↓bI_some, ↓bR_some, ↓bV_some, ↓nN_some, ↓eNu_n, ↓eNu_s, ↓eBo_1, ↓eBo_0, ↓jn_eq, u3s, u3n, u3i, ↓reduceIte, Int.reduceLT, Int.reduceLE, Int.reduceEq, Int.reduceNeg, Int.reduceAdd, Int.reduceSub, Int.reduceMul, Int.reduceMod, Int.reduceDiv, not_true_eq_false, not_false_eq_true, and_self, and_true, true_and, and_false, false_and, or_true, or_false, false_or, true_or, ↓t_qv hp, ↓t_isH hp k0, ↓t_q0 hp k0, ↓t_q1 hp k1, h8]
      · refine fin 1 _ ?_ (by unfold nTak nFwdM; simp [e, h7, h8])
        simp (disch := omega) only [f_No_stalls, f_Ca_stalls, ↓zgNo3 hs, ↓zgNo2 hs, ↓zqHo hs, ↓zvCa hs, ↓zvHo hs, ↓zgCa2 hs, ↓zlCa2 hs, ↓zsCa2 hs, ↓eEq_i, ↓eLt_i, ↓eDiv_i, ↓eRem_i, ↓bI_some, ↓bR_some, ↓bV_some, ↓nN_some, ↓eNu_n, ↓eNu_s, ↓eBo_1, ↓eBo_0, ↓jn_eq, u3s, u3n, u3i, ↓reduceIte, Int.reduceLT, Int.reduceLE, Int.reduceEq, Int.reduceNeg, Int.reduceAdd, Int.reduceSub, Int.reduceMul, Int.reduceMod, Int.reduceDiv, not_true_eq_false, not_false_eq_true, and_self, and_true, true_and, and_false, false_and, or_true, or_false, false_or, true_or, ↓t_qv hp, ↓t_isH hp k0, ↓t_q0 hp k0, ↓t_q1 hp k1, h7, h8]
  · by_cases h7 : R 20 (8 * n + R 3 p) = 4
    · refine fin 0 _ ?_ (by unfold nTak nIvl; simp [e, h7])
      simp (disch := omega) only [f_No_stalls, f_Ca_stalls, ↓zgNo3 hs, ↓zgNo2 hs, ↓zqHo hs, ↓zvCa hs, ↓zvHo hs, ↓zgCa2 hs, ↓zlCa2 hs, ↓zsCa2 hs, ↓eEq_i, ↓eLt_i, ↓eDiv_i, ↓eRem_i, ↓bI_some, ↓bR_some, ↓bV_some, ↓nN_some, ↓eNu_n, ↓eNu_s, ↓eBo_1, ↓eBo_0, ↓jn_eq, u3s, u3n, u3i, ↓reduceIte, Int.reduceLT, Int.reduceLE, Int.reduceEq, Int.reduceNeg, Int.reduceAdd, Int.reduceSub, Int.reduceMul, Int.reduceMod, Int.reduceDiv, not_true_eq_false, not_false_eq_true, and_self, and_true, true_and, and_false, false_and, or_true, or_false, false_or, true_or, ↓t_qv hp, ↓t_isH hp k0, ↓t_q0 hp k0, ↓t_q1 hp k1, h7]
    · by_cases h8 : R 20 (8 * n + R 3 p) = 5
      · refine fin 0 _ ?_ (by unfold nTak nIvl; simp [e, h8])
        simp (disch := omega) only [f_No_stalls, f_Ca_stalls, ↓zgNo3 hs, ↓zgNo2 hs, ↓zqHo hs, ↓zvCa hs, ↓zvHo hs, ↓zgCa2 hs, ↓zlCa2 hs, ↓zsCa2 hs, ↓eEq_i, ↓eLt_i, ↓eDiv_i, ↓eRem_i, ↓bI_some, ↓bR_some, ↓bV_some, ↓nN_some, ↓eNu_n, ↓eNu_s, ↓eBo_1, ↓eBo_0, ↓jn_eq, u3s, u3n, u3i, ↓reduceIte, Int.reduceLT, Int.reduceLE, Int.reduceEq, Int.reduceNeg, Int.reduceAdd, Int.reduceSub, Int.reduceMul, Int.reduceMod, Int.reduceDiv, not_true_eq_false, not_false_eq_true, and_self, and_true, true_and, and_false, false_and, or_true, or_false, false_or, true_or, ↓t_qv hp, ↓t_isH hp k0, ↓t_q0 hp k0, ↓t_q1 hp k1, h8]
      · by_cases h9 : R 20 (8 * n + R 3 p) = 9
        · refine fin 0 _ ?_ (by unfold nTak nIvl; simp [e, h9])
          simp (disch := omega) only [f_No_stalls, f_Ca_stalls, ↓zgNo3 hs, ↓zgNo2 hs, ↓zqHo hs, ↓zvCa hs, ↓zvHo hs, ↓zgCa2 hs, ↓zlCa2 hs, ↓zsCa2 hs, ↓eEq_i, ↓eLt_i, ↓eDiv_i, ↓eRem_i, ↓bI_some, ↓bR_some, ↓bV_some, ↓nN_some, ↓eNu_n, ↓eNu_s, ↓eBo_1, ↓eBo_0, ↓jn_eq, u3s, u3n, u3i, ↓reduceIte, Int.reduceLT, Int.reduceLE, Int.reduceEq, Int.reduceNeg, Int.reduceAdd, Int.reduceSub, Int.reduceMul, Int.reduceMod, Int.reduceDiv, not_true_eq_false, not_false_eq_true, and_self, and_true, true_and, and_false, false_and, or_true, or_false, false_or, true_or, ↓t_qv hp, ↓t_isH hp k0, ↓t_q0 hp k0, ↓t_q1 hp k1, h9]
        · refine fin 1 _ ?_ (by unfold nTak nIvl; simp [e, h7, h8, h9])
          simp (disch := omega) only [f_No_stalls, f_Ca_stalls, ↓zgNo3 hs, ↓zgNo2 hs, ↓zqHo hs, ↓zvCa hs, ↓zvHo hs, ↓zgCa2 hs, ↓zlCa2 hs, ↓zsCa2 hs, ↓eEq_i, ↓eLt_i, ↓eDiv_i, ↓eRem_i, ↓bI_some, ↓bR_some, ↓bV_some, ↓nN_some, ↓eNu_n, ↓eNu_s, ↓eBo_1, ↓eBo_0, ↓jn_eq, u3s, u3n, u3i, ↓reduceIte, Int.reduceLT, Int.reduceLE, Int.reduceEq, Int.reduceNeg, Int.reduceAdd, Int.reduceSub, Int.reduceMul, Int.reduceMod, Int.reduceDiv, not_true_eq_false, not_false_eq_true, and_self, and_true, true_and, and_false, false_and, or_true, or_false, false_or, true_or, ↓t_qv hp, ↓t_isH hp k0, ↓t_q0 hp k0, ↓t_q1 hp k1, h7, h8, h9]
  · refine fin 0 _ ?_ (by unfold nTak; simp [e])
    simp (disch := omega) only [f_No_stalls, f_Ca_stalls, ↓zgNo3 hs, ↓zgNo2 hs, ↓zqHo hs, ↓zvCa hs, ↓zvHo hs, ↓zgCa2 hs, ↓zlCa2 hs, ↓zsCa2 hs, ↓eEq_i, ↓eLt_i, ↓eDiv_i, ↓eRem_i, ↓bI_some, ↓bR_some, ↓bV_some, ↓nN_some, ↓eNu_n, ↓eNu_s, ↓eBo_1, ↓eBo_0, ↓jn_eq, u3s, u3n, u3i, ↓reduceIte, Int.reduceLT, Int.reduceLE, Int.reduceEq, Int.reduceNeg, Int.reduceAdd, Int.reduceSub, Int.reduceMul, Int.reduceMod, Int.reduceDiv, not_true_eq_false, not_false_eq_true, and_self, and_true, true_and, and_false, false_and, or_true, or_false, false_or, true_or, ↓t_qv hp, ↓t_isH hp k0, ↓t_q0 hp k0, ↓t_q1 hp k1]
  · refine fin 0 _ ?_ (by unfold nTak; simp [e])
    simp (disch := omega) only [f_No_stalls, f_Ca_stalls, ↓zgNo3 hs, ↓zgNo2 hs, ↓zqHo hs, ↓zvCa hs, ↓zvHo hs, ↓zgCa2 hs, ↓zlCa2 hs, ↓zsCa2 hs, ↓eEq_i, ↓eLt_i, ↓eDiv_i, ↓eRem_i, ↓bI_some, ↓bR_some, ↓bV_some, ↓nN_some, ↓eNu_n, ↓eNu_s, ↓eBo_1, ↓eBo_0, ↓jn_eq, u3s, u3n, u3i, ↓reduceIte, Int.reduceLT, Int.reduceLE, Int.reduceEq, Int.reduceNeg, Int.reduceAdd, Int.reduceSub, Int.reduceMul, Int.reduceMod, Int.reduceDiv, not_true_eq_false, not_false_eq_true, and_self, and_true, true_and, and_false, false_and, or_true, or_false, false_or, true_or, ↓t_qv hp, ↓t_isH hp k0, ↓t_q0 hp k0, ↓t_q1 hp k1]
  · refine fin 0 _ ?_ (by unfold nTak; simp [e])
    simp (disch := omega) only [f_No_stalls, f_Ca_stalls, ↓zgNo3 hs, ↓zgNo2 hs, ↓zqHo hs, ↓zvCa hs, ↓zvHo hs, ↓zgCa2 hs, ↓zlCa2 hs, ↓zsCa2 hs, ↓eEq_i, ↓eLt_i, ↓eDiv_i, ↓eRem_i, ↓bI_some, ↓bR_some, ↓bV_some, ↓nN_some, ↓eNu_n, ↓eNu_s, ↓eBo_1, ↓eBo_0, ↓jn_eq, u3s, u3n, u3i, ↓reduceIte, Int.reduceLT, Int.reduceLE, Int.reduceEq, Int.reduceNeg, Int.reduceAdd, Int.reduceSub, Int.reduceMul, Int.reduceMod, Int.reduceDiv, not_true_eq_false, not_false_eq_true, and_self, and_true, true_and, and_false, false_and, or_true, or_false, false_or, true_or, ↓t_qv hp, ↓t_isH hp k0, ↓t_q0 hp k0, ↓t_q1 hp k1]
  · refine fin 0 _ ?_ (by unfold nTak; simp [e])
    by_cases h3 : R 24 (R 3 p) = 3
    · simp (disch := omega) only [f_No_stalls, f_Ho_stalls, ↓zgNo3 hs, ↓zgNo2 hs, ↓zqHo hs, ↓zvCa hs, ↓zvHo hs, ↓ziHo3 hs, ↓zpHo3 hs, ↓eEq_i, ↓eLt_i, ↓eDiv_i, ↓eRem_i, ↓bI_some, ↓bR_some, ↓bV_some, ↓nN_some, ↓eNu_n, ↓eNu_s, ↓eBo_1, ↓eBo_0, ↓jn_eq, u3s, u3n, u3i, ↓reduceIte, Int.reduceLT, Int.reduceLE, Int.reduceEq, Int.reduceNeg, Int.reduceAdd, Int.reduceSub, Int.reduceMul, Int.reduceMod, Int.reduceDiv, not_true_eq_false, not_false_eq_true, and_self, and_true, true_and, and_false, false_and, or_true, or_false, false_or, true_or, ↓t_qv hp, ↓t_isH hp k0, ↓t_q0 hp k0, ↓t_q1 hp k1, h3]
    · simp (disch := omega) only [f_No_stalls, f_Ho_stalls, ↓zgNo3 hs, ↓zgNo2 hs, ↓zqHo hs, ↓zvCa hs, ↓zvHo hs, ↓ziHo3 hs, ↓zpHo3 hs, ↓eEq_i, ↓eLt_i, ↓eDiv_i, ↓eRem_i, ↓bI_some, ↓bR_some, ↓bV_some, ↓nN_some, ↓eNu_n, ↓eNu_s, ↓eBo_1, ↓eBo_0, ↓jn_eq, u3s, u3n, u3i, ↓reduceIte, Int.reduceLT, Int.reduceLE, Int.reduceEq, Int.reduceNeg, Int.reduceAdd, Int.reduceSub, Int.reduceMul, Int.reduceMod, Int.reduceDiv, not_true_eq_false, not_false_eq_true, and_self, and_true, true_and, and_false, false_and, or_true, or_false, false_or, true_or, ↓t_qv hp, ↓t_isH hp k0, ↓t_q0 hp k0, ↓t_q1 hp k1, h3]
theorem t_get {k : Nat} {n c i : Int} (hs : shC h c0 D FL) (L : lsI h c0 R d X) (hn : 0 ≤ n ∧ n < 6) (hc : 0 ≤ c ∧ c < 3) (hk : k = 1 ∨ k = 2) (hi : 0 ≤ i ∧ i < R (kN k) (3 * n + c)) (hb : R (kN k) (3 * n + c) ≤ 127) {K : Option Nat → ev_hs → Option α} :
    bR (f_AL_get (some (qL c0 n c k)) i (vw h c0 (wF R F) Rr)) K = K (some (X k (3 * n + c) i)) (vw h c0 (wF R F) Rr) := by
  have q0 : 0 ≤ 3 * n + c := by omega
  have q1 : 3 * n + c < 18 := by omega
  obtain ⟨l1, l2, l3⟩ := L k (3 * n + c) hk q0 q1
  have hka : xK h (qL c0 n c k) = 4 := by
    rcases hk with rfl | rfl
    · exact (sC_L hs hn hc).2.2.2.1
    · exact (sC_L hs hn hc).2.2.2.2.1
  have ha : qL c0 n c k = c0 + (3 + 16 * (3 * n + c).toNat + k) := by unfold qL; omega
  have hd := dI_ls hk q0 q1
  have l1' : xR h 300 (qL c0 n c k) = some (d k (3 * n + c)) := l1
  unfold f_AL_get f_Os_checkIndex f_Pr_checkIndex f_AL_elementData
  rw [t_g1 hka ha hd kN_36, jn_eq, eLt_i (by omega) (by omega) (by omega) (by omega), if_neg (by omega), eLt_i (by omega) (by omega) (by omega) (by omega), if_pos (by omega), bI_some, bI_some, t_v hka, t_g0 hka l1']
  rcases l2 with x | x
  · omega
  · rw [y_lQ (m := xL h (d k (3 * n + c))) x.2.2.1 rfl hi.1 (by omega) (l3 i hi.1 hi.2).1, bR_some]
    rfl
theorem t_cc {a : Nat} {A : Option α} (hp : pa h c0 a) : eCc (vw h c0 Rc Rr) 10 (some a) A = A := by
  unfold eCc
  dsimp only
  rw [vv_K, if_pos hp.1]
-- lines before
theorem bit_ln : ∀ x : Nat, x < 256 → ∀ l : Nat, l < 8 → (0 ≤ eAnd (x : Int) (eShl 1 (l : Int)) ∧ eAnd (x : Int) (eShl 1 (l : Int)) < 256) ∧ (0 ≤ eOr (x : Int) (eShl 1 (l : Int)) ∧ eOr (x : Int) (eShl 1 (l : Int)) < 256) ∧ ∀ k : Nat, k < 8 → (eAnd (eOr (x : Int) (eShl 1 (l : Int))) (eShl 1 (k : Int)) = 0 ↔ (eAnd (x : Int) (eShl 1 (k : Int)) = 0 ∧ k ≠ l)) := by decide +kernel
theorem bit_l0 : ∀ k : Nat, k < 8 → eAnd 0 (eShl 1 (k : Int)) = 0 := by decide +kernel
def lbQ (R : RS) (q x i : Int) : Prop := (0 ≤ x ∧ x < 256) ∧ ∀ l, 0 ≤ l → l < 8 → (eAnd x (eShl 1 l) = 0 ↔ ∀ j, 0 ≤ j → j < i → R 3 (R 12 (128 * q + j)) ≠ l)
theorem lbQ_0 {q : Int} : lbQ R q 0 0 := by
  refine ⟨by omega, fun l l0 l1 => ?_⟩
  obtain ⟨k, rfl⟩ := Int.eq_ofNat_of_zero_le l0
  exact ⟨fun _ j j0 j1 => by omega, fun _ => bit_l0 k (by omega)⟩
theorem lbQ_s {q x i l : Int} (H : lbQ R q x i) (hi : 0 ≤ i) (hl : R 3 (R 12 (128 * q + i)) = l) (l0 : 0 ≤ l ∧ l < 8) : lbQ R q (eOr x (eShl 1 l)) (i + 1) := by
  obtain ⟨⟨x0, x1⟩, H⟩ := H
  obtain ⟨xn, rfl⟩ := Int.eq_ofNat_of_zero_le x0
  obtain ⟨ln, rfl⟩ := Int.eq_ofNat_of_zero_le l0.1
  obtain ⟨b1, b2, b3⟩ := bit_ln xn (by omega) ln (by omega)
  refine ⟨b2, fun l l0 l1 => ?_⟩
  obtain ⟨k, rfl⟩ := Int.eq_ofNat_of_zero_le l0
  rw [b3 k (by omega), H k (by omega) (by omega)]
  constructor
  · rintro ⟨y1, y2⟩ j j0 j1
    by_cases hj : j = i
    · rw [hj, hl]
      omega
    · exact y1 j j0 (by omega)
  · intro y
    refine ⟨fun j j0 j1 => y j j0 (by omega), fun e => ?_⟩
    have := y i hi (by omega)
    rw [hl, e] at this
    exact this rfl
theorem nBk_iff {q pl : Int} : ∀ (f : Nat) (k b : Int), (b = 0 ∨ b = 1) → (nBk R q pl f k b = 0 ↔ (b = 0 ∧ ∀ j, k ≤ j → j < k + f → R 3 (R 12 (128 * q + j)) ≠ R 3 (R 12 (128 * q + pl)))) := by
  intro f
  induction f with
  | zero =>
    intro k b hb
    unfold nBk
    exact ⟨fun e => ⟨e, fun j h1 h2 => by omega⟩, fun e => e.1⟩
  | succ f ih =>
    intro k b hb
    unfold nBk
    rw [ih _ _ (by split <;> (try split) <;> simp)]
    by_cases h0 : b = 0
    · rw [if_pos h0]
      by_cases h1 : R 3 (R 12 (128 * q + k)) = R 3 (R 12 (128 * q + pl))
      · rw [if_pos h1]
        constructor
        · rintro ⟨y, -⟩
          omega
        · rintro ⟨-, y⟩
          exact absurd h1 (y k (by omega) (by omega))
      · rw [if_neg h1]
        constructor
        · rintro ⟨-, y⟩
          refine ⟨h0, fun j j0 j1 => ?_⟩
          by_cases hj : j = k
          · rw [hj]; exact h1
          · exact y j (by omega) (by omega)
        · rintro ⟨-, y⟩
          exact ⟨rfl, fun j j0 j1 => y j (by omega) (by omega)⟩
    · rw [if_neg h0]
      constructor
      · rintro ⟨y, -⟩
        omega
      · rintro ⟨y, -⟩
        exact absurd y h0
theorem nBh_iff {q t : Int} (ht : 0 ≤ t) : nBh R q t = 0 ↔ ∀ j, 0 ≤ j → j < t → R 3 (R 12 (128 * q + j)) ≠ R 3 (R 12 (128 * q + t)) := by
  unfold nBh
  rw [nBk_iff _ _ _ (Or.inl rfl)]
  constructor
  · rintro ⟨-, y⟩ j j0 j1
    exact y j j0 (by omega)
  · intro y
    exact ⟨rfl, fun j j0 j1 => y j j0 (by omega)⟩
theorem c_first {n c : Int} (hs : shC h c0 D FL) (L : lsI h c0 R d X) (P : plI h R X) (hn : 0 ≤ n ∧ n < 6) (hc : 0 ≤ c ∧ c < 3) (hb : 0 ≤ R 13 (3 * n + c) ∧ R 13 (3 * n + c) ≤ 127) (gH : bH R) (gC : bC R) (hr : ∀ i, 0 ≤ i → i < R 13 (3 * n + c) → (0 ≤ R 2 (R 12 (128 * (3 * n + c) + i)) ∧ R 2 (R 12 (128 * (3 * n + c) + i)) ≤ 10) ∧ (0 ≤ R 3 (R 12 (128 * (3 * n + c) + i)) ∧ R 3 (R 12 (128 * (3 * n + c) + i)) < 8)) :
    ∀ (m fu : Nat) (i x : Int), 0 ≤ i → i + m = R 13 (3 * n + c) → lbQ R (3 * n + c) x i → m < fu → ∃ z, f_No_firstToTake_10 fu (some (qN c0 n 0)) (some (qL c0 n c 2)) x (R 13 (3 * n + c)) i (vw h c0 (wF R F) Rr) = some (z, vw h c0 (wF R F) Rr) ∧ ((z = -1 ∧ ∀ j, i ≤ j → j < R 13 (3 * n + c) → ¬ (nBh R (3 * n + c) j = 0 ∧ (nTak R n (R 12 (128 * (3 * n + c) + j))).1 = 1)) ∨ (i ≤ z ∧ z < R 13 (3 * n + c) ∧ (nBh R (3 * n + c) z = 0 ∧ (nTak R n (R 12 (128 * (3 * n + c) + z))).1 = 1) ∧ ∀ j, i ≤ j → j < z → ¬ (nBh R (3 * n + c) j = 0 ∧ (nTak R n (R 12 (128 * (3 * n + c) + j))).1 = 1))) := by
  intro m
  induction m with
  | zero =>
    intro fu i x i0 i1 Q hf
    obtain ⟨fu, rfl⟩ : ∃ f2, fu = f2 + 1 := ⟨fu - 1, by omega⟩
    refine ⟨-1, ?_, Or.inl ⟨rfl, fun j j0 j1 => by omega⟩⟩
    unfold f_No_firstToTake_10
    rw [eLt_i (by omega) (by omega) (by omega) (by omega), if_neg (by omega)]
  | succ m ih =>
    intro fu i x i0 i1 Q hf
    obtain ⟨fu, rfl⟩ : ∃ f2, fu = f2 + 1 := ⟨fu - 1, by omega⟩
    have hi : i < R 13 (3 * n + c) := by omega
    obtain ⟨r1, r2⟩ := hr i i0 hi
    obtain ⟨p1, p2⟩ := (L 2 (3 * n + c) (Or.inr rfl) (by omega) (by omega)).2.2 i i0 hi
    have pk1 : pk h R (R 12 (128 * (3 * n + c) + i)) (X 2 (3 * n + c) i) := P 2 (3 * n + c) i (Or.inr rfl) (by omega) (by omega) i0 hi
    have k1 := pk1.2.1
    have hq := Q.2 _ r2.1 r2.2
    obtain ⟨xn, hx⟩ := Int.eq_ofNat_of_zero_le Q.1.1
    obtain ⟨ln, hln⟩ := Int.eq_ofNat_of_zero_le r2.1
    have hb1 := (bit_ln xn (by have := Q.1.2; omega) ln (by omega)).1
    rw [← hx, ← hln] at hb1
    have Q2 := lbQ_s Q i0 rfl r2
    obtain ⟨z, E, hz⟩ := ih fu (i + 1) _ (by omega) (by omega) Q2 (by omega)
    have ng : ¬ (nBh R (3 * n + c) i = 0 ∧ (nTak R n (R 12 (128 * (3 * n + c) + i))).1 = 1) → ((z = -1 ∧ ∀ j, i ≤ j → j < R 13 (3 * n + c) → ¬ (nBh R (3 * n + c) j = 0 ∧ (nTak R n (R 12 (128 * (3 * n + c) + j))).1 = 1)) ∨ (i ≤ z ∧ z < R 13 (3 * n + c) ∧ (nBh R (3 * n + c) z = 0 ∧ (nTak R n (R 12 (128 * (3 * n + c) + z))).1 = 1) ∧ ∀ j, i ≤ j → j < z → ¬ (nBh R (3 * n + c) j = 0 ∧ (nTak R n (R 12 (128 * (3 * n + c) + j))).1 = 1))) := by
      intro hh
      rcases hz with ⟨y1, y2⟩ | ⟨y1, y2, y3, y4⟩
      · refine Or.inl ⟨y1, fun j j0 j1 => ?_⟩
        by_cases hj : j = i
        · rw [hj]; exact hh
        · exact y2 j (by omega) j1
      · refine Or.inr ⟨by omega, y2, y3, fun j j0 j1 => ?_⟩
        by_cases hj : j = i
        · rw [hj]; exact hh
        · exact y4 j (by omega) j1
    unfold f_No_firstToTake_10
    rw [eLt_i (by omega) (by omega) (by omega) (by omega), if_pos (by omega), jn_eq, zvALb hs hn hc, t_get hs L hn hc (Or.inr rfl) ⟨i0, hi⟩ hb.2, t_cc p2, t_q1 p2 k1, eEq_i (by omega) (by omega) (by omega) (by omega)]
    by_cases h0 : eAnd x (eShl 1 (R 3 (R 12 (128 * (3 * n + c) + i)))) = 0
    · rw [if_pos h0, zvNo hs hn, t_stalls hs p2 pk1 hn r1 r2 gH gC]
      have hbh : nBh R (3 * n + c) i = 0 := (nBh_iff i0).mpr (hq.mp h0)
      by_cases ht : (nTak R n (R 12 (128 * (3 * n + c) + i))).1 = 1
      · rw [if_pos ht, eEq_i (by omega) (by omega) (by omega) (by omega), if_pos rfl]
        exact ⟨i, rfl, Or.inr ⟨by omega, hi, ⟨hbh, ht⟩, fun j j0 j1 => by omega⟩⟩
      · rw [if_neg ht, eEq_i (by omega) (by omega) (by omega) (by omega), if_neg (by omega)]
        exact ⟨z, E, ng (fun y => ht y.2)⟩
    · rw [if_neg h0]
      exact ⟨z, E, ng (fun y => h0 (hq.mpr ((nBh_iff i0).mp y.1)))⟩
end Cls10
