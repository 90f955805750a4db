/-! The class's caches and cores: a packet is taken -/
section Cls8
variable {α : Type} {h g : ev_hs} {c0 : Nat} {R T Rr Rc : RS} {F : Int → Int} {D FL : Int}
theorem up3_self {k : Nat} {i : Int} : up3 R k i (R k i) = R := by
  funext a j
  unfold up3
  split
  · rename_i x; rw [x.1, x.2]
  · rfl
theorem c_fin (hs : shC h c0 D FL) {n l : Int} (hn : 0 ≤ n ∧ n < 6) (h34 : 0 ≤ R 34 n ∧ R 34 n < R 33 n ∧ R 33 n ≤ 40) (hk : 0 ≤ R 28 (40 * n + R 34 n) ∧ R 28 (40 * n + R 34 n) ≤ 2) (hl : R 29 (40 * n + R 34 n) = l) (hl8 : 0 ≤ l ∧ l < 8) :
    f_Co_finishPresent (some (qN c0 n 6)) (R 0 2) (vw h c0 (wF R F) Rr) = some (vw h c0 (wF (nFin R n l) (uF F n (R 0 2))) Rr) := by
  have hk2 : R 28 (40 * n + R 34 n) = 0 ∨ R 28 (40 * n + R 34 n) = 1 ∨ R 28 (40 * n + R 34 n) = 2 := by omega
  unfold nFin
  rcases hk2 with e | e | e
  · have e1 : up3 (up3 R 32 (40 * n + R 34 n) (R 21 (8 * n + l))) 21 (8 * n + l) (R 21 (8 * n + l)) = up3 R 32 (40 * n + R 34 n) (R 21 (8 * n + l)) := by
      have := up3_self (R := up3 R 32 (40 * n + R 34 n) (R 21 (8 * n + l))) (k := 21) (i := 8 * n + l)
      rwa [u3n (by omega)] at this
    simp (disch := omega) only [f_Co_finishPresent, ↓ziCo7 hs, ↓zpCo7 hs, ↓ziCo6 hs, ↓zpCo6 hs, ↓ziCo8 hs, ↓zpCo8 hs, ↓zgCo0 hs, ↓zgCa5 hs, ↓zlCa5 hs, ↓zsCa5 hs, ↓zgCa3 hs, ↓zlCa3 hs, ↓zsCa3 hs, ↓zgCo3 hs, ↓zlCo3 hs, ↓zsCo3 hs, ↓zgCo2 hs, ↓zlCo2 hs, ↓zsCo2 hs, ↓zgCo1 hs, ↓zlCo1 hs, ↓zsCo1 hs, ↓zgCo5 hs, ↓zlCo5 hs, ↓zsCo5 hs, ↓eEq_i, ↓eLt_i, ↓eDiv_i, ↓eRem_i, ↓bI_some, ↓bR_some, ↓bV_some, ↓nN_some, ↓eNu_n, ↓eNu_s, ↓eBo_1, ↓eBo_0, ↓jn_eq, u3s, u3n, u3i, ↓reduceIte, Int.reduceLT, Int.reduceLE, Int.reduceEq, Int.reduceNeg, Int.reduceAdd, Int.reduceSub, Int.reduceMul, Int.reduceMod, Int.reduceDiv, not_true_eq_false, not_false_eq_true, and_self, and_true, true_and, and_false, false_and, or_true, or_false, false_or, true_or, e, hl, h34, e1]
  · simp (disch := omega) only [f_Co_finishPresent, ↓ziCo7 hs, ↓zpCo7 hs, ↓ziCo6 hs, ↓zpCo6 hs, ↓ziCo8 hs, ↓zpCo8 hs, ↓zgCo0 hs, ↓zgCa5 hs, ↓zlCa5 hs, ↓zsCa5 hs, ↓zgCa3 hs, ↓zlCa3 hs, ↓zsCa3 hs, ↓zgCo3 hs, ↓zlCo3 hs, ↓zsCo3 hs, ↓zgCo2 hs, ↓zlCo2 hs, ↓zsCo2 hs, ↓zgCo1 hs, ↓zlCo1 hs, ↓zsCo1 hs, ↓zgCo5 hs, ↓zlCo5 hs, ↓zsCo5 hs, ↓eEq_i, ↓eLt_i, ↓eDiv_i, ↓eRem_i, ↓bI_some, ↓bR_some, ↓bV_some, ↓nN_some, ↓eNu_n, ↓eNu_s, ↓eBo_1, ↓eBo_0, ↓jn_eq, u3s, u3n, u3i, ↓reduceIte, Int.reduceLT, Int.reduceLE, Int.reduceEq, Int.reduceNeg, Int.reduceAdd, Int.reduceSub, Int.reduceMul, Int.reduceMod, Int.reduceDiv, not_true_eq_false, not_false_eq_true, and_self, and_true, true_and, and_false, false_and, or_true, or_false, false_or, true_or, e, hl, h34]
  · simp (disch := omega) only [f_Co_finishPresent, ↓ziCo7 hs, ↓zpCo7 hs, ↓ziCo6 hs, ↓zpCo6 hs, ↓ziCo8 hs, ↓zpCo8 hs, ↓zgCo0 hs, ↓zgCa5 hs, ↓zlCa5 hs, ↓zsCa5 hs, ↓zgCa3 hs, ↓zlCa3 hs, ↓zsCa3 hs, ↓zgCo3 hs, ↓zlCo3 hs, ↓zsCo3 hs, ↓zgCo2 hs, ↓zlCo2 hs, ↓zsCo2 hs, ↓zgCo1 hs, ↓zlCo1 hs, ↓zsCo1 hs, ↓zgCo5 hs, ↓zlCo5 hs, ↓zsCo5 hs, ↓eEq_i, ↓eLt_i, ↓eDiv_i, ↓eRem_i, ↓bI_some, ↓bR_some, ↓bV_some, ↓nN_some, ↓eNu_n, ↓eNu_s, ↓eBo_1, ↓eBo_0, ↓jn_eq, u3s, u3n, u3i, ↓reduceIte, Int.reduceLT, Int.reduceLE, Int.reduceEq, Int.reduceNeg, Int.reduceAdd, Int.reduceSub, Int.reduceMul, Int.reduceMod, Int.reduceDiv, not_true_eq_false, not_false_eq_true, and_self, and_true, true_and, and_false, false_and, or_true, or_false, false_or, true_or, e, hl, h34]
theorem c_bec0 (hs : shC h c0 D FL) {n l : Int} (hn : 0 ≤ n ∧ n < 6) (hl : 0 ≤ l ∧ l < 8) : f_Ca_become (some (qN c0 n 1)) l 0 (vw h c0 (wF R F) Rr) = some (vw h c0 (wF (up3 (up3 R 20 (8 * n + l) 0) 21 (8 * n + l) 0) F) Rr) := by
  simp (disch := omega) only [f_Ca_become, ↓zgCa2 hs, ↓zlCa2 hs, ↓zsCa2 hs, ↓zgCa3 hs, ↓zlCa3 hs, ↓zsCa3 hs, ↓eEq_i, ↓eLt_i, ↓eDiv_i, ↓eRem_i, ↓bI_some, ↓bR_some, ↓bV_some, ↓nN_some, ↓eNu_n, ↓eNu_s, ↓eBo_1, ↓eBo_0, ↓jn_eq, u3s, u3n, u3i, ↓reduceIte, Int.reduceLT, Int.reduceLE, Int.reduceEq, Int.reduceNeg, Int.reduceAdd, Int.reduceSub, Int.reduceMul, Int.reduceMod, Int.reduceDiv, not_true_eq_false, not_false_eq_true, and_self, and_true, true_and, and_false, false_and, or_true, or_false, false_or, true_or]
theorem c_bec1 (hs : shC h c0 D FL) {n l s : Int} (hn : 0 ≤ n ∧ n < 6) (hl : 0 ≤ l ∧ l < 8) (h1 : 1 ≤ s ∧ s ≤ 10) : f_Ca_become (some (qN c0 n 1)) l s (vw h c0 (wF R F) Rr) = some (vw h c0 (wF (up3 R 20 (8 * n + l) s) F) Rr) := by
  have h2 : ¬ s = 0 := by omega
  simp (disch := omega) only [f_Ca_become, ↓zgCa2 hs, ↓zlCa2 hs, ↓zsCa2 hs, ↓zgCa3 hs, ↓zlCa3 hs, ↓zsCa3 hs, ↓eEq_i, ↓eLt_i, ↓eDiv_i, ↓eRem_i, ↓bI_some, ↓bR_some, ↓bV_some, ↓nN_some, ↓eNu_n, ↓eNu_s, ↓eBo_1, ↓eBo_0, ↓jn_eq, u3s, u3n, u3i, ↓reduceIte, Int.reduceLT, Int.reduceLE, Int.reduceEq, Int.reduceNeg, Int.reduceAdd, Int.reduceSub, Int.reduceMul, Int.reduceMod, Int.reduceDiv, not_true_eq_false, not_false_eq_true, and_self, and_true, true_and, and_false, false_and, or_true, or_false, false_or, true_or, h2]
theorem t_q {a k : Nat} {z : Int} {K : Int → Option α} (hp : pa h c0 a) (hi : xI h (100 * 10 + k) a = z) : gI (vw h c0 Rc Rr) 10 k (some a) K = K z := by
  rw [t_g9 (c := 10) hp.1 hp.2.1, hi]
theorem t_q0 {a : Nat} {z : Int} {K : Int → Option α} (hp : pa h c0 a) (hi : xI h 1000 a = z) : gI (vw h c0 Rc Rr) 10 0 (some a) K = K z := t_q (k := 0) hp hi
theorem t_q1 {a : Nat} {z : Int} {K : Int → Option α} (hp : pa h c0 a) (hi : xI h 1001 a = z) : gI (vw h c0 Rc Rr) 10 1 (some a) K = K z := t_q (k := 1) hp hi
theorem t_q3 {a : Nat} {z : Int} {K : Int → Option α} (hp : pa h c0 a) (hi : xI h 1003 a = z) : gI (vw h c0 Rc Rr) 10 3 (some a) K = K z := t_q (k := 3) hp hi
theorem t_q4 {a : Nat} {z : Int} {K : Int → Option α} (hp : pa h c0 a) (hi : xI h 1004 a = z) : gI (vw h c0 Rc Rr) 10 4 (some a) K = K z := t_q (k := 4) hp hi
theorem t_q5 {a : Nat} {z : Int} {K : Int → Option α} (hp : pa h c0 a) (hi : xI h 1005 a = z) : gI (vw h c0 Rc Rr) 10 5 (some a) K = K z := t_q (k := 5) hp hi
theorem t_qv {a : Nat} {A : Option α} (hp : pa h c0 a) : vK (vw h c0 Rc Rr) 10 (some a) A = A := y_vK (c := 10) hp.1
theorem xI_e {h' : ev_hs} {f a : Nat} (e : ext h h') (ha : a < xZ h) (h1 : f ≠ 302) (h2 : f ≠ 903) : xI h' f a = xI h f a := e.2.2.2.2.1 f a ha h1 h2
theorem t_isH {a : Nat} {k : Int} (hp : pa h c0 a) (hi : xI h 1000 a = k) (hk : 0 ≤ k ∧ k ≤ 10) {K : Int → ev_hs → Option α} : bI (f_Pa_isForHome (some a) (vw h c0 Rc Rr)) K = K (if k ≤ 3 ∨ k = 10 then 1 else 0) (vw h c0 Rc Rr) := by
  by_cases h1 : 3 < k
  · by_cases h2 : k = 10
    · have h3 : k ≤ 3 ∨ k = 10 := by omega
      simp (disch := omega) only [f_Pa_isForHome, ↓t_q0 hp hi, ↓eEq_i, ↓eLt_i, ↓eDiv_i, ↓eRem_i, ↓bI_some, ↓bR_some, ↓bV_some, ↓nN_some, ↓eNu_n, ↓eNu_s, ↓eBo_1, ↓eBo_0, ↓jn_eq, u3s, u3n, u3i, ↓reduceIte, Int.reduceLT, Int.reduceLE, Int.reduceEq, Int.reduceNeg, Int.reduceAdd, Int.reduceSub, Int.reduceMul, Int.reduceMod, Int.reduceDiv, not_true_eq_false, not_false_eq_true, and_self, and_true, true_and, and_false, false_and, or_true, or_false, false_or, true_or, h1, h2, h3]
    · rw [if_neg (by omega)]
      simp (disch := omega) only [f_Pa_isForHome, ↓t_q0 hp hi, ↓eEq_i, ↓eLt_i, ↓eDiv_i, ↓eRem_i, ↓bI_some, ↓bR_some, ↓bV_some, ↓nN_some, ↓eNu_n, ↓eNu_s, ↓eBo_1, ↓eBo_0, ↓jn_eq, u3s, u3n, u3i, ↓reduceIte, Int.reduceLT, Int.reduceLE, Int.reduceEq, Int.reduceNeg, Int.reduceAdd, Int.reduceSub, Int.reduceMul, Int.reduceMod, Int.reduceDiv, not_true_eq_false, not_false_eq_true, and_self, and_true, true_and, and_false, false_and, or_true, or_false, false_or, true_or, h1, h2]
  · have h3 : k ≤ 3 ∨ k = 10 := by omega
    simp (disch := omega) only [f_Pa_isForHome, ↓t_q0 hp hi, ↓eEq_i, ↓eLt_i, ↓eDiv_i, ↓eRem_i, ↓bI_some, ↓bR_some, ↓bV_some, ↓nN_some, ↓eNu_n, ↓eNu_s, ↓eBo_1, ↓eBo_0, ↓jn_eq, u3s, u3n, u3i, ↓reduceIte, Int.reduceLT, Int.reduceLE, Int.reduceEq, Int.reduceNeg, Int.reduceAdd, Int.reduceSub, Int.reduceMul, Int.reduceMod, Int.reduceDiv, not_true_eq_false, not_false_eq_true, and_self, and_true, true_and, and_false, false_and, or_true, or_false, false_or, true_or, h1, h3]
-- the rests and the class's finishedIn
def fI (R : RS) (F : Int → Int) (k : Int) : Prop := ∀ n, 0 ≤ n → n < 6 → (0 ≤ F n ∧ F n ≤ R 0 2) ∧ (k ≤ n → (R 35 n = 1 ↔ F n = R 0 2) ∧ (R 35 n = 0 ∨ R 35 n = 1))
theorem fI_c {k : Int} (e : T 35 = R 35) (e0 : T 0 2 = R 0 2) (x : fI R F k) : fI T F k := by
  unfold fI at *
  rw [e, e0]
  exact x
theorem fI_b {n : Int} {x : Int} (hn : 0 ≤ n ∧ n < 6) (e : ∀ j, T 35 j = if j = n then 1 else R 35 j) (e0 : T 0 2 = R 0 2) (h2 : 0 ≤ R 0 2) (y : fI R F x) : fI T (uF F n (R 0 2)) x := by
  intro j j0 j1
  have := y j j0 j1
  unfold uF
  rw [e, e0]
  by_cases hj : j = n
  · rw [if_pos hj, if_pos hj]
    exact ⟨by omega, fun _ => ⟨by omega, by omega⟩⟩
  · rw [if_neg hj, if_neg hj]
    exact this
theorem vw_v35 {F : Int → Int} {n z : Int} : vw h c0 (wF (up3 R 35 n z) F) Rr = vw h c0 (wF R F) Rr := vw_vis (fun k i hk => u3n (by unfold vis at hk; simp at hk; omega))
theorem c_data {a : Nat} {n p : Int} {m0 : Nat} (C : cP h c0 R m0) (hp : pa h c0 a) (pk0 : pk h R p a) (hn : 0 ≤ n ∧ n < 6) (hk : R 2 p = 8) (hl : 0 ≤ R 3 p ∧ R 3 p < 8) (h34 : 0 ≤ R 34 n ∧ R 34 n < R 33 n ∧ R 33 n ≤ 40) (h28 : 0 ≤ R 28 (40 * n + R 34 n) ∧ R 28 (40 * n + R 34 n) ≤ 2) (h29 : R 29 (40 * n + R 34 n) = R 3 p) (hst : R 20 (8 * n + R 3 p) = 1 ∨ R 20 (8 * n + R 3 p) = 2 ∨ R 20 (8 * n + R 3 p) = 5) (h22 : -1000 ≤ R 22 (8 * n + R 3 p) ∧ R 22 (8 * n + R 3 p) ≤ 1000) (h8 : 0 ≤ R 8 p ∧ R 8 p ≤ 100) (x : Int) (f0 : fI R F x) (h2 : 0 ≤ R 0 2) :
    ∃ F', f_No_take (some (qN c0 n 0)) (some a) (R 0 2) (vw h c0 (wF R F) Rr) = some (vw h c0 (wF (nDat R n p) F') Rr) ∧ cP h c0 (nDat R n p) m0 ∧ fI (nDat R n p) F' x := by
  have hs := C.1.1
  obtain ⟨k0, k1, k2, k3, k4, k5, k6, k7⟩ := pk0
  have k5' := k5 (by omega)
  have k6' := k6 hk
  rw [hk] at k0
  have key : ∀ s : Int, (∃ F', bI (f_Ca_take (some (qN c0 n 1)) (some a) (vw h c0 (wF R F) Rr)) (fun z5 g4 => eEq z5 0 (some g4) (gR g4 6 4 (some (qN c0 n 0)) (fun q6 => vK g4 8 q6 (bV (f_Co_finishPresent q6 (R 0 2) g4) (fun g7 => some g7))))) = some (vw h c0 (wF (nDat R n p) F') Rr) ∧ cP h c0 (nDat R n p) m0 ∧ fI (nDat R n p) F' x) → ∃ F', f_No_take (some (qN c0 n 0)) (some a) (R 0 2) (vw h c0 (wF R F) Rr) = some (vw h c0 (wF (nDat R n p) F') Rr) ∧ cP h c0 (nDat R n p) m0 ∧ fI (nDat R n p) F' x := by
    rintro s ⟨F', E, y⟩
    refine ⟨F', ?_, y⟩
    rw [← E]
    simp (disch := omega) only [f_No_take, ↓zgNo3 hs, ↓zgNo4 hs, ↓zgNo2 hs, ↓zqHo hs, ↓zvCa hs, ↓zvCo hs, ↓zvHo hs, ↓eEq_i, ↓eLt_i, ↓eDiv_i, ↓eRem_i, ↓bI_some, ↓bR_some, ↓bV_some, ↓nN_some, ↓eNu_n, ↓eNu_s, ↓eBo_1, ↓eBo_0, ↓jn_eq, u3s, u3n, u3i, ↓reduceIte, Int.reduceLT, Int.reduceLE, Int.reduceEq, Int.reduceNeg, Int.reduceAdd, Int.reduceSub, Int.reduceMul, Int.reduceMod, Int.reduceDiv, not_true_eq_false, not_false_eq_true, and_self, and_true, true_and, and_false, false_and, or_true, or_false, false_or, true_or, ↓t_qv hp, ↓t_isH hp k0]
  refine key 0 ?_
  have hB : ∀ s : Int, nBec (up3 (up3 R 22 (8 * n + R 3 p) (R 22 (8 * n + R 3 p) + R 8 p)) 21 (8 * n + R 3 p) (R 7 p)) n (R 3 p) s = up3 (nFin (up3 (up3 (up3 R 22 (8 * n + R 3 p) (R 22 (8 * n + R 3 p) + R 8 p)) 21 (8 * n + R 3 p) (R 7 p)) 20 (8 * n + R 3 p) s) n (R 3 p)) 35 n 1 := fun s => rfl
  have hfin : ∀ s : Int, f_Co_finishPresent (some (qN c0 n 6)) (R 0 2) (vw h c0 (wF (up3 (up3 (up3 R 22 (8 * n + R 3 p) (R 22 (8 * n + R 3 p) + R 8 p)) 21 (8 * n + R 3 p) (R 7 p)) 20 (8 * n + R 3 p) s) F) Rr) = some (vw h c0 (wF (nFin (up3 (up3 (up3 R 22 (8 * n + R 3 p) (R 22 (8 * n + R 3 p) + R 8 p)) 21 (8 * n + R 3 p) (R 7 p)) 20 (8 * n + R 3 p) s) n (R 3 p)) (uF F n (R 0 2))) Rr) := by
    intro s
    have := c_fin (R := up3 (up3 (up3 R 22 (8 * n + R 3 p) (R 22 (8 * n + R 3 p) + R 8 p)) 21 (8 * n + R 3 p) (R 7 p)) 20 (8 * n + R 3 p) s) (F := F) (Rr := Rr) hs (n := n) (l := R 3 p) hn (by simp (disch := omega) only [u3n]; exact h34) (by simp (disch := omega) only [u3n]; exact h28) (by simp (disch := omega) only [u3n]; exact h29) hl
    simpa (disch := omega) only [u3n] using this
  have hcp : ∀ s : Int, cP h c0 (nBec (up3 (up3 R 22 (8 * n + R 3 p) (R 22 (8 * n + R 3 p) + R 8 p)) 21 (8 * n + R 3 p) (R 7 p)) n (R 3 p) s) m0 := fun s => by
    unfold nBec nFin
    exact cP_u (by omega) (cP_u (by omega) (cP_u (by omega) (cP_u (by omega) (cP_u (by omega) (cP_u (by omega) (cP_u (by omega) (cP_u (by omega) C)))))))
  have hfi : ∀ s : Int, fI (nBec (up3 (up3 R 22 (8 * n + R 3 p) (R 22 (8 * n + R 3 p) + R 8 p)) 21 (8 * n + R 3 p) (R 7 p)) n (R 3 p) s) (uF F n (R 0 2)) x := by
    intro s
    refine fI_b hn (fun j => ?_) ?_ h2 f0
    · unfold nBec nFin
      rw [up3_eq]
      simp (disch := omega) only [u3n, true_and]
    · unfold nBec nFin
      simp (disch := omega) only [u3n]
  have fine : ∀ s : Int, (vw h c0 (wF (nBec (up3 (up3 R 22 (8 * n + R 3 p) (R 22 (8 * n + R 3 p) + R 8 p)) 21 (8 * n + R 3 p) (R 7 p)) n (R 3 p) s) (uF F n (R 0 2))) Rr) = vw h c0 (wF (nFin (up3 (up3 (up3 R 22 (8 * n + R 3 p) (R 22 (8 * n + R 3 p) + R 8 p)) 21 (8 * n + R 3 p) (R 7 p)) 20 (8 * n + R 3 p) s) n (R 3 p)) (uF F n (R 0 2))) Rr := fun s => by
    rw [hB]
    exact vw_v35
  unfold nDat
  rcases hst with e | e | e
  · rw [if_pos e]
    refine ⟨uF F n (R 0 2), ?_, hcp 4, hfi 4⟩
    rw [fine]
    by_cases hz : R 22 (8 * n + R 3 p) + R 8 p = 0
    · simp (disch := omega) only [f_Ca_take, f_Ca_takeData, f_No_take, ↓zgCa2 hs, ↓zlCa2 hs, ↓zsCa2 hs, ↓zvCa hs, ↓zgCa4 hs, ↓zlCa4 hs, ↓zsCa4 hs, ↓zgCa3 hs, ↓zlCa3 hs, ↓zsCa3 hs, ↓zgNo3 hs, ↓zgNo4 hs, ↓zgNo2 hs, ↓zqHo hs, ↓zvCo hs, ↓zvHo hs, ↓eEq_i, ↓eLt_i, ↓eDiv_i, ↓eRem_i, ↓bI_some, ↓bR_some, ↓bV_some, ↓nN_some, ↓eNu_n, ↓eNu_s, ↓eBo_1, ↓eBo_0, ↓jn_eq, u3s, u3n, u3i, ↓reduceIte, Int.reduceLT, Int.reduceLE, Int.reduceEq, Int.reduceNeg, Int.reduceAdd, Int.reduceSub, Int.reduceMul, Int.reduceMod, Int.reduceDiv, not_true_eq_false, not_false_eq_true, and_self, and_true, true_and, and_false, false_and, or_true, or_false, false_or, true_or, ↓t_q0 hp k0, ↓t_q1 hp k1, ↓t_q4 hp k5', ↓t_q5 hp k6', e, hz]
      rw [← hz, hfin, bV_some]
    · simp (disch := omega) only [f_Ca_take, f_Ca_takeData, f_No_take, ↓zgCa2 hs, ↓zlCa2 hs, ↓zsCa2 hs, ↓zvCa hs, ↓zgCa4 hs, ↓zlCa4 hs, ↓zsCa4 hs, ↓zgCa3 hs, ↓zlCa3 hs, ↓zsCa3 hs, ↓zgNo3 hs, ↓zgNo4 hs, ↓zgNo2 hs, ↓zqHo hs, ↓zvCo hs, ↓zvHo hs, ↓eEq_i, ↓eLt_i, ↓eDiv_i, ↓eRem_i, ↓bI_some, ↓bR_some, ↓bV_some, ↓nN_some, ↓eNu_n, ↓eNu_s, ↓eBo_1, ↓eBo_0, ↓jn_eq, u3s, u3n, u3i, ↓reduceIte, Int.reduceLT, Int.reduceLE, Int.reduceEq, Int.reduceNeg, Int.reduceAdd, Int.reduceSub, Int.reduceMul, Int.reduceMod, Int.reduceDiv, not_true_eq_false, not_false_eq_true, and_self, and_true, true_and, and_false, false_and, or_true, or_false, false_or, true_or, ↓t_q0 hp k0, ↓t_q1 hp k1, ↓t_q4 hp k5', ↓t_q5 hp k6', e, hz, hfin]
  · rw [if_neg (by omega)]
    by_cases hz : R 22 (8 * n + R 3 p) + R 8 p = 0
    · rw [if_pos hz]
      refine ⟨uF F n (R 0 2), ?_, hcp 7, hfi 7⟩
      rw [fine]
      simp (disch := omega) only [f_Ca_take, f_Ca_takeData, f_No_take, ↓zgCa2 hs, ↓zlCa2 hs, ↓zsCa2 hs, ↓zvCa hs, ↓zgCa4 hs, ↓zlCa4 hs, ↓zsCa4 hs, ↓zgCa3 hs, ↓zlCa3 hs, ↓zsCa3 hs, ↓zgNo3 hs, ↓zgNo4 hs, ↓zgNo2 hs, ↓zqHo hs, ↓zvCo hs, ↓zvHo hs, ↓eEq_i, ↓eLt_i, ↓eDiv_i, ↓eRem_i, ↓bI_some, ↓bR_some, ↓bV_some, ↓nN_some, ↓eNu_n, ↓eNu_s, ↓eBo_1, ↓eBo_0, ↓jn_eq, u3s, u3n, u3i, ↓reduceIte, Int.reduceLT, Int.reduceLE, Int.reduceEq, Int.reduceNeg, Int.reduceAdd, Int.reduceSub, Int.reduceMul, Int.reduceMod, Int.reduceDiv, not_true_eq_false, not_false_eq_true, and_self, and_true, true_and, and_false, false_and, or_true, or_false, false_or, true_or, ↓t_q0 hp k0, ↓t_q1 hp k1, ↓t_q4 hp k5', ↓t_q5 hp k6', e, hz]
      rw [← hz, hfin, bV_some]
    · rw [if_neg hz, if_pos e]
      refine ⟨F, ?_, cP_u (by omega) (cP_u (by omega) (cP_u (by omega) C)), fI_c (by rw [u3f (by omega), u3f (by omega), u3f (by omega)]) (by rw [u3n (by omega), u3n (by omega), u3n (by omega)]) f0⟩
      simp (disch := omega) only [f_Ca_take, f_Ca_takeData, f_No_take, ↓zgCa2 hs, ↓zlCa2 hs, ↓zsCa2 hs, ↓zvCa hs, ↓zgCa4 hs, ↓zlCa4 hs, ↓zsCa4 hs, ↓zgCa3 hs, ↓zlCa3 hs, ↓zsCa3 hs, ↓zgNo3 hs, ↓zgNo4 hs, ↓zgNo2 hs, ↓zqHo hs, ↓zvCo hs, ↓zvHo hs, ↓eEq_i, ↓eLt_i, ↓eDiv_i, ↓eRem_i, ↓bI_some, ↓bR_some, ↓bV_some, ↓nN_some, ↓eNu_n, ↓eNu_s, ↓eBo_1, ↓eBo_0, ↓jn_eq, u3s, u3n, u3i, ↓reduceIte, Int.reduceLT, Int.reduceLE, Int.reduceEq, Int.reduceNeg, Int.reduceAdd, Int.reduceSub, Int.reduceMul, Int.reduceMod, Int.reduceDiv, not_true_eq_false, not_false_eq_true, and_self, and_true, true_and, and_false, false_and, or_true, or_false, false_or, true_or, ↓t_q0 hp k0, ↓t_q1 hp k1, ↓t_q4 hp k5', ↓t_q5 hp k6', e, hz]
  · rw [if_neg (by omega)]
    by_cases hz : R 22 (8 * n + R 3 p) + R 8 p = 0
    · rw [if_pos hz]
      refine ⟨uF F n (R 0 2), ?_, hcp 7, hfi 7⟩
      rw [fine]
      simp (disch := omega) only [f_Ca_take, f_Ca_takeData, f_No_take, ↓zgCa2 hs, ↓zlCa2 hs, ↓zsCa2 hs, ↓zvCa hs, ↓zgCa4 hs, ↓zlCa4 hs, ↓zsCa4 hs, ↓zgCa3 hs, ↓zlCa3 hs, ↓zsCa3 hs, ↓zgNo3 hs, ↓zgNo4 hs, ↓zgNo2 hs, ↓zqHo hs, ↓zvCo hs, ↓zvHo hs, ↓eEq_i, ↓eLt_i, ↓eDiv_i, ↓eRem_i, ↓bI_some, ↓bR_some, ↓bV_some, ↓nN_some, ↓eNu_n, ↓eNu_s, ↓eBo_1, ↓eBo_0, ↓jn_eq, u3s, u3n, u3i, ↓reduceIte, Int.reduceLT, Int.reduceLE, Int.reduceEq, Int.reduceNeg, Int.reduceAdd, Int.reduceSub, Int.reduceMul, Int.reduceMod, Int.reduceDiv, not_true_eq_false, not_false_eq_true, and_self, and_true, true_and, and_false, false_and, or_true, or_false, false_or, true_or, ↓t_q0 hp k0, ↓t_q1 hp k1, ↓t_q4 hp k5', ↓t_q5 hp k6', e, hz]
      rw [← hz, hfin, bV_some]
    · rw [if_neg hz, if_neg (by omega)]
      refine ⟨F, ?_, cP_u (by omega) (cP_u (by omega) (cP_u (by omega) C)), fI_c (by rw [u3f (by omega), u3f (by omega), u3f (by omega)]) (by rw [u3n (by omega), u3n (by omega), u3n (by omega)]) f0⟩
      simp (disch := omega) only [f_Ca_take, f_Ca_takeData, f_No_take, ↓zgCa2 hs, ↓zlCa2 hs, ↓zsCa2 hs, ↓zvCa hs, ↓zgCa4 hs, ↓zlCa4 hs, ↓zsCa4 hs, ↓zgCa3 hs, ↓zlCa3 hs, ↓zsCa3 hs, ↓zgNo3 hs, ↓zgNo4 hs, ↓zgNo2 hs, ↓zqHo hs, ↓zvCo hs, ↓zvHo hs, ↓eEq_i, ↓eLt_i, ↓eDiv_i, ↓eRem_i, ↓bI_some, ↓bR_some, ↓bV_some, ↓nN_some, ↓eNu_n, ↓eNu_s, ↓eBo_1, ↓eBo_0, ↓jn_eq, u3s, u3n, u3i, ↓reduceIte, Int.reduceLT, Int.reduceLE, Int.reduceEq, Int.reduceNeg, Int.reduceAdd, Int.reduceSub, Int.reduceMul, Int.reduceMod, Int.reduceDiv, not_true_eq_false, not_false_eq_true, and_self, and_true, true_and, and_false, false_and, or_true, or_false, false_or, true_or, ↓t_q0 hp k0, ↓t_q1 hp k1, ↓t_q4 hp k5', ↓t_q5 hp k6', e, hz]
theorem c_ack {a : Nat} {n p : Int} {m0 : Nat} (C : cP h c0 R m0) (hp : pa h c0 a) (pk0 : pk h R p a) (hn : 0 ≤ n ∧ n < 6) (hk : R 2 p = 9) (hl : 0 ≤ R 3 p ∧ R 3 p < 8) (h34 : 0 ≤ R 34 n ∧ R 34 n < R 33 n ∧ R 33 n ≤ 40) (h28 : 0 ≤ R 28 (40 * n + R 34 n) ∧ R 28 (40 * n + R 34 n) ≤ 2) (h29 : R 29 (40 * n + R 34 n) = R 3 p) (hst : 0 ≤ R 20 (8 * n + R 3 p) ∧ R 20 (8 * n + R 3 p) ≤ 10) (h22 : -1000 ≤ R 22 (8 * n + R 3 p) ∧ R 22 (8 * n + R 3 p) ≤ 1000) (x : Int) (f0 : fI R F x) (h2 : 0 ≤ R 0 2) :
    ∃ F', f_No_take (some (qN c0 n 0)) (some a) (R 0 2) (vw h c0 (wF R F) Rr) = some (vw h c0 (wF (nAck R n p) F') Rr) ∧ cP h c0 (nAck R n p) m0 ∧ fI (nAck R n p) F' x := by
  have hs := C.1.1
  obtain ⟨k0, k1, k2, k3, k4, k5, k6, k7⟩ := pk0
  rw [hk] at k0
  unfold nAck
  by_cases hc : R 22 (8 * n + R 3 p) - 1 = 0 ∧ (R 20 (8 * n + R 3 p) = 3 ∨ R 20 (8 * n + R 3 p) = 6)
  · rw [if_pos hc]
    have hfin : f_Co_finishPresent (some (qN c0 n 6)) (R 0 2) (vw h c0 (wF (up3 (up3 R 22 (8 * n + R 3 p) (R 22 (8 * n + R 3 p) - 1)) 20 (8 * n + R 3 p) 7) F) Rr) = some (vw h c0 (wF (nFin (up3 (up3 R 22 (8 * n + R 3 p) (R 22 (8 * n + R 3 p) - 1)) 20 (8 * n + R 3 p) 7) n (R 3 p)) (uF F n (R 0 2))) Rr) := by
      have := c_fin (R := up3 (up3 R 22 (8 * n + R 3 p) (R 22 (8 * n + R 3 p) - 1)) 20 (8 * n + R 3 p) 7) (F := F) (Rr := Rr) hs (n := n) (l := R 3 p) hn (by simp (disch := omega) only [u3n]; exact h34) (by simp (disch := omega) only [u3n]; exact h28) (by simp (disch := omega) only [u3n]; exact h29) hl
      simpa (disch := omega) only [u3n] using this
    refine ⟨uF F n (R 0 2), ?_, ?_, ?_⟩
    · unfold nBec
      rw [vw_v35]
      rcases hc.2 with e | e
      · simp (disch := omega) only [f_No_take, f_Ca_take, f_Ca_takeAck, ↓zgNo3 hs, ↓zgNo4 hs, ↓zgNo2 hs, ↓zqHo hs, ↓zvCa hs, ↓zvCo hs, ↓zvHo hs, ↓zgCa2 hs, ↓zlCa2 hs, ↓zsCa2 hs, ↓zgCa4 hs, ↓zlCa4 hs, ↓zsCa4 hs, ↓eEq_i, ↓eLt_i, ↓eDiv_i, ↓eRem_i, ↓bI_some, ↓bR_some, ↓bV_some, ↓nN_some, ↓eNu_n, ↓eNu_s, ↓eBo_1, ↓eBo_0, ↓jn_eq, u3s, u3n, u3i, ↓reduceIte, Int.reduceLT, Int.reduceLE, Int.reduceEq, Int.reduceNeg, Int.reduceAdd, Int.reduceSub, Int.reduceMul, Int.reduceMod, Int.reduceDiv, not_true_eq_false, not_false_eq_true, and_self, and_true, true_and, and_false, false_and, or_true, or_false, false_or, true_or, ↓t_qv hp, ↓t_isH hp k0, ↓t_q0 hp k0, ↓t_q1 hp k1, e, hc.1]
        rw [← hc.1, hfin, bV_some]
      · simp (disch := omega) only [f_No_take, f_Ca_take, f_Ca_takeAck, ↓zgNo3 hs, ↓zgNo4 hs, ↓zgNo2 hs, ↓zqHo hs, ↓zvCa hs, ↓zvCo hs, ↓zvHo hs, ↓zgCa2 hs, ↓zlCa2 hs, ↓zsCa2 hs, ↓zgCa4 hs, ↓zlCa4 hs, ↓zsCa4 hs, ↓eEq_i, ↓eLt_i, ↓eDiv_i, ↓eRem_i, ↓bI_some, ↓bR_some, ↓bV_some, ↓nN_some, ↓eNu_n, ↓eNu_s, ↓eBo_1, ↓eBo_0, ↓jn_eq, u3s, u3n, u3i, ↓reduceIte, Int.reduceLT, Int.reduceLE, Int.reduceEq, Int.reduceNeg, Int.reduceAdd, Int.reduceSub, Int.reduceMul, Int.reduceMod, Int.reduceDiv, not_true_eq_false, not_false_eq_true, and_self, and_true, true_and, and_false, false_and, or_true, or_false, false_or, true_or, ↓t_qv hp, ↓t_isH hp k0, ↓t_q0 hp k0, ↓t_q1 hp k1, e, hc.1]
        rw [← hc.1, hfin, bV_some]
    · unfold nBec nFin
      exact cP_u (by omega) (cP_u (by omega) (cP_u (by omega) (cP_u (by omega) (cP_u (by omega) (cP_u (by omega) (cP_u (by omega) C))))))
    · refine fI_b hn (fun j => ?_) ?_ h2 f0
      · unfold nBec nFin
        rw [up3_eq]
        simp (disch := omega) only [u3n, true_and]
      · unfold nBec nFin
        simp (disch := omega) only [u3n]
  · rw [if_neg hc]
    refine ⟨F, ?_, cP_u (by omega) C, fI_c (u3f (by omega)) (u3n (by omega)) f0⟩
    by_cases e3 : R 20 (8 * n + R 3 p) = 3
    · have hz : ¬ R 22 (8 * n + R 3 p) - 1 = 0 := fun y => hc ⟨y, Or.inl e3⟩
      simp (disch := omega) only [f_No_take, f_Ca_take, f_Ca_takeAck, ↓zgNo3 hs, ↓zgNo4 hs, ↓zgNo2 hs, ↓zqHo hs, ↓zvCa hs, ↓zvCo hs, ↓zvHo hs, ↓zgCa2 hs, ↓zlCa2 hs, ↓zsCa2 hs, ↓zgCa4 hs, ↓zlCa4 hs, ↓zsCa4 hs, ↓eEq_i, ↓eLt_i, ↓eDiv_i, ↓eRem_i, ↓bI_some, ↓bR_some, ↓bV_some, ↓nN_some, ↓eNu_n, ↓eNu_s, ↓eBo_1, ↓eBo_0, ↓jn_eq, u3s, u3n, u3i, ↓reduceIte, Int.reduceLT, Int.reduceLE, Int.reduceEq, Int.reduceNeg, Int.reduceAdd, Int.reduceSub, Int.reduceMul, Int.reduceMod, Int.reduceDiv, not_true_eq_false, not_false_eq_true, and_self, and_true, true_and, and_false, false_and, or_true, or_false, false_or, true_or, ↓t_qv hp, ↓t_isH hp k0, ↓t_q0 hp k0, ↓t_q1 hp k1, e3, hz]
    · by_cases e6 : R 20 (8 * n + R 3 p) = 6
      · have hz : ¬ R 22 (8 * n + R 3 p) - 1 = 0 := fun y => hc ⟨y, Or.inr e6⟩
        simp (disch := omega) only [f_No_take, f_Ca_take, f_Ca_takeAck, ↓zgNo3 hs, ↓zgNo4 hs, ↓zgNo2 hs, ↓zqHo hs, ↓zvCa hs, ↓zvCo hs, ↓zvHo hs, ↓zgCa2 hs, ↓zlCa2 hs, ↓zsCa2 hs, ↓zgCa4 hs, ↓zlCa4 hs, ↓zsCa4 hs, ↓eEq_i, ↓eLt_i, ↓eDiv_i, ↓eRem_i, ↓bI_some, ↓bR_some, ↓bV_some, ↓nN_some, ↓eNu_n, ↓eNu_s, ↓eBo_1, ↓eBo_0, ↓jn_eq, u3s, u3n, u3i, ↓reduceIte, Int.reduceLT, Int.reduceLE, Int.reduceEq, Int.reduceNeg, Int.reduceAdd, Int.reduceSub, Int.reduceMul, Int.reduceMod, Int.reduceDiv, not_true_eq_false, not_false_eq_true, and_self, and_true, true_and, and_false, false_and, or_true, or_false, false_or, true_or, ↓t_qv hp, ↓t_isH hp k0, ↓t_q0 hp k0, ↓t_q1 hp k1, e6, hz]
      · simp (disch := omega) only [f_No_take, f_Ca_take, f_Ca_takeAck, ↓zgNo3 hs, ↓zgNo4 hs, ↓zgNo2 hs, ↓zqHo hs, ↓zvCa hs, ↓zvCo hs, ↓zvHo hs, ↓zgCa2 hs, ↓zlCa2 hs, ↓zsCa2 hs, ↓zgCa4 hs, ↓zlCa4 hs, ↓zsCa4 hs, ↓eEq_i, ↓eLt_i, ↓eDiv_i, ↓eRem_i, ↓bI_some, ↓bR_some, ↓bV_some, ↓nN_some, ↓eNu_n, ↓eNu_s, ↓eBo_1, ↓eBo_0, ↓jn_eq, u3s, u3n, u3i, ↓reduceIte, Int.reduceLT, Int.reduceLE, Int.reduceEq, Int.reduceNeg, Int.reduceAdd, Int.reduceSub, Int.reduceMul, Int.reduceMod, Int.reduceDiv, not_true_eq_false, not_false_eq_true, and_self, and_true, true_and, and_false, false_and, or_true, or_false, false_or, true_or, ↓t_qv hp, ↓t_isH hp k0, ↓t_q0 hp k0, ↓t_q1 hp k1, e3, e6]
theorem c_done {a : Nat} {n p : Int} {m0 : Nat} (C : cP h c0 R m0) (hp : pa h c0 a) (pk0 : pk h R p a) (hn : 0 ≤ n ∧ n < 6) (hk : R 2 p = 7) (hl : 0 ≤ R 3 p ∧ R 3 p < 8) :
    f_No_take (some (qN c0 n 0)) (some a) (R 0 2) (vw h c0 (wF R F) Rr) = some (vw h c0 (wF (up3 (up3 R 20 (8 * n + R 3 p) 0) 21 (8 * n + R 3 p) 0) F) Rr) ∧ cP h c0 (up3 (up3 R 20 (8 * n + R 3 p) 0) 21 (8 * n + R 3 p) 0) m0 := by
  have hs := C.1.1
  obtain ⟨k0, k1, k2, k3, k4, k5, k6, k7⟩ := pk0
  rw [hk] at k0
  refine ⟨?_, cP_u (by omega) (cP_u (by omega) C)⟩
  simp (disch := omega) only [f_No_take, f_Ca_take, ↓zgNo3 hs, ↓zgNo4 hs, ↓zgNo2 hs, ↓zqHo hs, ↓zvCa hs, ↓zvCo hs, ↓zvHo hs, ↓zgCa2 hs, ↓zlCa2 hs, ↓zsCa2 hs, ↓eEq_i, ↓eLt_i, ↓eDiv_i, ↓eRem_i, ↓bI_some, ↓bR_some, ↓bV_some, ↓nN_some, ↓eNu_n, ↓eNu_s, ↓eBo_1, ↓eBo_0, ↓jn_eq, u3s, u3n, u3i, ↓reduceIte, Int.reduceLT, Int.reduceLE, Int.reduceEq, Int.reduceNeg, Int.reduceAdd, Int.reduceSub, Int.reduceMul, Int.reduceMod, Int.reduceDiv, not_true_eq_false, not_false_eq_true, and_self, and_true, true_and, and_false, false_and, or_true, or_false, false_or, true_or, ↓t_qv hp, ↓t_isH hp k0, ↓t_q0 hp k0, ↓t_q1 hp k1, c_bec0 hs]
theorem c_inv {a : Nat} {n p : Int} {m0 : Nat} (C : cP h c0 R (m0 + 1)) (hp : pa h c0 a) (pk0 : pk h R p a) (hn : 0 ≤ n ∧ n < 6) (hk : R 2 p = 6) (hl : 0 ≤ R 3 p ∧ R 3 p < 8) (ht : (nIvl R n p).1 = 1) :
    ∃ h', f_No_take (some (qN c0 n 0)) (some a) (R 0 2) (vw h c0 (wF R F) Rr) = some (vw h' c0 (wF (nIvl R n p).2 F) Rr) ∧ st c0 h R h' (nIvl R n p).2 m0 := by
  have hs := C.1.1
  obtain ⟨k0, k1, k2, k3, k4, k5, k6, k7⟩ := pk0
  have k4' := k4 (by omega) (by omega)
  rw [hk] at k0
  unfold nIvl at ht ⊢
  by_cases e4 : R 20 (8 * n + R 3 p) = 4
  · rw [if_pos e4]
    have C1 : cP h c0 (up3 (up3 R 20 (8 * n + R 3 p) 0) 21 (8 * n + R 3 p) 0) (m0 + 1) := cP_u (by omega) (cP_u (by omega) C)
    obtain ⟨h', E, s⟩ := c_snd (F := F) (Rr := Rr) (n := n) (k := 9) (l := R 3 p) (t := R 6 p) (w := 0) (v := 0) (m := 0) (w' := R 6 p) (v' := 0) (m' := 0) C1 (by omega) (by omega) (by omega) (by omega) (by omega) (by omega)
    refine ⟨h', ?_, st_s (by omega) (st_s (by omega) s)⟩
    simp (disch := omega) only [f_No_take, f_Ca_take, f_Ca_takeInv, ↓zgNo3 hs, ↓zgNo4 hs, ↓zgNo2 hs, ↓zqHo hs, ↓zvCa hs, ↓zvCo hs, ↓zvHo hs, ↓zgCa2 hs, ↓zlCa2 hs, ↓zsCa2 hs, ↓zfCa0 hs, ↓zgCa1 hs, ↓zvMe hs, ↓eEq_i, ↓eLt_i, ↓eDiv_i, ↓eRem_i, ↓bI_some, ↓bR_some, ↓bV_some, ↓nN_some, ↓eNu_n, ↓eNu_s, ↓eBo_1, ↓eBo_0, ↓jn_eq, u3s, u3n, u3i, ↓reduceIte, Int.reduceLT, Int.reduceLE, Int.reduceEq, Int.reduceNeg, Int.reduceAdd, Int.reduceSub, Int.reduceMul, Int.reduceMod, Int.reduceDiv, not_true_eq_false, not_false_eq_true, and_self, and_true, true_and, and_false, false_and, or_true, or_false, false_or, true_or, ↓t_qv hp, ↓t_isH hp k0, ↓t_q0 hp k0, ↓t_q1 hp k1, ↓t_q3 hp k4', c_bec0 hs, e4, E]
  · rw [if_neg e4] at ht ⊢
    by_cases e5 : R 20 (8 * n + R 3 p) = 5
    · rw [if_pos e5]
      have C1 : cP h c0 (up3 R 20 (8 * n + R 3 p) 2) (m0 + 1) := cP_u (by omega) C
      obtain ⟨h', E, s⟩ := c_snd (F := F) (Rr := Rr) (n := n) (k := 9) (l := R 3 p) (t := R 6 p) (w := 0) (v := 0) (m := 0) (w' := R 6 p) (v' := 0) (m' := 0) C1 (by omega) (by omega) (by omega) (by omega) (by omega) (by omega)
      refine ⟨h', ?_, st_s (by omega) s⟩
      simp (disch := omega) only [f_No_take, f_Ca_take, f_Ca_takeInv, ↓zgNo3 hs, ↓zgNo4 hs, ↓zgNo2 hs, ↓zqHo hs, ↓zvCa hs, ↓zvCo hs, ↓zvHo hs, ↓zgCa2 hs, ↓zlCa2 hs, ↓zsCa2 hs, ↓zfCa0 hs, ↓zgCa1 hs, ↓zvMe hs, ↓eEq_i, ↓eLt_i, ↓eDiv_i, ↓eRem_i, ↓bI_some, ↓bR_some, ↓bV_some, ↓nN_some, ↓eNu_n, ↓eNu_s, ↓eBo_1, ↓eBo_0, ↓jn_eq, u3s, u3n, u3i, ↓reduceIte, Int.reduceLT, Int.reduceLE, Int.reduceEq, Int.reduceNeg, Int.reduceAdd, Int.reduceSub, Int.reduceMul, Int.reduceMod, Int.reduceDiv, not_true_eq_false, not_false_eq_true, and_self, and_true, true_and, and_false, false_and, or_true, or_false, false_or, true_or, ↓t_qv hp, ↓t_isH hp k0, ↓t_q0 hp k0, ↓t_q1 hp k1, ↓t_q3 hp k4', c_bec1 hs, e5, E]
    · rw [if_neg e5] at ht ⊢
      by_cases e9 : R 20 (8 * n + R 3 p) = 9
      · rw [if_pos e9]
        have C1 : cP h c0 (up3 R 20 (8 * n + R 3 p) 10) (m0 + 1) := cP_u (by omega) C
        obtain ⟨h', E, s⟩ := c_snd (F := F) (Rr := Rr) (n := n) (k := 9) (l := R 3 p) (t := R 6 p) (w := 0) (v := 0) (m := 0) (w' := R 6 p) (v' := 0) (m' := 0) C1 (by omega) (by omega) (by omega) (by omega) (by omega) (by omega)
        refine ⟨h', ?_, st_s (by omega) s⟩
        simp (disch := omega) only [f_No_take, f_Ca_take, f_Ca_takeInv, ↓zgNo3 hs, ↓zgNo4 hs, ↓zgNo2 hs, ↓zqHo hs, ↓zvCa hs, ↓zvCo hs, ↓zvHo hs, ↓zgCa2 hs, ↓zlCa2 hs, ↓zsCa2 hs, ↓zfCa0 hs, ↓zgCa1 hs, ↓zvMe hs, ↓eEq_i, ↓eLt_i, ↓eDiv_i, ↓eRem_i, ↓bI_some, ↓bR_some, ↓bV_some, ↓nN_some, ↓eNu_n, ↓eNu_s, ↓eBo_1, ↓eBo_0, ↓jn_eq, u3s, u3n, u3i, ↓reduceIte, Int.reduceLT, Int.reduceLE, Int.reduceEq, Int.reduceNeg, Int.reduceAdd, Int.reduceSub, Int.reduceMul, Int.reduceMod, Int.reduceDiv, not_true_eq_false, not_false_eq_true, and_self, and_true, true_and, and_false, false_and, or_true, or_false, false_or, true_or, ↓t_qv hp, ↓t_isH hp k0, ↓t_q0 hp k0, ↓t_q1 hp k1, ↓t_q3 hp k4', c_bec1 hs, e9, E]
      · rw [if_neg e9] at ht
        exact absurd ht (by simp)
theorem c_fwdm {a : Nat} {n p : Int} {m0 : Nat} (C : cP h c0 R (m0 + 1)) (hp : pa h c0 a) (pk0 : pk h R p a) (hn : 0 ≤ n ∧ n < 6) (hk : R 2 p = 5) (hl : 0 ≤ R 3 p ∧ R 3 p < 8) (ht : (nFwdM R n p).1 = 1) :
    ∃ h', f_No_take (some (qN c0 n 0)) (some a) (R 0 2) (vw h c0 (wF R F) Rr) = some (vw h' c0 (wF (nFwdM R n p).2 F) Rr) ∧ st c0 h R h' (nFwdM R n p).2 m0 := by
  have hs := C.1.1
  obtain ⟨k0, k1, k2, k3, k4, k5, k6, k7⟩ := pk0
  have k4' := k4 (by omega) (by omega)
  rw [hk] at k0
  obtain ⟨h', E, s⟩ := c_snd (F := F) (Rr := Rr) (n := n) (k := 8) (l := R 3 p) (t := R 6 p) (w := 0) (v := R 21 (8 * n + R 3 p)) (m := 0) (w' := R 6 p) (v' := R 21 (8 * n + R 3 p)) (m' := 0) C (by omega) (by omega) (by omega) (by omega) (by omega) (by omega)
  have hs1 := st_h s
  have e20 : nSend R n 8 (R 3 p) (R 6 p) 0 (R 21 (8 * n + R 3 p)) 0 20 (8 * n + R 3 p) = R 20 (8 * n + R 3 p) := nSend_n (by omega)
  unfold nFwdM at ht ⊢
  by_cases e7 : R 20 (8 * n + R 3 p) = 7
  · rw [if_pos e7]
    refine ⟨h', ?_, st_u (by omega) (st_u (by omega) s)⟩
    rw [e7] at e20
    simp (disch := omega) only [f_No_take, f_Ca_take, f_Ca_giveData, ↓zgNo3 hs, ↓zgNo4 hs, ↓zgNo2 hs, ↓zqHo hs, ↓zvCa hs, ↓zvCo hs, ↓zvHo hs, ↓zgCa2 hs, ↓zlCa2 hs, ↓zsCa2 hs, ↓zfCa0 hs, ↓zgCa1 hs, ↓zgCa3 hs, ↓zlCa3 hs, ↓zsCa3 hs, ↓zvMe hs, ↓zgNo3 hs1, ↓zgNo4 hs1, ↓zgNo2 hs1, ↓zqHo hs1, ↓zvCa hs1, ↓zvCo hs1, ↓zvHo hs1, ↓zgCa2 hs1, ↓zlCa2 hs1, ↓zsCa2 hs1, ↓zfCa0 hs1, ↓zgCa1 hs1, ↓zgCa3 hs1, ↓zlCa3 hs1, ↓zsCa3 hs1, ↓zvMe hs1, ↓eEq_i, ↓eLt_i, ↓eDiv_i, ↓eRem_i, ↓bI_some, ↓bR_some, ↓bV_some, ↓nN_some, ↓eNu_n, ↓eNu_s, ↓eBo_1, ↓eBo_0, ↓jn_eq, u3s, u3n, u3i, ↓reduceIte, Int.reduceLT, Int.reduceLE, Int.reduceEq, Int.reduceNeg, Int.reduceAdd, Int.reduceSub, Int.reduceMul, Int.reduceMod, Int.reduceDiv, not_true_eq_false, not_false_eq_true, and_self, and_true, true_and, and_false, false_and, or_true, or_false, false_or, true_or, ↓t_qv hp, ↓t_isH hp k0, ↓t_q0 hp k0, ↓t_q1 hp k1, ↓t_q3 hp k4', c_bec0 hs1, E, e20]
  · rw [if_neg e7] at ht ⊢
    by_cases e8 : R 20 (8 * n + R 3 p) = 8
    · rw [if_pos e8]
      refine ⟨h', ?_, st_u (by omega) s⟩
      rw [e8] at e20
      simp (disch := omega) only [f_No_take, f_Ca_take, f_Ca_giveData, ↓zgNo3 hs, ↓zgNo4 hs, ↓zgNo2 hs, ↓zqHo hs, ↓zvCa hs, ↓zvCo hs, ↓zvHo hs, ↓zgCa2 hs, ↓zlCa2 hs, ↓zsCa2 hs, ↓zfCa0 hs, ↓zgCa1 hs, ↓zgCa3 hs, ↓zlCa3 hs, ↓zsCa3 hs, ↓zvMe hs, ↓zgNo3 hs1, ↓zgNo4 hs1, ↓zgNo2 hs1, ↓zqHo hs1, ↓zvCa hs1, ↓zvCo hs1, ↓zvHo hs1, ↓zgCa2 hs1, ↓zlCa2 hs1, ↓zsCa2 hs1, ↓zfCa0 hs1, ↓zgCa1 hs1, ↓zgCa3 hs1, ↓zlCa3 hs1, ↓zsCa3 hs1, ↓zvMe hs1, ↓eEq_i, ↓eLt_i, ↓eDiv_i, ↓eRem_i, ↓bI_some, ↓bR_some, ↓bV_some, ↓nN_some, ↓eNu_n, ↓eNu_s, ↓eBo_1, ↓eBo_0, ↓jn_eq, u3s, u3n, u3i, ↓reduceIte, Int.reduceLT, Int.reduceLE, Int.reduceEq, Int.reduceNeg, Int.reduceAdd, Int.reduceSub, Int.reduceMul, Int.reduceMod, Int.reduceDiv, not_true_eq_false, not_false_eq_true, and_self, and_true, true_and, and_false, false_and, or_true, or_false, false_or, true_or, ↓t_qv hp, ↓t_isH hp k0, ↓t_q0 hp k0, ↓t_q1 hp k1, ↓t_q3 hp k4', c_bec1 hs1, E, e20]
    · rw [if_neg e8] at ht
      exact absurd ht (by simp)
theorem c_fwds {a : Nat} {n p : Int} {m0 : Nat} (C : cP h c0 R (m0 + 1 + 1)) (hp : pa h c0 a) (pk0 : pk h R p a) (hn : 0 ≤ n ∧ n < 6) (hk : R 2 p = 4) (hl : 0 ≤ R 3 p ∧ R 3 p < 8) (ht : (nFwdS R n p).1 = 1) :
    ∃ h', f_No_take (some (qN c0 n 0)) (some a) (R 0 2) (vw h c0 (wF R F) Rr) = some (vw h' c0 (wF (nFwdS R n p).2 F) Rr) ∧ st c0 h R h' (nFwdS R n p).2 m0 := by
  have hs := C.1.1
  obtain ⟨k0, k1, k2, k3, k4, k5, k6, k7⟩ := pk0
  have k4' := k4 (by omega) (by omega)
  rw [hk] at k0
  have key : ∀ z : Int, 1 ≤ z ∧ z ≤ 10 → ∃ h1 h2, f_Me_send (some (c0 + 1)) n 8 (R 3 p) (R 6 p) (R 6 p) (R 21 (8 * n + R 3 p)) 0 (vw h c0 (wF (up3 R 20 (8 * n + R 3 p) z) F) Rr) = some (vw h1 c0 (wF (nSend (up3 R 20 (8 * n + R 3 p) z) n 8 (R 3 p) (R 6 p) 0 (R 21 (8 * n + R 3 p)) 0) F) Rr) ∧ shC h1 c0 (R 0 0) (R 0 1) ∧ f_Me_send (some (c0 + 1)) n 10 (R 3 p) (R 3 p % 6) (R 3 p % 6) (R 21 (8 * n + R 3 p)) 0 (vw h1 c0 (wF (nSend (up3 R 20 (8 * n + R 3 p) z) n 8 (R 3 p) (R 6 p) 0 (R 21 (8 * n + R 3 p)) 0) F) Rr) = some (vw h2 c0 (wF (up3 (nSend (nSend R n 8 (R 3 p) (R 6 p) 0 (R 21 (8 * n + R 3 p)) 0) n 10 (R 3 p) (R 3 p % 6) 0 (R 21 (8 * n + R 3 p)) 0) 20 (8 * n + R 3 p) z) F) Rr) ∧ st c0 h R h2 (up3 (nSend (nSend R n 8 (R 3 p) (R 6 p) 0 (R 21 (8 * n + R 3 p)) 0) n 10 (R 3 p) (R 3 p % 6) 0 (R 21 (8 * n + R 3 p)) 0) 20 (8 * n + R 3 p) z) m0 := by
    intro z hz
    have C1 : cP h c0 (up3 R 20 (8 * n + R 3 p) z) (m0 + 1 + 1) := cP_u (by omega) C
    obtain ⟨h1, E1, s1⟩ := c_snd (F := F) (Rr := Rr) (n := n) (k := 8) (l := R 3 p) (t := R 6 p) (w := 0) (v := R 21 (8 * n + R 3 p)) (m := 0) (w' := R 6 p) (v' := R 21 (8 * n + R 3 p)) (m' := 0) C1 (by omega) (by omega) (by omega) (by omega) (by omega) (by omega)
    obtain ⟨h2, E2, s2⟩ := c_snd (F := F) (Rr := Rr) (n := n) (k := 10) (l := R 3 p) (t := R 3 p % 6) (w := 0) (v := R 21 (8 * n + R 3 p)) (m := 0) (w' := R 3 p % 6) (v' := R 21 (8 * n + R 3 p)) (m' := 0) s1.1 (by omega) (by omega) (by omega) (by omega) (by omega) (by omega)
    have hs1 := st_h s1
    rw [nSend_01 (by omega), nSend_01 (by omega), u3n (by omega), u3n (by omega)] at hs1
    have s3 := st_s (by omega) (st_t s1 s2)
    have em : nSend (nSend (up3 R 20 (8 * n + R 3 p) z) n 8 (R 3 p) (R 6 p) 0 (R 21 (8 * n + R 3 p)) 0) n 10 (R 3 p) (R 3 p % 6) 0 (R 21 (8 * n + R 3 p)) 0 = up3 (nSend (nSend R n 8 (R 3 p) (R 6 p) 0 (R 21 (8 * n + R 3 p)) 0) n 10 (R 3 p) (R 3 p % 6) 0 (R 21 (8 * n + R 3 p)) 0) 20 (8 * n + R 3 p) z := by
      rw [nSend_u (by omega), nSend_u (by omega)]
    rw [em] at E2 s3
    exact ⟨h1, h2, E1, hs1, E2, s3⟩
  have e21 : ∀ z : Int, nSend (up3 R 20 (8 * n + R 3 p) z) n 8 (R 3 p) (R 6 p) 0 (R 21 (8 * n + R 3 p)) 0 21 (8 * n + R 3 p) = R 21 (8 * n + R 3 p) := fun z => by rw [nSend_n (by omega), u3n (by omega)]
  unfold nFwdS at ht ⊢
  by_cases e7 : R 20 (8 * n + R 3 p) = 7
  · rw [if_pos e7]
    obtain ⟨h1, h2, E1, hs1, E2, s⟩ := key 4 (by omega)
    refine ⟨h2, ?_, s⟩
    simp (disch := omega) only [f_No_take, f_Ca_take, f_Ca_giveData, f_ML_homeOf, ↓zgNo3 hs, ↓zgNo4 hs, ↓zgNo2 hs, ↓zqHo hs, ↓zvCa hs, ↓zvCo hs, ↓zvHo hs, ↓zgCa2 hs, ↓zlCa2 hs, ↓zsCa2 hs, ↓zfCa0 hs, ↓zgCa1 hs, ↓zgCa3 hs, ↓zlCa3 hs, ↓zsCa3 hs, ↓zvMe hs, ↓zgNo3 hs1, ↓zgNo4 hs1, ↓zgNo2 hs1, ↓zqHo hs1, ↓zvCa hs1, ↓zvCo hs1, ↓zvHo hs1, ↓zgCa2 hs1, ↓zlCa2 hs1, ↓zsCa2 hs1, ↓zfCa0 hs1, ↓zgCa1 hs1, ↓zgCa3 hs1, ↓zlCa3 hs1, ↓zsCa3 hs1, ↓zvMe hs1, ↓eEq_i, ↓eLt_i, ↓eDiv_i, ↓eRem_i, ↓bI_some, ↓bR_some, ↓bV_some, ↓nN_some, ↓eNu_n, ↓eNu_s, ↓eBo_1, ↓eBo_0, ↓jn_eq, u3s, u3n, u3i, ↓reduceIte, Int.reduceLT, Int.reduceLE, Int.reduceEq, Int.reduceNeg, Int.reduceAdd, Int.reduceSub, Int.reduceMul, Int.reduceMod, Int.reduceDiv, not_true_eq_false, not_false_eq_true, and_self, and_true, true_and, and_false, false_and, or_true, or_false, false_or, true_or, ↓t_qv hp, ↓t_isH hp k0, ↓t_q0 hp k0, ↓t_q1 hp k1, ↓t_q3 hp k4', c_bec1 hs, e7, E1, E2, e21]
  · rw [if_neg e7] at ht ⊢
    by_cases e8 : R 20 (8 * n + R 3 p) = 8
    · rw [if_pos e8]
      obtain ⟨h1, h2, E1, hs1, E2, s⟩ := key 9 (by omega)
      refine ⟨h2, ?_, s⟩
      simp (disch := omega) only [f_No_take, f_Ca_take, f_Ca_giveData, f_ML_homeOf, ↓zgNo3 hs, ↓zgNo4 hs, ↓zgNo2 hs, ↓zqHo hs, ↓zvCa hs, ↓zvCo hs, ↓zvHo hs, ↓zgCa2 hs, ↓zlCa2 hs, ↓zsCa2 hs, ↓zfCa0 hs, ↓zgCa1 hs, ↓zgCa3 hs, ↓zlCa3 hs, ↓zsCa3 hs, ↓zvMe hs, ↓zgNo3 hs1, ↓zgNo4 hs1, ↓zgNo2 hs1, ↓zqHo hs1, ↓zvCa hs1, ↓zvCo hs1, ↓zvHo hs1, ↓zgCa2 hs1, ↓zlCa2 hs1, ↓zsCa2 hs1, ↓zfCa0 hs1, ↓zgCa1 hs1, ↓zgCa3 hs1, ↓zlCa3 hs1, ↓zsCa3 hs1, ↓zvMe hs1, ↓eEq_i, ↓eLt_i, ↓eDiv_i, ↓eRem_i, ↓bI_some, ↓bR_some, ↓bV_some, ↓nN_some, ↓eNu_n, ↓eNu_s, ↓eBo_1, ↓eBo_0, ↓jn_eq, u3s, u3n, u3i, ↓reduceIte, Int.reduceLT, Int.reduceLE, Int.reduceEq, Int.reduceNeg, Int.reduceAdd, Int.reduceSub, Int.reduceMul, Int.reduceMod, Int.reduceDiv, not_true_eq_false, not_false_eq_true, and_self, and_true, true_and, and_false, false_and, or_true, or_false, false_or, true_or, ↓t_qv hp, ↓t_isH hp k0, ↓t_q0 hp k0, ↓t_q1 hp k1, ↓t_q3 hp k4', c_bec1 hs, e8, E1, E2, e21]
    · rw [if_neg e8] at ht
      exact absurd ht (by simp)
end Cls8
