/-! The class's face -/
section Cls20
variable {α : Type} {h g : ev_hs} {c0 : Nat} {R T U Rr Rc : RS} {F : Int → Int} {D FL : Int} {n o c p x : Int}
theorem t_below {z e : Int} (hz : oK z) (he : 0 ≤ e ∧ e ≤ 1000) {K : Int → ev_hs → Option α} : bI (f_ML_isBelow z e g) K = if 0 ≤ z ∧ z < e then K 1 g else K 0 g := by
  unfold oK at hz
  simp (disch := omega) only [f_ML_isBelow, ↓eLt_i, ↓jn_eq]
  by_cases h1 : z < 0
  · rw [if_pos h1, if_neg (by omega)]; rfl
  · by_cases h2 : z < e
    · rw [if_neg h1, if_pos h2, if_pos (by omega)]; rfl
    · rw [if_neg h1, if_neg h2, if_neg (by omega)]; rfl
theorem e10 {A B : Option α} : eEq 1 0 A B = B := by rw [eEq_i (by omega) (by omega) (by omega) (by omega), if_neg (by omega)]
theorem e00 {A B : Option α} : eEq 0 0 A B = A := by rw [eEq_i (by omega) (by omega) (by omega) (by omega), if_pos rfl]
theorem c_oper (C : cR h c0 R) (gN : bN R) {n k l v d : Int} (i1 : oK n) (i2 : oK k) (i3 : oK l) (i5 : oK d) : f_ML_operation (some c0) n k l v d (vw h c0 (wF R F) Rr) = some ((nOper R n k l v d).1, vw h c0 (wF (nOper R n k l v d).2 F) Rr) ∧ cR h c0 (nOper R n k l v d).2 := by
  have hs := C.1
  unfold f_ML_operation nOper
  rw [jn_eq, t_below i1 (by omega)]
  by_cases a1 : 0 ≤ n ∧ n < 6
  · have g1 := gN n a1.1 a1.2
    rw [if_pos a1, e10, t_below i2 (by omega)]
    by_cases a2 : 0 ≤ k ∧ k < 3
    · rw [if_pos a2, e10, t_below i3 (by omega)]
      by_cases a3 : 0 ≤ l ∧ l < 8
      · rw [if_pos a3, e10, t_below i5 (by omega)]
        by_cases a4 : 0 ≤ d ∧ d < 51
        · rw [if_pos a4, e10, zgML2 hs, zqNo hs a1, zgNo4 hs a1, zvCo hs a1]
          by_cases a5 : R 33 n = 40
          · rw [if_neg (by omega)]
            refine ⟨?_, C⟩
            have h5 : ¬ R 33 n < 40 := by omega
            simp (disch := omega) only [f_Co_append, ↓ziCo6 hs, ↓zpCo6 hs, ↓zgCo1 hs, ↓zlCo1 hs, ↓zsCo1 hs, ↓zgCo2 hs, ↓zlCo2 hs, ↓zsCo2 hs, ↓zgCo3 hs, ↓zlCo3 hs, ↓zsCo3 hs, ↓zgCo4 hs, ↓zlCo4 hs, ↓zsCo4 hs, ↓eEq_i, ↓eLt_i, ↓eDiv_i, ↓eRem_i, ↓bI_some, ↓bR_some, ↓bV_some, ↓nN_some, ↓eNu_n, ↓eNu_s, ↓eBo_1, ↓eBo_0, ↓jn_eq, u3s, u3n, u3i, ↓reduceIte, Int.reduceLT, Int.reduceLE, Int.reduceEq, Int.reduceNeg, Int.reduceAdd, Int.reduceSub, Int.reduceMul, Int.reduceMod, Int.reduceDiv, not_true_eq_false, not_false_eq_true, and_self, and_true, true_and, and_false, false_and, or_true, or_false, false_or, true_or, h5]
          · rw [if_pos (by omega)]
            refine ⟨?_, cR_c (fun a h1 h2 _ => by simp (disch := omega) only [u3f]) (by simp (disch := omega) only [u3n]) (by simp (disch := omega) only [u3n]) C⟩
            have h5 : R 33 n < 40 := by omega
            simp (disch := omega) only [f_Co_append, ↓ziCo6 hs, ↓zpCo6 hs, ↓zgCo1 hs, ↓zlCo1 hs, ↓zsCo1 hs, ↓zgCo2 hs, ↓zlCo2 hs, ↓zsCo2 hs, ↓zgCo3 hs, ↓zlCo3 hs, ↓zsCo3 hs, ↓zgCo4 hs, ↓zlCo4 hs, ↓zsCo4 hs, ↓eEq_i, ↓eLt_i, ↓eDiv_i, ↓eRem_i, ↓bI_some, ↓bR_some, ↓bV_some, ↓nN_some, ↓eNu_n, ↓eNu_s, ↓eBo_1, ↓eBo_0, ↓jn_eq, u3s, u3n, u3i, ↓reduceIte, Int.reduceLT, Int.reduceLE, Int.reduceEq, Int.reduceNeg, Int.reduceAdd, Int.reduceSub, Int.reduceMul, Int.reduceMod, Int.reduceDiv, not_true_eq_false, not_false_eq_true, and_self, and_true, true_and, and_false, false_and, or_true, or_false, false_or, true_or, h5, Int.add_sub_cancel]
        · rw [if_neg a4, e00, if_neg (by omega)]
          exact ⟨rfl, C⟩
      · rw [if_neg a3, e00, if_neg (by omega)]
        exact ⟨rfl, C⟩
    · rw [if_neg a2, e00, if_neg (by omega)]
      exact ⟨rfl, C⟩
  · rw [if_neg a1, e00, if_neg (by omega)]
    exact ⟨rfl, C⟩
theorem c_result (C : cR h c0 R) (gN : bN R) {n k : Int} (i1 : oK n) (i2 : oK k) : f_ML_result (some c0) n k (vw h c0 (wF R F) Rr) = some (nRes R n k, vw h c0 (wF R F) Rr) := by
  have hs := C.1
  unfold f_ML_result nRes
  rw [t_below i1 (by omega)]
  by_cases a1 : 0 ≤ n ∧ n < 6
  · have g1 := gN n a1.1 a1.2
    rw [if_pos a1, e10, jn_eq, zgML2 hs, zqNo hs a1, zgNo4 hs a1, ziCo7 hs a1, t_below i2 (by omega)]
    by_cases a2 : 0 ≤ k ∧ k < R 34 n
    · rw [if_pos a2, e10, zgCo5 hs a1, zlCo5 hs a1 (j := k) (by omega), if_pos (by omega)]
    · rw [if_neg a2, e00, if_neg (by omega)]
  · rw [if_neg a1, e00, if_neg (by omega)]
theorem c_doneF (C : cR h c0 R) {n : Int} (i1 : oK n) : f_ML_done (some c0) n (vw h c0 (wF R F) Rr) = some (nDone R n, vw h c0 (wF R F) Rr) := by
  have hs := C.1
  unfold f_ML_done nDone
  rw [jn_eq, t_below i1 (by omega)]
  by_cases a1 : 0 ≤ n ∧ n < 6
  · rw [if_pos a1, e10, if_pos a1, zgML2 hs, zqNo hs a1, zgNo4 hs a1, ziCo7 hs a1]
  · rw [if_neg a1, e00, if_neg a1]
theorem c_cache (C : cR h c0 R) {n l w : Int} (i1 : oK n) (i2 : oK l) (i3 : oK w) : f_ML_cache (some c0) n l w (vw h c0 (wF R F) Rr) = some (nCache R n l w, vw h c0 (wF R F) Rr) := by
  have hs := C.1
  unfold oK at i3
  unfold f_ML_cache nCache
  rw [jn_eq, t_below i1 (by omega)]
  by_cases a1 : 0 ≤ n ∧ n < 6
  · rw [if_pos a1, e10, t_below i2 (by omega)]
    by_cases a2 : 0 ≤ l ∧ l < 8
    · rw [if_pos a2, e10, if_pos (by omega), zgML2 hs, zqNo hs a1, zgNo3 hs a1, eEq_i (by omega) (by omega) (by omega) (by omega)]
      by_cases w0 : w = 0
      · rw [if_pos w0, if_pos w0, zgCa2 hs a1, zlCa2 hs a1 a2]
      rw [if_neg w0, if_neg w0, eEq_i (by omega) (by omega) (by omega) (by omega)]
      by_cases w1 : w = 1
      · rw [if_pos w1, if_pos w1, zgCa3 hs a1, zlCa3 hs a1 a2]
      rw [if_neg w1, if_neg w1, eEq_i (by omega) (by omega) (by omega) (by omega)]
      by_cases w2 : w = 2
      · rw [if_pos w2, if_pos w2, zgCa4 hs a1, zlCa4 hs a1 a2]
      rw [if_neg w2, if_neg w2, eEq_i (by omega) (by omega) (by omega) (by omega)]
      by_cases w3 : w = 3
      · rw [if_pos w3, if_pos w3, zgCa5 hs a1, zlCa5 hs a1 a2]
      rw [if_neg w3, if_neg w3]
    · rw [if_neg a2, e00, if_neg (by omega)]
  · rw [if_neg a1, e00, if_neg (by omega)]
theorem c_home (C : cR h c0 R) (gH : bH R) {l w : Int} (i2 : oK l) (i3 : oK w) : f_ML_home (some c0) l w (vw h c0 (wF R F) Rr) = some (nHome R l w, vw h c0 (wF R F) Rr) := by
  have hs := C.1
  unfold oK at i3
  unfold f_ML_home nHome
  rw [t_below i2 (by omega)]
  by_cases a2 : 0 ≤ l ∧ l < 8
  · have g := gH l a2.1 a2.2
    rw [if_pos a2, e10, if_pos a2, zgML1 hs, zqHo hs a2, eEq_i (by omega) (by omega) (by omega) (by omega)]
    by_cases w0 : w = 0
    · rw [if_pos w0, if_pos w0, ziHo3 hs a2]
    rw [if_neg w0, if_neg w0, eEq_i (by omega) (by omega) (by omega) (by omega)]
    by_cases w1 : w = 1
    · rw [if_pos w1, if_pos w1, ziHo6 hs a2]
    rw [if_neg w1, if_neg w1, eEq_i (by omega) (by omega) (by omega) (by omega)]
    by_cases w2 : w = 2
    · rw [if_pos w2, if_pos w2, jn_eq, ziHo4 hs a2, eEq_i (by omega) (by omega) (by omega) (by omega)]
      by_cases e : R 26 l = -1
      · rw [if_pos e, e]
        rfl
      · rw [if_neg e, ziHo4 hs a2]
    rw [if_neg w2, if_neg w2, eEq_i (by omega) (by omega) (by omega) (by omega)]
    by_cases w3 : w = 3
    · rw [if_pos w3, if_pos w3, ziHo5 hs a2]
    rw [if_neg w3, if_neg w3]
  · rw [if_neg a2, e00, if_neg a2]
theorem c_buffer (C : cR h c0 R) {n p c : Int} (i1 : oK n) (i2 : oK p) (i3 : oK c) : f_ML_buffer (some c0) n p c (vw h c0 (wF R F) Rr) = some (nBuf R n p c, vw h c0 (wF R F) Rr) := by
  have hs := C.1
  unfold f_ML_buffer nBuf
  rw [jn_eq, t_below i1 (by omega)]
  by_cases a1 : 0 ≤ n ∧ n < 6
  · rw [if_pos a1, e10, t_below i2 (by omega)]
    by_cases a2 : 0 ≤ p ∧ p < 7
    · rw [if_pos a2, e10, t_below i3 (by omega)]
      by_cases a3 : 0 ≤ c ∧ c < 3
      · rw [if_pos a3, e10, if_pos (by omega), zgML0 hs, zvMe hs, t_laneOf hs a1 a3, eEq_i (by omega) (by omega) (by omega) (by omega)]
        by_cases w5 : p = 5
        · rw [if_pos w5, if_pos w5, zgLa1 hs a1 a3, zvALa hs a1 a3]
          unfold f_AL_size
          rw [ziAL1a hs a1 a3, bI_some]
        rw [if_neg w5, if_neg w5, eEq_i (by omega) (by omega) (by omega) (by omega)]
        by_cases w6 : p = 6
        · rw [if_pos w6, if_pos w6, zgLa2 hs a1 a3, zvALb hs a1 a3]
          unfold f_AL_size
          rw [ziAL1b hs a1 a3, bI_some]
        rw [if_neg w6, if_neg w6, zgLa3 hs a1 a3, zqFB hs a1 a3 (p := p) (by omega), ziFB1 hs a1 a3 (p := p) (by omega)]
      · rw [if_neg a3, e00, if_neg (by omega)]
    · rw [if_neg a2, e00, if_neg (by omega)]
  · rw [if_neg a1, e00, if_neg (by omega)]
theorem c_held (C : cR h c0 R) (gB : bB R) {n o c : Int} (i1 : oK n) (i2 : oK o) (i3 : oK c) : f_ML_held (some c0) n o c (vw h c0 (wF R F) Rr) = some (nHeld R n o c, vw h c0 (wF R F) Rr) := by
  have hs := C.1
  unfold f_ML_held nHeld
  rw [jn_eq, t_below i1 (by omega)]
  by_cases a1 : 0 ≤ n ∧ n < 6
  · rw [if_pos a1, e10, t_below i2 (by omega)]
    by_cases a2 : 0 ≤ o ∧ o < 5
    · rw [if_pos a2, e10, t_below i3 (by omega)]
      by_cases a3 : 0 ≤ c ∧ c < 3
      · have g := gB (15 * n + 3 * o + c) (by omega) (by omega)
        rw [if_pos a3, e10, if_pos (by omega), jn_eq, zgML0 hs, zvMe hs, t_laneOf hs a1 a3, zgLa4 hs a1 a3, zlLa4 hs a1 a3 (p := o) (by omega), eEq_i (by omega) (by omega) (by omega) (by omega)]
        by_cases e : R 18 (15 * n + 3 * o + c) = -1
        · rw [if_pos e, e]
          rfl
        · rw [if_neg e]
      · rw [if_neg a3, e00, if_neg (by omega)]
    · rw [if_neg a2, e00, if_neg (by omega)]
  · rw [if_neg a1, e00, if_neg (by omega)]
theorem c_count (C : cR h c0 R) {w : Int} (i1 : oK w) : f_ML_count (some c0) w (vw h c0 (wF R F) Rr) = some (nCount R w, vw h c0 (wF R F) Rr) := by
  have hs := C.1
  unfold oK at i1
  unfold f_ML_count nCount
  rw [eEq_i (by omega) (by omega) (by omega) (by omega)]
  by_cases w0 : w = 0
  · rw [if_pos w0, if_pos w0, zgML0 hs, ziMe2 hs]
  rw [if_neg w0, if_neg w0, eEq_i (by omega) (by omega) (by omega) (by omega)]
  by_cases w1 : w = 1
  · rw [if_pos w1, if_pos w1, zgML0 hs, ziMe3 hs]
  rw [if_neg w1, if_neg w1, eEq_i (by omega) (by omega) (by omega) (by omega)]
  by_cases w2 : w = 2
  · rw [if_pos w2, if_pos w2, zgML0 hs, ziMe4 hs]
  rw [if_neg w2, if_neg w2]
def nRunA (R : RS) (x : Int) : Int × RS := if 0 ≤ x ∧ x ≤ 100 then (nRun R x.toNat 0 2, nRun R x.toNat) else (-1, R)
theorem c_run (J : jP R) (C : cR h c0 R) (f0 : fB R F) (hb : R 0 2 + 100 ≤ 100000) (i1 : oK x) : ∃ h' F', f_ML_run (some c0) x (vw h c0 (wF R F) Rr) = some ((nRunA R x).1, vw h' c0 (wF (nRunA R x).2 F') Rr) ∧ sB2 c0 h R h' (nRunA R x).2 F' := by
  unfold f_ML_run nRunA
  rw [t_below i1 (by omega)]
  by_cases a1 : 0 ≤ x ∧ x < 101
  · rw [if_pos a1, e10, if_pos (by omega)]
    exact c_run13 (by omega) x.toNat FU 0 R F h (by omega) (by omega) J C f0 (by omega) (by unfold FU; omega)
  · rw [if_neg a1, e00, if_neg (by omega)]
    exact ⟨h, F, rfl, C, J, ext_r, dT_r, f0⟩
theorem m_runA {Rc : RS} (hs : shR h c0) (J : jP R) (hb : R 0 2 + 100 ≤ 100000) (i1 : oK x) : f_Mo_run (some (c0 + 373)) x (vw h c0 Rc R) = some ((nRunA R x).1, vw h c0 Rc (nRunA R x).2) ∧ (nRunA R x).2 0 2 ≤ R 0 2 + 100 := by
  unfold oK at i1
  unfold f_Mo_run nRunA
  rw [jn_eq, eLt_i (by omega) (by omega) (by omega) (by omega)]
  by_cases h1 : x < 0
  · rw [if_pos h1, if_neg (by omega)]
    exact ⟨rfl, by dsimp only; omega⟩
  · rw [if_neg h1, eLt_i (by omega) (by omega) (by omega) (by omega)]
    by_cases h2 : 100 < x
    · rw [if_pos h2, if_neg (by omega)]
      exact ⟨rfl, by dsimp only; omega⟩
    · rw [if_neg h2, if_pos (by omega)]
      obtain ⟨y1, y2, y3⟩ := r_run (Rc := Rc) hs (x := x) (by omega) x.toNat FU 0 R (by omega) (by omega) J (by omega) (by unfold FU; omega)
      exact ⟨y1, by dsimp only; omega⟩
end Cls20
