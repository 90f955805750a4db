/-! The class's cores act -/
section Cls12
variable {α : Type} {h g : ev_hs} {c0 : Nat} {R T U Rr Rc : RS} {F : Int → Int} {D FL : Int} {n l : Int}
theorem c_ask {k s v : Int} {m0 : Nat} (C : cP h c0 R (m0 + 1)) (hn : 0 ≤ n ∧ n < 6) (hl : 0 ≤ l ∧ l < 8) (hk : 0 ≤ k ∧ k ≤ 3) (hv : k = 3 → v = R 21 (8 * n + l)) :
    ∃ h', f_Ca_ask (some (qN c0 n 1)) k l s (vw h c0 (wF R F) Rr) = some (vw h' c0 (wF (up3 (nSend R n k l (l % 6) 0 v 0) 20 (8 * n + l) s) F) Rr) ∧ st c0 h R h' (up3 (nSend R n k l (l % 6) 0 v 0) 20 (8 * n + l) s) m0 := by
  have hs := C.1.1
  obtain ⟨h', E, s1⟩ := c_snd (F := F) (Rr := Rr) (n := n) (k := k) (l := l) (t := l % 6) (w := 0) (v := v) (m := 0) (w' := n) (v' := R 21 (8 * n + l)) (m' := 0) C hn (by omega) (fun _ => rfl) (by omega) (by omega) (by omega)
  have hs1 := st_h s1
  refine ⟨h', ?_, st_u (by omega) s1⟩
  simp (disch := omega) only [f_Ca_ask, f_ML_homeOf, ↓zfCa0 hs, ↓zgCa1 hs, ↓zgCa3 hs, ↓zlCa3 hs, ↓zsCa3 hs, ↓zgCa2 hs, ↓zlCa2 hs, ↓zsCa2 hs, ↓zvMe hs, ↓zfCa0 hs1, ↓zgCa1 hs1, ↓zgCa3 hs1, ↓zlCa3 hs1, ↓zsCa3 hs1, ↓zgCa2 hs1, ↓zlCa2 hs1, ↓zsCa2 hs1, ↓zvMe hs1, ↓eEq_i, ↓eLt_i, ↓eDiv_i, ↓eRem_i, ↓bI_some, ↓bR_some, ↓bV_some, ↓nN_some, ↓eNu_n, ↓eNu_s, ↓eBo_1, ↓eBo_0, ↓jn_eq, u3s, u3n, u3i, ↓reduceIte, Int.reduceLT, Int.reduceLE, Int.reduceEq, Int.reduceNeg, Int.reduceAdd, Int.reduceSub, Int.reduceMul, Int.reduceMod, Int.reduceDiv, not_true_eq_false, not_false_eq_true, and_self, and_true, true_and, and_false, false_and, or_true, or_false, false_or, true_or, E]
theorem c_room6 (hs : shC h c0 D FL) (gC : bC R) (hn : 0 ≤ n ∧ n < 6) {K : Int → ev_hs → Option (Int × ev_hs)} : ∀ (f fu : Nat) (m x : Int), 0 ≤ m → (m + 2 * f = 8 ∨ m + 2 * f = 9) → f < fu → f_Ca_hasRoomFor_6 fu (some (qN c0 n 1)) x m (vw h c0 (wF R F) Rr) K = K (nInL R n f m x) (vw h c0 (wF R F) Rr) := by
  intro f
  induction f with
  | zero =>
    intro fu m x h1 h2 hf
    obtain ⟨fu, rfl⟩ : ∃ f2, fu = f2 + 1 := ⟨fu - 1, by omega⟩
    rw [f_Ca_hasRoomFor_6, eLt_i (by omega) (by omega) (by omega) (by omega), if_neg (by omega)]
    rfl
  | succ f ih =>
    intro fu m x h1 h2 hf
    obtain ⟨fu, rfl⟩ : ∃ f2, fu = f2 + 1 := ⟨fu - 1, by omega⟩
    have c1 := gC (8 * n + m) (by omega) (by omega)
    rw [f_Ca_hasRoomFor_6, eLt_i (by omega) (by omega) (by omega) (by omega), if_pos (by omega)]
    unfold nInL nZ
    by_cases a1 : R 20 (8 * n + m) = 0
    · simp (disch := omega) only [↓zgCa2 hs, ↓zlCa2 hs, ↓zsCa2 hs, ↓eEq_i, ↓eLt_i, ↓eDiv_i, ↓eRem_i, ↓bI_some, ↓bR_some, ↓bV_some, ↓nN_some, ↓eNu_n, ↓eNu_s, ↓eBo_1, ↓eBo_0, ↓jn_eq, u3s, u3n, u3i, ↓reduceIte, Int.reduceLT, Int.reduceLE, Int.reduceEq, Int.reduceNeg, Int.reduceAdd, Int.reduceSub, Int.reduceMul, Int.reduceMod, Int.reduceDiv, not_true_eq_false, not_false_eq_true, and_self, and_true, true_and, and_false, false_and, or_true, or_false, false_or, true_or, a1]
      exact ih fu (m + 2) (x + 0) (by omega) (by omega) (by omega)
    · simp (disch := omega) only [↓zgCa2 hs, ↓zlCa2 hs, ↓zsCa2 hs, ↓eEq_i, ↓eLt_i, ↓eDiv_i, ↓eRem_i, ↓bI_some, ↓bR_some, ↓bV_some, ↓nN_some, ↓eNu_n, ↓eNu_s, ↓eBo_1, ↓eBo_0, ↓jn_eq, u3s, u3n, u3i, ↓reduceIte, Int.reduceLT, Int.reduceLE, Int.reduceEq, Int.reduceNeg, Int.reduceAdd, Int.reduceSub, Int.reduceMul, Int.reduceMod, Int.reduceDiv, not_true_eq_false, not_false_eq_true, and_self, and_true, true_and, and_false, false_and, or_true, or_false, false_or, true_or, a1]
      exact ih fu (m + 2) (x + 1) (by omega) (by omega) (by omega)
theorem c_room (hs : shC h c0 D FL) (gC : bC R) (hn : 0 ≤ n ∧ n < 6) (hl : 0 ≤ l ∧ l < 8) {K : Int → ev_hs → Option α} : bI (f_Ca_hasRoomFor (some (qN c0 n 1)) l (vw h c0 (wF R F) Rr)) K = K (if nIn R n (l % 2) < 2 then 1 else 0) (vw h c0 (wF R F) Rr) := by
  have r := nInL_r (R := R) (n := n) 4 (l % 2) 0
  unfold f_Ca_hasRoomFor
  rw [eRem_i (by omega) (by omega) (by omega) (by omega), c_room6 hs gC hn 4 FU (l % 2) 0 (by omega) (by omega) (by unfold FU; omega), jn_eq]
  unfold nIn
  rw [eLt_i (by omega) (by omega) (by omega) (by omega)]
  split <;> rfl
theorem c_make6 (hs : shC h c0 D FL) (gC : bC R) (hn : 0 ≤ n ∧ n < 6) {K : Option Nat → Int → ev_hs → Option ev_hs} : ∀ (f fu : Nat) (m g : Int), 0 ≤ m → (m + 2 * f = 8 ∨ m + 2 * f = 9) → (g = -1 ∨ (0 ≤ g ∧ g < 8 ∧ (R 20 (8 * n + g) = 4 ∨ R 20 (8 * n + g) = 7))) → f < fu →
    (nEv R n f m g = -2 ∧ f_Ca_makeRoomFor_6 fu (some (qN c0 n 1)) g m (vw h c0 (wF R F) Rr) K = some (vw h c0 (wF R F) Rr)) ∨ ((nEv R n f m g = -1 ∨ (0 ≤ nEv R n f m g ∧ nEv R n f m g < 8 ∧ (R 20 (8 * n + nEv R n f m g) = 4 ∨ R 20 (8 * n + nEv R n f m g) = 7))) ∧ f_Ca_makeRoomFor_6 fu (some (qN c0 n 1)) g m (vw h c0 (wF R F) Rr) K = K (some (qN c0 n 1)) (nEv R n f m g) (vw h c0 (wF R F) Rr)) := by
  intro f
  induction f with
  | zero =>
    intro fu m g h1 h2 hg hf
    obtain ⟨fu, rfl⟩ : ∃ f2, fu = f2 + 1 := ⟨fu - 1, by omega⟩
    rw [f_Ca_makeRoomFor_6, eLt_i (by omega) (by omega) (by omega) (by omega), if_neg (by omega)]
    exact Or.inr ⟨hg, rfl⟩
  | succ f ih =>
    intro fu m g h1 h2 hg hf
    obtain ⟨fu, rfl⟩ : ∃ f2, fu = f2 + 1 := ⟨fu - 1, by omega⟩
    have c1 := gC (8 * n + m) (by omega) (by omega)
    have c2 := gC (8 * n + g)
    rw [f_Ca_makeRoomFor_6, eLt_i (by omega) (by omega) (by omega) (by omega), if_pos (by omega)]
    unfold nEv
    by_cases a0 : 8 ≤ R 20 (8 * n + m)
    · rw [if_pos a0]
      refine Or.inl ⟨rfl, ?_⟩
      have : R 20 (8 * n + m) = 8 ∨ R 20 (8 * n + m) = 9 ∨ R 20 (8 * n + m) = 10 := by omega
      rcases this with e | e | e
      · simp (disch := omega) only [↓zgCa2 hs, ↓zlCa2 hs, ↓zsCa2 hs, ↓zgCa5 hs, ↓zlCa5 hs, ↓zsCa5 hs, ↓eEq_i, ↓eLt_i, ↓eDiv_i, ↓eRem_i, ↓bI_some, ↓bR_some, ↓bV_some, ↓nN_some, ↓eNu_n, ↓eNu_s, ↓eBo_1, ↓eBo_0, ↓jn_eq, u3s, u3n, u3i, ↓reduceIte, Int.reduceLT, Int.reduceLE, Int.reduceEq, Int.reduceNeg, Int.reduceAdd, Int.reduceSub, Int.reduceMul, Int.reduceMod, Int.reduceDiv, not_true_eq_false, not_false_eq_true, and_self, and_true, true_and, and_false, false_and, or_true, or_false, false_or, true_or, e]
      · simp (disch := omega) only [↓zgCa2 hs, ↓zlCa2 hs, ↓zsCa2 hs, ↓zgCa5 hs, ↓zlCa5 hs, ↓zsCa5 hs, ↓eEq_i, ↓eLt_i, ↓eDiv_i, ↓eRem_i, ↓bI_some, ↓bR_some, ↓bV_some, ↓nN_some, ↓eNu_n, ↓eNu_s, ↓eBo_1, ↓eBo_0, ↓jn_eq, u3s, u3n, u3i, ↓reduceIte, Int.reduceLT, Int.reduceLE, Int.reduceEq, Int.reduceNeg, Int.reduceAdd, Int.reduceSub, Int.reduceMul, Int.reduceMod, Int.reduceDiv, not_true_eq_false, not_false_eq_true, and_self, and_true, true_and, and_false, false_and, or_true, or_false, false_or, true_or, e]
      · simp (disch := omega) only [↓zgCa2 hs, ↓zlCa2 hs, ↓zsCa2 hs, ↓zgCa5 hs, ↓zlCa5 hs, ↓zsCa5 hs, ↓eEq_i, ↓eLt_i, ↓eDiv_i, ↓eRem_i, ↓bI_some, ↓bR_some, ↓bV_some, ↓nN_some, ↓eNu_n, ↓eNu_s, ↓eBo_1, ↓eBo_0, ↓jn_eq, u3s, u3n, u3i, ↓reduceIte, Int.reduceLT, Int.reduceLE, Int.reduceEq, Int.reduceNeg, Int.reduceAdd, Int.reduceSub, Int.reduceMul, Int.reduceMod, Int.reduceDiv, not_true_eq_false, not_false_eq_true, and_self, and_true, true_and, and_false, false_and, or_true, or_false, false_or, true_or, e]
    · rw [if_neg a0]
      have a8 : ¬ R 20 (8 * n + m) = 8 := by omega
      have a9 : ¬ R 20 (8 * n + m) = 9 := by omega
      have a10 : ¬ R 20 (8 * n + m) = 10 := by omega
      have h6 : 0 ≤ m ∧ m < 8 := by omega
      by_cases hcg : R 20 (8 * n + m) = 4 ∨ R 20 (8 * n + m) = 7
      · have ih1 := ih fu (m + 2) m (by omega) (by omega) (Or.inr ⟨by omega, by omega, hcg⟩) (by omega)
        have ih2 := ih fu (m + 2) g (by omega) (by omega) hg (by omega)
        rcases hg with hg | ⟨g0, g1, g2⟩
        · rw [if_pos ⟨hcg, by omega⟩]
          rcases hcg with e | e
          · simp (disch := omega) only [↓zgCa2 hs, ↓zlCa2 hs, ↓zsCa2 hs, ↓zgCa5 hs, ↓zlCa5 hs, ↓zsCa5 hs, ↓eEq_i, ↓eLt_i, ↓eDiv_i, ↓eRem_i, ↓bI_some, ↓bR_some, ↓bV_some, ↓nN_some, ↓eNu_n, ↓eNu_s, ↓eBo_1, ↓eBo_0, ↓jn_eq, u3s, u3n, u3i, ↓reduceIte, Int.reduceLT, Int.reduceLE, Int.reduceEq, Int.reduceNeg, Int.reduceAdd, Int.reduceSub, Int.reduceMul, Int.reduceMod, Int.reduceDiv, not_true_eq_false, not_false_eq_true, and_self, and_true, true_and, and_false, false_and, or_true, or_false, false_or, true_or, e, hg]
            exact ih1
          · simp (disch := omega) only [↓zgCa2 hs, ↓zlCa2 hs, ↓zsCa2 hs, ↓zgCa5 hs, ↓zlCa5 hs, ↓zsCa5 hs, ↓eEq_i, ↓eLt_i, ↓eDiv_i, ↓eRem_i, ↓bI_some, ↓bR_some, ↓bV_some, ↓nN_some, ↓eNu_n, ↓eNu_s, ↓eBo_1, ↓eBo_0, ↓jn_eq, u3s, u3n, u3i, ↓reduceIte, Int.reduceLT, Int.reduceLE, Int.reduceEq, Int.reduceNeg, Int.reduceAdd, Int.reduceSub, Int.reduceMul, Int.reduceMod, Int.reduceDiv, not_true_eq_false, not_false_eq_true, and_self, and_true, true_and, and_false, false_and, or_true, or_false, false_or, true_or, e, hg]
            exact ih1
        · have c3 := c2 (by omega) (by omega)
          have gn : ¬ g = -1 := by omega
          by_cases hu : R 23 (8 * n + m) < R 23 (8 * n + g)
          · rw [if_pos ⟨hcg, Or.inr hu⟩]
            rcases hcg with e | e
            · simp (disch := omega) only [↓zgCa2 hs, ↓zlCa2 hs, ↓zsCa2 hs, ↓zgCa5 hs, ↓zlCa5 hs, ↓zsCa5 hs, ↓eEq_i, ↓eLt_i, ↓eDiv_i, ↓eRem_i, ↓bI_some, ↓bR_some, ↓bV_some, ↓nN_some, ↓eNu_n, ↓eNu_s, ↓eBo_1, ↓eBo_0, ↓jn_eq, u3s, u3n, u3i, ↓reduceIte, Int.reduceLT, Int.reduceLE, Int.reduceEq, Int.reduceNeg, Int.reduceAdd, Int.reduceSub, Int.reduceMul, Int.reduceMod, Int.reduceDiv, not_true_eq_false, not_false_eq_true, and_self, and_true, true_and, and_false, false_and, or_true, or_false, false_or, true_or, e, gn, hu]
              exact ih1
            · simp (disch := omega) only [↓zgCa2 hs, ↓zlCa2 hs, ↓zsCa2 hs, ↓zgCa5 hs, ↓zlCa5 hs, ↓zsCa5 hs, ↓eEq_i, ↓eLt_i, ↓eDiv_i, ↓eRem_i, ↓bI_some, ↓bR_some, ↓bV_some, ↓nN_some, ↓eNu_n, ↓eNu_s, ↓eBo_1, ↓eBo_0, ↓jn_eq, u3s, u3n, u3i, ↓reduceIte, Int.reduceLT, Int.reduceLE, Int.reduceEq, Int.reduceNeg, Int.reduceAdd, Int.reduceSub, Int.reduceMul, Int.reduceMod, Int.reduceDiv, not_true_eq_false, not_false_eq_true, and_self, and_true, true_and, and_false, false_and, or_true, or_false, false_or, true_or, e, gn, hu]
              exact ih1
          · rw [if_neg (by omega)]
            rcases hcg with e | e
            · simp (disch := omega) only [↓zgCa2 hs, ↓zlCa2 hs, ↓zsCa2 hs, ↓zgCa5 hs, ↓zlCa5 hs, ↓zsCa5 hs, ↓eEq_i, ↓eLt_i, ↓eDiv_i, ↓eRem_i, ↓bI_some, ↓bR_some, ↓bV_some, ↓nN_some, ↓eNu_n, ↓eNu_s, ↓eBo_1, ↓eBo_0, ↓jn_eq, u3s, u3n, u3i, ↓reduceIte, Int.reduceLT, Int.reduceLE, Int.reduceEq, Int.reduceNeg, Int.reduceAdd, Int.reduceSub, Int.reduceMul, Int.reduceMod, Int.reduceDiv, not_true_eq_false, not_false_eq_true, and_self, and_true, true_and, and_false, false_and, or_true, or_false, false_or, true_or, e, gn, hu]
              exact ih2
            · simp (disch := omega) only [↓zgCa2 hs, ↓zlCa2 hs, ↓zsCa2 hs, ↓zgCa5 hs, ↓zlCa5 hs, ↓zsCa5 hs, ↓eEq_i, ↓eLt_i, ↓eDiv_i, ↓eRem_i, ↓bI_some, ↓bR_some, ↓bV_some, ↓nN_some, ↓eNu_n, ↓eNu_s, ↓eBo_1, ↓eBo_0, ↓jn_eq, u3s, u3n, u3i, ↓reduceIte, Int.reduceLT, Int.reduceLE, Int.reduceEq, Int.reduceNeg, Int.reduceAdd, Int.reduceSub, Int.reduceMul, Int.reduceMod, Int.reduceDiv, not_true_eq_false, not_false_eq_true, and_self, and_true, true_and, and_false, false_and, or_true, or_false, false_or, true_or, e, gn, hu]
              exact ih2
      · rw [if_neg (fun y => hcg y.1)]
        have b4 : ¬ R 20 (8 * n + m) = 4 := fun y => hcg (Or.inl y)
        have b7 : ¬ R 20 (8 * n + m) = 7 := fun y => hcg (Or.inr y)
        simp (disch := omega) only [↓zgCa2 hs, ↓zlCa2 hs, ↓zsCa2 hs, ↓zgCa5 hs, ↓zlCa5 hs, ↓zsCa5 hs, ↓eEq_i, ↓eLt_i, ↓eDiv_i, ↓eRem_i, ↓bI_some, ↓bR_some, ↓bV_some, ↓nN_some, ↓eNu_n, ↓eNu_s, ↓eBo_1, ↓eBo_0, ↓jn_eq, u3s, u3n, u3i, ↓reduceIte, Int.reduceLT, Int.reduceLE, Int.reduceEq, Int.reduceNeg, Int.reduceAdd, Int.reduceSub, Int.reduceMul, Int.reduceMod, Int.reduceDiv, not_true_eq_false, not_false_eq_true, and_self, and_true, true_and, and_false, false_and, or_true, or_false, false_or, true_or, a8, a9, a10, b4, b7]
        exact ih fu (m + 2) g (by omega) (by omega) hg (by omega)
theorem c_make {m0 : Nat} (C : cP h c0 R (m0 + 1)) (gC : bC R) (hn : 0 ≤ n ∧ n < 6) (hl : 0 ≤ l ∧ l < 8) :
    ∃ h', f_Ca_makeRoomFor (some (qN c0 n 1)) l (vw h c0 (wF R F) Rr) = some (vw h' c0 (wF (nEvict R n l) F) Rr) ∧ st c0 h R h' (nEvict R n l) m0 := by
  have hs := C.1.1
  unfold f_Ca_makeRoomFor nEvict
  rw [eRem_i (by omega) (by omega) (by omega) (by omega)]
  rcases c_make6 (F := F) (Rr := Rr) (K := fun y20_0 y20_2 y20_h => eEq y20_2 (-1) (some y20_h) (gR y20_h 7 2 y20_0 (fun q21 => lI y20_h 50 q21 y20_2 (fun z22 => eEq z22 4 (vK y20_h 7 y20_0 (bV (f_Ca_ask y20_0 2 y20_2 9 y20_h) (fun g24 => some g24))) (vK y20_h 7 y20_0 (bV (f_Ca_ask y20_0 3 y20_2 8 y20_h) (fun g23 => some g23)))))))  hs gC hn 4 FU (l % 2) (-1) (by omega) (by omega) (Or.inl rfl) (by unfold FU; omega) with ⟨e, E⟩ | ⟨e, E⟩
  · rw [E, if_pos (by omega)]
    exact ⟨h, rfl, st_r (cP_l (by omega) C)⟩
  · rw [E]
    generalize nEv R n 4 (l % 2) (-1) = v at *
    rcases e with e | ⟨e0, e1, e2⟩
    · rw [if_pos (by omega)]
      refine ⟨h, ?_, st_r (cP_l (by omega) C)⟩
      rw [e, eEq_i (by omega) (by omega) (by omega) (by omega), if_pos rfl]
    · rw [if_neg (by omega)]
      have vn : ¬ v = -1 := by omega
      rcases e2 with e2 | e2
      · rw [if_neg (by omega)]
        obtain ⟨h', E1, s⟩ := c_ask (F := F) (Rr := Rr) (l := v) (k := 2) (s := 9) (v := R 21 (8 * n + v)) C hn ⟨e0, e1⟩ (by omega) (by omega)
        refine ⟨h', ?_, s⟩
        simp (disch := omega) only [↓zgCa2 hs, ↓zlCa2 hs, ↓zsCa2 hs, ↓zvCa hs, ↓eEq_i, ↓eLt_i, ↓eDiv_i, ↓eRem_i, ↓bI_some, ↓bR_some, ↓bV_some, ↓nN_some, ↓eNu_n, ↓eNu_s, ↓eBo_1, ↓eBo_0, ↓jn_eq, u3s, u3n, u3i, ↓reduceIte, Int.reduceLT, Int.reduceLE, Int.reduceEq, Int.reduceNeg, Int.reduceAdd, Int.reduceSub, Int.reduceMul, Int.reduceMod, Int.reduceDiv, not_true_eq_false, not_false_eq_true, and_self, and_true, true_and, and_false, false_and, or_true, or_false, false_or, true_or, vn, e2, E1]
      · rw [if_pos e2]
        obtain ⟨h', E1, s⟩ := c_ask (F := F) (Rr := Rr) (l := v) (k := 3) (s := 8) (v := R 21 (8 * n + v)) C hn ⟨e0, e1⟩ (by omega) (by omega)
        refine ⟨h', ?_, s⟩
        simp (disch := omega) only [↓zgCa2 hs, ↓zlCa2 hs, ↓zsCa2 hs, ↓zvCa hs, ↓eEq_i, ↓eLt_i, ↓eDiv_i, ↓eRem_i, ↓bI_some, ↓bR_some, ↓bV_some, ↓nN_some, ↓eNu_n, ↓eNu_s, ↓eBo_1, ↓eBo_0, ↓jn_eq, u3s, u3n, u3i, ↓reduceIte, Int.reduceLT, Int.reduceLE, Int.reduceEq, Int.reduceNeg, Int.reduceAdd, Int.reduceSub, Int.reduceMul, Int.reduceMod, Int.reduceDiv, not_true_eq_false, not_false_eq_true, and_self, and_true, true_and, and_false, false_and, or_true, or_false, false_or, true_or, vn, e2, E1]
theorem fI_m {k k' : Int} (hk : k ≤ k') (y : fI R F k) : fI R F k' := fun n n0 n1 => ⟨(y n n0 n1).1, fun h => (y n n0 n1).2 (by omega)⟩
theorem fI_f {n : Int} (e : ∀ j, T 35 j = R 35 j) (e0 : T 0 2 = R 0 2) (h2 : 0 ≤ R 0 2) (y : fI R F n) : fI T (uF F n (R 0 2)) (n + 1) := by
  intro j j0 j1
  have := y j j0 j1
  unfold uF
  rw [e, e0]
  by_cases hj : j = n
  · rw [if_pos hj]
    exact ⟨by omega, fun _ => by omega⟩
  · rw [if_neg hj]
    exact ⟨this.1, fun h => this.2 (by omega)⟩
theorem nCore_35 {j : Int} : nCore R n 35 j = R 35 j := by
  unfold nCore
  split
  · split
    · rfl
    split
    · rw [u3n (by omega)]
    · unfold nCore1
      split
      · unfold nFin
        simp (disch := omega) only [u3n]
      split
      · simp (disch := omega) only [u3n, nSend_n]
      split
      · split
        · unfold nEvict
          split
          · rfl
          split <;> simp (disch := omega) only [u3n, nSend_n]
        split <;> simp (disch := omega) only [u3n, nSend_n]
      · rfl
  · rfl
theorem c_act {x : Int} (J : jC x R) (C : cR h c0 R) (hn : 0 ≤ n ∧ n < 6) (f0 : fI R F n) :
    ∃ h' F', f_Co_act (some (qN c0 n 6)) x (vw h c0 (wF R F) Rr) = some (vw h' c0 (wF (nCore R n) F') Rr) ∧ cR h' c0 (nCore R n) ∧ ext h h' ∧ dC h R h' (nCore R n) ∧ fI (nCore R n) F' (n + 1) := by
  obtain ⟨I, t, ex⟩ := J
  have hs := C.1
  have gN := I.1.2.2.2.2.2.2.2.2.2 n hn.1 hn.2
  have gO := I.1.2.2.2.2.2.2.2.2.1
  have gC := bC_of I.1
  have CP : cP h c0 R (0 + 1) := ⟨C, iR_lv I, sOK_le (sOK_of I.1 I.2.2.1) (by omega)⟩
  have f1 := f0 n hn.1 hn.2
  have t1 := t.1
  have fx : ∀ {F' : Int → Int}, F' = F → fI (nCore R n) F' (n + 1) := by
    intro F' e
    rw [e]
    exact fI_m (by omega) (fI_t (fun j => nCore_35) (nCore_00 (by omega)) f0)
  have key : ∀ T, nCore R n = T → (∃ h' F', f_Co_act (some (qN c0 n 6)) x (vw h c0 (wF R F) Rr) = some (vw h' c0 (wF T F') Rr) ∧ st c0 h R h' T 0 ∧ fI (nCore R n) F' (n + 1)) → ∃ h' F', f_Co_act (some (qN c0 n 6)) x (vw h c0 (wF R F) Rr) = some (vw h' c0 (wF (nCore R n) F') Rr) ∧ cR h' c0 (nCore R n) ∧ ext h h' ∧ dC h R h' (nCore R n) ∧ fI (nCore R n) F' (n + 1) := by
    rintro T e ⟨h', F', E, s, f⟩
    rw [← e] at E s
    exact ⟨h', F', E, s.1.1, s.2.1, s.2.2, f⟩
  by_cases h34 : R 34 n = R 33 n
  · refine key R (by unfold nCore; split <;> simp [h34]) ⟨h, F, ?_, st_r (cP_l (by omega) CP), fx rfl⟩
    have hl : ¬ R 34 n < R 33 n := by omega
    simp (disch := omega) only [f_Co_act, ↓ziCo7 hs, ↓zpCo7 hs, ↓ziCo6 hs, ↓zpCo6 hs, ↓ziCo8 hs, ↓zpCo8 hs, ↓zgCo4 hs, ↓zlCo4 hs, ↓zsCo4 hs, ↓zgCo0 hs, ↓zgCa2 hs, ↓zlCa2 hs, ↓zsCa2 hs, ↓zgCo2 hs, ↓zlCo2 hs, ↓zsCo2 hs, ↓zgCo1 hs, ↓zlCo1 hs, ↓zsCo1 hs, ↓zvCo hs, ↓zvCa hs, ↓eEq_i, ↓eLt_i, ↓eDiv_i, ↓eRem_i, ↓bI_some, ↓bR_some, ↓bV_some, ↓nN_some, ↓eNu_n, ↓eNu_s, ↓eBo_1, ↓eBo_0, ↓jn_eq, u3s, u3n, u3i, ↓reduceIte, Int.reduceLT, Int.reduceLE, Int.reduceEq, Int.reduceNeg, Int.reduceAdd, Int.reduceSub, Int.reduceMul, Int.reduceMod, Int.reduceDiv, not_true_eq_false, not_false_eq_true, and_self, and_true, true_and, and_false, false_and, or_true, or_false, false_or, true_or, hl]
  have hlt : R 34 n < R 33 n := by omega
  by_cases h35 : R 35 n = 0
  · have fne : ¬ F n = x := by
      intro y
      have := (f1.2 (Int.le_refl _)).1.mpr (by omega)
      omega
    have go := gO (40 * n + R 34 n) (by omega) (by omega)
    by_cases hd : 0 < R 31 (40 * n + R 34 n)
    · refine key (up3 R 31 (40 * n + R 34 n) (R 31 (40 * n + R 34 n) - 1)) (by unfold nCore; rw [if_pos h35, if_neg h34, if_pos hd]) ⟨h, F, ?_, st_u (by omega) (st_r (cP_l (by omega) CP)), fx rfl⟩
      simp (disch := omega) only [f_Co_act, ↓ziCo7 hs, ↓zpCo7 hs, ↓ziCo6 hs, ↓zpCo6 hs, ↓ziCo8 hs, ↓zpCo8 hs, ↓zgCo4 hs, ↓zlCo4 hs, ↓zsCo4 hs, ↓zgCo0 hs, ↓zgCa2 hs, ↓zlCa2 hs, ↓zsCa2 hs, ↓zgCo2 hs, ↓zlCo2 hs, ↓zsCo2 hs, ↓zgCo1 hs, ↓zlCo1 hs, ↓zsCo1 hs, ↓zvCo hs, ↓zvCa hs, ↓eEq_i, ↓eLt_i, ↓eDiv_i, ↓eRem_i, ↓bI_some, ↓bR_some, ↓bV_some, ↓nN_some, ↓eNu_n, ↓eNu_s, ↓eBo_1, ↓eBo_0, ↓jn_eq, u3s, u3n, u3i, ↓reduceIte, Int.reduceLT, Int.reduceLE, Int.reduceEq, Int.reduceNeg, Int.reduceAdd, Int.reduceSub, Int.reduceMul, Int.reduceMod, Int.reduceDiv, not_true_eq_false, not_false_eq_true, and_self, and_true, true_and, and_false, false_and, or_true, or_false, false_or, true_or, hlt, fne, hd]
    · have ec : nCore R n = nCore1 R n (40 * n + R 34 n) (R 29 (40 * n + R 34 n)) := by
        unfold nCore
        rw [if_pos h35, if_neg h34, if_neg hd]
      have hl8 : 0 ≤ R 29 (40 * n + R 34 n) ∧ R 29 (40 * n + R 34 n) < 8 := by omega
      generalize hll : R 29 (40 * n + R 34 n) = l at *
      have gc := gC (8 * n + l) (by omega) (by omega)
      have hfin := c_fin (F := F) (Rr := Rr) hs hn (l := l) (by omega) go.1 hll hl8
      rw [ex] at hfin
      unfold nCore1 at ec
      have ff : fI (nCore R n) (uF F n x) (n + 1) := by
        rw [← ex]
        exact fI_f (fun j => nCore_35) (nCore_00 (by omega)) t1.1 f0
      have sf : st c0 h R h (nFin R n l) 0 := by
        unfold nFin
        exact st_u (by omega) (st_u (by omega) (st_u (by omega) (st_u (by omega) (st_r (cP_l (by omega) CP)))))
      by_cases h7 : R 20 (8 * n + l) = 7
      · rw [if_pos (Or.inl h7)] at ec
        refine key _ ec ⟨h, uF F n x, ?_, sf, ff⟩
        by_cases hk : R 28 (40 * n + R 34 n) = 0
        · simp (disch := omega) only [f_Co_act, ↓ziCo7 hs, ↓zpCo7 hs, ↓ziCo6 hs, ↓zpCo6 hs, ↓ziCo8 hs, ↓zpCo8 hs, ↓zgCo4 hs, ↓zlCo4 hs, ↓zsCo4 hs, ↓zgCo0 hs, ↓zgCa2 hs, ↓zlCa2 hs, ↓zsCa2 hs, ↓zgCo2 hs, ↓zlCo2 hs, ↓zsCo2 hs, ↓zgCo1 hs, ↓zlCo1 hs, ↓zsCo1 hs, ↓zvCo hs, ↓zvCa hs, ↓eEq_i, ↓eLt_i, ↓eDiv_i, ↓eRem_i, ↓bI_some, ↓bR_some, ↓bV_some, ↓nN_some, ↓eNu_n, ↓eNu_s, ↓eBo_1, ↓eBo_0, ↓jn_eq, u3s, u3n, u3i, ↓reduceIte, Int.reduceLT, Int.reduceLE, Int.reduceEq, Int.reduceNeg, Int.reduceAdd, Int.reduceSub, Int.reduceMul, Int.reduceMod, Int.reduceDiv, not_true_eq_false, not_false_eq_true, and_self, and_true, true_and, and_false, false_and, or_true, or_false, false_or, true_or, hlt, fne, hd, hll, h7, hk, hfin]
        · simp (disch := omega) only [f_Co_act, ↓ziCo7 hs, ↓zpCo7 hs, ↓ziCo6 hs, ↓zpCo6 hs, ↓ziCo8 hs, ↓zpCo8 hs, ↓zgCo4 hs, ↓zlCo4 hs, ↓zsCo4 hs, ↓zgCo0 hs, ↓zgCa2 hs, ↓zlCa2 hs, ↓zsCa2 hs, ↓zgCo2 hs, ↓zlCo2 hs, ↓zsCo2 hs, ↓zgCo1 hs, ↓zlCo1 hs, ↓zsCo1 hs, ↓zvCo hs, ↓zvCa hs, ↓eEq_i, ↓eLt_i, ↓eDiv_i, ↓eRem_i, ↓bI_some, ↓bR_some, ↓bV_some, ↓nN_some, ↓eNu_n, ↓eNu_s, ↓eBo_1, ↓eBo_0, ↓jn_eq, u3s, u3n, u3i, ↓reduceIte, Int.reduceLT, Int.reduceLE, Int.reduceEq, Int.reduceNeg, Int.reduceAdd, Int.reduceSub, Int.reduceMul, Int.reduceMod, Int.reduceDiv, not_true_eq_false, not_false_eq_true, and_self, and_true, true_and, and_false, false_and, or_true, or_false, false_or, true_or, hlt, fne, hd, hll, h7, hk, hfin]
      by_cases h4 : R 20 (8 * n + l) = 4
      · by_cases hk : R 28 (40 * n + R 34 n) = 0
        · rw [if_pos (Or.inr ⟨h4, hk⟩)] at ec
          refine key _ ec ⟨h, uF F n x, ?_, sf, ff⟩
          simp (disch := omega) only [f_Co_act, ↓ziCo7 hs, ↓zpCo7 hs, ↓ziCo6 hs, ↓zpCo6 hs, ↓ziCo8 hs, ↓zpCo8 hs, ↓zgCo4 hs, ↓zlCo4 hs, ↓zsCo4 hs, ↓zgCo0 hs, ↓zgCa2 hs, ↓zlCa2 hs, ↓zsCa2 hs, ↓zgCo2 hs, ↓zlCo2 hs, ↓zsCo2 hs, ↓zgCo1 hs, ↓zlCo1 hs, ↓zsCo1 hs, ↓zvCo hs, ↓zvCa hs, ↓eEq_i, ↓eLt_i, ↓eDiv_i, ↓eRem_i, ↓bI_some, ↓bR_some, ↓bV_some, ↓nN_some, ↓eNu_n, ↓eNu_s, ↓eBo_1, ↓eBo_0, ↓jn_eq, u3s, u3n, u3i, ↓reduceIte, Int.reduceLT, Int.reduceLE, Int.reduceEq, Int.reduceNeg, Int.reduceAdd, Int.reduceSub, Int.reduceMul, Int.reduceMod, Int.reduceDiv, not_true_eq_false, not_false_eq_true, and_self, and_true, true_and, and_false, false_and, or_true, or_false, false_or, true_or, hlt, fne, hd, hll, h4, hk, hfin]
        · rw [if_neg (by omega), if_pos h4] at ec
          obtain ⟨h', E, s⟩ := c_ask (F := F) (Rr := Rr) (l := l) (k := 1) (s := 5) (v := 0) CP hn hl8 (by omega) (by omega)
          refine key _ ec ⟨h', F, ?_, s, fx rfl⟩
          simp (disch := omega) only [f_Co_act, ↓ziCo7 hs, ↓zpCo7 hs, ↓ziCo6 hs, ↓zpCo6 hs, ↓ziCo8 hs, ↓zpCo8 hs, ↓zgCo4 hs, ↓zlCo4 hs, ↓zsCo4 hs, ↓zgCo0 hs, ↓zgCa2 hs, ↓zlCa2 hs, ↓zsCa2 hs, ↓zgCo2 hs, ↓zlCo2 hs, ↓zsCo2 hs, ↓zgCo1 hs, ↓zlCo1 hs, ↓zsCo1 hs, ↓zvCo hs, ↓zvCa hs, ↓eEq_i, ↓eLt_i, ↓eDiv_i, ↓eRem_i, ↓bI_some, ↓bR_some, ↓bV_some, ↓nN_some, ↓eNu_n, ↓eNu_s, ↓eBo_1, ↓eBo_0, ↓jn_eq, u3s, u3n, u3i, ↓reduceIte, Int.reduceLT, Int.reduceLE, Int.reduceEq, Int.reduceNeg, Int.reduceAdd, Int.reduceSub, Int.reduceMul, Int.reduceMod, Int.reduceDiv, not_true_eq_false, not_false_eq_true, and_self, and_true, true_and, and_false, false_and, or_true, or_false, false_or, true_or, hlt, fne, hd, hll, h4, hk, E]
      rw [if_neg (by omega), if_neg h4] at ec
      by_cases h0 : R 20 (8 * n + l) = 0
      · rw [if_pos h0] at ec
        have hln := I.2.1 n (l % 2) hn.1 hn.2 (by omega) (by omega)
        by_cases hin : nIn R n (l % 2) = 2
        · rw [if_pos hin] at ec
          obtain ⟨h', E, s⟩ := c_make (F := F) (Rr := Rr) CP gC hn hl8
          have hi2 : (if nIn R n (l % 2) < 2 then (1 : Int) else 0) = 0 := if_neg (by omega)
          refine key _ ec ⟨h', F, ?_, s, fx rfl⟩
          by_cases hk : R 28 (40 * n + R 34 n) = 0
          · simp (disch := omega) only [f_Co_act, f_Co_fetch, ↓ziCo7 hs, ↓zpCo7 hs, ↓ziCo6 hs, ↓zpCo6 hs, ↓ziCo8 hs, ↓zpCo8 hs, ↓zgCo4 hs, ↓zlCo4 hs, ↓zsCo4 hs, ↓zgCo0 hs, ↓zgCa2 hs, ↓zlCa2 hs, ↓zsCa2 hs, ↓zgCo2 hs, ↓zlCo2 hs, ↓zsCo2 hs, ↓zgCo1 hs, ↓zlCo1 hs, ↓zsCo1 hs, ↓zvCo hs, ↓zvCa hs, ↓eEq_i, ↓eLt_i, ↓eDiv_i, ↓eRem_i, ↓bI_some, ↓bR_some, ↓bV_some, ↓nN_some, ↓eNu_n, ↓eNu_s, ↓eBo_1, ↓eBo_0, ↓jn_eq, u3s, u3n, u3i, ↓reduceIte, Int.reduceLT, Int.reduceLE, Int.reduceEq, Int.reduceNeg, Int.reduceAdd, Int.reduceSub, Int.reduceMul, Int.reduceMod, Int.reduceDiv, not_true_eq_false, not_false_eq_true, and_self, and_true, true_and, and_false, false_and, or_true, or_false, false_or, true_or, ↓c_room hs gC, hlt, fne, hd, hll, h0, hk, hi2, E]
          · simp (disch := omega) only [f_Co_act, f_Co_fetch, ↓ziCo7 hs, ↓zpCo7 hs, ↓ziCo6 hs, ↓zpCo6 hs, ↓ziCo8 hs, ↓zpCo8 hs, ↓zgCo4 hs, ↓zlCo4 hs, ↓zsCo4 hs, ↓zgCo0 hs, ↓zgCa2 hs, ↓zlCa2 hs, ↓zsCa2 hs, ↓zgCo2 hs, ↓zlCo2 hs, ↓zsCo2 hs, ↓zgCo1 hs, ↓zlCo1 hs, ↓zsCo1 hs, ↓zvCo hs, ↓zvCa hs, ↓eEq_i, ↓eLt_i, ↓eDiv_i, ↓eRem_i, ↓bI_some, ↓bR_some, ↓bV_some, ↓nN_some, ↓eNu_n, ↓eNu_s, ↓eBo_1, ↓eBo_0, ↓jn_eq, u3s, u3n, u3i, ↓reduceIte, Int.reduceLT, Int.reduceLE, Int.reduceEq, Int.reduceNeg, Int.reduceAdd, Int.reduceSub, Int.reduceMul, Int.reduceMod, Int.reduceDiv, not_true_eq_false, not_false_eq_true, and_self, and_true, true_and, and_false, false_and, or_true, or_false, false_or, true_or, ↓c_room hs gC, hlt, fne, hd, hll, h0, hk, hi2, E]
        · rw [if_neg hin] at ec
          have hi2 : (if nIn R n (l % 2) < 2 then (1 : Int) else 0) = 1 := if_pos (by omega)
          by_cases hk : R 28 (40 * n + R 34 n) = 0
          · rw [if_pos hk] at ec
            obtain ⟨h', E, s⟩ := c_ask (F := F) (Rr := Rr) (l := l) (k := 0) (s := 1) (v := 0) CP hn hl8 (by omega) (by omega)
            refine key _ ec ⟨h', F, ?_, s, fx rfl⟩
            simp (disch := omega) only [f_Co_act, f_Co_fetch, ↓ziCo7 hs, ↓zpCo7 hs, ↓ziCo6 hs, ↓zpCo6 hs, ↓ziCo8 hs, ↓zpCo8 hs, ↓zgCo4 hs, ↓zlCo4 hs, ↓zsCo4 hs, ↓zgCo0 hs, ↓zgCa2 hs, ↓zlCa2 hs, ↓zsCa2 hs, ↓zgCo2 hs, ↓zlCo2 hs, ↓zsCo2 hs, ↓zgCo1 hs, ↓zlCo1 hs, ↓zsCo1 hs, ↓zvCo hs, ↓zvCa hs, ↓eEq_i, ↓eLt_i, ↓eDiv_i, ↓eRem_i, ↓bI_some, ↓bR_some, ↓bV_some, ↓nN_some, ↓eNu_n, ↓eNu_s, ↓eBo_1, ↓eBo_0, ↓jn_eq, u3s, u3n, u3i, ↓reduceIte, Int.reduceLT, Int.reduceLE, Int.reduceEq, Int.reduceNeg, Int.reduceAdd, Int.reduceSub, Int.reduceMul, Int.reduceMod, Int.reduceDiv, not_true_eq_false, not_false_eq_true, and_self, and_true, true_and, and_false, false_and, or_true, or_false, false_or, true_or, ↓c_room hs gC, hlt, fne, hd, hll, h0, hk, hi2, E]
          · rw [if_neg hk] at ec
            obtain ⟨h', E, s⟩ := c_ask (F := F) (Rr := Rr) (l := l) (k := 1) (s := 2) (v := 0) CP hn hl8 (by omega) (by omega)
            refine key _ ec ⟨h', F, ?_, s, fx rfl⟩
            simp (disch := omega) only [f_Co_act, f_Co_fetch, ↓ziCo7 hs, ↓zpCo7 hs, ↓ziCo6 hs, ↓zpCo6 hs, ↓ziCo8 hs, ↓zpCo8 hs, ↓zgCo4 hs, ↓zlCo4 hs, ↓zsCo4 hs, ↓zgCo0 hs, ↓zgCa2 hs, ↓zlCa2 hs, ↓zsCa2 hs, ↓zgCo2 hs, ↓zlCo2 hs, ↓zsCo2 hs, ↓zgCo1 hs, ↓zlCo1 hs, ↓zsCo1 hs, ↓zvCo hs, ↓zvCa hs, ↓eEq_i, ↓eLt_i, ↓eDiv_i, ↓eRem_i, ↓bI_some, ↓bR_some, ↓bV_some, ↓nN_some, ↓eNu_n, ↓eNu_s, ↓eBo_1, ↓eBo_0, ↓jn_eq, u3s, u3n, u3i, ↓reduceIte, Int.reduceLT, Int.reduceLE, Int.reduceEq, Int.reduceNeg, Int.reduceAdd, Int.reduceSub, Int.reduceMul, Int.reduceMod, Int.reduceDiv, not_true_eq_false, not_false_eq_true, and_self, and_true, true_and, and_false, false_and, or_true, or_false, false_or, true_or, ↓c_room hs gC, hlt, fne, hd, hll, h0, hk, hi2, E]
      · rw [if_neg h0] at ec
        refine key _ ec ⟨h, F, ?_, st_r (cP_l (by omega) CP), fx rfl⟩
        by_cases hk : R 28 (40 * n + R 34 n) = 0
        · simp (disch := omega) only [f_Co_act, ↓ziCo7 hs, ↓zpCo7 hs, ↓ziCo6 hs, ↓zpCo6 hs, ↓ziCo8 hs, ↓zpCo8 hs, ↓zgCo4 hs, ↓zlCo4 hs, ↓zsCo4 hs, ↓zgCo0 hs, ↓zgCa2 hs, ↓zlCa2 hs, ↓zsCa2 hs, ↓zgCo2 hs, ↓zlCo2 hs, ↓zsCo2 hs, ↓zgCo1 hs, ↓zlCo1 hs, ↓zsCo1 hs, ↓zvCo hs, ↓zvCa hs, ↓eEq_i, ↓eLt_i, ↓eDiv_i, ↓eRem_i, ↓bI_some, ↓bR_some, ↓bV_some, ↓nN_some, ↓eNu_n, ↓eNu_s, ↓eBo_1, ↓eBo_0, ↓jn_eq, u3s, u3n, u3i, ↓reduceIte, Int.reduceLT, Int.reduceLE, Int.reduceEq, Int.reduceNeg, Int.reduceAdd, Int.reduceSub, Int.reduceMul, Int.reduceMod, Int.reduceDiv, not_true_eq_false, not_false_eq_true, and_self, and_true, true_and, and_false, false_and, or_true, or_false, false_or, true_or, hlt, fne, hd, hll, h7, h4, h0, hk]
        · simp (disch := omega) only [f_Co_act, ↓ziCo7 hs, ↓zpCo7 hs, ↓ziCo6 hs, ↓zpCo6 hs, ↓ziCo8 hs, ↓zpCo8 hs, ↓zgCo4 hs, ↓zlCo4 hs, ↓zsCo4 hs, ↓zgCo0 hs, ↓zgCa2 hs, ↓zlCa2 hs, ↓zsCa2 hs, ↓zgCo2 hs, ↓zlCo2 hs, ↓zsCo2 hs, ↓zgCo1 hs, ↓zlCo1 hs, ↓zsCo1 hs, ↓zvCo hs, ↓zvCa hs, ↓eEq_i, ↓eLt_i, ↓eDiv_i, ↓eRem_i, ↓bI_some, ↓bR_some, ↓bV_some, ↓nN_some, ↓eNu_n, ↓eNu_s, ↓eBo_1, ↓eBo_0, ↓jn_eq, u3s, u3n, u3i, ↓reduceIte, Int.reduceLT, Int.reduceLE, Int.reduceEq, Int.reduceNeg, Int.reduceAdd, Int.reduceSub, Int.reduceMul, Int.reduceMod, Int.reduceDiv, not_true_eq_false, not_false_eq_true, and_self, and_true, true_and, and_false, false_and, or_true, or_false, false_or, true_or, hlt, fne, hd, hll, h7, h4, h0, hk]
  · refine key R (by unfold nCore; rw [if_neg h35]) ⟨h, F, ?_, st_r (cP_l (by omega) CP), fx rfl⟩
    have fe : F n = x := by
      have := (f1.2 (Int.le_refl _)).1.mp (by omega)
      omega
    simp (disch := omega) only [f_Co_act, ↓ziCo7 hs, ↓zpCo7 hs, ↓ziCo6 hs, ↓zpCo6 hs, ↓ziCo8 hs, ↓zpCo8 hs, ↓zgCo4 hs, ↓zlCo4 hs, ↓zsCo4 hs, ↓zgCo0 hs, ↓zgCa2 hs, ↓zlCa2 hs, ↓zsCa2 hs, ↓zgCo2 hs, ↓zlCo2 hs, ↓zsCo2 hs, ↓zgCo1 hs, ↓zlCo1 hs, ↓zsCo1 hs, ↓zvCo hs, ↓zvCa hs, ↓eEq_i, ↓eLt_i, ↓eDiv_i, ↓eRem_i, ↓bI_some, ↓bR_some, ↓bV_some, ↓nN_some, ↓eNu_n, ↓eNu_s, ↓eBo_1, ↓eBo_0, ↓jn_eq, u3s, u3n, u3i, ↓reduceIte, Int.reduceLT, Int.reduceLE, Int.reduceEq, Int.reduceNeg, Int.reduceAdd, Int.reduceSub, Int.reduceMul, Int.reduceMod, Int.reduceDiv, not_true_eq_false, not_false_eq_true, and_self, and_true, true_and, and_false, false_and, or_true, or_false, false_or, true_or, hlt, fe]
end Cls12
