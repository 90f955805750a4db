-- what the taking of a packet leaves alone
def kpT (a : Nat) : Prop := (11 ≤ a ∧ a ≤ 19) ∨ (28 ≤ a ∧ a ≤ 31) ∨ a = 33
section Keep
variable {R : RS} {a : Nat} {j : Int}
theorem nGone_n {l x : Int} (ha : kpT a) : nGone R l x a j = R a j := by
  unfold kpT at ha
  unfold nGone
  split <;> simp (disch := omega) only [u3n]
theorem nPutm_n {l x v : Int} (ha : kpT a) : nPutm R l x v a j = R a j := by
  unfold nPutm
  split
  · unfold kpT at ha
    simp (disch := omega) only [u3n]
  · exact nGone_n ha
theorem nFin_n {n l : Int} (ha : kpT a) : nFin R n l a j = R a j := by
  unfold kpT at ha
  unfold nFin
  simp (disch := omega) only [u3n]
theorem nBec_n {n l s : Int} (ha : kpT a) : nBec R n l s a j = R a j := by
  unfold nBec
  have := ha
  unfold kpT at this
  rw [u3n (by omega), nFin_n ha, u3n (by omega)]
theorem nTak_n {n p : Int} (ha : kpT a) : (nTak R n p).2 a j = R a j := by
  have hb := ha
  unfold kpT at hb
  unfold nTak
  split
  · unfold nGets
    split
    · rfl
    · split <;> simp (disch := omega) only [u3n, nSend_n]
  split
  · unfold nGetm
    split
    · rfl
    · split <;> simp (disch := omega) only [u3n, nSend_n, nIv_n]
  split
  · simp (disch := omega) only [nSend_n, nGone_n ha]
  split
  · simp (disch := omega) only [nSend_n, nPutm_n ha]
  split
  · unfold nFwdS
    split
    · simp (disch := omega) only [u3n, nSend_n]
    · split <;> simp (disch := omega) only [u3n, nSend_n]
  split
  · unfold nFwdM
    split
    · simp (disch := omega) only [u3n, nSend_n]
    · split <;> simp (disch := omega) only [u3n, nSend_n]
  split
  · unfold nIvl
    split
    · simp (disch := omega) only [u3n, nSend_n]
    · split
      · simp (disch := omega) only [u3n, nSend_n]
      · split <;> simp (disch := omega) only [u3n, nSend_n]
  split
  · simp (disch := omega) only [u3n]
  split
  · unfold nDat
    split
    · simp (disch := omega) only [nBec_n ha, u3n]
    · split <;> simp (disch := omega) only [nBec_n ha, u3n]
  split
  · unfold nAck
    split <;> simp (disch := omega) only [nBec_n ha, u3n]
  · dsimp only
    split <;> simp (disch := omega) only [u3n]
theorem nTk_n {n q : Int} (ha : kpT a) : ∀ (m : Nat) (t : Int), (nTk R n q m t).2 a j = R a j := by
  intro m
  induction m with
  | zero => intro t; rfl
  | succ m ih =>
    intro t
    unfold nTk
    split
    · exact nTak_n ha
    · exact ih (t + 1)
theorem nTk_t {n q : Int} : ∀ (m : Nat) (t : Int), t ≤ (nTk R n q m t).1 ∧ (nTk R n q m t).1 ≤ t + m := by
  intro m
  induction m with
  | zero => intro t; unfold nTk; simp
  | succ m ih =>
    intro t
    have := ih (t + 1)
    unfold nTk
    split
    · dsimp only; omega
    · omega
end Keep
section RefM8
variable {h : ev_hs} {c0 : Nat} {Rc Rr : RS}
theorem m_takeFirst (hs : shR h c0) (gP : bP Rr) (gQ : bQ Rr) (gW : bW Rr) (gC : bC Rr) (gH : bH Rr) (gO : bO Rr) (S : sOK Rr 7) {n c : Int} (hn : 0 ≤ n ∧ n < 6) (hc : 0 ≤ c ∧ c < 3) (h34 : 0 ≤ Rr 34 n) (hd : ∀ t, 0 ≤ t → t < Rr 13 (3 * n + c) → (Rr 2 (Rr 12 (128 * (3 * n + c) + t)) = 8 ∨ Rr 2 (Rr 12 (128 * (3 * n + c) + t)) = 9 → Rr 34 n < 40)) :
    f_Mo_takeFirst (some (c0 + 373)) n c (vw h c0 Rc Rr) = some (vw h c0 Rc (nTF Rr n c)) := by
  have g1 := gQ (3 * n + c) (by omega) (by omega)
  unfold f_Mo_takeFirst nTF
  rw [m_take9 hs gP gQ gW gC gH gO S hn (by omega) h34 hd (Rr 13 (3 * n + c)).toNat FU 0 (by omega) (by omega) (by unfold FU; omega)]
  have e1 := nTk_n (R := Rr) (a := 13) (j := 3 * n + c) (n := n) (q := 3 * n + c) (by unfold kpT; omega) (Rr 13 (3 * n + c)).toNat 0
  have e3 := nTk_t (R := Rr) (n := n) (q := 3 * n + c) (Rr 13 (3 * n + c)).toNat 0
  have e2 : ∀ j, (nTk Rr n (3 * n + c) (Rr 13 (3 * n + c)).toNat 0).2 12 j = Rr 12 j := fun j => nTk_n (by unfold kpT; omega) _ _
  generalize (nTk Rr n (3 * n + c) (Rr 13 (3 * n + c)).toNat 0).2 = R1 at e1 e2 ⊢
  generalize (nTk Rr n (3 * n + c) (Rr 13 (3 * n + c)).toNat 0).1 = t at e3 ⊢
  have g2 : t < Rr 13 (3 * n + c) → 0 ≤ Rr 12 (128 * (3 * n + c) + t) ∧ Rr 12 (128 * (3 * n + c) + t) < 128 := fun _ => (gW (128 * (3 * n + c) + t) (by omega) (by omega)).2
  unfold nTF1
  by_cases a1 : t = R1 13 (3 * n + c)
  · simp (disch := first | omega | (simp (disch := omega) only [u3s, u3n, u3i]; omega)) only [↓rg13 hs, ↓rl13 hs, ↓rs13 hs, ↓rg1 hs, ↓rl1 hs, ↓rs1 hs, ↓rg12 hs, ↓rl12 hs, ↓rs12 hs, ↓r_vK hs, ↓eEq_i, ↓eLt_i, ↓eDiv_i, ↓eRem_i, ↓bI_some, ↓bR_some, ↓bV_some, ↓nN_some, ↓eBo_1, ↓eBo_0, ↓jn_eq, u3s, u3n, u3i, ↓reduceIte, Int.reduceLT, Int.reduceLE, Int.reduceEq, Int.reduceNeg, Int.reduceAdd, Int.reduceSub, Int.reduceMul, Int.reduceMod, Int.reduceDiv, not_true_eq_false, not_false_eq_true, and_self, and_true, true_and, and_false, false_and, or_true, or_false, false_or, true_or, a1]
  · have g3 := g2 (by omega)
    rw [← e2] at g3
    simp (disch := first | omega | (simp (disch := omega) only [u3s, u3n, u3i]; omega)) only [↓rg13 hs, ↓rl13 hs, ↓rs13 hs, ↓rg1 hs, ↓rl1 hs, ↓rs1 hs, ↓rg12 hs, ↓rl12 hs, ↓rs12 hs, ↓r_vK hs, ↓eEq_i, ↓eLt_i, ↓eDiv_i, ↓eRem_i, ↓bI_some, ↓bR_some, ↓bV_some, ↓nN_some, ↓eBo_1, ↓eBo_0, ↓jn_eq, u3s, u3n, u3i, ↓reduceIte, Int.reduceLT, Int.reduceLE, Int.reduceEq, Int.reduceNeg, Int.reduceAdd, Int.reduceSub, Int.reduceMul, Int.reduceMod, Int.reduceDiv, not_true_eq_false, not_false_eq_true, and_self, and_true, true_and, and_false, false_and, or_true, or_false, false_or, true_or, a1, true_or]
    have e4 : ∀ i z, up3 (up3 R1 1 i z) 13 (3 * n + c) (R1 13 (3 * n + c) - 1) 13 (3 * n + c) = R1 13 (3 * n + c) - 1 := fun i z => u3s
    rw [m_take108 hs (q := 3 * n + c) (by omega) _ FU (128 * (3 * n + c) + t) _ (by omega) (by rw [e4]; omega) (by rw [e4]; omega) rfl (by rw [e4]; unfold FU; omega), e4]
theorem b_takeFirst {α : Type} {K : ev_hs → Option α} (hs : shR h c0) (gP : bP Rr) (gQ : bQ Rr) (gW : bW Rr) (gC : bC Rr) (gH : bH Rr) (gO : bO Rr) (S : sOK Rr 7) {n c : Int} (hn : 0 ≤ n ∧ n < 6) (hc : 0 ≤ c ∧ c < 3) (h34 : 0 ≤ Rr 34 n) (hd : ∀ t, 0 ≤ t → t < Rr 13 (3 * n + c) → (Rr 2 (Rr 12 (128 * (3 * n + c) + t)) = 8 ∨ Rr 2 (Rr 12 (128 * (3 * n + c) + t)) = 9 → Rr 34 n < 40)) : bV (f_Mo_takeFirst (some (c0 + 373)) n c (vw h c0 Rc Rr)) K = K (vw h c0 Rc (nTF Rr n c)) := by rw [m_takeFirst hs gP gQ gW gC gH gO S hn hc h34 hd]; rfl
theorem nEv_r {R : RS} {n : Int} : ∀ (f : Nat) (m g : Int), 0 ≤ m → m + 2 * f ≤ 9 → -1 ≤ g → g ≤ 7 → -2 ≤ nEv R n f m g ∧ nEv R n f m g ≤ 7 := by
  intro f
  induction f with
  | zero => intro m g h1 h2 h3 h4; unfold nEv; omega
  | succ f ih =>
    intro m g h1 h2 h3 h4
    unfold nEv
    split
    · omega
    · exact ih _ _ (by omega) (by omega) (by split <;> omega) (by split <;> omega)
theorem m_ev7 (hs : shR h c0) (gC : bC Rr) {n : Int} (hn : 0 ≤ n ∧ n < 6) {K : Option Nat → Int → Int → ev_hs → Option ev_hs} : ∀ (f fu : Nat) (m g : Int), 0 ≤ m → (m + 2 * f = 8 ∨ m + 2 * f = 9) → -1 ≤ g → g ≤ 7 → f < fu → f_Mo_evict_7 fu (some (c0 + 373)) n g m (vw h c0 Rc Rr) K = if nEv Rr n f m g = -2 then some (vw h c0 Rc Rr) else K (some (c0 + 373)) n (nEv Rr n f m g) (vw h c0 Rc Rr) := by
  intro f
  induction f with
  | zero =>
    intro fu m g h1 h2 h3 h4 hf
    cases fu with
    | zero => omega
    | succ fu =>
      rw [f_Mo_evict_7, eLt_i (by omega) (by omega) (by omega) (by omega), if_neg (by omega)]
      unfold nEv
      rw [if_neg (by omega)]
  | succ f ih =>
    intro fu m g h1 h2 h3 h4 hf
    cases fu with
    | zero => omega
    | succ fu =>
      have c1 := gC (8 * n + m) (by omega) (by omega)
      have c2 := gC (8 * n + (if g < 0 then 0 else g)) (by split <;> omega) (by split <;> omega)
      rw [f_Mo_evict_7, eLt_i (by omega) (by omega) (by omega) (by omega), if_pos (by omega)]
      unfold nEv
      by_cases a0 : 8 ≤ Rr 20 (8 * n + m)
      · have a0' : ¬ Rr 20 (8 * n + m) < 8 := by omega
        simp (disch := first | omega | (simp (disch := omega) only [u3s, u3n, u3i]; omega)) only [↓rg20 hs, ↓rl20 hs, ↓rs20 hs, ↓rg23 hs, ↓rl23 hs, ↓rs23 hs, ↓r_vK hs, ↓eEq_i, ↓eLt_i, ↓eDiv_i, ↓eRem_i, ↓bI_some, ↓bR_some, ↓bV_some, ↓nN_some, ↓eBo_1, ↓eBo_0, ↓jn_eq, u3s, u3n, u3i, ↓reduceIte, Int.reduceLT, Int.reduceLE, Int.reduceEq, Int.reduceNeg, Int.reduceAdd, Int.reduceSub, Int.reduceMul, Int.reduceMod, Int.reduceDiv, not_true_eq_false, not_false_eq_true, and_self, and_true, true_and, and_false, false_and, or_true, or_false, false_or, true_or, ↓b_isLeaving, a0, a0']
      · have a0' : Rr 20 (8 * n + m) < 8 := by omega
        by_cases a1 : Rr 20 (8 * n + m) = 4 ∨ Rr 20 (8 * n + m) = 7
        · by_cases a2 : g < 0
          · have i1 := ih fu (m + 2) m (by omega) (by omega) (by omega) (by omega) (by omega)
            rcases a1 with a1 | a1
            · simp (disch := first | omega | (simp (disch := omega) only [u3s, u3n, u3i]; omega)) only [↓rg20 hs, ↓rl20 hs, ↓rs20 hs, ↓rg23 hs, ↓rl23 hs, ↓rs23 hs, ↓r_vK hs, ↓eEq_i, ↓eLt_i, ↓eDiv_i, ↓eRem_i, ↓bI_some, ↓bR_some, ↓bV_some, ↓nN_some, ↓eBo_1, ↓eBo_0, ↓jn_eq, u3s, u3n, u3i, ↓reduceIte, Int.reduceLT, Int.reduceLE, Int.reduceEq, Int.reduceNeg, Int.reduceAdd, Int.reduceSub, Int.reduceMul, Int.reduceMod, Int.reduceDiv, not_true_eq_false, not_false_eq_true, and_self, and_true, true_and, and_false, false_and, or_true, or_false, false_or, true_or, ↓b_isLeaving, a0, a0', a1, a2]
              exact i1
            · simp (disch := first | omega | (simp (disch := omega) only [u3s, u3n, u3i]; omega)) only [↓rg20 hs, ↓rl20 hs, ↓rs20 hs, ↓rg23 hs, ↓rl23 hs, ↓rs23 hs, ↓r_vK hs, ↓eEq_i, ↓eLt_i, ↓eDiv_i, ↓eRem_i, ↓bI_some, ↓bR_some, ↓bV_some, ↓nN_some, ↓eBo_1, ↓eBo_0, ↓jn_eq, u3s, u3n, u3i, ↓reduceIte, Int.reduceLT, Int.reduceLE, Int.reduceEq, Int.reduceNeg, Int.reduceAdd, Int.reduceSub, Int.reduceMul, Int.reduceMod, Int.reduceDiv, not_true_eq_false, not_false_eq_true, and_self, and_true, true_and, and_false, false_and, or_true, or_false, false_or, true_or, ↓b_isLeaving, a0, a0', a1, a2]
              exact i1
          · rw [if_neg a2] at c2
            by_cases a3 : Rr 23 (8 * n + m) < Rr 23 (8 * n + g)
            · have i1 := ih fu (m + 2) m (by omega) (by omega) (by omega) (by omega) (by omega)
              rcases a1 with a1 | a1
              · simp (disch := first | omega | (simp (disch := omega) only [u3s, u3n, u3i]; omega)) only [↓rg20 hs, ↓rl20 hs, ↓rs20 hs, ↓rg23 hs, ↓rl23 hs, ↓rs23 hs, ↓r_vK hs, ↓eEq_i, ↓eLt_i, ↓eDiv_i, ↓eRem_i, ↓bI_some, ↓bR_some, ↓bV_some, ↓nN_some, ↓eBo_1, ↓eBo_0, ↓jn_eq, u3s, u3n, u3i, ↓reduceIte, Int.reduceLT, Int.reduceLE, Int.reduceEq, Int.reduceNeg, Int.reduceAdd, Int.reduceSub, Int.reduceMul, Int.reduceMod, Int.reduceDiv, not_true_eq_false, not_false_eq_true, and_self, and_true, true_and, and_false, false_and, or_true, or_false, false_or, true_or, ↓b_isLeaving, a0, a0', a1, a2, a3]
                exact i1
              · simp (disch := first | omega | (simp (disch := omega) only [u3s, u3n, u3i]; omega)) only [↓rg20 hs, ↓rl20 hs, ↓rs20 hs, ↓rg23 hs, ↓rl23 hs, ↓rs23 hs, ↓r_vK hs, ↓eEq_i, ↓eLt_i, ↓eDiv_i, ↓eRem_i, ↓bI_some, ↓bR_some, ↓bV_some, ↓nN_some, ↓eBo_1, ↓eBo_0, ↓jn_eq, u3s, u3n, u3i, ↓reduceIte, Int.reduceLT, Int.reduceLE, Int.reduceEq, Int.reduceNeg, Int.reduceAdd, Int.reduceSub, Int.reduceMul, Int.reduceMod, Int.reduceDiv, not_true_eq_false, not_false_eq_true, and_self, and_true, true_and, and_false, false_and, or_true, or_false, false_or, true_or, ↓b_isLeaving, a0, a0', a1, a2, a3]
                exact i1
            · have i1 := ih fu (m + 2) g (by omega) (by omega) (by omega) (by omega) (by omega)
              rcases a1 with a1 | a1
              · simp (disch := first | omega | (simp (disch := omega) only [u3s, u3n, u3i]; omega)) only [↓rg20 hs, ↓rl20 hs, ↓rs20 hs, ↓rg23 hs, ↓rl23 hs, ↓rs23 hs, ↓r_vK hs, ↓eEq_i, ↓eLt_i, ↓eDiv_i, ↓eRem_i, ↓bI_some, ↓bR_some, ↓bV_some, ↓nN_some, ↓eBo_1, ↓eBo_0, ↓jn_eq, u3s, u3n, u3i, ↓reduceIte, Int.reduceLT, Int.reduceLE, Int.reduceEq, Int.reduceNeg, Int.reduceAdd, Int.reduceSub, Int.reduceMul, Int.reduceMod, Int.reduceDiv, not_true_eq_false, not_false_eq_true, and_self, and_true, true_and, and_false, false_and, or_true, or_false, false_or, true_or, ↓b_isLeaving, a0, a0', a1, a2, a3]
                exact i1
              · simp (disch := first | omega | (simp (disch := omega) only [u3s, u3n, u3i]; omega)) only [↓rg20 hs, ↓rl20 hs, ↓rs20 hs, ↓rg23 hs, ↓rl23 hs, ↓rs23 hs, ↓r_vK hs, ↓eEq_i, ↓eLt_i, ↓eDiv_i, ↓eRem_i, ↓bI_some, ↓bR_some, ↓bV_some, ↓nN_some, ↓eBo_1, ↓eBo_0, ↓jn_eq, u3s, u3n, u3i, ↓reduceIte, Int.reduceLT, Int.reduceLE, Int.reduceEq, Int.reduceNeg, Int.reduceAdd, Int.reduceSub, Int.reduceMul, Int.reduceMod, Int.reduceDiv, not_true_eq_false, not_false_eq_true, and_self, and_true, true_and, and_false, false_and, or_true, or_false, false_or, true_or, ↓b_isLeaving, a0, a0', a1, a2, a3]
                exact i1
        · have i1 := ih fu (m + 2) g (by omega) (by omega) (by omega) (by omega) (by omega)
          have b1 : ¬ Rr 20 (8 * n + m) = 4 := fun e => a1 (Or.inl e)
          have b2 : ¬ Rr 20 (8 * n + m) = 7 := fun e => a1 (Or.inr e)
          simp (disch := first | omega | (simp (disch := omega) only [u3s, u3n, u3i]; omega)) only [↓rg20 hs, ↓rl20 hs, ↓rs20 hs, ↓rg23 hs, ↓rl23 hs, ↓rs23 hs, ↓r_vK hs, ↓eEq_i, ↓eLt_i, ↓eDiv_i, ↓eRem_i, ↓bI_some, ↓bR_some, ↓bV_some, ↓nN_some, ↓eBo_1, ↓eBo_0, ↓jn_eq, u3s, u3n, u3i, ↓reduceIte, Int.reduceLT, Int.reduceLE, Int.reduceEq, Int.reduceNeg, Int.reduceAdd, Int.reduceSub, Int.reduceMul, Int.reduceMod, Int.reduceDiv, not_true_eq_false, not_false_eq_true, and_self, and_true, true_and, and_false, false_and, or_true, or_false, false_or, true_or, ↓b_isLeaving, a0, a0', b1, b2]
          exact i1
theorem m_evict (hs : shR h c0) (gC : bC Rr) (S : sOK Rr 1) {n l : Int} (hn : 0 ≤ n ∧ n < 6) (hl : 0 ≤ l ∧ l ≤ 7) : f_Mo_evict (some (c0 + 373)) n l (vw h c0 Rc Rr) = some (vw h c0 Rc (nEvict Rr n l)) := by
  have hr := nEv_r (R := Rr) (n := n) 4 (l % 2) (-1) (by omega) (by omega) (by omega) (by omega)
  unfold f_Mo_evict nEvict
  rw [eRem_i (by omega) (by omega) (by omega) (by omega), m_ev7 hs gC hn 4 FU (l % 2) (-1) (by omega) (by omega) (by omega) (by omega) (by unfold FU; omega)]
  generalize nEv Rr n 4 (l % 2) (-1) = g at hr ⊢
  by_cases a0 : g = -2
  · subst a0
    rfl
  · rw [if_neg a0]
    by_cases a1 : g < 0
    · simp (disch := first | omega | (simp (disch := omega) only [u3s, u3n, u3i]; omega)) only [↓rg21 hs, ↓rl21 hs, ↓rs21 hs, ↓rg20 hs, ↓rl20 hs, ↓rs20 hs, ↓r_vK hs, ↓eEq_i, ↓eLt_i, ↓eDiv_i, ↓eRem_i, ↓bI_some, ↓bR_some, ↓bV_some, ↓nN_some, ↓eBo_1, ↓eBo_0, ↓jn_eq, u3s, u3n, u3i, ↓reduceIte, Int.reduceLT, Int.reduceLE, Int.reduceEq, Int.reduceNeg, Int.reduceAdd, Int.reduceSub, Int.reduceMul, Int.reduceMod, Int.reduceDiv, not_true_eq_false, not_false_eq_true, and_self, and_true, true_and, and_false, false_and, or_true, or_false, false_or, true_or, a1]
    · have c1 := gC (8 * n + g) (by omega) (by omega)
      by_cases a2 : Rr 20 (8 * n + g) = 7
      · simp (disch := first | omega | (simp (disch := omega) only [u3s, u3n, u3i, nSend_n]; omega)) only [↓rg21 hs, ↓rl21 hs, ↓rs21 hs, ↓rg20 hs, ↓rl20 hs, ↓rs20 hs, ↓r_vK hs, ↓eEq_i, ↓eLt_i, ↓eDiv_i, ↓eRem_i, ↓bI_some, ↓bR_some, ↓bV_some, ↓nN_some, ↓eBo_1, ↓eBo_0, ↓jn_eq, u3s, u3n, u3i, ↓reduceIte, Int.reduceLT, Int.reduceLE, Int.reduceEq, Int.reduceNeg, Int.reduceAdd, Int.reduceSub, Int.reduceMul, Int.reduceMod, Int.reduceDiv, not_true_eq_false, not_false_eq_true, and_self, and_true, true_and, and_false, false_and, or_true, or_false, false_or, true_or, ↓b_homeOf, ↓b_sendS hs (m0 := 0) S hn, nSend_n, a1, a2]
      · simp (disch := first | omega | (simp (disch := omega) only [u3s, u3n, u3i, nSend_n]; omega)) only [↓rg21 hs, ↓rl21 hs, ↓rs21 hs, ↓rg20 hs, ↓rl20 hs, ↓rs20 hs, ↓r_vK hs, ↓eEq_i, ↓eLt_i, ↓eDiv_i, ↓eRem_i, ↓bI_some, ↓bR_some, ↓bV_some, ↓nN_some, ↓eBo_1, ↓eBo_0, ↓jn_eq, u3s, u3n, u3i, ↓reduceIte, Int.reduceLT, Int.reduceLE, Int.reduceEq, Int.reduceNeg, Int.reduceAdd, Int.reduceSub, Int.reduceMul, Int.reduceMod, Int.reduceDiv, not_true_eq_false, not_false_eq_true, and_self, and_true, true_and, and_false, false_and, or_true, or_false, false_or, true_or, ↓b_homeOf, ↓b_sendS hs (m0 := 0) S hn, nSend_n, a1, a2]
theorem b_evict {α : Type} {K : ev_hs → Option α} (hs : shR h c0) (gC : bC Rr) (S : sOK Rr 1) {n l : Int} (hn : 0 ≤ n ∧ n < 6) (hl : 0 ≤ l ∧ l ≤ 7) : bV (f_Mo_evict (some (c0 + 373)) n l (vw h c0 Rc Rr)) K = K (vw h c0 Rc (nEvict Rr n l)) := by rw [m_evict hs gC S hn hl]; rfl
end RefM8
