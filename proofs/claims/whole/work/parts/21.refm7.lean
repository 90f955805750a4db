def nBk (R : RS) (q pl : Int) : Nat → Int → Int → Int
  | 0, _, b => b
  | f + 1, k, b => nBk R q pl f (k + 1) (if b = 0 then (if R 3 (R 12 (128 * q + k)) = R 3 (R 12 (128 * q + pl)) then 1 else 0) else 1)
def nBh (R : RS) (q pl : Int) : Int := nBk R q pl pl.toNat 0 0
def nTk (R : RS) (n q : Int) : Nat → Int → Int × RS
  | 0, t => (t, R)
  | m + 1, t => if nBh R q t = 0 ∧ (nTak R n (R 12 (128 * q + t))).1 = 1 then (t, (nTak R n (R 12 (128 * q + t))).2) else nTk R n q m (t + 1)
def nTF1 (R1 : RS) (q t : Int) : RS := if t = R1 13 q then R1 else nSh sX (up3 (up3 R1 1 (R1 12 (128 * q + t)) 0) 13 q (R1 13 q - 1)) (128 * q + t) (128 * q + (R1 13 q - 1))
def nTF (R : RS) (n c : Int) : RS := nTF1 (nTk R n (3 * n + c) (R 13 (3 * n + c)).toNat 0).2 (3 * n + c) (nTk R n (3 * n + c) (R 13 (3 * n + c)).toNat 0).1
def nEv (R : RS) (n : Int) : Nat → Int → Int → Int
  | 0, _, g => g
  | f + 1, m, g => if 8 ≤ R 20 (8 * n + m) then -2 else nEv R n f (m + 2) (if (R 20 (8 * n + m) = 4 ∨ R 20 (8 * n + m) = 7) ∧ (g < 0 ∨ R 23 (8 * n + m) < R 23 (8 * n + g)) then m else g)
def nEvict (R : RS) (n l : Int) : RS :=
  if nEv R n 4 (l % 2) (-1) < 0 then R
  else if R 20 (8 * n + nEv R n 4 (l % 2) (-1)) = 7 then up3 (nSend R n 3 (nEv R n 4 (l % 2) (-1)) (nEv R n 4 (l % 2) (-1) % 6) 0 (R 21 (8 * n + nEv R n 4 (l % 2) (-1))) 0) 20 (8 * n + nEv R n 4 (l % 2) (-1)) 8
  else up3 (nSend R n 2 (nEv R n 4 (l % 2) (-1)) (nEv R n 4 (l % 2) (-1) % 6) 0 (R 21 (8 * n + nEv R n 4 (l % 2) (-1))) 0) 20 (8 * n + nEv R n 4 (l % 2) (-1)) 9
def nZ (z : Int) : Int := if z = 0 then 0 else 1
def nInL (R : RS) (n : Int) : Nat → Int → Int → Int
  | 0, _, x => x
  | f + 1, m, x => nInL R n f (m + 2) (x + nZ (R 20 (8 * n + m)))
def nIn (R : RS) (n m : Int) : Int := nInL R n 4 m 0
def nCore1 (R : RS) (n o l : Int) : RS :=
  if R 20 (8 * n + l) = 7 ∨ (R 20 (8 * n + l) = 4 ∧ R 28 o = 0) then nFin R n l
  else if R 20 (8 * n + l) = 4 then up3 (nSend R n 1 l (l % 6) 0 0 0) 20 (8 * n + l) 5
  else if R 20 (8 * n + l) = 0 then
    (if nIn R n (l % 2) = 2 then nEvict R n l
     else if R 28 o = 0 then up3 (nSend R n 0 l (l % 6) 0 0 0) 20 (8 * n + l) 1
     else up3 (nSend R n 1 l (l % 6) 0 0 0) 20 (8 * n + l) 2)
  else R
def nCore (R : RS) (n : Int) : RS :=
  if R 35 n = 0 then
    (if R 34 n = R 33 n then R
     else if 0 < R 31 (40 * n + R 34 n) then up3 R 31 (40 * n + R 34 n) (R 31 (40 * n + R 34 n) - 1)
     else nCore1 R n (40 * n + R 34 n) (R 29 (40 * n + R 34 n)))
  else R
section RefM7
variable {h : ev_hs} {c0 : Nat} {Rc Rr : RS}
theorem m_bh5 (hs : shR h c0) (gP : bP Rr) (gW : bW Rr) {q pl : Int} (hq : 0 ≤ q ∧ q < 18) (hpl : 0 ≤ pl ∧ pl < 128) : ∀ (m fu : Nat) (k b : Int), 0 ≤ k → k + m = pl → (b = 0 ∨ b = 1) → m < fu → f_Mo_isBehind_5 fu (some (c0 + 373)) q pl b k (vw h c0 Rc Rr) = some (nBk Rr q pl m k b, vw h c0 Rc Rr) := by
  intro m
  induction m with
  | zero =>
    intro fu k b hk hm hb hf
    cases fu with
    | zero => omega
    | succ fu =>
      rw [f_Mo_isBehind_5, eLt_i (by omega) (by omega) (by omega) (by omega), if_neg (by omega), eBo_b hb]
      rfl
  | succ m ih =>
    intro fu k b hk hm hb hf
    cases fu with
    | zero => omega
    | succ fu =>
      have h1 := gW (128 * q + k) (by omega) (by omega)
      have h2 := gW (128 * q + pl) (by omega) (by omega)
      have h3 := gP (Rr 12 (128 * q + k)) (by omega) (by omega)
      have h4 := gP (Rr 12 (128 * q + pl)) (by omega) (by omega)
      rw [f_Mo_isBehind_5, eLt_i (by omega) (by omega) (by omega) (by omega), if_pos (by omega)]
      unfold nBk
      rcases hb with rfl | rfl
      · by_cases a1 : Rr 3 (Rr 12 (128 * q + k)) = Rr 3 (Rr 12 (128 * q + pl))
        · simp (disch := first | omega | (simp (disch := omega) only [u3s, u3n, u3i]; omega)) only [↓rg3 hs, ↓rl3 hs, ↓rs3 hs, ↓rg12 hs, ↓rl12 hs, ↓rs12 hs, ↓r_vK hs, ↓eEq_i, ↓eLt_i, ↓eDiv_i, ↓eRem_i, ↓bI_some, ↓bR_some, ↓bV_some, ↓nN_some, ↓eBo_1, ↓eBo_0, ↓jn_eq, u3s, u3n, u3i, ↓reduceIte, Int.reduceLT, Int.reduceLE, Int.reduceEq, Int.reduceNeg, Int.reduceAdd, Int.reduceSub, Int.reduceMul, Int.reduceMod, Int.reduceDiv, not_true_eq_false, not_false_eq_true, and_self, and_true, true_and, and_false, false_and, or_true, or_false, false_or, true_or, a1]
          exact ih fu (k + 1) 1 (by omega) (by omega) (by omega) (by omega)
        · simp (disch := first | omega | (simp (disch := omega) only [u3s, u3n, u3i]; omega)) only [↓rg3 hs, ↓rl3 hs, ↓rs3 hs, ↓rg12 hs, ↓rl12 hs, ↓rs12 hs, ↓r_vK hs, ↓eEq_i, ↓eLt_i, ↓eDiv_i, ↓eRem_i, ↓bI_some, ↓bR_some, ↓bV_some, ↓nN_some, ↓eBo_1, ↓eBo_0, ↓jn_eq, u3s, u3n, u3i, ↓reduceIte, Int.reduceLT, Int.reduceLE, Int.reduceEq, Int.reduceNeg, Int.reduceAdd, Int.reduceSub, Int.reduceMul, Int.reduceMod, Int.reduceDiv, not_true_eq_false, not_false_eq_true, and_self, and_true, true_and, and_false, false_and, or_true, or_false, false_or, true_or, a1]
          exact ih fu (k + 1) 0 (by omega) (by omega) (by omega) (by omega)
      · simp (disch := first | omega | (simp (disch := omega) only [u3s, u3n, u3i]; omega)) only [↓rg3 hs, ↓rl3 hs, ↓rs3 hs, ↓rg12 hs, ↓rl12 hs, ↓rs12 hs, ↓r_vK hs, ↓eEq_i, ↓eLt_i, ↓eDiv_i, ↓eRem_i, ↓bI_some, ↓bR_some, ↓bV_some, ↓nN_some, ↓eBo_1, ↓eBo_0, ↓jn_eq, u3s, u3n, u3i, ↓reduceIte, Int.reduceLT, Int.reduceLE, Int.reduceEq, Int.reduceNeg, Int.reduceAdd, Int.reduceSub, Int.reduceMul, Int.reduceMod, Int.reduceDiv, not_true_eq_false, not_false_eq_true, and_self, and_true, true_and, and_false, false_and, or_true, or_false, false_or, true_or]
        exact ih fu (k + 1) 1 (by omega) (by omega) (by omega) (by omega)
theorem m_isBehind (hs : shR h c0) (gP : bP Rr) (gW : bW Rr) {q pl : Int} (hq : 0 ≤ q ∧ q < 18) (hpl : 0 ≤ pl ∧ pl < 128) : f_Mo_isBehind (some (c0 + 373)) q pl (vw h c0 Rc Rr) = some (nBh Rr q pl, vw h c0 Rc Rr) := by
  unfold f_Mo_isBehind nBh
  exact m_bh5 hs gP gW hq hpl pl.toNat FU 0 0 (by omega) (by omega) (Or.inl rfl) (by unfold FU; omega)
theorem b_isBehind {α : Type} {K : Int → ev_hs → Option α} (hs : shR h c0) (gP : bP Rr) (gW : bW Rr) {q pl : Int} (hq : 0 ≤ q ∧ q < 18) (hpl : 0 ≤ pl ∧ pl < 128) : bI (f_Mo_isBehind (some (c0 + 373)) q pl (vw h c0 Rc Rr)) K = K (nBh Rr q pl) (vw h c0 Rc Rr) := by rw [m_isBehind hs gP gW hq hpl]; rfl
theorem nBk_b {R : RS} {q pl : Int} : ∀ (m : Nat) (k b : Int), (b = 0 ∨ b = 1) → (nBk R q pl m k b = 0 ∨ nBk R q pl m k b = 1) := by
  intro m
  induction m with
  | zero => intro k b hb; exact hb
  | succ m ih =>
    intro k b hb
    unfold nBk
    apply ih
    split
    · split <;> simp
    · simp
theorem nGets_0 {R : RS} {n l x : Int} (h : (nGets R n l x).1 = 0) : (nGets R n l x).2 = R := by
  revert h
  unfold nGets
  split
  · simp
  · split <;> simp
theorem nGetm_0 {R : RS} {n l x : Int} (h : (nGetm R n l x).1 = 0) : (nGetm R n l x).2 = R := by
  revert h
  unfold nGetm
  split
  · simp
  · split <;> simp
theorem nFwdS_0 {R : RS} {n p : Int} (h : (nFwdS R n p).1 = 0) : (nFwdS R n p).2 = R := by
  revert h
  unfold nFwdS
  split
  · simp
  · split <;> simp
theorem nFwdM_0 {R : RS} {n p : Int} (h : (nFwdM R n p).1 = 0) : (nFwdM R n p).2 = R := by
  revert h
  unfold nFwdM
  split
  · simp
  · split <;> simp
theorem nIvl_0 {R : RS} {n p : Int} (h : (nIvl R n p).1 = 0) : (nIvl R n p).2 = R := by
  revert h
  unfold nIvl
  split
  · simp
  · split
    · simp
    · split <;> simp
theorem nTak_0 {R : RS} {n p : Int} (h0 : (nTak R n p).1 = 0) : (nTak R n p).2 = R := by
  revert h0
  unfold nTak
  split
  · exact nGets_0
  split
  · exact nGetm_0
  split
  · simp
  split
  · simp
  split
  · exact nFwdS_0
  split
  · exact nFwdM_0
  split
  · exact nIvl_0
  split
  · simp
  split
  · simp
  split
  · simp
  · simp
theorem nTak_b (R : RS) (n p : Int) : (nTak R n p).1 = 0 ∨ (nTak R n p).1 = 1 := by
  unfold nTak
  split
  · exact nGets_b _ _ _ _
  split
  · exact nGetm_b _ _ _ _
  split
  · simp
  split
  · simp
  split
  · exact nFwdS_b _ _ _
  split
  · exact nFwdM_b _ _ _
  split
  · exact nIvl_b _ _ _
  split
  · simp
  split
  · simp
  split
  · simp
  · simp
theorem m_take9 (hs : shR h c0) (gP : bP Rr) (gQ : bQ Rr) (gW : bW Rr) (gC : bC Rr) (gH : bH Rr) (gO : bO Rr) (S : sOK Rr 7) {n q : Int} (hn : 0 ≤ n ∧ n < 6) (hq : 0 ≤ q ∧ q < 18) (h34 : 0 ≤ Rr 34 n) (hd : ∀ t, 0 ≤ t → t < Rr 13 q → (Rr 2 (Rr 12 (128 * q + t)) = 8 ∨ Rr 2 (Rr 12 (128 * q + t)) = 9 → Rr 34 n < 40)) {K : Option Nat → Int → Int → ev_hs → Option ev_hs} :
    ∀ (m fu : Nat) (t : Int), 0 ≤ t → t + m = Rr 13 q → m < fu → f_Mo_takeFirst_9 fu (some (c0 + 373)) n q t (vw h c0 Rc Rr) K = K (some (c0 + 373)) q (nTk Rr n q m t).1 (vw h c0 Rc (nTk Rr n q m t).2) := by
  have g1 := gQ q hq.1 hq.2
  intro m
  induction m with
  | zero =>
    intro fu t ht hm hf
    cases fu with
    | zero => omega
    | succ fu =>
      rw [f_Mo_takeFirst_9]
      simp (disch := first | omega | (simp (disch := omega) only [u3s, u3n, u3i]; omega)) only [↓rg13 hs, ↓rl13 hs, ↓rs13 hs, ↓rg12 hs, ↓rl12 hs, ↓rs12 hs, ↓r_vK hs, ↓eEq_i, ↓eLt_i, ↓eDiv_i, ↓eRem_i, ↓bI_some, ↓bR_some, ↓bV_some, ↓nN_some, ↓eBo_1, ↓eBo_0, ↓jn_eq, u3s, u3n, u3i, ↓reduceIte, Int.reduceLT, Int.reduceLE, Int.reduceEq, Int.reduceNeg, Int.reduceAdd, Int.reduceSub, Int.reduceMul, Int.reduceMod, Int.reduceDiv, not_true_eq_false, not_false_eq_true, and_self, and_true, true_and, and_false, false_and, or_true, or_false, false_or, true_or]
      rw [if_neg (by omega)]
      rfl
  | succ m ih =>
    intro fu t ht hm hf
    cases fu with
    | zero => omega
    | succ fu =>
      have h1 := gW (128 * q + t) (by omega) (by omega)
      have hb : nBh Rr q t = 0 ∨ nBh Rr q t = 1 := nBk_b _ _ _ (Or.inl rfl)
      have ht2 := nTak_b Rr n (Rr 12 (128 * q + t))
      rw [f_Mo_takeFirst_9]
      unfold nTk
      have c1 : t < Rr 13 q := by omega
      by_cases a1 : nBh Rr q t = 0
      · by_cases a2 : (nTak Rr n (Rr 12 (128 * q + t))).1 = 1
        · simp (disch := first | omega | (simp (disch := omega) only [u3s, u3n, u3i]; omega)) only [↓rg13 hs, ↓rl13 hs, ↓rs13 hs, ↓rg12 hs, ↓rl12 hs, ↓rs12 hs, ↓r_vK hs, ↓eEq_i, ↓eLt_i, ↓eDiv_i, ↓eRem_i, ↓bI_some, ↓bR_some, ↓bV_some, ↓nN_some, ↓eBo_1, ↓eBo_0, ↓jn_eq, u3s, u3n, u3i, ↓reduceIte, Int.reduceLT, Int.reduceLE, Int.reduceEq, Int.reduceNeg, Int.reduceAdd, Int.reduceSub, Int.reduceMul, Int.reduceMod, Int.reduceDiv, not_true_eq_false, not_false_eq_true, and_self, and_true, true_and, and_false, false_and, or_true, or_false, false_or, true_or, ↓b_isBehind hs gP gW hq, ↓b_takes hs gP gC gH gO S hn (p := Rr 12 (128 * q + t)) (by omega) h34 (hd t ht (by omega)), c1, a1, a2]
        · have a3 : (nTak Rr n (Rr 12 (128 * q + t))).1 = 0 := by omega
          simp (disch := first | omega | (simp (disch := omega) only [u3s, u3n, u3i]; omega)) only [↓rg13 hs, ↓rl13 hs, ↓rs13 hs, ↓rg12 hs, ↓rl12 hs, ↓rs12 hs, ↓r_vK hs, ↓eEq_i, ↓eLt_i, ↓eDiv_i, ↓eRem_i, ↓bI_some, ↓bR_some, ↓bV_some, ↓nN_some, ↓eBo_1, ↓eBo_0, ↓jn_eq, u3s, u3n, u3i, ↓reduceIte, Int.reduceLT, Int.reduceLE, Int.reduceEq, Int.reduceNeg, Int.reduceAdd, Int.reduceSub, Int.reduceMul, Int.reduceMod, Int.reduceDiv, not_true_eq_false, not_false_eq_true, and_self, and_true, true_and, and_false, false_and, or_true, or_false, false_or, true_or, ↓b_isBehind hs gP gW hq, ↓b_takes hs gP gC gH gO S hn (p := Rr 12 (128 * q + t)) (by omega) h34 (hd t ht (by omega)), c1, a1, a3, nTak_0 a3]
          exact ih fu (t + 1) (by omega) (by omega) (by omega)
      · have a4 : nBh Rr q t = 1 := by omega
        simp (disch := first | omega | (simp (disch := omega) only [u3s, u3n, u3i]; omega)) only [↓rg13 hs, ↓rl13 hs, ↓rs13 hs, ↓rg12 hs, ↓rl12 hs, ↓rs12 hs, ↓r_vK hs, ↓eEq_i, ↓eLt_i, ↓eDiv_i, ↓eRem_i, ↓bI_some, ↓bR_some, ↓bV_some, ↓nN_some, ↓eBo_1, ↓eBo_0, ↓jn_eq, u3s, u3n, u3i, ↓reduceIte, Int.reduceLT, Int.reduceLE, Int.reduceEq, Int.reduceNeg, Int.reduceAdd, Int.reduceSub, Int.reduceMul, Int.reduceMod, Int.reduceDiv, not_true_eq_false, not_false_eq_true, and_self, and_true, true_and, and_false, false_and, or_true, or_false, false_or, true_or, ↓b_isBehind hs gP gW hq, c1, a4]
        exact ih fu (t + 1) (by omega) (by omega) (by omega)
end RefM7
