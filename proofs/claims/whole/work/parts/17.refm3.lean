-- ranges
def bP (R : RS) : Prop := ∀ p, 0 ≤ p → p < 128 → (R 1 p = 0 ∨ R 1 p = 1) ∧ (0 ≤ R 2 p ∧ R 2 p ≤ 10) ∧ (0 ≤ R 3 p ∧ R 3 p ≤ 7) ∧ (0 ≤ R 4 p ∧ R 4 p ≤ 5) ∧ (0 ≤ R 5 p ∧ R 5 p ≤ 5) ∧ (0 ≤ R 6 p ∧ R 6 p ≤ 5) ∧ (-2147483648 ≤ R 7 p ∧ R 7 p < 2147483648) ∧ (0 ≤ R 8 p ∧ R 8 p ≤ 5)
def bQ (R : RS) : Prop := ∀ q, 0 ≤ q → q < 18 → (0 ≤ R 10 q ∧ R 10 q ≤ 127) ∧ (0 ≤ R 11 q ∧ R 11 q ≤ 4) ∧ (0 ≤ R 13 q ∧ R 13 q ≤ 127)
def bW (R : RS) : Prop := ∀ k, 0 ≤ k → k < 2304 → (0 ≤ R 9 k ∧ R 9 k < 128) ∧ (0 ≤ R 12 k ∧ R 12 k < 128)
def bB (R : RS) : Prop := ∀ b, 0 ≤ b → b < 90 → (0 ≤ R 17 b ∧ R 17 b ≤ R 0 0) ∧ (-1 ≤ R 18 b ∧ R 18 b ≤ 4) ∧ (0 ≤ R 19 b ∧ R 19 b ≤ 4)
def bF (R : RS) : Prop := ∀ k, 0 ≤ k → k < 360 → (0 ≤ R 14 k ∧ R 14 k < 128) ∧ (0 ≤ R 15 k ∧ R 15 k ≤ 4) ∧ (0 ≤ R 16 k ∧ R 16 k ≤ 100000)
def bC (R : RS) : Prop := ∀ k, 0 ≤ k → k < 48 → (0 ≤ R 20 k ∧ R 20 k ≤ 10) ∧ (-2147483648 ≤ R 21 k ∧ R 21 k < 2147483648) ∧ (-10 ≤ R 22 k ∧ R 22 k ≤ 10) ∧ (0 ≤ R 23 k ∧ R 23 k ≤ 100000)
def bH (R : RS) : Prop := ∀ l, 0 ≤ l → l < 8 → (0 ≤ R 24 l ∧ R 24 l ≤ 3) ∧ (-2147483648 ≤ R 25 l ∧ R 25 l < 2147483648) ∧ (-1 ≤ R 26 l ∧ R 26 l ≤ 5) ∧ (0 ≤ R 27 l ∧ R 27 l ≤ 63)
def bO (R : RS) : Prop := ∀ o, 0 ≤ o → o < 240 → (0 ≤ R 28 o ∧ R 28 o ≤ 2) ∧ (0 ≤ R 29 o ∧ R 29 o ≤ 7) ∧ (-2147483648 ≤ R 30 o ∧ R 30 o < 2147483648) ∧ (0 ≤ R 31 o ∧ R 31 o ≤ 50) ∧ (-2147483648 ≤ R 32 o ∧ R 32 o < 2147483648)
def bN (R : RS) : Prop := ∀ n, 0 ≤ n → n < 6 → (0 ≤ R 34 n ∧ R 34 n ≤ R 33 n ∧ R 33 n ≤ 40) ∧ (R 35 n = 0 ∨ R 35 n = 1)
def bG (R : RS) : Prop := (1 ≤ R 0 0 ∧ R 0 0 ≤ 4) ∧ (2 ≤ R 0 1 ∧ R 0 1 ≤ 5) ∧ (0 ≤ R 0 2 ∧ R 0 2 ≤ 100000) ∧ (0 ≤ R 0 38 ∧ R 0 38 ≤ 10000) ∧ (0 ≤ R 0 39 ∧ R 0 39 ≤ 10000) ∧ 0 ≤ R 0 40
def nNb (n o : Int) : Int := if o = 0 then n - 3 else if o = 1 then n + 1 else if o = 2 then n + 3 else n - 1
def nTg (n o c : Int) : Int := if o = 4 then -1 else 15 * nNb n o + 3 * ((o + 2) % 4) + c
def nMv1 (R : RS) (n o c p : Int) : RS := up3 (up3 (nRem R (15 * n + 3 * p + c)) 19 (15 * n + 3 * o + c) p) 18 (15 * n + 3 * o + c) (if R 15 (4 * (15 * n + 3 * p + c)) = nSz R (R 14 (4 * (15 * n + 3 * p + c))) - 1 then -1 else p)
def nMv2 (R : RS) (n o c p : Int) : Int × RS :=
  if 0 ≤ nTg n o c then (1, up3 (nApp (nMv1 R n o c p) (nTg n o c) (R 14 (4 * (15 * n + 3 * p + c))) (R 15 (4 * (15 * n + 3 * p + c)))) 0 40 (R 0 40 + 1))
  else if R 15 (4 * (15 * n + 3 * p + c)) = nSz R (R 14 (4 * (15 * n + 3 * p + c))) - 1 then (1, up3 (up3 (up3 (nMv1 R n o c p) 12 (128 * (3 * n + c) + R 13 (3 * n + c)) (R 14 (4 * (15 * n + 3 * p + c)))) 13 (3 * n + c) (R 13 (3 * n + c) + 1)) 0 39 (R 0 39 + 1))
  else (1, nMv1 R n o c p)
def nMv (R : RS) (n o c : Int) : Int × RS :=
  if nSv R n o c < 0 then (0, R)
  else if R 17 (15 * n + 3 * nSv R n o c + c) = 0 then (0, R)
  else if R 16 (4 * (15 * n + 3 * nSv R n o c + c)) = R 0 2 then (0, R)
  else if 0 ≤ nTg n o c ∧ R 17 (nTg n o c) = R 0 0 then (0, R)
  else nMv2 R n o c (nSv R n o c)
theorem nRem_n {R : RS} {b : Int} {k : Nat} {j : Int} (h : k ≠ 14 ∧ k ≠ 15 ∧ k ≠ 16 ∧ k ≠ 17) : nRem R b k j = R k j := by
  unfold nRem nSh sB
  rw [if_neg (by simp; omega), u3n (by omega)]
theorem nRem_17 {R : RS} {b j : Int} : nRem R b 17 j = if j = b then R 17 b - 1 else R 17 j := by
  unfold nRem nSh sB
  rw [if_neg (by simp)]
  simp [up3_eq]
section RefM3
variable {h : ev_hs} {c0 : Nat} {Rc Rr : RS}
theorem m_srv33 (hs : shR h c0) (gP : bP Rr) (gB : bB Rr) (gF : bF Rr) (gG : bG Rr) {n o c : Int} (hn : 0 ≤ n ∧ n < 6) (ho : 0 ≤ o ∧ o ≤ 4) (hc : 0 ≤ c ∧ c < 3) : ∀ (m fu : Nat) (k : Int), 1 ≤ k → k + m = 6 → m < fu → f_Mo_served_33 fu (some (c0 + 373)) n o c (15 * n + 3 * o + c) k (vw h c0 Rc Rr) = some (nSc Rr n o c (Rr 19 (15 * n + 3 * o + c)) m k, vw h c0 Rc Rr) := by
  intro m
  induction m with
  | zero =>
    intro fu k hk hm hf
    cases fu with
    | zero => omega
    | succ fu =>
      rw [f_Mo_served_33]
      simp (disch := omega) only [↓rg19 hs, ↓rl19 hs, ↓rs19 hs, ↓rg17 hs, ↓rl17 hs, ↓rs17 hs, ↓rg15 hs, ↓rl15 hs, ↓rs15 hs, ↓rg4 hs, ↓rl4 hs, ↓rs4 hs, ↓rg14 hs, ↓rl14 hs, ↓rs14 hs, ↓r_vK hs, ↓eEq_i, ↓eLt_i, ↓eDiv_i, ↓eRem_i, ↓bI_some, ↓bR_some, ↓bV_some, ↓nN_some, ↓eBo_1, ↓eBo_0, ↓jn_eq, u3s, u3n, u3i, ↓reduceIte, Int.reduceLT, Int.reduceLE, Int.reduceEq, Int.reduceNeg, Int.reduceAdd, Int.reduceSub, Int.reduceMul, Int.reduceMod, Int.reduceDiv, not_true_eq_false, not_false_eq_true, and_self, and_true, true_and, and_false, false_and, or_true, or_false, false_or, true_or]
      rw [if_pos (by omega)]
      rfl
  | succ m ih =>
    intro fu k hk hm hf
    cases fu with
    | zero => omega
    | succ fu =>
      have hL := (gB (15 * n + 3 * o + c) (by omega) (by omega)).2.2
      rw [f_Mo_served_33]
      have ih' := ih fu (k + 1) (by omega) (by omega) (by omega)
      unfold nSc
      generalize hE : (Rr 19 (15 * n + 3 * o + c) + k) % 5 = e
      have he : 0 ≤ e ∧ e < 5 := by omega
      have h1 := gB (15 * n + 3 * e + c) (by omega) (by omega)
      have h2 := gF (4 * (15 * n + 3 * e + c)) (by omega) (by omega)
      have h3 := gP (Rr 14 (4 * (15 * n + 3 * e + c))) (by omega) (by omega)
      have h4 := gG.1
      have hw : 0 ≤ nWay n (Rr 4 (Rr 14 (4 * (15 * n + 3 * e + c)))) ∧ nWay n (Rr 4 (Rr 14 (4 * (15 * n + 3 * e + c)))) ≤ 4 := by unfold nWay; omega
      simp (disch := omega) only [↓rg19 hs, ↓rl19 hs, ↓rs19 hs, ↓rg17 hs, ↓rl17 hs, ↓rs17 hs, ↓rg15 hs, ↓rl15 hs, ↓rs15 hs, ↓rg4 hs, ↓rl4 hs, ↓rs4 hs, ↓rg14 hs, ↓rl14 hs, ↓rs14 hs, ↓r_vK hs, ↓eEq_i, ↓eLt_i, ↓eDiv_i, ↓eRem_i, ↓bI_some, ↓bR_some, ↓bV_some, ↓nN_some, ↓eBo_1, ↓eBo_0, ↓jn_eq, u3s, u3n, u3i, ↓reduceIte, Int.reduceLT, Int.reduceLE, Int.reduceEq, Int.reduceNeg, Int.reduceAdd, Int.reduceSub, Int.reduceMul, Int.reduceMod, Int.reduceDiv, not_true_eq_false, not_false_eq_true, and_self, and_true, true_and, and_false, false_and, or_true, or_false, false_or, true_or, hE, ↓b_way hn]
      rw [if_neg (by omega), ih']
      by_cases a1 : 0 < Rr 17 (15 * n + 3 * e + c)
      · by_cases a2 : Rr 15 (4 * (15 * n + 3 * e + c)) = 0
        · by_cases a3 : nWay n (Rr 4 (Rr 14 (4 * (15 * n + 3 * e + c)))) = o
          · simp [a1, a2, a3]
          · simp [a1, a2, a3]
        · simp [a1, a2]
      · simp [a1]
theorem m_served (hs : shR h c0) (gP : bP Rr) (gB : bB Rr) (gF : bF Rr) (gG : bG Rr) {n o c : Int} (hn : 0 ≤ n ∧ n < 6) (ho : 0 ≤ o ∧ o ≤ 4) (hc : 0 ≤ c ∧ c < 3) : f_Mo_served (some (c0 + 373)) n o c (vw h c0 Rc Rr) = some (nSv Rr n o c, vw h c0 Rc Rr) := by
  have hL := (gB (15 * n + 3 * o + c) (by omega) (by omega)).2.1
  unfold f_Mo_served nSv
  simp (disch := omega) only [↓rg18 hs, ↓rl18 hs, ↓rs18 hs, ↓r_vK hs, ↓eEq_i, ↓eLt_i, ↓eDiv_i, ↓eRem_i, ↓bI_some, ↓bR_some, ↓bV_some, ↓nN_some, ↓eBo_1, ↓eBo_0, ↓jn_eq, u3s, u3n, u3i, ↓reduceIte, Int.reduceLT, Int.reduceLE, Int.reduceEq, Int.reduceNeg, Int.reduceAdd, Int.reduceSub, Int.reduceMul, Int.reduceMod, Int.reduceDiv, not_true_eq_false, not_false_eq_true, and_self, and_true, true_and, and_false, false_and, or_true, or_false, false_or, true_or, m_srv33 hs gP gB gF gG hn ho hc 5 FU 1 (by omega) (by omega) (by unfold FU; omega)]
  split <;> rfl
theorem b_served {α : Type} {K : Int → ev_hs → Option α} (hs : shR h c0) (gP : bP Rr) (gB : bB Rr) (gF : bF Rr) (gG : bG Rr) {n o c : Int} (hn : 0 ≤ n ∧ n < 6) (ho : 0 ≤ o ∧ o ≤ 4) (hc : 0 ≤ c ∧ c < 3) : bI (f_Mo_served (some (c0 + 373)) n o c (vw h c0 Rc Rr)) K = K (nSv Rr n o c) (vw h c0 Rc Rr) := by rw [m_served hs gP gB gF gG hn ho hc]; rfl
theorem nSc_r {R : RS} {n o c L : Int} : ∀ (m : Nat) (k : Int), -1 ≤ nSc R n o c L m k ∧ nSc R n o c L m k ≤ 4 := by
  intro m
  induction m with
  | zero => intro k; unfold nSc; omega
  | succ m ih =>
    intro k
    unfold nSc
    split
    · omega
    · exact ih (k + 1)
theorem m_moves (hs : shR h c0) (gP : bP Rr) (gQ : bQ Rr) (gB : bB Rr) (gF : bF Rr) (gG : bG Rr) {n o c : Int} (hn : 0 ≤ n ∧ n < 6) (ho : 0 ≤ o ∧ o ≤ 4) (hc : 0 ≤ c ∧ c < 3) (htg : o ≠ 4 → 0 ≤ nSv Rr n o c → 0 ≤ nTg n o c ∧ nTg n o c < 90) :
    f_Mo_moves (some (c0 + 373)) n o c (vw h c0 Rc Rr) = some ((nMv Rr n o c).1, vw h c0 Rc (nMv Rr n o c).2) := by
  have hr : -1 ≤ nSv Rr n o c ∧ nSv Rr n o c ≤ 4 := by
    unfold nSv
    have h1 := (gB (15 * n + 3 * o + c) (by omega) (by omega)).2.1
    have h2 := nSc_r (R := Rr) (n := n) (o := o) (c := c) (L := Rr 19 (15 * n + 3 * o + c)) 5 1
    split <;> omega
  unfold f_Mo_moves nMv
  rw [r_vK hs, b_served hs gP gB gF gG hn ho hc, eLt_i (by omega) (by omega) (by omega) (by omega)]
  generalize hp : nSv Rr n o c = p at hr htg ⊢
  by_cases h0 : p < 0
  · rw [if_pos h0, if_pos h0]; rfl
  · rw [if_neg h0, if_neg h0]
    have h1 := gB (15 * n + 3 * p + c) (by omega) (by omega)
    have h2 := gF (4 * (15 * n + 3 * p + c)) (by omega) (by omega)
    have h3 := gP (Rr 14 (4 * (15 * n + 3 * p + c))) (by omega) (by omega)
    have h4 := gQ (3 * n + c) (by omega) (by omega)
    obtain ⟨g1, g2, g3, g4, g5, g6⟩ := gG
    have hz : 1 ≤ nSz Rr (Rr 14 (4 * (15 * n + 3 * p + c))) ∧ nSz Rr (Rr 14 (4 * (15 * n + 3 * p + c))) ≤ 5 := by unfold nSz; split <;> omega
    by_cases a1 : Rr 17 (15 * n + 3 * p + c) = 0
    · simp (disch := first | omega | (simp (disch := omega) only [u3s, u3n, u3i]; omega)) only [↓rg17 hs, ↓rl17 hs, ↓rs17 hs, ↓rg16 hs, ↓rl16 hs, ↓rs16 hs, ↓rg12 hs, ↓rl12 hs, ↓rs12 hs, ↓rg13 hs, ↓rl13 hs, ↓rs13 hs, ↓rg19 hs, ↓rl19 hs, ↓rs19 hs, ↓rg18 hs, ↓rl18 hs, ↓rs18 hs, ↓rg14 hs, ↓rl14 hs, ↓rs14 hs, ↓rg15 hs, ↓rl15 hs, ↓rs15 hs, ↓ri2 hs, ↓rq2 hs, ↓ri39 hs, ↓rq39 hs, ↓ri40 hs, ↓rq40 hs, ↓ri0 hs, ↓rq0 hs, ↓r_vK hs, ↓eEq_i, ↓eLt_i, ↓eDiv_i, ↓eRem_i, ↓bI_some, ↓bR_some, ↓bV_some, ↓nN_some, ↓eBo_1, ↓eBo_0, ↓jn_eq, u3s, u3n, u3i, ↓reduceIte, Int.reduceLT, Int.reduceLE, Int.reduceEq, Int.reduceNeg, Int.reduceAdd, Int.reduceSub, Int.reduceMul, Int.reduceMod, Int.reduceDiv, not_true_eq_false, not_false_eq_true, and_self, and_true, true_and, and_false, false_and, or_true, or_false, false_or, true_or, a1]
    · by_cases a2 : Rr 16 (4 * (15 * n + 3 * p + c)) = Rr 0 2
      · simp (disch := first | omega | (simp (disch := omega) only [u3s, u3n, u3i]; omega)) only [↓rg17 hs, ↓rl17 hs, ↓rs17 hs, ↓rg16 hs, ↓rl16 hs, ↓rs16 hs, ↓rg12 hs, ↓rl12 hs, ↓rs12 hs, ↓rg13 hs, ↓rl13 hs, ↓rs13 hs, ↓rg19 hs, ↓rl19 hs, ↓rs19 hs, ↓rg18 hs, ↓rl18 hs, ↓rs18 hs, ↓rg14 hs, ↓rl14 hs, ↓rs14 hs, ↓rg15 hs, ↓rl15 hs, ↓rs15 hs, ↓ri2 hs, ↓rq2 hs, ↓ri39 hs, ↓rq39 hs, ↓ri40 hs, ↓rq40 hs, ↓ri0 hs, ↓rq0 hs, ↓r_vK hs, ↓eEq_i, ↓eLt_i, ↓eDiv_i, ↓eRem_i, ↓bI_some, ↓bR_some, ↓bV_some, ↓nN_some, ↓eBo_1, ↓eBo_0, ↓jn_eq, u3s, u3n, u3i, ↓reduceIte, Int.reduceLT, Int.reduceLE, Int.reduceEq, Int.reduceNeg, Int.reduceAdd, Int.reduceSub, Int.reduceMul, Int.reduceMod, Int.reduceDiv, not_true_eq_false, not_false_eq_true, and_self, and_true, true_and, and_false, false_and, or_true, or_false, false_or, true_or, a1, a2]
      · by_cases a3 : o = 4
        · have et : nTg n o c = -1 := by unfold nTg; rw [if_pos a3]
          by_cases a4 : Rr 15 (4 * (15 * n + 3 * p + c)) = nSz Rr (Rr 14 (4 * (15 * n + 3 * p + c))) - 1
          · simp (disch := first | omega | (simp (disch := omega) only [u3s, u3n, u3i, nRem_n]; omega)) only [↓rg17 hs, ↓rl17 hs, ↓rs17 hs, ↓rg16 hs, ↓rl16 hs, ↓rs16 hs, ↓rg12 hs, ↓rl12 hs, ↓rs12 hs, ↓rg13 hs, ↓rl13 hs, ↓rs13 hs, ↓rg19 hs, ↓rl19 hs, ↓rs19 hs, ↓rg18 hs, ↓rl18 hs, ↓rs18 hs, ↓rg14 hs, ↓rl14 hs, ↓rs14 hs, ↓rg15 hs, ↓rl15 hs, ↓rs15 hs, ↓ri2 hs, ↓rq2 hs, ↓ri39 hs, ↓rq39 hs, ↓ri40 hs, ↓rq40 hs, ↓ri0 hs, ↓rq0 hs, ↓r_vK hs, ↓eEq_i, ↓eLt_i, ↓eDiv_i, ↓eRem_i, ↓bI_some, ↓bR_some, ↓bV_some, ↓nN_some, ↓eBo_1, ↓eBo_0, ↓jn_eq, u3s, u3n, u3i, ↓reduceIte, Int.reduceLT, Int.reduceLE, Int.reduceEq, Int.reduceNeg, Int.reduceAdd, Int.reduceSub, Int.reduceMul, Int.reduceMod, Int.reduceDiv, not_true_eq_false, not_false_eq_true, and_self, and_true, true_and, and_false, false_and, or_true, or_false, false_or, true_or, ↓b_sizeOf hs, ↓b_removeFront hs, nRem_n, a1, a2, a3, a4]
            unfold nMv2 nMv1
            subst a3
            simp [et, a4]
          · simp (disch := first | omega | (simp (disch := omega) only [u3s, u3n, u3i, nRem_n]; omega)) only [↓rg17 hs, ↓rl17 hs, ↓rs17 hs, ↓rg16 hs, ↓rl16 hs, ↓rs16 hs, ↓rg12 hs, ↓rl12 hs, ↓rs12 hs, ↓rg13 hs, ↓rl13 hs, ↓rs13 hs, ↓rg19 hs, ↓rl19 hs, ↓rs19 hs, ↓rg18 hs, ↓rl18 hs, ↓rs18 hs, ↓rg14 hs, ↓rl14 hs, ↓rs14 hs, ↓rg15 hs, ↓rl15 hs, ↓rs15 hs, ↓ri2 hs, ↓rq2 hs, ↓ri39 hs, ↓rq39 hs, ↓ri40 hs, ↓rq40 hs, ↓ri0 hs, ↓rq0 hs, ↓r_vK hs, ↓eEq_i, ↓eLt_i, ↓eDiv_i, ↓eRem_i, ↓bI_some, ↓bR_some, ↓bV_some, ↓nN_some, ↓eBo_1, ↓eBo_0, ↓jn_eq, u3s, u3n, u3i, ↓reduceIte, Int.reduceLT, Int.reduceLE, Int.reduceEq, Int.reduceNeg, Int.reduceAdd, Int.reduceSub, Int.reduceMul, Int.reduceMod, Int.reduceDiv, not_true_eq_false, not_false_eq_true, and_self, and_true, true_and, and_false, false_and, or_true, or_false, false_or, true_or, ↓b_sizeOf hs, ↓b_removeFront hs, nRem_n, a1, a2, a3, a4]
            unfold nMv2 nMv1
            subst a3
            simp [et, a4]
        · have ht := htg a3 (by omega)
          have et : nTg n o c = 15 * (if o = 0 then n - 3 else if o = 1 then n + 1 else if o = 2 then n + 3 else n - 1) + 3 * ((o + 2) % 4) + c := by unfold nTg; rw [if_neg a3]; rfl
          have h5 := gB (nTg n o c) ht.1 ht.2
          have h6 : ¬ nTg n o c < 0 := by omega
          by_cases a5 : Rr 17 (nTg n o c) = Rr 0 0
          · simp (disch := first | omega | (simp (disch := omega) only [u3s, u3n, u3i, nRem_n]; omega)) only [↓rg17 hs, ↓rl17 hs, ↓rs17 hs, ↓rg16 hs, ↓rl16 hs, ↓rs16 hs, ↓rg12 hs, ↓rl12 hs, ↓rs12 hs, ↓rg13 hs, ↓rl13 hs, ↓rs13 hs, ↓rg19 hs, ↓rl19 hs, ↓rs19 hs, ↓rg18 hs, ↓rl18 hs, ↓rs18 hs, ↓rg14 hs, ↓rl14 hs, ↓rs14 hs, ↓rg15 hs, ↓rl15 hs, ↓rs15 hs, ↓ri2 hs, ↓rq2 hs, ↓ri39 hs, ↓rq39 hs, ↓ri40 hs, ↓rq40 hs, ↓ri0 hs, ↓rq0 hs, ↓r_vK hs, ↓eEq_i, ↓eLt_i, ↓eDiv_i, ↓eRem_i, ↓bI_some, ↓bR_some, ↓bV_some, ↓nN_some, ↓eBo_1, ↓eBo_0, ↓jn_eq, u3s, u3n, u3i, ↓reduceIte, Int.reduceLT, Int.reduceLE, Int.reduceEq, Int.reduceNeg, Int.reduceAdd, Int.reduceSub, Int.reduceMul, Int.reduceMod, Int.reduceDiv, not_true_eq_false, not_false_eq_true, and_self, and_true, true_and, and_false, false_and, or_true, or_false, false_or, true_or, ↓b_neighbour ho, a1, a2, a3, ← et, h6, a5, ht.1]
          · have h7 : nRem Rr (15 * n + 3 * p + c) 17 (nTg n o c) ≤ 3 ∧ 0 ≤ nRem Rr (15 * n + 3 * p + c) 17 (nTg n o c) := by
              rw [nRem_17]
              split
              · rename_i e9; rw [← e9]; omega
              · omega
            by_cases a4 : Rr 15 (4 * (15 * n + 3 * p + c)) = nSz Rr (Rr 14 (4 * (15 * n + 3 * p + c))) - 1
            · simp (disch := first | omega | (simp (disch := omega) only [u3s, u3n, u3i, nRem_n]; omega)) only [↓rg17 hs, ↓rl17 hs, ↓rs17 hs, ↓rg16 hs, ↓rl16 hs, ↓rs16 hs, ↓rg12 hs, ↓rl12 hs, ↓rs12 hs, ↓rg13 hs, ↓rl13 hs, ↓rs13 hs, ↓rg19 hs, ↓rl19 hs, ↓rs19 hs, ↓rg18 hs, ↓rl18 hs, ↓rs18 hs, ↓rg14 hs, ↓rl14 hs, ↓rs14 hs, ↓rg15 hs, ↓rl15 hs, ↓rs15 hs, ↓ri2 hs, ↓rq2 hs, ↓ri39 hs, ↓rq39 hs, ↓ri40 hs, ↓rq40 hs, ↓ri0 hs, ↓rq0 hs, ↓r_vK hs, ↓eEq_i, ↓eLt_i, ↓eDiv_i, ↓eRem_i, ↓bI_some, ↓bR_some, ↓bV_some, ↓nN_some, ↓eBo_1, ↓eBo_0, ↓jn_eq, u3s, u3n, u3i, ↓reduceIte, Int.reduceLT, Int.reduceLE, Int.reduceEq, Int.reduceNeg, Int.reduceAdd, Int.reduceSub, Int.reduceMul, Int.reduceMod, Int.reduceDiv, not_true_eq_false, not_false_eq_true, and_self, and_true, true_and, and_false, false_and, or_true, or_false, false_or, true_or, ↓b_neighbour ho, ↓b_sizeOf hs, ↓b_removeFront hs, ↓b_append hs, nRem_n, nApp_n, a1, a2, a3, ← et, h6, a5, ht.1, a4]
              unfold nMv2 nMv1
              simp [ht.1, a4]
            · simp (disch := first | omega | (simp (disch := omega) only [u3s, u3n, u3i, nRem_n]; omega)) only [↓rg17 hs, ↓rl17 hs, ↓rs17 hs, ↓rg16 hs, ↓rl16 hs, ↓rs16 hs, ↓rg12 hs, ↓rl12 hs, ↓rs12 hs, ↓rg13 hs, ↓rl13 hs, ↓rs13 hs, ↓rg19 hs, ↓rl19 hs, ↓rs19 hs, ↓rg18 hs, ↓rl18 hs, ↓rs18 hs, ↓rg14 hs, ↓rl14 hs, ↓rs14 hs, ↓rg15 hs, ↓rl15 hs, ↓rs15 hs, ↓ri2 hs, ↓rq2 hs, ↓ri39 hs, ↓rq39 hs, ↓ri40 hs, ↓rq40 hs, ↓ri0 hs, ↓rq0 hs, ↓r_vK hs, ↓eEq_i, ↓eLt_i, ↓eDiv_i, ↓eRem_i, ↓bI_some, ↓bR_some, ↓bV_some, ↓nN_some, ↓eBo_1, ↓eBo_0, ↓jn_eq, u3s, u3n, u3i, ↓reduceIte, Int.reduceLT, Int.reduceLE, Int.reduceEq, Int.reduceNeg, Int.reduceAdd, Int.reduceSub, Int.reduceMul, Int.reduceMod, Int.reduceDiv, not_true_eq_false, not_false_eq_true, and_self, and_true, true_and, and_false, false_and, or_true, or_false, false_or, true_or, ↓b_neighbour ho, ↓b_sizeOf hs, ↓b_removeFront hs, ↓b_append hs, nRem_n, nApp_n, a1, a2, a3, ← et, h6, a5, ht.1, a4]
              unfold nMv2 nMv1
              simp [ht.1, a4]
theorem b_moves {α : Type} {K : Int → ev_hs → Option α} (hs : shR h c0) (gP : bP Rr) (gQ : bQ Rr) (gB : bB Rr) (gF : bF Rr) (gG : bG Rr) {n o c : Int} (hn : 0 ≤ n ∧ n < 6) (ho : 0 ≤ o ∧ o ≤ 4) (hc : 0 ≤ c ∧ c < 3) (htg : o ≠ 4 → 0 ≤ nSv Rr n o c → 0 ≤ nTg n o c ∧ nTg n o c < 90) : bI (f_Mo_moves (some (c0 + 373)) n o c (vw h c0 Rc Rr)) K = K ((nMv Rr n o c).1) (vw h c0 Rc (nMv Rr n o c).2) := by rw [m_moves hs gP gQ gB gF gG hn ho hc htg]; rfl
end RefM3
