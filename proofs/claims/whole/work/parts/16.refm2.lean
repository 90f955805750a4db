-- the places lo .. hi - 1 of the arrays s take what stands behind them
def nSh (s : Nat → Bool) (R : RS) (lo hi : Int) : RS := fun a j => if s a = true ∧ lo ≤ j ∧ j < hi then R a (j + 1) else R a j
def sB (a : Nat) : Bool := a == 14 || a == 15 || a == 16
def sW (a : Nat) : Bool := a == 9
def sX (a : Nat) : Bool := a == 12
theorem nSh_0 {s : Nat → Bool} {R : RS} {lo hi : Int} (h : hi ≤ lo) : nSh s R lo hi = R := by
  funext a j
  unfold nSh
  rw [if_neg (by omega)]
theorem nSh_B {R : RS} {k hi : Int} (h : k < hi) : nSh sB (up3 (up3 (up3 R 14 k (R 14 (k + 1))) 15 k (R 15 (k + 1))) 16 k (R 16 (k + 1))) (k + 1) hi = nSh sB R k hi := by
  funext a j
  unfold nSh up3 sB
  grind
theorem nSh_W {R : RS} {k hi : Int} (h : k < hi) : nSh sW (up3 R 9 k (R 9 (k + 1))) (k + 1) hi = nSh sW R k hi := by
  funext a j
  unfold nSh up3 sW
  grind
theorem nSh_X {R : RS} {k hi : Int} (h : k < hi) : nSh sX (up3 R 12 k (R 12 (k + 1))) (k + 1) hi = nSh sX R k hi := by
  funext a j
  unfold nSh up3 sX
  grind
def nRem (R : RS) (b : Int) : RS := nSh sB (up3 R 17 b (R 17 b - 1)) (4 * b) (4 * b + (R 17 b - 1))
def nFr (R : RS) : Nat → Int → Int
  | 0, p => p
  | f + 1, p => if R 1 p = 0 then p else nFr R f (p + 1)
def nFree (R : RS) : Int := nFr R 128 0
def nSend (R : RS) (n k l t w v m : Int) : RS :=
  up3 (up3 (up3 (up3 (up3 (up3 (up3 (up3 (up3 (up3 (up3 R 1 (nFree R) 1) 2 (nFree R) k) 3 (nFree R) l) 4 (nFree R) t) 5 (nFree R) n) 6 (nFree R) w) 7 (nFree R) v) 8 (nFree R) m) 9 (128 * (3 * n + nCh k) + R 10 (3 * n + nCh k)) (nFree R)) 10 (3 * n + nCh k) (R 10 (3 * n + nCh k) + 1)) 0 38 (R 0 38 + 1)
def nInj (R : RS) (n c : Int) : RS :=
  if R 10 (3 * n + c) = 0 then R else if R 17 (15 * n + 12 + c) = R 0 0 then R
  else if R 11 (3 * n + c) + 1 = nSz R (R 9 (128 * (3 * n + c))) then
    nSh sW (up3 (up3 (nApp R (15 * n + 12 + c) (R 9 (128 * (3 * n + c))) (R 11 (3 * n + c))) 11 (3 * n + c) 0) 10 (3 * n + c) (R 10 (3 * n + c) - 1)) (128 * (3 * n + c)) (128 * (3 * n + c) + (R 10 (3 * n + c) - 1))
  else up3 (nApp R (15 * n + 12 + c) (R 9 (128 * (3 * n + c))) (R 11 (3 * n + c))) 11 (3 * n + c) (R 11 (3 * n + c) + 1)
-- has the port p at node n a head in front whose way is output o
def nHd (R : RS) (n o c p : Int) : Prop := 0 < R 17 (15 * n + 3 * p + c) ∧ R 15 (4 * (15 * n + 3 * p + c)) = 0 ∧ nWay n (R 4 (R 14 (4 * (15 * n + 3 * p + c)))) = o
def nSc (R : RS) (n o c L : Int) : Nat → Int → Int
  | 0, _ => -1
  | f + 1, k => if 0 < R 17 (15 * n + 3 * ((L + k) % 5) + c) ∧ R 15 (4 * (15 * n + 3 * ((L + k) % 5) + c)) = 0 ∧ nWay n (R 4 (R 14 (4 * (15 * n + 3 * ((L + k) % 5) + c)))) = o then (L + k) % 5 else nSc R n o c L f (k + 1)
def nSv (R : RS) (n o c : Int) : Int := if R 18 (15 * n + 3 * o + c) < 0 then nSc R n o c (R 19 (15 * n + 3 * o + c)) 5 1 else R 18 (15 * n + 3 * o + c)
theorem u3_u3 {R : RS} {k : Nat} {i z y : Int} : up3 (up3 R k i z) k i y = up3 R k i y := by
  funext a j
  unfold up3
  grind
theorem nApp_n {R : RS} {b p m : Int} {k : Nat} {j : Int} (h : k ≠ 14 ∧ k ≠ 15 ∧ k ≠ 16 ∧ k ≠ 17) : nApp R b p m k j = R k j := by
  unfold nApp
  simp [up3_eq, h]
theorem nSz_u {R : RS} {k : Nat} {i z p : Int} (h : k ≠ 0 ∧ k ≠ 2) : nSz (up3 R k i z) p = nSz R p := by
  unfold nSz
  rw [u3n (by omega), u3n (by omega)]
theorem nSz_app {R : RS} {b p m x : Int} : nSz (nApp R b p m) x = nSz R x := by
  unfold nSz
  rw [nApp_n (by omega), nApp_n (by omega)]
section RefM2
variable {h : ev_hs} {c0 : Nat} {Rc Rr : RS}
theorem m_rem14 (hs : shR h c0) {b : Int} (hb : 0 ≤ b ∧ b < 90) : ∀ (m fu : Nat) (k : Int) (R : RS), 4 * b ≤ k → k ≤ 4 * b + R 17 b → 0 ≤ R 17 b ∧ R 17 b ≤ 3 → (4 * b + R 17 b - k).toNat = m → m < fu → f_Mo_removeFront_14 fu (some (c0 + 373)) b k (vw h c0 Rc R) = some (vw h c0 Rc (nSh sB R k (4 * b + R 17 b))) := by
  intro m
  induction m with
  | zero =>
    intro fu k R hk hk2 hc hm hf
    cases fu with
    | zero => omega
    | succ fu =>
      rw [f_Mo_removeFront_14]
      simp (disch := omega) only [↓rg17 hs, ↓rl17 hs, ↓rs17 hs, ↓rg14 hs, ↓rl14 hs, ↓rs14 hs, ↓rg15 hs, ↓rl15 hs, ↓rs15 hs, ↓rg16 hs, ↓rl16 hs, ↓rs16 hs, ↓r_vK hs, ↓eEq_i, ↓eLt_i, ↓eDiv_i, ↓eRem_i, ↓bI_some, ↓bR_some, ↓bV_some, ↓nN_some, ↓eBo_1, ↓eBo_0, ↓jn_eq, u3s, u3n, u3i, ↓reduceIte, Int.reduceLT, Int.reduceLE, Int.reduceEq, Int.reduceNeg, Int.reduceAdd, Int.reduceSub, Int.reduceMul, Int.reduceMod, Int.reduceDiv, not_true_eq_false, not_false_eq_true, and_self, and_true, true_and, and_false, false_and, or_true, or_false, false_or, true_or]
      rw [if_neg (by omega), nSh_0 (by omega)]
  | succ m ih =>
    intro fu k R hk hk2 hc hm hf
    cases fu with
    | zero => omega
    | succ fu =>
      rw [f_Mo_removeFront_14]
      simp (disch := omega) only [↓rg17 hs, ↓rl17 hs, ↓rs17 hs, ↓rg14 hs, ↓rl14 hs, ↓rs14 hs, ↓rg15 hs, ↓rl15 hs, ↓rs15 hs, ↓rg16 hs, ↓rl16 hs, ↓rs16 hs, ↓r_vK hs, ↓eEq_i, ↓eLt_i, ↓eDiv_i, ↓eRem_i, ↓bI_some, ↓bR_some, ↓bV_some, ↓nN_some, ↓eBo_1, ↓eBo_0, ↓jn_eq, u3s, u3n, u3i, ↓reduceIte, Int.reduceLT, Int.reduceLE, Int.reduceEq, Int.reduceNeg, Int.reduceAdd, Int.reduceSub, Int.reduceMul, Int.reduceMod, Int.reduceDiv, not_true_eq_false, not_false_eq_true, and_self, and_true, true_and, and_false, false_and, or_true, or_false, false_or, true_or]
      rw [if_pos (by omega)]
      have e2 : up3 (up3 (up3 R 14 k (R 14 (k + 1))) 15 k (R 15 (k + 1))) 16 k (R 16 (k + 1)) 17 b = R 17 b := by simp [up3_eq]
      rw [ih fu (k + 1) _ (by omega) (by omega) (by omega) (by omega) (by omega), e2, nSh_B (by omega)]
theorem m_removeFront (hs : shR h c0) {b : Int} (hb : 0 ≤ b ∧ b < 90) (hc : 1 ≤ Rr 17 b ∧ Rr 17 b ≤ 4) : f_Mo_removeFront (some (c0 + 373)) b (vw h c0 Rc Rr) = some (vw h c0 Rc (nRem Rr b)) := by
  simp (disch := omega) only [f_Mo_removeFront, ↓rg17 hs, ↓rl17 hs, ↓rs17 hs, ↓r_vK hs, ↓eEq_i, ↓eLt_i, ↓eDiv_i, ↓eRem_i, ↓bI_some, ↓bR_some, ↓bV_some, ↓nN_some, ↓eBo_1, ↓eBo_0, ↓jn_eq, u3s, u3n, u3i, ↓reduceIte, Int.reduceLT, Int.reduceLE, Int.reduceEq, Int.reduceNeg, Int.reduceAdd, Int.reduceSub, Int.reduceMul, Int.reduceMod, Int.reduceDiv, not_true_eq_false, not_false_eq_true, and_self, and_true, true_and, and_false, false_and, or_true, or_false, false_or, true_or]
  have e : up3 Rr 17 b (Rr 17 b - 1) 17 b = Rr 17 b - 1 := by simp [up3_eq]
  rw [m_rem14 hs hb (4 * b + up3 Rr 17 b (Rr 17 b - 1) 17 b - 4 * b).toNat FU (4 * b) _ (by omega) (by rw [e]; omega) (by rw [e]; omega) rfl (by rw [e]; unfold FU; omega), e]
  rfl
theorem b_removeFront {α : Type} {K : ev_hs → Option α} (hs : shR h c0) {b : Int} (hb : 0 ≤ b ∧ b < 90) (hc : 1 ≤ Rr 17 b ∧ Rr 17 b ≤ 4) : bV (f_Mo_removeFront (some (c0 + 373)) b (vw h c0 Rc Rr)) K = K (vw h c0 Rc (nRem Rr b)) := by rw [m_removeFront hs hb hc]; rfl
theorem m_inj116 (hs : shR h c0) {q : Int} (hq : 0 ≤ q ∧ q < 18) : ∀ (m fu : Nat) (k : Int) (R : RS), 128 * q ≤ k → k ≤ 128 * q + R 10 q → 0 ≤ R 10 q ∧ R 10 q ≤ 127 → (128 * q + R 10 q - k).toNat = m → m < fu → f_Mo_inject_116 fu (some (c0 + 373)) q k (vw h c0 Rc R) = some (vw h c0 Rc (nSh sW R k (128 * q + R 10 q))) := by
  intro m
  induction m with
  | zero =>
    intro fu k R hk hk2 hc hm hf
    cases fu with
    | zero => omega
    | succ fu =>
      rw [f_Mo_inject_116]
      simp (disch := omega) only [↓rg10 hs, ↓rl10 hs, ↓rs10 hs, ↓rg9 hs, ↓rl9 hs, ↓rs9 hs, ↓r_vK hs, ↓eEq_i, ↓eLt_i, ↓eDiv_i, ↓eRem_i, ↓bI_some, ↓bR_some, ↓bV_some, ↓nN_some, ↓eBo_1, ↓eBo_0, ↓jn_eq, u3s, u3n, u3i, ↓reduceIte, Int.reduceLT, Int.reduceLE, Int.reduceEq, Int.reduceNeg, Int.reduceAdd, Int.reduceSub, Int.reduceMul, Int.reduceMod, Int.reduceDiv, not_true_eq_false, not_false_eq_true, and_self, and_true, true_and, and_false, false_and, or_true, or_false, false_or, true_or]
      rw [if_neg (by omega), nSh_0 (by omega)]
  | succ m ih =>
    intro fu k R hk hk2 hc hm hf
    cases fu with
    | zero => omega
    | succ fu =>
      rw [f_Mo_inject_116]
      simp (disch := omega) only [↓rg10 hs, ↓rl10 hs, ↓rs10 hs, ↓rg9 hs, ↓rl9 hs, ↓rs9 hs, ↓r_vK hs, ↓eEq_i, ↓eLt_i, ↓eDiv_i, ↓eRem_i, ↓bI_some, ↓bR_some, ↓bV_some, ↓nN_some, ↓eBo_1, ↓eBo_0, ↓jn_eq, u3s, u3n, u3i, ↓reduceIte, Int.reduceLT, Int.reduceLE, Int.reduceEq, Int.reduceNeg, Int.reduceAdd, Int.reduceSub, Int.reduceMul, Int.reduceMod, Int.reduceDiv, not_true_eq_false, not_false_eq_true, and_self, and_true, true_and, and_false, false_and, or_true, or_false, false_or, true_or]
      rw [if_pos (by omega)]
      have e2 : up3 R 9 k (R 9 (k + 1)) 10 q = R 10 q := by simp [up3_eq]
      rw [ih fu (k + 1) _ (by omega) (by omega) (by omega) (by omega) (by omega), e2, nSh_W (by omega)]
theorem m_take108 (hs : shR h c0) {q : Int} (hq : 0 ≤ q ∧ q < 18) : ∀ (m fu : Nat) (k : Int) (R : RS), 128 * q ≤ k → k ≤ 128 * q + R 13 q → 0 ≤ R 13 q ∧ R 13 q ≤ 127 → (128 * q + R 13 q - k).toNat = m → m < fu → f_Mo_takeFirst_108 fu (some (c0 + 373)) q k (vw h c0 Rc R) = some (vw h c0 Rc (nSh sX R k (128 * q + R 13 q))) := by
  intro m
  induction m with
  | zero =>
    intro fu k R hk hk2 hc hm hf
    cases fu with
    | zero => omega
    | succ fu =>
      rw [f_Mo_takeFirst_108]
      simp (disch := omega) only [↓rg13 hs, ↓rl13 hs, ↓rs13 hs, ↓rg12 hs, ↓rl12 hs, ↓rs12 hs, ↓r_vK hs, ↓eEq_i, ↓eLt_i, ↓eDiv_i, ↓eRem_i, ↓bI_some, ↓bR_some, ↓bV_some, ↓nN_some, ↓eBo_1, ↓eBo_0, ↓jn_eq, u3s, u3n, u3i, ↓reduceIte, Int.reduceLT, Int.reduceLE, Int.reduceEq, Int.reduceNeg, Int.reduceAdd, Int.reduceSub, Int.reduceMul, Int.reduceMod, Int.reduceDiv, not_true_eq_false, not_false_eq_true, and_self, and_true, true_and, and_false, false_and, or_true, or_false, false_or, true_or]
      rw [if_neg (by omega), nSh_0 (by omega)]
  | succ m ih =>
    intro fu k R hk hk2 hc hm hf
    cases fu with
    | zero => omega
    | succ fu =>
      rw [f_Mo_takeFirst_108]
      simp (disch := omega) only [↓rg13 hs, ↓rl13 hs, ↓rs13 hs, ↓rg12 hs, ↓rl12 hs, ↓rs12 hs, ↓r_vK hs, ↓eEq_i, ↓eLt_i, ↓eDiv_i, ↓eRem_i, ↓bI_some, ↓bR_some, ↓bV_some, ↓nN_some, ↓eBo_1, ↓eBo_0, ↓jn_eq, u3s, u3n, u3i, ↓reduceIte, Int.reduceLT, Int.reduceLE, Int.reduceEq, Int.reduceNeg, Int.reduceAdd, Int.reduceSub, Int.reduceMul, Int.reduceMod, Int.reduceDiv, not_true_eq_false, not_false_eq_true, and_self, and_true, true_and, and_false, false_and, or_true, or_false, false_or, true_or]
      rw [if_pos (by omega)]
      have e2 : up3 R 12 k (R 12 (k + 1)) 13 q = R 13 q := by simp [up3_eq]
      rw [ih fu (k + 1) _ (by omega) (by omega) (by omega) (by omega) (by omega), e2, nSh_X (by omega)]
theorem m_send3 (hs : shR h c0) (hl : ∀ p, 0 ≤ p → p < 128 → Rr 1 p = 0 ∨ Rr 1 p = 1) {x1 x2 x3 x4 x5 x6 x7 : Int} {K : Option Nat → Int → Int → Int → Int → Int → Int → Int → Int → ev_hs → Option ev_hs} : ∀ (m fu : Nat) (p : Int), 0 ≤ p → p + m = 128 → nFr Rr m p < 128 → m < fu → f_Mo_send_3 fu (some (c0 + 373)) x1 x2 x3 x4 x5 x6 x7 p (vw h c0 Rc Rr) K = K (some (c0 + 373)) x1 x2 x3 x4 x5 x6 x7 (nFr Rr m p) (vw h c0 Rc Rr) := by
  intro m
  induction m with
  | zero =>
    intro fu p hp hm hf hfu
    unfold nFr at hf
    omega
  | succ m ih =>
    intro fu p hp hm hf hfu
    cases fu with
    | zero => omega
    | succ fu =>
      have hb := hl p hp (by omega)
      rw [f_Mo_send_3]
      simp (disch := omega) only [↓rg1 hs, ↓rl1 hs, ↓rs1 hs, ↓r_vK hs, ↓eEq_i, ↓eLt_i, ↓eDiv_i, ↓eRem_i, ↓bI_some, ↓bR_some, ↓bV_some, ↓nN_some, ↓eBo_1, ↓eBo_0, ↓jn_eq, u3s, u3n, u3i, ↓reduceIte, Int.reduceLT, Int.reduceLE, Int.reduceEq, Int.reduceNeg, Int.reduceAdd, Int.reduceSub, Int.reduceMul, Int.reduceMod, Int.reduceDiv, not_true_eq_false, not_false_eq_true, and_self, and_true, true_and, and_false, false_and, or_true, or_false, false_or, true_or]
      unfold nFr at hf ⊢
      by_cases h0 : Rr 1 p = 0
      · rw [if_pos h0, if_pos h0]
      · rw [if_neg h0] at hf
        rw [if_neg h0, if_neg h0]
        exact ih fu (p + 1) (by omega) (by omega) hf (by omega)
theorem nFr_ge (R : RS) : ∀ (m : Nat) (p : Int), p ≤ nFr R m p := by
  intro m
  induction m with
  | zero => intro p; exact Int.le_refl _
  | succ m ih =>
    intro p
    unfold nFr
    split
    · exact Int.le_refl _
    · have := ih (p + 1)
      omega
theorem m_send (hs : shR h c0) (hl : ∀ p, 0 ≤ p → p < 128 → Rr 1 p = 0 ∨ Rr 1 p = 1) (hf : nFree Rr < 128) {n k l t w v m : Int} (hn : 0 ≤ n ∧ n < 6) (hk : 0 ≤ k ∧ k ≤ 10) (hr : 0 ≤ Rr 10 (3 * n + nCh k) ∧ Rr 10 (3 * n + nCh k) < 128) : f_Mo_send (some (c0 + 373)) n k l t w v m (vw h c0 Rc Rr) = some (vw h c0 Rc (nSend Rr n k l t w v m)) := by
  have hc : 0 ≤ nCh k ∧ nCh k ≤ 2 := by unfold nCh; omega
  have h0 : 0 ≤ nFree Rr := nFr_ge Rr 128 0
  unfold f_Mo_send
  rw [m_send3 hs hl 128 FU 0 (by omega) (by omega) hf (by unfold FU; omega)]
  have e0 : nFr Rr 128 0 = nFree Rr := rfl
  rw [e0]
  unfold nSend
  generalize nFree Rr = p at hf h0 e0 ⊢
  simp (disch := omega) only [↓rg1 hs, ↓rl1 hs, ↓rs1 hs, ↓rg2 hs, ↓rl2 hs, ↓rs2 hs, ↓rg3 hs, ↓rl3 hs, ↓rs3 hs, ↓rg4 hs, ↓rl4 hs, ↓rs4 hs, ↓rg5 hs, ↓rl5 hs, ↓rs5 hs, ↓rg6 hs, ↓rl6 hs, ↓rs6 hs, ↓rg7 hs, ↓rl7 hs, ↓rs7 hs, ↓rg8 hs, ↓rl8 hs, ↓rs8 hs, ↓rg9 hs, ↓rl9 hs, ↓rs9 hs, ↓rg10 hs, ↓rl10 hs, ↓rs10 hs, ↓ri38 hs, ↓rq38 hs, ↓r_vK hs, ↓eEq_i, ↓eLt_i, ↓eDiv_i, ↓eRem_i, ↓bI_some, ↓bR_some, ↓bV_some, ↓nN_some, ↓eBo_1, ↓eBo_0, ↓jn_eq, u3s, u3n, u3i, ↓reduceIte, Int.reduceLT, Int.reduceLE, Int.reduceEq, Int.reduceNeg, Int.reduceAdd, Int.reduceSub, Int.reduceMul, Int.reduceMod, Int.reduceDiv, not_true_eq_false, not_false_eq_true, and_self, and_true, true_and, and_false, false_and, or_true, or_false, false_or, true_or, ↓b_channelOf hk]
theorem b_send {α : Type} {K : ev_hs → Option α} (hs : shR h c0) (hl : ∀ p, 0 ≤ p → p < 128 → Rr 1 p = 0 ∨ Rr 1 p = 1) (hf : nFree Rr < 128) {n k l t w v m : Int} (hn : 0 ≤ n ∧ n < 6) (hk : 0 ≤ k ∧ k ≤ 10) (hr : 0 ≤ Rr 10 (3 * n + nCh k) ∧ Rr 10 (3 * n + nCh k) < 128) : bV (f_Mo_send (some (c0 + 373)) n k l t w v m (vw h c0 Rc Rr)) K = K (vw h c0 Rc (nSend Rr n k l t w v m)) := by rw [m_send hs hl hf hn hk hr]; rfl
theorem m_neighbour {n o : Int} {g : ev_hs} (ho : 0 ≤ o ∧ o ≤ 4) : f_Mo_neighbour n o g = some ((if o = 0 then n - 3 else if o = 1 then n + 1 else if o = 2 then n + 3 else n - 1), g) := by
  simp (disch := omega) only [f_Mo_neighbour, eEq_i, jn_eq]
  repeat' (first | rfl | split)
theorem b_neighbour {α : Type} {K : Int → ev_hs → Option α} {n o : Int} {g : ev_hs} (ho : 0 ≤ o ∧ o ≤ 4) : bI (f_Mo_neighbour n o g) K = K ((if o = 0 then n - 3 else if o = 1 then n + 1 else if o = 2 then n + 3 else n - 1)) (g) := by rw [m_neighbour ho]; rfl
theorem m_homeOf {l : Int} {g : ev_hs} (hl : 0 ≤ l ∧ l ≤ 7) : f_Mo_homeOf l g = some (l % 6, g) := by
  simp (disch := omega) only [f_Mo_homeOf, eRem_i]
theorem b_homeOf {α : Type} {K : Int → ev_hs → Option α} {l : Int} {g : ev_hs} (hl : 0 ≤ l ∧ l ≤ 7) : bI (f_Mo_homeOf l g) K = K (l % 6) (g) := by rw [m_homeOf hl]; rfl
theorem m_isLeaving {z : Int} {g : ev_hs} (hz : 0 ≤ z ∧ z ≤ 10) : f_Mo_isLeaving z g = some ((if z < 8 then 0 else 1), g) := by
  simp (disch := omega) only [f_Mo_isLeaving, eLt_i, jn_eq]
  split <;> rfl
theorem b_isLeaving {α : Type} {K : Int → ev_hs → Option α} {z : Int} {g : ev_hs} (hz : 0 ≤ z ∧ z ≤ 10) : bI (f_Mo_isLeaving z g) K = K ((if z < 8 then 0 else 1)) (g) := by rw [m_isLeaving hz]; rfl
theorem m_inject (hs : shR h c0) {n c : Int} (hn : 0 ≤ n ∧ n < 6) (hc : 0 ≤ c ∧ c < 3) (hr : 0 ≤ Rr 10 (3 * n + c) ∧ Rr 10 (3 * n + c) ≤ 127) (hg : 0 ≤ Rr 11 (3 * n + c) ∧ Rr 11 (3 * n + c) ≤ 5) (hd : 1 ≤ Rr 0 0 ∧ Rr 0 0 ≤ 4) (hF : 2 ≤ Rr 0 1 ∧ Rr 0 1 ≤ 5)
    (hb : 0 ≤ Rr 17 (15 * n + 12 + c) ∧ Rr 17 (15 * n + 12 + c) ≤ Rr 0 0) (hp : 0 ≤ Rr 9 (128 * (3 * n + c)) ∧ Rr 9 (128 * (3 * n + c)) < 128) (hk : 0 ≤ Rr 2 (Rr 9 (128 * (3 * n + c))) ∧ Rr 2 (Rr 9 (128 * (3 * n + c))) ≤ 10) :
    f_Mo_inject (some (c0 + 373)) n c (vw h c0 Rc Rr) = some (vw h c0 Rc (nInj Rr n c)) := by
  have hz : 1 ≤ nSz Rr (Rr 9 (128 * (3 * n + c))) ∧ nSz Rr (Rr 9 (128 * (3 * n + c))) ≤ 5 := by unfold nSz; split <;> omega
  unfold f_Mo_inject nInj
  simp (disch := omega) only [↓rg10 hs, ↓rl10 hs, ↓rs10 hs, ↓rg17 hs, ↓rl17 hs, ↓rs17 hs, ↓rg9 hs, ↓rl9 hs, ↓rs9 hs, ↓rg11 hs, ↓rl11 hs, ↓rs11 hs, ↓ri0 hs, ↓rq0 hs, ↓r_vK hs, ↓eEq_i, ↓eLt_i, ↓eDiv_i, ↓eRem_i, ↓bI_some, ↓bR_some, ↓bV_some, ↓nN_some, ↓eBo_1, ↓eBo_0, ↓jn_eq, u3s, u3n, u3i, ↓reduceIte, Int.reduceLT, Int.reduceLE, Int.reduceEq, Int.reduceNeg, Int.reduceAdd, Int.reduceSub, Int.reduceMul, Int.reduceMod, Int.reduceDiv, not_true_eq_false, not_false_eq_true, and_self, and_true, true_and, and_false, false_and, or_true, or_false, false_or, true_or]
  by_cases h1 : Rr 10 (3 * n + c) = 0
  · rw [if_pos h1, if_pos h1]
  · rw [if_neg h1, if_neg h1]
    by_cases h2 : Rr 17 (15 * n + 12 + c) = Rr 0 0
    · rw [if_pos h2, if_pos h2]
    · rw [if_neg h2, if_neg h2]
      simp (disch := first | omega | (simp (disch := omega) only [u3s, u3n, u3i, nApp_n]; omega)) only [↓rg10 hs, ↓rl10 hs, ↓rs10 hs, ↓rg17 hs, ↓rl17 hs, ↓rs17 hs, ↓rg9 hs, ↓rl9 hs, ↓rs9 hs, ↓rg11 hs, ↓rl11 hs, ↓rs11 hs, ↓ri0 hs, ↓rq0 hs, ↓r_vK hs, ↓eEq_i, ↓eLt_i, ↓eDiv_i, ↓eRem_i, ↓bI_some, ↓bR_some, ↓bV_some, ↓nN_some, ↓eBo_1, ↓eBo_0, ↓jn_eq, u3s, u3n, u3i, ↓reduceIte, Int.reduceLT, Int.reduceLE, Int.reduceEq, Int.reduceNeg, Int.reduceAdd, Int.reduceSub, Int.reduceMul, Int.reduceMod, Int.reduceDiv, not_true_eq_false, not_false_eq_true, and_self, and_true, true_and, and_false, false_and, or_true, or_false, false_or, true_or, ↓b_append hs, nApp_n, ↓b_sizeOf hs, nSz_u, nSz_app]
      by_cases h3 : Rr 11 (3 * n + c) + 1 = nSz Rr (Rr 9 (128 * (3 * n + c)))
      · rw [if_pos h3, if_pos h3]
        rw [m_inj116 hs (q := 3 * n + c) (by omega) _ FU (128 * (3 * n + c)) _ (by omega) (by rw [u3s]; omega) (by rw [u3s]; omega) rfl (by rw [u3s]; unfold FU; omega), u3s, u3_u3]
      · rw [if_neg h3, if_neg h3]
theorem b_inject {α : Type} {K : ev_hs → Option α} (hs : shR h c0) {n c : Int} (hn : 0 ≤ n ∧ n < 6) (hc : 0 ≤ c ∧ c < 3) (hr : 0 ≤ Rr 10 (3 * n + c) ∧ Rr 10 (3 * n + c) ≤ 127) (hg : 0 ≤ Rr 11 (3 * n + c) ∧ Rr 11 (3 * n + c) ≤ 5) (hd : 1 ≤ Rr 0 0 ∧ Rr 0 0 ≤ 4) (hF : 2 ≤ Rr 0 1 ∧ Rr 0 1 ≤ 5)
    (hb : 0 ≤ Rr 17 (15 * n + 12 + c) ∧ Rr 17 (15 * n + 12 + c) ≤ Rr 0 0) (hp : 0 ≤ Rr 9 (128 * (3 * n + c)) ∧ Rr 9 (128 * (3 * n + c)) < 128) (hk : 0 ≤ Rr 2 (Rr 9 (128 * (3 * n + c))) ∧ Rr 2 (Rr 9 (128 * (3 * n + c))) ≤ 10) : bV (f_Mo_inject (some (c0 + 373)) n c (vw h c0 Rc Rr)) K = K (vw h c0 Rc (nInj Rr n c)) := by rw [m_inject hs hn hc hr hg hd hF hb hp hk]; rfl
end RefM2
