/-! The reference's methods as functions of Rr -/
def nSz (R : RS) (p : Int) : Int := if R 2 p = 3 ∨ R 2 p = 8 ∨ R 2 p = 10 then R 0 1 else 1
def nCh (k : Int) : Int := if 3 < k then (if 7 < k then 2 else 1) else 0
def nWay (n t : Int) : Int := if 0 < t % 3 - n % 3 then 1 else if t % 3 - n % 3 < 0 then 3 else if 0 < t / 3 - n / 3 then 2 else if t / 3 - n / 3 < 0 then 0 else 4
def nApp (R : RS) (b p m : Int) : RS := up3 (up3 (up3 (up3 R 14 (4 * b + R 17 b) p) 15 (4 * b + R 17 b) m) 16 (4 * b + R 17 b) (R 0 2)) 17 b (R 17 b + 1)
theorem u3s {R : RS} {k : Nat} {i z : Int} : up3 R k i z k i = z := by simp [up3_eq]
theorem u3n {R : RS} {k a : Nat} {i z j : Int} (h : a ≠ k) : up3 R k i z a j = R a j := by simp [up3_eq, h]
theorem u3i {R : RS} {k a : Nat} {i z j : Int} (h : j ≠ i) : up3 R k i z a j = R a j := by simp [up3_eq, h]
section RefM
variable {h : ev_hs} {c0 : Nat} {Rc Rr : RS}
theorem m_sizeOf (hs : shR h c0) {p : Int} (h0 : 0 ≤ p) (h1 : p < 128) (hk : 0 ≤ Rr 2 p ∧ Rr 2 p ≤ 10) : f_Mo_sizeOf (some (c0 + 373)) p (vw h c0 Rc Rr) = some (nSz Rr p, vw h c0 Rc Rr) := by
  simp (disch := omega) only [f_Mo_sizeOf, ↓rg2 hs, ↓rl2 hs, ↓rs2 hs, ↓ri1 hs, ↓rq1 hs, ↓r_vK hs, ↓eEq_i, ↓eLt_i, ↓eDiv_i, ↓eRem_i, ↓bI_some, ↓bR_some, ↓bV_some, ↓nN_some, ↓eBo_1, ↓eBo_0, ↓jn_eq, u3s, u3n, u3i, ↓reduceIte, Int.reduceLT, Int.reduceLE, Int.reduceEq, Int.reduceNeg, Int.reduceAdd, Int.reduceSub, Int.reduceMul, Int.reduceMod, Int.reduceDiv, not_true_eq_false, not_false_eq_true, and_self, and_true, true_and, and_false, false_and, or_true, or_false, false_or, true_or]
  unfold nSz
  split <;> (try split) <;> (try split) <;> simp_all
theorem b_sizeOf {α : Type} {K : Int → ev_hs → Option α} (hs : shR h c0) {p : Int} (h0 : 0 ≤ p) (h1 : p < 128) (hk : 0 ≤ Rr 2 p ∧ Rr 2 p ≤ 10) : bI (f_Mo_sizeOf (some (c0 + 373)) p (vw h c0 Rc Rr)) K = K (nSz Rr p) (vw h c0 Rc Rr) := by rw [m_sizeOf hs h0 h1 hk]; rfl
theorem m_channelOf {k : Int} {g : ev_hs} (hk : 0 ≤ k ∧ k ≤ 10) : f_Mo_channelOf k g = some (nCh k, g) := by
  simp (disch := omega) only [f_Mo_channelOf, eLt_i, jn_eq]
  unfold nCh
  split <;> (try split) <;> rfl
theorem b_channelOf {α : Type} {K : Int → ev_hs → Option α} {k : Int} {g : ev_hs} (hk : 0 ≤ k ∧ k ≤ 10) : bI (f_Mo_channelOf k g) K = K (nCh k) (g) := by rw [m_channelOf hk]; rfl
theorem m_way {n t : Int} {g : ev_hs} (hn : 0 ≤ n ∧ n < 6) (ht : 0 ≤ t ∧ t < 6) : f_Mo_way n t g = some (nWay n t, g) := by
  simp (disch := omega) only [f_Mo_way, eLt_i, jn_eq, eDiv_i, eRem_i]
  unfold nWay
  repeat' (first | rfl | split)
theorem b_way {α : Type} {K : Int → ev_hs → Option α} {n t : Int} {g : ev_hs} (hn : 0 ≤ n ∧ n < 6) (ht : 0 ≤ t ∧ t < 6) : bI (f_Mo_way n t g) K = K (nWay n t) (g) := by rw [m_way hn ht]; rfl
theorem m_append (hs : shR h c0) {b p m : Int} (h0 : 0 ≤ b) (h1 : b < 90) (hc : 0 ≤ Rr 17 b ∧ Rr 17 b < 4) : f_Mo_append (some (c0 + 373)) b p m (vw h c0 Rc Rr) = some (vw h c0 Rc (nApp Rr b p m)) := by
  simp (disch := omega) only [f_Mo_append, ↓rg17 hs, ↓rl17 hs, ↓rs17 hs, ↓rg14 hs, ↓rl14 hs, ↓rs14 hs, ↓rg15 hs, ↓rl15 hs, ↓rs15 hs, ↓rg16 hs, ↓rl16 hs, ↓rs16 hs, ↓ri2 hs, ↓rq2 hs, ↓r_vK hs, ↓eEq_i, ↓eLt_i, ↓eDiv_i, ↓eRem_i, ↓bI_some, ↓bR_some, ↓bV_some, ↓nN_some, ↓eBo_1, ↓eBo_0, ↓jn_eq, u3s, u3n, u3i, ↓reduceIte, Int.reduceLT, Int.reduceLE, Int.reduceEq, Int.reduceNeg, Int.reduceAdd, Int.reduceSub, Int.reduceMul, Int.reduceMod, Int.reduceDiv, not_true_eq_false, not_false_eq_true, and_self, and_true, true_and, and_false, false_and, or_true, or_false, false_or, true_or]
  rfl
theorem b_append {α : Type} {K : ev_hs → Option α} (hs : shR h c0) {b p m : Int} (h0 : 0 ≤ b) (h1 : b < 90) (hc : 0 ≤ Rr 17 b ∧ Rr 17 b < 4) : bV (f_Mo_append (some (c0 + 373)) b p m (vw h c0 Rc Rr)) K = K (vw h c0 Rc (nApp Rr b p m)) := by rw [m_append hs h0 h1 hc]; rfl
end RefM
