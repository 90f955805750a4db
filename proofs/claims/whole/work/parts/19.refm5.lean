-- the protocol
def nGone (R : RS) (l x : Int) : RS :=
  if R 24 l = 1 ∧ eAnd (R 27 l) (eXor (eShl 1 x) (-1)) = 0 then up3 (up3 R 27 l (eAnd (R 27 l) (eXor (eShl 1 x) (-1)))) 24 l 0
  else up3 R 27 l (eAnd (R 27 l) (eXor (eShl 1 x) (-1)))
theorem bit_g0 : ∀ a : Nat, a < 64 → ∀ x : Nat, x < 6 → 0 ≤ eAnd a (eXor (eShl 1 x) (-1)) ∧ eAnd a (eXor (eShl 1 x) (-1)) ≤ 63 := by decide +kernel
theorem bit_g {a x : Int} (ha : 0 ≤ a ∧ a ≤ 63) (hx : 0 ≤ x ∧ x ≤ 5) : 0 ≤ eAnd a (eXor (eShl 1 x) (-1)) ∧ eAnd a (eXor (eShl 1 x) (-1)) ≤ 63 := by
  have := bit_g0 a.toNat (by omega) x.toNat (by omega)
  rwa [Int.toNat_of_nonneg ha.1, Int.toNat_of_nonneg hx.1] at this
def nPutm (R : RS) (l x v : Int) : RS := if R 24 l = 2 ∧ R 26 l = x then up3 (up3 (up3 R 25 l v) 26 l (-1)) 24 l 0 else nGone R l x
def nFin (R : RS) (n l : Int) : RS :=
  up3 (up3 (up3 (up3 R 32 (40 * n + R 34 n) (if R 28 (40 * n + R 34 n) = 1 then 0 else R 21 (8 * n + l))) 21 (8 * n + l) (if R 28 (40 * n + R 34 n) = 0 then R 21 (8 * n + l) else R 30 (40 * n + R 34 n))) 23 (8 * n + l) (R 0 2)) 34 n (R 34 n + 1)
def nBec (R : RS) (n l s : Int) : RS := up3 (nFin (up3 R 20 (8 * n + l) s) n l) 35 n 1
def nGets (R : RS) (n l x : Int) : Int × RS :=
  if R 24 l = 3 then (0, R)
  else if R 24 l = 2 then (1, up3 (up3 (up3 (nSend R n 4 l (R 26 l) x 0 0) 27 l (eOr (eShl 1 (R 26 l)) (eShl 1 x))) 26 l (-1)) 24 l 3)
  else (1, up3 (up3 (nSend R n 8 l x 0 (R 25 l) 0) 27 l (eOr (R 27 l) (eShl 1 x))) 24 l 1)
def nCnt (o : Int) : Int := eAnd (eShr o 0) 1 + eAnd (eShr o 1) 1 + eAnd (eShr o 2) 1 + eAnd (eShr o 3) 1 + eAnd (eShr o 4) 1 + eAnd (eShr o 5) 1
def nIv (n l x o : Int) : Nat → Int → RS → RS
  | 0, _, R => R
  | f + 1, k, R => nIv n l x o f (k + 1) (if eAnd (eShr o k) 1 = 1 then nSend R n 6 l k x 0 0 else R)
def nGetm (R : RS) (n l x : Int) : Int × RS :=
  if R 24 l = 3 then (0, R)
  else if R 24 l = 2 then (1, up3 (nSend R n 5 l (R 26 l) x 0 0) 26 l x)
  else (1, up3 (up3 (up3 (nIv n l x (eAnd (R 27 l) (eXor (eShl 1 x) (-1))) 6 0 (nSend R n 8 l x 0 (R 25 l) (nCnt (eAnd (R 27 l) (eXor (eShl 1 x) (-1)))))) 27 l 0) 26 l x) 24 l 2)
section RefM5
variable {h : ev_hs} {c0 : Nat} {Rc Rr : RS}
theorem m_gone (hs : shR h c0) (gH : bH Rr) {l x : Int} (hl : 0 ≤ l ∧ l ≤ 7) (hx : 0 ≤ x ∧ x ≤ 5) : f_Mo_gone (some (c0 + 373)) l x (vw h c0 Rc Rr) = some (vw h c0 Rc (nGone Rr l x)) := by
  have h1 := gH l (by omega) (by omega)
  have h2 := bit_g h1.2.2.2 hx
  unfold f_Mo_gone nGone
  by_cases a1 : Rr 24 l = 1
  · by_cases a2 : eAnd (Rr 27 l) (eXor (eShl 1 x) (-1)) = 0
    · simp (disch := first | omega | (simp (disch := omega) only [u3s, u3n, u3i]; omega)) only [↓rg27 hs, ↓rl27 hs, ↓rs27 hs, ↓rg24 hs, ↓rl24 hs, ↓rs24 hs, ↓r_vK hs, ↓eEq_i, ↓eLt_i, ↓eDiv_i, ↓eRem_i, ↓bI_some, ↓bR_some, ↓bV_some, ↓nN_some, ↓eBo_1, ↓eBo_0, ↓jn_eq, u3s, u3n, u3i, ↓reduceIte, Int.reduceLT, Int.reduceLE, Int.reduceEq, Int.reduceNeg, Int.reduceAdd, Int.reduceSub, Int.reduceMul, Int.reduceMod, Int.reduceDiv, not_true_eq_false, not_false_eq_true, and_self, and_true, true_and, and_false, false_and, or_true, or_false, false_or, true_or, a1, a2]
    · simp (disch := first | omega | (simp (disch := omega) only [u3s, u3n, u3i]; omega)) only [↓rg27 hs, ↓rl27 hs, ↓rs27 hs, ↓rg24 hs, ↓rl24 hs, ↓rs24 hs, ↓r_vK hs, ↓eEq_i, ↓eLt_i, ↓eDiv_i, ↓eRem_i, ↓bI_some, ↓bR_some, ↓bV_some, ↓nN_some, ↓eBo_1, ↓eBo_0, ↓jn_eq, u3s, u3n, u3i, ↓reduceIte, Int.reduceLT, Int.reduceLE, Int.reduceEq, Int.reduceNeg, Int.reduceAdd, Int.reduceSub, Int.reduceMul, Int.reduceMod, Int.reduceDiv, not_true_eq_false, not_false_eq_true, and_self, and_true, true_and, and_false, false_and, or_true, or_false, false_or, true_or, a1, a2]
  · simp (disch := first | omega | (simp (disch := omega) only [u3s, u3n, u3i]; omega)) only [↓rg27 hs, ↓rl27 hs, ↓rs27 hs, ↓rg24 hs, ↓rl24 hs, ↓rs24 hs, ↓r_vK hs, ↓eEq_i, ↓eLt_i, ↓eDiv_i, ↓eRem_i, ↓bI_some, ↓bR_some, ↓bV_some, ↓nN_some, ↓eBo_1, ↓eBo_0, ↓jn_eq, u3s, u3n, u3i, ↓reduceIte, Int.reduceLT, Int.reduceLE, Int.reduceEq, Int.reduceNeg, Int.reduceAdd, Int.reduceSub, Int.reduceMul, Int.reduceMod, Int.reduceDiv, not_true_eq_false, not_false_eq_true, and_self, and_true, true_and, and_false, false_and, or_true, or_false, false_or, true_or, a1]
theorem b_gone {α : Type} {K : ev_hs → Option α} (hs : shR h c0) (gH : bH Rr) {l x : Int} (hl : 0 ≤ l ∧ l ≤ 7) (hx : 0 ≤ x ∧ x ≤ 5) : bV (f_Mo_gone (some (c0 + 373)) l x (vw h c0 Rc Rr)) K = K (vw h c0 Rc (nGone Rr l x)) := by rw [m_gone hs gH hl hx]; rfl
theorem m_putm (hs : shR h c0) (gH : bH Rr) {l x v : Int} (hl : 0 ≤ l ∧ l ≤ 7) (hx : 0 ≤ x ∧ x ≤ 5) : f_Mo_putm (some (c0 + 373)) l x v (vw h c0 Rc Rr) = some (vw h c0 Rc (nPutm Rr l x v)) := by
  have h1 := gH l (by omega) (by omega)
  unfold f_Mo_putm nPutm
  by_cases a1 : Rr 24 l = 2
  · by_cases a2 : Rr 26 l = x
    · simp (disch := first | omega | (simp (disch := omega) only [u3s, u3n, u3i]; omega)) only [↓rg24 hs, ↓rl24 hs, ↓rs24 hs, ↓rg26 hs, ↓rl26 hs, ↓rs26 hs, ↓rg25 hs, ↓rl25 hs, ↓rs25 hs, ↓r_vK hs, ↓eEq_i, ↓eLt_i, ↓eDiv_i, ↓eRem_i, ↓bI_some, ↓bR_some, ↓bV_some, ↓nN_some, ↓eBo_1, ↓eBo_0, ↓jn_eq, u3s, u3n, u3i, ↓reduceIte, Int.reduceLT, Int.reduceLE, Int.reduceEq, Int.reduceNeg, Int.reduceAdd, Int.reduceSub, Int.reduceMul, Int.reduceMod, Int.reduceDiv, not_true_eq_false, not_false_eq_true, and_self, and_true, true_and, and_false, false_and, or_true, or_false, false_or, true_or, a1, a2]
    · simp (disch := first | omega | (simp (disch := omega) only [u3s, u3n, u3i]; omega)) only [↓rg24 hs, ↓rl24 hs, ↓rs24 hs, ↓rg26 hs, ↓rl26 hs, ↓rs26 hs, ↓rg25 hs, ↓rl25 hs, ↓rs25 hs, ↓r_vK hs, ↓eEq_i, ↓eLt_i, ↓eDiv_i, ↓eRem_i, ↓bI_some, ↓bR_some, ↓bV_some, ↓nN_some, ↓eBo_1, ↓eBo_0, ↓jn_eq, u3s, u3n, u3i, ↓reduceIte, Int.reduceLT, Int.reduceLE, Int.reduceEq, Int.reduceNeg, Int.reduceAdd, Int.reduceSub, Int.reduceMul, Int.reduceMod, Int.reduceDiv, not_true_eq_false, not_false_eq_true, and_self, and_true, true_and, and_false, false_and, or_true, or_false, false_or, true_or, ↓b_gone hs gH hl hx, a1, a2]
  · simp (disch := first | omega | (simp (disch := omega) only [u3s, u3n, u3i]; omega)) only [↓rg24 hs, ↓rl24 hs, ↓rs24 hs, ↓rg26 hs, ↓rl26 hs, ↓rs26 hs, ↓rg25 hs, ↓rl25 hs, ↓rs25 hs, ↓r_vK hs, ↓eEq_i, ↓eLt_i, ↓eDiv_i, ↓eRem_i, ↓bI_some, ↓bR_some, ↓bV_some, ↓nN_some, ↓eBo_1, ↓eBo_0, ↓jn_eq, u3s, u3n, u3i, ↓reduceIte, Int.reduceLT, Int.reduceLE, Int.reduceEq, Int.reduceNeg, Int.reduceAdd, Int.reduceSub, Int.reduceMul, Int.reduceMod, Int.reduceDiv, not_true_eq_false, not_false_eq_true, and_self, and_true, true_and, and_false, false_and, or_true, or_false, false_or, true_or, ↓b_gone hs gH hl hx, a1]
theorem b_putm {α : Type} {K : ev_hs → Option α} (hs : shR h c0) (gH : bH Rr) {l x v : Int} (hl : 0 ≤ l ∧ l ≤ 7) (hx : 0 ≤ x ∧ x ≤ 5) : bV (f_Mo_putm (some (c0 + 373)) l x v (vw h c0 Rc Rr)) K = K (vw h c0 Rc (nPutm Rr l x v)) := by rw [m_putm hs gH hl hx]; rfl
theorem m_finish (hs : shR h c0) {n l : Int} (hn : 0 ≤ n ∧ n < 6) (hl : 0 ≤ l ∧ l ≤ 7) (hd : 0 ≤ Rr 34 n ∧ Rr 34 n < 40) (hk : 0 ≤ Rr 28 (40 * n + Rr 34 n) ∧ Rr 28 (40 * n + Rr 34 n) ≤ 2) : f_Mo_finish (some (c0 + 373)) n l (vw h c0 Rc Rr) = some (vw h c0 Rc (nFin Rr n l)) := by
  unfold f_Mo_finish nFin
  by_cases a1 : Rr 28 (40 * n + Rr 34 n) = 1
  · simp (disch := first | omega | (simp (disch := omega) only [u3s, u3n, u3i]; omega)) only [↓rg23 hs, ↓rl23 hs, ↓rs23 hs, ↓rg34 hs, ↓rl34 hs, ↓rs34 hs, ↓rg21 hs, ↓rl21 hs, ↓rs21 hs, ↓rg28 hs, ↓rl28 hs, ↓rs28 hs, ↓rg30 hs, ↓rl30 hs, ↓rs30 hs, ↓rg32 hs, ↓rl32 hs, ↓rs32 hs, ↓ri2 hs, ↓rq2 hs, ↓r_vK hs, ↓eEq_i, ↓eLt_i, ↓eDiv_i, ↓eRem_i, ↓bI_some, ↓bR_some, ↓bV_some, ↓nN_some, ↓eBo_1, ↓eBo_0, ↓jn_eq, u3s, u3n, u3i, ↓reduceIte, Int.reduceLT, Int.reduceLE, Int.reduceEq, Int.reduceNeg, Int.reduceAdd, Int.reduceSub, Int.reduceMul, Int.reduceMod, Int.reduceDiv, not_true_eq_false, not_false_eq_true, and_self, and_true, true_and, and_false, false_and, or_true, or_false, false_or, true_or, a1]
  · by_cases a2 : Rr 28 (40 * n + Rr 34 n) = 0
    · simp (disch := first | omega | (simp (disch := omega) only [u3s, u3n, u3i]; omega)) only [↓rg23 hs, ↓rl23 hs, ↓rs23 hs, ↓rg34 hs, ↓rl34 hs, ↓rs34 hs, ↓rg21 hs, ↓rl21 hs, ↓rs21 hs, ↓rg28 hs, ↓rl28 hs, ↓rs28 hs, ↓rg30 hs, ↓rl30 hs, ↓rs30 hs, ↓rg32 hs, ↓rl32 hs, ↓rs32 hs, ↓ri2 hs, ↓rq2 hs, ↓r_vK hs, ↓eEq_i, ↓eLt_i, ↓eDiv_i, ↓eRem_i, ↓bI_some, ↓bR_some, ↓bV_some, ↓nN_some, ↓eBo_1, ↓eBo_0, ↓jn_eq, u3s, u3n, u3i, ↓reduceIte, Int.reduceLT, Int.reduceLE, Int.reduceEq, Int.reduceNeg, Int.reduceAdd, Int.reduceSub, Int.reduceMul, Int.reduceMod, Int.reduceDiv, not_true_eq_false, not_false_eq_true, and_self, and_true, true_and, and_false, false_and, or_true, or_false, false_or, true_or, a1, a2]
    · simp (disch := first | omega | (simp (disch := omega) only [u3s, u3n, u3i]; omega)) only [↓rg23 hs, ↓rl23 hs, ↓rs23 hs, ↓rg34 hs, ↓rl34 hs, ↓rs34 hs, ↓rg21 hs, ↓rl21 hs, ↓rs21 hs, ↓rg28 hs, ↓rl28 hs, ↓rs28 hs, ↓rg30 hs, ↓rl30 hs, ↓rs30 hs, ↓rg32 hs, ↓rl32 hs, ↓rs32 hs, ↓ri2 hs, ↓rq2 hs, ↓r_vK hs, ↓eEq_i, ↓eLt_i, ↓eDiv_i, ↓eRem_i, ↓bI_some, ↓bR_some, ↓bV_some, ↓nN_some, ↓eBo_1, ↓eBo_0, ↓jn_eq, u3s, u3n, u3i, ↓reduceIte, Int.reduceLT, Int.reduceLE, Int.reduceEq, Int.reduceNeg, Int.reduceAdd, Int.reduceSub, Int.reduceMul, Int.reduceMod, Int.reduceDiv, not_true_eq_false, not_false_eq_true, and_self, and_true, true_and, and_false, false_and, or_true, or_false, false_or, true_or, a1, a2]
theorem b_finish {α : Type} {K : ev_hs → Option α} (hs : shR h c0) {n l : Int} (hn : 0 ≤ n ∧ n < 6) (hl : 0 ≤ l ∧ l ≤ 7) (hd : 0 ≤ Rr 34 n ∧ Rr 34 n < 40) (hk : 0 ≤ Rr 28 (40 * n + Rr 34 n) ∧ Rr 28 (40 * n + Rr 34 n) ≤ 2) : bV (f_Mo_finish (some (c0 + 373)) n l (vw h c0 Rc Rr)) K = K (vw h c0 Rc (nFin Rr n l)) := by rw [m_finish hs hn hl hd hk]; rfl
theorem m_become (hs : shR h c0) {n l s : Int} (hn : 0 ≤ n ∧ n < 6) (hl : 0 ≤ l ∧ l ≤ 7) (hd : 0 ≤ Rr 34 n ∧ Rr 34 n < 40) (hk : 0 ≤ Rr 28 (40 * n + Rr 34 n) ∧ Rr 28 (40 * n + Rr 34 n) ≤ 2) (hv : s = 4 ∨ s = 7) : f_Mo_become (some (c0 + 373)) n l s (vw h c0 Rc Rr) = some (vw h c0 Rc (nBec Rr n l s)) := by
  unfold f_Mo_become nBec
  rcases hv with rfl | rfl
  · simp (disch := first | omega | (simp (disch := omega) only [u3s, u3n, u3i]; omega)) only [↓rg35 hs, ↓rl35 hs, ↓rs35 hs, ↓rg20 hs, ↓rl20 hs, ↓rs20 hs, ↓r_vK hs, ↓eEq_i, ↓eLt_i, ↓eDiv_i, ↓eRem_i, ↓bI_some, ↓bR_some, ↓bV_some, ↓nN_some, ↓eBo_1, ↓eBo_0, ↓jn_eq, u3s, u3n, u3i, ↓reduceIte, Int.reduceLT, Int.reduceLE, Int.reduceEq, Int.reduceNeg, Int.reduceAdd, Int.reduceSub, Int.reduceMul, Int.reduceMod, Int.reduceDiv, not_true_eq_false, not_false_eq_true, and_self, and_true, true_and, and_false, false_and, or_true, or_false, false_or, true_or, ↓b_finish hs hn hl]
  · simp (disch := first | omega | (simp (disch := omega) only [u3s, u3n, u3i]; omega)) only [↓rg35 hs, ↓rl35 hs, ↓rs35 hs, ↓rg20 hs, ↓rl20 hs, ↓rs20 hs, ↓r_vK hs, ↓eEq_i, ↓eLt_i, ↓eDiv_i, ↓eRem_i, ↓bI_some, ↓bR_some, ↓bV_some, ↓nN_some, ↓eBo_1, ↓eBo_0, ↓jn_eq, u3s, u3n, u3i, ↓reduceIte, Int.reduceLT, Int.reduceLE, Int.reduceEq, Int.reduceNeg, Int.reduceAdd, Int.reduceSub, Int.reduceMul, Int.reduceMod, Int.reduceDiv, not_true_eq_false, not_false_eq_true, and_self, and_true, true_and, and_false, false_and, or_true, or_false, false_or, true_or, ↓b_finish hs hn hl]
theorem b_become {α : Type} {K : ev_hs → Option α} (hs : shR h c0) {n l s : Int} (hn : 0 ≤ n ∧ n < 6) (hl : 0 ≤ l ∧ l ≤ 7) (hd : 0 ≤ Rr 34 n ∧ Rr 34 n < 40) (hk : 0 ≤ Rr 28 (40 * n + Rr 34 n) ∧ Rr 28 (40 * n + Rr 34 n) ≤ 2) (hv : s = 4 ∨ s = 7) : bV (f_Mo_become (some (c0 + 373)) n l s (vw h c0 Rc Rr)) K = K (vw h c0 Rc (nBec Rr n l s)) := by rw [m_become hs hn hl hd hk hv]; rfl
theorem m_gets (hs : shR h c0) (gH : bH Rr) (S : sOK Rr 1) {n l x : Int} (hn : 0 ≤ n ∧ n < 6) (hl : 0 ≤ l ∧ l ≤ 7) (hx : 0 ≤ x ∧ x ≤ 5) : f_Mo_gets (some (c0 + 373)) n l x (vw h c0 Rc Rr) = some ((nGets Rr n l x).1, vw h c0 Rc (nGets Rr n l x).2) := by
  have h1 := gH l (by omega) (by omega)
  unfold f_Mo_gets nGets
  by_cases a1 : Rr 24 l = 3
  · simp (disch := first | omega | (simp (disch := omega) only [u3s, u3n, u3i]; omega)) only [↓rg24 hs, ↓rl24 hs, ↓rs24 hs, ↓rg26 hs, ↓rl26 hs, ↓rs26 hs, ↓rg27 hs, ↓rl27 hs, ↓rs27 hs, ↓rg25 hs, ↓rl25 hs, ↓rs25 hs, ↓r_vK hs, ↓eEq_i, ↓eLt_i, ↓eDiv_i, ↓eRem_i, ↓bI_some, ↓bR_some, ↓bV_some, ↓nN_some, ↓eBo_1, ↓eBo_0, ↓jn_eq, u3s, u3n, u3i, ↓reduceIte, Int.reduceLT, Int.reduceLE, Int.reduceEq, Int.reduceNeg, Int.reduceAdd, Int.reduceSub, Int.reduceMul, Int.reduceMod, Int.reduceDiv, not_true_eq_false, not_false_eq_true, and_self, and_true, true_and, and_false, false_and, or_true, or_false, false_or, true_or, a1]
  · by_cases a2 : Rr 24 l = 2
    · simp (disch := first | omega | (simp (disch := omega) only [u3s, u3n, u3i]; omega)) only [↓rg24 hs, ↓rl24 hs, ↓rs24 hs, ↓rg26 hs, ↓rl26 hs, ↓rs26 hs, ↓rg27 hs, ↓rl27 hs, ↓rs27 hs, ↓rg25 hs, ↓rl25 hs, ↓rs25 hs, ↓r_vK hs, ↓eEq_i, ↓eLt_i, ↓eDiv_i, ↓eRem_i, ↓bI_some, ↓bR_some, ↓bV_some, ↓nN_some, ↓eBo_1, ↓eBo_0, ↓jn_eq, u3s, u3n, u3i, ↓reduceIte, Int.reduceLT, Int.reduceLE, Int.reduceEq, Int.reduceNeg, Int.reduceAdd, Int.reduceSub, Int.reduceMul, Int.reduceMod, Int.reduceDiv, not_true_eq_false, not_false_eq_true, and_self, and_true, true_and, and_false, false_and, or_true, or_false, false_or, true_or, ↓b_sendS hs (m0 := 0) S hn, nSend_n, a1, a2]
    · simp (disch := first | omega | (simp (disch := omega) only [u3s, u3n, u3i]; omega)) only [↓rg24 hs, ↓rl24 hs, ↓rs24 hs, ↓rg26 hs, ↓rl26 hs, ↓rs26 hs, ↓rg27 hs, ↓rl27 hs, ↓rs27 hs, ↓rg25 hs, ↓rl25 hs, ↓rs25 hs, ↓r_vK hs, ↓eEq_i, ↓eLt_i, ↓eDiv_i, ↓eRem_i, ↓bI_some, ↓bR_some, ↓bV_some, ↓nN_some, ↓eBo_1, ↓eBo_0, ↓jn_eq, u3s, u3n, u3i, ↓reduceIte, Int.reduceLT, Int.reduceLE, Int.reduceEq, Int.reduceNeg, Int.reduceAdd, Int.reduceSub, Int.reduceMul, Int.reduceMod, Int.reduceDiv, not_true_eq_false, not_false_eq_true, and_self, and_true, true_and, and_false, false_and, or_true, or_false, false_or, true_or, ↓b_sendS hs (m0 := 0) S hn, nSend_n, a1, a2]
theorem b_gets {α : Type} {K : Int → ev_hs → Option α} (hs : shR h c0) (gH : bH Rr) (S : sOK Rr 1) {n l x : Int} (hn : 0 ≤ n ∧ n < 6) (hl : 0 ≤ l ∧ l ≤ 7) (hx : 0 ≤ x ∧ x ≤ 5) : bI (f_Mo_gets (some (c0 + 373)) n l x (vw h c0 Rc Rr)) K = K ((nGets Rr n l x).1) (vw h c0 Rc (nGets Rr n l x).2) := by rw [m_gets hs gH S hn hl hx]; rfl
theorem m_getm67 {n l x o : Int} {q : Option Nat} {g : ev_hs} {K : Option Nat → Int → Int → Int → Int → Int → ev_hs → Option (Int × ev_hs)} : f_Mo_getm_67 FU q n l x o 0 0 g K = K q n l x o (nCnt o) g := by
  obtain ⟨f, hf⟩ : ∃ f, FU = f + 7 := ⟨99993, rfl⟩
  rw [hf]
  simp (disch := omega) only [f_Mo_getm_67, ↓eLt_i, Int.reduceLT, ↓reduceIte, Int.reduceAdd, Int.zero_add]
  rfl
theorem m_getm113 (hs : shR h c0) {n l x o : Int} (hn : 0 ≤ n ∧ n < 6) (hb : ∀ k, 0 ≤ k → k < 6 → 0 ≤ eAnd (eShr o k) 1 ∧ eAnd (eShr o k) 1 ≤ 1) {K : Option Nat → Int → Int → ev_hs → Option (Int × ev_hs)} : ∀ (m fu : Nat) (k : Int) (R : RS), sOK R m → 0 ≤ k → k + m = 6 → m < fu → f_Mo_getm_113 fu (some (c0 + 373)) n l x o k (vw h c0 Rc R) K = K (some (c0 + 373)) l x (vw h c0 Rc (nIv n l x o m k R)) := by
  intro m
  induction m with
  | zero =>
    intro fu k R S hk hm hf
    cases fu with
    | zero => omega
    | succ fu =>
      rw [f_Mo_getm_113]
      rw [eLt_i (by omega) (by omega) (by omega) (by omega), if_neg (by omega)]
      rfl
  | succ m ih =>
    intro fu k R S hk hm hf
    cases fu with
    | zero => omega
    | succ fu =>
      have h1 := hb k hk (by omega)
      rw [f_Mo_getm_113]
      unfold nIv
      rw [eLt_i (by omega) (by omega) (by omega) (by omega), if_pos (by omega)]
      by_cases a1 : eAnd (eShr o k) 1 = 1
      · simp (disch := first | omega | (simp (disch := omega) only [u3s, u3n, u3i]; omega)) only [↓r_vK hs, ↓eEq_i, ↓eLt_i, ↓eDiv_i, ↓eRem_i, ↓bI_some, ↓bR_some, ↓bV_some, ↓nN_some, ↓eBo_1, ↓eBo_0, ↓jn_eq, u3s, u3n, u3i, ↓reduceIte, Int.reduceLT, Int.reduceLE, Int.reduceEq, Int.reduceNeg, Int.reduceAdd, Int.reduceSub, Int.reduceMul, Int.reduceMod, Int.reduceDiv, not_true_eq_false, not_false_eq_true, and_self, and_true, true_and, and_false, false_and, or_true, or_false, false_or, true_or, ↓b_sendS hs S hn, a1]
        exact ih fu (k + 1) _ (sOK_send S) (by omega) (by omega) (by omega)
      · simp (disch := first | omega | (simp (disch := omega) only [u3s, u3n, u3i]; omega)) only [↓r_vK hs, ↓eEq_i, ↓eLt_i, ↓eDiv_i, ↓eRem_i, ↓bI_some, ↓bR_some, ↓bV_some, ↓nN_some, ↓eBo_1, ↓eBo_0, ↓jn_eq, u3s, u3n, u3i, ↓reduceIte, Int.reduceLT, Int.reduceLE, Int.reduceEq, Int.reduceNeg, Int.reduceAdd, Int.reduceSub, Int.reduceMul, Int.reduceMod, Int.reduceDiv, not_true_eq_false, not_false_eq_true, and_self, and_true, true_and, and_false, false_and, or_true, or_false, false_or, true_or, a1]
        exact ih fu (k + 1) _ (sOK_le S (by omega)) (by omega) (by omega) (by omega)
theorem bit_s0 : ∀ a : Nat, a < 64 → ∀ x : Nat, x < 6 → 0 ≤ eAnd (eShr a x) 1 ∧ eAnd (eShr a x) 1 ≤ 1 := by decide +kernel
theorem bit_s {a : Int} (ha : 0 ≤ a ∧ a ≤ 63) : ∀ k, 0 ≤ k → k < 6 → 0 ≤ eAnd (eShr a k) 1 ∧ eAnd (eShr a k) 1 ≤ 1 := by
  intro k h1 h2
  have := bit_s0 a.toNat (by omega) k.toNat (by omega)
  rwa [Int.toNat_of_nonneg ha.1, Int.toNat_of_nonneg h1] at this
theorem nIv_n {n l x o : Int} {a : Nat} {j : Int} (ha : 11 ≤ a) : ∀ (m : Nat) (k : Int) (R : RS), nIv n l x o m k R a j = R a j := by
  intro m
  induction m with
  | zero => intro k R; rfl
  | succ m ih =>
    intro k R
    unfold nIv
    rw [ih]
    split
    · exact nSend_n ha
    · rfl
theorem m_getm (hs : shR h c0) (gH : bH Rr) (S : sOK Rr 7) {n l x : Int} (hn : 0 ≤ n ∧ n < 6) (hl : 0 ≤ l ∧ l ≤ 7) (hx : 0 ≤ x ∧ x ≤ 5) : f_Mo_getm (some (c0 + 373)) n l x (vw h c0 Rc Rr) = some ((nGetm Rr n l x).1, vw h c0 Rc (nGetm Rr n l x).2) := by
  have h1 := gH l (by omega) (by omega)
  have h2 := bit_g h1.2.2.2 hx
  unfold f_Mo_getm nGetm
  by_cases a1 : Rr 24 l = 3
  · simp (disch := first | omega | (simp (disch := omega) only [u3s, u3n, u3i]; omega)) only [↓rg24 hs, ↓rl24 hs, ↓rs24 hs, ↓rg26 hs, ↓rl26 hs, ↓rs26 hs, ↓rg27 hs, ↓rl27 hs, ↓rs27 hs, ↓rg25 hs, ↓rl25 hs, ↓rs25 hs, ↓r_vK hs, ↓eEq_i, ↓eLt_i, ↓eDiv_i, ↓eRem_i, ↓bI_some, ↓bR_some, ↓bV_some, ↓nN_some, ↓eBo_1, ↓eBo_0, ↓jn_eq, u3s, u3n, u3i, ↓reduceIte, Int.reduceLT, Int.reduceLE, Int.reduceEq, Int.reduceNeg, Int.reduceAdd, Int.reduceSub, Int.reduceMul, Int.reduceMod, Int.reduceDiv, not_true_eq_false, not_false_eq_true, and_self, and_true, true_and, and_false, false_and, or_true, or_false, false_or, true_or, a1]
  · by_cases a2 : Rr 24 l = 2
    · simp (disch := first | omega | (simp (disch := omega) only [u3s, u3n, u3i]; omega)) only [↓rg24 hs, ↓rl24 hs, ↓rs24 hs, ↓rg26 hs, ↓rl26 hs, ↓rs26 hs, ↓rg27 hs, ↓rl27 hs, ↓rs27 hs, ↓rg25 hs, ↓rl25 hs, ↓rs25 hs, ↓r_vK hs, ↓eEq_i, ↓eLt_i, ↓eDiv_i, ↓eRem_i, ↓bI_some, ↓bR_some, ↓bV_some, ↓nN_some, ↓eBo_1, ↓eBo_0, ↓jn_eq, u3s, u3n, u3i, ↓reduceIte, Int.reduceLT, Int.reduceLE, Int.reduceEq, Int.reduceNeg, Int.reduceAdd, Int.reduceSub, Int.reduceMul, Int.reduceMod, Int.reduceDiv, not_true_eq_false, not_false_eq_true, and_self, and_true, true_and, and_false, false_and, or_true, or_false, false_or, true_or, ↓b_sendS hs (m0 := 6) S hn, nSend_n, a1, a2]
    · simp (disch := first | omega | (simp (disch := omega) only [u3s, u3n, u3i]; omega)) only [↓rg24 hs, ↓rl24 hs, ↓rs24 hs, ↓rg26 hs, ↓rl26 hs, ↓rs26 hs, ↓rg27 hs, ↓rl27 hs, ↓rs27 hs, ↓rg25 hs, ↓rl25 hs, ↓rs25 hs, ↓r_vK hs, ↓eEq_i, ↓eLt_i, ↓eDiv_i, ↓eRem_i, ↓bI_some, ↓bR_some, ↓bV_some, ↓nN_some, ↓eBo_1, ↓eBo_0, ↓jn_eq, u3s, u3n, u3i, ↓reduceIte, Int.reduceLT, Int.reduceLE, Int.reduceEq, Int.reduceNeg, Int.reduceAdd, Int.reduceSub, Int.reduceMul, Int.reduceMod, Int.reduceDiv, not_true_eq_false, not_false_eq_true, and_self, and_true, true_and, and_false, false_and, or_true, or_false, false_or, true_or, ↓m_getm67, ↓b_sendS hs (m0 := 6) S hn, nSend_n, a1, a2]
      rw [m_getm113 hs hn (bit_s h2) 6 FU 0 _ (sOK_send S) (by omega) (by omega) (by unfold FU; omega)]
      simp (disch := first | omega | (simp (disch := omega) only [u3s, u3n, u3i]; omega)) only [↓rg24 hs, ↓rl24 hs, ↓rs24 hs, ↓rg26 hs, ↓rl26 hs, ↓rs26 hs, ↓rg27 hs, ↓rl27 hs, ↓rs27 hs, ↓rg25 hs, ↓rl25 hs, ↓rs25 hs, ↓r_vK hs, ↓eEq_i, ↓eLt_i, ↓eDiv_i, ↓eRem_i, ↓bI_some, ↓bR_some, ↓bV_some, ↓nN_some, ↓eBo_1, ↓eBo_0, ↓jn_eq, u3s, u3n, u3i, ↓reduceIte, Int.reduceLT, Int.reduceLE, Int.reduceEq, Int.reduceNeg, Int.reduceAdd, Int.reduceSub, Int.reduceMul, Int.reduceMod, Int.reduceDiv, not_true_eq_false, not_false_eq_true, and_self, and_true, true_and, and_false, false_and, or_true, or_false, false_or, true_or]
theorem b_getm {α : Type} {K : Int → ev_hs → Option α} (hs : shR h c0) (gH : bH Rr) (S : sOK Rr 7) {n l x : Int} (hn : 0 ≤ n ∧ n < 6) (hl : 0 ≤ l ∧ l ≤ 7) (hx : 0 ≤ x ∧ x ≤ 5) : bI (f_Mo_getm (some (c0 + 373)) n l x (vw h c0 Rc Rr)) K = K ((nGetm Rr n l x).1) (vw h c0 Rc (nGetm Rr n l x).2) := by rw [m_getm hs gH S hn hl hx]; rfl
end RefM5
