def lnR (k : Nat) : Nat := [0, 128, 128, 128, 128, 128, 128, 128, 128, 2304, 18, 18, 2304, 18, 360, 360, 360, 90, 90, 90, 48, 48, 48, 48, 8, 8, 8, 8, 240, 240, 240, 240, 240, 6, 6, 6].getD k 0
def kdR (k : Nat) : Nat := if k = 1 ∨ k = 35 then 51 else 50
def shR (h : ev_hs) (c0 : Nat) : Prop := xK h (c0 + 373) = 12 ∧ ∀ k, 1 ≤ k → k ≤ 35 → xR h (1102 + k) (c0 + 373) = some (c0 + 373 + k) ∧ xK h (c0 + 373 + k) = kdR k ∧ xL h (c0 + 373 + k) = lnR k
section RefRules
variable {α : Type} {h : ev_hs} {c0 : Nat} {Rc Rr : RS}
theorem eEq_i {a b : Int} {A B : Option α} (h1 : -2147483648 ≤ a) (h2 : a < 2147483648) (h3 : -2147483648 ≤ b) (h4 : b < 2147483648) : eEq a b A B = if a = b then A else B := by
  unfold eEq
  have e1 : eOk a = true := eOk_iff.mpr ⟨h1, h2⟩
  have e2 : eOk b = true := eOk_iff.mpr ⟨h3, h4⟩
  simp [e1, e2]
theorem eLt_i {a b : Int} {A B : Option α} (h1 : -2147483648 ≤ a) (h2 : a < 2147483648) (h3 : -2147483648 ≤ b) (h4 : b < 2147483648) : eLt a b A B = if a < b then A else B := by
  unfold eLt
  have e1 : eOk a = true := eOk_iff.mpr ⟨h1, h2⟩
  have e2 : eOk b = true := eOk_iff.mpr ⟨h3, h4⟩
  simp [e1, e2]
theorem eDiv_i {a b : Int} {K : Int → Option α} (h1 : 0 ≤ a) (h2 : a < 2147483648) (h3 : 0 < b) (h4 : b < 2147483648) : eDiv a b K = K (a / b) := by
  unfold eDiv
  rw [if_pos ⟨h1, h2, h3, h4⟩]
theorem eRem_i {a b : Int} {K : Int → Option α} (h1 : 0 ≤ a) (h2 : a < 2147483648) (h3 : 0 < b) (h4 : b < 2147483648) : eRem a b K = K (a % b) := by
  unfold eRem
  rw [if_pos ⟨h1, h2, h3, h4⟩]
theorem bI_some {z : Int} {g : ev_hs} {K : Int → ev_hs → Option α} : bI (some (z, g)) K = K z g := rfl
theorem bR_some {z : Option Nat} {g : ev_hs} {K : Option Nat → ev_hs → Option α} : bR (some (z, g)) K = K z g := rfl
theorem bV_some {g : ev_hs} {K : ev_hs → Option α} : bV (some g) K = K g := rfl
theorem nN_some {a : Nat} {A : Option α} : nN (some a) A = A := rfl
theorem eNu_n {A B : Option α} : eNu none A B = A := rfl
theorem eNu_s {a : Nat} {A B : Option α} : eNu (some a) A B = B := rfl
theorem eBo_1 {g : ev_hs} : eBo 1 g = some (1, g) := rfl
theorem eBo_0 {g : ev_hs} : eBo 0 g = some (0, g) := rfl
theorem jn_eq {γ : Type} {F : γ} {R : γ → Option α} : jn F R = R F := rfl
theorem r_gR (hs : shR h c0) {k : Nat} {K : Option Nat → Option α} (h1 : 1 ≤ k) (h2 : k ≤ 35) : gR (vw h c0 Rc Rr) 11 (k + 2) (some (c0 + 373)) K = K (some (c0 + 373 + k)) := by
  unfold gR
  dsimp only
  rw [vv_K, vv_R, if_pos hs.1, show 100 * 11 + (k + 2) = 1102 + k by omega, (hs.2 k h1 h2).1]
theorem r_lI (hs : shR h c0) {k t : Nat} {i : Int} {K : Int → Option α} (h1 : 1 ≤ k) (h2 : k ≤ 35) (ht : kdR k = t) (h3 : 0 ≤ i) (h4 : i < lnR k) : lI (vw h c0 Rc Rr) t (some (c0 + 373 + k)) i K = K (Rr k i) := by
  unfold lI
  dsimp only
  obtain ⟨-, e1, e2⟩ := hs.2 k h1 h2
  rw [vv_K, vv_L, if_pos ⟨by rw [e1, ht], h3, by rw [e2]; exact h4⟩, vw_Ar h1 h2, Int.toNat_of_nonneg h3]
theorem r_sI (hs : shR h c0) {k t : Nat} {i z : Int} {K : ev_hs → Option α} (h1 : 1 ≤ k) (h2 : k ≤ 35) (ht : kdR k = t) (h3 : 0 ≤ i) (h4 : i < lnR k) : sI (vw h c0 Rc Rr) t (some (c0 + 373 + k)) i z K = K (vw h c0 Rc (up3 Rr k i z)) := by
  unfold sI
  dsimp only
  obtain ⟨-, e1, e2⟩ := hs.2 k h1 h2
  rw [vv_K, vv_L, if_pos ⟨by rw [e1, ht], h3, by rw [e2]; exact h4⟩, vw_wAr h1 h2 (Int.toNat_of_nonneg h3).symm]
theorem r_sZ (hs : shR h c0) {k t : Nat} {i z : Int} {K : ev_hs → Option α} (h1 : 1 ≤ k) (h2 : k ≤ 35) (ht : kdR k = t) (h3 : 0 ≤ i) (h4 : i < lnR k) (hz : z = 0 ∨ z = 1) : sZ (vw h c0 Rc Rr) t (some (c0 + 373 + k)) i z K = K (vw h c0 Rc (up3 Rr k i z)) := by
  unfold sZ
  dsimp only
  obtain ⟨-, e1, e2⟩ := hs.2 k h1 h2
  rw [vv_K, vv_L, if_pos ⟨by rw [e1, ht], h3, by rw [e2]; exact h4, hz⟩, vw_wAr h1 h2 (Int.toNat_of_nonneg h3).symm]
theorem r_gI (hs : shR h c0) {f : Nat} {K : Int → Option α} : gI (vw h c0 Rc Rr) 11 f (some (c0 + 373)) K = K (Rr 0 f) := by
  unfold gI
  dsimp only
  rw [vv_K, if_pos hs.1, vw_Ir (by omega)]
  congr 2
  omega
theorem r_pI (hs : shR h c0) {f : Nat} {z : Int} {K : ev_hs → Option α} : pI (vw h c0 Rc Rr) 11 f (some (c0 + 373)) z K = K (vw h c0 Rc (up3 Rr 0 f z)) := by
  unfold pI
  dsimp only
  rw [vv_K, if_pos hs.1, vw_wIr (by omega)]
  congr 3
  omega
theorem r_vK (hs : shR h c0) {A : Option α} : vK (vw h c0 Rc Rr) 11 (some (c0 + 373)) A = A := by
  unfold vK
  dsimp only
  rw [vv_K, if_pos hs.1]
theorem rg1 (hs : shR h c0) {K : Option Nat → Option α} : gR (vw h c0 Rc Rr) 11 3 (some (c0 + 373)) K = K (some (c0 + 373 + 1)) := r_gR hs (k := 1) (by decide) (by decide)
theorem rl1 (hs : shR h c0) {i : Int} {K : Int → Option α} (h3 : 0 ≤ i) (h4 : i < 128) : lI (vw h c0 Rc Rr) 51 (some (c0 + 373 + 1)) i K = K (Rr 1 i) := r_lI hs (by decide) (by decide) rfl h3 h4
theorem rs1 (hs : shR h c0) {i z : Int} {K : ev_hs → Option α} (h3 : 0 ≤ i) (h4 : i < 128) (hz : z = 0 ∨ z = 1) : sZ (vw h c0 Rc Rr) 51 (some (c0 + 373 + 1)) i z K = K (vw h c0 Rc (up3 Rr 1 i z)) := r_sZ hs (by decide) (by decide) rfl h3 h4 hz
theorem rg2 (hs : shR h c0) {K : Option Nat → Option α} : gR (vw h c0 Rc Rr) 11 4 (some (c0 + 373)) K = K (some (c0 + 373 + 2)) := r_gR hs (k := 2) (by decide) (by decide)
theorem rl2 (hs : shR h c0) {i : Int} {K : Int → Option α} (h3 : 0 ≤ i) (h4 : i < 128) : lI (vw h c0 Rc Rr) 50 (some (c0 + 373 + 2)) i K = K (Rr 2 i) := r_lI hs (by decide) (by decide) rfl h3 h4
theorem rs2 (hs : shR h c0) {i z : Int} {K : ev_hs → Option α} (h3 : 0 ≤ i) (h4 : i < 128) : sI (vw h c0 Rc Rr) 50 (some (c0 + 373 + 2)) i z K = K (vw h c0 Rc (up3 Rr 2 i z)) := r_sI hs (by decide) (by decide) rfl h3 h4
theorem rg3 (hs : shR h c0) {K : Option Nat → Option α} : gR (vw h c0 Rc Rr) 11 5 (some (c0 + 373)) K = K (some (c0 + 373 + 3)) := r_gR hs (k := 3) (by decide) (by decide)
theorem rl3 (hs : shR h c0) {i : Int} {K : Int → Option α} (h3 : 0 ≤ i) (h4 : i < 128) : lI (vw h c0 Rc Rr) 50 (some (c0 + 373 + 3)) i K = K (Rr 3 i) := r_lI hs (by decide) (by decide) rfl h3 h4
theorem rs3 (hs : shR h c0) {i z : Int} {K : ev_hs → Option α} (h3 : 0 ≤ i) (h4 : i < 128) : sI (vw h c0 Rc Rr) 50 (some (c0 + 373 + 3)) i z K = K (vw h c0 Rc (up3 Rr 3 i z)) := r_sI hs (by decide) (by decide) rfl h3 h4
theorem rg4 (hs : shR h c0) {K : Option Nat → Option α} : gR (vw h c0 Rc Rr) 11 6 (some (c0 + 373)) K = K (some (c0 + 373 + 4)) := r_gR hs (k := 4) (by decide) (by decide)
theorem rl4 (hs : shR h c0) {i : Int} {K : Int → Option α} (h3 : 0 ≤ i) (h4 : i < 128) : lI (vw h c0 Rc Rr) 50 (some (c0 + 373 + 4)) i K = K (Rr 4 i) := r_lI hs (by decide) (by decide) rfl h3 h4
theorem rs4 (hs : shR h c0) {i z : Int} {K : ev_hs → Option α} (h3 : 0 ≤ i) (h4 : i < 128) : sI (vw h c0 Rc Rr) 50 (some (c0 + 373 + 4)) i z K = K (vw h c0 Rc (up3 Rr 4 i z)) := r_sI hs (by decide) (by decide) rfl h3 h4
theorem rg5 (hs : shR h c0) {K : Option Nat → Option α} : gR (vw h c0 Rc Rr) 11 7 (some (c0 + 373)) K = K (some (c0 + 373 + 5)) := r_gR hs (k := 5) (by decide) (by decide)
theorem rl5 (hs : shR h c0) {i : Int} {K : Int → Option α} (h3 : 0 ≤ i) (h4 : i < 128) : lI (vw h c0 Rc Rr) 50 (some (c0 + 373 + 5)) i K = K (Rr 5 i) := r_lI hs (by decide) (by decide) rfl h3 h4
theorem rs5 (hs : shR h c0) {i z : Int} {K : ev_hs → Option α} (h3 : 0 ≤ i) (h4 : i < 128) : sI (vw h c0 Rc Rr) 50 (some (c0 + 373 + 5)) i z K = K (vw h c0 Rc (up3 Rr 5 i z)) := r_sI hs (by decide) (by decide) rfl h3 h4
theorem rg6 (hs : shR h c0) {K : Option Nat → Option α} : gR (vw h c0 Rc Rr) 11 8 (some (c0 + 373)) K = K (some (c0 + 373 + 6)) := r_gR hs (k := 6) (by decide) (by decide)
theorem rl6 (hs : shR h c0) {i : Int} {K : Int → Option α} (h3 : 0 ≤ i) (h4 : i < 128) : lI (vw h c0 Rc Rr) 50 (some (c0 + 373 + 6)) i K = K (Rr 6 i) := r_lI hs (by decide) (by decide) rfl h3 h4
theorem rs6 (hs : shR h c0) {i z : Int} {K : ev_hs → Option α} (h3 : 0 ≤ i) (h4 : i < 128) : sI (vw h c0 Rc Rr) 50 (some (c0 + 373 + 6)) i z K = K (vw h c0 Rc (up3 Rr 6 i z)) := r_sI hs (by decide) (by decide) rfl h3 h4
theorem rg7 (hs : shR h c0) {K : Option Nat → Option α} : gR (vw h c0 Rc Rr) 11 9 (some (c0 + 373)) K = K (some (c0 + 373 + 7)) := r_gR hs (k := 7) (by decide) (by decide)
theorem rl7 (hs : shR h c0) {i : Int} {K : Int → Option α} (h3 : 0 ≤ i) (h4 : i < 128) : lI (vw h c0 Rc Rr) 50 (some (c0 + 373 + 7)) i K = K (Rr 7 i) := r_lI hs (by decide) (by decide) rfl h3 h4
theorem rs7 (hs : shR h c0) {i z : Int} {K : ev_hs → Option α} (h3 : 0 ≤ i) (h4 : i < 128) : sI (vw h c0 Rc Rr) 50 (some (c0 + 373 + 7)) i z K = K (vw h c0 Rc (up3 Rr 7 i z)) := r_sI hs (by decide) (by decide) rfl h3 h4
theorem rg8 (hs : shR h c0) {K : Option Nat → Option α} : gR (vw h c0 Rc Rr) 11 10 (some (c0 + 373)) K = K (some (c0 + 373 + 8)) := r_gR hs (k := 8) (by decide) (by decide)
theorem rl8 (hs : shR h c0) {i : Int} {K : Int → Option α} (h3 : 0 ≤ i) (h4 : i < 128) : lI (vw h c0 Rc Rr) 50 (some (c0 + 373 + 8)) i K = K (Rr 8 i) := r_lI hs (by decide) (by decide) rfl h3 h4
theorem rs8 (hs : shR h c0) {i z : Int} {K : ev_hs → Option α} (h3 : 0 ≤ i) (h4 : i < 128) : sI (vw h c0 Rc Rr) 50 (some (c0 + 373 + 8)) i z K = K (vw h c0 Rc (up3 Rr 8 i z)) := r_sI hs (by decide) (by decide) rfl h3 h4
theorem rg9 (hs : shR h c0) {K : Option Nat → Option α} : gR (vw h c0 Rc Rr) 11 11 (some (c0 + 373)) K = K (some (c0 + 373 + 9)) := r_gR hs (k := 9) (by decide) (by decide)
theorem rl9 (hs : shR h c0) {i : Int} {K : Int → Option α} (h3 : 0 ≤ i) (h4 : i < 2304) : lI (vw h c0 Rc Rr) 50 (some (c0 + 373 + 9)) i K = K (Rr 9 i) := r_lI hs (by decide) (by decide) rfl h3 h4
theorem rs9 (hs : shR h c0) {i z : Int} {K : ev_hs → Option α} (h3 : 0 ≤ i) (h4 : i < 2304) : sI (vw h c0 Rc Rr) 50 (some (c0 + 373 + 9)) i z K = K (vw h c0 Rc (up3 Rr 9 i z)) := r_sI hs (by decide) (by decide) rfl h3 h4
theorem rg10 (hs : shR h c0) {K : Option Nat → Option α} : gR (vw h c0 Rc Rr) 11 12 (some (c0 + 373)) K = K (some (c0 + 373 + 10)) := r_gR hs (k := 10) (by decide) (by decide)
theorem rl10 (hs : shR h c0) {i : Int} {K : Int → Option α} (h3 : 0 ≤ i) (h4 : i < 18) : lI (vw h c0 Rc Rr) 50 (some (c0 + 373 + 10)) i K = K (Rr 10 i) := r_lI hs (by decide) (by decide) rfl h3 h4
theorem rs10 (hs : shR h c0) {i z : Int} {K : ev_hs → Option α} (h3 : 0 ≤ i) (h4 : i < 18) : sI (vw h c0 Rc Rr) 50 (some (c0 + 373 + 10)) i z K = K (vw h c0 Rc (up3 Rr 10 i z)) := r_sI hs (by decide) (by decide) rfl h3 h4
theorem rg11 (hs : shR h c0) {K : Option Nat → Option α} : gR (vw h c0 Rc Rr) 11 13 (some (c0 + 373)) K = K (some (c0 + 373 + 11)) := r_gR hs (k := 11) (by decide) (by decide)
theorem rl11 (hs : shR h c0) {i : Int} {K : Int → Option α} (h3 : 0 ≤ i) (h4 : i < 18) : lI (vw h c0 Rc Rr) 50 (some (c0 + 373 + 11)) i K = K (Rr 11 i) := r_lI hs (by decide) (by decide) rfl h3 h4
theorem rs11 (hs : shR h c0) {i z : Int} {K : ev_hs → Option α} (h3 : 0 ≤ i) (h4 : i < 18) : sI (vw h c0 Rc Rr) 50 (some (c0 + 373 + 11)) i z K = K (vw h c0 Rc (up3 Rr 11 i z)) := r_sI hs (by decide) (by decide) rfl h3 h4
theorem rg12 (hs : shR h c0) {K : Option Nat → Option α} : gR (vw h c0 Rc Rr) 11 14 (some (c0 + 373)) K = K (some (c0 + 373 + 12)) := r_gR hs (k := 12) (by decide) (by decide)
theorem rl12 (hs : shR h c0) {i : Int} {K : Int → Option α} (h3 : 0 ≤ i) (h4 : i < 2304) : lI (vw h c0 Rc Rr) 50 (some (c0 + 373 + 12)) i K = K (Rr 12 i) := r_lI hs (by decide) (by decide) rfl h3 h4
theorem rs12 (hs : shR h c0) {i z : Int} {K : ev_hs → Option α} (h3 : 0 ≤ i) (h4 : i < 2304) : sI (vw h c0 Rc Rr) 50 (some (c0 + 373 + 12)) i z K = K (vw h c0 Rc (up3 Rr 12 i z)) := r_sI hs (by decide) (by decide) rfl h3 h4
theorem rg13 (hs : shR h c0) {K : Option Nat → Option α} : gR (vw h c0 Rc Rr) 11 15 (some (c0 + 373)) K = K (some (c0 + 373 + 13)) := r_gR hs (k := 13) (by decide) (by decide)
theorem rl13 (hs : shR h c0) {i : Int} {K : Int → Option α} (h3 : 0 ≤ i) (h4 : i < 18) : lI (vw h c0 Rc Rr) 50 (some (c0 + 373 + 13)) i K = K (Rr 13 i) := r_lI hs (by decide) (by decide) rfl h3 h4
theorem rs13 (hs : shR h c0) {i z : Int} {K : ev_hs → Option α} (h3 : 0 ≤ i) (h4 : i < 18) : sI (vw h c0 Rc Rr) 50 (some (c0 + 373 + 13)) i z K = K (vw h c0 Rc (up3 Rr 13 i z)) := r_sI hs (by decide) (by decide) rfl h3 h4
theorem rg14 (hs : shR h c0) {K : Option Nat → Option α} : gR (vw h c0 Rc Rr) 11 16 (some (c0 + 373)) K = K (some (c0 + 373 + 14)) := r_gR hs (k := 14) (by decide) (by decide)
theorem rl14 (hs : shR h c0) {i : Int} {K : Int → Option α} (h3 : 0 ≤ i) (h4 : i < 360) : lI (vw h c0 Rc Rr) 50 (some (c0 + 373 + 14)) i K = K (Rr 14 i) := r_lI hs (by decide) (by decide) rfl h3 h4
theorem rs14 (hs : shR h c0) {i z : Int} {K : ev_hs → Option α} (h3 : 0 ≤ i) (h4 : i < 360) : sI (vw h c0 Rc Rr) 50 (some (c0 + 373 + 14)) i z K = K (vw h c0 Rc (up3 Rr 14 i z)) := r_sI hs (by decide) (by decide) rfl h3 h4
theorem rg15 (hs : shR h c0) {K : Option Nat → Option α} : gR (vw h c0 Rc Rr) 11 17 (some (c0 + 373)) K = K (some (c0 + 373 + 15)) := r_gR hs (k := 15) (by decide) (by decide)
theorem rl15 (hs : shR h c0) {i : Int} {K : Int → Option α} (h3 : 0 ≤ i) (h4 : i < 360) : lI (vw h c0 Rc Rr) 50 (some (c0 + 373 + 15)) i K = K (Rr 15 i) := r_lI hs (by decide) (by decide) rfl h3 h4
theorem rs15 (hs : shR h c0) {i z : Int} {K : ev_hs → Option α} (h3 : 0 ≤ i) (h4 : i < 360) : sI (vw h c0 Rc Rr) 50 (some (c0 + 373 + 15)) i z K = K (vw h c0 Rc (up3 Rr 15 i z)) := r_sI hs (by decide) (by decide) rfl h3 h4
theorem rg16 (hs : shR h c0) {K : Option Nat → Option α} : gR (vw h c0 Rc Rr) 11 18 (some (c0 + 373)) K = K (some (c0 + 373 + 16)) := r_gR hs (k := 16) (by decide) (by decide)
theorem rl16 (hs : shR h c0) {i : Int} {K : Int → Option α} (h3 : 0 ≤ i) (h4 : i < 360) : lI (vw h c0 Rc Rr) 50 (some (c0 + 373 + 16)) i K = K (Rr 16 i) := r_lI hs (by decide) (by decide) rfl h3 h4
theorem rs16 (hs : shR h c0) {i z : Int} {K : ev_hs → Option α} (h3 : 0 ≤ i) (h4 : i < 360) : sI (vw h c0 Rc Rr) 50 (some (c0 + 373 + 16)) i z K = K (vw h c0 Rc (up3 Rr 16 i z)) := r_sI hs (by decide) (by decide) rfl h3 h4
theorem rg17 (hs : shR h c0) {K : Option Nat → Option α} : gR (vw h c0 Rc Rr) 11 19 (some (c0 + 373)) K = K (some (c0 + 373 + 17)) := r_gR hs (k := 17) (by decide) (by decide)
theorem rl17 (hs : shR h c0) {i : Int} {K : Int → Option α} (h3 : 0 ≤ i) (h4 : i < 90) : lI (vw h c0 Rc Rr) 50 (some (c0 + 373 + 17)) i K = K (Rr 17 i) := r_lI hs (by decide) (by decide) rfl h3 h4
theorem rs17 (hs : shR h c0) {i z : Int} {K : ev_hs → Option α} (h3 : 0 ≤ i) (h4 : i < 90) : sI (vw h c0 Rc Rr) 50 (some (c0 + 373 + 17)) i z K = K (vw h c0 Rc (up3 Rr 17 i z)) := r_sI hs (by decide) (by decide) rfl h3 h4
theorem rg18 (hs : shR h c0) {K : Option Nat → Option α} : gR (vw h c0 Rc Rr) 11 20 (some (c0 + 373)) K = K (some (c0 + 373 + 18)) := r_gR hs (k := 18) (by decide) (by decide)
theorem rl18 (hs : shR h c0) {i : Int} {K : Int → Option α} (h3 : 0 ≤ i) (h4 : i < 90) : lI (vw h c0 Rc Rr) 50 (some (c0 + 373 + 18)) i K = K (Rr 18 i) := r_lI hs (by decide) (by decide) rfl h3 h4
theorem rs18 (hs : shR h c0) {i z : Int} {K : ev_hs → Option α} (h3 : 0 ≤ i) (h4 : i < 90) : sI (vw h c0 Rc Rr) 50 (some (c0 + 373 + 18)) i z K = K (vw h c0 Rc (up3 Rr 18 i z)) := r_sI hs (by decide) (by decide) rfl h3 h4
theorem rg19 (hs : shR h c0) {K : Option Nat → Option α} : gR (vw h c0 Rc Rr) 11 21 (some (c0 + 373)) K = K (some (c0 + 373 + 19)) := r_gR hs (k := 19) (by decide) (by decide)
theorem rl19 (hs : shR h c0) {i : Int} {K : Int → Option α} (h3 : 0 ≤ i) (h4 : i < 90) : lI (vw h c0 Rc Rr) 50 (some (c0 + 373 + 19)) i K = K (Rr 19 i) := r_lI hs (by decide) (by decide) rfl h3 h4
theorem rs19 (hs : shR h c0) {i z : Int} {K : ev_hs → Option α} (h3 : 0 ≤ i) (h4 : i < 90) : sI (vw h c0 Rc Rr) 50 (some (c0 + 373 + 19)) i z K = K (vw h c0 Rc (up3 Rr 19 i z)) := r_sI hs (by decide) (by decide) rfl h3 h4
theorem rg20 (hs : shR h c0) {K : Option Nat → Option α} : gR (vw h c0 Rc Rr) 11 22 (some (c0 + 373)) K = K (some (c0 + 373 + 20)) := r_gR hs (k := 20) (by decide) (by decide)
theorem rl20 (hs : shR h c0) {i : Int} {K : Int → Option α} (h3 : 0 ≤ i) (h4 : i < 48) : lI (vw h c0 Rc Rr) 50 (some (c0 + 373 + 20)) i K = K (Rr 20 i) := r_lI hs (by decide) (by decide) rfl h3 h4
theorem rs20 (hs : shR h c0) {i z : Int} {K : ev_hs → Option α} (h3 : 0 ≤ i) (h4 : i < 48) : sI (vw h c0 Rc Rr) 50 (some (c0 + 373 + 20)) i z K = K (vw h c0 Rc (up3 Rr 20 i z)) := r_sI hs (by decide) (by decide) rfl h3 h4
theorem rg21 (hs : shR h c0) {K : Option Nat → Option α} : gR (vw h c0 Rc Rr) 11 23 (some (c0 + 373)) K = K (some (c0 + 373 + 21)) := r_gR hs (k := 21) (by decide) (by decide)
theorem rl21 (hs : shR h c0) {i : Int} {K : Int → Option α} (h3 : 0 ≤ i) (h4 : i < 48) : lI (vw h c0 Rc Rr) 50 (some (c0 + 373 + 21)) i K = K (Rr 21 i) := r_lI hs (by decide) (by decide) rfl h3 h4
theorem rs21 (hs : shR h c0) {i z : Int} {K : ev_hs → Option α} (h3 : 0 ≤ i) (h4 : i < 48) : sI (vw h c0 Rc Rr) 50 (some (c0 + 373 + 21)) i z K = K (vw h c0 Rc (up3 Rr 21 i z)) := r_sI hs (by decide) (by decide) rfl h3 h4
theorem rg22 (hs : shR h c0) {K : Option Nat → Option α} : gR (vw h c0 Rc Rr) 11 24 (some (c0 + 373)) K = K (some (c0 + 373 + 22)) := r_gR hs (k := 22) (by decide) (by decide)
theorem rl22 (hs : shR h c0) {i : Int} {K : Int → Option α} (h3 : 0 ≤ i) (h4 : i < 48) : lI (vw h c0 Rc Rr) 50 (some (c0 + 373 + 22)) i K = K (Rr 22 i) := r_lI hs (by decide) (by decide) rfl h3 h4
theorem rs22 (hs : shR h c0) {i z : Int} {K : ev_hs → Option α} (h3 : 0 ≤ i) (h4 : i < 48) : sI (vw h c0 Rc Rr) 50 (some (c0 + 373 + 22)) i z K = K (vw h c0 Rc (up3 Rr 22 i z)) := r_sI hs (by decide) (by decide) rfl h3 h4
theorem rg23 (hs : shR h c0) {K : Option Nat → Option α} : gR (vw h c0 Rc Rr) 11 25 (some (c0 + 373)) K = K (some (c0 + 373 + 23)) := r_gR hs (k := 23) (by decide) (by decide)
theorem rl23 (hs : shR h c0) {i : Int} {K : Int → Option α} (h3 : 0 ≤ i) (h4 : i < 48) : lI (vw h c0 Rc Rr) 50 (some (c0 + 373 + 23)) i K = K (Rr 23 i) := r_lI hs (by decide) (by decide) rfl h3 h4
theorem rs23 (hs : shR h c0) {i z : Int} {K : ev_hs → Option α} (h3 : 0 ≤ i) (h4 : i < 48) : sI (vw h c0 Rc Rr) 50 (some (c0 + 373 + 23)) i z K = K (vw h c0 Rc (up3 Rr 23 i z)) := r_sI hs (by decide) (by decide) rfl h3 h4
theorem rg24 (hs : shR h c0) {K : Option Nat → Option α} : gR (vw h c0 Rc Rr) 11 26 (some (c0 + 373)) K = K (some (c0 + 373 + 24)) := r_gR hs (k := 24) (by decide) (by decide)
theorem rl24 (hs : shR h c0) {i : Int} {K : Int → Option α} (h3 : 0 ≤ i) (h4 : i < 8) : lI (vw h c0 Rc Rr) 50 (some (c0 + 373 + 24)) i K = K (Rr 24 i) := r_lI hs (by decide) (by decide) rfl h3 h4
theorem rs24 (hs : shR h c0) {i z : Int} {K : ev_hs → Option α} (h3 : 0 ≤ i) (h4 : i < 8) : sI (vw h c0 Rc Rr) 50 (some (c0 + 373 + 24)) i z K = K (vw h c0 Rc (up3 Rr 24 i z)) := r_sI hs (by decide) (by decide) rfl h3 h4
theorem rg25 (hs : shR h c0) {K : Option Nat → Option α} : gR (vw h c0 Rc Rr) 11 27 (some (c0 + 373)) K = K (some (c0 + 373 + 25)) := r_gR hs (k := 25) (by decide) (by decide)
theorem rl25 (hs : shR h c0) {i : Int} {K : Int → Option α} (h3 : 0 ≤ i) (h4 : i < 8) : lI (vw h c0 Rc Rr) 50 (some (c0 + 373 + 25)) i K = K (Rr 25 i) := r_lI hs (by decide) (by decide) rfl h3 h4
theorem rs25 (hs : shR h c0) {i z : Int} {K : ev_hs → Option α} (h3 : 0 ≤ i) (h4 : i < 8) : sI (vw h c0 Rc Rr) 50 (some (c0 + 373 + 25)) i z K = K (vw h c0 Rc (up3 Rr 25 i z)) := r_sI hs (by decide) (by decide) rfl h3 h4
theorem rg26 (hs : shR h c0) {K : Option Nat → Option α} : gR (vw h c0 Rc Rr) 11 28 (some (c0 + 373)) K = K (some (c0 + 373 + 26)) := r_gR hs (k := 26) (by decide) (by decide)
theorem rl26 (hs : shR h c0) {i : Int} {K : Int → Option α} (h3 : 0 ≤ i) (h4 : i < 8) : lI (vw h c0 Rc Rr) 50 (some (c0 + 373 + 26)) i K = K (Rr 26 i) := r_lI hs (by decide) (by decide) rfl h3 h4
theorem rs26 (hs : shR h c0) {i z : Int} {K : ev_hs → Option α} (h3 : 0 ≤ i) (h4 : i < 8) : sI (vw h c0 Rc Rr) 50 (some (c0 + 373 + 26)) i z K = K (vw h c0 Rc (up3 Rr 26 i z)) := r_sI hs (by decide) (by decide) rfl h3 h4
theorem rg27 (hs : shR h c0) {K : Option Nat → Option α} : gR (vw h c0 Rc Rr) 11 29 (some (c0 + 373)) K = K (some (c0 + 373 + 27)) := r_gR hs (k := 27) (by decide) (by decide)
theorem rl27 (hs : shR h c0) {i : Int} {K : Int → Option α} (h3 : 0 ≤ i) (h4 : i < 8) : lI (vw h c0 Rc Rr) 50 (some (c0 + 373 + 27)) i K = K (Rr 27 i) := r_lI hs (by decide) (by decide) rfl h3 h4
theorem rs27 (hs : shR h c0) {i z : Int} {K : ev_hs → Option α} (h3 : 0 ≤ i) (h4 : i < 8) : sI (vw h c0 Rc Rr) 50 (some (c0 + 373 + 27)) i z K = K (vw h c0 Rc (up3 Rr 27 i z)) := r_sI hs (by decide) (by decide) rfl h3 h4
theorem rg28 (hs : shR h c0) {K : Option Nat → Option α} : gR (vw h c0 Rc Rr) 11 30 (some (c0 + 373)) K = K (some (c0 + 373 + 28)) := r_gR hs (k := 28) (by decide) (by decide)
theorem rl28 (hs : shR h c0) {i : Int} {K : Int → Option α} (h3 : 0 ≤ i) (h4 : i < 240) : lI (vw h c0 Rc Rr) 50 (some (c0 + 373 + 28)) i K = K (Rr 28 i) := r_lI hs (by decide) (by decide) rfl h3 h4
theorem rs28 (hs : shR h c0) {i z : Int} {K : ev_hs → Option α} (h3 : 0 ≤ i) (h4 : i < 240) : sI (vw h c0 Rc Rr) 50 (some (c0 + 373 + 28)) i z K = K (vw h c0 Rc (up3 Rr 28 i z)) := r_sI hs (by decide) (by decide) rfl h3 h4
theorem rg29 (hs : shR h c0) {K : Option Nat → Option α} : gR (vw h c0 Rc Rr) 11 31 (some (c0 + 373)) K = K (some (c0 + 373 + 29)) := r_gR hs (k := 29) (by decide) (by decide)
theorem rl29 (hs : shR h c0) {i : Int} {K : Int → Option α} (h3 : 0 ≤ i) (h4 : i < 240) : lI (vw h c0 Rc Rr) 50 (some (c0 + 373 + 29)) i K = K (Rr 29 i) := r_lI hs (by decide) (by decide) rfl h3 h4
theorem rs29 (hs : shR h c0) {i z : Int} {K : ev_hs → Option α} (h3 : 0 ≤ i) (h4 : i < 240) : sI (vw h c0 Rc Rr) 50 (some (c0 + 373 + 29)) i z K = K (vw h c0 Rc (up3 Rr 29 i z)) := r_sI hs (by decide) (by decide) rfl h3 h4
theorem rg30 (hs : shR h c0) {K : Option Nat → Option α} : gR (vw h c0 Rc Rr) 11 32 (some (c0 + 373)) K = K (some (c0 + 373 + 30)) := r_gR hs (k := 30) (by decide) (by decide)
theorem rl30 (hs : shR h c0) {i : Int} {K : Int → Option α} (h3 : 0 ≤ i) (h4 : i < 240) : lI (vw h c0 Rc Rr) 50 (some (c0 + 373 + 30)) i K = K (Rr 30 i) := r_lI hs (by decide) (by decide) rfl h3 h4
theorem rs30 (hs : shR h c0) {i z : Int} {K : ev_hs → Option α} (h3 : 0 ≤ i) (h4 : i < 240) : sI (vw h c0 Rc Rr) 50 (some (c0 + 373 + 30)) i z K = K (vw h c0 Rc (up3 Rr 30 i z)) := r_sI hs (by decide) (by decide) rfl h3 h4
theorem rg31 (hs : shR h c0) {K : Option Nat → Option α} : gR (vw h c0 Rc Rr) 11 33 (some (c0 + 373)) K = K (some (c0 + 373 + 31)) := r_gR hs (k := 31) (by decide) (by decide)
theorem rl31 (hs : shR h c0) {i : Int} {K : Int → Option α} (h3 : 0 ≤ i) (h4 : i < 240) : lI (vw h c0 Rc Rr) 50 (some (c0 + 373 + 31)) i K = K (Rr 31 i) := r_lI hs (by decide) (by decide) rfl h3 h4
theorem rs31 (hs : shR h c0) {i z : Int} {K : ev_hs → Option α} (h3 : 0 ≤ i) (h4 : i < 240) : sI (vw h c0 Rc Rr) 50 (some (c0 + 373 + 31)) i z K = K (vw h c0 Rc (up3 Rr 31 i z)) := r_sI hs (by decide) (by decide) rfl h3 h4
theorem rg32 (hs : shR h c0) {K : Option Nat → Option α} : gR (vw h c0 Rc Rr) 11 34 (some (c0 + 373)) K = K (some (c0 + 373 + 32)) := r_gR hs (k := 32) (by decide) (by decide)
theorem rl32 (hs : shR h c0) {i : Int} {K : Int → Option α} (h3 : 0 ≤ i) (h4 : i < 240) : lI (vw h c0 Rc Rr) 50 (some (c0 + 373 + 32)) i K = K (Rr 32 i) := r_lI hs (by decide) (by decide) rfl h3 h4
theorem rs32 (hs : shR h c0) {i z : Int} {K : ev_hs → Option α} (h3 : 0 ≤ i) (h4 : i < 240) : sI (vw h c0 Rc Rr) 50 (some (c0 + 373 + 32)) i z K = K (vw h c0 Rc (up3 Rr 32 i z)) := r_sI hs (by decide) (by decide) rfl h3 h4
theorem rg33 (hs : shR h c0) {K : Option Nat → Option α} : gR (vw h c0 Rc Rr) 11 35 (some (c0 + 373)) K = K (some (c0 + 373 + 33)) := r_gR hs (k := 33) (by decide) (by decide)
theorem rl33 (hs : shR h c0) {i : Int} {K : Int → Option α} (h3 : 0 ≤ i) (h4 : i < 6) : lI (vw h c0 Rc Rr) 50 (some (c0 + 373 + 33)) i K = K (Rr 33 i) := r_lI hs (by decide) (by decide) rfl h3 h4
theorem rs33 (hs : shR h c0) {i z : Int} {K : ev_hs → Option α} (h3 : 0 ≤ i) (h4 : i < 6) : sI (vw h c0 Rc Rr) 50 (some (c0 + 373 + 33)) i z K = K (vw h c0 Rc (up3 Rr 33 i z)) := r_sI hs (by decide) (by decide) rfl h3 h4
theorem rg34 (hs : shR h c0) {K : Option Nat → Option α} : gR (vw h c0 Rc Rr) 11 36 (some (c0 + 373)) K = K (some (c0 + 373 + 34)) := r_gR hs (k := 34) (by decide) (by decide)
theorem rl34 (hs : shR h c0) {i : Int} {K : Int → Option α} (h3 : 0 ≤ i) (h4 : i < 6) : lI (vw h c0 Rc Rr) 50 (some (c0 + 373 + 34)) i K = K (Rr 34 i) := r_lI hs (by decide) (by decide) rfl h3 h4
theorem rs34 (hs : shR h c0) {i z : Int} {K : ev_hs → Option α} (h3 : 0 ≤ i) (h4 : i < 6) : sI (vw h c0 Rc Rr) 50 (some (c0 + 373 + 34)) i z K = K (vw h c0 Rc (up3 Rr 34 i z)) := r_sI hs (by decide) (by decide) rfl h3 h4
theorem rg35 (hs : shR h c0) {K : Option Nat → Option α} : gR (vw h c0 Rc Rr) 11 37 (some (c0 + 373)) K = K (some (c0 + 373 + 35)) := r_gR hs (k := 35) (by decide) (by decide)
theorem rl35 (hs : shR h c0) {i : Int} {K : Int → Option α} (h3 : 0 ≤ i) (h4 : i < 6) : lI (vw h c0 Rc Rr) 51 (some (c0 + 373 + 35)) i K = K (Rr 35 i) := r_lI hs (by decide) (by decide) rfl h3 h4
theorem rs35 (hs : shR h c0) {i z : Int} {K : ev_hs → Option α} (h3 : 0 ≤ i) (h4 : i < 6) (hz : z = 0 ∨ z = 1) : sZ (vw h c0 Rc Rr) 51 (some (c0 + 373 + 35)) i z K = K (vw h c0 Rc (up3 Rr 35 i z)) := r_sZ hs (by decide) (by decide) rfl h3 h4 hz
theorem ri0 (hs : shR h c0) {K : Int → Option α} : gI (vw h c0 Rc Rr) 11 0 (some (c0 + 373)) K = K (Rr 0 0) := r_gI hs
theorem rq0 (hs : shR h c0) {z : Int} {K : ev_hs → Option α} : pI (vw h c0 Rc Rr) 11 0 (some (c0 + 373)) z K = K (vw h c0 Rc (up3 Rr 0 0 z)) := r_pI hs
theorem ri1 (hs : shR h c0) {K : Int → Option α} : gI (vw h c0 Rc Rr) 11 1 (some (c0 + 373)) K = K (Rr 0 1) := r_gI hs
theorem rq1 (hs : shR h c0) {z : Int} {K : ev_hs → Option α} : pI (vw h c0 Rc Rr) 11 1 (some (c0 + 373)) z K = K (vw h c0 Rc (up3 Rr 0 1 z)) := r_pI hs
theorem ri2 (hs : shR h c0) {K : Int → Option α} : gI (vw h c0 Rc Rr) 11 2 (some (c0 + 373)) K = K (Rr 0 2) := r_gI hs
theorem rq2 (hs : shR h c0) {z : Int} {K : ev_hs → Option α} : pI (vw h c0 Rc Rr) 11 2 (some (c0 + 373)) z K = K (vw h c0 Rc (up3 Rr 0 2 z)) := r_pI hs
theorem ri38 (hs : shR h c0) {K : Int → Option α} : gI (vw h c0 Rc Rr) 11 38 (some (c0 + 373)) K = K (Rr 0 38) := r_gI hs
theorem rq38 (hs : shR h c0) {z : Int} {K : ev_hs → Option α} : pI (vw h c0 Rc Rr) 11 38 (some (c0 + 373)) z K = K (vw h c0 Rc (up3 Rr 0 38 z)) := r_pI hs
theorem ri39 (hs : shR h c0) {K : Int → Option α} : gI (vw h c0 Rc Rr) 11 39 (some (c0 + 373)) K = K (Rr 0 39) := r_gI hs
theorem rq39 (hs : shR h c0) {z : Int} {K : ev_hs → Option α} : pI (vw h c0 Rc Rr) 11 39 (some (c0 + 373)) z K = K (vw h c0 Rc (up3 Rr 0 39 z)) := r_pI hs
theorem ri40 (hs : shR h c0) {K : Int → Option α} : gI (vw h c0 Rc Rr) 11 40 (some (c0 + 373)) K = K (Rr 0 40) := r_gI hs
theorem rq40 (hs : shR h c0) {z : Int} {K : ev_hs → Option α} : pI (vw h c0 Rc Rr) 11 40 (some (c0 + 373)) z K = K (vw h c0 Rc (up3 Rr 0 40 z)) := r_pI hs
end RefRules
