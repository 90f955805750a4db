-- sums
def sN (f : Nat → Nat) : Nat → Nat
  | 0 => 0
  | k + 1 => sN f k + f k
theorem sN_congr {f g : Nat → Nat} : ∀ {k : Nat}, (∀ i, i < k → f i = g i) → sN f k = sN g k := by
  intro k
  induction k with
  | zero => intro _; rfl
  | succ k ih => intro h; unfold sN; rw [ih (fun i hi => h i (by omega)), h k (by omega)]
theorem sN_up {f g : Nat → Nat} {p : Nat} : ∀ {k : Nat}, p < k → (∀ i, i < k → i ≠ p → f i = g i) → sN f k + g p = sN g k + f p := by
  intro k
  induction k with
  | zero => intro h; omega
  | succ k ih =>
    intro hp h
    unfold sN
    by_cases hk : p = k
    · subst hk
      rw [sN_congr (f := f) (g := g) (fun i hi => h i (by omega) (by omega))]
      omega
    · have := ih (by omega) (fun i hi hne => h i (by omega) hne)
      rw [h k (by omega) (by omega)]
      omega
theorem sN_le {f : Nat → Nat} {c : Nat} : ∀ {k : Nat}, (∀ i, i < k → f i ≤ c) → sN f k ≤ c * k := by
  intro k
  induction k with
  | zero => intro _; exact Nat.le_refl _
  | succ k ih =>
    intro h
    unfold sN
    have h1 := ih (fun i hi => h i (by omega))
    have h2 := h k (by omega)
    rw [Nat.mul_succ]
    omega
theorem sN_one {f : Nat → Nat} : ∀ {k : Nat}, (∀ i, i < k → 1 ≤ f i) → k ≤ sN f k := by
  intro k
  induction k with
  | zero => intro _; exact Nat.le_refl _
  | succ k ih =>
    intro h
    unfold sN
    have h1 := ih (fun i hi => h i (by omega))
    have h2 := h k (by omega)
    omega
def lvC (R : RS) : Nat := sN (fun p => (R 1 (p : Int)).toNat) 128
theorem nFr_sp (R : RS) : ∀ (m : Nat) (p : Int), (nFr R m p < p + m → R 1 (nFr R m p) = 0) ∧ (nFr R m p = p + m → ∀ j, p ≤ j → j < p + m → R 1 j ≠ 0) ∧ nFr R m p ≤ p + m := by
  intro m
  induction m with
  | zero =>
    intro p
    unfold nFr
    refine ⟨fun h => by omega, fun h j h1 h2 => by omega, by omega⟩
  | succ m ih =>
    intro p
    obtain ⟨i1, i2, i3⟩ := ih (p + 1)
    unfold nFr
    by_cases h0 : R 1 p = 0
    · rw [if_pos h0]
      refine ⟨fun _ => h0, fun h => by omega, by omega⟩
    · rw [if_neg h0]
      refine ⟨fun h => i1 (by omega), fun h j h1 h2 => ?_, by omega⟩
      by_cases hj : j = p
      · subst hj
        exact h0
      · exact i2 (by omega) j (by omega) (by omega)
theorem nFree_lt {R : RS} (hl : ∀ p, 0 ≤ p → p < 128 → R 1 p = 0 ∨ R 1 p = 1) (hc : lvC R < 128) : 0 ≤ nFree R ∧ nFree R < 128 ∧ R 1 (nFree R) = 0 := by
  obtain ⟨i1, i2, i3⟩ := nFr_sp R 128 0
  have h0 : 0 ≤ nFree R := nFr_ge R 128 0
  have hlt : nFree R < 128 := by
    apply Classical.byContradiction
    intro hn
    have he : nFr R 128 0 = 0 + 128 := by
      have : nFree R = nFr R 128 0 := rfl
      omega
    have hall := i2 he
    have : 128 ≤ lvC R := by
      unfold lvC
      refine sN_one (fun i hi => ?_)
      have h1 := hall i (by omega) (by omega)
      have h2 := hl i (by omega) (by omega)
      omega
    omega
  exact ⟨h0, hlt, i1 (by have : nFree R = nFr R 128 0 := rfl; omega)⟩
-- m packets may be sent
def sOK (R : RS) (m : Nat) : Prop := (∀ p, 0 ≤ p → p < 128 → R 1 p = 0 ∨ R 1 p = 1) ∧ lvC R + m ≤ 127 ∧ ∀ q, 0 ≤ q → q < 18 → 0 ≤ R 10 q ∧ R 10 q ≤ lvC R
theorem sOK_le {R : RS} {m k : Nat} (h : sOK R m) (hk : k ≤ m) : sOK R k := ⟨h.1, by have := h.2.1; omega, h.2.2⟩
theorem lvC_congr {R T : RS} (h : T 1 = R 1) : lvC T = lvC R := by unfold lvC; rw [h]
theorem sOK_congr {R T : RS} {m : Nat} (h : sOK R m) (h1 : T 1 = R 1) (h2 : T 10 = R 10) : sOK T m := by
  unfold sOK
  rw [lvC_congr h1, h1, h2]
  exact h
theorem u3f {R : RS} {k a : Nat} {i z : Int} (h : a ≠ k) : up3 R k i z a = R a := by
  funext j
  exact u3n h
theorem sOK_u {R : RS} {m k : Nat} {i z : Int} (h : sOK R m) (hk : k ≠ 1 ∧ k ≠ 10) : sOK (up3 R k i z) m := sOK_congr h (u3f (by omega)) (u3f (by omega))
theorem nSend_n {R : RS} {n k l t w v m : Int} {a : Nat} {j : Int} (h : 11 ≤ a) : nSend R n k l t w v m a j = R a j := by
  unfold nSend
  rw [u3n (by omega), u3n (by omega), u3n (by omega), u3n (by omega), u3n (by omega), u3n (by omega), u3n (by omega), u3n (by omega), u3n (by omega), u3n (by omega), u3n (by omega)]
theorem nSend_1 {R : RS} {n k l t w v m : Int} : nSend R n k l t w v m 1 = up3 R 1 (nFree R) 1 1 := by
  unfold nSend
  rw [u3f (by omega), u3f (by omega), u3f (by omega), u3f (by omega), u3f (by omega), u3f (by omega), u3f (by omega), u3f (by omega), u3f (by omega), u3f (by omega)]
theorem nSend_10 {R : RS} {n k l t w v m : Int} {q : Int} : nSend R n k l t w v m 10 q = if q = 3 * n + nCh k then R 10 q + 1 else R 10 q := by
  unfold nSend
  rw [u3n (by omega), up3_eq]
  by_cases hq : q = 3 * n + nCh k
  · subst hq
    rw [if_pos ⟨rfl, rfl⟩, if_pos rfl]
  · rw [if_neg (by omega), if_neg hq, u3n (by omega), u3n (by omega), u3n (by omega), u3n (by omega), u3n (by omega), u3n (by omega), u3n (by omega), u3n (by omega), u3n (by omega)]
theorem lvC_up {R : RS} {p z : Int} (h0 : 0 ≤ p) (h1 : p < 128) : lvC (up3 R 1 p z) + (R 1 p).toNat = lvC R + z.toNat := by
  have hp : ((p.toNat : Nat) : Int) = p := Int.toNat_of_nonneg h0
  have := sN_up (f := fun i => (up3 R 1 p z 1 (i : Int)).toNat) (g := fun i => (R 1 (i : Int)).toNat) (p := p.toNat) (k := 128) (by omega) (fun i hi hne => by
    rw [u3i (by omega)])
  rw [hp, u3s] at this
  exact this
theorem sOK_send {R : RS} {m : Nat} {n k l t w v y : Int} (h : sOK R (m + 1)) : sOK (nSend R n k l t w v y) m := by
  obtain ⟨h1, h2, h3⟩ := h
  obtain ⟨f1, f2, f3⟩ := nFree_lt h1 (by omega)
  have hc : lvC (nSend R n k l t w v y) = lvC R + 1 := by
    rw [lvC_congr (T := nSend R n k l t w v y) (R := up3 R 1 (nFree R) 1) nSend_1]
    have := lvC_up (R := R) (p := nFree R) (z := 1) f1 f2
    rw [f3] at this
    simpa using this
  refine ⟨fun p p1 p2 => ?_, by omega, fun q q1 q2 => ?_⟩
  · rw [nSend_1, up3_eq]
    have := h1 p p1 p2
    split <;> omega
  · rw [nSend_10, hc]
    have := h3 q q1 q2
    split <;> omega
section RefM4
variable {h : ev_hs} {c0 : Nat} {Rc Rr : RS}
theorem m_sendS (hs : shR h c0) {m0 : Nat} (S : sOK Rr (m0 + 1)) {n k l t w v m : Int} (hn : 0 ≤ n ∧ n < 6) (hk : 0 ≤ k ∧ k ≤ 10) : f_Mo_send (some (c0 + 373)) n k l t w v m (vw h c0 Rc Rr) = some (vw h c0 Rc (nSend Rr n k l t w v m)) := by
  have hc : 0 ≤ nCh k ∧ nCh k ≤ 2 := by unfold nCh; omega
  have h2 := S.2.1
  have h3 := S.2.2 (3 * n + nCh k) (by omega) (by omega)
  exact m_send hs S.1 (nFree_lt S.1 (by omega)).2.1 hn hk (by omega)
theorem b_sendS {α : Type} {K : ev_hs → Option α} (hs : shR h c0) {m0 : Nat} (S : sOK Rr (m0 + 1)) {n k l t w v m : Int} (hn : 0 ≤ n ∧ n < 6) (hk : 0 ≤ k ∧ k ≤ 10) : bV (f_Mo_send (some (c0 + 373)) n k l t w v m (vw h c0 Rc Rr)) K = K (vw h c0 Rc (nSend Rr n k l t w v m)) := by rw [m_sendS hs S hn hk]; rfl
end RefM4
