/-! What the takes do to the counts -/
section Inv3
variable {R R0 R1 T : RS} {n l s a m o p : Int}
def kl (R1 : RS) (p : Int) (T : RS) : Prop := T 1 = up3 R1 1 p 0 1 ∧ (∀ a, 2 ≤ a → a ≤ 8 → T a = R1 a) ∧ (∀ a, 20 ≤ a → T a = R1 a) ∧ T 0 = R1 0
def kep (R R1 : RS) (p : Int) : Prop := ∀ a, 1 ≤ a → a ≤ 8 → R1 a p = R a p
theorem kep_r : kep R R p := fun _ _ _ => rfl
theorem kep_t (h1 : kep R R0 p) (h2 : kep R0 R1 p) : kep R R1 p := fun a x y => (h2 a x y).trans (h1 a x y)
theorem kep_u {k : Nat} {i z : Int} (h : kep R R1 p) (hk : 9 ≤ k ∨ k = 0) : kep R (up3 R1 k i z) p := fun a x y => (u3n (by omega)).trans (h a x y)
theorem kep_send {m0 : Nat} (S : sOK R (m0 + 1)) (hL : R 1 p = 1) {n k l t w v m : Int} : kep R (nSend R n k l t w v m) p := by
  obtain ⟨f1, f2, f3⟩ := nFree_lt S.1 (by have := S.2.1; omega)
  have : p ≠ nFree R := by
    intro h
    rw [h, f3] at hL
    omega
  exact fun a x y => nSend_f this a x y
theorem kl_cnt (k : kl R1 p T) (hp : 0 ≤ p ∧ p < 128) (hL : R 1 p = 1) (hk : kep R R1 p) (f : PW) : cnt f T + f (R 2 p) (R 3 p) (R 4 p) (R 5 p) (R 6 p) (R 8 p) = cnt f R1 := by
  obtain ⟨k1, k2, _⟩ := k
  have e : eqP T (up3 R1 1 p 0) := ⟨k1, (k2 2 (by omega) (by omega)).trans (u3f (by omega)).symm, (k2 3 (by omega) (by omega)).trans (u3f (by omega)).symm, (k2 4 (by omega) (by omega)).trans (u3f (by omega)).symm, (k2 5 (by omega) (by omega)).trans (u3f (by omega)).symm, (k2 6 (by omega) (by omega)).trans (u3f (by omega)).symm, (k2 8 (by omega) (by omega)).trans (u3f (by omega)).symm⟩
  rw [cnt_congr e]
  have := cnt_kill (f := f) hp.1 hp.2 ((hk 1 (by omega) (by omega)).trans hL)
  rwa [hk 2 (by omega) (by omega), hk 3 (by omega) (by omega), hk 4 (by omega) (by omega), hk 5 (by omega) (by omega), hk 6 (by omega) (by omega), hk 8 (by omega) (by omega)] at this
theorem cnt_u {f : PW} {k : Nat} {i z : Int} (hk : 9 ≤ k ∨ k = 0 ∨ k = 7) : cnt f (up3 R k i z) = cnt f R := cnt_congr (eqP_u (eqP_r R) hk)
theorem nSend_0 {n k l t w v m : Int} {j : Int} : nSend R n k l t w v m 0 j = if j = 38 then R 0 38 + 1 else R 0 j := by
  unfold nSend
  rw [up3_eq]
  simp (disch := omega) only [u3n, true_and]
theorem cnt_iv {f : PW} {x : Int} : ∀ (m : Nat) (k : Nat) (R : RS), sOK R m → k + m = 6 → cnt f (nIv n l x o m (k : Int) R) + sN (fun k => if eAnd (eShr o (k : Int)) 1 = 1 then f 6 l (k : Int) n x 0 else 0) k = cnt f R + ivS f o l n x := by
  intro m
  induction m with
  | zero =>
    intro k R S hk
    have : k = 6 := by omega
    subst this
    rfl
  | succ m ih =>
    intro k R S hk
    unfold nIv
    have e : ((k : Int) + 1) = ((k + 1 : Nat) : Int) := by omega
    rw [e]
    by_cases hb : eAnd (eShr o (k : Int)) 1 = 1
    · rw [if_pos hb]
      have := ih (k + 1) _ (sOK_send S (n := n) (k := 6) (l := l) (t := (k : Int)) (w := x) (v := 0) (y := 0)) (by omega)
      rw [cnt_send S] at this
      have e2 : sN (fun k => if eAnd (eShr o (k : Int)) 1 = 1 then f 6 l (k : Int) n x 0 else 0) (k + 1) = sN (fun k => if eAnd (eShr o (k : Int)) 1 = 1 then f 6 l (k : Int) n x 0 else 0) k + f 6 l (k : Int) n x 0 := by
        show _ + (if eAnd (eShr o (k : Int)) 1 = 1 then f 6 l (k : Int) n x 0 else 0) = _
        rw [if_pos hb]
      rw [e2] at this
      omega
    · rw [if_neg hb]
      have := ih (k + 1) R (sOK_le S (by omega)) (by omega)
      have e2 : sN (fun k => if eAnd (eShr o (k : Int)) 1 = 1 then f 6 l (k : Int) n x 0 else 0) (k + 1) = sN (fun k => if eAnd (eShr o (k : Int)) 1 = 1 then f 6 l (k : Int) n x 0 else 0) k := by
        show _ + (if eAnd (eShr o (k : Int)) 1 = 1 then f 6 l (k : Int) n x 0 else 0) = _
        rw [if_neg hb]
        rfl
      rw [e2] at this
      omega
theorem kep_iv {x : Int} : ∀ (m : Nat) (k : Int) (R : RS), sOK R m → R 1 p = 1 → kep R (nIv n l x o m k R) p := by
  intro m
  induction m with
  | zero => intro k R _ _; exact kep_r
  | succ m ih =>
    intro k R S hL
    unfold nIv
    by_cases hb : eAnd (eShr o k) 1 = 1
    · rw [if_pos hb]
      have e := kep_send S hL (n := n) (k := 6) (l := l) (t := k) (w := x) (v := 0) (m := 0)
      exact kep_t e (ih (k + 1) _ (sOK_send S) ((e 1 (by omega) (by omega)).trans hL))
    · rw [if_neg hb]
      exact ih (k + 1) R (sOK_le S (by omega)) hL
theorem nIv_0 {x : Int} {f : PW} (hf : ∀ k l t s a m, f k l t s a m = 1) : ∀ (m : Nat) (k : Int) (R : RS), sOK R m → nIv n l x o m k R 0 38 + (cnt f R : Int) = R 0 38 + (cnt f (nIv n l x o m k R) : Int) := by
  intro m
  induction m with
  | zero => intro k R S; rfl
  | succ m ih =>
    intro k R S
    unfold nIv
    by_cases hb : eAnd (eShr o k) 1 = 1
    · rw [if_pos hb]
      have := ih (k + 1) _ (sOK_send S (n := n) (k := 6) (l := l) (t := k) (w := x) (v := 0) (y := 0))
      rw [nSend_0, if_pos rfl, cnt_send S, hf] at this
      omega
    · rw [if_neg hb]
      exact ih (k + 1) R (sOK_le S (by omega))
theorem nIv_0n {x : Int} {j : Int} (hj : j ≠ 38) : ∀ (m : Nat) (k : Int) (R : RS), nIv n l x o m k R 0 j = R 0 j := by
  intro m
  induction m with
  | zero => intro k R; rfl
  | succ m ih =>
    intro k R
    unfold nIv
    rw [ih]
    split
    · rw [nSend_0, if_neg hj]
    · rfl
-- ranges
def bD (R : RS) : Prop := ∀ k, 0 ≤ k → k < 48 → (0 ≤ R 20 k ∧ R 20 k ≤ 10) ∧ (-2147483648 ≤ R 21 k ∧ R 21 k < 2147483648) ∧ (0 ≤ R 23 k ∧ R 23 k ≤ 100000)
theorem bP_u {k : Nat} {i z : Int} (h : bP R) (hk : 9 ≤ k ∨ k = 0) : bP (up3 R k i z) := by
  intro q h0 h1
  have := h q h0 h1
  simp (disch := omega) only [u3n]
  exact this
theorem bP_send {m0 : Nat} (S : sOK R (m0 + 1)) (h : bP R) {n k l t w v m : Int} (hn : 0 ≤ n ∧ n < 6) (hk : 0 ≤ k ∧ k ≤ 10) (hl : 0 ≤ l ∧ l < 8) (ht : 0 ≤ t ∧ t ≤ 5) (hw : 0 ≤ w ∧ w ≤ 5) (hv : -2147483648 ≤ v ∧ v < 2147483648) (hm : 0 ≤ m ∧ m ≤ 5) : bP (nSend R n k l t w v m) := by
  intro q h0 h1
  by_cases hq : q = nFree R
  · subst hq
    obtain ⟨g1, g2, g3, g4, g5, g6, g7, g8⟩ := nSend_at (R := R) (n := n) (k := k) (l := l) (t := t) (w := w) (v := v) (m := m)
    rw [g1, g2, g3, g4, g5, g6, g7, g8]
    omega
  · have := h q h0 h1
    simp (disch := omega) only [nSend_f hq]
    exact this
theorem bP_iv (hn : 0 ≤ n ∧ n < 6) (hl : 0 ≤ l ∧ l < 8) {x : Int} (hx : 0 ≤ x ∧ x ≤ 5) : ∀ (m : Nat) (k : Int) (R : RS), sOK R m → 0 ≤ k → k + m = 6 → bP R → bP (nIv n l x o m k R) := by
  intro m
  induction m with
  | zero => intro k R _ _ _ h; exact h
  | succ m ih =>
    intro k R S h0 h1 h
    unfold nIv
    by_cases hb : eAnd (eShr o k) 1 = 1
    · rw [if_pos hb]
      exact ih (k + 1) _ (sOK_send S) (by omega) (by omega) (bP_send S h hn (by omega) hl (by omega) hx (by omega) (by omega))
    · rw [if_neg hb]
      exact ih (k + 1) R (sOK_le S (by omega)) (by omega) (by omega) h
theorem bP_kl (h : bP R1) (k : kl R1 p T) : bP T := by
  obtain ⟨k1, k2, _⟩ := k
  intro q h0 h1
  have := h q h0 h1
  rw [k1, k2 2 (by omega) (by omega), k2 3 (by omega) (by omega), k2 4 (by omega) (by omega), k2 5 (by omega) (by omega), k2 6 (by omega) (by omega), k2 7 (by omega) (by omega), k2 8 (by omega) (by omega), up3_eq]
  refine ⟨?_, this.2⟩
  split
  · exact Or.inl rfl
  · exact this.1
theorem pT_0 {s : Int} (h1 : ∀ j, T 20 j = R 20 j) (h2 : ∀ j, T 22 j = R 22 j) (h3 : ∀ j, T 34 j = R 34 j) (h4 : T 33 = R 33) (h5 : ∀ j, T 29 j = R 29 j) (h6 : T 0 38 = R 0 38 + s) : pT R T n l (R 20 (8 * n + l)) (R 22 (8 * n + l)) 0 s := by
  refine ⟨fun j => ?_, fun j => ?_, fun j => ?_, h4, h5, h6⟩
  · rw [h1]; split
    · rename_i e; rw [e]
    · rfl
  · rw [h2]; split
    · rename_i e; rw [e]
    · rfl
  · rw [h3]; split
    · rename_i e; rw [e]; omega
    · rfl
theorem bit_o0 : ∀ a : Nat, a < 64 → ∀ x : Nat, x < 6 → 0 ≤ eOr a (eShl 1 x) ∧ eOr a (eShl 1 x) ≤ 63 := by decide +kernel
theorem bit_o {a x : Int} (ha : 0 ≤ a ∧ a ≤ 63) (hx : 0 ≤ x ∧ x ≤ 5) : 0 ≤ eOr a (eShl 1 x) ∧ eOr a (eShl 1 x) ≤ 63 := by
  have := bit_o0 a.toNat (by omega) x.toNat (by omega)
  rwa [Int.toNat_of_nonneg ha.1, Int.toNat_of_nonneg hx.1] at this
theorem bit_p0 : ∀ x : Nat, x < 6 → 0 ≤ eShl 1 x ∧ eShl 1 x ≤ 63 := by decide +kernel
theorem bit_p {x : Int} (hx : 0 ≤ x ∧ x ≤ 5) : 0 ≤ eShl 1 x ∧ eShl 1 x ≤ 63 := by
  have := bit_p0 x.toNat (by omega)
  rwa [Int.toNat_of_nonneg hx.1] at this
theorem bit_c0 : ∀ a : Nat, a < 64 → ∀ x : Nat, x < 6 → 0 ≤ nCnt (eAnd a (eXor (eShl 1 x) (-1))) ∧ nCnt (eAnd a (eXor (eShl 1 x) (-1))) ≤ 5 := by decide +kernel
theorem bit_c {a x : Int} (ha : 0 ≤ a ∧ a ≤ 63) (hx : 0 ≤ x ∧ x ≤ 5) : 0 ≤ nCnt (eAnd a (eXor (eShl 1 x) (-1))) ∧ nCnt (eAnd a (eXor (eShl 1 x) (-1))) ≤ 5 := by
  have := bit_c0 a.toNat (by omega) x.toNat (by omega)
  rwa [Int.toNat_of_nonneg ha.1, Int.toNat_of_nonneg hx.1] at this
theorem bit_z0 : ∀ x : Nat, x < 6 → eAnd 0 (eXor (eShl 1 x) (-1)) = 0 := by decide +kernel
theorem bit_z {x : Int} (hx : 0 ≤ x ∧ x ≤ 5) : eAnd 0 (eXor (eShl 1 x) (-1)) = 0 := by
  have := bit_z0 x.toNat (by omega)
  rwa [Int.toNat_of_nonneg hx.1] at this
end Inv3
