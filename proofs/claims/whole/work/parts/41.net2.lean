/-! Where the packets and their flits are -/
section Net2
variable {R T : RS} {G E L E' L' : Int → Int}
def fc (R : RS) (b j : Int) : Int := 8 * R 14 (4 * b + j) + R 15 (4 * b + j)
def okF (R : RS) (E L : Int → Int) (b x : Int) : Prop := 0 ≤ x ∧ x / 8 < 128 ∧ R 1 (x / 8) = 1 ∧ x % 8 < nSz R (x / 8) ∧ 0 ≤ E (x / 8) ∧ E (x / 8) ≤ x % 8 ∧ nCh (R 2 (x / 8)) = b % 3 ∧ (L (x / 8) = 18 ∨ (0 ≤ L (x / 8) ∧ L (x / 8) < 18 ∧ 0 < R 10 (L (x / 8)) ∧ x / 8 = R 9 (128 * L (x / 8)) ∧ x % 8 < R 11 (L (x / 8))))
def okO (R : RS) (E L : Int → Int) (n c x : Int) : Prop := 0 ≤ x ∧ x / 8 < 128 ∧ R 1 (x / 8) = 1 ∧ E (x / 8) = x % 8 ∧ R 4 (x / 8) = n ∧ nCh (R 2 (x / 8)) = c ∧ 0 ≤ L (x / 8) ∧ L (x / 8) ≤ 18
def okW (R : RS) (E L : Int → Int) (q i p : Int) : Prop := 0 ≤ p ∧ p < 128 ∧ R 1 p = 1 ∧ L p = q ∧ nCh (R 2 p) = q % 3 ∧ 0 ≤ E p ∧ E p ≤ (if i = 0 then R 11 q else 0)
def okX (R : RS) (L : Int → Int) (q p : Int) : Prop := 0 ≤ p ∧ p < 128 ∧ R 1 p = 1 ∧ L p = 19 + q ∧ R 4 p = q / 3 ∧ nCh (R 2 p) = q % 3
def nLc (R : RS) (L : Int → Int) (w : Int → Nat) : Nat := sN (fun p => if R 1 (p : Int) = 1 then w (L (p : Int)) else 0) 128
def wq (q : Int) : Int → Nat := fun x => if x = q then 1 else 0
def wn : Int → Nat := fun x => if x ≤ 18 then 1 else 0
def sA1 (R : RS) (E L : Int → Int) : Prop := ∀ b j, 0 ≤ b → b < 90 → 0 ≤ j → j < R 17 b → okF R E L b (fc R b j)
def sA2 (R : RS) : Prop := ∀ b j b' j', 0 ≤ b → b < 90 → 0 ≤ j → j < R 17 b → 0 ≤ b' → b' < 90 → 0 ≤ j' → j' < R 17 b' → fc R b j = fc R b' j' → b = b' ∧ j = j'
def sA3 (R : RS) (G E L : Int → Int) : Prop := ∀ n c, rn n 4 c → 0 ≤ R 18 (15 * n + 12 + c) → okO R E L n c (G (15 * n + 3 * R 18 (15 * n + 12 + c) + c))
def sA4 (R : RS) (E L : Int → Int) : Prop := ∀ q i, 0 ≤ q → q < 18 → 0 ≤ i → i < R 10 q → okW R E L q i (R 9 (128 * q + i))
def sA5 (R : RS) : Prop := ∀ q i i', 0 ≤ q → q < 18 → 0 ≤ i → i < R 10 q → 0 ≤ i' → i' < R 10 q → R 9 (128 * q + i) = R 9 (128 * q + i') → i = i'
def sA6 (R : RS) : Prop := ∀ q, 0 ≤ q → q < 18 → 0 ≤ R 10 q ∧ (0 < R 10 q → 0 ≤ R 11 q ∧ R 11 q < nSz R (R 9 (128 * q))) ∧ (R 10 q = 0 → R 11 q = 0)
def sA7 (R : RS) (L : Int → Int) : Prop := ∀ q i, 0 ≤ q → q < 18 → 0 ≤ i → i < R 13 q → okX R L q (R 12 (128 * q + i))
def sA8 (R : RS) : Prop := ∀ q i i', 0 ≤ q → q < 18 → 0 ≤ i → i < R 13 q → 0 ≤ i' → i' < R 13 q → R 12 (128 * q + i) = R 12 (128 * q + i') → i = i'
def sA9 (R : RS) (L : Int → Int) : Prop := (∀ q, 0 ≤ q → q < 18 → R 10 q = (nLc R L (wq q) : Int) ∧ R 13 q = (nLc R L (wq (19 + q)) : Int)) ∧ R 0 38 = R 0 39 + (nLc R L wn : Int)
def sA (R : RS) (G E L : Int → Int) : Prop := sA1 R E L ∧ sA2 R ∧ sA3 R G E L ∧ sA4 R E L ∧ sA5 R ∧ sA6 R ∧ sA7 R L ∧ sA8 R ∧ sA9 R L
theorem nLc_up {w : Int → Nat} {p : Int} (h0 : 0 ≤ p) (h1 : p < 128) (hR : ∀ x, x ≠ p → T 1 x = R 1 x) (hL : ∀ x, x ≠ p → L' x = L x) : nLc T L' w + (if R 1 p = 1 then w (L p) else 0) = nLc R L w + (if T 1 p = 1 then w (L' p) else 0) := by
  have hp : ((p.toNat : Nat) : Int) = p := Int.toNat_of_nonneg h0
  have := sN_up (f := fun p => if T 1 (p : Int) = 1 then w (L' (p : Int)) else 0) (g := fun p => if R 1 (p : Int) = 1 then w (L (p : Int)) else 0) (p := p.toNat) (k := 128) (by omega) (fun i hi hne => by
    have : ((i : Nat) : Int) ≠ p := by omega
    show (if T 1 (i : Int) = 1 then w (L' (i : Int)) else 0) = (if R 1 (i : Int) = 1 then w (L (i : Int)) else 0)
    rw [hR _ this, hL _ this])
  simp only [hp] at this
  exact this
theorem nLc_c {w : Int → Nat} (hR : T 1 = R 1) : nLc T L w = nLc R L w := by unfold nLc; rw [hR]
theorem nSz_c (h0 : T 0 1 = R 0 1) (h2 : T 2 = R 2) : nSz T = nSz R := by funext p; unfold nSz; rw [h0, h2]
-- a flit enters, not its packet's last
theorem sA_in1 {n c : Int} (A : sA R G E L) (h : rn n 4 c) (hr : 0 < R 10 (3 * n + c)) (hc : 0 ≤ R 17 (15 * n + 12 + c)) (hl : R 11 (3 * n + c) + 1 ≠ nSz R (R 9 (128 * (3 * n + c))))
    (k : ∀ a, a ≠ 11 ∧ a ≠ 14 ∧ a ≠ 15 ∧ a ≠ 16 ∧ a ≠ 17 → T a = R a) (e11 : ∀ q, T 11 q = if q = 3 * n + c then R 11 q + 1 else R 11 q) (e17 : ∀ x, T 17 x = if x = 15 * n + 12 + c then R 17 x + 1 else R 17 x)
    (ef : ∀ x j, 0 ≤ x → x < 90 → 0 ≤ j → j < T 17 x → fc T x j = if x = 15 * n + 12 + c ∧ j = R 17 x then 8 * R 9 (128 * (3 * n + c)) + R 11 (3 * n + c) else fc R x j) (h5 : nSz R (R 9 (128 * (3 * n + c))) ≤ 5) : sA T G E L := by
  obtain ⟨a1, a2, a3, a4, a5, a6, a7, a8, a9⟩ := A
  have hr0 := h
  unfold rn at hr0
  have hz : nSz T = nSz R := nSz_c (by rw [k 0 (by omega)]) (k 2 (by omega))
  have r0 := a4 (3 * n + c) 0 (by omega) (by omega) (by omega) hr
  rw [Int.add_zero] at r0
  obtain ⟨p0, p1, p2, p3, p4, p5, p6⟩ := r0
  rw [if_pos rfl] at p6
  have r6 := (a6 (3 * n + c) (by omega) (by omega)).2.1 hr
  have x8 : (8 * R 9 (128 * (3 * n + c)) + R 11 (3 * n + c)) / 8 = R 9 (128 * (3 * n + c)) := by omega
  have x7 : (8 * R 9 (128 * (3 * n + c)) + R 11 (3 * n + c)) % 8 = R 11 (3 * n + c) := by omega
  refine ⟨fun b j b0 b1 j0 j1 => ?_, fun b j b' j' b0 b1 j0 j1 b0' b1' j0' j1' e => ?_, ?_, ?_, ?_, ?_, ?_, ?_, ?_⟩
  · rw [ef b j b0 b1 j0 j1]
    rw [e17] at j1
    unfold okF
    rw [hz, k 1 (by omega), k 2 (by omega), k 10 (by omega), k 9 (by omega)]
    by_cases hx : b = 15 * n + 12 + c ∧ j = R 17 b
    · rw [if_pos hx, x8, x7, p3, e11, if_pos rfl]
      refine ⟨by omega, p1, p2, r6.2, p5, p6, by omega, Or.inr ⟨by omega, by omega, hr, rfl, by omega⟩⟩
    · rw [if_neg hx]
      have o := a1 b j b0 b1 j0 (by split at j1 <;> omega)
      unfold okF at o
      refine ⟨o.1, o.2.1, o.2.2.1, o.2.2.2.1, o.2.2.2.2.1, o.2.2.2.2.2.1, o.2.2.2.2.2.2.1, ?_⟩
      rcases o.2.2.2.2.2.2.2 with w | w
      · exact Or.inl w
      · refine Or.inr ⟨w.1, w.2.1, w.2.2.1, w.2.2.2.1, ?_⟩
        rw [e11]
        split <;> omega
  · rw [ef b j b0 b1 j0 j1, ef b' j' b0' b1' j0' j1'] at e
    rw [e17] at j1 j1'
    by_cases hx : b = 15 * n + 12 + c ∧ j = R 17 b
    · by_cases hx' : b' = 15 * n + 12 + c ∧ j' = R 17 b'
      · refine ⟨by omega, ?_⟩
        rw [hx.2, hx'.2, hx.1, hx'.1]
      · rw [if_pos hx, if_neg hx'] at e
        exfalso
        have o := a1 b' j' b0' b1' j0' (by split at j1' <;> omega)
        unfold okF at o
        rw [← e, x8, x7, p3] at o
        rcases o.2.2.2.2.2.2.2 with w | w <;> omega
    · by_cases hx' : b' = 15 * n + 12 + c ∧ j' = R 17 b'
      · rw [if_neg hx, if_pos hx'] at e
        exfalso
        have o := a1 b j b0 b1 j0 (by split at j1 <;> omega)
        unfold okF at o
        rw [e, x8, x7, p3] at o
        rcases o.2.2.2.2.2.2.2 with w | w <;> omega
      · rw [if_neg hx, if_neg hx'] at e
        exact a2 b j b' j' b0 b1 j0 (by split at j1 <;> omega) b0' b1' j0' (by split at j1' <;> omega) e
  · unfold sA3 okO at *
    rw [k 18 (by omega), k 1 (by omega), k 2 (by omega), k 4 (by omega)]
    exact a3
  · intro q i q0 q1 i0 i1
    rw [k 10 (by omega)] at i1
    have o := a4 q i q0 q1 i0 i1
    unfold okW at *
    rw [k 9 (by omega), k 1 (by omega), k 2 (by omega)]
    refine ⟨o.1, o.2.1, o.2.2.1, o.2.2.2.1, o.2.2.2.2.1, o.2.2.2.2.2.1, ?_⟩
    rw [e11]
    have := o.2.2.2.2.2.2
    by_cases hi : i = 0
    · rw [if_pos hi] at this ⊢
      split <;> omega
    · rw [if_neg hi] at this ⊢
      exact this
  · unfold sA5 at *
    rw [k 9 (by omega), k 10 (by omega)]
    exact a5
  · intro q q0 q1
    have o := a6 q q0 q1
    rw [hz, k 9 (by omega), k 10 (by omega), e11]
    by_cases hq : q = 3 * n + c
    · rw [if_pos hq]
      subst hq
      omega
    · rw [if_neg hq]
      exact o
  · unfold sA7 okX at *
    rw [k 12 (by omega), k 13 (by omega), k 1 (by omega), k 2 (by omega), k 4 (by omega)]
    exact a7
  · unfold sA8 at *
    rw [k 12 (by omega), k 13 (by omega)]
    exact a8
  · unfold sA9 nLc at *
    rw [k 10 (by omega), k 13 (by omega), k 1 (by omega), k 0 (by omega)]
    exact a9
end Net2
