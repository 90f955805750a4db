/-! Counting the packets under way -/
abbrev PW : Type := Int → Int → Int → Int → Int → Int → Nat
def pw (f : PW) (R : RS) (p : Int) : Nat := if R 1 p = 1 then f (R 2 p) (R 3 p) (R 4 p) (R 5 p) (R 6 p) (R 8 p) else 0
def cnt (f : PW) (R : RS) : Nat := sN (fun p => pw f R (p : Int)) 128
def eqP (T R : RS) : Prop := T 1 = R 1 ∧ T 2 = R 2 ∧ T 3 = R 3 ∧ T 4 = R 4 ∧ T 5 = R 5 ∧ T 6 = R 6 ∧ T 8 = R 8
theorem eqP_r (R : RS) : eqP R R := ⟨rfl, rfl, rfl, rfl, rfl, rfl, rfl⟩
theorem eqP_t {T R Q : RS} (h1 : eqP T R) (h2 : eqP R Q) : eqP T Q := by
  obtain ⟨a1, a2, a3, a4, a5, a6, a7⟩ := h1
  obtain ⟨b1, b2, b3, b4, b5, b6, b7⟩ := h2
  exact ⟨a1.trans b1, a2.trans b2, a3.trans b3, a4.trans b4, a5.trans b5, a6.trans b6, a7.trans b7⟩
theorem eqP_u {T R : RS} {k : Nat} {i z : Int} (h : eqP T R) (hk : 9 ≤ k ∨ k = 0 ∨ k = 7) : eqP (up3 T k i z) R := by
  obtain ⟨a1, a2, a3, a4, a5, a6, a7⟩ := h
  exact ⟨(u3f (by omega)).trans a1, (u3f (by omega)).trans a2, (u3f (by omega)).trans a3, (u3f (by omega)).trans a4, (u3f (by omega)).trans a5, (u3f (by omega)).trans a6, (u3f (by omega)).trans a7⟩
theorem cnt_congr {f : PW} {T R : RS} (h : eqP T R) : cnt f T = cnt f R := by
  obtain ⟨a1, a2, a3, a4, a5, a6, a7⟩ := h
  unfold cnt pw
  rw [a1, a2, a3, a4, a5, a6, a7]
theorem nSend_f {R : RS} {n k l t w v m : Int} {p : Int} (hp : p ≠ nFree R) : ∀ a, 1 ≤ a → a ≤ 8 → nSend R n k l t w v m a p = R a p := by
  intro a h1 h2
  unfold nSend
  rw [u3n (by omega), u3n (by omega), u3n (by omega), u3i hp, u3i hp, u3i hp, u3i hp, u3i hp, u3i hp, u3i hp, u3i hp]
theorem nSend_at {R : RS} {n k l t w v m : Int} : nSend R n k l t w v m 1 (nFree R) = 1 ∧ nSend R n k l t w v m 2 (nFree R) = k ∧ nSend R n k l t w v m 3 (nFree R) = l ∧ nSend R n k l t w v m 4 (nFree R) = t ∧ nSend R n k l t w v m 5 (nFree R) = n ∧ nSend R n k l t w v m 6 (nFree R) = w ∧ nSend R n k l t w v m 7 (nFree R) = v ∧ nSend R n k l t w v m 8 (nFree R) = m := by
  unfold nSend
  simp (disch := omega) only [u3n, u3s, and_self]
theorem cnt_send {f : PW} {R : RS} {m0 : Nat} (S : sOK R (m0 + 1)) {n k l t w v m : Int} : cnt f (nSend R n k l t w v m) = cnt f R + f k l t n w m := by
  obtain ⟨f1, f2, f3⟩ := nFree_lt S.1 (by have := S.2.1; omega)
  have hp : ((nFree R).toNat : Int) = nFree R := Int.toNat_of_nonneg f1
  have := sN_up (f := fun p => pw f (nSend R n k l t w v m) (p : Int)) (g := fun p => pw f R (p : Int)) (p := (nFree R).toNat) (k := 128) (by omega) (fun i hi hne => by
    have hi' : ((i : Nat) : Int) ≠ nFree R := by omega
    unfold pw
    simp (disch := omega) only [nSend_f hi'])
  unfold cnt
  have e1 : pw f R ((nFree R).toNat : Int) = 0 := by
    rw [hp]
    unfold pw
    rw [f3]
    simp
  have e2 : pw f (nSend R n k l t w v m) ((nFree R).toNat : Int) = f k l t n w m := by
    rw [hp]
    obtain ⟨g1, g2, g3, g4, g5, g6, g7, g8⟩ := nSend_at (R := R) (n := n) (k := k) (l := l) (t := t) (w := w) (v := v) (m := m)
    unfold pw
    rw [g1, g2, g3, g4, g5, g6, g8]
    simp
  simp only [e1, e2] at this
  omega
theorem cnt_kill {f : PW} {R : RS} {p : Int} (h0 : 0 ≤ p) (h1 : p < 128) (hl : R 1 p = 1) : cnt f (up3 R 1 p 0) + f (R 2 p) (R 3 p) (R 4 p) (R 5 p) (R 6 p) (R 8 p) = cnt f R := by
  have hp : ((p.toNat : Nat) : Int) = p := Int.toNat_of_nonneg h0
  have := sN_up (f := fun i => pw f (up3 R 1 p 0) (i : Int)) (g := fun i => pw f R (i : Int)) (p := p.toNat) (k := 128) (by omega) (fun i hi hne => by
    have hi' : ((i : Nat) : Int) ≠ p := by omega
    unfold pw
    simp (disch := omega) only [u3i, u3n])
  unfold cnt
  have e1 : pw f R ((p.toNat : Nat) : Int) = f (R 2 p) (R 3 p) (R 4 p) (R 5 p) (R 6 p) (R 8 p) := by
    rw [hp]
    unfold pw
    rw [if_pos hl]
  have e2 : pw f (up3 R 1 p 0) ((p.toNat : Nat) : Int) = 0 := by
    rw [hp]
    unfold pw
    rw [u3s]
    simp
  simp only [e1, e2] at this
  omega
theorem sN_get {f : Nat → Nat} {i : Nat} : ∀ {k : Nat}, i < k → f i ≤ sN f k := by
  intro k
  induction k with
  | zero => intro h; omega
  | succ k ih =>
    intro h
    unfold sN
    by_cases hk : i = k
    · subst hk; omega
    · have := ih (by omega); omega
theorem cnt_pos {f : PW} {R : RS} {p : Int} (h0 : 0 ≤ p) (h1 : p < 128) (hl : R 1 p = 1) : f (R 2 p) (R 3 p) (R 4 p) (R 5 p) (R 6 p) (R 8 p) ≤ cnt f R := by
  have := sN_get (f := fun i => pw f R (i : Int)) (i := p.toNat) (k := 128) (by omega)
  rw [Int.toNat_of_nonneg h0] at this
  unfold pw at this
  rw [if_pos hl] at this
  exact this
theorem sN_mono {f g : Nat → Nat} : ∀ {k : Nat}, (∀ i, i < k → f i ≤ g i) → sN f k ≤ sN g k := by
  intro k
  induction k with
  | zero => intro _; exact Nat.le_refl _
  | succ k ih =>
    intro h
    unfold sN
    have h1 := ih (fun i hi => h i (by omega))
    have h2 := h k (by omega)
    omega
theorem sN_add {f g : Nat → Nat} : ∀ {k : Nat}, sN (fun i => f i + g i) k = sN f k + sN g k := by
  intro k
  induction k with
  | zero => rfl
  | succ k ih => unfold sN; rw [ih]; omega
theorem sN_mul {f : Nat → Nat} {c : Nat} : ∀ {k : Nat}, sN (fun i => c * f i) k = c * sN f k := by
  intro k
  induction k with
  | zero => rfl
  | succ k ih => unfold sN; rw [ih, Nat.mul_add]
theorem sN_swap {f : Nat → Nat → Nat} {m : Nat} : ∀ {k : Nat}, sN (fun i => sN (fun j => f i j) m) k = sN (fun j => sN (fun i => f i j) k) m := by
  intro k
  induction k with
  | zero =>
    have : ∀ m, (0 : Nat) = sN (fun _ => 0) m := by
      intro m
      induction m with
      | zero => rfl
      | succ m ih => exact ih
    exact this m
  | succ k ih =>
    have e : sN (fun j => sN (fun i => f i j) (k + 1)) m = sN (fun j => sN (fun i => f i j) k + f k j) m := rfl
    rw [e, sN_add, ← ih]
    rfl
-- the weights
def wS (n l : Int) : PW := fun k l' _ s a _ => if l' = l ∧ ((k = 0 ∧ s = n) ∨ (k = 4 ∧ a = n)) then 1 else 0
def wM (n l : Int) : PW := fun k l' _ s a _ => if l' = l ∧ ((k = 1 ∧ s = n) ∨ (k = 5 ∧ a = n)) then 1 else 0
def wD (n l : Int) : PW := fun k l' t _ _ _ => if l' = l ∧ k = 8 ∧ t = n then 1 else 0
def wK (n l : Int) : PW := fun k l' t _ _ m => if l' = l ∧ k = 8 ∧ t = n then m.toNat else 0
def wJ (n l : Int) : PW := fun k l' t _ a _ => if l' = l ∧ ((k = 6 ∧ a = n) ∨ (k = 9 ∧ t = n)) then 1 else 0
def wP (n l : Int) : PW := fun k l' t s _ _ => if l' = l ∧ (((k = 2 ∨ k = 3) ∧ s = n) ∨ (k = 7 ∧ t = n)) then 1 else 0
def wH (l : Int) : PW := fun k l' _ _ _ _ => if l' = l ∧ (k = 4 ∨ k = 10) then 1 else 0
def wZ : PW := fun k _ _ _ _ _ => if k = 0 then 3 else if k = 1 then 11 else if k = 4 then 2 else if k = 5 ∨ k = 6 ∨ k = 2 ∨ k = 3 then 1 else 0
-- the protocol's invariant, of one node and line
def pA (s m d k j q : Nat) (st nd : Int) : Prop :=
  ((st = 1 ∨ st = 2 ∨ st = 5) → s + m + d = 1) ∧ (¬(st = 1 ∨ st = 2 ∨ st = 5) → s + m + d = 0) ∧ (0 < s → st = 1) ∧ (0 < m → st = 2 ∨ st = 5) ∧
  nd + (k : Int) = (j : Int) ∧ j ≤ 5 ∧ (0 < j → st = 3 ∨ st = 6 ∨ ((st = 2 ∨ st = 5) ∧ m = 0)) ∧ (8 ≤ st → q = 1) ∧ (st < 8 → q = 0)
def pN (R : RS) (n l : Int) : Prop := pA (cnt (wS n l) R) (cnt (wM n l) R) (cnt (wD n l) R) (cnt (wK n l) R) (cnt (wJ n l) R) (cnt (wP n l) R) (R 20 (8 * n + l)) (R 22 (8 * n + l))
def pIv (R : RS) : Prop := ∀ n l, 0 ≤ n → n < 6 → 0 ≤ l → l < 8 → pN R n l
def pH (R : RS) : Prop := ∀ l, 0 ≤ l → l < 8 → (R 24 l = 3 → cnt (wH l) R = 1) ∧ (R 24 l ≠ 3 → cnt (wH l) R = 0)
def cI (R : RS) : Prop := ∀ n l, 0 ≤ n → n < 6 → 0 ≤ l → l < 8 → (1 ≤ R 20 (8 * n + l) ∧ R 20 (8 * n + l) ≤ 6 ∧ R 20 (8 * n + l) ≠ 4) → R 34 n < R 33 n ∧ R 29 (40 * n + R 34 n) = l
def hI (R : RS) : Prop := ∀ l, 0 ≤ l → l < 8 → (R 24 l = 2 → 0 ≤ R 26 l ∧ R 26 l ≤ 5 ∧ R 27 l = 0) ∧ (R 24 l ≠ 2 → R 26 l = -1)
def pF (st : Int) : Nat := if st = 4 ∨ st = 7 then 14 else if 1 ≤ st ∧ st ≤ 6 then 0 else 12
def rI (R : RS) : Prop := R 0 38 + (cnt wZ R : Int) + (sN (fun i => pF (R 20 (i : Int))) 48 : Int) ≤ 576 + 14 * (sN (fun i => (R 34 (i : Int)).toNat) 6 : Int)
theorem cnt_le {f g : PW} {R : RS} {c : Nat} (h : ∀ p, 0 ≤ p → p < 128 → R 1 p = 1 → f (R 2 p) (R 3 p) (R 4 p) (R 5 p) (R 6 p) (R 8 p) ≤ c * g (R 2 p) (R 3 p) (R 4 p) (R 5 p) (R 6 p) (R 8 p)) : cnt f R ≤ c * cnt g R := by
  unfold cnt
  rw [← sN_mul]
  refine sN_mono (fun i hi => ?_)
  unfold pw
  by_cases hl : R 1 (i : Int) = 1
  · rw [if_pos hl, if_pos hl]
    exact h _ (by omega) (by omega) hl
  · rw [if_neg hl, if_neg hl]
    omega
theorem wK_le {R : RS} (g : bP R) {n l : Int} : cnt (wK n l) R ≤ 5 * cnt (wD n l) R := by
  refine cnt_le (fun p h0 h1 _ => ?_)
  obtain ⟨_, _, _, _, _, _, _, g8⟩ := g p h0 h1
  unfold wK wD
  split <;> omega
-- what a step changes: node n's line l, the packets
def pT (R T : RS) (n l st nd d s : Int) : Prop :=
  (∀ j, T 20 j = if j = 8 * n + l then st else R 20 j) ∧ (∀ j, T 22 j = if j = 8 * n + l then nd else R 22 j) ∧ (∀ j, T 34 j = if j = n then R 34 n + d else R 34 j) ∧ T 33 = R 33 ∧ (∀ j, T 29 j = R 29 j) ∧ T 0 38 = R 0 38 + s
theorem i8 {n l n' l' : Int} (h0 : 0 ≤ l) (h1 : l < 8) (h2 : 0 ≤ l') (h3 : l' < 8) : 8 * n' + l' = 8 * n + l ↔ n' = n ∧ l' = l := by omega
theorem cI_tr {R T : RS} {n l st nd d s : Int} (H : cI R) (t : pT R T n l st nd d s) (hl : 0 ≤ l ∧ l < 8) (hn : 0 ≤ n ∧ n < 6)
    (h1 : (1 ≤ st ∧ st ≤ 6 ∧ st ≠ 4) → d = 0 ∧ R 34 n < R 33 n ∧ R 29 (40 * n + R 34 n) = l) (h2 : d ≠ 0 → R 29 (40 * n + R 34 n) = l) : cI T := by
  obtain ⟨t1, t2, t3, t4, t5, t6⟩ := t
  intro n' l' a0 a1 b0 b1
  have := H n' l' a0 a1 b0 b1
  rw [t1, t3, t4, t5]
  grind
theorem rI_tr {R T : RS} {n l st nd d s : Int} (H : rI R) (t : pT R T n l st nd d s) (hl : 0 ≤ l ∧ l < 8) (hn : 0 ≤ n ∧ n < 6) (h34 : 0 ≤ R 34 n) (hd : 0 ≤ d)
    (h : s + (cnt wZ T : Int) + (pF st : Int) ≤ (cnt wZ R : Int) + (pF (R 20 (8 * n + l)) : Int) + 14 * d) : rI T := by
  obtain ⟨t1, t2, t3, t4, t5, t6⟩ := t
  unfold rI at *
  have e1 := sN_up (f := fun i => pF (T 20 (i : Int))) (g := fun i => pF (R 20 (i : Int))) (p := (8 * n + l).toNat) (k := 48) (by omega) (fun i hi hne => by
    show pF (T 20 (i : Int)) = pF (R 20 (i : Int))
    rw [t1, if_neg (by omega)])
  have e2 := sN_up (f := fun i => (T 34 (i : Int)).toNat) (g := fun i => (R 34 (i : Int)).toNat) (p := n.toNat) (k := 6) (by omega) (fun i hi hne => by
    show (T 34 (i : Int)).toNat = (R 34 (i : Int)).toNat
    rw [t3, if_neg (by omega)])
  have i1 : (((8 * n + l).toNat : Nat) : Int) = 8 * n + l := by omega
  have i2 : ((n.toNat : Nat) : Int) = n := by omega
  simp only [i1, i2, t1 (8 * n + l), t3 n, if_true] at e1 e2
  rw [t6]
  omega
