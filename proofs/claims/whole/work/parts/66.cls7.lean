/-! The class's homes -/
section Cls7
variable {α : Type} {h g : ev_hs} {c0 : Nat} {R T Rr Rc : RS} {F : Int → Int} {D FL : Int}
theorem cR_c (k : ∀ a, 2 ≤ a → a ≤ 17 → a ≠ 11 → T a = R a) (k0 : T 0 0 = R 0 0) (k1 : T 0 1 = R 0 1) (C : cR h c0 R) : cR h c0 T := by
  obtain ⟨hs, sz, d, X, Y, L, P, FF⟩ := C
  have hN : ∀ a, a = 1 ∨ a = 2 → T (kN a) = R (kN a) ∧ T (kE a) = R (kE a) := by
    intro a ha
    rcases ha with rfl | rfl
    · exact ⟨k 10 (by omega) (by omega) (by omega), k 9 (by omega) (by omega) (by omega)⟩
    · exact ⟨k 13 (by omega) (by omega) (by omega), k 12 (by omega) (by omega) (by omega)⟩
  refine ⟨by rw [k0, k1]; exact hs, sz, d, X, Y, lsI_c L (fun q _ _ => by rw [k 10 (by omega) (by omega) (by omega)]) (fun q _ _ => by rw [k 13 (by omega) (by omega) (by omega)]), fun a q j ha q0 q1 j0 j1 => ?_, fun b j b0 b1 j0 j1 => ?_, fun b j b' j' b0 b1 j0 j1 b0' b1' j0' j1' e => ?_⟩
  · rw [(hN a ha).1] at j1
    rw [(hN a ha).2]
    exact pk_c (fun a a1 a2 => by rw [k a (by omega) (by omega) (by omega)]) k1 (P a q j ha q0 q1 j0 j1)
  · rw [k 17 (by omega) (by omega) (by omega)] at j1
    obtain ⟨x1, x2⟩ := FF.1 b j b0 b1 j0 j1
    exact ⟨x1, fk_c (fun a a1 a2 => by rw [k a (by omega) (by omega) (by omega)]) k1 (by rw [k 14 (by omega) (by omega) (by omega)]) (by rw [k 15 (by omega) (by omega) (by omega)]) (by rw [k 16 (by omega) (by omega) (by omega)]) x2⟩
  · rw [k 17 (by omega) (by omega) (by omega)] at j1 j1'
    exact FF.2 b j b' j' b0 b1 j0 j1 b0' b1' j0' j1' e
theorem lvA_c (k : ∀ a, 1 ≤ a → a ≤ 17 → T a = R a) (lv : lvA R) : lvA T := by
  have hN : ∀ a, a = 1 ∨ a = 2 → T (kN a) = R (kN a) ∧ T (kE a) = R (kE a) := by
    intro a ha
    rcases ha with rfl | rfl
    · exact ⟨k 10 (by omega) (by omega), k 9 (by omega) (by omega)⟩
    · exact ⟨k 13 (by omega) (by omega), k 12 (by omega) (by omega)⟩
  refine ⟨fun a q j ha q0 q1 j0 j1 => ?_, fun b j b0 b1 j0 j1 => ?_⟩
  · rw [(hN a ha).1] at j1
    rw [(hN a ha).2, k 1 (by omega) (by omega)]
    exact lv.1 a q j ha q0 q1 j0 j1
  · rw [k 17 (by omega) (by omega)] at j1
    rw [k 14 (by omega) (by omega), k 1 (by omega) (by omega)]
    exact lv.2 b j b0 b1 j0 j1
-- a bound of the flits made: five for each packet that has left its row, and those given of the first ones
def sJ (f : Int → Int) : Nat → Int
  | 0 => 0
  | k + 1 => sJ f k + f k
theorem sJ_c {f g : Int → Int} : ∀ k : Nat, (∀ i : Nat, i < k → g i = f i) → sJ g k = sJ f k := by
  intro k
  induction k with
  | zero => intro _; rfl
  | succ k ih => intro e; unfold sJ; rw [ih (fun i hi => e i (by omega)), e k (by omega)]
theorem sJ_up {f g : Int → Int} {q : Int} (q0 : 0 ≤ q) (e : ∀ i, i ≠ q → g i = f i) : ∀ k : Nat, q < k → sJ g k = sJ f k + (g q - f q) := by
  intro k
  induction k with
  | zero => intro h; omega
  | succ k ih =>
    intro h
    unfold sJ
    by_cases hk : q < (k : Int)
    · rw [ih hk, e k (by omega)]
      omega
    · have hq : (k : Int) = q := by omega
      rw [sJ_c k (fun i hi => e i (by omega)), hq]
      omega
def phi (R : RS) : Int := 5 * (R 0 38 - sJ (R 10) 18) + sJ (R 11) 18
theorem phi_c (e : T 0 38 = R 0 38) (e1 : T 10 = R 10) (e2 : T 11 = R 11) : phi T = phi R := by
  unfold phi
  rw [e, e1, e2]
def cP (h : ev_hs) (c0 : Nat) (R : RS) (m : Nat) : Prop := cR h c0 R ∧ lvA R ∧ sOK R m
def dC (h : ev_hs) (R : RS) (h' : ev_hs) (T : RS) : Prop := (xC h' : Int) ≤ xC h + 2 * (T 0 38 - R 0 38) ∧ (xS h' : Int) ≤ xS h + 207 * (T 0 38 - R 0 38) ∧ phi T = phi R
theorem dC_r : dC h R h R := ⟨by omega, by omega, rfl⟩
theorem dC_t {h2 h3 : ev_hs} {T2 : RS} (a : dC h R h2 T) (b : dC h2 T h3 T2) : dC h R h3 T2 := ⟨by have := a.1; have := b.1; omega, by have := a.2.1; have := b.2.1; omega, b.2.2.trans a.2.2⟩
theorem dC_c {h' : ev_hs} {T2 : RS} (e : T2 0 38 = T 0 38) (e1 : T2 10 = T 10) (e2 : T2 11 = T 11) (a : dC h R h' T) : dC h R h' T2 := ⟨by rw [e]; exact a.1, by rw [e]; exact a.2.1, (phi_c e e1 e2).trans a.2.2⟩
theorem dC_d {h' : ev_hs} {R2 : RS} (e : R2 0 38 = R 0 38) (e1 : R2 10 = R 10) (e2 : R2 11 = R 11) (a : dC h R h' T) : dC h R2 h' T := ⟨by rw [e]; exact a.1, by rw [e]; exact a.2.1, a.2.2.trans (phi_c e e1 e2).symm⟩
def st (c0 : Nat) (h : ev_hs) (R : RS) (h' : ev_hs) (T : RS) (m : Nat) : Prop := cP h' c0 T m ∧ ext h h' ∧ dC h R h' T
theorem cP_c {m : Nat} (k : ∀ a, 1 ≤ a → a ≤ 17 → T a = R a) (k0 : T 0 0 = R 0 0) (k1 : T 0 1 = R 0 1) (C : cP h c0 R m) : cP h c0 T m := ⟨cR_c (fun a h1 h2 _ => k a (by omega) h2) k0 k1 C.1, lvA_c k C.2.1, sOK_congr C.2.2 (k 1 (by omega) (by omega)) (k 10 (by omega) (by omega))⟩
theorem cP_u {m k : Nat} {i z : Int} (hk : 18 ≤ k) (C : cP h c0 R m) : cP h c0 (up3 R k i z) m := cP_c (fun a _ _ => u3f (by omega)) (u3n (by omega)) (u3n (by omega)) C
theorem cP_l {m m' : Nat} (hm : m' ≤ m) (C : cP h c0 R m) : cP h c0 R m' := ⟨C.1, C.2.1, sOK_le C.2.2 hm⟩
theorem st_u {h' : ev_hs} {m k : Nat} {i z : Int} (hk : 18 ≤ k) (s : st c0 h R h' T m) : st c0 h R h' (up3 T k i z) m := by
  exact ⟨cP_u hk s.1, s.2.1, dC_c (u3n (by omega)) (u3f (by omega)) (u3f (by omega)) s.2.2⟩
theorem st_s {h' : ev_hs} {m k : Nat} {i z : Int} (hk : 18 ≤ k) (s : st c0 h (up3 R k i z) h' T m) : st c0 h R h' T m := by
  exact ⟨s.1, s.2.1, dC_d (u3n (by omega)).symm (u3f (by omega)).symm (u3f (by omega)).symm s.2.2⟩
theorem st_t {h' h2 : ev_hs} {T2 : RS} {m m2 : Nat} (s : st c0 h R h' T m) (s2 : st c0 h' T h2 T2 m2) : st c0 h R h2 T2 m2 := by
  exact ⟨s2.1, ext_t s.2.1 s2.2.1, dC_t s.2.2 s2.2.2⟩
theorem st_r {m : Nat} (C : cP h c0 R m) : st c0 h R h R m := ⟨C, ext_r, dC_r⟩
theorem st_h {h' : ev_hs} {m : Nat} (s : st c0 h R h' T m) : shC h' c0 (T 0 0) (T 0 1) := s.1.1.1
theorem c_snd {m0 : Nat} {n k l t w v m w' v' m' : Int} (C : cP h c0 R (m0 + 1)) (hn : 0 ≤ n ∧ n < 6) (hk : 0 ≤ k ∧ k ≤ 10) (e1 : k ≤ 3 → w' = n) (e2 : 4 ≤ k → k ≤ 6 → w' = w) (e3 : (k = 3 ∨ k = 8 ∨ k = 10) → v' = v) (e4 : k = 8 → m' = m) :
    ∃ h', f_Me_send (some (c0 + 1)) n k l t w' v' m' (vw h c0 (wF R F) Rr) = some (vw h' c0 (wF (nSend R n k l t w v m) F) Rr) ∧ st c0 h R h' (nSend R n k l t w v m) m0 := by
  obtain ⟨h', E, c, e, z1, z2⟩ := c_send (F := F) (Rr := Rr) (l := l) (t := t) (w := w) (v := v) (m := m) (w' := w') (v' := v') (m' := m') C.1 C.2.1 C.2.2 hn hk e1 e2 e3 e4
  refine ⟨h', E, ⟨c, lvA_send C.2.1, sOK_send C.2.2⟩, e, ?_⟩
  have : nSend R n k l t w v m 0 38 = R 0 38 + 1 := by
    unfold nSend
    rw [u3s]
  refine ⟨by omega, by omega, ?_⟩
  have hq := nCh_r (k := k)
  have e10 := sJ_up (f := R 10) (g := nSend R n k l t w v m 10) (q := 3 * n + nCh k) (by omega) (fun i hi => by rw [nSend_10, if_neg hi]) 18 (by omega)
  have e11 : nSend R n k l t w v m 11 = R 11 := funext (fun j => nSend_n (by omega))
  rw [nSend_10, if_pos rfl] at e10
  unfold phi
  rw [this, e10, e11]
  omega
theorem nSend_u {k0 : Nat} {i z n k l t w v m : Int} (hk : 11 ≤ k0) : nSend (up3 R k0 i z) n k l t w v m = up3 (nSend R n k l t w v m) k0 i z := by
  have e : nFree (up3 R k0 i z) = nFree R := by
    have hh : ∀ f p, nFr (up3 R k0 i z) f p = nFr R f p := by
      intro f
      induction f with
      | zero => intro p; rfl
      | succ f ih => intro p; unfold nFr; rw [u3n (by omega), ih]
    exact hh 128 0
  funext a j
  by_cases ha : a = k0
  · subst ha
    rw [nSend_n hk, up3_eq, up3_eq, nSend_n hk]
  · rw [u3n ha]
    unfold nSend
    rw [e, u3n (k := k0) (a := 10) (by omega), u3n (k := k0) (a := 0) (by omega)]
    simp only [up3_eq]
    repeat' (first | rfl | (split <;> (try rfl)))
    all_goals (first | (simp_all; done) | omega)
theorem eOr_0 {a b : Int} : eOr 0 (eOr a b) = eOr a b := by
  unfold eOr
  rw [eI_toI]
  simp
theorem c_gets {m l x : Int} {m0 : Nat} (C : cP h c0 R (m0 + 1)) (hl : 0 ≤ l ∧ l < 8) (hx : 0 ≤ x ∧ x < 6) (gH : bH R) (hi : hI R) (hd : R 24 l ≠ 3) :
    ∃ h', f_Ho_takeGets (some (qH c0 l)) x (vw h c0 (wF R F) Rr) = some (vw h' c0 (wF (nGets R (l % 6) l x).2 F) Rr) ∧ st c0 h R h' (nGets R (l % 6) l x).2 m0 := by
  have hs := C.1.1
  have g := gH l (by omega) (by omega)
  have gi := hi l (by omega) (by omega)
  unfold nGets
  rw [if_neg hd]
  by_cases h2 : R 24 l = 2
  · rw [if_pos h2]
    obtain ⟨h', E, s⟩ := c_snd (F := F) (Rr := Rr) (n := l % 6) (k := 4) (l := l) (t := R 26 l) (w := x) (v := 0) (m := 0) (w' := x) (v' := 0) (m' := 0) C (by omega) (by omega) (by omega) (by omega) (by omega) (by omega)
    have hs1 := st_h s
    refine ⟨h', ?_, st_u (by omega) (st_u (by omega) (st_u (by omega) s))⟩
    have e27 : nSend R (l % 6) 4 l (R 26 l) x 0 0 27 l = 0 := by rw [nSend_n (by omega)]; exact (gi.1 h2).2.2
    have e26 : nSend R (l % 6) 4 l (R 26 l) x 0 0 26 l = R 26 l := nSend_n (by omega)
    simp (disch := omega) only [f_Ho_takeGets, ↓ziHo3 hs, ↓zpHo3 hs, ↓zfHo1 hs, ↓zfHo0 hs, ↓ziHo4 hs, ↓zpHo4 hs, ↓ziHo5 hs, ↓zpHo5 hs, ↓ziHo6 hs, ↓zpHo6 hs, ↓zgHo2 hs, ↓zvMe hs, ↓ziHo3 hs1, ↓zpHo3 hs1, ↓zfHo1 hs1, ↓zfHo0 hs1, ↓ziHo4 hs1, ↓zpHo4 hs1, ↓ziHo5 hs1, ↓zpHo5 hs1, ↓ziHo6 hs1, ↓zpHo6 hs1, ↓zgHo2 hs1, ↓zvMe hs1, ↓eEq_i, ↓eLt_i, ↓eDiv_i, ↓eRem_i, ↓bI_some, ↓bR_some, ↓bV_some, ↓nN_some, ↓eNu_n, ↓eNu_s, ↓eBo_1, ↓eBo_0, ↓jn_eq, u3s, u3n, u3i, ↓reduceIte, Int.reduceLT, Int.reduceLE, Int.reduceEq, Int.reduceNeg, Int.reduceAdd, Int.reduceSub, Int.reduceMul, Int.reduceMod, Int.reduceDiv, not_true_eq_false, not_false_eq_true, and_self, and_true, true_and, and_false, false_and, or_true, or_false, false_or, true_or, h2, E, e27, e26, eOr_0]
  · rw [if_neg h2]
    obtain ⟨h', E, s⟩ := c_snd (F := F) (Rr := Rr) (n := l % 6) (k := 8) (l := l) (t := x) (w := 0) (v := R 25 l) (m := 0) (w' := x) (v' := R 25 l) (m' := 0) C (by omega) (by omega) (by omega) (by omega) (by omega) (by omega)
    have hs1 := st_h s
    refine ⟨h', ?_, st_u (by omega) (st_u (by omega) s)⟩
    have e27 : nSend R (l % 6) 8 l x 0 (R 25 l) 0 27 l = R 27 l := nSend_n (by omega)
    simp (disch := omega) only [f_Ho_takeGets, ↓ziHo3 hs, ↓zpHo3 hs, ↓zfHo1 hs, ↓zfHo0 hs, ↓ziHo4 hs, ↓zpHo4 hs, ↓ziHo5 hs, ↓zpHo5 hs, ↓ziHo6 hs, ↓zpHo6 hs, ↓zgHo2 hs, ↓zvMe hs, ↓ziHo3 hs1, ↓zpHo3 hs1, ↓zfHo1 hs1, ↓zfHo0 hs1, ↓ziHo4 hs1, ↓zpHo4 hs1, ↓ziHo5 hs1, ↓zpHo5 hs1, ↓ziHo6 hs1, ↓zpHo6 hs1, ↓zgHo2 hs1, ↓zvMe hs1, ↓eEq_i, ↓eLt_i, ↓eDiv_i, ↓eRem_i, ↓bI_some, ↓bR_some, ↓bV_some, ↓nN_some, ↓eNu_n, ↓eNu_s, ↓eBo_1, ↓eBo_0, ↓jn_eq, u3s, u3n, u3i, ↓reduceIte, Int.reduceLT, Int.reduceLE, Int.reduceEq, Int.reduceNeg, Int.reduceAdd, Int.reduceSub, Int.reduceMul, Int.reduceMod, Int.reduceDiv, not_true_eq_false, not_false_eq_true, and_self, and_true, true_and, and_false, false_and, or_true, or_false, false_or, true_or, h2, E, e27]
theorem c_drop {l x : Int} {m0 : Nat} (C : cP h c0 R m0) (hl : 0 ≤ l ∧ l < 8) (hx : 0 ≤ x ∧ x < 6) (gH : bH R) :
    f_Ho_dropSharer (some (qH c0 l)) x (vw h c0 (wF R F) Rr) = some (vw h c0 (wF (nGone R l x) F) Rr) ∧ cP h c0 (nGone R l x) m0 := by
  have hs := C.1.1
  have g := gH l (by omega) (by omega)
  have g2 := bit_g (x := x) g.2.2.2 (by omega)
  unfold nGone
  by_cases h1 : R 24 l = 1
  · by_cases h2 : eAnd (R 27 l) (eXor (eShl 1 x) (-1)) = 0
    · rw [if_pos ⟨h1, h2⟩]
      refine ⟨?_, cP_u (by omega) (cP_u (by omega) C)⟩
      simp (disch := first | omega | (simp (disch := omega) only [u3s, u3n, u3i]; omega)) only [f_Ho_dropSharer, ↓ziHo5 hs, ↓zpHo5 hs, ↓ziHo3 hs, ↓zpHo3 hs, ↓eEq_i, ↓eLt_i, ↓eDiv_i, ↓eRem_i, ↓bI_some, ↓bR_some, ↓bV_some, ↓nN_some, ↓eNu_n, ↓eNu_s, ↓eBo_1, ↓eBo_0, ↓jn_eq, u3s, u3n, u3i, ↓reduceIte, Int.reduceLT, Int.reduceLE, Int.reduceEq, Int.reduceNeg, Int.reduceAdd, Int.reduceSub, Int.reduceMul, Int.reduceMod, Int.reduceDiv, not_true_eq_false, not_false_eq_true, and_self, and_true, true_and, and_false, false_and, or_true, or_false, false_or, true_or, h1, h2]
    · rw [if_neg (fun y => h2 y.2)]
      refine ⟨?_, cP_u (by omega) C⟩
      simp (disch := first | omega | (simp (disch := omega) only [u3s, u3n, u3i]; omega)) only [f_Ho_dropSharer, ↓ziHo5 hs, ↓zpHo5 hs, ↓ziHo3 hs, ↓zpHo3 hs, ↓eEq_i, ↓eLt_i, ↓eDiv_i, ↓eRem_i, ↓bI_some, ↓bR_some, ↓bV_some, ↓nN_some, ↓eNu_n, ↓eNu_s, ↓eBo_1, ↓eBo_0, ↓jn_eq, u3s, u3n, u3i, ↓reduceIte, Int.reduceLT, Int.reduceLE, Int.reduceEq, Int.reduceNeg, Int.reduceAdd, Int.reduceSub, Int.reduceMul, Int.reduceMod, Int.reduceDiv, not_true_eq_false, not_false_eq_true, and_self, and_true, true_and, and_false, false_and, or_true, or_false, false_or, true_or, h1, h2]
  · rw [if_neg (fun y => h1 y.1)]
    refine ⟨?_, cP_u (by omega) C⟩
    simp (disch := first | omega | (simp (disch := omega) only [u3s, u3n, u3i]; omega)) only [f_Ho_dropSharer, ↓ziHo5 hs, ↓zpHo5 hs, ↓ziHo3 hs, ↓zpHo3 hs, ↓eEq_i, ↓eLt_i, ↓eDiv_i, ↓eRem_i, ↓bI_some, ↓bR_some, ↓bV_some, ↓nN_some, ↓eNu_n, ↓eNu_s, ↓eBo_1, ↓eBo_0, ↓jn_eq, u3s, u3n, u3i, ↓reduceIte, Int.reduceLT, Int.reduceLE, Int.reduceEq, Int.reduceNeg, Int.reduceAdd, Int.reduceSub, Int.reduceMul, Int.reduceMod, Int.reduceDiv, not_true_eq_false, not_false_eq_true, and_self, and_true, true_and, and_false, false_and, or_true, or_false, false_or, true_or, h1]
theorem nGone_0 {l x j : Int} : nGone R l x 0 j = R 0 j := by
  unfold nGone
  split
  · rw [u3n (by omega), u3n (by omega)]
  · rw [u3n (by omega)]
theorem nGone_10 {l x : Int} {a : Nat} (ha : a < 24) : nGone R l x a = R a := by
  unfold nGone
  split
  · rw [u3f (by omega), u3f (by omega)]
  · rw [u3f (by omega)]
theorem c_puts {l x : Int} {m0 : Nat} (C : cP h c0 R (m0 + 1)) (hl : 0 ≤ l ∧ l < 8) (hx : 0 ≤ x ∧ x < 6) (gH : bH R) :
    ∃ h', f_Ho_takePuts (some (qH c0 l)) x (vw h c0 (wF R F) Rr) = some (vw h' c0 (wF (nSend (nGone R l x) (l % 6) 7 l x 0 0 0) F) Rr) ∧ st c0 h R h' (nSend (nGone R l x) (l % 6) 7 l x 0 0 0) m0 := by
  have hs := C.1.1
  obtain ⟨E1, C1⟩ := c_drop (F := F) (Rr := Rr) C hl hx gH
  obtain ⟨h', E, s⟩ := c_snd (F := F) (Rr := Rr) (n := l % 6) (k := 7) (l := l) (t := x) (w := 0) (v := 0) (m := 0) (w' := x) (v' := 0) (m' := 0) C1 (by omega) (by omega) (by omega) (by omega) (by omega) (by omega)
  refine ⟨h', ?_, s.1, s.2.1, ?_⟩
  · simp (disch := omega) only [f_Ho_takePuts, ↓zfHo1 hs, ↓zfHo0 hs, ↓zgHo2 hs, ↓zvHo hs, ↓zvMe hs, ↓eEq_i, ↓eLt_i, ↓eDiv_i, ↓eRem_i, ↓bI_some, ↓bR_some, ↓bV_some, ↓nN_some, ↓eNu_n, ↓eNu_s, ↓eBo_1, ↓eBo_0, ↓jn_eq, u3s, u3n, u3i, ↓reduceIte, Int.reduceLT, Int.reduceLE, Int.reduceEq, Int.reduceNeg, Int.reduceAdd, Int.reduceSub, Int.reduceMul, Int.reduceMod, Int.reduceDiv, not_true_eq_false, not_false_eq_true, and_self, and_true, true_and, and_false, false_and, or_true, or_false, false_or, true_or, E1, E]
  · exact dC_d nGone_0.symm (nGone_10 (by omega)).symm (nGone_10 (by omega)).symm s.2.2
theorem c_putm {l x v : Int} {m0 : Nat} (C : cP h c0 R (m0 + 1)) (hl : 0 ≤ l ∧ l < 8) (hx : 0 ≤ x ∧ x < 6) (gH : bH R) :
    ∃ h', f_Ho_takePutm (some (qH c0 l)) x v (vw h c0 (wF R F) Rr) = some (vw h' c0 (wF (nSend (nPutm R l x v) (l % 6) 7 l x 0 0 0) F) Rr) ∧ st c0 h R h' (nSend (nPutm R l x v) (l % 6) 7 l x 0 0 0) m0 := by
  have hs := C.1.1
  have g := gH l (by omega) (by omega)
  unfold nPutm
  by_cases hc : R 24 l = 2 ∧ R 26 l = x
  · rw [if_pos hc]
    have C1 : cP h c0 (up3 (up3 (up3 R 25 l v) 26 l (-1)) 24 l 0) (m0 + 1) := cP_u (by omega) (cP_u (by omega) (cP_u (by omega) C))
    obtain ⟨h', E, s⟩ := c_snd (F := F) (Rr := Rr) (n := l % 6) (k := 7) (l := l) (t := x) (w := 0) (v := 0) (m := 0) (w' := x) (v' := 0) (m' := 0) C1 (by omega) (by omega) (by omega) (by omega) (by omega) (by omega)
    refine ⟨h', ?_, st_s (by omega) (st_s (by omega) (st_s (by omega) s))⟩
    have g2 := hc.2
    simp (disch := omega) only [f_Ho_takePutm, ↓zfHo1 hs, ↓zfHo0 hs, ↓ziHo3 hs, ↓zpHo3 hs, ↓ziHo4 hs, ↓zpHo4 hs, ↓ziHo6 hs, ↓zpHo6 hs, ↓zgHo2 hs, ↓zvMe hs, ↓zvHo hs, ↓eEq_i, ↓eLt_i, ↓eDiv_i, ↓eRem_i, ↓bI_some, ↓bR_some, ↓bV_some, ↓nN_some, ↓eNu_n, ↓eNu_s, ↓eBo_1, ↓eBo_0, ↓jn_eq, u3s, u3n, u3i, ↓reduceIte, Int.reduceLT, Int.reduceLE, Int.reduceEq, Int.reduceNeg, Int.reduceAdd, Int.reduceSub, Int.reduceMul, Int.reduceMod, Int.reduceDiv, not_true_eq_false, not_false_eq_true, and_self, and_true, true_and, and_false, false_and, or_true, or_false, false_or, true_or, hc.1, g2, E]
  · rw [if_neg hc]
    obtain ⟨E1, C1⟩ := c_drop (F := F) (Rr := Rr) C hl hx gH
    obtain ⟨h', E, s⟩ := c_snd (F := F) (Rr := Rr) (n := l % 6) (k := 7) (l := l) (t := x) (w := 0) (v := 0) (m := 0) (w' := x) (v' := 0) (m' := 0) C1 (by omega) (by omega) (by omega) (by omega) (by omega) (by omega)
    refine ⟨h', ?_, s.1, s.2.1, ?_⟩
    · by_cases h2 : R 24 l = 2
      · have h3 : R 26 l ≠ x := fun y => hc ⟨h2, y⟩
        simp (disch := omega) only [f_Ho_takePutm, ↓zfHo1 hs, ↓zfHo0 hs, ↓ziHo3 hs, ↓zpHo3 hs, ↓ziHo4 hs, ↓zpHo4 hs, ↓ziHo6 hs, ↓zpHo6 hs, ↓zgHo2 hs, ↓zvMe hs, ↓zvHo hs, ↓eEq_i, ↓eLt_i, ↓eDiv_i, ↓eRem_i, ↓bI_some, ↓bR_some, ↓bV_some, ↓nN_some, ↓eNu_n, ↓eNu_s, ↓eBo_1, ↓eBo_0, ↓jn_eq, u3s, u3n, u3i, ↓reduceIte, Int.reduceLT, Int.reduceLE, Int.reduceEq, Int.reduceNeg, Int.reduceAdd, Int.reduceSub, Int.reduceMul, Int.reduceMod, Int.reduceDiv, not_true_eq_false, not_false_eq_true, and_self, and_true, true_and, and_false, false_and, or_true, or_false, false_or, true_or, h2, h3, E1, E]
      · simp (disch := omega) only [f_Ho_takePutm, ↓zfHo1 hs, ↓zfHo0 hs, ↓ziHo3 hs, ↓zpHo3 hs, ↓ziHo4 hs, ↓zpHo4 hs, ↓ziHo6 hs, ↓zpHo6 hs, ↓zgHo2 hs, ↓zvMe hs, ↓zvHo hs, ↓eEq_i, ↓eLt_i, ↓eDiv_i, ↓eRem_i, ↓bI_some, ↓bR_some, ↓bV_some, ↓nN_some, ↓eNu_n, ↓eNu_s, ↓eBo_1, ↓eBo_0, ↓jn_eq, u3s, u3n, u3i, ↓reduceIte, Int.reduceLT, Int.reduceLE, Int.reduceEq, Int.reduceNeg, Int.reduceAdd, Int.reduceSub, Int.reduceMul, Int.reduceMod, Int.reduceDiv, not_true_eq_false, not_false_eq_true, and_self, and_true, true_and, and_false, false_and, or_true, or_false, false_or, true_or, h2, E1, E]
    · exact dC_d nGone_0.symm (nGone_10 (by omega)).symm (nGone_10 (by omega)).symm s.2.2
-- GETM: the others' invalidations
theorem bit_iv : ∀ o : Nat, o < 64 → ∀ k : Nat, k < 6 → (eAnd (o : Int) (eShl 1 (k : Int)) = 0 ↔ ¬ eAnd (eShr (o : Int) (k : Int)) 1 = 1) ∧ 0 ≤ eAnd (o : Int) (eShl 1 (k : Int)) ∧ eAnd (o : Int) (eShl 1 (k : Int)) < 64 := by decide +kernel
theorem bit_cn : ∀ o : Nat, o < 64 → ∀ g : ev_hs, f_In_bitCount (o : Int) g = some (nCnt (o : Int), g) := by
  intro o ho g
  have h1 : ∀ o : Nat, o < 64 → (f_In_bitCount (o : Int) ((fun _ => 0), (fun _ _ => 0), (fun _ _ => none), (fun _ => 0), (fun _ _ => 0), (fun _ _ => none), 0, 0, 0, 0, 0)).map (fun y => y.1) = some (nCnt (o : Int)) := by decide +kernel
  have h2 := h1 o ho
  unfold f_In_bitCount at h2 ⊢
  simp only [Option.map_some] at h2
  rw [Option.some.inj h2]
theorem c_iv {l x : Int} {o : Nat} (hl : 0 ≤ l ∧ l < 8) (ho : o < 64) : ∀ (f fu : Nat) (k : Int) (R : RS) (h : ev_hs) (m0 : Nat), k + f = 6 → 0 ≤ k → f < fu → cP h c0 R (f + m0) →
    ∃ h', (∀ K, f_Ho_takeGetm_74 fu (some (qH c0 l)) x (o : Int) k (vw h c0 (wF R F) Rr) K = K (some (qH c0 l)) x (vw h' c0 (wF (nIv (l % 6) l x (o : Int) f k R) F) Rr)) ∧ st c0 h R h' (nIv (l % 6) l x (o : Int) f k R) m0 := by
  intro f
  induction f with
  | zero =>
    intro fu k R h m0 hk k0 hf C
    obtain ⟨fu, rfl⟩ : ∃ f2, fu = f2 + 1 := ⟨fu - 1, by omega⟩
    refine ⟨h, fun K => ?_, st_r (cP_l (by omega) C)⟩
    unfold f_Ho_takeGetm_74 nIv
    rw [eLt_i (by omega) (by omega) (by omega) (by omega), if_neg (by omega)]
  | succ f ih =>
    intro fu k R h m0 hk k0 hf C
    obtain ⟨fu, rfl⟩ : ∃ f2, fu = f2 + 1 := ⟨fu - 1, by omega⟩
    have hs := C.1.1
    obtain ⟨kn, rfl⟩ := Int.eq_ofNat_of_zero_le k0
    have hb := bit_iv o ho kn (by omega)
    by_cases hc : eAnd (eShr (o : Int) (kn : Int)) 1 = 1
    · have hb0 : ¬ eAnd (o : Int) (eShl 1 (kn : Int)) = 0 := fun y => hb.1.mp y hc
      have C' : cP h c0 R (f + m0 + 1) := by rw [show f + m0 + 1 = f + 1 + m0 by omega]; exact C
      obtain ⟨h1, E, s⟩ := c_snd (F := F) (Rr := Rr) (n := l % 6) (k := 6) (l := l) (t := kn) (w := x) (v := 0) (m := 0) (w' := x) (v' := 0) (m' := 0) (m0 := f + m0) C' (by omega) (by omega) (by omega) (by omega) (by omega) (by omega)
      obtain ⟨h2, E2, s2⟩ := ih fu ((kn : Int) + 1) _ h1 m0 (by omega) (by omega) (by omega) s.1
      refine ⟨h2, fun K => ?_, ?_⟩
      · unfold f_Ho_takeGetm_74 nIv
        rw [if_pos hc]
        simp (disch := omega) only [↓zfHo1 hs, ↓zfHo0 hs, ↓zgHo2 hs, ↓zvMe hs, ↓eEq_i, ↓eLt_i, ↓eDiv_i, ↓eRem_i, ↓bI_some, ↓bR_some, ↓bV_some, ↓nN_some, ↓eNu_n, ↓eNu_s, ↓eBo_1, ↓eBo_0, ↓jn_eq, u3s, u3n, u3i, ↓reduceIte, Int.reduceLT, Int.reduceLE, Int.reduceEq, Int.reduceNeg, Int.reduceAdd, Int.reduceSub, Int.reduceMul, Int.reduceMod, Int.reduceDiv, not_true_eq_false, not_false_eq_true, and_self, and_true, true_and, and_false, false_and, or_true, or_false, false_or, true_or, hb0, E]
        rw [if_pos (by omega)]
        exact E2 K
      · unfold nIv
        rw [if_pos hc]
        exact st_t s s2
    · have hb0 : eAnd (o : Int) (eShl 1 (kn : Int)) = 0 := hb.1.mpr hc
      obtain ⟨h2, E2, s2⟩ := ih fu ((kn : Int) + 1) R h m0 (by omega) (by omega) (by omega) (cP_l (by omega) C)
      refine ⟨h2, fun K => ?_, ?_⟩
      · unfold f_Ho_takeGetm_74 nIv
        rw [if_neg hc]
        simp (disch := omega) only [↓zfHo1 hs, ↓zfHo0 hs, ↓zgHo2 hs, ↓zvMe hs, ↓eEq_i, ↓eLt_i, ↓eDiv_i, ↓eRem_i, ↓bI_some, ↓bR_some, ↓bV_some, ↓nN_some, ↓eNu_n, ↓eNu_s, ↓eBo_1, ↓eBo_0, ↓jn_eq, u3s, u3n, u3i, ↓reduceIte, Int.reduceLT, Int.reduceLE, Int.reduceEq, Int.reduceNeg, Int.reduceAdd, Int.reduceSub, Int.reduceMul, Int.reduceMod, Int.reduceDiv, not_true_eq_false, not_false_eq_true, and_self, and_true, true_and, and_false, false_and, or_true, or_false, false_or, true_or, hb0]
        rw [if_pos (by omega)]
        exact E2 K
      · unfold nIv
        rw [if_neg hc]
        exact s2
theorem c_getm {l x : Int} {m0 : Nat} (C : cP h c0 R (6 + 1 + m0)) (hl : 0 ≤ l ∧ l < 8) (hx : 0 ≤ x ∧ x < 6) (gH : bH R) (hi : hI R) (hd : R 24 l ≠ 3) :
    ∃ h', f_Ho_takeGetm (some (qH c0 l)) x (vw h c0 (wF R F) Rr) = some (vw h' c0 (wF (nGetm R (l % 6) l x).2 F) Rr) ∧ st c0 h R h' (nGetm R (l % 6) l x).2 m0 := by
  have hs := C.1.1
  have g := gH l (by omega) (by omega)
  have gi := hi l (by omega) (by omega)
  unfold nGetm
  rw [if_neg hd]
  by_cases h2 : R 24 l = 2
  · rw [if_pos h2]
    obtain ⟨h', E, s⟩ := c_snd (F := F) (Rr := Rr) (n := l % 6) (k := 5) (l := l) (t := R 26 l) (w := x) (v := 0) (m := 0) (w' := x) (v' := 0) (m' := 0) (m0 := m0) (cP_l (by omega) C) (by omega) (by omega) (by omega) (by omega) (by omega) (by omega)
    have hs1 := st_h s
    refine ⟨h', ?_, st_u (by omega) s⟩
    simp (disch := omega) only [f_Ho_takeGetm, ↓ziHo4 hs, ↓zpHo4 hs, ↓ziHo3 hs, ↓zpHo3 hs, ↓zfHo1 hs, ↓zfHo0 hs, ↓ziHo5 hs, ↓zpHo5 hs, ↓ziHo6 hs, ↓zpHo6 hs, ↓zgHo2 hs, ↓zvMe hs, ↓ziHo4 hs1, ↓zpHo4 hs1, ↓ziHo3 hs1, ↓zpHo3 hs1, ↓zfHo1 hs1, ↓zfHo0 hs1, ↓ziHo5 hs1, ↓zpHo5 hs1, ↓ziHo6 hs1, ↓zpHo6 hs1, ↓zgHo2 hs1, ↓zvMe hs1, ↓eEq_i, ↓eLt_i, ↓eDiv_i, ↓eRem_i, ↓bI_some, ↓bR_some, ↓bV_some, ↓nN_some, ↓eNu_n, ↓eNu_s, ↓eBo_1, ↓eBo_0, ↓jn_eq, u3s, u3n, u3i, ↓reduceIte, Int.reduceLT, Int.reduceLE, Int.reduceEq, Int.reduceNeg, Int.reduceAdd, Int.reduceSub, Int.reduceMul, Int.reduceMod, Int.reduceDiv, not_true_eq_false, not_false_eq_true, and_self, and_true, true_and, and_false, false_and, or_true, or_false, false_or, true_or, h2, E]
  · rw [if_neg h2]
    have g2 := bit_g (x := x) g.2.2.2 (by omega)
    generalize ho : eAnd (R 27 l) (eXor (eShl 1 x) (-1)) = o at *
    obtain ⟨on, rfl⟩ := Int.eq_ofNat_of_zero_le g2.1
    have ec := bit_cn on (by omega)
    obtain ⟨h1, E, s⟩ := c_snd (F := F) (Rr := Rr) (n := l % 6) (k := 8) (l := l) (t := x) (w := 0) (v := R 25 l) (m := nCnt (on : Int)) (w' := x) (v' := R 25 l) (m' := nCnt (on : Int)) (m0 := 6 + m0) (cP_l (by omega) C) (by omega) (by omega) (by omega) (by omega) (by omega) (by omega)
    obtain ⟨h3, E3, s3⟩ := c_iv (F := F) (Rr := Rr) (l := l) (x := x) (o := on) hl (by omega) 6 FU 0 _ h1 m0 (by omega) (by omega) (by unfold FU; omega) s.1
    have hs1 := st_h s
    have hs3 := st_h s3
    refine ⟨h3, ?_, ?_⟩
    · simp (disch := omega) only [f_Ho_takeGetm, ↓ziHo4 hs, ↓zpHo4 hs, ↓ziHo3 hs, ↓zpHo3 hs, ↓zfHo1 hs, ↓zfHo0 hs, ↓ziHo5 hs, ↓zpHo5 hs, ↓ziHo6 hs, ↓zpHo6 hs, ↓zgHo2 hs, ↓zvMe hs, ↓ziHo4 hs1, ↓zpHo4 hs1, ↓ziHo3 hs1, ↓zpHo3 hs1, ↓zfHo1 hs1, ↓zfHo0 hs1, ↓ziHo5 hs1, ↓zpHo5 hs1, ↓ziHo6 hs1, ↓zpHo6 hs1, ↓zgHo2 hs1, ↓zvMe hs1, ↓ziHo4 hs3, ↓zpHo4 hs3, ↓ziHo3 hs3, ↓zpHo3 hs3, ↓zfHo1 hs3, ↓zfHo0 hs3, ↓ziHo5 hs3, ↓zpHo5 hs3, ↓ziHo6 hs3, ↓zpHo6 hs3, ↓zgHo2 hs3, ↓zvMe hs3, ↓eEq_i, ↓eLt_i, ↓eDiv_i, ↓eRem_i, ↓bI_some, ↓bR_some, ↓bV_some, ↓nN_some, ↓eNu_n, ↓eNu_s, ↓eBo_1, ↓eBo_0, ↓jn_eq, u3s, u3n, u3i, ↓reduceIte, Int.reduceLT, Int.reduceLE, Int.reduceEq, Int.reduceNeg, Int.reduceAdd, Int.reduceSub, Int.reduceMul, Int.reduceMod, Int.reduceDiv, not_true_eq_false, not_false_eq_true, and_self, and_true, true_and, and_false, false_and, or_true, or_false, false_or, true_or, h2, ho, ec, E, E3]
      have hcm : ∀ T : RS, up3 (up3 (up3 T 27 l 0) 24 l 2) 26 l x = up3 (up3 (up3 T 27 l 0) 26 l x) 24 l 2 := by
        intro T
        funext a j
        simp only [up3_eq]
        grind
      rw [hcm]
    · exact st_u (by omega) (st_u (by omega) (st_u (by omega) (st_t s s3)))
end Cls7
