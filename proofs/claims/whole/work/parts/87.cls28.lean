/-! The law -/
section Cls28
variable {α : Type} {h g : ev_hs} {c0 b L : Nat} {R T Rr Rc : RS} {F : Int → Int} {xs : Nat → Int32}
def scr (h : ev_hs) (c0 b L : Nat) (xs : Nat → Int32) : Prop := xK h b = 58 ∧ xL h b = L ∧ (∀ j, xA h b j = (xs j).toInt) ∧ b < c0
theorem scr_e {h' : ev_hs} (e : ext h h') (hz : c0 ≤ xZ h) (s : scr h c0 b L xs) : scr h' c0 b L xs := by
  obtain ⟨e1, e2, e3, e4, e5, e6, e7, e8⟩ := e
  obtain ⟨s1, s2, s3, s4⟩ := s
  exact ⟨by rw [(e4 b (by omega)).1]; exact s1, by rw [(e4 b (by omega)).2]; exact s2, fun j => by rw [e8 b j (by omega)]; exact s3 j, s4⟩
theorem t_sc (s : scr h c0 b L xs) {i : Int} {K : Int → Option α} (h0 : 0 ≤ i) (h1 : i < L) : lI (vw h c0 Rc Rr) 58 (some b) i K = K ((xs i.toNat).toInt) := by
  unfold lI
  dsimp only
  rw [vv_K, vv_L, if_pos ⟨s.1, h0, by rw [s.2.1]; exact h1⟩]
  have : xA (vw h c0 Rc Rr) b i.toNat = xA h b i.toNat := by
    show vA h c0 Rc Rr b i.toNat = _
    unfold vA
    rw [if_pos s.2.2.2]
  rw [this, s.2.2.1]
theorem t_scl (s : scr h c0 b L xs) {K : Int → Option α} : aL (vw h c0 Rc Rr) 58 (some b) K = K (L : Int) := y_aL s.1 s.2.1
theorem i32_ok (x : Int32) : oK x.toInt := ⟨Int32.le_toInt x, Int32.toInt_lt x⟩
theorem eAnd_ok {a b : Int} : -2147483648 ≤ eAnd a b ∧ eAnd a b < 2147483648 := i32_ok _
theorem e_self {a : Int} {A B : Option α} : eEq a a A B = A := by
  unfold eEq
  rw [if_pos rfl]
def bud (h : ev_hs) (R : RS) : Prop := (xC h : Int) ≤ 409 + 2 * R 0 38 + R 0 39 + phi R ∧ (xS h : Int) ≤ 12000 + 207 * R 0 38 + 200 * R 0 39 + 4 * phi R
theorem bud_t {h' : ev_hs} (a : bud h R) (d : dT h R h' T) : bud h' T := by
  unfold bud dT at *
  omega
theorem sJ_nn {f : Int → Int} : ∀ k : Nat, (∀ i : Nat, i < k → 0 ≤ f i) → 0 ≤ sJ f k := by
  intro k
  induction k with
  | zero => intro _; exact Int.le_refl _
  | succ k ih =>
    intro e
    have := ih (fun i hi => e i (by omega))
    have := e k (by omega)
    unfold sJ
    omega
theorem sJ_le {f : Int → Int} {c : Int} : ∀ k : Nat, (∀ i : Nat, i < k → f i ≤ c) → sJ f k ≤ c * k := by
  intro k
  induction k with
  | zero => intro _; simp [sJ]
  | succ k ih =>
    intro e
    have h1 := ih (fun i hi => e i (by omega))
    have h2 := e k (by omega)
    unfold sJ
    have : c * ((k + 1 : Nat) : Int) = c * k + c := by
      rw [show ((k + 1 : Nat) : Int) = (k : Int) + 1 by omega, Int.mul_add]
      omega
    omega
theorem bud_f (I : iR R) (t : iT R) (d : bud h R) : xC h ≤ 100000 ∧ xS h ≤ 2000000 := by
  have h1 := sent_le I.1
  have g := bG_of I t
  have g39 := g.2.2.2.2.1
  have gQ := bQ_of I
  have h2 : R 0 39 ≤ R 0 38 := by
    obtain ⟨G, E, L, A, B⟩ := I.2.2.1
    have := B.2.2.2.2.2.2.2.2.2
    omega
  have p1 := sJ_nn (f := R 10) 18 (fun i hi => (gQ i (by omega) (by omega)).1.1)
  have p2 := sJ_le (f := R 11) (c := 4) 18 (fun i hi => (gQ i (by omega) (by omega)).2.1.2)
  unfold bud phi at d
  generalize sJ (R 10) 18 = s10 at *
  generalize sJ (R 11) 18 = s11 at *
  omega
def lwP (h : ev_hs) (c0 b L : Nat) (xs : Nat → Int32) (R : RS) (F : Int → Int) : Prop := cR h c0 R ∧ jP R ∧ fB R F ∧ shR h c0 ∧ scr h c0 b L xs ∧ bud h R
theorem lw_oper {n k l v d : Int} (P : lwP h c0 b L xs R F) (hv : oK v) : lwP h c0 b L xs (nOper R n k l v d).2 F ∧ (nOper R n k l v d).2 0 2 = R 0 2 := by
  obtain ⟨C, J, f, s, sc, bd⟩ := P
  have e0 : ∀ j, (nOper R n k l v d).2 0 j = R 0 j := by
    intro j
    unfold nOper
    split
    · simp (disch := omega) only [u3n]
    · rfl
  have ea : ∀ a, a < 28 → (nOper R n k l v d).2 a = R a := by
    intro a ha
    unfold nOper
    split
    · simp (disch := omega) only [u3f]
    · rfl
  refine ⟨⟨cR_c (fun a _ _ _ => ea a (by omega)) (e0 0) (e0 1) C, ⟨iR_oper J.1 hv, ?_⟩, fun n n0 n1 => ?_, s, sc, ?_⟩, e0 2⟩
  · have := J.2
    unfold iT at *
    rw [e0, e0, e0]
    exact this
  · rw [e0]
    exact f n n0 n1
  · unfold bud at *
    rw [e0, e0, phi_c (e0 38) (ea 10 (by omega)) (ea 11 (by omega))]
    exact bd
theorem law_loop (hL : L ≤ 3074) : ∀ (m fu : Nat) (i : Int) (R : RS) (F : Int → Int) (h : ev_hs), 0 ≤ i → i ≤ 4000 → (L : Int) < i + 6 * m → m < fu → R 0 2 + 100 * m ≤ 60000 → lwP h c0 b L xs R F → ∃ h', f_Lw_law_38 fu (some b) (some c0) (some (c0 + 373)) i (vw h c0 (wF R F) R) = some (1, h') ∧ xC h' ≤ 100000 ∧ xS h' ≤ 2000000 := by
  intro m
  induction m with
  | zero =>
    intro fu i R F h i0 i1 hi hf hb P
    obtain ⟨fu, rfl⟩ : ∃ f2, fu = f2 + 1 := ⟨fu - 1, by omega⟩
    obtain ⟨C, J, f, s, sc, bd⟩ := P
    rw [f_Lw_law_38, t_scl sc, eLt_i (by omega) (by omega) (by omega) (by omega), if_pos (by omega), eBo_1]
    exact ⟨_, rfl, bud_f J.1 J.2 bd⟩
  | succ m ih =>
    intro fu i R F h i0 i1 hi hf hb P
    obtain ⟨fu, rfl⟩ : ∃ f2, fu = f2 + 1 := ⟨fu - 1, by omega⟩
    have P2 := P
    obtain ⟨C, J, f, s, sc, bd⟩ := P2
    have hs := C.1
    have gN := J.1.1.2.2.2.2.2.2.2.2.2
    have gH := J.1.1.2.2.2.2.2.2.2.1
    have gB := J.1.2.2.2.2.1
    have hz := C.2.1.2.2.2
    rw [f_Lw_law_38, t_scl sc, eLt_i (by omega) (by omega) (by omega) (by omega)]
    by_cases hd : (L : Int) - 6 < i
    · rw [if_pos hd, eBo_1]
      exact ⟨_, rfl, bud_f J.1 J.2 bd⟩
    rw [if_neg hd, jn_eq, t_sc sc (by omega) (by omega)]
    generalize hw : eAnd ((xs i.toNat).toInt) 15 = w
    have hw2 : -2147483648 ≤ w ∧ w < 2147483648 := by rw [← hw]; exact eAnd_ok
    have nxt := ih fu (i + 6) R F h (by omega) (by omega) (by omega) (by omega) (by omega) P
    have o1 := i32_ok (xs (i + 1).toNat)
    have o2 := i32_ok (xs (i + 2).toNat)
    have o3 := i32_ok (xs (i + 3).toNat)
    have o4 := i32_ok (xs (i + 4).toNat)
    have o5 := i32_ok (xs (i + 5).toNat)
    rw [eEq_i hw2.1 hw2.2 (by omega) (by omega)]
    by_cases w0 : w = 0
    · rw [if_pos w0]
      obtain ⟨E1, C1⟩ := c_oper (F := F) (Rr := R) C gN (v := (xs (i + 4).toNat).toInt) o1 o2 o3 o5
      have E2 := m_operation (Rc := wF (nOper R (xs (i + 1).toNat).toInt (xs (i + 2).toNat).toInt (xs (i + 3).toNat).toInt (xs (i + 4).toNat).toInt (xs (i + 5).toNat).toInt).2 F) s gN (v := (xs (i + 4).toNat).toInt) o1 o2 o3 o5
      obtain ⟨P3, e02⟩ := lw_oper (n := (xs (i + 1).toNat).toInt) (k := (xs (i + 2).toNat).toInt) (l := (xs (i + 3).toNat).toInt) (v := (xs (i + 4).toNat).toInt) (d := (xs (i + 5).toNat).toInt) P o4
      have nx2 := ih fu (i + 6) _ F h (by omega) (by omega) (by omega) (by omega) (by rw [e02]; omega) P3
      rw [t_sc sc (by omega) (by omega), t_sc sc (by omega) (by omega), t_sc sc (by omega) (by omega), t_sc sc (by omega) (by omega), t_sc sc (by omega) (by omega), zvML hs, E1, bI_some, t_sc sc (by omega) (by omega), t_sc sc (by omega) (by omega), t_sc sc (by omega) (by omega), t_sc sc (by omega) (by omega), t_sc sc (by omega) (by omega), r_vK s, E2, bI_some, e_self]
      exact nx2
    rw [if_neg w0, eEq_i hw2.1 hw2.2 (by omega) (by omega)]
    by_cases w1 : w = 1
    · rw [if_pos w1]
      obtain ⟨h', F', E1, C1, J1, e1, d1, f1⟩ := c_run (F := F) (Rr := R) J C f (by omega) o1
      have s' := shR_e e1 hz s
      have sc' := scr_e e1 (by omega) sc
      obtain ⟨E2, c2⟩ := m_runA (Rc := wF (nRunA R (xs (i + 1).toNat).toInt).2 F') s' J (by omega) o1
      have nx2 := ih fu (i + 6) _ F' h' (by omega) (by omega) (by omega) (by omega) (by omega) ⟨C1, J1, f1, s', sc', bud_t bd d1⟩
      rw [t_sc sc (by omega) (by omega), zvML hs, E1, bI_some, t_sc sc' (by omega) (by omega), r_vK s', E2, bI_some, e_self]
      exact nx2
    rw [if_neg w1, eEq_i hw2.1 hw2.2 (by omega) (by omega)]
    by_cases w2 : w = 2
    · rw [if_pos w2, t_sc sc (by omega) (by omega), t_sc sc (by omega) (by omega), zvML hs, c_result C gN o1 o2, bI_some, t_sc sc (by omega) (by omega), t_sc sc (by omega) (by omega), r_vK s, m_result s gN o1 o2, bI_some, e_self]
      exact nxt
    rw [if_neg w2, eEq_i hw2.1 hw2.2 (by omega) (by omega)]
    by_cases w3 : w = 3
    · rw [if_pos w3, t_sc sc (by omega) (by omega), zvML hs, c_doneF C o1, bI_some, t_sc sc (by omega) (by omega), r_vK s, m_done s o1, bI_some, e_self]
      exact nxt
    rw [if_neg w3, eEq_i hw2.1 hw2.2 (by omega) (by omega)]
    by_cases w4 : w = 4
    · rw [if_pos w4, t_sc sc (by omega) (by omega), t_sc sc (by omega) (by omega), t_sc sc (by omega) (by omega), zvML hs, c_cache C o1 o2 o3, bI_some, t_sc sc (by omega) (by omega), t_sc sc (by omega) (by omega), t_sc sc (by omega) (by omega), r_vK s, m_cache s o1 o2 o3, bI_some, e_self]
      exact nxt
    rw [if_neg w4, eEq_i hw2.1 hw2.2 (by omega) (by omega)]
    by_cases w5 : w = 5
    · rw [if_pos w5, t_sc sc (by omega) (by omega), t_sc sc (by omega) (by omega), zvML hs, c_home C gH o1 o2, bI_some, t_sc sc (by omega) (by omega), t_sc sc (by omega) (by omega), r_vK s, m_home s o1 o2, bI_some, e_self]
      exact nxt
    rw [if_neg w5, eEq_i hw2.1 hw2.2 (by omega) (by omega)]
    by_cases w6 : w = 6
    · rw [if_pos w6, t_sc sc (by omega) (by omega), t_sc sc (by omega) (by omega), t_sc sc (by omega) (by omega), zvML hs, c_buffer C o1 o2 o3, bI_some, t_sc sc (by omega) (by omega), t_sc sc (by omega) (by omega), t_sc sc (by omega) (by omega), r_vK s, m_buffer s o1 o2 o3, bI_some, e_self]
      exact nxt
    rw [if_neg w6, eEq_i hw2.1 hw2.2 (by omega) (by omega)]
    by_cases w7 : w = 7
    · rw [if_pos w7, t_sc sc (by omega) (by omega), t_sc sc (by omega) (by omega), t_sc sc (by omega) (by omega), zvML hs, c_held C gB o1 o2 o3, bI_some, t_sc sc (by omega) (by omega), t_sc sc (by omega) (by omega), t_sc sc (by omega) (by omega), r_vK s, m_held s o1 o2 o3, bI_some, e_self]
      exact nxt
    rw [if_neg w7, eEq_i hw2.1 hw2.2 (by omega) (by omega)]
    by_cases w8 : w = 8
    · rw [if_pos w8, t_sc sc (by omega) (by omega), zvML hs, c_count C o1, bI_some, t_sc sc (by omega) (by omega), r_vK s, m_count s o1, bI_some, e_self]
      exact nxt
    rw [if_neg w8]
    exact nxt
end Cls28
