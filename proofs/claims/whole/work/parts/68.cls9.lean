/-! The class takes a packet from an inbox -/
section Cls9
variable {α : Type} {h g : ev_hs} {c0 : Nat} {R T U Rr Rc : RS} {F : Int → Int} {D FL : Int} {n p : Int}
-- inboxes apart, the taking goes the same way
def mk2 (R U : RS) : RS := fun a => if a = 12 ∨ a = 13 then U a else R a
theorem mk_r {a : Nat} {j : Int} (h1 : a ≠ 12) (h2 : a ≠ 13) : mk2 R U a j = R a j := by
  unfold mk2
  rw [if_neg (by omega)]
theorem mk_f {a : Nat} (h1 : a ≠ 12) (h2 : a ≠ 13) : mk2 R U a = R a := by
  unfold mk2
  rw [if_neg (by omega)]
theorem mk_u {k : Nat} {i z : Int} (h1 : k ≠ 12) (h2 : k ≠ 13) : up3 (mk2 R U) k i z = mk2 (up3 R k i z) U := by
  funext a j
  rw [up3_eq]
  by_cases hb : a = 12 ∨ a = 13
  · rw [if_neg (by omega)]
    unfold mk2
    rw [if_pos hb, if_pos hb]
  · rw [mk_r (by omega) (by omega), mk_r (by omega) (by omega), up3_eq]
theorem mk_fr : nFree (mk2 R U) = nFree R := by
  have hh : ∀ f p, nFr (mk2 R U) f p = nFr R f p := by
    intro f
    induction f with
    | zero => intro p; rfl
    | succ f ih => intro p; unfold nFr; rw [mk_r (by omega) (by omega), ih]
  exact hh 128 0
theorem mk_send {n k l t w v m : Int} : nSend (mk2 R U) n k l t w v m = mk2 (nSend R n k l t w v m) U := by
  unfold nSend
  simp (disch := omega) only [mk_fr, mk_r, mk_u]
theorem mk_iv {n l x o : Int} : ∀ (f : Nat) (k : Int) (R : RS), nIv n l x o f k (mk2 R U) = mk2 (nIv n l x o f k R) U := by
  intro f
  induction f with
  | zero => intro k R; rfl
  | succ f ih =>
    intro k R
    unfold nIv
    rw [← ih, mk_send]
    congr 1
    split <;> rfl
theorem mk_gone {l x : Int} : nGone (mk2 R U) l x = mk2 (nGone R l x) U := by
  unfold nGone
  simp (disch := omega) only [mk_r, mk_u]
  split <;> rfl
theorem mk_putm {l x v : Int} : nPutm (mk2 R U) l x v = mk2 (nPutm R l x v) U := by
  unfold nPutm
  simp (disch := omega) only [mk_r, mk_u, mk_gone]
  split <;> rfl
theorem mk_bec {l s : Int} : nBec (mk2 R U) n l s = mk2 (nBec R n l s) U := by
  unfold nBec nFin
  simp (disch := omega) only [mk_r, mk_u]
theorem mk_dat : nDat (mk2 R U) n p = mk2 (nDat R n p) U := by
  unfold nDat
  simp (disch := omega) only [mk_r, mk_u, mk_bec]
  split
  · rfl
  split <;> rfl
theorem mk_ack : nAck (mk2 R U) n p = mk2 (nAck R n p) U := by
  unfold nAck
  simp (disch := omega) only [mk_r, mk_u, mk_bec]
  split <;> rfl
theorem mk_gets {l x : Int} : nGets (mk2 R U) n l x = ((nGets R n l x).1, mk2 (nGets R n l x).2 U) := by
  unfold nGets
  simp (disch := omega) only [mk_r, mk_u, mk_send]
  split
  · rfl
  split <;> rfl
theorem mk_getm {l x : Int} : nGetm (mk2 R U) n l x = ((nGetm R n l x).1, mk2 (nGetm R n l x).2 U) := by
  unfold nGetm
  simp (disch := omega) only [mk_r, mk_u, mk_send, mk_iv]
  split
  · rfl
  split <;> rfl
theorem mk_fwds : nFwdS (mk2 R U) n p = ((nFwdS R n p).1, mk2 (nFwdS R n p).2 U) := by
  unfold nFwdS
  simp (disch := omega) only [mk_r, mk_u, mk_send]
  split
  · rfl
  split <;> rfl
theorem mk_fwdm : nFwdM (mk2 R U) n p = ((nFwdM R n p).1, mk2 (nFwdM R n p).2 U) := by
  unfold nFwdM
  simp (disch := omega) only [mk_r, mk_u, mk_send]
  split
  · rfl
  split <;> rfl
theorem mk_ivl : nIvl (mk2 R U) n p = ((nIvl R n p).1, mk2 (nIvl R n p).2 U) := by
  unfold nIvl
  simp (disch := omega) only [mk_r, mk_u, mk_send]
  split
  · rfl
  split
  · rfl
  split <;> rfl
theorem mk_tak : nTak (mk2 R U) n p = ((nTak R n p).1, mk2 (nTak R n p).2 U) := by
  have e2 : mk2 R U 2 p = R 2 p := mk_r (by omega) (by omega)
  have e3 : mk2 R U 3 p = R 3 p := mk_r (by omega) (by omega)
  have e5 : mk2 R U 5 p = R 5 p := mk_r (by omega) (by omega)
  have e7 : mk2 R U 7 p = R 7 p := mk_r (by omega) (by omega)
  have e24 : mk2 R U 24 (R 3 p) = R 24 (R 3 p) := mk_r (by omega) (by omega)
  unfold nTak
  rw [e2, e3, e5, e7, e24]
  by_cases h0 : R 2 p = 0
  · rw [if_pos h0, if_pos h0, mk_gets]
  rw [if_neg h0, if_neg h0]
  by_cases h1 : R 2 p = 1
  · rw [if_pos h1, if_pos h1, mk_getm]
  rw [if_neg h1, if_neg h1]
  by_cases h2 : R 2 p = 2
  · rw [if_pos h2, if_pos h2, mk_gone, mk_send]
  rw [if_neg h2, if_neg h2]
  by_cases h3 : R 2 p = 3
  · rw [if_pos h3, if_pos h3, mk_putm, mk_send]
  rw [if_neg h3, if_neg h3]
  by_cases h4 : R 2 p = 4
  · rw [if_pos h4, if_pos h4, mk_fwds]
  rw [if_neg h4, if_neg h4]
  by_cases h5 : R 2 p = 5
  · rw [if_pos h5, if_pos h5, mk_fwdm]
  rw [if_neg h5, if_neg h5]
  by_cases h6 : R 2 p = 6
  · rw [if_pos h6, if_pos h6, mk_ivl]
  rw [if_neg h6, if_neg h6]
  by_cases h7 : R 2 p = 7
  · rw [if_pos h7, if_pos h7, mk_u (by omega) (by omega), mk_u (by omega) (by omega)]
  rw [if_neg h7, if_neg h7]
  by_cases h8 : R 2 p = 8
  · rw [if_pos h8, if_pos h8, mk_dat]
  rw [if_neg h8, if_neg h8]
  by_cases h9 : R 2 p = 9
  · rw [if_pos h9, if_pos h9, mk_ack]
  rw [if_neg h9, if_neg h9]
  rw [mk_u (by omega) (by omega), mk_u (by omega) (by omega)]
  by_cases h3 : R 24 (R 3 p) = 3
  · rw [if_pos h3, if_pos h3]
  · rw [if_neg h3, if_neg h3]
-- what the taking of p at n asks for
def tkF (R : RS) (n p : Int) : Prop := ((0 ≤ R 2 p ∧ R 2 p ≤ 10) ∧ (0 ≤ R 3 p ∧ R 3 p < 8) ∧ (0 ≤ R 5 p ∧ R 5 p < 6) ∧ (0 ≤ R 8 p ∧ R 8 p ≤ 100)) ∧ bH R ∧ hI R ∧ ((R 2 p ≤ 3 ∨ R 2 p = 10) → R 3 p % 6 = n) ∧ (R 2 p = 8 → R 20 (8 * n + R 3 p) = 1 ∨ R 20 (8 * n + R 3 p) = 2 ∨ R 20 (8 * n + R 3 p) = 5) ∧ (R 2 p = 8 ∨ R 2 p = 9 → R 34 n < R 33 n ∧ R 29 (40 * n + R 34 n) = R 3 p) ∧ bC R ∧ bO R ∧ bN R ∧ 0 ≤ R 0 2
theorem tkF_of (I : iR R) (t : iT R) (hn : 0 ≤ n ∧ n < 6) (hp : 0 ≤ p ∧ p < 128) (hL : R 1 p = 1) (ht : R 4 p = n) : tkF R n p := by
  have g := I.1.2.2.2.2.2.1 p hp.1 hp.2
  refine ⟨⟨g.2.1, by omega, by omega, by omega⟩, I.1.2.2.2.2.2.2.2.1, I.1.2.2.2.1, fun hk => ?_, fun hk => (s_data I.1 hn hp hL ht hk).1, fun hk => ?_, bC_of I.1, I.1.2.2.2.2.2.2.2.2.1, I.1.2.2.2.2.2.2.2.2.2, t.1.1⟩
  · have := I.2.2.2.2.2.2.2 p hp.1 hp.2 hL hk
    omega
  · rcases hk with hk | hk
    · exact (s_data I.1 hn hp hL ht hk).2
    · exact (s_ack I.1 hn hp hL ht hk).2
theorem tkF_c (k : ∀ a, a ≠ 12 → a ≠ 13 → T a = R a) (x : tkF R n p) : tkF T n p := by
  unfold tkF bH hI bC bO bN at *
  rw [k 2 (by omega) (by omega), k 3 (by omega) (by omega), k 5 (by omega) (by omega), k 8 (by omega) (by omega), k 20 (by omega) (by omega), k 21 (by omega) (by omega), k 22 (by omega) (by omega), k 23 (by omega) (by omega), k 24 (by omega) (by omega), k 25 (by omega) (by omega), k 26 (by omega) (by omega), k 27 (by omega) (by omega), k 28 (by omega) (by omega), k 29 (by omega) (by omega), k 30 (by omega) (by omega), k 31 (by omega) (by omega), k 32 (by omega) (by omega), k 33 (by omega) (by omega), k 34 (by omega) (by omega), k 35 (by omega) (by omega), k 0 (by omega) (by omega)]
  exact x
theorem fI_t {x : Int} (e : ∀ j, T 35 j = R 35 j) (e0 : T 0 2 = R 0 2) (y : fI R F x) : fI T F x := fI_c (funext e) e0 y
theorem c_take {a : Nat} {m0 : Nat} {x : Int} (C : cP h c0 R (6 + 1 + m0)) (hp : pa h c0 a) (pk0 : pk h R p a) (hn : 0 ≤ n ∧ n < 6) (t : tkF R n p) (ht : (nTak R n p).1 = 1) (f0 : fI R F x) :
    ∃ h' F', f_No_take (some (qN c0 n 0)) (some a) (R 0 2) (vw h c0 (wF R F) Rr) = some (vw h' c0 (wF (nTak R n p).2 F') Rr) ∧ st c0 h R h' (nTak R n p).2 m0 ∧ fI (nTak R n p).2 F' x := by
  have hs := C.1.1
  obtain ⟨⟨t1, t2, t3, t4⟩, tH, tI, t5, t6, t7, tC, tO, tN, t8⟩ := t
  have pk1 := pk0
  obtain ⟨k0, k1, k2, k3, k4, k5, k6, k7⟩ := pk1
  have tn := tN n hn.1 hn.2
  have tc := tC (8 * n + R 3 p) (by omega) (by omega)
  have toc := tO (40 * n + R 34 n)
  have home : (R 2 p ≤ 3 ∨ R 2 p = 10) → f_No_take (some (qN c0 n 0)) (some a) (R 0 2) (vw h c0 (wF R F) Rr) = bV (f_Ho_take (some (qH c0 (R 3 p))) (some a) (vw h c0 (wF R F) Rr)) (fun g11 => some g11) := by
    intro hk
    have h1 : (if R 2 p ≤ 3 ∨ R 2 p = 10 then (1 : Int) else 0) = 1 := if_pos hk
    simp (disch := omega) only [f_No_take, ↓zgNo3 hs, ↓zgNo4 hs, ↓zgNo2 hs, ↓zqHo hs, ↓zvCa hs, ↓zvCo hs, ↓zvHo hs, ↓eEq_i, ↓eLt_i, ↓eDiv_i, ↓eRem_i, ↓bI_some, ↓bR_some, ↓bV_some, ↓nN_some, ↓eNu_n, ↓eNu_s, ↓eBo_1, ↓eBo_0, ↓jn_eq, u3s, u3n, u3i, ↓reduceIte, Int.reduceLT, Int.reduceLE, Int.reduceEq, Int.reduceNeg, Int.reduceAdd, Int.reduceSub, Int.reduceMul, Int.reduceMod, Int.reduceDiv, not_true_eq_false, not_false_eq_true, and_self, and_true, true_and, and_false, false_and, or_true, or_false, false_or, true_or, ↓t_qv hp, ↓t_isH hp k0, ↓t_q1 hp k1, h1]
  unfold nTak at ht ⊢
  by_cases c0' : R 2 p = 0
  · rw [if_pos c0'] at ht ⊢
    have e := t5 (by omega)
    rw [← e] at ht ⊢
    have hd : R 24 (R 3 p) ≠ 3 := by
      intro y
      unfold nGets at ht
      rw [if_pos y] at ht
      exact absurd ht (by simp)
    obtain ⟨h', E, s⟩ := c_gets (F := F) (Rr := Rr) (m := 0) (l := R 3 p) (x := R 5 p) (m0 := m0) (cP_l (by omega) C) t2 t3 tH tI hd
    refine ⟨h', F, ?_, s, fI_t (fun j => ?_) ?_ f0⟩
    · rw [e, home (by omega)]
      simp (disch := omega) only [f_Ho_take, ↓ziHo3 hs, ↓zpHo3 hs, ↓ziHo6 hs, ↓zpHo6 hs, ↓zvHo hs, ↓eEq_i, ↓eLt_i, ↓eDiv_i, ↓eRem_i, ↓bI_some, ↓bR_some, ↓bV_some, ↓nN_some, ↓eNu_n, ↓eNu_s, ↓eBo_1, ↓eBo_0, ↓jn_eq, u3s, u3n, u3i, ↓reduceIte, Int.reduceLT, Int.reduceLE, Int.reduceEq, Int.reduceNeg, Int.reduceAdd, Int.reduceSub, Int.reduceMul, Int.reduceMod, Int.reduceDiv, not_true_eq_false, not_false_eq_true, and_self, and_true, true_and, and_false, false_and, or_true, or_false, false_or, true_or, ↓t_q0 hp k0, ↓t_q3 hp (k3 (by omega)), c0', E]
      rw [e]
    · unfold nGets
      rw [if_neg hd]
      split <;> simp (disch := omega) only [u3n, nSend_n]
    · unfold nGets
      rw [if_neg hd]
      split <;> simp (disch := omega) only [u3n, nSend_01]
  rw [if_neg c0'] at ht ⊢
  by_cases c1' : R 2 p = 1
  · rw [if_pos c1'] at ht ⊢
    have e := t5 (by omega)
    rw [← e] at ht ⊢
    have hd : R 24 (R 3 p) ≠ 3 := by
      intro y
      unfold nGetm at ht
      rw [if_pos y] at ht
      exact absurd ht (by simp)
    obtain ⟨h', E, s⟩ := c_getm (F := F) (Rr := Rr) (l := R 3 p) (x := R 5 p) (m0 := m0) C t2 t3 tH tI hd
    refine ⟨h', F, ?_, s, fI_t (fun j => ?_) ?_ f0⟩
    · rw [e, home (by omega)]
      simp (disch := omega) only [f_Ho_take, ↓ziHo3 hs, ↓zpHo3 hs, ↓ziHo6 hs, ↓zpHo6 hs, ↓zvHo hs, ↓eEq_i, ↓eLt_i, ↓eDiv_i, ↓eRem_i, ↓bI_some, ↓bR_some, ↓bV_some, ↓nN_some, ↓eNu_n, ↓eNu_s, ↓eBo_1, ↓eBo_0, ↓jn_eq, u3s, u3n, u3i, ↓reduceIte, Int.reduceLT, Int.reduceLE, Int.reduceEq, Int.reduceNeg, Int.reduceAdd, Int.reduceSub, Int.reduceMul, Int.reduceMod, Int.reduceDiv, not_true_eq_false, not_false_eq_true, and_self, and_true, true_and, and_false, false_and, or_true, or_false, false_or, true_or, ↓t_q0 hp k0, ↓t_q3 hp (k3 (by omega)), c1', E]
      rw [e]
    · unfold nGetm
      rw [if_neg hd]
      split <;> simp (disch := omega) only [u3n, nSend_n, nIv_n]
    · unfold nGetm
      rw [if_neg hd]
      split
      · simp (disch := omega) only [u3n, nSend_01]
      · simp (disch := omega) only [u3n, nIv_0n, nSend_01]
  rw [if_neg c1'] at ht ⊢
  by_cases c2' : R 2 p = 2
  · rw [if_pos c2'] at ht ⊢
    have e := t5 (by omega)
    rw [← e]
    obtain ⟨h', E, s⟩ := c_puts (F := F) (Rr := Rr) (l := R 3 p) (x := R 5 p) (m0 := m0) (cP_l (by omega) C) t2 t3 tH
    refine ⟨h', F, ?_, s, fI_t (fun j => ?_) ?_ f0⟩
    · rw [e, home (by omega)]
      simp (disch := omega) only [f_Ho_take, ↓ziHo3 hs, ↓zpHo3 hs, ↓ziHo6 hs, ↓zpHo6 hs, ↓zvHo hs, ↓eEq_i, ↓eLt_i, ↓eDiv_i, ↓eRem_i, ↓bI_some, ↓bR_some, ↓bV_some, ↓nN_some, ↓eNu_n, ↓eNu_s, ↓eBo_1, ↓eBo_0, ↓jn_eq, u3s, u3n, u3i, ↓reduceIte, Int.reduceLT, Int.reduceLE, Int.reduceEq, Int.reduceNeg, Int.reduceAdd, Int.reduceSub, Int.reduceMul, Int.reduceMod, Int.reduceDiv, not_true_eq_false, not_false_eq_true, and_self, and_true, true_and, and_false, false_and, or_true, or_false, false_or, true_or, ↓t_q0 hp k0, ↓t_q3 hp (k3 (by omega)), c2', E]
      rw [e]
    · dsimp only
      rw [nSend_n (by omega)]
      unfold nGone
      split <;> simp (disch := omega) only [u3n]
    · dsimp only
      rw [nSend_01 (by omega), nGone_0]
  rw [if_neg c2'] at ht ⊢
  by_cases c3' : R 2 p = 3
  · rw [if_pos c3'] at ht ⊢
    have e := t5 (by omega)
    rw [← e]
    obtain ⟨h', E, s⟩ := c_putm (F := F) (Rr := Rr) (l := R 3 p) (x := R 5 p) (v := R 7 p) (m0 := m0) (cP_l (by omega) C) t2 t3 tH
    refine ⟨h', F, ?_, s, fI_t (fun j => ?_) ?_ f0⟩
    · rw [e, home (by omega)]
      simp (disch := omega) only [f_Ho_take, ↓ziHo3 hs, ↓zpHo3 hs, ↓ziHo6 hs, ↓zpHo6 hs, ↓zvHo hs, ↓eEq_i, ↓eLt_i, ↓eDiv_i, ↓eRem_i, ↓bI_some, ↓bR_some, ↓bV_some, ↓nN_some, ↓eNu_n, ↓eNu_s, ↓eBo_1, ↓eBo_0, ↓jn_eq, u3s, u3n, u3i, ↓reduceIte, Int.reduceLT, Int.reduceLE, Int.reduceEq, Int.reduceNeg, Int.reduceAdd, Int.reduceSub, Int.reduceMul, Int.reduceMod, Int.reduceDiv, not_true_eq_false, not_false_eq_true, and_self, and_true, true_and, and_false, false_and, or_true, or_false, false_or, true_or, ↓t_q0 hp k0, ↓t_q3 hp (k3 (by omega)), ↓t_q4 hp (k5 (by omega)), c3', E]
      rw [e]
    · dsimp only
      rw [nSend_n (by omega)]
      unfold nPutm nGone
      split
      · simp (disch := omega) only [u3n]
      · split <;> simp (disch := omega) only [u3n]
    · dsimp only
      rw [nSend_01 (by omega)]
      unfold nPutm
      split
      · simp (disch := omega) only [u3n]
      · exact nGone_0
  rw [if_neg c3'] at ht ⊢
  by_cases c4' : R 2 p = 4
  · rw [if_pos c4'] at ht ⊢
    obtain ⟨h', E, s⟩ := c_fwds (F := F) (Rr := Rr) (m0 := m0) (cP_l (by omega) C) hp pk0 hn c4' t2 ht
    refine ⟨h', F, E, s, fI_t (fun j => ?_) ?_ f0⟩
    · unfold nFwdS
      split
      · simp (disch := omega) only [u3n, nSend_n]
      split <;> simp (disch := omega) only [u3n, nSend_n]
    · unfold nFwdS
      split
      · simp (disch := omega) only [u3n, nSend_01]
      split <;> simp (disch := omega) only [u3n, nSend_01]
  rw [if_neg c4'] at ht ⊢
  by_cases c5' : R 2 p = 5
  · rw [if_pos c5'] at ht ⊢
    obtain ⟨h', E, s⟩ := c_fwdm (F := F) (Rr := Rr) (m0 := m0) (cP_l (by omega) C) hp pk0 hn c5' t2 ht
    refine ⟨h', F, E, s, fI_t (fun j => ?_) ?_ f0⟩
    · unfold nFwdM
      split
      · simp (disch := omega) only [u3n, nSend_n]
      split <;> simp (disch := omega) only [u3n, nSend_n]
    · unfold nFwdM
      split
      · simp (disch := omega) only [u3n, nSend_01]
      split <;> simp (disch := omega) only [u3n, nSend_01]
  rw [if_neg c5'] at ht ⊢
  by_cases c6' : R 2 p = 6
  · rw [if_pos c6'] at ht ⊢
    obtain ⟨h', E, s⟩ := c_inv (F := F) (Rr := Rr) (m0 := m0) (cP_l (by omega) C) hp pk0 hn c6' t2 ht
    refine ⟨h', F, E, s, fI_t (fun j => ?_) ?_ f0⟩
    · unfold nIvl
      split
      · simp (disch := omega) only [u3n, nSend_n]
      split
      · simp (disch := omega) only [u3n, nSend_n]
      split <;> simp (disch := omega) only [u3n, nSend_n]
    · unfold nIvl
      split
      · simp (disch := omega) only [u3n, nSend_01]
      split
      · simp (disch := omega) only [u3n, nSend_01]
      split <;> simp (disch := omega) only [u3n, nSend_01]
  rw [if_neg c6'] at ht ⊢
  by_cases c7' : R 2 p = 7
  · rw [if_pos c7'] at ht ⊢
    obtain ⟨E, s⟩ := c_done (F := F) (Rr := Rr) (m0 := m0) (cP_l (by omega) C) hp pk0 hn c7' t2
    exact ⟨h, F, E, st_u (by omega) (st_u (by omega) (st_r (cP_l (by omega) C))), fI_t (fun j => by dsimp only; rw [u3n (by omega), u3n (by omega)]) (by dsimp only; rw [u3n (by omega), u3n (by omega)]) f0⟩
  rw [if_neg c7'] at ht ⊢
  by_cases c8' : R 2 p = 8
  · rw [if_pos c8'] at ht ⊢
    have t9 := t7 (Or.inl c8')
    have to2 := toc (by omega) (by omega)
    obtain ⟨F', E, s, f1⟩ := c_data (F := F) (Rr := Rr) (m0 := m0) (cP_l (by omega) C) hp pk0 hn c8' t2 (by omega) (by omega) t9.2 (t6 c8') (by omega) t4 x f0 t8
    refine ⟨h, F', E, ⟨s, ext_r, ?_⟩, f1⟩
    refine dC_c ?_ ?_ ?_ dC_r
    · unfold nDat nBec nFin
      dsimp only
      split
      · simp (disch := omega) only [u3n]
      split <;> simp (disch := omega) only [u3n]
    · unfold nDat nBec nFin
      dsimp only
      split
      · simp (disch := omega) only [u3f]
      split <;> simp (disch := omega) only [u3f]
    · unfold nDat nBec nFin
      dsimp only
      split
      · simp (disch := omega) only [u3f]
      split <;> simp (disch := omega) only [u3f]
  rw [if_neg c8'] at ht ⊢
  by_cases c9' : R 2 p = 9
  · rw [if_pos c9'] at ht ⊢
    have t9 := t7 (Or.inr c9')
    have to2 := toc (by omega) (by omega)
    obtain ⟨F', E, s, f1⟩ := c_ack (F := F) (Rr := Rr) (m0 := m0) (cP_l (by omega) C) hp pk0 hn c9' t2 (by omega) (by omega) t9.2 tc.1 (by omega) x f0 t8
    refine ⟨h, F', E, ⟨s, ext_r, ?_⟩, f1⟩
    refine dC_c ?_ ?_ ?_ dC_r
    · unfold nAck nBec nFin
      dsimp only
      split <;> simp (disch := omega) only [u3n]
    · unfold nAck nBec nFin
      dsimp only
      split <;> simp (disch := omega) only [u3f]
    · unfold nAck nBec nFin
      dsimp only
      split <;> simp (disch := omega) only [u3f]
  rw [if_neg c9'] at ht ⊢
  have c10 : R 2 p = 10 := by omega
  have gh := tH (R 3 p) (by omega) (by omega)
  have hq4 := k5 (by omega)
  by_cases h3 : R 24 (R 3 p) = 3
  · rw [if_pos h3]
    refine ⟨h, F, ?_, st_u (by omega) (st_u (by omega) (st_r (cP_l (by omega) C))), fI_t (fun j => by dsimp only; rw [u3n (by omega), u3n (by omega)]) (by dsimp only; rw [u3n (by omega), u3n (by omega)]) f0⟩
    rw [home (by omega)]
    simp (disch := omega) only [f_Ho_take, ↓ziHo3 hs, ↓zpHo3 hs, ↓ziHo6 hs, ↓zpHo6 hs, ↓zvHo hs, ↓eEq_i, ↓eLt_i, ↓eDiv_i, ↓eRem_i, ↓bI_some, ↓bR_some, ↓bV_some, ↓nN_some, ↓eNu_n, ↓eNu_s, ↓eBo_1, ↓eBo_0, ↓jn_eq, u3s, u3n, u3i, ↓reduceIte, Int.reduceLT, Int.reduceLE, Int.reduceEq, Int.reduceNeg, Int.reduceAdd, Int.reduceSub, Int.reduceMul, Int.reduceMod, Int.reduceDiv, not_true_eq_false, not_false_eq_true, and_self, and_true, true_and, and_false, false_and, or_true, or_false, false_or, true_or, ↓t_q0 hp k0, ↓t_q4 hp hq4, c10, h3]
  · rw [if_neg h3]
    refine ⟨h, F, ?_, st_u (by omega) (st_r (cP_l (by omega) C)), fI_t (fun j => by dsimp only; rw [u3n (by omega)]) (by dsimp only; rw [u3n (by omega)]) f0⟩
    rw [home (by omega)]
    have e3 : up3 (up3 R 25 (R 3 p) (R 7 p)) 24 (R 3 p) (R 24 (R 3 p)) = up3 R 25 (R 3 p) (R 7 p) := by
      have := up3_self (R := up3 R 25 (R 3 p) (R 7 p)) (k := 24) (i := R 3 p)
      rwa [u3n (by omega)] at this
    simp (disch := omega) only [f_Ho_take, ↓ziHo3 hs, ↓zpHo3 hs, ↓ziHo6 hs, ↓zpHo6 hs, ↓zvHo hs, ↓eEq_i, ↓eLt_i, ↓eDiv_i, ↓eRem_i, ↓bI_some, ↓bR_some, ↓bV_some, ↓nN_some, ↓eNu_n, ↓eNu_s, ↓eBo_1, ↓eBo_0, ↓jn_eq, u3s, u3n, u3i, ↓reduceIte, Int.reduceLT, Int.reduceLE, Int.reduceEq, Int.reduceNeg, Int.reduceAdd, Int.reduceSub, Int.reduceMul, Int.reduceMod, Int.reduceDiv, not_true_eq_false, not_false_eq_true, and_self, and_true, true_and, and_false, false_and, or_true, or_false, false_or, true_or, ↓t_q0 hp k0, ↓t_q4 hp hq4, c10, h3, e3]
end Cls9
