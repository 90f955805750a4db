/-! The takes keep the protocol's invariant: at the caches -/
section Inv6
variable {R R0 R1 T X : RS} {n l p : Int}
theorem v_cache {st nd d s : Int} (V : iV R) (hn : 0 ≤ n ∧ n < 6) (hl : 0 ≤ l ∧ l < 8) (t : pT R T n l st nd d s) (k : ∀ a, 24 ≤ a → a ≤ 27 → T a = R a) (bp : bP T) (pi : pIv T) (ph : ∀ l', cnt (wH l') T = cnt (wH l') R)
    (h1 : (1 ≤ st ∧ st ≤ 6 ∧ st ≠ 4) → d = 0 ∧ R 34 n < R 33 n ∧ R 29 (40 * n + R 34 n) = l) (h2 : d ≠ 0 → R 29 (40 * n + R 34 n) = l) (hd : 0 ≤ d)
    (z : s + (cnt wZ T : Int) + (pF st : Int) ≤ (cnt wZ R : Int) + (pF (R 20 (8 * n + l)) : Int) + 14 * d) (bd : bD T) (bo : bO T) (bn : bN T) : iV T := by
  obtain ⟨v1, v2, v3, v4, v5, v6, v7, v8, v9, v10⟩ := V
  refine ⟨pi, ?_, cI_tr v3 t hl hn h1 h2, ?_, rI_tr v5 t hl hn (v10 n hn.1 hn.2).1.1 hd z, bp, bd, ?_, bo, bn⟩
  · unfold pH at *
    rw [k 24 (by omega) (by omega)]
    intro l' b0 b1
    rw [ph]
    exact v2 l' b0 b1
  · unfold hI at *
    rw [k 24 (by omega) (by omega), k 26 (by omega) (by omega), k 27 (by omega) (by omega)]
    exact v4
  · unfold bH at *
    rw [k 24 (by omega) (by omega), k 25 (by omega) (by omega), k 26 (by omega) (by omega), k 27 (by omega) (by omega)]
    exact v8
theorem bO_c (h : ∀ a, 28 ≤ a → a ≤ 32 → T a = R a) (g : bO R) : bO T := by
  unfold bO at *
  rw [h 28 (by omega) (by omega), h 29 (by omega) (by omega), h 30 (by omega) (by omega), h 31 (by omega) (by omega), h 32 (by omega) (by omega)]
  exact g
theorem bN_c (h : ∀ a, 33 ≤ a → a ≤ 35 → T a = R a) (g : bN R) : bN T := by
  unfold bN at *
  rw [h 33 (by omega) (by omega), h 34 (by omega) (by omega), h 35 (by omega) (by omega)]
  exact g
-- a state and perhaps a value of one line changed, nothing finished
theorem v_st {st s : Int} (V : iV R) (hn : 0 ≤ n ∧ n < 6) (hl : 0 ≤ l ∧ l < 8) (e20 : ∀ j, T 20 j = if j = 8 * n + l then st else R 20 j) (e21 : ∀ j, T 21 j = R 21 j ∨ T 21 j = 0) (k : ∀ a, 22 ≤ a → T a = R a) (e0 : T 0 38 = R 0 38 + s) (bp : bP T)
    (pi : pT R T n l st (R 22 (8 * n + l)) 0 s → pIv T) (ph : ∀ l', cnt (wH l') T = cnt (wH l') R) (hst : 0 ≤ st ∧ st ≤ 10)
    (h1 : (1 ≤ st ∧ st ≤ 6 ∧ st ≠ 4) → R 34 n < R 33 n ∧ R 29 (40 * n + R 34 n) = l)
    (z : s + (cnt wZ T : Int) + (pF st : Int) ≤ (cnt wZ R : Int) + (pF (R 20 (8 * n + l)) : Int)) : iV T := by
  have t : pT R T n l st (R 22 (8 * n + l)) 0 s := by
    refine ⟨e20, fun j => ?_, fun j => ?_, k 33 (by omega), fun j => by rw [k 29 (by omega)], e0⟩
    · rw [k 22 (by omega)]
      split
      · rename_i h; rw [h]
      · rfl
    · rw [k 34 (by omega)]
      split
      · rename_i h; rw [h]; omega
      · rfl
  refine v_cache V hn hl t (fun a h1 h2 => k a (by omega)) bp (pi t) ph (fun g => ⟨rfl, h1 g⟩) (fun g => absurd rfl g) (by omega) (by omega) ?_ (bO_c (fun a h1 h2 => k a (by omega)) V.2.2.2.2.2.2.2.2.1) (bN_c (fun a h1 h2 => k a (by omega)) V.2.2.2.2.2.2.2.2.2)
  intro q b0 b1
  have x1 := V.2.2.2.2.2.2.1 q b0 b1
  have x2 := e21 q
  rw [e20, k 23 (by omega)]
  grind
theorem v_fwdS (V : iV R) (S : sOK R (6 + 1)) (hn : 0 ≤ n ∧ n < 6) (hp : 0 ≤ p ∧ p < 128) (hL : R 1 p = 1) (ht : R 4 p = n) (hk : R 2 p = 4) (h1 : (nFwdS R n p).1 = 1) (k : kl (nFwdS R n p).2 p T) : iV T := by
  have V0 := V
  obtain ⟨v1, v2, v3, v4, v5, v6, v7, v8, v9, v10⟩ := V
  obtain ⟨g1, g2, g3, g4, g5, g6, g7, g8⟩ := v6 p hp.1 hp.2
  have i7 := v7 (8 * n + R 3 p) (by omega) (by omega)
  have hk1 : kep R (nSend R n 8 (R 3 p) (R 6 p) 0 (R 21 (8 * n + R 3 p)) 0) p := kep_send S hL
  have S1 : sOK (nSend R n 8 (R 3 p) (R 6 p) 0 (R 21 (8 * n + R 3 p)) 0) (5 + 1) := sOK_send S
  have b1 : bP (nSend R n 8 (R 3 p) (R 6 p) 0 (R 21 (8 * n + R 3 p)) 0) := bP_send S v6 hn (by omega) (by omega) (by omega) (by omega) (by omega) (by omega)
  have key : ∀ st, ((R 20 (8 * n + R 3 p) = 7 ∧ st = 4) ∨ (R 20 (8 * n + R 3 p) = 8 ∧ st = 9)) → kl (up3 (nSend (nSend R n 8 (R 3 p) (R 6 p) 0 (R 21 (8 * n + R 3 p)) 0) n 10 (R 3 p) (R 3 p % 6) 0 (R 21 (8 * n + R 3 p)) 0) 20 (8 * n + R 3 p) st) p T → iV T := by
    intro st hst k
    have hC : ∀ f : PW, cnt f T + f 4 (R 3 p) n (R 5 p) (R 6 p) (R 8 p) = cnt f R + f 8 (R 3 p) (R 6 p) n 0 0 + f 10 (R 3 p) (R 3 p % 6) n 0 0 := by
      intro f
      have := kl_cnt k hp hL (kep_u (kep_t hk1 (kep_send S1 ((hk1 1 (by omega) (by omega)).trans hL))) (by omega)) f
      rw [hk, ht] at this
      rw [this]
      simp (disch := omega) only [cnt_u, cnt_send S1, cnt_send S]
    have bp : bP T := bP_kl (bP_u (bP_send S1 b1 hn (by omega) (by omega) (by omega) (by omega) (by omega) (by omega)) (by omega)) k
    obtain ⟨k1, k2, k3, k4⟩ := k
    have e0 : T 0 38 = R 0 38 + 2 := by
      rw [k4]
      simp (disch := omega) only [u3n, nSend_0, if_true]
      omega
    have e20 : ∀ j, T 20 j = if j = 8 * n + R 3 p then st else R 20 j := by
      intro j
      rw [k3 20 (by omega), up3_eq]
      simp (disch := omega) only [u3n, nSend_n, true_and]
    have ke : ∀ a, 21 ≤ a → T a = R a := by
      intro a h1
      rw [k3 a (by omega)]
      funext j
      simp (disch := omega) only [u3n, nSend_n]
    refine v_st V0 hn (l := R 3 p) (by omega) e20 (fun j => Or.inl (by rw [ke 21 (by omega)])) (fun a h => ke a (by omega)) e0 bp (fun t => a_fwdS hst v1 t (by omega) hn hC) (fun l' => ?_) (by omega) (fun g => by omega) ?_
    · have x2 := hC (wH l')
      simp [wH] at x2
      omega
    · have x2 := hC wZ
      simp [wZ] at x2
      unfold pF
      rcases hst with ⟨q1, q2⟩ | ⟨q1, q2⟩ <;> subst q2 <;> rw [q1] <;> simp <;> omega
  unfold nFwdS at h1 k
  by_cases c1 : R 20 (8 * n + R 3 p) = 7
  · rw [if_pos c1] at k
    exact key 4 (by omega) k
  by_cases c2 : R 20 (8 * n + R 3 p) = 8
  · rw [if_neg c1, if_pos c2] at k
    exact key 9 (by omega) k
  rw [if_neg c1, if_neg c2] at h1
  dsimp only at h1
  omega
theorem v_fwdM (V : iV R) (S : sOK R (6 + 1)) (hn : 0 ≤ n ∧ n < 6) (hp : 0 ≤ p ∧ p < 128) (hL : R 1 p = 1) (ht : R 4 p = n) (hk : R 2 p = 5) (h1 : (nFwdM R n p).1 = 1) (k : kl (nFwdM R n p).2 p T) : iV T := by
  have V0 := V
  obtain ⟨v1, v2, v3, v4, v5, v6, v7, v8, v9, v10⟩ := V
  obtain ⟨g1, g2, g3, g4, g5, g6, g7, g8⟩ := v6 p hp.1 hp.2
  have i7 := v7 (8 * n + R 3 p) (by omega) (by omega)
  have hk1 : kep R (nSend R n 8 (R 3 p) (R 6 p) 0 (R 21 (8 * n + R 3 p)) 0) p := kep_send S hL
  have b1 : bP (nSend R n 8 (R 3 p) (R 6 p) 0 (R 21 (8 * n + R 3 p)) 0) := bP_send S v6 hn (by omega) (by omega) (by omega) (by omega) (by omega) (by omega)
  have key : ∀ st, ∀ X, ((R 20 (8 * n + R 3 p) = 7 ∧ st = 0) ∨ (R 20 (8 * n + R 3 p) = 8 ∧ st = 10)) → (X = up3 (nSend R n 8 (R 3 p) (R 6 p) 0 (R 21 (8 * n + R 3 p)) 0) 20 (8 * n + R 3 p) st ∨ X = up3 (up3 (nSend R n 8 (R 3 p) (R 6 p) 0 (R 21 (8 * n + R 3 p)) 0) 20 (8 * n + R 3 p) st) 21 (8 * n + R 3 p) 0) → kl X p T → iV T := by
    intro st X hst hX k
    have hkX : kep R X p := by
      rcases hX with h | h
      · rw [h]; exact kep_u hk1 (by omega)
      · rw [h]; exact kep_u (kep_u hk1 (by omega)) (by omega)
    have bX : bP X := by
      rcases hX with h | h
      · rw [h]; exact bP_u b1 (by omega)
      · rw [h]; exact bP_u (bP_u b1 (by omega)) (by omega)
    have hC : ∀ f : PW, cnt f T + f 5 (R 3 p) n (R 5 p) (R 6 p) (R 8 p) = cnt f R + f 8 (R 3 p) (R 6 p) n 0 0 := by
      intro f
      have := kl_cnt k hp hL hkX f
      rw [hk, ht] at this
      rw [this]
      rcases hX with h | h <;> rw [h] <;> simp (disch := omega) only [cnt_u, cnt_send S]
    have bp : bP T := bP_kl bX k
    obtain ⟨k1, k2, k3, k4⟩ := k
    have e0 : T 0 38 = R 0 38 + 1 := by
      rw [k4]
      rcases hX with h | h <;> rw [h] <;> simp (disch := omega) only [u3n, nSend_0, if_true]
    have e20 : ∀ j, T 20 j = if j = 8 * n + R 3 p then st else R 20 j := by
      intro j
      rw [k3 20 (by omega)]
      rcases hX with h | h
      · rw [h, up3_eq]
        simp (disch := omega) only [u3n, nSend_n, true_and]
      · rw [h, u3n (by omega), up3_eq]
        simp (disch := omega) only [u3n, nSend_n, true_and]
    have e21 : ∀ j, T 21 j = R 21 j ∨ T 21 j = 0 := by
      intro j
      rw [k3 21 (by omega)]
      rcases hX with h | h
      · rw [h]
        simp (disch := omega) only [u3n, nSend_n, true_or]
      · rw [h, up3_eq]
        split
        · exact Or.inr rfl
        · simp (disch := omega) only [u3n, nSend_n, true_or]
    have ke : ∀ a, 22 ≤ a → T a = R a := by
      intro a h1
      rw [k3 a (by omega)]
      funext j
      rcases hX with h | h <;> rw [h] <;> simp (disch := omega) only [u3n, nSend_n]
    refine v_st V0 hn (l := R 3 p) (by omega) e20 e21 ke e0 bp (fun t => a_fwdM hst v1 t (by omega) hn hC) (fun l' => ?_) (by omega) (fun g => by omega) ?_
    · have x2 := hC (wH l')
      simp [wH] at x2
      omega
    · have x2 := hC wZ
      simp [wZ] at x2
      unfold pF
      rcases hst with ⟨q1, q2⟩ | ⟨q1, q2⟩ <;> subst q2 <;> rw [q1] <;> simp <;> omega
  unfold nFwdM at h1 k
  by_cases c1 : R 20 (8 * n + R 3 p) = 7
  · rw [if_pos c1] at k
    exact key 0 _ (by omega) (Or.inr rfl) k
  by_cases c2 : R 20 (8 * n + R 3 p) = 8
  · rw [if_neg c1, if_pos c2] at k
    exact key 10 _ (by omega) (Or.inl rfl) k
  rw [if_neg c1, if_neg c2] at h1
  dsimp only at h1
  omega
theorem v_inv (V : iV R) (S : sOK R (6 + 1)) (hn : 0 ≤ n ∧ n < 6) (hp : 0 ≤ p ∧ p < 128) (hL : R 1 p = 1) (ht : R 4 p = n) (hk : R 2 p = 6) (h1 : (nIvl R n p).1 = 1) (k : kl (nIvl R n p).2 p T) : iV T := by
  have V0 := V
  obtain ⟨v1, v2, v3, v4, v5, v6, v7, v8, v9, v10⟩ := V
  obtain ⟨g1, g2, g3, g4, g5, g6, g7, g8⟩ := v6 p hp.1 hp.2
  have i7 := v7 (8 * n + R 3 p) (by omega) (by omega)
  have i3 := v3 n (R 3 p) hn.1 hn.2 (by omega) (by omega)
  have key : ∀ st, ∀ X, ((R 20 (8 * n + R 3 p) = 4 ∧ st = 0) ∨ (R 20 (8 * n + R 3 p) = 5 ∧ st = 2) ∨ (R 20 (8 * n + R 3 p) = 9 ∧ st = 10)) → (X = up3 R 20 (8 * n + R 3 p) st ∨ X = up3 (up3 R 20 (8 * n + R 3 p) st) 21 (8 * n + R 3 p) 0) → kl (nSend X n 9 (R 3 p) (R 6 p) 0 0 0) p T → iV T := by
    intro st X hst hX k
    have hkX : kep R X p := by
      rcases hX with h | h
      · rw [h]; exact kep_u kep_r (by omega)
      · rw [h]; exact kep_u (kep_u kep_r (by omega)) (by omega)
    have bX : bP X := by
      rcases hX with h | h
      · rw [h]; exact bP_u v6 (by omega)
      · rw [h]; exact bP_u (bP_u v6 (by omega)) (by omega)
    have SX : sOK X (6 + 1) := by
      rcases hX with h | h
      · rw [h]; exact sOK_u S (by omega)
      · rw [h]; exact sOK_u (sOK_u S (by omega)) (by omega)
    have hC : ∀ f : PW, cnt f T + f 6 (R 3 p) n (R 5 p) (R 6 p) (R 8 p) = cnt f R + f 9 (R 3 p) (R 6 p) n 0 0 := by
      intro f
      have := kl_cnt k hp hL (kep_t hkX (kep_send SX ((hkX 1 (by omega) (by omega)).trans hL))) f
      rw [hk, ht] at this
      rw [this, cnt_send SX]
      rcases hX with h | h <;> rw [h] <;> simp (disch := omega) only [cnt_u]
    have bp : bP T := bP_kl (bP_send SX bX hn (by omega) (by omega) (by omega) (by omega) (by omega) (by omega)) k
    obtain ⟨k1, k2, k3, k4⟩ := k
    have e0 : T 0 38 = R 0 38 + 1 := by
      rw [k4, nSend_0, if_pos rfl]
      rcases hX with h | h <;> rw [h] <;> simp (disch := omega) only [u3n]
    have e20 : ∀ j, T 20 j = if j = 8 * n + R 3 p then st else R 20 j := by
      intro j
      rw [k3 20 (by omega), nSend_n (by omega)]
      rcases hX with h | h
      · rw [h, up3_eq]
        simp only [true_and]
      · rw [h, u3n (by omega), up3_eq]
        simp only [true_and]
    have e21 : ∀ j, T 21 j = R 21 j ∨ T 21 j = 0 := by
      intro j
      rw [k3 21 (by omega), nSend_n (by omega)]
      rcases hX with h | h
      · rw [h]
        simp (disch := omega) only [u3n, true_or]
      · rw [h, up3_eq]
        split
        · exact Or.inr rfl
        · simp (disch := omega) only [u3n, true_or]
    have ke : ∀ a, 22 ≤ a → T a = R a := by
      intro a h1
      rw [k3 a (by omega)]
      funext j
      rw [nSend_n (by omega)]
      rcases hX with h | h <;> rw [h] <;> simp (disch := omega) only [u3n]
    refine v_st V0 hn (l := R 3 p) (by omega) e20 e21 ke e0 bp (fun t => a_inv hst v1 t (by omega) hn hC) (fun l' => ?_) (by omega) (fun g => i3 (by omega)) ?_
    · have x2 := hC (wH l')
      simp [wH] at x2
      omega
    · have x2 := hC wZ
      simp [wZ] at x2
      unfold pF
      rcases hst with ⟨q1, q2⟩ | ⟨q1, q2⟩ | ⟨q1, q2⟩ <;> subst q2 <;> rw [q1] <;> simp <;> omega
  unfold nIvl at h1 k
  by_cases c1 : R 20 (8 * n + R 3 p) = 4
  · rw [if_pos c1] at k
    exact key 0 _ (by omega) (Or.inr rfl) k
  by_cases c2 : R 20 (8 * n + R 3 p) = 5
  · rw [if_neg c1, if_pos c2] at k
    exact key 2 _ (by omega) (Or.inl rfl) k
  by_cases c3 : R 20 (8 * n + R 3 p) = 9
  · rw [if_neg c1, if_neg c2, if_pos c3] at k
    exact key 10 _ (by omega) (Or.inl rfl) k
  rw [if_neg c1, if_neg c2, if_neg c3] at h1
  dsimp only at h1
  omega
theorem v_done (V : iV R) (hn : 0 ≤ n ∧ n < 6) (hp : 0 ≤ p ∧ p < 128) (hL : R 1 p = 1) (ht : R 4 p = n) (hk : R 2 p = 7) (k : kl (up3 (up3 R 20 (8 * n + R 3 p) 0) 21 (8 * n + R 3 p) 0) p T) : iV T := by
  have V0 := V
  obtain ⟨v1, v2, v3, v4, v5, v6, v7, v8, v9, v10⟩ := V
  obtain ⟨g1, g2, g3, g4, g5, g6, g7, g8⟩ := v6 p hp.1 hp.2
  have q0 := v1 n (R 3 p) hn.1 hn.2 (by omega) (by omega)
  have q2 := cnt_pos (f := wP n (R 3 p)) hp.1 hp.2 hL
  have q3 : wP n (R 3 p) (R 2 p) (R 3 p) (R 4 p) (R 5 p) (R 6 p) (R 8 p) = 1 := by unfold wP; simp [hk, ht]
  have c3 : 8 ≤ R 20 (8 * n + R 3 p) := by
    unfold pN pA at q0
    omega
  have hC : ∀ f : PW, cnt f T + f 7 (R 3 p) n (R 5 p) (R 6 p) (R 8 p) = cnt f R := by
    intro f
    have := kl_cnt k hp hL (kep_u (kep_u kep_r (by omega)) (by omega)) f
    rw [hk, ht] at this
    rw [this]
    simp (disch := omega) only [cnt_u]
  have bp : bP T := bP_kl (bP_u (bP_u v6 (by omega)) (by omega)) k
  obtain ⟨k1, k2, k3, k4⟩ := k
  have e0 : T 0 38 = R 0 38 + 0 := by
    rw [k4]
    simp (disch := omega) only [u3n, Int.add_zero]
  have e20 : ∀ j, T 20 j = if j = 8 * n + R 3 p then 0 else R 20 j := by
    intro j
    rw [k3 20 (by omega), u3n (by omega), up3_eq]
    simp only [true_and]
  have e21 : ∀ j, T 21 j = R 21 j ∨ T 21 j = 0 := by
    intro j
    rw [k3 21 (by omega), up3_eq]
    split
    · exact Or.inr rfl
    · simp (disch := omega) only [u3n, true_or]
  have ke : ∀ a, 22 ≤ a → T a = R a := by
    intro a h1
    rw [k3 a (by omega)]
    funext j
    simp (disch := omega) only [u3n]
  refine v_st V0 hn (l := R 3 p) (by omega) e20 e21 ke e0 bp (fun t => a_done v1 t (by omega) hn hC) (fun l' => ?_) (by omega) (fun g => by omega) ?_
  · have x2 := hC (wH l')
    simp [wH] at x2
    omega
  · have x2 := hC wZ
    simp [wZ] at x2
    unfold pF
    rw [if_neg (by omega), if_neg (by omega), if_neg (by omega), if_neg (by omega)]
    omega
end Inv6
