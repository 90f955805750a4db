/-! The core and new operations keep the protocol's invariant -/
section Inv8
variable {R T X : RS} {n l p : Int}
-- a core's request
theorem v_ask {kd v st : Int} (V : iV R) (S : sOK R (6 + 1)) (hn : 0 ≤ n ∧ n < 6) (hl : 0 ≤ l ∧ l < 8) (hv : -2147483648 ≤ v ∧ v < 2147483648)
    (hc : (kd = 0 ∧ R 20 (8 * n + l) = 0 ∧ st = 1) ∨ (kd = 1 ∧ R 20 (8 * n + l) = 0 ∧ st = 2) ∨ (kd = 1 ∧ R 20 (8 * n + l) = 4 ∧ st = 5) ∨ (kd = 3 ∧ R 20 (8 * n + l) = 7 ∧ st = 8) ∨ (kd = 2 ∧ R 20 (8 * n + l) = 4 ∧ st = 9))
    (hf : kd < 2 → R 34 n < R 33 n ∧ R 29 (40 * n + R 34 n) = l) : iV (up3 (nSend R n kd l (l % 6) 0 v 0) 20 (8 * n + l) st) := by
  have V0 := V
  obtain ⟨v1, v2, v3, v4, v5, v6, v7, v8, v9, v10⟩ := V
  have hC : ∀ f : PW, cnt f (up3 (nSend R n kd l (l % 6) 0 v 0) 20 (8 * n + l) st) = cnt f R + f kd l (l % 6) n 0 0 := by
    intro f
    rw [cnt_u (by omega), cnt_send S]
  have e20 : ∀ j, up3 (nSend R n kd l (l % 6) 0 v 0) 20 (8 * n + l) st 20 j = if j = 8 * n + l then st else R 20 j := by
    intro j
    rw [up3_eq, nSend_n (by omega)]
    simp only [true_and]
  have ke : ∀ a, 21 ≤ a → up3 (nSend R n kd l (l % 6) 0 v 0) 20 (8 * n + l) st a = R a := by
    intro a ha
    funext j
    rw [u3n (by omega), nSend_n (by omega)]
  refine v_st (s := 1) V0 hn hl e20 (fun j => Or.inl (by rw [ke 21 (by omega)])) (fun a h => ke a (by omega)) ?_ (bP_u (bP_send S v6 hn (by omega) hl (by omega) (by omega) hv (by omega)) (by omega)) (fun t => ?_) (fun l' => ?_) (by omega) (fun g => hf (by omega)) ?_
  · rw [u3n (by omega), nSend_0, if_pos rfl]
  · rcases hc with ⟨a1, a2, a3⟩ | ⟨a1, a2, a3⟩ | ⟨a1, a2, a3⟩ | ⟨a1, a2, a3⟩ | ⟨a1, a2, a3⟩
    · subst a1 a3
      exact a_sS a2 v1 t hl hn hC
    · subst a1
      exact a_sM (by omega) v1 t hl hn hC
    · subst a1
      exact a_sM (by omega) v1 t hl hn hC
    · exact a_sP (by omega) (by omega) v1 t hl hn hC
    · exact a_sP (by omega) (by omega) v1 t hl hn hC
  · rw [hC]
    have : wH l' kd l (l % 6) n 0 0 = 0 := by
      unfold wH
      rw [if_neg (by omega)]
    omega
  · rw [hC]
    rcases hc with ⟨a1, a2, a3⟩ | ⟨a1, a2, a3⟩ | ⟨a1, a2, a3⟩ | ⟨a1, a2, a3⟩ | ⟨a1, a2, a3⟩ <;> subst a1 <;> subst a3 <;> rw [a2] <;> simp [wZ, pF] <;> omega
theorem nEv_s : ∀ (f : Nat) (m g : Int), 0 ≤ m → m + 2 * f ≤ 9 → (0 ≤ g → g < 8 ∧ (R 20 (8 * n + g) = 4 ∨ R 20 (8 * n + g) = 7)) → 0 ≤ nEv R n f m g → nEv R n f m g < 8 ∧ (R 20 (8 * n + nEv R n f m g) = 4 ∨ R 20 (8 * n + nEv R n f m g) = 7) := by
  intro f
  induction f with
  | zero =>
    intro m g _ _ h1 h2
    unfold nEv at *
    exact h1 h2
  | succ f ih =>
    intro m g m0 m1 h1 h2
    unfold nEv at h2 ⊢
    by_cases h8 : 8 ≤ R 20 (8 * n + m)
    · rw [if_pos h8] at h2
      omega
    · rw [if_neg h8] at h2 ⊢
      by_cases hb : (R 20 (8 * n + m) = 4 ∨ R 20 (8 * n + m) = 7) ∧ (g < 0 ∨ R 23 (8 * n + m) < R 23 (8 * n + g))
      · rw [if_pos hb] at h2 ⊢
        exact ih (m + 2) m (by omega) (by omega) (fun _ => ⟨by omega, hb.1⟩) h2
      · rw [if_neg hb] at h2 ⊢
        exact ih (m + 2) g (by omega) (by omega) h1 h2
theorem v_evict (V : iV R) (S : sOK R (6 + 1)) (hn : 0 ≤ n ∧ n < 6) (hl : 0 ≤ l ∧ l < 8) : iV (nEvict R n l) := by
  unfold nEvict
  by_cases h0 : nEv R n 4 (l % 2) (-1) < 0
  · rw [if_pos h0]
    exact V
  rw [if_neg h0]
  obtain ⟨e1, e2⟩ := nEv_s (R := R) (n := n) 4 (l % 2) (-1) (by omega) (by omega) (by omega) (by omega)
  generalize nEv R n 4 (l % 2) (-1) = x at *
  have i7 := V.2.2.2.2.2.2.1 (8 * n + x) (by omega) (by omega)
  by_cases h7 : R 20 (8 * n + x) = 7
  · rw [if_pos h7]
    exact v_ask V S hn (by omega) i7.2.1 (by omega) (by omega)
  · rw [if_neg h7]
    exact v_ask V S hn (by omega) i7.2.1 (by omega) (by omega)
theorem v_core (V : iV R) (S : sOK R (6 + 1)) (h02 : 0 ≤ R 0 2 ∧ R 0 2 ≤ 100000) (hn : 0 ≤ n ∧ n < 6) : iV (nCore R n) := by
  unfold nCore
  by_cases h35 : ¬R 35 n = 0
  · rw [if_neg h35]; exact V
  rw [if_pos (by omega)]
  by_cases he : R 34 n = R 33 n
  · rw [if_pos he]; exact V
  rw [if_neg he]
  have i10 := V.2.2.2.2.2.2.2.2.2 n hn.1 hn.2
  have i9 := V.2.2.2.2.2.2.2.2.1 (40 * n + R 34 n) (by omega) (by omega)
  by_cases hd : 0 < R 31 (40 * n + R 34 n)
  · rw [if_pos hd]
    obtain ⟨v1, v2, v3, v4, v5, v6, v7, v8, v9, v10⟩ := V
    have ka : ∀ a, a ≠ 31 → up3 R 31 (40 * n + R 34 n) (R 31 (40 * n + R 34 n) - 1) a = R a := fun a ha => u3f ha
    generalize hT : up3 R 31 (40 * n + R 34 n) (R 31 (40 * n + R 34 n) - 1) = T at ka
    have hC : ∀ f : PW, cnt f T = cnt f R := fun f => cnt_congr ⟨ka 1 (by omega), ka 2 (by omega), ka 3 (by omega), ka 4 (by omega), ka 5 (by omega), ka 6 (by omega), ka 8 (by omega)⟩
    refine ⟨?_, ?_, ?_, ?_, ?_, ?_, ?_, ?_, ?_, ?_⟩
    · unfold pIv pN at *
      simp only [hC]
      rw [ka 20 (by omega), ka 22 (by omega)]
      exact v1
    · unfold pH at *
      simp only [hC]
      rw [ka 24 (by omega)]
      exact v2
    · unfold cI at *
      rw [ka 20 (by omega), ka 34 (by omega), ka 33 (by omega), ka 29 (by omega)]
      exact v3
    · unfold hI at *
      rw [ka 24 (by omega), ka 26 (by omega), ka 27 (by omega)]
      exact v4
    · unfold rI at *
      rw [hC, ka 20 (by omega), ka 34 (by omega), ka 0 (by omega)]
      exact v5
    · unfold bP at *
      rw [ka 1 (by omega), ka 2 (by omega), ka 3 (by omega), ka 4 (by omega), ka 5 (by omega), ka 6 (by omega), ka 7 (by omega), ka 8 (by omega)]
      exact v6
    · unfold bD at *
      rw [ka 20 (by omega), ka 21 (by omega), ka 23 (by omega)]
      exact v7
    · unfold bH at *
      rw [ka 24 (by omega), ka 25 (by omega), ka 26 (by omega), ka 27 (by omega)]
      exact v8
    · intro o b0 b1
      have x1 := v9 o b0 b1
      rw [ka 28 (by omega), ka 29 (by omega), ka 30 (by omega), ka 32 (by omega), ← hT, up3_eq]
      refine ⟨x1.1, x1.2.1, x1.2.2.1, ?_, x1.2.2.2.2⟩
      split
      · omega
      · exact x1.2.2.2.1
    · unfold bN at *
      rw [ka 34 (by omega), ka 33 (by omega), ka 35 (by omega)]
      exact v10
  rw [if_neg hd]
  unfold nCore1
  have hl : 0 ≤ R 29 (40 * n + R 34 n) ∧ R 29 (40 * n + R 34 n) < 8 := by omega
  have hf : R 34 n < R 33 n ∧ R 29 (40 * n + R 34 n) = R 29 (40 * n + R 34 n) := ⟨by omega, rfl⟩
  by_cases c1 : R 20 (8 * n + R 29 (40 * n + R 34 n)) = 7 ∨ (R 20 (8 * n + R 29 (40 * n + R 34 n)) = 4 ∧ R 28 (40 * n + R 34 n) = 0)
  · rw [if_pos c1]
    exact v_fin V h02 hn hl (by omega) hf
  rw [if_neg c1]
  by_cases c2 : R 20 (8 * n + R 29 (40 * n + R 34 n)) = 4
  · rw [if_pos c2]
    exact v_ask V S hn hl (by omega) (by omega) (fun _ => hf)
  rw [if_neg c2]
  by_cases c3 : ¬R 20 (8 * n + R 29 (40 * n + R 34 n)) = 0
  · rw [if_neg c3]; exact V
  rw [if_pos (by omega)]
  by_cases c4 : nIn R n (R 29 (40 * n + R 34 n) % 2) = 2
  · rw [if_pos c4]
    exact v_evict V S hn hl
  rw [if_neg c4]
  by_cases c5 : R 28 (40 * n + R 34 n) = 0
  · rw [if_pos c5]
    exact v_ask V S hn hl (by omega) (by omega) (fun _ => hf)
  · rw [if_neg c5]
    exact v_ask V S hn hl (by omega) (by omega) (fun _ => hf)
theorem v_oper {k v d : Int} (V : iV R) (hv : -2147483648 ≤ v ∧ v < 2147483648) : iV (nOper R n k l v d).2 := by
  unfold nOper
  by_cases h : ¬(0 ≤ n ∧ n < 6 ∧ 0 ≤ k ∧ k ≤ 2 ∧ 0 ≤ l ∧ l < 8 ∧ 0 ≤ d ∧ d ≤ 50 ∧ R 33 n ≠ 40)
  · rw [if_neg h]; exact V
  have h := Decidable.of_not_not h
  rw [if_pos h]
  dsimp only
  obtain ⟨v1, v2, v3, v4, v5, v6, v7, v8, v9, v10⟩ := V
  have i10 := v10 n h.1 h.2.1
  have ka : ∀ a, (a < 28 ∨ a = 32 ∨ 33 < a) → up3 (up3 (up3 (up3 (up3 R 28 (40 * n + R 33 n) k) 29 (40 * n + R 33 n) l) 30 (40 * n + R 33 n) v) 31 (40 * n + R 33 n) d) 33 n (R 33 n + 1) a = R a := fun a ha => by
    rw [u3f (by omega), u3f (by omega), u3f (by omega), u3f (by omega), u3f (by omega)]
  have e33 : ∀ j, up3 (up3 (up3 (up3 (up3 R 28 (40 * n + R 33 n) k) 29 (40 * n + R 33 n) l) 30 (40 * n + R 33 n) v) 31 (40 * n + R 33 n) d) 33 n (R 33 n + 1) 33 j = if j = n then R 33 n + 1 else R 33 j := by
    intro j
    rw [up3_eq]
    simp (disch := omega) only [u3n, true_and]
  have e28 : ∀ j, up3 (up3 (up3 (up3 (up3 R 28 (40 * n + R 33 n) k) 29 (40 * n + R 33 n) l) 30 (40 * n + R 33 n) v) 31 (40 * n + R 33 n) d) 33 n (R 33 n + 1) 28 j = if j = 40 * n + R 33 n then k else R 28 j := by
    intro j
    rw [u3n (by omega), u3n (by omega), u3n (by omega), u3n (by omega), up3_eq]
    simp only [true_and]
  have e29 : ∀ j, up3 (up3 (up3 (up3 (up3 R 28 (40 * n + R 33 n) k) 29 (40 * n + R 33 n) l) 30 (40 * n + R 33 n) v) 31 (40 * n + R 33 n) d) 33 n (R 33 n + 1) 29 j = if j = 40 * n + R 33 n then l else R 29 j := by
    intro j
    rw [u3n (by omega), u3n (by omega), u3n (by omega), up3_eq, u3n (by omega)]
    simp only [true_and]
  have e30 : ∀ j, up3 (up3 (up3 (up3 (up3 R 28 (40 * n + R 33 n) k) 29 (40 * n + R 33 n) l) 30 (40 * n + R 33 n) v) 31 (40 * n + R 33 n) d) 33 n (R 33 n + 1) 30 j = if j = 40 * n + R 33 n then v else R 30 j := by
    intro j
    rw [u3n (by omega), u3n (by omega), up3_eq, u3n (by omega), u3n (by omega)]
    simp only [true_and]
  have e31 : ∀ j, up3 (up3 (up3 (up3 (up3 R 28 (40 * n + R 33 n) k) 29 (40 * n + R 33 n) l) 30 (40 * n + R 33 n) v) 31 (40 * n + R 33 n) d) 33 n (R 33 n + 1) 31 j = if j = 40 * n + R 33 n then d else R 31 j := by
    intro j
    rw [u3n (by omega), up3_eq, u3n (by omega), u3n (by omega), u3n (by omega)]
    simp only [true_and]
  generalize up3 (up3 (up3 (up3 (up3 R 28 (40 * n + R 33 n) k) 29 (40 * n + R 33 n) l) 30 (40 * n + R 33 n) v) 31 (40 * n + R 33 n) d) 33 n (R 33 n + 1) = T at *
  have hC : ∀ f : PW, cnt f T = cnt f R := fun f => cnt_congr ⟨ka 1 (by omega), ka 2 (by omega), ka 3 (by omega), ka 4 (by omega), ka 5 (by omega), ka 6 (by omega), ka 8 (by omega)⟩
  refine ⟨?_, ?_, ?_, ?_, ?_, ?_, ?_, ?_, ?_, ?_⟩
  · unfold pIv pN at *
    simp only [hC]
    rw [ka 20 (by omega), ka 22 (by omega)]
    exact v1
  · unfold pH at *
    simp only [hC]
    rw [ka 24 (by omega)]
    exact v2
  · intro n' l' a0 a1 b0 b1
    have x1 := v3 n' l' a0 a1 b0 b1
    have x2 := v10 n' a0 a1
    rw [ka 20 (by omega), ka 34 (by omega), e33, e29]
    intro g
    have x3 := x1 g
    refine ⟨?_, ?_⟩
    · split
      · rename_i hh; subst hh; omega
      · omega
    · rw [if_neg (by
        intro hh
        by_cases hq : n' = n
        · subst hq; omega
        · omega)]
      exact x3.2
  · unfold hI at *
    rw [ka 24 (by omega), ka 26 (by omega), ka 27 (by omega)]
    exact v4
  · unfold rI at *
    rw [hC, ka 20 (by omega), ka 34 (by omega), ka 0 (by omega)]
    exact v5
  · unfold bP at *
    rw [ka 1 (by omega), ka 2 (by omega), ka 3 (by omega), ka 4 (by omega), ka 5 (by omega), ka 6 (by omega), ka 7 (by omega), ka 8 (by omega)]
    exact v6
  · unfold bD at *
    rw [ka 20 (by omega), ka 21 (by omega), ka 23 (by omega)]
    exact v7
  · unfold bH at *
    rw [ka 24 (by omega), ka 25 (by omega), ka 26 (by omega), ka 27 (by omega)]
    exact v8
  · intro o b0 b1
    have x1 := v9 o b0 b1
    rw [e28, e29, e30, e31, ka 32 (by omega)]
    grind
  · intro m b0 b1
    have x1 := v10 m b0 b1
    rw [ka 34 (by omega), e33, ka 35 (by omega)]
    grind
end Inv8
