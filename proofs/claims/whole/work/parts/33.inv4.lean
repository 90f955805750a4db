/-! The takes keep the protocol's invariant -/
section Inv4
variable {R R0 R1 T : RS} {n l p : Int}
def iV (R : RS) : Prop := pIv R ∧ pH R ∧ cI R ∧ hI R ∧ rI R ∧ bP R ∧ bD R ∧ bH R ∧ bO R ∧ bN R
theorem wZ_z (h : ∀ f : PW, cnt f T = cnt f R) : cnt wZ T = cnt wZ R := h wZ
theorem v_home {s : Int} (V : iV R) (hn : 0 ≤ n ∧ n < 6) (hl : 0 ≤ l ∧ l < 8) (k : ∀ a, 20 ≤ a → (a < 24 ∨ 27 < a) → T a = R a) (h0 : T 0 38 = R 0 38 + s) (bp : bP T) (pi : pIv T) (ph : pH T) (hi : hI T) (bh : bH T) (z : s + (cnt wZ T : Int) ≤ (cnt wZ R : Int)) : iV T := by
  obtain ⟨v1, v2, v3, v4, v5, v6, v7, v8, v9, v10⟩ := V
  have t : pT R T n l (R 20 (8 * n + l)) (R 22 (8 * n + l)) 0 s := pT_0 (fun j => by rw [k 20 (by omega) (by omega)]) (fun j => by rw [k 22 (by omega) (by omega)]) (fun j => by rw [k 34 (by omega) (by omega)]) (k 33 (by omega) (by omega)) (fun j => by rw [k 29 (by omega) (by omega)]) h0
  refine ⟨pi, ph, ?_, hi, ?_, bp, ?_, bh, ?_, ?_⟩
  · unfold cI at *
    rw [k 20 (by omega) (by omega), k 34 (by omega) (by omega), k 33 (by omega) (by omega), k 29 (by omega) (by omega)]
    exact v3
  · exact rI_tr v5 t hl hn (v10 n hn.1 hn.2).1.1 (by omega) (by omega)
  · unfold bD at *
    rw [k 20 (by omega) (by omega), k 21 (by omega) (by omega), k 23 (by omega) (by omega)]
    exact v7
  · unfold bO at *
    rw [k 28 (by omega) (by omega), k 29 (by omega) (by omega), k 30 (by omega) (by omega), k 31 (by omega) (by omega), k 32 (by omega) (by omega)]
    exact v9
  · unfold bN at *
    rw [k 34 (by omega) (by omega), k 33 (by omega) (by omega), k 35 (by omega) (by omega)]
    exact v10
theorem v_gets (V : iV R) (S : sOK R (6 + 1)) (hn : 0 ≤ n ∧ n < 6) (hp : 0 ≤ p ∧ p < 128) (hL : R 1 p = 1) (ht : R 4 p = n) (hk : R 2 p = 0) (h1 : (nGets R n (R 3 p) (R 5 p)).1 = 1) (k : kl (nGets R n (R 3 p) (R 5 p)).2 p T) : iV T := by
  have V0 := V
  obtain ⟨v1, v2, v3, v4, v5, v6, v7, v8, v9, v10⟩ := V
  obtain ⟨g1, g2, g3, g4, g5, g6, g7, g8⟩ := v6 p hp.1 hp.2
  have i4 := v4 (R 3 p) (by omega) (by omega)
  have i8 := v8 (R 3 p) (by omega) (by omega)
  unfold nGets at h1 k
  by_cases c3 : R 24 (R 3 p) = 3
  · rw [if_pos c3] at h1
    dsimp only at h1
    omega
  rw [if_neg c3] at k
  by_cases c2 : R 24 (R 3 p) = 2
  · rw [if_pos c2] at k
    dsimp only at k
    have hC : ∀ f : PW, cnt f T + f 0 (R 3 p) n (R 5 p) (R 6 p) (R 8 p) = cnt f R + f 4 (R 3 p) (R 26 (R 3 p)) n (R 5 p) 0 := by
      intro f
      have := kl_cnt k hp hL (kep_u (kep_u (kep_u (kep_send S hL) (by omega)) (by omega)) (by omega)) f
      rw [hk, ht] at this
      rw [this]
      simp (disch := omega) only [cnt_u, cnt_send S]
    have bp : bP T := bP_kl (bP_u (bP_u (bP_u (bP_send S v6 hn (by omega) (by omega) (by omega) (by omega) (by omega) (by omega)) (by omega)) (by omega)) (by omega)) k
    obtain ⟨k1, k2, k3, k4⟩ := k
    have e0 : T 0 38 = R 0 38 + 1 := by
      rw [k4]
      simp (disch := omega) only [u3n, nSend_0, if_true]
    have e24 : ∀ j, T 24 j = if j = R 3 p then 3 else R 24 j := by
      intro j
      rw [k3 24 (by omega), up3_eq]
      simp (disch := omega) only [u3n, nSend_n, true_and]
    have e26 : ∀ j, T 26 j = if j = R 3 p then -1 else R 26 j := by
      intro j
      rw [k3 26 (by omega), u3n (by omega), up3_eq]
      simp (disch := omega) only [u3n, nSend_n, true_and]
    have e27 : ∀ j, T 27 j = if j = R 3 p then eOr (eShl 1 (R 26 (R 3 p))) (eShl 1 (R 5 p)) else R 27 j := by
      intro j
      rw [k3 27 (by omega), u3n (by omega), u3n (by omega), up3_eq]
      simp (disch := omega) only [u3n, nSend_n, true_and]
    have e25 : ∀ j, T 25 j = R 25 j := by
      intro j
      rw [k3 25 (by omega)]
      simp (disch := omega) only [u3n, nSend_n]
    have kk : ∀ a, 20 ≤ a → (a < 24 ∨ 27 < a) → T a = R a := by
      intro a h1 h2
      rw [k3 a h1]
      funext j
      simp (disch := omega) only [u3n, nSend_n]
    refine v_home V0 hn (l := R 3 p) (by omega) kk e0 bp (a_gets2 v1 (pT_0 (fun j => by rw [kk 20 (by omega) (by omega)]) (fun j => by rw [kk 22 (by omega) (by omega)]) (fun j => by rw [kk 34 (by omega) (by omega)]) (kk 33 (by omega) (by omega)) (fun j => by rw [kk 29 (by omega) (by omega)]) e0) (by omega) hn hC) ?_ ?_ ?_ ?_
    · intro l' b0 b1
      have x1 := v2 l' b0 b1
      have x2 := hC (wH l')
      simp [wH] at x2
      rw [e24]
      clear hC
      grind
    · intro l' b0 b1
      have x1 := v4 l' b0 b1
      rw [e24, e26, e27]
      grind
    · intro l' b0 b1
      have x1 := v8 l' b0 b1
      have x2 := bit_o (bit_p (x := R 26 (R 3 p)) (by omega)) (x := R 5 p) (by omega)
      rw [e24, e25, e26, e27]
      grind
    · have x2 := hC wZ
      simp [wZ] at x2
      omega
  · rw [if_neg c2] at k
    dsimp only at k
    have hC : ∀ f : PW, cnt f T + f 0 (R 3 p) n (R 5 p) (R 6 p) (R 8 p) = cnt f R + f 8 (R 3 p) (R 5 p) n 0 0 := by
      intro f
      have := kl_cnt k hp hL (kep_u (kep_u (kep_send S hL) (by omega)) (by omega)) f
      rw [hk, ht] at this
      rw [this]
      simp (disch := omega) only [cnt_u, cnt_send S]
    have bp : bP T := bP_kl (bP_u (bP_u (bP_send S v6 hn (by omega) (by omega) (by omega) (by omega) (by omega) (by omega)) (by omega)) (by omega)) k
    obtain ⟨k1, k2, k3, k4⟩ := k
    have e0 : T 0 38 = R 0 38 + 1 := by
      rw [k4]
      simp (disch := omega) only [u3n, nSend_0, if_true]
    have e24 : ∀ j, T 24 j = if j = R 3 p then 1 else R 24 j := by
      intro j
      rw [k3 24 (by omega), up3_eq]
      simp (disch := omega) only [u3n, nSend_n, true_and]
    have e26 : ∀ j, T 26 j = R 26 j := by
      intro j
      rw [k3 26 (by omega)]
      simp (disch := omega) only [u3n, nSend_n]
    have e27 : ∀ j, T 27 j = if j = R 3 p then eOr (R 27 (R 3 p)) (eShl 1 (R 5 p)) else R 27 j := by
      intro j
      rw [k3 27 (by omega), u3n (by omega), up3_eq]
      simp (disch := omega) only [u3n, nSend_n, true_and]
    have e25 : ∀ j, T 25 j = R 25 j := by
      intro j
      rw [k3 25 (by omega)]
      simp (disch := omega) only [u3n, nSend_n]
    have kk : ∀ a, 20 ≤ a → (a < 24 ∨ 27 < a) → T a = R a := by
      intro a h1 h2
      rw [k3 a h1]
      funext j
      simp (disch := omega) only [u3n, nSend_n]
    refine v_home V0 hn (l := R 3 p) (by omega) kk e0 bp (a_gets1 v1 (pT_0 (fun j => by rw [kk 20 (by omega) (by omega)]) (fun j => by rw [kk 22 (by omega) (by omega)]) (fun j => by rw [kk 34 (by omega) (by omega)]) (kk 33 (by omega) (by omega)) (fun j => by rw [kk 29 (by omega) (by omega)]) e0) (by omega) hn hC) ?_ ?_ ?_ ?_
    · intro l' b0 b1
      have x1 := v2 l' b0 b1
      have x2 := hC (wH l')
      simp [wH] at x2
      rw [e24]
      clear hC
      grind
    · intro l' b0 b1
      have x1 := v4 l' b0 b1
      rw [e24, e26, e27]
      grind
    · intro l' b0 b1
      have x1 := v8 l' b0 b1
      have x2 := bit_o i8.2.2.2 (x := R 5 p) (by omega)
      rw [e24, e25, e26, e27]
      grind
    · have x2 := hC wZ
      simp [wZ] at x2
      omega
end Inv4
