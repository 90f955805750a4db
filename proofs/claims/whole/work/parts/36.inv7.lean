/-! The takes keep the protocol's invariant: what finishes an operation -/
section Inv7
variable {R R0 R1 T X : RS} {n l p : Int}
theorem fin_a {a : Nat} (ha : a ≠ 21 ∧ a ≠ 23 ∧ a ≠ 32 ∧ a ≠ 34) : nFin X n l a = X a := by
  funext j
  unfold nFin
  simp (disch := omega) only [u3n]
theorem fin_34 (j : Int) : nFin X n l 34 j = if j = n then X 34 n + 1 else X 34 j := by
  unfold nFin
  rw [up3_eq]
  simp (disch := omega) only [u3n, true_and]
theorem fin_21 (j : Int) : nFin X n l 21 j = if j = 8 * n + l then (if X 28 (40 * n + X 34 n) = 0 then X 21 (8 * n + l) else X 30 (40 * n + X 34 n)) else X 21 j := by
  unfold nFin
  rw [u3n (by omega), u3n (by omega), up3_eq]
  simp (disch := omega) only [u3n, true_and]
theorem fin_23 (j : Int) : nFin X n l 23 j = if j = 8 * n + l then X 0 2 else X 23 j := by
  unfold nFin
  rw [u3n (by omega), up3_eq]
  simp (disch := omega) only [u3n, true_and]
theorem fin_32 (j : Int) : nFin X n l 32 j = if j = 40 * n + X 34 n then (if X 28 (40 * n + X 34 n) = 1 then 0 else X 21 (8 * n + l)) else X 32 j := by
  unfold nFin
  rw [u3n (by omega), u3n (by omega), u3n (by omega), up3_eq]
  simp (disch := omega) only [true_and]
-- a line's operation finished
theorem v_fn {st nd : Int} (V : iV R) (h02 : 0 ≤ R 0 2 ∧ R 0 2 ≤ 100000) (hn : 0 ≤ n ∧ n < 6) (hl : 0 ≤ l ∧ l < 8) (e20 : ∀ j, T 20 j = if j = 8 * n + l then st else R 20 j) (e22 : ∀ j, T 22 j = if j = 8 * n + l then nd else R 22 j)
    (e34 : ∀ j, T 34 j = if j = n then R 34 n + 1 else R 34 j) (e21 : ∀ j, 0 ≤ j → j < 48 → -2147483648 ≤ T 21 j ∧ T 21 j < 2147483648) (e23 : ∀ j, T 23 j = R 23 j ∨ T 23 j = R 0 2) (e32 : ∀ j, 0 ≤ j → j < 240 → -2147483648 ≤ T 32 j ∧ T 32 j < 2147483648)
    (k : ∀ a, (24 ≤ a ∧ a ≤ 31) ∨ a = 33 → T a = R a) (e35 : ∀ j, T 35 j = R 35 j ∨ T 35 j = 1) (e0 : T 0 38 = R 0 38) (bp : bP T)
    (pi : pT R T n l st nd 1 0 → pIv T) (ph : ∀ l', cnt (wH l') T = cnt (wH l') R) (hst : st = 4 ∨ st = 7) (hf : R 34 n < R 33 n ∧ R 29 (40 * n + R 34 n) = l) (z : (cnt wZ T : Int) ≤ (cnt wZ R : Int)) : iV T := by
  have t : pT R T n l st nd 1 0 := ⟨e20, e22, e34, k 33 (by omega), fun j => by rw [k 29 (by omega)], by omega⟩
  have v10 := V.2.2.2.2.2.2.2.2.2
  refine v_cache V hn hl t (fun a h1 h2 => k a (by omega)) bp (pi t) ph (fun g => by omega) (fun g => hf.2) (by omega) ?_ ?_ ?_ ?_
  · have : pF st = 14 := by unfold pF; rw [if_pos hst]
    have : pF (R 20 (8 * n + l)) ≤ 14 := by unfold pF; split <;> (try split) <;> omega
    omega
  · intro q b0 b1
    have x1 := V.2.2.2.2.2.2.1 q b0 b1
    have x2 := e21 q b0 b1
    have x3 := e23 q
    rw [e20]
    grind
  · intro q b0 b1
    have x1 := V.2.2.2.2.2.2.2.2.1 q b0 b1
    have x2 := e32 q b0 b1
    rw [k 28 (by omega), k 29 (by omega), k 30 (by omega), k 31 (by omega)]
    grind
  · intro q b0 b1
    have x1 := v10 q b0 b1
    have x2 := e35 q
    rw [e34, k 33 (by omega)]
    grind
theorem v_fin (V : iV R) (h02 : 0 ≤ R 0 2 ∧ R 0 2 ≤ 100000) (hn : 0 ≤ n ∧ n < 6) (hl : 0 ≤ l ∧ l < 8) (hst : R 20 (8 * n + l) = 4 ∨ R 20 (8 * n + l) = 7) (hf : R 34 n < R 33 n ∧ R 29 (40 * n + R 34 n) = l) : iV (nFin R n l) := by
  have V0 := V
  obtain ⟨v1, v2, v3, v4, v5, v6, v7, v8, v9, v10⟩ := V
  have i10 := v10 n hn.1 hn.2
  have i9 := v9 (40 * n + R 34 n) (by omega) (by omega)
  have hC : ∀ f : PW, cnt f (nFin R n l) = cnt f R := fun f => cnt_congr ⟨fin_a (by omega), fin_a (by omega), fin_a (by omega), fin_a (by omega), fin_a (by omega), fin_a (by omega), fin_a (by omega)⟩
  refine v_fn (st := R 20 (8 * n + l)) (nd := R 22 (8 * n + l)) V0 h02 hn hl (fun j => ?_) (fun j => ?_) fin_34 (fun j b0 b1 => ?_) (fun j => ?_) (fun j b0 b1 => ?_) (fun a ha => fin_a (by omega)) (fun j => Or.inl (by rw [fin_a (by omega)])) (by rw [fin_a (by omega)]) ?_ (fun t => a_fin v1 t hl hn hC) (fun l' => hC _) hst hf (by rw [hC]; omega)
  · rw [fin_a (by omega)]
    split
    · rename_i h; rw [h]
    · rfl
  · rw [fin_a (by omega)]
    split
    · rename_i h; rw [h]
    · rfl
  · have x1 := v7 j b0 b1
    have x2 := v7 (8 * n + l) (by omega) (by omega)
    rw [fin_21]
    grind
  · rw [fin_23]
    grind
  · have x1 := v9 j b0 b1
    have x2 := v7 (8 * n + l) (by omega) (by omega)
    rw [fin_32]
    grind
  · intro q b0 b1
    have x1 := v6 q b0 b1
    rw [fin_a (by omega), fin_a (by omega), fin_a (by omega), fin_a (by omega), fin_a (by omega), fin_a (by omega), fin_a (by omega), fin_a (by omega)]
    exact x1
-- a packet that finishes: DATA or ACK
theorem v_bec {st nd : Int} (V : iV R) (h02 : 0 ≤ R 0 2 ∧ R 0 2 ≤ 100000) (hn : 0 ≤ n ∧ n < 6) (hl : 0 ≤ l ∧ l < 8) (hp : 0 ≤ p ∧ p < 128) (hL : R 1 p = 1) (hX : ∀ a, a ≠ 21 → a ≠ 22 → X a = R a) (x21 : ∀ j, 0 ≤ j → j < 48 → -2147483648 ≤ X 21 j ∧ X 21 j < 2147483648) (x22 : ∀ j, X 22 j = if j = 8 * n + l then nd else R 22 j)
    (k : kl (nBec X n l st) p T) (hst : st = 4 ∨ st = 7) (hf : R 34 n < R 33 n ∧ R 29 (40 * n + R 34 n) = l)
    (pi : (∀ f : PW, cnt f T + f (R 2 p) (R 3 p) (R 4 p) (R 5 p) (R 6 p) (R 8 p) = cnt f R) → bP T → pT R T n l st nd 1 0 → pIv T) (hk : R 2 p = 8 ∨ R 2 p = 9) : iV T := by
  have V0 := V
  obtain ⟨v1, v2, v3, v4, v5, v6, v7, v8, v9, v10⟩ := V
  have i10 := v10 n hn.1 hn.2
  have i9 := v9 (40 * n + R 34 n) (by omega) (by omega)
  unfold nBec at k
  have ka : ∀ a, (a ≠ 20 ∧ a ≠ 21 ∧ a ≠ 22 ∧ a ≠ 23 ∧ a ≠ 32 ∧ a ≠ 34 ∧ a ≠ 35) → up3 (nFin (up3 X 20 (8 * n + l) st) n l) 35 n 1 a = R a := by
    intro a ha
    rw [u3f (by omega), fin_a (by omega), u3f (by omega), hX a (by omega) (by omega)]
  have kp : kep R (up3 (nFin (up3 X 20 (8 * n + l) st) n l) 35 n 1) p := fun a h1 h2 => by rw [ka a (by omega)]
  have hC : ∀ f : PW, cnt f T + f (R 2 p) (R 3 p) (R 4 p) (R 5 p) (R 6 p) (R 8 p) = cnt f R := by
    intro f
    rw [kl_cnt k hp hL kp f]
    exact cnt_congr ⟨ka 1 (by omega), ka 2 (by omega), ka 3 (by omega), ka 4 (by omega), ka 5 (by omega), ka 6 (by omega), ka 8 (by omega)⟩
  have bp : bP T := by
    refine bP_kl ?_ k
    unfold bP at *
    rw [ka 1 (by omega), ka 2 (by omega), ka 3 (by omega), ka 4 (by omega), ka 5 (by omega), ka 6 (by omega), ka 7 (by omega), ka 8 (by omega)]
    exact v6
  obtain ⟨k1, k2, k3, k4⟩ := k
  refine v_fn (st := st) (nd := nd) V0 h02 hn hl (fun j => ?_) (fun j => ?_) (fun j => ?_) (fun j b0 b1 => ?_) (fun j => ?_) (fun j b0 b1 => ?_) (fun a ha => ?_) (fun j => ?_) ?_ bp (fun t => pi hC bp t) (fun l' => ?_) hst hf ?_
  · rw [k3 20 (by omega), u3n (by omega), fin_a (by omega), up3_eq, hX 20 (by omega) (by omega)]
    simp only [true_and]
  · rw [k3 22 (by omega), u3n (by omega), fin_a (by omega), u3n (by omega), x22]
  · rw [k3 34 (by omega), u3n (by omega), fin_34, u3n (by omega), u3n (by omega), hX 34 (by omega) (by omega)]
  · rw [k3 21 (by omega), u3n (by omega), fin_21]
    simp (disch := omega) only [u3n]
    rw [hX 28 (by omega) (by omega), hX 34 (by omega) (by omega), hX 30 (by omega) (by omega)]
    have x1 := x21 j b0 b1
    have x2 := x21 (8 * n + l) (by omega) (by omega)
    grind
  · rw [k3 23 (by omega), u3n (by omega), fin_23, u3n (by omega), u3n (by omega), hX 0 (by omega) (by omega), hX 23 (by omega) (by omega)]
    grind
  · rw [k3 32 (by omega), u3n (by omega), fin_32]
    simp (disch := omega) only [u3n]
    rw [hX 28 (by omega) (by omega), hX 34 (by omega) (by omega), hX 32 (by omega) (by omega)]
    have x1 := v9 j b0 b1
    have x2 := x21 (8 * n + l) (by omega) (by omega)
    grind
  · rw [k3 a (by omega), ka a (by omega)]
  · rw [k3 35 (by omega), up3_eq]
    split
    · exact Or.inr rfl
    · rw [fin_a (by omega), u3n (by omega), hX 35 (by omega) (by omega)]
      exact Or.inl rfl
  · rw [k4, ka 0 (by omega)]
  · have x2 := hC (wH l')
    have : wH l' (R 2 p) (R 3 p) (R 4 p) (R 5 p) (R 6 p) (R 8 p) = 0 := by
      unfold wH
      rw [if_neg (by omega)]
    omega
  · have x2 := hC wZ
    omega
-- the state of a line to which DATA or an ACK is under way
theorem s_data (V : iV R) (hn : 0 ≤ n ∧ n < 6) (hp : 0 ≤ p ∧ p < 128) (hL : R 1 p = 1) (ht : R 4 p = n) (hk : R 2 p = 8) : (R 20 (8 * n + R 3 p) = 1 ∨ R 20 (8 * n + R 3 p) = 2 ∨ R 20 (8 * n + R 3 p) = 5) ∧ R 34 n < R 33 n ∧ R 29 (40 * n + R 34 n) = R 3 p := by
  obtain ⟨v1, v2, v3, v4, v5, v6, v7, v8, v9, v10⟩ := V
  obtain ⟨g1, g2, g3, g4, g5, g6, g7, g8⟩ := v6 p hp.1 hp.2
  have q0 := v1 n (R 3 p) hn.1 hn.2 (by omega) (by omega)
  have q2 := cnt_pos (f := wD n (R 3 p)) hp.1 hp.2 hL
  have q3 : wD n (R 3 p) (R 2 p) (R 3 p) (R 4 p) (R 5 p) (R 6 p) (R 8 p) = 1 := by unfold wD; simp [hk, ht]
  have q4 := v3 n (R 3 p) hn.1 hn.2 (by omega) (by omega)
  unfold pN pA at q0
  have : R 20 (8 * n + R 3 p) = 1 ∨ R 20 (8 * n + R 3 p) = 2 ∨ R 20 (8 * n + R 3 p) = 5 := by omega
  exact ⟨this, q4 (by omega)⟩
theorem s_ack (V : iV R) (hn : 0 ≤ n ∧ n < 6) (hp : 0 ≤ p ∧ p < 128) (hL : R 1 p = 1) (ht : R 4 p = n) (hk : R 2 p = 9) : (R 20 (8 * n + R 3 p) = 3 ∨ R 20 (8 * n + R 3 p) = 6 ∨ R 20 (8 * n + R 3 p) = 2 ∨ R 20 (8 * n + R 3 p) = 5) ∧ R 34 n < R 33 n ∧ R 29 (40 * n + R 34 n) = R 3 p := by
  obtain ⟨v1, v2, v3, v4, v5, v6, v7, v8, v9, v10⟩ := V
  obtain ⟨g1, g2, g3, g4, g5, g6, g7, g8⟩ := v6 p hp.1 hp.2
  have q0 := v1 n (R 3 p) hn.1 hn.2 (by omega) (by omega)
  have q2 := cnt_pos (f := wJ n (R 3 p)) hp.1 hp.2 hL
  have q3 : wJ n (R 3 p) (R 2 p) (R 3 p) (R 4 p) (R 5 p) (R 6 p) (R 8 p) = 1 := by unfold wJ; simp [hk, ht]
  have q4 := v3 n (R 3 p) hn.1 hn.2 (by omega) (by omega)
  unfold pN pA at q0
  have : R 20 (8 * n + R 3 p) = 3 ∨ R 20 (8 * n + R 3 p) = 6 ∨ R 20 (8 * n + R 3 p) = 2 ∨ R 20 (8 * n + R 3 p) = 5 := by omega
  exact ⟨this, q4 (by omega)⟩
-- a packet that changes the state and the needs of a line and finishes nothing
theorem v_nd {st nd : Int} (V : iV R) (hn : 0 ≤ n ∧ n < 6) (hl : 0 ≤ l ∧ l < 8) (hp : 0 ≤ p ∧ p < 128) (hL : R 1 p = 1) (hX : ∀ a, a ≠ 20 → a ≠ 21 → a ≠ 22 → X a = R a) (x20 : ∀ j, X 20 j = if j = 8 * n + l then st else R 20 j) (x21 : ∀ j, 0 ≤ j → j < 48 → -2147483648 ≤ X 21 j ∧ X 21 j < 2147483648) (x22 : ∀ j, X 22 j = if j = 8 * n + l then nd else R 22 j)
    (k : kl X p T) (hst : 0 ≤ st ∧ st ≤ 10) (hw : pF st = pF (R 20 (8 * n + l))) (hf : R 34 n < R 33 n ∧ R 29 (40 * n + R 34 n) = l)
    (pi : (∀ f : PW, cnt f T + f (R 2 p) (R 3 p) (R 4 p) (R 5 p) (R 6 p) (R 8 p) = cnt f R) → bP T → pT R T n l st nd 0 0 → pIv T) (hk : R 2 p = 8 ∨ R 2 p = 9) : iV T := by
  have V0 := V
  obtain ⟨v1, v2, v3, v4, v5, v6, v7, v8, v9, v10⟩ := V
  have ka : ∀ a, (a ≠ 20 ∧ a ≠ 21 ∧ a ≠ 22) → X a = R a := fun a ha => hX a ha.1 ha.2.1 ha.2.2
  have kp : kep R X p := fun a h1 h2 => by rw [ka a (by omega)]
  have hC : ∀ f : PW, cnt f T + f (R 2 p) (R 3 p) (R 4 p) (R 5 p) (R 6 p) (R 8 p) = cnt f R := by
    intro f
    rw [kl_cnt k hp hL kp f]
    exact cnt_congr ⟨ka 1 (by omega), ka 2 (by omega), ka 3 (by omega), ka 4 (by omega), ka 5 (by omega), ka 6 (by omega), ka 8 (by omega)⟩
  have bp : bP T := by
    refine bP_kl ?_ k
    unfold bP at *
    rw [ka 1 (by omega), ka 2 (by omega), ka 3 (by omega), ka 4 (by omega), ka 5 (by omega), ka 6 (by omega), ka 7 (by omega), ka 8 (by omega)]
    exact v6
  obtain ⟨k1, k2, k3, k4⟩ := k
  have ke : ∀ a, 23 ≤ a → T a = R a := fun a ha => (k3 a (by omega)).trans (ka a (by omega))
  have t : pT R T n l st nd 0 0 := by
    refine ⟨fun j => by rw [k3 20 (by omega), x20], fun j => by rw [k3 22 (by omega), x22], fun j => ?_, ke 33 (by omega), fun j => by rw [ke 29 (by omega)], by rw [k4, ka 0 (by omega), Int.add_zero]⟩
    rw [ke 34 (by omega)]
    split
    · rename_i h; rw [h]; omega
    · rfl
  refine v_cache V0 hn hl t (fun a h1 h2 => ke a (by omega)) bp (pi hC bp t) (fun l' => ?_) (fun _ => ⟨rfl, hf⟩) (fun g => absurd rfl g) (by omega) ?_ ?_ (bO_c (fun a h1 h2 => ke a (by omega)) v9) (bN_c (fun a h1 h2 => ke a (by omega)) v10)
  · have x2 := hC (wH l')
    have : wH l' (R 2 p) (R 3 p) (R 4 p) (R 5 p) (R 6 p) (R 8 p) = 0 := by
      unfold wH
      rw [if_neg (by omega)]
    omega
  · have x2 := hC wZ
    rw [hw]
    omega
  · intro q b0 b1
    have x1 := v7 q b0 b1
    have x2 := x21 q b0 b1
    rw [k3 20 (by omega), x20, k3 21 (by omega), ke 23 (by omega)]
    grind
theorem v_dat (V : iV R) (h02 : 0 ≤ R 0 2 ∧ R 0 2 ≤ 100000) (hn : 0 ≤ n ∧ n < 6) (hp : 0 ≤ p ∧ p < 128) (hL : R 1 p = 1) (ht : R 4 p = n) (hk : R 2 p = 8) (k : kl (nDat R n p) p T) : iV T := by
  obtain ⟨h1, h2⟩ := s_data V hn hp hL ht hk
  have V0 := V
  obtain ⟨v1, v2, v3, v4, v5, v6, v7, v8, v9, v10⟩ := V
  obtain ⟨g1, g2, g3, g4, g5, g6, g7, g8⟩ := v6 p hp.1 hp.2
  have xx : ∀ j, 0 ≤ j → j < 48 → -2147483648 ≤ up3 (up3 R 22 (8 * n + R 3 p) (R 22 (8 * n + R 3 p) + R 8 p)) 21 (8 * n + R 3 p) (R 7 p) 21 j ∧ up3 (up3 R 22 (8 * n + R 3 p) (R 22 (8 * n + R 3 p) + R 8 p)) 21 (8 * n + R 3 p) (R 7 p) 21 j < 2147483648 := by
    intro j b0 b1
    have := v7 j b0 b1
    rw [up3_eq]
    split
    · exact g7
    · rw [u3n (by omega)]
      exact this.2.1
  have x22 : ∀ j, up3 (up3 R 22 (8 * n + R 3 p) (R 22 (8 * n + R 3 p) + R 8 p)) 21 (8 * n + R 3 p) (R 7 p) 22 j = if j = 8 * n + R 3 p then R 22 (8 * n + R 3 p) + R 8 p else R 22 j := by
    intro j
    rw [u3n (by omega), up3_eq]
    simp only [true_and]
  have hX : ∀ a, a ≠ 21 → a ≠ 22 → up3 (up3 R 22 (8 * n + R 3 p) (R 22 (8 * n + R 3 p) + R 8 p)) 21 (8 * n + R 3 p) (R 7 p) a = R a := by
    intro a h1 h2
    rw [u3f h1, u3f h2]
  unfold nDat at k
  by_cases c1 : R 20 (8 * n + R 3 p) = 1
  · rw [if_pos c1] at k
    refine v_bec V0 h02 hn (by omega) hp hL hX xx x22 k (by omega) h2 (fun hC bp t => ?_) (by omega)
    rw [hk, ht] at hC
    exact a_data g8.1 (fun n l => wK_le bp) (by omega) v1 t (by omega) hn hC
  rw [if_neg c1] at k
  by_cases c2 : R 22 (8 * n + R 3 p) + R 8 p = 0
  · rw [if_pos c2] at k
    refine v_bec V0 h02 hn (by omega) hp hL hX xx x22 k (by omega) h2 (fun hC bp t => ?_) (by omega)
    rw [hk, ht] at hC
    exact a_data g8.1 (fun n l => wK_le bp) (by omega) v1 t (by omega) hn hC
  rw [if_neg c2] at k
  refine v_nd (st := if R 20 (8 * n + R 3 p) = 2 then 3 else 6) (nd := R 22 (8 * n + R 3 p) + R 8 p) V0 hn (by omega) hp hL (fun a h0 h1 h2 => ?_) (fun j => ?_) (fun j b0 b1 => ?_) (fun j => ?_) k ?_ ?_ h2 (fun hC bp t => ?_) (by omega)
  · rw [u3f h0, hX a h1 h2]
  · rw [up3_eq, hX 20 (by omega) (by omega)]
    simp only [true_and]
  · rw [u3n (by omega)]
    exact xx j b0 b1
  · rw [u3n (by omega), x22]
  · split <;> omega
  · unfold pF
    split <;> grind
  · rw [hk, ht] at hC
    refine a_data g8.1 (fun n l => wK_le bp) ?_ v1 t (by omega) hn hC
    split <;> omega
theorem v_ack (V : iV R) (h02 : 0 ≤ R 0 2 ∧ R 0 2 ≤ 100000) (hn : 0 ≤ n ∧ n < 6) (hp : 0 ≤ p ∧ p < 128) (hL : R 1 p = 1) (ht : R 4 p = n) (hk : R 2 p = 9) (k : kl (nAck R n p) p T) : iV T := by
  obtain ⟨h1, h2⟩ := s_ack V hn hp hL ht hk
  have V0 := V
  obtain ⟨v1, v2, v3, v4, v5, v6, v7, v8, v9, v10⟩ := V
  obtain ⟨g1, g2, g3, g4, g5, g6, g7, g8⟩ := v6 p hp.1 hp.2
  have xx : ∀ j, 0 ≤ j → j < 48 → -2147483648 ≤ up3 R 22 (8 * n + R 3 p) (R 22 (8 * n + R 3 p) - 1) 21 j ∧ up3 R 22 (8 * n + R 3 p) (R 22 (8 * n + R 3 p) - 1) 21 j < 2147483648 := by
    intro j b0 b1
    rw [u3n (by omega)]
    exact (v7 j b0 b1).2.1
  have x22 : ∀ j, up3 R 22 (8 * n + R 3 p) (R 22 (8 * n + R 3 p) - 1) 22 j = if j = 8 * n + R 3 p then R 22 (8 * n + R 3 p) - 1 else R 22 j := by
    intro j
    rw [up3_eq]
    simp only [true_and]
  unfold nAck at k
  by_cases c1 : R 22 (8 * n + R 3 p) - 1 = 0 ∧ (R 20 (8 * n + R 3 p) = 3 ∨ R 20 (8 * n + R 3 p) = 6)
  · rw [if_pos c1] at k
    refine v_bec V0 h02 hn (by omega) hp hL (fun a _ h => u3f h) xx x22 k (by omega) h2 (fun hC bp t => ?_) (by omega)
    rw [hk, ht] at hC
    exact a_ack (fun n l => wK_le bp) (by omega) v1 t (by omega) hn hC
  rw [if_neg c1] at k
  refine v_nd (st := R 20 (8 * n + R 3 p)) V0 hn (by omega) hp hL (fun a h0 h1 h2 => u3f h2) (fun j => ?_) xx x22 k (v7 (8 * n + R 3 p) (by omega) (by omega)).1 rfl h2 (fun hC bp t => ?_) (by omega)
  · rw [u3n (by omega)]
    split
    · rename_i h; rw [h]
    · rfl
  · rw [hk, ht] at hC
    exact a_ack (fun n l => wK_le bp) (by omega) v1 t (by omega) hn hC
theorem v_take (V : iV R) (S : sOK R (6 + 1)) (h02 : 0 ≤ R 0 2 ∧ R 0 2 ≤ 100000) (hn : 0 ≤ n ∧ n < 6) (hp : 0 ≤ p ∧ p < 128) (hL : R 1 p = 1) (ht : R 4 p = n) (h1 : (nTak R n p).1 = 1) (k : kl (nTak R n p).2 p T) : iV T := by
  obtain ⟨g1, g2, g3, g4, g5, g6, g7, g8⟩ := V.2.2.2.2.2.1 p hp.1 hp.2
  unfold nTak at h1 k
  by_cases c0 : R 2 p = 0
  · rw [if_pos c0] at h1 k
    exact v_gets V S hn hp hL ht c0 h1 k
  rw [if_neg c0] at h1 k
  by_cases c1 : R 2 p = 1
  · rw [if_pos c1] at h1 k
    exact v_getm V S hn hp hL ht c1 h1 k
  rw [if_neg c1] at h1 k
  by_cases c2 : R 2 p = 2
  · rw [if_pos c2] at k
    exact v_put V S hn hp hL ht c2 (by omega) gone_hm (fun j => by rw [gone_24]; grind) (gone_hI (by omega) g5 V.2.2.2.1) (gone_bH (by omega) g5 V.2.2.2.2.2.2.2.1) k
  rw [if_neg c2] at h1 k
  by_cases c3 : R 2 p = 3
  · rw [if_pos c3] at k
    obtain ⟨w1, w2, w3⟩ := putm_h (l := R 3 p) (x := R 5 p) (w := R 7 p) (by omega) g5 g7 V.2.2.2.1 V.2.2.2.2.2.2.2.1
    exact v_put V S hn hp hL ht c3 (by omega) putm_hm w1 w2 w3 k
  rw [if_neg c3] at h1 k
  by_cases c4 : R 2 p = 4
  · rw [if_pos c4] at h1 k
    exact v_fwdS V S hn hp hL ht c4 h1 k
  rw [if_neg c4] at h1 k
  by_cases c5 : R 2 p = 5
  · rw [if_pos c5] at h1 k
    exact v_fwdM V S hn hp hL ht c5 h1 k
  rw [if_neg c5] at h1 k
  by_cases c6 : R 2 p = 6
  · rw [if_pos c6] at h1 k
    exact v_inv V S hn hp hL ht c6 h1 k
  rw [if_neg c6] at h1 k
  by_cases c7 : R 2 p = 7
  · rw [if_pos c7] at k
    exact v_done V hn hp hL ht c7 k
  rw [if_neg c7] at h1 k
  by_cases c8 : R 2 p = 8
  · rw [if_pos c8] at k
    exact v_dat V h02 hn hp hL ht c8 k
  rw [if_neg c8] at h1 k
  by_cases c9 : R 2 p = 9
  · rw [if_pos c9] at k
    exact v_ack V h02 hn hp hL ht c9 k
  rw [if_neg c9] at k
  exact v_hd V hn hp hL ht (by omega) k
end Inv7
