/-! The network's invariant for the reference's numbers: sends and takes -/
section Net8
variable {R T : RS} {n l p : Int}
def h11 (R : RS) : Prop := ∀ p, 0 ≤ p → p < 128 → R 1 p = 1 → (R 2 p ≤ 3 ∨ R 2 p = 10) → R 4 p = R 3 p % 6
def nP (R : RS) (m : Nat) : Prop := ntI R ∧ sOK R m ∧ bS R ∧ bB R ∧ bF R ∧ bW R ∧ h11 R
theorem ntI_c (N : ntI R) (k : ∀ a, 1 ≤ a → a < 20 → T a = R a) (k0 : T 0 1 = R 0 1 ∧ T 0 38 = R 0 38 ∧ T 0 39 = R 0 39) : ntI T := by
  obtain ⟨G, E, L, A, B⟩ := N
  have hz : nSz T = nSz R := nSz_c k0.1 (k 2 (by omega) (by omega))
  have hf : fc T = fc R := fc_c (k 14 (by omega) (by omega)) (k 15 (by omega) (by omega))
  refine ⟨G, E, L, ?_, ?_⟩
  · rw [hz, hf, k 17 (by omega) (by omega), k 18 (by omega) (by omega), k 11 (by omega) (by omega), k 9 (by omega) (by omega)]
    exact A
  · unfold sA sA1 sA2 sA3 sA4 sA5 sA6 sA7 sA8 sA9 okF okO okW okX nLc at *
    rw [hz, hf, k 1 (by omega) (by omega), k 2 (by omega) (by omega), k 4 (by omega) (by omega), k 9 (by omega) (by omega), k 10 (by omega) (by omega), k 11 (by omega) (by omega), k 12 (by omega) (by omega), k 13 (by omega) (by omega), k 17 (by omega) (by omega), k 18 (by omega) (by omega), k0.2.1, k0.2.2]
    exact B
theorem nP_c {m : Nat} (N : nP R m) (k : ∀ a, 1 ≤ a → a < 20 → T a = R a) (k0 : T 0 0 = R 0 0 ∧ T 0 1 = R 0 1 ∧ T 0 38 = R 0 38 ∧ T 0 39 = R 0 39) : nP T m := by
  obtain ⟨a1, a2, a3, a4, a5, a6, a7⟩ := N
  refine ⟨ntI_c a1 k k0.2, sOK_congr a2 (k 1 (by omega) (by omega)) (k 10 (by omega) (by omega)), ?_, ?_, ?_, ?_, ?_⟩
  · unfold bS at *; rw [k0.1, k0.2.1]; exact a3
  · unfold bB at *; rw [k0.1, k 17 (by omega) (by omega), k 18 (by omega) (by omega), k 19 (by omega) (by omega)]; exact a4
  · unfold bF at *; rw [k 14 (by omega) (by omega), k 15 (by omega) (by omega), k 16 (by omega) (by omega)]; exact a5
  · unfold bW at *; rw [k 9 (by omega) (by omega), k 12 (by omega) (by omega)]; exact a6
  · unfold h11 at *; rw [k 1 (by omega) (by omega), k 2 (by omega) (by omega), k 3 (by omega) (by omega), k 4 (by omega) (by omega)]; exact a7
theorem nP_u {m k : Nat} {i z : Int} (N : nP R m) (hk : 20 ≤ k) : nP (up3 R k i z) m := nP_c N (fun a _ _ => u3f (by omega)) ⟨u3n (by omega), u3n (by omega), u3n (by omega), u3n (by omega)⟩
theorem nP_le {m k : Nat} (N : nP R m) (h : k ≤ m) : nP R k := ⟨N.1, sOK_le N.2.1 h, N.2.2⟩
theorem nCh_r {k : Int} : 0 ≤ nCh k ∧ nCh k < 3 := by
  unfold nCh
  split
  · split <;> omega
  · omega
theorem nP_send {m : Nat} {k l t w v y : Int} (N : nP R (m + 1)) (hn : 0 ≤ n ∧ n < 6) (hh : k ≤ 3 ∨ k = 10 → t = l % 6) : nP (nSend R n k l t w v y) m := by
  obtain ⟨a1, a2, a3, a4, a5, a6, a7⟩ := N
  obtain ⟨f1, f2, f3⟩ := nFree_lt a2.1 (by have := a2.2.1; omega)
  have hc := nCh_r (k := k)
  have q := nSend_at (R := R) (n := n) (k := k) (l := l) (t := t) (w := w) (v := v) (m := y)
  have rq := a2.2.2 (3 * n + nCh k) (by omega) (by omega)
  have lv := a2.2.1
  have e9 : ∀ x, nSend R n k l t w v y 9 x = if x = 128 * (3 * n + nCh k) + R 10 (3 * n + nCh k) then nFree R else R 9 x := by
    intro x
    unfold nSend
    rw [u3n (by omega), u3n (by omega), up3_eq]
    simp (disch := omega) only [u3n, true_and]
  have k0 : ∀ j, j ≠ 38 → nSend R n k l t w v y 0 j = R 0 j := fun j hj => by rw [nSend_0, if_neg hj]
  have k2 : ∀ a, 11 ≤ a → nSend R n k l t w v y a = R a := fun a ha => by funext j; exact nSend_n ha
  have hfc : fc (nSend R n k l t w v y) = fc R := fc_c (k2 14 (by omega)) (k2 15 (by omega))
  have hz : ∀ x, x ≠ nFree R → nSz (nSend R n k l t w v y) x = nSz R x := by
    intro x hx
    unfold nSz
    rw [nSend_f hx 2 (by omega) (by omega), k0 1 (by omega)]
  refine ⟨?_, sOK_send a2, ?_, ?_, ?_, ?_, ?_⟩
  · obtain ⟨G, E, L, A, B⟩ := a1
    have hcn : ∀ x, 0 ≤ x → x < 90 → 0 ≤ R 17 x := fun x x0 x1 => (a4 x x0 x1).1.1
    refine ⟨G, fun x => if x = nFree R then 0 else E x, fun x => if x = nFree R then 3 * n + nCh k else L x, ?_, ?_⟩
    · rw [hfc, k2 17 (by omega), k2 18 (by omega), k2 11 (by omega)]
      refine nwA_sz A hcn (fun b j b0 b1 j0 j1 => ?_) (fun x x0 x1 hg => ?_)
      · have o := B.1 b j b0 b1 j0 j1
        unfold okF at o
        refine hz _ (fun g => ?_)
        rw [g] at o
        omega
      · have o := B.2.2.2.2.2.1 x x0 x1
        have rx := a2.2.2 x x0 x1
        show nSend R n k l t w v y 9 (128 * x) = R 9 (128 * x)
        rw [e9, if_neg (by
          intro g
          have hx : x = 3 * n + nCh k := by omega
          subst hx
          exact hg (o.2.2 (by omega)))]
    · refine sA_snd (p := nFree R) (q := 3 * n + nCh k) B ⟨f1, f2⟩ f3 (by omega) (fun a x h1 h2 hx => nSend_f hx a h1 h2) k2 ⟨k0 1 (by omega), by rw [nSend_0, if_pos rfl], k0 39 (by omega)⟩ q.1 (by rw [q.2.1]; omega) ?_ (fun x => by rw [nSend_10]) (fun x i x0 x1 i0 i1 => ?_) (fun x => rfl) (fun x => rfl)
      · have : bS (nSend R n k l t w v y) := by
          unfold bS at *
          rw [k0 0 (by omega), k0 1 (by omega)]
          exact a3
        exact (nSz_r this).1
      · rw [nSend_10] at i1
        have rx := a2.2.2 x x0 x1
        rw [e9]
        by_cases g : x = 3 * n + nCh k
        · subst g
          by_cases g2 : i = R 10 (3 * n + nCh k)
          · rw [if_pos (by omega), if_pos ⟨rfl, g2⟩]
          · rw [if_neg (by omega), if_neg (fun w => g2 w.2)]
        · rw [if_neg g] at i1
          rw [if_neg (by omega), if_neg (fun w => g w.1)]
  · unfold bS at *; rw [k0 0 (by omega), k0 1 (by omega)]; exact a3
  · unfold bB at *; rw [k0 0 (by omega), k2 17 (by omega), k2 18 (by omega), k2 19 (by omega)]; exact a4
  · unfold bF at *; rw [k2 14 (by omega), k2 15 (by omega), k2 16 (by omega)]; exact a5
  · intro x x0 x1
    have o := a6 x x0 x1
    rw [k2 12 (by omega), e9]
    refine ⟨?_, o.2⟩
    split
    · exact ⟨f1, f2⟩
    · exact o.1
  · intro x x0 x1 hL hk
    by_cases g : x = nFree R
    · subst g
      rw [q.2.1] at hk
      rw [q.2.2.1, q.2.2.2.1]
      exact hh hk
    · rw [nSend_f g 1 (by omega) (by omega)] at hL
      rw [nSend_f g 2 (by omega) (by omega)] at hk
      rw [nSend_f g 3 (by omega) (by omega), nSend_f g 4 (by omega) (by omega)]
      exact a7 x x0 x1 hL hk
theorem nP_iv {x o : Int} (hn : 0 ≤ n ∧ n < 6) : ∀ (m : Nat) (k : Int) (R : RS), nP R m → nP (nIv n l x o m k R) 0 := by
  intro m
  induction m with
  | zero => intro k R N; exact N
  | succ m ih =>
    intro k R N
    unfold nIv
    split
    · exact ih (k + 1) _ (nP_send N hn (by omega))
    · exact ih (k + 1) R (nP_le N (by omega))
theorem nP_gone {m : Nat} {l x : Int} (N : nP R m) : nP (nGone R l x) m := by
  unfold nGone
  split
  · exact nP_u (nP_u N (by omega)) (by omega)
  · exact nP_u N (by omega)
theorem nP_putm {m : Nat} {l x v : Int} (N : nP R m) : nP (nPutm R l x v) m := by
  unfold nPutm
  split
  · exact nP_u (nP_u (nP_u N (by omega)) (by omega)) (by omega)
  · exact nP_gone N
theorem nP_fin {m : Nat} (N : nP R m) : nP (nFin R n l) m := by
  unfold nFin
  exact nP_u (nP_u (nP_u (nP_u N (by omega)) (by omega)) (by omega)) (by omega)
theorem nP_bec {m : Nat} {s : Int} (N : nP R m) : nP (nBec R n l s) m := by
  unfold nBec
  exact nP_u (nP_fin (nP_u N (by omega))) (by omega)
theorem nP_tak (N : nP R (6 + 1)) (hn : 0 ≤ n ∧ n < 6) : nP (nTak R n p).2 0 := by
  have N0 : nP R 0 := nP_le N (by omega)
  have N1 : nP R (0 + 1) := nP_le N (by omega)
  have N2 : nP R (0 + 1 + 1) := nP_le N (by omega)
  unfold nTak
  by_cases c0 : R 2 p = 0
  · rw [if_pos c0]
    unfold nGets
    split
    · exact N0
    · split
      · exact nP_u (nP_u (nP_u (nP_send N1 hn (by omega)) (by omega)) (by omega)) (by omega)
      · exact nP_u (nP_u (nP_send N1 hn (by omega)) (by omega)) (by omega)
  rw [if_neg c0]
  by_cases c1 : R 2 p = 1
  · rw [if_pos c1]
    unfold nGetm
    split
    · exact N0
    · split
      · exact nP_u (nP_send N1 hn (by omega)) (by omega)
      · exact nP_u (nP_u (nP_u (nP_iv hn 6 0 _ (nP_send N hn (by omega))) (by omega)) (by omega)) (by omega)
  rw [if_neg c1]
  by_cases c2 : R 2 p = 2
  · rw [if_pos c2]
    exact nP_send (nP_gone N1) hn (by omega)
  rw [if_neg c2]
  by_cases c3 : R 2 p = 3
  · rw [if_pos c3]
    exact nP_send (nP_putm N1) hn (by omega)
  rw [if_neg c3]
  by_cases c4 : R 2 p = 4
  · rw [if_pos c4]
    unfold nFwdS
    split
    · exact nP_u (nP_send (nP_send N2 hn (by omega)) hn (fun _ => rfl)) (by omega)
    · split
      · exact nP_u (nP_send (nP_send N2 hn (by omega)) hn (fun _ => rfl)) (by omega)
      · exact N0
  rw [if_neg c4]
  by_cases c5 : R 2 p = 5
  · rw [if_pos c5]
    unfold nFwdM
    split
    · exact nP_u (nP_u (nP_send N1 hn (by omega)) (by omega)) (by omega)
    · split
      · exact nP_u (nP_send N1 hn (by omega)) (by omega)
      · exact N0
  rw [if_neg c5]
  by_cases c6 : R 2 p = 6
  · rw [if_pos c6]
    unfold nIvl
    split
    · exact nP_send (nP_u (nP_u N1 (by omega)) (by omega)) hn (by omega)
    · split
      · exact nP_send (nP_u N1 (by omega)) hn (by omega)
      · split
        · exact nP_send (nP_u N1 (by omega)) hn (by omega)
        · exact N0
  rw [if_neg c6]
  by_cases c7 : R 2 p = 7
  · rw [if_pos c7]
    exact nP_u (nP_u N0 (by omega)) (by omega)
  rw [if_neg c7]
  by_cases c8 : R 2 p = 8
  · rw [if_pos c8]
    unfold nDat
    split
    · exact nP_bec (nP_u (nP_u N0 (by omega)) (by omega))
    · split
      · exact nP_bec (nP_u (nP_u N0 (by omega)) (by omega))
      · exact nP_u (nP_u (nP_u N0 (by omega)) (by omega)) (by omega)
  rw [if_neg c8]
  by_cases c9 : R 2 p = 9
  · rw [if_pos c9]
    unfold nAck
    split
    · exact nP_bec (nP_u N0 (by omega))
    · exact nP_u N0 (by omega)
  rw [if_neg c9]
  dsimp only
  split
  · exact nP_u (nP_u N0 (by omega)) (by omega)
  · exact nP_u N0 (by omega)
theorem nP_core (N : nP R (0 + 1)) (hn : 0 ≤ n ∧ n < 6) : nP (nCore R n) 0 := by
  have N0 : nP R 0 := nP_le N (by omega)
  unfold nCore
  split
  rotate_left
  · exact N0
  split
  · exact N0
  split
  · exact nP_u N0 (by omega)
  unfold nCore1
  split
  · exact nP_fin N0
  split
  · exact nP_u (nP_send N hn (fun _ => rfl)) (by omega)
  split
  rotate_left
  · exact N0
  split
  · unfold nEvict
    split
    · exact N0
    split
    · exact nP_u (nP_send N hn (fun _ => rfl)) (by omega)
    · exact nP_u (nP_send N hn (fun _ => rfl)) (by omega)
  split
  · exact nP_u (nP_send N hn (fun _ => rfl)) (by omega)
  · exact nP_u (nP_send N hn (fun _ => rfl)) (by omega)
end Net8
