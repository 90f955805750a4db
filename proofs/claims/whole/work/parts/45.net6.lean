/-! The network's invariant for the reference's numbers: a flit enters -/
section Net6
variable {R T : RS} {G E L : Int → Int} {n o c p : Int}
def ntI' (R : RS) (G E L : Int → Int) : Prop := nwA (nSz R) (R 17) (fc R) (R 18) G (R 11) (fun q => R 9 (128 * q)) ∧ sA R G E L
def ntI (R : RS) : Prop := ∃ G E L, ntI' R G E L
def bS (R : RS) : Prop := (1 ≤ R 0 0 ∧ R 0 0 ≤ 4) ∧ (2 ≤ R 0 1 ∧ R 0 1 ≤ 5)
theorem nSz_r (g : bS R) : 1 ≤ nSz R p ∧ nSz R p ≤ 5 := by
  unfold nSz
  have := g.2
  split <;> omega
theorem nLc_le {w : Int → Nat} (hw : ∀ x, w x ≤ 1) : nLc R L w ≤ lvC R := by
  unfold nLc lvC
  refine sN_mono (fun i _ => ?_)
  split
  · rename_i h
    rw [h]
    exact hw _
  · exact Nat.zero_le _
theorem wq_1 (q : Int) : ∀ x, wq q x ≤ 1 := by
  intro x
  unfold wq
  split <;> omega
theorem row_le (A : sA R G E L) (hv : lvC R ≤ 127) : ∀ q, 0 ≤ q → q < 18 → (0 ≤ R 10 q ∧ R 10 q ≤ lvC R ∧ R 10 q ≤ 127) ∧ (0 ≤ R 13 q ∧ R 13 q ≤ lvC R ∧ R 13 q ≤ 127) := by
  intro q q0 q1
  have o := A.2.2.2.2.2.2.2.2.1 q q0 q1
  have l1 := nLc_le (R := R) (L := L) (wq_1 q)
  have l2 := nLc_le (R := R) (L := L) (wq_1 (19 + q))
  omega
theorem fc_c (h1 : T 14 = R 14) (h2 : T 15 = R 15) : fc T = fc R := by
  funext b j
  unfold fc
  rw [h1, h2]
theorem app_17 {b m x : Int} : nApp R b p m 17 x = if x = b then R 17 x + 1 else R 17 x := by
  unfold nApp
  rw [up3_eq]
  simp (disch := omega) only [u3n, true_and]
  split
  · rename_i h; rw [h]
  · rfl
theorem app_fc {b m x j : Int} (hj : 0 ≤ j ∧ j < 4) (hb : 0 ≤ R 17 b ∧ R 17 b < 4) : fc (nApp R b p m) x j = if x = b ∧ j = R 17 x then 8 * p + m else fc R x j := by
  unfold fc nApp
  simp (disch := omega) only [u3n]
  rw [up3_eq, up3_eq]
  simp (disch := omega) only [u3n, true_and]
  by_cases h : x = b ∧ j = R 17 x
  · rw [if_pos h]
    have : 4 * x + j = 4 * b + R 17 b := by
      rw [h.2, h.1]
    rw [if_pos this, if_pos this]
  · rw [if_neg h]
    have : ¬(4 * x + j = 4 * b + R 17 b) := by
      intro g
      have hx : x = b := by omega
      subst hx
      exact h ⟨rfl, by omega⟩
    rw [if_neg this, if_neg this]
theorem nSh_n {s : Nat → Bool} {lo hi : Int} {a : Nat} (h : s a = false) : nSh s R lo hi a = R a := by
  funext j
  unfold nSh
  rw [if_neg (by rw [h]; simp)]
theorem ntI_inj (N : ntI R) (hv : lvC R ≤ 127) (gB : bB R) (gS : bS R) (h : rn n 4 c) : ntI (nInj R n c) := by
  obtain ⟨G, E, L, A, B⟩ := N
  have hr := h
  unfold rn at hr
  have rl := row_le B hv
  have r1 := rl (3 * n + c) (by omega) (by omega)
  unfold nInj
  by_cases h0 : R 10 (3 * n + c) = 0
  · rw [if_pos h0]; exact ⟨G, E, L, A, B⟩
  rw [if_neg h0]
  by_cases hf : R 17 (15 * n + 12 + c) = R 0 0
  · rw [if_pos hf]; exact ⟨G, E, L, A, B⟩
  rw [if_neg hf]
  have g1 := gB (15 * n + 12 + c) (by omega) (by omega)
  have hg := (B.2.2.2.2.2.1 (3 * n + c) (by omega) (by omega)).2.1 (by omega)
  have r4 := B.2.2.2.1 (3 * n + c) 0 (by omega) (by omega) (by omega) (by omega)
  rw [Int.add_zero] at r4
  have hcn : ∀ x, 0 ≤ x → x < 90 → 0 ≤ R 17 x := fun x x0 x1 => (gB x x0 x1).1.1
  have z5 := nSz_r gS (p := R 9 (128 * (3 * n + c)))
  by_cases hl : R 11 (3 * n + c) + 1 = nSz R (R 9 (128 * (3 * n + c)))
  · rw [if_pos hl]
    have k : ∀ a, a ≠ 9 ∧ a ≠ 10 ∧ a ≠ 11 ∧ a ≠ 14 ∧ a ≠ 15 ∧ a ≠ 16 ∧ a ≠ 17 → nSh sW (up3 (up3 (nApp R (15 * n + 12 + c) (R 9 (128 * (3 * n + c))) (R 11 (3 * n + c))) 11 (3 * n + c) 0) 10 (3 * n + c) (R 10 (3 * n + c) - 1)) (128 * (3 * n + c)) (128 * (3 * n + c) + (R 10 (3 * n + c) - 1)) a = R a := by
      intro a ha
      rw [nSh_n (by unfold sW; simp; omega), u3f (by omega), u3f (by omega)]
      funext j
      exact nApp_n (by omega)
    have e11 : ∀ q, nSh sW (up3 (up3 (nApp R (15 * n + 12 + c) (R 9 (128 * (3 * n + c))) (R 11 (3 * n + c))) 11 (3 * n + c) 0) 10 (3 * n + c) (R 10 (3 * n + c) - 1)) (128 * (3 * n + c)) (128 * (3 * n + c) + (R 10 (3 * n + c) - 1)) 11 q = if q = 3 * n + c then 0 else R 11 q := by
      intro q
      rw [nSh_n (by decide), u3n (by omega), up3_eq, nApp_n (by omega)]
      simp only [true_and]
    have e10 : ∀ q, nSh sW (up3 (up3 (nApp R (15 * n + 12 + c) (R 9 (128 * (3 * n + c))) (R 11 (3 * n + c))) 11 (3 * n + c) 0) 10 (3 * n + c) (R 10 (3 * n + c) - 1)) (128 * (3 * n + c)) (128 * (3 * n + c) + (R 10 (3 * n + c) - 1)) 10 q = if q = 3 * n + c then R 10 q - 1 else R 10 q := by
      intro q
      rw [nSh_n (by decide), up3_eq, u3n (by omega), nApp_n (by omega)]
      simp only [true_and]
      split
      · rename_i g; rw [g]
      · rfl
    have e17 : ∀ x, nSh sW (up3 (up3 (nApp R (15 * n + 12 + c) (R 9 (128 * (3 * n + c))) (R 11 (3 * n + c))) 11 (3 * n + c) 0) 10 (3 * n + c) (R 10 (3 * n + c) - 1)) (128 * (3 * n + c)) (128 * (3 * n + c) + (R 10 (3 * n + c) - 1)) 17 x = if x = 15 * n + 12 + c then R 17 x + 1 else R 17 x := by
      intro x
      rw [nSh_n (by decide), u3n (by omega), u3n (by omega), app_17]
    have e9 : ∀ y, nSh sW (up3 (up3 (nApp R (15 * n + 12 + c) (R 9 (128 * (3 * n + c))) (R 11 (3 * n + c))) 11 (3 * n + c) 0) 10 (3 * n + c) (R 10 (3 * n + c) - 1)) (128 * (3 * n + c)) (128 * (3 * n + c) + (R 10 (3 * n + c) - 1)) 9 y = if 128 * (3 * n + c) ≤ y ∧ y < 128 * (3 * n + c) + (R 10 (3 * n + c) - 1) then R 9 (y + 1) else R 9 y := by
      intro y
      unfold nSh
      simp (disch := omega) only [u3n, nApp_n, show sW 9 = true from rfl, true_and]
    have ef : fc (nSh sW (up3 (up3 (nApp R (15 * n + 12 + c) (R 9 (128 * (3 * n + c))) (R 11 (3 * n + c))) 11 (3 * n + c) 0) 10 (3 * n + c) (R 10 (3 * n + c) - 1)) (128 * (3 * n + c)) (128 * (3 * n + c) + (R 10 (3 * n + c) - 1))) = fc (nApp R (15 * n + 12 + c) (R 9 (128 * (3 * n + c))) (R 11 (3 * n + c))) := by
      refine fc_c ?_ ?_
      · rw [nSh_n (by decide), u3f (by omega), u3f (by omega)]
      · rw [nSh_n (by decide), u3f (by omega), u3f (by omega)]
    generalize nSh sW (up3 (up3 (nApp R (15 * n + 12 + c) (R 9 (128 * (3 * n + c))) (R 11 (3 * n + c))) 11 (3 * n + c) 0) 10 (3 * n + c) (R 10 (3 * n + c) - 1)) (128 * (3 * n + c)) (128 * (3 * n + c) + (R 10 (3 * n + c) - 1)) = T at *
    have hz : nSz T = nSz R := nSz_c (by rw [k 0 (by omega)]) (k 2 (by omega))
    have ef2 : ∀ x j, 0 ≤ x → x < 90 → 0 ≤ j → j < T 17 x → fc T x j = if x = 15 * n + 12 + c ∧ j = R 17 x then 8 * R 9 (128 * (3 * n + c)) + R 11 (3 * n + c) else fc R x j := by
      intro x j x0 x1 j0 j1
      have gx := gB x x0 x1
      have gs := gS.1
      rw [e17] at j1
      rw [ef]
      refine app_fc ⟨j0, ?_⟩ (by omega)
      split at j1
      · rename_i w; rw [w] at j1; omega
      · omega
    refine ⟨G, E, fun x => if x = R 9 (128 * (3 * n + c)) then 18 else L x, ?_, ?_⟩
    · rw [hz, k 18 (by omega)]
      refine nwA_inj A h (by omega) (by omega) r4.1 e17 ef2 hcn (fun q => ?_) (fun q hq hq2 => ?_)
      · rw [e11]
        by_cases g : q = 3 * n + c
        · rw [if_pos g, if_pos g, g, if_pos hl]
        · rw [if_neg g, if_neg g]
      · show T 9 (128 * q) = R 9 (128 * q)
        have g : q ≠ 3 * n + c := by
          intro g
          rw [e11, if_pos g] at hq2
          exact hq2 rfl
        rw [e9, if_neg (by omega)]
    · refine sA_in2 B h (by omega) (by omega) rfl hl k e11 e10 (fun q i q0 q1 i0 i1 => ?_) e17 ef2 z5.2 (fun x => (nSz_r gS).1) (fun x => rfl)
      rw [e10] at i1
      have rq := rl q q0 q1
      rw [e9]
      by_cases g : q = 3 * n + c
      · rw [if_pos g] at i1
        subst g
        rw [if_pos (by omega), if_pos rfl]
        congr 1
        omega
      · rw [if_neg g] at i1
        rw [if_neg (by omega), if_neg g]
  · rw [if_neg hl]
    have k : ∀ a, a ≠ 11 ∧ a ≠ 14 ∧ a ≠ 15 ∧ a ≠ 16 ∧ a ≠ 17 → up3 (nApp R (15 * n + 12 + c) (R 9 (128 * (3 * n + c))) (R 11 (3 * n + c))) 11 (3 * n + c) (R 11 (3 * n + c) + 1) a = R a := by
      intro a ha
      rw [u3f (by omega)]
      funext j
      exact nApp_n (by omega)
    have e11 : ∀ q, up3 (nApp R (15 * n + 12 + c) (R 9 (128 * (3 * n + c))) (R 11 (3 * n + c))) 11 (3 * n + c) (R 11 (3 * n + c) + 1) 11 q = if q = 3 * n + c then R 11 q + 1 else R 11 q := by
      intro q
      rw [up3_eq, nApp_n (by omega)]
      simp only [true_and]
      split
      · rename_i g; rw [g]
      · rfl
    have e17 : ∀ x, up3 (nApp R (15 * n + 12 + c) (R 9 (128 * (3 * n + c))) (R 11 (3 * n + c))) 11 (3 * n + c) (R 11 (3 * n + c) + 1) 17 x = if x = 15 * n + 12 + c then R 17 x + 1 else R 17 x := by
      intro x
      rw [u3n (by omega), app_17]
    have ef : fc (up3 (nApp R (15 * n + 12 + c) (R 9 (128 * (3 * n + c))) (R 11 (3 * n + c))) 11 (3 * n + c) (R 11 (3 * n + c) + 1)) = fc (nApp R (15 * n + 12 + c) (R 9 (128 * (3 * n + c))) (R 11 (3 * n + c))) := fc_c (u3f (by omega)) (u3f (by omega))
    generalize up3 (nApp R (15 * n + 12 + c) (R 9 (128 * (3 * n + c))) (R 11 (3 * n + c))) 11 (3 * n + c) (R 11 (3 * n + c) + 1) = T at *
    have hz : nSz T = nSz R := nSz_c (by rw [k 0 (by omega)]) (k 2 (by omega))
    have ef2 : ∀ x j, 0 ≤ x → x < 90 → 0 ≤ j → j < T 17 x → fc T x j = if x = 15 * n + 12 + c ∧ j = R 17 x then 8 * R 9 (128 * (3 * n + c)) + R 11 (3 * n + c) else fc R x j := by
      intro x j x0 x1 j0 j1
      have gx := gB x x0 x1
      have gs := gS.1
      rw [e17] at j1
      rw [ef]
      refine app_fc ⟨j0, ?_⟩ (by omega)
      split at j1
      · rename_i w; rw [w] at j1; omega
      · omega
    refine ⟨G, E, L, ?_, ?_⟩
    · rw [hz, k 18 (by omega)]
      refine nwA_inj A h (by omega) (by omega) r4.1 e17 ef2 hcn (fun q => ?_) (fun q hq hq2 => ?_)
      · rw [e11]
        by_cases g : q = 3 * n + c
        · rw [if_pos g, if_pos g, g, if_neg hl]
        · rw [if_neg g, if_neg g]
      · show T 9 (128 * q) = R 9 (128 * q)
        rw [k 9 (by omega)]
    · exact sA_in1 B h (by omega) (by omega) hl k e11 e17 ef2 z5.2
end Net6
