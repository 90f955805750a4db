/-! The network's invariant for the reference's numbers: a flit moves -/
section Net7
variable {R T : RS} {G E L : Int → Int} {n o c p : Int}
theorem way_om {t : Int} (hn : 0 ≤ n ∧ n < 6) (ht : 0 ≤ t ∧ t ≤ 5) (h : nWay n t = o) : (o = 4 ∧ t = n) ∨ om n o := by
  unfold nWay at h
  unfold om
  grind (splits := 40)
theorem nSc_sp {L0 : Int} : ∀ (m : Nat) (k : Int), 0 ≤ nSc R n o c L0 m k → nHd R n o c (nSc R n o c L0 m k) ∧ nSc R n o c L0 m k ≤ 4 := by
  intro m
  induction m with
  | zero =>
    intro k h
    unfold nSc at h
    omega
  | succ m ih =>
    intro k h
    unfold nSc at h ⊢
    by_cases g : 0 < R 17 (15 * n + 3 * ((L0 + k) % 5) + c) ∧ R 15 (4 * (15 * n + 3 * ((L0 + k) % 5) + c)) = 0 ∧ nWay n (R 4 (R 14 (4 * (15 * n + 3 * ((L0 + k) % 5) + c)))) = o
    · rw [if_pos g]
      exact ⟨g, by omega⟩
    · rw [if_neg g] at h ⊢
      exact ih (k + 1) h
-- a served output lies on the mesh
theorem sv_sp (N : ntI R) (gP : bP R) (gF : bF R) (h : rn n o c) (hp : 0 ≤ nSv R n o c) :
    nSv R n o c ≤ 4 ∧ ((o = 4 ∨ om n o) ∧ (R 18 (15 * n + 3 * o + c) = nSv R n o c ∨ (R 18 (15 * n + 3 * o + c) < 0 ∧ 0 < R 17 (15 * n + 3 * nSv R n o c + c) ∧ R 15 (4 * (15 * n + 3 * nSv R n o c + c)) = 0 ∧ (o = 4 → R 4 (R 14 (4 * (15 * n + 3 * nSv R n o c + c))) = n)))) := by
  obtain ⟨G, E, L, A, B⟩ := N
  have hr := h
  unfold rn at hr
  unfold nSv at hp ⊢
  by_cases h0 : R 18 (15 * n + 3 * o + c) < 0
  · rw [if_pos h0] at hp ⊢
    obtain ⟨⟨q1, q2, q3⟩, q4⟩ := nSc_sp 5 1 hp
    generalize nSc R n o c (R 19 (15 * n + 3 * o + c)) 5 1 = p at *
    have f := gF (4 * (15 * n + 3 * p + c)) (by omega) (by omega)
    have t := gP (R 14 (4 * (15 * n + 3 * p + c))) f.1.1 f.1.2
    have w := way_om ⟨hr.1, hr.2.1⟩ t.2.2.2.1 q3
    refine ⟨q4, ?_, Or.inr ⟨h0, q1, q2, fun g => ?_⟩⟩
    · rcases w with w | w
      · exact Or.inl w.1
      · exact Or.inr w
    · rcases w with w | w
      · exact w.2
      · unfold om at w
        omega
  · rw [if_neg h0] at hp ⊢
    have a4 := A.2.2.2.1 n o c h (by omega)
    exact ⟨a4.1, a4.2.2, Or.inl rfl⟩
theorem rem_fc {b x j : Int} (hj : 0 ≤ j ∧ j < 4) (hb : 0 < R 17 b ∧ R 17 b ≤ 4) : fc (nRem R b) x j = if x = b ∧ j < R 17 b - 1 then fc R x (j + 1) else fc R x j := by
  unfold fc nRem nSh
  simp (disch := omega) only [u3n, show sB 14 = true from rfl, show sB 15 = true from rfl, true_and]
  by_cases h : x = b ∧ j < R 17 b - 1
  · rw [if_pos h]
    obtain ⟨h1, h2⟩ := h
    subst h1
    rw [if_pos (by omega), if_pos (by omega)]
    simp only [Int.add_assoc]
  · rw [if_neg h]
    have : ¬(4 * b ≤ 4 * x + j ∧ 4 * x + j < 4 * b + (R 17 b - 1)) := by
      intro g
      have hx : x = b := by omega
      exact h ⟨hx, by omega⟩
    rw [if_neg this, if_neg this]
theorem ntI_mv2 (N : ntI R) (gB : bB R) (gS : bS R) (gF : bF R) (h : rn n o c) (hp : 0 ≤ p ∧ p ≤ 4) (ho : o = 4 ∨ om n o) (hc : 0 < R 17 (15 * n + 3 * p + c)) (hf : o ≠ 4 → R 17 (nTg n o c) < R 0 0)
    (hs : R 18 (15 * n + 3 * o + c) = p ∨ (R 18 (15 * n + 3 * o + c) < 0 ∧ 0 < R 17 (15 * n + 3 * p + c) ∧ R 15 (4 * (15 * n + 3 * p + c)) = 0 ∧ (o = 4 → R 4 (R 14 (4 * (15 * n + 3 * p + c))) = n))) (hv : lvC R ≤ 127) : ntI (nMv2 R n o c p).2 := by
  obtain ⟨G, E, L, A, B⟩ := N
  have hr := h
  unfold rn at hr
  have gb := gB (15 * n + 3 * p + c) (by omega) (by omega)
  have gs := gS.1
  have gf := gF (4 * (15 * n + 3 * p + c)) (by omega) (by omega)
  have x0 : fc R (15 * n + 3 * p + c) 0 = 8 * R 14 (4 * (15 * n + 3 * p + c)) + R 15 (4 * (15 * n + 3 * p + c)) := by unfold fc; rw [Int.add_zero]
  have x8 : fc R (15 * n + 3 * p + c) 0 / 8 = R 14 (4 * (15 * n + 3 * p + c)) := by omega
  have x7 : fc R (15 * n + 3 * p + c) 0 % 8 = R 15 (4 * (15 * n + 3 * p + c)) := by omega
  have z5 := nSz_r gS (p := R 14 (4 * (15 * n + 3 * p + c)))
  have hs' : R 18 (15 * n + 3 * o + c) = p ∨ (R 18 (15 * n + 3 * o + c) < 0 ∧ fc R (15 * n + 3 * p + c) 0 % 8 = 0) := by
    rcases hs with w | w
    · exact Or.inl w
    · exact Or.inr ⟨w.1, by omega⟩
  have uni := nwA_uni A h hp hc hs'
  have hcn : ∀ x, 0 ≤ x → x < 90 → 0 ≤ R 17 x := fun x x0 x1 => (gB x x0 x1).1.1
  have nxl : (nx (nSz R) (fc R (15 * n + 3 * p + c) 0) = -1) ↔ R 15 (4 * (15 * n + 3 * p + c)) = nSz R (R 14 (4 * (15 * n + 3 * p + c))) - 1 := by
    unfold nx
    rw [x8, x7]
    split <;> omega
  -- the part that all moves share
  have m17 : ∀ x, nMv1 R n o c p 17 x = if x = 15 * n + 3 * p + c then R 17 x - 1 else R 17 x := by
    intro x
    unfold nMv1
    rw [u3n (by omega), u3n (by omega), nRem_17]
    split
    · rename_i g; rw [g]
    · rfl
  have m18 : ∀ x, nMv1 R n o c p 18 x = if x = 15 * n + 3 * o + c then (if nx (nSz R) (fc R (15 * n + 3 * p + c) 0) = -1 then -1 else p) else R 18 x := by
    intro x
    unfold nMv1
    rw [up3_eq, u3n (by omega), nRem_n (by omega)]
    simp only [true_and, nxl]
  have mk : ∀ a, (a < 14 ∨ 19 < a) → nMv1 R n o c p a = R a := by
    intro a ha
    unfold nMv1
    rw [u3f (by omega), u3f (by omega)]
    funext j
    exact nRem_n (by omega)
  have mfc : fc (nMv1 R n o c p) = fc (nRem R (15 * n + 3 * p + c)) := by
    unfold nMv1
    exact fc_c ((u3f (by omega)).trans (u3f (by omega))) ((u3f (by omega)).trans (u3f (by omega)))
  have hmt := (A.1 (15 * n + 3 * p + c) (by omega) (by omega)).1 hc
  unfold nMv2
  by_cases h4 : o = 4
  · have tg : nTg n o c = -1 := by unfold nTg; rw [if_pos h4]
    rw [if_neg (by omega)]
    subst h4
    have e4 : (15 * n + 3 * 4 + c) = 15 * n + 12 + c := by omega
    rw [e4] at hs hs' m18
    have ff := ex_f B h hp hc hmt (fun g => by
      have := A.2.2.2.1 n 4 c h (by rw [e4]; omega)
      rw [e4, g] at this
      exact this.2.1) (by
      rcases hs with w | w
      · exact Or.inl w
      · exact Or.inr ⟨w.1, by omega, by rw [x8]; exact w.2.2.2 rfl⟩)
    have e17 : ∀ T : RS, T 17 = nMv1 R n 4 c p 17 → mv17 R T n 4 c p := by
      intro T g x
      rw [g, m17]
      split
      · rfl
      · rw [if_neg (by simp)]
    have ef : ∀ T : RS, T 17 = nMv1 R n 4 c p 17 → fc T = fc (nMv1 R n 4 c p) → mvf R T n 4 c p := by
      intro T g1 g2 x j x0 x1 j0 j1
      have gx := gB x x0 x1
      rw [g1, m17] at j1
      rw [g2, mfc, rem_fc ⟨j0, by split at j1 <;> omega⟩ (by omega)]
      by_cases hx : x = 15 * n + 3 * p + c
      · rw [if_pos hx] at j1
        rw [hx] at j1
        rw [if_pos hx, if_pos ⟨hx, by omega⟩]
      · rw [if_neg hx, if_neg (fun w => hx w.1), if_neg (by simp)]
    by_cases hl : R 15 (4 * (15 * n + 3 * p + c)) = nSz R (R 14 (4 * (15 * n + 3 * p + c))) - 1
    · rw [if_pos hl]
      dsimp only
      have hnx := nxl.2 hl
      rw [hnx, if_pos rfl] at m18
      have rl := row_le B hv
      have k17 : up3 (up3 (up3 (nMv1 R n 4 c p) 12 (128 * (3 * n + c) + R 13 (3 * n + c)) (R 14 (4 * (15 * n + 3 * p + c)))) 13 (3 * n + c) (R 13 (3 * n + c) + 1)) 0 39 (R 0 39 + 1) 17 = nMv1 R n 4 c p 17 := by
        rw [u3f (by omega), u3f (by omega), u3f (by omega)]
      have kfc : fc (up3 (up3 (up3 (nMv1 R n 4 c p) 12 (128 * (3 * n + c) + R 13 (3 * n + c)) (R 14 (4 * (15 * n + 3 * p + c)))) 13 (3 * n + c) (R 13 (3 * n + c) + 1)) 0 39 (R 0 39 + 1)) = fc (nMv1 R n 4 c p) :=
        fc_c ((u3f (by omega)).trans ((u3f (by omega)).trans (u3f (by omega)))) ((u3f (by omega)).trans ((u3f (by omega)).trans (u3f (by omega))))
      have kk : ∀ a, a ≠ 0 → a ≠ 12 → a ≠ 13 → up3 (up3 (up3 (nMv1 R n 4 c p) 12 (128 * (3 * n + c) + R 13 (3 * n + c)) (R 14 (4 * (15 * n + 3 * p + c)))) 13 (3 * n + c) (R 13 (3 * n + c) + 1)) 0 39 (R 0 39 + 1) a = nMv1 R n 4 c p a := by
        intro a q1 q2 q3
        rw [u3f (by omega), u3f (by omega), u3f (by omega)]
      have k0 : ∀ j, up3 (up3 (up3 (nMv1 R n 4 c p) 12 (128 * (3 * n + c) + R 13 (3 * n + c)) (R 14 (4 * (15 * n + 3 * p + c)))) 13 (3 * n + c) (R 13 (3 * n + c) + 1)) 0 39 (R 0 39 + 1) 0 j = if j = 39 then R 0 39 + 1 else R 0 j := by
        intro j
        rw [up3_eq, u3n (by omega), u3n (by omega), mk 0 (by omega)]
        simp only [true_and]
      have k13 : ∀ q, up3 (up3 (up3 (nMv1 R n 4 c p) 12 (128 * (3 * n + c) + R 13 (3 * n + c)) (R 14 (4 * (15 * n + 3 * p + c)))) 13 (3 * n + c) (R 13 (3 * n + c) + 1)) 0 39 (R 0 39 + 1) 13 q = if q = 3 * n + c then R 13 q + 1 else R 13 q := by
        intro q
        rw [u3n (by omega), up3_eq, u3n (by omega), mk 13 (by omega)]
        simp only [true_and]
        split
        · rename_i g; rw [g]
        · rfl
      have k12 : ∀ y, up3 (up3 (up3 (nMv1 R n 4 c p) 12 (128 * (3 * n + c) + R 13 (3 * n + c)) (R 14 (4 * (15 * n + 3 * p + c)))) 13 (3 * n + c) (R 13 (3 * n + c) + 1)) 0 39 (R 0 39 + 1) 12 y = if y = 128 * (3 * n + c) + R 13 (3 * n + c) then R 14 (4 * (15 * n + 3 * p + c)) else R 12 y := by
        intro y
        rw [u3n (by omega), u3n (by omega), up3_eq, mk 12 (by omega)]
        simp only [true_and]
      generalize up3 (up3 (up3 (nMv1 R n 4 c p) 12 (128 * (3 * n + c) + R 13 (3 * n + c)) (R 14 (4 * (15 * n + 3 * p + c)))) 13 (3 * n + c) (R 13 (3 * n + c) + 1)) 0 39 (R 0 39 + 1) = T at *
      have hz : nSz T = nSz R := nSz_c (by rw [k0, if_neg (by omega)]) (by rw [kk 2 (by omega) (by omega) (by omega), mk 2 (by omega)])
      refine ⟨fun x => if x = 15 * n + 3 * p + c then nx (nSz R) (fc R (15 * n + 3 * p + c) 0) else G x, fun y => if y = fc R (15 * n + 3 * p + c) 0 / 8 then fc R (15 * n + 3 * p + c) 0 % 8 + 1 else E y, fun y => if y = fc R (15 * n + 3 * p + c) 0 / 8 then 19 + (3 * n + c) else L y, ?_, ?_⟩
      · rw [hz, kk 11 (by omega) (by omega) (by omega), mk 11 (by omega), kk 9 (by omega) (by omega) (by omega), mk 9 (by omega)]
        refine nwA_mv A h (Or.inl rfl) hp hcn hc (by omega) (by rw [e4]; exact hs') (e17 T k17) (ef T k17 kfc) (fun x => ?_) (fun x => rfl)
        rw [kk 18 (by omega) (by omega) (by omega), m18, e4, hnx, if_pos rfl]
      · refine sA_ex2 B h hp hc (e17 T k17) (ef T k17 kfc) uni rfl (by rw [x8, x7]; omega) ff.1 ff.2.1 ff.2.2 (fun a q0 q1 q2 q3 => by rw [kk a q0 q1 q2, mk a q3]) ⟨by rw [k0, if_neg (by omega)], by rw [k0, if_neg (by omega)], by rw [k0, if_pos rfl]⟩ (fun y => by rw [kk 18 (by omega) (by omega) (by omega), m18]) (fun y hy => if_neg hy) k13 (fun q i q0 q1 i0 i1 => ?_) (fun y => rfl) (fun y => rfl)
        rw [k13] at i1
        have rq := rl q q0 q1
        have rq2 := rl (3 * n + c) (by omega) (by omega)
        rw [k12, x8]
        by_cases g : q = 3 * n + c
        · subst g
          rw [if_pos rfl] at i1
          by_cases g2 : i = R 13 (3 * n + c)
          · rw [if_pos (by omega), if_pos ⟨rfl, g2⟩]
          · rw [if_neg (by omega), if_neg (fun w => g2 w.2)]
        · rw [if_neg g] at i1
          rw [if_neg (by omega), if_neg (fun w => g w.1)]
    · rw [if_neg hl]
      dsimp only
      have hnx : nx (nSz R) (fc R (15 * n + 3 * p + c) 0) ≠ -1 := fun g => hl (nxl.1 g)
      have hz : nSz (nMv1 R n 4 c p) = nSz R := nSz_c (by rw [mk 0 (by omega)]) (mk 2 (by omega))
      refine ⟨fun x => if x = 15 * n + 3 * p + c then nx (nSz R) (fc R (15 * n + 3 * p + c) 0) else G x, fun y => if y = fc R (15 * n + 3 * p + c) 0 / 8 then fc R (15 * n + 3 * p + c) 0 % 8 + 1 else E y, L, ?_, ?_⟩
      · rw [hz, mk 11 (by omega), mk 9 (by omega)]
        refine nwA_mv A h (Or.inl rfl) hp hcn hc (by omega) (by rw [e4]; exact hs') (e17 _ rfl) (ef _ rfl rfl) (fun x => ?_) (fun x => rfl)
        rw [m18, e4]
      · rw [if_neg hnx] at m18
        refine sA_ex1 B h hp hc (e17 _ rfl) (ef _ rfl rfl) uni rfl (by rw [x8, x7]; omega) (by rw [x8]; exact z5.2) ff.1 ff.2.1 ff.2.2 mk m18 (fun y => ?_) (fun y => rfl)
        show (if y = 15 * n + 3 * p + c then nx (nSz R) (fc R (15 * n + 3 * p + c) 0) else G y) = _
        have : nx (nSz R) (fc R (15 * n + 3 * p + c) 0) = fc R (15 * n + 3 * p + c) 0 + 1 := by
          unfold nx at hnx ⊢
          split at hnx
          · exact absurd rfl hnx
          · rename_i g; rw [if_neg g]
        rw [this]
  · have hm := ho.resolve_left h4
    have t := om_tg h hm
    rw [if_pos (by omega)]
    dsimp only
    have hft := hf h4
    have gt := gB (nTg n o c) t.1 t.2.1
    have hne := tg_ne h hm p hp
    have k17 : ∀ x, up3 (nApp (nMv1 R n o c p) (nTg n o c) (R 14 (4 * (15 * n + 3 * p + c))) (R 15 (4 * (15 * n + 3 * p + c)))) 0 40 (R 0 40 + 1) 17 x = if x = 15 * n + 3 * p + c then R 17 x - 1 else if o ≠ 4 ∧ x = nTg n o c then R 17 x + 1 else R 17 x := by
      intro x
      rw [u3n (by omega), app_17, m17]
      by_cases g1 : x = 15 * n + 3 * p + c
      · rw [if_pos g1, if_neg (fun w => hne (w.symm.trans g1)), if_pos g1]
      · rw [if_neg g1]
        by_cases g2 : x = nTg n o c
        · rw [if_pos g2, if_neg g1, if_pos ⟨h4, g2⟩]
        · rw [if_neg g2, if_neg g1, if_neg (fun w => g2 w.2)]
    have kfc : fc (up3 (nApp (nMv1 R n o c p) (nTg n o c) (R 14 (4 * (15 * n + 3 * p + c))) (R 15 (4 * (15 * n + 3 * p + c)))) 0 40 (R 0 40 + 1)) = fc (nApp (nMv1 R n o c p) (nTg n o c) (R 14 (4 * (15 * n + 3 * p + c))) (R 15 (4 * (15 * n + 3 * p + c)))) := fc_c (u3f (by omega)) (u3f (by omega))
    have kk : ∀ a, a ≠ 0 → (a < 14 ∨ 17 < a) → up3 (nApp (nMv1 R n o c p) (nTg n o c) (R 14 (4 * (15 * n + 3 * p + c))) (R 15 (4 * (15 * n + 3 * p + c)))) 0 40 (R 0 40 + 1) a = nMv1 R n o c p a := by
      intro a q1 q2
      rw [u3f (by omega)]
      funext j
      exact nApp_n (by omega)
    have k0 : ∀ j, j ≠ 40 → up3 (nApp (nMv1 R n o c p) (nTg n o c) (R 14 (4 * (15 * n + 3 * p + c))) (R 15 (4 * (15 * n + 3 * p + c)))) 0 40 (R 0 40 + 1) 0 j = R 0 j := by
      intro j hj
      rw [u3i hj, nApp_n (by omega), mk 0 (by omega)]
    have tm : nMv1 R n o c p 17 (nTg n o c) = R 17 (nTg n o c) := by rw [m17, if_neg hne]
    have ef : ∀ x j, 0 ≤ x → x < 90 → 0 ≤ j → j < (if x = 15 * n + 3 * p + c then R 17 x - 1 else if o ≠ 4 ∧ x = nTg n o c then R 17 x + 1 else R 17 x) → fc (up3 (nApp (nMv1 R n o c p) (nTg n o c) (R 14 (4 * (15 * n + 3 * p + c))) (R 15 (4 * (15 * n + 3 * p + c)))) 0 40 (R 0 40 + 1)) x j = if x = 15 * n + 3 * p + c then fc R x (j + 1) else if (o ≠ 4 ∧ x = nTg n o c) ∧ j = R 17 x then fc R (15 * n + 3 * p + c) 0 else fc R x j := by
      intro x j b0 b1 j0 j1
      have gx := gB x b0 b1
      have j4 : j < 4 := by
        split at j1
        · omega
        · split at j1
          · rename_i w
            rw [w.2] at j1
            omega
          · omega
      rw [kfc, app_fc ⟨j0, j4⟩ (by rw [tm]; omega), mfc, rem_fc ⟨j0, j4⟩ (by omega), m17]
      by_cases g1 : x = 15 * n + 3 * p + c
      · rw [if_pos g1] at j1
        rw [g1] at j1
        rw [if_neg (fun w => hne (w.1.symm.trans g1)), if_pos ⟨g1, by omega⟩, if_pos g1]
      · rw [if_neg g1]
        by_cases g2 : x = nTg n o c ∧ j = R 17 x
        · rw [if_pos g2, if_neg g1, if_pos ⟨⟨h4, g2.1⟩, g2.2⟩, x0]
        · rw [if_neg g2, if_neg (fun w => g1 w.1), if_neg g1, if_neg (fun w => g2 ⟨w.1.2, w.2⟩)]
    generalize up3 (nApp (nMv1 R n o c p) (nTg n o c) (R 14 (4 * (15 * n + 3 * p + c))) (R 15 (4 * (15 * n + 3 * p + c)))) 0 40 (R 0 40 + 1) = T at *
    have hz : nSz T = nSz R := nSz_c (k0 1 (by omega)) (by rw [kk 2 (by omega) (by omega), mk 2 (by omega)])
    have ef2 : mvf R T n o c p := fun x j b0 b1 j0 j1 => ef x j b0 b1 j0 (by rw [← k17]; exact j1)
    refine ⟨fun x => if x = 15 * n + 3 * p + c then nx (nSz R) (fc R (15 * n + 3 * p + c) 0) else G x, E, L, ?_, ?_⟩
    · rw [hz, kk 11 (by omega) (by omega), mk 11 (by omega), kk 9 (by omega) (by omega), mk 9 (by omega)]
      refine nwA_mv A h ho hp hcn hc (by omega) hs' k17 ef2 (fun x => ?_) (fun x => rfl)
      rw [kk 18 (by omega) (by omega), m18]
    · exact sA_mv B h h4 hm hp hc k17 ef2 uni (fun a q0 q1 => by rw [kk a q0 (by omega), mk a q1]) ⟨k0 1 (by omega), k0 38 (by omega), k0 39 (by omega)⟩ (fun x hx => by rw [kk 18 (by omega) (by omega), m18, if_neg hx]) (fun x hx => if_neg hx)
theorem ntI_mv (N : ntI R) (gP : bP R) (gB : bB R) (gS : bS R) (gF : bF R) (hv : lvC R ≤ 127) (h : rn n o c) : ntI (nMv R n o c).2 := by
  unfold nMv
  by_cases h0 : nSv R n o c < 0
  · rw [if_pos h0]; exact N
  rw [if_neg h0]
  obtain ⟨s1, s2, s3⟩ := sv_sp N gP gF h (by omega)
  by_cases h1 : R 17 (15 * n + 3 * nSv R n o c + c) = 0
  · rw [if_pos h1]; exact N
  rw [if_neg h1]
  by_cases h2 : R 16 (4 * (15 * n + 3 * nSv R n o c + c)) = R 0 2
  · rw [if_pos h2]; exact N
  rw [if_neg h2]
  by_cases h3 : 0 ≤ nTg n o c ∧ R 17 (nTg n o c) = R 0 0
  · rw [if_pos h3]; exact N
  rw [if_neg h3]
  have hr := h
  unfold rn at hr
  have gb := gB (15 * n + 3 * nSv R n o c + c) (by omega) (by omega)
  refine ntI_mv2 N gB gS gF h ⟨by omega, s1⟩ s2 (by omega) (fun g => ?_) s3 hv
  have t := om_tg h (s2.resolve_left g)
  have gt := gB (nTg n o c) t.1 t.2.1
  omega
end Net7
