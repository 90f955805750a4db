/-! The whole invariant of the reference: a flit moves -/
section Net10
variable {R T : RS} {n o c p : Int}
theorem app_14 {b m y : Int} : nApp R b p m 14 y = if y = 4 * b + R 17 b then p else R 14 y := by
  unfold nApp
  rw [u3n (by omega), u3n (by omega), u3n (by omega), up3_eq]
  simp only [true_and]
theorem app_15 {b m y : Int} : nApp R b p m 15 y = if y = 4 * b + R 17 b then m else R 15 y := by
  unfold nApp
  rw [u3n (by omega), u3n (by omega), up3_eq, u3n (by omega)]
  simp only [true_and]
theorem app_16 {b m y : Int} : nApp R b p m 16 y = if y = 4 * b + R 17 b then R 0 2 else R 16 y := by
  unfold nApp
  rw [u3n (by omega), up3_eq, u3n (by omega), u3n (by omega)]
  simp only [true_and]
theorem rem_s {b y : Int} {a : Nat} (ha : a = 14 ∨ a = 15 ∨ a = 16) : nRem R b a y = if 4 * b ≤ y ∧ y < 4 * b + (R 17 b - 1) then R a (y + 1) else R a y := by
  unfold nRem nSh
  have : sB a = true := by rcases ha with h | h | h <;> subst h <;> rfl
  simp (disch := omega) only [u3n, this, true_and]
theorem bF_rem (g : bF R) {b : Int} (hb : 0 ≤ b ∧ b < 90) (hc : 0 < R 17 b ∧ R 17 b ≤ 4) : bF (nRem R b) := by
  intro y y0 y1
  rw [rem_s (by omega), rem_s (by omega), rem_s (by omega)]
  by_cases h : 4 * b ≤ y ∧ y < 4 * b + (R 17 b - 1)
  · rw [if_pos h, if_pos h, if_pos h]
    exact g (y + 1) (by omega) (by omega)
  · rw [if_neg h, if_neg h, if_neg h]
    exact g y y0 y1
theorem bF_c (g : bF R) (k : ∀ a, 14 ≤ a → a ≤ 16 → T a = R a) : bF T := by
  unfold bF at *
  rw [k 14 (by omega) (by omega), k 15 (by omega) (by omega), k 16 (by omega) (by omega)]
  exact g
theorem bF_app (g : bF R) {b m : Int} (hp : 0 ≤ p ∧ p < 128) (hm : 0 ≤ m ∧ m ≤ 4) (h2 : 0 ≤ R 0 2 ∧ R 0 2 ≤ 100000) : bF (nApp R b p m) := by
  intro y y0 y1
  have := g y y0 y1
  rw [app_14, app_15, app_16]
  grind
theorem bB_app (g : bB R) {b m : Int} (hc : R 17 b < R 0 0) : bB (nApp R b p m) := by
  intro y y0 y1
  have := g y y0 y1
  rw [app_17, nApp_n (by omega), nApp_n (by omega), nApp_n (by omega)]
  refine ⟨?_, this.2⟩
  split
  · rename_i h; rw [h] at this ⊢; omega
  · exact this.1
theorem bB_c (g : bB R) (k : ∀ a, 17 ≤ a → a ≤ 19 → T a = R a) (k0 : T 0 0 = R 0 0) : bB T := by
  unfold bB at *
  rw [k 17 (by omega) (by omega), k 18 (by omega) (by omega), k 19 (by omega) (by omega), k0]
  exact g
theorem iR_mv (I : iR R) (t : iT R) (h : rn n o c) : iR (nMv R n o c).2 ∧ (∀ a, a ≠ 0 → a ≠ 12 → a ≠ 13 → (a < 14 ∨ 19 < a) → (nMv R n o c).2 a = R a) ∧ (∀ j, j ≠ 39 → j ≠ 40 → (nMv R n o c).2 0 j = R 0 j) ∧ R 0 39 ≤ (nMv R n o c).2 0 39 ∧ R 0 40 ≤ (nMv R n o c).2 0 40 ∧ (nMv R n o c).2 0 40 ≤ R 0 40 + 1 := by
  have hr := h
  unfold rn at hr
  have gQ := bQ_of I
  have gP := I.1.2.2.2.2.2.1
  have N := ntI_mv I.2.2.1 gP I.2.2.2.2.1 I.2.2.2.1 I.2.2.2.2.2.1 (by have := lv_92 I.1; omega) h
  have triv : iR R ∧ (∀ a, a ≠ 0 → a ≠ 12 → a ≠ 13 → (a < 14 ∨ 19 < a) → R a = R a) ∧ (∀ j, j ≠ 39 → j ≠ 40 → R 0 j = R 0 j) ∧ R 0 39 ≤ R 0 39 ∧ R 0 40 ≤ R 0 40 ∧ R 0 40 ≤ R 0 40 + 1 := ⟨I, fun _ _ _ _ _ => rfl, fun _ _ _ => rfl, by omega, by omega, by omega⟩
  unfold nMv at N ⊢
  by_cases h0 : nSv R n o c < 0
  · rw [if_pos h0]; exact triv
  rw [if_neg h0] at N ⊢
  obtain ⟨s1, s2, s3⟩ := sv_sp I.2.2.1 gP I.2.2.2.2.2.1 h (by omega)
  by_cases h1 : R 17 (15 * n + 3 * nSv R n o c + c) = 0
  · rw [if_pos h1]; exact triv
  rw [if_neg h1] at N ⊢
  by_cases h2 : R 16 (4 * (15 * n + 3 * nSv R n o c + c)) = R 0 2
  · rw [if_pos h2]; exact triv
  rw [if_neg h2] at N ⊢
  by_cases h3 : 0 ≤ nTg n o c ∧ R 17 (nTg n o c) = R 0 0
  · rw [if_pos h3]; exact triv
  rw [if_neg h3] at N ⊢
  generalize nSv R n o c = p at *
  have gB := I.2.2.2.2.1
  have gS := I.2.2.2.1
  have gF := I.2.2.2.2.2.1
  have gW := I.2.2.2.2.2.2.1
  have gb := gB (15 * n + 3 * p + c) (by omega) (by omega)
  have gs := gS.1
  have gf := gF (4 * (15 * n + 3 * p + c)) (by omega) (by omega)
  have mk : ∀ a, (a < 14 ∨ 19 < a) → nMv1 R n o c p a = R a := by
    intro a ha
    unfold nMv1
    rw [u3f (by omega), u3f (by omega)]
    funext j
    exact nRem_n (by omega)
  have m17 : ∀ x, nMv1 R n o c p 17 x = if x = 15 * n + 3 * p + c then R 17 (15 * n + 3 * p + c) - 1 else R 17 x := by
    intro x
    unfold nMv1
    rw [u3n (by omega), u3n (by omega), nRem_17]
  have mB : bB (nMv1 R n o c p) := by
    intro x x0 x1
    have g := gB x x0 x1
    rw [mk 0 (by omega), m17]
    refine ⟨?_, ?_, ?_⟩
    · split
      · omega
      · exact g.1
    · unfold nMv1
      rw [up3_eq, u3n (by omega), nRem_n (by omega)]
      split
      · split <;> omega
      · exact g.2.1
    · unfold nMv1
      rw [u3n (by omega), up3_eq, nRem_n (by omega)]
      split
      · omega
      · exact g.2.2
  have mF : bF (nMv1 R n o c p) := by
    unfold nMv1
    exact bF_c (bF_rem (b := 15 * n + 3 * p + c) gF (by omega) (by omega)) (fun a q1 q2 => by rw [u3f (by omega), u3f (by omega)])
  have fin : ∀ T, ntI T → (∀ a, a ≠ 0 → a ≠ 12 → a ≠ 13 → (a < 14 ∨ 19 < a) → T a = R a) → (∀ j, j ≠ 39 → j ≠ 40 → T 0 j = R 0 j) → bB T → bF T → bW T → iR T := by
    intro T N k k0 tB tF tW
    refine ⟨iV_c I.1 (fun a q1 q2 => k a (by omega) (by omega) (by omega) (by omega)) (k0 38 (by omega) (by omega)), lI_c I.2.1 (k 20 (by omega) (by omega) (by omega) (by omega)), N, ?_, tB, tF, tW, ?_⟩
    · unfold bS at *
      rw [k0 0 (by omega) (by omega), k0 1 (by omega) (by omega)]
      exact gS
    · have := I.2.2.2.2.2.2.2
      unfold h11 at *
      rw [k 1 (by omega) (by omega) (by omega) (by omega), k 2 (by omega) (by omega) (by omega) (by omega), k 3 (by omega) (by omega) (by omega) (by omega), k 4 (by omega) (by omega) (by omega) (by omega)]
      exact this
  have bWc : ∀ T : RS, T 9 = R 9 → T 12 = R 12 → bW T := by
    intro T q1 q2
    unfold bW at *
    rw [q1, q2]
    exact gW
  unfold nMv2 at N ⊢
  by_cases ht : 0 ≤ nTg n o c
  · rw [if_pos ht] at N ⊢
    dsimp only at N ⊢
    have h4 : o ≠ 4 := by
      intro g
      unfold nTg at ht
      rw [if_pos g] at ht
      omega
    have tt := om_tg h (s2.resolve_left h4)
    have gt := gB (nTg n o c) tt.1 tt.2.1
    have hne := tg_ne h (s2.resolve_left h4) p ⟨by omega, s1⟩
    have k : ∀ a, a ≠ 0 → a ≠ 12 → a ≠ 13 → (a < 14 ∨ 19 < a) → up3 (nApp (nMv1 R n o c p) (nTg n o c) (R 14 (4 * (15 * n + 3 * p + c))) (R 15 (4 * (15 * n + 3 * p + c)))) 0 40 (R 0 40 + 1) a = R a := by
      intro a q1 q2 q3 q4
      rw [u3f (by omega), ← mk a q4]
      funext j
      exact nApp_n (by omega)
    have k0 : ∀ j, j ≠ 39 → j ≠ 40 → up3 (nApp (nMv1 R n o c p) (nTg n o c) (R 14 (4 * (15 * n + 3 * p + c))) (R 15 (4 * (15 * n + 3 * p + c)))) 0 40 (R 0 40 + 1) 0 j = R 0 j := by
      intro j q1 q2
      rw [u3i q2, nApp_n (by omega), mk 0 (by omega)]
    refine ⟨fin _ N k k0 ?_ ?_ ?_, k, k0, ?_, ?_, ?_⟩
    · exact bB_c (bB_app mB (b := nTg n o c) (p := R 14 (4 * (15 * n + 3 * p + c))) (m := R 15 (4 * (15 * n + 3 * p + c))) (by rw [m17, if_neg hne, mk 0 (by omega)]; omega)) (fun a q1 q2 => u3f (by omega)) (u3i (by omega))
    · refine bF_c (bF_app mF gf.1 gf.2.1 (by rw [mk 0 (by omega)]; exact t.1)) (fun a q1 q2 => u3f (by omega))
    · refine bWc _ (k 9 (by omega) (by omega) (by omega) (by omega)) ?_
      rw [u3f (by omega)]
      funext j
      rw [nApp_n (by omega), mk 12 (by omega)]
    · rw [u3i (by omega), nApp_n (by omega), mk 0 (by omega)]
      omega
    · rw [u3s]; omega
    · rw [u3s]; omega
  · rw [if_neg ht] at N ⊢
    by_cases hl : R 15 (4 * (15 * n + 3 * p + c)) = nSz R (R 14 (4 * (15 * n + 3 * p + c))) - 1
    · rw [if_pos hl] at N ⊢
      dsimp only at N ⊢
      have k : ∀ a, a ≠ 0 → a ≠ 12 → a ≠ 13 → (a < 14 ∨ 19 < a) → up3 (up3 (up3 (nMv1 R n o c p) 12 (128 * (3 * n + c) + R 13 (3 * n + c)) (R 14 (4 * (15 * n + 3 * p + c)))) 13 (3 * n + c) (R 13 (3 * n + c) + 1)) 0 39 (R 0 39 + 1) a = R a := by
        intro a q1 q2 q3 q4
        rw [u3f (by omega), u3f (by omega), u3f (by omega), ← mk a q4]
      have k0 : ∀ j, j ≠ 39 → j ≠ 40 → up3 (up3 (up3 (nMv1 R n o c p) 12 (128 * (3 * n + c) + R 13 (3 * n + c)) (R 14 (4 * (15 * n + 3 * p + c)))) 13 (3 * n + c) (R 13 (3 * n + c) + 1)) 0 39 (R 0 39 + 1) 0 j = R 0 j := by
        intro j q1 q2
        rw [u3i q1, u3n (by omega), u3n (by omega), mk 0 (by omega)]
      refine ⟨fin _ N k k0 ?_ ?_ ?_, k, k0, ?_, ?_, ?_⟩
      · exact bB_c mB (fun a q1 q2 => by rw [u3f (by omega), u3f (by omega), u3f (by omega)]) (by rw [u3i (by omega), u3n (by omega), u3n (by omega)])
      · exact bF_c mF (fun a q1 q2 => by rw [u3f (by omega), u3f (by omega), u3f (by omega)])
      · intro y y0 y1
        have g := gW y y0 y1
        rw [k 9 (by omega) (by omega) (by omega) (by omega)]
        refine ⟨g.1, ?_⟩
        rw [u3n (by omega), u3n (by omega), up3_eq, mk 12 (by omega)]
        split
        · exact gf.1
        · exact g.2
      · rw [u3s]; omega
      · rw [u3i (by omega), u3n (by omega), u3n (by omega), mk 0 (by omega)]; omega
      · rw [u3i (by omega), u3n (by omega), u3n (by omega), mk 0 (by omega)]; omega
    · rw [if_neg hl] at N ⊢
      dsimp only at N ⊢
      refine ⟨fin _ N (fun a q1 q2 q3 q4 => mk a q4) (fun j q1 q2 => by rw [mk 0 (by omega)]) mB mF (bWc _ (mk 9 (by omega)) (mk 12 (by omega))), fun a q1 q2 q3 q4 => mk a q4, fun j q1 q2 => by rw [mk 0 (by omega)], ?_, ?_, ?_⟩
      · rw [mk 0 (by omega)]; omega
      · rw [mk 0 (by omega)]; omega
      · rw [mk 0 (by omega)]; omega
end Net10
