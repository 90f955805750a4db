/-! Constructors: the reference -/
section Cls25
variable {α : Type} {g : ev_hs} {M : Nat → Cl} {z C S e m a : Nat} {Q : ev_hs → Prop}
def cMo (a k : Nat) (D FL : Int) : Cl := (12, 0, (fun f => if f = 1100 then D else if f = 1101 then FL else 0), (fun f => if 1103 ≤ f ∧ f ≤ 1102 + k then some (a + (f - 1102)) else none), (fun _ => 0), (fun _ => none))
def rfC (i j k : Nat) : Cl := if k = 18 then cAr 90 i (-1) else if k = 19 then cAr 90 i 4 else if k = 26 then cAr 8 j (-1) else nc (kdR k) (lnR k)
def rfM (M : Nat → Cl) (a k : Nat) (D FL : Int) (i j : Nat) : Nat → Cl := fun b => if b = a then cMo a k D FL else if a < b ∧ b ≤ a + k then rfC i j (b - a) else M b
theorem rfC_0 {k : Nat} : rfC 0 0 k = nc (kdR k) (lnR k) := by
  unfold rfC
  by_cases h1 : k = 18
  · rw [if_pos h1, h1]; rfl
  rw [if_neg h1]
  by_cases h2 : k = 19
  · rw [if_pos h2, h2]; rfl
  rw [if_neg h2]
  by_cases h3 : k = 26
  · rw [if_pos h3, h3]; rfl
  rw [if_neg h3]
theorem r_step {k t f : Nat} {n : Int} {K : ev_hs → Option ev_hs} (H : hM g (rfM M a k 0 0 0 0) (a + 1 + k) C S e m) (hk : k < 35) (ht : kdR (k + 1) = t) (hn : n = (lnR (k + 1) : Int)) (hf : f = k + 3) (q : ∀ g', hM g' (rfM M a (k + 1) 0 0 0 0) (a + 1 + (k + 1)) (C + 1) (S + lnR (k + 1)) e m → ∃ r, K g' = some r ∧ Q r) : ∃ r, nA g t n (fun q1 g1 => pR g1 11 f (some a) q1 (fun g2 => K g2)) = some r ∧ Q r := by
  have hl : lnR (k + 1) ≤ 2304 := by
    have : ∀ k, k < 36 → lnR k ≤ 2304 := by decide
    exact this (k + 1) (by omega)
  have m0 : rfM M a k 0 0 0 0 a = cMo a k 0 0 := by unfold rfM; rw [if_pos rfl]
  refine s_nA H (by omega) (by omega) (fun g1 H1 => ?_)
  refine s_pR H1 (by rw [u_n (by omega), m0]; rfl) (fun g2 H2 => q g2 ?_)
  rw [u_n (by omega), m0] at H2
  have e1 : n.toNat = lnR (k + 1) := by omega
  rw [e1] at H2
  refine h_M H2 (fun b => ?_)
  by_cases h0 : b = a
  · rw [h0, u_s]
    unfold rfM
    rw [if_pos rfl]
    unfold cMo clR
    dsimp only
    congr 4
    funext x
    by_cases hx : x = 100 * 11 + f
    · rw [if_pos hx, if_pos (by omega), show a + (x - 1102) = a + 1 + k by omega]
    · rw [if_neg hx]
      by_cases hy : 1103 ≤ x ∧ x ≤ 1102 + k
      · rw [if_pos hy, if_pos (by omega)]
      · rw [if_neg hy, if_neg (by omega)]
  rw [u_n h0]
  unfold rfM
  rw [if_neg h0]
  by_cases h1 : b = a + 1 + k
  · rw [h1, u_s, if_pos (by omega), rfC_0, show a + 1 + k - a = k + 1 by omega, ht]
  rw [u_n h1, if_neg h0]
  by_cases h2 : a < b ∧ b ≤ a + k
  · rw [if_pos h2, if_pos (by omega)]
  · rw [if_neg h2, if_neg (by omega)]
theorem rf_at {k : Nat} {D FL : Int} {i j : Nat} (hk : 1 ≤ k ∧ k ≤ 35) : rfM M a 35 D FL i j (a + k) = rfC i j k := by
  unfold rfM
  rw [if_neg (by omega), if_pos (by omega), show a + k - a = k by omega]
theorem r_350 {D FL : Int} {K : Option Nat → ev_hs → Option ev_hs} : ∀ (k fu i : Nat) (g : ev_hs), i + k = 90 → k < fu → hM g (rfM M a 35 D FL i 0) (a + 36) C S e m → (∀ r, hM r (rfM M a 35 D FL 90 0) (a + 36) C S e m → ∃ r2, K (some a) r = some r2 ∧ Q r2) → ∃ r2, f_Mo_init_350 fu (some a) (i : Int) g K = some r2 ∧ Q r2 := by
  intro k
  induction k with
  | zero =>
    intro fu i g hi hf H hK
    obtain ⟨fu, rfl⟩ : ∃ f2, fu = f2 + 1 := ⟨fu - 1, by omega⟩
    have : i = 90 := by omega
    subst this
    rw [f_Mo_init_350, eLt_i (by omega) (by omega) (by omega) (by omega), if_neg (by omega)]
    exact hK g H
  | succ k ih =>
    intro fu i g hi hf H hK
    obtain ⟨fu, rfl⟩ : ∃ f2, fu = f2 + 1 := ⟨fu - 1, by omega⟩
    rw [f_Mo_init_350, eLt_i (by omega) (by omega) (by omega) (by omega), if_pos (by omega)]
    have m0 : rfM M a 35 D FL i 0 a = cMo a 35 D FL := by unfold rfM; rw [if_pos rfl]
    have m18 : rfM M a 35 D FL i 0 (a + 18) = cAr 90 i (-1) := rf_at (by omega)
    have m19 : rfM M a 35 D FL i 0 (a + 19) = cAr 90 i 4 := rf_at (by omega)
    refine s_gR H (v := some (a + 18)) (by rw [m0]; rfl) (by rw [m0]; rfl) ?_
    refine s_sI H (by rw [m18]; rfl) (by omega) (by rw [m18]; show (i : Int) < 90; omega) (fun g1 H1 => ?_)
    rw [m18, show ((i : Int)).toNat = i by omega, cAr_s] at H1
    refine s_gR H1 (v := some (a + 19)) (by rw [u_n (by omega), m0]; rfl) (by rw [u_n (by omega), m0]; rfl) ?_
    refine s_sI H1 (by rw [u_n (by omega), m19]; rfl) (by omega) (by rw [u_n (by omega), m19]; show (i : Int) < 90; omega) (fun g2 H2 => ?_)
    rw [u_n (by omega), m19, show ((i : Int)).toNat = i by omega, cAr_s] at H2
    rw [show ((i : Int) + 1) = ((i + 1 : Nat) : Int) by omega]
    refine ih fu (i + 1) g2 (by omega) (by omega) (h_M H2 (fun b => ?_)) hK
    by_cases h1 : b = a + 19
    · rw [h1, u_s]
      exact rf_at (by omega)
    rw [u_n h1]
    by_cases h2 : b = a + 18
    · rw [h2, u_s]
      exact rf_at (by omega)
    rw [u_n h2]
    unfold rfM
    by_cases h0 : b = a
    · rw [if_pos h0, if_pos h0]
    rw [if_neg h0, if_neg h0]
    by_cases h3 : a < b ∧ b ≤ a + 35
    · rw [if_pos h3, if_pos h3]
      have k1 : ¬ b - a = 18 := by omega
      have k2 : ¬ b - a = 19 := by omega
      unfold rfC
      rw [if_neg k1, if_neg k1, if_neg k2, if_neg k2]
    · rw [if_neg h3, if_neg h3]
theorem r_378 {D FL : Int} : ∀ (k fu i : Nat) (g : ev_hs), i + k = 8 → k < fu → hM g (rfM M a 35 D FL 90 i) (a + 36) C S e m → ∃ r, f_Mo_init_378 fu (some a) (i : Int) g = some r ∧ hM r (rfM M a 35 D FL 90 8) (a + 36) C S e m := by
  intro k
  induction k with
  | zero =>
    intro fu i g hi hf H
    obtain ⟨fu, rfl⟩ : ∃ f2, fu = f2 + 1 := ⟨fu - 1, by omega⟩
    have : i = 8 := by omega
    subst this
    refine ⟨g, ?_, H⟩
    rw [f_Mo_init_378, eLt_i (by omega) (by omega) (by omega) (by omega), if_neg (by omega)]
  | succ k ih =>
    intro fu i g hi hf H
    obtain ⟨fu, rfl⟩ : ∃ f2, fu = f2 + 1 := ⟨fu - 1, by omega⟩
    rw [f_Mo_init_378, eLt_i (by omega) (by omega) (by omega) (by omega), if_pos (by omega)]
    have m0 : rfM M a 35 D FL 90 i a = cMo a 35 D FL := by unfold rfM; rw [if_pos rfl]
    have m26 : rfM M a 35 D FL 90 i (a + 26) = cAr 8 i (-1) := rf_at (by omega)
    refine s_gR H (v := some (a + 26)) (by rw [m0]; rfl) (by rw [m0]; rfl) ?_
    refine s_sI H (by rw [m26]; rfl) (by omega) (by rw [m26]; show (i : Int) < 8; omega) (fun g1 H1 => ?_)
    rw [m26, show ((i : Int)).toNat = i by omega, cAr_s] at H1
    rw [show ((i : Int) + 1) = ((i + 1 : Nat) : Int) by omega]
    refine ih fu (i + 1) g1 (by omega) (by omega) (h_M H1 (fun b => ?_))
    by_cases h1 : b = a + 26
    · rw [h1, u_s]
      exact rf_at (by omega)
    rw [u_n h1]
    unfold rfM
    by_cases h0 : b = a
    · rw [if_pos h0, if_pos h0]
    rw [if_neg h0, if_neg h0]
    by_cases h3 : a < b ∧ b ≤ a + 35
    · rw [if_pos h3, if_pos h3]
      have k1 : ¬ b - a = 26 := by omega
      unfold rfC
      by_cases k2 : b - a = 18
      · rw [if_pos k2, if_pos k2]
      rw [if_neg k2, if_neg k2]
      by_cases k3 : b - a = 19
      · rw [if_pos k3, if_pos k3]
      rw [if_neg k3, if_neg k3, if_neg k1, if_neg k1]
    · rw [if_neg h3, if_neg h3]
theorem r_fin {D FL : Int} {fd : ev_hs → Option ev_hs} (H : hM g (rfM M a 35 0 0 0 0) (a + 36) C S e m) : ∃ r, pI g 11 0 (some a) D (fun g11 => pI g11 11 1 (some a) FL (fun g3 => f_Mo_init_350 FU (some a) 0 g3 (fun y8_0 y8_h => f_Mo_init_378 FU y8_0 0 y8_h))) = some r ∧ hM r (rfM M a 35 D FL 90 8) (a + 36) C S e m := by
  have m0 : rfM M a 35 0 0 0 0 a = cMo a 35 0 0 := by unfold rfM; rw [if_pos rfl]
  refine s_pI H (by rw [m0]; rfl) (fun g1 H1 => ?_)
  rw [m0] at H1
  refine s_pI H1 (by rw [u_s]; rfl) (fun g2 H2 => ?_)
  rw [u_s] at H2
  have H3 : hM g2 (rfM M a 35 D FL 0 0) (a + 36) C S e m := by
    refine h_M H2 (fun b => ?_)
    unfold rfM
    by_cases h0 : b = a
    · rw [if_pos h0, h0, u_s]
      unfold cMo clI
      dsimp only
      congr 3
      funext x
      by_cases x1 : x = 1101
      · subst x1; simp
      by_cases x0 : x = 1100
      · subst x0; simp
      simp [x0, x1]
    · rw [if_neg h0, u_n h0, u_n h0, if_neg h0]
  exact r_350 90 FU 0 g2 (by omega) (by unfold FU; omega) H3 (fun r Hr => r_378 8 FU 0 r (by omega) (by unfold FU; omega) Hr)
set_option maxRecDepth 100000 in
theorem r_Mo {x y : Int} (hx : oK x) (hy : oK y) (H : hM g M (a + 1) C S e m) (ha : M a = nc 12 0) : ∃ r, f_Mo_init (some a) x y g = some r ∧ hM r (rfM M a 35 (nrD x : Int) (nrF y : Int) 90 8) (a + 36) (C + 35) (S + 8478) e m := by
  unfold oK at hx hy
  have H0 : hM g (rfM M a 0 0 0 0 0) (a + 1 + 0) C S e m := by
    refine h_M H (fun b => ?_)
    unfold rfM
    by_cases h0 : b = a
    · rw [if_pos h0, h0, ha]
      unfold cMo nc
      congr 3
      · funext f
        split
        · rfl
        split <;> rfl
      congr 1
      funext f
      rw [if_neg (by omega)]
    · rw [if_neg h0, if_neg (by omega)]
  unfold f_Mo_init
  simp only [↓jn_eq, ↓nN_some]
  refine r_step (k := 0) H0 (by omega) rfl rfl rfl (fun g1 H1 => ?_)
  refine r_step (k := 1) H1 (by omega) rfl rfl rfl (fun g2 H2 => ?_)
  refine r_step (k := 2) H2 (by omega) rfl rfl rfl (fun g3 H3 => ?_)
  refine r_step (k := 3) H3 (by omega) rfl rfl rfl (fun g4 H4 => ?_)
  refine r_step (k := 4) H4 (by omega) rfl rfl rfl (fun g5 H5 => ?_)
  refine r_step (k := 5) H5 (by omega) rfl rfl rfl (fun g6 H6 => ?_)
  refine r_step (k := 6) H6 (by omega) rfl rfl rfl (fun g7 H7 => ?_)
  refine r_step (k := 7) H7 (by omega) rfl rfl rfl (fun g8 H8 => ?_)
  refine r_step (k := 8) H8 (by omega) rfl rfl rfl (fun g9 H9 => ?_)
  refine r_step (k := 9) H9 (by omega) rfl rfl rfl (fun g10 H10 => ?_)
  refine r_step (k := 10) H10 (by omega) rfl rfl rfl (fun g11 H11 => ?_)
  refine r_step (k := 11) H11 (by omega) rfl rfl rfl (fun g12 H12 => ?_)
  refine r_step (k := 12) H12 (by omega) rfl rfl rfl (fun g13 H13 => ?_)
  refine r_step (k := 13) H13 (by omega) rfl rfl rfl (fun g14 H14 => ?_)
  refine r_step (k := 14) H14 (by omega) rfl rfl rfl (fun g15 H15 => ?_)
  refine r_step (k := 15) H15 (by omega) rfl rfl rfl (fun g16 H16 => ?_)
  refine r_step (k := 16) H16 (by omega) rfl rfl rfl (fun g17 H17 => ?_)
  refine r_step (k := 17) H17 (by omega) rfl rfl rfl (fun g18 H18 => ?_)
  refine r_step (k := 18) H18 (by omega) rfl rfl rfl (fun g19 H19 => ?_)
  refine r_step (k := 19) H19 (by omega) rfl rfl rfl (fun g20 H20 => ?_)
  refine r_step (k := 20) H20 (by omega) rfl rfl rfl (fun g21 H21 => ?_)
  refine r_step (k := 21) H21 (by omega) rfl rfl rfl (fun g22 H22 => ?_)
  refine r_step (k := 22) H22 (by omega) rfl rfl rfl (fun g23 H23 => ?_)
  refine r_step (k := 23) H23 (by omega) rfl rfl rfl (fun g24 H24 => ?_)
  refine r_step (k := 24) H24 (by omega) rfl rfl rfl (fun g25 H25 => ?_)
  refine r_step (k := 25) H25 (by omega) rfl rfl rfl (fun g26 H26 => ?_)
  refine r_step (k := 26) H26 (by omega) rfl rfl rfl (fun g27 H27 => ?_)
  refine r_step (k := 27) H27 (by omega) rfl rfl rfl (fun g28 H28 => ?_)
  refine r_step (k := 28) H28 (by omega) rfl rfl rfl (fun g29 H29 => ?_)
  refine r_step (k := 29) H29 (by omega) rfl rfl rfl (fun g30 H30 => ?_)
  refine r_step (k := 30) H30 (by omega) rfl rfl rfl (fun g31 H31 => ?_)
  refine r_step (k := 31) H31 (by omega) rfl rfl rfl (fun g32 H32 => ?_)
  refine r_step (k := 32) H32 (by omega) rfl rfl rfl (fun g33 H33 => ?_)
  refine r_step (k := 33) H33 (by omega) rfl rfl rfl (fun g34 H34 => ?_)
  refine r_step (k := 34) H34 (by omega) rfl rfl rfl (fun g35 H35 => ?_)
  have H36 : hM g35 (rfM M a 35 0 0 0 0) (a + 36) (C + 35) (S + 8478) e m := H35
  clear H0 H1 H2 H3 H4 H5 H6 H7 H8 H9 H10 H11 H12 H13 H14 H15 H16 H17 H18 H19 H20 H21 H22 H23 H24 H25 H26 H27 H28 H29 H30 H31 H32 H33 H34 H35
  have fin2 : ∀ D : Int, ∃ r, pI g35 11 0 (some a) D (fun g11 => eLt y 2 (pI g11 11 1 (some a) 2 (fun g3 => f_Mo_init_350 FU (some a) 0 g3 (fun y8_0 y8_h => f_Mo_init_378 FU y8_0 0 y8_h))) (eLt 5 y (pI g11 11 1 (some a) 5 (fun g3 => f_Mo_init_350 FU (some a) 0 g3 (fun y8_0 y8_h => f_Mo_init_378 FU y8_0 0 y8_h))) (pI g11 11 1 (some a) y (fun g3 => f_Mo_init_350 FU (some a) 0 g3 (fun y8_0 y8_h => f_Mo_init_378 FU y8_0 0 y8_h))))) = some r ∧ hM r (rfM M a 35 D (nrF y : Int) 90 8) (a + 36) (C + 35) (S + 8478) e m := by
    intro D
    have hh := r_fin (D := D) (FL := (nrF y : Int)) (fd := some) H36
    obtain ⟨r, E, Hr⟩ := hh
    refine ⟨r, ?_, Hr⟩
    rw [← E]
    congr 1
    funext g11
    rw [eLt_i (by omega) (by omega) (by omega) (by omega)]
    unfold nrF
    by_cases y2 : y < 2
    · rw [if_pos y2, if_pos y2]
      rfl
    rw [if_neg y2, if_neg y2, eLt_i (by omega) (by omega) (by omega) (by omega)]
    by_cases y5 : 5 < y
    · rw [if_pos y5, if_pos y5]
      rfl
    rw [if_neg y5, if_neg y5, Int.toNat_of_nonneg (by omega)]
  unfold nrD
  rw [eLt_i (by omega) (by omega) (by omega) (by omega)]
  by_cases x1 : x < 1
  · rw [if_pos x1, if_pos x1]
    exact fin2 1
  rw [if_neg x1, if_neg x1, eLt_i (by omega) (by omega) (by omega) (by omega)]
  by_cases x4 : 4 < x
  · rw [if_pos x4, if_pos x4]
    exact fin2 4
  rw [if_neg x4, if_neg x4, Int.toNat_of_nonneg (by omega)]
  exact fin2 x
end Cls25
