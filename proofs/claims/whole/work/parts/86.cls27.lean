/-! The first heap -/
section Cls27
variable {α : Type} {g : ev_hs} {M : Nat → Cl} {z C S e m c0 D : Nat} {FL : Int}
def fsM (M : Nat → Cl) (c0 D : Nat) (FL : Int) (e : Nat) : Nat → Cl := rfM (upM (clM M c0 D FL e) (c0 + 373) (nc 12 0)) (c0 + 373) 35 (D : Int) FL 90 8
theorem fs_c {b : Nat} (hb : b < c0 + 373) : fsM M c0 D FL e b = clM M c0 D FL e b := by
  unfold fsM rfM
  rw [if_neg (by omega), if_neg (by omega), u_n (by omega)]
theorem fs_0 : fsM M c0 D FL e c0 = cML c0 1 := by
  rw [fs_c (by omega)]
  unfold clM ndM
  rw [if_neg (by omega), if_neg (by omega), u_s]
theorem fs_1 : fsM M c0 D FL e (c0 + 1) = cMe c0 FL := by
  rw [fs_c (by omega)]
  unfold clM ndM
  rw [if_neg (by omega), if_neg (by omega), u_n (by omega)]
  unfold hoM
  rw [if_neg (by omega), if_neg (by omega), u_n (by omega)]
  unfold msM
  rw [if_pos rfl]
theorem fs_2 : fsM M c0 D FL e (c0 + 2) = cRw 55 18 18 (qLn c0) := by
  rw [fs_c (by omega)]
  unfold clM ndM
  rw [if_neg (by omega), if_neg (by omega), u_n (by omega)]
  unfold hoM
  rw [if_neg (by omega), if_neg (by omega), u_n (by omega)]
  unfold msM
  rw [if_neg (by omega), if_pos rfl]
theorem fs_L {t k : Nat} (ht : t < 18) (hk : k < 16) : fsM M c0 D FL e (c0 + (3 + 16 * t) + k) = lnC (c0 + (3 + 16 * t)) ((t / 3 : Nat) : Int) D e 5 k := by
  rw [fs_c (by omega)]
  unfold clM ndM
  rw [if_neg (by omega), if_neg (by omega), u_n (by omega)]
  unfold hoM
  rw [if_neg (by omega), if_neg (by omega), u_n (by omega)]
  unfold msM
  rw [if_neg (by omega), if_neg (by omega), if_pos (by omega), show (c0 + (3 + 16 * t) + k - c0 - 3) / 16 = t by omega, show (c0 + (3 + 16 * t) + k - c0 - 3) % 16 = k by omega]
theorem fs_H0 : fsM M c0 D FL e (c0 + 291) = cRw 53 8 8 (qHm c0) := by
  rw [fs_c (by omega)]
  unfold clM ndM
  rw [if_neg (by omega), if_neg (by omega), u_n (by omega)]
  unfold hoM
  rw [if_pos rfl]
theorem fs_H {t : Nat} (ht : t < 8) : fsM M c0 D FL e (c0 + (292 + t)) = cHo c0 (t : Int) := by
  rw [fs_c (by omega)]
  unfold clM ndM
  rw [if_neg (by omega), if_neg (by omega), u_n (by omega)]
  unfold hoM
  rw [if_neg (by omega), if_pos (by omega), show c0 + (292 + t) - c0 - 292 = t by omega]
theorem fs_N0 : fsM M c0 D FL e (c0 + 300) = cRw 54 6 6 (qNd c0) := by
  rw [fs_c (by omega)]
  unfold clM ndM
  rw [if_pos rfl]
theorem fs_N {t k : Nat} (ht : t < 6) (hk : k < 12) : fsM M c0 D FL e (c0 + (301 + 12 * t) + k) = noC c0 (c0 + (301 + 12 * t)) (t : Int) k := by
  rw [fs_c (by omega)]
  unfold clM ndM
  rw [if_neg (by omega), if_pos (by omega), show (c0 + (301 + 12 * t) + k - c0 - 301) / 12 = t by omega, show (c0 + (301 + 12 * t) + k - c0 - 301) % 12 = k by omega]
theorem fs_R0 : fsM M c0 D FL e (c0 + 373) = cMo (c0 + 373) 35 (D : Int) FL := by
  unfold fsM rfM
  rw [if_pos rfl]
theorem fs_R {k : Nat} (hk : 1 ≤ k ∧ k ≤ 35) : fsM M c0 D FL e (c0 + 373 + k) = rfC 90 8 k := rf_at hk
theorem fs_o {b : Nat} (hb : b < c0) : fsM M c0 D FL e b = M b := by
  rw [fs_c (by omega)]
  unfold clM ndM
  rw [if_neg (by omega), if_neg (by omega), u_n (by omega)]
  unfold hoM
  rw [if_neg (by omega), if_neg (by omega), u_n (by omega)]
  unfold msM
  rw [if_neg (by omega), if_neg (by omega), if_neg (by omega)]
theorem fs_shC (H : hM g (fsM M c0 D FL e) z C S e m) : shC g c0 (D : Int) FL := by
  refine ⟨⟨?_, ?_, ?_, ?_⟩, ⟨?_, ?_, ?_⟩, ⟨?_, ?_, fun t ht => ⟨?_, ?_⟩⟩, ⟨?_, ?_, fun t ht => ⟨?_, ?_⟩⟩, ⟨?_, ?_, fun t ht => ⟨?_, ?_⟩⟩⟩
  · rw [h_K H, fs_0]; rfl
  · rw [h_R H, fs_0]; rfl
  · rw [h_R H, fs_0]; rfl
  · rw [h_R H, fs_0]; rfl
  · rw [h_K H, fs_1]; rfl
  · rw [h_R H, fs_1]; rfl
  · rw [h_I H, fs_1]; rfl
  · rw [h_K H, fs_2]; rfl
  · rw [h_L H, fs_2]; rfl
  · rw [h_Q H, fs_2]
    show (if t < 18 then some (qLn c0 t) else none) = _
    rw [if_pos ht]
    rfl
  · have c : ∀ k, k < 16 → fsM M c0 D FL e (c0 + (3 + 16 * t) + k) = lnC (c0 + (3 + 16 * t)) ((t / 3 : Nat) : Int) D e 5 k := fun k hk => fs_L ht hk
    have a0 : fsM M c0 D FL e (c0 + (3 + 16 * t)) = cLa (c0 + (3 + 16 * t)) ((t / 3 : Nat) : Int) := c 0 (by omega)
    refine ⟨?_, ?_, fun k k1 k2 => ?_, ?_, ?_, ⟨?_, ?_⟩, ⟨?_, ?_⟩, ⟨?_, ?_⟩, fun p hp => ?_⟩
    · rw [h_K H, a0]; rfl
    · rw [h_I H, a0]; rfl
    · rw [h_R H, a0]
      show (if 201 ≤ 200 + k ∧ 200 + k ≤ 205 then some (c0 + (3 + 16 * t) + (200 + k - 200)) else none) = _
      rw [if_pos (by omega), show 200 + k - 200 = k by omega]
    · rw [h_K H, c 1 (by omega)]; rfl
    · rw [h_K H, c 2 (by omega)]; rfl
    · rw [h_K H, c 3 (by omega)]; rfl
    · rw [h_L H, c 3 (by omega)]; rfl
    · rw [h_K H, c 4 (by omega)]; rfl
    · rw [h_L H, c 4 (by omega)]; rfl
    · rw [h_K H, c 5 (by omega)]; rfl
    · rw [h_L H, c 5 (by omega)]; rfl
    · have f0 : lnC (c0 + (3 + 16 * t)) ((t / 3 : Nat) : Int) D e 5 (6 + 2 * p + 0) = cFB (c0 + (3 + 16 * t) + (6 + 2 * p + 0)) := by
        unfold lnC
        rw [if_neg (by omega), if_neg (by omega), if_neg (by omega), if_neg (by omega), if_neg (by omega), if_pos (by omega), if_pos (by omega)]
      have f1 : lnC (c0 + (3 + 16 * t)) ((t / 3 : Nat) : Int) D e 5 (6 + 2 * p + 1) = nc 57 D := by
        unfold lnC
        rw [if_neg (by omega), if_neg (by omega), if_neg (by omega), if_neg (by omega), if_neg (by omega), if_pos (by omega), if_neg (by omega)]
      refine ⟨?_, ?_, ?_, ?_, ?_⟩
      · rw [h_Q H, c 3 (by omega)]
        show (if p < 5 then some (c0 + (3 + 16 * t) + (6 + 2 * p + 0)) else none) = _
        rw [if_pos hp]
      · rw [h_K H, c _ (by omega), f0]; rfl
      · rw [h_R H, c _ (by omega), f0]; rfl
      · rw [h_K H, c _ (by omega), f1]; rfl
      · rw [h_L H, c _ (by omega), f1]
        show D = ((D : Int)).toNat
        omega
  · rw [h_K H, fs_H0]; rfl
  · rw [h_L H, fs_H0]; rfl
  · rw [h_Q H, fs_H0]
    show (if t < 8 then some (qHm c0 t) else none) = _
    rw [if_pos ht]
    rfl
  · refine ⟨?_, ?_, ?_, ?_⟩
    · rw [h_K H, fs_H ht]; rfl
    · rw [h_I H, fs_H ht]; rfl
    · rw [h_I H, fs_H ht]; rfl
    · rw [h_R H, fs_H ht]; rfl
  · rw [h_K H, fs_N0]; rfl
  · rw [h_L H, fs_N0]; rfl
  · rw [h_Q H, fs_N0]
    show (if t < 6 then some (qNd c0 t) else none) = _
    rw [if_pos ht]
    rfl
  · have c : ∀ k, k < 12 → fsM M c0 D FL e (c0 + (301 + 12 * t) + k) = noC c0 (c0 + (301 + 12 * t)) (t : Int) k := fun k hk => fs_N ht hk
    have a0 : fsM M c0 D FL e (c0 + (301 + 12 * t)) = cNo c0 (c0 + (301 + 12 * t)) (t : Int) := c 0 (by omega)
    have a1 : fsM M c0 D FL e (c0 + (301 + 12 * t) + 1) = cCa c0 (c0 + (301 + 12 * t) + 1) (t : Int) := c 1 (by omega)
    have a6 : fsM M c0 D FL e (c0 + (301 + 12 * t) + 6) = cCo (c0 + (301 + 12 * t) + 6) (c0 + (301 + 12 * t) + 1) := c 6 (by omega)
    refine ⟨⟨?_, ?_, ?_, ?_, ?_, ?_⟩, ⟨?_, ?_, ?_, fun k k1 k2 => ?_⟩, ?_, ?_, fun k k1 k2 => ?_⟩
    · rw [h_K H, a0]; rfl
    · rw [h_I H, a0]; rfl
    · rw [h_R H, a0]; rfl
    · rw [h_R H, a0]; rfl
    · rw [h_R H, a0]; rfl
    · rw [h_R H, a0]; rfl
    · rw [h_K H, a1]; rfl
    · rw [h_I H, a1]; rfl
    · rw [h_R H, a1]; rfl
    · have f : noC c0 (c0 + (301 + 12 * t)) (t : Int) k = nc 50 8 := by
        unfold noC
        rw [if_neg (by omega), if_neg (by omega), if_pos (by omega)]
      refine ⟨?_, ?_, ?_⟩
      · rw [h_R H, a1]
        show (if 700 + k = 701 then some (c0 + 1) else if 702 ≤ 700 + k ∧ 700 + k ≤ 705 then some (c0 + (301 + 12 * t) + 1 + (700 + k - 701)) else none) = _
        rw [if_neg (by omega), if_pos (by omega), show c0 + (301 + 12 * t) + 1 + (700 + k - 701) = c0 + (301 + 12 * t) + k by omega]
      · rw [h_K H, c k (by omega), f]; rfl
      · rw [h_L H, c k (by omega), f]; rfl
    · rw [h_K H, a6]; rfl
    · rw [h_R H, a6]; rfl
    · have f : noC c0 (c0 + (301 + 12 * t)) (t : Int) k = nc 50 40 := by
        unfold noC
        rw [if_neg (by omega), if_neg (by omega), if_neg (by omega), if_neg (by omega)]
      refine ⟨?_, ?_, ?_⟩
      · rw [h_R H, a6]
        show (if 794 + k = 800 then some (c0 + (301 + 12 * t) + 1) else if 801 ≤ 794 + k ∧ 794 + k ≤ 805 then some (c0 + (301 + 12 * t) + 6 + (794 + k - 800)) else none) = _
        rw [if_neg (by omega), if_pos (by omega), show c0 + (301 + 12 * t) + 6 + (794 + k - 800) = c0 + (301 + 12 * t) + k by omega]
      · rw [h_K H, c k (by omega), f]; rfl
      · rw [h_L H, c k (by omega), f]; rfl
theorem rfC_k {k : Nat} (hk : 1 ≤ k ∧ k ≤ 35) : (rfC 90 8 k).1 = kdR k ∧ (rfC 90 8 k).2.1 = lnR k := by
  unfold rfC
  by_cases h1 : k = 18
  · subst h1; exact ⟨rfl, rfl⟩
  rw [if_neg h1]
  by_cases h2 : k = 19
  · subst h2; exact ⟨rfl, rfl⟩
  rw [if_neg h2]
  by_cases h3 : k = 26
  · subst h3; exact ⟨rfl, rfl⟩
  rw [if_neg h3]
  exact ⟨rfl, rfl⟩
theorem fs_shR (H : hM g (fsM M c0 D FL e) z C S e m) : shR g c0 := by
  refine ⟨?_, fun k k1 k2 => ⟨?_, ?_, ?_⟩⟩
  · rw [h_K H, fs_R0]; rfl
  · rw [h_R H, fs_R0]
    show (if 1103 ≤ 1102 + k ∧ 1102 + k ≤ 1102 + 35 then some (c0 + 373 + (1102 + k - 1102)) else none) = _
    rw [if_pos (by omega), show 1102 + k - 1102 = k by omega]
  · rw [h_K H, fs_R ⟨k1, k2⟩]
    exact (rfC_k ⟨k1, k2⟩).1
  · rw [h_L H, fs_R ⟨k1, k2⟩]
    exact (rfC_k ⟨k1, k2⟩).2
theorem fs_cR (H : hM g (fsM M c0 D FL e) (c0 + 409) C S e m) (he : M e = nc 52 0) (hl : e < c0) : cR g c0 (R0 (D : Int) FL) := by
  have hE : xE g = e := H.2.2.2.2.1
  have hZ : xZ g = c0 + 409 := H.2.1
  have sE0 : sE g c0 := by
    refine ⟨?_, ?_, by rw [hE]; exact hl, by omega⟩
    · rw [hE, h_K H, fs_o hl, he]; rfl
    · rw [hE, h_L H, fs_o hl, he]; rfl
  refine ⟨fs_shC H, sE0, fun _ _ => e, fun _ _ _ => 0, fun _ _ => 0, fun k q hk q0 q1 => ?_, fun k q j hk q0 q1 j0 j1 => ?_, fun b j b0 b1 j0 j1 => ?_, fun b j b' j' b0 b1 j0 j1 => ?_⟩
  · have h0 : R0 (D : Int) FL (kN k) q = 0 := by
      rcases hk with rfl | rfl
      · exact r0_z (by unfold kN; simp)
      · exact r0_z (by unfold kN; simp)
    refine ⟨?_, Or.inl ⟨hE.symm, h0⟩, fun j j0 j1 => by omega⟩
    have : fsM M c0 D FL e (c0 + (3 + 16 * q.toNat) + k) = cAL e := by
      rw [fs_L (by omega) (by omega)]
      unfold lnC
      rw [if_neg (by omega), if_pos (by omega)]
    rw [h_R H, this]
    rfl
  · have h0 : R0 (D : Int) FL (kN k) q = 0 := by
      rcases hk with rfl | rfl
      · exact r0_z (by unfold kN; simp)
      · exact r0_z (by unfold kN; simp)
    omega
  · rw [r0_z (by omega)] at j1
    omega
  · rw [r0_z (by omega)] at j1
    omega
theorem fs_vw (H : hM g (fsM M c0 D FL e) z C S e m) : vw g c0 (wF (R0 (D : Int) FL) (fun _ => 0)) (R0 (D : Int) FL) = g := by
  have zL : ∀ o k, 3 ≤ o → o < 291 → (o - 3) % 16 = k → fsM M c0 D FL e (c0 + o) = lnC (c0 + (3 + 16 * ((o - 3) / 16))) (((o - 3) / 16 / 3 : Nat) : Int) D e 5 k := by
    intro o k h1 h2 h3
    have := fs_L (M := M) (c0 := c0) (D := D) (FL := FL) (e := e) (t := (o - 3) / 16) (k := k) (by omega) (by omega)
    rwa [show c0 + (3 + 16 * ((o - 3) / 16)) + k = c0 + o by omega] at this
  have zN : ∀ o k, 301 ≤ o → o < 373 → (o - 301) % 12 = k → fsM M c0 D FL e (c0 + o) = noC c0 (c0 + (301 + 12 * ((o - 301) / 12))) (((o - 301) / 12 : Nat) : Int) k := by
    intro o k h1 h2 h3
    have := fs_N (M := M) (c0 := c0) (D := D) (FL := FL) (e := e) (t := (o - 301) / 12) (k := k) (by omega) (by omega)
    rwa [show c0 + (301 + 12 * ((o - 301) / 12)) + k = c0 + o by omega] at this
  have zH : ∀ o, 292 ≤ o → o < 300 → fsM M c0 D FL e (c0 + o) = cHo c0 ((o - 292 : Nat) : Int) := by
    intro o h1 h2
    have := fs_H (M := M) (c0 := c0) (D := D) (FL := FL) (e := e) (t := o - 292) (by omega)
    rwa [show c0 + (292 + (o - 292)) = c0 + o by omega] at this
  refine vw_eq (fun f o k i hd => ?_) (fun o j k i hd => ?_) (fun f hf => ?_) (fun k j k1 k2 => ?_)
  · rw [h_I H]
    unfold dI at hd
    by_cases f3 : f = 3
    · rw [if_pos f3] at hd
      split at hd
      · rename_i ho
        cases hd
        subst ho f3
        rw [show c0 + 0 = c0 by omega, fs_0, wF_n (by omega), r0_0 (by omega)]
        rfl
      · cases hd
    rw [if_neg f3] at hd
    by_cases f102 : f = 102
    · rw [if_pos f102] at hd
      split at hd
      · rename_i ho
        cases hd
        subst ho f102
        rw [fs_1, wF_n (by omega), r0_0 (by omega)]
        rfl
      · cases hd
    rw [if_neg f102] at hd
    by_cases f103 : f = 103
    · rw [if_pos f103] at hd
      split at hd
      · rename_i ho
        cases hd
        subst ho f103
        rw [fs_1, wF_n (by omega), r0_0 (by omega)]
        rfl
      · cases hd
    rw [if_neg f103] at hd
    by_cases f104 : f = 104
    · rw [if_pos f104] at hd
      split at hd
      · rename_i ho
        cases hd
        subst ho f104
        rw [fs_1, wF_n (by omega), r0_0 (by omega)]
        rfl
      · cases hd
    rw [if_neg f104] at hd
    by_cases f206 : f = 206
    · rw [if_pos f206] at hd
      split at hd
      · rename_i ho
        cases hd
        subst f206
        rw [zL o 0 ho.1 ho.2.1 ho.2.2, wF_n (by omega), r0_z (by omega)]
        rfl
      · cases hd
    rw [if_neg f206] at hd
    by_cases f301 : f = 301
    · rw [if_pos f301] at hd
      split at hd
      · rename_i ho
        cases hd
        subst f301
        rw [zL o 1 ho.1 ho.2.1 ho.2.2, wF_n (by omega), r0_z (by omega)]
        rfl
      · split at hd
        · rename_i ho
          cases hd
          subst f301
          rw [zL o 2 ho.1 ho.2.1 ho.2.2, wF_n (by omega), r0_z (by omega)]
          rfl
        · cases hd
    rw [if_neg f301] at hd
    by_cases f401 : f = 401
    · rw [if_pos f401] at hd
      split at hd
      · rename_i ho
        cases hd
        subst f401
        rw [zL o ((o - 3) % 16) ho.1 ho.2.1 rfl, wF_n (by omega), r0_z (by omega)]
        unfold lnC
        rw [if_neg (by omega), if_neg (by omega), if_neg (by omega), if_neg (by omega), if_neg (by omega), if_pos (by omega), if_pos (by omega)]
        rfl
      · cases hd
    rw [if_neg f401] at hd
    by_cases f503 : f = 503
    · rw [if_pos f503] at hd
      split at hd
      · rename_i ho
        cases hd
        subst f503
        rw [zH o ho.1 ho.2, wF_n (by omega), r0_z (by omega)]
        rfl
      · cases hd
    rw [if_neg f503] at hd
    by_cases f504 : f = 504
    · rw [if_pos f504] at hd
      split at hd
      · rename_i ho
        cases hd
        subst f504
        rw [zH o ho.1 ho.2, wF_n (by omega), r0_26 (by omega)]
        rfl
      · cases hd
    rw [if_neg f504] at hd
    by_cases f505 : f = 505
    · rw [if_pos f505] at hd
      split at hd
      · rename_i ho
        cases hd
        subst f505
        rw [zH o ho.1 ho.2, wF_n (by omega), r0_z (by omega)]
        rfl
      · cases hd
    rw [if_neg f505] at hd
    by_cases f506 : f = 506
    · rw [if_pos f506] at hd
      split at hd
      · rename_i ho
        cases hd
        subst f506
        rw [zH o ho.1 ho.2, wF_n (by omega), r0_z (by omega)]
        rfl
      · cases hd
    rw [if_neg f506] at hd
    by_cases f806 : f = 806
    · rw [if_pos f806] at hd
      split at hd
      · rename_i ho
        cases hd
        subst f806
        rw [zN o 6 ho.1 ho.2.1 ho.2.2, wF_n (by omega), r0_z (by omega)]
        rfl
      · cases hd
    rw [if_neg f806] at hd
    by_cases f807 : f = 807
    · rw [if_pos f807] at hd
      split at hd
      · rename_i ho
        cases hd
        subst f807
        rw [zN o 6 ho.1 ho.2.1 ho.2.2, wF_n (by omega), r0_z (by omega)]
        rfl
      · cases hd
    rw [if_neg f807] at hd
    by_cases f808 : f = 808
    · rw [if_pos f808] at hd
      split at hd
      · rename_i ho
        cases hd
        subst f808
        rw [zN o 6 ho.1 ho.2.1 ho.2.2]
        rfl
      · cases hd
    rw [if_neg f808] at hd
    cases hd
  · rw [h_A H]
    unfold dA at hd
    by_cases a1 : 3 ≤ o ∧ o < 291 ∧ (o - 3) % 16 = 4 ∧ j < 5
    · rw [if_pos a1] at hd
      cases hd
      rw [zL o 4 a1.1 a1.2.1 a1.2.2.1, wF_n (by omega), r0_18 (by omega)]
      show (if j < 5 then (-1 : Int) else 0) = -1
      rw [if_pos a1.2.2.2]
    rw [if_neg a1] at hd
    by_cases a2 : 3 ≤ o ∧ o < 291 ∧ (o - 3) % 16 = 5 ∧ j < 5
    · rw [if_pos a2] at hd
      cases hd
      rw [zL o 5 a2.1 a2.2.1 a2.2.2.1, wF_n (by omega), r0_19 (by omega)]
      show (if j < 5 then (4 : Int) else 0) = 4
      rw [if_pos a2.2.2.2]
    rw [if_neg a2] at hd
    have cs : 301 ≤ o ∧ o < 373 ∧ (((o - 301) % 12 = 2 ∨ (o - 301) % 12 = 3 ∨ (o - 301) % 12 = 4 ∨ (o - 301) % 12 = 5 ∨ (o - 301) % 12 = 7 ∨ (o - 301) % 12 = 8 ∨ (o - 301) % 12 = 9 ∨ (o - 301) % 12 = 10 ∨ (o - 301) % 12 = 11)) ∧ (20 ≤ k ∧ k ≤ 23 ∨ 28 ≤ k ∧ k ≤ 32) := by
      clear zL zN zH H a1 a2
      grind (splits := 40)
    rw [wF_n (by omega), r0_z (by omega), zN o _ cs.1 cs.2.1 rfl]
    unfold noC
    rcases cs.2.2.1 with y | y | y | y | y | y | y | y | y <;> rw [y] <;> rfl
  · rw [h_I H, fs_R0]
    show (if f = 1100 then (D : Int) else if f = 1101 then FL else 0) = _
    unfold R0
    rw [if_pos rfl]
    by_cases h0 : f = 1100
    · rw [if_pos h0, if_pos (by omega)]
    have h0' : ¬ (f : Int) - 1100 = 0 := by omega
    rw [if_neg h0, if_neg h0']
    by_cases h1 : f = 1101
    · have h1' : (f : Int) - 1100 = 1 := by omega
      rw [if_pos h1, if_pos h1']
    · have h1' : ¬ (f : Int) - 1100 = 1 := by omega
      rw [if_neg h1, if_neg h1']
  · rw [h_A H, fs_R ⟨k1, k2⟩]
    unfold rfC R0
    rw [if_neg (by omega : ¬ k = 0)]
    by_cases h1 : k = 18
    · rw [if_pos h1, if_pos h1]
      show (if j < 90 then (-1 : Int) else 0) = _
      by_cases hj : j < 90
      · rw [if_pos hj, if_pos (by omega)]
      · rw [if_neg hj, if_neg (by omega)]
    rw [if_neg h1, if_neg h1]
    by_cases h2 : k = 19
    · rw [if_pos h2, if_pos h2]
      show (if j < 90 then (4 : Int) else 0) = _
      by_cases hj : j < 90
      · rw [if_pos hj, if_pos (by omega)]
      · rw [if_neg hj, if_neg (by omega)]
    rw [if_neg h2, if_neg h2]
    by_cases h3 : k = 26
    · rw [if_pos h3, if_pos h3]
      show (if j < 8 then (-1 : Int) else 0) = _
      by_cases hj : j < 8
      · rw [if_pos hj, if_pos (by omega)]
      · rw [if_neg hj, if_neg (by omega)]
    rw [if_neg h3, if_neg h3]
    rfl
end Cls27
