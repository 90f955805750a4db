/-! The whole law -/
section Cls29
variable {α : Type} {g : ev_hs} {M : Nat → Cl} {z C S e m c0 b L : Nat} {xs : Nat → Int32}
def cSc (L : Nat) (xs : Nat → Int32) : Cl := (58, L, (fun _ => 0), (fun _ => none), (fun j => (xs j).toInt), (fun _ => none))
def cv (L : Nat) (xs : Nat → Int32) (i : Nat) : Int := if i < L then (xs i).toInt else 0
theorem cv_ok {i : Nat} : oK (cv L xs i) := by
  unfold cv
  split
  · exact i32_ok _
  · unfold oK; omega
theorem t_cell (H : hM g M z C S e m) (hb : M b = cSc L xs) (hL : L ≤ 3074) {i : Nat} (hi : i ≤ 5) {K : Int → ev_hs → Option α} : bI (f_Lw_cell (some b) (i : Int) g) K = K (cv L xs i) g := by
  have h1 : xK g b = 58 := by rw [h_K H, hb]; rfl
  have h2 : xL g b = L := by rw [h_L H, hb]; rfl
  have h3 : ∀ j, xA g b j = (xs j).toInt := fun j => by rw [h_A H, hb]; rfl
  unfold f_Lw_cell cv
  rw [jn_eq]
  unfold aL
  dsimp only
  rw [if_pos h1, h2, eLt_i (by omega) (by omega) (by omega) (by omega)]
  by_cases hl : i < L
  · rw [if_pos (by omega), if_pos hl]
    unfold lI
    dsimp only
    rw [if_pos ⟨h1, by omega, by rw [h2]; omega⟩, h3, show ((i : Int)).toNat = i by omega]
    rfl
  · rw [if_neg (by omega), if_neg hl]
    rfl
theorem hM_nO {c n : Nat} (H : hM g M z C S e m) : hM (wN g c n) (upM M z (nc (c + 1) 0)) (z + 1) (C + 1) (S + n) e m := by
  obtain ⟨r, E, Hr⟩ := s_nO (K := fun _ g' => some g') (Q := fun r => hM r (upM M z (nc (c + 1) 0)) (z + 1) (C + 1) (S + n) e m) (c := c) (n := n) H (fun g' H' => ⟨g', rfl, H'⟩)
  have : wN g c n = r := Option.some.inj E
  rw [this]
  exact Hr
theorem nO_x {c n : Nat} {K : Option Nat → ev_hs → Option α} (H : hM g M z C S e m) : nO g c n K = K (some z) (wN g c n) := by
  unfold nO
  rw [H.2.1]
theorem cl_o {D b : Nat} {FL : Int} (hb : b < c0) : clM M c0 D FL e b = M b := by
  rw [← fs_c (M := M) (c0 := c0) (D := D) (FL := FL) (e := e) (by omega), fs_o hb]
theorem hpure : ∀ (b a0 mi z L : Nat) (xs : Nat → Int32), b ≠ a0 → b < z → a0 < z → L ≤ 3074 → ev_pure b a0 mi z L xs := by
  intro b a0 mi z L xs hne hb ha hL
  have H0 : hM (ev_h0 z b a0 mi L xs) (fun b' => if b' = b then cSc L xs else if b' = a0 then nc 52 0 else nc 0 0) z 0 0 a0 mi := by
    refine ⟨fun b' => ?_, rfl, rfl, rfl, rfl, rfl, fun b' hb' => ?_⟩
    · show ((if b' = b then 58 else if b' = a0 then 52 else 0), (if b' = b then L else 0), (fun _ => (0 : Int)), (fun _ => (none : Option Nat)), (fun j => if b' = b then (xs j).toInt else 0), (fun _ => (none : Option Nat))) = _
      by_cases h1 : b' = b
      · simp only [h1, if_true]
        rfl
      · by_cases h2 : b' = a0
        · simp only [h2, if_true, if_neg (fun y : a0 = b => hne y.symm)]
          rfl
        · simp only [h1, h2, if_false]
          rfl
    · show (if b' = b then cSc L xs else if b' = a0 then nc 52 0 else nc 0 0) = _
      rw [if_neg (by omega), if_neg (by omega)]
  unfold ev_pure f_Lw_law
  have H1 := hM_nO (c := 0) (n := 4) H0
  rw [nO_x H0]
  generalize wN (ev_h0 z b a0 mi L xs) 0 4 = g1 at H1 ⊢
  generalize hM1 : upM (fun b' => if b' = b then cSc L xs else if b' = a0 then nc 52 0 else nc 0 0) z (nc (0 + 1) 0) = M1 at H1
  have mb : M1 b = cSc L xs := by
    rw [← hM1, u_n (by omega), if_pos rfl]
  have ma : M1 a0 = nc 52 0 := by
    rw [← hM1, u_n (by omega), if_neg (fun y => hne y.symm), if_pos rfl]
  have mz : M1 z = nc 1 0 := by
    rw [← hM1, u_s]
  have c0' : ∀ K : Int → ev_hs → Option (Int × ev_hs), bI (f_Lw_cell (some b) 0 g1) K = K (cv L xs 0) g1 := fun K => t_cell (i := 0) H1 mb hL (by omega)
  have c1' : ∀ K : Int → ev_hs → Option (Int × ev_hs), bI (f_Lw_cell (some b) 1 g1) K = K (cv L xs 1) g1 := fun K => t_cell (i := 1) H1 mb hL (by omega)
  have q0 : oK (cv L xs 0) := cv_ok
  have q1 : oK (cv L xs 1) := cv_ok
  obtain ⟨g2, E2, H2⟩ := c_ML (c0 := z) q0 q1 H1 mz
  have H3 := hM_nO (c := 11) (n := 41) H2
  have mb3 : upM (clM M1 z (nrD (cv L xs 0)) ((nrF (cv L xs 1) : Nat) : Int) a0) (z + 373) (nc (11 + 1) 0) b = cSc L xs := by
    rw [u_n (by omega), cl_o hb, mb]
  have d0' : ∀ K : Int → ev_hs → Option (Int × ev_hs), bI (f_Lw_cell (some b) 0 (wN g2 11 41)) K = K (cv L xs 0) (wN g2 11 41) := fun K => t_cell (i := 0) H3 mb3 hL (by omega)
  have d1' : ∀ K : Int → ev_hs → Option (Int × ev_hs), bI (f_Lw_cell (some b) 1 (wN g2 11 41)) K = K (cv L xs 1) (wN g2 11 41) := fun K => t_cell (i := 1) H3 mb3 hL (by omega)
  obtain ⟨g3, E3, H4⟩ := r_Mo (a := z + 373) q0 q1 H3 (by rw [u_s])
  have H5 : hM g3 (fsM M1 z (nrD (cv L xs 0)) ((nrF (cv L xs 1) : Nat) : Int) a0) (z + 409) (0 + 1 + 372 + 1 + 35) (0 + 4 + (5 + 18 + (28 + (2 + nrD (cv L xs 0)) * 5) * 18 + 8 + 56 + 6 + 1512) + 41 + 8478) a0 mi := H4
  have hD : 1 ≤ nrD (cv L xs 0) ∧ nrD (cv L xs 0) ≤ 4 := by
    unfold nrD
    repeat' split
    all_goals omega
  have hF : 2 ≤ nrF (cv L xs 1) ∧ nrF (cv L xs 1) ≤ 5 := by
    unfold nrF
    repeat' split
    all_goals omega
  have P : lwP g3 z b L xs (R0 (nrD (cv L xs 0) : Int) ((nrF (cv L xs 1) : Nat) : Int)) (fun _ => 0) := by
    refine ⟨fs_cR H5 ma ha, jP_0 (by omega) (by omega), fun n _ _ => ?_, fs_shR H5, ⟨?_, ?_, fun j => ?_, hb⟩, ?_⟩
    · show (0 : Int) ≤ 0 ∧ (0 : Int) ≤ R0 (nrD (cv L xs 0) : Int) ((nrF (cv L xs 1) : Nat) : Int) 0 2
      rw [r0_0 (by omega)]
      omega
    · rw [h_K H5, fs_o hb, mb]; rfl
    · rw [h_L H5, fs_o hb, mb]; rfl
    · rw [h_A H5, fs_o hb, mb]; rfl
    · unfold bud
      rw [phi_0, r0_0 (by omega), r0_0 (by omega), H5.2.2.1, H5.2.2.2.1]
      have : nrD (cv L xs 0) * 90 ≤ 360 := by omega
      omega
  have lp := law_loop (c0 := z) (b := b) (xs := xs) hL 513 FU 2 _ _ g3 (by omega) (by omega) (by omega) (by unfold FU; omega) (by rw [r0_0 (by omega)]; omega) P
  rw [fs_vw H5] at lp
  rw [c0', c1', nN_some, E2, bV_some, nO_x H2, d0', d1', nN_some, E3, bV_some]
  exact lp
end Cls29
