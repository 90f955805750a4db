/-! Constructors: lanes and the mesh -/
section Cls22
variable {α : Type} {g : ev_hs} {M : Nat → Cl} {z C S e m : Nat} {Q : ev_hs → Prop}
def cFB (z : Nat) : Cl := (5, 0, (fun _ => 0), (fun f => if f = 400 then some (z + 1) else none), (fun _ => 0), (fun _ => none))
def cAL (e : Nat) : Cl := (4, 0, (fun _ => 0), (fun f => if f = 300 then some e else none), (fun _ => 0), (fun _ => none))
def cLa (a : Nat) (n : Int) : Cl := (3, 0, (fun f => if f = 200 then n else 0), (fun f => if 201 ≤ f ∧ f ≤ 205 then some (a + (f - 200)) else none), (fun _ => 0), (fun _ => none))
def cBs (a i : Nat) : Cl := (56, 5, (fun _ => 0), (fun _ => none), (fun _ => 0), (fun p => if p < i then some (a + (6 + 2 * p + 0)) else none))
def cAr (l i : Nat) (v : Int) : Cl := (50, l, (fun _ => 0), (fun _ => none), (fun p => if p < i then v else 0), (fun _ => none))
def lnC (a : Nat) (n : Int) (D e i k : Nat) : Cl := if k = 0 then cLa a n else if k = 1 ∨ k = 2 then cAL e else if k = 3 then cBs a i else if k = 4 then cAr 5 i (-1) else if k = 5 then cAr 5 i 4 else if (k - 6) / 2 < i then (if k % 2 = 0 then cFB (a + k) else nc 57 D) else nc 0 0
def lnM (M : Nat → Cl) (a : Nat) (n : Int) (D e i : Nat) : Nat → Cl := fun b => if b < a ∨ a + 16 ≤ b then M b else lnC a n D e i (b - a)
theorem u_s {a : Nat} {c : Cl} : upM M a c a = c := by simp [upM]
theorem u_n {a b : Nat} {c : Cl} (h : b ≠ a) : upM M a c b = M b := by simp [upM, h]
theorem c_FB {a : Nat} {D : Nat} (H : hM g M z C S e m) (ha : M a = nc 5 0) (hD : D ≤ 4) (k : ∀ g', hM g' (upM (upM M z (nc 57 D)) a (clR (nc 5 0) 400 (some z))) (z + 1) (C + 1) (S + D) e m → Q g') : ∃ r, f_FB_init (some a) (D : Int) g = some r ∧ Q r := by
  have hlt := h_lt H (a := a) (by rw [ha]; simp [nc])
  unfold f_FB_init
  rw [nN_some]
  refine s_nA H (by omega) (by omega) (fun g1 H1 => ?_)
  rw [show ((D : Int)).toNat = D by omega] at H1
  refine s_pR H1 (by rw [u_n (by omega), ha]; rfl) (fun g2 H2 => ?_)
  rw [u_n (by omega), ha] at H2
  exact ⟨g2, rfl, k g2 H2⟩
theorem c_AL {a : Nat} (H : hM g M z C S e m) (ha : M a = nc 4 0) (k : ∀ g', hM g' (upM M a (cAL e)) z C S e m → Q g') : ∃ r, f_AL_init (some a) g = some r ∧ Q r := by
  unfold f_AL_init f_Al_init f_Ac_init
  rw [nN_some, nN_some, nN_some, bV_some]
  refine s_v ?_
  refine s_pI H (by rw [ha]; rfl) (fun g1 H1 => ⟨g1, rfl, ?_⟩)
  have he : xE g1 = e := H1.2.2.2.2.1
  rw [he]
  refine s_pR H1 (by rw [u_s, ha]; rfl) (fun g2 H2 => ⟨g2, rfl, k g2 (h_M H2 (fun b => ?_))⟩)
  unfold upM
  by_cases hb : b = a
  · subst hb
    simp [ha, cAL, clR, clI, nc]
  · simp [hb]
theorem ln_at {a D i k : Nat} {n : Int} (hk : k < 16) : lnM M a n D e i (a + k) = lnC a n D e i k := by
  unfold lnM
  rw [if_neg (by omega), show a + k - a = k by omega]
theorem cAr_s {l i : Nat} {v : Int} : clA (cAr l i v) i v = cAr l (i + 1) v := by
  unfold clA cAr
  dsimp only
  congr 5
  funext x
  by_cases hx : x = i
  · rw [if_pos hx, if_pos (by omega)]
  · rw [if_neg hx]
    by_cases hy : x < i
    · rw [if_pos hy, if_pos (by omega)]
    · rw [if_neg hy, if_neg (by omega)]
theorem cBs_s {a i : Nat} : clQ (cBs a i) i (some (a + 6 + 2 * i)) = cBs a (i + 1) := by
  unfold clQ cBs
  dsimp only
  congr 5
  funext x
  by_cases hx : x = i
  · rw [if_pos hx, if_pos (by omega), hx]
    congr 1
    omega
  · rw [if_neg hx]
    by_cases hy : x < i
    · rw [if_pos hy, if_pos (by omega)]
    · rw [if_neg hy, if_neg (by omega)]
theorem c_La55 {a D : Nat} {n : Int} (hD : D ≤ 4) : ∀ (k fu i : Nat) (g : ev_hs) (C S : Nat), i + k = 5 → k < fu → hM g (lnM M a n D e i) (a + 6 + 2 * i) C S e m → ∃ r, f_La_init_55 fu (some a) (D : Int) (i : Int) g = some r ∧ hM r (lnM M a n D e 5) (a + 16) (C + 2 * k) (S + (2 + D) * k) e m := by
  intro k
  induction k with
  | zero =>
    intro fu i g C S hi hf H
    obtain ⟨fu, rfl⟩ : ∃ f2, fu = f2 + 1 := ⟨fu - 1, by omega⟩
    have : i = 5 := by omega
    subst this
    refine ⟨g, ?_, by simpa using H⟩
    rw [f_La_init_55, eLt_i (by omega) (by omega) (by omega) (by omega), if_neg (by omega)]
  | succ k ih =>
    intro fu i g C S hi hf H
    obtain ⟨fu, rfl⟩ : ∃ f2, fu = f2 + 1 := ⟨fu - 1, by omega⟩
    rw [f_La_init_55, eLt_i (by omega) (by omega) (by omega) (by omega), if_pos (by omega)]
    have m0 : lnM M a n D e i a = cLa a n := ln_at (k := 0) (by omega)
    have m3 : lnM M a n D e i (a + 3) = cBs a i := ln_at (k := 3) (by omega)
    have m4 : lnM M a n D e i (a + 4) = cAr 5 i (-1) := ln_at (k := 4) (by omega)
    have m5 : lnM M a n D e i (a + 5) = cAr 5 i 4 := ln_at (k := 5) (by omega)
    refine s_gR H (v := some (a + 3)) (by rw [m0]; rfl) (by rw [m0]; rfl) ?_
    refine s_nO H (fun g1 H1 => ?_)
    rw [nN_some]
    refine s_v (c_FB H1 (by rw [u_s]) hD (fun g2 H2 => ?_))
    refine s_sQ H2 (by omega) (by rw [u_n (by omega), u_n (by omega), u_n (by omega), m3]; rfl) (by omega) (by rw [u_n (by omega), u_n (by omega), u_n (by omega), m3]; show (i : Int) < 5; omega) (by rw [u_s]; rfl) (fun g3 H3 => ?_)
    rw [u_n (a := a + 6 + 2 * i) (by omega), u_n (by omega), u_n (by omega), m3, show ((i : Int)).toNat = i by omega, cBs_s] at H3
    refine s_gR H3 (v := some (a + 4)) (by rw [u_n (by omega), u_n (by omega), u_n (by omega), u_n (by omega), m0]; rfl) (by rw [u_n (by omega), u_n (by omega), u_n (by omega), u_n (by omega), m0]; rfl) ?_
    refine s_sI H3 (by rw [u_n (by omega), u_n (by omega), u_n (by omega), u_n (by omega), m4]; rfl) (by omega) (by rw [u_n (by omega), u_n (by omega), u_n (by omega), u_n (by omega), m4]; show (i : Int) < 5; omega) (fun g4 H4 => ?_)
    rw [u_n (a := a + 3) (by omega), u_n (by omega), u_n (by omega), u_n (by omega), m4, show ((i : Int)).toNat = i by omega, cAr_s] at H4
    refine s_gR H4 (v := some (a + 5)) (by rw [u_n (by omega), u_n (by omega), u_n (by omega), u_n (by omega), u_n (by omega), m0]; rfl) (by rw [u_n (by omega), u_n (by omega), u_n (by omega), u_n (by omega), u_n (by omega), m0]; rfl) ?_
    refine s_sI H4 (by rw [u_n (by omega), u_n (by omega), u_n (by omega), u_n (by omega), u_n (by omega), m5]; rfl) (by omega) (by rw [u_n (by omega), u_n (by omega), u_n (by omega), u_n (by omega), u_n (by omega), m5]; show (i : Int) < 5; omega) (fun g5 H5 => ?_)
    rw [u_n (a := a + 4) (by omega), u_n (by omega), u_n (by omega), u_n (by omega), u_n (by omega), m5, show ((i : Int)).toNat = i by omega, cAr_s] at H5
    have H6 : hM g5 (lnM M a n D e (i + 1)) (a + 6 + 2 * (i + 1)) (C + 1 + 1) (S + 2 + D) e m := by
      have := h_M (M' := lnM M a n D e (i + 1)) H5 (fun b => ?_)
      · rw [show a + 6 + 2 * (i + 1) = a + 6 + 2 * i + 1 + 1 by omega]
        exact this
      by_cases h5 : b = a + 5
      · rw [h5, u_s]
        exact ln_at (k := 5) (by omega)
      rw [u_n h5]
      by_cases h4 : b = a + 4
      · rw [h4, u_s]
        exact ln_at (k := 4) (by omega)
      rw [u_n h4]
      by_cases h3 : b = a + 3
      · rw [h3, u_s]
        exact ln_at (k := 3) (by omega)
      rw [u_n h3]
      by_cases h6 : b = a + 6 + 2 * i
      · subst h6
        rw [u_s]
        unfold lnM lnC
        rw [if_neg (by omega), if_neg (by omega), if_neg (by omega), if_neg (by omega), if_neg (by omega), if_neg (by omega), if_pos (by omega), if_pos (by omega)]
        unfold cFB clR nc
        dsimp only
        rw [show a + (a + 6 + 2 * i - a) = a + 6 + 2 * i by omega]
      rw [u_n h6]
      by_cases h7 : b = a + 6 + 2 * i + 1
      · subst h7
        rw [u_s]
        unfold lnM lnC
        rw [if_neg (by omega), if_neg (by omega), if_neg (by omega), if_neg (by omega), if_neg (by omega), if_neg (by omega), if_pos (by omega), if_neg (by omega)]
      rw [u_n h7, u_n h6]
      unfold lnM
      by_cases hr : b < a ∨ a + 16 ≤ b
      · rw [if_pos hr, if_pos hr]
      · rw [if_neg hr, if_neg hr]
        unfold lnC
        by_cases k0 : b - a = 0
        · rw [if_pos k0, if_pos k0]
        rw [if_neg k0, if_neg k0]
        by_cases k1 : b - a = 1 ∨ b - a = 2
        · rw [if_pos k1, if_pos k1]
        have k3 : ¬ b - a = 3 := by omega
        have k4 : ¬ b - a = 4 := by omega
        have k5 : ¬ b - a = 5 := by omega
        rw [if_neg k1, if_neg k1, if_neg k3, if_neg k3, if_neg k4, if_neg k4, if_neg k5, if_neg k5]
        by_cases k6 : (b - a - 6) / 2 < i
        · rw [if_pos (by omega), if_pos k6]
        · rw [if_neg (by omega), if_neg k6]
    obtain ⟨r, E, Hr⟩ := ih fu (i + 1) g5 (C + 1 + 1) (S + 2 + D) (by omega) (by omega) H6
    refine ⟨r, ?_, ?_⟩
    · rw [show ((i : Int) + 1) = ((i + 1 : Nat) : Int) by omega]
      exact E
    · have e1 : C + 1 + 1 + 2 * k = C + 2 * (k + 1) := by omega
      have e2 : S + 2 + D + (2 + D) * k = S + (2 + D) * (k + 1) := by rw [Nat.mul_add]; omega
      rw [← e1, ← e2]
      exact Hr
theorem c_La {a D : Nat} {n : Int} (hD : D ≤ 4) (H : hM g M (a + 1) C S e m) (ha : M a = nc 3 0) : ∃ r, f_La_init (some a) n (D : Int) g = some r ∧ hM r (lnM M a n D e 5) (a + 16) (C + 15) (S + 21 + (2 + D) * 5) e m := by
  unfold f_La_init
  rw [nN_some]
  refine s_nO H (fun g1 H1 => ?_)
  rw [nN_some]
  refine s_v (c_AL H1 (by rw [u_s]) (fun g2 H2 => ?_))
  refine s_pR H2 (by rw [u_n (by omega), u_n (by omega), ha]; rfl) (fun g3 H3 => ?_)
  rw [u_n (by omega), u_n (by omega), ha] at H3
  refine s_nO H3 (fun g4 H4 => ?_)
  rw [nN_some]
  refine s_v (c_AL H4 (by rw [u_s]) (fun g5 H5 => ?_))
  refine s_pR H5 (by rw [u_n (by omega), u_n (by omega), u_s]; rfl) (fun g6 H6 => ?_)
  rw [u_n (by omega), u_n (by omega), u_s] at H6
  refine s_nA H6 (by omega) (by omega) (fun g7 H7 => ?_)
  refine s_pR H7 (by rw [u_n (by omega), u_s]; rfl) (fun g8 H8 => ?_)
  rw [u_n (by omega), u_s] at H8
  refine s_nA H8 (by omega) (by omega) (fun g9 H9 => ?_)
  refine s_pR H9 (by rw [u_n (by omega), u_s]; rfl) (fun g10 H10 => ?_)
  rw [u_n (by omega), u_s] at H10
  refine s_nA H10 (by omega) (by omega) (fun g11 H11 => ?_)
  refine s_pR H11 (by rw [u_n (by omega), u_s]; rfl) (fun g12 H12 => ?_)
  rw [u_n (by omega), u_s] at H12
  refine s_pI H12 (by rw [u_s]; rfl) (fun g13 H13 => ?_)
  rw [u_s] at H13
  have H14 : hM g13 (lnM M a n D e 0) (a + 6 + 2 * 0) (C + 5) (S + 21) e m := by
    refine h_M H13 (fun b => ?_)
    by_cases h0 : b = a
    · rw [h0, u_s, show lnM M a n D e 0 a = cLa a n from ln_at (k := 0) (by omega)]
      unfold cLa clI clR nc
      dsimp only
      congr 4
      funext x
      by_cases x1 : x = 201
      · subst x1; simp
      by_cases x2 : x = 202
      · subst x2; simp
      by_cases x3 : x = 203
      · subst x3; simp
      by_cases x4 : x = 204
      · subst x4; simp
      by_cases x5 : x = 205
      · subst x5; simp
      · rw [if_neg (by omega)]
        simp [x1, x2, x3, x4, x5]
    by_cases h5 : b = a + 5
    · rw [h5, show lnM M a n D e 0 (a + 5) = cAr 5 0 4 from ln_at (k := 5) (by omega)]
      simp (disch := omega) only [u_s, u_n]
      rfl
    by_cases h4 : b = a + 4
    · rw [h4, show lnM M a n D e 0 (a + 4) = cAr 5 0 (-1) from ln_at (k := 4) (by omega)]
      simp (disch := omega) only [u_s, u_n]
      rfl
    by_cases h3 : b = a + 3
    · rw [h3, show lnM M a n D e 0 (a + 3) = cBs a 0 from ln_at (k := 3) (by omega)]
      simp (disch := omega) only [u_s, u_n]
      rfl
    by_cases h2 : b = a + 2
    · rw [h2, show lnM M a n D e 0 (a + 2) = cAL e from ln_at (k := 2) (by omega)]
      simp (disch := omega) only [u_s, u_n]
    by_cases h1 : b = a + 1
    · rw [h1, show lnM M a n D e 0 (a + 1) = cAL e from ln_at (k := 1) (by omega)]
      simp (disch := omega) only [u_s, u_n]
    simp (disch := omega) only [u_n]
    unfold lnM
    by_cases hr : b < a ∨ a + 16 ≤ b
    · rw [if_pos hr]
    · rw [if_neg hr]
      unfold lnC
      rw [if_neg (by omega), if_neg (by omega), if_neg (by omega), if_neg (by omega), if_neg (by omega), if_neg (by omega)]
      exact (H.2.2.2.2.2.2 b (by omega)).symm
  obtain ⟨r, E, Hr⟩ := c_La55 hD 5 FU 0 g13 (C + 5) (S + 21) (by omega) (by unfold FU; omega) H14
  exact ⟨r, E, Hr⟩
end Cls22
