/-! Constructors: nodes, the class -/
section Cls24
variable {α : Type} {g : ev_hs} {M : Nat → Cl} {z C S e m c0 : Nat} {Q : ev_hs → Prop}
def cCa (c0 a : Nat) (n : Int) : Cl := (8, 0, (fun f => if f = 700 then n else 0), (fun f => if f = 701 then some (c0 + 1) else if 702 ≤ f ∧ f ≤ 705 then some (a + (f - 701)) else none), (fun _ => 0), (fun _ => none))
def caM (M : Nat → Cl) (c0 a : Nat) (n : Int) : Nat → Cl := fun b => if b = a then cCa c0 a n else if a < b ∧ b ≤ a + 4 then nc 50 8 else M b
theorem c_Ca {a : Nat} {n : Int} (H : hM g M (a + 1) C S e m) (ha : M a = nc 8 0) : ∃ r, f_Ca_init (some a) n (some (c0 + 1)) g = some r ∧ hM r (caM M c0 a n) (a + 5) (C + 4) (S + 32) e m := by
  unfold f_Ca_init
  rw [nN_some]
  refine s_nA H (by omega) (by omega) (fun g1 H1 => ?_)
  refine s_pR H1 (by rw [u_n (by omega), ha]; rfl) (fun g2 H2 => ?_)
  rw [u_n (by omega), ha] at H2
  refine s_nA H2 (by omega) (by omega) (fun g3 H3 => ?_)
  refine s_pR H3 (by rw [u_n (by omega), u_s]; rfl) (fun g4 H4 => ?_)
  rw [u_n (by omega), u_s] at H4
  refine s_nA H4 (by omega) (by omega) (fun g5 H5 => ?_)
  refine s_pR H5 (by rw [u_n (by omega), u_s]; rfl) (fun g6 H6 => ?_)
  rw [u_n (by omega), u_s] at H6
  refine s_nA H6 (by omega) (by omega) (fun g7 H7 => ?_)
  refine s_pR H7 (by rw [u_n (by omega), u_s]; rfl) (fun g8 H8 => ?_)
  rw [u_n (by omega), u_s] at H8
  refine s_pI H8 (by rw [u_s]; rfl) (fun g9 H9 => ?_)
  rw [u_s] at H9
  refine s_pR H9 (by rw [u_s]; rfl) (fun g10 H10 => ⟨g10, rfl, h_M H10 (fun b => ?_)⟩)
  unfold caM
  by_cases h0 : b = a
  · rw [if_pos h0, h0]
    simp only [u_s]
    unfold cCa clI clR nc
    dsimp only
    congr 4
    funext x
    by_cases x1 : x = 701
    · subst x1; simp
    by_cases x2 : x = 702
    · subst x2; simp
    by_cases x3 : x = 703
    · subst x3; simp
    by_cases x4 : x = 704
    · subst x4; simp
    by_cases x5 : x = 705
    · subst x5; simp
    rw [if_neg x1, if_neg (by omega)]
    simp [x1, x2, x3, x4, x5]
  rw [if_neg h0]
  by_cases h1 : a < b ∧ b ≤ a + 4
  · rw [if_pos h1]
    have : b = a + 1 ∨ b = a + 2 ∨ b = a + 3 ∨ b = a + 4 := by omega
    rcases this with y | y | y | y <;> rw [y] <;> simp (disch := omega) only [u_s, u_n] <;> rfl
  · rw [if_neg h1]
    simp (disch := omega) only [u_n]
def cCo (a : Nat) (v : Nat) : Cl := (9, 0, (fun _ => 0), (fun f => if f = 800 then some v else if 801 ≤ f ∧ f ≤ 805 then some (a + (f - 800)) else none), (fun _ => 0), (fun _ => none))
def coM (M : Nat → Cl) (a v : Nat) : Nat → Cl := fun b => if b = a then cCo a v else if a < b ∧ b ≤ a + 5 then nc 50 40 else M b
theorem c_Co {a v : Nat} (H : hM g M (a + 1) C S e m) (ha : M a = nc 9 0) : ∃ r, f_Co_init (some a) (some v) g = some r ∧ hM r (coM M a v) (a + 6) (C + 5) (S + 200) e m := by
  unfold f_Co_init
  rw [nN_some]
  refine s_nA H (by omega) (by omega) (fun g1 H1 => ?_)
  refine s_pR H1 (by rw [u_n (by omega), ha]; rfl) (fun g2 H2 => ?_)
  rw [u_n (by omega), ha] at H2
  refine s_nA H2 (by omega) (by omega) (fun g3 H3 => ?_)
  refine s_pR H3 (by rw [u_n (by omega), u_s]; rfl) (fun g4 H4 => ?_)
  rw [u_n (by omega), u_s] at H4
  refine s_nA H4 (by omega) (by omega) (fun g5 H5 => ?_)
  refine s_pR H5 (by rw [u_n (by omega), u_s]; rfl) (fun g6 H6 => ?_)
  rw [u_n (by omega), u_s] at H6
  refine s_nA H6 (by omega) (by omega) (fun g7 H7 => ?_)
  refine s_pR H7 (by rw [u_n (by omega), u_s]; rfl) (fun g8 H8 => ?_)
  rw [u_n (by omega), u_s] at H8
  refine s_nA H8 (by omega) (by omega) (fun g9 H9 => ?_)
  refine s_pR H9 (by rw [u_n (by omega), u_s]; rfl) (fun g10 H10 => ?_)
  rw [u_n (by omega), u_s] at H10
  refine s_pR H10 (by rw [u_s]; rfl) (fun g11 H11 => ⟨g11, rfl, h_M H11 (fun b => ?_)⟩)
  unfold coM
  by_cases h0 : b = a
  · rw [if_pos h0, h0]
    simp only [u_s]
    unfold cCo clR nc
    dsimp only
    congr 4
    funext x
    by_cases x0 : x = 800
    · subst x0; simp
    by_cases x1 : x = 801
    · subst x1; simp
    by_cases x2 : x = 802
    · subst x2; simp
    by_cases x3 : x = 803
    · subst x3; simp
    by_cases x4 : x = 804
    · subst x4; simp
    by_cases x5 : x = 805
    · subst x5; simp
    rw [if_neg x0, if_neg (by omega)]
    simp [x0, x1, x2, x3, x4, x5]
  rw [if_neg h0]
  by_cases h1 : a < b ∧ b ≤ a + 5
  · rw [if_pos h1]
    have : b = a + 1 ∨ b = a + 2 ∨ b = a + 3 ∨ b = a + 4 ∨ b = a + 5 := by omega
    rcases this with y | y | y | y | y <;> rw [y] <;> simp (disch := omega) only [u_s, u_n] <;> rfl
  · rw [if_neg h1]
    simp (disch := omega) only [u_n]
def cNo (c0 z : Nat) (n : Int) : Cl := (7, 0, (fun f => if f = 600 then n else 0), (fun f => if f = 601 then some (c0 + 1) else if f = 602 then some (c0 + 291) else if f = 603 then some (z + 1) else if f = 604 then some (z + 6) else none), (fun _ => 0), (fun _ => none))
def noC (c0 z : Nat) (n : Int) (k : Nat) : Cl := if k = 0 then cNo c0 z n else if k = 1 then cCa c0 (z + 1) n else if k ≤ 5 then nc 50 8 else if k = 6 then cCo (z + 6) (z + 1) else nc 50 40
def noM (M : Nat → Cl) (c0 z : Nat) (n : Int) : Nat → Cl := fun b => if z ≤ b ∧ b < z + 12 then noC c0 z n (b - z) else M b
theorem c_No {n : Int} (H : hM g M (z + 1) C S e m) (ha : M z = nc 7 0) : ∃ r, f_No_init (some z) n (some (c0 + 1)) (some (c0 + 291)) g = some r ∧ hM r (noM M c0 z n) (z + 12) (C + 11) (S + 247) e m := by
  unfold f_No_init
  rw [nN_some]
  refine s_pI H (by rw [ha]; rfl) (fun g1 H1 => ?_)
  rw [ha] at H1
  refine s_pR H1 (by rw [u_s]; rfl) (fun g2 H2 => ?_)
  rw [u_s] at H2
  refine s_pR H2 (by rw [u_s]; rfl) (fun g3 H3 => ?_)
  rw [u_s] at H3
  refine s_nO H3 (fun g4 H4 => ?_)
  rw [nN_some]
  obtain ⟨g5, E5, H5⟩ := c_Ca (c0 := c0) (n := n) H4 (by rw [u_s])
  rw [E5, bV_some]
  refine s_pR H5 (by unfold caM; rw [if_neg (by omega), if_neg (by omega), u_n (by omega), u_s]; rfl) (fun g6 H6 => ?_)
  have cz : caM (upM (upM (upM (upM M z (clI (nc 7 0) (100 * 6 + 0) n)) z (clR (clI (nc 7 0) (100 * 6 + 0) n) (100 * 6 + 1) (some (c0 + 1)))) z (clR (clR (clI (nc 7 0) (100 * 6 + 0) n) (100 * 6 + 1) (some (c0 + 1))) (100 * 6 + 2) (some (c0 + 291)))) (z + 1) (nc (7 + 1) 0)) c0 (z + 1) n z = clR (clR (clI (nc 7 0) (100 * 6 + 0) n) (100 * 6 + 1) (some (c0 + 1))) (100 * 6 + 2) (some (c0 + 291)) := by
    unfold caM
    rw [if_neg (by omega), if_neg (by omega), u_n (by omega), u_s]
  rw [cz] at H6
  refine s_nO H6 (fun g7 H7 => ?_)
  refine s_gR H7 (v := some (z + 1)) (by rw [u_n (by omega), u_s]; rfl) (by rw [u_n (by omega), u_s]; rfl) ?_
  rw [nN_some]
  obtain ⟨g8, E8, H8⟩ := c_Co (v := z + 1) H7 (by rw [u_s])
  rw [E8, bV_some]
  refine s_pR H8 (by unfold coM; rw [if_neg (by omega), if_neg (by omega), u_n (by omega), u_s]; rfl) (fun g9 H9 => ⟨g9, rfl, ?_⟩)
  have e1 : C + 1 + 4 + 1 + 5 = C + 11 := by omega
  have e2 : S + 6 + 32 + 9 + 200 = S + 247 := by omega
  rw [← e1, ← e2]
  refine h_M H9 (fun b => ?_)
  unfold noM
  by_cases h0 : b = z
  · rw [if_pos (by omega), h0, show z - z = 0 by omega]
    simp only [u_s]
    unfold coM noC
    rw [if_pos rfl, if_neg (by omega), if_neg (by omega), u_n (by omega), u_s]
    unfold cNo clI clR nc
    dsimp only
    congr 4
    funext x
    by_cases x1 : x = 601
    · subst x1; simp
    by_cases x2 : x = 602
    · subst x2; simp
    by_cases x3 : x = 603
    · subst x3; simp
    by_cases x4 : x = 604
    · subst x4; simp
    simp [x1, x2, x3, x4]
  rw [u_n h0]
  unfold coM
  by_cases h6 : b = z + 1 + 5
  · rw [if_pos h6, if_pos (by omega), h6, show z + 1 + 5 - z = 6 by omega]
    rfl
  rw [if_neg h6]
  by_cases h7 : z + 1 + 5 < b ∧ b ≤ z + 1 + 5 + 5
  · rw [if_pos h7, if_pos (by omega)]
    unfold noC
    rw [if_neg (by omega), if_neg (by omega), if_neg (by omega), if_neg (by omega)]
  rw [if_neg h7, u_n h6, u_n h0]
  unfold caM
  by_cases h1 : b = z + 1
  · rw [if_pos h1, if_pos (by omega), h1, show z + 1 - z = 1 by omega]
    rfl
  rw [if_neg h1]
  by_cases h2 : z + 1 < b ∧ b ≤ z + 1 + 4
  · rw [if_pos h2, if_pos (by omega)]
    unfold noC
    rw [if_neg (by omega), if_neg (by omega), if_pos (by omega)]
  rw [if_neg h2, if_neg (by omega), u_n h1, u_n h0, u_n h0, u_n h0]
def qNd (c0 t : Nat) : Nat := c0 + (301 + 12 * t) + 0
def ndM (M : Nat → Cl) (c0 i : Nat) : Nat → Cl := fun b => if b = c0 + 300 then cRw 54 6 i (qNd c0) else if c0 + 301 ≤ b ∧ b < c0 + 301 + 12 * i then noC c0 (c0 + (301 + 12 * ((b - c0 - 301) / 12))) (((b - c0 - 301) / 12 : Nat) : Int) ((b - c0 - 301) % 12) else M b
theorem c_ML79 (hc : M c0 = cML c0 1) : ∀ (k fu i : Nat) (g : ev_hs) (C S : Nat), i + k = 6 → k < fu → hM g (ndM M c0 i) (c0 + 301 + 12 * i) C S e m → ∃ r, f_ML_init_79 fu (some c0) (i : Int) g = some r ∧ hM r (ndM M c0 6) (c0 + 373) (C + 12 * k) (S + 252 * k) e m := by
  intro k
  induction k with
  | zero =>
    intro fu i g C S hi hf H
    obtain ⟨fu, rfl⟩ : ∃ f2, fu = f2 + 1 := ⟨fu - 1, by omega⟩
    have : i = 6 := by omega
    subst this
    refine ⟨g, ?_, by simpa using H⟩
    rw [f_ML_init_79, eLt_i (by omega) (by omega) (by omega) (by omega), if_neg (by omega)]
  | succ k ih =>
    intro fu i g C S hi hf H
    obtain ⟨fu, rfl⟩ : ∃ f2, fu = f2 + 1 := ⟨fu - 1, by omega⟩
    rw [f_ML_init_79, eLt_i (by omega) (by omega) (by omega) (by omega), if_pos (by omega)]
    have m0 : ndM M c0 i c0 = cML c0 1 := by unfold ndM; rw [if_neg (by omega), if_neg (by omega), hc]
    have m1 : ndM M c0 i (c0 + 300) = cRw 54 6 i (qNd c0) := by unfold ndM; rw [if_pos rfl]
    refine s_gR H (v := some (c0 + 300)) (by rw [m0]; rfl) (by rw [m0]; rfl) ?_
    refine s_nO H (fun g1 H1 => ?_)
    refine s_gR H1 (v := some (c0 + 1)) (by rw [u_n (by omega), m0]; rfl) (by rw [u_n (by omega), m0]; rfl) ?_
    refine s_gR H1 (v := some (c0 + 291)) (by rw [u_n (by omega), m0]; rfl) (by rw [u_n (by omega), m0]; rfl) ?_
    rw [nN_some]
    obtain ⟨g2, E2, H2⟩ := c_No (c0 := c0) (n := (i : Int)) H1 (by rw [u_s])
    rw [E2, bV_some]
    have l2 : ∀ b, b < c0 + 301 + 12 * i → noM (upM (ndM M c0 i) (c0 + 301 + 12 * i) (nc (6 + 1) 0)) c0 (c0 + 301 + 12 * i) (i : Int) b = ndM M c0 i b := by
      intro b hb
      unfold noM
      rw [if_neg (by omega), u_n (by omega)]
    have l3 : noM (upM (ndM M c0 i) (c0 + 301 + 12 * i) (nc (6 + 1) 0)) c0 (c0 + 301 + 12 * i) (i : Int) (c0 + 301 + 12 * i) = cNo c0 (c0 + 301 + 12 * i) (i : Int) := by
      unfold noM
      rw [if_pos (by omega), Nat.sub_self]
      rfl
    refine s_sQ H2 (by omega) (by rw [l2 _ (by omega), m1]; rfl) (by omega) (by rw [l2 _ (by omega), m1]; show (i : Int) < 6; omega) (by rw [l3]; rfl) (fun g3 H3 => ?_)
    rw [l2 _ (by omega), m1, show ((i : Int)).toNat = i by omega, show c0 + 301 + 12 * i = qNd c0 i by unfold qNd; omega, cRw_s] at H3
    have H4 : hM g3 (ndM M c0 (i + 1)) (c0 + 301 + 12 * (i + 1)) (C + 1 + 11) (S + 5 + 247) e m := by
      have := h_M (M' := ndM M c0 (i + 1)) H3 (fun b => ?_)
      · rw [show c0 + 301 + 12 * (i + 1) = qNd c0 i + 12 by unfold qNd; omega]
        exact this
      rw [show qNd c0 i = c0 + 301 + 12 * i by unfold qNd; omega]
      unfold ndM
      by_cases h1 : b = c0 + 300
      · rw [if_pos h1, h1, u_s]
      rw [if_neg h1, u_n h1]
      unfold noM
      by_cases h2 : c0 + 301 + 12 * i ≤ b ∧ b < c0 + 301 + 12 * i + 12
      · rw [if_pos h2, if_pos (by omega), show (b - c0 - 301) / 12 = i by omega, show (b - c0 - 301) % 12 = b - (c0 + 301 + 12 * i) by omega, show c0 + (301 + 12 * i) = c0 + 301 + 12 * i by omega]
      · rw [if_neg h2, u_n (by omega), if_neg h1]
        by_cases h3 : c0 + 301 ≤ b ∧ b < c0 + 301 + 12 * i
        · rw [if_pos h3, if_pos (by omega)]
        · rw [if_neg h3, if_neg (by omega)]
    obtain ⟨r, E, Hr⟩ := ih fu (i + 1) g3 (C + 1 + 11) (S + 5 + 247) (by omega) (by omega) H4
    refine ⟨r, ?_, ?_⟩
    · rw [show ((i : Int) + 1) = ((i + 1 : Nat) : Int) by omega]
      exact E
    · have e1 : C + 1 + 11 + 12 * k = C + 12 * (k + 1) := by omega
      have e2 : S + 5 + 247 + 252 * k = S + 252 * (k + 1) := by omega
      rw [← e1, ← e2]
      exact Hr
-- the nearest numbers
def nrD (x : Int) : Nat := if x < 1 then 1 else if 4 < x then 4 else x.toNat
def nrF (x : Int) : Nat := if x < 2 then 2 else if 5 < x then 5 else x.toNat
theorem t_nrD {x : Int} (hx : oK x) {K : Int → ev_hs → Option α} : bI (f_ML_nearest x 1 4 g) K = K (nrD x : Int) g := by
  unfold oK at hx
  unfold f_ML_nearest
  rw [m_min (by omega) (by omega), bI_some, m_max (by omega) (by split <;> omega), bI_some, bI_some]
  congr 1
  unfold nrD
  repeat' split
  all_goals omega
theorem t_nrF {x : Int} (hx : oK x) {K : Int → ev_hs → Option α} : bI (f_ML_nearest x 2 5 g) K = K (nrF x : Int) g := by
  unfold oK at hx
  unfold f_ML_nearest
  rw [m_min (by omega) (by omega), bI_some, m_max (by omega) (by split <;> omega), bI_some, bI_some]
  congr 1
  unfold nrF
  repeat' split
  all_goals omega
def clM (M : Nat → Cl) (c0 D : Nat) (FL : Int) (e : Nat) : Nat → Cl := ndM (upM (hoM (upM (msM M c0 D FL e 18) c0 (cML c0 0)) c0 8) c0 (cML c0 1)) c0 6
theorem c_ML {x y : Int} (hx : oK x) (hy : oK y) (H : hM g M (c0 + 1) C S e m) (hc : M c0 = nc 1 0) : ∃ r, f_ML_init (some c0) x y g = some r ∧ hM r (clM M c0 (nrD x) (nrF y : Int) e) (c0 + 373) (C + 372) (S + (5 + 18 + (28 + (2 + nrD x) * 5) * 18 + 8 + 56 + 6 + 1512)) e m := by
  have hD : nrD x ≤ 4 := by unfold nrD; repeat' split
                            all_goals omega
  unfold f_ML_init
  rw [nN_some]
  refine s_nO H (fun g1 H1 => ?_)
  rw [t_nrD hx, t_nrF hy, nN_some]
  obtain ⟨g2, E2, H2⟩ := c_Me (FL := (nrF y : Int)) hD H1 (by rw [u_s])
  rw [E2, bV_some]
  have H2' : hM g2 (msM M c0 (nrD x) (nrF y : Int) e 18) (c0 + 291) (C + 1 + 289) (S + 5 + 18 + (28 + (2 + nrD x) * 5) * 18) e m := by
    refine h_M H2 (fun b => ?_)
    unfold msM
    by_cases h1 : b = c0 + 1
    · rw [if_pos h1, if_pos h1]
    rw [if_neg h1, if_neg h1, u_n h1]
  have k0 : msM M c0 (nrD x) (nrF y : Int) e 18 c0 = nc 1 0 := by
    unfold msM
    rw [if_neg (by omega), if_neg (by omega), if_neg (by omega), hc]
  refine s_pR H2' (by rw [k0]; rfl) (fun g3 H3 => ?_)
  rw [k0] at H3
  refine s_nA H3 (by omega) (by omega) (fun g4 H4 => ?_)
  refine s_pR H4 (by rw [u_n (by omega), u_s]; rfl) (fun g5 H5 => ?_)
  rw [u_n (by omega), u_s] at H5
  have H6 : hM g5 (hoM (upM (msM M c0 (nrD x) (nrF y : Int) e 18) c0 (cML c0 0)) c0 0) (c0 + 292 + 0) (C + 1 + 289 + 1) (S + 5 + 18 + (28 + (2 + nrD x) * 5) * 18 + 8) e m := by
    refine h_M H5 (fun b => ?_)
    unfold hoM
    by_cases h1 : b = c0 + 291
    · rw [if_pos h1, h1]
      simp (disch := omega) only [u_s, u_n]
      rfl
    rw [if_neg h1, if_neg (by omega)]
    by_cases h0 : b = c0
    · rw [h0, u_s, u_s]
      unfold cML clR nc
      dsimp only
      congr 4
      funext f
      by_cases f1 : f = 1
      · subst f1; simp
      by_cases f0 : f = 0
      · subst f0; simp
      simp [f0, f1]
    simp (disch := omega) only [u_n]
  refine c_ML38 (by rw [u_s]) 8 FU 0 g5 _ _ (by omega) (by unfold FU; omega) H6 (fun r Hr => ?_)
  refine s_nA Hr (by omega) (by omega) (fun g7 H7 => ?_)
  have k1 : hoM (upM (msM M c0 (nrD x) (nrF y : Int) e 18) c0 (cML c0 0)) c0 8 c0 = cML c0 0 := by
    unfold hoM
    rw [if_neg (by omega), if_neg (by omega), u_s]
  refine s_pR H7 (by rw [u_n (by omega), k1]; rfl) (fun g8 H8 => ?_)
  rw [u_n (by omega), k1] at H8
  have H9 : hM g8 (ndM (upM (hoM (upM (msM M c0 (nrD x) (nrF y : Int) e 18) c0 (cML c0 0)) c0 8) c0 (cML c0 1)) c0 0) (c0 + 301 + 12 * 0) (C + 1 + 289 + 1 + 8 + 1) (S + 5 + 18 + (28 + (2 + nrD x) * 5) * 18 + 8 + 7 * 8 + 6) e m := by
    refine h_M H8 (fun b => ?_)
    unfold ndM
    by_cases h1 : b = c0 + 300
    · rw [if_pos h1, h1]
      simp (disch := omega) only [u_s, u_n]
      rfl
    rw [if_neg h1, if_neg (by omega)]
    by_cases h0 : b = c0
    · rw [h0, u_s, u_s]
      unfold cML clR
      dsimp only
      congr 4
      funext f
      by_cases f2 : f = 2
      · subst f2; simp
      by_cases f1 : f = 1
      · subst f1; simp
      by_cases f0 : f = 0
      · subst f0; simp
      simp [f0, f1, f2]
    simp (disch := omega) only [u_n]
  obtain ⟨r2, E3, Hr2⟩ := c_ML79 (by rw [u_s]) 6 FU 0 g8 _ _ (by omega) (by unfold FU; omega) H9
  refine ⟨r2, E3, ?_⟩
  have e1 : C + 1 + 289 + 1 + 8 + 1 + 12 * 6 = C + 372 := by omega
  have e2 : S + 5 + 18 + (28 + (2 + nrD x) * 5) * 18 + 8 + 7 * 8 + 6 + 252 * 6 = S + (5 + 18 + (28 + (2 + nrD x) * 5) * 18 + 8 + 56 + 6 + 1512) := by omega
  rw [← e1, ← e2]
  exact Hr2
end Cls24
