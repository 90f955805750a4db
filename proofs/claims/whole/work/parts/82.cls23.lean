/-! Constructors: mesh, homes, nodes, the class -/
section Cls23
variable {α : Type} {g : ev_hs} {M : Nat → Cl} {z C S e m c0 : Nat} {Q : ev_hs → Prop}
def cMe (c0 : Nat) (FL : Int) : Cl := (2, 0, (fun f => if f = 101 then FL else 0), (fun f => if f = 100 then some (c0 + 2) else none), (fun _ => 0), (fun _ => none))
def cRw (k l i : Nat) (q : Nat → Nat) : Cl := (k, l, (fun _ => 0), (fun _ => none), (fun _ => 0), (fun t => if t < i then some (q t) else none))
theorem cRw_s {k l i : Nat} {q : Nat → Nat} : clQ (cRw k l i q) i (some (q i)) = cRw k l (i + 1) q := by
  unfold clQ cRw
  dsimp only
  congr 5
  funext x
  by_cases hx : x = i
  · rw [if_pos hx, if_pos (by omega), hx]
  · rw [if_neg hx]
    by_cases hy : x < i
    · rw [if_pos hy, if_pos (by omega)]
    · rw [if_neg hy, if_neg (by omega)]
def qLn (c0 t : Nat) : Nat := c0 + (3 + 16 * t) + 0
def msM (M : Nat → Cl) (c0 D : Nat) (FL : Int) (e i : Nat) : Nat → Cl := fun b => if b = c0 + 1 then cMe c0 FL else if b = c0 + 2 then cRw 55 18 i (qLn c0) else if c0 + 3 ≤ b ∧ b < c0 + 3 + 16 * i then lnC (c0 + (3 + 16 * ((b - c0 - 3) / 16))) (((b - c0 - 3) / 16 / 3 : Nat) : Int) D e 5 ((b - c0 - 3) % 16) else M b
theorem c_Me20 {D : Nat} {FL : Int} (hD : D ≤ 4) : ∀ (k fu i : Nat) (g : ev_hs) (C S : Nat), i + k = 18 → k < fu → hM g (msM M c0 D FL e i) (c0 + 3 + 16 * i) C S e m → ∃ r, f_Me_init_20 fu (some (c0 + 1)) (D : Int) (i : Int) g = some r ∧ hM r (msM M c0 D FL e 18) (c0 + 3 + 16 * 18) (C + 16 * k) (S + (28 + (2 + D) * 5) * k) e m := by
  intro k
  induction k with
  | zero =>
    intro fu i g C S hi hf H
    obtain ⟨fu, rfl⟩ : ∃ f2, fu = f2 + 1 := ⟨fu - 1, by omega⟩
    have : i = 18 := by omega
    subst this
    refine ⟨g, ?_, by simpa using H⟩
    rw [f_Me_init_20, eLt_i (by omega) (by omega) (by omega) (by omega), if_neg (by omega)]
  | succ k ih =>
    intro fu i g C S hi hf H
    obtain ⟨fu, rfl⟩ : ∃ f2, fu = f2 + 1 := ⟨fu - 1, by omega⟩
    rw [f_Me_init_20, eLt_i (by omega) (by omega) (by omega) (by omega), if_pos (by omega)]
    have m1 : msM M c0 D FL e i (c0 + 1) = cMe c0 FL := by unfold msM; rw [if_pos rfl]
    have m2 : msM M c0 D FL e i (c0 + 2) = cRw 55 18 i (qLn c0) := by unfold msM; rw [if_neg (by omega), if_pos rfl]
    refine s_gR H (v := some (c0 + 2)) (by rw [m1]; rfl) (by rw [m1]; rfl) ?_
    refine s_nO H (fun g1 H1 => ?_)
    rw [eDiv_i (by omega) (by omega) (by omega) (by omega), nN_some, show ((i : Int) / 3) = ((i / 3 : Nat) : Int) by omega]
    obtain ⟨g2, E2, H2⟩ := c_La (a := c0 + 3 + 16 * i) (n := ((i / 3 : Nat) : Int)) hD H1 (by rw [u_s])
    rw [E2, bV_some]
    have l2 : ∀ b, b < c0 + 3 + 16 * i → lnM (upM (msM M c0 D FL e i) (c0 + 3 + 16 * i) (nc (2 + 1) 0)) (c0 + 3 + 16 * i) ((i / 3 : Nat) : Int) D e 5 b = msM M c0 D FL e i b := by
      intro b hb
      unfold lnM
      rw [if_pos (Or.inl hb), u_n (by omega)]
    refine s_sQ H2 (by omega) (by rw [l2 _ (by omega), m2]; rfl) (by omega) (by rw [l2 _ (by omega), m2]; show (i : Int) < 18; omega) (by rw [show lnM (upM (msM M c0 D FL e i) (c0 + 3 + 16 * i) (nc (2 + 1) 0)) (c0 + 3 + 16 * i) ((i / 3 : Nat) : Int) D e 5 (c0 + 3 + 16 * i) = cLa (c0 + 3 + 16 * i) ((i / 3 : Nat) : Int) from ln_at (k := 0) (by omega)]; rfl) (fun g3 H3 => ?_)
    rw [l2 _ (by omega), m2, show ((i : Int)).toNat = i by omega, show c0 + 3 + 16 * i = qLn c0 i by unfold qLn; omega, cRw_s] at H3
    have H4 : hM g3 (msM M c0 D FL e (i + 1)) (c0 + 3 + 16 * (i + 1)) (C + 1 + 15) (S + 7 + 21 + (2 + D) * 5) e m := by
      have := h_M (M' := msM M c0 D FL e (i + 1)) H3 (fun b => ?_)
      · rw [show c0 + 3 + 16 * (i + 1) = qLn c0 i + 16 by unfold qLn; omega]
        exact this
      rw [show qLn c0 i = c0 + 3 + 16 * i by unfold qLn; omega]
      by_cases h2 : b = c0 + 2
      · rw [h2, u_s]
        unfold msM
        rw [if_neg (by omega), if_pos rfl]
      rw [u_n h2]
      unfold lnM
      by_cases hr : b < c0 + 3 + 16 * i ∨ c0 + 3 + 16 * i + 16 ≤ b
      · rw [if_pos hr, u_n (by omega)]
        unfold msM
        by_cases h1 : b = c0 + 1
        · rw [if_pos h1, if_pos h1]
        rw [if_neg h1, if_neg h1, if_neg h2, if_neg h2]
        by_cases h3 : c0 + 3 ≤ b ∧ b < c0 + 3 + 16 * i
        · rw [if_pos h3, if_pos (by omega)]
        · rw [if_neg h3, if_neg (by omega)]
      · rw [if_neg hr]
        unfold msM
        rw [if_neg (by omega), if_neg (by omega), if_pos (by omega), show (b - c0 - 3) / 16 = i by omega, show (b - c0 - 3) % 16 = b - (c0 + 3 + 16 * i) by omega, show c0 + (3 + 16 * i) = c0 + 3 + 16 * i by omega]
    obtain ⟨r, E, Hr⟩ := ih fu (i + 1) g3 (C + 1 + 15) (S + 7 + 21 + (2 + D) * 5) (by omega) (by omega) H4
    refine ⟨r, ?_, ?_⟩
    · rw [show ((i : Int) + 1) = ((i + 1 : Nat) : Int) by omega]
      exact E
    · have e1 : C + 1 + 15 + 16 * k = C + 16 * (k + 1) := by omega
      have e2 : S + 7 + 21 + (2 + D) * 5 + (28 + (2 + D) * 5) * k = S + (28 + (2 + D) * 5) * (k + 1) := by rw [Nat.mul_add]; omega
      rw [← e1, ← e2]
      exact Hr
theorem c_Me {D : Nat} {FL : Int} (hD : D ≤ 4) (H : hM g M (c0 + 2) C S e m) (h1 : M (c0 + 1) = nc 2 0) : ∃ r, f_Me_init (some (c0 + 1)) (D : Int) FL g = some r ∧ hM r (msM M c0 D FL e 18) (c0 + 291) (C + 289) (S + 18 + (28 + (2 + D) * 5) * 18) e m := by
  unfold f_Me_init
  rw [nN_some]
  refine s_nA H (by omega) (by omega) (fun g1 H1 => ?_)
  refine s_pR H1 (by rw [u_n (by omega), h1]; rfl) (fun g2 H2 => ?_)
  rw [u_n (by omega), h1] at H2
  refine s_pI H2 (by rw [u_s]; rfl) (fun g3 H3 => ?_)
  rw [u_s] at H3
  have H4 : hM g3 (msM M c0 D FL e 0) (c0 + 3 + 16 * 0) (C + 1) (S + 18) e m := by
    refine h_M H3 (fun b => ?_)
    unfold msM
    by_cases h1 : b = c0 + 1
    · rw [if_pos h1, h1]
      simp (disch := omega) only [u_s]
      rfl
    rw [if_neg h1]
    by_cases h2 : b = c0 + 2
    · rw [if_pos h2, h2]
      simp (disch := omega) only [u_s, u_n]
      rfl
    rw [if_neg h2, if_neg (by omega)]
    simp (disch := omega) only [u_n]
  obtain ⟨r, E, Hr⟩ := c_Me20 hD 18 FU 0 g3 (C + 1) (S + 18) (by omega) (by unfold FU; omega) H4
  refine ⟨r, E, ?_⟩
  have : C + 1 + 16 * 18 = C + 289 := by omega
  rw [← this]
  exact Hr
def cHo (c0 : Nat) (l : Int) : Cl := (6, 0, (fun f => if f = 500 then l else if f = 501 then l % 6 else if f = 504 then -1 else 0), (fun f => if f = 502 then some (c0 + 1) else none), (fun _ => 0), (fun _ => none))
theorem c_Ho {a : Nat} {l : Int} (hl : 0 ≤ l ∧ l < 8) (H : hM g M z C S e m) (ha : M a = nc 6 0) : ∃ r, f_Ho_init (some a) l (some (c0 + 1)) g = some r ∧ hM r (upM M a (cHo c0 l)) z C S e m := by
  unfold f_Ho_init f_ML_homeOf
  rw [nN_some]
  refine s_pI H (by rw [ha]; rfl) (fun g1 H1 => ?_)
  refine s_pI H1 (by rw [u_s, ha]; rfl) (fun g2 H2 => ?_)
  refine s_pI H2 (by rw [u_s, u_s, ha]; rfl) (fun g3 H3 => ?_)
  rw [eRem_i (by omega) (by omega) (by omega) (by omega), bI_some]
  refine s_pI H3 (by rw [u_s, u_s, u_s, ha]; rfl) (fun g4 H4 => ?_)
  refine s_pR H4 (by rw [u_s, u_s, u_s, u_s, ha]; rfl) (fun g5 H5 => ⟨g5, rfl, h_M H5 (fun b => ?_)⟩)
  by_cases hb : b = a
  · rw [hb]
    simp only [u_s, ha]
    unfold cHo clI clR nc
    dsimp only
    congr 3
    funext x
    by_cases x0 : x = 500
    · subst x0; simp
    by_cases x1 : x = 501
    · subst x1; simp
    by_cases x4 : x = 504
    · subst x4; simp
    simp [x0, x1, x4]
  · simp only [u_n hb]
def qHm (c0 t : Nat) : Nat := c0 + (292 + t)
def cML (c0 i : Nat) : Cl := (1, 0, (fun _ => 0), (fun f => if f = 0 then some (c0 + 1) else if f = 1 then some (c0 + 291) else if f = 2 ∧ i = 1 then some (c0 + 300) else none), (fun _ => 0), (fun _ => none))
def hoM (M : Nat → Cl) (c0 i : Nat) : Nat → Cl := fun b => if b = c0 + 291 then cRw 53 8 i (qHm c0) else if c0 + 292 ≤ b ∧ b < c0 + 292 + i then cHo c0 ((b - c0 - 292 : Nat) : Int) else M b
theorem c_ML38 {K : Option Nat → ev_hs → Option ev_hs} (hc : M c0 = cML c0 0) : ∀ (k fu i : Nat) (g : ev_hs) (C S : Nat), i + k = 8 → k < fu → hM g (hoM M c0 i) (c0 + 292 + i) C S e m → (∀ r, hM r (hoM M c0 8) (c0 + 300) (C + k) (S + 7 * k) e m → ∃ r2, K (some c0) r = some r2 ∧ Q r2) → ∃ r2, f_ML_init_38 fu (some c0) (i : Int) g K = some r2 ∧ Q r2 := by
  intro k
  induction k with
  | zero =>
    intro fu i g C S hi hf H hK
    obtain ⟨fu, rfl⟩ : ∃ f2, fu = f2 + 1 := ⟨fu - 1, by omega⟩
    have : i = 8 := by omega
    subst this
    rw [f_ML_init_38, eLt_i (by omega) (by omega) (by omega) (by omega), if_neg (by omega)]
    exact hK g (by simpa using H)
  | succ k ih =>
    intro fu i g C S hi hf H hK
    obtain ⟨fu, rfl⟩ : ∃ f2, fu = f2 + 1 := ⟨fu - 1, by omega⟩
    rw [f_ML_init_38, eLt_i (by omega) (by omega) (by omega) (by omega), if_pos (by omega)]
    have m0 : hoM M c0 i c0 = cML c0 0 := by unfold hoM; rw [if_neg (by omega), if_neg (by omega), hc]
    have m1 : hoM M c0 i (c0 + 291) = cRw 53 8 i (qHm c0) := by unfold hoM; rw [if_pos rfl]
    refine s_gR H (v := some (c0 + 291)) (by rw [m0]; rfl) (by rw [m0]; rfl) ?_
    refine s_nO H (fun g1 H1 => ?_)
    refine s_gR H1 (v := some (c0 + 1)) (by rw [u_n (by omega), m0]; rfl) (by rw [u_n (by omega), m0]; rfl) ?_
    rw [nN_some]
    obtain ⟨g2, E2, H2⟩ := c_Ho (c0 := c0) (l := (i : Int)) (by omega) H1 (by rw [u_s])
    rw [E2, bV_some]
    refine s_sQ H2 (by omega) (by rw [u_n (by omega), u_n (by omega), m1]; rfl) (by omega) (by rw [u_n (by omega), u_n (by omega), m1]; show (i : Int) < 8; omega) (by rw [u_s]; rfl) (fun g3 H3 => ?_)
    rw [u_n (a := c0 + 292 + i) (b := c0 + 291) (by omega), u_n (by omega), m1, show ((i : Int)).toNat = i by omega, show c0 + 292 + i = qHm c0 i by unfold qHm; omega, cRw_s] at H3
    have H4 : hM g3 (hoM M c0 (i + 1)) (c0 + 292 + (i + 1)) (C + 1) (S + 7) e m := by
      have := h_M (M' := hoM M c0 (i + 1)) H3 (fun b => ?_)
      · rw [show c0 + 292 + (i + 1) = qHm c0 i + 1 by unfold qHm; omega]
        exact this
      rw [show qHm c0 i = c0 + 292 + i by unfold qHm; omega]
      unfold hoM
      by_cases h1 : b = c0 + 291
      · rw [if_pos h1, h1, u_s]
      rw [if_neg h1, u_n h1]
      by_cases h2 : b = c0 + 292 + i
      · rw [h2, u_s, if_pos (by omega), show c0 + 292 + i - c0 - 292 = i by omega]
      rw [u_n h2, u_n h2, if_neg h1]
      by_cases h3 : c0 + 292 ≤ b ∧ b < c0 + 292 + i
      · rw [if_pos h3, if_pos (by omega)]
      · rw [if_neg h3, if_neg (by omega)]
    rw [show ((i : Int) + 1) = ((i + 1 : Nat) : Int) by omega]
    exact ih fu (i + 1) g3 (C + 1) (S + 7) (by omega) (by omega) H4 (fun r hr => hK r (by
      have e1 : C + 1 + k = C + (k + 1) := by omega
      have e2 : S + 7 + 7 * k = S + 7 * (k + 1) := by omega
      rw [← e1, ← e2]
      exact hr))
end Cls23
