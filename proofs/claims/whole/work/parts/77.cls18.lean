/-! The class: a cycle -/
section Cls18
variable {α : Type} {h g : ev_hs} {c0 : Nat} {R T U Rr Rc : RS} {F : Int → Int} {D FL : Int} {n o c p x : Int}
def dT (h : ev_hs) (R : RS) (h' : ev_hs) (T : RS) : Prop := (xC h' : Int) ≤ xC h + 2 * (T 0 38 - R 0 38) + (T 0 39 - R 0 39) + (phi T - phi R) ∧ (xS h' : Int) ≤ xS h + 207 * (T 0 38 - R 0 38) + 200 * (T 0 39 - R 0 39) + 4 * (phi T - phi R)
theorem dT_r : dT h R h R := ⟨by omega, by omega⟩
theorem dT_t {h2 h3 : ev_hs} {T2 : RS} (a : dT h R h2 T) (b : dT h2 T h3 T2) : dT h R h3 T2 := ⟨by have := a.1; have := b.1; omega, by have := a.2; have := b.2; omega⟩
theorem dT_E {h2 : ev_hs} (a : dE h R h2 T) : dT h R h2 T := by
  obtain ⟨a1, a2, a3⟩ := a
  unfold dT
  rw [a3]
  omega
theorem dT_M {h2 : ev_hs} (a : dM h R h2 T) : dT h R h2 T := by
  obtain ⟨a1, a2, a3, a4⟩ := a
  unfold dT
  rw [a3, a4]
  omega
theorem dT_C {h2 : ev_hs} (a : dC h R h2 T) (e : T 0 39 = R 0 39) : dT h R h2 T := by
  obtain ⟨a1, a2, a3⟩ := a
  unfold dT
  rw [a3, e]
  omega
theorem dT_d {h2 : ev_hs} {R2 : RS} (e0 : R2 0 38 = R 0 38) (e1 : R2 0 39 = R 0 39) (e2 : phi R2 = phi R) (a : dT h R h2 T) : dT h R2 h2 T := by
  unfold dT at *
  rw [e0, e1, e2]
  exact a
-- a step of the class: relation, invariant, heap, cells
def sT (c0 : Nat) (x : Int) (h : ev_hs) (R : RS) (h' : ev_hs) (T : RS) : Prop := cR h' c0 T ∧ jC x T ∧ ext h h' ∧ dT h R h' T
theorem sT_t {h2 h3 : ev_hs} {T2 : RS} (a : sT c0 x h R h2 T) (b : sT c0 x h2 T h3 T2) : sT c0 x h R h3 T2 := ⟨b.1, b.2.1, ext_t a.2.2.1 b.2.2.1, dT_t a.2.2.2 b.2.2.2⟩
theorem sT_r (C : cR h c0 R) (J : jC x R) : sT c0 x h R h R := ⟨C, J, ext_r, dT_r⟩
theorem jC_inj (J : jC x R) (hn : 0 ≤ n ∧ n < 6) (hc : 0 ≤ c ∧ c < 3) : jC x (nInj R n c) := by
  obtain ⟨I, t, e⟩ := J
  obtain ⟨k1, k2⟩ := iR_inj I t (n := n) (c := c) (by unfold rn; omega)
  have k3 := k2 0 (by omega) (by omega) (by omega) (by omega) (by omega) (by omega) (by omega)
  unfold jC iT at *
  rw [k3]
  exact ⟨k1, t, e⟩
theorem jC_mv (J : jC x R) (hn : 0 ≤ n ∧ n < 6) (ho : 0 ≤ o ∧ o ≤ 4) (hc : 0 ≤ c ∧ c < 3) : jC x (nMv R n o c).2 := by
  obtain ⟨I, t, e⟩ := J
  obtain ⟨k1, k2, k3, k4, k5, k6⟩ := iR_mv I t (n := n) (o := o) (c := c) (by unfold rn; omega)
  unfold jC iT at *
  rw [k3 2 (by omega) (by omega)]
  exact ⟨k1, ⟨t.1, by omega, by omega⟩, e⟩
theorem jC_core (J : jC x R) (hn : 0 ≤ n ∧ n < 6) : jC x (nCore R n) := by
  obtain ⟨I, t, e⟩ := J
  unfold jC iT at *
  rw [nCore_00 (by omega), nCore_00 (by omega), nCore_00 (by omega)]
  exact ⟨iR_core I t hn, t, e⟩
-- flits enter
theorem c_ent1 (J : jC x R) (C : cR h c0 R) (hn : 0 ≤ n ∧ n < 6) (hc : 0 ≤ c ∧ c < 3) : ∃ h', (∀ fu, f_Me_enterFlits_2 (fu + 1) (some (c0 + 1)) x (n * 3 + c) (vw h c0 (wF R F) Rr) = f_Me_enterFlits_2 fu (some (c0 + 1)) x (n * 3 + c + 1) (vw h' c0 (wF (nInj R n c) F) Rr)) ∧ sT c0 x h R h' (nInj R n c) := by
  have hs := C.1
  obtain ⟨h', E, C', e, d⟩ := c_enter (F := F) (Rr := Rr) J C hn hc
  refine ⟨h', fun fu => ?_, C', jC_inj J hn hc, e, dT_E d⟩
  rw [f_Me_enterFlits_2, zgMe0 hs, zaLa hs, eLt_i (by omega) (by omega) (by omega) (by omega), if_pos (by omega), zgMe0 hs, zqLa hs hn hc, zvLa hs hn hc, E, bV_some]
theorem c_ent : ∀ (m : Nat) (n : Int) (R : RS) (h : ev_hs), 0 ≤ n → n + m = 6 → jC x R → cR h c0 R → ∃ h', (∀ fu, f_Me_enterFlits_2 (fu + 1 + 3 * m) (some (c0 + 1)) x (n * 3) (vw h c0 (wF R F) Rr) = some (vw h' c0 (wF (nIt (fun n R => nIt (fun c R => nInj R n c) 3 0 R) m n R) F) Rr)) ∧ sT c0 x h R h' (nIt (fun n R => nIt (fun c R => nInj R n c) 3 0 R) m n R) := by
  intro m
  induction m with
  | zero =>
    intro n R h h0 h1 J C
    refine ⟨h, fun fu => ?_, sT_r C J⟩
    have hs := C.1
    rw [show fu + 1 + 3 * 0 = fu + 1 by omega, f_Me_enterFlits_2, zgMe0 hs, zaLa hs, eLt_i (by omega) (by omega) (by omega) (by omega), if_neg (by omega)]
    rfl
  | succ m ih =>
    intro n R h h0 h1 J C
    obtain ⟨ha, Ea, sa⟩ := c_ent1 (F := F) (Rr := Rr) (n := n) (c := 0) J C (by omega) (by omega)
    obtain ⟨hb, Eb, sb⟩ := c_ent1 (F := F) (Rr := Rr) (n := n) (c := 1) sa.2.1 sa.1 (by omega) (by omega)
    obtain ⟨hd, Ed, sd⟩ := c_ent1 (F := F) (Rr := Rr) (n := n) (c := 2) sb.2.1 sb.1 (by omega) (by omega)
    obtain ⟨h', E, s⟩ := ih (n + 1) _ hd (by omega) (by omega) sd.2.1 sd.1
    refine ⟨h', fun fu => ?_, sT_t sa (sT_t sb (sT_t sd s))⟩
    have := E fu
    rw [show fu + 1 + 3 * (m + 1) = fu + 1 + 3 * m + 1 + 1 + 1 by omega, show n * 3 = n * 3 + 0 by omega, Ea, show n * 3 + 0 + 1 = n * 3 + 1 by omega, Eb, show n * 3 + 1 + 1 = n * 3 + 2 by omega, Ed, show n * 3 + 2 + 1 = (n + 1) * 3 by omega]
    exact this
-- flits move
theorem c_mv3 (J : jC x R) (C : cR h c0 R) (hn : 0 ≤ n ∧ n < 6) (ho : 0 ≤ o ∧ o ≤ 4) : ∃ h', f_Me_moveOneFlit (some (c0 + 1)) n o x (vw h c0 (wF R F) Rr) = some (vw h' c0 (wF (nMv3 R n o) F) Rr) ∧ sT c0 x h R h' (nMv3 R n o) := by
  have hs := C.1
  obtain ⟨h2, E2, C2, e2, d2⟩ := c_mv (F := F) (Rr := Rr) (c := 2) J C hn ho (by omega)
  have J2 := jC_mv (c := 2) J hn ho (by omega)
  obtain ⟨h1, E1, C1, e1, d1⟩ := c_mv (F := F) (Rr := Rr) (c := 1) J2 C2 hn ho (by omega)
  have J1 := jC_mv (c := 1) J2 hn ho (by omega)
  obtain ⟨h0, E0, C0, e0, d0⟩ := c_mv (F := F) (Rr := Rr) (c := 0) J1 C1 hn ho (by omega)
  have J0 := jC_mv (c := 0) J1 hn ho (by omega)
  have b2 := nMv_b R n o 2
  have b1 := nMv_b (nMv R n o 2).2 n o 1
  have b0 := nMv_b (nMv (nMv R n o 2).2 n o 1).2 n o 0
  have hs2 := C2.1
  have hs1 := C1.1
  have hs0 := C0.1
  have one : ∀ (g : ev_hs) (k : Int) (fu : Nat), -1 ≤ k ∧ k ≤ 2 → f_Me_moveOneFlit_6 (fu + 1) (some (c0 + 1)) n o x 1 k g = some g := by
    intro g k fu hk
    rw [f_Me_moveOneFlit_6, eLt_i (by omega) (by omega) (by omega) (by omega)]
    split
    · rfl
    · rw [eEq_i (by omega) (by omega) (by omega) (by omega), if_neg (by omega)]
  unfold f_Me_moveOneFlit nMv3
  rw [show FU = 99996 + 1 + 1 + 1 + 1 from rfl, f_Me_moveOneFlit_6, eLt_i (by omega) (by omega) (by omega) (by omega), if_neg (by omega), eEq_i (by omega) (by omega) (by omega) (by omega), if_pos rfl, zvMe hs, E2, bI_some]
  by_cases h2' : (nMv R n o 2).1 = 1
  · rw [if_pos h2', h2', one _ _ _ (by omega)]
    exact ⟨h2, rfl, C2, J2, e2, dT_M d2⟩
  · rw [if_neg h2', show (nMv R n o 2).1 = 0 by omega, f_Me_moveOneFlit_6, eLt_i (by omega) (by omega) (by omega) (by omega), if_neg (by omega), eEq_i (by omega) (by omega) (by omega) (by omega), if_pos rfl, zvMe hs2, show (2 : Int) + -1 = 1 by omega, E1, bI_some]
    by_cases h1' : (nMv (nMv R n o 2).2 n o 1).1 = 1
    · rw [if_pos h1', h1', one _ _ _ (by omega)]
      exact ⟨h1, rfl, C1, J1, ext_t e2 e1, dT_t (dT_M d2) (dT_M d1)⟩
    · rw [if_neg h1', show (nMv (nMv R n o 2).2 n o 1).1 = 0 by omega, f_Me_moveOneFlit_6, eLt_i (by omega) (by omega) (by omega) (by omega), if_neg (by omega), eEq_i (by omega) (by omega) (by omega) (by omega), if_pos rfl, zvMe hs1, show (1 : Int) + -1 = 0 by omega, E0, bI_some]
      refine ⟨h0, ?_, C0, J0, ext_t e2 (ext_t e1 e0), dT_t (dT_M d2) (dT_t (dT_M d1) (dT_M d0))⟩
      rw [f_Me_moveOneFlit_6, eLt_i (by omega) (by omega) (by omega) (by omega), if_pos (by omega)]
theorem c_mv22 (hn : 0 ≤ n ∧ n < 6) : ∀ (m fu : Nat) (o : Int) (R : RS) (h : ev_hs), 0 ≤ o → o + m = 5 → m < fu → jC x R → cR h c0 R → ∃ h', (∀ K, f_Me_moveFlits_22 fu (some (c0 + 1)) x n o (vw h c0 (wF R F) Rr) K = K (some (c0 + 1)) x n (vw h' c0 (wF (nIt (fun o R => nMv3 R n o) m o R) F) Rr)) ∧ sT c0 x h R h' (nIt (fun o R => nMv3 R n o) m o R) := by
  intro m
  induction m with
  | zero =>
    intro fu o R h h0 h1 hf J C
    obtain ⟨fu, rfl⟩ : ∃ f2, fu = f2 + 1 := ⟨fu - 1, by omega⟩
    refine ⟨h, fun K => ?_, sT_r C J⟩
    rw [f_Me_moveFlits_22, eLt_i (by omega) (by omega) (by omega) (by omega), if_neg (by omega)]
    rfl
  | succ m ih =>
    intro fu o R h h0 h1 hf J C
    obtain ⟨fu, rfl⟩ : ∃ f2, fu = f2 + 1 := ⟨fu - 1, by omega⟩
    obtain ⟨ha, Ea, sa⟩ := c_mv3 (F := F) (Rr := Rr) (o := o) J C hn (by omega)
    obtain ⟨h', E, s⟩ := ih fu (o + 1) _ ha (by omega) (by omega) (by omega) sa.2.1 sa.1
    refine ⟨h', fun K => ?_, sT_t sa s⟩
    rw [f_Me_moveFlits_22, eLt_i (by omega) (by omega) (by omega) (by omega), if_pos (by omega), zvMe C.1, Ea, bV_some, E]
    rfl
theorem c_mv14 : ∀ (m fu : Nat) (n : Int) (R : RS) (h : ev_hs), 0 ≤ n → n + m = 6 → m < fu → jC x R → cR h c0 R → ∃ h', f_Me_moveFlits_14 fu (some (c0 + 1)) x n (vw h c0 (wF R F) Rr) = some (vw h' c0 (wF (nIt (fun n R => nIt (fun o R => nMv3 R n o) 5 0 R) m n R) F) Rr) ∧ sT c0 x h R h' (nIt (fun n R => nIt (fun o R => nMv3 R n o) 5 0 R) m n R) := by
  intro m
  induction m with
  | zero =>
    intro fu n R h h0 h1 hf J C
    obtain ⟨fu, rfl⟩ : ∃ f2, fu = f2 + 1 := ⟨fu - 1, by omega⟩
    refine ⟨h, ?_, sT_r C J⟩
    rw [f_Me_moveFlits_14, eLt_i (by omega) (by omega) (by omega) (by omega), if_neg (by omega)]
    rfl
  | succ m ih =>
    intro fu n R h h0 h1 hf J C
    obtain ⟨fu, rfl⟩ : ∃ f2, fu = f2 + 1 := ⟨fu - 1, by omega⟩
    obtain ⟨ha, Ea, sa⟩ := c_mv22 (F := F) (Rr := Rr) (n := n) (by omega) 5 FU 0 R h (by omega) (by omega) (by unfold FU; omega) J C
    obtain ⟨h', E, s⟩ := ih fu (n + 1) _ ha (by omega) (by omega) (by omega) sa.2.1 sa.1
    refine ⟨h', ?_, sT_t sa s⟩
    rw [f_Me_moveFlits_14, eLt_i (by omega) (by omega) (by omega) (by omega), if_pos (by omega), Ea, E]
    rfl
-- with no packet under way nothing moves
theorem mv_id (hb : ∀ b, 0 ≤ b → b < 90 → R 17 b = 0) (gB : bB R) (hn : 0 ≤ n ∧ n < 6) (ho : 0 ≤ o ∧ o ≤ 4) (hc : 0 ≤ c ∧ c < 3) : nMv R n o c = (0, R) := by
  have hsc : ∀ (L : Int) (m : Nat) (k : Int), nSc R n o c L m k = -1 := by
    intro L m
    induction m with
    | zero => intro k; rfl
    | succ m ih =>
      intro k
      unfold nSc
      rw [if_neg, ih]
      have := hb (15 * n + 3 * ((L + k) % 5) + c) (by omega) (by omega)
      omega
  have g := gB (15 * n + 3 * o + c) (by omega) (by omega)
  unfold nMv
  by_cases h1 : R 18 (15 * n + 3 * o + c) < 0
  · rw [if_pos]
    unfold nSv
    rw [if_pos h1, hsc]
    omega
  · have e : nSv R n o c = R 18 (15 * n + 3 * o + c) := by unfold nSv; rw [if_neg h1]
    rw [e, if_neg h1, if_pos (hb _ (by omega) (by omega))]
theorem nIt_id {g : Int → RS → RS} : ∀ (m : Nat) (k : Int), (∀ i, k ≤ i → i < k + m → g i R = R) → nIt g m k R = R := by
  intro m
  induction m with
  | zero => intro k _; rfl
  | succ m ih =>
    intro k hh
    unfold nIt
    rw [hh k (by omega) (by omega)]
    exact ih (k + 1) (fun i h1 h2 => hh i (by omega) (by omega))
theorem cyc2_id (I : iR R) (e : R 0 38 = R 0 39) : nCyc2 R = R := by
  obtain ⟨G, E, L, A, B⟩ := I.2.2.1
  have h9 := B.2.2.2.2.2.2.2.2.2
  have hz : nLc R L wn = 0 := by omega
  have hb : ∀ b, 0 ≤ b → b < 90 → R 17 b = 0 := by
    intro b b0 b1
    have g := I.2.2.2.2.1 b b0 b1
    by_cases h0 : R 17 b = 0
    · exact h0
    · exfalso
      have f := B.1 b 0 b0 b1 (by omega) (by omega)
      generalize fc R b 0 = y at f
      unfold okF at f
      obtain ⟨f1, f2, f3, f4, f5, f6, f7, f8⟩ := f
      have hL : L (y / 8) ≤ 18 := by
        rcases f8 with f8 | f8 <;> omega
      have : nLc R L wn ≥ 1 := by
        unfold nLc
        have h1 := sN_get (f := fun p => if R 1 (p : Int) = 1 then wn (L (p : Int)) else 0) (i := (y / 8).toNat) (k := 128) (by omega)
        have h2 : (if R 1 (((y / 8).toNat : Nat) : Int) = 1 then wn (L (((y / 8).toNat : Nat) : Int)) else 0) = 1 := by
          rw [Int.toNat_of_nonneg (by omega), if_pos f3]
          unfold wn
          rw [if_pos hL]
        rw [h2] at h1
        exact h1
      omega
  unfold nCyc2
  refine nIt_id 6 0 (fun n n0 n1 => nIt_id 5 0 (fun o o0 o1 => ?_))
  have m := fun c hc => mv_id (n := n) (o := o) (c := c) hb I.2.2.2.2.1 (by omega) (by omega) hc
  unfold nMv3
  rw [m 2 (by omega)]
  dsimp only
  rw [if_neg (by omega), m 1 (by omega)]
  dsimp only
  rw [if_neg (by omega), m 0 (by omega)]
end Cls18
