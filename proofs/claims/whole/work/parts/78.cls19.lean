/-! The class: a run -/
section Cls19
variable {α : Type} {h g : ev_hs} {c0 : Nat} {R T U Rr Rc : RS} {F : Int → Int} {D FL : Int} {n o c p x : Int}
theorem c_moves (J : jC x R) (C : cR h c0 R) : ∃ h', f_Me_moveFlits (some (c0 + 1)) x (vw h c0 (wF R F) Rr) = some (vw h' c0 (wF (nCyc2 R) F) Rr) ∧ sT c0 x h R h' (nCyc2 R) := by
  have hs := C.1
  have g := bG_of J.1 J.2.1
  have g38 := g.2.2.2.1
  have g39 := g.2.2.2.2.1
  unfold f_Me_moveFlits
  rw [ziMe2 hs, ziMe3 hs, eEq_i (by omega) (by omega) (by omega) (by omega)]
  by_cases e : R 0 38 = R 0 39
  · rw [if_pos e, cyc2_id J.1 e]
    exact ⟨h, rfl, sT_r C J⟩
  · rw [if_neg e]
    exact c_mv14 6 FU 0 R h (by omega) (by omega) (by unfold FU; omega) J C
theorem c_enters (J : jC x R) (C : cR h c0 R) : ∃ h', f_Me_enterFlits (some (c0 + 1)) x (vw h c0 (wF R F) Rr) = some (vw h' c0 (wF (nIt (fun n R => nIt (fun c R => nInj R n c) 3 0 R) 6 0 R) F) Rr) ∧ sT c0 x h R h' (nIt (fun n R => nIt (fun c R => nInj R n c) 3 0 R) 6 0 R) := by
  obtain ⟨h', E, s⟩ := c_ent (F := F) (Rr := Rr) 6 0 R h (by omega) (by omega) J C
  refine ⟨h', ?_, s⟩
  unfold f_Me_enterFlits
  have := E 99981
  rw [show (0 : Int) * 3 = 0 by omega] at this
  exact this
-- packets are taken, all nodes
theorem c_takes {x1 x2 : Int} : ∀ (m fu : Nat) (n : Int) (R : RS) (F : Int → Int) (h : ev_hs), 0 ≤ n → n + m = 6 → m < fu → jC x R → cR h c0 R → fI R F 0 → ∃ h' F', (∀ K, f_ML_run_52 fu (some c0) x1 x2 n (vw h c0 (wF R F) Rr) K = K (some c0) x1 x2 (vw h' c0 (wF (nIt (fun n R => nDn (fun c R => nTF R n c) 3 R) m n R) F') Rr)) ∧ sT c0 x h R h' (nIt (fun n R => nDn (fun c R => nTF R n c) 3 R) m n R) ∧ fI (nIt (fun n R => nDn (fun c R => nTF R n c) 3 R) m n R) F' 0 := by
  intro m
  induction m with
  | zero =>
    intro fu n R F h h0 h1 hf J C f0
    obtain ⟨fu, rfl⟩ : ∃ f2, fu = f2 + 1 := ⟨fu - 1, by omega⟩
    refine ⟨h, F, fun K => ?_, sT_r C J, f0⟩
    rw [f_ML_run_52, eLt_i (by omega) (by omega) (by omega) (by omega), if_neg (by omega)]
    rfl
  | succ m ih =>
    intro fu n R F h h0 h1 hf J C f0
    obtain ⟨fu, rfl⟩ : ∃ f2, fu = f2 + 1 := ⟨fu - 1, by omega⟩
    have hs := C.1
    have e02 := J.2.2
    obtain ⟨ha, Fa, Ea, Ca, Ja, ea, da, fa⟩ := c_tfs (Rr := Rr) (n := n) J C (by omega) f0
    have e39 : (nDn (fun c R => nTF R n c) 3 R) 0 39 = R 0 39 := by
      have jt : ∀ (R : RS) (c : Int), jC x R → 0 ≤ c ∧ c < 3 → jC x (nTF R n c) ∧ nTF R n c 0 39 = R 0 39 := by
        intro R c J hc
        obtain ⟨I, t, e⟩ := J
        obtain ⟨k1, k2⟩ := iR_tf I t (n := n) (c := c) (by omega) hc
        unfold jC iT at *
        rw [k2 2 (by omega), k2 39 (by omega), k2 40 (by omega)]
        exact ⟨⟨k1, t, e⟩, rfl⟩
      have j2 := jt R 2 J (by omega)
      have j1 := jt _ 1 j2.1 (by omega)
      have j0 := jt _ 0 j1.1 (by omega)
      show nTF (nTF (nTF R n 2) n 1) n 0 0 39 = R 0 39
      rw [j0.2, j1.2, j2.2]
    obtain ⟨h', F', E, s, f1⟩ := ih fu (n + 1) _ Fa ha (by omega) (by omega) (by omega) Ja Ca fa
    refine ⟨h', F', fun K => ?_, sT_t ⟨Ca, Ja, ea, dT_C da e39⟩ s, f1⟩
    rw [f_ML_run_52, eLt_i (by omega) (by omega) (by omega) (by omega), if_pos (by omega), zgML2 hs, zqNo hs (n := n) (by omega), ziML3 hs, zvNo hs (n := n) (by omega), e02, Ea, bV_some, E]
    rfl
-- cores act, all nodes
theorem c_acts {x1 x2 : Int} : ∀ (m fu : Nat) (n : Int) (R : RS) (F : Int → Int) (h : ev_hs), 0 ≤ n → n + m = 6 → m < fu → jC x R → cR h c0 R → fI R F n → ∃ h' F', (∀ K, f_ML_run_79 fu (some c0) x1 x2 n (vw h c0 (wF R F) Rr) K = K (some c0) x1 x2 (vw h' c0 (wF (nIt (fun n R => nCore R n) m n R) F') Rr)) ∧ sT c0 x h R h' (nIt (fun n R => nCore R n) m n R) ∧ fI (nIt (fun n R => nCore R n) m n R) F' 6 := by
  intro m
  induction m with
  | zero =>
    intro fu n R F h h0 h1 hf J C f0
    obtain ⟨fu, rfl⟩ : ∃ f2, fu = f2 + 1 := ⟨fu - 1, by omega⟩
    refine ⟨h, F, fun K => ?_, sT_r C J, fI_m (by omega) f0⟩
    rw [f_ML_run_79, eLt_i (by omega) (by omega) (by omega) (by omega), if_neg (by omega)]
    rfl
  | succ m ih =>
    intro fu n R F h h0 h1 hf J C f0
    obtain ⟨fu, rfl⟩ : ∃ f2, fu = f2 + 1 := ⟨fu - 1, by omega⟩
    have hs := C.1
    have e02 := J.2.2
    obtain ⟨ha, Fa, Ea, Ca, ea, da, fa⟩ := c_act (Rr := Rr) (n := n) J C (by omega) f0
    obtain ⟨h', F', E, s, f1⟩ := ih fu (n + 1) _ Fa ha (by omega) (by omega) (by omega) (jC_core J (by omega)) Ca fa
    refine ⟨h', F', fun K => ?_, sT_t ⟨Ca, jC_core J (by omega), ea, dT_C da (nCore_00 (by omega))⟩ s, f1⟩
    rw [f_ML_run_79, eLt_i (by omega) (by omega) (by omega) (by omega), if_pos (by omega), zgML2 hs, zqNo hs (n := n) (by omega), zgNo4 hs (n := n) (by omega), ziML3 hs, zvCo hs (n := n) (by omega), e02, Ea, bV_some, E]
    rfl
-- between calls
def fB (R : RS) (F : Int → Int) : Prop := ∀ n, 0 ≤ n → n < 6 → 0 ≤ F n ∧ F n ≤ R 0 2
def sB2 (c0 : Nat) (h : ev_hs) (R : RS) (h' : ev_hs) (T : RS) (F' : Int → Int) : Prop := cR h' c0 T ∧ jP T ∧ ext h h' ∧ dT h R h' T ∧ fB T F'
theorem c_cyc (J : jP R) (C : cR h c0 R) (f0 : fB R F) (h1 : R 0 2 + 1 ≤ 100000) {x1 x2 : Int} (hx : 0 ≤ x2 ∧ x2 < x1 ∧ x1 ≤ 100) : ∃ h' F', (∀ fu, f_ML_run_13 (fu + 1) (some c0) x1 x2 (vw h c0 (wF R F) Rr) = f_ML_run_13 fu (some c0) x1 (x2 + 1) (vw h' c0 (wF (nCyc R) F') Rr)) ∧ sB2 c0 h R h' (nCyc R) F' ∧ nCyc R 0 2 = R 0 2 + 1 := by
  have hs := C.1
  have J0 := jC_0 J h1
  have C0 : cR h c0 (up3 R 0 2 (R 0 2 + 1)) := cR_c (fun a h1 h2 _ => u3f (by omega)) (u3i (by omega)) (u3i (by omega)) C
  obtain ⟨ha, Ea, sa⟩ : ∃ h', f_Me_enterFlits (some (c0 + 1)) (R 0 2 + 1) (vw h c0 (wF (up3 R 0 2 (R 0 2 + 1)) F) Rr) = some (vw h' c0 (wF (nCyc1 R) F) Rr) ∧ sT c0 (R 0 2 + 1) h (up3 R 0 2 (R 0 2 + 1)) h' (nCyc1 R) := c_enters (F := F) (Rr := Rr) J0 C0
  obtain ⟨hb, Eb, sb⟩ := c_moves (F := F) (Rr := Rr) sa.2.1 sa.1
  have J3 := jC_c3 sb.2.1
  have C3 := cR_c (T := nCyc3 (nCyc2 (nCyc1 R))) (R := nCyc2 (nCyc1 R)) (fun a h1 h2 _ => nCyc3_a (by omega)) (by rw [nCyc3_a (by omega)]) (by rw [nCyc3_a (by omega)]) sb.1
  have e3 : vw hb c0 (wF (nCyc3 (nCyc2 (nCyc1 R))) F) Rr = vw hb c0 (wF (nCyc2 (nCyc1 R)) F) Rr := vw_vis (fun k i hk => by rw [nCyc3_a (by intro y; subst y; simp [vis] at hk)])
  have f3 : fI (nCyc3 (nCyc2 (nCyc1 R))) F 0 := by
    intro n n0 n1
    have e1 := f0 n n0 n1
    have e2 := J3.2.2
    have e4 := nCyc3_35 (R := nCyc2 (nCyc1 R)) n n0 n1
    refine ⟨by omega, fun _ => ⟨by omega, by omega⟩⟩
  obtain ⟨hd, Fd, Ed, sd, fd⟩ := c_takes (Rr := Rr) (x1 := x1) (x2 := x2) 6 FU 0 _ F hb (by omega) (by omega) (by unfold FU; omega) J3 C3 f3
  obtain ⟨he, Fe, Ee, se, fe⟩ := c_acts (Rr := Rr) (x1 := x1) (x2 := x2) 6 FU 0 _ Fd hd (by omega) (by omega) (by unfold FU; omega) sd.2.1 sd.1 fd
  have phi0 : phi (up3 R 0 2 (R 0 2 + 1)) = phi R := phi_c (u3i (by omega)) (u3f (by omega)) (u3f (by omega))
  have phi3 : phi (nCyc3 (nCyc2 (nCyc1 R))) = phi (nCyc2 (nCyc1 R)) := phi_c (by rw [nCyc3_a (by omega)]) (nCyc3_a (by omega)) (nCyc3_a (by omega))
  have d1 : dT h R ha (nCyc1 R) := dT_d (u3i (by omega)).symm (u3i (by omega)).symm phi0.symm sa.2.2.2
  have d3 : dT hb (nCyc2 (nCyc1 R)) hd (nCyc4 (nCyc3 (nCyc2 (nCyc1 R)))) := dT_d (by rw [nCyc3_a (by omega)]) (by rw [nCyc3_a (by omega)]) phi3.symm sd.2.2.2
  refine ⟨he, Fe, fun fu => ?_, ⟨se.1, ⟨se.2.1.1, se.2.1.2.1⟩, ext_t sa.2.2.1 (ext_t sb.2.2.1 (ext_t sd.2.2.1 se.2.2.1)), dT_t d1 (dT_t sb.2.2.2 (dT_t d3 se.2.2.2)), fun n n0 n1 => (fe n n0 n1).1⟩, se.2.1.2.2⟩
  have ez : ∀ {g : ev_hs} {Q : RS}, jC (R 0 2 + 1) Q → Q 0 2 = R 0 2 + 1 := fun j => j.2.2
  have hsa := sa.1.1
  rw [f_ML_run_13, eLt_i (by omega) (by omega) (by omega) (by omega), if_pos (by omega), ziML3 hs, zpML3 hs, zgML0 hs, ziML3 hs, u3s, zvMe hs, Ea, bV_some, zgML0 hsa, ziML3 hsa, show nCyc1 R 0 2 = R 0 2 + 1 from sa.2.1.2.2, zvMe hsa, Eb, bV_some]
  rw [← e3, Ed, Ee]
  rfl
theorem c_run13 {x1 : Int} (hx : 0 ≤ x1 ∧ x1 ≤ 100) : ∀ (m fu : Nat) (k : Int) (R : RS) (F : Int → Int) (h : ev_hs), 0 ≤ k → k + m = x1 → jP R → cR h c0 R → fB R F → R 0 2 + m ≤ 100000 → m < fu → ∃ h' F', f_ML_run_13 fu (some c0) x1 k (vw h c0 (wF R F) Rr) = some (nRun R m 0 2, vw h' c0 (wF (nRun R m) F') Rr) ∧ sB2 c0 h R h' (nRun R m) F' := by
  intro m
  induction m with
  | zero =>
    intro fu k R F h k0 k1 J C f0 hb hf
    obtain ⟨fu, rfl⟩ : ∃ f2, fu = f2 + 1 := ⟨fu - 1, by omega⟩
    refine ⟨h, F, ?_, C, J, ext_r, dT_r, f0⟩
    rw [f_ML_run_13, eLt_i (by omega) (by omega) (by omega) (by omega), if_neg (by omega), ziML3 C.1]
    rfl
  | succ m ih =>
    intro fu k R F h k0 k1 J C f0 hb hf
    obtain ⟨fu, rfl⟩ : ∃ f2, fu = f2 + 1 := ⟨fu - 1, by omega⟩
    obtain ⟨ha, Fa, Ea, ⟨Ca, Ja, ea, da, fa⟩, e2⟩ := c_cyc (Rr := Rr) J C f0 (by omega) (x1 := x1) (x2 := k) (by omega)
    unfold nRun
    generalize nCyc R = R2 at *
    obtain ⟨h', F', E, ⟨C', J', e', d', f'⟩⟩ := ih fu (k + 1) R2 Fa ha (by omega) (by omega) Ja Ca fa (by omega) (by omega)
    refine ⟨h', F', ?_, C', J', ext_t ea e', dT_t da d', f'⟩
    rw [Ea, E]
end Cls19
