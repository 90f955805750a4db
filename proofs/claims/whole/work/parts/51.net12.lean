/-! The whole invariant of the reference: a core acts, an operation comes, a cycle -/
section Net12
variable {R T : RS} {n o c p : Int}
theorem nCore_00 {j : Int} (hj : j ≠ 38) : nCore R n 0 j = R 0 j := by
  unfold nCore
  split
  · split
    · rfl
    split
    · rw [u3n (by omega)]
    · unfold nCore1
      split
      · unfold nFin
        simp (disch := omega) only [u3n]
      split
      · simp (disch := omega) only [u3n, nSnd_0j hj]
      split
      · split
        · unfold nEvict
          split
          · rfl
          split <;> simp (disch := omega) only [u3n, nSnd_0j hj]
        split <;> simp (disch := omega) only [u3n, nSnd_0j hj]
      · rfl
  · rfl
theorem iR_core (I : iR R) (t : iT R) (hn : 0 ≤ n ∧ n < 6) : iR (nCore R n) := by
  have N := nP_core (nP_le (iR_P I) (by omega)) hn
  exact ⟨v_core I.1 (sOK_of I.1 I.2.2.1) t.1 hn, lI_core I.1 hn I.2.1, N.1, N.2.2⟩
theorem iR_oper {k l v d : Int} (I : iR R) (hv : -2147483648 ≤ v ∧ v < 2147483648) : iR (nOper R n k l v d).2 := by
  have V := v_oper (n := n) (k := k) (l := l) (d := d) I.1 hv
  have N : nP (nOper R n k l v d).2 0 := by
    have N0 := nP_le (iR_P I) (k := 0) (by omega)
    unfold nOper
    split
    · exact nP_u (nP_u (nP_u (nP_u (nP_u N0 (by omega)) (by omega)) (by omega)) (by omega)) (by omega)
    · exact N0
  refine ⟨V, lI_c I.2.1 ?_, N.1, N.2.2⟩
  unfold nOper
  split
  · dsimp only
    rw [u3f (by omega), u3f (by omega), u3f (by omega), u3f (by omega), u3f (by omega)]
  · rfl
theorem iR_c2 {z : Int} (I : iR R) : iR (up3 R 0 2 z) := by
  have N : nP (up3 R 0 2 z) 0 := nP_c (nP_le (iR_P I) (by omega)) (fun a h1 h2 => u3f (by omega)) ⟨u3i (by omega), u3i (by omega), u3i (by omega), u3i (by omega)⟩
  exact ⟨iV_c I.1 (fun a h1 h2 => u3f (by omega)) (u3i (by omega)), lI_c I.2.1 (u3f (by omega)), N.1, N.2.2⟩
theorem nCyc3_a {a : Nat} (ha : a ≠ 35) : nCyc3 R a = R a := by
  unfold nCyc3 nIt nIt nIt nIt nIt nIt nIt
  simp only [u3f ha]
theorem nCyc3_35 : ∀ j, 0 ≤ j → j < 6 → nCyc3 R 35 j = 0 := by
  intro j j0 j1
  unfold nCyc3 nIt nIt nIt nIt nIt nIt nIt
  simp only [up3_eq]
  have : j = 0 ∨ j = 1 ∨ j = 2 ∨ j = 3 ∨ j = 4 ∨ j = 5 := by omega
  rcases this with rfl | rfl | rfl | rfl | rfl | rfl <;> simp
theorem iR_c3 (I : iR R) : iR (nCyc3 R) := by
  have N : nP (nCyc3 R) 0 := nP_c (nP_le (iR_P I) (by omega)) (fun a h1 h2 => nCyc3_a (by omega)) (by rw [nCyc3_a (by omega)]; exact ⟨rfl, rfl, rfl, rfl⟩)
  refine ⟨?_, lI_c I.2.1 (nCyc3_a (by omega)), N.1, N.2.2⟩
  obtain ⟨v1, v2, v3, v4, v5, v6, v7, v8, v9, v10⟩ := I.1
  have e : ∀ a, a ≠ 35 → nCyc3 R a = R a := fun a h => nCyc3_a h
  have h35 := nCyc3_35 (R := R)
  generalize nCyc3 R = T at *
  have hC : ∀ f : PW, cnt f T = cnt f R := fun f => cnt_congr ⟨e 1 (by omega), e 2 (by omega), e 3 (by omega), e 4 (by omega), e 5 (by omega), e 6 (by omega), e 8 (by omega)⟩
  refine ⟨?_, ?_, ?_, ?_, ?_, ?_, ?_, ?_, ?_, ?_⟩
  · unfold pIv pN at *
    simp only [hC]
    rw [e 20 (by omega), e 22 (by omega)]
    exact v1
  · unfold pH at *
    simp only [hC]
    rw [e 24 (by omega)]
    exact v2
  · unfold cI at *
    rw [e 20 (by omega), e 34 (by omega), e 33 (by omega), e 29 (by omega)]
    exact v3
  · unfold hI at *
    rw [e 24 (by omega), e 26 (by omega), e 27 (by omega)]
    exact v4
  · unfold rI at *
    rw [hC, e 20 (by omega), e 34 (by omega), e 0 (by omega)]
    exact v5
  · unfold bP at *
    rw [e 1 (by omega), e 2 (by omega), e 3 (by omega), e 4 (by omega), e 5 (by omega), e 6 (by omega), e 7 (by omega), e 8 (by omega)]
    exact v6
  · unfold bD at *
    rw [e 20 (by omega), e 21 (by omega), e 23 (by omega)]
    exact v7
  · unfold bH at *
    rw [e 24 (by omega), e 25 (by omega), e 26 (by omega), e 27 (by omega)]
    exact v8
  · unfold bO at *
    rw [e 28 (by omega), e 29 (by omega), e 30 (by omega), e 31 (by omega), e 32 (by omega)]
    exact v9
  · intro n n0 n1
    have := v10 n n0 n1
    rw [e 33 (by omega), e 34 (by omega), h35 n n0 n1]
    exact ⟨this.1, Or.inl rfl⟩
-- between cycles
def jP (R : RS) : Prop := iR R ∧ iT R
def jC (k0 : Int) (R : RS) : Prop := iR R ∧ iT R ∧ R 0 2 = k0
theorem r_inj {h : ev_hs} {c0 : Nat} {Rc : RS} {k0 : Int} (hs : shR h c0) (J : jC k0 R) (hn : 0 ≤ n ∧ n < 6) (hc : 0 ≤ c ∧ c < 3) : f_Mo_inject (some (c0 + 373)) n c (vw h c0 Rc R) = some (vw h c0 Rc (nInj R n c)) ∧ jC k0 (nInj R n c) := by
  obtain ⟨I, t, e1⟩ := J
  have gQ := bQ_of I (3 * n + c) (by omega) (by omega)
  have gS := I.2.2.2.1
  have gB := I.2.2.2.2.1 (15 * n + 12 + c) (by omega) (by omega)
  have gW := (I.2.2.2.2.2.2.1 (128 * (3 * n + c)) (by omega) (by omega)).1
  have gP := (I.1.2.2.2.2.2.1 (R 9 (128 * (3 * n + c))) gW.1 gW.2).2.1
  unfold bS at gS
  have h4 : rn n 4 c := by unfold rn; omega
  obtain ⟨k1, k2⟩ := iR_inj I t h4
  have k3 := k2 0 (by omega) (by omega) (by omega) (by omega) (by omega) (by omega) (by omega)
  refine ⟨m_inject hs hn hc (by omega) (by omega) gS.1 gS.2 gB.1 gW gP, k1, ?_, ?_⟩
  · unfold iT at *
    rw [k3]
    exact t
  · rw [k3]; exact e1
theorem r_mv {h : ev_hs} {c0 : Nat} {Rc : RS} {k0 : Int} (hs : shR h c0) (J : jC k0 R) (hn : 0 ≤ n ∧ n < 6) (ho : 0 ≤ o ∧ o ≤ 4) (hc : 0 ≤ c ∧ c < 3) : f_Mo_moves (some (c0 + 373)) n o c (vw h c0 Rc R) = some ((nMv R n o c).1, vw h c0 Rc (nMv R n o c).2) ∧ jC k0 (nMv R n o c).2 := by
  obtain ⟨I, t, e1⟩ := J
  have hr : rn n o c := by unfold rn; omega
  have gP := I.1.2.2.2.2.2.1
  obtain ⟨k1, k2, k3, k4, k5, k6⟩ := iR_mv I t hr
  refine ⟨m_moves hs gP (bQ_of I) I.2.2.2.2.1 I.2.2.2.2.2.1 (bG_of I t) hn ho hc (fun h4 hsv => ?_), k1, ?_, ?_⟩
  · have := (sv_sp I.2.2.1 gP I.2.2.2.2.2.1 hr hsv).2.1
    have := om_tg hr (this.resolve_left h4)
    exact ⟨this.1, this.2.1⟩
  · unfold iT at *
    rw [k3 2 (by omega) (by omega)]
    omega
  · rw [k3 2 (by omega) (by omega)]; exact e1
theorem r_tf {h : ev_hs} {c0 : Nat} {Rc : RS} {k0 : Int} (hs : shR h c0) (J : jC k0 R) (hn : 0 ≤ n ∧ n < 6) (hc : 0 ≤ c ∧ c < 3) : f_Mo_takeFirst (some (c0 + 373)) n c (vw h c0 Rc R) = some (vw h c0 Rc (nTF R n c)) ∧ jC k0 (nTF R n c) := by
  obtain ⟨I, t, e1⟩ := J
  obtain ⟨k1, k2⟩ := iR_tf I t hn hc
  have gN := I.1.2.2.2.2.2.2.2.2.2 n hn.1 hn.2
  refine ⟨m_takeFirst hs I.1.2.2.2.2.2.1 (bQ_of I) I.2.2.2.2.2.2.1 (bC_of I.1) I.1.2.2.2.2.2.2.2.1 I.1.2.2.2.2.2.2.2.2.1 (sOK_of I.1 I.2.2.1) hn hc (by omega) (fun i i0 i1 hk => ?_), k1, ?_, ?_⟩
  · obtain ⟨p0, p1, p2⟩ := inb_sp I hn hc i0 i1
    rcases hk with hk | hk
    · have := (s_data I.1 hn p0 p1 p2 hk).2.1
      omega
    · have := (s_ack I.1 hn p0 p1 p2 hk).2.1
      omega
  · unfold iT at *
    rw [k2 2 (by omega), k2 39 (by omega), k2 40 (by omega)]
    exact t
  · rw [k2 2 (by omega)]; exact e1
theorem r_core {h : ev_hs} {c0 : Nat} {Rc : RS} {k0 : Int} (hs : shR h c0) (J : jC k0 R) (hn : 0 ≤ n ∧ n < 6) : f_Mo_core (some (c0 + 373)) n (vw h c0 Rc R) = some (vw h c0 Rc (nCore R n)) ∧ jC k0 (nCore R n) := by
  obtain ⟨I, t, e1⟩ := J
  refine ⟨m_core hs (bC_of I.1) I.1.2.2.2.2.2.2.2.2.1 I.1.2.2.2.2.2.2.2.2.2 (sOK_le (sOK_of I.1 I.2.2.1) (by omega)) hn, iR_core I t hn, ?_, ?_⟩
  · unfold iT at *
    rw [nCore_00 (by omega), nCore_00 (by omega), nCore_00 (by omega)]
    exact t
  · rw [nCore_00 (by omega)]; exact e1
theorem jC_c3 {k0 : Int} (J : jC k0 R) : jC k0 (nCyc3 R) := by
  obtain ⟨I, t, e1⟩ := J
  unfold jC iT at *
  rw [nCyc3_a (by omega)]
  exact ⟨iR_c3 I, t, e1⟩
theorem jC_0 (J : jP R) (h1 : R 0 2 + 1 ≤ 100000) : jC (R 0 2 + 1) (up3 R 0 2 (R 0 2 + 1)) := by
  obtain ⟨I, t⟩ := J
  unfold iT at t
  refine ⟨iR_c2 I, ?_, u3s⟩
  unfold iT
  rw [u3s, u3i (by omega), u3i (by omega)]
  omega
theorem r_cyc {h : ev_hs} {c0 : Nat} {Rc : RS} (hs : shR h c0) (J : jP R) (h1 : R 0 2 + 1 ≤ 100000) : f_Mo_oneCycle (some (c0 + 373)) (vw h c0 Rc R) = some (vw h c0 Rc (nCyc R)) ∧ jC (R 0 2 + 1) (nCyc R) :=
  m_oneCycle hs (P1 := jC (R 0 2 + 1)) (P2 := fun _ => jC (R 0 2 + 1)) (P3 := jC (R 0 2 + 1)) (P4 := jC (R 0 2 + 1)) (fun n c R n0 n1 c0 c1 J => r_inj hs J ⟨n0, n1⟩ ⟨c0, c1⟩) (fun k R J => J) (fun R J => J) (fun k n o c T n0 n1 o0 o1 c0 c1 J => r_mv hs J ⟨n0, n1⟩ ⟨o0, o1⟩ ⟨c0, c1⟩) (fun T J => jC_c3 J) (fun n c R n0 n1 c0 c1 J => r_tf hs J ⟨n0, n1⟩ ⟨c0, c1⟩) (fun R J => J) (fun n R n0 n1 J => r_core hs J ⟨n0, n1⟩) (jC_0 J h1)
theorem r_run {h : ev_hs} {c0 : Nat} {Rc : RS} (hs : shR h c0) {x : Int} (hx : 0 ≤ x ∧ x ≤ 100) : ∀ (m fu : Nat) (k : Int) (R : RS), 0 ≤ k → k + m = x → jP R → R 0 2 + m ≤ 100000 → m < fu → f_Mo_run_14 fu (some (c0 + 373)) x k (vw h c0 Rc R) = some (nRun R m 0 2, vw h c0 Rc (nRun R m)) ∧ jP (nRun R m) ∧ nRun R m 0 2 = R 0 2 + m := by
  intro m
  induction m with
  | zero =>
    intro fu k R h1 h2 hP hb hf
    cases fu with
    | zero => omega
    | succ fu =>
      rw [f_Mo_run_14, eLt_i (by omega) (by omega) (by omega) (by omega), if_neg (by omega), ri2 hs]
      exact ⟨rfl, hP, by unfold nRun; omega⟩
  | succ m ih =>
    intro fu k R h1 h2 hP hb hf
    cases fu with
    | zero => omega
    | succ fu =>
      obtain ⟨e1, e2⟩ := r_cyc (Rc := Rc) hs hP (by omega)
      unfold nRun
      generalize nCyc R = R2 at e1 e2 ⊢
      rw [f_Mo_run_14, eLt_i (by omega) (by omega) (by omega) (by omega), if_pos (by omega), r_vK hs, e1, bV_some]
      obtain ⟨x1, x2, x3⟩ := ih fu (k + 1) R2 (by omega) (by omega) ⟨e2.1, e2.2.1⟩ (by have := e2.2.2; omega) (by omega)
      exact ⟨x1, x2, by have := e2.2.2; omega⟩
end Net12
