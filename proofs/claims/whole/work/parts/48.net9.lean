/-! The whole invariant of the reference -/
section Net9
variable {R T : RS} {n o c p : Int}
def iR (R : RS) : Prop := iV R ∧ lnI R ∧ ntI R ∧ bS R ∧ bB R ∧ bF R ∧ bW R ∧ h11 R
def iT (R : RS) : Prop := (0 ≤ R 0 2 ∧ R 0 2 ≤ 100000) ∧ 0 ≤ R 0 39 ∧ 0 ≤ R 0 40
theorem iV_c (V : iV R) (k : ∀ a, 1 ≤ a → (a < 9 ∨ 19 < a) → T a = R a) (k0 : T 0 38 = R 0 38) : iV T := by
  obtain ⟨v1, v2, v3, v4, v5, v6, v7, v8, v9, v10⟩ := V
  have hC : ∀ f : PW, cnt f T = cnt f R := fun f => cnt_congr ⟨k 1 (by omega) (by omega), k 2 (by omega) (by omega), k 3 (by omega) (by omega), k 4 (by omega) (by omega), k 5 (by omega) (by omega), k 6 (by omega) (by omega), k 8 (by omega) (by omega)⟩
  refine ⟨?_, ?_, ?_, ?_, ?_, ?_, ?_, ?_, ?_, ?_⟩
  · unfold pIv pN at *
    simp only [hC]
    rw [k 20 (by omega) (by omega), k 22 (by omega) (by omega)]
    exact v1
  · unfold pH at *
    simp only [hC]
    rw [k 24 (by omega) (by omega)]
    exact v2
  · unfold cI at *
    rw [k 20 (by omega) (by omega), k 34 (by omega) (by omega), k 33 (by omega) (by omega), k 29 (by omega) (by omega)]
    exact v3
  · unfold hI at *
    rw [k 24 (by omega) (by omega), k 26 (by omega) (by omega), k 27 (by omega) (by omega)]
    exact v4
  · unfold rI at *
    rw [hC, k 20 (by omega) (by omega), k 34 (by omega) (by omega), k0]
    exact v5
  · unfold bP at *
    rw [k 1 (by omega) (by omega), k 2 (by omega) (by omega), k 3 (by omega) (by omega), k 4 (by omega) (by omega), k 5 (by omega) (by omega), k 6 (by omega) (by omega), k 7 (by omega) (by omega), k 8 (by omega) (by omega)]
    exact v6
  · unfold bD at *
    rw [k 20 (by omega) (by omega), k 21 (by omega) (by omega), k 23 (by omega) (by omega)]
    exact v7
  · unfold bH at *
    rw [k 24 (by omega) (by omega), k 25 (by omega) (by omega), k 26 (by omega) (by omega), k 27 (by omega) (by omega)]
    exact v8
  · exact bO_c (fun a h1 h2 => k a (by omega) (by omega)) v9
  · exact bN_c (fun a h1 h2 => k a (by omega) (by omega)) v10
theorem sOK_of (V : iV R) (N : ntI R) : sOK R (6 + 1) := by
  have h := lv_92 V
  obtain ⟨G, E, L, A, B⟩ := N
  refine ⟨fun p p0 p1 => (V.2.2.2.2.2.1 p p0 p1).1, by omega, fun q q0 q1 => ?_⟩
  have := row_le B (by omega) q q0 q1
  exact ⟨this.1.1, this.1.2.1⟩
theorem iR_P (I : iR R) : nP R (6 + 1) := ⟨I.2.2.1, sOK_of I.1 I.2.2.1, I.2.2.2⟩
theorem bQ_of (I : iR R) : bQ R := by
  have h := lv_92 I.1
  obtain ⟨G, E, L, A, B⟩ := I.2.2.1
  intro q q0 q1
  have r := row_le B (by omega) q q0 q1
  have s := B.2.2.2.2.2.1 q q0 q1
  refine ⟨by omega, ?_, by omega⟩
  by_cases g : R 10 q = 0
  · have := s.2.2 g
    omega
  · have s2 := s.2.1 (by omega)
    have := nSz_r I.2.2.2.1 (p := R 9 (128 * q))
    omega
theorem bG_of (I : iR R) (t : iT R) : bG R := by
  have h1 := sent_le I.1
  obtain ⟨G, E, L, A, B⟩ := I.2.2.1
  have h2 := B.2.2.2.2.2.2.2.2.2
  have h3 := I.2.2.2.1
  unfold bS at h3
  unfold iT at t
  exact ⟨h3.1, h3.2, t.1, by omega, by omega, by omega⟩
-- a flit enters
theorem iR_inj (I : iR R) (t : iT R) (h : rn n 4 c) : iR (nInj R n c) ∧ (∀ a, a ≠ 9 → a ≠ 10 → a ≠ 11 → a ≠ 14 → a ≠ 15 → a ≠ 16 → a ≠ 17 → nInj R n c a = R a) := by
  have hr := h
  unfold rn at hr
  have N := ntI_inj I.2.2.1 (by have := lv_92 I.1; omega) I.2.2.2.2.1 I.2.2.2.1 h
  have gQ := bQ_of I
  have k : ∀ a, a ≠ 9 → a ≠ 10 → a ≠ 11 → a ≠ 14 → a ≠ 15 → a ≠ 16 → a ≠ 17 → nInj R n c a = R a := by
    intro a a1 a2 a3 a4 a5 a6 a7
    unfold nInj
    split
    · rfl
    split
    · rfl
    split
    · rw [nSh_n (by unfold sW; simp; omega), u3f (by omega), u3f (by omega)]
      funext j
      exact nApp_n (by omega)
    · rw [u3f (by omega)]
      funext j
      exact nApp_n (by omega)
  refine ⟨⟨iV_c I.1 (fun a h1 h2 => k a (by omega) (by omega) (by omega) (by omega) (by omega) (by omega) (by omega)) (by rw [k 0 (by omega) (by omega) (by omega) (by omega) (by omega) (by omega) (by omega)]), lI_c I.2.1 (k 20 (by omega) (by omega) (by omega) (by omega) (by omega) (by omega) (by omega)), N, ?_, ?_, ?_, ?_, ?_⟩, k⟩
  · have := I.2.2.2.1
    unfold bS at *
    rw [k 0 (by omega) (by omega) (by omega) (by omega) (by omega) (by omega) (by omega)]
    exact this
  · intro b b0 b1
    have g := I.2.2.2.2.1 b b0 b1
    rw [k 0 (by omega) (by omega) (by omega) (by omega) (by omega) (by omega) (by omega), k 18 (by omega) (by omega) (by omega) (by omega) (by omega) (by omega) (by omega), k 19 (by omega) (by omega) (by omega) (by omega) (by omega) (by omega) (by omega)]
    refine ⟨?_, g.2⟩
    unfold nInj
    split
    · exact g.1
    split
    · exact g.1
    rename_i h1
    split
    · rw [nSh_n (by decide), u3n (by omega), u3n (by omega), app_17]
      split
      · rename_i w; rw [w] at g ⊢; omega
      · exact g.1
    · rw [u3n (by omega), app_17]
      split
      · rename_i w; rw [w] at g ⊢; omega
      · exact g.1
  · intro y y0 y1
    have g := I.2.2.2.2.2.1 y y0 y1
    have gq := gQ (3 * n + c) (by omega) (by omega)
    have gw := I.2.2.2.2.2.2.1 (128 * (3 * n + c)) (by omega) (by omega)
    unfold nInj
    split
    · exact g
    split
    · exact g
    have a14 : ∀ b p m, nApp R b p m 14 y = if y = 4 * b + R 17 b then p else R 14 y := by
      intro b p m
      unfold nApp
      rw [u3n (by omega), u3n (by omega), u3n (by omega), up3_eq]
      simp only [true_and]
    have a15 : ∀ b p m, nApp R b p m 15 y = if y = 4 * b + R 17 b then m else R 15 y := by
      intro b p m
      unfold nApp
      rw [u3n (by omega), u3n (by omega), up3_eq, u3n (by omega)]
      simp only [true_and]
    have a16 : ∀ b p m, nApp R b p m 16 y = if y = 4 * b + R 17 b then R 0 2 else R 16 y := by
      intro b p m
      unfold nApp
      rw [u3n (by omega), up3_eq, u3n (by omega), u3n (by omega)]
      simp only [true_and]
    have tt := t.1
    split
    · rw [nSh_n (by decide), nSh_n (by decide), nSh_n (by decide)]
      simp (disch := omega) only [u3n]
      rw [a14, a15, a16]
      grind
    · simp (disch := omega) only [u3n]
      rw [a14, a15, a16]
      grind
  · intro y y0 y1
    have g := I.2.2.2.2.2.2.1 y y0 y1
    rw [k 12 (by omega) (by omega) (by omega) (by omega) (by omega) (by omega) (by omega)]
    refine ⟨?_, g.2⟩
    unfold nInj
    split
    · exact g.1
    split
    · exact g.1
    have gq := gQ (3 * n + c) (by omega) (by omega)
    split
    · unfold nSh
      split
      · rename_i w
        have g2 := I.2.2.2.2.2.2.1 (y + 1) (by omega) (by omega)
        simp (disch := omega) only [u3n, nApp_n]
        exact g2.1
      · simp (disch := omega) only [u3n, nApp_n]
        exact g.1
    · simp (disch := omega) only [u3n, nApp_n]
      exact g.1
  · have := I.2.2.2.2.2.2.2
    unfold h11 at *
    rw [k 1 (by omega) (by omega) (by omega) (by omega) (by omega) (by omega) (by omega), k 2 (by omega) (by omega) (by omega) (by omega) (by omega) (by omega) (by omega), k 3 (by omega) (by omega) (by omega) (by omega) (by omega) (by omega) (by omega), k 4 (by omega) (by omega) (by omega) (by omega) (by omega) (by omega) (by omega)]
    exact this
end Net9
