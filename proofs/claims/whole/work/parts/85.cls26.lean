/-! The first state -/
section Cls26
variable {α : Type} {g : ev_hs} {M : Nat → Cl} {z C S e m c0 : Nat} {D FL : Int}
def R0 (D FL : Int) : RS := fun k i => if k = 0 then (if i = 0 then D else if i = 1 then FL else 0) else if k = 18 then (if 0 ≤ i ∧ i < 90 then -1 else 0) else if k = 19 then (if 0 ≤ i ∧ i < 90 then 4 else 0) else if k = 26 then (if 0 ≤ i ∧ i < 8 then -1 else 0) else 0
theorem r0_z {k : Nat} {i : Int} (h : k ≠ 0 ∧ k ≠ 18 ∧ k ≠ 19 ∧ k ≠ 26) : R0 D FL k i = 0 := by
  unfold R0
  rw [if_neg h.1, if_neg h.2.1, if_neg h.2.2.1, if_neg h.2.2.2]
theorem r0_18 {i : Int} (h : 0 ≤ i ∧ i < 90) : R0 D FL 18 i = -1 := by
  unfold R0
  rw [if_neg (by omega), if_pos rfl, if_pos h]
theorem r0_19 {i : Int} (h : 0 ≤ i ∧ i < 90) : R0 D FL 19 i = 4 := by
  unfold R0
  rw [if_neg (by omega), if_neg (by omega), if_pos rfl, if_pos h]
theorem r0_26 {i : Int} (h : 0 ≤ i ∧ i < 8) : R0 D FL 26 i = -1 := by
  unfold R0
  rw [if_neg (by omega), if_neg (by omega), if_neg (by omega), if_pos rfl, if_pos h]
theorem r0_0 {i : Int} (h : i ≠ 0 ∧ i ≠ 1) : R0 D FL 0 i = 0 := by
  unfold R0
  rw [if_pos rfl, if_neg h.1, if_neg h.2]
theorem r0_00 : R0 D FL 0 0 = D := rfl
theorem r0_01 : R0 D FL 0 1 = FL := rfl
theorem cnt_z {f : PW} {R : RS} (h : ∀ p, R 1 p = 0) : cnt f R = 0 := by
  unfold cnt
  have : (fun p : Nat => pw f R (p : Int)) = fun _ => 0 := by
    funext p
    unfold pw
    rw [h p]
    simp
  rw [this, sN_z]
theorem jP_0 (hD : 1 ≤ D ∧ D ≤ 4) (hF : 2 ≤ FL ∧ FL ≤ 5) : jP (R0 D FL) := by
  have h1 : ∀ p, R0 D FL 1 p = 0 := fun p => r0_z (by omega)
  have hc : ∀ f : PW, cnt f (R0 D FL) = 0 := fun f => cnt_z h1
  refine ⟨⟨⟨?_, ?_, ?_, ?_, ?_, ?_, ?_, ?_, ?_, ?_⟩, ?_, ?_, ?_, ?_, ?_, ?_, ?_⟩, ?_⟩
  · intro n l _ _ _ _
    unfold pN
    rw [hc, hc, hc, hc, hc, hc, r0_z (by omega), r0_z (by omega)]
    unfold pA
    omega
  · intro l _ _
    rw [hc, r0_z (by omega)]
    omega
  · intro n l _ _ _ _ h
    rw [r0_z (by omega)] at h
    omega
  · intro l l0 l1
    rw [r0_z (k := 24) (by omega), r0_26 ⟨l0, l1⟩]
    omega
  · unfold rI
    rw [hc, r0_0 (by omega)]
    have e1 : (fun i : Nat => pF (R0 D FL 20 (i : Int))) = fun _ => 12 := by
      funext i
      rw [r0_z (by omega)]
      rfl
    have e2 : (fun i : Nat => (R0 D FL 34 (i : Int)).toNat) = fun _ => 0 := by
      funext i
      rw [r0_z (by omega)]
      rfl
    rw [e1, e2]
    decide
  · intro p _ _
    have q : ∀ k i, k ≠ 0 ∧ k ≠ 18 ∧ k ≠ 19 ∧ k ≠ 26 → R0 D FL k i = 0 := fun k i hh => r0_z hh
    rw [q 1 p (by omega), q 2 p (by omega), q 3 p (by omega), q 4 p (by omega), q 5 p (by omega), q 6 p (by omega), q 7 p (by omega), q 8 p (by omega)]
    omega
  · intro k _ _
    simp (disch := omega) only [r0_z]
    omega
  · intro l l0 l1
    rw [r0_26 ⟨l0, l1⟩]
    simp (disch := omega) only [r0_z]
    omega
  · intro k _ _
    simp (disch := omega) only [r0_z]
    omega
  · intro k _ _
    rw [r0_z (k := 34) (by omega), r0_z (k := 33) (by omega), r0_z (k := 35) (by omega)]
    omega
  · intro n m _ _ _ _
    rw [nIn_eq]
    simp (disch := omega) only [r0_z]
    unfold nZ
    simp
  · have w0 : ∀ w, nLc (R0 D FL) (fun _ => 0) w = 0 := by
      intro w
      unfold nLc
      have : (fun p : Nat => if R0 D FL 1 (p : Int) = 1 then w ((fun _ => (0 : Int)) (p : Int)) else 0) = fun _ => 0 := by
        funext p
        rw [h1, if_neg (by omega)]
      rw [this, sN_z]
    have e17 : ∀ b, R0 D FL 17 b = 0 := fun b => r0_z (by omega)
    refine ⟨fun _ => -1, fun _ => 0, fun _ => 0, ⟨fun b _ _ => ?_, fun n o c hr hm => ?_, fun n c hr => ?_, fun n o c hr h => ?_, fun n o o' c hr _ h => ?_, fun b _ _ h => absurd rfl h⟩, fun b j _ _ _ h => ?_, fun b j b' j' _ _ _ h => ?_, fun n c hr h => ?_, fun q i _ _ _ h => ?_, fun q i i' _ _ _ h => ?_, fun q _ _ => ?_, fun q i _ _ _ h => ?_, fun q i i' _ _ _ h => ?_, fun q _ _ => ?_, ?_⟩
    · rw [e17]
      exact ⟨fun h => by omega, fun j _ h => by omega⟩
    · unfold rn at hr
      unfold eb gh
      rw [e17, if_pos rfl, r0_18 (by omega), if_pos (by omega)]
    · unfold eb
      rw [e17, if_pos rfl, r0_z (by omega), if_pos rfl]
    · unfold rn at hr
      rw [r0_18 (by omega)] at h
      omega
    · unfold rn at hr
      rw [r0_18 (by omega)] at h
      omega
    · rw [e17] at h
      omega
    · rw [e17] at h
      omega
    · unfold rn at hr
      rw [r0_18 (by omega)] at h
      omega
    · rw [r0_z (by omega)] at h
      omega
    · rw [r0_z (by omega)] at h
      omega
    · rw [r0_z (k := 10) (by omega), r0_z (k := 11) (by omega)]
      omega
    · rw [r0_z (by omega)] at h
      omega
    · rw [r0_z (by omega)] at h
      omega
    · rw [w0, w0, r0_z (by omega), r0_z (by omega)]
      simp
    · rw [w0, r0_0 (by omega), r0_0 (by omega)]
      rfl
  · exact ⟨hD, hF⟩
  · intro b b0 b1
    rw [r0_18 ⟨b0, b1⟩, r0_19 ⟨b0, b1⟩, r0_z (by omega), r0_00]
    omega
  · intro k _ _
    simp (disch := omega) only [r0_z]
    omega
  · intro k _ _
    simp (disch := omega) only [r0_z]
    omega
  · intro p _ _ h
    rw [h1] at h
    omega
  · unfold iT
    rw [r0_0 (by omega), r0_0 (by omega), r0_0 (by omega)]
    omega
theorem phi_0 : phi (R0 D FL) = 0 := by
  unfold phi
  have e1 : sJ (R0 D FL 10) 18 = 0 := by
    rw [sJ_c (f := fun _ => 0) 18 (fun i _ => r0_z (by omega))]
    rfl
  have e2 : sJ (R0 D FL 11) 18 = 0 := by
    rw [sJ_c (f := fun _ => 0) 18 (fun i _ => r0_z (by omega))]
    rfl
  rw [e1, e2, r0_0 (by omega)]
  omega
-- a heap is the view of what it holds
theorem vw_eq {Rc Rr : RS} (h1 : ∀ f o k i, dI f o = some (k, i) → xI g f (c0 + o) = Rc k i) (h2 : ∀ o j k i, dA o j = some (k, i) → xA g (c0 + o) j = Rc k i) (h3 : ∀ f, 1100 ≤ f → xI g f (c0 + 373) = Rr 0 ((f : Int) - 1100)) (h4 : ∀ k j, 1 ≤ k → k ≤ 35 → xA g (c0 + 373 + k) j = Rr k (j : Int)) : vw g c0 Rc Rr = g := by
  have e1 : vI g c0 Rc Rr = xI g := by
    funext f a
    unfold vI
    by_cases ha : a < c0
    · rw [if_pos ha]
    · rw [if_neg ha]
      cases hd : dI f (a - c0) with
      | none =>
        dsimp only
        by_cases hb : a = c0 + 373 ∧ 1100 ≤ f
        · rw [if_pos hb, hb.1, h3 f hb.2]
        · rw [if_neg hb]
      | some x =>
        dsimp only
        have := h1 f (a - c0) x.1 x.2 hd
        rw [show c0 + (a - c0) = a by omega] at this
        exact this.symm
  have e2 : vA g c0 Rc Rr = xA g := by
    funext a j
    unfold vA
    by_cases ha : a < c0
    · rw [if_pos ha]
    · rw [if_neg ha]
      cases hd : dA (a - c0) j with
      | none =>
        dsimp only
        by_cases hb : c0 + 373 < a ∧ a ≤ c0 + 408
        · have := h4 (a - c0 - 373) j (by omega) (by omega)
          rw [show c0 + 373 + (a - c0 - 373) = a by omega] at this
          rw [if_pos hb, this]
        · rw [if_neg hb]
      | some x =>
        dsimp only
        have := h2 (a - c0) j x.1 x.2 hd
        rw [show c0 + (a - c0) = a by omega] at this
        exact this.symm
  unfold vw
  rw [e1, e2]
  rfl
end Cls26
