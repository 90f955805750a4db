/-! The whole invariant of the reference: a packet is taken, a core acts -/
section Net11
variable {R T : RS} {n o c p : Int}
theorem nSnd_0j {n k l t w v m j : Int} (hj : j ≠ 38) : nSend R n k l t w v m 0 j = R 0 j := by
  unfold nSend
  rw [u3i hj]
  simp (disch := omega) only [u3n]
theorem nTak_00 {j : Int} (hj : j ≠ 38) : (nTak R n p).2 0 j = R 0 j := by
  have b : ∀ (U : RS) (l s : Int), nBec U n l s 0 j = U 0 j := by
    intro U l s
    unfold nBec nFin
    simp (disch := omega) only [u3n]
  have g : ∀ l x : Int, nGone R l x 0 j = R 0 j := by
    intro l x
    unfold nGone
    split <;> simp (disch := omega) only [u3n]
  unfold nTak
  split
  · unfold nGets
    split
    · rfl
    split <;> simp (disch := omega) only [u3n, nSnd_0j hj]
  split
  · unfold nGetm
    split
    · rfl
    split
    · simp (disch := omega) only [u3n, nSnd_0j hj]
    · simp (disch := omega) only [u3n, nIv_0n hj, nSnd_0j hj]
  split
  · simp only [nSnd_0j hj, g]
  split
  · simp only [nSnd_0j hj]
    unfold nPutm
    split
    · simp (disch := omega) only [u3n]
    · exact g _ _
  split
  · unfold nFwdS
    split
    · simp (disch := omega) only [u3n, nSnd_0j hj]
    split
    · simp (disch := omega) only [u3n, nSnd_0j hj]
    · rfl
  split
  · unfold nFwdM
    split
    · simp (disch := omega) only [u3n, nSnd_0j hj]
    split
    · simp (disch := omega) only [u3n, nSnd_0j hj]
    · rfl
  split
  · unfold nIvl
    split
    · simp (disch := omega) only [u3n, nSnd_0j hj]
    split
    · simp (disch := omega) only [u3n, nSnd_0j hj]
    split
    · simp (disch := omega) only [u3n, nSnd_0j hj]
    · rfl
  split
  · simp (disch := omega) only [u3n]
  split
  · unfold nDat
    split
    · simp (disch := omega) only [b, u3n]
    split
    · simp (disch := omega) only [b, u3n]
    · simp (disch := omega) only [u3n]
  split
  · unfold nAck
    split
    · simp (disch := omega) only [b, u3n]
    · simp (disch := omega) only [u3n]
  · dsimp only
    split <;> simp (disch := omega) only [u3n]
theorem nTk_s {n q : Int} : ∀ (m : Nat) (t : Int), ((nTk R n q m t).1 = t + m ∧ (nTk R n q m t).2 = R ∧ ∀ i, t ≤ i → i < t + m → ¬ (nBh R q i = 0 ∧ (nTak R n (R 12 (128 * q + i))).1 = 1)) ∨ (t ≤ (nTk R n q m t).1 ∧ (nTk R n q m t).1 < t + m ∧ nBh R q (nTk R n q m t).1 = 0 ∧ (nTak R n (R 12 (128 * q + (nTk R n q m t).1))).1 = 1 ∧ (nTk R n q m t).2 = (nTak R n (R 12 (128 * q + (nTk R n q m t).1))).2 ∧ ∀ i, t ≤ i → i < (nTk R n q m t).1 → ¬ (nBh R q i = 0 ∧ (nTak R n (R 12 (128 * q + i))).1 = 1)) := by
  intro m
  induction m with
  | zero => intro t; unfold nTk; exact Or.inl ⟨by simp, rfl, fun i h1 h2 => by omega⟩
  | succ m ih =>
    intro t
    unfold nTk
    by_cases hc : nBh R q t = 0 ∧ (nTak R n (R 12 (128 * q + t))).1 = 1
    · rw [if_pos hc]
      exact Or.inr ⟨Int.le_refl _, by dsimp only; omega, hc.1, hc.2, rfl, fun i h1 h2 => by dsimp only at h2; omega⟩
    · rw [if_neg hc]
      rcases ih (t + 1) with ⟨x1, x2, x3⟩ | ⟨x1, x2, x3, x4, x5, x6⟩
      · refine Or.inl ⟨by omega, x2, fun i h1 h2 => ?_⟩
        by_cases hi : i = t
        · rw [hi]; exact hc
        · exact x3 i (by omega) (by omega)
      · refine Or.inr ⟨by omega, by omega, x3, x4, x5, fun i h1 h2 => ?_⟩
        by_cases hi : i = t
        · rw [hi]; exact hc
        · exact x6 i (by omega) h2
-- the packet t of the inbox q is taken and gone
theorem tf_sp (I : iR R) (hn : 0 ≤ n ∧ n < 6) (hc : 0 ≤ c ∧ c < 3) : (nTF R n c = R ∧ ∀ i, 0 ≤ i → i < R 13 (3 * n + c) → ¬ (nBh R (3 * n + c) i = 0 ∧ (nTak R n (R 12 (128 * (3 * n + c) + i))).1 = 1)) ∨ ∃ t, 0 ≤ t ∧ t < R 13 (3 * n + c) ∧ nBh R (3 * n + c) t = 0 ∧ (nTak R n (R 12 (128 * (3 * n + c) + t))).1 = 1 ∧ (∀ i, 0 ≤ i → i < t → ¬ (nBh R (3 * n + c) i = 0 ∧ (nTak R n (R 12 (128 * (3 * n + c) + i))).1 = 1)) ∧ nTF R n c = nSh sX (up3 (up3 (nTak R n (R 12 (128 * (3 * n + c) + t))).2 1 (R 12 (128 * (3 * n + c) + t)) 0) 13 (3 * n + c) (R 13 (3 * n + c) - 1)) (128 * (3 * n + c) + t) (128 * (3 * n + c) + (R 13 (3 * n + c) - 1)) := by
  have gQ := bQ_of I (3 * n + c) (by omega) (by omega)
  unfold nTF
  rcases nTk_s (R := R) (n := n) (q := 3 * n + c) (R 13 (3 * n + c)).toNat 0 with ⟨x1, x2, x3⟩ | ⟨x1, x2, x3, x4, x5, x6⟩
  · refine Or.inl ⟨?_, fun i h1 h2 => x3 i h1 (by omega)⟩
    rw [x2]
    unfold nTF1
    rw [if_pos (by rw [x1]; omega)]
  · refine Or.inr ⟨_, x1, by omega, x3, x4, x6, ?_⟩
    generalize (nTk R n (3 * n + c) (R 13 (3 * n + c)).toNat 0).1 = t at *
    rw [x5]
    unfold nTF1
    have e12 : (nTak R n (R 12 (128 * (3 * n + c) + t))).2 12 (128 * (3 * n + c) + t) = R 12 (128 * (3 * n + c) + t) := nTak_n (by unfold kpT; omega)
    have e13 : (nTak R n (R 12 (128 * (3 * n + c) + t))).2 13 (3 * n + c) = R 13 (3 * n + c) := nTak_n (by unfold kpT; omega)
    rw [e12, e13, if_neg (by omega)]
theorem inb_sp (I : iR R) (hn : 0 ≤ n ∧ n < 6) (hc : 0 ≤ c ∧ c < 3) {t : Int} (h0 : 0 ≤ t) (h1 : t < R 13 (3 * n + c)) : (0 ≤ R 12 (128 * (3 * n + c) + t) ∧ R 12 (128 * (3 * n + c) + t) < 128) ∧ R 1 (R 12 (128 * (3 * n + c) + t)) = 1 ∧ R 4 (R 12 (128 * (3 * n + c) + t)) = n := by
  obtain ⟨G, E, L, A, B⟩ := I.2.2.1
  have := B.2.2.2.2.2.2.1 (3 * n + c) t (by omega) (by omega) h0 h1
  unfold okX at this
  exact ⟨⟨this.1, this.2.1⟩, this.2.2.1, by omega⟩
theorem iR_tf (I : iR R) (t : iT R) (hn : 0 ≤ n ∧ n < 6) (hc : 0 ≤ c ∧ c < 3) : iR (nTF R n c) ∧ (∀ j, j ≠ 38 → nTF R n c 0 j = R 0 j) := by
  rcases tf_sp I hn hc with ⟨e, -⟩ | ⟨i, i0, i1, i2, i3, -, e⟩
  · rw [e]
    exact ⟨I, fun _ _ => rfl⟩
  rw [e]
  obtain ⟨p0, p1, p2⟩ := inb_sp I hn hc i0 i1
  have gQ := bQ_of I (3 * n + c) (by omega) (by omega)
  generalize hq : 3 * n + c = q at *
  have q0 : 0 ≤ q ∧ q < 18 := by omega
  have hpe : R 12 (128 * q + i) = R 12 (128 * q + i) := rfl
  generalize hp : R 12 (128 * q + i) = p at *
  have N := nP_tak (p := p) (iR_P I) hn
  have k0 : ∀ j, j ≠ 38 → (nTak R n p).2 0 j = R 0 j := by
    intro j hj
    exact nTak_00 hj
  have k1 : ∀ a j, 11 ≤ a → a ≤ 19 → (nTak R n p).2 a j = R a j := fun a j h1 h2 => nTak_n (by unfold kpT; omega)
  have V := fun T (k : kl (nTak R n p).2 p T) => v_take I.1 (sOK_of I.1 I.2.2.1) t.1 hn p0 p1 p2 i3 k
  have l20 := tak_20 I.1 hn p0 p1 p2
  have e13 : (nTak R n p).2 13 q = R 13 q := k1 13 q (by omega) (by omega)
  have e12 : (nTak R n p).2 12 (128 * q + i) = p := by rw [k1 12 _ (by omega) (by omega), hp]
  generalize (nTak R n p).2 = U at *
  obtain ⟨N1, N2, N3, N4, N5, N6, N7⟩ := N
  have ka : ∀ a, a ≠ 1 → a ≠ 12 → a ≠ 13 → nSh sX (up3 (up3 U 1 p 0) 13 q (R 13 q - 1)) (128 * q + i) (128 * q + (R 13 q - 1)) a = U a := by
    intro a h1 h2 h3
    funext j
    unfold nSh sX
    rw [if_neg (by simp [h2]), u3n h3, u3n h1]
  have k01 : ∀ j, nSh sX (up3 (up3 U 1 p 0) 13 q (R 13 q - 1)) (128 * q + i) (128 * q + (R 13 q - 1)) 1 j = if j = p then 0 else U 1 j := by
    intro j
    unfold nSh sX
    rw [if_neg (by simp), u3n (by omega), up3_eq]
    simp only [true_and]
  have k13 : ∀ j, nSh sX (up3 (up3 U 1 p 0) 13 q (R 13 q - 1)) (128 * q + i) (128 * q + (R 13 q - 1)) 13 j = if j = q then U 13 j - 1 else U 13 j := by
    intro j
    unfold nSh sX
    rw [if_neg (by simp), up3_eq, u3n (by omega)]
    simp only [true_and]
    by_cases hj : j = q
    · rw [if_pos hj, if_pos hj, hj, e13]
    · rw [if_neg hj, if_neg hj]
  have k12 : ∀ j, nSh sX (up3 (up3 U 1 p 0) 13 q (R 13 q - 1)) (128 * q + i) (128 * q + (R 13 q - 1)) 12 j = if 128 * q + i ≤ j ∧ j < 128 * q + (R 13 q - 1) then U 12 (j + 1) else U 12 j := by
    intro j
    unfold nSh sX
    rw [u3n (by omega), u3n (by omega), u3n (by omega), u3n (by omega)]
    simp only [beq_self_eq_true, true_and]
  generalize nSh sX (up3 (up3 U 1 p 0) 13 q (R 13 q - 1)) (128 * q + i) (128 * q + (R 13 q - 1)) = T at *
  have hz : nSz T = nSz U := by
    funext x
    unfold nSz
    rw [ka 0 (by omega) (by omega) (by omega), ka 2 (by omega) (by omega) (by omega)]
  refine ⟨⟨?_, ?_, ?_, ?_, ?_, ?_, ?_, ?_⟩, fun j hj => by rw [ka 0 (by omega) (by omega) (by omega)]; exact k0 j hj⟩
  · refine V T ⟨?_, fun a h1 h2 => ka a (by omega) (by omega) (by omega), fun a h1 => ka a (by omega) (by omega) (by omega), ka 0 (by omega) (by omega) (by omega)⟩
    funext j
    rw [k01, up3_eq]
    simp only [true_and]
  · refine lI_le I.2.1 (fun j hj => l20 j ?_)
    rwa [ka 20 (by omega) (by omega) (by omega)] at hj
  · obtain ⟨G, E, L, A, B⟩ := N1
    refine ⟨G, E, L, ?_, ?_⟩
    · have hf : fc T = fc U := by
        funext b j
        unfold fc
        rw [ka 14 (by omega) (by omega) (by omega), ka 15 (by omega) (by omega) (by omega)]
      rw [hz, hf, ka 17 (by omega) (by omega) (by omega), ka 18 (by omega) (by omega) (by omega), ka 11 (by omega) (by omega) (by omega), ka 9 (by omega) (by omega) (by omega)]
      exact A
    · refine sA_kil (p := p) (q := q) (t := i) B q0 ⟨i0, by omega⟩ e12.symm k01 (fun a h1 h2 h3 _ => ka a h1 h2 h3) k13 (fun x j x0 x1 j0 j1 => ?_)
      rw [k13] at j1
      rw [k12]
      have u13 := (row_le B (by have := N2.2.1; omega) x x0 x1)
      by_cases hx : x = q
      · subst hx
        rw [if_pos rfl] at j1
        by_cases hj : i ≤ j
        · rw [if_pos (by omega), if_pos ⟨rfl, hj⟩, show 128 * x + j + 1 = 128 * x + (j + 1) by omega]
        · rw [if_neg (by omega), if_neg (by omega)]
      · rw [if_neg hx] at j1
        rw [if_neg (fun y => by omega), if_neg (fun y => hx y.1)]
  · unfold bS at *
    rw [ka 0 (by omega) (by omega) (by omega)]
    exact N3
  · exact bB_c N4 (fun a h1 h2 => ka a (by omega) (by omega) (by omega)) (by rw [ka 0 (by omega) (by omega) (by omega)])
  · exact bF_c N5 (fun a h1 h2 => ka a (by omega) (by omega) (by omega))
  · intro y y0 y1
    have g := N6 y y0 y1
    rw [ka 9 (by omega) (by omega) (by omega), k12]
    refine ⟨g.1, ?_⟩
    split
    · exact (N6 (y + 1) (by omega) (by omega)).2
    · exact g.2
  · intro x x0 x1 hl hk
    rw [k01] at hl
    rw [ka 2 (by omega) (by omega) (by omega)] at hk
    rw [ka 3 (by omega) (by omega) (by omega), ka 4 (by omega) (by omega) (by omega)]
    by_cases hx : x = p
    · rw [if_pos hx] at hl; omega
    · rw [if_neg hx] at hl
      exact N7 x x0 x1 hl hk
end Net11
