/-! Where the packets and their flits are: the other steps -/
section Net3
variable {R T : RS} {G E L E' L' G' : Int → Int}
-- a packet's last flit enters
theorem sA_in2 {n c p : Int} (A : sA R G E L) (h : rn n 4 c) (hr : 0 < R 10 (3 * n + c)) (hc : 0 ≤ R 17 (15 * n + 12 + c)) (hp : p = R 9 (128 * (3 * n + c))) (hl : R 11 (3 * n + c) + 1 = nSz R p)
    (k : ∀ a, a ≠ 9 ∧ a ≠ 10 ∧ a ≠ 11 ∧ a ≠ 14 ∧ a ≠ 15 ∧ a ≠ 16 ∧ a ≠ 17 → T a = R a) (e11 : ∀ q, T 11 q = if q = 3 * n + c then 0 else R 11 q) (e10 : ∀ q, T 10 q = if q = 3 * n + c then R 10 q - 1 else R 10 q) (e9 : ∀ q i, 0 ≤ q → q < 18 → 0 ≤ i → i < T 10 q → T 9 (128 * q + i) = if q = 3 * n + c then R 9 (128 * q + (i + 1)) else R 9 (128 * q + i)) (e17 : ∀ x, T 17 x = if x = 15 * n + 12 + c then R 17 x + 1 else R 17 x)
    (ef : ∀ x j, 0 ≤ x → x < 90 → 0 ≤ j → j < T 17 x → fc T x j = if x = 15 * n + 12 + c ∧ j = R 17 x then 8 * p + R 11 (3 * n + c) else fc R x j) (h5 : nSz R p ≤ 5) (hz1 : ∀ x, 1 ≤ nSz R x)
    (eL : ∀ x, L' x = if x = p then 18 else L x) : sA T G E L' := by
  obtain ⟨a1, a2, a3, a4, a5, a6, a7, a8, a9⟩ := A
  have hr0 := h
  unfold rn at hr0
  have hz : nSz T = nSz R := nSz_c (by rw [k 0 (by omega)]) (k 2 (by omega))
  have r0 := a4 (3 * n + c) 0 (by omega) (by omega) (by omega) hr
  rw [Int.add_zero, ← hp] at r0
  obtain ⟨p0, p1, p2, p3, p4, p5, p6⟩ := r0
  rw [if_pos rfl] at p6
  have r6 := (a6 (3 * n + c) (by omega) (by omega)).2.1 hr
  have x8 : (8 * p + R 11 (3 * n + c)) / 8 = p := by omega
  have x7 : (8 * p + R 11 (3 * n + c)) % 8 = R 11 (3 * n + c) := by omega
  refine ⟨fun b j b0 b1 j0 j1 => ?_, fun b j b' j' b0 b1 j0 j1 b0' b1' j0' j1' e => ?_, ?_, ?_, ?_, ?_, ?_, ?_, ?_⟩
  · rw [ef b j b0 b1 j0 j1]
    rw [e17] at j1
    unfold okF
    rw [hz, k 1 (by omega), k 2 (by omega)]
    by_cases hx : b = 15 * n + 12 + c ∧ j = R 17 b
    · rw [if_pos hx, x8, x7]
      exact ⟨by omega, p1, p2, by omega, p5, p6, by omega, Or.inl (by rw [eL, if_pos rfl])⟩
    · rw [if_neg hx]
      have o := a1 b j b0 b1 j0 (by split at j1 <;> omega)
      unfold okF at o
      refine ⟨o.1, o.2.1, o.2.2.1, o.2.2.2.1, o.2.2.2.2.1, o.2.2.2.2.2.1, o.2.2.2.2.2.2.1, ?_⟩
      by_cases hpp : fc R b j / 8 = p
      · exact Or.inl (by rw [eL, if_pos hpp])
      rw [eL, if_neg hpp]
      rcases o.2.2.2.2.2.2.2 with w | w
      · exact Or.inl w
      · have hq : L (fc R b j / 8) ≠ 3 * n + c := by
          intro hq
          rw [hq] at w
          omega
        refine Or.inr ⟨w.1, w.2.1, ?_, ?_, ?_⟩
        · rw [e10, if_neg hq]; exact w.2.2.1
        · have := e9 (L (fc R b j / 8)) 0 w.1 w.2.1 (by omega) (by rw [e10, if_neg hq]; exact w.2.2.1)
          rw [if_neg hq, Int.add_zero] at this
          rw [this]
          exact w.2.2.2.1
        · rw [e11, if_neg hq]; exact w.2.2.2.2
  · rw [ef b j b0 b1 j0 j1, ef b' j' b0' b1' j0' j1'] at e
    rw [e17] at j1 j1'
    by_cases hx : b = 15 * n + 12 + c ∧ j = R 17 b
    · by_cases hx' : b' = 15 * n + 12 + c ∧ j' = R 17 b'
      · refine ⟨by omega, ?_⟩
        rw [hx.2, hx'.2, hx.1, hx'.1]
      · rw [if_pos hx, if_neg hx'] at e
        exfalso
        have o := a1 b' j' b0' b1' j0' (by split at j1' <;> omega)
        unfold okF at o
        rw [← e, x8, x7, p3] at o
        rcases o.2.2.2.2.2.2.2 with w | w <;> omega
    · by_cases hx' : b' = 15 * n + 12 + c ∧ j' = R 17 b'
      · rw [if_neg hx, if_pos hx'] at e
        exfalso
        have o := a1 b j b0 b1 j0 (by split at j1 <;> omega)
        unfold okF at o
        rw [e, x8, x7, p3] at o
        rcases o.2.2.2.2.2.2.2 with w | w <;> omega
      · rw [if_neg hx, if_neg hx'] at e
        exact a2 b j b' j' b0 b1 j0 (by split at j1 <;> omega) b0' b1' j0' (by split at j1' <;> omega) e
  · intro n' c' h' h0
    rw [k 18 (by omega)] at h0 ⊢
    have o := a3 n' c' h' h0
    unfold okO at *
    rw [k 1 (by omega), k 2 (by omega), k 4 (by omega)]
    refine ⟨o.1, o.2.1, o.2.2.1, o.2.2.2.1, o.2.2.2.2.1, o.2.2.2.2.2.1, ?_⟩
    rw [eL]
    split
    · omega
    · exact o.2.2.2.2.2.2
  · intro q i q0 q1 i0 i1
    rw [e9 q i q0 q1 i0 i1]
    rw [e10] at i1
    unfold okW
    rw [k 1 (by omega), k 2 (by omega)]
    by_cases hq : q = 3 * n + c
    · rw [if_pos hq] at i1 ⊢
      have o := a4 q (i + 1) q0 q1 (by omega) (by omega)
      unfold okW at o
      have hne : R 9 (128 * q + (i + 1)) ≠ p := by
        intro g
        have := a5 q (i + 1) 0 q0 q1 (by omega) (by omega) (by omega) (by omega) (by rw [g, hp, hq, Int.add_zero])
        omega
      rw [if_neg (by omega)] at o
      refine ⟨o.1, o.2.1, o.2.2.1, ?_, o.2.2.2.2.1, o.2.2.2.2.2.1, ?_⟩
      · rw [eL, if_neg hne]; exact o.2.2.2.1
      · rw [e11, if_pos hq]
        split <;> exact o.2.2.2.2.2.2
    · rw [if_neg hq] at i1 ⊢
      have o := a4 q i q0 q1 i0 i1
      unfold okW at o
      have hne : R 9 (128 * q + i) ≠ p := by
        intro g
        rw [g] at o
        omega
      rw [eL, if_neg hne, e11, if_neg hq]
      exact o
  · intro q i i' q0 q1 i0 i1 i0' i1' e
    rw [e9 q i q0 q1 i0 i1, e9 q i' q0 q1 i0' i1'] at e
    rw [e10] at i1 i1'
    by_cases hq : q = 3 * n + c
    · rw [if_pos hq] at i1 i1'
      rw [if_pos hq, if_pos hq] at e
      have := a5 q (i + 1) (i' + 1) q0 q1 (by omega) (by omega) (by omega) (by omega) e
      omega
    · rw [if_neg hq] at i1 i1'
      rw [if_neg hq, if_neg hq] at e
      exact a5 q i i' q0 q1 i0 i1 i0' i1' e
  · intro q q0 q1
    have o := a6 q q0 q1
    rw [hz, e10, e11]
    by_cases hq : q = 3 * n + c
    · rw [if_pos hq, if_pos hq]
      rw [hq] at o ⊢
      refine ⟨by omega, fun _ => ⟨by omega, ?_⟩, fun _ => rfl⟩
      have := hz1 (T 9 (128 * (3 * n + c)))
      omega
    · rw [if_neg hq, if_neg hq]
      refine ⟨o.1, fun g => ?_, o.2.2⟩
      have := e9 q 0 q0 q1 (by omega) (by rw [e10, if_neg hq]; exact g)
      rw [if_neg hq, Int.add_zero] at this
      rw [this]
      exact o.2.1 g
  · intro q i q0 q1 i0 i1
    rw [k 13 (by omega)] at i1
    have o := a7 q i q0 q1 i0 i1
    unfold okX at *
    rw [k 12 (by omega), k 1 (by omega), k 2 (by omega), k 4 (by omega)]
    have hne : R 12 (128 * q + i) ≠ p := by
      intro g
      rw [g] at o
      omega
    rw [eL, if_neg hne]
    exact o
  · unfold sA8 at *
    rw [k 12 (by omega), k 13 (by omega)]
    exact a8
  · have up : ∀ w, nLc T L' w + w (L p) = nLc R L w + w 18 := by
      intro w
      have := nLc_up (R := R) (T := T) (L := L) (L' := L') (w := w) p0 p1 (fun x _ => by rw [k 1 (by omega)]) (fun x hx => by rw [eL, if_neg hx])
      rw [k 1 (by omega), if_pos p2, if_pos p2, eL p, if_pos rfl] at this
      exact this
    refine ⟨fun q q0 q1 => ?_, ?_⟩
    · have o := a9.1 q q0 q1
      have u1 := up (wq q)
      have u2 := up (wq (19 + q))
      rw [p3] at u1 u2
      unfold wq at u1 u2 o ⊢
      rw [k 13 (by omega), e10]
      rw [if_neg (by omega : ¬(18 : Int) = q)] at u1
      rw [if_neg (by omega), if_neg (by omega)] at u2
      by_cases hq : q = 3 * n + c
      · rw [if_pos hq.symm] at u1
        rw [if_pos hq]
        omega
      · rw [if_neg (fun g => hq g.symm)] at u1
        rw [if_neg hq]
        omega
    · have u1 := up wn
      rw [p3] at u1
      unfold wn at u1
      rw [if_pos (by omega), if_pos (by omega)] at u1
      rw [k 0 (by omega)]
      have := a9.2
      unfold wn at this ⊢
      omega
end Net3
