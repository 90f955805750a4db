/-! Where the packets and their flits are: a packet is sent, a packet is taken -/
section Net5
variable {R T : RS} {G E L E' L' G' : Int → Int} {n o c p : Int}
theorem nwA_sz {sz sz' cn hd gv rf rf' : Int → Int} {f : Int → Int → Int} (A : nwA sz cn f hd G gv rf) (hcn : ∀ x, 0 ≤ x → x < 90 → 0 ≤ cn x) (hz : ∀ b j, 0 ≤ b → b < 90 → 0 ≤ j → j < cn b → sz' (f b j / 8) = sz (f b j / 8)) (hr : ∀ q, 0 ≤ q → q < 18 → gv q ≠ 0 → rf' q = rf q) : nwA sz' cn f hd G gv rf' := by
  obtain ⟨a1, a2, a3, a4, a5, a6⟩ := A
  have hnx : ∀ b j, 0 ≤ b → b < 90 → 0 ≤ j → j < cn b → nx sz' (f b j) = nx sz (f b j) := by
    intro b j b0 b1 j0 j1
    unfold nx
    rw [hz b j b0 b1 j0 j1]
  have hlb : ∀ b, 0 ≤ b → b < 90 → lb sz' (cn b) (f b) (G b) := by
    intro b b0 b1
    refine ⟨(a1 b b0 b1).1, fun j j0 j1 => ?_⟩
    rw [hnx b j b0 b1 j0 (by omega)]
    exact (a1 b b0 b1).2 j j0 j1
  have heb : ∀ b, 0 ≤ b → b < 90 → eb sz' (cn b) (f b) (G b) = eb sz (cn b) (f b) (G b) := by
    intro b b0 b1
    have := hcn b b0 b1
    unfold eb
    split
    · rfl
    · exact hnx b _ b0 b1 (by omega) (by omega)
  refine ⟨hlb, fun n o c h hm => ?_, fun n c h => ?_, a4, a5, a6⟩
  · have t := om_tg h hm
    rw [heb _ t.1 t.2.1]
    exact a2 n o c h hm
  · have h' := h
    unfold rn at h'
    rw [heb _ (by omega) (by omega), a3 n c h]
    by_cases hg : gv (3 * n + c) = 0
    · rw [if_pos hg, if_pos hg]
    · rw [if_neg hg, if_neg hg, hr _ (by omega) (by omega) hg]
theorem sA_snd {q : Int} (A : sA R G E L) (hp : 0 ≤ p ∧ p < 128) (hL : R 1 p = 0) (hq : 0 ≤ q ∧ q < 18) (k : ∀ a x, 1 ≤ a → a ≤ 8 → x ≠ p → T a x = R a x) (k2 : ∀ a, 11 ≤ a → T a = R a) (k0 : T 0 1 = R 0 1 ∧ T 0 38 = R 0 38 + 1 ∧ T 0 39 = R 0 39)
    (t1 : T 1 p = 1) (t2 : nCh (T 2 p) = q % 3) (hz1 : 1 ≤ nSz T p) (e10 : ∀ x, T 10 x = if x = q then R 10 x + 1 else R 10 x) (e9 : ∀ x i, 0 ≤ x → x < 18 → 0 ≤ i → i < T 10 x → T 9 (128 * x + i) = if x = q ∧ i = R 10 x then p else R 9 (128 * x + i))
    (eE : ∀ x, E' x = if x = p then 0 else E x) (eL : ∀ x, L' x = if x = p then q else L x) : sA T G E' L' := by
  obtain ⟨a1, a2, a3, a4, a5, a6, a7, a8, a9⟩ := A
  have hz : ∀ x, x ≠ p → nSz T x = nSz R x := by
    intro x hx
    unfold nSz
    rw [k 2 x (by omega) (by omega) hx, k0.1]
  have hfc : fc T = fc R := by
    funext b j
    unfold fc
    rw [k2 14 (by omega), k2 15 (by omega)]
  have live : ∀ x, R 1 x = 1 → x ≠ p := by
    intro x h g
    rw [g] at h
    omega
  refine ⟨fun b j b0 b1 j0 j1 => ?_, ?_, fun n' c' h' h0 => ?_, fun x i q0 q1 i0 i1 => ?_, fun x i i' q0 q1 i0 i1 i0' i1' e => ?_, fun x q0 q1 => ?_, fun x i q0 q1 i0 i1 => ?_, ?_, ?_⟩
  · rw [k2 17 (by omega)] at j1
    have o := a1 b j b0 b1 j0 j1
    rw [hfc]
    unfold okF at *
    have ne := live _ o.2.2.1
    rw [hz _ ne, k 1 _ (by omega) (by omega) ne, k 2 _ (by omega) (by omega) ne, eE, if_neg ne, eL, if_neg ne, k2 11 (by omega)]
    refine ⟨o.1, o.2.1, o.2.2.1, o.2.2.2.1, o.2.2.2.2.1, o.2.2.2.2.2.1, o.2.2.2.2.2.2.1, ?_⟩
    rcases o.2.2.2.2.2.2.2 with w | w
    · exact Or.inl w
    · have e1 : 0 < T 10 (L (fc R b j / 8)) := by
        rw [e10]
        split <;> omega
      refine Or.inr ⟨w.1, w.2.1, e1, ?_, w.2.2.2.2⟩
      have := e9 (L (fc R b j / 8)) 0 w.1 w.2.1 (by omega) e1
      rw [if_neg (by omega), Int.add_zero] at this
      rw [this]
      exact w.2.2.2.1
  · unfold sA2 at *
    rw [hfc, k2 17 (by omega)]
    exact a2
  · rw [k2 18 (by omega)] at h0 ⊢
    have o := a3 n' c' h' h0
    unfold okO at *
    have ne := live _ o.2.2.1
    rw [k 1 _ (by omega) (by omega) ne, k 2 _ (by omega) (by omega) ne, k 4 _ (by omega) (by omega) ne, eE, if_neg ne, eL, if_neg ne]
    exact o
  · rw [e9 x i q0 q1 i0 i1]
    rw [e10] at i1
    unfold okW
    by_cases g : x = q ∧ i = R 10 x
    · rw [if_pos g, t1, eL, if_pos rfl, eE, if_pos rfl]
      have o6 := a6 x q0 q1
      refine ⟨hp.1, hp.2, rfl, g.1.symm, by rw [t2, g.1], by omega, ?_⟩
      rw [k2 11 (by omega)]
      split
      · have := o6.2.2 (by omega)
        omega
      · omega
    · rw [if_neg g]
      have o := a4 x i q0 q1 i0 (by split at i1 <;> omega)
      unfold okW at o
      have ne := live _ o.2.2.1
      rw [k 1 _ (by omega) (by omega) ne, k 2 _ (by omega) (by omega) ne, eE, if_neg ne, eL, if_neg ne, k2 11 (by omega)]
      exact o
  · rw [e9 x i q0 q1 i0 i1, e9 x i' q0 q1 i0' i1'] at e
    rw [e10] at i1 i1'
    have key : ∀ i, 0 ≤ i → i < R 10 x → R 9 (128 * x + i) ≠ p := by
      intro i i0 i1
      have o := a4 x i q0 q1 i0 i1
      exact live _ o.2.2.1
    by_cases g : x = q ∧ i = R 10 x
    · by_cases g' : x = q ∧ i' = R 10 x
      · omega
      · rw [if_pos g, if_neg g'] at e
        exact absurd e.symm (key i' i0' (by split at i1' <;> omega))
    · by_cases g' : x = q ∧ i' = R 10 x
      · rw [if_neg g, if_pos g'] at e
        exact absurd e (key i i0 (by split at i1 <;> omega))
      · rw [if_neg g, if_neg g'] at e
        exact a5 x i i' q0 q1 i0 (by split at i1 <;> omega) i0' (by split at i1' <;> omega) e
  · have o := a6 x q0 q1
    rw [k2 11 (by omega), e10]
    by_cases g : x = q
    · rw [if_pos g]
      refine ⟨by omega, fun _ => ?_, fun w => by omega⟩
      have := e9 x 0 q0 q1 (by omega) (by rw [e10, if_pos g]; omega)
      rw [Int.add_zero] at this
      rw [this]
      by_cases h0 : R 10 x = 0
      · rw [if_pos ⟨g, h0.symm⟩]
        have := o.2.2 h0
        omega
      · rw [if_neg (by omega)]
        have o2 := o.2.1 (by omega)
        have o4 := a4 x 0 q0 q1 (by omega) (by omega)
        rw [Int.add_zero] at o4
        rw [hz _ (live _ o4.2.2.1)]
        exact o2
    · rw [if_neg g]
      refine ⟨o.1, fun w => ?_, o.2.2⟩
      have := e9 x 0 q0 q1 (by omega) (by rw [e10, if_neg g]; exact w)
      rw [Int.add_zero, if_neg (fun u => g u.1)] at this
      rw [this]
      have o4 := a4 x 0 q0 q1 (by omega) w
      rw [Int.add_zero] at o4
      rw [hz _ (live _ o4.2.2.1)]
      exact o.2.1 w
  · rw [k2 13 (by omega)] at i1
    have o := a7 x i q0 q1 i0 i1
    unfold okX at *
    have ne := live _ o.2.2.1
    rw [k2 12 (by omega), k 1 _ (by omega) (by omega) ne, k 2 _ (by omega) (by omega) ne, k 4 _ (by omega) (by omega) ne, eL, if_neg ne]
    exact o
  · unfold sA8 at *
    rw [k2 12 (by omega), k2 13 (by omega)]
    exact a8
  · have up : ∀ w, nLc T L' w = nLc R L w + w q := by
      intro w
      have := nLc_up (R := R) (T := T) (L := L) (L' := L') (w := w) hp.1 hp.2 (fun y hy => k 1 y (by omega) (by omega) hy) (fun y hy => by rw [eL, if_neg hy])
      rw [if_neg (by omega), if_pos t1, eL p, if_pos rfl, Nat.add_zero] at this
      exact this
    refine ⟨fun x q0 q1 => ?_, ?_⟩
    · have o := a9.1 x q0 q1
      have u1 := up (wq x)
      have u2 := up (wq (19 + x))
      unfold wq at u1 u2 o ⊢
      rw [k2 13 (by omega), e10]
      rw [if_neg (by omega)] at u2
      by_cases g : x = q
      · rw [if_pos g.symm] at u1
        rw [if_pos g]
        omega
      · rw [if_neg (fun w => g w.symm)] at u1
        rw [if_neg g]
        omega
    · have u1 := up wn
      unfold wn at u1
      rw [if_pos (by omega)] at u1
      rw [k0.2.1, k0.2.2]
      have := a9.2
      unfold wn at this ⊢
      omega
-- a packet is taken out of an inbox
theorem sA_kil {q t : Int} (A : sA R G E L) (hq : 0 ≤ q ∧ q < 18) (ht : 0 ≤ t ∧ t < R 13 q) (hp : p = R 12 (128 * q + t)) (e1 : ∀ x, T 1 x = if x = p then 0 else R 1 x) (k : ∀ a, a ≠ 1 → a ≠ 12 → a ≠ 13 → a < 20 → T a = R a) (e13 : ∀ x, T 13 x = if x = q then R 13 x - 1 else R 13 x)
    (e12 : ∀ x i, 0 ≤ x → x < 18 → 0 ≤ i → i < T 13 x → T 12 (128 * x + i) = if x = q ∧ t ≤ i then R 12 (128 * x + (i + 1)) else R 12 (128 * x + i)) : sA T G E L := by
  obtain ⟨a1, a2, a3, a4, a5, a6, a7, a8, a9⟩ := A
  have o7 := a7 q t hq.1 hq.2 ht.1 ht.2
  rw [← hp] at o7
  unfold okX at o7
  have hz : nSz T = nSz R := nSz_c (by rw [k 0 (by omega) (by omega) (by omega) (by omega)]) (k 2 (by omega) (by omega) (by omega) (by omega))
  have hfc : fc T = fc R := by
    funext b j
    unfold fc
    rw [k 14 (by omega) (by omega) (by omega) (by omega), k 15 (by omega) (by omega) (by omega) (by omega)]
  refine ⟨fun b j b0 b1 j0 j1 => ?_, ?_, fun n' c' h' h0 => ?_, fun x i q0 q1 i0 i1 => ?_, ?_, ?_, fun x i q0 q1 i0 i1 => ?_, fun x i i' q0 q1 i0 i1 i0' i1' e => ?_, ?_⟩
  · rw [k 17 (by omega) (by omega) (by omega) (by omega)] at j1
    have o := a1 b j b0 b1 j0 j1
    rw [hfc]
    unfold okF at *
    have ne : fc R b j / 8 ≠ p := by
      intro g
      rw [g] at o
      omega
    rw [hz, e1, if_neg ne, k 2 (by omega) (by omega) (by omega) (by omega), k 9 (by omega) (by omega) (by omega) (by omega), k 10 (by omega) (by omega) (by omega) (by omega), k 11 (by omega) (by omega) (by omega) (by omega)]
    exact o
  · unfold sA2 at *
    rw [hfc, k 17 (by omega) (by omega) (by omega) (by omega)]
    exact a2
  · rw [k 18 (by omega) (by omega) (by omega) (by omega)] at h0 ⊢
    have o := a3 n' c' h' h0
    unfold okO at *
    have ne : G (15 * n' + 3 * R 18 (15 * n' + 12 + c') + c') / 8 ≠ p := by
      intro g
      rw [g] at o
      omega
    rw [e1, if_neg ne, k 2 (by omega) (by omega) (by omega) (by omega), k 4 (by omega) (by omega) (by omega) (by omega)]
    exact o
  · rw [k 10 (by omega) (by omega) (by omega) (by omega)] at i1
    have o := a4 x i q0 q1 i0 i1
    unfold okW at *
    have ne : R 9 (128 * x + i) ≠ p := by
      intro g
      rw [g] at o
      omega
    rw [k 9 (by omega) (by omega) (by omega) (by omega), e1, if_neg ne, k 2 (by omega) (by omega) (by omega) (by omega), k 11 (by omega) (by omega) (by omega) (by omega)]
    exact o
  · unfold sA5 at *
    rw [k 9 (by omega) (by omega) (by omega) (by omega), k 10 (by omega) (by omega) (by omega) (by omega)]
    exact a5
  · unfold sA6 at *
    rw [hz, k 9 (by omega) (by omega) (by omega) (by omega), k 10 (by omega) (by omega) (by omega) (by omega), k 11 (by omega) (by omega) (by omega) (by omega)]
    exact a6
  · rw [e12 x i q0 q1 i0 i1]
    rw [e13] at i1
    unfold okX
    rw [k 2 (by omega) (by omega) (by omega) (by omega), k 4 (by omega) (by omega) (by omega) (by omega)]
    by_cases g : x = q ∧ t ≤ i
    · rw [if_pos g]
      rw [if_pos g.1] at i1
      have o := a7 x (i + 1) q0 q1 (by omega) (by omega)
      have ne : R 12 (128 * x + (i + 1)) ≠ p := by
        intro w
        rw [hp, g.1] at w
        have := a8 q (i + 1) t hq.1 hq.2 (by omega) (by rw [← g.1]; omega) ht.1 ht.2 w
        omega
      rw [e1, if_neg ne]
      exact o
    · rw [if_neg g]
      have i2 : i < R 13 x := by split at i1 <;> omega
      have o := a7 x i q0 q1 i0 i2
      have ne : R 12 (128 * x + i) ≠ p := by
        intro w
        by_cases hx : x = q
        · rw [hp, hx] at w
          have := a8 q i t hq.1 hq.2 i0 (by rw [← hx]; exact i2) ht.1 ht.2 w
          exact g ⟨hx, by omega⟩
        · unfold okX at o
          rw [w] at o
          omega
      rw [e1, if_neg ne]
      exact o
  · rw [e12 x i q0 q1 i0 i1, e12 x i' q0 q1 i0' i1'] at e
    rw [e13] at i1 i1'
    by_cases hx : x = q
    · rw [if_pos hx] at i1 i1'
      by_cases g : t ≤ i <;> by_cases g' : t ≤ i'
      · rw [if_pos ⟨hx, g⟩, if_pos ⟨hx, g'⟩] at e
        have := a8 x _ _ q0 q1 (by omega) (by omega) (by omega) (by omega) e
        omega
      · rw [if_pos ⟨hx, g⟩, if_neg (fun w => g' w.2)] at e
        have := a8 x _ _ q0 q1 (by omega) (by omega) (by omega) (by omega) e
        omega
      · rw [if_neg (fun w => g w.2), if_pos ⟨hx, g'⟩] at e
        have := a8 x _ _ q0 q1 (by omega) (by omega) (by omega) (by omega) e
        omega
      · rw [if_neg (fun w => g w.2), if_neg (fun w => g' w.2)] at e
        exact a8 x _ _ q0 q1 (by omega) (by omega) (by omega) (by omega) e
    · rw [if_neg hx] at i1 i1'
      rw [if_neg (fun w => hx w.1), if_neg (fun w => hx w.1)] at e
      exact a8 x _ _ q0 q1 i0 i1 i0' i1' e
  · have up : ∀ w, nLc T L w + w (19 + q) = nLc R L w := by
      intro w
      have := nLc_up (R := R) (T := T) (L := L) (L' := L) (w := w) o7.1 o7.2.1 (fun y hy => by rw [e1, if_neg hy]) (fun y hy => rfl)
      rw [if_pos o7.2.2.1, e1 p, if_pos rfl, if_neg (by omega), o7.2.2.2.1, Nat.add_zero] at this
      exact this
    refine ⟨fun x q0 q1 => ?_, ?_⟩
    · have o := a9.1 x q0 q1
      have u1 := up (wq x)
      have u2 := up (wq (19 + x))
      unfold wq at u1 u2 o ⊢
      rw [k 10 (by omega) (by omega) (by omega) (by omega), e13]
      rw [if_neg (by omega)] at u1
      by_cases g : x = q
      · rw [if_pos (by omega)] at u2
        rw [if_pos g]
        omega
      · rw [if_neg (by omega)] at u2
        rw [if_neg g]
        omega
    · have u1 := up wn
      unfold wn at u1
      rw [if_neg (by omega)] at u1
      rw [k 0 (by omega) (by omega) (by omega) (by omega)]
      have := a9.2
      unfold wn at this ⊢
      omega
end Net5
