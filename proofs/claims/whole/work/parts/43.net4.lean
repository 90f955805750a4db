/-! Where the packets and their flits are: a flit moves -/
section Net4
variable {R T : RS} {G E L E' L' G' : Int → Int} {n o c p : Int}
theorem nwA_uni {sz cn hd gv rf : Int → Int} {f : Int → Int → Int} (A : nwA sz cn f hd G gv rf) (h : rn n o c) (hp : 0 ≤ p ∧ p ≤ 4) (hc : 0 < cn (15 * n + 3 * p + c))
    (hs : hd (15 * n + 3 * o + c) = p ∨ (hd (15 * n + 3 * o + c) < 0 ∧ f (15 * n + 3 * p + c) 0 % 8 = 0)) : ∀ n' o' c', rn n' o' c' → 0 ≤ hd (15 * n' + 3 * o' + c') → 15 * n' + 3 * hd (15 * n' + 3 * o' + c') + c' = 15 * n + 3 * p + c → n' = n ∧ o' = o ∧ c' = c := by
  obtain ⟨a1, a2, a3, a4, a5, a6⟩ := A
  have hr := h
  unfold rn at hr
  have hb0 : 0 ≤ 15 * n + 3 * p + c ∧ 15 * n + 3 * p + c < 90 := by omega
  have hL0 := (a1 _ hb0.1 hb0.2).1 hc
  intro n' o' c' h' h0 he
  have q4 := a4 n' o' c' h' h0
  have hr' := h'
  unfold rn at hr'
  have w : n' = n ∧ c' = c ∧ hd (15 * n' + 3 * o' + c') = p := by omega
  obtain ⟨w1, w2, w3⟩ := w
  subst w1 w2
  refine ⟨rfl, ?_, rfl⟩
  rcases hs with hs | hs
  · exact (a5 n' o o' c' h h' (by omega) (by omega)).symm
  · exfalso
    rw [w3] at q4
    have q6 := a6 _ hb0.1 hb0.2 q4.2.1
    have := hL0.2 q4.2.1
    omega
def mv17 (R T : RS) (n o c p : Int) : Prop := ∀ x, T 17 x = if x = 15 * n + 3 * p + c then R 17 x - 1 else if o ≠ 4 ∧ x = nTg n o c then R 17 x + 1 else R 17 x
def mvf (R T : RS) (n o c p : Int) : Prop := ∀ x j, 0 ≤ x → x < 90 → 0 ≤ j → j < T 17 x → fc T x j = if x = 15 * n + 3 * p + c then fc R x (j + 1) else if (o ≠ 4 ∧ x = nTg n o c) ∧ j = R 17 x then fc R (15 * n + 3 * p + c) 0 else fc R x j
theorem mv_sl (h : rn n o c) (ho : o = 4 ∨ om n o) (hp : 0 ≤ p ∧ p ≤ 4) (hc : 0 < R 17 (15 * n + 3 * p + c)) (e17 : mv17 R T n o c p) (ef : mvf R T n o c p) :
    ∀ x j, 0 ≤ x → x < 90 → 0 ≤ j → j < T 17 x → ∃ y i, 0 ≤ y ∧ y < 90 ∧ 0 ≤ i ∧ i < R 17 y ∧ fc T x j = fc R y i ∧ y % 3 = x % 3 ∧ ((x = 15 * n + 3 * p + c ∧ y = 15 * n + 3 * p + c ∧ i = j + 1) ∨ (x ≠ 15 * n + 3 * p + c ∧ (o ≠ 4 ∧ x = nTg n o c) ∧ j = R 17 x ∧ y = 15 * n + 3 * p + c ∧ i = 0) ∨ (x ≠ 15 * n + 3 * p + c ∧ ¬((o ≠ 4 ∧ x = nTg n o c) ∧ j = R 17 x) ∧ y = x ∧ i = j)) := by
  intro x j x0 x1 j0 j1
  have hr := h
  unfold rn at hr
  have e := ef x j x0 x1 j0 j1
  rw [e17] at j1
  by_cases g1 : x = 15 * n + 3 * p + c
  · rw [if_pos g1] at e j1
    rw [g1] at e j1 ⊢
    exact ⟨15 * n + 3 * p + c, j + 1, by omega, by omega, by omega, by omega, e, rfl, Or.inl ⟨rfl, rfl, rfl⟩⟩
  · rw [if_neg g1] at e j1
    by_cases g2 : (o ≠ 4 ∧ x = nTg n o c) ∧ j = R 17 x
    · rw [if_pos g2] at e
      have t := om_tg h (ho.resolve_left g2.1.1)
      exact ⟨15 * n + 3 * p + c, 0, by omega, by omega, by omega, hc, e, by rw [g2.1.2, t.2.2.1]; omega, Or.inr (Or.inl ⟨g1, g2.1, g2.2, rfl, rfl⟩)⟩
    · rw [if_neg g2] at e
      refine ⟨x, j, x0, x1, j0, ?_, e, rfl, Or.inr (Or.inr ⟨g1, g2, rfl, rfl⟩)⟩
      by_cases g3 : o ≠ 4 ∧ x = nTg n o c
      · rw [if_pos g3] at j1
        have : j ≠ R 17 x := fun g => g2 ⟨g3, g⟩
        omega
      · rw [if_neg g3] at j1
        exact j1
theorem mv_A2 (h : rn n o c) (ho : o = 4 ∨ om n o) (hp : 0 ≤ p ∧ p ≤ 4) (hc : 0 < R 17 (15 * n + 3 * p + c)) (e17 : mv17 R T n o c p) (ef : mvf R T n o c p) (a2 : sA2 R) : sA2 T := by
  intro b j b' j' b0 b1 j0 j1 b0' b1' j0' j1' e
  obtain ⟨y, i, y0, y1, i0, i1, q1, q2, q3⟩ := mv_sl h ho hp hc e17 ef b j b0 b1 j0 j1
  obtain ⟨y', i', y0', y1', i0', i1', q1', q2', q3'⟩ := mv_sl h ho hp hc e17 ef b' j' b0' b1' j0' j1'
  have w := a2 y i y' i' y0 y1 i0 i1 y0' y1' i0' i1' (by rw [← q1, ← q1', e])
  rcases q3 with q3 | q3 | q3 <;> rcases q3' with q3' | q3' | q3'
  · omega
  · omega
  · omega
  · omega
  · refine ⟨by rw [q3.2.1.2, q3'.2.1.2], ?_⟩
    rw [q3.2.2.1, q3'.2.2.1, q3.2.1.2, q3'.2.1.2]
  · omega
  · omega
  · omega
  · omega
-- over a link
theorem sA_mv (A : sA R G E L) (h : rn n o c) (ho4 : o ≠ 4) (ho : om n o) (hp : 0 ≤ p ∧ p ≤ 4) (hc : 0 < R 17 (15 * n + 3 * p + c)) (e17 : mv17 R T n o c p) (ef : mvf R T n o c p)
    (uni : ∀ n' o' c', rn n' o' c' → 0 ≤ R 18 (15 * n' + 3 * o' + c') → 15 * n' + 3 * R 18 (15 * n' + 3 * o' + c') + c' = 15 * n + 3 * p + c → n' = n ∧ o' = o ∧ c' = c)
    (k : ∀ a, a ≠ 0 → (a < 14 ∨ 19 < a) → T a = R a) (k0 : T 0 1 = R 0 1 ∧ T 0 38 = R 0 38 ∧ T 0 39 = R 0 39) (e18 : ∀ x, x ≠ 15 * n + 3 * o + c → T 18 x = R 18 x) (eG : ∀ x, x ≠ 15 * n + 3 * p + c → G' x = G x) : sA T G' E L := by
  obtain ⟨a1, a2, a3, a4, a5, a6, a7, a8, a9⟩ := A
  have hr := h
  unfold rn at hr
  have hz : nSz T = nSz R := nSz_c k0.1 (k 2 (by omega) (by omega))
  refine ⟨fun b j b0 b1 j0 j1 => ?_, mv_A2 h (Or.inr ho) hp hc e17 ef a2, fun n' c' h' h0 => ?_, ?_, ?_, ?_, ?_, ?_, ?_⟩
  · obtain ⟨y, i, y0, y1, i0, i1, q1, q2, q3⟩ := mv_sl h (Or.inr ho) hp hc e17 ef b j b0 b1 j0 j1
    have o := a1 y i y0 y1 i0 i1
    rw [q1]
    unfold okF at *
    rw [hz, k 1 (by omega) (by omega), k 2 (by omega) (by omega), k 9 (by omega) (by omega), k 10 (by omega) (by omega), k 11 (by omega) (by omega), ← q2]
    exact o
  · have hr' := h'
    unfold rn at hr'
    rw [e18 _ (by omega)] at h0 ⊢
    have o := a3 n' c' h' h0
    have hne : 15 * n' + 3 * R 18 (15 * n' + 12 + c') + c' ≠ 15 * n + 3 * p + c := by
      intro g
      have := uni n' 4 c' h' h0 g
      omega
    rw [eG _ hne]
    unfold okO at *
    rw [k 1 (by omega) (by omega), k 2 (by omega) (by omega), k 4 (by omega) (by omega)]
    exact o
  · unfold sA4 okW at *
    rw [k 1 (by omega) (by omega), k 2 (by omega) (by omega), k 9 (by omega) (by omega), k 10 (by omega) (by omega), k 11 (by omega) (by omega)]
    exact a4
  · unfold sA5 at *
    rw [k 9 (by omega) (by omega), k 10 (by omega) (by omega)]
    exact a5
  · unfold sA6 at *
    rw [hz, k 9 (by omega) (by omega), k 10 (by omega) (by omega), k 11 (by omega) (by omega)]
    exact a6
  · unfold sA7 okX at *
    rw [k 12 (by omega) (by omega), k 13 (by omega) (by omega), k 1 (by omega) (by omega), k 2 (by omega) (by omega), k 4 (by omega) (by omega)]
    exact a7
  · unfold sA8 at *
    rw [k 12 (by omega) (by omega), k 13 (by omega) (by omega)]
    exact a8
  · unfold sA9 nLc at *
    rw [k 10 (by omega) (by omega), k 13 (by omega) (by omega), k 1 (by omega) (by omega), k0.2.1, k0.2.2]
    exact a9
-- out of the mesh: what both cases share
theorem ex_f (A : sA R G E L) (h : rn n 4 c) (hp : 0 ≤ p ∧ p ≤ 4) (hc : 0 < R 17 (15 * n + 3 * p + c)) (hm : mt (G (15 * n + 3 * p + c)) (fc R (15 * n + 3 * p + c) 0)) (hg : R 18 (15 * n + 12 + c) = p → G (15 * n + 3 * p + c) ≠ -1)
    (hs : R 18 (15 * n + 12 + c) = p ∨ (R 18 (15 * n + 12 + c) < 0 ∧ fc R (15 * n + 3 * p + c) 0 % 8 = 0 ∧ R 4 (fc R (15 * n + 3 * p + c) 0 / 8) = n)) :
    E (fc R (15 * n + 3 * p + c) 0 / 8) = fc R (15 * n + 3 * p + c) 0 % 8 ∧ R 4 (fc R (15 * n + 3 * p + c) 0 / 8) = n ∧ nCh (R 2 (fc R (15 * n + 3 * p + c) 0 / 8)) = c := by
  obtain ⟨a1, a2, a3, a4, a5, a6, a7, a8, a9⟩ := A
  have hr := h
  unfold rn at hr
  have o := a1 (15 * n + 3 * p + c) 0 (by omega) (by omega) (by omega) hc
  unfold okF at o
  rcases hs with hs | hs
  · have o3 := a3 n c h (by omega)
    unfold okO at o3
    rw [hs, hm.2 (hg hs)] at o3
    exact ⟨o3.2.2.2.1, o3.2.2.2.2.1, o3.2.2.2.2.2.1⟩
  · exact ⟨by omega, hs.2.2, by omega⟩
-- a flit that is not its packet's last
theorem sA_ex1 {x : Int} (A : sA R G E L) (h : rn n 4 c) (hp : 0 ≤ p ∧ p ≤ 4) (hc : 0 < R 17 (15 * n + 3 * p + c)) (e17 : mv17 R T n 4 c p) (ef : mvf R T n 4 c p)
    (uni : ∀ n' o' c', rn n' o' c' → 0 ≤ R 18 (15 * n' + 3 * o' + c') → 15 * n' + 3 * R 18 (15 * n' + 3 * o' + c') + c' = 15 * n + 3 * p + c → n' = n ∧ o' = 4 ∧ c' = c)
    (hx : x = fc R (15 * n + 3 * p + c) 0) (hl : x % 8 + 1 ≠ nSz R (x / 8)) (h5 : nSz R (x / 8) ≤ 5) (f1 : E (x / 8) = x % 8) (f2 : R 4 (x / 8) = n) (f3 : nCh (R 2 (x / 8)) = c)
    (k : ∀ a, (a < 14 ∨ 19 < a) → T a = R a) (e18 : ∀ y, T 18 y = if y = 15 * n + 12 + c then p else R 18 y) (eG : ∀ y, G' y = if y = 15 * n + 3 * p + c then x + 1 else G y)
    (eE : ∀ y, E' y = if y = x / 8 then x % 8 + 1 else E y) : sA T G' E' L := by
  obtain ⟨a1, a2, a3, a4, a5, a6, a7, a8, a9⟩ := A
  have hr := h
  unfold rn at hr
  have hz : nSz T = nSz R := nSz_c (by rw [k 0 (by omega)]) (k 2 (by omega))
  have o0 := a1 (15 * n + 3 * p + c) 0 (by omega) (by omega) (by omega) hc
  rw [← hx] at o0
  unfold okF at o0
  refine ⟨fun b j b0 b1 j0 j1 => ?_, mv_A2 h (Or.inl rfl) hp hc e17 ef a2, fun n' c' h' h0 => ?_, fun q i q0 q1 i0 i1 => ?_, ?_, ?_, ?_, ?_, ?_⟩
  · obtain ⟨y, i, y0, y1, i0, i1, q1, q2, q3⟩ := mv_sl h (Or.inl rfl) hp hc e17 ef b j b0 b1 j0 j1
    have o := a1 y i y0 y1 i0 i1
    have ne : fc R y i ≠ x := by
      intro g
      have := a2 y i (15 * n + 3 * p + c) 0 y0 y1 i0 i1 (by omega) (by omega) (by omega) hc (by rw [g, hx])
      omega
    rw [q1]
    unfold okF at *
    rw [hz, k 1 (by omega), k 2 (by omega), k 9 (by omega), k 10 (by omega), k 11 (by omega), ← q2, eE]
    refine ⟨o.1, o.2.1, o.2.2.1, o.2.2.2.1, ?_, ?_, o.2.2.2.2.2.2⟩
    · split
      · omega
      · exact o.2.2.2.2.1
    · split
      · rename_i g
        rw [g] at o
        omega
      · exact o.2.2.2.2.2.1
  · have hr' := h'
    unfold rn at hr'
    by_cases hsame : n' = n ∧ c' = c
    · rw [hsame.1, hsame.2, e18, if_pos rfl, eG, if_pos rfl]
      unfold okO
      have d : (x + 1) / 8 = x / 8 ∧ (x + 1) % 8 = x % 8 + 1 := by omega
      rw [d.1, d.2, k 1 (by omega), k 2 (by omega), k 4 (by omega), eE, if_pos rfl]
      refine ⟨by omega, o0.2.1, o0.2.2.1, rfl, f2, f3, ?_, ?_⟩
      · rcases o0.2.2.2.2.2.2.2 with w | w <;> omega
      · rcases o0.2.2.2.2.2.2.2 with w | w <;> omega
    · have e : T 18 (15 * n' + 12 + c') = R 18 (15 * n' + 12 + c') := by rw [e18, if_neg (by omega)]
      rw [e] at h0 ⊢
      have o := a3 n' c' h' h0
      have hne : 15 * n' + 3 * R 18 (15 * n' + 12 + c') + c' ≠ 15 * n + 3 * p + c := by
        intro g
        have := uni n' 4 c' h' h0 g
        omega
      rw [eG, if_neg hne]
      unfold okO at *
      have hne2 : G (15 * n' + 3 * R 18 (15 * n' + 12 + c') + c') / 8 ≠ x / 8 := by
        intro g
        rw [g] at o
        omega
      rw [k 1 (by omega), k 2 (by omega), k 4 (by omega), eE, if_neg hne2]
      exact o
  · rw [k 10 (by omega)] at i1
    have o := a4 q i q0 q1 i0 i1
    unfold okW at *
    rw [k 1 (by omega), k 2 (by omega), k 9 (by omega), k 11 (by omega), eE]
    refine ⟨o.1, o.2.1, o.2.2.1, o.2.2.2.1, o.2.2.2.2.1, ?_, ?_⟩
    · split
      · omega
      · exact o.2.2.2.2.2.1
    · by_cases g : R 9 (128 * q + i) = x / 8
      · rw [if_pos g]
        rw [g] at o
        rw [o.2.2.2.1] at o0
        rcases o0.2.2.2.2.2.2.2 with w | w
        · omega
        · have hi : i = 0 := a5 q i 0 q0 q1 i0 i1 (by omega) (by omega) (by rw [g, Int.add_zero]; exact w.2.2.2.1)
          rw [if_pos hi]
          omega
      · rw [if_neg g]
        exact o.2.2.2.2.2.2
  · unfold sA5 at *
    rw [k 9 (by omega), k 10 (by omega)]
    exact a5
  · unfold sA6 at *
    rw [hz, k 9 (by omega), k 10 (by omega), k 11 (by omega)]
    exact a6
  · unfold sA7 okX at *
    rw [k 12 (by omega), k 13 (by omega), k 1 (by omega), k 2 (by omega), k 4 (by omega)]
    exact a7
  · unfold sA8 at *
    rw [k 12 (by omega), k 13 (by omega)]
    exact a8
  · unfold sA9 nLc at *
    rw [k 10 (by omega), k 13 (by omega), k 1 (by omega), k 0 (by omega)]
    exact a9
-- a packet's last flit
theorem sA_ex2 {x : Int} (A : sA R G E L) (h : rn n 4 c) (hp : 0 ≤ p ∧ p ≤ 4) (hc : 0 < R 17 (15 * n + 3 * p + c)) (e17 : mv17 R T n 4 c p) (ef : mvf R T n 4 c p)
    (uni : ∀ n' o' c', rn n' o' c' → 0 ≤ R 18 (15 * n' + 3 * o' + c') → 15 * n' + 3 * R 18 (15 * n' + 3 * o' + c') + c' = 15 * n + 3 * p + c → n' = n ∧ o' = 4 ∧ c' = c)
    (hx : x = fc R (15 * n + 3 * p + c) 0) (hl : x % 8 + 1 = nSz R (x / 8)) (f1 : E (x / 8) = x % 8) (f2 : R 4 (x / 8) = n) (f3 : nCh (R 2 (x / 8)) = c)
    (k : ∀ a, a ≠ 0 → a ≠ 12 → a ≠ 13 → (a < 14 ∨ 19 < a) → T a = R a) (k0 : T 0 1 = R 0 1 ∧ T 0 38 = R 0 38 ∧ T 0 39 = R 0 39 + 1) (e18 : ∀ y, T 18 y = if y = 15 * n + 12 + c then -1 else R 18 y) (eG : ∀ y, y ≠ 15 * n + 3 * p + c → G' y = G y)
    (e13 : ∀ q, T 13 q = if q = 3 * n + c then R 13 q + 1 else R 13 q) (e12 : ∀ q i, 0 ≤ q → q < 18 → 0 ≤ i → i < T 13 q → T 12 (128 * q + i) = if q = 3 * n + c ∧ i = R 13 q then x / 8 else R 12 (128 * q + i))
    (eE : ∀ y, E' y = if y = x / 8 then x % 8 + 1 else E y) (eL : ∀ y, L' y = if y = x / 8 then 19 + (3 * n + c) else L y) : sA T G' E' L' := by
  obtain ⟨a1, a2, a3, a4, a5, a6, a7, a8, a9⟩ := A
  have hr := h
  unfold rn at hr
  have hz : nSz T = nSz R := nSz_c k0.1 (k 2 (by omega) (by omega) (by omega) (by omega))
  have o0 := a1 (15 * n + 3 * p + c) 0 (by omega) (by omega) (by omega) hc
  rw [← hx] at o0
  unfold okF at o0
  have hL : L (x / 8) = 18 := by
    rcases o0.2.2.2.2.2.2.2 with w | w
    · exact w
    · have := (a6 (L (x / 8)) w.1 w.2.1).2.1 w.2.2.1
      rw [← w.2.2.2.1] at this
      omega
  refine ⟨fun b j b0 b1 j0 j1 => ?_, mv_A2 h (Or.inl rfl) hp hc e17 ef a2, fun n' c' h' h0 => ?_, fun q i q0 q1 i0 i1 => ?_, ?_, ?_, fun q i q0 q1 i0 i1 => ?_, fun q i i' q0 q1 i0 i1 i0' i1' e => ?_, ?_⟩
  · obtain ⟨y, i, y0, y1, i0, i1, q1, q2, q3⟩ := mv_sl h (Or.inl rfl) hp hc e17 ef b j b0 b1 j0 j1
    have o := a1 y i y0 y1 i0 i1
    have ne : fc R y i ≠ x := by
      intro g
      have := a2 y i (15 * n + 3 * p + c) 0 y0 y1 i0 i1 (by omega) (by omega) (by omega) hc (by rw [g, hx])
      omega
    rw [q1]
    unfold okF at *
    have ne2 : fc R y i / 8 ≠ x / 8 := by
      intro g
      rw [g] at o
      omega
    rw [hz, k 1 (by omega) (by omega) (by omega) (by omega), k 2 (by omega) (by omega) (by omega) (by omega), k 9 (by omega) (by omega) (by omega) (by omega), k 10 (by omega) (by omega) (by omega) (by omega), k 11 (by omega) (by omega) (by omega) (by omega), ← q2, eE, if_neg ne2, eL, if_neg ne2]
    exact o
  · have hr' := h'
    unfold rn at hr'
    by_cases hsame : n' = n ∧ c' = c
    · rw [hsame.1, hsame.2, e18, if_pos rfl] at h0
      omega
    · have e : T 18 (15 * n' + 12 + c') = R 18 (15 * n' + 12 + c') := by rw [e18, if_neg (by omega)]
      rw [e] at h0 ⊢
      have o := a3 n' c' h' h0
      have hne : 15 * n' + 3 * R 18 (15 * n' + 12 + c') + c' ≠ 15 * n + 3 * p + c := by
        intro g
        have := uni n' 4 c' h' h0 g
        omega
      rw [eG _ hne]
      unfold okO at *
      have hne2 : G (15 * n' + 3 * R 18 (15 * n' + 12 + c') + c') / 8 ≠ x / 8 := by
        intro g
        rw [g] at o
        omega
      rw [k 1 (by omega) (by omega) (by omega) (by omega), k 2 (by omega) (by omega) (by omega) (by omega), k 4 (by omega) (by omega) (by omega) (by omega), eE, if_neg hne2, eL, if_neg hne2]
      exact o
  · rw [k 10 (by omega) (by omega) (by omega) (by omega)] at i1
    have o := a4 q i q0 q1 i0 i1
    unfold okW at *
    have ne2 : R 9 (128 * q + i) ≠ x / 8 := by
      intro g
      rw [g] at o
      omega
    rw [k 1 (by omega) (by omega) (by omega) (by omega), k 2 (by omega) (by omega) (by omega) (by omega), k 9 (by omega) (by omega) (by omega) (by omega), k 11 (by omega) (by omega) (by omega) (by omega), eE, if_neg ne2, eL, if_neg ne2]
    exact o
  · unfold sA5 at *
    rw [k 9 (by omega) (by omega) (by omega) (by omega), k 10 (by omega) (by omega) (by omega) (by omega)]
    exact a5
  · unfold sA6 at *
    rw [hz, k 9 (by omega) (by omega) (by omega) (by omega), k 10 (by omega) (by omega) (by omega) (by omega), k 11 (by omega) (by omega) (by omega) (by omega)]
    exact a6
  · rw [e12 q i q0 q1 i0 i1]
    rw [e13] at i1
    unfold okX
    rw [k 1 (by omega) (by omega) (by omega) (by omega), k 2 (by omega) (by omega) (by omega) (by omega), k 4 (by omega) (by omega) (by omega) (by omega)]
    by_cases g : q = 3 * n + c ∧ i = R 13 q
    · rw [if_pos g, eL, if_pos rfl]
      refine ⟨by omega, o0.2.1, o0.2.2.1, by omega, by omega, by omega⟩
    · rw [if_neg g]
      have o := a7 q i q0 q1 i0 (by split at i1 <;> omega)
      unfold okX at o
      have ne2 : R 12 (128 * q + i) ≠ x / 8 := by
        intro g
        rw [g] at o
        omega
      rw [eL, if_neg ne2]
      exact o
  · rw [e12 q i q0 q1 i0 i1, e12 q i' q0 q1 i0' i1'] at e
    rw [e13] at i1 i1'
    have key : ∀ i, 0 ≤ i → i < R 13 q → R 12 (128 * q + i) ≠ x / 8 := by
      intro i i0 i1 g
      have o := a7 q i q0 q1 i0 i1
      unfold okX at o
      rw [g] at o
      omega
    by_cases g : q = 3 * n + c ∧ i = R 13 q
    · by_cases g' : q = 3 * n + c ∧ i' = R 13 q
      · omega
      · rw [if_pos g, if_neg g'] at e
        exact absurd e.symm (key i' i0' (by split at i1' <;> omega))
    · by_cases g' : q = 3 * n + c ∧ i' = R 13 q
      · rw [if_neg g, if_pos g'] at e
        exact absurd e (key i i0 (by split at i1 <;> omega))
      · rw [if_neg g, if_neg g'] at e
        exact a8 q i i' q0 q1 i0 (by split at i1 <;> omega) i0' (by split at i1' <;> omega) e
  · have up : ∀ w, nLc T L' w + w 18 = nLc R L w + w (19 + (3 * n + c)) := by
      intro w
      have := nLc_up (R := R) (T := T) (L := L) (L' := L') (w := w) (p := x / 8) (by omega) o0.2.1 (fun y _ => by rw [k 1 (by omega) (by omega) (by omega) (by omega)]) (fun y hy => by rw [eL, if_neg hy])
      rw [k 1 (by omega) (by omega) (by omega) (by omega), if_pos o0.2.2.1, if_pos o0.2.2.1, eL (x / 8), if_pos rfl, hL] at this
      exact this
    refine ⟨fun q q0 q1 => ?_, ?_⟩
    · have o := a9.1 q q0 q1
      have u1 := up (wq q)
      have u2 := up (wq (19 + q))
      unfold wq at u1 u2 o ⊢
      rw [k 10 (by omega) (by omega) (by omega) (by omega), e13]
      rw [if_neg (by omega : ¬(18 : Int) = q), if_neg (by omega)] at u1
      rw [if_neg (by omega : ¬(18 : Int) = 19 + q)] at u2
      by_cases hq : q = 3 * n + c
      · rw [if_pos (by omega)] at u2
        rw [if_pos hq]
        omega
      · rw [if_neg (by omega)] at u2
        rw [if_neg hq]
        omega
    · have u1 := up wn
      unfold wn at u1
      rw [if_pos (by omega), if_neg (by omega)] at u1
      rw [k0.2.1, k0.2.2]
      have := a9.2
      unfold wn at this ⊢
      omega
end Net4
