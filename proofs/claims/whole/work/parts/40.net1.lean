/-! The flits' order in the network, abstractly (a flit's code: 8 times its packet plus its number; -1: none, the next one is a head) -/
section Net1
variable {sz : Int → Int}
def mt (e x : Int) : Prop := (e = -1 → x % 8 = 0) ∧ (e ≠ -1 → e = x)
def nx (sz : Int → Int) (x : Int) : Int := if x % 8 + 1 = sz (x / 8) then -1 else x + 1
def lb (sz : Int → Int) (c : Int) (f : Int → Int) (g : Int) : Prop := (0 < c → mt g (f 0)) ∧ ∀ j, 0 ≤ j → j + 1 < c → mt (nx sz (f j)) (f (j + 1))
def eb (sz : Int → Int) (c : Int) (f : Int → Int) (g : Int) : Int := if c = 0 then g else nx sz (f (c - 1))
theorem lb_app {c g x : Int} {f f' : Int → Int} (H : lb sz c f g) (hc : 0 ≤ c) (hm : mt (eb sz c f g) x) (hf : ∀ j, 0 ≤ j → f' j = if j = c then x else f j) : lb sz (c + 1) f' g ∧ eb sz (c + 1) f' g = nx sz x := by
  unfold eb at hm
  refine ⟨⟨fun _ => ?_, fun j h0 h1 => ?_⟩, ?_⟩
  · rw [hf 0 (by omega)]
    by_cases h : c = 0
    · rw [if_pos h] at hm
      rw [if_pos h.symm]
      exact hm
    · rw [if_neg (by omega)]
      exact H.1 (by omega)
  · rw [hf j h0, hf (j + 1) (by omega), if_neg (by omega)]
    by_cases h : j + 1 = c
    · rw [if_pos h]
      rw [if_neg (by omega), show c - 1 = j from by omega] at hm
      exact hm
    · rw [if_neg h]
      exact H.2 j h0 (by omega)
  · unfold eb
    rw [if_neg (by omega), show c + 1 - 1 = c from by omega, hf c hc, if_pos rfl]
theorem lb_rem {c g : Int} {f f' : Int → Int} (H : lb sz c f g) (hc : 0 < c) (hf : ∀ j, 0 ≤ j → j < c - 1 → f' j = f (j + 1)) : lb sz (c - 1) f' (nx sz (f 0)) ∧ eb sz (c - 1) f' (nx sz (f 0)) = eb sz c f g := by
  refine ⟨⟨fun h => ?_, fun j h0 h1 => ?_⟩, ?_⟩
  · rw [hf 0 (by omega) h]
    exact H.2 0 (by omega) (by omega)
  · rw [hf j h0 (by omega), hf (j + 1) (by omega) (by omega)]
    exact H.2 (j + 1) (by omega) (by omega)
  · unfold eb
    by_cases h : c = 1
    · rw [if_pos (by omega), if_neg (by omega), h]
      rfl
    · rw [if_neg (by omega), if_neg (by omega), hf _ (by omega) (by omega)]
      congr 2
      omega
theorem lb_c {c g : Int} {f f' : Int → Int} (H : lb sz c f g) (hf : ∀ j, 0 ≤ j → j < c → f' j = f j) : lb sz c f' g := by
  refine ⟨fun h => ?_, fun j h0 h1 => ?_⟩
  · rw [hf 0 (by omega) h]
    exact H.1 h
  · rw [hf j h0 (by omega), hf (j + 1) (by omega) (by omega)]
    exact H.2 j h0 h1
theorem eb_c {c g : Int} {f f' : Int → Int} (hc : 0 ≤ c) (hf : ∀ j, 0 ≤ j → j < c → f' j = f j) : eb sz c f' g = eb sz c f g := by
  unfold eb
  split
  · rfl
  · rw [hf _ (by omega) (by omega)]
def om (n o : Int) : Prop := (o = 0 ∧ 3 ≤ n) ∨ (o = 1 ∧ n % 3 ≠ 2) ∨ (o = 2 ∧ n < 3) ∨ (o = 3 ∧ n % 3 ≠ 0)
def gh (hd G : Int → Int) (n o c : Int) : Int := if hd (15 * n + 3 * o + c) < 0 then -1 else G (15 * n + 3 * hd (15 * n + 3 * o + c) + c)
def rn (n o c : Int) : Prop := 0 ≤ n ∧ n < 6 ∧ 0 ≤ o ∧ o ≤ 4 ∧ 0 ≤ c ∧ c < 3
def nwA (sz cn : Int → Int) (f : Int → Int → Int) (hd G gv rf : Int → Int) : Prop :=
  (∀ b, 0 ≤ b → b < 90 → lb sz (cn b) (f b) (G b)) ∧
  (∀ n o c, rn n o c → om n o → eb sz (cn (nTg n o c)) (f (nTg n o c)) (G (nTg n o c)) = gh hd G n o c) ∧
  (∀ n c, rn n 4 c → eb sz (cn (15 * n + 12 + c)) (f (15 * n + 12 + c)) (G (15 * n + 12 + c)) = if gv (3 * n + c) = 0 then -1 else 8 * rf (3 * n + c) + gv (3 * n + c)) ∧
  (∀ n o c, rn n o c → 0 ≤ hd (15 * n + 3 * o + c) → hd (15 * n + 3 * o + c) ≤ 4 ∧ G (15 * n + 3 * hd (15 * n + 3 * o + c) + c) ≠ -1 ∧ (o = 4 ∨ om n o)) ∧
  (∀ n o o' c, rn n o c → rn n o' c → 0 ≤ hd (15 * n + 3 * o + c) → hd (15 * n + 3 * o + c) = hd (15 * n + 3 * o' + c) → o = o') ∧
  (∀ b, 0 ≤ b → b < 90 → G b ≠ -1 → 0 ≤ G b ∧ 1 ≤ G b % 8)
theorem om_tg {n o c : Int} (h : rn n o c) (hm : om n o) : 0 ≤ nTg n o c ∧ nTg n o c < 90 ∧ (nTg n o c) % 3 = c ∧ (nTg n o c) / 15 = nNb n o ∧ (nTg n o c) % 15 / 3 = (o + 2) % 4 := by
  unfold rn at h
  unfold om at hm
  unfold nTg nNb
  rcases hm with ⟨h1, h2⟩ | ⟨h1, h2⟩ | ⟨h1, h2⟩ | ⟨h1, h2⟩ <;> subst h1 <;> simp <;> omega
theorem tg_inj {n o c n' o' c' : Int} (h : rn n o c) (hm : om n o) (h' : rn n' o' c') (hm' : om n' o') (e : nTg n o c = nTg n' o' c') : n = n' ∧ o = o' ∧ c = c' := by
  have a := om_tg h hm
  have b := om_tg h' hm'
  rw [e] at a
  unfold rn at h h'
  unfold om at hm hm'
  unfold nNb at a b
  grind (splits := 40)
theorem tg_ne {n o c : Int} (h : rn n o c) (hm : om n o) (p : Int) (hp : 0 ≤ p ∧ p ≤ 4) : nTg n o c ≠ 15 * n + 3 * p + c := by
  have a := om_tg h hm
  unfold rn at h
  unfold om at hm
  unfold nNb at a
  intro e
  grind (splits := 40)
theorem tg_n4 {n o c n' c' : Int} (h : rn n o c) (hm : om n o) (h' : rn n' 4 c') : nTg n o c ≠ 15 * n' + 12 + c' := by
  have a := om_tg h hm
  unfold rn at h h'
  unfold om at hm
  intro e
  omega
theorem nwA_inj {cn cn' hd G gv gv' rf rf' : Int → Int} {f f' : Int → Int → Int} {n c : Int} (A : nwA sz cn f hd G gv rf) (h : rn n 4 c) (hc : 0 ≤ cn (15 * n + 12 + c)) (hg : 0 ≤ gv (3 * n + c) ∧ gv (3 * n + c) < 8) (hrf : 0 ≤ rf (3 * n + c))
    (e1 : ∀ x, cn' x = if x = 15 * n + 12 + c then cn x + 1 else cn x) (e2 : ∀ x j, 0 ≤ x → x < 90 → 0 ≤ j → j < cn' x → f' x j = if x = 15 * n + 12 + c ∧ j = cn x then 8 * rf (3 * n + c) + gv (3 * n + c) else f x j)
    (hcn : ∀ x, 0 ≤ x → x < 90 → 0 ≤ cn x)
    (e3 : ∀ q, gv' q = if q = 3 * n + c then (if gv q + 1 = sz (rf q) then 0 else gv q + 1) else gv q) (e4 : ∀ q, (q ≠ 3 * n + c ∨ gv q + 1 ≠ sz (rf q)) → gv' q ≠ 0 → rf' q = rf q) : nwA sz cn' f' hd G gv' rf' := by
  obtain ⟨a1, a2, a3, a4, a5, a6⟩ := A
  have hb0 : 0 ≤ 15 * n + 12 + c ∧ 15 * n + 12 + c < 90 := by unfold rn at h; omega
  have hm : mt (eb sz (cn (15 * n + 12 + c)) (f (15 * n + 12 + c)) (G (15 * n + 12 + c))) (8 * rf (3 * n + c) + gv (3 * n + c)) := by
    rw [a3 n c h]
    unfold mt
    split <;> omega
  have key := lb_app (f' := fun j => if j = cn (15 * n + 12 + c) then 8 * rf (3 * n + c) + gv (3 * n + c) else f (15 * n + 12 + c) j) (a1 _ hb0.1 hb0.2) hc hm (fun j _ => rfl)
  have other : ∀ x, 0 ≤ x → x < 90 → x ≠ 15 * n + 12 + c → lb sz (cn' x) (f' x) (G x) ∧ eb sz (cn' x) (f' x) (G x) = eb sz (cn x) (f x) (G x) := by
    intro x x0 x1 hx
    have e : cn' x = cn x := by rw [e1, if_neg hx]
    rw [e]
    have e5 : ∀ j, 0 ≤ j → j < cn x → f' x j = f x j := fun j j0 j1 => by rw [e2 x j x0 x1 j0 (by omega), if_neg (fun g => hx g.1)]
    exact ⟨lb_c (a1 x x0 x1) e5, eb_c (hcn x x0 x1) e5⟩
  have at_b : lb sz (cn' (15 * n + 12 + c)) (f' (15 * n + 12 + c)) (G (15 * n + 12 + c)) ∧ eb sz (cn' (15 * n + 12 + c)) (f' (15 * n + 12 + c)) (G (15 * n + 12 + c)) = nx sz (8 * rf (3 * n + c) + gv (3 * n + c)) := by
    have e : cn' (15 * n + 12 + c) = cn (15 * n + 12 + c) + 1 := by rw [e1, if_pos rfl]
    have e5 : ∀ j, 0 ≤ j → j < cn' (15 * n + 12 + c) → f' (15 * n + 12 + c) j = if j = cn (15 * n + 12 + c) then 8 * rf (3 * n + c) + gv (3 * n + c) else f (15 * n + 12 + c) j := fun j j0 j1 => by
      rw [e2 _ j hb0.1 hb0.2 j0 j1]
      simp only [true_and]
    rw [e] at e5 ⊢
    exact ⟨lb_c key.1 e5, (eb_c (by omega) e5).trans key.2⟩
  refine ⟨fun b b0 b1 => ?_, fun n' o' c' h' hm' => ?_, fun n' c' h' => ?_, a4, a5, a6⟩
  · by_cases hx : b = 15 * n + 12 + c
    · rw [hx]; exact at_b.1
    · exact (other b b0 b1 hx).1
  · have t := om_tg h' hm'
    rw [(other _ t.1 t.2.1 (tg_n4 h' hm' h)).2]
    exact a2 n' o' c' h' hm'
  · have hr : 0 ≤ 15 * n' + 12 + c' ∧ 15 * n' + 12 + c' < 90 := by unfold rn at h'; omega
    by_cases hx : n' = n ∧ c' = c
    · rw [hx.1, hx.2, at_b.2, e3, if_pos rfl]
      unfold nx
      have q1 : (8 * rf (3 * n + c) + gv (3 * n + c)) % 8 = gv (3 * n + c) := by omega
      have q2 : (8 * rf (3 * n + c) + gv (3 * n + c)) / 8 = rf (3 * n + c) := by omega
      rw [q1, q2]
      by_cases hl : gv (3 * n + c) + 1 = sz (rf (3 * n + c))
      · rw [if_pos hl, if_pos hl, if_pos rfl]
      · rw [if_neg hl, if_neg hl, if_neg (by omega), e4 _ (Or.inr hl) (by rw [e3, if_pos rfl, if_neg hl]; omega)]
        omega
    · have hne : 15 * n' + 12 + c' ≠ 15 * n + 12 + c := by unfold rn at h h'; omega
      have hq : 3 * n' + c' ≠ 3 * n + c := by unfold rn at h h'; omega
      rw [(other _ hr.1 hr.2 hne).2, a3 n' c' h']
      have g : gv' (3 * n' + c') = gv (3 * n' + c') := by rw [e3, if_neg hq]
      rw [g]
      by_cases hz : gv (3 * n' + c') = 0
      · rw [if_pos hz, if_pos hz]
      · rw [if_neg hz, if_neg hz, e4 _ (Or.inl hq) (by rw [g]; exact hz)]
theorem nwA_mv {cn cn' hd hd' G G' gv rf : Int → Int} {f f' : Int → Int → Int} {n o c p : Int} (A : nwA sz cn f hd G gv rf) (h : rn n o c) (ho : o = 4 ∨ om n o) (hp : 0 ≤ p ∧ p ≤ 4) (hcn : ∀ x, 0 ≤ x → x < 90 → 0 ≤ cn x) (hc : 0 < cn (15 * n + 3 * p + c)) (hx : 0 ≤ f (15 * n + 3 * p + c) 0 ∧ f (15 * n + 3 * p + c) 0 % 8 < 7)
    (hs : hd (15 * n + 3 * o + c) = p ∨ (hd (15 * n + 3 * o + c) < 0 ∧ f (15 * n + 3 * p + c) 0 % 8 = 0))
    (e1 : ∀ x, cn' x = if x = 15 * n + 3 * p + c then cn x - 1 else if o ≠ 4 ∧ x = nTg n o c then cn x + 1 else cn x)
    (e2 : ∀ x j, 0 ≤ x → x < 90 → 0 ≤ j → j < cn' x → f' x j = if x = 15 * n + 3 * p + c then f x (j + 1) else if (o ≠ 4 ∧ x = nTg n o c) ∧ j = cn x then f (15 * n + 3 * p + c) 0 else f x j)
    (e3 : ∀ x, hd' x = if x = 15 * n + 3 * o + c then (if nx sz (f (15 * n + 3 * p + c) 0) = -1 then -1 else p) else hd x)
    (e4 : ∀ x, G' x = if x = 15 * n + 3 * p + c then nx sz (f (15 * n + 3 * p + c) 0) else G x) : nwA sz cn' f' hd' G' gv rf := by
  obtain ⟨a1, a2, a3, a4, a5, a6⟩ := A
  have hr := h
  unfold rn at hr
  have hb0 : 0 ≤ 15 * n + 3 * p + c ∧ 15 * n + 3 * p + c < 90 := by omega
  have hL := a1 _ hb0.1 hb0.2
  have hL0 := hL.1 hc
  -- no other output holds the port
  have uni : ∀ n' o' c', rn n' o' c' → 0 ≤ hd (15 * n' + 3 * o' + c') → 15 * n' + 3 * hd (15 * n' + 3 * o' + c') + c' = 15 * n + 3 * p + c → n' = n ∧ o' = o ∧ c' = c := by
    intro n' o' c' h' h0 he
    have q4 := a4 n' o' c' h' h0
    have hr' := h'
    unfold rn at hr'
    have w : n' = n ∧ c' = c ∧ hd (15 * n' + 3 * o' + c') = p := by omega
    obtain ⟨w1, w2, w3⟩ := w
    subst w1 w2
    refine ⟨rfl, ?_, rfl⟩
    rcases hs with hs | hs
    · exact (a5 n' o o' c' h h' (by omega) (by omega)).symm
    · exfalso
      rw [w3] at q4
      have q6 := a6 _ hb0.1 hb0.2 q4.2.1
      have := hL0.2 q4.2.1
      omega
  have nx7 : nx sz (f (15 * n + 3 * p + c) 0) ≠ -1 → 0 ≤ nx sz (f (15 * n + 3 * p + c) 0) ∧ 1 ≤ nx sz (f (15 * n + 3 * p + c) 0) % 8 := by
    unfold nx
    split <;> omega
  have hgh : ∀ n' o' c', rn n' o' c' → ¬(n' = n ∧ o' = o ∧ c' = c) → gh hd' G' n' o' c' = gh hd G n' o' c' := by
    intro n' o' c' h' hne
    have hr' := h'
    unfold rn at hr'
    unfold gh
    have e : hd' (15 * n' + 3 * o' + c') = hd (15 * n' + 3 * o' + c') := by rw [e3, if_neg (by omega)]
    rw [e]
    split
    · rfl
    · rw [e4, if_neg (fun g => hne (uni n' o' c' h' (by omega) g))]
  have hgh0 : gh hd' G' n o c = nx sz (f (15 * n + 3 * p + c) 0) := by
    unfold gh
    rw [e3, if_pos rfl]
    by_cases hl : nx sz (f (15 * n + 3 * p + c) 0) = -1
    · rw [if_pos hl, if_pos (by omega), hl]
    · rw [if_neg hl, if_neg (by omega), e4, if_pos rfl]
  have hbb : o ≠ 4 → nTg n o c ≠ 15 * n + 3 * p + c := fun g => tg_ne h (ho.resolve_left g) p hp
  -- the port's own buffer
  have at_b : lb sz (cn' (15 * n + 3 * p + c)) (f' (15 * n + 3 * p + c)) (G' (15 * n + 3 * p + c)) ∧ eb sz (cn' (15 * n + 3 * p + c)) (f' (15 * n + 3 * p + c)) (G' (15 * n + 3 * p + c)) = eb sz (cn (15 * n + 3 * p + c)) (f (15 * n + 3 * p + c)) (G (15 * n + 3 * p + c)) := by
    have e : cn' (15 * n + 3 * p + c) = cn (15 * n + 3 * p + c) - 1 := by rw [e1, if_pos rfl]
    have e5 : ∀ j, 0 ≤ j → j < cn (15 * n + 3 * p + c) - 1 → f' (15 * n + 3 * p + c) j = f (15 * n + 3 * p + c) (j + 1) := fun j j0 j1 => by
      rw [e2 _ j hb0.1 hb0.2 j0 (by omega), if_pos rfl]
    rw [e, e4, if_pos rfl]
    exact lb_rem hL hc e5
  have other : ∀ x, 0 ≤ x → x < 90 → x ≠ 15 * n + 3 * p + c → ¬(o ≠ 4 ∧ x = nTg n o c) → lb sz (cn' x) (f' x) (G' x) ∧ eb sz (cn' x) (f' x) (G' x) = eb sz (cn x) (f x) (G x) := by
    intro x x0 x1 g1 g2
    have e : cn' x = cn x := by rw [e1, if_neg g1, if_neg g2]
    rw [e, e4, if_neg g1]
    have e5 : ∀ j, 0 ≤ j → j < cn x → f' x j = f x j := fun j j0 j1 => by rw [e2 x j x0 x1 j0 (by omega), if_neg g1, if_neg (fun g => g2 g.1)]
    exact ⟨lb_c (a1 x x0 x1) e5, eb_c (hcn x x0 x1) e5⟩
  have at_t : o ≠ 4 → lb sz (cn' (nTg n o c)) (f' (nTg n o c)) (G' (nTg n o c)) ∧ eb sz (cn' (nTg n o c)) (f' (nTg n o c)) (G' (nTg n o c)) = nx sz (f (15 * n + 3 * p + c) 0) := by
    intro g
    have hm := ho.resolve_left g
    have t := om_tg h hm
    have e : cn' (nTg n o c) = cn (nTg n o c) + 1 := by rw [e1, if_neg (hbb g), if_pos ⟨g, rfl⟩]
    have e5 : ∀ j, 0 ≤ j → j < cn (nTg n o c) + 1 → f' (nTg n o c) j = if j = cn (nTg n o c) then f (15 * n + 3 * p + c) 0 else f (nTg n o c) j := fun j j0 j1 => by
      rw [e2 _ j t.1 t.2.1 j0 (by omega), if_neg (hbb g)]
      by_cases hj : j = cn (nTg n o c)
      · rw [if_pos ⟨⟨g, rfl⟩, hj⟩, if_pos hj]
      · rw [if_neg (fun w => hj w.2), if_neg hj]
    have hmt : mt (eb sz (cn (nTg n o c)) (f (nTg n o c)) (G (nTg n o c))) (f (15 * n + 3 * p + c) 0) := by
      rw [a2 n o c h hm]
      unfold gh
      rcases hs with hs | hs
      · rw [if_neg (by omega), hs]
        exact hL0
      · rw [if_pos hs.1]
        exact ⟨fun _ => hs.2, fun w => absurd rfl w⟩
    have key := lb_app (f' := fun j => if j = cn (nTg n o c) then f (15 * n + 3 * p + c) 0 else f (nTg n o c) j) (a1 _ t.1 t.2.1) (hcn _ t.1 t.2.1) hmt (fun j _ => rfl)
    rw [e, e4, if_neg (hbb g)]
    have := hcn _ t.1 t.2.1
    exact ⟨lb_c key.1 e5, (eb_c (by omega) e5).trans key.2⟩
  refine ⟨fun b b0 b1 => ?_, fun n' o' c' h' hm' => ?_, fun n' c' h' => ?_, fun n' o' c' h' h0 => ?_, fun n' o1 o2 c' h1 h2 h0 he => ?_, fun b b0 b1 hG => ?_⟩
  · by_cases g1 : b = 15 * n + 3 * p + c
    · rw [g1]; exact at_b.1
    · by_cases g2 : o ≠ 4 ∧ b = nTg n o c
      · rw [g2.2]; exact (at_t g2.1).1
      · exact (other b b0 b1 g1 g2).1
  · have t := om_tg h' hm'
    by_cases hsame : n' = n ∧ o' = o ∧ c' = c
    · obtain ⟨s1, s2, s3⟩ := hsame
      subst s1 s2 s3
      have g : o' ≠ 4 := by
        intro g
        unfold om at hm'
        omega
      rw [(at_t g).2, hgh0]
    · rw [hgh n' o' c' h' hsame, ← a2 n' o' c' h' hm']
      by_cases g1 : nTg n' o' c' = 15 * n + 3 * p + c
      · rw [g1]; exact at_b.2
      · refine (other _ t.1 t.2.1 g1 (fun g => hsame ?_)).2
        exact tg_inj h' hm' h (ho.resolve_left g.1) g.2
  · have hr' : 0 ≤ 15 * n' + 12 + c' ∧ 15 * n' + 12 + c' < 90 := by unfold rn at h'; omega
    rw [← a3 n' c' h']
    by_cases g1 : 15 * n' + 12 + c' = 15 * n + 3 * p + c
    · rw [g1]; exact at_b.2
    · refine (other _ hr'.1 hr'.2 g1 (fun g => ?_)).2
      exact tg_n4 h (ho.resolve_left g.1) h' g.2.symm
  · by_cases hsame : n' = n ∧ o' = o ∧ c' = c
    · obtain ⟨s1, s2, s3⟩ := hsame
      subst s1 s2 s3
      rw [e3, if_pos rfl] at h0 ⊢
      by_cases hl : nx sz (f (15 * n' + 3 * p + c') 0) = -1
      · rw [if_pos hl] at h0
        omega
      · rw [if_neg hl, e4, if_pos rfl]
        exact ⟨hp.2, hl, ho⟩
    · have hr' := h'
      unfold rn at hr'
      have e : hd' (15 * n' + 3 * o' + c') = hd (15 * n' + 3 * o' + c') := by rw [e3, if_neg (by omega)]
      rw [e] at h0 ⊢
      rw [e4, if_neg (fun g => hsame (uni n' o' c' h' h0 g))]
      exact a4 n' o' c' h' h0
  · have hr1 := h1
    have hr2 := h2
    unfold rn at hr1 hr2
    by_cases s1 : n' = n ∧ o1 = o ∧ c' = c
    · by_cases s2 : o2 = o
      · omega
      · exfalso
        obtain ⟨w1, w2, w3⟩ := s1
        subst w1 w2 w3
        have e : hd' (15 * n' + 3 * o2 + c') = hd (15 * n' + 3 * o2 + c') := by rw [e3, if_neg (by omega)]
        rw [e] at he
        rw [e3 (15 * n' + 3 * o1 + c'), if_pos rfl] at h0 he
        by_cases hl : nx sz (f (15 * n' + 3 * p + c') 0) = -1
        · rw [if_pos hl] at h0
          omega
        · rw [if_neg hl] at he
          exact s2 (uni n' o2 c' h2 (by omega) (by omega)).2.1
    · by_cases s2 : n' = n ∧ o2 = o ∧ c' = c
      · exfalso
        obtain ⟨w1, w2, w3⟩ := s2
        subst w1 w2 w3
        have e : hd' (15 * n' + 3 * o1 + c') = hd (15 * n' + 3 * o1 + c') := by rw [e3, if_neg (by omega)]
        rw [e] at h0 he
        rw [e3, if_pos rfl] at he
        by_cases hl : nx sz (f (15 * n' + 3 * p + c') 0) = -1
        · rw [if_pos hl] at he
          omega
        · rw [if_neg hl] at he
          exact s1 (uni n' o1 c' h1 h0 (by omega))
      · have e : hd' (15 * n' + 3 * o1 + c') = hd (15 * n' + 3 * o1 + c') := by rw [e3, if_neg (by omega)]
        have e0 : hd' (15 * n' + 3 * o2 + c') = hd (15 * n' + 3 * o2 + c') := by rw [e3, if_neg (by omega)]
        rw [e] at h0 he
        rw [e0] at he
        exact a5 n' o1 o2 c' h1 h2 h0 he
  · rw [e4] at hG ⊢
    by_cases g1 : b = 15 * n + 3 * p + c
    · rw [if_pos g1] at hG ⊢
      exact nx7 hG
    · rw [if_neg g1] at hG ⊢
      exact a6 b b0 b1 hG
end Net1
