section RefM10
variable {h : ev_hs} {c0 : Nat} {Rc : RS} {P : RS → Prop}
theorem m_cy20 (hs : shR h c0) {n : Int} (H : ∀ c R, 0 ≤ c → c < 3 → P R → f_Mo_inject (some (c0 + 373)) n c (vw h c0 Rc R) = some (vw h c0 Rc (nInj R n c)) ∧ P (nInj R n c)) {K : Option Nat → Int → ev_hs → Option ev_hs} : ∀ (m fu : Nat) (c : Int) (R : RS), 0 ≤ c → c + m = 3 → P R → m < fu → f_Mo_oneCycle_20 fu (some (c0 + 373)) n c (vw h c0 Rc R) K = K (some (c0 + 373)) n (vw h c0 Rc (nIt (fun c R => nInj R n c) m c R)) ∧ P (nIt (fun c R => nInj R n c) m c R) := by
  intro m
  induction m with
  | zero =>
    intro fu c R h1 h2 hP hf
    cases fu with
    | zero => omega
    | succ fu =>
      rw [f_Mo_oneCycle_20, eLt_i (by omega) (by omega) (by omega) (by omega), if_neg (by omega)]
      exact ⟨rfl, hP⟩
  | succ m ih =>
    intro fu c R h1 h2 hP hf
    cases fu with
    | zero => omega
    | succ fu =>
      obtain ⟨e1, e2⟩ := H c R h1 (by omega) hP
      rw [f_Mo_oneCycle_20, eLt_i (by omega) (by omega) (by omega) (by omega), if_pos (by omega), r_vK hs, e1, bV_some]
      exact ih fu (c + 1) _ (by omega) (by omega) e2 (by omega)
theorem m_cy12 (hs : shR h c0) (H : ∀ n c R, 0 ≤ n → n < 6 → 0 ≤ c → c < 3 → P R → f_Mo_inject (some (c0 + 373)) n c (vw h c0 Rc R) = some (vw h c0 Rc (nInj R n c)) ∧ P (nInj R n c)) {K : Option Nat → ev_hs → Option ev_hs} : ∀ (m fu : Nat) (n : Int) (R : RS), 0 ≤ n → n + m = 6 → P R → m < fu → f_Mo_oneCycle_12 fu (some (c0 + 373)) n (vw h c0 Rc R) K = K (some (c0 + 373)) (vw h c0 Rc (nIt (fun n R => nIt (fun c R => nInj R n c) 3 0 R) m n R)) ∧ P (nIt (fun n R => nIt (fun c R => nInj R n c) 3 0 R) m n R) := by
  intro m
  induction m with
  | zero =>
    intro fu n R h1 h2 hP hf
    cases fu with
    | zero => omega
    | succ fu =>
      rw [f_Mo_oneCycle_12, eLt_i (by omega) (by omega) (by omega) (by omega), if_neg (by omega)]
      exact ⟨rfl, hP⟩
  | succ m ih =>
    intro fu n R h1 h2 hP hf
    cases fu with
    | zero => omega
    | succ fu =>
      obtain ⟨e1, e2⟩ := m_cy20 hs (n := n) (K := fun y0 y1 g => f_Mo_oneCycle_12 fu y0 (y1 + 1) g K) (fun c R h1' h2' hP' => H n c R h1 (by omega) h1' h2' hP') 3 FU 0 R (by omega) (by omega) hP (by unfold FU; omega)
      rw [f_Mo_oneCycle_12, eLt_i (by omega) (by omega) (by omega) (by omega), if_pos (by omega), e1]
      exact ih fu (n + 1) _ (by omega) (by omega) e2 (by omega)
theorem m_cy63 (hs : shR h c0) {n o : Int} {P : Nat → RS → Prop} (mo : ∀ k R, P k R → P (k + 1) R) (H : ∀ k c R, 0 ≤ c → c < 3 → P k R → f_Mo_moves (some (c0 + 373)) n o c (vw h c0 Rc R) = some ((nMv R n o c).1, vw h c0 Rc (nMv R n o c).2) ∧ P (k + 1) (nMv R n o c).2) {K : Option Nat → Int → Int → ev_hs → Option ev_hs} {R : RS} {k : Nat} (hP : P k R) : f_Mo_oneCycle_63 FU (some (c0 + 373)) n o 0 2 (vw h c0 Rc R) K = K (some (c0 + 373)) n o (vw h c0 Rc (nMv3 R n o)) ∧ P (k + 3) (nMv3 R n o) := by
  obtain ⟨f, hf⟩ : ∃ f, FU = f + 4 := ⟨99996, rfl⟩
  rw [hf]
  unfold nMv3
  obtain ⟨e1, p1⟩ := H k 2 R (by omega) (by omega) hP
  have b1 := nMv_b R n o 2
  obtain ⟨e2, p2⟩ := H (k + 1) 1 _ (by omega) (by omega) p1
  have b2 := nMv_b (nMv R n o 2).2 n o 1
  obtain ⟨e3, p3⟩ := H (k + 2) 0 _ (by omega) (by omega) p2
  have b3 := nMv_b (nMv (nMv R n o 2).2 n o 1).2 n o 0
  rw [f_Mo_oneCycle_63, eLt_i (by omega) (by omega) (by omega) (by omega), if_neg (by omega), eEq_i (by omega) (by omega) (by omega) (by omega), if_pos rfl, r_vK hs, e1, bI_some]
  rcases b1 with b1 | b1
  · rw [b1, if_neg (by omega), f_Mo_oneCycle_63, show (2 : Int) + -1 = 1 by omega, eLt_i (by omega) (by omega) (by omega) (by omega), if_neg (by omega), eEq_i (by omega) (by omega) (by omega) (by omega), if_pos rfl, r_vK hs, e2, bI_some]
    rcases b2 with b2 | b2
    · rw [b2, if_neg (by omega), f_Mo_oneCycle_63, show (1 : Int) + -1 = 0 by omega, eLt_i (by omega) (by omega) (by omega) (by omega), if_neg (by omega), eEq_i (by omega) (by omega) (by omega) (by omega), if_pos rfl, r_vK hs, e3, bI_some]
      rw [f_Mo_oneCycle_63, show (0 : Int) + -1 = -1 by omega, eLt_i (by omega) (by omega) (by omega) (by omega), if_pos (by omega)]
      exact ⟨rfl, p3⟩
    · rw [b2, if_pos rfl, f_Mo_oneCycle_63, show (1 : Int) + -1 = 0 by omega, eLt_i (by omega) (by omega) (by omega) (by omega), if_neg (by omega), eEq_i (by omega) (by omega) (by omega) (by omega), if_neg (by omega)]
      exact ⟨rfl, mo _ _ p2⟩
  · rw [b1, if_pos rfl, f_Mo_oneCycle_63, show (2 : Int) + -1 = 1 by omega, eLt_i (by omega) (by omega) (by omega) (by omega), if_neg (by omega), eEq_i (by omega) (by omega) (by omega) (by omega), if_neg (by omega)]
    exact ⟨rfl, mo _ _ (mo _ _ p1)⟩
theorem m_cy53 (hs : shR h c0) {n : Int} {P : Nat → RS → Prop} (mo : ∀ k R, P k R → P (k + 1) R) (H : ∀ k o c R, 0 ≤ o → o ≤ 4 → 0 ≤ c → c < 3 → P k R → f_Mo_moves (some (c0 + 373)) n o c (vw h c0 Rc R) = some ((nMv R n o c).1, vw h c0 Rc (nMv R n o c).2) ∧ P (k + 1) (nMv R n o c).2) {K : Option Nat → Int → ev_hs → Option ev_hs} : ∀ (m fu k : Nat) (o : Int) (R : RS), 0 ≤ o → o + m = 5 → P k R → m < fu → f_Mo_oneCycle_53 fu (some (c0 + 373)) n o (vw h c0 Rc R) K = K (some (c0 + 373)) n (vw h c0 Rc (nIt (fun o R => nMv3 R n o) m o R)) ∧ P (k + 3 * m) (nIt (fun o R => nMv3 R n o) m o R) := by
  intro m
  induction m with
  | zero =>
    intro fu k o R h1 h2 hP hf
    cases fu with
    | zero => omega
    | succ fu =>
      rw [f_Mo_oneCycle_53, eLt_i (by omega) (by omega) (by omega) (by omega), if_neg (by omega)]
      exact ⟨rfl, hP⟩
  | succ m ih =>
    intro fu k o R h1 h2 hP hf
    cases fu with
    | zero => omega
    | succ fu =>
      obtain ⟨e1, e2⟩ := m_cy63 hs (n := n) (o := o) (K := fun y0 y1 y2 g => f_Mo_oneCycle_53 fu y0 y1 (y2 + 1) g K) mo (fun k c R h1' h2' hP' => H k o c R h1 (by omega) h1' h2' hP') hP
      rw [f_Mo_oneCycle_53, eLt_i (by omega) (by omega) (by omega) (by omega), if_pos (by omega), e1]
      rw [show k + 3 * (m + 1) = k + 3 + 3 * m from by omega]
      exact ih fu (k + 3) (o + 1) _ (by omega) (by omega) e2 (by omega)
theorem m_cy45 (hs : shR h c0) {P : Nat → RS → Prop} (mo : ∀ k R, P k R → P (k + 1) R) (H : ∀ k n o c R, 0 ≤ n → n < 6 → 0 ≤ o → o ≤ 4 → 0 ≤ c → c < 3 → P k R → f_Mo_moves (some (c0 + 373)) n o c (vw h c0 Rc R) = some ((nMv R n o c).1, vw h c0 Rc (nMv R n o c).2) ∧ P (k + 1) (nMv R n o c).2) {K : Option Nat → ev_hs → Option ev_hs} : ∀ (m fu k : Nat) (n : Int) (R : RS), 0 ≤ n → n + m = 6 → P k R → m < fu → f_Mo_oneCycle_45 fu (some (c0 + 373)) n (vw h c0 Rc R) K = K (some (c0 + 373)) (vw h c0 Rc (nIt (fun n R => nIt (fun o R => nMv3 R n o) 5 0 R) m n R)) ∧ P (k + 15 * m) (nIt (fun n R => nIt (fun o R => nMv3 R n o) 5 0 R) m n R) := by
  intro m
  induction m with
  | zero =>
    intro fu k n R h1 h2 hP hf
    cases fu with
    | zero => omega
    | succ fu =>
      rw [f_Mo_oneCycle_45, eLt_i (by omega) (by omega) (by omega) (by omega), if_neg (by omega)]
      exact ⟨rfl, hP⟩
  | succ m ih =>
    intro fu k n R h1 h2 hP hf
    cases fu with
    | zero => omega
    | succ fu =>
      obtain ⟨e1, e2⟩ := m_cy53 hs (n := n) (K := fun y0 y1 g => f_Mo_oneCycle_45 fu y0 (y1 + 1) g K) mo (fun k o c R h1' h2' h3' h4' hP' => H k n o c R h1 (by omega) h1' h2' h3' h4' hP') 5 FU k 0 R (by omega) (by omega) hP (by unfold FU; omega)
      rw [f_Mo_oneCycle_45, eLt_i (by omega) (by omega) (by omega) (by omega), if_pos (by omega), e1]
      rw [show k + 15 * (m + 1) = k + 3 * 5 + 15 * m from by omega]
      exact ih fu (k + 3 * 5) (n + 1) _ (by omega) (by omega) e2 (by omega)
theorem m_cy101 (hs : shR h c0) {K : Option Nat → ev_hs → Option ev_hs} : ∀ (m fu : Nat) (n : Int) (R : RS), 0 ≤ n → n + m = 6 → m < fu → f_Mo_oneCycle_101 fu (some (c0 + 373)) n (vw h c0 Rc R) K = K (some (c0 + 373)) (vw h c0 Rc (nIt (fun n R => up3 R 35 n 0) m n R)) := by
  intro m
  induction m with
  | zero =>
    intro fu n R h1 h2 hf
    cases fu with
    | zero => omega
    | succ fu =>
      rw [f_Mo_oneCycle_101, eLt_i (by omega) (by omega) (by omega) (by omega), if_neg (by omega)]
      rfl
  | succ m ih =>
    intro fu n R h1 h2 hf
    cases fu with
    | zero => omega
    | succ fu =>
      rw [f_Mo_oneCycle_101, eLt_i (by omega) (by omega) (by omega) (by omega), if_pos (by omega), rg35 hs, rs35 hs (by omega) (by omega) (Or.inl rfl)]
      exact ih fu (n + 1) _ (by omega) (by omega) (by omega)
theorem m_cy130 (hs : shR h c0) {n : Int} (H : ∀ c R, 0 ≤ c → c < 3 → P R → f_Mo_takeFirst (some (c0 + 373)) n c (vw h c0 Rc R) = some (vw h c0 Rc (nTF R n c)) ∧ P (nTF R n c)) {K : Option Nat → Int → ev_hs → Option ev_hs} : ∀ (m fu : Nat) (c : Int) (R : RS), c + 1 = m → m ≤ 3 → P R → m < fu → f_Mo_oneCycle_130 fu (some (c0 + 373)) n c (vw h c0 Rc R) K = K (some (c0 + 373)) n (vw h c0 Rc (nDn (fun c R => nTF R n c) m R)) ∧ P (nDn (fun c R => nTF R n c) m R) := by
  intro m
  induction m with
  | zero =>
    intro fu c R h1 h2 hP hf
    cases fu with
    | zero => omega
    | succ fu =>
      rw [f_Mo_oneCycle_130, eLt_i (by omega) (by omega) (by omega) (by omega), if_pos (by omega)]
      exact ⟨rfl, hP⟩
  | succ m ih =>
    intro fu c R h1 h2 hP hf
    cases fu with
    | zero => omega
    | succ fu =>
      obtain ⟨e1, e2⟩ := H c R (by omega) (by omega) hP
      have hc : c = (m : Int) := by omega
      rw [f_Mo_oneCycle_130, eLt_i (by omega) (by omega) (by omega) (by omega), if_neg (by omega), r_vK hs, e1, bV_some]
      rw [hc] at e2 ⊢
      exact ih fu (m + -1) _ (by omega) (by omega) e2 (by omega)
theorem m_cy122 (hs : shR h c0) (H : ∀ n c R, 0 ≤ n → n < 6 → 0 ≤ c → c < 3 → P R → f_Mo_takeFirst (some (c0 + 373)) n c (vw h c0 Rc R) = some (vw h c0 Rc (nTF R n c)) ∧ P (nTF R n c)) {K : Option Nat → ev_hs → Option ev_hs} : ∀ (m fu : Nat) (n : Int) (R : RS), 0 ≤ n → n + m = 6 → P R → m < fu → f_Mo_oneCycle_122 fu (some (c0 + 373)) n (vw h c0 Rc R) K = K (some (c0 + 373)) (vw h c0 Rc (nIt (fun n R => nDn (fun c R => nTF R n c) 3 R) m n R)) ∧ P (nIt (fun n R => nDn (fun c R => nTF R n c) 3 R) m n R) := by
  intro m
  induction m with
  | zero =>
    intro fu n R h1 h2 hP hf
    cases fu with
    | zero => omega
    | succ fu =>
      rw [f_Mo_oneCycle_122, eLt_i (by omega) (by omega) (by omega) (by omega), if_neg (by omega)]
      exact ⟨rfl, hP⟩
  | succ m ih =>
    intro fu n R h1 h2 hP hf
    cases fu with
    | zero => omega
    | succ fu =>
      obtain ⟨e1, e2⟩ := m_cy130 hs (n := n) (K := fun y0 y1 g => f_Mo_oneCycle_122 fu y0 (y1 + 1) g K) (fun c R h1' h2' hP' => H n c R h1 (by omega) h1' h2' hP') 3 FU 2 R (by omega) (by omega) hP (by unfold FU; omega)
      rw [f_Mo_oneCycle_122, eLt_i (by omega) (by omega) (by omega) (by omega), if_pos (by omega), e1]
      exact ih fu (n + 1) _ (by omega) (by omega) e2 (by omega)
theorem m_cy154 (hs : shR h c0) (H : ∀ n R, 0 ≤ n → n < 6 → P R → f_Mo_core (some (c0 + 373)) n (vw h c0 Rc R) = some (vw h c0 Rc (nCore R n)) ∧ P (nCore R n)) : ∀ (m fu : Nat) (n : Int) (R : RS), 0 ≤ n → n + m = 6 → P R → m < fu → f_Mo_oneCycle_154 fu (some (c0 + 373)) n (vw h c0 Rc R) = some (vw h c0 Rc (nIt (fun n R => nCore R n) m n R)) ∧ P (nIt (fun n R => nCore R n) m n R) := by
  intro m
  induction m with
  | zero =>
    intro fu n R h1 h2 hP hf
    cases fu with
    | zero => omega
    | succ fu =>
      rw [f_Mo_oneCycle_154, eLt_i (by omega) (by omega) (by omega) (by omega), if_neg (by omega)]
      exact ⟨rfl, hP⟩
  | succ m ih =>
    intro fu n R h1 h2 hP hf
    cases fu with
    | zero => omega
    | succ fu =>
      obtain ⟨e1, e2⟩ := H n R h1 (by omega) hP
      rw [f_Mo_oneCycle_154, eLt_i (by omega) (by omega) (by omega) (by omega), if_pos (by omega), r_vK hs, e1, bV_some]
      exact ih fu (n + 1) _ (by omega) (by omega) e2 (by omega)
-- a whole cycle: P1 while flits come in and go, P3 behind 'rests' being cleared, while packets are taken and the cores act
theorem m_oneCycle (hs : shR h c0) {P1 P3 P4 : RS → Prop} {P2 : Nat → RS → Prop} (h1 : ∀ n c R, 0 ≤ n → n < 6 → 0 ≤ c → c < 3 → P1 R → f_Mo_inject (some (c0 + 373)) n c (vw h c0 Rc R) = some (vw h c0 Rc (nInj R n c)) ∧ P1 (nInj R n c))
    (mo : ∀ k R, P2 k R → P2 (k + 1) R) (h12 : ∀ R, P1 R → P2 0 R) (h2 : ∀ k n o c R, 0 ≤ n → n < 6 → 0 ≤ o → o ≤ 4 → 0 ≤ c → c < 3 → P2 k R → f_Mo_moves (some (c0 + 373)) n o c (vw h c0 Rc R) = some ((nMv R n o c).1, vw h c0 Rc (nMv R n o c).2) ∧ P2 (k + 1) (nMv R n o c).2)
    (h3 : ∀ R, P2 90 R → P3 (nCyc3 R)) (h4 : ∀ n c R, 0 ≤ n → n < 6 → 0 ≤ c → c < 3 → P3 R → f_Mo_takeFirst (some (c0 + 373)) n c (vw h c0 Rc R) = some (vw h c0 Rc (nTF R n c)) ∧ P3 (nTF R n c))
    (h5 : ∀ R, P3 R → P4 R) (h6 : ∀ n R, 0 ≤ n → n < 6 → P4 R → f_Mo_core (some (c0 + 373)) n (vw h c0 Rc R) = some (vw h c0 Rc (nCore R n)) ∧ P4 (nCore R n)) {R : RS} (hP : P1 (up3 R 0 2 (R 0 2 + 1))) :
    f_Mo_oneCycle (some (c0 + 373)) (vw h c0 Rc R) = some (vw h c0 Rc (nCyc R)) ∧ P4 (nCyc R) := by
  unfold f_Mo_oneCycle nCyc
  rw [ri2 hs, rq2 hs]
  obtain ⟨e1, p1⟩ := m_cy12 hs h1 (K := fun y5_0 y5_h => f_Mo_oneCycle_45 FU y5_0 0 y5_h (fun y10_0 y10_h => f_Mo_oneCycle_101 FU y10_0 0 y10_h (fun y13_0 y13_h => f_Mo_oneCycle_122 FU y13_0 0 y13_h (fun y16_0 y16_h => f_Mo_oneCycle_154 FU y16_0 0 y16_h)))) 6 FU 0 _ (by omega) (by omega) hP (by unfold FU; omega)
  rw [e1]
  obtain ⟨e2, p2⟩ := m_cy45 hs mo h2 (K := fun y10_0 y10_h => f_Mo_oneCycle_101 FU y10_0 0 y10_h (fun y13_0 y13_h => f_Mo_oneCycle_122 FU y13_0 0 y13_h (fun y16_0 y16_h => f_Mo_oneCycle_154 FU y16_0 0 y16_h))) 6 FU 0 0 _ (by omega) (by omega) (h12 _ p1) (by unfold FU; omega)
  rw [e2, m_cy101 hs 6 FU 0 _ (by omega) (by omega) (by unfold FU; omega)]
  have p3 := h3 _ p2
  obtain ⟨e4, p4⟩ := m_cy122 hs h4 (K := fun y16_0 y16_h => f_Mo_oneCycle_154 FU y16_0 0 y16_h) 6 FU 0 _ (by omega) (by omega) p3 (by unfold FU; omega)
  have e4' : f_Mo_oneCycle_122 FU (some (c0 + 373)) 0 (vw h c0 Rc (nIt (fun n R => up3 R 35 n 0) 6 0 (nIt (fun n R => nIt (fun o R => nMv3 R n o) 5 0 R) 6 0 (nIt (fun n R => nIt (fun c R => nInj R n c) 3 0 R) 6 0 (up3 R 0 2 (R 0 2 + 1)))))) (fun y16_0 y16_h => f_Mo_oneCycle_154 FU y16_0 0 y16_h) = _ := e4
  rw [e4']
  exact m_cy154 hs h6 6 FU 0 _ (by omega) (by omega) (h5 _ p4) (by unfold FU; omega)
end RefM10
