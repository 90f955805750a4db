/-! The class's lists, all of them -/
section Cls4
variable {α : Type} {h g : ev_hs} {c0 : Nat} {R Rr Rc : RS} {F : Int → Int} {D FL : Int} {d : Nat → Int → Nat} {X : Nat → Int → Int → Nat}
def kN (k : Nat) : Nat := if k = 1 then 10 else 13
def kE (k : Nat) : Nat := if k = 1 then 9 else 12
def pa (h : ev_hs) (c0 a : Nat) : Prop := xK h a = 11 ∧ c0 + 409 ≤ a ∧ a < xZ h
def lsI (h : ev_hs) (c0 : Nat) (R : RS) (d : Nat → Int → Nat) (X : Nat → Int → Int → Nat) : Prop :=
  ∀ k q, (k = 1 ∨ k = 2) → 0 ≤ q → q < 18 → xR h 300 (c0 + (3 + 16 * q.toNat) + k) = some (d k q) ∧
    ((d k q = xE h ∧ R (kN k) q = 0) ∨ (c0 + 409 ≤ d k q ∧ d k q < xZ h ∧ xK h (d k q) = 52 ∧ 10 ≤ xL h (d k q) ∧ xL h (d k q) ≤ 200 ∧ R (kN k) q ≤ xL h (d k q) ∧ ∀ k' q', (k' = 1 ∨ k' = 2) → 0 ≤ q' → q' < 18 → d k' q' = d k q → k' = k ∧ q' = q)) ∧
    ∀ j, 0 ≤ j → j < R (kN k) q → xQ h (d k q) j.toNat = some (X k q j) ∧ pa h c0 (X k q j)
def sE (h : ev_hs) (c0 : Nat) : Prop := xK h (xE h) = 52 ∧ xL h (xE h) = 0 ∧ xE h < c0 ∧ c0 + 409 ≤ xZ h
theorem sE_e {h' : ev_hs} (e : ext h h') (s : sE h c0) : sE h' c0 := by
  obtain ⟨e1, e2, e3, e4, e5, e6, e7, e8⟩ := e
  obtain ⟨s1, s2, s3, s4⟩ := s
  refine ⟨?_, ?_, ?_, by omega⟩
  · rw [e2, (e4 _ (by omega)).1]; exact s1
  · rw [e2, (e4 _ (by omega)).2]; exact s2
  · rw [e2]; exact s3
theorem pa_e {h' : ev_hs} {a : Nat} (e : ext h h') (s : pa h c0 a) : pa h' c0 a := by
  obtain ⟨e1, e2, e3, e4, e5, e6, e7, e8⟩ := e
  obtain ⟨s1, s2, s3⟩ := s
  exact ⟨by rw [(e4 _ (by omega)).1]; exact s1, s2, by omega⟩
theorem dI_ls {k : Nat} {q : Int} (hk : k = 1 ∨ k = 2) (q0 : 0 ≤ q) (q1 : q < 18) : dI 301 (3 + 16 * q.toNat + k) = some (kN k, q) := by
  simp only [dI, Nat.reduceEqDiff, ↓reduceIte]
  rcases hk with rfl | rfl
  · rw [if_pos (by omega)]
    unfold kN
    congr 2
    omega
  · rw [if_neg (by omega), if_pos (by omega)]
    unfold kN
    congr 2
    omega
theorem kN_36 {k : Nat} : kN k ≠ 36 := by unfold kN; split <;> omega
def upD (d : Nat → Int → Nat) (k : Nat) (q : Int) (z : Nat) : Nat → Int → Nat := fun k' q' => if k' = k ∧ q' = q then z else d k' q'
def upX (X : Nat → Int → Int → Nat) (k : Nat) (q j : Int) (z : Nat) : Nat → Int → Int → Nat := fun k' q' j' => if k' = k ∧ q' = q ∧ j' = j then z else X k' q' j'
def shX (X : Nat → Int → Int → Nat) (k : Nat) (q i : Int) : Nat → Int → Int → Nat := fun k' q' j => if k' = k ∧ q' = q ∧ i ≤ j then X k' q' (j + 1) else X k' q' j
theorem kN_j {k k' : Nat} (h1 : k = 1 ∨ k = 2) (h2 : k' = 1 ∨ k' = 2) (e : kN k' = kN k) : k' = k := by
  unfold kN at e
  rcases h1 with rfl | rfl <;> rcases h2 with rfl | rfl <;> simp at e ⊢
-- the lists of another heap in which one list has changed: its row d', its elements, the rest as before
theorem ls_step {h' : ev_hs} {k : Nat} {q m : Int} {d' : Nat} {X' : Nat → Int → Int → Nat} (L : lsI h c0 R d X) (sz : sE h c0) (e : ex 302 52 h h') (hk : k = 1 ∨ k = 2) (q0 : 0 ≤ q) (q1 : q < 18) (hr : xR h' 300 (c0 + (3 + 16 * q.toNat) + k) = some d')
    (hro : ∀ a, a ≠ c0 + (3 + 16 * q.toNat) + k → a < xZ h → xR h' 300 a = xR h 300 a)
    (hd : (d' = d k q ∧ d' ≠ xE h) ∨ xZ h ≤ d')
    (hqo : ∀ a j, a ≠ d k q → a < xZ h → xQ h' a j = xQ h a j)
    (dd : c0 + 409 ≤ d' ∧ d' < xZ h' ∧ xK h' d' = 52 ∧ 10 ≤ xL h' d' ∧ xL h' d' ≤ 200 ∧ m ≤ xL h' d')
    (hX : ∀ k' q' j, ¬ (k' = k ∧ q' = q) → X' k' q' j = X k' q' j)
    (hj : ∀ j, 0 ≤ j → j < m → xQ h' d' j.toNat = some (X' k q j) ∧ pa h' c0 (X' k q j)) : lsI h' c0 (up3 R (kN k) q m) (upD d k q d') X' := by
  have ee := exL e
  obtain ⟨s1, s2, s3, s4⟩ := sz
  intro k2 q2 g1 g2 g3
  have dl : ∀ k q, (k = 1 ∨ k = 2) → 0 ≤ q → q < 18 → d k q < xZ h := by
    intro k q h1 h2 h3
    rcases (L k q h1 h2 h3).2.1 with x | x
    · omega
    · exact x.2.1
  by_cases hc : k2 = k ∧ q2 = q
  · obtain ⟨rfl, rfl⟩ := hc
    have e1 : upD d k2 q2 d' k2 q2 = d' := by simp [upD]
    have e2 : up3 R (kN k2) q2 m (kN k2) q2 = m := u3s
    rw [e1, e2]
    refine ⟨hr, Or.inr ⟨dd.1, dd.2.1, dd.2.2.1, dd.2.2.2.1, dd.2.2.2.2.1, dd.2.2.2.2.2, fun k' q' a1 a2 a3 a4 => ?_⟩, hj⟩
    by_cases hc2 : k' = k2 ∧ q' = q2
    · exact hc2
    · exfalso
      have e3 : upD d k2 q2 d' k' q' = d k' q' := by simp [upD, hc2]
      rw [e3] at a4
      have h1 := dl k' q' a1 a2 a3
      rcases hd with ⟨x1, x2⟩ | x1
      · rcases (L k2 q2 g1 g2 g3).2.1 with y | y
        · omega
        · exact hc2 (y.2.2.2.2.2.2 k' q' a1 a2 a3 (by omega))
      · omega
  · have e1 : upD d k q d' k2 q2 = d k2 q2 := by simp [upD, hc]
    have e2 : up3 R (kN k) q m (kN k2) q2 = R (kN k2) q2 := by
      rw [up3_eq]
      split
      · rename_i x
        exact absurd ⟨kN_j hk g1 x.1, x.2⟩ hc
      · rfl
    obtain ⟨l1, l2, l3⟩ := L k2 q2 g1 g2 g3
    rw [e1, e2]
    have hne : d k2 q2 = d k q → d k2 q2 = xE h := by
      intro x
      rcases (L k q hk q0 q1).2.1 with y | y
      · omega
      · exact absurd (y.2.2.2.2.2.2 k2 q2 g1 g2 g3 x) hc
    refine ⟨?_, ?_, fun j j0 j1 => ?_⟩
    · rw [hro _ (by rcases hk with rfl | rfl <;> rcases g1 with rfl | rfl <;> omega) (by omega)]
      exact l1
    · rcases l2 with x | x
      · exact Or.inl ⟨by rw [ee.2.1]; exact x.1, x.2⟩
      · have x2 := ee.2.2.2.1 _ x.2.1
        have x3 := ee.1
        refine Or.inr ⟨x.1, by omega, by rw [x2.1]; exact x.2.2.1, by rw [x2.2]; exact x.2.2.2.1, by rw [x2.2]; exact x.2.2.2.2.1, by rw [x2.2]; exact x.2.2.2.2.2.1, fun k' q' a1 a2 a3 a4 => ?_⟩
        by_cases hc2 : k' = k ∧ q' = q
        · obtain ⟨rfl, rfl⟩ := hc2
          have e3 : upD d k' q' d' k' q' = d' := by simp [upD]
          rw [e3] at a4
          rcases hd with ⟨y1, y2⟩ | y1
          · have := hne (by omega)
            omega
          · omega
        · have e3 : upD d k q d' k' q' = d k' q' := by simp [upD, hc2]
          rw [e3] at a4
          exact x.2.2.2.2.2.2 k' q' a1 a2 a3 a4
    · obtain ⟨p1, p2⟩ := l3 j j0 j1
      rw [hX k2 q2 j hc]
      refine ⟨?_, pa_e ee p2⟩
      have h1 := dl k2 q2 g1 g2 g3
      rw [hqo _ _ (fun x => ?_) h1]
      · exact p1
      · have := hne x
        rcases l2 with y | y
        · omega
        · omega
theorem ls_add {k x : Nat} {n c : Int} (L : lsI h c0 R d X) (hs : shC h c0 D FL) (sz : sE h c0) (hn : 0 ≤ n ∧ n < 6) (hc : 0 ≤ c ∧ c < 3) (hk : k = 1 ∨ k = 2) (hN : 0 ≤ R (kN k) (3 * n + c) ∧ R (kN k) (3 * n + c) ≤ 127) (hx : pa h c0 x) :
    ∃ h' d', f_AL_add1 (some (qL c0 n c k)) (some x) (vw h c0 (wF R F) Rr) = some (1, vw h' c0 (wF (up3 R (kN k) (3 * n + c) (R (kN k) (3 * n + c) + 1)) F) Rr) ∧ ex 302 52 h h' ∧ lsI h' c0 (up3 R (kN k) (3 * n + c) (R (kN k) (3 * n + c) + 1)) d' (upX X k (3 * n + c) (R (kN k) (3 * n + c)) x) ∧ xC h' ≤ xC h + 1 ∧ xS h' ≤ xS h + 200 := by
  have q0 : 0 ≤ 3 * n + c := by omega
  have q1 : 3 * n + c < 18 := by omega
  obtain ⟨l1, l2, l3⟩ := L k (3 * n + c) hk q0 q1
  have sz2 := sz
  obtain ⟨s1, s2, s3, s4⟩ := sz2
  have hka : xK h (qL c0 n c k) = 4 := by
    rcases hk with rfl | rfl
    · exact (sC_L hs hn hc).2.2.2.1
    · exact (sC_L hs hn hc).2.2.2.2.1
  have ha : qL c0 n c k = c0 + (3 + 16 * (3 * n + c).toNat + k) := by unfold qL; omega
  have hd := dI_ls hk q0 q1
  have l1' : xR h 300 (qL c0 n c k) = some (d k (3 * n + c)) := l1
  have ho : 3 + 16 * (3 * n + c).toNat + k < 373 := by omega
  generalize hq : 3 * n + c = q at *
  obtain ⟨x1, x2, x3⟩ := hx
  have hqa : qL c0 n c k = c0 + (3 + 16 * q.toNat) + k := by rw [ha]; omega
  have hXo : ∀ k' q' j, ¬ (k' = k ∧ q' = q) → upX X k q (R (kN k) q) x k' q' j = X k' q' j := by
    intro k' q' j hh
    unfold upX
    rw [if_neg (fun y => hh ⟨y.1, y.2.1⟩)]
  have hXj : ∀ j, j < R (kN k) q → upX X k q (R (kN k) q) x k q j = X k q j := by
    intro j hj
    unfold upX
    rw [if_neg (by omega)]
  have hXn : upX X k q (R (kN k) q) x k q (R (kN k) q) = x := by simp [upX]
  rcases l2 with ⟨y1, y2⟩ | ⟨y1, y2, y3, y4, y5, y6, y7⟩
  · have E := l_add2 (R := R) (F := F) (Rr := Rr) hka ha ho hd kN_36 (by rw [l1', y1]) s1 s2 y2 x1 x3 s4
    have ex1 : ex 302 52 h (wQ (wR (wY (wI h 302 (qL c0 n c k) (xI h 302 (qL c0 n c k) + 1)) 52 10) 300 (qL c0 n c k) (some (xZ h))) (xZ h) 0 (some x)) := by
      refine ⟨by show xZ h ≤ xZ h + 1; omega, rfl, rfl, fun a hz => ⟨?_, ?_⟩, fun f a hz hf => ?_, fun f a hz hf => ?_, fun a j hz hf => ?_, fun a j hz => ?_⟩
      · show va_up (xK h) (xZ h) 52 a = xK h a
        unfold va_up
        rw [if_neg (by omega)]
      · show va_up (xL h) (xZ h) 10 a = xL h a
        unfold va_up
        rw [if_neg (by omega)]
      · show up2 (xI h) 302 (qL c0 n c k) _ f a = xI h f a
        unfold up2
        rw [if_neg (fun y => hf y.1)]
      · show up2 (xR h) 300 (qL c0 n c k) _ f a = xR h f a
        unfold up2
        rw [if_neg (fun y => by omega)]
      · show up2 (va_up (xQ h) (xZ h) (fun _ => none)) (xZ h) 0 _ a j = xQ h a j
        unfold up2 va_up
        rw [if_neg (by omega), if_neg (by omega)]
      · show va_up (xA h) (xZ h) (fun _ => 0) a j = xA h a j
        unfold va_up
        rw [if_neg (by omega)]
    refine ⟨_, upD d k q (xZ h), by rw [E, y2]; rfl, ex1, ls_step L sz ex1 hk q0 q1 ?_ (fun a h1 h2 => ?_) (Or.inr (Nat.le_refl _)) (fun a j h1 h2 => ?_) ⟨s4, ?_, ?_, ?_, ?_, ?_⟩ hXo (fun j j0 j1 => ?_), ?_, ?_⟩
    · rw [← hqa]
      show up2 (xR h) 300 (qL c0 n c k) (some (xZ h)) 300 (qL c0 n c k) = _
      simp [up2]
    · show up2 (xR h) 300 (qL c0 n c k) (some (xZ h)) 300 a = _
      rw [hqa]
      simp [up2, h1]
    · show up2 (va_up (xQ h) (xZ h) (fun _ => none)) (xZ h) 0 _ a j = xQ h a j
      unfold up2 va_up
      rw [if_neg (by omega), if_neg (by omega)]
    · show xZ h < xZ h + 1
      omega
    · show va_up (xK h) (xZ h) 52 (xZ h) = 52
      simp [va_up]
    · show 10 ≤ va_up (xL h) (xZ h) 10 (xZ h)
      simp [va_up]
    · show va_up (xL h) (xZ h) 10 (xZ h) ≤ 200
      simp [va_up]
    · show R (kN k) q + 1 ≤ ((va_up (xL h) (xZ h) 10 (xZ h) : Nat) : Int)
      simp [va_up]
      omega
    · rw [y2] at hXn j1
      have : j = 0 := by omega
      subst this
      rw [y2, hXn]
      refine ⟨?_, pa_e (exL ex1) ⟨x1, x2, x3⟩⟩
      show up2 (va_up (xQ h) (xZ h) (fun _ => none)) (xZ h) 0 (some x) (xZ h) (Int.toNat 0) = some x
      simp [up2]
    · show xC h + 1 ≤ xC h + 1
      omega
    · show xS h + 10 ≤ xS h + 200
      omega
  · by_cases hl : R (kN k) q < xL h (d k q)
    · have E := l_add1 (R := R) (F := F) (Rr := Rr) hka ha (by omega) hd kN_36 l1' y3 hl hN.1 (by omega) x1 (by omega)
      have ex1 : ex 302 52 h (wQ (wI h 302 (qL c0 n c k) (xI h 302 (qL c0 n c k) + 1)) (d k q) (R (kN k) q).toNat (some x)) := by
        refine ⟨Nat.le_refl _, rfl, rfl, fun a hz => ⟨rfl, rfl⟩, fun f a hz hf => ?_, fun f a hz hf => rfl, fun a j hz hf => ?_, fun a j hz => rfl⟩
        · show up2 (xI h) 302 (qL c0 n c k) _ f a = xI h f a
          unfold up2
          rw [if_neg (fun y => hf y.1)]
        · show up2 (xQ h) (d k q) _ _ a j = xQ h a j
          unfold up2
          rw [if_neg (fun y => by rw [y.1] at hf; exact hf y3)]
      refine ⟨_, upD d k q (d k q), E, ex1, ls_step L sz ex1 hk q0 q1 (by rw [← hqa]; exact l1') (fun a h1 h2 => rfl) (Or.inl ⟨rfl, by omega⟩) (fun a j h1 h2 => ?_) ⟨y1, y2, y3, y4, y5, by show _ ≤ (xL h (d k q) : Int); omega⟩ hXo (fun j j0 j1 => ?_), ?_, ?_⟩
      · show up2 (xQ h) (d k q) _ _ a j = xQ h a j
        unfold up2
        rw [if_neg (fun y => h1 y.1)]
      · by_cases hj : j = R (kN k) q
        · subst hj
          rw [hXn]
          refine ⟨?_, pa_e (exL ex1) ⟨x1, x2, x3⟩⟩
          show up2 (xQ h) (d k q) (R (kN k) q).toNat (some x) (d k q) (R (kN k) q).toNat = _
          simp [up2]
        · rw [hXj j (by omega)]
          obtain ⟨p1, p2⟩ := l3 j j0 (by omega)
          refine ⟨?_, pa_e (exL ex1) p2⟩
          show up2 (xQ h) (d k q) (R (kN k) q).toNat (some x) (d k q) j.toNat = _
          unfold up2
          rw [if_neg (by omega)]
          exact p1
      · exact Nat.le_add_right _ _
      · exact Nat.le_add_right _ _
    · have hl2 : R (kN k) q = xL h (d k q) := by omega
      have E := l_add3 (R := R) (F := F) (Rr := Rr) hka ha ho hd kN_36 l1' y3 hl2 (by omega) (by omega) x1 x3 y2 s4 (by omega) (fun j hj => by
        obtain ⟨p1, p2⟩ := l3 j (by omega) (by omega)
        exact ⟨_, by simpa using p1, p2.1, p2.2.2⟩)
      have ex1 : ex 302 52 h (wQ (wR (wC (wY (wI h 302 (qL c0 n c k) (xI h 302 (qL c0 n c k) + 1)) 52 (xL h (d k q) + xL h (d k q) / 2)) (d k q) 0 (xZ h) 0 (xL h (d k q))) 300 (qL c0 n c k) (some (xZ h))) (xZ h) (xL h (d k q)) (some x)) := by
        refine ⟨by show xZ h ≤ xZ h + 1; omega, rfl, rfl, fun a hz => ⟨?_, ?_⟩, fun f a hz hf => ?_, fun f a hz hf => ?_, fun a j hz hf => ?_, fun a j hz => ?_⟩
        · show va_up (xK h) (xZ h) 52 a = xK h a
          unfold va_up
          rw [if_neg (by omega)]
        · show va_up (xL h) (xZ h) _ a = xL h a
          unfold va_up
          rw [if_neg (by omega)]
        · show up2 (xI h) 302 (qL c0 n c k) _ f a = xI h f a
          unfold up2
          rw [if_neg (fun y => hf y.1)]
        · show up2 (xR h) 300 (qL c0 n c k) _ f a = xR h f a
          unfold up2
          rw [if_neg (fun y => by omega)]
        · show (if a = xZ h ∧ j = xL h (d k q) then some x else if a = xZ h ∧ 0 ≤ j ∧ j < 0 + xL h (d k q) then va_up (xQ h) (xZ h) (fun _ => none) (d k q) (0 + (j - 0)) else va_up (xQ h) (xZ h) (fun _ => none) a j) = xQ h a j
          rw [if_neg (by omega), if_neg (by omega)]
          unfold va_up
          rw [if_neg (by omega)]
        · show va_up (xA h) (xZ h) (fun _ => 0) a j = xA h a j
          unfold va_up
          rw [if_neg (by omega)]
      refine ⟨_, upD d k q (xZ h), E, ex1, ls_step L sz ex1 hk q0 q1 ?_ (fun a h1 h2 => ?_) (Or.inr (Nat.le_refl _)) (fun a j h1 h2 => ?_) ⟨s4, ?_, ?_, ?_, ?_, ?_⟩ hXo (fun j j0 j1 => ?_), ?_, ?_⟩
      · rw [← hqa]
        show up2 (xR h) 300 (qL c0 n c k) (some (xZ h)) 300 (qL c0 n c k) = _
        simp [up2]
      · show up2 (xR h) 300 (qL c0 n c k) (some (xZ h)) 300 a = _
        rw [hqa]
        simp [up2, h1]
      · show (if a = xZ h ∧ j = xL h (d k q) then some x else if a = xZ h ∧ 0 ≤ j ∧ j < 0 + xL h (d k q) then va_up (xQ h) (xZ h) (fun _ => none) (d k q) (0 + (j - 0)) else va_up (xQ h) (xZ h) (fun _ => none) a j) = xQ h a j
        rw [if_neg (by omega), if_neg (by omega)]
        unfold va_up
        rw [if_neg (by omega)]
      · show xZ h < xZ h + 1
        omega
      · show va_up (xK h) (xZ h) 52 (xZ h) = 52
        simp [va_up]
      · show 10 ≤ va_up (xL h) (xZ h) (xL h (d k q) + xL h (d k q) / 2) (xZ h)
        simp [va_up]
        omega
      · show va_up (xL h) (xZ h) (xL h (d k q) + xL h (d k q) / 2) (xZ h) ≤ 200
        simp [va_up]
        omega
      · show R (kN k) q + 1 ≤ ((va_up (xL h) (xZ h) (xL h (d k q) + xL h (d k q) / 2) (xZ h) : Nat) : Int)
        simp [va_up]
        omega
      · by_cases hj : j = R (kN k) q
        · subst hj
          rw [hXn]
          refine ⟨?_, pa_e (exL ex1) ⟨x1, x2, x3⟩⟩
          show (if xZ h = xZ h ∧ (R (kN k) q).toNat = xL h (d k q) then some x else _) = some x
          rw [if_pos ⟨rfl, by omega⟩]
        · rw [hXj j (by omega)]
          obtain ⟨p1, p2⟩ := l3 j j0 (by omega)
          refine ⟨?_, pa_e (exL ex1) p2⟩
          show (if xZ h = xZ h ∧ j.toNat = xL h (d k q) then some x else if xZ h = xZ h ∧ 0 ≤ j.toNat ∧ j.toNat < 0 + xL h (d k q) then va_up (xQ h) (xZ h) (fun _ => none) (d k q) (0 + (j.toNat - 0)) else va_up (xQ h) (xZ h) (fun _ => none) (xZ h) j.toNat) = some (X k q j)
          rw [if_neg (by omega), if_pos (by omega)]
          unfold va_up
          rw [if_neg (by omega), show 0 + (j.toNat - 0) = j.toNat by omega]
          exact p1
      · show xC h + 1 ≤ xC h + 1
        omega
      · show xS h + (xL h (d k q) + xL h (d k q) / 2) ≤ xS h + 200
        omega
theorem ls_rem {k : Nat} {n c i : Int} (L : lsI h c0 R d X) (hs : shC h c0 D FL) (sz : sE h c0) (hn : 0 ≤ n ∧ n < 6) (hc : 0 ≤ c ∧ c < 3) (hk : k = 1 ∨ k = 2) (hi : 0 ≤ i ∧ i < R (kN k) (3 * n + c)) :
    ∃ h' d', f_AL_remove (some (qL c0 n c k)) i (vw h c0 (wF R F) Rr) = some (some (X k (3 * n + c) i), vw h' c0 (wF (up3 R (kN k) (3 * n + c) (R (kN k) (3 * n + c) - 1)) F) Rr) ∧ ex 302 52 h h' ∧ lsI h' c0 (up3 R (kN k) (3 * n + c) (R (kN k) (3 * n + c) - 1)) d' (shX X k (3 * n + c) i) ∧ xC h' = xC h ∧ xS h' = xS h := by
  have q0 : 0 ≤ 3 * n + c := by omega
  have q1 : 3 * n + c < 18 := by omega
  obtain ⟨l1, l2, l3⟩ := L k (3 * n + c) hk q0 q1
  have sz2 := sz
  obtain ⟨s1, s2, s3, s4⟩ := sz2
  have hka : xK h (qL c0 n c k) = 4 := by
    rcases hk with rfl | rfl
    · exact (sC_L hs hn hc).2.2.2.1
    · exact (sC_L hs hn hc).2.2.2.2.1
  have ha : qL c0 n c k = c0 + (3 + 16 * (3 * n + c).toNat + k) := by unfold qL; omega
  have hd := dI_ls hk q0 q1
  have l1' : xR h 300 (qL c0 n c k) = some (d k (3 * n + c)) := l1
  have ho : 3 + 16 * (3 * n + c).toNat + k < 373 := by omega
  generalize hq : 3 * n + c = q at *
  have hqa : qL c0 n c k = c0 + (3 + 16 * q.toNat) + k := by rw [ha]; omega
  rcases l2 with ⟨y1, y2⟩ | ⟨y1, y2, y3, y4, y5, y6, y7⟩
  · omega
  obtain ⟨h', E, e1, e2, e3, e4⟩ := l_rem (R := R) (F := F) (Rr := Rr) (x := X k q i) hka ha (by omega) hd kN_36 l1' y3 y6 (by omega) hi (l3 i hi.1 hi.2).1 (fun j hj => by
    obtain ⟨p1, p2⟩ := l3 j (by omega) (by omega)
    exact ⟨_, by simpa using p1, p2.1⟩)
  have ex1 : ex 302 52 h h' := by
    refine ⟨by rw [e1]; exact Nat.le_refl _, by rw [e1]; rfl, by rw [e1]; rfl, fun a hz => ⟨by rw [e1]; rfl, by rw [e1]; rfl⟩, fun f a hz hf => ?_, fun f a hz hf => by rw [e1]; rfl, fun a j hz hf => ?_, fun a j hz => by rw [e1]; rfl⟩
    · rw [e1]
      show up2 (xI h) 302 (qL c0 n c k) _ f a = xI h f a
      unfold up2
      rw [if_neg (fun y => hf y.1)]
    · exact e2 a j (fun y => by rw [y] at hf; exact hf y3)
  refine ⟨h', upD d k q (d k q), E, ex1, ls_step L sz ex1 hk q0 q1 (by rw [← hqa, e1]; exact l1') (fun a h1 h2 => by rw [e1]; rfl) (Or.inl ⟨rfl, by omega⟩) (fun a j h1 h2 => e2 a j h1) ⟨y1, by rw [e1]; exact y2, by rw [e1]; exact y3, by rw [e1]; exact y4, by rw [e1]; exact y5, by rw [e1]; show _ ≤ (xL h (d k q) : Int); omega⟩ (fun k' q' j hh => ?_) (fun j j0 j1 => ?_), by rw [e1]; rfl, by rw [e1]; rfl⟩
  · unfold shX
    rw [if_neg (fun y => hh ⟨y.1, y.2.1⟩)]
  · unfold shX
    by_cases hj : i ≤ j
    · rw [if_pos ⟨rfl, rfl, hj⟩, e4 _ (by omega) (by omega)]
      obtain ⟨p1, p2⟩ := l3 (j + 1) (by omega) (by omega)
      rw [show (j + 1).toNat = j.toNat + 1 by omega] at p1
      exact ⟨p1, pa_e (exL ex1) p2⟩
    · rw [if_neg (by omega), e3 _ (by omega)]
      obtain ⟨p1, p2⟩ := l3 j (by omega) (by omega)
      exact ⟨p1, pa_e (exL ex1) p2⟩
end Cls4
