/-! The class's lists -/
section Cls2
variable {α : Type} {h g : ev_hs} {c0 : Nat} {R Rr Rc : RS} {F : Int → Int} {D FL : Int}
-- new cells and writes outside the view
theorem vw_wN {c n : Nat} (hz : c0 + 409 ≤ xZ h) : wN (vw h c0 Rc Rr) c n = vw (wN h c n) c0 Rc Rr := by
  have e : (fun f a => if a = xZ h then 0 else vI h c0 Rc Rr f a) = vI (wN h c n) c0 Rc Rr := by
    funext f a
    unfold vI
    by_cases ha : a = xZ h
    · subst ha
      rw [if_pos rfl, if_neg (by omega), dI_big (by omega)]
      dsimp only
      rw [if_neg (by omega)]
      simp [wN, xI]
    · rw [if_neg ha]
      have : xI (wN h c n) f a = xI h f a := by simp [wN, xI, xZ] at *; simp [ha]
      rw [this]
  unfold wN
  rw [vv_K, vv_R, vv_L, vv_Q, vv_Z, vv_C, vv_S, vv_E, vv_M]
  show (_, (fun f a => if a = xZ h then 0 else vI h c0 Rc Rr f a), _, _, vA h c0 Rc Rr, _, _, _, _, _, _) = _
  rw [e]
  rfl
theorem vw_wY {t n : Nat} (hz : c0 + 409 ≤ xZ h) : wY (vw h c0 Rc Rr) t n = vw (wY h t n) c0 Rc Rr := by
  have e : va_up (vA h c0 Rc Rr) (xZ h) (fun _ => 0) = vA (wY h t n) c0 Rc Rr := by
    funext a j
    unfold vA va_up
    by_cases ha : a = xZ h
    · subst ha
      rw [if_pos rfl, if_neg (by omega), dA_big (by omega)]
      dsimp only
      rw [if_neg (by omega)]
      simp [wY, xA, va_up]
    · rw [if_neg ha]
      have : xA (wY h t n) a j = xA h a j := by simp [wY, xA, xZ, va_up] at *; simp [ha]
      rw [this]
  unfold wY
  rw [vv_K, vv_R, vv_L, vv_Q, vv_Z, vv_C, vv_S, vv_E, vv_M]
  show (_, vI h c0 Rc Rr, _, _, va_up (vA h c0 Rc Rr) (xZ h) (fun _ => 0), _, _, _, _, _, _) = _
  rw [e]
  rfl
theorem vw_wIo {f a o : Nat} {z : Int} (ha : a = c0 + o) (hd : dI f o = none) (ho : o ≠ 373) : wI (vw h c0 Rc Rr) f a z = vw (wI h f a z) c0 Rc Rr := by
  subst ha
  have e : up2 (vI h c0 Rc Rr) f (c0 + o) z = vI (wI h f (c0 + o) z) c0 Rc Rr := by
    funext g b
    unfold vI up2
    by_cases hb : g = f ∧ b = c0 + o
    · obtain ⟨rfl, rfl⟩ := hb
      rw [if_pos ⟨rfl, rfl⟩, if_neg (by omega), show c0 + o - c0 = o by omega, hd]
      dsimp only
      rw [if_neg (by omega)]
      simp [wI, xI, up2]
    · rw [if_neg hb]
      have : xI (wI h f (c0 + o) z) g b = xI h g b := by simp [wI, xI, up2, hb]
      rw [this]
  show (xK h, up2 (vI h c0 Rc Rr) f (c0 + o) z, xR h, xL h, vA h c0 Rc Rr, xQ h, xZ h, xC h, xS h, xE h, xM h) = _
  rw [e]
  rfl
theorem vw_wI9 {f a : Nat} {z : Int} (ha : c0 + 409 ≤ a) : wI (vw h c0 Rc Rr) f a z = vw (wI h f a z) c0 Rc Rr := vw_wIo (o := a - c0) (by omega) (dI_big (by omega)) (by omega)
theorem vw_I9 {f a : Nat} (ha : c0 + 409 ≤ a) : xI (vw h c0 Rc Rr) f a = xI h f a := by
  show vI h c0 Rc Rr f a = _
  unfold vI
  rw [if_neg (by omega), dI_big (by omega)]
  dsimp only
  rw [if_neg (by omega)]
theorem vw_Io {f a o : Nat} (ha : a = c0 + o) (hd : dI f o = none) (ho : o ≠ 373) : xI (vw h c0 Rc Rr) f a = xI h f a := by
  subst ha
  show vI h c0 Rc Rr f (c0 + o) = _
  unfold vI
  rw [if_neg (by omega), show c0 + o - c0 = o by omega, hd]
  dsimp only
  rw [if_neg (by omega)]
theorem vw_wR {f a : Nat} {v : Option Nat} : wR (vw h c0 Rc Rr) f a v = vw (wR h f a v) c0 Rc Rr := rfl
theorem vw_wQ {a j : Nat} {v : Option Nat} : wQ (vw h c0 Rc Rr) a j v = vw (wQ h a j v) c0 Rc Rr := rfl
theorem vw_wC {a s d p n : Nat} : wC (vw h c0 Rc Rr) a s d p n = vw (wC h a s d p n) c0 Rc Rr := rfl
theorem d_302 {o : Nat} : dI 302 o = none := by simp [dI]
-- what stays: cells of h keep kind and length, their ints but field f0, their references but those of lists (f = 300), rows of references but those of kind q0
def ex (f0 q0 : Nat) (h h' : ev_hs) : Prop := xZ h ≤ xZ h' ∧ xE h' = xE h ∧ xM h' = xM h ∧ (∀ a, a < xZ h → xK h' a = xK h a ∧ xL h' a = xL h a) ∧ (∀ f a, a < xZ h → f ≠ f0 → xI h' f a = xI h f a) ∧ (∀ f a, a < xZ h → (f ≠ 300 ∨ q0 ≠ 52) → xR h' f a = xR h f a) ∧ (∀ a j, a < xZ h → xK h a ≠ q0 → xQ h' a j = xQ h a j) ∧ ∀ a j, a < xZ h → xA h' a j = xA h a j
def ext (h h' : ev_hs) : Prop := xZ h ≤ xZ h' ∧ xE h' = xE h ∧ xM h' = xM h ∧ (∀ a, a < xZ h → xK h' a = xK h a ∧ xL h' a = xL h a) ∧ (∀ f a, a < xZ h → f ≠ 302 → f ≠ 903 → xI h' f a = xI h f a) ∧ (∀ f a, a < xZ h → f ≠ 300 → xR h' f a = xR h f a) ∧ (∀ a j, a < xZ h → xK h a ≠ 52 → xK h a ≠ 57 → xQ h' a j = xQ h a j) ∧ ∀ a j, a < xZ h → xA h' a j = xA h a j
theorem exL {h' : ev_hs} (e : ex 302 52 h h') : ext h h' := ⟨e.1, e.2.1, e.2.2.1, e.2.2.2.1, fun f a ha h1 _ => e.2.2.2.2.1 f a ha h1, fun f a ha h1 => e.2.2.2.2.2.1 f a ha (Or.inl h1), fun a j ha h1 _ => e.2.2.2.2.2.2.1 a j ha h1, e.2.2.2.2.2.2.2⟩
theorem exF {h' : ev_hs} (e : ex 903 57 h h') : ext h h' := ⟨e.1, e.2.1, e.2.2.1, e.2.2.2.1, fun f a ha _ h1 => e.2.2.2.2.1 f a ha h1, fun f a ha h1 => e.2.2.2.2.2.1 f a ha (Or.inl h1), fun a j ha _ h1 => e.2.2.2.2.2.2.1 a j ha h1, e.2.2.2.2.2.2.2⟩
theorem ext_r : ext h h := ⟨Nat.le_refl _, rfl, rfl, fun _ _ => ⟨rfl, rfl⟩, fun _ _ _ _ _ => rfl, fun _ _ _ _ => rfl, fun _ _ _ _ _ => rfl, fun _ _ _ => rfl⟩
theorem ext_t {h2 h3 : ev_hs} (e : ext h h2) (e' : ext h2 h3) : ext h h3 := by
  obtain ⟨a1, a2, a3, a4, a5, a6, a7, a8⟩ := e
  obtain ⟨b1, b2, b3, b4, b5, b6, b7, b8⟩ := e'
  refine ⟨by omega, b2.trans a2, b3.trans a3, fun a ha => ?_, fun f a ha x y => ?_, fun f a ha x => ?_, fun a j ha x y => ?_, fun a j ha => ?_⟩
  · have := b4 a (by omega); have := a4 a ha; omega
  · rw [b5 f a (by omega) x y, a5 f a ha x y]
  · rw [b6 f a (by omega) x, a6 f a ha x]
  · rw [b7 a j (by omega) (by rw [(a4 a ha).1]; exact x) (by rw [(a4 a ha).1]; exact y), a7 a j ha x y]
  · rw [b8 a j (by omega), a8 a j ha]
theorem ex_t {f0 q0 : Nat} {h2 h3 : ev_hs} (e : ex f0 q0 h h2) (e' : ex f0 q0 h2 h3) : ex f0 q0 h h3 := by
  obtain ⟨a1, a2, a3, a4, a5, a6, a7, a8⟩ := e
  obtain ⟨b1, b2, b3, b4, b5, b6, b7, b8⟩ := e'
  refine ⟨by omega, b2.trans a2, b3.trans a3, fun a ha => ?_, fun f a ha x => ?_, fun f a ha x => ?_, fun a j ha x => ?_, fun a j ha => ?_⟩
  · have := b4 a (by omega); have := a4 a ha; omega
  · rw [b5 f a (by omega) x, a5 f a ha x]
  · rw [b6 f a (by omega) x, a6 f a ha x]
  · rw [b7 a j (by omega) (by rw [(a4 a ha).1]; exact x), a7 a j ha x]
  · rw [b8 a j (by omega), a8 a j ha]
theorem sLa_e {h' : ev_hs} {a : Nat} {n : Int} (e : ext h h') (ha : a + 16 ≤ xZ h) (s : sLa h a D n) : sLa h' a D n := by
  obtain ⟨e1, e2, e3, e4, e5, e6, e7, e8⟩ := e
  obtain ⟨s1, s2, s3, s4, s5, s6, s7, s8, s9⟩ := s
  refine ⟨?_, ?_, fun k k1 k2 => ?_, ?_, ?_, ?_, ?_, ?_, fun p hp => ?_⟩
  · rw [(e4 a (by omega)).1]; exact s1
  · rw [e5 _ _ (by omega) (by omega) (by omega)]; exact s2
  · rw [e6 _ _ (by omega) (by omega)]; exact s3 k k1 k2
  · rw [(e4 _ (by omega)).1]; exact s4
  · rw [(e4 _ (by omega)).1]; exact s5
  · rw [(e4 _ (by omega)).1, (e4 _ (by omega)).2]; exact s6
  · rw [(e4 _ (by omega)).1, (e4 _ (by omega)).2]; exact s7
  · rw [(e4 _ (by omega)).1, (e4 _ (by omega)).2]; exact s8
  · obtain ⟨t1, t2, t3, t4, t5⟩ := s9 p hp
    refine ⟨?_, ?_, ?_, ?_, ?_⟩
    · rw [e7 _ _ (by omega) (by omega) (by omega)]; exact t1
    · rw [(e4 _ (by omega)).1]; exact t2
    · rw [e6 _ _ (by omega) (by omega)]; exact t3
    · rw [(e4 _ (by omega)).1]; exact t4
    · rw [(e4 _ (by omega)).2]; exact t5
theorem shC_e {h' : ev_hs} (e : ext h h') (hz : c0 + 409 ≤ xZ h) (s : shC h c0 D FL) : shC h' c0 D FL := by
  have ee := e
  obtain ⟨e1, e2, e3, e4, e5, e6, e7, e8⟩ := e
  obtain ⟨s1, s2, s3, s4, s5⟩ := s
  refine ⟨?_, ?_, ⟨?_, ?_, fun t ht => ⟨?_, sLa_e ee (by omega) (s3.2.2 t ht).2⟩⟩, ⟨?_, ?_, fun t ht => ⟨?_, ?_⟩⟩, ⟨?_, ?_, fun t ht => ⟨?_, ?_⟩⟩⟩
  · rw [(e4 _ (by omega)).1, e6 _ _ (by omega) (by omega), e6 _ _ (by omega) (by omega), e6 _ _ (by omega) (by omega)]; exact s1
  · rw [(e4 _ (by omega)).1, e6 _ _ (by omega) (by omega), e5 _ _ (by omega) (by omega) (by omega)]; exact s2
  · rw [(e4 _ (by omega)).1]; exact s3.1
  · rw [(e4 _ (by omega)).2]; exact s3.2.1
  · rw [e7 _ _ (by omega) (by omega) (by omega)]; exact (s3.2.2 t ht).1
  · rw [(e4 _ (by omega)).1]; exact s4.1
  · rw [(e4 _ (by omega)).2]; exact s4.2.1
  · rw [e7 _ _ (by omega) (by omega) (by omega)]; exact (s4.2.2 t ht).1
  · have := (s4.2.2 t ht).2
    unfold sHo at *
    rw [(e4 _ (by omega)).1, e6 _ _ (by omega) (by omega), e5 _ _ (by omega) (by omega) (by omega), e5 _ _ (by omega) (by omega) (by omega)]; exact this
  · rw [(e4 _ (by omega)).1]; exact s5.1
  · rw [(e4 _ (by omega)).2]; exact s5.2.1
  · rw [e7 _ _ (by omega) (by omega) (by omega)]; exact (s5.2.2 t ht).1
  · obtain ⟨⟨a1, a2, a3, a4, a5, a6⟩, ⟨b1, b2, b3, b4⟩, d1, d2, d3⟩ := (s5.2.2 t ht).2
    refine ⟨⟨?_, ?_, ?_, ?_, ?_, ?_⟩, ⟨?_, ?_, ?_, fun k k1 k2 => ⟨?_, ?_, ?_⟩⟩, ?_, ?_, fun k k1 k2 => ⟨?_, ?_, ?_⟩⟩
    · rw [(e4 _ (by omega)).1]; exact a1
    · rw [e5 _ _ (by omega) (by omega) (by omega)]; exact a2
    · rw [e6 _ _ (by omega) (by omega)]; exact a3
    · rw [e6 _ _ (by omega) (by omega)]; exact a4
    · rw [e6 _ _ (by omega) (by omega)]; exact a5
    · rw [e6 _ _ (by omega) (by omega)]; exact a6
    · rw [(e4 _ (by omega)).1]; exact b1
    · rw [e5 _ _ (by omega) (by omega) (by omega)]; exact b2
    · rw [e6 _ _ (by omega) (by omega)]; exact b3
    · rw [e6 _ _ (by omega) (by omega)]; exact (b4 k k1 k2).1
    · rw [(e4 _ (by omega)).1]; exact (b4 k k1 k2).2.1
    · rw [(e4 _ (by omega)).2]; exact (b4 k k1 k2).2.2
    · rw [(e4 _ (by omega)).1]; exact d1
    · rw [e6 _ _ (by omega) (by omega)]; exact d2
    · rw [e6 _ _ (by omega) (by omega)]; exact (d3 k k1 k2).1
    · rw [(e4 _ (by omega)).1]; exact (d3 k k1 k2).2.1
    · rw [(e4 _ (by omega)).2]; exact (d3 k k1 k2).2.2
theorem shR_e {h' : ev_hs} (e : ext h h') (hz : c0 + 409 ≤ xZ h) (s : shR h c0) : shR h' c0 := by
  obtain ⟨e1, e2, e3, e4, e5, e6, e7, e8⟩ := e
  refine ⟨?_, fun k k1 k2 => ⟨?_, ?_, ?_⟩⟩
  · rw [(e4 _ (by omega)).1]; exact s.1
  · rw [e6 _ _ (by omega) (by omega)]; exact (s.2 k k1 k2).1
  · rw [(e4 _ (by omega)).1]; exact (s.2 k k1 k2).2.1
  · rw [(e4 _ (by omega)).2]; exact (s.2 k k1 k2).2.2
end Cls2
