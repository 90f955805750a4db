/-! The class's lists: add and remove -/
section Cls3
variable {α : Type} {h g : ev_hs} {c0 : Nat} {R Rr Rc : RS} {F : Int → Int} {D FL : Int}
theorem shr1 : ∀ n : Nat, n < 256 → eShr (n : Int) 1 = ((n / 2 : Nat) : Int) := by decide +kernel
theorem t_g2 {a o : Nat} {K : Int → Option α} (hk : xK h a = 4) (ha : a = c0 + o) (ho : o ≠ 373) : gI (vw h c0 Rc Rr) 3 2 (some a) K = K (xI h 302 a) := by
  unfold gI
  dsimp only
  rw [vv_K, if_pos hk, vw_Io ha d_302 ho]
theorem t_p2 {a o : Nat} {z : Int} {K : ev_hs → Option α} (hk : xK h a = 4) (ha : a = c0 + o) (ho : o ≠ 373) : pI (vw h c0 Rc Rr) 3 2 (some a) z K = K (vw (wI h 302 a z) c0 Rc Rr) := by
  unfold pI
  dsimp only
  rw [vv_K, if_pos hk, vw_wIo ha d_302 ho]
theorem t_g0 {a b : Nat} {K : Option Nat → Option α} (hk : xK h a = 4) (hr : xR h 300 a = some b) : gR (vw h c0 Rc Rr) 3 0 (some a) K = K (some b) := y_gR (c := 3) (k := 0) hk hr
theorem t_g1 {a o kk : Nat} {q : Int} {K : Int → Option α} (hk : xK h a = 4) (ha : a = c0 + o) (hd : dI 301 o = some (kk, q)) (h36 : kk ≠ 36) : gI (vw h c0 (wF R F) Rr) 3 1 (some a) K = K (R kk q) := y_gI (c := 3) (k := 1) hk ha hd h36
theorem t_p1 {a o kk : Nat} {q z : Int} {K : ev_hs → Option α} (hk : xK h a = 4) (ha : a = c0 + o) (hd : dI 301 o = some (kk, q)) (h36 : kk ≠ 36) : pI (vw h c0 (wF R F) Rr) 3 1 (some a) z K = K (vw h c0 (wF (up3 R kk q z) F) Rr) := y_pI (c := 3) (k := 1) hk ha hd h36
theorem t_v {a : Nat} {A : Option α} (hk : xK h a = 4) : vK (vw h c0 Rc Rr) 3 (some a) A = A := y_vK (c := 3) hk
theorem t_p0 {a : Nat} {v : Option Nat} {K : ev_hs → Option α} (hk : xK h a = 4) : pR (vw h c0 Rc Rr) 3 0 (some a) v K = K (vw (wR h 300 a v) c0 Rc Rr) := by
  unfold pR
  dsimp only
  rw [vv_K, if_pos hk]
  rfl
theorem t_sQ {t e d : Nat} {i : Int} {x : Nat} {K : ev_hs → Option α} (hk : xK h d = t) (h0 : 0 ≤ i) (h1 : i < xL h d) (hx : xK h x = e + 1) : sQ (vw h c0 Rc Rr) t e (some d) i (some x) K = K (vw (wQ h d i.toNat (some x)) c0 Rc Rr) := by
  unfold sQ
  dsimp only
  rw [if_pos ⟨by rw [vv_K]; exact hk, h0, by rw [vv_L]; exact h1, by unfold okQ; dsimp only; rw [vv_K, hx]; simp⟩]
  rfl
theorem t_sQn {t e d : Nat} {i : Int} {K : ev_hs → Option α} (hk : xK h d = t) (h0 : 0 ≤ i) (h1 : i < xL h d) : sQ (vw h c0 Rc Rr) t e (some d) i none K = K (vw (wQ h d i.toNat none) c0 Rc Rr) := by
  unfold sQ
  dsimp only
  rw [if_pos ⟨by rw [vv_K]; exact hk, h0, by rw [vv_L]; exact h1, by unfold okQ; rfl⟩]
  rfl
theorem t_nA {t : Nat} {n : Int} {K : Option Nat → ev_hs → Option α} (hz : c0 + 409 ≤ xZ h) (h0 : 0 ≤ n) (h1 : n ≤ 100000000) : nA (vw h c0 Rc Rr) t n K = K (some (xZ h)) (vw (wY h t n.toNat) c0 Rc Rr) := by
  unfold nA
  rw [if_pos ⟨h0, h1⟩, vv_Z, vw_wY hz]
theorem t_nO {c n : Nat} {K : Option Nat → ev_hs → Option α} (hz : c0 + 409 ≤ xZ h) : nO (vw h c0 Rc Rr) c n K = K (some (xZ h)) (vw (wN h c n) c0 Rc Rr) := by
  unfold nO
  rw [vv_Z, vw_wN hz]
theorem m_max {a b : Int} (ha : -2147483648 ≤ a ∧ a < 2147483648) (hb : -2147483648 ≤ b ∧ b < 2147483648) : f_Ma_max a b g = some (if a < b then b else a, g) := by
  simp (disch := omega) only [f_Ma_max, eLt_i, jn_eq]
  split <;> rfl
theorem m_min {a b : Int} (ha : -2147483648 ≤ a ∧ a < 2147483648) (hb : -2147483648 ≤ b ∧ b < 2147483648) : f_Ma_min a b g = some (if b < a then b else a, g) := by
  simp (disch := omega) only [f_Ma_min, eLt_i, jn_eq]
  split <;> rfl
-- one list: its object a (size: number kk of the view, at q), its row d
theorem l_add1 {a o d kk x : Nat} {q : Int} (hk : xK h a = 4) (ha : a = c0 + o) (ho : o ≠ 373) (hd : dI 301 o = some (kk, q)) (h36 : kk ≠ 36) (hr : xR h 300 a = some d) (dk : xK h d = 52) (dl : R kk q < xL h d) (d0 : 0 ≤ R kk q) (db : xL h d ≤ 300) (hx : xK h x = 11) (had : a ≠ d) :
    f_AL_add1 (some a) (some x) (vw h c0 (wF R F) Rr) = some (1, vw (wQ (wI h 302 a (xI h 302 a + 1)) d (R kk q).toNat (some x)) c0 (wF (up3 R kk q (R kk q + 1)) F) Rr) := by
  unfold f_AL_add1
  rw [t_g2 hk ha ho, t_p2 hk ha ho, t_g0 (h := wI h 302 a (xI h 302 a + 1)) (b := d) hk hr, t_g1 (h := wI h 302 a (xI h 302 a + 1)) hk ha hd h36, t_v (h := wI h 302 a (xI h 302 a + 1)) hk]
  unfold f_AL_add3
  rw [jn_eq, y_aL (h := wI h 302 a (xI h 302 a + 1)) (m := xL h d) dk rfl, eEq_i (by omega) (by omega) (by omega) (by omega), if_neg (by omega)]
  dsimp only
  rw [t_sQ (h := wI h 302 a (xI h 302 a + 1)) dk d0 dl hx, t_p1 (h := wQ (wI h 302 a (xI h 302 a + 1)) d (R kk q).toNat (some x)) hk ha hd h36]
  rfl
theorem l_add2 {a o kk x : Nat} {q : Int} (hk : xK h a = 4) (ha : a = c0 + o) (ho : o < 373) (hd : dI 301 o = some (kk, q)) (h36 : kk ≠ 36) (hr : xR h 300 a = some (xE h)) (dk : xK h (xE h) = 52) (dl : xL h (xE h) = 0) (d0 : R kk q = 0) (hx : xK h x = 11) (xz : x < xZ h) (hz : c0 + 409 ≤ xZ h) :
    f_AL_add1 (some a) (some x) (vw h c0 (wF R F) Rr) = some (1, vw (wQ (wR (wY (wI h 302 a (xI h 302 a + 1)) 52 10) 300 a (some (xZ h))) (xZ h) 0 (some x)) c0 (wF (up3 R kk q 1) F) Rr) := by
  have hne : a ≠ xZ h := by omega
  have hk1 : xK (wI h 302 a (xI h 302 a + 1)) a = 4 := hk
  have hk2 : xK (wY (wI h 302 a (xI h 302 a + 1)) 52 10) a = 4 := by
    show va_up (xK h) (xZ h) 52 a = 4
    unfold va_up
    rw [if_neg hne, hk]
  unfold f_AL_add1
  rw [t_g2 hk ha (by omega), t_p2 hk ha (by omega), t_g0 hk1 (b := xE h) hr, t_g1 hk1 ha hd h36, t_v hk1]
  unfold f_AL_add3
  rw [jn_eq, y_aL (h := wI h 302 a (xI h 302 a + 1)) (m := 0) dk dl, d0, eEq_i (by omega) (by omega) (by omega) (by omega), if_pos (by rfl), t_v hk1]
  unfold f_AL_grow0
  rw [t_g1 hk1 ha hd h36, t_v hk1, d0]
  unfold f_AL_grow1
  rw [jn_eq, t_g0 hk1 (b := xE h) hr, y_aL (h := wI h 302 a (xI h 302 a + 1)) (m := 0) dk dl, eLt_i (by omega) (by omega) (by omega) (by omega), if_neg (by omega), t_g0 hk1 (b := xE h) hr]
  unfold eAe
  rw [vv_E, if_pos (by rfl), m_max (by omega) (by omega), bI_some, if_neg (by omega), t_nA (by exact hz) (by omega) (by omega)]
  dsimp only
  rw [show Int.toNat 10 = 10 from rfl, t_p0 hk2, bR_some, bR_some]
  rw [t_sQ (x := x) (by show va_up (xK h) (xZ h) 52 (xZ h) = 52; simp [va_up]) (by omega) (by show (0 : Int) < ((va_up (xL h) (xZ h) 10 (xZ h) : Nat) : Int); simp [va_up]) (by show va_up (xK h) (xZ h) 52 x = 11; unfold va_up; rw [if_neg (by omega), hx])]
  rw [t_p1 (by exact hk2) ha hd h36]
  rfl
theorem l_add3 {a o d kk x : Nat} {q : Int} (hk : xK h a = 4) (ha : a = c0 + o) (ho : o < 373) (hd : dI 301 o = some (kk, q)) (h36 : kk ≠ 36) (hr : xR h 300 a = some d) (dk : xK h d = 52) (dl : R kk q = xL h d) (d1 : 2 ≤ xL h d) (db : xL h d ≤ 200) (hx : xK h x = 11) (xz : x < xZ h) (dz : d < xZ h) (hz : c0 + 409 ≤ xZ h) (hE : xE h ≠ d) (ok : ∀ j : Nat, j < xL h d → ∃ y, xQ h d j = some y ∧ xK h y = 11 ∧ y < xZ h) :
    f_AL_add1 (some a) (some x) (vw h c0 (wF R F) Rr) = some (1, vw (wQ (wR (wC (wY (wI h 302 a (xI h 302 a + 1)) 52 (xL h d + xL h d / 2)) d 0 (xZ h) 0 (xL h d)) 300 a (some (xZ h))) (xZ h) (xL h d) (some x)) c0 (wF (up3 R kk q (R kk q + 1)) F) Rr) := by
  have hne : a ≠ xZ h := by omega
  have hk1 : xK (wI h 302 a (xI h 302 a + 1)) a = 4 := hk
  have hk2 : xK (wC (wY (wI h 302 a (xI h 302 a + 1)) 52 (xL h d + xL h d / 2)) d 0 (xZ h) 0 (xL h d)) a = 4 := by
    show va_up (xK h) (xZ h) 52 a = 4
    unfold va_up
    rw [if_neg hne, hk]
  have hd2 : va_up (xK h) (xZ h) 52 d = 52 := by unfold va_up; rw [if_neg (by omega), dk]
  have hl2 : va_up (xL h) (xZ h) (xL h d + xL h d / 2) d = xL h d := by unfold va_up; rw [if_neg (by omega)]
  have hz2 : va_up (xK h) (xZ h) 52 (xZ h) = 52 := by simp [va_up]
  have hlz : va_up (xL h) (xZ h) (xL h d + xL h d / 2) (xZ h) = xL h d + xL h d / 2 := by simp [va_up]
  have es := shr1 (xL h d) (by omega)
  unfold f_AL_add1
  rw [t_g2 hk ha (by omega), t_p2 hk ha (by omega), t_g0 hk1 (b := d) hr, t_g1 hk1 ha hd h36, t_v hk1]
  unfold f_AL_add3
  rw [jn_eq, y_aL (h := wI h 302 a (xI h 302 a + 1)) (m := xL h d) dk rfl, dl, eEq_i (by omega) (by omega) (by omega) (by omega), if_pos (by rfl), t_v hk1]
  unfold f_AL_grow0
  rw [t_g1 hk1 ha hd h36, t_v hk1, dl]
  unfold f_AL_grow1
  rw [jn_eq, t_g0 hk1 (b := d) hr, y_aL (h := wI h 302 a (xI h 302 a + 1)) (m := xL h d) dk rfl, eLt_i (by omega) (by omega) (by omega) (by omega), if_pos (by omega)]
  dsimp only
  unfold f_As_newLength
  rw [jn_eq, es, m_max (by omega) (by omega), bI_some]
  rw [show (if (xL h d : Int) + 1 - (xL h d : Int) < ((xL h d / 2 : Nat) : Int) then ((xL h d / 2 : Nat) : Int) else (xL h d : Int) + 1 - (xL h d : Int)) = ((xL h d / 2 : Nat) : Int) by split <;> omega]
  rw [eLt_i (by omega) (by omega) (by omega) (by omega), if_pos (by omega), eLt_i (by omega) (by omega) (by omega) (by omega), if_neg (by omega), bI_some, t_g0 hk1 (b := d) hr]
  unfold f_Ar_copyOf2
  have eg : ∀ K : Option Nat → Option (Option Nat × ev_hs), eGc (vw (wI h 302 a (xI h 302 a + 1)) c0 (wF R F) Rr) 52 (some d) K = K (some (xM h)) := by
    intro K
    unfold eGc
    dsimp only
    rw [if_pos ⟨dk, by rw [vv_L]; show 0 < xL h d; omega⟩]
    rfl
  rw [eg]
  unfold f_Ar_copyOf3 eAe
  rw [if_pos (by rfl), t_nA (by exact hz) (by omega) (by omega)]
  rw [show ((xL h d : Int) + ((xL h d / 2 : Nat) : Int)).toNat = xL h d + xL h d / 2 by omega]
  rw [y_aL (h := wY (wI h 302 a (xI h 302 a + 1)) 52 (xL h d + xL h d / 2)) (m := xL h d) hd2 hl2, m_min (by omega) (by omega), bI_some, if_neg (by omega)]
  have ec : ∀ K : ev_hs → Option (Option Nat × ev_hs), cQ (vw (wY (wI h 302 a (xI h 302 a + 1)) 52 (xL h d + xL h d / 2)) c0 (wF R F) Rr) 52 10 (some d) 0 (some (xZ (wI h 302 a (xI h 302 a + 1)))) 0 (xL h d) K = K (vw (wC (wY (wI h 302 a (xI h 302 a + 1)) 52 (xL h d + xL h d / 2)) d 0 (xZ h) 0 (xL h d)) c0 (wF R F) Rr) := by
    intro K
    unfold cQ
    dsimp only
    rw [if_pos]
    · rfl
    · refine ⟨hd2, hz2, by omega, by omega, by omega, ?_, ?_, ?_, by omega⟩
      · show (0 : Int) + (xL h d : Int) ≤ ((va_up (xL h) (xZ h) (xL h d + xL h d / 2) d : Nat) : Int)
        rw [hl2]; omega
      · show (0 : Int) + (xL h d : Int) ≤ ((va_up (xL h) (xZ h) (xL h d + xL h d / 2) (xZ h) : Nat) : Int)
        rw [hlz]; omega
      · unfold okR
        rw [List.all_eq_true]
        intro i hi
        rw [List.mem_range] at hi
        obtain ⟨y, y1, y2, y3⟩ := ok i (by omega)
        have : xQ (vw (wY (wI h 302 a (xI h 302 a + 1)) 52 (xL h d + xL h d / 2)) c0 (wF R F) Rr) d (Int.toNat 0 + i) = some y := by
          show va_up (xQ h) (xZ h) (fun _ => none) d (Int.toNat 0 + i) = some y
          unfold va_up
          rw [if_neg (by omega), show Int.toNat 0 + i = i by simp, y1]
        rw [this]
        unfold okQ
        dsimp only
        rw [vv_K]
        show (va_up (xK h) (xZ h) 52 y == 10 + 1) = true
        unfold va_up
        rw [if_neg (by omega), y2]
        rfl
  rw [ec, bR_some, bR_some, t_p0 hk2, bR_some, bR_some]
  rw [t_sQ (x := x) (by exact hz2) (by omega) (by show (xL h d : Int) < ((va_up (xL h) (xZ h) (xL h d + xL h d / 2) (xZ h) : Nat) : Int); rw [hlz]; omega) (by show va_up (xK h) (xZ h) 52 x = 11; unfold va_up; rw [if_neg (by omega), hx])]
  rw [t_p1 (by exact hk2) ha hd h36]
  rw [show ((xL h d : Int)).toNat = xL h d by omega]
  rfl
-- remove: the list without its element i
theorem l_rem {a o d kk x : Nat} {i q : Int} (hk : xK h a = 4) (ha : a = c0 + o) (ho : o ≠ 373) (hd : dI 301 o = some (kk, q)) (h36 : kk ≠ 36) (hr : xR h 300 a = some d) (dk : xK h d = 52) (dl : R kk q ≤ xL h d) (db : xL h d ≤ 300) (hi : 0 ≤ i ∧ i < R kk q) (hq : xQ h d i.toNat = some x) (ok : ∀ j : Nat, j < (R kk q).toNat → ∃ y, xQ h d j = some y ∧ xK h y = 11) :
    ∃ h', f_AL_remove (some a) i (vw h c0 (wF R F) Rr) = some (some x, vw h' c0 (wF (up3 R kk q (R kk q - 1)) F) Rr) ∧ h' = (xK h, up2 (xI h) 302 a (xI h 302 a + 1), xR h, xL h, xA h, xQ h', xZ h, xC h, xS h, xE h, xM h) ∧ (∀ b j, b ≠ d → xQ h' b j = xQ h b j) ∧ (∀ j : Nat, j < i.toNat → xQ h' d j = xQ h d j) ∧ ∀ j : Nat, i.toNat ≤ j → (j : Int) < R kk q - 1 → xQ h' d j = xQ h d (j + 1) := by
  have hk1 : xK (wI h 302 a (xI h 302 a + 1)) a = 4 := hk
  have e1 : ∀ h2 : ev_hs, xK h2 = xK h → xL h2 = xL h → (bV (some (vw (wQ h2 d (R kk q - 1).toNat none) c0 (wF (up3 R kk q (R kk q - 1)) F) Rr)) (fun g6 => some (some x, g6)) : Option (Option Nat × ev_hs)) = some (some x, vw (wQ h2 d (R kk q - 1).toNat none) c0 (wF (up3 R kk q (R kk q - 1)) F) Rr) := fun _ _ _ => rfl
  unfold f_AL_remove
  rw [t_g1 hk ha hd h36]
  unfold f_Os_checkIndex f_Pr_checkIndex
  rw [jn_eq, eLt_i (by omega) (by omega) (by omega) (by omega), if_neg (by omega), eLt_i (by omega) (by omega) (by omega) (by omega), if_pos (by omega), bI_some, bI_some, t_g0 hk (b := d) hr, y_lQ (m := xL h d) dk rfl (by omega) (by omega) hq, t_v hk]
  unfold f_AL_fastRemove
  rw [jn_eq, t_g2 hk ha ho, t_p2 hk ha ho, t_g1 hk1 ha hd h36, eLt_i (by omega) (by omega) (by omega) (by omega)]
  by_cases hl : i < R kk q - 1
  · rw [if_pos hl]
    have ec : ∀ K : ev_hs → Option ev_hs, cQ (vw (wI h 302 a (xI h 302 a + 1)) c0 (wF R F) Rr) 52 10 (some d) (i + 1) (some d) i (R kk q - 1 - i) K = K (vw (wC (wI h 302 a (xI h 302 a + 1)) d (i + 1).toNat d i.toNat (R kk q - 1 - i).toNat) c0 (wF R F) Rr) := by
      intro K
      unfold cQ
      dsimp only
      rw [if_pos]
      · rfl
      · refine ⟨dk, dk, by omega, by omega, by omega, ?_, ?_, ?_, by omega⟩
        · show i + 1 + (R kk q - 1 - i) ≤ (xL h d : Int)
          omega
        · show i + (R kk q - 1 - i) ≤ (xL h d : Int)
          omega
        · unfold okR
          rw [List.all_eq_true]
          intro j hj
          rw [List.mem_range] at hj
          obtain ⟨y, y1, y2⟩ := ok ((i + 1).toNat + j) (by omega)
          have : xQ (vw (wI h 302 a (xI h 302 a + 1)) c0 (wF R F) Rr) d ((i + 1).toNat + j) = some y := y1
          rw [this]
          unfold okQ
          dsimp only
          show (xK h y == 10 + 1) = true
          rw [y2]
          rfl
    rw [ec]
    dsimp only
    rw [t_p1 (by exact hk1) ha hd h36, t_sQn (by exact dk) (by omega) (by show R kk q - 1 < (xL h d : Int); omega)]
    refine ⟨_, rfl, rfl, fun b j hb => ?_, fun j hj => ?_, fun j hj hj2 => ?_⟩
    · simp [wQ, wC, wI, xQ, up2, hb]
    · show (if d = d ∧ j = (R kk q - 1).toNat then none else if d = d ∧ i.toNat ≤ j ∧ j < i.toNat + (R kk q - 1 - i).toNat then xQ h d ((i + 1).toNat + (j - i.toNat)) else xQ h d j) = xQ h d j
      rw [if_neg (by omega), if_neg (by omega)]
    · show (if d = d ∧ j = (R kk q - 1).toNat then none else if d = d ∧ i.toNat ≤ j ∧ j < i.toNat + (R kk q - 1 - i).toNat then xQ h d ((i + 1).toNat + (j - i.toNat)) else xQ h d j) = xQ h d (j + 1)
      rw [if_neg (by omega), if_pos ⟨rfl, by omega, by omega⟩, show (i + 1).toNat + (j - i.toNat) = j + 1 by omega]
  · rw [if_neg hl]
    dsimp only
    rw [t_p1 (by exact hk1) ha hd h36, t_sQn (by exact dk) (by omega) (by show R kk q - 1 < (xL h d : Int); omega)]
    refine ⟨_, rfl, rfl, fun b j hb => ?_, fun j hj => ?_, fun j hj hj2 => ?_⟩
    · simp [wQ, wI, xQ, up2, hb]
    · show (if d = d ∧ j = (R kk q - 1).toNat then none else xQ h d j) = xQ h d j
      rw [if_neg (by omega)]
    · omega
end Cls3
