/-! The class's packets and flits: what they say, and sending -/
section Cls5
variable {α : Type} {h g : ev_hs} {c0 : Nat} {R T Rr Rc : RS} {F : Int → Int} {D FL : Int} {d : Nat → Int → Nat} {X : Nat → Int → Int → Nat} {Y : Int → Int → Nat}
def vis (k : Nat) : Bool := k == 0 || k == 10 || k == 11 || k == 13 || (decide (17 ≤ k) && k != 35)
theorem dI_v {f o k : Nat} {i : Int} (hd : dI f o = some (k, i)) : vis k = true := by
  grind (splits := 40) [dI, vis]
theorem dA_v {o j k : Nat} {i : Int} (hd : dA o j = some (k, i)) : vis k = true := by
  grind (splits := 40) [dA, vis]
theorem vw_vis (e : ∀ k i, vis k = true → T k i = R k i) : vw h c0 (wF T F) Rr = vw h c0 (wF R F) Rr := by
  have e0 : ∀ k i, vis k = true → wF T F k i = wF R F k i := by
    intro k i hk
    unfold wF
    rw [e k i hk]
  have e1 : vI h c0 (wF T F) Rr = vI h c0 (wF R F) Rr := by
    funext f a
    unfold vI
    cases hd : dI f (a - c0) with
    | none => rfl
    | some x => dsimp only; rw [e0 x.1 x.2 (dI_v (k := x.1) (i := x.2) hd)]
  have e2 : vA h c0 (wF T F) Rr = vA h c0 (wF R F) Rr := by
    funext a j
    unfold vA
    cases hd : dA (a - c0) j with
    | none => rfl
    | some x => dsimp only; rw [e0 x.1 x.2 (dA_v (k := x.1) (i := x.2) hd)]
  unfold vw
  rw [e1, e2]
def pk (h : ev_hs) (R : RS) (p : Int) (a : Nat) : Prop := xI h 1000 a = R 2 p ∧ xI h 1001 a = R 3 p ∧ xI h 1002 a = R 4 p ∧ (R 2 p ≤ 3 → xI h 1003 a = R 5 p) ∧ (4 ≤ R 2 p → R 2 p ≤ 6 → xI h 1003 a = R 6 p) ∧ ((R 2 p = 3 ∨ R 2 p = 8 ∨ R 2 p = 10) → xI h 1004 a = R 7 p) ∧ (R 2 p = 8 → xI h 1005 a = R 8 p) ∧ xI h 1006 a = nSz R p
theorem pk_e {h' : ev_hs} {p : Int} {a : Nat} (e : ext h h') (ha : a < xZ h) (s : pk h R p a) : pk h' R p a := by
  obtain ⟨e1, e2, e3, e4, e5, e6, e7, e8⟩ := e
  unfold pk at *
  rw [e5 1000 a ha (by omega) (by omega), e5 1001 a ha (by omega) (by omega), e5 1002 a ha (by omega) (by omega), e5 1003 a ha (by omega) (by omega), e5 1004 a ha (by omega) (by omega), e5 1005 a ha (by omega) (by omega), e5 1006 a ha (by omega) (by omega)]
  exact s
theorem pk_c {p : Int} {a : Nat} (k : ∀ a, 2 ≤ a → a ≤ 8 → T a p = R a p) (k0 : T 0 1 = R 0 1) (s : pk h R p a) : pk h T p a := by
  unfold pk nSz at *
  rw [k 2 (by omega) (by omega), k 3 (by omega) (by omega), k 4 (by omega) (by omega), k 5 (by omega) (by omega), k 6 (by omega) (by omega), k 7 (by omega) (by omega), k 8 (by omega) (by omega), k0]
  exact s
def plI (h : ev_hs) (R : RS) (X : Nat → Int → Int → Nat) : Prop := ∀ k q j, (k = 1 ∨ k = 2) → 0 ≤ q → q < 18 → 0 ≤ j → j < R (kN k) q → pk h R (R (kE k) (128 * q + j)) (X k q j)
def qB (c0 : Nat) (b : Int) : Nat := c0 + (3 + 16 * (3 * (b / 15) + b % 3).toNat) + (6 + 2 * (b % 15 / 3).toNat + 1)
def fk (h : ev_hs) (c0 : Nat) (R : RS) (s : Int) (f : Nat) : Prop := c0 + 409 ≤ f ∧ f < xZ h ∧ xK h f = 10 ∧ xI h 901 f = (if R 15 s = 0 then 1 else 0) ∧ xI h 902 f = (if R 15 s = nSz R (R 14 s) - 1 then 1 else 0) ∧ xI h 903 f = R 16 s ∧ ∃ a, xR h 900 f = some a ∧ pa h c0 a ∧ pk h R (R 14 s) a
def flI (h : ev_hs) (c0 : Nat) (R : RS) (Y : Int → Int → Nat) : Prop :=
  (∀ b j, 0 ≤ b → b < 90 → 0 ≤ j → j < R 17 b → xQ h (qB c0 b) j.toNat = some (Y b j) ∧ fk h c0 R (4 * b + j) (Y b j)) ∧
  ∀ b j b' j', 0 ≤ b → b < 90 → 0 ≤ j → j < R 17 b → 0 ≤ b' → b' < 90 → 0 ≤ j' → j' < R 17 b' → Y b j = Y b' j' → b = b' ∧ j = j'
def cR (h : ev_hs) (c0 : Nat) (R : RS) : Prop := shC h c0 (R 0 0) (R 0 1) ∧ sE h c0 ∧ ∃ d X Y, lsI h c0 R d X ∧ plI h R X ∧ flI h c0 R Y
-- all that lies in rows, inboxes and buffers is live
def lvA (R : RS) : Prop := (∀ k q j, (k = 1 ∨ k = 2) → 0 ≤ q → q < 18 → 0 ≤ j → j < R (kN k) q → R 1 (R (kE k) (128 * q + j)) = 1) ∧ ∀ b j, 0 ≤ b → b < 90 → 0 ≤ j → j < R 17 b → R 1 (R 14 (4 * b + j)) = 1
theorem lvA_of (gF : bF R) (gB : bB R) (gS : bS R) (N : ntI R) : lvA R := by
  obtain ⟨G, E, L, A, s1, s2, s3, s4, s5, s6, s7, s8, s9⟩ := N
  refine ⟨fun k q j hk q0 q1 j0 j1 => ?_, fun b j b0 b1 j0 j1 => ?_⟩
  · rcases hk with rfl | rfl
    · exact (s4 q j q0 q1 j0 j1).2.2.1
    · exact (s7 q j q0 q1 j0 j1).2.2.1
  · have h1 := (s1 b j b0 b1 j0 j1).2.2.1
    have h2 := gB b b0 b1
    have h3 := gS.1
    have h4 := gF (4 * b + j) (by omega) (by omega)
    unfold fc at h1
    rwa [show (8 * R 14 (4 * b + j) + R 15 (4 * b + j)) / 8 = R 14 (4 * b + j) by omega] at h1
theorem fk_e {h' : ev_hs} {s : Int} {f : Nat} (e : ext h h') (e9 : xI h' 903 f = xI h 903 f) (k : fk h c0 R s f) : fk h' c0 R s f := by
  have ee := e
  obtain ⟨e1, e2, e3, e4, e5, e6, e7, e8⟩ := e
  obtain ⟨k1, k2, k3, k4, k5, k6, a, k7, k8, k9⟩ := k
  refine ⟨k1, by omega, ?_, ?_, ?_, ?_, a, ?_, pa_e ee k8, pk_e ee k8.2.2 k9⟩
  · rw [(e4 f k2).1]; exact k3
  · rw [e5 901 f k2 (by omega) (by omega)]; exact k4
  · rw [e5 902 f k2 (by omega) (by omega)]; exact k5
  · rw [e9]; exact k6
  · rw [e6 900 f k2 (by omega)]; exact k7
theorem fk_c {s : Int} {f : Nat} (k : ∀ a, 2 ≤ a → a ≤ 8 → T a (R 14 s) = R a (R 14 s)) (k0 : T 0 1 = R 0 1) (k4 : T 14 s = R 14 s) (k5 : T 15 s = R 15 s) (k6 : T 16 s = R 16 s) (x : fk h c0 R s f) : fk h c0 T s f := by
  obtain ⟨x1, x2, x3, x4, x5, x6, a, x7, x8, x9⟩ := x
  unfold fk
  rw [k4, k5, k6]
  refine ⟨x1, x2, x3, x4, ?_, x6, a, x7, x8, pk_c k k0 x9⟩
  unfold nSz at *
  rw [k0, k 2 (by omega) (by omega)]
  exact x5
theorem qB_lt {b : Int} (b0 : 0 ≤ b) (b1 : b < 90) : qB c0 b < c0 + 291 := by unfold qB; omega
theorem sC_B (hs : shC h c0 D FL) {b : Int} (b0 : 0 ≤ b) (b1 : b < 90) : xK h (qB c0 b) = 57 ∧ xL h (qB c0 b) = D.toNat := by
  have := sC_F hs (n := b / 15) (c := b % 3) (p := b % 15 / 3) (by omega) (by omega) (by omega)
  exact ⟨this.2.2.2.1, this.2.2.2.2⟩
theorem qB_F {n c p : Int} (hn : 0 ≤ n ∧ n < 6) (hc : 0 ≤ c ∧ c < 3) (hp : 0 ≤ p ∧ p < 5) : qB c0 (15 * n + 3 * p + c) = qF c0 n c p 1 := by
  unfold qB qF
  rw [show (15 * n + 3 * p + c) / 15 = n by omega, show (15 * n + 3 * p + c) % 3 = c by omega, show (15 * n + 3 * p + c) % 15 / 3 = p by omega]
theorem flI_l {h' : ev_hs} (e : ex 302 52 h h') (hs : shC h c0 D FL) (sz : sE h c0) (f : flI h c0 R Y) : flI h' c0 R Y := by
  refine ⟨fun b j b0 b1 j0 j1 => ?_, f.2⟩
  obtain ⟨f1, f2⟩ := f.1 b j b0 b1 j0 j1
  have hq := qB_lt (c0 := c0) b0 b1
  have hz := sz.2.2.2
  have hk := (sC_B hs b0 b1).1
  refine ⟨?_, fk_e (exL e) (e.2.2.2.2.1 903 _ f2.2.1 (by omega)) f2⟩
  rw [e.2.2.2.2.2.2.1 _ _ (by omega) (by omega)]
  exact f1
theorem plI_e {h' : ev_hs} (e : ext h h') (L : lsI h c0 R d X) (P : plI h R X) : plI h' R X := by
  intro k q j hk q0 q1 j0 j1
  exact pk_e e ((L k q hk q0 q1).2.2 j j0 j1).2.2.2 (P k q j hk q0 q1 j0 j1)
-- another heap in which nothing of the lists has changed
theorem lsI_o {h' : ev_hs} (L : lsI h c0 R d X) (e : ext h h') (sz : sE h c0) (er : ∀ a, a < xZ h → xR h' 300 a = xR h 300 a) (eq : ∀ a j, a < xZ h → xK h a = 52 → xQ h' a j = xQ h a j) : lsI h' c0 R d X := by
  intro k q hk q0 q1
  obtain ⟨l1, l2, l3⟩ := L k q hk q0 q1
  have hz := sz.2.2.2
  obtain ⟨e1, e2, e3, e4, e5, e6, e7, e8⟩ := id e
  refine ⟨by rw [er _ (by omega)]; exact l1, ?_, fun j j0 j1 => ?_⟩
  · rcases l2 with x | x
    · exact Or.inl ⟨by rw [e2]; exact x.1, x.2⟩
    · refine Or.inr ⟨x.1, by omega, ?_, ?_, ?_, ?_, x.2.2.2.2.2.2⟩
      · rw [(e4 _ x.2.1).1]; exact x.2.2.1
      · rw [(e4 _ x.2.1).2]; exact x.2.2.2.1
      · rw [(e4 _ x.2.1).2]; exact x.2.2.2.2.1
      · rw [(e4 _ x.2.1).2]; exact x.2.2.2.2.2.1
  · obtain ⟨m1, m2⟩ := l3 j j0 j1
    refine ⟨?_, pa_e e m2⟩
    rcases l2 with x | x
    · omega
    · rw [eq _ _ x.2.1 x.2.2.1]; exact m1
theorem lsI_c (L : lsI h c0 R d X) (e1 : ∀ q, 0 ≤ q → q < 18 → T 10 q = R 10 q) (e2 : ∀ q, 0 ≤ q → q < 18 → T 13 q = R 13 q) : lsI h c0 T d X := by
  intro k q hk q0 q1
  have : T (kN k) q = R (kN k) q := by
    rcases hk with rfl | rfl
    · exact e1 q q0 q1
    · exact e2 q q0 q1
  rw [this]
  exact L k q hk q0 q1
-- a new cell
theorem ex_wN {c n f0 q0 : Nat} : ex f0 q0 h (wN h c n) := by
  refine ⟨by show xZ h ≤ xZ h + 1; omega, rfl, rfl, fun a hz => ⟨?_, ?_⟩, fun f a hz hf => ?_, fun f a hz hf => ?_, fun a j hz hf => rfl, fun a j hz => rfl⟩
  · show va_up (xK h) (xZ h) (c + 1) a = xK h a
    unfold va_up
    rw [if_neg (by omega)]
  · show va_up (xL h) (xZ h) 0 a = xL h a
    unfold va_up
    rw [if_neg (by omega)]
  · show (if a = xZ h then 0 else xI h f a) = xI h f a
    rw [if_neg (by omega)]
  · show (if a = xZ h then none else xR h f a) = xR h f a
    rw [if_neg (by omega)]
theorem ex_wI {f a f0 q0 : Nat} {z : Int} {h' : ev_hs} (e : ex f0 q0 h h') (ha : xZ h ≤ a) : ex f0 q0 h (wI h' f a z) := by
  obtain ⟨e1, e2, e3, e4, e5, e6, e7, e8⟩ := e
  refine ⟨e1, e2, e3, e4, fun g b hb hg => ?_, e6, e7, e8⟩
  show up2 (xI h') f a z g b = _
  unfold up2
  rw [if_neg (by omega)]
  exact e5 g b hb hg
theorem ex_wR {f a f0 q0 : Nat} {z : Option Nat} {h' : ev_hs} (e : ex f0 q0 h h') (ha : xZ h ≤ a) : ex f0 q0 h (wR h' f a z) := by
  obtain ⟨e1, e2, e3, e4, e5, e6, e7, e8⟩ := e
  refine ⟨e1, e2, e3, e4, e5, fun g b hb hg => ?_, e7, e8⟩
  show up2 (xR h') f a z g b = _
  unfold up2
  rw [if_neg (by omega)]
  exact e6 g b hb hg
theorem t_p9 {c k a : Nat} {z : Int} {K : ev_hs → Option α} (hk : xK h a = c + 1) (ha : c0 + 409 ≤ a) : pI (vw h c0 Rc Rr) c k (some a) z K = K (vw (wI h (100 * c + k) a z) c0 Rc Rr) := by
  unfold pI
  dsimp only
  rw [vv_K, if_pos hk, vw_wI9 ha]
theorem t_z9 {c k a : Nat} {z : Int} {K : ev_hs → Option α} (hk : xK h a = c + 1) (ha : c0 + 409 ≤ a) (hz : z = 0 ∨ z = 1) : pZ (vw h c0 Rc Rr) c k (some a) z K = K (vw (wI h (100 * c + k) a z) c0 Rc Rr) := by
  unfold pZ
  dsimp only
  rw [vv_K, if_pos ⟨hk, hz⟩, vw_wI9 ha]
theorem t_r9 {c k a : Nat} {v : Option Nat} {K : ev_hs → Option α} (hk : xK h a = c + 1) : pR (vw h c0 Rc Rr) c k (some a) v K = K (vw (wR h (100 * c + k) a v) c0 Rc Rr) := by
  unfold pR
  dsimp only
  rw [vv_K, if_pos hk]
  rfl
theorem t_g9 {c k a : Nat} {K : Int → Option α} (hk : xK h a = c + 1) (ha : c0 + 409 ≤ a) : gI (vw h c0 Rc Rr) c k (some a) K = K (xI h (100 * c + k) a) := by
  unfold gI
  dsimp only
  rw [vv_K, if_pos hk, vw_I9 ha]
theorem new_pk {k l t w v m f : Int} (hz : c0 + 409 ≤ xZ h) (hk : 0 ≤ k ∧ k ≤ 10) : ∃ h', f_Pa_init (some (xZ h)) k l t w v m f (vw (wN h 10 7) c0 Rc Rr) = some (vw h' c0 Rc Rr) ∧ ex 302 52 h h' ∧ (xZ h' = xZ h + 1 ∧ xC h' = xC h + 1 ∧ xS h' = xS h + 7) ∧ xR h' 300 = xR (wN h 10 7) 300 ∧ xQ h' = xQ h ∧ xK h' (xZ h) = 11 ∧ xI h' 1000 (xZ h) = k ∧ xI h' 1001 (xZ h) = l ∧ xI h' 1002 (xZ h) = t ∧ xI h' 1003 (xZ h) = w ∧ xI h' 1004 (xZ h) = v ∧ xI h' 1005 (xZ h) = m ∧ xI h' 1006 (xZ h) = (if k = 3 ∨ k = 8 ∨ k = 10 then f else 1) := by
  have k0 : xK (wN h 10 7) (xZ h) = 11 := by
    show va_up (xK h) (xZ h) (10 + 1) (xZ h) = 11
    simp [va_up]
  refine ⟨wI (wI (wI (wI (wI (wI (wI (wN h 10 7) 1000 (xZ h) k) 1001 (xZ h) l) 1002 (xZ h) t) 1003 (xZ h) w) 1004 (xZ h) v) 1005 (xZ h) m) 1006 (xZ h) (if k = 3 ∨ k = 8 ∨ k = 10 then f else 1), ?_, ex_wI (ex_wI (ex_wI (ex_wI (ex_wI (ex_wI (ex_wI ex_wN (Nat.le_refl _)) (Nat.le_refl _)) (Nat.le_refl _)) (Nat.le_refl _)) (Nat.le_refl _)) (Nat.le_refl _)) (Nat.le_refl _), ⟨rfl, rfl, rfl⟩, rfl, rfl, k0, ?_, ?_, ?_, ?_, ?_, ?_, ?_⟩
  · unfold f_Pa_init
    simp only [↓jn_eq, ↓nN_some]
    rw [t_p9 (by exact k0) hz, t_p9 (by exact k0) hz, t_p9 (by exact k0) hz, t_p9 (by exact k0) hz, t_p9 (by exact k0) hz, t_p9 (by exact k0) hz]
    simp (disch := omega) only [eEq_i]
    by_cases h1 : k = 3
    · rw [if_pos h1, if_neg (by omega), if_pos (Or.inl h1), t_p9 (by exact k0) hz]
    · rw [if_neg h1]
      by_cases h2 : k = 8
      · rw [if_pos h2, if_neg (by omega), if_pos (by omega), t_p9 (by exact k0) hz]
      · rw [if_neg h2]
        by_cases h3 : k = 10
        · rw [if_pos h3, if_neg (by omega), if_pos (by omega), t_p9 (by exact k0) hz]
        · rw [if_neg h3, if_pos (by trivial), if_neg (by omega), t_p9 (by exact k0) hz]
  all_goals simp [wI, xI, up2]
end Cls5
