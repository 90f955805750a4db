/-! The class's flits: entering -/
section Cls13
variable {α : Type} {h g : ev_hs} {c0 : Nat} {R T U Rr Rc : RS} {F : Int → Int} {D FL : Int} {n c p : Int} {d : Nat → Int → Nat} {X : Nat → Int → Int → Nat} {Y : Int → Int → Nat}
theorem t_room (hs : shC h c0 D FL) (hn : 0 ≤ n ∧ n < 6) (hc : 0 ≤ c ∧ c < 3) (hp : 0 ≤ p ∧ p < 5) (hD : 1 ≤ D ∧ D ≤ 4) (hb : 0 ≤ R 17 (15 * n + 3 * p + c) ∧ R 17 (15 * n + 3 * p + c) ≤ 4) {K : Int → ev_hs → Option α} : bI (f_FB_hasRoom (some (qF c0 n c p 0)) (vw h c0 (wF R F) Rr)) K = K (if R 17 (15 * n + 3 * p + c) < D then 1 else 0) (vw h c0 (wF R F) Rr) := by
  unfold f_FB_hasRoom
  rw [jn_eq, ziFB1 hs hn hc hp, zgFB0 hs hn hc hp, zaFl hs hn hc hp (by omega), eLt_i (by omega) (by omega) (by omega) (by omega)]
  split <;> rfl
theorem ex_w9 {f : Nat} {x : Int} : ex 903 57 h (wI h 903 f x) := by
  refine ⟨Nat.le_refl _, rfl, rfl, fun a _ => ⟨rfl, rfl⟩, fun g a _ hg => ?_, fun g a _ _ => rfl, fun a j _ _ => rfl, fun a j _ => rfl⟩
  show up2 (xI h) 903 f x g a = _
  unfold up2
  rw [if_neg (fun y => hg y.1)]
theorem ex_q9 {a j : Nat} {v : Option Nat} (hk : xK h a = 57) : ex 903 57 h (wQ h a j v) := by
  refine ⟨Nat.le_refl _, rfl, rfl, fun a _ => ⟨rfl, rfl⟩, fun g a _ hg => rfl, fun g a _ _ => rfl, fun b i _ hb => ?_, fun a j _ => rfl⟩
  show up2 (xQ h) a j v b i = _
  unfold up2
  rw [if_neg (fun y => by rw [y.1] at hb; exact hb hk)]
theorem c_put {f : Nat} {x : Int} (hs : shC h c0 D FL) (sz : sE h c0) (hn : 0 ≤ n ∧ n < 6) (hc : 0 ≤ c ∧ c < 3) (hp : 0 ≤ p ∧ p < 5) (hD : 1 ≤ D ∧ D ≤ 4) (hb : 0 ≤ R 17 (15 * n + 3 * p + c) ∧ R 17 (15 * n + 3 * p + c) < D) (hf : xK h f = 10) (hz : c0 + 409 ≤ f) :
    f_FB_put (some (qF c0 n c p 0)) (some f) x (vw h c0 (wF R F) Rr) = some (vw (wQ (wI h 903 f x) (qF c0 n c p 1) (R 17 (15 * n + 3 * p + c)).toNat (some f)) c0 (wF (up3 R 17 (15 * n + 3 * p + c) (R 17 (15 * n + 3 * p + c) + 1)) F) Rr) := by
  have hne : qF c0 n c p 0 ≠ f := by unfold qF; omega
  have hs1 : shC (wI h 903 f x) c0 D FL := shC_e (exF ex_w9) sz.2.2.2 hs
  have hs2 : shC (wQ (wI h 903 f x) (qF c0 n c p 1) (R 17 (15 * n + 3 * p + c)).toNat (some f)) c0 D FL := shC_e (exF (ex_q9 (sC_F hs hn hc hp).2.2.2.1)) sz.2.2.2 hs1
  have hl := (sC_F hs hn hc hp).2.2.2.2
  have hk := (sC_F hs hn hc hp).2.2.2.1
  unfold f_FB_put
  rw [zvFB hs hn hc hp, t_room hs hn hc hp hD (by omega), if_pos hb.2, eEq_i (by omega) (by omega) (by omega) (by omega), if_neg (by omega), t_p9 (c := 9) hf hz, zgFB0 hs1 hn hc hp, ziFB1 hs1 hn hc hp, t_sQ (e := 9) (by exact hk) hb.1 (by show _ < ((xL h (qF c0 n c p 1) : Nat) : Int); rw [hl]; omega) (by exact hf)]
  rw [ziFB1 hs2 hn hc hp, zpFB1 hs2 hn hc hp]
-- a flit in a new place: buffer b has one more
def upY (Y : Int → Int → Nat) (b j : Int) (f : Nat) : Int → Int → Nat := fun b' j' => if b' = b ∧ j' = j then f else Y b' j'
theorem flI_put {h' : ev_hs} {b : Int} {f : Nat} (FF : flI h c0 R Y) (b0 : 0 ≤ b ∧ b < 90) (hj : 0 ≤ R 17 b) (hB : bB R) (hS : bS R) (hf : R 17 b < R 0 0) (e : ext h h') (e9 : ∀ a, a < xZ h → a ≠ f → xI h' 903 a = xI h 903 a) (eq : ∀ b' j, 0 ≤ b' → b' < 90 → ¬ (b' = b ∧ j = (R 17 b).toNat) → xQ h' (qB c0 b') j = xQ h (qB c0 b') j) (eqf : xQ h' (qB c0 b) (R 17 b).toNat = some f) (nf : ∀ b' j', 0 ≤ b' → b' < 90 → 0 ≤ j' → j' < R 17 b' → Y b' j' ≠ f) (kf : fk h' c0 T (4 * b + R 17 b) f)
    (t17 : ∀ x, T 17 x = if x = b then R 17 b + 1 else R 17 x) (ts : ∀ a s, 14 ≤ a → a ≤ 16 → s ≠ 4 * b + R 17 b → T a s = R a s) (tr : ∀ a, 2 ≤ a → a ≤ 8 → T a = R a) (t0 : T 0 1 = R 0 1) : flI h' c0 T (upY Y b (R 17 b) f) := by
  have hr := hS.1
  refine ⟨fun b' j q0 q1 j0 j1 => ?_, fun b1 j1 b2 j2 p0 p1 p2 p3 q0 q1 q2 q3 ee => ?_⟩
  · rw [t17] at j1
    unfold upY
    have g := hB b' q0 q1
    by_cases hh : b' = b ∧ j = R 17 b
    · rw [if_pos hh, hh.1, hh.2]
      exact ⟨eqf, kf⟩
    · rw [if_neg hh]
      have j2 : j < R 17 b' := by
        by_cases hb : b' = b
        · rw [if_pos hb] at j1
          have : j ≠ R 17 b := fun y => hh ⟨hb, y⟩
          rw [hb]
          omega
        · rw [if_neg hb] at j1
          exact j1
      obtain ⟨x1, x2⟩ := FF.1 b' j q0 q1 j0 j2
      have hns : 4 * b' + j ≠ 4 * b + R 17 b := by omega
      refine ⟨?_, ?_⟩
      · rw [eq b' _ q0 q1 (fun y => hh ⟨y.1, by omega⟩)]
        exact x1
      · exact fk_c (fun a a1 a2 => by rw [tr a a1 a2]) t0 (ts 14 _ (by omega) (by omega) hns) (ts 15 _ (by omega) (by omega) hns) (ts 16 _ (by omega) (by omega) hns) (fk_e e (e9 _ x2.2.1 (nf b' j q0 q1 j0 j2)) x2)
  · rw [t17] at p3 q3
    have o1 : ¬ (b1 = b ∧ j1 = R 17 b) → j1 < R 17 b1 := by
      intro hh
      by_cases hb : b1 = b
      · rw [if_pos hb] at p3
        have : j1 ≠ R 17 b := fun y => hh ⟨hb, y⟩
        rw [hb]
        omega
      · rw [if_neg hb] at p3
        exact p3
    have o2 : ¬ (b2 = b ∧ j2 = R 17 b) → j2 < R 17 b2 := by
      intro hh
      by_cases hb : b2 = b
      · rw [if_pos hb] at q3
        have : j2 ≠ R 17 b := fun y => hh ⟨hb, y⟩
        rw [hb]
        omega
      · rw [if_neg hb] at q3
        exact q3
    unfold upY at ee
    by_cases h1 : b1 = b ∧ j1 = R 17 b
    · by_cases h2 : b2 = b ∧ j2 = R 17 b
      · omega
      · rw [if_pos h1, if_neg h2] at ee
        exact absurd ee.symm (nf b2 j2 q0 q1 q2 (o2 h2))
    · by_cases h2 : b2 = b ∧ j2 = R 17 b
      · rw [if_neg h1, if_pos h2] at ee
        exact absurd ee (nf b1 j1 p0 p1 p2 (o1 h1))
      · rw [if_neg h1, if_neg h2] at ee
        exact FF.2 b1 j1 b2 j2 p0 p1 p2 (o1 h1) q0 q1 q2 (o2 h2) ee
theorem qB_inj {b b' : Int} (b0 : 0 ≤ b) (b1 : b < 90) (b0' : 0 ≤ b') (b1' : b' < 90) (e : qB c0 b = qB c0 b') : b = b' := by
  unfold qB at e
  have eA : 3 * (b / 15) + b % 3 = 3 * (b' / 15) + b' % 3 := by
    have h1 : 0 ≤ 3 * (b / 15) + b % 3 := by omega
    have h2 : 0 ≤ 3 * (b' / 15) + b' % 3 := by omega
    have h3 : 0 ≤ b % 15 / 3 ∧ b % 15 / 3 ≤ 4 := by omega
    have h4 : 0 ≤ b' % 15 / 3 ∧ b' % 15 / 3 ≤ 4 := by omega
    generalize 3 * (b / 15) + b % 3 = A at *
    generalize 3 * (b' / 15) + b' % 3 = A' at *
    generalize b % 15 / 3 = P at *
    generalize b' % 15 / 3 = P' at *
    omega
  rw [eA] at e
  have eP : b % 15 / 3 = b' % 15 / 3 := by
    have h3 : 0 ≤ b % 15 / 3 ∧ b % 15 / 3 ≤ 4 := by omega
    have h4 : 0 ≤ b' % 15 / 3 ∧ b' % 15 / 3 ≤ 4 := by omega
    generalize b % 15 / 3 = P at *
    generalize b' % 15 / 3 = P' at *
    omega
  clear e
  have h1 : b % 15 % 3 = b % 3 := by omega
  have h2 : b' % 15 % 3 = b' % 3 := by omega
  omega
theorem xK_wN {c n : Nat} : xK (wN h c n) (xZ h) = c + 1 := by
  show va_up (xK h) (xZ h) (c + 1) (xZ h) = c + 1
  simp [va_up]
theorem new_fl {a : Nat} {m z : Int} (hz : c0 + 409 ≤ xZ h) (hp : pa h c0 a) (hi : xI h 1006 a = z) (hm : 0 ≤ m ∧ m ≤ 10) (hzz : 1 ≤ z ∧ z ≤ 10) : ∃ h', f_Fl_init (some (xZ h)) (some a) m (vw (wN h 9 4) c0 Rc Rr) = some (vw h' c0 Rc Rr) ∧ (∀ f0 q0, ex f0 q0 h h') ∧ (xZ h' = xZ h + 1 ∧ xC h' = xC h + 1 ∧ xS h' = xS h + 4) ∧ (∀ b, b < xZ h → xR h' 300 b = xR h 300 b) ∧ xQ h' = xQ h ∧ xK h' (xZ h) = 10 ∧ xR h' 900 (xZ h) = some a ∧ xI h' 901 (xZ h) = (if m = 0 then 1 else 0) ∧ xI h' 902 (xZ h) = (if m = z - 1 then 1 else 0) := by
  have k0 : xK (wN h 9 4) (xZ h) = 10 := xK_wN
  have hp1 : pa (wR (wN h 9 4) 900 (xZ h) (some a)) c0 a := by
    refine ⟨?_, hp.2.1, ?_⟩
    · show va_up (xK h) (xZ h) 10 a = 11
      unfold va_up
      rw [if_neg (by have := hp.2.2; omega)]
      exact hp.1
    · show a < xZ h + 1
      have := hp.2.2
      omega
  have hi1 : ∀ w : Int, xI (wI (wR (wN h 9 4) 900 (xZ h) (some a)) 901 (xZ h) w) 1006 a = z := by
    intro w
    show up2 (fun f b => if b = xZ h then 0 else xI h f b) 901 (xZ h) w 1006 a = z
    unfold up2
    rw [if_neg (by omega)]
    show (if a = xZ h then 0 else xI h 1006 a) = z
    rw [if_neg (by have := hp.2.2; omega)]
    exact hi
  have q6 : ∀ (w : Int) (K : Int → Option ev_hs), gI (vw (wI (wR (wN h 9 4) 900 (xZ h) (some a)) 901 (xZ h) w) c0 Rc Rr) 10 6 (some a) K = K z := by
    intro w K
    rw [t_g9 (c := 10) (by exact hp1.1) hp1.2.1]
    exact congrArg K (hi1 w)
  have hE : f_Fl_init (some (xZ h)) (some a) m (vw (wN h 9 4) c0 Rc Rr) = some (vw (wI (wI (wR (wN h 9 4) 900 (xZ h) (some a)) 901 (xZ h) (if m = 0 then 1 else 0)) 902 (xZ h) (if m = z - 1 then 1 else 0)) c0 Rc Rr) := by
    unfold f_Fl_init
    simp only [↓jn_eq, ↓nN_some]
    rw [t_r9 (c := 9) k0]
    rw [eEq_i (by omega) (by omega) (by omega) (by omega)]
    by_cases h0 : m = 0
    · rw [if_pos h0, if_pos h0, t_z9 (c := 9) (by exact k0) hz (Or.inr rfl), q6, eEq_i (by omega) (by omega) (by omega) (by omega)]
      by_cases h1 : m = z - 1
      · rw [if_pos h1, if_pos h1, t_z9 (c := 9) (by exact k0) hz (Or.inr rfl)]
      · rw [if_neg h1, if_neg h1, t_z9 (c := 9) (by exact k0) hz (Or.inl rfl)]
    · rw [if_neg h0, if_neg h0, t_z9 (c := 9) (by exact k0) hz (Or.inl rfl), q6, eEq_i (by omega) (by omega) (by omega) (by omega)]
      by_cases h1 : m = z - 1
      · rw [if_pos h1, if_pos h1, t_z9 (c := 9) (by exact k0) hz (Or.inr rfl)]
      · rw [if_neg h1, if_neg h1, t_z9 (c := 9) (by exact k0) hz (Or.inl rfl)]
  refine ⟨_, hE, fun f0 q0 => ex_wI (ex_wI (ex_wR ex_wN (Nat.le_refl _)) (Nat.le_refl _)) (Nat.le_refl _), ⟨rfl, rfl, rfl⟩, fun b hb => ?_, rfl, k0, ?_, ?_, ?_⟩
  · show up2 (fun f b => if b = xZ h then none else xR h f b) 900 (xZ h) (some a) 300 b = _
    unfold up2
    rw [if_neg (by omega)]
    show (if b = xZ h then none else xR h 300 b) = _
    rw [if_neg (by omega)]
  · show up2 (fun f b => if b = xZ h then none else xR h f b) 900 (xZ h) (some a) 900 (xZ h) = _
    simp [up2]
  · simp [wI, xI, up2]
  · simp [wI, xI, up2]
end Cls13
