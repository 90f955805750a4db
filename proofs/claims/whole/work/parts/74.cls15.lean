/-! The class's routers: parts of a move -/
section Cls15
variable {α : Type} {h g : ev_hs} {c0 : Nat} {R T U Rr Rc : RS} {F : Int → Int} {D FL : Int} {n o c p : Int} {d : Nat → Int → Nat} {X : Nat → Int → Int → Nat} {Y : Int → Int → Nat}
theorem t_front {f : Nat} (hs : shC h c0 D FL) (hn : 0 ≤ n ∧ n < 6) (hc : 0 ≤ c ∧ c < 3) (hp : 0 ≤ p ∧ p < 5) (hD : 1 ≤ D ∧ D ≤ 4) (hb : 0 ≤ R 17 (15 * n + 3 * p + c) ∧ R 17 (15 * n + 3 * p + c) ≤ 4) (hf : R 17 (15 * n + 3 * p + c) ≠ 0 → xQ h (qF c0 n c p 1) 0 = some f) {K : Option Nat → ev_hs → Option α} :
    bR (f_FB_front (some (qF c0 n c p 0)) (vw h c0 (wF R F) Rr)) K = if R 17 (15 * n + 3 * p + c) = 0 then K none (vw h c0 (wF R F) Rr) else K (some f) (vw h c0 (wF R F) Rr) := by
  unfold f_FB_front
  rw [jn_eq, ziFB1 hs hn hc hp, eEq_i (by omega) (by omega) (by omega) (by omega)]
  by_cases h0 : R 17 (15 * n + 3 * p + c) = 0
  · rw [if_pos h0, if_pos h0]
    rfl
  · rw [if_neg h0, if_neg h0, zgFB0 hs hn hc hp, y_lQ (m := D.toNat) (j := 0) (sC_F hs hn hc hp).2.2.2.1 (sC_F hs hn hc hp).2.2.2.2 (by omega) (by omega) (hf h0)]
    rfl
theorem t_wayTo (hs : shC h c0 D FL) (hn : 0 ≤ n ∧ n < 6) (hc : 0 ≤ c ∧ c < 3) {t : Int} (ht : 0 ≤ t ∧ t < 6) {K : Int → ev_hs → Option α} : bI (f_La_wayTo (some (qL c0 n c 0)) t (vw h c0 (wF R F) Rr)) K = K (nWay n t) (vw h c0 (wF R F) Rr) := by
  unfold nWay
  by_cases h1 : t % 3 - n % 3 = 0
  · by_cases h2 : t / 3 - n / 3 = 0
    · simp (disch := omega) only [f_La_wayTo, ↓zfLa0 hs, ↓eEq_i, ↓eLt_i, ↓eDiv_i, ↓eRem_i, ↓bI_some, ↓bR_some, ↓bV_some, ↓nN_some, ↓eNu_n, ↓eNu_s, ↓eBo_1, ↓eBo_0, ↓jn_eq, u3s, u3n, u3i, ↓reduceIte, Int.reduceLT, Int.reduceLE, Int.reduceEq, Int.reduceNeg, Int.reduceAdd, Int.reduceSub, Int.reduceMul, Int.reduceMod, Int.reduceDiv, not_true_eq_false, not_false_eq_true, and_self, and_true, true_and, and_false, false_and, or_true, or_false, false_or, true_or, h1, h2]
    · by_cases h3 : 0 < t / 3 - n / 3
      · simp (disch := omega) only [f_La_wayTo, ↓zfLa0 hs, ↓eEq_i, ↓eLt_i, ↓eDiv_i, ↓eRem_i, ↓bI_some, ↓bR_some, ↓bV_some, ↓nN_some, ↓eNu_n, ↓eNu_s, ↓eBo_1, ↓eBo_0, ↓jn_eq, u3s, u3n, u3i, ↓reduceIte, Int.reduceLT, Int.reduceLE, Int.reduceEq, Int.reduceNeg, Int.reduceAdd, Int.reduceSub, Int.reduceMul, Int.reduceMod, Int.reduceDiv, not_true_eq_false, not_false_eq_true, and_self, and_true, true_and, and_false, false_and, or_true, or_false, false_or, true_or, h1, h2, h3]
      · have h4 : t / 3 - n / 3 < 0 := by omega
        simp (disch := omega) only [f_La_wayTo, ↓zfLa0 hs, ↓eEq_i, ↓eLt_i, ↓eDiv_i, ↓eRem_i, ↓bI_some, ↓bR_some, ↓bV_some, ↓nN_some, ↓eNu_n, ↓eNu_s, ↓eBo_1, ↓eBo_0, ↓jn_eq, u3s, u3n, u3i, ↓reduceIte, Int.reduceLT, Int.reduceLE, Int.reduceEq, Int.reduceNeg, Int.reduceAdd, Int.reduceSub, Int.reduceMul, Int.reduceMod, Int.reduceDiv, not_true_eq_false, not_false_eq_true, and_self, and_true, true_and, and_false, false_and, or_true, or_false, false_or, true_or, h1, h2, h3, h4]
  · by_cases h3 : 0 < t % 3 - n % 3
    · simp (disch := omega) only [f_La_wayTo, ↓zfLa0 hs, ↓eEq_i, ↓eLt_i, ↓eDiv_i, ↓eRem_i, ↓bI_some, ↓bR_some, ↓bV_some, ↓nN_some, ↓eNu_n, ↓eNu_s, ↓eBo_1, ↓eBo_0, ↓jn_eq, u3s, u3n, u3i, ↓reduceIte, Int.reduceLT, Int.reduceLE, Int.reduceEq, Int.reduceNeg, Int.reduceAdd, Int.reduceSub, Int.reduceMul, Int.reduceMod, Int.reduceDiv, not_true_eq_false, not_false_eq_true, and_self, and_true, true_and, and_false, false_and, or_true, or_false, false_or, true_or, h1, h3]
    · have h4 : t % 3 - n % 3 < 0 := by omega
      simp (disch := omega) only [f_La_wayTo, ↓zfLa0 hs, ↓eEq_i, ↓eLt_i, ↓eDiv_i, ↓eRem_i, ↓bI_some, ↓bR_some, ↓bV_some, ↓nN_some, ↓eNu_n, ↓eNu_s, ↓eBo_1, ↓eBo_0, ↓jn_eq, u3s, u3n, u3i, ↓reduceIte, Int.reduceLT, Int.reduceLE, Int.reduceEq, Int.reduceNeg, Int.reduceAdd, Int.reduceSub, Int.reduceMul, Int.reduceMod, Int.reduceDiv, not_true_eq_false, not_false_eq_true, and_self, and_true, true_and, and_false, false_and, or_true, or_false, false_or, true_or, h1, h3, h4]
theorem flI_0 (FF : flI h c0 R Y) (hn : 0 ≤ n ∧ n < 6) (hc : 0 ≤ c ∧ c < 3) (hp : 0 ≤ p ∧ p < 5) (h0 : 0 < R 17 (15 * n + 3 * p + c)) : xQ h (qF c0 n c p 1) 0 = some (Y (15 * n + 3 * p + c) 0) ∧ fk h c0 R (4 * (15 * n + 3 * p + c)) (Y (15 * n + 3 * p + c) 0) := by
  have := FF.1 (15 * n + 3 * p + c) 0 (by omega) (by omega) (by omega) h0
  rw [qB_F hn hc hp, Int.add_zero] at this
  exact this
theorem c_port19 (hs : shC h c0 D FL) (FF : flI h c0 R Y) (hn : 0 ≤ n ∧ n < 6) (ho : 0 ≤ o ∧ o ≤ 4) (hc : 0 ≤ c ∧ c < 3) (hD : 1 ≤ D ∧ D ≤ 4) (gB : ∀ b, 0 ≤ b → b < 90 → (0 ≤ R 17 b ∧ R 17 b ≤ 4) ∧ (-1 ≤ R 18 b ∧ R 18 b ≤ 4) ∧ (0 ≤ R 19 b ∧ R 19 b ≤ 4)) (gP : bP R) (gF : bF R) : ∀ (f fu : Nat) (k : Int), 1 ≤ k → k + f = 6 → f < fu → f_La_portFor_19 fu (some (qL c0 n c 0)) o k (vw h c0 (wF R F) Rr) = some (nSc R n o c (R 19 (15 * n + 3 * o + c)) f k, vw h c0 (wF R F) Rr) := by
  intro f
  induction f with
  | zero =>
    intro fu k h1 h2 hf
    obtain ⟨fu, rfl⟩ : ∃ f2, fu = f2 + 1 := ⟨fu - 1, by omega⟩
    rw [f_La_portFor_19, eLt_i (by omega) (by omega) (by omega) (by omega), if_pos (by omega)]
    rfl
  | succ f ih =>
    intro fu k h1 h2 hf
    obtain ⟨fu, rfl⟩ : ∃ f2, fu = f2 + 1 := ⟨fu - 1, by omega⟩
    have gL := (gB (15 * n + 3 * o + c) (by omega) (by omega)).2.2
    have hpp : 0 ≤ (R 19 (15 * n + 3 * o + c) + k) % 5 ∧ (R 19 (15 * n + 3 * o + c) + k) % 5 < 5 := by omega
    have ihk := ih fu (k + 1) (by omega) (by omega) (by omega)
    unfold nSc
    rw [f_La_portFor_19, eLt_i (by omega) (by omega) (by omega) (by omega), if_neg (by omega), jn_eq, zgLa5 hs hn hc, zlLa5 hs hn hc (p := o) (by omega), eRem_i (by omega) (by omega) (by omega) (by omega)]
    generalize (R 19 (15 * n + 3 * o + c) + k) % 5 = pp at *
    have gb := (gB (15 * n + 3 * pp + c) (by omega) (by omega)).1
    rw [zgLa3 hs hn hc, zqFB hs hn hc hpp, zvFB hs hn hc hpp, t_front (f := Y (15 * n + 3 * pp + c) 0) hs hn hc hpp hD gb (fun h => (flI_0 FF hn hc hpp (by omega)).1)]
    by_cases h0 : R 17 (15 * n + 3 * pp + c) = 0
    · rw [if_pos h0, eNu_n, if_neg (by omega)]
      exact ihk
    · rw [if_neg h0, eNu_s]
      obtain ⟨-, f1, f2, f3, f4, f5, f6, a, f7, f8, f9⟩ := flI_0 FF hn hc hpp (by omega)
      have gf := (gF (4 * (15 * n + 3 * pp + c)) (by omega) (by omega)).1
      have gt := (gP _ gf.1 gf.2).2.2.2.1
      rw [t_g9 (c := 9) f3 f1, show (100 * 9 + 1 : Nat) = 901 from rfl, f4]
      by_cases hh : R 15 (4 * (15 * n + 3 * pp + c)) = 0
      · rw [if_pos hh, eEq_i (by omega) (by omega) (by omega) (by omega), if_neg (by omega), y_gR (c := 9) (k := 0) f3 f7, t_q (k := 2) f8 f9.2.2.1, zvLa hs hn hc, t_wayTo hs hn hc (by omega)]
        have hw : -1 ≤ nWay n (R 4 (R 14 (4 * (15 * n + 3 * pp + c)))) ∧ nWay n (R 4 (R 14 (4 * (15 * n + 3 * pp + c)))) ≤ 4 := by
          unfold nWay
          repeat' (first | omega | split)
        rw [eEq_i (by omega) (by omega) (by omega) (by omega)]
        by_cases hy : nWay n (R 4 (R 14 (4 * (15 * n + 3 * pp + c)))) = o
        · rw [if_pos hy, if_pos ⟨by omega, hh, hy⟩]
        · rw [if_neg hy, if_neg (fun y => hy y.2.2)]
          exact ihk
      · rw [if_neg hh, eEq_i (by omega) (by omega) (by omega) (by omega), if_pos rfl, if_neg (fun y => hh y.2.1)]
        exact ihk
theorem t_port (hs : shC h c0 D FL) (FF : flI h c0 R Y) (hn : 0 ≤ n ∧ n < 6) (ho : 0 ≤ o ∧ o ≤ 4) (hc : 0 ≤ c ∧ c < 3) (hD : 1 ≤ D ∧ D ≤ 4) (gB : ∀ b, 0 ≤ b → b < 90 → (0 ≤ R 17 b ∧ R 17 b ≤ 4) ∧ (-1 ≤ R 18 b ∧ R 18 b ≤ 4) ∧ (0 ≤ R 19 b ∧ R 19 b ≤ 4)) (gP : bP R) (gF : bF R) {K : Int → ev_hs → Option α} :
    bI (f_La_portFor (some (qL c0 n c 0)) o (vw h c0 (wF R F) Rr)) K = K (nSv R n o c) (vw h c0 (wF R F) Rr) := by
  have g18 := (gB (15 * n + 3 * o + c) (by omega) (by omega)).2.1
  unfold f_La_portFor nSv
  rw [zgLa4 hs hn hc, zlLa4 hs hn hc (p := o) (by omega), eEq_i (by omega) (by omega) (by omega) (by omega)]
  by_cases h1 : R 18 (15 * n + 3 * o + c) = -1
  · rw [if_pos h1, if_pos (by omega), c_port19 hs FF hn ho hc hD gB gP gF 5 FU 1 (by omega) (by omega) (by unfold FU; omega)]
    rfl
  · rw [if_neg h1, if_neg (by omega), zgLa4 hs hn hc, zlLa4 hs hn hc (p := o) (by omega)]
    rfl
theorem t_beyond (hs : shC h c0 D FL) (hn : 0 ≤ n ∧ n < 6) (hc : 0 ≤ c ∧ c < 3) (hm : om n o) {K : Option Nat → ev_hs → Option α} : bR (f_Me_bufferBeyond (some (c0 + 1)) n o c (vw h c0 (wF R F) Rr)) K = K (some (qF c0 (nNb n o) c ((o + 2) % 4) 0)) (vw h c0 (wF R F) Rr) := by
  unfold f_Me_bufferBeyond
  rcases hm with ⟨rfl, h1⟩ | ⟨rfl, h1⟩ | ⟨rfl, h1⟩ | ⟨rfl, h1⟩
  · rw [eEq_i (by omega) (by omega) (by omega) (by omega), if_pos rfl, jn_eq, eLt_i (by omega) (by omega) (by omega) (by omega), if_neg (by omega), zvMe hs, t_laneOf hs (n := n - 3) (by omega) hc, zgLa3 hs (n := n - 3) (by omega) hc, zqFB hs (n := n - 3) (by omega) hc (p := 2) (by omega)]
    rfl
  · rw [eEq_i (by omega) (by omega) (by omega) (by omega), if_neg (by omega), eEq_i (by omega) (by omega) (by omega) (by omega), if_pos rfl, jn_eq, eRem_i (by omega) (by omega) (by omega) (by omega), eEq_i (by omega) (by omega) (by omega) (by omega), if_neg h1, zvMe hs, t_laneOf hs (n := n + 1) (by omega) hc, zgLa3 hs (n := n + 1) (by omega) hc, zqFB hs (n := n + 1) (by omega) hc (p := 3) (by omega)]
    rfl
  · rw [eEq_i (by omega) (by omega) (by omega) (by omega), if_neg (by omega), eEq_i (by omega) (by omega) (by omega) (by omega), if_neg (by omega), eEq_i (by omega) (by omega) (by omega) (by omega), if_pos rfl, jn_eq, eLt_i (by omega) (by omega) (by omega) (by omega), if_pos (by omega), zvMe hs, t_laneOf hs (n := n + 3) (by omega) hc, zgLa3 hs (n := n + 3) (by omega) hc, zqFB hs (n := n + 3) (by omega) hc (p := 0) (by omega)]
    rfl
  · rw [eEq_i (by omega) (by omega) (by omega) (by omega), if_neg (by omega), eEq_i (by omega) (by omega) (by omega) (by omega), if_neg (by omega), eEq_i (by omega) (by omega) (by omega) (by omega), if_neg (by omega), eEq_i (by omega) (by omega) (by omega) (by omega), if_pos rfl, jn_eq, eRem_i (by omega) (by omega) (by omega) (by omega), eEq_i (by omega) (by omega) (by omega) (by omega), if_neg h1, zvMe hs, t_laneOf hs (n := n - 1) (by omega) hc, zgLa3 hs (n := n - 1) (by omega) hc, zqFB hs (n := n - 1) (by omega) hc (p := 1) (by omega)]
    rfl
-- the front flit goes
def qQ (h h' : ev_hs) : Prop := h' = (xK h, xI h, xR h, xL h, xA h, xQ h', xZ h, xC h, xS h, xE h, xM h)
theorem qQ_s {h' : ev_hs} (q : qQ h h') (e : ∀ a j, xK h a ≠ 57 → xQ h' a j = xQ h a j) : ex 903 57 h h' := by
  unfold qQ at q
  refine ⟨by rw [q]; exact Nat.le_refl _, by rw [q]; rfl, by rw [q]; rfl, fun a _ => ⟨by rw [q]; rfl, by rw [q]; rfl⟩, fun f a _ _ => by rw [q]; rfl, fun f a _ _ => by rw [q]; rfl, fun a j _ hk => e a j hk, fun a j _ => by rw [q]; rfl⟩
theorem c_drop10 (hn : 0 ≤ n ∧ n < 6) (hc : 0 ≤ c ∧ c < 3) (hp : 0 ≤ p ∧ p < 5) (hD : 1 ≤ D ∧ D ≤ 4) (hb : 0 ≤ R 17 (15 * n + 3 * p + c) ∧ R 17 (15 * n + 3 * p + c) ≤ D) : ∀ (m fu : Nat) (i : Int) (h : ev_hs), 1 ≤ i → i + m = R 17 (15 * n + 3 * p + c) → m < fu → shC h c0 D FL → sE h c0 → (∀ j : Nat, (j : Int) < R 17 (15 * n + 3 * p + c) → ∃ f, xQ h (qF c0 n c p 1) j = some f ∧ xK h f = 10) →
    ∃ h', (∀ K, f_FB_dropFront_10 fu (some (qF c0 n c p 0)) i (vw h c0 (wF R F) Rr) K = K (some (qF c0 n c p 0)) (vw h' c0 (wF R F) Rr)) ∧ qQ h h' ∧ (∀ a j, a ≠ qF c0 n c p 1 → xQ h' a j = xQ h a j) ∧ (∀ j : Nat, (j : Int) < i - 1 → xQ h' (qF c0 n c p 1) j = xQ h (qF c0 n c p 1) j) ∧ ∀ j : Nat, i - 1 ≤ j → (j : Int) < R 17 (15 * n + 3 * p + c) - 1 → xQ h' (qF c0 n c p 1) j = xQ h (qF c0 n c p 1) (j + 1) := by
  intro m
  induction m with
  | zero =>
    intro fu i h i0 i1 hf hs sz hx
    obtain ⟨fu, rfl⟩ : ∃ f2, fu = f2 + 1 := ⟨fu - 1, by omega⟩
    refine ⟨h, fun K => ?_, rfl, fun _ _ _ => rfl, fun _ _ => rfl, fun j j0 j1 => by omega⟩
    rw [f_FB_dropFront_10, ziFB1 hs hn hc hp, eLt_i (by omega) (by omega) (by omega) (by omega), if_neg (by omega)]
  | succ m ih =>
    intro fu i h i0 i1 hf hs sz hx
    obtain ⟨fu, rfl⟩ : ∃ f2, fu = f2 + 1 := ⟨fu - 1, by omega⟩
    have hk := (sC_F hs hn hc hp).2.2.2.1
    have hl := (sC_F hs hn hc hp).2.2.2.2
    obtain ⟨f, f1, f2⟩ := hx i.toNat (by omega)
    have hs1 : shC (wQ h (qF c0 n c p 1) (i - 1).toNat (some f)) c0 D FL := shC_e (exF (ex_q9 hk)) sz.2.2.2 hs
    have sz1 : sE (wQ h (qF c0 n c p 1) (i - 1).toNat (some f)) c0 := sE_e (exF (ex_q9 hk)) sz
    have q1 : ∀ a j, xQ (wQ h (qF c0 n c p 1) (i - 1).toNat (some f)) a j = if a = qF c0 n c p 1 ∧ j = (i - 1).toNat then some f else xQ h a j := fun a j => rfl
    obtain ⟨h', E, e1, e2, e3, e4⟩ := ih fu (i + 1) (wQ h (qF c0 n c p 1) (i - 1).toNat (some f)) (by omega) (by omega) (by omega) hs1 sz1 (fun j hj => by
      rw [q1]
      by_cases hh : j = (i - 1).toNat
      · rw [if_pos ⟨rfl, hh⟩]
        exact ⟨f, rfl, f2⟩
      · rw [if_neg (fun y => hh y.2)]
        exact hx j hj)
    refine ⟨h', fun K => ?_, e1, fun a j ha => ?_, fun j hj => ?_, fun j j0 j1 => ?_⟩
    · rw [f_FB_dropFront_10, ziFB1 hs hn hc hp, eLt_i (by omega) (by omega) (by omega) (by omega), if_pos (by omega), zgFB0 hs hn hc hp, zgFB0 hs hn hc hp, y_lQ (m := D.toNat) hk hl (by omega) (by omega) f1, t_sQ (e := 9) hk (by omega) (by rw [hl]; omega) f2]
      exact E K
    · rw [e2 a j ha, q1, if_neg (fun y => ha y.1)]
    · rw [e3 j (by omega), q1, if_neg (by omega)]
    · by_cases hh : (j : Int) = i - 1
      · rw [e3 j (by omega), q1, if_pos ⟨rfl, by omega⟩, show j + 1 = i.toNat by omega]
        exact f1.symm
      · rw [e4 j (by omega) j1, q1, if_neg (by omega)]
theorem c_drop1 {f : Nat} {w : Int} (hs : shC h c0 D FL) (sz : sE h c0) (hn : 0 ≤ n ∧ n < 6) (ho : 0 ≤ o ∧ o ≤ 4) (hc : 0 ≤ c ∧ c < 3) (hp : 0 ≤ p ∧ p < 5) (hD : 1 ≤ D ∧ D ≤ 4) (hb : 0 < R 17 (15 * n + 3 * p + c) ∧ R 17 (15 * n + 3 * p + c) ≤ D) (hx : ∀ j : Nat, (j : Int) < R 17 (15 * n + 3 * p + c) → ∃ f, xQ h (qF c0 n c p 1) j = some f ∧ xK h f = 10) (h0 : xQ h (qF c0 n c p 1) 0 = some f) (hf : c0 + 409 ≤ f) (hfk : xK h f = 10) (hw : xI h 902 f = w) (hw2 : w = 0 ∨ w = 1) :
    ∃ h', f_La_dropFront (some (qL c0 n c 0)) p o (vw h c0 (wF R F) Rr) = some (vw h' c0 (wF (up3 (up3 (up3 R 17 (15 * n + 3 * p + c) (R 17 (15 * n + 3 * p + c) - 1)) 19 (15 * n + 3 * o + c) p) 18 (15 * n + 3 * o + c) (if w = 1 then -1 else p)) F) Rr) ∧ qQ h h' ∧ (∀ a j, a ≠ qF c0 n c p 1 → xQ h' a j = xQ h a j) ∧ ∀ j : Nat, (j : Int) < R 17 (15 * n + 3 * p + c) - 1 → xQ h' (qF c0 n c p 1) j = xQ h (qF c0 n c p 1) (j + 1) := by
  obtain ⟨h1, E1, q1, e1, e2, e3⟩ := c_drop10 (c0 := c0) (R := R) (F := F) (Rr := Rr) (FL := FL) hn hc hp hD (by omega) (R 17 (15 * n + 3 * p + c) - 1).toNat FU 1 h (by omega) (by omega) (by unfold FU; omega) hs sz hx
  have hk0 := (sC_F hs hn hc hp).2.2.2.1
  have x1 := qQ_s q1 (fun a j hk => e1 a j (fun y => by rw [y] at hk; exact hk hk0))
  have hs1 := shC_e (exF x1) sz.2.2.2 hs
  have sz1 := sE_e (exF x1) sz
  have hk1 := (sC_F hs1 hn hc hp).2.2.2.1
  have hl1 := (sC_F hs1 hn hc hp).2.2.2.2
  have q2 : qQ h (wQ h1 (qF c0 n c p 1) (R 17 (15 * n + 3 * p + c) - 1).toNat none) := by
    unfold qQ at *
    have : ∀ g : ev_hs, xK g = xK h → xI g = xI h → xR g = xR h → xL g = xL h → xA g = xA h → xZ g = xZ h → xC g = xC h → xS g = xS h → xE g = xE h → xM g = xM h → g = (xK h, xI h, xR h, xL h, xA h, xQ g, xZ h, xC h, xS h, xE h, xM h) := by
      intro g a1 a2 a3 a4 a5 a6 a7 a8 a9 a10
      rw [← a1, ← a2, ← a3, ← a4, ← a5, ← a6, ← a7, ← a8, ← a9, ← a10]
      rfl
    refine this _ ?_ ?_ ?_ ?_ ?_ ?_ ?_ ?_ ?_ ?_
    · show xK h1 = xK h; rw [q1]; rfl
    · show xI h1 = xI h; rw [q1]; rfl
    · show xR h1 = xR h; rw [q1]; rfl
    · show xL h1 = xL h; rw [q1]; rfl
    · show xA h1 = xA h; rw [q1]; rfl
    · show xZ h1 = xZ h; rw [q1]; rfl
    · show xC h1 = xC h; rw [q1]; rfl
    · show xS h1 = xS h; rw [q1]; rfl
    · show xE h1 = xE h; rw [q1]; rfl
    · show xM h1 = xM h; rw [q1]; rfl
  have qv : ∀ a j, xQ (wQ h1 (qF c0 n c p 1) (R 17 (15 * n + 3 * p + c) - 1).toNat none) a j = if a = qF c0 n c p 1 ∧ j = (R 17 (15 * n + 3 * p + c) - 1).toNat then none else xQ h1 a j := fun a j => rfl
  have hs2 : shC (wQ h1 (qF c0 n c p 1) (R 17 (15 * n + 3 * p + c) - 1).toNat none) c0 D FL := shC_e (exF (ex_q9 hk1)) sz1.2.2.2 hs1
  refine ⟨_, ?_, q2, fun a j ha => ?_, fun j hj => ?_⟩
  · have hfk2 : xK (wQ h1 (qF c0 n c p 1) (R 17 (15 * n + 3 * p + c) - 1).toNat none) f = 10 := by
      show xK h1 f = 10
      rw [q1]
      exact hfk
    have hw1 : xI (wQ h1 (qF c0 n c p 1) (R 17 (15 * n + 3 * p + c) - 1).toNat none) (100 * 9 + 2) f = w := by
      show xI h1 902 f = w
      rw [q1]
      exact hw
    unfold f_La_dropFront
    rw [zgLa3 hs hn hc, zqFB hs hn hc hp, zvFB hs hn hc hp, t_front (f := f) hs hn hc hp hD (by omega) (fun _ => h0), if_neg (by omega), eNu_s, jn_eq, zgLa3 hs hn hc, zqFB hs hn hc hp, zvFB hs hn hc hp]
    unfold f_FB_dropFront
    rw [ziFB1 hs hn hc hp, eEq_i (by omega) (by omega) (by omega) (by omega), if_neg (by omega), E1, ziFB1 hs1 hn hc hp, zpFB1 hs1 hn hc hp, zgFB0 hs1 hn hc hp, ziFB1 hs1 hn hc hp, u3s, t_sQn (t := 57) hk1 (by omega) (by rw [hl1]; omega), bV_some, zgLa5 hs2 hn hc, zsLa5 hs2 hn hc (p := o) (by omega), zgLa4 hs2 hn hc, t_g9 (c := 9) hfk2 hf, hw1]
    rcases hw2 with rfl | rfl
    · rw [eEq_i (by omega) (by omega) (by omega) (by omega), if_pos rfl]
      dsimp only
      rw [zsLa4 hs2 hn hc (p := o) (by omega), if_neg (by omega)]
    · rw [eEq_i (by omega) (by omega) (by omega) (by omega), if_neg (by omega)]
      dsimp only
      rw [zsLa4 hs2 hn hc (p := o) (by omega), if_pos rfl]
  · rw [qv, if_neg (fun y => ha y.1)]
    exact e1 a j ha
  · rw [qv, if_neg (by omega)]
    exact e3 j (by omega) (by omega)
end Cls15
