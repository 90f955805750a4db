/-! The class's routers: one output, one channel -/
section Cls17
variable {α : Type} {h g : ev_hs} {c0 : Nat} {R T U Rr Rc : RS} {F : Int → Int} {D FL : Int} {n o c p : Int} {d : Nat → Int → Nat} {X : Nat → Int → Int → Nat} {Y : Int → Int → Nat}
theorem qQ_x {h' : ev_hs} (q : qQ h h') : xK h' = xK h ∧ xI h' = xI h ∧ xR h' = xR h ∧ xZ h' = xZ h ∧ xC h' = xC h ∧ xS h' = xS h := by
  unfold qQ at q
  refine ⟨?_, ?_, ?_, ?_, ?_, ?_⟩ <;> (rw [q]; rfl)
theorem mvx_v {M : RS} {q z1 z2 b z3 at' w y z0 i : Int} {a : Nat} (h12 : a ≠ 12) (hM : M a i = up3 (up3 (up3 R 17 b z3) 19 at' p) 18 at' w a i) : up3 (up3 (up3 (up3 (up3 R 13 q z1) 0 39 z2) 17 b z3) 19 at' p) 18 at' w a i = up3 (up3 (up3 M 12 y z0) 13 q z1) 0 39 z2 a i := by
  by_cases h0 : a = 0
  · subst h0
    rw [u3n (by omega), u3n (by omega), u3n (by omega)] at hM ⊢
    by_cases hi : i = 39
    · rw [hi, u3s, u3s]
    · rw [u3i hi, u3i hi, u3n (by omega), u3n (by omega), u3n (by omega), hM]
  · rw [u3n (k := 0) h0]
    by_cases h13 : a = 13
    · subst h13
      rw [u3n (by omega), u3n (by omega), u3n (by omega)] at hM ⊢
      rw [u3n (by omega)]
      by_cases hi : i = q
      · rw [hi, u3s, u3s]
      · rw [u3i hi, u3i hi, u3n (by omega), hM]
    · rw [u3n (k := 13) h13, u3n h12, hM]
      simp only [up3_eq, h0, h13, false_and, if_false]
theorem c_mv {x : Int} (J : jC x R) (C : cR h c0 R) (hn : 0 ≤ n ∧ n < 6) (ho : 0 ≤ o ∧ o ≤ 4) (hc : 0 ≤ c ∧ c < 3) :
    ∃ h', f_Me_moveFlitOf (some (c0 + 1)) n o c x (vw h c0 (wF R F) Rr) = some ((nMv R n o c).1, vw h' c0 (wF (nMv R n o c).2 F) Rr) ∧ cR h' c0 (nMv R n o c).2 ∧ ext h h' ∧ dM h R h' (nMv R n o c).2 := by
  obtain ⟨I, t, hxx⟩ := J
  have C2 := C
  obtain ⟨hs, sz, d, X, Y, L, P, FF⟩ := C2
  have hr : rn n o c := by unfold rn; omega
  have gS := I.2.2.2.1.1
  have gB0 := I.2.2.2.2.1
  have gF := I.2.2.2.2.2.1
  have gP := I.1.2.2.2.2.2.1
  have gQ := bQ_of I
  have tt := t.1
  have hz := sz.2.2.2
  have gB : ∀ b, 0 ≤ b → b < 90 → (0 ≤ R 17 b ∧ R 17 b ≤ 4) ∧ (-1 ≤ R 18 b ∧ R 18 b ≤ 4) ∧ (0 ≤ R 19 b ∧ R 19 b ≤ 4) := fun b b0 b1 => by
    have := gB0 b b0 b1
    omega
  obtain ⟨-, k2, k3, k4, k5, k6⟩ := iR_mv I t hr
  have sv := sv_sp I.2.2.1 gP gF hr
  have svr : -1 ≤ nSv R n o c := by
    have := (gB (15 * n + 3 * o + c) (by omega) (by omega)).2.1
    unfold nSv
    split
    · exact (nSc_r 5 1).1
    · omega
  have dm : ∀ hf : ev_hs, (xC hf : Int) ≤ xC h + ((nMv R n o c).2 0 39 - R 0 39) → (xS hf : Int) ≤ xS h + 200 * ((nMv R n o c).2 0 39 - R 0 39) → dM h R hf (nMv R n o c).2 := fun hf a b => ⟨a, b, phi_c (k3 38 (by omega) (by omega)) (k2 10 (by omega) (by omega) (by omega) (by omega)) (k2 11 (by omega) (by omega) (by omega) (by omega)), k3 38 (by omega) (by omega)⟩
  have pre : f_Me_moveFlitOf (some (c0 + 1)) n o c x (vw h c0 (wF R F) Rr) = eEq (nSv R n o c) (-1) (eBo 0 (vw h c0 (wF R F) Rr)) (jn (fun (u5_h : ev_hs) => eBo 0 u5_h) (fun (J52 : ev_hs → Option (Int × ev_hs)) => gR (vw h c0 (wF R F) Rr) 2 3 (some (qL c0 n c 0)) (fun q6 => lQ (vw h c0 (wF R F) Rr) 56 q6 (nSv R n o c) (fun q7 => vK (vw h c0 (wF R F) Rr) 4 q7 (bR (f_FB_front q7 (vw h c0 (wF R F) Rr)) (fun q9 g8 => eNu q9 (J52 g8) (gI g8 9 3 q9 (fun z10 => eEq z10 x (J52 g8) (jn (fun (u11_2 : Int) (u11_5 : Option Nat) (u11_6 : Int) (u11_h : ev_hs) => vK u11_h 2 u11_5 (bV (f_La_dropFront u11_5 u11_6 u11_2 u11_h) (fun g12 => eBo 1 g12))) (fun (J113 : Int → Option Nat → Int → ev_hs → Option (Int × ev_hs)) => eEq o 4 (vK g8 1 (some (c0 + 1)) (bV (f_Me_leaveMesh (some (c0 + 1)) q9 (some (qL c0 n c 0)) g8) (fun g21 => J113 o (some (qL c0 n c 0)) (nSv R n o c) g21))) (jn (fun (u13_h : ev_hs) => eBo 0 u13_h) (fun (J92 : ev_hs → Option (Int × ev_hs)) => vK g8 1 (some (c0 + 1)) (bR (f_Me_bufferBeyond (some (c0 + 1)) n o c g8) (fun q15 g14 => eNu q15 (J92 g14) (vK g14 4 q15 (bI (f_FB_hasRoom q15 g14) (fun z17 g16 => eEq z17 0 (J92 g16) (vK g16 4 q15 (bV (f_FB_put q15 q9 x g16) (fun g18 => gI g18 1 4 (some (c0 + 1)) (fun z19 => pI g18 1 4 (some (c0 + 1)) (z19 + 1) (fun g20 => J113 o (some (qL c0 n c 0)) (nSv R n o c) g20)))))))))))))))))))))) := by
    unfold f_Me_moveFlitOf
    rw [zvMe hs, t_laneOf hs hn hc, zvLa hs hn hc, t_port hs FF hn ho hc gS gB gP gF]
  rw [pre]
  clear pre
  unfold nMv at *
  by_cases h0 : nSv R n o c < 0
  · rw [if_pos h0, show nSv R n o c = -1 by omega, eEq_i (by omega) (by omega) (by omega) (by omega), if_pos rfl]
    exact ⟨h, rfl, C, ext_r, dM_r⟩
  rw [if_neg h0] at dm k2 k3 k4 k5 k6 ⊢
  obtain ⟨s1, s2, s3⟩ := sv (by omega)
  generalize nSv R n o c = p at *
  have hp : 0 ≤ p ∧ p < 5 := by omega
  have gb := (gB (15 * n + 3 * p + c) (by omega) (by omega)).1
  rw [eEq_i (by omega) (by omega) (by omega) (by omega), if_neg (by omega), jn_eq, zgLa3 hs hn hc, zqFB hs hn hc hp, zvFB hs hn hc hp, t_front (f := Y (15 * n + 3 * p + c) 0) hs hn hc hp gS gb (fun h => (flI_0 FF hn hc hp (by omega)).1)]
  by_cases h1 : R 17 (15 * n + 3 * p + c) = 0
  · rw [if_pos h1, if_pos h1, eNu_n]
    exact ⟨h, rfl, C, ext_r, dM_r⟩
  rw [if_neg h1] at dm k2 k3 k4 k5 k6 ⊢
  rw [if_neg h1, eNu_s]
  obtain ⟨x0, fk0⟩ := flI_0 FF hn hc hp (by omega)
  obtain ⟨f1, f2, f3, f4, f5, f6, aa, f7, f8, f9⟩ := id fk0
  have gf := gF (4 * (15 * n + 3 * p + c)) (by omega) (by omega)
  rw [t_g9 (c := 9) f3 f1, show (100 * 9 + 3 : Nat) = 903 from rfl, f6, eEq_i (by omega) (by omega) (by omega) (by omega)]
  by_cases h2 : R 16 (4 * (15 * n + 3 * p + c)) = R 0 2
  · rw [if_pos h2, if_pos (by omega)]
    exact ⟨h, rfl, C, ext_r, dM_r⟩
  rw [if_neg h2] at dm k2 k3 k4 k5 k6 ⊢
  rw [if_neg (by omega), jn_eq]
  generalize hw : (if R 15 (4 * (15 * n + 3 * p + c)) = nSz R (R 14 (4 * (15 * n + 3 * p + c))) - 1 then (1 : Int) else 0) = w at *
  have hw2 : w = 0 ∨ w = 1 := by rw [← hw]; split <;> simp
  have hwl : (if w = 1 then (-1 : Int) else p) = if R 15 (4 * (15 * n + 3 * p + c)) = nSz R (R 14 (4 * (15 * n + 3 * p + c))) - 1 then -1 else p := by
    rw [← hw]
    split
    · rfl
    · rfl
  have b0 : 0 ≤ 15 * n + 3 * p + c ∧ 15 * n + 3 * p + c < 90 := by omega
  have hx : ∀ j : Nat, (j : Int) < R 17 (15 * n + 3 * p + c) → ∃ f, xQ h (qF c0 n c p 1) j = some f ∧ xK h f = 10 := by
    intro j hj
    have := FF.1 (15 * n + 3 * p + c) j b0.1 b0.2 (by omega) hj
    rw [qB_F hn hc hp] at this
    exact ⟨_, by simpa using this.1, this.2.2.2.1⟩
  have qbs : qB c0 (15 * n + 3 * p + c) = qF c0 n c p 1 := qB_F hn hc hp
  by_cases h4 : o = 4
  · have htg : nTg n o c = -1 := by unfold nTg; rw [if_pos h4]
    have hnt : ¬ (0 ≤ nTg n o c ∧ R 17 (nTg n o c) = R 0 0) := by rw [htg]; omega
    rw [if_neg hnt] at dm k2 k3 k4 k5 k6 ⊢
    rw [eEq_i (by omega) (by omega) (by omega) (by omega), if_pos h4, zvMe hs]
    unfold nMv2 at *
    rw [if_neg (by omega)] at dm k2 k3 k4 k5 k6 ⊢
    unfold f_Me_leaveMesh
    rw [t_g9 (c := 9) f3 f1, show (100 * 9 + 2 : Nat) = 902 from rfl, f5]
    by_cases hl : R 15 (4 * (15 * n + 3 * p + c)) = nSz R (R 14 (4 * (15 * n + 3 * p + c))) - 1
    · rw [if_pos hl] at dm k2 k3 k4 k5 k6 hw ⊢
      subst hw
      dsimp only at dm k2 k3 k4 k5 k6 ⊢
      have gq := gQ (3 * n + c) (by omega) (by omega)
      obtain ⟨h1', d1, E1, x1, L1, z1, z2⟩ := ls_add (F := F) (Rr := Rr) (k := 2) L hs sz hn hc (Or.inr rfl) (by show 0 ≤ R 13 (3 * n + c) ∧ R 13 (3 * n + c) ≤ 127; omega) f8
      have e1 := exL x1
      have hs1 := shC_e e1 hz hs
      have sz1 := sE_e e1 sz
      have hk57 := (sC_F hs hn hc hp).2.2.2.1
      have hq1 : ∀ b j, 0 ≤ b → b < 90 → xQ h1' (qB c0 b) j = xQ h (qB c0 b) j := fun b j u v => x1.2.2.2.2.2.2.1 _ _ (by have := qB_lt (c0 := c0) u v; omega) (by have := (sC_B hs u v).1; omega)
      have r17 : up3 (up3 R 13 (3 * n + c) (R 13 (3 * n + c) + 1)) 0 39 (R 0 39 + 1) 17 (15 * n + 3 * p + c) = R 17 (15 * n + 3 * p + c) := by rw [u3n (by omega), u3n (by omega)]
      obtain ⟨h2', E2, q2, e2, e3⟩ := c_drop1 (F := F) (Rr := Rr) (R := up3 (up3 R 13 (3 * n + c) (R 13 (3 * n + c) + 1)) 0 39 (R 0 39 + 1)) (f := Y (15 * n + 3 * p + c) 0) (w := 1) (o := o) hs1 sz1 hn ho hc hp gS (by rw [r17]; have := gB0 (15 * n + 3 * p + c) b0.1 b0.2; omega) (fun j hj => by
        rw [r17] at hj
        obtain ⟨f, y1, y2⟩ := hx j hj
        rw [← qbs, hq1 _ _ b0.1 b0.2, qbs]
        refine ⟨f, y1, ?_⟩
        have := FF.1 (15 * n + 3 * p + c) j b0.1 b0.2 (by omega) hj
        rw [qbs] at this
        have h3 : f = Y (15 * n + 3 * p + c) j := by
          have h4 := this.1
          rw [show ((j : Int)).toNat = j by omega, y1] at h4
          exact Option.some.inj h4
        rw [(e1.2.2.2.1 f (by rw [h3]; exact this.2.2.1)).1]
        exact y2) (by rw [← qbs, hq1 _ _ b0.1 b0.2, qbs]; exact x0) f1 (by rw [(e1.2.2.2.1 _ f2).1]; exact f3) (by rw [e1.2.2.2.2.1 902 _ f2 (by omega) (by omega), f5]) (Or.inr rfl)
      rw [r17] at E2 e3
      obtain ⟨v1, v2, v3, v4, v5, v6⟩ := qQ_x q2
      have hk57' := (sC_F hs1 hn hc hp).2.2.2.1
      have x2 := qQ_s q2 (fun a j hk => e2 a j (fun y => by rw [y] at hk; exact hk hk57'))
      have e02 := ext_t e1 (exF x2)
      have hs2 := shC_e e02 hz hs
      have L2 : lsI h2' c0 (up3 R 13 (3 * n + c) (R 13 (3 * n + c) + 1)) d1 (upX X 2 (3 * n + c) (R 13 (3 * n + c)) aa) := lsI_o L1 (exF x2) sz1 (fun a _ => by rw [v3]) (fun a j _ hk => e2 a j (fun y => by rw [y] at hk; omega))
      have kT : ∀ a j, (a < 12 ∨ 19 < a) → a ≠ 0 → up3 (up3 (up3 (nMv1 R n o c p) 12 (128 * (3 * n + c) + R 13 (3 * n + c)) (R 14 (4 * (15 * n + 3 * p + c)))) 13 (3 * n + c) (R 13 (3 * n + c) + 1)) 0 39 (R 0 39 + 1) a j = R a j := by
        intro a j ha hb
        rw [k2 a hb (by omega) (by omega) (by omega)]
      have t17 : ∀ y, up3 (up3 (up3 (nMv1 R n o c p) 12 (128 * (3 * n + c) + R 13 (3 * n + c)) (R 14 (4 * (15 * n + 3 * p + c)))) 13 (3 * n + c) (R 13 (3 * n + c) + 1)) 0 39 (R 0 39 + 1) 17 y = if y = 15 * n + 3 * p + c then R 17 (15 * n + 3 * p + c) - 1 else if false = true ∧ y = 0 then R 17 0 + 1 else R 17 y := by
        intro y
        rw [u3n (by omega), u3n (by omega), u3n (by omega), mv1_v (by omega), u3n (by omega), u3n (by omega), up3_eq]
        simp
      have tS : ∀ a j, 14 ≤ a → a ≤ 16 → up3 (up3 (up3 (nMv1 R n o c p) 12 (128 * (3 * n + c) + R 13 (3 * n + c)) (R 14 (4 * (15 * n + 3 * p + c)))) 13 (3 * n + c) (R 13 (3 * n + c) + 1)) 0 39 (R 0 39 + 1) a j = if 4 * (15 * n + 3 * p + c) ≤ j ∧ j < 4 * (15 * n + 3 * p + c) + (R 17 (15 * n + 3 * p + c) - 1) then R a (j + 1) else R a j := by
        intro a j u v
        rw [u3n (by omega), u3n (by omega), u3n (by omega), mv1_s ⟨u, v⟩]
      have t12 : ∀ j, up3 (up3 (up3 (nMv1 R n o c p) 12 (128 * (3 * n + c) + R 13 (3 * n + c)) (R 14 (4 * (15 * n + 3 * p + c)))) 13 (3 * n + c) (R 13 (3 * n + c) + 1)) 0 39 (R 0 39 + 1) 12 j = if j = 128 * (3 * n + c) + R 13 (3 * n + c) then R 14 (4 * (15 * n + 3 * p + c)) else R 12 j := by
        intro j
        rw [u3n (by omega), u3n (by omega), up3_eq, mv1_v (by omega), u3n (by omega), u3n (by omega), u3n (by omega)]
        simp only [true_and]
      have t13 : ∀ j, up3 (up3 (up3 (nMv1 R n o c p) 12 (128 * (3 * n + c) + R 13 (3 * n + c)) (R 14 (4 * (15 * n + 3 * p + c)))) 13 (3 * n + c) (R 13 (3 * n + c) + 1)) 0 39 (R 0 39 + 1) 13 j = if j = 3 * n + c then R 13 (3 * n + c) + 1 else R 13 j := by
        intro j
        rw [u3n (by omega), up3_eq, u3n (by omega), mv1_v (by omega), u3n (by omega), u3n (by omega), u3n (by omega)]
        simp only [true_and]
      have tv : ∀ a i, vis a = true → up3 (up3 (up3 (up3 (up3 R 13 (3 * n + c) (R 13 (3 * n + c) + 1)) 0 39 (R 0 39 + 1)) 17 (15 * n + 3 * p + c) (R 17 (15 * n + 3 * p + c) - 1)) 19 (15 * n + 3 * o + c) p) 18 (15 * n + 3 * o + c) (-1) a i = up3 (up3 (up3 (nMv1 R n o c p) 12 (128 * (3 * n + c) + R 13 (3 * n + c)) (R 14 (4 * (15 * n + 3 * p + c)))) 13 (3 * n + c) (R 13 (3 * n + c) + 1)) 0 39 (R 0 39 + 1) a i := by
        intro a i ha
        have hv : a = 0 ∨ a = 10 ∨ a = 11 ∨ a = 13 ∨ 17 ≤ a := by
          unfold vis at ha
          simp at ha
          omega
        have hmv := mv1_v (R := R) (n := n) (o := o) (c := c) (p := p) (i := i) (a := a) (by omega)
        rw [if_pos hl] at hmv
        exact mvx_v (by omega) hmv
      have o39 : up3 (up3 (up3 (nMv1 R n o c p) 12 (128 * (3 * n + c) + R 13 (3 * n + c)) (R 14 (4 * (15 * n + 3 * p + c)))) 13 (3 * n + c) (R 13 (3 * n + c) + 1)) 0 39 (R 0 39 + 1) 0 39 = R 0 39 + 1 := u3s
      generalize up3 (up3 (up3 (nMv1 R n o c p) 12 (128 * (3 * n + c) + R 13 (3 * n + c)) (R 14 (4 * (15 * n + 3 * p + c)))) 13 (3 * n + c) (R 13 (3 * n + c) + 1)) 0 39 (R 0 39 + 1) = W at *
      refine ⟨h2', ?_, ⟨?_, sE_e e02 sz, d1, upX X 2 (3 * n + c) (R 13 (3 * n + c)) aa, fun b' j => Y (mvS R false (15 * n + 3 * p + c) 0 b' j).1 (mvS R false (15 * n + 3 * p + c) 0 b' j).2, ?_, ?_, ?_⟩, e02, dm h2' (by rw [v5, o39]; omega) (by rw [v6, o39]; omega)⟩
      · rw [eEq_i (by omega) (by omega) (by omega) (by omega), if_neg (by omega), zgLa2 hs hn hc, y_gR (c := 9) (k := 0) f3 f7, zvALb hs hn hc, E1, bI_some, ziMe3 hs1, zpMe3 hs1, show kN 2 = 13 from rfl, u3n (k := 13) (a := 0) (by omega), bV_some]
        rw [zvLa hs1 hn hc, E2, bV_some]
        show some ((1 : Int), _) = some ((1 : Int), _)
        rw [if_pos rfl, vw_vis tv]
      · rw [k3 0 (by omega) (by omega), k3 1 (by omega) (by omega)]
        exact hs2
      · refine lsI_c L2 (fun q _ _ => ?_) (fun q _ _ => ?_)
        · rw [kT 10 _ (by omega) (by omega), u3n (by omega)]
        · rw [t13, up3_eq]
          simp only [true_and]
      · have P2 := plI_e e02 L P
        have tr : ∀ q a, pk h2' R q a → pk h2' W q a := fun q a y => pk_c (fun b _ _ => kT b _ (by omega) (by omega)) (k3 1 (by omega) (by omega)) y
        intro k q j hk q0 q1 j0 j1
        have gx := gQ q q0 q1
        rcases hk with rfl | rfl
        · change j < W 10 q at j1
          show pk h2' W (W 9 (128 * q + j)) _
          rw [kT 10 _ (by omega) (by omega)] at j1
          rw [kT 9 _ (by omega) (by omega)]
          unfold upX
          rw [if_neg (by omega)]
          exact tr _ _ (P2 1 q j (Or.inl rfl) q0 q1 j0 j1)
        · change j < W 13 q at j1
          show pk h2' W (W 12 (128 * q + j)) _
          rw [t13] at j1
          rw [t12]
          unfold upX
          by_cases hh : q = 3 * n + c ∧ j = R 13 (3 * n + c)
          · rw [if_pos (by omega), if_pos ⟨rfl, hh.1, hh.2⟩]
            exact tr _ _ (pk_e e02 f8.2.2 f9)
          · have j2 : j < R 13 q := by
              by_cases g1 : q = 3 * n + c
              · rw [if_pos g1] at j1
                have g2 : j ≠ R 13 (3 * n + c) := fun y => hh ⟨g1, y⟩
                rw [g1]
                omega
              · rw [if_neg g1] at j1
                exact j1
            rw [if_neg (by omega), if_neg (by omega)]
            exact tr _ _ (P2 2 q j (Or.inr rfl) q0 q1 j0 j2)
      · refine flI_mv (lk := false) (tg := 0) FF e02 (fun a u v => funext (fun j => kT a j (by omega) (by omega))) (k3 1 (by omega) (by omega)) b0 (by omega) (by simp) (by simp) t17 (fun j hj => ?_) (by simp) (fun y j y0 y1 hy _ => ?_) (fun f hf _ => ?_) (by simp) (fun a j u v j0 j1 => ?_) (by simp) (fun a y j u v y0 y1 j0 j1 hy => ?_)
        · rw [qbs, e3 j hj, ← qbs, hq1 _ _ b0.1 b0.2]
        · rw [e2 _ _ (fun z => hy (qB_inj y0 y1 b0.1 b0.2 (by rw [z, qbs]))), hq1 _ _ y0 y1]
        · rw [v2]
          exact x1.2.2.2.2.1 903 f hf (by omega)
        · rw [tS a _ u v, if_pos (by omega), show 4 * (15 * n + 3 * p + c) + j + 1 = 4 * (15 * n + 3 * p + c) + (j + 1) by omega]
        · have := (gB y y0 y1).1
          rw [tS a _ u v, if_neg (by omega)]
    · rw [if_neg hl] at dm k2 k3 k4 k5 k6 hw ⊢
      subst hw
      dsimp only at dm k2 k3 k4 k5 k6 ⊢
      obtain ⟨h2', E2, q2, e2, e3⟩ := c_drop1 (F := F) (Rr := Rr) (R := R) (f := Y (15 * n + 3 * p + c) 0) (w := 0) (o := o) hs sz hn ho hc hp gS (by have := gB0 (15 * n + 3 * p + c) b0.1 b0.2; omega) hx x0 f1 f3 f5 (Or.inl rfl)
      obtain ⟨v1, v2, v3, v4, v5, v6⟩ := qQ_x q2
      have hk57' := (sC_F hs hn hc hp).2.2.2.1
      have x2 := qQ_s q2 (fun a j hk => e2 a j (fun y => by rw [y] at hk; exact hk hk57'))
      have e02 := exF x2
      have hs2 := shC_e e02 hz hs
      have L2 : lsI h2' c0 R d X := lsI_o L e02 sz (fun a _ => by rw [v3]) (fun a j _ hk => e2 a j (fun y => by rw [y] at hk; omega))
      have kT : ∀ a j, (a < 14 ∨ 19 < a) → nMv1 R n o c p a j = R a j := by
        intro a j ha
        rw [mv1_v (by omega), u3n (by omega), u3n (by omega), u3n (by omega)]
      have t17 : ∀ y, nMv1 R n o c p 17 y = if y = 15 * n + 3 * p + c then R 17 (15 * n + 3 * p + c) - 1 else if false = true ∧ y = 0 then R 17 0 + 1 else R 17 y := by
        intro y
        rw [mv1_v (by omega), u3n (by omega), u3n (by omega), up3_eq]
        simp
      have tv : ∀ a i, vis a = true → up3 (up3 (up3 R 17 (15 * n + 3 * p + c) (R 17 (15 * n + 3 * p + c) - 1)) 19 (15 * n + 3 * o + c) p) 18 (15 * n + 3 * o + c) p a i = nMv1 R n o c p a i := by
        intro a i ha
        have hv : a = 0 ∨ a = 10 ∨ a = 11 ∨ a = 13 ∨ 17 ≤ a := by
          unfold vis at ha
          simp at ha
          omega
        rw [mv1_v (by omega), if_neg hl]
      have tS : ∀ a j, 14 ≤ a → a ≤ 16 → nMv1 R n o c p a j = if 4 * (15 * n + 3 * p + c) ≤ j ∧ j < 4 * (15 * n + 3 * p + c) + (R 17 (15 * n + 3 * p + c) - 1) then R a (j + 1) else R a j := fun a j u v => mv1_s ⟨u, v⟩
      generalize nMv1 R n o c p = W at *
      refine ⟨h2', ?_, ⟨?_, sE_e e02 sz, d, X, fun b' j => Y (mvS R false (15 * n + 3 * p + c) 0 b' j).1 (mvS R false (15 * n + 3 * p + c) 0 b' j).2, ?_, ?_, ?_⟩, e02, dm h2' (by rw [v5, kT 0 _ (by omega)]; omega) (by rw [v6, kT 0 _ (by omega)]; omega)⟩
      · rw [eEq_i (by omega) (by omega) (by omega) (by omega), if_pos rfl, bV_some]
        rw [zvLa hs hn hc, E2, bV_some]
        show some ((1 : Int), _) = some ((1 : Int), _)
        rw [if_neg (by omega), vw_vis tv]
      · rw [kT 0 _ (by omega), kT 0 _ (by omega)]
        exact hs2
      · exact lsI_c L2 (fun q _ _ => kT 10 _ (by omega)) (fun q _ _ => kT 13 _ (by omega))
      · have P2 := plI_e e02 L P
        intro k q j hk q0 q1 j0 j1
        have e9 : W (kN k) q = R (kN k) q ∧ W (kE k) (128 * q + j) = R (kE k) (128 * q + j) := by
          rcases hk with rfl | rfl
          · exact ⟨kT 10 _ (by omega), kT 9 _ (by omega)⟩
          · exact ⟨kT 13 _ (by omega), kT 12 _ (by omega)⟩
        rw [e9.1] at j1
        rw [e9.2]
        exact pk_c (fun a _ _ => kT a _ (by omega)) (kT 0 _ (by omega)) (P2 k q j hk q0 q1 j0 j1)
      · refine flI_mv (lk := false) (tg := 0) FF e02 (fun a u v => funext (fun j => kT a j (by omega))) (kT 0 _ (by omega)) b0 (by omega) (by simp) (by simp) t17 (fun j hj => ?_) (by simp) (fun y j y0 y1 hy _ => ?_) (fun f hf _ => ?_) (by simp) (fun a j u v j0 j1 => ?_) (by simp) (fun a y j u v y0 y1 j0 j1 hy => ?_)
        · rw [qbs, e3 j hj]
        · rw [e2 _ _ (fun z => hy (qB_inj y0 y1 b0.1 b0.2 (by rw [z, qbs])))]
        · rw [v2]
        · rw [tS a _ u v, if_pos (by omega), show 4 * (15 * n + 3 * p + c) + j + 1 = 4 * (15 * n + 3 * p + c) + (j + 1) by omega]
        · have := (gB y y0 y1).1
          rw [tS a _ u v, if_neg (by omega)]
  · have hm := s2.resolve_left h4
    have tgr := om_tg hr hm
    have hne := tg_ne hr hm p ⟨by omega, by omega⟩
    have hn' : 0 ≤ nNb n o ∧ nNb n o < 6 := by
      unfold om at hm
      unfold nNb
      rcases hm with ⟨rfl, y⟩ | ⟨rfl, y⟩ | ⟨rfl, y⟩ | ⟨rfl, y⟩ <;> simp <;> omega
    have hp' : 0 ≤ (o + 2) % 4 ∧ (o + 2) % 4 < 5 := by omega
    have etg : 15 * nNb n o + 3 * ((o + 2) % 4) + c = nTg n o c := by unfold nTg; rw [if_neg h4]
    have gt0 := gB0 (nTg n o c) tgr.1 tgr.2.1
    have gt := (gB (nTg n o c) tgr.1 tgr.2.1).1
    rw [eEq_i (by omega) (by omega) (by omega) (by omega), if_neg h4, jn_eq, zvMe hs, t_beyond hs hn hc hm, eNu_s, zvFB hs hn' hc hp', t_room hs hn' hc hp' gS (by rw [etg]; omega), etg]
    by_cases h3 : 0 ≤ nTg n o c ∧ R 17 (nTg n o c) = R 0 0
    · rw [if_pos h3, if_neg (by omega), eEq_i (by omega) (by omega) (by omega) (by omega), if_pos rfl]
      exact ⟨h, rfl, C, ext_r, dM_r⟩
    rw [if_neg h3] at dm k2 k3 k4 k5 k6 ⊢
    have hroom : R 17 (nTg n o c) < R 0 0 := by omega
    rw [if_pos hroom, eEq_i (by omega) (by omega) (by omega) (by omega), if_neg (by omega), zvFB hs hn' hc hp']
    unfold nMv2 at *
    rw [if_pos tgr.1] at dm k2 k3 k4 k5 k6 ⊢
    dsimp only at dm k2 k3 k4 k5 k6 ⊢
    have E1 := c_put (R := R) (F := F) (Rr := Rr) (f := Y (15 * n + 3 * p + c) 0) (x := x) hs sz hn' hc hp' gS (by rw [etg]; omega) f3 f1
    have qbt : qB c0 (nTg n o c) = qF c0 (nNb n o) c ((o + 2) % 4) 1 := by rw [← etg]; exact qB_F hn' hc hp'
    rw [etg] at E1
    have hk57 := (sC_F hs hn' hc hp').2.2.2.1
    have x1 : ex 903 57 h (wQ (wI h 903 (Y (15 * n + 3 * p + c) 0) x) (qF c0 (nNb n o) c ((o + 2) % 4) 1) (R 17 (nTg n o c)).toNat (some (Y (15 * n + 3 * p + c) 0))) := ex_t ex_w9 (ex_q9 hk57)
    have w1 : xQ (wQ (wI h 903 (Y (15 * n + 3 * p + c) 0) x) (qF c0 (nNb n o) c ((o + 2) % 4) 1) (R 17 (nTg n o c)).toNat (some (Y (15 * n + 3 * p + c) 0))) = up2 (xQ h) (qF c0 (nNb n o) c ((o + 2) % 4) 1) (R 17 (nTg n o c)).toNat (some (Y (15 * n + 3 * p + c) 0)) := rfl
    have w2 : xI (wQ (wI h 903 (Y (15 * n + 3 * p + c) 0) x) (qF c0 (nNb n o) c ((o + 2) % 4) 1) (R 17 (nTg n o c)).toNat (some (Y (15 * n + 3 * p + c) 0))) = up2 (xI h) 903 (Y (15 * n + 3 * p + c) 0) x := rfl
    have w3 : xR (wQ (wI h 903 (Y (15 * n + 3 * p + c) 0) x) (qF c0 (nNb n o) c ((o + 2) % 4) 1) (R 17 (nTg n o c)).toNat (some (Y (15 * n + 3 * p + c) 0))) = xR h := rfl
    have w4 : xC (wQ (wI h 903 (Y (15 * n + 3 * p + c) 0) x) (qF c0 (nNb n o) c ((o + 2) % 4) 1) (R 17 (nTg n o c)).toNat (some (Y (15 * n + 3 * p + c) 0))) = xC h := rfl
    have w5 : xS (wQ (wI h 903 (Y (15 * n + 3 * p + c) 0) x) (qF c0 (nNb n o) c ((o + 2) % 4) 1) (R 17 (nTg n o c)).toNat (some (Y (15 * n + 3 * p + c) 0))) = xS h := rfl
    have w6 : xK (wQ (wI h 903 (Y (15 * n + 3 * p + c) 0) x) (qF c0 (nNb n o) c ((o + 2) % 4) 1) (R 17 (nTg n o c)).toNat (some (Y (15 * n + 3 * p + c) 0))) = xK h := rfl
    generalize wQ (wI h 903 (Y (15 * n + 3 * p + c) 0) x) (qF c0 (nNb n o) c ((o + 2) % 4) 1) (R 17 (nTg n o c)).toNat (some (Y (15 * n + 3 * p + c) 0)) = h1' at *
    have e1 := exF x1
    have hs1 := shC_e e1 hz hs
    have sz1 := sE_e e1 sz
    have nq : qF c0 n c p 1 ≠ qF c0 (nNb n o) c ((o + 2) % 4) 1 := by
      intro y
      rw [← qbs, ← qbt] at y
      exact hne (qB_inj b0.1 b0.2 tgr.1 tgr.2.1 y).symm
    have hq1 : ∀ j, xQ h1' (qF c0 n c p 1) j = xQ h (qF c0 n c p 1) j := by
      intro j
      rw [w1]
      unfold up2
      rw [if_neg (fun y => nq y.1)]
    have r17 : up3 (up3 R 17 (nTg n o c) (R 17 (nTg n o c) + 1)) 0 40 (R 0 40 + 1) 17 (15 * n + 3 * p + c) = R 17 (15 * n + 3 * p + c) := by rw [u3n (by omega), u3i (fun y => hne y.symm)]
    obtain ⟨h2', E2, q2, e2, e3⟩ := c_drop1 (F := F) (Rr := Rr) (R := up3 (up3 R 17 (nTg n o c) (R 17 (nTg n o c) + 1)) 0 40 (R 0 40 + 1)) (f := Y (15 * n + 3 * p + c) 0) (w := w) (o := o) hs1 sz1 hn ho hc hp gS (by rw [r17]; have := gB0 (15 * n + 3 * p + c) b0.1 b0.2; omega) (fun j hj => by
      rw [r17] at hj
      obtain ⟨f, y1, y2⟩ := hx j hj
      rw [hq1, w6]
      exact ⟨f, y1, y2⟩) (by rw [hq1]; exact x0) f1 (by rw [w6]; exact f3) (by rw [w2]; unfold up2; rw [if_neg (by omega), f5]) hw2
    rw [r17] at E2 e3
    obtain ⟨v1, v2, v3, v4, v5, v6⟩ := qQ_x q2
    have hk57' := (sC_F hs1 hn hc hp).2.2.2.1
    have x2 := qQ_s q2 (fun a j hk => e2 a j (fun y => by rw [y] at hk; exact hk hk57'))
    have e02 := ext_t e1 (exF x2)
    have hs2 := shC_e e02 hz hs
    have L2 : lsI h2' c0 R d X := lsI_o (lsI_o L e1 sz (fun a _ => by rw [w3]) (fun a j _ hk => by
      rw [w1]
      unfold up2
      rw [if_neg (fun y => by rw [y.1] at hk; omega)])) (exF x2) sz1 (fun a _ => by rw [v3]) (fun a j _ hk => e2 a j (fun y => by rw [y] at hk; omega))
    have kT : ∀ a j, (a < 14 ∨ 19 < a) → a ≠ 0 → up3 (nApp (nMv1 R n o c p) (nTg n o c) (R 14 (4 * (15 * n + 3 * p + c))) (R 15 (4 * (15 * n + 3 * p + c)))) 0 40 (R 0 40 + 1) a j = R a j := by
      intro a j ha hb
      rw [u3n hb, nApp_n (by omega), mv1_v (by omega), u3n (by omega), u3n (by omega), u3n (by omega)]
    have m17 : ∀ y, nMv1 R n o c p 17 y = if y = 15 * n + 3 * p + c then R 17 (15 * n + 3 * p + c) - 1 else R 17 y := by
      intro y
      rw [mv1_v (by omega), u3n (by omega), u3n (by omega), up3_eq]
      simp
    have m17t : nMv1 R n o c p 17 (nTg n o c) = R 17 (nTg n o c) := by rw [m17, if_neg hne]
    have t17 : ∀ y, up3 (nApp (nMv1 R n o c p) (nTg n o c) (R 14 (4 * (15 * n + 3 * p + c))) (R 15 (4 * (15 * n + 3 * p + c)))) 0 40 (R 0 40 + 1) 17 y = if y = 15 * n + 3 * p + c then R 17 (15 * n + 3 * p + c) - 1 else if true = true ∧ y = nTg n o c then R 17 (nTg n o c) + 1 else R 17 y := by
      intro y
      rw [u3n (by omega), app_17, m17]
      by_cases hy : y = nTg n o c
      · subst hy
        rw [if_pos rfl, if_neg hne, if_neg hne, if_pos (⟨rfl, rfl⟩ : true = true ∧ nTg n o c = nTg n o c)]
      · rw [if_neg hy, if_neg (c := true = true ∧ y = nTg n o c) (fun z => hy z.2)]
    have m02 : nMv1 R n o c p 0 2 = x := by rw [mv1_v (by omega), u3n (by omega), u3n (by omega), u3n (by omega), hxx]
    have tS : ∀ a j, 14 ≤ a → a ≤ 16 → j ≠ 4 * nTg n o c + R 17 (nTg n o c) → up3 (nApp (nMv1 R n o c p) (nTg n o c) (R 14 (4 * (15 * n + 3 * p + c))) (R 15 (4 * (15 * n + 3 * p + c)))) 0 40 (R 0 40 + 1) a j = if 4 * (15 * n + 3 * p + c) ≤ j ∧ j < 4 * (15 * n + 3 * p + c) + (R 17 (15 * n + 3 * p + c) - 1) then R a (j + 1) else R a j := by
      intro a j u v hj
      rw [u3n (by omega), ← mv1_s (o := o) ⟨u, v⟩]
      have ha : a = 14 ∨ a = 15 ∨ a = 16 := by omega
      rcases ha with rfl | rfl | rfl
      · rw [app_14, m17t, if_neg hj]
      · rw [app_15, m17t, if_neg hj]
      · rw [app_16, m17t, if_neg hj]
    have n14 : up3 (nApp (nMv1 R n o c p) (nTg n o c) (R 14 (4 * (15 * n + 3 * p + c))) (R 15 (4 * (15 * n + 3 * p + c)))) 0 40 (R 0 40 + 1) 14 (4 * nTg n o c + R 17 (nTg n o c)) = R 14 (4 * (15 * n + 3 * p + c)) := by rw [u3n (by omega), app_14, m17t, if_pos rfl]
    have n15 : up3 (nApp (nMv1 R n o c p) (nTg n o c) (R 14 (4 * (15 * n + 3 * p + c))) (R 15 (4 * (15 * n + 3 * p + c)))) 0 40 (R 0 40 + 1) 15 (4 * nTg n o c + R 17 (nTg n o c)) = R 15 (4 * (15 * n + 3 * p + c)) := by rw [u3n (by omega), app_15, m17t, if_pos rfl]
    have n16 : up3 (nApp (nMv1 R n o c p) (nTg n o c) (R 14 (4 * (15 * n + 3 * p + c))) (R 15 (4 * (15 * n + 3 * p + c)))) 0 40 (R 0 40 + 1) 16 (4 * nTg n o c + R 17 (nTg n o c)) = x := by rw [u3n (by omega), app_16, m17t, if_pos rfl, m02]
    have tv : ∀ a i, vis a = true → up3 (up3 (up3 (up3 (up3 R 17 (nTg n o c) (R 17 (nTg n o c) + 1)) 0 40 (R 0 40 + 1)) 17 (15 * n + 3 * p + c) (R 17 (15 * n + 3 * p + c) - 1)) 19 (15 * n + 3 * o + c) p) 18 (15 * n + 3 * o + c) (if w = 1 then -1 else p) a i = up3 (nApp (nMv1 R n o c p) (nTg n o c) (R 14 (4 * (15 * n + 3 * p + c))) (R 15 (4 * (15 * n + 3 * p + c)))) 0 40 (R 0 40 + 1) a i := by
      intro a i ha
      have hv : a = 0 ∨ a = 10 ∨ a = 11 ∨ a = 13 ∨ 17 ≤ a := by
        unfold vis at ha
        simp at ha
        omega
      by_cases h17 : a = 17
      · subst h17
        rw [t17, u3n (by omega), u3n (by omega)]
        by_cases hy : i = 15 * n + 3 * p + c
        · rw [if_pos hy, hy, u3s]
        · rw [if_neg hy, u3i hy, u3n (by omega)]
          by_cases hz : i = nTg n o c
          · rw [if_pos ⟨rfl, hz⟩, hz, u3s]
          · rw [if_neg (fun y => hz y.2), u3i hz]
      · by_cases h00 : a = 0
        · subst h00
          rw [u3n (by omega), u3n (by omega), u3n (by omega)]
          by_cases hy : i = 40
          · rw [hy, u3s, u3s]
          · rw [u3i hy, u3i hy, u3n (by omega), nApp_n (by omega), mv1_v (by omega), u3n (by omega), u3n (by omega), u3n (by omega)]
        · rw [u3n (k := 0) h00, nApp_n (by omega), mv1_v (by omega), hwl]
          simp only [up3_eq, h17, h00, false_and, if_false]
    have o39 : up3 (nApp (nMv1 R n o c p) (nTg n o c) (R 14 (4 * (15 * n + 3 * p + c))) (R 15 (4 * (15 * n + 3 * p + c)))) 0 40 (R 0 40 + 1) 0 39 = R 0 39 := by rw [u3i (by omega), nApp_n (by omega), mv1_v (by omega), u3n (by omega), u3n (by omega), u3n (by omega)]
    generalize up3 (nApp (nMv1 R n o c p) (nTg n o c) (R 14 (4 * (15 * n + 3 * p + c))) (R 15 (4 * (15 * n + 3 * p + c)))) 0 40 (R 0 40 + 1) = W at *
    refine ⟨h2', ?_, ⟨?_, sE_e e02 sz, d, X, fun b' j => Y (mvS R true (15 * n + 3 * p + c) (nTg n o c) b' j).1 (mvS R true (15 * n + 3 * p + c) (nTg n o c) b' j).2, ?_, ?_, ?_⟩, e02, dm h2' (by rw [v5, w4, o39]; omega) (by rw [v6, w5, o39]; omega)⟩
    · rw [E1, bV_some, ziMe4 hs1, zpMe4 hs1, u3n (k := 17) (a := 0) (by omega)]
      rw [zvLa hs1 hn hc, E2, bV_some]
      show some ((1 : Int), _) = some ((1 : Int), _)
      rw [vw_vis tv]
    · rw [k3 0 (by omega) (by omega), k3 1 (by omega) (by omega)]
      exact hs2
    · exact lsI_c L2 (fun q _ _ => kT 10 _ (by omega) (by omega)) (fun q _ _ => kT 13 _ (by omega) (by omega))
    · have P2 := plI_e e02 L P
      intro k q j hk q0 q1 j0 j1
      have e9 : W (kN k) q = R (kN k) q ∧ W (kE k) (128 * q + j) = R (kE k) (128 * q + j) := by
        rcases hk with rfl | rfl
        · exact ⟨kT 10 _ (by omega) (by omega), kT 9 _ (by omega) (by omega)⟩
        · exact ⟨kT 13 _ (by omega) (by omega), kT 12 _ (by omega) (by omega)⟩
      rw [e9.1] at j1
      rw [e9.2]
      exact pk_c (fun a _ _ => kT a _ (by omega) (by omega)) (k3 1 (by omega) (by omega)) (P2 k q j hk q0 q1 j0 j1)
    · refine flI_mv (lk := true) (tg := nTg n o c) FF e02 (fun a u v => funext (fun j => kT a j (by omega) (by omega))) (k3 1 (by omega) (by omega)) b0 (by omega) (fun _ y => hne y.symm) (fun _ => ⟨tgr.1, tgr.2.1, gt.1⟩) t17 (fun j hj => ?_) (fun _ => ?_) (fun y j y0 y1 hy hz => ?_) (fun f hf hz => ?_) (fun _ => ?_) (fun a j u v j0 j1 => ?_) (fun _ => ⟨n14, n15⟩) (fun a y j u v y0 y1 j0 j1 hy => ?_)
      · rw [qbs, e3 j hj, hq1]
      · rw [e2 _ _ (by rw [qbt]; exact fun y => nq y.symm), w1, qbt]
        simp [up2]
      · rw [e2 _ _ (fun z => hy (qB_inj y0 y1 b0.1 b0.2 (by rw [z, qbs]))), w1]
        unfold up2
        rw [if_neg]
        rintro ⟨z1, z2⟩
        rw [← qbt] at z1
        exact hz ⟨rfl, qB_inj y0 y1 tgr.1 tgr.2.1 z1, z2⟩
      · rw [v2, w2]
        unfold up2
        rw [if_neg (fun y => hz rfl y.2)]
      · rw [v2, w2, n16]
        simp [up2]
      · rw [tS a _ u v (by omega), if_pos (by omega), show 4 * (15 * n + 3 * p + c) + j + 1 = 4 * (15 * n + 3 * p + c) + (j + 1) by omega]
      · have := (gB y y0 y1).1
        rw [tS a _ u v (by intro z; have : y = nTg n o c := by omega
                           subst this; omega), if_neg (by omega)]
end Cls17
