/-! The class: a flit enters -/
section Cls14
variable {α : Type} {h g : ev_hs} {c0 : Nat} {R T U Rr Rc : RS} {F : Int → Int} {D FL : Int} {n c p : Int} {d : Nat → Int → Nat} {X : Nat → Int → Int → Nat} {Y : Int → Int → Nat}
theorem flI_c (k : ∀ a, (2 ≤ a ∧ a ≤ 8) ∨ (14 ≤ a ∧ a ≤ 17) → T a = R a) (k1 : T 0 1 = R 0 1) (FF : flI h c0 R Y) : flI h c0 T Y := by
  refine ⟨fun b j b0 b1 j0 j1 => ?_, fun b j b' j' b0 b1 j0 j1 b0' b1' j0' j1' e => ?_⟩
  · rw [k 17 (by omega)] at j1
    obtain ⟨x1, x2⟩ := FF.1 b j b0 b1 j0 j1
    exact ⟨x1, fk_c (fun a a1 a2 => by rw [k a (by omega)]) k1 (by rw [k 14 (by omega)]) (by rw [k 15 (by omega)]) (by rw [k 16 (by omega)]) x2⟩
  · rw [k 17 (by omega)] at j1 j1'
    exact FF.2 b j b' j' b0 b1 j0 j1 b0' b1' j0' j1' e
def dE (h : ev_hs) (R : RS) (h' : ev_hs) (T : RS) : Prop := (xC h' : Int) ≤ xC h + (phi T - phi R) ∧ (xS h' : Int) ≤ xS h + 4 * (phi T - phi R) ∧ T 0 = R 0
theorem dE_r : dE h R h R := ⟨by omega, by omega, rfl⟩
theorem dE_t {h2 h3 : ev_hs} {T2 : RS} (a : dE h R h2 T) (b : dE h2 T h3 T2) : dE h R h3 T2 := ⟨by have := a.1; have := b.1; omega, by have := a.2.1; have := b.2.1; omega, b.2.2.trans a.2.2⟩
theorem c_enter {x : Int} (J : jC x R) (C : cR h c0 R) (hn : 0 ≤ n ∧ n < 6) (hc : 0 ≤ c ∧ c < 3) :
    ∃ h', f_La_enterFlit (some (qL c0 n c 0)) x (vw h c0 (wF R F) Rr) = some (vw h' c0 (wF (nInj R n c) F) Rr) ∧ cR h' c0 (nInj R n c) ∧ ext h h' ∧ dE h R h' (nInj R n c) := by
  obtain ⟨I, t, ex⟩ := J
  have C2 := C
  obtain ⟨hs, sz, d, X, Y, L, P, FF⟩ := C2
  have gq := bQ_of I (3 * n + c) (by omega) (by omega)
  have gS := I.2.2.2.1
  have gs1 := gS.1
  have gB := I.2.2.2.2.1
  have gb := gB (15 * n + 3 * 4 + c) (by omega) (by omega)
  have eb : (15 * n + 3 * 4 + c : Int) = 15 * n + 12 + c := by omega
  have hz := sz.2.2.2
  have tt := t.1
  unfold nInj
  by_cases h0 : R 10 (3 * n + c) = 0
  · rw [if_pos h0]
    refine ⟨h, ?_, C, ext_r, dE_r⟩
    simp (disch := omega) only [f_La_enterFlit, f_AL_isEmpty, ↓ziLa6 hs, ↓zpLa6 hs, ↓zgLa1 hs, ↓zgLa3 hs, ↓zqFB hs, ↓zvALa hs, ↓zvALb hs, ↓zvFB hs, ↓ziAL1a hs, ↓zpAL1a hs, ↓ziAL1b hs, ↓zpAL1b hs, ↓eEq_i, ↓eLt_i, ↓eDiv_i, ↓eRem_i, ↓bI_some, ↓bR_some, ↓bV_some, ↓nN_some, ↓eNu_n, ↓eNu_s, ↓eBo_1, ↓eBo_0, ↓jn_eq, u3s, u3n, u3i, ↓reduceIte, Int.reduceLT, Int.reduceLE, Int.reduceEq, Int.reduceNeg, Int.reduceAdd, Int.reduceSub, Int.reduceMul, Int.reduceMod, Int.reduceDiv, not_true_eq_false, not_false_eq_true, and_self, and_true, true_and, and_false, false_and, or_true, or_false, false_or, true_or, h0]
  rw [if_neg h0]
  have pre : ∀ A : ev_hs → Option ev_hs, f_La_enterFlit (some (qL c0 n c 0)) x (vw h c0 (wF R F) Rr) = eEq (if R 17 (15 * n + 3 * 4 + c) < R 0 0 then 1 else 0) 0 (some (vw h c0 (wF R F) Rr)) (nO (vw h c0 (wF R F) Rr) 9 4 (fun q8 g9 => gR g9 2 1 (some (qL c0 n c 0)) (fun q10 => vK g9 3 q10 (bR (f_AL_get q10 0 g9) (fun q12 g11 => eCc g11 10 q12 (gI g11 2 6 (some (qL c0 n c 0)) (fun z13 => nN q8 (bV (f_Fl_init q8 q12 z13 g11) (fun g14 => gR g14 2 3 (some (qL c0 n c 0)) (fun q15 => lQ g14 56 q15 4 (fun q16 => vK g14 4 q16 (bV (f_FB_put q16 q8 x g14) (fun g17 => gI g17 2 6 (some (qL c0 n c 0)) (fun z18 => pI g17 2 6 (some (qL c0 n c 0)) (z18 + 1) (fun g19 => gI g19 9 2 q8 (fun z20 => eEq z20 0 (some g19) (gR g19 2 1 (some (qL c0 n c 0)) (fun q21 => vK g19 3 q21 (bR (f_AL_remove q21 0 g19) (fun q23 g22 => pI g22 2 6 (some (qL c0 n c 0)) 0 (fun g24 => some g24))))))))))))))))))))) := by
    intro A
    unfold f_La_enterFlit f_AL_isEmpty
    rw [zgLa1 hs hn hc, zvALa hs hn hc, jn_eq, ziAL1a hs hn hc, eEq_i (by omega) (by omega) (by omega) (by omega), if_neg h0]
    dsimp only
    rw [eBo_0, bI_some, eEq_i (by omega) (by omega) (by omega) (by omega), if_pos rfl, zgLa3 hs hn hc, zqFB hs hn hc (p := 4) (by omega), zvFB hs hn hc (p := 4) (by omega), t_room hs hn hc (p := 4) (by omega) gS.1 (by omega)]
  rw [pre (fun g => some g)]
  clear pre
  by_cases h1 : R 17 (15 * n + 12 + c) = R 0 0
  · rw [if_pos h1, if_neg (by rw [eb]; omega), eEq_i (by omega) (by omega) (by omega) (by omega), if_pos rfl]
    exact ⟨h, rfl, C, ext_r, dE_r⟩
  rw [if_neg h1, if_pos (by rw [eb] at gb ⊢; omega), eEq_i (by omega) (by omega) (by omega) (by omega), if_neg (by omega)]
  have gr := I.2.2.2.2.2.2.1 (128 * (3 * n + c)) (by omega) (by omega)
  obtain ⟨l1, l2⟩ := (L 1 (3 * n + c) (Or.inl rfl) (by omega) (by omega)).2.2 0 (by omega) (by show 0 < R 10 (3 * n + c); omega)
  have hpk : pk h R (R 9 (128 * (3 * n + c))) (X 1 (3 * n + c) 0) := by
    have := P 1 (3 * n + c) 0 (Or.inl rfl) (by omega) (by omega) (by omega) (by show 0 < R 10 (3 * n + c); omega)
    rwa [Int.add_zero] at this
  have hsz := nSz_r gS (p := R 9 (128 * (3 * n + c)))
  generalize hpp : R 9 (128 * (3 * n + c)) = pp at *
  generalize haa : X 1 (3 * n + c) 0 = aa at *
  have e1 : ext h (wN h 9 4) := exL ex_wN
  have hs1 := shC_e e1 hz hs
  have L1 : lsI (wN h 9 4) c0 R d X := lsI_o L e1 sz (fun a ha => by
    show (if a = xZ h then none else xR h 300 a) = _
    rw [if_neg (by omega)]) (fun a j _ _ => rfl)
  have l2' := pa_e e1 l2
  obtain ⟨h2, E2, e2, ⟨z1, z2, z3⟩, r2, q2, k2, i0, i1, i2⟩ := new_fl (h := h) (Rc := wF R F) (Rr := Rr) (a := aa) (m := R 11 (3 * n + c)) (z := nSz R pp) hz l2 hpk.2.2.2.2.2.2.2 (by omega) (by omega)
  have e2x := exF (e2 903 57)
  have hs2 := shC_e e2x hz hs
  have sz2 := sE_e e2x sz
  have hk57 := (sC_F hs2 hn hc (p := 4) (by omega)).2.2.2.1
  have E3 := c_put (R := R) (F := F) (Rr := Rr) (f := xZ h) (x := x) (p := 4) hs2 sz2 hn hc (by omega) gS.1 (by rw [eb] at gb ⊢; omega) k2 hz
  have qbe : qF c0 n c 4 1 = qB c0 (15 * n + 12 + c) := by rw [← eb]; exact (qB_F hn hc (by omega)).symm
  rw [eb] at E3 gb
  have e3 : ext h2 (wQ (wI h2 903 (xZ h) x) (qF c0 n c 4 1) (R 17 (15 * n + 12 + c)).toNat (some (xZ h))) := exF (ex_t ex_w9 (ex_q9 hk57))
  have eq3 : xQ (wQ (wI h2 903 (xZ h) x) (qF c0 n c 4 1) (R 17 (15 * n + 12 + c)).toNat (some (xZ h))) = up2 (xQ h) (qF c0 n c 4 1) (R 17 (15 * n + 12 + c)).toNat (some (xZ h)) := by
    show up2 (xQ h2) _ _ _ = _
    rw [q2]
  have ei3 : xI (wQ (wI h2 903 (xZ h) x) (qF c0 n c 4 1) (R 17 (15 * n + 12 + c)).toNat (some (xZ h))) = up2 (xI h2) 903 (xZ h) x := rfl
  have er3 : xR (wQ (wI h2 903 (xZ h) x) (qF c0 n c 4 1) (R 17 (15 * n + 12 + c)).toNat (some (xZ h))) = xR h2 := rfl
  have ez3 : xZ (wQ (wI h2 903 (xZ h) x) (qF c0 n c 4 1) (R 17 (15 * n + 12 + c)).toNat (some (xZ h))) = xZ h + 1 := z1
  have ek3 : xK (wQ (wI h2 903 (xZ h) x) (qF c0 n c 4 1) (R 17 (15 * n + 12 + c)).toNat (some (xZ h))) = xK h2 := rfl
  have ec3 : xC (wQ (wI h2 903 (xZ h) x) (qF c0 n c 4 1) (R 17 (15 * n + 12 + c)).toNat (some (xZ h))) = xC h + 1 := z2
  have es3 : xS (wQ (wI h2 903 (xZ h) x) (qF c0 n c 4 1) (R 17 (15 * n + 12 + c)).toNat (some (xZ h))) = xS h + 4 := z3
  generalize wQ (wI h2 903 (xZ h) x) (qF c0 n c 4 1) (R 17 (15 * n + 12 + c)).toNat (some (xZ h)) = h3 at *
  have e03 := ext_t e2x e3
  have hs3 := shC_e e03 hz hs
  have sz3 := sE_e e03 sz
  have L3 : lsI h3 c0 R d X := lsI_o L e03 sz (fun a ha => by rw [er3]; exact r2 a ha) (fun a j ha hk => by
    rw [eq3]
    unfold up2
    rw [if_neg]
    rintro ⟨rfl, -⟩
    have := (sC_F hs hn hc (p := 4) (by omega)).2.2.2.1
    omega)
  have P3 := plI_e e03 L P
  have a14 : nApp R (15 * n + 12 + c) pp (R 11 (3 * n + c)) 14 (4 * (15 * n + 12 + c) + R 17 (15 * n + 12 + c)) = pp := by rw [app_14, if_pos rfl]
  have a15 : nApp R (15 * n + 12 + c) pp (R 11 (3 * n + c)) 15 (4 * (15 * n + 12 + c) + R 17 (15 * n + 12 + c)) = R 11 (3 * n + c) := by rw [app_15, if_pos rfl]
  have a16 : nApp R (15 * n + 12 + c) pp (R 11 (3 * n + c)) 16 (4 * (15 * n + 12 + c) + R 17 (15 * n + 12 + c)) = x := by rw [app_16, if_pos rfl, ex]
  have F3 : flI h3 c0 (nApp R (15 * n + 12 + c) pp (R 11 (3 * n + c))) (upY Y (15 * n + 12 + c) (R 17 (15 * n + 12 + c)) (xZ h)) := by
    refine flI_put FF (by omega) (by omega) gB gS (by omega) e03 (fun a ha hne => ?_) (fun b' j q0 q1 hne => ?_) ?_ (fun b' j' q0 q1 q3 q4 y => ?_) ?_ (fun y => by
      rw [app_17]
      by_cases hy : y = 15 * n + 12 + c
      · rw [if_pos hy, if_pos hy, hy]
      · rw [if_neg hy, if_neg hy]) (fun a s h1 h2 h3 => ?_) (fun a h1 h2 => funext (fun j => nApp_n (by omega))) (nApp_n (by omega))
    · rw [ei3]
      unfold up2
      rw [if_neg (fun y => hne y.2)]
      exact (e2 302 52).2.2.2.2.1 903 a ha (by omega)
    · rw [eq3]
      unfold up2
      rw [if_neg]
      rintro ⟨y1, y2⟩
      rw [qbe] at y1
      exact hne ⟨qB_inj q0 q1 (by omega) (by omega) y1, y2⟩
    · rw [eq3, ← qbe]
      simp [up2]
    · have := (FF.1 b' j' q0 q1 q3 q4).2.2.1
      omega
    · refine ⟨hz, by omega, by rw [ek3]; exact k2, ?_, ?_, ?_, aa, ?_, pa_e e03 l2, ?_⟩
      · rw [a15, ei3]
        unfold up2
        rw [if_neg (by omega)]
        exact i1
      · rw [a15, a14, nSz_app, ei3]
        unfold up2
        rw [if_neg (by omega)]
        exact i2
      · rw [a16, ei3]
        simp [up2]
      · rw [er3]
        exact i0
      · rw [a14]
        exact pk_c (fun a _ _ => nApp_n (by omega)) (nApp_n (by omega)) (pk_e e03 l2.2.2 hpk)
    · have ha : a = 14 ∨ a = 15 ∨ a = 16 := by omega
      rcases ha with rfl | rfl | rfl
      · rw [app_14, if_neg h3]
      · rw [app_15, if_neg h3]
      · rw [app_16, if_neg h3]
  rw [t_nO hz, zgLa1 hs1 hn hc, zvALa hs1 hn hc, t_get hs1 L1 hn hc (Or.inl rfl) ⟨by omega, by show 0 < R 10 (3 * n + c); omega⟩ (by show R 10 (3 * n + c) ≤ 127; omega), haa, t_cc l2', ziLa6 hs1 hn hc, nN_some, E2, bV_some, zgLa3 hs2 hn hc, zqFB hs2 hn hc (p := 4) (by omega), zvFB hs2 hn hc (p := 4) (by omega), E3, bV_some, ziLa6 hs3 hn hc, zpLa6 hs3 hn hc, u3n (by omega)]
  rw [t_g9 (c := 9) (by rw [ek3]; exact k2) hz, show (100 * 9 + 2 : Nat) = 902 from rfl, ei3]
  have i2' : up2 (xI h2) 903 (xZ h) x 902 (xZ h) = (if R 11 (3 * n + c) = nSz R pp - 1 then 1 else 0) := by
    unfold up2
    rw [if_neg (by omega)]
    exact i2
  rw [i2']
  have p11 : ∀ z : Int, sJ (up3 (nApp R (15 * n + 12 + c) pp (R 11 (3 * n + c))) 11 (3 * n + c) z 11) 18 = sJ (R 11) 18 + (z - R 11 (3 * n + c)) := by
    intro z
    have := sJ_up (f := R 11) (g := up3 (nApp R (15 * n + 12 + c) pp (R 11 (3 * n + c))) 11 (3 * n + c) z 11) (q := 3 * n + c) (by omega) (fun i hi => by rw [u3i hi, nApp_n (by omega)]) 18 (by omega)
    rwa [u3s] at this
  by_cases hl : R 11 (3 * n + c) + 1 = nSz R pp
  · rw [if_pos hl, if_pos (by omega), eEq_i (by omega) (by omega) (by omega) (by omega), if_neg (by omega), zgLa1 hs3 hn hc, zvALa hs3 hn hc]
    have L4 : lsI h3 c0 (up3 (up3 R 17 (15 * n + 12 + c) (R 17 (15 * n + 12 + c) + 1)) 11 (3 * n + c) (R 11 (3 * n + c) + 1)) d X := lsI_c L3 (fun q _ _ => by rw [u3n (by omega), u3n (by omega)]) (fun q _ _ => by rw [u3n (by omega), u3n (by omega)])
    obtain ⟨h5, d5, E5, x5, L5, y5, y6⟩ := ls_rem (F := F) (Rr := Rr) (k := 1) (i := 0) L4 hs3 sz3 hn hc (Or.inl rfl) ⟨by omega, by show 0 < up3 (up3 R 17 (15 * n + 12 + c) (R 17 (15 * n + 12 + c) + 1)) 11 (3 * n + c) (R 11 (3 * n + c) + 1) 10 (3 * n + c); rw [u3n (by omega), u3n (by omega)]; omega⟩
    have e5 := exL x5
    have hs5 := shC_e e5 sz3.2.2.2 hs3
    rw [E5, bR_some, zpLa6 hs5 hn hc]
    have kT : ∀ a, a ≠ 9 → a ≠ 10 → a ≠ 11 → nSh sW (up3 (up3 (nApp R (15 * n + 12 + c) pp (R 11 (3 * n + c))) 11 (3 * n + c) 0) 10 (3 * n + c) (R 10 (3 * n + c) - 1)) (128 * (3 * n + c)) (128 * (3 * n + c) + (R 10 (3 * n + c) - 1)) a = nApp R (15 * n + 12 + c) pp (R 11 (3 * n + c)) a := by
      intro a h1 h2 h3
      funext j
      unfold nSh sW
      rw [if_neg (by simp [h1]), u3n h2, u3n h3]
    have k9 : ∀ j, nSh sW (up3 (up3 (nApp R (15 * n + 12 + c) pp (R 11 (3 * n + c))) 11 (3 * n + c) 0) 10 (3 * n + c) (R 10 (3 * n + c) - 1)) (128 * (3 * n + c)) (128 * (3 * n + c) + (R 10 (3 * n + c) - 1)) 9 j = if 128 * (3 * n + c) ≤ j ∧ j < 128 * (3 * n + c) + (R 10 (3 * n + c) - 1) then R 9 (j + 1) else R 9 j := by
      intro j
      unfold nSh sW
      rw [u3n (by omega), u3n (by omega), u3n (by omega), u3n (by omega), nApp_n (by omega), nApp_n (by omega)]
      simp only [beq_self_eq_true, true_and]
    have k10 : ∀ j, nSh sW (up3 (up3 (nApp R (15 * n + 12 + c) pp (R 11 (3 * n + c))) 11 (3 * n + c) 0) 10 (3 * n + c) (R 10 (3 * n + c) - 1)) (128 * (3 * n + c)) (128 * (3 * n + c) + (R 10 (3 * n + c) - 1)) 10 j = if j = 3 * n + c then R 10 (3 * n + c) - 1 else R 10 j := by
      intro j
      unfold nSh sW
      rw [if_neg (by simp), up3_eq, u3n (by omega), nApp_n (by omega)]
      simp only [true_and]
    have k11 : nSh sW (up3 (up3 (nApp R (15 * n + 12 + c) pp (R 11 (3 * n + c))) 11 (3 * n + c) 0) 10 (3 * n + c) (R 10 (3 * n + c) - 1)) (128 * (3 * n + c)) (128 * (3 * n + c) + (R 10 (3 * n + c) - 1)) 11 = up3 (nApp R (15 * n + 12 + c) pp (R 11 (3 * n + c))) 11 (3 * n + c) 0 11 := by
      funext j
      unfold nSh sW
      rw [if_neg (by simp), u3n (by omega)]
    generalize nSh sW (up3 (up3 (nApp R (15 * n + 12 + c) pp (R 11 (3 * n + c))) 11 (3 * n + c) 0) 10 (3 * n + c) (R 10 (3 * n + c) - 1)) (128 * (3 * n + c)) (128 * (3 * n + c) + (R 10 (3 * n + c) - 1)) = T at *
    have kR : ∀ a j, a ≠ 9 → a ≠ 10 → a ≠ 11 → (a < 14 ∨ 17 < a) → T a j = R a j := by
      intro a j h1 h2 h3 h4
      rw [kT a h1 h2 h3, nApp_n (by omega)]
    refine ⟨h5, ?_, ⟨?_, sE_e e5 sz3, d5, shX X 1 (3 * n + c) 0, upY Y (15 * n + 12 + c) (R 17 (15 * n + 12 + c)) (xZ h), ?_, ?_, ?_⟩, ext_t e03 e5, ?_, ?_, ?_⟩
    · congr 1
      refine vw_vis (fun a i ha => ?_)
      have hv : a = 0 ∨ a = 10 ∨ a = 11 ∨ a = 13 ∨ 17 ≤ a := by
        unfold vis at ha
        simp at ha
        omega
      by_cases h11 : a = 11
      · subst h11
        rw [k11]
        by_cases hi : i = 3 * n + c
        · rw [hi, u3s, u3s]
        · simp only [u3i hi]
          rw [u3n (by omega), nApp_n (by omega)]
      · rw [u3n h11]
        show up3 (up3 (up3 R 17 (15 * n + 12 + c) (R 17 (15 * n + 12 + c) + 1)) 11 (3 * n + c) (R 11 (3 * n + c) + 1)) 10 (3 * n + c) (up3 (up3 R 17 (15 * n + 12 + c) (R 17 (15 * n + 12 + c) + 1)) 11 (3 * n + c) (R 11 (3 * n + c) + 1) 10 (3 * n + c) - 1) a i = T a i
        by_cases h10 : a = 10
        · subst h10
          rw [k10, up3_eq]
          by_cases hi : i = 3 * n + c
          · rw [if_pos ⟨rfl, hi⟩, if_pos hi, u3n (by omega), u3n (by omega)]
          · rw [if_neg (by omega), if_neg hi, u3n (by omega), u3n (by omega)]
        · rw [u3n h10, u3n h11]
          by_cases h17 : a = 17
          · subst h17
            rw [kT 17 (by omega) (by omega) (by omega), app_17]
            by_cases hi : i = 15 * n + 12 + c
            · rw [if_pos hi, hi, u3s]
            · rw [if_neg hi, u3i hi]
          · rw [u3n h17, kR a i (by omega) h10 h11 (by omega)]
    · rw [kR 0 _ (by omega) (by omega) (by omega) (by omega), kR 0 _ (by omega) (by omega) (by omega) (by omega)]
      exact hs5
    · refine lsI_c L5 (fun q _ _ => ?_) (fun q _ _ => ?_)
      · rw [k10]
        show _ = up3 (up3 (up3 R 17 (15 * n + 12 + c) (R 17 (15 * n + 12 + c) + 1)) 11 (3 * n + c) (R 11 (3 * n + c) + 1)) 10 (3 * n + c) (up3 (up3 R 17 (15 * n + 12 + c) (R 17 (15 * n + 12 + c) + 1)) 11 (3 * n + c) (R 11 (3 * n + c) + 1) 10 (3 * n + c) - 1) 10 q
        rw [up3_eq, u3n (by omega), u3n (by omega), u3n (by omega), u3n (by omega)]
        simp only [true_and]
      · rw [kR 13 _ (by omega) (by omega) (by omega) (by omega), u3n (by unfold kN; simp), u3n (by omega), u3n (by omega)]
    · have P5 := plI_e e5 L3 P3
      intro k q j hk q0 q1 j0 j1
      have tr : ∀ p a, pk h5 R p a → pk h5 T p a := fun p a y => pk_c (fun b _ _ => kR b _ (by omega) (by omega) (by omega) (by omega)) (kR 0 _ (by omega) (by omega) (by omega) (by omega)) y
      have gx := bQ_of I q q0 q1
      rcases hk with rfl | rfl
      · change j < T 10 q at j1
        show pk h5 T (T 9 (128 * q + j)) _
        rw [k10] at j1
        rw [k9]
        unfold shX
        by_cases hx : q = 3 * n + c
        · rw [if_pos hx] at j1
          rw [if_pos (by omega), if_pos ⟨rfl, hx, j0⟩, show 128 * q + j + 1 = 128 * q + (j + 1) by omega]
          exact tr _ _ (P5 1 q (j + 1) (Or.inl rfl) q0 q1 (by omega) (by show j + 1 < R 10 q; rw [hx]; omega))
        · rw [if_neg hx] at j1
          rw [if_neg (by omega), if_neg (fun y => hx y.2.1)]
          exact tr _ _ (P5 1 q j (Or.inl rfl) q0 q1 j0 j1)
      · change j < T 13 q at j1
        show pk h5 T (T 12 (128 * q + j)) _
        rw [kR 13 _ (by omega) (by omega) (by omega) (by omega)] at j1
        rw [kR 12 _ (by omega) (by omega) (by omega) (by omega)]
        unfold shX
        rw [if_neg (by omega)]
        exact tr _ _ (P5 2 q j (Or.inr rfl) q0 q1 j0 j1)
    · exact flI_c (fun a ha => kT a (by omega) (by omega) (by omega)) (by rw [kT 0 (by omega) (by omega) (by omega)]) (flI_l x5 hs3 sz3 F3)
    · have e10 := sJ_up (f := R 10) (g := T 10) (q := 3 * n + c) (by omega) (fun i hi => by rw [k10, if_neg hi]) 18 (by omega)
      rw [k10, if_pos rfl] at e10
      have := p11 0
      rw [← k11] at this
      unfold phi
      rw [e10, this, kR 0 _ (by omega) (by omega) (by omega) (by omega), y5]
      omega
    · have e10 := sJ_up (f := R 10) (g := T 10) (q := 3 * n + c) (by omega) (fun i hi => by rw [k10, if_neg hi]) 18 (by omega)
      rw [k10, if_pos rfl] at e10
      have := p11 0
      rw [← k11] at this
      unfold phi
      rw [e10, this, kR 0 _ (by omega) (by omega) (by omega) (by omega), y6]
      omega
    · funext j
      exact kR 0 j (by omega) (by omega) (by omega) (by omega)
  · rw [if_neg hl, if_neg (by omega), eEq_i (by omega) (by omega) (by omega) (by omega), if_pos rfl]
    have C3 : cR h3 c0 (nApp R (15 * n + 12 + c) pp (R 11 (3 * n + c))) := by
      refine ⟨by rw [nApp_n (by omega), nApp_n (by omega)]; exact hs3, sz3, d, X, _, lsI_c L3 (fun q _ _ => nApp_n (by omega)) (fun q _ _ => nApp_n (by omega)), fun k q j hk q0 q1 j0 j1 => ?_, F3⟩
      have e9 : nApp R (15 * n + 12 + c) pp (R 11 (3 * n + c)) (kN k) q = R (kN k) q ∧ nApp R (15 * n + 12 + c) pp (R 11 (3 * n + c)) (kE k) (128 * q + j) = R (kE k) (128 * q + j) := by
        rcases hk with rfl | rfl
        · exact ⟨nApp_n (by unfold kN; simp), nApp_n (by unfold kE; simp)⟩
        · exact ⟨nApp_n (by unfold kN; simp), nApp_n (by unfold kE; simp)⟩
      rw [e9.1] at j1
      rw [e9.2]
      exact pk_c (fun a _ _ => nApp_n (by omega)) (nApp_n (by omega)) (P3 k q j hk q0 q1 j0 j1)
    refine ⟨h3, ?_, cR_c (fun a _ _ h => u3f h) (u3n (by omega)) (u3n (by omega)) C3, e03, ?_, ?_, ?_⟩
    · congr 1
      refine vw_vis (fun a i ha => ?_)
      have hv : a = 0 ∨ a = 10 ∨ a = 11 ∨ a = 13 ∨ 17 ≤ a := by
        unfold vis at ha
        simp at ha
        omega
      by_cases h11 : a = 11
      · subst h11
        by_cases hi : i = 3 * n + c
        · rw [hi, u3s, u3s]
        · rw [u3i hi, u3i hi, u3n (by omega), nApp_n (by omega)]
      · rw [u3n h11, u3n h11]
        by_cases h17 : a = 17
        · subst h17
          rw [app_17]
          by_cases hi : i = 15 * n + 12 + c
          · rw [if_pos hi, hi, u3s]
          · rw [if_neg hi, u3i hi]
        · rw [u3n h17, nApp_n (by omega)]
    · have e10 : up3 (nApp R (15 * n + 12 + c) pp (R 11 (3 * n + c))) 11 (3 * n + c) (R 11 (3 * n + c) + 1) 10 = R 10 := by
        funext j
        rw [u3n (by omega), nApp_n (by omega)]
      unfold phi
      rw [p11, e10, u3n (by omega), nApp_n (by omega)]
      omega
    · have e10 : up3 (nApp R (15 * n + 12 + c) pp (R 11 (3 * n + c))) 11 (3 * n + c) (R 11 (3 * n + c) + 1) 10 = R 10 := by
        funext j
        rw [u3n (by omega), nApp_n (by omega)]
      unfold phi
      rw [p11, e10, u3n (by omega), nApp_n (by omega)]
      omega
    · funext j
      rw [u3n (by omega), nApp_n (by omega)]
end Cls14
