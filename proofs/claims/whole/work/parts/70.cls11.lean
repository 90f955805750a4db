/-! The class takes packets: one channel, one node -/
section Cls11
variable {α : Type} {h g : ev_hs} {c0 : Nat} {R T U Rr Rc : RS} {F : Int → Int} {D FL : Int} {n p : Int} {d : Nat → Int → Nat} {X : Nat → Int → Int → Nat} {Y : Int → Int → Nat}
-- the inbox without its element t
def nDrp (R : RS) (q t : Int) : RS := nSh sX (up3 R 13 q (R 13 q - 1)) (128 * q + t) (128 * q + (R 13 q - 1))
theorem drp_a {q t : Int} {a : Nat} (h1 : a ≠ 12) (h2 : a ≠ 13) : nDrp R q t a = R a := by
  funext j
  unfold nDrp nSh sX
  rw [if_neg (by simp [h1]), u3n h2]
theorem drp_13 {q t j : Int} : nDrp R q t 13 j = if j = q then R 13 q - 1 else R 13 j := by
  unfold nDrp nSh sX
  rw [if_neg (by simp), up3_eq]
  simp only [true_and]
theorem drp_12 {q t j : Int} : nDrp R q t 12 j = if 128 * q + t ≤ j ∧ j < 128 * q + (R 13 q - 1) then R 12 (j + 1) else R 12 j := by
  unfold nDrp nSh sX
  rw [u3n (by omega), u3n (by omega)]
  simp only [beq_self_eq_true, true_and]
theorem drp_mk {q t : Int} : nDrp R q t = mk2 R (nDrp R q t) := by
  funext a j
  by_cases ha : a = 12 ∨ a = 13
  · unfold mk2
    rw [if_pos ha]
  · rw [mk_r (by omega) (by omega), drp_a (by omega) (by omega)]
theorem cR_drp {h' : ev_hs} {d' : Nat → Int → Nat} {q t : Int} (hs : shC h c0 (R 0 0) (R 0 1)) (sz : sE h c0) (L : lsI h c0 R d X) (P : plI h R X) (FF : flI h c0 R Y) (gQ : bQ R) (hq : 0 ≤ q ∧ q < 18) (ht : 0 ≤ t ∧ t < R 13 q) (e : ex 302 52 h h') (L' : lsI h' c0 (up3 R 13 q (R 13 q - 1)) d' (shX X 2 q t)) : cR h' c0 (nDrp R q t) := by
  have ee := exL e
  refine ⟨by rw [drp_a (by omega) (by omega)]; exact shC_e ee sz.2.2.2 hs, sE_e ee sz, d', shX X 2 q t, Y, lsI_c L' (fun x _ _ => ?_) (fun x _ _ => ?_), ?_, ?_⟩
  · rw [drp_a (by omega) (by omega), u3n (by omega)]
  · rw [drp_13, up3_eq]
    simp only [true_and]
  · have P' := plI_e ee L P
    intro k x j hk x0 x1 j0 j1
    have tr : ∀ p a, pk h' R p a → pk h' (nDrp R q t) p a := fun p a y => pk_c (fun b _ _ => by rw [drp_a (by omega) (by omega)]) (by rw [drp_a (by omega) (by omega)]) y
    have gx := gQ x x0 x1
    have gq := gQ q hq.1 hq.2
    rcases hk with rfl | rfl
    · change j < nDrp R q t 10 x at j1
      show pk h' (nDrp R q t) (nDrp R q t 9 (128 * x + j)) _
      rw [drp_a (a := 10) (by omega) (by omega)] at j1
      rw [drp_a (a := 9) (by omega) (by omega)]
      unfold shX
      rw [if_neg (by omega)]
      exact tr _ _ (P' 1 x j (Or.inl rfl) x0 x1 j0 j1)
    · change j < nDrp R q t 13 x at j1
      show pk h' (nDrp R q t) (nDrp R q t 12 (128 * x + j)) _
      rw [drp_13] at j1
      rw [drp_12]
      unfold shX
      by_cases hx : x = q
      · subst hx
        rw [if_pos rfl] at j1
        by_cases hj : t ≤ j
        · rw [if_pos (by omega), if_pos ⟨rfl, rfl, hj⟩, show 128 * x + j + 1 = 128 * x + (j + 1) by omega]
          exact tr _ _ (P' 2 x (j + 1) (Or.inr rfl) x0 x1 (by omega) (by show j + 1 < R 13 x; omega))
        · rw [if_neg (by omega), if_neg (by omega)]
          exact tr _ _ (P' 2 x j (Or.inr rfl) x0 x1 (by omega) (by show j < R 13 x; omega))
      · rw [if_neg hx] at j1
        rw [if_neg (by omega), if_neg (fun y => hx y.2.1)]
        exact tr _ _ (P' 2 x j (Or.inr rfl) x0 x1 j0 j1)
  · have F' := flI_l e hs sz FF
    refine ⟨fun b j b0 b1 j0 j1 => ?_, fun b j b' j' b0 b1 j0 j1 => ?_⟩
    · rw [drp_a (by omega) (by omega)] at j1
      obtain ⟨y1, y2⟩ := F'.1 b j b0 b1 j0 j1
      exact ⟨y1, fk_c (fun a _ _ => by rw [drp_a (by omega) (by omega)]) (by rw [drp_a (by omega) (by omega)]) (by rw [drp_a (by omega) (by omega)]) (by rw [drp_a (by omega) (by omega)]) (by rw [drp_a (by omega) (by omega)]) y2⟩
    · rw [drp_a (a := 17) (by omega) (by omega)] at j1 ⊢
      exact F'.2 b j b' j' b0 b1 j0 j1
theorem lvA_drp {q t : Int} (lv : lvA R) (gQ : bQ R) (hq : 0 ≤ q ∧ q < 18) (ht : 0 ≤ t ∧ t < R 13 q) : lvA (nDrp R q t) := by
  refine ⟨fun k x j hk x0 x1 j0 j1 => ?_, fun b j b0 b1 j0 j1 => ?_⟩
  · have gx := gQ x x0 x1
    have gq := gQ q hq.1 hq.2
    rw [drp_a (a := 1) (by omega) (by omega)]
    rcases hk with rfl | rfl
    · change j < nDrp R q t 10 x at j1
      show R 1 (nDrp R q t 9 (128 * x + j)) = 1
      rw [drp_a (a := 10) (by omega) (by omega)] at j1
      rw [drp_a (a := 9) (by omega) (by omega)]
      exact lv.1 1 x j (Or.inl rfl) x0 x1 j0 j1
    · change j < nDrp R q t 13 x at j1
      show R 1 (nDrp R q t 12 (128 * x + j)) = 1
      rw [drp_13] at j1
      rw [drp_12]
      by_cases hx : x = q
      · subst hx
        rw [if_pos rfl] at j1
        by_cases hj : t ≤ j
        · rw [if_pos (by omega), show 128 * x + j + 1 = 128 * x + (j + 1) by omega]
          exact lv.1 2 x (j + 1) (Or.inr rfl) x0 x1 (by omega) (by show j + 1 < R 13 x; omega)
        · rw [if_neg (by omega)]
          exact lv.1 2 x j (Or.inr rfl) x0 x1 (by omega) (by show j < R 13 x; omega)
      · rw [if_neg hx] at j1
        rw [if_neg (by omega)]
        exact lv.1 2 x j (Or.inr rfl) x0 x1 j0 j1
  · rw [drp_a (by omega) (by omega)] at j1
    rw [drp_a (a := 1) (by omega) (by omega), drp_a (by omega) (by omega)]
    exact lv.2 b j b0 b1 j0 j1
theorem iR_lv (I : iR R) : lvA R := lvA_of I.2.2.2.2.2.1 I.2.2.2.2.1 I.2.2.2.1 I.2.2.1
theorem c_tf {n c x : Int} (I : iR R) (t : iT R) (C : cR h c0 R) (hn : 0 ≤ n ∧ n < 6) (hc : 0 ≤ c ∧ c < 3) (f0 : fI R F x) :
    ∃ h' F', (∀ fu, f_No_takePackets_2 (fu + 1) (some (qN c0 n 0)) (R 0 2) c (vw h c0 (wF R F) Rr) = f_No_takePackets_2 fu (some (qN c0 n 0)) (R 0 2) (c + -1) (vw h' c0 (wF (nTF R n c) F') Rr)) ∧ cR h' c0 (nTF R n c) ∧ ext h h' ∧ dC h R h' (nTF R n c) ∧ fI (nTF R n c) F' x := by
  have C2 := C
  obtain ⟨hs, sz, d, X, Y, L, P, FF⟩ := C2
  have gQ := bQ_of I
  have gq := gQ (3 * n + c) (by omega) (by omega)
  have gH := I.1.2.2.2.2.2.2.2.1
  have gC := bC_of I.1
  have hr : ∀ i, 0 ≤ i → i < R 13 (3 * n + c) → (0 ≤ R 2 (R 12 (128 * (3 * n + c) + i)) ∧ R 2 (R 12 (128 * (3 * n + c) + i)) ≤ 10) ∧ (0 ≤ R 3 (R 12 (128 * (3 * n + c) + i)) ∧ R 3 (R 12 (128 * (3 * n + c) + i)) < 8) := by
    intro i i0 i1
    obtain ⟨p0, p1, p2⟩ := inb_sp I hn hc i0 i1
    have := I.1.2.2.2.2.2.1 _ p0.1 p0.2
    exact ⟨this.2.1, by omega⟩
  obtain ⟨z, E, hz⟩ := c_first (F := F) (Rr := Rr) hs L P hn hc gq.2.2 gH gC hr (R 13 (3 * n + c)).toNat FU 0 0 (by omega) (by omega) lbQ_0 (by unfold FU; omega)
  have pre : ∀ (fu : Nat), f_No_takePackets_2 (fu + 1) (some (qN c0 n 0)) (R 0 2) c (vw h c0 (wF R F) Rr) = eEq z (-1) (f_No_takePackets_2 fu (some (qN c0 n 0)) (R 0 2) (c + -1) (vw h c0 (wF R F) Rr)) (bR (f_AL_remove (some (qL c0 n c 2)) z (vw h c0 (wF R F) Rr)) (fun q10 g9 => eCc g9 10 q10 (vK g9 6 (some (qN c0 n 0)) (bV (f_No_take (some (qN c0 n 0)) q10 (R 0 2) g9) (fun g11 => f_No_takePackets_2 fu (some (qN c0 n 0)) (R 0 2) (c + -1) g11))))) := by
    intro fu
    rw [f_No_takePackets_2]
    rw [eLt_i (by omega) (by omega) (by omega) (by omega), if_neg (by omega), jn_eq, zgNo1 hs hn, zfNo0 hs hn, zvMe hs, t_laneOf hs hn hc, zgLa2 hs hn hc, zvNo hs hn]
    unfold f_No_firstToTake f_AL_size
    rw [zvALb hs hn hc, ziAL1b hs hn hc, bI_some, E, bI_some, zvALb hs hn hc]
  have hgood := hz
  rcases tf_sp I hn hc with ⟨e, hno⟩ | ⟨i, i0, i1, i2, i3, i4, e⟩
  · have hz1 : z = -1 := by
      rcases hz with y | y
      · exact y.1
      · exact absurd y.2.2.1 (hno z (by omega) y.2.1)
    rw [e]
    refine ⟨h, F, fun fu => ?_, C, ext_r, dC_r, f0⟩
    rw [pre, hz1, eEq_i (by omega) (by omega) (by omega) (by omega), if_pos rfl]
  · have hzi : z = i := by
      rcases hz with ⟨y1, y2⟩ | ⟨y1, y2, y3, y4⟩
      · exact absurd ⟨i2, i3⟩ (y2 i i0 i1)
      · by_cases h1 : z < i
        · exact absurd y3 (i4 z y1 h1)
        · by_cases h2 : i < z
          · exact absurd ⟨i2, i3⟩ (y4 i i0 h2)
          · omega
    subst hzi
    obtain ⟨p0, p1, p2⟩ := inb_sp I hn hc i0 i1
    obtain ⟨h1, d1, E1, x1, L1, z1, z2⟩ := ls_rem (F := F) (Rr := Rr) (k := 2) (i := z) L hs sz hn hc (Or.inr rfl) ⟨i0, i1⟩
    have xe := exL x1
    have C1 := cR_drp hs sz L P FF gQ (q := 3 * n + c) (by omega) ⟨i0, i1⟩ x1 L1
    have lv1 := lvA_drp (q := 3 * n + c) (iR_lv I) gQ (by omega) ⟨i0, i1⟩
    have ok1 : sOK (nDrp R (3 * n + c) z) (6 + 1 + 0) := sOK_congr (sOK_of I.1 I.2.2.1) (drp_a (by omega) (by omega)) (drp_a (by omega) (by omega))
    have hpa := ((L 2 (3 * n + c) (Or.inr rfl) (by omega) (by omega)).2.2 z i0 i1).2
    have hpk : pk h R (R 12 (128 * (3 * n + c) + z)) (X 2 (3 * n + c) z) := P 2 (3 * n + c) z (Or.inr rfl) (by omega) (by omega) i0 i1
    have hpa1 := pa_e xe hpa
    have hpk1 : pk h1 (nDrp R (3 * n + c) z) (R 12 (128 * (3 * n + c) + z)) (X 2 (3 * n + c) z) := pk_c (fun b _ _ => by rw [drp_a (by omega) (by omega)]) (by rw [drp_a (by omega) (by omega)]) (pk_e xe hpa.2.2 hpk)
    have tk := tkF_c (T := nDrp R (3 * n + c) z) (fun a h1 h2 => drp_a h1 h2) (tkF_of I t hn p0 p1 p2)
    have mt2 := mk_tak (R := R) (U := nDrp R (3 * n + c) z) (n := n) (p := R 12 (128 * (3 * n + c) + z))
    rw [← drp_mk] at mt2
    obtain ⟨h2, F', E2, s2, f2⟩ := c_take (F := F) (Rr := Rr) (m0 := 0) (x := x) ⟨C1, lv1, ok1⟩ hpa1 hpk1 hn tk (by rw [mt2]; exact i3) (fI_c (drp_a (by omega) (by omega)) (by rw [drp_a (by omega) (by omega)]) f0)
    rw [mt2] at E2 s2 f2
    dsimp only at E2 s2 f2
    have hT : nTF R n c = up3 (mk2 (nTak R n (R 12 (128 * (3 * n + c) + z))).2 (nDrp R (3 * n + c) z)) 1 (R 12 (128 * (3 * n + c) + z)) 0 := by
      rw [e]
      have u12 : ∀ j, (nTak R n (R 12 (128 * (3 * n + c) + z))).2 12 j = R 12 j := fun j => nTak_n (by unfold kpT; omega)
      have u13 : ∀ j, (nTak R n (R 12 (128 * (3 * n + c) + z))).2 13 j = R 13 j := fun j => nTak_n (by unfold kpT; omega)
      generalize (nTak R n (R 12 (128 * (3 * n + c) + z))).2 = W at *
      funext a j
      by_cases h12 : a = 12
      · subst h12
        rw [u3n (by omega)]
        unfold mk2
        rw [if_pos (by omega), drp_12]
        unfold nSh sX
        rw [u3n (by omega), u3n (by omega), u3n (by omega), u3n (by omega), u12, u12]
        simp only [beq_self_eq_true, true_and]
      · by_cases h13 : a = 13
        · subst h13
          rw [u3n (by omega)]
          unfold mk2
          rw [if_pos (by omega), drp_13]
          unfold nSh sX
          rw [if_neg (by simp), up3_eq, u3n (by omega), u13]
          simp only [true_and]
        · unfold nSh sX
          rw [if_neg (by simp [h12]), u3n h13]
          rw [up3_eq, up3_eq, mk_r h12 h13]
    rw [hT]
    refine ⟨h2, F', fun fu => ?_, cR_c (fun a h1 h2 _ => u3f (by omega)) (u3n (by omega)) (u3n (by omega)) s2.1.1, ext_t xe s2.2.1, ?_, fI_c (u3f (by omega)) (u3n (by omega)) f2⟩
    · rw [pre, eEq_i (by omega) (by omega) (by omega) (by omega), if_neg (by omega), E1, bR_some, t_cc hpa1, zvNo (shC_e xe sz.2.2.2 hs) hn]
      have ev : vw h1 c0 (wF (up3 R (kN 2) (3 * n + c) (R (kN 2) (3 * n + c) - 1)) F) Rr = vw h1 c0 (wF (nDrp R (3 * n + c) z) F) Rr := by
        refine vw_vis (fun a i ha => ?_)
        by_cases h13 : a = 13
        · subst h13
          rw [drp_13]
          show up3 R 13 (3 * n + c) (R 13 (3 * n + c) - 1) 13 i = _
          rw [up3_eq]
          simp only [true_and]
        · rw [drp_a (by intro y; subst y; simp [vis] at ha) h13, u3n (by unfold kN; simpa using h13)]
      have e02 : nDrp R (3 * n + c) z 0 2 = R 0 2 := by rw [drp_a (by omega) (by omega)]
      rw [e02] at E2
      rw [ev, E2, bV_some]
      congr 1
      exact vw_vis (fun a i ha => by rw [u3n (by intro y; subst y; simp [vis] at ha)])
    · have y1 := s2.2.2
      have y2 := dC_d (R2 := R) (by rw [drp_a (by omega) (by omega)]) (drp_a (by omega) (by omega)).symm (drp_a (by omega) (by omega)).symm y1
      have y3 := dC_c (T2 := up3 (mk2 (nTak R n (R 12 (128 * (3 * n + c) + z))).2 (nDrp R (3 * n + c) z)) 1 (R 12 (128 * (3 * n + c) + z)) 0) (u3n (by omega)) (u3f (by omega)) (u3f (by omega)) y2
      exact ⟨by have := y3.1; omega, by have := y3.2.1; omega, y3.2.2⟩
-- a node: channels 2, 1, 0
theorem c_tfs {n x : Int} (J : jC x R) (C : cR h c0 R) (hn : 0 ≤ n ∧ n < 6) (f0 : fI R F 0) :
    ∃ h' F', f_No_takePackets (some (qN c0 n 0)) x (vw h c0 (wF R F) Rr) = some (vw h' c0 (wF (nDn (fun c R => nTF R n c) 3 R) F') Rr) ∧ cR h' c0 (nDn (fun c R => nTF R n c) 3 R) ∧ jC x (nDn (fun c R => nTF R n c) 3 R) ∧ ext h h' ∧ dC h R h' (nDn (fun c R => nTF R n c) 3 R) ∧ fI (nDn (fun c R => nTF R n c) 3 R) F' 0 := by
  have jt : ∀ (R : RS) (c : Int), jC x R → 0 ≤ c ∧ c < 3 → jC x (nTF R n c) := by
    intro R c J hc
    obtain ⟨I, t, e⟩ := J
    obtain ⟨k1, k2⟩ := iR_tf I t hn hc
    unfold jC iT at *
    rw [k2 2 (by omega), k2 39 (by omega), k2 40 (by omega)]
    exact ⟨k1, t, e⟩
  have J2 := jt R 2 J (by omega)
  have J1 := jt _ 1 J2 (by omega)
  have J0 := jt _ 0 J1 (by omega)
  obtain ⟨h1, F1, E1, C1, e1, d1, f1⟩ := c_tf (Rr := Rr) (c := 2) J.1 J.2.1 C hn (by omega) f0
  obtain ⟨h2, F2, E2, C2, e2, d2, f2⟩ := c_tf (Rr := Rr) (c := 1) J2.1 J2.2.1 C1 hn (by omega) f1
  obtain ⟨h3, F3, E3, C3, e3, d3, f3⟩ := c_tf (Rr := Rr) (c := 0) J1.1 J1.2.1 C2 hn (by omega) f2
  have h02 := J.2.2
  have h12 := J2.2.2
  have h22 := J1.2.2
  rw [h02] at E1
  rw [h12] at E2
  rw [h22] at E3
  refine ⟨h3, F3, ?_, C3, J0, ext_t e1 (ext_t e2 e3), ?_, f3⟩
  · unfold f_No_takePackets
    rw [show FU = 99996 + 1 + 1 + 1 + 1 from rfl, E1, show (2 : Int) + -1 = 1 by omega, E2, show (1 : Int) + -1 = 0 by omega, E3]
    unfold f_No_takePackets_2
    rw [eLt_i (by omega) (by omega) (by omega) (by omega), if_pos (by omega)]
    rfl
  · show dC h R h3 (nTF (nTF (nTF R n 2) n 1) n 0)
    exact dC_t d1 (dC_t d2 d3)
end Cls11
