/-! The class sends a packet -/
section Cls6
variable {α : Type} {h g : ev_hs} {c0 : Nat} {R T Rr Rc : RS} {F : Int → Int} {D FL : Int} {d : Nat → Int → Nat} {X : Nat → Int → Int → Nat} {Y : Int → Int → Nat}
theorem t_laneOf (hs : shC h c0 D FL) {n c : Int} (hn : 0 ≤ n ∧ n < 6) (hc : 0 ≤ c ∧ c < 3) {K : Option Nat → ev_hs → Option α} : bR (f_Me_laneOf (some (c0 + 1)) n c (vw h c0 Rc Rr)) K = K (some (qL c0 n c 0)) (vw h c0 Rc Rr) := by
  unfold f_Me_laneOf
  rw [zgMe0 hs, zqLa hs hn hc]
  rfl
theorem t_channel {a : Nat} {k : Int} (hk : xK h a = 11) (ha : c0 + 409 ≤ a) (hi : xI h 1000 a = k) (hr : 0 ≤ k ∧ k ≤ 10) {K : Int → ev_hs → Option α} : bI (f_Pa_channel (some a) (vw h c0 Rc Rr)) K = K (nCh k) (vw h c0 Rc Rr) := by
  unfold f_Pa_channel nCh
  rw [t_g9 (c := 10) hk ha, show xI h (100 * 10 + 0) a = k from hi]
  simp (disch := omega) only [eLt_i, ↓jn_eq]
  split
  · rw [t_g9 (c := 10) hk ha, show xI h (100 * 10 + 0) a = k from hi]
    simp (disch := omega) only [eLt_i]
    split <;> rfl
  · rfl
theorem lv_ne (lv : lvA R) (h0 : R 1 (nFree R) = 0) : (∀ k q j, (k = 1 ∨ k = 2) → 0 ≤ q → q < 18 → 0 ≤ j → j < R (kN k) q → R (kE k) (128 * q + j) ≠ nFree R) ∧ ∀ b j, 0 ≤ b → b < 90 → 0 ≤ j → j < R 17 b → R 14 (4 * b + j) ≠ nFree R := by
  refine ⟨fun k q j hk q0 q1 j0 j1 e => ?_, fun b j b0 b1 j0 j1 e => ?_⟩
  · have := lv.1 k q j hk q0 q1 j0 j1
    rw [e, h0] at this
    omega
  · have := lv.2 b j b0 b1 j0 j1
    rw [e, h0] at this
    omega
theorem nSend_r {n k l t w v m : Int} {a : Nat} {p : Int} (h1 : 1 ≤ a) (h2 : a ≤ 8) (hp : p ≠ nFree R) : nSend R n k l t w v m a p = R a p := by
  unfold nSend
  rw [u3n (by omega), u3n (by omega), u3n (by omega)]
  rw [u3i hp, u3i hp, u3i hp, u3i hp, u3i hp, u3i hp, u3i hp, u3i hp]
theorem nSend_9 {n k l t w v m y : Int} : nSend R n k l t w v m 9 y = if y = 128 * (3 * n + nCh k) + R 10 (3 * n + nCh k) then nFree R else R 9 y := by
  unfold nSend
  rw [u3n (by omega), u3n (by omega), up3_eq]
  simp (disch := omega) only [u3n, true_and]
theorem nSend_01 {n k l t w v m : Int} {j : Int} (hj : j ≠ 38) : nSend R n k l t w v m 0 j = R 0 j := by
  unfold nSend
  rw [u3i hj]
  simp (disch := omega) only [u3n]
theorem nSend_g {n k l t w v m : Int} {p : Int} (hp : p = nFree R) : nSend R n k l t w v m 2 p = k ∧ nSend R n k l t w v m 3 p = l ∧ nSend R n k l t w v m 4 p = t ∧ nSend R n k l t w v m 5 p = n ∧ nSend R n k l t w v m 6 p = w ∧ nSend R n k l t w v m 7 p = v ∧ nSend R n k l t w v m 8 p = m := by
  subst hp
  unfold nSend
  simp (disch := omega) only [u3n, u3s, and_self]
theorem nSend_v {n k l t w v m : Int} : ∀ a i, vis a = true → up3 (up3 R 10 (3 * n + nCh k) (R 10 (3 * n + nCh k) + 1)) 0 38 (R 0 38 + 1) a i = nSend R n k l t w v m a i := by
  intro a i ha
  unfold nSend
  by_cases h0 : a = 0
  · subst h0
    by_cases hi : i = 38
    · subst hi
      rw [u3s, u3s]
    · rw [u3i hi, u3i hi]
      simp (disch := omega) only [u3n]
  · rw [u3n h0, u3n h0]
    by_cases h10 : a = 10
    · subst h10
      rw [up3_eq, up3_eq]
      simp (disch := omega) only [u3n]
    · rw [u3n h10, u3n h10]
      have : 11 ≤ a := by
        unfold vis at ha
        simp at ha
        omega
      simp (disch := omega) only [u3n]
theorem lvA_send {n k l t w v m : Int} (lv : lvA R) : lvA (nSend R n k l t w v m) := by
  have h1 : ∀ p, R 1 p = 1 → nSend R n k l t w v m 1 p = 1 := by
    intro p hp
    rw [nSend_1, up3_eq]
    split
    · rfl
    · exact hp
  have h2 : nSend R n k l t w v m 1 (nFree R) = 1 := by rw [nSend_1, u3s]
  refine ⟨fun k' q j hk q0 q1 j0 j1 => ?_, fun b j b0 b1 j0 j1 => ?_⟩
  · rcases hk with rfl | rfl
    · show nSend R n k l t w v m 1 (nSend R n k l t w v m 9 (128 * q + j)) = 1
      rw [nSend_9]
      split
      · exact h2
      · rename_i hh
        change j < nSend R n k l t w v m 10 q at j1
        rw [nSend_10] at j1
        refine h1 _ (lv.1 1 q j (Or.inl rfl) q0 q1 j0 ?_)
        show j < R 10 q
        split at j1
        · rename_i x; rw [← x] at hh; omega
        · exact j1
    · show nSend R n k l t w v m 1 (nSend R n k l t w v m 12 (128 * q + j)) = 1
      change j < nSend R n k l t w v m 13 q at j1
      rw [nSend_n (a := 13) (by omega)] at j1
      rw [nSend_n (a := 12) (by omega)]
      exact h1 _ (lv.1 2 q j (Or.inr rfl) q0 q1 j0 j1)
  · rw [nSend_n (a := 17) (by omega)] at j1
    rw [nSend_n (a := 14) (by omega)]
    exact h1 _ (lv.2 b j b0 b1 j0 j1)
theorem c_send {m0 : Nat} {n k l t w v m w' v' m' : Int} (C : cR h c0 R) (lv : lvA R) (ok : sOK R (m0 + 1)) (hn : 0 ≤ n ∧ n < 6) (hk : 0 ≤ k ∧ k ≤ 10) (e1 : k ≤ 3 → w' = n) (e2 : 4 ≤ k → k ≤ 6 → w' = w) (e3 : (k = 3 ∨ k = 8 ∨ k = 10) → v' = v) (e4 : k = 8 → m' = m) :
    ∃ h', f_Me_send (some (c0 + 1)) n k l t w' v' m' (vw h c0 (wF R F) Rr) = some (vw h' c0 (wF (nSend R n k l t w v m) F) Rr) ∧ cR h' c0 (nSend R n k l t w v m) ∧ ext h h' ∧ xC h' ≤ xC h + 2 ∧ xS h' ≤ xS h + 207 := by
  obtain ⟨hs, sz, d, X, Y, L, P, FF⟩ := C
  have hz := sz.2.2.2
  obtain ⟨f1, f2, f3⟩ := nFree_lt ok.1 (by have := ok.2.1; omega)
  have hq := nCh_r (k := k)
  have hN := ok.2.2 (3 * n + nCh k) (by omega) (by omega)
  have hN2 := ok.2.1
  obtain ⟨ne1, ne2⟩ := lv_ne lv f3
  obtain ⟨h1, E1, x1, ⟨z1, z2, z3⟩, r1, q1, y0, y1, y2, y3, y4, y5, y6, y7⟩ := new_pk (h := h) (Rc := wF R F) (Rr := Rr) (k := k) (l := l) (t := t) (w := w') (v := v') (m := m') (f := R 0 1) hz hk
  have xe := exL x1
  have hs1 := shC_e xe hz hs
  have sz1 := sE_e xe sz
  have L1 : lsI h1 c0 R d X := lsI_o L xe sz (fun a ha => by
    rw [r1]
    show (if a = xZ h then none else xR h 300 a) = _
    rw [if_neg (by omega)]) (fun a j _ _ => by rw [q1])
  have hx : pa h1 c0 (xZ h) := ⟨y0, hz, by omega⟩
  obtain ⟨h2, d', E2, x2, L2, z4, z5⟩ := ls_add (F := F) (Rr := Rr) (k := 1) L1 hs1 sz1 hn hq (Or.inl rfl) (by show 0 ≤ R 10 (3 * n + nCh k) ∧ R 10 (3 * n + nCh k) ≤ 127; omega) hx
  have xe2 := exL x2
  have hs2 := shC_e xe2 sz1.2.2.2 hs1
  have sz2 := sE_e xe2 sz1
  have ex12 := ext_t xe xe2
  refine ⟨h2, ?_, ⟨?_, sz2, d', upX X 1 (3 * n + nCh k) (R 10 (3 * n + nCh k)) (xZ h), Y, ?_, ?_, ?_⟩, ex12, by omega, by omega⟩
  · have hs0 : shC (wN h 10 7) c0 (R 0 0) (R 0 1) := shC_e (exL ex_wN) hz hs
    unfold f_Me_send
    rw [t_nO hz, zfMe1 hs0, nN_some, E1, bV_some, y_vK (c := 10) y0, t_channel y0 hz y1 hk, zvMe hs1, t_laneOf hs1 hn hq, zgLa1 hs1 hn hq, zvALa hs1 hn hq, E2, bI_some, ziMe2 hs2, zpMe2 hs2, show kN 1 = 10 from rfl, u3n (k := 10) (a := 0) (by omega), vw_vis (T := up3 (up3 R 10 (3 * n + nCh k) (R 10 (3 * n + nCh k) + 1)) 0 38 (R 0 38 + 1)) (nSend_v (l := l) (t := t) (w := w) (v := v) (m := m))]
  · rw [nSend_01 (by omega), nSend_01 (by omega)]
    exact hs2
  · refine lsI_c L2 (fun q _ _ => ?_) (fun q _ _ => ?_)
    · rw [nSend_10]
      show _ = up3 R 10 (3 * n + nCh k) (R 10 (3 * n + nCh k) + 1) 10 q
      rw [up3_eq]
      by_cases hh : q = 3 * n + nCh k
      · rw [if_pos hh, if_pos ⟨rfl, hh⟩, hh]
      · rw [if_neg hh, if_neg (by omega)]
    · rw [nSend_n (by omega)]
      exact (u3n (by unfold kN; simp)).symm
  · have hp1 : pk h2 (nSend R n k l t w v m) (nFree R) (xZ h) := by
      refine pk_e xe2 (by omega) ?_
      obtain ⟨g1, g2, g3, g4, g5, g6, g7⟩ := nSend_g (R := R) (n := n) (k := k) (l := l) (t := t) (w := w) (v := v) (m := m) (p := nFree R) rfl
      unfold pk nSz
      rw [g1, g2, g3, g4, g5, g6, g7, y1, y2, y3, y4, y5, y6, y7, nSend_01 (by omega)]
      exact ⟨rfl, rfl, rfl, e1, e2, e3, e4, rfl⟩
    have P2 : plI h2 R X := plI_e xe2 L1 (plI_e xe L P)
    have hold : ∀ k' q j, (k' = 1 ∨ k' = 2) → 0 ≤ q → q < 18 → 0 ≤ j → j < R (kN k') q → pk h2 (nSend R n k l t w v m) (R (kE k') (128 * q + j)) (X k' q j) := by
      intro k' q j hk q0 q1 j0 j1
      exact pk_c (fun a a1 a2 => nSend_r (by omega) a2 (ne1 k' q j hk q0 q1 j0 j1)) (nSend_01 (by omega)) (P2 k' q j hk q0 q1 j0 j1)
    intro k' q j hk q0 q1 j0 j1
    rcases hk with rfl | rfl
    · show pk h2 _ (nSend R n k l t w v m 9 (128 * q + j)) _
      change j < nSend R n k l t w v m 10 q at j1
      rw [nSend_10] at j1
      rw [nSend_9]
      unfold upX
      by_cases hh : q = 3 * n + nCh k ∧ j = R 10 (3 * n + nCh k)
      · rw [if_pos (by omega), if_pos ⟨rfl, hh.1, hh.2⟩]
        exact hp1
      · have g3 : R 10 q ≤ 127 ∧ 0 ≤ R 10 q := by have := ok.2.2 q q0 q1; omega
        have j2 : j < R 10 q := by
          by_cases g1 : q = 3 * n + nCh k
          · rw [if_pos g1] at j1
            have g2 : j ≠ R 10 (3 * n + nCh k) := fun x => hh ⟨g1, x⟩
            rw [← g1] at g2
            omega
          · rw [if_neg g1] at j1
            exact j1
        rw [if_neg (by omega), if_neg (by omega)]
        exact hold 1 q j (Or.inl rfl) q0 q1 j0 j2
    · show pk h2 _ (nSend R n k l t w v m 12 (128 * q + j)) _
      change j < nSend R n k l t w v m 13 q at j1
      rw [nSend_n (a := 13) (by omega)] at j1
      rw [nSend_n (a := 12) (by omega)]
      unfold upX
      rw [if_neg (by omega)]
      exact hold 2 q j (Or.inr rfl) q0 q1 j0 j1
  · have F2 := flI_l x2 hs1 sz1 (flI_l x1 hs sz FF)
    refine ⟨fun b j b0 b1 j0 j1 => ?_, fun b j b' j' b0 b1 j0 j1 => ?_⟩
    · rw [nSend_n (a := 17) (by omega)] at j1
      obtain ⟨g1, g2⟩ := F2.1 b j b0 b1 j0 j1
      exact ⟨g1, fk_c (fun a a1 a2 => nSend_r (by omega) a2 (ne2 b j b0 b1 j0 j1)) (nSend_01 (by omega)) (nSend_n (by omega)) (nSend_n (by omega)) (nSend_n (by omega)) g2⟩
    · rw [nSend_n (a := 17) (by omega)] at j1 ⊢
      exact F2.2 b j b' j' b0 b1 j0 j1
end Cls6
