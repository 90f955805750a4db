/-! The takes keep the protocol's invariant: requests and replacements at home -/
section Inv5
variable {R R0 R1 T X : RS} {n l p : Int}
def hm (X R : RS) : Prop := ∀ a, (a < 24 ∨ 27 < a) → X a = R a
theorem hm_cnt (h : hm X R) (f : PW) : cnt f X = cnt f R := cnt_congr ⟨h 1 (by omega), h 2 (by omega), h 3 (by omega), h 4 (by omega), h 5 (by omega), h 6 (by omega), h 8 (by omega)⟩
theorem hm_kep (h : hm X R) : kep R X p := fun a x y => by rw [h a (by omega)]
theorem hm_bP (h : hm X R) (g : bP R) : bP X := by
  unfold bP at *
  rw [h 1 (by omega), h 2 (by omega), h 3 (by omega), h 4 (by omega), h 5 (by omega), h 6 (by omega), h 7 (by omega), h 8 (by omega)]
  exact g
theorem hm_sOK {m : Nat} (h : hm X R) (S : sOK R m) : sOK X m := sOK_congr S (h 1 (by omega)) (h 10 (by omega))
theorem hm_u {k : Nat} {i z : Int} (h : hm X R) (hk : 24 ≤ k ∧ k ≤ 27) : hm (up3 X k i z) R := fun a ha => by rw [← h a ha]; exact u3f (by omega)
theorem v_put {kd : Int} (V : iV R) (S : sOK R (6 + 1)) (hn : 0 ≤ n ∧ n < 6) (hp : 0 ≤ p ∧ p < 128) (hL : R 1 p = 1) (ht : R 4 p = n) (hk : R 2 p = kd) (hkd : kd = 2 ∨ kd = 3) (hX : hm X R) (h24 : ∀ j, X 24 j = 3 ↔ R 24 j = 3) (hi : hI X) (bh : bH X) (k : kl (nSend X n 7 (R 3 p) (R 5 p) 0 0 0) p T) : iV T := by
  have V0 := V
  obtain ⟨v1, v2, v3, v4, v5, v6, v7, v8, v9, v10⟩ := V
  obtain ⟨g1, g2, g3, g4, g5, g6, g7, g8⟩ := v6 p hp.1 hp.2
  have S1 := hm_sOK hX S
  have hL1 : X 1 p = 1 := by rw [hX 1 (by omega)]; exact hL
  have hC : ∀ f : PW, cnt f T + f kd (R 3 p) n (R 5 p) (R 6 p) (R 8 p) = cnt f R + f 7 (R 3 p) (R 5 p) n 0 0 := by
    intro f
    have := kl_cnt k hp hL (kep_t (hm_kep hX) (kep_send S1 hL1)) f
    rw [hk, ht] at this
    rw [this, cnt_send S1, hm_cnt hX]
  have bp : bP T := bP_kl (bP_send S1 (hm_bP hX v6) hn (by omega) (by omega) (by omega) (by omega) (by omega) (by omega)) k
  obtain ⟨k1, k2, k3, k4⟩ := k
  have e0 : T 0 38 = R 0 38 + 1 := by
    rw [k4, nSend_0, if_pos rfl, hX 0 (by omega)]
  have kx : ∀ a, 20 ≤ a → T a = X a := by
    intro a h1
    rw [k3 a h1]
    funext j
    exact nSend_n (by omega)
  have kk : ∀ a, 20 ≤ a → (a < 24 ∨ 27 < a) → T a = R a := fun a h1 h2 => (kx a h1).trans (hX a h2)
  refine v_home V0 hn (l := R 3 p) (by omega) kk e0 bp (a_put hkd v1 (pT_0 (fun j => by rw [kk 20 (by omega) (by omega)]) (fun j => by rw [kk 22 (by omega) (by omega)]) (fun j => by rw [kk 34 (by omega) (by omega)]) (kk 33 (by omega) (by omega)) (fun j => by rw [kk 29 (by omega) (by omega)]) e0) (by omega) hn hC) ?_ ?_ ?_ ?_
  · intro l' b0 b1
    have x1 := v2 l' b0 b1
    have x2 := hC (wH l')
    simp [wH] at x2
    rw [kx 24 (by omega)]
    have x3 := h24 l'
    clear hC
    grind
  · unfold hI at *
    rw [kx 24 (by omega), kx 26 (by omega), kx 27 (by omega)]
    exact hi
  · unfold bH at *
    rw [kx 24 (by omega), kx 25 (by omega), kx 26 (by omega), kx 27 (by omega)]
    exact bh
  · have x2 := hC wZ
    have x3 : wZ kd (R 3 p) n (R 5 p) (R 6 p) (R 8 p) = 1 := by
      unfold wZ
      rcases hkd with h | h <;> subst h <;> simp
    have x4 : wZ 7 (R 3 p) (R 5 p) n 0 0 = 0 := by unfold wZ; simp
    omega
theorem v_hd (V : iV R) (hn : 0 ≤ n ∧ n < 6) (hp : 0 ≤ p ∧ p < 128) (hL : R 1 p = 1) (ht : R 4 p = n) (hk : R 2 p = 10) (k : kl (if R 24 (R 3 p) = 3 then up3 (up3 R 25 (R 3 p) (R 7 p)) 24 (R 3 p) 1 else up3 R 25 (R 3 p) (R 7 p)) p T) : iV T := by
  have V0 := V
  obtain ⟨v1, v2, v3, v4, v5, v6, v7, v8, v9, v10⟩ := V
  obtain ⟨g1, g2, g3, g4, g5, g6, g7, g8⟩ := v6 p hp.1 hp.2
  have q1 := v2 (R 3 p) (by omega) (by omega)
  have q2 := cnt_pos (f := wH (R 3 p)) hp.1 hp.2 hL
  have q3 : wH (R 3 p) (R 2 p) (R 3 p) (R 4 p) (R 5 p) (R 6 p) (R 8 p) = 1 := by unfold wH; simp [hk]
  have c3 : R 24 (R 3 p) = 3 := by
    by_cases h : R 24 (R 3 p) = 3
    · exact h
    · have := q1.2 h
      omega
  rw [if_pos c3] at k
  have hX : hm (up3 (up3 R 25 (R 3 p) (R 7 p)) 24 (R 3 p) 1) R := hm_u (hm_u (fun a _ => rfl) (by omega)) (by omega)
  have hC : ∀ f : PW, cnt f T + f 10 (R 3 p) n (R 5 p) (R 6 p) (R 8 p) = cnt f R := by
    intro f
    have := kl_cnt k hp hL (hm_kep hX) f
    rw [hk, ht] at this
    rw [this, hm_cnt hX]
  have bp : bP T := bP_kl (hm_bP hX v6) k
  obtain ⟨k1, k2, k3, k4⟩ := k
  have e0 : T 0 38 = R 0 38 + 0 := by
    rw [k4, hX 0 (by omega), Int.add_zero]
  have kk : ∀ a, 20 ≤ a → (a < 24 ∨ 27 < a) → T a = R a := fun a h1 h2 => (k3 a h1).trans (hX a h2)
  have e24 : ∀ j, T 24 j = if j = R 3 p then 1 else R 24 j := by
    intro j
    rw [k3 24 (by omega), up3_eq]
    simp (disch := omega) only [u3n, true_and]
  have e25 : ∀ j, T 25 j = if j = R 3 p then R 7 p else R 25 j := by
    intro j
    rw [k3 25 (by omega), u3n (by omega), up3_eq]
    simp (disch := omega) only [u3n, true_and]
  have e26 : ∀ j, T 26 j = R 26 j := by
    intro j
    rw [k3 26 (by omega)]
    simp (disch := omega) only [u3n]
  have e27 : ∀ j, T 27 j = R 27 j := by
    intro j
    rw [k3 27 (by omega)]
    simp (disch := omega) only [u3n]
  refine v_home V0 hn (l := R 3 p) (by omega) kk e0 bp (a_hd v1 (pT_0 (fun j => by rw [kk 20 (by omega) (by omega)]) (fun j => by rw [kk 22 (by omega) (by omega)]) (fun j => by rw [kk 34 (by omega) (by omega)]) (kk 33 (by omega) (by omega)) (fun j => by rw [kk 29 (by omega) (by omega)]) e0) (by omega) hn hC) ?_ ?_ ?_ ?_
  · intro l' b0 b1
    have x1 := v2 l' b0 b1
    have x2 := hC (wH l')
    simp [wH] at x2
    rw [e24]
    clear hC
    grind
  · intro l' b0 b1
    have x1 := v4 l' b0 b1
    rw [e24, e26, e27]
    grind
  · intro l' b0 b1
    have x1 := v8 l' b0 b1
    rw [e24, e25, e26, e27]
    grind
  · have x2 := hC wZ
    simp [wZ] at x2
    omega
theorem gone_hm {l x : Int} : hm (nGone R l x) R := by
  unfold nGone
  split
  · exact hm_u (hm_u (fun a _ => rfl) (by omega)) (by omega)
  · exact hm_u (fun a _ => rfl) (by omega)
theorem putm_hm {l x v : Int} : hm (nPutm R l x v) R := by
  unfold nPutm
  split
  · exact hm_u (hm_u (hm_u (fun a _ => rfl) (by omega)) (by omega)) (by omega)
  · exact gone_hm
theorem gone_24 {l x : Int} (j : Int) : nGone R l x 24 j = if j = l ∧ R 24 l = 1 ∧ eAnd (R 27 l) (eXor (eShl 1 x) (-1)) = 0 then 0 else R 24 j := by
  unfold nGone
  split
  · rename_i h
    rw [up3_eq]
    simp (disch := omega) only [u3n, true_and, h, and_true]
  · rename_i h
    rw [u3n (by omega), if_neg (by intro g; exact h g.2)]
theorem gone_27 {l x : Int} (j : Int) : nGone R l x 27 j = if j = l then eAnd (R 27 l) (eXor (eShl 1 x) (-1)) else R 27 j := by
  unfold nGone
  split
  · rw [u3n (by omega), up3_eq]
    simp only [true_and]
  · rw [up3_eq]
    simp only [true_and]
theorem gone_25 {l x : Int} {a : Nat} (ha : a ≠ 24 ∧ a ≠ 27) (j : Int) : nGone R l x a j = R a j := by
  unfold nGone
  split <;> simp (disch := omega) only [u3n]
theorem gone_hI {l x : Int} (hl : 0 ≤ l ∧ l < 8) (hx : 0 ≤ x ∧ x ≤ 5) (v : hI R) : hI (nGone R l x) := by
  intro l' b0 b1
  have x1 := v l' b0 b1
  have x2 := bit_z hx
  rw [gone_24, gone_27, gone_25 (by omega)]
  grind
theorem gone_bH {l x : Int} (hl : 0 ≤ l ∧ l < 8) (hx : 0 ≤ x ∧ x ≤ 5) (v : bH R) : bH (nGone R l x) := by
  intro l' b0 b1
  have x1 := v l' b0 b1
  have x2 := bit_g (v l (by omega) (by omega)).2.2.2 hx
  rw [gone_24, gone_27, gone_25 (by omega), gone_25 (by omega)]
  grind
theorem putm_h {l x w : Int} (hl : 0 ≤ l ∧ l < 8) (hx : 0 ≤ x ∧ x ≤ 5) (hw : -2147483648 ≤ w ∧ w < 2147483648) (v : hI R) (b : bH R) : (∀ j, nPutm R l x w 24 j = 3 ↔ R 24 j = 3) ∧ hI (nPutm R l x w) ∧ bH (nPutm R l x w) := by
  unfold nPutm
  split
  · rename_i h
    refine ⟨fun j => ?_, fun l' b0 b1 => ?_, fun l' b0 b1 => ?_⟩
    · rw [up3_eq]
      simp (disch := omega) only [u3n, true_and]
      grind
    · have x1 := v l' b0 b1
      simp only [up3_eq, Nat.reduceEqDiff, false_and, true_and, if_false]
      grind
    · have x1 := b l' b0 b1
      simp only [up3_eq, Nat.reduceEqDiff, false_and, true_and, if_false]
      grind
  · refine ⟨fun j => ?_, gone_hI hl hx v, gone_bH hl hx b⟩
    rw [gone_24]
    grind
theorem v_getm (V : iV R) (S : sOK R (6 + 1)) (hn : 0 ≤ n ∧ n < 6) (hp : 0 ≤ p ∧ p < 128) (hL : R 1 p = 1) (ht : R 4 p = n) (hk : R 2 p = 1) (h1 : (nGetm R n (R 3 p) (R 5 p)).1 = 1) (k : kl (nGetm R n (R 3 p) (R 5 p)).2 p T) : iV T := by
  have V0 := V
  obtain ⟨v1, v2, v3, v4, v5, v6, v7, v8, v9, v10⟩ := V
  obtain ⟨g1, g2, g3, g4, g5, g6, g7, g8⟩ := v6 p hp.1 hp.2
  have i4 := v4 (R 3 p) (by omega) (by omega)
  have i8 := v8 (R 3 p) (by omega) (by omega)
  unfold nGetm at h1 k
  by_cases c3 : R 24 (R 3 p) = 3
  · rw [if_pos c3] at h1
    dsimp only at h1
    omega
  rw [if_neg c3] at k
  by_cases c2 : R 24 (R 3 p) = 2
  · rw [if_pos c2] at k
    dsimp only at k
    have hC : ∀ f : PW, cnt f T + f 1 (R 3 p) n (R 5 p) (R 6 p) (R 8 p) = cnt f R + f 5 (R 3 p) (R 26 (R 3 p)) n (R 5 p) 0 := by
      intro f
      have := kl_cnt k hp hL (kep_u (kep_send S hL) (by omega)) f
      rw [hk, ht] at this
      rw [this]
      simp (disch := omega) only [cnt_u, cnt_send S]
    have bp : bP T := bP_kl (bP_u (bP_send S v6 hn (by omega) (by omega) (by omega) (by omega) (by omega) (by omega)) (by omega)) k
    obtain ⟨k1, k2, k3, k4⟩ := k
    have e0 : T 0 38 = R 0 38 + 1 := by
      rw [k4]
      simp (disch := omega) only [u3n, nSend_0, if_true]
    have e26 : ∀ j, T 26 j = if j = R 3 p then R 5 p else R 26 j := by
      intro j
      rw [k3 26 (by omega), up3_eq]
      simp (disch := omega) only [u3n, nSend_n, true_and]
    have ke : ∀ a, 20 ≤ a → a ≠ 26 → T a = R a := by
      intro a h1 h2
      rw [k3 a h1]
      funext j
      simp (disch := omega) only [u3n, nSend_n]
    have kk : ∀ a, 20 ≤ a → (a < 24 ∨ 27 < a) → T a = R a := fun a h1 h2 => ke a h1 (by omega)
    refine v_home V0 hn (l := R 3 p) (by omega) kk e0 bp (a_getm2 v1 (pT_0 (fun j => by rw [kk 20 (by omega) (by omega)]) (fun j => by rw [kk 22 (by omega) (by omega)]) (fun j => by rw [kk 34 (by omega) (by omega)]) (kk 33 (by omega) (by omega)) (fun j => by rw [kk 29 (by omega) (by omega)]) e0) (by omega) hn hC) ?_ ?_ ?_ ?_
    · intro l' b0 b1
      have x1 := v2 l' b0 b1
      have x2 := hC (wH l')
      simp [wH] at x2
      rw [ke 24 (by omega) (by omega)]
      clear hC
      grind
    · intro l' b0 b1
      have x1 := v4 l' b0 b1
      rw [ke 24 (by omega) (by omega), e26, ke 27 (by omega) (by omega)]
      grind
    · intro l' b0 b1
      have x1 := v8 l' b0 b1
      rw [ke 24 (by omega) (by omega), ke 25 (by omega) (by omega), e26, ke 27 (by omega) (by omega)]
      grind
    · have x2 := hC wZ
      simp [wZ] at x2
      omega
  · rw [if_neg c2] at k
    dsimp only at k
    have ho := bit_g i8.2.2.2 (x := R 5 p) (by omega)
    have hc := bit_c i8.2.2.2 (x := R 5 p) (by omega)
    generalize eAnd (R 27 (R 3 p)) (eXor (eShl 1 (R 5 p)) (-1)) = o at *
    have ho63 : 0 ≤ o ∧ o ≤ 63 := by omega
    have sS := sOK_send S (n := n) (k := 8) (l := R 3 p) (t := R 5 p) (w := 0) (v := R 25 (R 3 p)) (y := nCnt o)
    have kS := kep_send S hL (n := n) (k := 8) (l := R 3 p) (t := R 5 p) (w := 0) (v := R 25 (R 3 p)) (m := nCnt o)
    have lS := (kS 1 (by omega) (by omega)).trans hL
    have iv : ∀ f : PW, cnt f (nIv n (R 3 p) (R 5 p) o 6 0 (nSend R n 8 (R 3 p) (R 5 p) 0 (R 25 (R 3 p)) (nCnt o))) + 0 = cnt f (nSend R n 8 (R 3 p) (R 5 p) 0 (R 25 (R 3 p)) (nCnt o)) + ivS f o (R 3 p) n (R 5 p) := fun f => cnt_iv 6 0 _ sS (by omega)
    have hC : ∀ f : PW, cnt f T + f 1 (R 3 p) n (R 5 p) (R 6 p) (R 8 p) = cnt f R + f 8 (R 3 p) (R 5 p) n 0 (nCnt o) + ivS f o (R 3 p) n (R 5 p) := by
      intro f
      have := kl_cnt k hp hL (kep_u (kep_u (kep_u (kep_t kS (kep_iv 6 0 _ sS lS)) (by omega)) (by omega)) (by omega)) f
      rw [hk, ht] at this
      rw [this]
      simp (disch := omega) only [cnt_u]
      have := iv f
      rw [cnt_send S] at this
      omega
    have bp : bP T := bP_kl (bP_u (bP_u (bP_u (bP_iv hn (by omega) (by omega) 6 0 _ sS (by omega) (by omega) (bP_send S v6 hn (by omega) (by omega) (by omega) (by omega) (by omega) (by omega))) (by omega)) (by omega)) (by omega)) k
    obtain ⟨k1, k2, k3, k4⟩ := k
    have e0 : T 0 38 = R 0 38 + (1 + nCnt o) := by
      rw [k4]
      simp (disch := omega) only [u3n]
      have y1 := nIv_0 (n := n) (l := R 3 p) (x := R 5 p) (o := o) (f := fun _ _ _ _ _ _ => 1) (fun _ _ _ _ _ _ => rfl) 6 0 _ sS
      have y2 := iv (fun _ _ _ _ _ _ => 1)
      have y3 := ivS_1 (f := fun _ _ _ _ _ _ => 1) (l := R 3 p) (n := n) (s := R 5 p) ho63 (fun _ => rfl)
      rw [nSend_0, if_pos rfl] at y1
      omega
    have e24 : ∀ j, T 24 j = if j = R 3 p then 2 else R 24 j := by
      intro j
      rw [k3 24 (by omega), up3_eq]
      simp (disch := omega) only [u3n, nIv_n, nSend_n, true_and]
    have e26 : ∀ j, T 26 j = if j = R 3 p then R 5 p else R 26 j := by
      intro j
      rw [k3 26 (by omega), u3n (by omega), up3_eq]
      simp (disch := omega) only [u3n, nIv_n, nSend_n, true_and]
    have e27 : ∀ j, T 27 j = if j = R 3 p then 0 else R 27 j := by
      intro j
      rw [k3 27 (by omega), u3n (by omega), u3n (by omega), up3_eq]
      simp (disch := omega) only [u3n, nIv_n, nSend_n, true_and]
    have ke : ∀ a, 20 ≤ a → (a < 24 ∨ a = 25 ∨ 27 < a) → T a = R a := by
      intro a h1 h2
      rw [k3 a h1]
      funext j
      simp (disch := omega) only [u3n, nIv_n, nSend_n]
    have kk : ∀ a, 20 ≤ a → (a < 24 ∨ 27 < a) → T a = R a := fun a h1 h2 => ke a h1 (by omega)
    refine v_home V0 hn (l := R 3 p) (by omega) kk e0 bp (a_getm1 ho63 rfl hc.2 v1 (pT_0 (fun j => by rw [kk 20 (by omega) (by omega)]) (fun j => by rw [kk 22 (by omega) (by omega)]) (fun j => by rw [kk 34 (by omega) (by omega)]) (kk 33 (by omega) (by omega)) (fun j => by rw [kk 29 (by omega) (by omega)]) e0) (by omega) hn hC) ?_ ?_ ?_ ?_
    · intro l' b0 b1
      have x1 := v2 l' b0 b1
      have x2 := hC (wH l')
      rw [ivS_0 (by intro k; unfold wH; simp)] at x2
      simp [wH] at x2
      rw [e24]
      clear hC
      grind
    · intro l' b0 b1
      have x1 := v4 l' b0 b1
      rw [e24, e26, e27]
      grind
    · intro l' b0 b1
      have x1 := v8 l' b0 b1
      rw [e24, ke 25 (by omega) (by omega), e26, e27]
      grind
    · have x2 := hC wZ
      have x3 := ivS_1 (f := wZ) (o := o) (l := R 3 p) (n := n) (s := R 5 p) ho63 (fun _ => by unfold wZ; simp)
      simp [wZ] at x2
      omega
end Inv5
