/-! At most two lines of a parity -/
section Inv10
variable {R T X : RS} {n l p : Int}
def lnI (R : RS) : Prop := ∀ n m, 0 ≤ n → n < 6 → 0 ≤ m → m ≤ 1 → nIn R n m ≤ 2
theorem nZ_le {x y : Int} (h : x ≠ 0 → y ≠ 0) : nZ x ≤ nZ y := by
  unfold nZ
  split <;> split <;> omega
theorem nIn_eq {m : Int} : nIn R n m = nZ (R 20 (8 * n + m)) + nZ (R 20 (8 * n + (m + 2))) + nZ (R 20 (8 * n + (m + 2 + 2))) + nZ (R 20 (8 * n + (m + 2 + 2 + 2))) := by
  unfold nIn nInL nInL nInL nInL nInL
  omega
theorem nIn_le {m : Int} (h : ∀ j, T 20 j ≠ 0 → R 20 j ≠ 0) : nIn T n m ≤ nIn R n m := by
  rw [nIn_eq, nIn_eq]
  have h1 := nZ_le (h (8 * n + m))
  have h2 := nZ_le (h (8 * n + (m + 2)))
  have h3 := nZ_le (h (8 * n + (m + 2 + 2)))
  have h4 := nZ_le (h (8 * n + (m + 2 + 2 + 2)))
  omega
theorem lI_le (H : lnI R) (h : ∀ j, T 20 j ≠ 0 → R 20 j ≠ 0) : lnI T := fun n m h0 h1 h2 h3 => by
  have e1 := nIn_le (n := n) (m := m) h
  have e2 := H n m h0 h1 h2 h3
  omega
theorem lI_c (H : lnI R) (h : T 20 = R 20) : lnI T := lI_le H (fun j => by rw [h]; exact id)
theorem u20 {i z : Int} (hi : R 20 i ≠ 0) (h : ∀ j, T 20 j = R 20 j) : ∀ j, up3 T 20 i z 20 j ≠ 0 → R 20 j ≠ 0 := by
  intro j
  rw [up3_eq]
  split
  · rename_i e
    rw [e.2]
    exact fun _ => hi
  · rw [h]
    exact id
theorem bec_20 {s : Int} (j : Int) : nBec X n l s 20 j = up3 X 20 (8 * n + l) s 20 j := by
  unfold nBec
  rw [u3n (by omega), fin_a (by omega)]
theorem tak_20 (V : iV R) (hn : 0 ≤ n ∧ n < 6) (hp : 0 ≤ p ∧ p < 128) (hL : R 1 p = 1) (ht : R 4 p = n) : ∀ j, (nTak R n p).2 20 j ≠ 0 → R 20 j ≠ 0 := by
  intro j
  unfold nTak
  by_cases c0 : R 2 p = 0
  · rw [if_pos c0]
    unfold nGets
    split
    · exact id
    · split <;> simp (disch := omega) only [u3n, nSend_n] <;> exact id
  rw [if_neg c0]
  by_cases c1 : R 2 p = 1
  · rw [if_pos c1]
    unfold nGetm
    split
    · exact id
    · split <;> simp (disch := omega) only [u3n, nSend_n, nIv_n] <;> exact id
  rw [if_neg c1]
  by_cases c2 : R 2 p = 2
  · rw [if_pos c2]
    simp (disch := omega) only [nSend_n, gone_25]
    exact id
  rw [if_neg c2]
  by_cases c3 : R 2 p = 3
  · rw [if_pos c3]
    dsimp only
    rw [nSend_n (by omega), putm_hm 20 (by omega)]
    exact id
  rw [if_neg c3]
  by_cases c4 : R 2 p = 4
  · rw [if_pos c4]
    unfold nFwdS
    split
    · rename_i h
      exact u20 (by omega) (fun j => by simp (disch := omega) only [nSend_n]) j
    · split
      · rename_i h
        exact u20 (by omega) (fun j => by simp (disch := omega) only [nSend_n]) j
      · exact id
  rw [if_neg c4]
  by_cases c5 : R 2 p = 5
  · rw [if_pos c5]
    unfold nFwdM
    split
    · rename_i h
      dsimp only
      rw [u3n (by omega)]
      exact u20 (by omega) (fun j => by simp (disch := omega) only [nSend_n]) j
    · split
      · rename_i h
        exact u20 (by omega) (fun j => by simp (disch := omega) only [nSend_n]) j
      · exact id
  rw [if_neg c5]
  by_cases c6 : R 2 p = 6
  · rw [if_pos c6]
    unfold nIvl
    split
    · rename_i h
      dsimp only
      rw [nSend_n (by omega), u3n (by omega)]
      exact u20 (by omega) (fun j => rfl) j
    · split
      · rename_i h
        dsimp only
        rw [nSend_n (by omega)]
        exact u20 (by omega) (fun j => rfl) j
      · split
        · rename_i h
          dsimp only
          rw [nSend_n (by omega)]
          exact u20 (by omega) (fun j => rfl) j
        · exact id
  rw [if_neg c6]
  by_cases c7 : R 2 p = 7
  · rw [if_pos c7]
    dsimp only
    rw [u3n (by omega), up3_eq]
    split
    · intro h
      exact absurd rfl h
    · exact id
  rw [if_neg c7]
  by_cases c8 : R 2 p = 8
  · rw [if_pos c8]
    have hs := (s_data V hn hp hL ht c8).1
    unfold nDat
    split
    · dsimp only
      rw [bec_20]
      exact u20 (by omega) (fun j => by simp (disch := omega) only [u3n]) j
    · split
      · dsimp only
        rw [bec_20]
        exact u20 (by omega) (fun j => by simp (disch := omega) only [u3n]) j
      · exact u20 (by omega) (fun j => by simp (disch := omega) only [u3n]) j
  rw [if_neg c8]
  by_cases c9 : R 2 p = 9
  · rw [if_pos c9]
    have hs := (s_ack V hn hp hL ht c9).1
    unfold nAck
    split
    · dsimp only
      rw [bec_20]
      exact u20 (by omega) (fun j => by simp (disch := omega) only [u3n]) j
    · dsimp only
      rw [u3n (by omega)]
      exact id
  rw [if_neg c9]
  split
  · dsimp only
    rw [u3n (by omega), u3n (by omega)]
    exact id
  · dsimp only
    rw [u3n (by omega)]
    exact id
theorem lI_core (V : iV R) (hn : 0 ≤ n ∧ n < 6) (H : lnI R) : lnI (nCore R n) := by
  unfold nCore
  split
  rotate_left
  · exact H
  split
  · exact H
  rename_i he
  have i10 := V.2.2.2.2.2.2.2.2.2 n hn.1 hn.2
  have i9 := V.2.2.2.2.2.2.2.2.1 (40 * n + R 34 n) (by omega) (by omega)
  split
  · exact lI_c H (u3f (by omega))
  unfold nCore1
  split
  · exact lI_c H (fin_a (by omega))
  split
  · rename_i h
    exact lI_le H (u20 (by omega) (fun j => by simp (disch := omega) only [nSend_n]))
  split
  rotate_left
  · exact H
  rename_i h0
  have key : ∀ k st, nIn R n (R 29 (40 * n + R 34 n) % 2) ≠ 2 → lnI (up3 (nSend R n k (R 29 (40 * n + R 34 n)) (R 29 (40 * n + R 34 n) % 6) 0 0 0) 20 (8 * n + R 29 (40 * n + R 34 n)) st) := by
    intro k st h2 n' m a0 a1 a2 a3
    have q1 := H n' m a0 a1 a2 a3
    have q2 := H n (R 29 (40 * n + R 34 n) % 2) hn.1 hn.2 (by omega) (by omega)
    generalize R 29 (40 * n + R 34 n) = x at *
    have hT : ∀ j, up3 (nSend R n k x (x % 6) 0 0 0) 20 (8 * n + x) st 20 j = if j = 8 * n + x then st else R 20 j := by
      intro j
      rw [up3_eq]
      simp (disch := omega) only [nSend_n, true_and]
    rw [nIn_eq] at *
    simp only [hT]
    have b : ∀ z, 0 ≤ nZ z ∧ nZ z ≤ 1 := by
      intro z
      unfold nZ
      split <;> omega
    have b0 := b st
    have z0 : nZ 0 = 0 := rfl
    grind (splits := 40)
  split
  · unfold nEvict
    split
    · exact H
    rename_i hx
    obtain ⟨e1, e2⟩ := nEv_s (R := R) (n := n) 4 (R 29 (40 * n + R 34 n) % 2) (-1) (by omega) (by omega) (by omega) (by omega)
    split
    · exact lI_le H (u20 (by omega) (fun j => by simp (disch := omega) only [nSend_n]))
    · exact lI_le H (u20 (by omega) (fun j => by simp (disch := omega) only [nSend_n]))
  rename_i h2
  split
  · exact key 0 1 h2
  · exact key 1 2 h2
end Inv10
