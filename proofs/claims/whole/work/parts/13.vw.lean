/-! The heap as a view: the ints of the class's own objects by Rc, those of the reference by Rr (numbers of the reference's arrays: 1 live, 2 kind, 3 line, 4 to, 5 sender, 6 asker, 7 value, 8 acks, 9 row, 10 rowCount, 11 given, 12 inbox, 13 inCount, 14 flitOf, 15 flitNumber, 16 cameIn, 17 bufferCount, 18 holder, 19 lastPort, 20 state, 21 copy, 22 needs, 23 usedAt, 24 homeState, 25 memory, 26 owner, 27 sharers, 28 opKind, 29 opLine, 30 opValue, 31 opDelay, 32 results, 33 operations, 34 doneCount, 35 rests; 0: its int fields by their slots (0 depth, 1 flits, 2 cycle, 38 sent, 39 arrived, 40 crossed); 36: the class's finishedIn) -/
abbrev RS : Type := Nat → Int → Int
def up3 (R : RS) (k : Nat) (i z : Int) : RS := fun a j => if a = k ∧ j = i then z else R a j
theorem up3_eq (R : RS) (k : Nat) (i z : Int) (a : Nat) (j : Int) : up3 R k i z a j = if a = k ∧ j = i then z else R a j := rfl
def dI (f o : Nat) : Option (Nat × Int) :=
  if f = 3 then (if o = 0 then some (0, 2) else none)
  else if f = 102 then (if o = 1 then some (0, 38) else none)
  else if f = 103 then (if o = 1 then some (0, 39) else none)
  else if f = 104 then (if o = 1 then some (0, 40) else none)
  else if f = 206 then (if 3 ≤ o ∧ o < 291 ∧ (o - 3) % 16 = 0 then some (11, ((o - 3) / 16 : Nat)) else none)
  else if f = 301 then (if 3 ≤ o ∧ o < 291 ∧ (o - 3) % 16 = 1 then some (10, ((o - 3) / 16 : Nat)) else if 3 ≤ o ∧ o < 291 ∧ (o - 3) % 16 = 2 then some (13, ((o - 3) / 16 : Nat)) else none)
  else if f = 401 then (if 3 ≤ o ∧ o < 291 ∧ 6 ≤ (o - 3) % 16 ∧ (o - 3) % 16 % 2 = 0 then some (17, (15 * ((o - 3) / 16 / 3) + 3 * (((o - 3) % 16 - 6) / 2) + (o - 3) / 16 % 3 : Nat)) else none)
  else if f = 503 then (if 292 ≤ o ∧ o < 300 then some (24, (o - 292 : Nat)) else none)
  else if f = 504 then (if 292 ≤ o ∧ o < 300 then some (26, (o - 292 : Nat)) else none)
  else if f = 505 then (if 292 ≤ o ∧ o < 300 then some (27, (o - 292 : Nat)) else none)
  else if f = 506 then (if 292 ≤ o ∧ o < 300 then some (25, (o - 292 : Nat)) else none)
  else if f = 806 then (if 301 ≤ o ∧ o < 373 ∧ (o - 301) % 12 = 6 then some (33, ((o - 301) / 12 : Nat)) else none)
  else if f = 807 then (if 301 ≤ o ∧ o < 373 ∧ (o - 301) % 12 = 6 then some (34, ((o - 301) / 12 : Nat)) else none)
  else if f = 808 then (if 301 ≤ o ∧ o < 373 ∧ (o - 301) % 12 = 6 then some (36, ((o - 301) / 12 : Nat)) else none)
  else none
def jI (k : Nat) (i : Int) : Nat × Nat :=
  if k = 0 then (if i = 2 then (3, 0) else if i = 38 then (102, 1) else if i = 39 then (103, 1) else (104, 1))
  else if k = 11 then (206, 3 + 16 * i.toNat)
  else if k = 10 then (301, 3 + 16 * i.toNat + 1)
  else if k = 13 then (301, 3 + 16 * i.toNat + 2)
  else if k = 17 then (401, 3 + 16 * (3 * (i.toNat / 15) + i.toNat % 3) + 6 + 2 * (i.toNat % 15 / 3))
  else if k = 24 then (503, 292 + i.toNat)
  else if k = 26 then (504, 292 + i.toNat)
  else if k = 27 then (505, 292 + i.toNat)
  else if k = 25 then (506, 292 + i.toNat)
  else if k = 33 then (806, 301 + 12 * i.toNat + 6)
  else if k = 34 then (807, 301 + 12 * i.toNat + 6)
  else (808, 301 + 12 * i.toNat + 6)
theorem dI_j {f o k : Nat} {i : Int} (h : dI f o = some (k, i)) : (f, o) = jI k i ∧ o < 373 := by
  grind (splits := 40) [dI, jI]
def dA (o j : Nat) : Option (Nat × Int) :=
  if 3 ≤ o ∧ o < 291 ∧ (o - 3) % 16 = 4 ∧ j < 5 then some (18, (15 * ((o - 3) / 16 / 3) + 3 * j + (o - 3) / 16 % 3 : Nat))
  else if 3 ≤ o ∧ o < 291 ∧ (o - 3) % 16 = 5 ∧ j < 5 then some (19, (15 * ((o - 3) / 16 / 3) + 3 * j + (o - 3) / 16 % 3 : Nat))
  else if 301 ≤ o ∧ o < 373 ∧ (o - 301) % 12 = 2 ∧ j < 8 then some (20, (8 * ((o - 301) / 12) + j : Nat))
  else if 301 ≤ o ∧ o < 373 ∧ (o - 301) % 12 = 3 ∧ j < 8 then some (21, (8 * ((o - 301) / 12) + j : Nat))
  else if 301 ≤ o ∧ o < 373 ∧ (o - 301) % 12 = 4 ∧ j < 8 then some (22, (8 * ((o - 301) / 12) + j : Nat))
  else if 301 ≤ o ∧ o < 373 ∧ (o - 301) % 12 = 5 ∧ j < 8 then some (23, (8 * ((o - 301) / 12) + j : Nat))
  else if 301 ≤ o ∧ o < 373 ∧ (o - 301) % 12 = 7 ∧ j < 40 then some (28, (40 * ((o - 301) / 12) + j : Nat))
  else if 301 ≤ o ∧ o < 373 ∧ (o - 301) % 12 = 8 ∧ j < 40 then some (29, (40 * ((o - 301) / 12) + j : Nat))
  else if 301 ≤ o ∧ o < 373 ∧ (o - 301) % 12 = 9 ∧ j < 40 then some (30, (40 * ((o - 301) / 12) + j : Nat))
  else if 301 ≤ o ∧ o < 373 ∧ (o - 301) % 12 = 10 ∧ j < 40 then some (31, (40 * ((o - 301) / 12) + j : Nat))
  else if 301 ≤ o ∧ o < 373 ∧ (o - 301) % 12 = 11 ∧ j < 40 then some (32, (40 * ((o - 301) / 12) + j : Nat))
  else none
def jA (k : Nat) (i : Int) : Nat × Nat :=
  if k = 18 then (3 + 16 * (3 * (i.toNat / 15) + i.toNat % 3) + 4, i.toNat % 15 / 3)
  else if k = 19 then (3 + 16 * (3 * (i.toNat / 15) + i.toNat % 3) + 5, i.toNat % 15 / 3)
  else if k = 20 then (301 + 12 * (i.toNat / 8) + 2, i.toNat % 8)
  else if k = 21 then (301 + 12 * (i.toNat / 8) + 3, i.toNat % 8)
  else if k = 22 then (301 + 12 * (i.toNat / 8) + 4, i.toNat % 8)
  else if k = 23 then (301 + 12 * (i.toNat / 8) + 5, i.toNat % 8)
  else if k = 28 then (301 + 12 * (i.toNat / 40) + 7, i.toNat % 40)
  else if k = 29 then (301 + 12 * (i.toNat / 40) + 8, i.toNat % 40)
  else if k = 30 then (301 + 12 * (i.toNat / 40) + 9, i.toNat % 40)
  else if k = 31 then (301 + 12 * (i.toNat / 40) + 10, i.toNat % 40)
  else (301 + 12 * (i.toNat / 40) + 11, i.toNat % 40)
theorem dA_j {o j k : Nat} {i : Int} (h : dA o j = some (k, i)) : (o, j) = jA k i ∧ o < 373 := by
  grind (splits := 40) [dA, jA]
-- ints of the class in fields and those in arrays are apart
def kI (k : Nat) : Bool := k == 0 || k == 10 || k == 11 || k == 13 || k == 17 || k == 24 || k == 25 || k == 26 || k == 27 || k == 33 || k == 34 || k == 36
theorem dI_k {f o k : Nat} {i : Int} (h : dI f o = some (k, i)) : kI k = true := by
  grind (splits := 40) [dI, kI]
theorem dA_k {o j k : Nat} {i : Int} (h : dA o j = some (k, i)) : kI k = false := by
  grind (splits := 40) [dA, kI]
def vI (h : ev_hs) (c0 : Nat) (Rc Rr : RS) (f a : Nat) : Int :=
  if a < c0 then xI h f a else match dI f (a - c0) with
    | some x => Rc x.1 x.2
    | none => if a = c0 + 373 ∧ 1100 ≤ f then Rr 0 ((f : Int) - 1100) else xI h f a
def vA (h : ev_hs) (c0 : Nat) (Rc Rr : RS) (a j : Nat) : Int :=
  if a < c0 then xA h a j else match dA (a - c0) j with
    | some x => Rc x.1 x.2
    | none => if c0 + 373 < a ∧ a ≤ c0 + 408 then Rr (a - c0 - 373) j else xA h a j
def vw (h : ev_hs) (c0 : Nat) (Rc Rr : RS) : ev_hs := (xK h, vI h c0 Rc Rr, xR h, xL h, vA h c0 Rc Rr, xQ h, xZ h, xC h, xS h, xE h, xM h)
section View
variable {h : ev_hs} {c0 : Nat} {Rc Rr : RS}
theorem vv_K : xK (vw h c0 Rc Rr) = xK h := rfl
theorem vv_R : xR (vw h c0 Rc Rr) = xR h := rfl
theorem vv_L : xL (vw h c0 Rc Rr) = xL h := rfl
theorem vv_Q : xQ (vw h c0 Rc Rr) = xQ h := rfl
theorem vv_Z : xZ (vw h c0 Rc Rr) = xZ h := rfl
theorem vv_C : xC (vw h c0 Rc Rr) = xC h := rfl
theorem vv_S : xS (vw h c0 Rc Rr) = xS h := rfl
theorem vv_E : xE (vw h c0 Rc Rr) = xE h := rfl
theorem vv_M : xM (vw h c0 Rc Rr) = xM h := rfl
-- reading and writing the class's ints
theorem vw_Ic {f o k : Nat} {i : Int} (hd : dI f o = some (k, i)) : xI (vw h c0 Rc Rr) f (c0 + o) = Rc k i := by
  show vI h c0 Rc Rr f (c0 + o) = _
  unfold vI
  rw [if_neg (by omega), show c0 + o - c0 = o by omega, hd]
theorem vw_Ac {o j k : Nat} {i : Int} (hd : dA o j = some (k, i)) : xA (vw h c0 Rc Rr) (c0 + o) j = Rc k i := by
  show vA h c0 Rc Rr (c0 + o) j = _
  unfold vA
  rw [if_neg (by omega), show c0 + o - c0 = o by omega, hd]
theorem vw_wIc {f o k : Nat} {i z : Int} (hd : dI f o = some (k, i)) : wI (vw h c0 Rc Rr) f (c0 + o) z = vw h c0 (up3 Rc k i z) Rr := by
  have e1 : up2 (vI h c0 Rc Rr) f (c0 + o) z = vI h c0 (up3 Rc k i z) Rr := by
    funext g a
    unfold up2 vI
    by_cases ha : a < c0
    · rw [if_pos ha, if_pos ha, if_neg (by omega)]
    · rw [if_neg ha, if_neg ha]
      cases hx : dI g (a - c0) with
      | none =>
        have : ¬ (g = f ∧ a = c0 + o) := by
          rintro ⟨rfl, rfl⟩
          rw [show c0 + o - c0 = o by omega, hd] at hx
          cases hx
        rw [if_neg this]
      | some x =>
        obtain ⟨k2, i2⟩ := x
        have h1 := (dI_j hd).1
        have h2 := (dI_j hx).1
        unfold up3
        dsimp only
        by_cases he : k2 = k ∧ i2 = i
        · obtain ⟨rfl, rfl⟩ := he
          rw [← h1] at h2
          simp only [Prod.mk.injEq] at h2
          rw [if_pos ⟨h2.1, by omega⟩, if_pos ⟨rfl, rfl⟩]
        · rw [if_neg he, if_neg]
          rintro ⟨rfl, rfl⟩
          rw [show c0 + o - c0 = o by omega, hd] at hx
          cases hx
          exact he ⟨rfl, rfl⟩
  have e2 : vA h c0 (up3 Rc k i z) Rr = vA h c0 Rc Rr := by
    funext a j
    unfold vA
    split
    · rfl
    · cases hx : dA (a - c0) j with
      | none => rfl
      | some x =>
        obtain ⟨k2, i2⟩ := x
        have h1 := dI_k hd
        have h2 := dA_k hx
        have : k2 ≠ k := fun e => by rw [e, h1] at h2; cases h2
        simp [up3, this]
  show (xK h, up2 (vI h c0 Rc Rr) f (c0 + o) z, xR h, xL h, vA h c0 Rc Rr, xQ h, xZ h, xC h, xS h, xE h, xM h) = vw h c0 (up3 Rc k i z) Rr
  rw [e1, ← e2]
  rfl
theorem vw_wAc {o j k : Nat} {i z : Int} (hd : dA o j = some (k, i)) : wA (vw h c0 Rc Rr) (c0 + o) j z = vw h c0 (up3 Rc k i z) Rr := by
  have e1 : up2 (vA h c0 Rc Rr) (c0 + o) j z = vA h c0 (up3 Rc k i z) Rr := by
    funext a g
    unfold up2 vA
    by_cases ha : a < c0
    · rw [if_pos ha, if_pos ha, if_neg (by omega)]
    · rw [if_neg ha, if_neg ha]
      cases hx : dA (a - c0) g with
      | none =>
        have : ¬ (a = c0 + o ∧ g = j) := by
          rintro ⟨rfl, rfl⟩
          rw [show c0 + o - c0 = o by omega, hd] at hx
          cases hx
        rw [if_neg this]
      | some x =>
        obtain ⟨k2, i2⟩ := x
        have h1 := (dA_j hd).1
        have h2 := (dA_j hx).1
        unfold up3
        dsimp only
        by_cases he : k2 = k ∧ i2 = i
        · obtain ⟨rfl, rfl⟩ := he
          rw [← h1] at h2
          simp only [Prod.mk.injEq] at h2
          rw [if_pos ⟨by omega, h2.2⟩, if_pos ⟨rfl, rfl⟩]
        · rw [if_neg he, if_neg]
          rintro ⟨rfl, rfl⟩
          rw [show c0 + o - c0 = o by omega, hd] at hx
          cases hx
          exact he ⟨rfl, rfl⟩
  have e2 : vI h c0 (up3 Rc k i z) Rr = vI h c0 Rc Rr := by
    funext f a
    unfold vI
    split
    · rfl
    · cases hx : dI f (a - c0) with
      | none => rfl
      | some x =>
        obtain ⟨k2, i2⟩ := x
        have h1 := dA_k hd
        have h2 := dI_k hx
        have : k2 ≠ k := fun e => by rw [e, h1] at h2; cases h2
        simp [up3, this]
  show (xK h, vI h c0 Rc Rr, xR h, xL h, up2 (vA h c0 Rc Rr) (c0 + o) j z, xQ h, xZ h, xC h, xS h, xE h, xM h) = vw h c0 (up3 Rc k i z) Rr
  rw [e1, ← e2]
  rfl
-- reading and writing the reference's ints
theorem dI_big {f o : Nat} (ho : 373 ≤ o) : dI f o = none := by
  cases hx : dI f o with
  | none => rfl
  | some x => have := (dI_j (k := x.1) (i := x.2) hx).2; omega
theorem dA_big {o j : Nat} (ho : 373 ≤ o) : dA o j = none := by
  cases hx : dA o j with
  | none => rfl
  | some x => have := (dA_j (k := x.1) (i := x.2) hx).2; omega
theorem vw_Ir {f : Nat} (hf : 1100 ≤ f) : xI (vw h c0 Rc Rr) f (c0 + 373) = Rr 0 ((f : Int) - 1100) := by
  show vI h c0 Rc Rr f (c0 + 373) = _
  unfold vI
  rw [if_neg (by omega), show c0 + 373 - c0 = 373 by omega, dI_big (by omega)]
  simp [hf]
theorem vw_Ar {k j : Nat} (h1 : 1 ≤ k) (h2 : k ≤ 35) : xA (vw h c0 Rc Rr) (c0 + 373 + k) j = Rr k j := by
  show vA h c0 Rc Rr (c0 + 373 + k) j = _
  unfold vA
  rw [if_neg (by omega), dA_big (by omega)]
  dsimp only
  rw [if_pos (by omega), show c0 + 373 + k - c0 - 373 = k by omega]
theorem vw_wIr {f : Nat} {z : Int} (hf : 1100 ≤ f) : wI (vw h c0 Rc Rr) f (c0 + 373) z = vw h c0 Rc (up3 Rr 0 ((f : Int) - 1100) z) := by
  have e1 : up2 (vI h c0 Rc Rr) f (c0 + 373) z = vI h c0 Rc (up3 Rr 0 ((f : Int) - 1100) z) := by
    funext g a
    unfold up2 vI
    by_cases ha : a < c0
    · rw [if_pos ha, if_pos ha, if_neg (by omega)]
    · rw [if_neg ha, if_neg ha]
      by_cases hb : a = c0 + 373
      · subst hb
        rw [show c0 + 373 - c0 = 373 by omega, dI_big (by omega)]
        dsimp only
        unfold up3
        by_cases hg : g = f
        · subst hg
          simp [hf]
        · have : ¬ ((g : Int) - 1100 = (f : Int) - 1100) := by omega
          simp [hg, this]
      · rw [if_neg (by omega)]
        cases hx : dI g (a - c0) with
        | none => simp [hb]
        | some x => rfl
  have e2 : vA h c0 Rc (up3 Rr 0 ((f : Int) - 1100) z) = vA h c0 Rc Rr := by
    funext a j
    unfold vA
    split
    · rfl
    · cases hx : dA (a - c0) j with
      | some x => rfl
      | none =>
        dsimp only
        split
        · unfold up3
          rw [if_neg (by omega)]
        · rfl
  show (xK h, up2 (vI h c0 Rc Rr) f (c0 + 373) z, xR h, xL h, vA h c0 Rc Rr, xQ h, xZ h, xC h, xS h, xE h, xM h) = _
  rw [e1, ← e2]
  rfl
theorem vw_wAr {k j : Nat} {i z : Int} (h1 : 1 ≤ k) (h2 : k ≤ 35) (hi : i = (j : Int)) : wA (vw h c0 Rc Rr) (c0 + 373 + k) j z = vw h c0 Rc (up3 Rr k i z) := by
  subst hi
  have e1 : up2 (vA h c0 Rc Rr) (c0 + 373 + k) j z = vA h c0 Rc (up3 Rr k j z) := by
    funext a g
    unfold up2 vA
    by_cases ha : a < c0
    · rw [if_pos ha, if_pos ha, if_neg (by omega)]
    · rw [if_neg ha, if_neg ha]
      cases hx : dA (a - c0) g with
      | some x =>
        have := (dA_j (k := x.1) (i := x.2) hx).2
        rw [if_neg (by omega)]
      | none =>
        dsimp only
        by_cases hb : c0 + 373 < a ∧ a ≤ c0 + 408
        · rw [if_pos hb, if_pos hb]
          unfold up3
          by_cases he : a = c0 + 373 + k ∧ g = j
          · rw [if_pos he, if_pos (by omega)]
          · rw [if_neg he, if_neg (by omega)]
        · rw [if_neg hb, if_neg hb, if_neg (by omega)]
  have e2 : vI h c0 Rc (up3 Rr k j z) = vI h c0 Rc Rr := by
    funext f a
    unfold vI
    split
    · rfl
    · cases hx : dI f (a - c0) with
      | some x => rfl
      | none =>
        dsimp only
        split
        · unfold up3
          rw [if_neg (by omega)]
        · rfl
  show (xK h, vI h c0 Rc Rr, xR h, xL h, up2 (vA h c0 Rc Rr) (c0 + 373 + k) j z, xQ h, xZ h, xC h, xS h, xE h, xM h) = _
  rw [e1, ← e2]
  rfl
end View
