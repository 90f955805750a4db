/-! The class's routers: a flit moves -/
section Cls16
variable {α : Type} {h g : ev_hs} {c0 : Nat} {R T U Rr Rc : RS} {F : Int → Int} {D FL : Int} {n o c p : Int} {d : Nat → Int → Nat} {X : Nat → Int → Int → Nat} {Y : Int → Int → Nat}
theorem flI_map {hf : ev_hs} {Y' : Int → Int → Nat} (σ : Int → Int → Int × Int) (FF : flI h c0 R Y) (e : ext h hf) (tr : ∀ a, 2 ≤ a → a ≤ 8 → T a = R a) (t0 : T 0 1 = R 0 1)
    (H : ∀ b j, 0 ≤ b → b < 90 → 0 ≤ j → j < T 17 b → (0 ≤ (σ b j).1 ∧ (σ b j).1 < 90 ∧ 0 ≤ (σ b j).2 ∧ (σ b j).2 < R 17 (σ b j).1) ∧ Y' b j = Y (σ b j).1 (σ b j).2 ∧ xQ hf (qB c0 b) j.toNat = some (Y (σ b j).1 (σ b j).2) ∧ T 14 (4 * b + j) = R 14 (4 * (σ b j).1 + (σ b j).2) ∧ T 15 (4 * b + j) = R 15 (4 * (σ b j).1 + (σ b j).2) ∧ xI hf 903 (Y (σ b j).1 (σ b j).2) = T 16 (4 * b + j))
    (inj : ∀ b j b' j', 0 ≤ b → b < 90 → 0 ≤ j → j < T 17 b → 0 ≤ b' → b' < 90 → 0 ≤ j' → j' < T 17 b' → σ b j = σ b' j' → b = b' ∧ j = j') : flI hf c0 T Y' := by
  have hz : ∀ x, nSz T x = nSz R x := by
    intro x
    unfold nSz
    rw [t0, tr 2 (by omega) (by omega)]
  refine ⟨fun b j b0 b1 j0 j1 => ?_, fun b j b' j' b0 b1 j0 j1 b0' b1' j0' j1' ee => ?_⟩
  · obtain ⟨x1, x2, x3, x4, x5, x6⟩ := H b j b0 b1 j0 j1
    obtain ⟨y1, y2⟩ := FF.1 _ _ x1.1 x1.2.1 x1.2.2.1 x1.2.2.2
    rw [x2]
    refine ⟨x3, ?_⟩
    obtain ⟨k1, k2, k3, k4, k5, k6, a, k7, k8, k9⟩ := y2
    obtain ⟨e1, e2, e3, e4, e5, e6, e7, e8⟩ := id e
    refine ⟨k1, by omega, by rw [(e4 _ k2).1]; exact k3, ?_, ?_, x6, a, ?_, pa_e e k8, ?_⟩
    · rw [e5 901 _ k2 (by omega) (by omega), x5]; exact k4
    · rw [e5 902 _ k2 (by omega) (by omega), x5, x4, hz]; exact k5
    · rw [e6 900 _ k2 (by omega)]; exact k7
    · rw [x4]
      exact pk_c (fun a a1 a2 => by rw [tr a a1 a2]) t0 (pk_e e k8.2.2 k9)
  · obtain ⟨x1, x2, -⟩ := H b j b0 b1 j0 j1
    obtain ⟨y1, y2, -⟩ := H b' j' b0' b1' j0' j1'
    rw [x2, y2] at ee
    have := FF.2 _ _ _ _ x1.1 x1.2.1 x1.2.2.1 x1.2.2.2 y1.1 y1.2.1 y1.2.2.1 y1.2.2.2 ee
    exact inj b j b' j' b0 b1 j0 j1 b0' b1' j0' j1' (Prod.ext this.1 this.2)
def mvS (R : RS) (lk : Bool) (b tg : Int) : Int → Int → Int × Int := fun b' j => if b' = b then (b, j + 1) else if lk = true ∧ b' = tg ∧ j = R 17 tg then (b, 0) else (b', j)
theorem flI_mv {hf : ev_hs} {lk : Bool} {b tg : Int} (FF : flI h c0 R Y) (e : ext h hf) (tr : ∀ a, 2 ≤ a → a ≤ 8 → T a = R a) (t0 : T 0 1 = R 0 1) (hb : 0 ≤ b ∧ b < 90) (hS : 0 < R 17 b) (hne : lk = true → b ≠ tg) (ht : lk = true → 0 ≤ tg ∧ tg < 90 ∧ 0 ≤ R 17 tg)
    (t17 : ∀ y, T 17 y = if y = b then R 17 b - 1 else if lk = true ∧ y = tg then R 17 tg + 1 else R 17 y)
    (q1 : ∀ j : Nat, (j : Int) < R 17 b - 1 → xQ hf (qB c0 b) j = xQ h (qB c0 b) (j + 1)) (q2 : lk = true → xQ hf (qB c0 tg) (R 17 tg).toNat = some (Y b 0)) (q3 : ∀ y j, 0 ≤ y → y < 90 → y ≠ b → ¬ (lk = true ∧ y = tg ∧ j = (R 17 tg).toNat) → xQ hf (qB c0 y) j = xQ h (qB c0 y) j)
    (i1 : ∀ f, f < xZ h → (lk = true → f ≠ Y b 0) → xI hf 903 f = xI h 903 f) (i2 : lk = true → xI hf 903 (Y b 0) = T 16 (4 * tg + R 17 tg))
    (s1 : ∀ a j, 14 ≤ a → a ≤ 16 → 0 ≤ j → j < R 17 b - 1 → T a (4 * b + j) = R a (4 * b + (j + 1))) (s2 : lk = true → T 14 (4 * tg + R 17 tg) = R 14 (4 * b) ∧ T 15 (4 * tg + R 17 tg) = R 15 (4 * b)) (s3 : ∀ a y j, 14 ≤ a → a ≤ 16 → 0 ≤ y → y < 90 → 0 ≤ j → j < R 17 y → y ≠ b → T a (4 * y + j) = R a (4 * y + j)) :
    flI hf c0 T (fun b' j => Y (mvS R lk b tg b' j).1 (mvS R lk b tg b' j).2) := by
  refine flI_map (mvS R lk b tg) FF e tr t0 (fun b' j b0 b1 j0 j1 => ?_) (fun b1 j1 b2 j2 p0 p1 p2 p3 r0 r1 r2 r3 ee => ?_)
  · rw [t17] at j1
    have old : ∀ y i, 0 ≤ y → y < 90 → 0 ≤ i → i < R 17 y → Y y i < xZ h ∧ (lk = true → (y = b ∧ i = 0 ∨ Y y i ≠ Y b 0)) := by
      intro y i y0 y1 i0 i1
      refine ⟨(FF.1 y i y0 y1 i0 i1).2.2.1, fun _ => ?_⟩
      by_cases hh : y = b ∧ i = 0
      · exact Or.inl hh
      · refine Or.inr (fun e => hh (FF.2 y i b 0 y0 y1 i0 i1 hb.1 hb.2 (by omega) hS e))
    unfold mvS
    by_cases h1 : b' = b
    · subst h1
      rw [if_pos rfl] at j1 ⊢
      have ho := old b' (j + 1) b0 b1 (by omega) (by omega)
      refine ⟨⟨b0, b1, by dsimp only; omega, by dsimp only; omega⟩, rfl, ?_, ?_, ?_, ?_⟩
      · rw [q1 _ (by omega)]
        have := (FF.1 b' (j + 1) b0 b1 (by omega) (by omega)).1
        rwa [show (j + 1).toNat = j.toNat + 1 by omega] at this
      · exact s1 14 j (by omega) (by omega) j0 j1
      · exact s1 15 j (by omega) (by omega) j0 j1
      · dsimp only
        rw [i1 _ ho.1 (fun y => by have := ho.2 y; rcases this with z | z; · omega
                                   · exact z), s1 16 j (by omega) (by omega) j0 j1]
        exact (FF.1 b' (j + 1) b0 b1 (by omega) (by omega)).2.2.2.2.2.2.1
    · rw [if_neg h1] at j1 ⊢
      by_cases h2 : lk = true ∧ b' = tg ∧ j = R 17 tg
      · rw [if_pos h2]
        refine ⟨⟨hb.1, hb.2, by dsimp only; omega, hS⟩, rfl, ?_, ?_, ?_, ?_⟩
        · rw [h2.2.1, h2.2.2]
          exact q2 h2.1
        · rw [h2.2.1, h2.2.2, (s2 h2.1).1, Int.add_zero]
        · rw [h2.2.1, h2.2.2, (s2 h2.1).2, Int.add_zero]
        · rw [h2.2.1, h2.2.2]
          exact i2 h2.1
      · rw [if_neg h2]
        have j2 : j < R 17 b' := by
          by_cases h3 : lk = true ∧ b' = tg
          · rw [if_pos h3] at j1
            have : j ≠ R 17 tg := fun y => h2 ⟨h3.1, h3.2, y⟩
            rw [h3.2]
            omega
          · rw [if_neg h3] at j1
            exact j1
        have ho := old b' j b0 b1 j0 j2
        refine ⟨⟨b0, b1, j0, j2⟩, rfl, ?_, ?_, ?_, ?_⟩
        · rw [q3 b' _ b0 b1 h1 (fun y => h2 ⟨y.1, y.2.1, by have := ht y.1; omega⟩)]
          exact (FF.1 b' j b0 b1 j0 j2).1
        · exact s3 14 b' j (by omega) (by omega) b0 b1 j0 j2 h1
        · exact s3 15 b' j (by omega) (by omega) b0 b1 j0 j2 h1
        · dsimp only
          rw [i1 _ ho.1 (fun y => by have := ho.2 y; rcases this with z | z; · omega
                                     · exact z), s3 16 b' j (by omega) (by omega) b0 b1 j0 j2 h1]
          exact (FF.1 b' j b0 b1 j0 j2).2.2.2.2.2.2.1
  · unfold mvS at ee
    by_cases h1 : b1 = b
    · by_cases h2 : b2 = b
      · rw [if_pos h1, if_pos h2] at ee
        have := congrArg Prod.snd ee
        dsimp only at this
        omega
      · rw [if_pos h1, if_neg h2] at ee
        by_cases h3 : lk = true ∧ b2 = tg ∧ j2 = R 17 tg
        · rw [if_pos h3] at ee
          have := congrArg Prod.snd ee
          dsimp only at this
          omega
        · rw [if_neg h3] at ee
          have := congrArg Prod.fst ee
          dsimp only at this
          omega
    · by_cases h2 : b2 = b
      · rw [if_neg h1, if_pos h2] at ee
        by_cases h3 : lk = true ∧ b1 = tg ∧ j1 = R 17 tg
        · rw [if_pos h3] at ee
          have := congrArg Prod.snd ee
          dsimp only at this
          omega
        · rw [if_neg h3] at ee
          have := congrArg Prod.fst ee
          dsimp only at this
          omega
      · rw [if_neg h1, if_neg h2] at ee
        by_cases h3 : lk = true ∧ b1 = tg ∧ j1 = R 17 tg
        · by_cases h4 : lk = true ∧ b2 = tg ∧ j2 = R 17 tg
          · omega
          · rw [if_pos h3, if_neg h4] at ee
            have := congrArg Prod.fst ee
            dsimp only at this
            omega
        · by_cases h4 : lk = true ∧ b2 = tg ∧ j2 = R 17 tg
          · rw [if_neg h3, if_pos h4] at ee
            have := congrArg Prod.fst ee
            dsimp only at this
            omega
          · rw [if_neg h3, if_neg h4] at ee
            have e1 := congrArg Prod.fst ee
            have e2 := congrArg Prod.snd ee
            exact ⟨e1, e2⟩
def dM (h : ev_hs) (R : RS) (h' : ev_hs) (T : RS) : Prop := (xC h' : Int) ≤ xC h + (T 0 39 - R 0 39) ∧ (xS h' : Int) ≤ xS h + 200 * (T 0 39 - R 0 39) ∧ phi T = phi R ∧ T 0 38 = R 0 38
theorem dM_r : dM h R h R := ⟨by omega, by omega, rfl, rfl⟩
theorem dM_t {h2 h3 : ev_hs} {T2 : RS} (a : dM h R h2 T) (b : dM h2 T h3 T2) : dM h R h3 T2 := ⟨by have := a.1; have := b.1; omega, by have := a.2.1; have := b.2.1; omega, b.2.2.1.trans a.2.2.1, b.2.2.2.trans a.2.2.2⟩
theorem nRem_v {b i : Int} {a : Nat} (ha : a < 14 ∨ 16 < a) : nRem R b a i = up3 R 17 b (R 17 b - 1) a i := by
  unfold nRem nSh sB
  rw [if_neg (by simp; omega)]
theorem mv1_v {i : Int} {a : Nat} (ha : a < 14 ∨ 16 < a) : nMv1 R n o c p a i = up3 (up3 (up3 R 17 (15 * n + 3 * p + c) (R 17 (15 * n + 3 * p + c) - 1)) 19 (15 * n + 3 * o + c) p) 18 (15 * n + 3 * o + c) (if R 15 (4 * (15 * n + 3 * p + c)) = nSz R (R 14 (4 * (15 * n + 3 * p + c))) - 1 then -1 else p) a i := by
  unfold nMv1
  rw [up3_eq, up3_eq, up3_eq, up3_eq, nRem_v ha]
theorem mv1_s {j : Int} {a : Nat} (ha : 14 ≤ a ∧ a ≤ 16) : nMv1 R n o c p a j = if 4 * (15 * n + 3 * p + c) ≤ j ∧ j < 4 * (15 * n + 3 * p + c) + (R 17 (15 * n + 3 * p + c) - 1) then R a (j + 1) else R a j := by
  unfold nMv1
  rw [u3n (by omega), u3n (by omega), rem_s (by omega)]
end Cls16
