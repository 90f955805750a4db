section Rules2
variable {α : Type} {E : ev_E} {M : ev_M} {d : Nat} {cv : α → Option Value × ev_hs} {pc : Nat} {lo : List (Option Value)} {st : List Value} {h : ev_hs} {o : Option α}
def ev_al (lo : List (Option Value)) : List (Nat × Value) := lo.zipIdx.filterMap (fun q => q.1.map (fun v => (q.2, v)))
theorem ev_al_mem {lo : List (Option Value)} {j : Nat} {w : Value} : (j, w) ∈ ev_al lo ↔ lo[j]? = some (some w) := by
  unfold ev_al
  rw [List.mem_filterMap]
  constructor
  · rintro ⟨⟨x, i⟩, hm, he⟩
    rw [List.mem_zipIdx_iff_getElem?] at hm
    cases x with
    | none => simp at he
    | some v =>
      simp at he
      obtain ⟨rfl, rfl⟩ := he
      exact hm
  · intro hj
    exact ⟨(some w, j), List.mem_zipIdx_iff_getElem?.mpr hj, rfl⟩
theorem ev_L.has {ls : Array Slot} {nL : Nat} (hh : ev_L ls nL lo) : lv_has ls nL (ev_al lo) := ⟨hh.1, hh.2.1, fun q hq => (hh.2.2 q.1 q.2 (ev_al_mem.mp hq)).1⟩
theorem ev_L.of {ls ls' : Array Slot} {nL i : Nat} {v : Value} (hh : ev_L ls nL lo) (h' : lv_has ls' nL ((i, v) :: (ev_al lo).filter (fun q => !(q.1 == i) && !(q.1 + 1 == i && q.2.category == 2)))) (hc : v.category = 1) : ev_L ls' nL (lo.set i (some v)) := by
  refine ⟨h'.1, h'.2.1, fun j w hj => ?_⟩
  by_cases hji : j = i
  · subst hji
    rw [List.getElem?_set] at hj
    simp at hj
    obtain ⟨_, rfl⟩ := hj
    exact ⟨h'.2.2 (j, v) List.mem_cons_self, hc⟩
  · rw [List.getElem?_set_ne (Ne.symm hji)] at hj
    have hw := hh.2.2 j w hj
    exact ⟨h'.2.2 (j, w) (List.mem_cons_of_mem _ (List.mem_filter.mpr ⟨ev_al_mem.mpr hj, by simp [hji, hw.2]⟩)), hw.2⟩
theorem ev_iconst (n : Nat) {z : Int} (hd : decode (mB M) pc = .ok (.iconst z, 1)) (hn : n = pc + 1) (k : EvO E M d cv n lo (eI z :: st) h o) : EvO E M d cv pc lo st h o := by
  subst hn
  exact ev_lift (fun hS _ w => lv_iconst hS.1 hS.2.1 hd rfl w) k
theorem ev_bipush (n : Nat) {z : Int} (hd : decode (mB M) pc = .ok (.bipush z, 2)) (hz : (Int8.ofInt z).toInt32 = Int32.ofInt z) (hn : n = pc + 2) (k : EvO E M d cv n lo (eI z :: st) h o) : EvO E M d cv pc lo st h o := by
  subst hn
  exact ev_lift (fun hS _ w => lv_bipush hS.1 hS.2.1 hd hz w) k
theorem ev_sipush (n : Nat) {z : Int} (hd : decode (mB M) pc = .ok (.sipush z, 3)) (hz : (Int16.ofInt z).toInt32 = Int32.ofInt z) (hn : n = pc + 3) (k : EvO E M d cv n lo (eI z :: st) h o) : EvO E M d cv pc lo st h o := by
  subst hn
  exact ev_lift (fun hS _ w => lv_sipush hS.1 hS.2.1 hd hz w) k
theorem ev_ldc (n : Nat) {z : Int} {ix : Nat} (hd : decode (mB M) pc = .ok (.ldc ix, 2)) (hw : Cond.constant (mY M).cls ix (Int32.ofInt z) ∈ evW) (hn : n = pc + 2) (k : EvO E M d cv n lo (eI z :: st) h o) : EvO E M d cv pc lo st h o := by
  subst hn
  exact ev_lift (fun hS _ w => lv_ldc hS.1 hS.2.1 hS.2.2.2.1 (hS.2.2.2.2.2.1 _ hw) hd w) k
theorem ev_ldcw (n : Nat) {z : Int} {ix : Nat} (hd : decode (mB M) pc = .ok (.ldc_w ix, 3)) (hw : Cond.constant (mY M).cls ix (Int32.ofInt z) ∈ evW) (hn : n = pc + 3) (k : EvO E M d cv n lo (eI z :: st) h o) : EvO E M d cv pc lo st h o := by
  subst hn
  exact ev_lift (fun hS _ w => lv_ldcw hS.1 hS.2.1 hS.2.2.2.1 (hS.2.2.2.2.2.1 _ hw) hd w) k
theorem ev_null (n : Nat) (hd : decode (mB M) pc = .ok (.aconst_null, 1)) (hn : n = pc + 1) (k : EvO E M d cv n lo (va_rf none :: st) h o) : EvO E M d cv pc lo st h o := by
  subst hn
  exact ev_lift (fun hS _ w => lv_null hS.1 hS.2.1 hd w) k
theorem ev_iadd (n : Nat) {a b : Int} (hd : decode (mB M) pc = .ok (.iadd, 1)) (hn : n = pc + 1) (k : EvO E M d cv n lo (eI (a + b) :: st) h o) : EvO E M d cv pc lo (eI b :: eI a :: st) h o := by
  subst hn
  exact ev_lift (fun hS _ w => lv_iadd hS.1 hS.2.1 hd (by rw [eI_add]; exact w)) k
theorem ev_isub (n : Nat) {a b : Int} (hd : decode (mB M) pc = .ok (.isub, 1)) (hn : n = pc + 1) (k : EvO E M d cv n lo (eI (a - b) :: st) h o) : EvO E M d cv pc lo (eI b :: eI a :: st) h o := by
  subst hn
  exact ev_lift (fun hS _ w => lv_isub hS.1 hS.2.1 hd (by rw [eI_sub]; exact w)) k
theorem ev_imul (n : Nat) {a b : Int} (hd : decode (mB M) pc = .ok (.imul, 1)) (hn : n = pc + 1) (k : EvO E M d cv n lo (eI (a * b) :: st) h o) : EvO E M d cv pc lo (eI b :: eI a :: st) h o := by
  subst hn
  exact ev_lift (fun hS _ w => lv_imul hS.1 hS.2.1 hd (by rw [eI_mul]; exact w)) k
theorem ev_ineg (n : Nat) {a : Int} (hd : decode (mB M) pc = .ok (.ineg, 1)) (hn : n = pc + 1) (k : EvO E M d cv n lo (eI (-a) :: st) h o) : EvO E M d cv pc lo (eI a :: st) h o := by
  subst hn
  exact ev_lift (fun hS _ w => lv_ineg hS.1 hS.2.1 hd (by rw [eI_neg]; exact w)) k
theorem ev_iand (n : Nat) {a b : Int} (hd : decode (mB M) pc = .ok (.iand, 1)) (hn : n = pc + 1) (k : EvO E M d cv n lo (eI (eAnd a b) :: st) h o) : EvO E M d cv pc lo (eI b :: eI a :: st) h o := by
  subst hn
  exact ev_lift (fun hS _ w => lv_iand hS.1 hS.2.1 hd (by simp only [eAnd, eI, eI_toI] at w; exact w)) k
theorem ev_ior (n : Nat) {a b : Int} (hd : decode (mB M) pc = .ok (.ior, 1)) (hn : n = pc + 1) (k : EvO E M d cv n lo (eI (eOr a b) :: st) h o) : EvO E M d cv pc lo (eI b :: eI a :: st) h o := by
  subst hn
  exact ev_lift (fun hS _ w => lv_ior hS.1 hS.2.1 hd (by simp only [eOr, eI, eI_toI] at w; exact w)) k
theorem ev_ixor (n : Nat) {a b : Int} (hd : decode (mB M) pc = .ok (.ixor, 1)) (hn : n = pc + 1) (k : EvO E M d cv n lo (eI (eXor a b) :: st) h o) : EvO E M d cv pc lo (eI b :: eI a :: st) h o := by
  subst hn
  exact ev_lift (fun hS _ w => lv_ixor hS.1 hS.2.1 hd (by simp only [eXor, eI, eI_toI] at w; exact w)) k
theorem ev_ishl (n : Nat) {a b : Int} (hd : decode (mB M) pc = .ok (.ishl, 1)) (hn : n = pc + 1) (k : EvO E M d cv n lo (eI (eShl a b) :: st) h o) : EvO E M d cv pc lo (eI b :: eI a :: st) h o := by
  subst hn
  exact ev_lift (fun hS _ w => lv_ishl hS.1 hS.2.1 hd (by simp only [eShl, eI, eI_toI] at w; exact w)) k
theorem ev_ishr (n : Nat) {a b : Int} (hd : decode (mB M) pc = .ok (.ishr, 1)) (hn : n = pc + 1) (k : EvO E M d cv n lo (eI (eShr a b) :: st) h o) : EvO E M d cv pc lo (eI b :: eI a :: st) h o := by
  subst hn
  exact ev_lift (fun hS _ w => lv_ishr hS.1 hS.2.1 hd (by simp only [eShr, eI, eI_toI] at w; exact w)) k
theorem ev_iushr (n : Nat) {a b : Int} (hd : decode (mB M) pc = .ok (.iushr, 1)) (hn : n = pc + 1) (k : EvO E M d cv n lo (eI (eUshr a b) :: st) h o) : EvO E M d cv pc lo (eI b :: eI a :: st) h o := by
  subst hn
  exact ev_lift (fun hS _ w => lv_iushr hS.1 hS.2.1 hd (eI_toI _).symm w) k
theorem ev_idiv (n : Nat) {a b : Int} {K : Int → Option α} (hd : decode (mB M) pc = .ok (.idiv, 1)) (hn : n = pc + 1) (k : ∀ z, EvO E M d cv n lo (eI z :: st) h (K z)) : EvO E M d cv pc lo (eI b :: eI a :: st) h (eDiv a b K) := by
  subst hn
  unfold eDiv
  split
  · rename_i hc
    obtain ⟨h0, h1, h2, h3⟩ := hc
    have hne : ¬ Int32.ofInt b = 0 := fun q => by
      have := eI_inj (a := b) (b := 0) (eOk_iff.mpr (by omega)) (by decide) q
      omega
    exact ev_lift (fun hS _ w => lv_idiv hS.1 hS.2.1 hd hne (by rw [eI_div h0 h1 h2 h3]; exact w)) (k _)
  · exact ev_no
theorem ev_irem (n : Nat) {a b : Int} {K : Int → Option α} (hd : decode (mB M) pc = .ok (.irem, 1)) (hn : n = pc + 1) (k : ∀ z, EvO E M d cv n lo (eI z :: st) h (K z)) : EvO E M d cv pc lo (eI b :: eI a :: st) h (eRem a b K) := by
  subst hn
  unfold eRem
  split
  · rename_i hc
    obtain ⟨h0, h1, h2, h3⟩ := hc
    have hne : ¬ Int32.ofInt b = 0 := fun q => by
      have := eI_inj (a := b) (b := 0) (eOk_iff.mpr (by omega)) (by decide) q
      omega
    exact ev_lift (fun hS _ w => lv_irem hS.1 hS.2.1 hd hne (by rw [eI_rem h0 h1 h2 h3]; exact w)) (k _)
  · exact ev_no
theorem ev_dup (n : Nat) {v : Value} (hd : decode (mB M) pc = .ok (.dup, 1)) (hv : v.category = 1) (hn : n = pc + 1) (k : EvO E M d cv n lo (v :: v :: st) h o) : EvO E M d cv pc lo (v :: st) h o := by
  subst hn
  exact ev_lift (fun hS _ w => lv_dup hS.1 hS.2.1 hd hv w) k
theorem ev_pop (n : Nat) {v : Value} (hd : decode (mB M) pc = .ok (.pop, 1)) (hv : v.category = 1) (hn : n = pc + 1) (k : EvO E M d cv n lo st h o) : EvO E M d cv pc lo (v :: st) h o := by
  subst hn
  exact ev_lift (fun hS _ w => lv_pop hS.1 hS.2.1 hd hv w) k
theorem ev_dup_x1 (n : Nat) {v u : Value} (hd : decode (mB M) pc = .ok (.dup_x1, 1)) (hv : v.category = 1) (hu : u.category = 1) (hn : n = pc + 1) (k : EvO E M d cv n lo (v :: u :: v :: st) h o) : EvO E M d cv pc lo (v :: u :: st) h o := by
  subst hn
  exact ev_lift (fun hS _ w => lv_dup_x1 hS.1 hS.2.1 hd hv hu w) k
theorem ev_dup_x2 (n : Nat) {v u t : Value} (hd : decode (mB M) pc = .ok (.dup_x2, 1)) (hv : v.category = 1) (hu : u.category = 1) (ht : t.category = 1) (hn : n = pc + 1) (k : EvO E M d cv n lo (v :: u :: t :: v :: st) h o) : EvO E M d cv pc lo (v :: u :: t :: st) h o := by
  subst hn
  exact ev_lift (fun hS _ w => lv_dup_x2 hS.1 hS.2.1 hd hv hu ht w) k
theorem ev_dup2 (n : Nat) {v u : Value} (hd : decode (mB M) pc = .ok (.dup2, 1)) (hv : v.category = 1) (hu : u.category = 1) (hn : n = pc + 1) (k : EvO E M d cv n lo (v :: u :: v :: u :: st) h o) : EvO E M d cv pc lo (v :: u :: st) h o := by
  subst hn
  exact ev_lift (fun hS _ w => lv_dup2_11 hS.1 hS.2.1 hd hv hu w) k
theorem ev_goto (t : Nat) {off : Int} (hd : decode (mB M) pc = .ok (.goto off, 3)) (ht : (pc : Int) + off = (t : Int)) (k : EvO E M d cv t lo st h o) : EvO E M d cv pc lo st h o :=
  ev_lift (fun hS _ w => lv_goto hS.1 hS.2.1 hd ht w) k
theorem ev_iload0 (n : Nat) {r : List (Option Value)} {z : Int} (hd : decode (mB M) pc = .ok (.iload_n (0 : Fin 4), 1)) (hn : n = pc + 1) (k : EvO E M d cv n (some (eI z) :: r) (eI z :: st) h o) : EvO E M d cv pc (some (eI z) :: r) st h o := by
  subst hn
  exact ev_lift (fun hS hL w => lv_iload_n hS.1 hS.2.1 hd rfl (hL.2.2 0 (eI z) rfl).1 w) k
theorem ev_aload0 (n : Nat) {r : List (Option Value)} {q : Option Nat} (hd : decode (mB M) pc = .ok (.aload_n (0 : Fin 4), 1)) (hn : n = pc + 1) (k : EvO E M d cv n (some (va_rf q) :: r) (va_rf q :: st) h o) : EvO E M d cv pc (some (va_rf q) :: r) st h o := by
  subst hn
  refine ev_lift (fun hS hL w => ?_) k
  have hl := (hL.2.2 0 (va_rf q) rfl).1
  cases q with
  | none => exact lv_aload_nN hS.1 hS.2.1 hd rfl hl w
  | some a => exact lv_aload_n hS.1 hS.2.1 hd rfl hl w
theorem ev_istore0 (n : Nat) {a0 : Option Value} {r : List (Option Value)} {z : Int} (hd : decode (mB M) pc = .ok (.istore_n (0 : Fin 4), 1)) (hi : 0 < mL M) (hn : n = pc + 1) (k : EvO E M d cv n (some (eI z) :: r) st h o) : EvO E M d cv pc (a0 :: r) (eI z :: st) h o := by
  subst hn
  exact ev_liftL (fun hS hL w => lv_istore_n hS.1 hS.2.1 hd rfl hL.has hi rfl (fun ls' h' => w ls' (hL.of h' rfl))) k
theorem ev_astore0 (n : Nat) {a0 : Option Value} {r : List (Option Value)} {q : Option Nat} (hd : decode (mB M) pc = .ok (.astore_n (0 : Fin 4), 1)) (hi : 0 < mL M) (hn : n = pc + 1) (k : EvO E M d cv n (some (va_rf q) :: r) st h o) : EvO E M d cv pc (a0 :: r) (va_rf q :: st) h o := by
  subst hn
  cases q with
  | none => exact ev_liftL (fun hS hL w => lv_astore_nN hS.1 hS.2.1 hd rfl hL.has hi rfl (fun ls' h' => w ls' (hL.of h' rfl))) k
  | some a => exact ev_liftL (fun hS hL w => lv_astore_n hS.1 hS.2.1 hd rfl hL.has hi rfl (fun ls' h' => w ls' (hL.of h' rfl))) k
theorem ev_iinc0 (n : Nat) {r : List (Option Value)} {z y : Int} (hd : decode (mB M) pc = .ok (.iinc 0 y, 3)) (hi : 0 < mL M) (hn : n = pc + 3) (k : EvO E M d cv n (some (eI (z + y)) :: r) st h o) : EvO E M d cv pc (some (eI z) :: r) st h o := by
  subst hn
  refine ev_liftL (fun hS hL w => ?_) k
  obtain ⟨k9, hk9⟩ := List.getElem?_of_mem (ev_al_mem.mpr (show (some (eI z) :: r)[0]? = some (some (eI z)) from rfl))
  exact lv_iinc hS.1 hS.2.1 hd hL.has hk9 (eI_add z y) hi rfl (fun ls' h' => w ls' (hL.of h' rfl))
theorem ev_iload1 (n : Nat) {a0 : Option Value} {r : List (Option Value)} {z : Int} (hd : decode (mB M) pc = .ok (.iload_n (1 : Fin 4), 1)) (hn : n = pc + 1) (k : EvO E M d cv n (a0 :: some (eI z) :: r) (eI z :: st) h o) : EvO E M d cv pc (a0 :: some (eI z) :: r) st h o := by
  subst hn
  exact ev_lift (fun hS hL w => lv_iload_n hS.1 hS.2.1 hd rfl (hL.2.2 1 (eI z) rfl).1 w) k
theorem ev_aload1 (n : Nat) {a0 : Option Value} {r : List (Option Value)} {q : Option Nat} (hd : decode (mB M) pc = .ok (.aload_n (1 : Fin 4), 1)) (hn : n = pc + 1) (k : EvO E M d cv n (a0 :: some (va_rf q) :: r) (va_rf q :: st) h o) : EvO E M d cv pc (a0 :: some (va_rf q) :: r) st h o := by
  subst hn
  refine ev_lift (fun hS hL w => ?_) k
  have hl := (hL.2.2 1 (va_rf q) rfl).1
  cases q with
  | none => exact lv_aload_nN hS.1 hS.2.1 hd rfl hl w
  | some a => exact lv_aload_n hS.1 hS.2.1 hd rfl hl w
theorem ev_istore1 (n : Nat) {a0 : Option Value} {a1 : Option Value} {r : List (Option Value)} {z : Int} (hd : decode (mB M) pc = .ok (.istore_n (1 : Fin 4), 1)) (hi : 1 < mL M) (hn : n = pc + 1) (k : EvO E M d cv n (a0 :: some (eI z) :: r) st h o) : EvO E M d cv pc (a0 :: a1 :: r) (eI z :: st) h o := by
  subst hn
  exact ev_liftL (fun hS hL w => lv_istore_n hS.1 hS.2.1 hd rfl hL.has hi rfl (fun ls' h' => w ls' (hL.of h' rfl))) k
theorem ev_astore1 (n : Nat) {a0 : Option Value} {a1 : Option Value} {r : List (Option Value)} {q : Option Nat} (hd : decode (mB M) pc = .ok (.astore_n (1 : Fin 4), 1)) (hi : 1 < mL M) (hn : n = pc + 1) (k : EvO E M d cv n (a0 :: some (va_rf q) :: r) st h o) : EvO E M d cv pc (a0 :: a1 :: r) (va_rf q :: st) h o := by
  subst hn
  cases q with
  | none => exact ev_liftL (fun hS hL w => lv_astore_nN hS.1 hS.2.1 hd rfl hL.has hi rfl (fun ls' h' => w ls' (hL.of h' rfl))) k
  | some a => exact ev_liftL (fun hS hL w => lv_astore_n hS.1 hS.2.1 hd rfl hL.has hi rfl (fun ls' h' => w ls' (hL.of h' rfl))) k
theorem ev_iinc1 (n : Nat) {a0 : Option Value} {r : List (Option Value)} {z y : Int} (hd : decode (mB M) pc = .ok (.iinc 1 y, 3)) (hi : 1 < mL M) (hn : n = pc + 3) (k : EvO E M d cv n (a0 :: some (eI (z + y)) :: r) st h o) : EvO E M d cv pc (a0 :: some (eI z) :: r) st h o := by
  subst hn
  refine ev_liftL (fun hS hL w => ?_) k
  obtain ⟨k9, hk9⟩ := List.getElem?_of_mem (ev_al_mem.mpr (show (a0 :: some (eI z) :: r)[1]? = some (some (eI z)) from rfl))
  exact lv_iinc hS.1 hS.2.1 hd hL.has hk9 (eI_add z y) hi rfl (fun ls' h' => w ls' (hL.of h' rfl))
theorem ev_iload2 (n : Nat) {a0 a1 : Option Value} {r : List (Option Value)} {z : Int} (hd : decode (mB M) pc = .ok (.iload_n (2 : Fin 4), 1)) (hn : n = pc + 1) (k : EvO E M d cv n (a0 :: a1 :: some (eI z) :: r) (eI z :: st) h o) : EvO E M d cv pc (a0 :: a1 :: some (eI z) :: r) st h o := by
  subst hn
  exact ev_lift (fun hS hL w => lv_iload_n hS.1 hS.2.1 hd rfl (hL.2.2 2 (eI z) rfl).1 w) k
theorem ev_aload2 (n : Nat) {a0 a1 : Option Value} {r : List (Option Value)} {q : Option Nat} (hd : decode (mB M) pc = .ok (.aload_n (2 : Fin 4), 1)) (hn : n = pc + 1) (k : EvO E M d cv n (a0 :: a1 :: some (va_rf q) :: r) (va_rf q :: st) h o) : EvO E M d cv pc (a0 :: a1 :: some (va_rf q) :: r) st h o := by
  subst hn
  refine ev_lift (fun hS hL w => ?_) k
  have hl := (hL.2.2 2 (va_rf q) rfl).1
  cases q with
  | none => exact lv_aload_nN hS.1 hS.2.1 hd rfl hl w
  | some a => exact lv_aload_n hS.1 hS.2.1 hd rfl hl w
theorem ev_istore2 (n : Nat) {a0 a1 : Option Value} {a2 : Option Value} {r : List (Option Value)} {z : Int} (hd : decode (mB M) pc = .ok (.istore_n (2 : Fin 4), 1)) (hi : 2 < mL M) (hn : n = pc + 1) (k : EvO E M d cv n (a0 :: a1 :: some (eI z) :: r) st h o) : EvO E M d cv pc (a0 :: a1 :: a2 :: r) (eI z :: st) h o := by
  subst hn
  exact ev_liftL (fun hS hL w => lv_istore_n hS.1 hS.2.1 hd rfl hL.has hi rfl (fun ls' h' => w ls' (hL.of h' rfl))) k
theorem ev_astore2 (n : Nat) {a0 a1 : Option Value} {a2 : Option Value} {r : List (Option Value)} {q : Option Nat} (hd : decode (mB M) pc = .ok (.astore_n (2 : Fin 4), 1)) (hi : 2 < mL M) (hn : n = pc + 1) (k : EvO E M d cv n (a0 :: a1 :: some (va_rf q) :: r) st h o) : EvO E M d cv pc (a0 :: a1 :: a2 :: r) (va_rf q :: st) h o := by
  subst hn
  cases q with
  | none => exact ev_liftL (fun hS hL w => lv_astore_nN hS.1 hS.2.1 hd rfl hL.has hi rfl (fun ls' h' => w ls' (hL.of h' rfl))) k
  | some a => exact ev_liftL (fun hS hL w => lv_astore_n hS.1 hS.2.1 hd rfl hL.has hi rfl (fun ls' h' => w ls' (hL.of h' rfl))) k
theorem ev_iinc2 (n : Nat) {a0 a1 : Option Value} {r : List (Option Value)} {z y : Int} (hd : decode (mB M) pc = .ok (.iinc 2 y, 3)) (hi : 2 < mL M) (hn : n = pc + 3) (k : EvO E M d cv n (a0 :: a1 :: some (eI (z + y)) :: r) st h o) : EvO E M d cv pc (a0 :: a1 :: some (eI z) :: r) st h o := by
  subst hn
  refine ev_liftL (fun hS hL w => ?_) k
  obtain ⟨k9, hk9⟩ := List.getElem?_of_mem (ev_al_mem.mpr (show (a0 :: a1 :: some (eI z) :: r)[2]? = some (some (eI z)) from rfl))
  exact lv_iinc hS.1 hS.2.1 hd hL.has hk9 (eI_add z y) hi rfl (fun ls' h' => w ls' (hL.of h' rfl))
theorem ev_iload3 (n : Nat) {a0 a1 a2 : Option Value} {r : List (Option Value)} {z : Int} (hd : decode (mB M) pc = .ok (.iload_n (3 : Fin 4), 1)) (hn : n = pc + 1) (k : EvO E M d cv n (a0 :: a1 :: a2 :: some (eI z) :: r) (eI z :: st) h o) : EvO E M d cv pc (a0 :: a1 :: a2 :: some (eI z) :: r) st h o := by
  subst hn
  exact ev_lift (fun hS hL w => lv_iload_n hS.1 hS.2.1 hd rfl (hL.2.2 3 (eI z) rfl).1 w) k
theorem ev_aload3 (n : Nat) {a0 a1 a2 : Option Value} {r : List (Option Value)} {q : Option Nat} (hd : decode (mB M) pc = .ok (.aload_n (3 : Fin 4), 1)) (hn : n = pc + 1) (k : EvO E M d cv n (a0 :: a1 :: a2 :: some (va_rf q) :: r) (va_rf q :: st) h o) : EvO E M d cv pc (a0 :: a1 :: a2 :: some (va_rf q) :: r) st h o := by
  subst hn
  refine ev_lift (fun hS hL w => ?_) k
  have hl := (hL.2.2 3 (va_rf q) rfl).1
  cases q with
  | none => exact lv_aload_nN hS.1 hS.2.1 hd rfl hl w
  | some a => exact lv_aload_n hS.1 hS.2.1 hd rfl hl w
theorem ev_istore3 (n : Nat) {a0 a1 a2 : Option Value} {a3 : Option Value} {r : List (Option Value)} {z : Int} (hd : decode (mB M) pc = .ok (.istore_n (3 : Fin 4), 1)) (hi : 3 < mL M) (hn : n = pc + 1) (k : EvO E M d cv n (a0 :: a1 :: a2 :: some (eI z) :: r) st h o) : EvO E M d cv pc (a0 :: a1 :: a2 :: a3 :: r) (eI z :: st) h o := by
  subst hn
  exact ev_liftL (fun hS hL w => lv_istore_n hS.1 hS.2.1 hd rfl hL.has hi rfl (fun ls' h' => w ls' (hL.of h' rfl))) k
theorem ev_astore3 (n : Nat) {a0 a1 a2 : Option Value} {a3 : Option Value} {r : List (Option Value)} {q : Option Nat} (hd : decode (mB M) pc = .ok (.astore_n (3 : Fin 4), 1)) (hi : 3 < mL M) (hn : n = pc + 1) (k : EvO E M d cv n (a0 :: a1 :: a2 :: some (va_rf q) :: r) st h o) : EvO E M d cv pc (a0 :: a1 :: a2 :: a3 :: r) (va_rf q :: st) h o := by
  subst hn
  cases q with
  | none => exact ev_liftL (fun hS hL w => lv_astore_nN hS.1 hS.2.1 hd rfl hL.has hi rfl (fun ls' h' => w ls' (hL.of h' rfl))) k
  | some a => exact ev_liftL (fun hS hL w => lv_astore_n hS.1 hS.2.1 hd rfl hL.has hi rfl (fun ls' h' => w ls' (hL.of h' rfl))) k
theorem ev_iinc3 (n : Nat) {a0 a1 a2 : Option Value} {r : List (Option Value)} {z y : Int} (hd : decode (mB M) pc = .ok (.iinc 3 y, 3)) (hi : 3 < mL M) (hn : n = pc + 3) (k : EvO E M d cv n (a0 :: a1 :: a2 :: some (eI (z + y)) :: r) st h o) : EvO E M d cv pc (a0 :: a1 :: a2 :: some (eI z) :: r) st h o := by
  subst hn
  refine ev_liftL (fun hS hL w => ?_) k
  obtain ⟨k9, hk9⟩ := List.getElem?_of_mem (ev_al_mem.mpr (show (a0 :: a1 :: a2 :: some (eI z) :: r)[3]? = some (some (eI z)) from rfl))
  exact lv_iinc hS.1 hS.2.1 hd hL.has hk9 (eI_add z y) hi rfl (fun ls' h' => w ls' (hL.of h' rfl))
theorem ev_iload4 (n : Nat) {a0 a1 a2 a3 : Option Value} {r : List (Option Value)} {z : Int} (hd : decode (mB M) pc = .ok (.iload 4, 2)) (hn : n = pc + 2) (k : EvO E M d cv n (a0 :: a1 :: a2 :: a3 :: some (eI z) :: r) (eI z :: st) h o) : EvO E M d cv pc (a0 :: a1 :: a2 :: a3 :: some (eI z) :: r) st h o := by
  subst hn
  exact ev_lift (fun hS hL w => lv_iload hS.1 hS.2.1 hd (hL.2.2 4 (eI z) rfl).1 w) k
theorem ev_aload4 (n : Nat) {a0 a1 a2 a3 : Option Value} {r : List (Option Value)} {q : Option Nat} (hd : decode (mB M) pc = .ok (.aload 4, 2)) (hn : n = pc + 2) (k : EvO E M d cv n (a0 :: a1 :: a2 :: a3 :: some (va_rf q) :: r) (va_rf q :: st) h o) : EvO E M d cv pc (a0 :: a1 :: a2 :: a3 :: some (va_rf q) :: r) st h o := by
  subst hn
  refine ev_lift (fun hS hL w => ?_) k
  have hl := (hL.2.2 4 (va_rf q) rfl).1
  cases q with
  | none => exact lv_aloadN hS.1 hS.2.1 hd hl w
  | some a => exact lv_aload hS.1 hS.2.1 hd hl w
theorem ev_istore4 (n : Nat) {a0 a1 a2 a3 : Option Value} {a4 : Option Value} {r : List (Option Value)} {z : Int} (hd : decode (mB M) pc = .ok (.istore 4, 2)) (hi : 4 < mL M) (hn : n = pc + 2) (k : EvO E M d cv n (a0 :: a1 :: a2 :: a3 :: some (eI z) :: r) st h o) : EvO E M d cv pc (a0 :: a1 :: a2 :: a3 :: a4 :: r) (eI z :: st) h o := by
  subst hn
  exact ev_liftL (fun hS hL w => lv_istore hS.1 hS.2.1 hd hL.has hi rfl (fun ls' h' => w ls' (hL.of h' rfl))) k
theorem ev_astore4 (n : Nat) {a0 a1 a2 a3 : Option Value} {a4 : Option Value} {r : List (Option Value)} {q : Option Nat} (hd : decode (mB M) pc = .ok (.astore 4, 2)) (hi : 4 < mL M) (hn : n = pc + 2) (k : EvO E M d cv n (a0 :: a1 :: a2 :: a3 :: some (va_rf q) :: r) st h o) : EvO E M d cv pc (a0 :: a1 :: a2 :: a3 :: a4 :: r) (va_rf q :: st) h o := by
  subst hn
  cases q with
  | none => exact ev_liftL (fun hS hL w => lv_astoreN hS.1 hS.2.1 hd hL.has hi rfl (fun ls' h' => w ls' (hL.of h' rfl))) k
  | some a => exact ev_liftL (fun hS hL w => lv_astore hS.1 hS.2.1 hd hL.has hi rfl (fun ls' h' => w ls' (hL.of h' rfl))) k
theorem ev_iinc4 (n : Nat) {a0 a1 a2 a3 : Option Value} {r : List (Option Value)} {z y : Int} (hd : decode (mB M) pc = .ok (.iinc 4 y, 3)) (hi : 4 < mL M) (hn : n = pc + 3) (k : EvO E M d cv n (a0 :: a1 :: a2 :: a3 :: some (eI (z + y)) :: r) st h o) : EvO E M d cv pc (a0 :: a1 :: a2 :: a3 :: some (eI z) :: r) st h o := by
  subst hn
  refine ev_liftL (fun hS hL w => ?_) k
  obtain ⟨k9, hk9⟩ := List.getElem?_of_mem (ev_al_mem.mpr (show (a0 :: a1 :: a2 :: a3 :: some (eI z) :: r)[4]? = some (some (eI z)) from rfl))
  exact lv_iinc hS.1 hS.2.1 hd hL.has hk9 (eI_add z y) hi rfl (fun ls' h' => w ls' (hL.of h' rfl))
theorem ev_iload5 (n : Nat) {a0 a1 a2 a3 a4 : Option Value} {r : List (Option Value)} {z : Int} (hd : decode (mB M) pc = .ok (.iload 5, 2)) (hn : n = pc + 2) (k : EvO E M d cv n (a0 :: a1 :: a2 :: a3 :: a4 :: some (eI z) :: r) (eI z :: st) h o) : EvO E M d cv pc (a0 :: a1 :: a2 :: a3 :: a4 :: some (eI z) :: r) st h o := by
  subst hn
  exact ev_lift (fun hS hL w => lv_iload hS.1 hS.2.1 hd (hL.2.2 5 (eI z) rfl).1 w) k
theorem ev_aload5 (n : Nat) {a0 a1 a2 a3 a4 : Option Value} {r : List (Option Value)} {q : Option Nat} (hd : decode (mB M) pc = .ok (.aload 5, 2)) (hn : n = pc + 2) (k : EvO E M d cv n (a0 :: a1 :: a2 :: a3 :: a4 :: some (va_rf q) :: r) (va_rf q :: st) h o) : EvO E M d cv pc (a0 :: a1 :: a2 :: a3 :: a4 :: some (va_rf q) :: r) st h o := by
  subst hn
  refine ev_lift (fun hS hL w => ?_) k
  have hl := (hL.2.2 5 (va_rf q) rfl).1
  cases q with
  | none => exact lv_aloadN hS.1 hS.2.1 hd hl w
  | some a => exact lv_aload hS.1 hS.2.1 hd hl w
theorem ev_istore5 (n : Nat) {a0 a1 a2 a3 a4 : Option Value} {a5 : Option Value} {r : List (Option Value)} {z : Int} (hd : decode (mB M) pc = .ok (.istore 5, 2)) (hi : 5 < mL M) (hn : n = pc + 2) (k : EvO E M d cv n (a0 :: a1 :: a2 :: a3 :: a4 :: some (eI z) :: r) st h o) : EvO E M d cv pc (a0 :: a1 :: a2 :: a3 :: a4 :: a5 :: r) (eI z :: st) h o := by
  subst hn
  exact ev_liftL (fun hS hL w => lv_istore hS.1 hS.2.1 hd hL.has hi rfl (fun ls' h' => w ls' (hL.of h' rfl))) k
theorem ev_astore5 (n : Nat) {a0 a1 a2 a3 a4 : Option Value} {a5 : Option Value} {r : List (Option Value)} {q : Option Nat} (hd : decode (mB M) pc = .ok (.astore 5, 2)) (hi : 5 < mL M) (hn : n = pc + 2) (k : EvO E M d cv n (a0 :: a1 :: a2 :: a3 :: a4 :: some (va_rf q) :: r) st h o) : EvO E M d cv pc (a0 :: a1 :: a2 :: a3 :: a4 :: a5 :: r) (va_rf q :: st) h o := by
  subst hn
  cases q with
  | none => exact ev_liftL (fun hS hL w => lv_astoreN hS.1 hS.2.1 hd hL.has hi rfl (fun ls' h' => w ls' (hL.of h' rfl))) k
  | some a => exact ev_liftL (fun hS hL w => lv_astore hS.1 hS.2.1 hd hL.has hi rfl (fun ls' h' => w ls' (hL.of h' rfl))) k
theorem ev_iinc5 (n : Nat) {a0 a1 a2 a3 a4 : Option Value} {r : List (Option Value)} {z y : Int} (hd : decode (mB M) pc = .ok (.iinc 5 y, 3)) (hi : 5 < mL M) (hn : n = pc + 3) (k : EvO E M d cv n (a0 :: a1 :: a2 :: a3 :: a4 :: some (eI (z + y)) :: r) st h o) : EvO E M d cv pc (a0 :: a1 :: a2 :: a3 :: a4 :: some (eI z) :: r) st h o := by
  subst hn
  refine ev_liftL (fun hS hL w => ?_) k
  obtain ⟨k9, hk9⟩ := List.getElem?_of_mem (ev_al_mem.mpr (show (a0 :: a1 :: a2 :: a3 :: a4 :: some (eI z) :: r)[5]? = some (some (eI z)) from rfl))
  exact lv_iinc hS.1 hS.2.1 hd hL.has hk9 (eI_add z y) hi rfl (fun ls' h' => w ls' (hL.of h' rfl))
theorem ev_iload6 (n : Nat) {a0 a1 a2 a3 a4 a5 : Option Value} {r : List (Option Value)} {z : Int} (hd : decode (mB M) pc = .ok (.iload 6, 2)) (hn : n = pc + 2) (k : EvO E M d cv n (a0 :: a1 :: a2 :: a3 :: a4 :: a5 :: some (eI z) :: r) (eI z :: st) h o) : EvO E M d cv pc (a0 :: a1 :: a2 :: a3 :: a4 :: a5 :: some (eI z) :: r) st h o := by
  subst hn
  exact ev_lift (fun hS hL w => lv_iload hS.1 hS.2.1 hd (hL.2.2 6 (eI z) rfl).1 w) k
theorem ev_aload6 (n : Nat) {a0 a1 a2 a3 a4 a5 : Option Value} {r : List (Option Value)} {q : Option Nat} (hd : decode (mB M) pc = .ok (.aload 6, 2)) (hn : n = pc + 2) (k : EvO E M d cv n (a0 :: a1 :: a2 :: a3 :: a4 :: a5 :: some (va_rf q) :: r) (va_rf q :: st) h o) : EvO E M d cv pc (a0 :: a1 :: a2 :: a3 :: a4 :: a5 :: some (va_rf q) :: r) st h o := by
  subst hn
  refine ev_lift (fun hS hL w => ?_) k
  have hl := (hL.2.2 6 (va_rf q) rfl).1
  cases q with
  | none => exact lv_aloadN hS.1 hS.2.1 hd hl w
  | some a => exact lv_aload hS.1 hS.2.1 hd hl w
theorem ev_istore6 (n : Nat) {a0 a1 a2 a3 a4 a5 : Option Value} {a6 : Option Value} {r : List (Option Value)} {z : Int} (hd : decode (mB M) pc = .ok (.istore 6, 2)) (hi : 6 < mL M) (hn : n = pc + 2) (k : EvO E M d cv n (a0 :: a1 :: a2 :: a3 :: a4 :: a5 :: some (eI z) :: r) st h o) : EvO E M d cv pc (a0 :: a1 :: a2 :: a3 :: a4 :: a5 :: a6 :: r) (eI z :: st) h o := by
  subst hn
  exact ev_liftL (fun hS hL w => lv_istore hS.1 hS.2.1 hd hL.has hi rfl (fun ls' h' => w ls' (hL.of h' rfl))) k
theorem ev_astore6 (n : Nat) {a0 a1 a2 a3 a4 a5 : Option Value} {a6 : Option Value} {r : List (Option Value)} {q : Option Nat} (hd : decode (mB M) pc = .ok (.astore 6, 2)) (hi : 6 < mL M) (hn : n = pc + 2) (k : EvO E M d cv n (a0 :: a1 :: a2 :: a3 :: a4 :: a5 :: some (va_rf q) :: r) st h o) : EvO E M d cv pc (a0 :: a1 :: a2 :: a3 :: a4 :: a5 :: a6 :: r) (va_rf q :: st) h o := by
  subst hn
  cases q with
  | none => exact ev_liftL (fun hS hL w => lv_astoreN hS.1 hS.2.1 hd hL.has hi rfl (fun ls' h' => w ls' (hL.of h' rfl))) k
  | some a => exact ev_liftL (fun hS hL w => lv_astore hS.1 hS.2.1 hd hL.has hi rfl (fun ls' h' => w ls' (hL.of h' rfl))) k
theorem ev_iinc6 (n : Nat) {a0 a1 a2 a3 a4 a5 : Option Value} {r : List (Option Value)} {z y : Int} (hd : decode (mB M) pc = .ok (.iinc 6 y, 3)) (hi : 6 < mL M) (hn : n = pc + 3) (k : EvO E M d cv n (a0 :: a1 :: a2 :: a3 :: a4 :: a5 :: some (eI (z + y)) :: r) st h o) : EvO E M d cv pc (a0 :: a1 :: a2 :: a3 :: a4 :: a5 :: some (eI z) :: r) st h o := by
  subst hn
  refine ev_liftL (fun hS hL w => ?_) k
  obtain ⟨k9, hk9⟩ := List.getElem?_of_mem (ev_al_mem.mpr (show (a0 :: a1 :: a2 :: a3 :: a4 :: a5 :: some (eI z) :: r)[6]? = some (some (eI z)) from rfl))
  exact lv_iinc hS.1 hS.2.1 hd hL.has hk9 (eI_add z y) hi rfl (fun ls' h' => w ls' (hL.of h' rfl))
theorem ev_iload7 (n : Nat) {a0 a1 a2 a3 a4 a5 a6 : Option Value} {r : List (Option Value)} {z : Int} (hd : decode (mB M) pc = .ok (.iload 7, 2)) (hn : n = pc + 2) (k : EvO E M d cv n (a0 :: a1 :: a2 :: a3 :: a4 :: a5 :: a6 :: some (eI z) :: r) (eI z :: st) h o) : EvO E M d cv pc (a0 :: a1 :: a2 :: a3 :: a4 :: a5 :: a6 :: some (eI z) :: r) st h o := by
  subst hn
  exact ev_lift (fun hS hL w => lv_iload hS.1 hS.2.1 hd (hL.2.2 7 (eI z) rfl).1 w) k
theorem ev_aload7 (n : Nat) {a0 a1 a2 a3 a4 a5 a6 : Option Value} {r : List (Option Value)} {q : Option Nat} (hd : decode (mB M) pc = .ok (.aload 7, 2)) (hn : n = pc + 2) (k : EvO E M d cv n (a0 :: a1 :: a2 :: a3 :: a4 :: a5 :: a6 :: some (va_rf q) :: r) (va_rf q :: st) h o) : EvO E M d cv pc (a0 :: a1 :: a2 :: a3 :: a4 :: a5 :: a6 :: some (va_rf q) :: r) st h o := by
  subst hn
  refine ev_lift (fun hS hL w => ?_) k
  have hl := (hL.2.2 7 (va_rf q) rfl).1
  cases q with
  | none => exact lv_aloadN hS.1 hS.2.1 hd hl w
  | some a => exact lv_aload hS.1 hS.2.1 hd hl w
theorem ev_istore7 (n : Nat) {a0 a1 a2 a3 a4 a5 a6 : Option Value} {a7 : Option Value} {r : List (Option Value)} {z : Int} (hd : decode (mB M) pc = .ok (.istore 7, 2)) (hi : 7 < mL M) (hn : n = pc + 2) (k : EvO E M d cv n (a0 :: a1 :: a2 :: a3 :: a4 :: a5 :: a6 :: some (eI z) :: r) st h o) : EvO E M d cv pc (a0 :: a1 :: a2 :: a3 :: a4 :: a5 :: a6 :: a7 :: r) (eI z :: st) h o := by
  subst hn
  exact ev_liftL (fun hS hL w => lv_istore hS.1 hS.2.1 hd hL.has hi rfl (fun ls' h' => w ls' (hL.of h' rfl))) k
theorem ev_astore7 (n : Nat) {a0 a1 a2 a3 a4 a5 a6 : Option Value} {a7 : Option Value} {r : List (Option Value)} {q : Option Nat} (hd : decode (mB M) pc = .ok (.astore 7, 2)) (hi : 7 < mL M) (hn : n = pc + 2) (k : EvO E M d cv n (a0 :: a1 :: a2 :: a3 :: a4 :: a5 :: a6 :: some (va_rf q) :: r) st h o) : EvO E M d cv pc (a0 :: a1 :: a2 :: a3 :: a4 :: a5 :: a6 :: a7 :: r) (va_rf q :: st) h o := by
  subst hn
  cases q with
  | none => exact ev_liftL (fun hS hL w => lv_astoreN hS.1 hS.2.1 hd hL.has hi rfl (fun ls' h' => w ls' (hL.of h' rfl))) k
  | some a => exact ev_liftL (fun hS hL w => lv_astore hS.1 hS.2.1 hd hL.has hi rfl (fun ls' h' => w ls' (hL.of h' rfl))) k
theorem ev_iinc7 (n : Nat) {a0 a1 a2 a3 a4 a5 a6 : Option Value} {r : List (Option Value)} {z y : Int} (hd : decode (mB M) pc = .ok (.iinc 7 y, 3)) (hi : 7 < mL M) (hn : n = pc + 3) (k : EvO E M d cv n (a0 :: a1 :: a2 :: a3 :: a4 :: a5 :: a6 :: some (eI (z + y)) :: r) st h o) : EvO E M d cv pc (a0 :: a1 :: a2 :: a3 :: a4 :: a5 :: a6 :: some (eI z) :: r) st h o := by
  subst hn
  refine ev_liftL (fun hS hL w => ?_) k
  obtain ⟨k9, hk9⟩ := List.getElem?_of_mem (ev_al_mem.mpr (show (a0 :: a1 :: a2 :: a3 :: a4 :: a5 :: a6 :: some (eI z) :: r)[7]? = some (some (eI z)) from rfl))
  exact lv_iinc hS.1 hS.2.1 hd hL.has hk9 (eI_add z y) hi rfl (fun ls' h' => w ls' (hL.of h' rfl))
theorem ev_iload8 (n : Nat) {a0 a1 a2 a3 a4 a5 a6 a7 : Option Value} {r : List (Option Value)} {z : Int} (hd : decode (mB M) pc = .ok (.iload 8, 2)) (hn : n = pc + 2) (k : EvO E M d cv n (a0 :: a1 :: a2 :: a3 :: a4 :: a5 :: a6 :: a7 :: some (eI z) :: r) (eI z :: st) h o) : EvO E M d cv pc (a0 :: a1 :: a2 :: a3 :: a4 :: a5 :: a6 :: a7 :: some (eI z) :: r) st h o := by
  subst hn
  exact ev_lift (fun hS hL w => lv_iload hS.1 hS.2.1 hd (hL.2.2 8 (eI z) rfl).1 w) k
theorem ev_aload8 (n : Nat) {a0 a1 a2 a3 a4 a5 a6 a7 : Option Value} {r : List (Option Value)} {q : Option Nat} (hd : decode (mB M) pc = .ok (.aload 8, 2)) (hn : n = pc + 2) (k : EvO E M d cv n (a0 :: a1 :: a2 :: a3 :: a4 :: a5 :: a6 :: a7 :: some (va_rf q) :: r) (va_rf q :: st) h o) : EvO E M d cv pc (a0 :: a1 :: a2 :: a3 :: a4 :: a5 :: a6 :: a7 :: some (va_rf q) :: r) st h o := by
  subst hn
  refine ev_lift (fun hS hL w => ?_) k
  have hl := (hL.2.2 8 (va_rf q) rfl).1
  cases q with
  | none => exact lv_aloadN hS.1 hS.2.1 hd hl w
  | some a => exact lv_aload hS.1 hS.2.1 hd hl w
theorem ev_istore8 (n : Nat) {a0 a1 a2 a3 a4 a5 a6 a7 : Option Value} {a8 : Option Value} {r : List (Option Value)} {z : Int} (hd : decode (mB M) pc = .ok (.istore 8, 2)) (hi : 8 < mL M) (hn : n = pc + 2) (k : EvO E M d cv n (a0 :: a1 :: a2 :: a3 :: a4 :: a5 :: a6 :: a7 :: some (eI z) :: r) st h o) : EvO E M d cv pc (a0 :: a1 :: a2 :: a3 :: a4 :: a5 :: a6 :: a7 :: a8 :: r) (eI z :: st) h o := by
  subst hn
  exact ev_liftL (fun hS hL w => lv_istore hS.1 hS.2.1 hd hL.has hi rfl (fun ls' h' => w ls' (hL.of h' rfl))) k
theorem ev_astore8 (n : Nat) {a0 a1 a2 a3 a4 a5 a6 a7 : Option Value} {a8 : Option Value} {r : List (Option Value)} {q : Option Nat} (hd : decode (mB M) pc = .ok (.astore 8, 2)) (hi : 8 < mL M) (hn : n = pc + 2) (k : EvO E M d cv n (a0 :: a1 :: a2 :: a3 :: a4 :: a5 :: a6 :: a7 :: some (va_rf q) :: r) st h o) : EvO E M d cv pc (a0 :: a1 :: a2 :: a3 :: a4 :: a5 :: a6 :: a7 :: a8 :: r) (va_rf q :: st) h o := by
  subst hn
  cases q with
  | none => exact ev_liftL (fun hS hL w => lv_astoreN hS.1 hS.2.1 hd hL.has hi rfl (fun ls' h' => w ls' (hL.of h' rfl))) k
  | some a => exact ev_liftL (fun hS hL w => lv_astore hS.1 hS.2.1 hd hL.has hi rfl (fun ls' h' => w ls' (hL.of h' rfl))) k
theorem ev_iinc8 (n : Nat) {a0 a1 a2 a3 a4 a5 a6 a7 : Option Value} {r : List (Option Value)} {z y : Int} (hd : decode (mB M) pc = .ok (.iinc 8 y, 3)) (hi : 8 < mL M) (hn : n = pc + 3) (k : EvO E M d cv n (a0 :: a1 :: a2 :: a3 :: a4 :: a5 :: a6 :: a7 :: some (eI (z + y)) :: r) st h o) : EvO E M d cv pc (a0 :: a1 :: a2 :: a3 :: a4 :: a5 :: a6 :: a7 :: some (eI z) :: r) st h o := by
  subst hn
  refine ev_liftL (fun hS hL w => ?_) k
  obtain ⟨k9, hk9⟩ := List.getElem?_of_mem (ev_al_mem.mpr (show (a0 :: a1 :: a2 :: a3 :: a4 :: a5 :: a6 :: a7 :: some (eI z) :: r)[8]? = some (some (eI z)) from rfl))
  exact lv_iinc hS.1 hS.2.1 hd hL.has hk9 (eI_add z y) hi rfl (fun ls' h' => w ls' (hL.of h' rfl))
theorem ev_iload9 (n : Nat) {a0 a1 a2 a3 a4 a5 a6 a7 a8 : Option Value} {r : List (Option Value)} {z : Int} (hd : decode (mB M) pc = .ok (.iload 9, 2)) (hn : n = pc + 2) (k : EvO E M d cv n (a0 :: a1 :: a2 :: a3 :: a4 :: a5 :: a6 :: a7 :: a8 :: some (eI z) :: r) (eI z :: st) h o) : EvO E M d cv pc (a0 :: a1 :: a2 :: a3 :: a4 :: a5 :: a6 :: a7 :: a8 :: some (eI z) :: r) st h o := by
  subst hn
  exact ev_lift (fun hS hL w => lv_iload hS.1 hS.2.1 hd (hL.2.2 9 (eI z) rfl).1 w) k
theorem ev_aload9 (n : Nat) {a0 a1 a2 a3 a4 a5 a6 a7 a8 : Option Value} {r : List (Option Value)} {q : Option Nat} (hd : decode (mB M) pc = .ok (.aload 9, 2)) (hn : n = pc + 2) (k : EvO E M d cv n (a0 :: a1 :: a2 :: a3 :: a4 :: a5 :: a6 :: a7 :: a8 :: some (va_rf q) :: r) (va_rf q :: st) h o) : EvO E M d cv pc (a0 :: a1 :: a2 :: a3 :: a4 :: a5 :: a6 :: a7 :: a8 :: some (va_rf q) :: r) st h o := by
  subst hn
  refine ev_lift (fun hS hL w => ?_) k
  have hl := (hL.2.2 9 (va_rf q) rfl).1
  cases q with
  | none => exact lv_aloadN hS.1 hS.2.1 hd hl w
  | some a => exact lv_aload hS.1 hS.2.1 hd hl w
theorem ev_istore9 (n : Nat) {a0 a1 a2 a3 a4 a5 a6 a7 a8 : Option Value} {a9 : Option Value} {r : List (Option Value)} {z : Int} (hd : decode (mB M) pc = .ok (.istore 9, 2)) (hi : 9 < mL M) (hn : n = pc + 2) (k : EvO E M d cv n (a0 :: a1 :: a2 :: a3 :: a4 :: a5 :: a6 :: a7 :: a8 :: some (eI z) :: r) st h o) : EvO E M d cv pc (a0 :: a1 :: a2 :: a3 :: a4 :: a5 :: a6 :: a7 :: a8 :: a9 :: r) (eI z :: st) h o := by
  subst hn
  exact ev_liftL (fun hS hL w => lv_istore hS.1 hS.2.1 hd hL.has hi rfl (fun ls' h' => w ls' (hL.of h' rfl))) k
theorem ev_astore9 (n : Nat) {a0 a1 a2 a3 a4 a5 a6 a7 a8 : Option Value} {a9 : Option Value} {r : List (Option Value)} {q : Option Nat} (hd : decode (mB M) pc = .ok (.astore 9, 2)) (hi : 9 < mL M) (hn : n = pc + 2) (k : EvO E M d cv n (a0 :: a1 :: a2 :: a3 :: a4 :: a5 :: a6 :: a7 :: a8 :: some (va_rf q) :: r) st h o) : EvO E M d cv pc (a0 :: a1 :: a2 :: a3 :: a4 :: a5 :: a6 :: a7 :: a8 :: a9 :: r) (va_rf q :: st) h o := by
  subst hn
  cases q with
  | none => exact ev_liftL (fun hS hL w => lv_astoreN hS.1 hS.2.1 hd hL.has hi rfl (fun ls' h' => w ls' (hL.of h' rfl))) k
  | some a => exact ev_liftL (fun hS hL w => lv_astore hS.1 hS.2.1 hd hL.has hi rfl (fun ls' h' => w ls' (hL.of h' rfl))) k
theorem ev_iinc9 (n : Nat) {a0 a1 a2 a3 a4 a5 a6 a7 a8 : Option Value} {r : List (Option Value)} {z y : Int} (hd : decode (mB M) pc = .ok (.iinc 9 y, 3)) (hi : 9 < mL M) (hn : n = pc + 3) (k : EvO E M d cv n (a0 :: a1 :: a2 :: a3 :: a4 :: a5 :: a6 :: a7 :: a8 :: some (eI (z + y)) :: r) st h o) : EvO E M d cv pc (a0 :: a1 :: a2 :: a3 :: a4 :: a5 :: a6 :: a7 :: a8 :: some (eI z) :: r) st h o := by
  subst hn
  refine ev_liftL (fun hS hL w => ?_) k
  obtain ⟨k9, hk9⟩ := List.getElem?_of_mem (ev_al_mem.mpr (show (a0 :: a1 :: a2 :: a3 :: a4 :: a5 :: a6 :: a7 :: a8 :: some (eI z) :: r)[9]? = some (some (eI z)) from rfl))
  exact lv_iinc hS.1 hS.2.1 hd hL.has hk9 (eI_add z y) hi rfl (fun ls' h' => w ls' (hL.of h' rfl))
theorem ev_iload10 (n : Nat) {a0 a1 a2 a3 a4 a5 a6 a7 a8 a9 : Option Value} {r : List (Option Value)} {z : Int} (hd : decode (mB M) pc = .ok (.iload 10, 2)) (hn : n = pc + 2) (k : EvO E M d cv n (a0 :: a1 :: a2 :: a3 :: a4 :: a5 :: a6 :: a7 :: a8 :: a9 :: some (eI z) :: r) (eI z :: st) h o) : EvO E M d cv pc (a0 :: a1 :: a2 :: a3 :: a4 :: a5 :: a6 :: a7 :: a8 :: a9 :: some (eI z) :: r) st h o := by
  subst hn
  exact ev_lift (fun hS hL w => lv_iload hS.1 hS.2.1 hd (hL.2.2 10 (eI z) rfl).1 w) k
theorem ev_aload10 (n : Nat) {a0 a1 a2 a3 a4 a5 a6 a7 a8 a9 : Option Value} {r : List (Option Value)} {q : Option Nat} (hd : decode (mB M) pc = .ok (.aload 10, 2)) (hn : n = pc + 2) (k : EvO E M d cv n (a0 :: a1 :: a2 :: a3 :: a4 :: a5 :: a6 :: a7 :: a8 :: a9 :: some (va_rf q) :: r) (va_rf q :: st) h o) : EvO E M d cv pc (a0 :: a1 :: a2 :: a3 :: a4 :: a5 :: a6 :: a7 :: a8 :: a9 :: some (va_rf q) :: r) st h o := by
  subst hn
  refine ev_lift (fun hS hL w => ?_) k
  have hl := (hL.2.2 10 (va_rf q) rfl).1
  cases q with
  | none => exact lv_aloadN hS.1 hS.2.1 hd hl w
  | some a => exact lv_aload hS.1 hS.2.1 hd hl w
theorem ev_istore10 (n : Nat) {a0 a1 a2 a3 a4 a5 a6 a7 a8 a9 : Option Value} {a10 : Option Value} {r : List (Option Value)} {z : Int} (hd : decode (mB M) pc = .ok (.istore 10, 2)) (hi : 10 < mL M) (hn : n = pc + 2) (k : EvO E M d cv n (a0 :: a1 :: a2 :: a3 :: a4 :: a5 :: a6 :: a7 :: a8 :: a9 :: some (eI z) :: r) st h o) : EvO E M d cv pc (a0 :: a1 :: a2 :: a3 :: a4 :: a5 :: a6 :: a7 :: a8 :: a9 :: a10 :: r) (eI z :: st) h o := by
  subst hn
  exact ev_liftL (fun hS hL w => lv_istore hS.1 hS.2.1 hd hL.has hi rfl (fun ls' h' => w ls' (hL.of h' rfl))) k
theorem ev_astore10 (n : Nat) {a0 a1 a2 a3 a4 a5 a6 a7 a8 a9 : Option Value} {a10 : Option Value} {r : List (Option Value)} {q : Option Nat} (hd : decode (mB M) pc = .ok (.astore 10, 2)) (hi : 10 < mL M) (hn : n = pc + 2) (k : EvO E M d cv n (a0 :: a1 :: a2 :: a3 :: a4 :: a5 :: a6 :: a7 :: a8 :: a9 :: some (va_rf q) :: r) st h o) : EvO E M d cv pc (a0 :: a1 :: a2 :: a3 :: a4 :: a5 :: a6 :: a7 :: a8 :: a9 :: a10 :: r) (va_rf q :: st) h o := by
  subst hn
  cases q with
  | none => exact ev_liftL (fun hS hL w => lv_astoreN hS.1 hS.2.1 hd hL.has hi rfl (fun ls' h' => w ls' (hL.of h' rfl))) k
  | some a => exact ev_liftL (fun hS hL w => lv_astore hS.1 hS.2.1 hd hL.has hi rfl (fun ls' h' => w ls' (hL.of h' rfl))) k
theorem ev_iinc10 (n : Nat) {a0 a1 a2 a3 a4 a5 a6 a7 a8 a9 : Option Value} {r : List (Option Value)} {z y : Int} (hd : decode (mB M) pc = .ok (.iinc 10 y, 3)) (hi : 10 < mL M) (hn : n = pc + 3) (k : EvO E M d cv n (a0 :: a1 :: a2 :: a3 :: a4 :: a5 :: a6 :: a7 :: a8 :: a9 :: some (eI (z + y)) :: r) st h o) : EvO E M d cv pc (a0 :: a1 :: a2 :: a3 :: a4 :: a5 :: a6 :: a7 :: a8 :: a9 :: some (eI z) :: r) st h o := by
  subst hn
  refine ev_liftL (fun hS hL w => ?_) k
  obtain ⟨k9, hk9⟩ := List.getElem?_of_mem (ev_al_mem.mpr (show (a0 :: a1 :: a2 :: a3 :: a4 :: a5 :: a6 :: a7 :: a8 :: a9 :: some (eI z) :: r)[10]? = some (some (eI z)) from rfl))
  exact lv_iinc hS.1 hS.2.1 hd hL.has hk9 (eI_add z y) hi rfl (fun ls' h' => w ls' (hL.of h' rfl))
theorem ev_iload11 (n : Nat) {a0 a1 a2 a3 a4 a5 a6 a7 a8 a9 a10 : Option Value} {r : List (Option Value)} {z : Int} (hd : decode (mB M) pc = .ok (.iload 11, 2)) (hn : n = pc + 2) (k : EvO E M d cv n (a0 :: a1 :: a2 :: a3 :: a4 :: a5 :: a6 :: a7 :: a8 :: a9 :: a10 :: some (eI z) :: r) (eI z :: st) h o) : EvO E M d cv pc (a0 :: a1 :: a2 :: a3 :: a4 :: a5 :: a6 :: a7 :: a8 :: a9 :: a10 :: some (eI z) :: r) st h o := by
  subst hn
  exact ev_lift (fun hS hL w => lv_iload hS.1 hS.2.1 hd (hL.2.2 11 (eI z) rfl).1 w) k
theorem ev_aload11 (n : Nat) {a0 a1 a2 a3 a4 a5 a6 a7 a8 a9 a10 : Option Value} {r : List (Option Value)} {q : Option Nat} (hd : decode (mB M) pc = .ok (.aload 11, 2)) (hn : n = pc + 2) (k : EvO E M d cv n (a0 :: a1 :: a2 :: a3 :: a4 :: a5 :: a6 :: a7 :: a8 :: a9 :: a10 :: some (va_rf q) :: r) (va_rf q :: st) h o) : EvO E M d cv pc (a0 :: a1 :: a2 :: a3 :: a4 :: a5 :: a6 :: a7 :: a8 :: a9 :: a10 :: some (va_rf q) :: r) st h o := by
  subst hn
  refine ev_lift (fun hS hL w => ?_) k
  have hl := (hL.2.2 11 (va_rf q) rfl).1
  cases q with
  | none => exact lv_aloadN hS.1 hS.2.1 hd hl w
  | some a => exact lv_aload hS.1 hS.2.1 hd hl w
theorem ev_istore11 (n : Nat) {a0 a1 a2 a3 a4 a5 a6 a7 a8 a9 a10 : Option Value} {a11 : Option Value} {r : List (Option Value)} {z : Int} (hd : decode (mB M) pc = .ok (.istore 11, 2)) (hi : 11 < mL M) (hn : n = pc + 2) (k : EvO E M d cv n (a0 :: a1 :: a2 :: a3 :: a4 :: a5 :: a6 :: a7 :: a8 :: a9 :: a10 :: some (eI z) :: r) st h o) : EvO E M d cv pc (a0 :: a1 :: a2 :: a3 :: a4 :: a5 :: a6 :: a7 :: a8 :: a9 :: a10 :: a11 :: r) (eI z :: st) h o := by
  subst hn
  exact ev_liftL (fun hS hL w => lv_istore hS.1 hS.2.1 hd hL.has hi rfl (fun ls' h' => w ls' (hL.of h' rfl))) k
theorem ev_astore11 (n : Nat) {a0 a1 a2 a3 a4 a5 a6 a7 a8 a9 a10 : Option Value} {a11 : Option Value} {r : List (Option Value)} {q : Option Nat} (hd : decode (mB M) pc = .ok (.astore 11, 2)) (hi : 11 < mL M) (hn : n = pc + 2) (k : EvO E M d cv n (a0 :: a1 :: a2 :: a3 :: a4 :: a5 :: a6 :: a7 :: a8 :: a9 :: a10 :: some (va_rf q) :: r) st h o) : EvO E M d cv pc (a0 :: a1 :: a2 :: a3 :: a4 :: a5 :: a6 :: a7 :: a8 :: a9 :: a10 :: a11 :: r) (va_rf q :: st) h o := by
  subst hn
  cases q with
  | none => exact ev_liftL (fun hS hL w => lv_astoreN hS.1 hS.2.1 hd hL.has hi rfl (fun ls' h' => w ls' (hL.of h' rfl))) k
  | some a => exact ev_liftL (fun hS hL w => lv_astore hS.1 hS.2.1 hd hL.has hi rfl (fun ls' h' => w ls' (hL.of h' rfl))) k
theorem ev_iinc11 (n : Nat) {a0 a1 a2 a3 a4 a5 a6 a7 a8 a9 a10 : Option Value} {r : List (Option Value)} {z y : Int} (hd : decode (mB M) pc = .ok (.iinc 11 y, 3)) (hi : 11 < mL M) (hn : n = pc + 3) (k : EvO E M d cv n (a0 :: a1 :: a2 :: a3 :: a4 :: a5 :: a6 :: a7 :: a8 :: a9 :: a10 :: some (eI (z + y)) :: r) st h o) : EvO E M d cv pc (a0 :: a1 :: a2 :: a3 :: a4 :: a5 :: a6 :: a7 :: a8 :: a9 :: a10 :: some (eI z) :: r) st h o := by
  subst hn
  refine ev_liftL (fun hS hL w => ?_) k
  obtain ⟨k9, hk9⟩ := List.getElem?_of_mem (ev_al_mem.mpr (show (a0 :: a1 :: a2 :: a3 :: a4 :: a5 :: a6 :: a7 :: a8 :: a9 :: a10 :: some (eI z) :: r)[11]? = some (some (eI z)) from rfl))
  exact lv_iinc hS.1 hS.2.1 hd hL.has hk9 (eI_add z y) hi rfl (fun ls' h' => w ls' (hL.of h' rfl))
theorem ev_iload12 (n : Nat) {a0 a1 a2 a3 a4 a5 a6 a7 a8 a9 a10 a11 : Option Value} {r : List (Option Value)} {z : Int} (hd : decode (mB M) pc = .ok (.iload 12, 2)) (hn : n = pc + 2) (k : EvO E M d cv n (a0 :: a1 :: a2 :: a3 :: a4 :: a5 :: a6 :: a7 :: a8 :: a9 :: a10 :: a11 :: some (eI z) :: r) (eI z :: st) h o) : EvO E M d cv pc (a0 :: a1 :: a2 :: a3 :: a4 :: a5 :: a6 :: a7 :: a8 :: a9 :: a10 :: a11 :: some (eI z) :: r) st h o := by
  subst hn
  exact ev_lift (fun hS hL w => lv_iload hS.1 hS.2.1 hd (hL.2.2 12 (eI z) rfl).1 w) k
theorem ev_aload12 (n : Nat) {a0 a1 a2 a3 a4 a5 a6 a7 a8 a9 a10 a11 : Option Value} {r : List (Option Value)} {q : Option Nat} (hd : decode (mB M) pc = .ok (.aload 12, 2)) (hn : n = pc + 2) (k : EvO E M d cv n (a0 :: a1 :: a2 :: a3 :: a4 :: a5 :: a6 :: a7 :: a8 :: a9 :: a10 :: a11 :: some (va_rf q) :: r) (va_rf q :: st) h o) : EvO E M d cv pc (a0 :: a1 :: a2 :: a3 :: a4 :: a5 :: a6 :: a7 :: a8 :: a9 :: a10 :: a11 :: some (va_rf q) :: r) st h o := by
  subst hn
  refine ev_lift (fun hS hL w => ?_) k
  have hl := (hL.2.2 12 (va_rf q) rfl).1
  cases q with
  | none => exact lv_aloadN hS.1 hS.2.1 hd hl w
  | some a => exact lv_aload hS.1 hS.2.1 hd hl w
theorem ev_istore12 (n : Nat) {a0 a1 a2 a3 a4 a5 a6 a7 a8 a9 a10 a11 : Option Value} {a12 : Option Value} {r : List (Option Value)} {z : Int} (hd : decode (mB M) pc = .ok (.istore 12, 2)) (hi : 12 < mL M) (hn : n = pc + 2) (k : EvO E M d cv n (a0 :: a1 :: a2 :: a3 :: a4 :: a5 :: a6 :: a7 :: a8 :: a9 :: a10 :: a11 :: some (eI z) :: r) st h o) : EvO E M d cv pc (a0 :: a1 :: a2 :: a3 :: a4 :: a5 :: a6 :: a7 :: a8 :: a9 :: a10 :: a11 :: a12 :: r) (eI z :: st) h o := by
  subst hn
  exact ev_liftL (fun hS hL w => lv_istore hS.1 hS.2.1 hd hL.has hi rfl (fun ls' h' => w ls' (hL.of h' rfl))) k
theorem ev_astore12 (n : Nat) {a0 a1 a2 a3 a4 a5 a6 a7 a8 a9 a10 a11 : Option Value} {a12 : Option Value} {r : List (Option Value)} {q : Option Nat} (hd : decode (mB M) pc = .ok (.astore 12, 2)) (hi : 12 < mL M) (hn : n = pc + 2) (k : EvO E M d cv n (a0 :: a1 :: a2 :: a3 :: a4 :: a5 :: a6 :: a7 :: a8 :: a9 :: a10 :: a11 :: some (va_rf q) :: r) st h o) : EvO E M d cv pc (a0 :: a1 :: a2 :: a3 :: a4 :: a5 :: a6 :: a7 :: a8 :: a9 :: a10 :: a11 :: a12 :: r) (va_rf q :: st) h o := by
  subst hn
  cases q with
  | none => exact ev_liftL (fun hS hL w => lv_astoreN hS.1 hS.2.1 hd hL.has hi rfl (fun ls' h' => w ls' (hL.of h' rfl))) k
  | some a => exact ev_liftL (fun hS hL w => lv_astore hS.1 hS.2.1 hd hL.has hi rfl (fun ls' h' => w ls' (hL.of h' rfl))) k
theorem ev_iinc12 (n : Nat) {a0 a1 a2 a3 a4 a5 a6 a7 a8 a9 a10 a11 : Option Value} {r : List (Option Value)} {z y : Int} (hd : decode (mB M) pc = .ok (.iinc 12 y, 3)) (hi : 12 < mL M) (hn : n = pc + 3) (k : EvO E M d cv n (a0 :: a1 :: a2 :: a3 :: a4 :: a5 :: a6 :: a7 :: a8 :: a9 :: a10 :: a11 :: some (eI (z + y)) :: r) st h o) : EvO E M d cv pc (a0 :: a1 :: a2 :: a3 :: a4 :: a5 :: a6 :: a7 :: a8 :: a9 :: a10 :: a11 :: some (eI z) :: r) st h o := by
  subst hn
  refine ev_liftL (fun hS hL w => ?_) k
  obtain ⟨k9, hk9⟩ := List.getElem?_of_mem (ev_al_mem.mpr (show (a0 :: a1 :: a2 :: a3 :: a4 :: a5 :: a6 :: a7 :: a8 :: a9 :: a10 :: a11 :: some (eI z) :: r)[12]? = some (some (eI z)) from rfl))
  exact lv_iinc hS.1 hS.2.1 hd hL.has hk9 (eI_add z y) hi rfl (fun ls' h' => w ls' (hL.of h' rfl))
theorem ev_iload13 (n : Nat) {a0 a1 a2 a3 a4 a5 a6 a7 a8 a9 a10 a11 a12 : Option Value} {r : List (Option Value)} {z : Int} (hd : decode (mB M) pc = .ok (.iload 13, 2)) (hn : n = pc + 2) (k : EvO E M d cv n (a0 :: a1 :: a2 :: a3 :: a4 :: a5 :: a6 :: a7 :: a8 :: a9 :: a10 :: a11 :: a12 :: some (eI z) :: r) (eI z :: st) h o) : EvO E M d cv pc (a0 :: a1 :: a2 :: a3 :: a4 :: a5 :: a6 :: a7 :: a8 :: a9 :: a10 :: a11 :: a12 :: some (eI z) :: r) st h o := by
  subst hn
  exact ev_lift (fun hS hL w => lv_iload hS.1 hS.2.1 hd (hL.2.2 13 (eI z) rfl).1 w) k
theorem ev_aload13 (n : Nat) {a0 a1 a2 a3 a4 a5 a6 a7 a8 a9 a10 a11 a12 : Option Value} {r : List (Option Value)} {q : Option Nat} (hd : decode (mB M) pc = .ok (.aload 13, 2)) (hn : n = pc + 2) (k : EvO E M d cv n (a0 :: a1 :: a2 :: a3 :: a4 :: a5 :: a6 :: a7 :: a8 :: a9 :: a10 :: a11 :: a12 :: some (va_rf q) :: r) (va_rf q :: st) h o) : EvO E M d cv pc (a0 :: a1 :: a2 :: a3 :: a4 :: a5 :: a6 :: a7 :: a8 :: a9 :: a10 :: a11 :: a12 :: some (va_rf q) :: r) st h o := by
  subst hn
  refine ev_lift (fun hS hL w => ?_) k
  have hl := (hL.2.2 13 (va_rf q) rfl).1
  cases q with
  | none => exact lv_aloadN hS.1 hS.2.1 hd hl w
  | some a => exact lv_aload hS.1 hS.2.1 hd hl w
theorem ev_istore13 (n : Nat) {a0 a1 a2 a3 a4 a5 a6 a7 a8 a9 a10 a11 a12 : Option Value} {a13 : Option Value} {r : List (Option Value)} {z : Int} (hd : decode (mB M) pc = .ok (.istore 13, 2)) (hi : 13 < mL M) (hn : n = pc + 2) (k : EvO E M d cv n (a0 :: a1 :: a2 :: a3 :: a4 :: a5 :: a6 :: a7 :: a8 :: a9 :: a10 :: a11 :: a12 :: some (eI z) :: r) st h o) : EvO E M d cv pc (a0 :: a1 :: a2 :: a3 :: a4 :: a5 :: a6 :: a7 :: a8 :: a9 :: a10 :: a11 :: a12 :: a13 :: r) (eI z :: st) h o := by
  subst hn
  exact ev_liftL (fun hS hL w => lv_istore hS.1 hS.2.1 hd hL.has hi rfl (fun ls' h' => w ls' (hL.of h' rfl))) k
theorem ev_astore13 (n : Nat) {a0 a1 a2 a3 a4 a5 a6 a7 a8 a9 a10 a11 a12 : Option Value} {a13 : Option Value} {r : List (Option Value)} {q : Option Nat} (hd : decode (mB M) pc = .ok (.astore 13, 2)) (hi : 13 < mL M) (hn : n = pc + 2) (k : EvO E M d cv n (a0 :: a1 :: a2 :: a3 :: a4 :: a5 :: a6 :: a7 :: a8 :: a9 :: a10 :: a11 :: a12 :: some (va_rf q) :: r) st h o) : EvO E M d cv pc (a0 :: a1 :: a2 :: a3 :: a4 :: a5 :: a6 :: a7 :: a8 :: a9 :: a10 :: a11 :: a12 :: a13 :: r) (va_rf q :: st) h o := by
  subst hn
  cases q with
  | none => exact ev_liftL (fun hS hL w => lv_astoreN hS.1 hS.2.1 hd hL.has hi rfl (fun ls' h' => w ls' (hL.of h' rfl))) k
  | some a => exact ev_liftL (fun hS hL w => lv_astore hS.1 hS.2.1 hd hL.has hi rfl (fun ls' h' => w ls' (hL.of h' rfl))) k
theorem ev_iinc13 (n : Nat) {a0 a1 a2 a3 a4 a5 a6 a7 a8 a9 a10 a11 a12 : Option Value} {r : List (Option Value)} {z y : Int} (hd : decode (mB M) pc = .ok (.iinc 13 y, 3)) (hi : 13 < mL M) (hn : n = pc + 3) (k : EvO E M d cv n (a0 :: a1 :: a2 :: a3 :: a4 :: a5 :: a6 :: a7 :: a8 :: a9 :: a10 :: a11 :: a12 :: some (eI (z + y)) :: r) st h o) : EvO E M d cv pc (a0 :: a1 :: a2 :: a3 :: a4 :: a5 :: a6 :: a7 :: a8 :: a9 :: a10 :: a11 :: a12 :: some (eI z) :: r) st h o := by
  subst hn
  refine ev_liftL (fun hS hL w => ?_) k
  obtain ⟨k9, hk9⟩ := List.getElem?_of_mem (ev_al_mem.mpr (show (a0 :: a1 :: a2 :: a3 :: a4 :: a5 :: a6 :: a7 :: a8 :: a9 :: a10 :: a11 :: a12 :: some (eI z) :: r)[13]? = some (some (eI z)) from rfl))
  exact lv_iinc hS.1 hS.2.1 hd hL.has hk9 (eI_add z y) hi rfl (fun ls' h' => w ls' (hL.of h' rfl))
theorem ev_iload14 (n : Nat) {a0 a1 a2 a3 a4 a5 a6 a7 a8 a9 a10 a11 a12 a13 : Option Value} {r : List (Option Value)} {z : Int} (hd : decode (mB M) pc = .ok (.iload 14, 2)) (hn : n = pc + 2) (k : EvO E M d cv n (a0 :: a1 :: a2 :: a3 :: a4 :: a5 :: a6 :: a7 :: a8 :: a9 :: a10 :: a11 :: a12 :: a13 :: some (eI z) :: r) (eI z :: st) h o) : EvO E M d cv pc (a0 :: a1 :: a2 :: a3 :: a4 :: a5 :: a6 :: a7 :: a8 :: a9 :: a10 :: a11 :: a12 :: a13 :: some (eI z) :: r) st h o := by
  subst hn
  exact ev_lift (fun hS hL w => lv_iload hS.1 hS.2.1 hd (hL.2.2 14 (eI z) rfl).1 w) k
theorem ev_aload14 (n : Nat) {a0 a1 a2 a3 a4 a5 a6 a7 a8 a9 a10 a11 a12 a13 : Option Value} {r : List (Option Value)} {q : Option Nat} (hd : decode (mB M) pc = .ok (.aload 14, 2)) (hn : n = pc + 2) (k : EvO E M d cv n (a0 :: a1 :: a2 :: a3 :: a4 :: a5 :: a6 :: a7 :: a8 :: a9 :: a10 :: a11 :: a12 :: a13 :: some (va_rf q) :: r) (va_rf q :: st) h o) : EvO E M d cv pc (a0 :: a1 :: a2 :: a3 :: a4 :: a5 :: a6 :: a7 :: a8 :: a9 :: a10 :: a11 :: a12 :: a13 :: some (va_rf q) :: r) st h o := by
  subst hn
  refine ev_lift (fun hS hL w => ?_) k
  have hl := (hL.2.2 14 (va_rf q) rfl).1
  cases q with
  | none => exact lv_aloadN hS.1 hS.2.1 hd hl w
  | some a => exact lv_aload hS.1 hS.2.1 hd hl w
theorem ev_istore14 (n : Nat) {a0 a1 a2 a3 a4 a5 a6 a7 a8 a9 a10 a11 a12 a13 : Option Value} {a14 : Option Value} {r : List (Option Value)} {z : Int} (hd : decode (mB M) pc = .ok (.istore 14, 2)) (hi : 14 < mL M) (hn : n = pc + 2) (k : EvO E M d cv n (a0 :: a1 :: a2 :: a3 :: a4 :: a5 :: a6 :: a7 :: a8 :: a9 :: a10 :: a11 :: a12 :: a13 :: some (eI z) :: r) st h o) : EvO E M d cv pc (a0 :: a1 :: a2 :: a3 :: a4 :: a5 :: a6 :: a7 :: a8 :: a9 :: a10 :: a11 :: a12 :: a13 :: a14 :: r) (eI z :: st) h o := by
  subst hn
  exact ev_liftL (fun hS hL w => lv_istore hS.1 hS.2.1 hd hL.has hi rfl (fun ls' h' => w ls' (hL.of h' rfl))) k
theorem ev_astore14 (n : Nat) {a0 a1 a2 a3 a4 a5 a6 a7 a8 a9 a10 a11 a12 a13 : Option Value} {a14 : Option Value} {r : List (Option Value)} {q : Option Nat} (hd : decode (mB M) pc = .ok (.astore 14, 2)) (hi : 14 < mL M) (hn : n = pc + 2) (k : EvO E M d cv n (a0 :: a1 :: a2 :: a3 :: a4 :: a5 :: a6 :: a7 :: a8 :: a9 :: a10 :: a11 :: a12 :: a13 :: some (va_rf q) :: r) st h o) : EvO E M d cv pc (a0 :: a1 :: a2 :: a3 :: a4 :: a5 :: a6 :: a7 :: a8 :: a9 :: a10 :: a11 :: a12 :: a13 :: a14 :: r) (va_rf q :: st) h o := by
  subst hn
  cases q with
  | none => exact ev_liftL (fun hS hL w => lv_astoreN hS.1 hS.2.1 hd hL.has hi rfl (fun ls' h' => w ls' (hL.of h' rfl))) k
  | some a => exact ev_liftL (fun hS hL w => lv_astore hS.1 hS.2.1 hd hL.has hi rfl (fun ls' h' => w ls' (hL.of h' rfl))) k
theorem ev_iinc14 (n : Nat) {a0 a1 a2 a3 a4 a5 a6 a7 a8 a9 a10 a11 a12 a13 : Option Value} {r : List (Option Value)} {z y : Int} (hd : decode (mB M) pc = .ok (.iinc 14 y, 3)) (hi : 14 < mL M) (hn : n = pc + 3) (k : EvO E M d cv n (a0 :: a1 :: a2 :: a3 :: a4 :: a5 :: a6 :: a7 :: a8 :: a9 :: a10 :: a11 :: a12 :: a13 :: some (eI (z + y)) :: r) st h o) : EvO E M d cv pc (a0 :: a1 :: a2 :: a3 :: a4 :: a5 :: a6 :: a7 :: a8 :: a9 :: a10 :: a11 :: a12 :: a13 :: some (eI z) :: r) st h o := by
  subst hn
  refine ev_liftL (fun hS hL w => ?_) k
  obtain ⟨k9, hk9⟩ := List.getElem?_of_mem (ev_al_mem.mpr (show (a0 :: a1 :: a2 :: a3 :: a4 :: a5 :: a6 :: a7 :: a8 :: a9 :: a10 :: a11 :: a12 :: a13 :: some (eI z) :: r)[14]? = some (some (eI z)) from rfl))
  exact lv_iinc hS.1 hS.2.1 hd hL.has hk9 (eI_add z y) hi rfl (fun ls' h' => w ls' (hL.of h' rfl))
theorem ev_if_eq (t n : Nat) {a : Int} {off : Int} {A B : Option α} (hd : decode (mB M) pc = .ok (.ifCond .eq off, 3)) (ht : (pc : Int) + off = (t : Int)) (hn : n = pc + 3) (kt : EvO E M d cv t lo st h A) (kn : EvO E M d cv n lo st h B) : EvO E M d cv pc lo (eI a :: st) h (eEq a 0 A B) := by
  subst hn
  unfold eEq
  split
  · rename_i he
    subst he
    exact ev_lift (fun hS _ w => lv_if_eq hS.1 hS.2.1 hd ht (fun _ => w) (fun q => absurd rfl q)) kt
  · rename_i he
    split
    · rename_i hok
      exact ev_lift (fun hS _ w => lv_if_eq hS.1 hS.2.1 hd ht (fun q => absurd (eI_inj hok.1 hok.2 q) he) (fun _ => w)) kn
    · exact ev_no
theorem ev_if_ne (t n : Nat) {a : Int} {off : Int} {A B : Option α} (hd : decode (mB M) pc = .ok (.ifCond .ne off, 3)) (ht : (pc : Int) + off = (t : Int)) (hn : n = pc + 3) (kt : EvO E M d cv t lo st h A) (kn : EvO E M d cv n lo st h B) : EvO E M d cv pc lo (eI a :: st) h (eEq a 0 B A) := by
  subst hn
  unfold eEq
  split
  · rename_i he
    subst he
    exact ev_lift (fun hS _ w => lv_if_ne hS.1 hS.2.1 hd ht (fun q => absurd rfl q) (fun _ => w)) kn
  · rename_i he
    split
    · rename_i hok
      exact ev_lift (fun hS _ w => lv_if_ne hS.1 hS.2.1 hd ht (fun _ => w) (fun q => absurd (eI_inj hok.1 hok.2 q) he)) kt
    · exact ev_no
theorem ev_if_lt (t n : Nat) {a : Int} {off : Int} {A B : Option α} (hd : decode (mB M) pc = .ok (.ifCond .lt off, 3)) (ht : (pc : Int) + off = (t : Int)) (hn : n = pc + 3) (kt : EvO E M d cv t lo st h A) (kn : EvO E M d cv n lo st h B) : EvO E M d cv pc lo (eI a :: st) h (eLt a 0 A B) := by
  subst hn
  unfold eLt
  split
  · rename_i hok
    have hiff := eI_lt hok.1 hok.2
    split
    · rename_i he
      exact ev_lift (fun hS _ w => lv_if_lt hS.1 hS.2.1 hd ht (fun _ => w) (fun q => absurd (hiff.mpr he) q)) kt
    · rename_i he
      exact ev_lift (fun hS _ w => lv_if_lt hS.1 hS.2.1 hd ht (fun q => absurd (hiff.mp q) he) (fun _ => w)) kn
  · exact ev_no
theorem ev_if_ge (t n : Nat) {a : Int} {off : Int} {A B : Option α} (hd : decode (mB M) pc = .ok (.ifCond .ge off, 3)) (ht : (pc : Int) + off = (t : Int)) (hn : n = pc + 3) (kt : EvO E M d cv t lo st h A) (kn : EvO E M d cv n lo st h B) : EvO E M d cv pc lo (eI a :: st) h (eLt a 0 B A) := by
  subst hn
  unfold eLt
  split
  · rename_i hok
    have hiff := eI_le hok.2 hok.1
    split
    · rename_i he
      exact ev_lift (fun hS _ w => lv_if_ge hS.1 hS.2.1 hd ht (fun q => absurd (hiff.mp q) (by omega)) (fun _ => w)) kn
    · rename_i he
      exact ev_lift (fun hS _ w => lv_if_ge hS.1 hS.2.1 hd ht (fun _ => w) (fun q => absurd (hiff.mpr (by omega)) q)) kt
  · exact ev_no
theorem ev_if_gt (t n : Nat) {a : Int} {off : Int} {A B : Option α} (hd : decode (mB M) pc = .ok (.ifCond .gt off, 3)) (ht : (pc : Int) + off = (t : Int)) (hn : n = pc + 3) (kt : EvO E M d cv t lo st h A) (kn : EvO E M d cv n lo st h B) : EvO E M d cv pc lo (eI a :: st) h (eLt 0 a A B) := by
  subst hn
  unfold eLt
  split
  · rename_i hok
    have hiff := eI_lt hok.1 hok.2
    split
    · rename_i he
      exact ev_lift (fun hS _ w => lv_if_gt hS.1 hS.2.1 hd ht (fun _ => w) (fun q => absurd (hiff.mpr he) q)) kt
    · rename_i he
      exact ev_lift (fun hS _ w => lv_if_gt hS.1 hS.2.1 hd ht (fun q => absurd (hiff.mp q) he) (fun _ => w)) kn
  · exact ev_no
theorem ev_if_le (t n : Nat) {a : Int} {off : Int} {A B : Option α} (hd : decode (mB M) pc = .ok (.ifCond .le off, 3)) (ht : (pc : Int) + off = (t : Int)) (hn : n = pc + 3) (kt : EvO E M d cv t lo st h A) (kn : EvO E M d cv n lo st h B) : EvO E M d cv pc lo (eI a :: st) h (eLt 0 a B A) := by
  subst hn
  unfold eLt
  split
  · rename_i hok
    have hiff := eI_le hok.2 hok.1
    split
    · rename_i he
      exact ev_lift (fun hS _ w => lv_if_le hS.1 hS.2.1 hd ht (fun q => absurd (hiff.mp q) (by omega)) (fun _ => w)) kn
    · rename_i he
      exact ev_lift (fun hS _ w => lv_if_le hS.1 hS.2.1 hd ht (fun _ => w) (fun q => absurd (hiff.mpr (by omega)) q)) kt
  · exact ev_no
theorem ev_icmp_eq (t n : Nat) {a b : Int} {off : Int} {A B : Option α} (hd : decode (mB M) pc = .ok (.if_icmp .eq off, 3)) (ht : (pc : Int) + off = (t : Int)) (hn : n = pc + 3) (kt : EvO E M d cv t lo st h A) (kn : EvO E M d cv n lo st h B) : EvO E M d cv pc lo (eI b :: eI a :: st) h (eEq a b A B) := by
  subst hn
  unfold eEq
  split
  · rename_i he
    subst he
    exact ev_lift (fun hS _ w => lv_icmp_eq hS.1 hS.2.1 hd ht (fun _ => w) (fun q => absurd rfl q)) kt
  · rename_i he
    split
    · rename_i hok
      exact ev_lift (fun hS _ w => lv_icmp_eq hS.1 hS.2.1 hd ht (fun q => absurd (eI_inj hok.1 hok.2 q) he) (fun _ => w)) kn
    · exact ev_no
theorem ev_icmp_ne (t n : Nat) {a b : Int} {off : Int} {A B : Option α} (hd : decode (mB M) pc = .ok (.if_icmp .ne off, 3)) (ht : (pc : Int) + off = (t : Int)) (hn : n = pc + 3) (kt : EvO E M d cv t lo st h A) (kn : EvO E M d cv n lo st h B) : EvO E M d cv pc lo (eI b :: eI a :: st) h (eEq a b B A) := by
  subst hn
  unfold eEq
  split
  · rename_i he
    subst he
    exact ev_lift (fun hS _ w => lv_icmp_ne hS.1 hS.2.1 hd ht (fun q => absurd rfl q) (fun _ => w)) kn
  · rename_i he
    split
    · rename_i hok
      exact ev_lift (fun hS _ w => lv_icmp_ne hS.1 hS.2.1 hd ht (fun _ => w) (fun q => absurd (eI_inj hok.1 hok.2 q) he)) kt
    · exact ev_no
theorem ev_icmp_lt (t n : Nat) {a b : Int} {off : Int} {A B : Option α} (hd : decode (mB M) pc = .ok (.if_icmp .lt off, 3)) (ht : (pc : Int) + off = (t : Int)) (hn : n = pc + 3) (kt : EvO E M d cv t lo st h A) (kn : EvO E M d cv n lo st h B) : EvO E M d cv pc lo (eI b :: eI a :: st) h (eLt a b A B) := by
  subst hn
  unfold eLt
  split
  · rename_i hok
    have hiff := eI_lt hok.1 hok.2
    split
    · rename_i he
      exact ev_lift (fun hS _ w => lv_icmp_lt hS.1 hS.2.1 hd ht (fun _ => w) (fun q => absurd (hiff.mpr he) q)) kt
    · rename_i he
      exact ev_lift (fun hS _ w => lv_icmp_lt hS.1 hS.2.1 hd ht (fun q => absurd (hiff.mp q) he) (fun _ => w)) kn
  · exact ev_no
theorem ev_icmp_ge (t n : Nat) {a b : Int} {off : Int} {A B : Option α} (hd : decode (mB M) pc = .ok (.if_icmp .ge off, 3)) (ht : (pc : Int) + off = (t : Int)) (hn : n = pc + 3) (kt : EvO E M d cv t lo st h A) (kn : EvO E M d cv n lo st h B) : EvO E M d cv pc lo (eI b :: eI a :: st) h (eLt a b B A) := by
  subst hn
  unfold eLt
  split
  · rename_i hok
    have hiff := eI_le hok.2 hok.1
    split
    · rename_i he
      exact ev_lift (fun hS _ w => lv_icmp_ge hS.1 hS.2.1 hd ht (fun q => absurd (hiff.mp q) (by omega)) (fun _ => w)) kn
    · rename_i he
      exact ev_lift (fun hS _ w => lv_icmp_ge hS.1 hS.2.1 hd ht (fun _ => w) (fun q => absurd (hiff.mpr (by omega)) q)) kt
  · exact ev_no
theorem ev_icmp_gt (t n : Nat) {a b : Int} {off : Int} {A B : Option α} (hd : decode (mB M) pc = .ok (.if_icmp .gt off, 3)) (ht : (pc : Int) + off = (t : Int)) (hn : n = pc + 3) (kt : EvO E M d cv t lo st h A) (kn : EvO E M d cv n lo st h B) : EvO E M d cv pc lo (eI b :: eI a :: st) h (eLt b a A B) := by
  subst hn
  unfold eLt
  split
  · rename_i hok
    have hiff := eI_lt hok.1 hok.2
    split
    · rename_i he
      exact ev_lift (fun hS _ w => lv_icmp_gt hS.1 hS.2.1 hd ht (fun _ => w) (fun q => absurd (hiff.mpr he) q)) kt
    · rename_i he
      exact ev_lift (fun hS _ w => lv_icmp_gt hS.1 hS.2.1 hd ht (fun q => absurd (hiff.mp q) he) (fun _ => w)) kn
  · exact ev_no
theorem ev_icmp_le (t n : Nat) {a b : Int} {off : Int} {A B : Option α} (hd : decode (mB M) pc = .ok (.if_icmp .le off, 3)) (ht : (pc : Int) + off = (t : Int)) (hn : n = pc + 3) (kt : EvO E M d cv t lo st h A) (kn : EvO E M d cv n lo st h B) : EvO E M d cv pc lo (eI b :: eI a :: st) h (eLt b a B A) := by
  subst hn
  unfold eLt
  split
  · rename_i hok
    have hiff := eI_le hok.2 hok.1
    split
    · rename_i he
      exact ev_lift (fun hS _ w => lv_icmp_le hS.1 hS.2.1 hd ht (fun q => absurd (hiff.mp q) (by omega)) (fun _ => w)) kn
    · rename_i he
      exact ev_lift (fun hS _ w => lv_icmp_le hS.1 hS.2.1 hd ht (fun _ => w) (fun q => absurd (hiff.mpr (by omega)) q)) kt
  · exact ev_no
theorem ev_ifnull (t n : Nat) {q : Option Nat} {off : Int} {A B : Option α} (hd : decode (mB M) pc = .ok (.ifnull off, 3)) (ht : (pc : Int) + off = (t : Int)) (hn : n = pc + 3) (kt : EvO E M d cv t lo st h A) (kn : EvO E M d cv n lo st h B) : EvO E M d cv pc lo (va_rf q :: st) h (eNu q A B) := by
  subst hn
  cases q with
  | none => exact ev_lift (fun hS _ w => lv_ifnullN hS.1 hS.2.1 hd ht w) kt
  | some a => exact ev_lift (fun hS _ w => lv_ifnull hS.1 hS.2.1 hd w) kn
theorem ev_ifnonnull (t n : Nat) {q : Option Nat} {off : Int} {A B : Option α} (hd : decode (mB M) pc = .ok (.ifnonnull off, 3)) (ht : (pc : Int) + off = (t : Int)) (hn : n = pc + 3) (kt : EvO E M d cv t lo st h A) (kn : EvO E M d cv n lo st h B) : EvO E M d cv pc lo (va_rf q :: st) h (eNu q B A) := by
  subst hn
  cases q with
  | none => exact ev_lift (fun hS _ w => lv_ifnonnullN hS.1 hS.2.1 hd w) kn
  | some a => exact ev_lift (fun hS _ w => lv_ifnonnull hS.1 hS.2.1 hd ht w) kt
theorem ev_acmp_eq (t n : Nat) {q r : Option Nat} {off : Int} {A B : Option α} (hd : decode (mB M) pc = .ok (.if_acmp .eq off, 3)) (ht : (pc : Int) + off = (t : Int)) (hn : n = pc + 3) (kt : EvO E M d cv t lo st h A) (kn : EvO E M d cv n lo st h B) : EvO E M d cv pc lo (va_rf r :: va_rf q :: st) h (eAe q r A B) := by
  subst hn
  unfold eAe
  split
  · rename_i he
    exact ev_lift (fun hS _ w => lv_acmp_eq hS.1 hS.2.1 hd ht (fun _ => w) (fun x => absurd he x)) kt
  · rename_i he
    exact ev_lift (fun hS _ w => lv_acmp_eq hS.1 hS.2.1 hd ht (fun x => absurd x he) (fun _ => w)) kn
theorem ev_acmp_ne (t n : Nat) {q r : Option Nat} {off : Int} {A B : Option α} (hd : decode (mB M) pc = .ok (.if_acmp .ne off, 3)) (ht : (pc : Int) + off = (t : Int)) (hn : n = pc + 3) (kt : EvO E M d cv t lo st h A) (kn : EvO E M d cv n lo st h B) : EvO E M d cv pc lo (va_rf r :: va_rf q :: st) h (eAe q r B A) := by
  subst hn
  unfold eAe
  split
  · rename_i he
    exact ev_lift (fun hS _ w => lv_acmp_ne hS.1 hS.2.1 hd ht (fun x => absurd he x) (fun _ => w)) kn
  · rename_i he
    exact ev_lift (fun hS _ w => lv_acmp_ne hS.1 hS.2.1 hd ht (fun _ => w) (fun x => absurd x he)) kt
-- a switch: peel the cases, then go
theorem ev_peel {z v : Int} {A B : Option α} (ka : z = v → EvO E M d cv pc lo (eI z :: st) h A) (kb : z ≠ v → eOk z = true → EvO E M d cv pc lo (eI z :: st) h B) : EvO E M d cv pc lo (eI z :: st) h (eEq z v A B) := by
  unfold eEq
  split
  · rename_i he
    exact ka he
  · rename_i he
    split
    · rename_i hok
      exact kb he hok.1
    · exact ev_no
theorem ev_tsIn (t : Nat) {z v dflt lw hi off : Int} {offs : Array Int} {len : Nat} (hd : decode (mB M) pc = .ok (.tableswitch dflt lw hi offs, len)) (hz : z = v) (hv : eOk v = true) (h1 : ¬ v < lw) (h2 : ¬ hi < v) (ho : offs[(v - lw).toNat]? = some off) (ht : (pc : Int) + off = (t : Int)) (k : EvO E M d cv t lo st h o) : EvO E M d cv pc lo (eI z :: st) h o := by
  subst hz
  exact ev_lift (fun hS _ w => lv_tableIn hS.1 hS.2.1 hd (by rw [eI_toInt hv]; exact h1) (by rw [eI_toInt hv]; exact h2) (by rw [eI_toInt hv]; exact ho) ht w) k
theorem ev_tsOut (t : Nat) {z dflt lw hi : Int} {offs : Array Int} {len : Nat} (hd : decode (mB M) pc = .ok (.tableswitch dflt lw hi offs, len)) (hok : eOk z = true) (hz : z < lw ∨ hi < z) (ht : (pc : Int) + dflt = (t : Int)) (k : EvO E M d cv t lo st h o) : EvO E M d cv pc lo (eI z :: st) h o :=
  ev_lift (fun hS _ w => lv_tableOut hS.1 hS.2.1 hd (by rw [eI_toInt hok]; exact hz) ht w) k
theorem ev_lsGo (t : Nat) {z dflt off : Int} {ps : Array (Int × Int)} {len : Nat} (hd : decode (mB M) pc = .ok (.lookupswitch dflt ps, len)) (hp : (ps.toList.zip (ps.toList.drop 1)).all (fun (a, next) => a.1 < next.1) = true) (hok : eOk z = true) (ho : Op.lookupswitch.offset ps.toList dflt z = off) (ht : (pc : Int) + off = (t : Int)) (k : EvO E M d cv t lo st h o) : EvO E M d cv pc lo (eI z :: st) h o :=
  ev_lift (fun hS _ w => lv_lookup hS.1 hS.2.1 hd hp (by rw [eI_toInt hok]; exact ho) ht w) k
theorem ev_end {x : Option Value × ev_hs} (hx : x.2 = h) (hv : ev_V M pc x.1 st) : Ev E M d pc lo st h x := by
  subst hx
  refine ⟨Nat.le_refl _, Nat.le_refl _, fun p e R s m args below meth c Z mc ms hS hT H locs cells slots ls hH hl hL hc hs => ?_⟩
  exact W.widen (k := mc) (n := ms) (by omega) (by omega) (hT H locs pc ls st hH hl hv)
theorem ev_ireturn {z : Int} (hd : decode (mB M) pc = .ok (.ireturn, 1)) (hr : mR M = some .int) : EvO E M d cvI pc lo [eI z] h (some (z, h)) := by
  intro x hx
  cases hx
  exact ev_end rfl (Or.inl ⟨hd, Int32.ofInt z, .int, rfl, rfl, hr, rfl⟩)
def eBo (z : Int) (h : ev_hs) : Option (Int × ev_hs) := if z = 0 ∨ z = 1 then some (z, h) else none
theorem ev_zreturn {z : Int} (hd : decode (mB M) pc = .ok (.ireturn, 1)) (hr : mR M = some .boolean) : EvO E M d cvI pc lo [eI z] h (eBo z h) := by
  intro x hx
  unfold eBo at hx
  split at hx
  · rename_i hz
    cases hx
    refine ev_end rfl (Or.inl ⟨hd, Int32.ofInt z, .boolean, rfl, rfl, hr, ?_⟩)
    rcases hz with rfl | rfl <;> decide
  · cases hx
theorem ev_areturn {q : Option Nat} {rt : FieldType} (hd : decode (mB M) pc = .ok (.areturn, 1)) (hr : mR M = some rt) (hrt : (∃ n, rt = .object n) ∨ ∃ t, rt = .array t) : EvO E M d cvR pc lo [va_rf q] h (some (q, h)) := by
  intro x hx
  cases hx
  exact ev_end rfl (Or.inr (Or.inl ⟨hd, q, rt, rfl, rfl, hr, hrt⟩))
theorem ev_return (hd : decode (mB M) pc = .ok (.return_, 1)) (hr : mR M = none) : EvO E M d cvV pc lo [] h (some h) := by
  intro x hx
  cases hx
  exact ev_end rfl (Or.inr (Or.inr ⟨hd, rfl, rfl, hr⟩))
end Rules2
