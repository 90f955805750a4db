section Mem
variable {p : Program} {l : Launch} {e : Env} {R : Room} {s : State} {m : MethodId} {args : Array Value} {below : List Frame} {meth : Method} {c : Code} {H : Heap} {locs : List Loc} {cells slots : Nat} {Z : State → Prop}
variable {cc : ByteArray} {pc : Nat} {ls : Array Slot} {rest : List Value} {D : va_G} {a : Nat}
theorem va_P1 {cl : List vw_C} {q : Nat × va_E} (hat : va_at D cl q H) : va_P D cl [q] H := by
  intro k x hx
  cases k with
  | zero => simp at hx; subst hx; exact hat
  | succ k => simp at hx
-- a class of ours: its table, its words, the types of its fields
def ev_CK (ci : Nat) (C : String) (T : u_T) (N : Nat) : Prop :=
  evC[ci]? = some (C, T, N) ∧ (∀ w ∈ u_ws C T N, w ∈ evW) ∧
  (∃ ty0 : Nat → FieldType, ∀ k, k < N → parseFieldDescriptor (T k).2.2.1 = some (ty0 k) ∧ (evF ci k = 0 → ty0 k = .int) ∧ (evF ci k = 1 → ty0 k = .boolean) ∧ (evF ci k = 2 → (∃ n, ty0 k = .object n) ∨ ∃ t, ty0 k = .array t) ∧ evF ci k ≤ 2) ∧
  ∀ a, a < N → ∀ b, b < N → a ≠ b → (T a).2.1 ≠ (T b).2.1
theorem evC_lt {ci : Nat} {q : vw_C} (h : evC[ci]? = some q) : ci < 49 := by
  have := (List.getElem?_eq_some_iff.mp h).1
  have e : evC.length = 12 := rfl
  omega
theorem evN_eq {ci N : Nat} {C : String} {T : u_T} (h : evC[ci]? = some (C, T, N)) : evN ci = N := by
  unfold evN
  rw [h]
  rfl
theorem ev_fs_get {h : ev_hs} {ci a k N : Nat} {C : String} {T : u_T} (hc : evC[ci]? = some (C, T, N)) (hk : k < N) : (ev_fs h ci a)[k]? = some (ev_fv h ci a k) := by
  unfold ev_fs
  rw [evN_eq hc, List.getElem?_map, List.getElem?_range hk]
  rfl
theorem ev_fs_len {h : ev_hs} {ci a N : Nat} {C : String} {T : u_T} (hc : evC[ci]? = some (C, T, N)) : (ev_fs h ci a).length = N := by
  unfold ev_fs
  rw [evN_eq hc, List.length_map, List.length_range]
theorem ev_put0 (hexec : p.tables.exec = Jvm.exec) (hb : c.code = cc) {own ref C : String} {T : u_T} {N ci index : Nat} (hts : ∀ w ∈ evW, w.before args s = true) (hin : ∀ w ∈ u_ws C T N, w ∈ evW) (ty0 : Nat → FieldType) (hty : ∀ k, k < N → parseFieldDescriptor (T k).2.2.1 = some (ty0 k)) (hnm : ∀ a, a < N → ∀ b, b < N → a ≠ b → (T a).2.1 ≠ (T b).2.1) (hown : s.vm.findClass own = some m.cls) (hK : va_K D evC [] s)
    {fs : List Value} (hat : va_at D evC (a, .inr (ci, fs)) H) (hc : evC[ci]? = some (C, T, N)) (k : Nat) (hk : k < N) (hlink : (Cond.fieldLink own index ref (T k).2.1 (T k).2.2.1).before args s = true) (hsame : ∀ x, s.fieldFound? (T k).1 (T k).2.1 (T k).2.2.1 = some x → s.fieldFound? ref (T k).2.1 (T k).2.2.1 = some x)
    (hfin : (T k).2.2.2 = false ∨ ((T k).2.2.2 = true ∧ meth.name = "<init>" ∧ (T k).1 = own)) {v : Value} (hn : narrow (ty0 k) v = v) (hfit : fits (ty0 k) v = true) (hl : k < fs.length) (hdg : decode cc pc = .ok (.putfield index, 3))
    (kk : ∀ (H1 : Heap) (j : Nat), va_at D evC (a, .inr (ci, fs.set k v)) H1 → H1.size = H.size → (∀ q, q ≠ a → H1[q]? = H[q]?) → W p l e R s m args below meth c H1 (locs ++ [⟨a, j⟩]) cells slots Z (F0 m (pc + 3) ls rest)) :
    W p l e R s m args below meth c H locs cells slots Z (F0 m pc ls (v :: .ref a :: rest)) := by
  have hd := hty k hk
  have hap := va_apart (own := own) hts hin ty0 hty hnm hK hc
  obtain ⟨r, h1, cell, q1, q2, q3, q4⟩ := hat
  have hr : r = (C, T, N) := Option.some.inj (h1.symm.trans hc)
  subst hr
  obtain ⟨hS, hfc, kC, hkC, hkind⟩ := hK.1 ci _ hc
  obtain ⟨cf, kf, fi, f, hi, hsl⟩ := hS k hk
  have hlay := hts _ (hin _ (u_in_lay hk))
  unfold u_lay at hlay
  have hst := (u_facts hfc hkC (u_lays hts hin hk) hi).1
  rcases hfin with hfin | ⟨hfin, hin2, hdecl⟩
  · rw [if_neg (by rw [hfin]; decide)] at hlay
    have h6 := u_store hfc hkC hkind hlay hi hd hn hfit
    refine W.putK hexec hb (f := f) ⟨hown, hlink, ⟨_, _, _, hsame _ hi⟩, hst⟩ (by rw [q2]; exact h6) q1 q3 (by rw [hsl]; exact k2_hasslot (q4 k hk)) rfl rfl hdg fun H' e1 e2 e3 => ?_
    rw [hsl] at e1 ⊢
    exact kk H' _ ⟨_, hc, t_OB.to (V := updV (vp_V fs) k v) ⟨_, e1, q2, q3, t_set q4 hap hk v⟩ (fun j _ => vp_updV_set hl v j)⟩ e2 e3
  · rw [if_pos hfin] at hlay
    have hcf : m.cls = cf := by
      obtain ⟨_, _, c', _, _, _, -, -, hf', -, -, -, hown2, -⟩ := Cond.laysFinal_spec hlay
      have e1 : c' = cf := by have := hi.symm.trans hf'; simp at this; exact this.1.symm
      rw [hdecl] at hown2
      rw [← e1]; exact Option.some.inj (hown.symm.trans hown2)
    have h6 := u_fits hfc hkC hkind (Or.inr hlay) hi hd hn hfit
    refine W.putFinK hexec hb hown hlink (hsame _ hi) hst hcf hin2 (by rw [q2]; exact h6) q1 q3 (by rw [hsl]; exact k2_hasslot (q4 k hk)) rfl rfl hdg fun H' e1 e2 e3 => ?_
    rw [hsl] at e1 ⊢
    exact kk H' _ ⟨_, hc, t_OB.to (V := updV (vp_V fs) k v) ⟨_, e1, q2, q3, t_set q4 hap hk v⟩ (fun j _ => vp_updV_set hl v j)⟩ e2 e3
end Mem
section Heap1
variable {E : ev_E} {h h' : ev_hs} {H H1 : Heap} {a : Nat}
theorem ev_at_kept {b : Nat} (h1 : ev_at E h H b) (hk : xK h' b = xK h b) (hl : xL h' b = xL h b) (hi : ∀ f, xI h' f b = xI h f b) (hr : ∀ f, xR h' f b = xR h f b) (ha : xA h' b = xA h b) (hq : xQ h' b = xQ h b) (ho : H1[b]? = H[b]?) : ev_at E h' H1 b := by
  obtain ⟨x1, x2, x3, x4⟩ := h1
  have hfs : ∀ c, ev_fs h' c b = ev_fs h c b := fun c => by
    unfold ev_fs
    exact congrArg (fun f => List.map f _) (funext fun k => by simp only [ev_fv, hi, hr])
  unfold ev_at
  rw [hk, hl, ha, hq, ho]
  refine ⟨fun c hc h49 => ?_, x2, x3, x4⟩
  rw [hfs]
  exact (x1 c hc h49).kept ho
-- one cell of ours is written
theorem ev_H_put (hH : ev_H E h H) (hk : xK h' = xK h) (hl : xL h' = xL h) (hz : xZ h' = xZ h) (he : xE h' = xE h) (hm : xM h' = xM h) (h0 : e0 E ≤ a) (hz1 : H1.size = H.size) (ho : ∀ q, q ≠ a → H1[q]? = H[q]?)
    (hi : ∀ b, b ≠ a → (∀ f, xI h' f b = xI h f b) ∧ (∀ f, xR h' f b = xR h f b) ∧ xA h' b = xA h b ∧ xQ h' b = xQ h b) (hat : xK h a ≠ 0 → ev_at E h' H1 a) : ev_H E h' H1 := by
  obtain ⟨x1, x2, x3, x4, x5, x6, x7⟩ := hH
  refine ⟨by rw [hz1, hz]; exact x1, by rw [hz]; exact x2, by rw [he]; exact x3, by rw [hm]; exact x4, x5, fun q hq => ?_, fun b hb => ?_⟩
  · rw [ho q (by omega)]
    exact x6 q hq
  · rw [hk] at hb ⊢
    rw [hl, hz]
    obtain ⟨y1, y2, y3, y4⟩ := x7 b hb
    refine ⟨y1, y2, y3, ?_⟩
    by_cases hba : b = a
    · subst hba
      exact hat hb
    · obtain ⟨i1, i2, i3, i4⟩ := hi b hba
      exact ev_at_kept y4 (by rw [hk]) (by rw [hl]) i1 i2 i3 i4 (ho b hba)
-- a cell is made
theorem ev_H_new {t : Nat} (hH : ev_H E h H) (ht : t ≠ 0) (hk : xK h' = va_up (xK h) (xZ h) t) (hz : xZ h' = xZ h + 1) (he : xE h' = xE h) (hm : xM h' = xM h) (hz1 : H1.size = H.size + 1) (ho : ∀ q, q < H.size → H1[q]? = H[q]?)
    (hi : ∀ b, b ≠ xZ h → xL h' b = xL h b ∧ (∀ f, xI h' f b = xI h f b) ∧ (∀ f, xR h' f b = xR h f b) ∧ xA h' b = xA h b ∧ xQ h' b = xQ h b) (hln : xL h' (xZ h) < 2147483648) (hat : ev_at E h' H1 (xZ h)) : ev_H E h' H1 := by
  obtain ⟨x1, x2, x3, x4, x5, x6, x7⟩ := hH
  refine ⟨by rw [hz1, hz, x1], by rw [hz]; omega, by rw [he]; exact x3, by rw [hm]; exact x4, x5, fun q hq => ?_, fun b hb => ?_⟩
  · rw [ho q (by omega)]
    exact x6 q hq
  · by_cases hba : b = xZ h
    · subst hba
      exact ⟨by omega, hln, Or.inl x2, hat⟩
    · rw [hk] at hb ⊢
      have e : va_up (xK h) (xZ h) t b = xK h b := by simp [va_up, hba]
      rw [e] at hb ⊢
      obtain ⟨y1, y2, y3, y4⟩ := x7 b hb
      obtain ⟨i0, i1, i2, i3, i4⟩ := hi b hba
      rw [i0]
      exact ⟨by omega, y2, y3, ev_at_kept y4 (by rw [hk, e]) i0 i1 i2 i3 i4 (ho b (by omega))⟩
theorem ev_obj (hH : ev_H E h H) {c : Nat} (hk : xK h a = c + 1) (hc : c < 49) : e0 E ≤ a ∧ va_at (eD E) evC (a, .inr (c, ev_fs h c a)) H := by
  obtain ⟨x1, x2, x3, x4, x5, x6, x7⟩ := hH
  obtain ⟨y1, y2, y3, y4⟩ := x7 a (by omega)
  exact ⟨by omega, y4.1 c hk hc⟩
theorem ev_arrI (hH : ev_H E h H) {t : Nat} (hk : xK h a = t) (h1 : 50 ≤ t) (h2 : t ≤ 51) : e0 E ≤ a ∧ xL h a < 2147483648 ∧ H[a]? = some (vp_cell (eA E t) (xL h a, .inl (fun j => Int32.ofInt (xA h a j)))) := by
  obtain ⟨x1, x2, x3, x4, x5, x6, x7⟩ := hH
  obtain ⟨y1, y2, y3, y4⟩ := x7 a (by omega)
  subst hk
  exact ⟨by omega, y2, y4.2.1 h1 h2⟩
theorem ev_arrQ (hH : ev_H E h H) {t : Nat} (hk : xK h a = t) (h1 : 52 ≤ t) (h2 : t ≤ 57) (hl : 0 < xL h a) : e0 E ≤ a ∧ xL h a < 2147483648 ∧ H[a]? = some (vp_cell (eA E t) (xL h a, .inr (.inr (.inr (.inr (xQ h a)))))) := by
  obtain ⟨x1, x2, x3, x4, x5, x6, x7⟩ := hH
  obtain ⟨y1, y2, y3, y4⟩ := x7 a (by omega)
  subst hk
  refine ⟨by omega, y2, ?_⟩
  rcases y4.2.2.1 h1 h2 with q | q
  · exact q
  · omega
theorem ev_arrQ0 (hH : ev_H E h H) {t : Nat} (hk : xK h a = t) (h1 : 52 ≤ t) (h2 : t ≤ 57) : H[a]? = some (vp_cell (eA E t) (xL h a, .inr (.inr (.inr (.inr (xQ h a)))))) ∨ (t = 52 ∧ xL h a = 0 ∧ H[a]? = some (eEc E)) := by
  obtain ⟨x1, x2, x3, x4, x5, x6, x7⟩ := hH
  obtain ⟨y1, y2, y3, y4⟩ := x7 a (by omega)
  subst hk
  exact y4.2.2.1 h1 h2
theorem ev_arrS (hH : ev_H E h H) (hk : xK h a = 58) : xL h a < 2147483648 ∧ H[a]? = some (eSc E) ∧ (eSc E).slots.size = xL h a ∧ ∀ j, j < xL h a → (eSc E).slots[j]? = some (eI (xA h a j)) := by
  obtain ⟨x1, x2, x3, x4, x5, x6, x7⟩ := hH
  obtain ⟨y1, y2, y3, y4⟩ := x7 a (by omega)
  exact ⟨y2, y4.2.2.2 hk⟩
theorem ev_fs_setI {c k : Nat} {z : Int} (hB : evB c k = false) : ev_fs (wI h (100 * c + k) a z) c a = (ev_fs h c a).set k (eI z) := by
  apply List.ext_getElem?
  intro j
  unfold ev_fs
  rw [List.getElem?_set, List.getElem?_map, List.getElem?_map]
  by_cases hj : j < evN c
  · rw [List.getElem?_range hj]
    by_cases hjk : k = j
    · subst hjk
      simp [hj, ev_fv, hB, wI, xI, up2]
    · have : ¬ (100 * c + j = 100 * c + k) := by omega
      simp [hjk, Ne.symm hjk, ev_fv, wI, xI, xR, up2, this]
  · have e : (List.range (evN c))[j]? = none := by simp; omega
    rw [e]
    by_cases hjk : k = j
    · subst hjk
      simp; omega
    · simp [hjk]
theorem ev_fs_setR {c k : Nat} {z : Option Nat} (hB : evB c k = true) : ev_fs (wR h (100 * c + k) a z) c a = (ev_fs h c a).set k (va_rf z) := by
  apply List.ext_getElem?
  intro j
  unfold ev_fs
  rw [List.getElem?_set, List.getElem?_map, List.getElem?_map]
  by_cases hj : j < evN c
  · rw [List.getElem?_range hj]
    by_cases hjk : k = j
    · subst hjk
      simp [hj, ev_fv, hB, wR, xR, up2]
    · have : ¬ (100 * c + j = 100 * c + k) := by omega
      simp [hjk, Ne.symm hjk, ev_fv, wR, xI, xR, up2, this]
  · have e : (List.range (evN c))[j]? = none := by simp; omega
    rw [e]
    by_cases hjk : k = j
    · subst hjk
      simp; omega
    · simp [hjk]
end Heap1
-- a link to the field k of class c; nm: the name of the method that writes it
def ev_FL (own : String) (ix ci k : Nat) : Prop := ∃ (C : String) (T : u_T) (N : Nat) (ref : String), ev_CK ci C T N ∧ k < N ∧ Cond.fieldLink own ix ref (T k).2.1 (T k).2.2.1 ∈ evW ∧ (ref = (T k).1 ∨ Cond.sameField ref (T k).1 (T k).2.1 (T k).2.2.1 ∈ evW)
def ev_FW (own nm : String) (ix ci k : Nat) : Prop := ∃ (C : String) (T : u_T) (N : Nat) (ref : String), ev_CK ci C T N ∧ k < N ∧ Cond.fieldLink own ix ref (T k).2.1 (T k).2.2.1 ∈ evW ∧ (ref = (T k).1 ∨ Cond.sameField ref (T k).1 (T k).2.1 (T k).2.2.1 ∈ evW) ∧ ((T k).2.2.2 = false ∨ ((T k).2.2.2 = true ∧ nm = "<init>" ∧ (T k).1 = own))
theorem ev_same {args : Array Value} {s : State} {ref dc nm ds : String} (hts : ∀ w ∈ evW, w.before args s = true) (hs : ref = dc ∨ Cond.sameField ref dc nm ds ∈ evW) : ∀ x, s.fieldFound? dc nm ds = some x → s.fieldFound? ref nm ds = some x := by
  intro x hx
  rcases hs with rfl | hs
  · exact hx
  · exact u_same (hts _ hs) x hx
section Rules3
variable {α : Type} {E : ev_E} {M : ev_M} {d : Nat} {cv : α → Option Value × ev_hs} {pc : Nat} {lo : List (Option Value)} {st : List Value} {h : ev_hs} {o : Option α}
theorem ev_gI (n : Nat) {c k ix : Nat} {q : Option Nat} {K : Int → Option α} (hd : decode (mB M) pc = .ok (.getfield ix, 3)) (hf : ev_FL (mY M).cls ix c k) (hB : evB c k = false) (hn : n = pc + 3) (k1 : ∀ z, EvO E M d cv n lo (eI z :: st) h (K z)) : EvO E M d cv pc lo (va_rf q :: st) h (gI h c k q K) := by
  subst hn
  unfold gI
  cases q with
  | none => exact ev_no
  | some a =>
    dsimp only
    split
    · rename_i hk
      refine ev_liftH (fun hS hL hH hlo w => ?_) (k1 _)
      obtain ⟨C, T, N, ref, ⟨hc, hin, -, -⟩, hkN, hlink, hsame⟩ := hf
      have hts := hS.2.2.2.2.2.1
      refine va_get hS.1 hS.2.1 hts hin hS.2.2.2.1 hS.2.2.2.2.2.2.1.1 (va_P1 (ev_obj hH hk (evC_lt hc)).2) 0 rfl hc k hkN (hts _ hlink) (ev_same hts hsame) (ev_fs_get hc hkN) hd ?_
      unfold ev_fv
      rw [if_neg (by rw [hB]; decide)]
      exact w
    · exact ev_no
theorem ev_gR (n : Nat) {c k ix : Nat} {q : Option Nat} {K : Option Nat → Option α} (hd : decode (mB M) pc = .ok (.getfield ix, 3)) (hf : ev_FL (mY M).cls ix c k) (hB : evB c k = true) (hn : n = pc + 3) (k1 : ∀ z, EvO E M d cv n lo (va_rf z :: st) h (K z)) : EvO E M d cv pc lo (va_rf q :: st) h (gR h c k q K) := by
  subst hn
  unfold gR
  cases q with
  | none => exact ev_no
  | some a =>
    dsimp only
    split
    · rename_i hk
      refine ev_liftH (fun hS hL hH hlo w => ?_) (k1 _)
      obtain ⟨C, T, N, ref, ⟨hc, hin, -, -⟩, hkN, hlink, hsame⟩ := hf
      have hts := hS.2.2.2.2.2.1
      refine va_get hS.1 hS.2.1 hts hin hS.2.2.2.1 hS.2.2.2.2.2.2.1.1 (va_P1 (ev_obj hH hk (evC_lt hc)).2) 0 rfl hc k hkN (hts _ hlink) (ev_same hts hsame) (ev_fs_get hc hkN) hd ?_
      unfold ev_fv
      rw [if_pos hB]
      exact w
    · exact ev_no
theorem ev_putO {h' : ev_hs} {c k ix a : Nat} {v : Value} (hd : decode (mB M) pc = .ok (.putfield ix, 3)) (hf : ev_FW (mY M).cls (mY M).name ix c k) (hk : xK h a = c + 1)
    (hty : ∀ (ty : FieldType), (evF c k = 0 → ty = .int) → (evF c k = 1 → ty = .boolean) → (evF c k = 2 → (∃ n, ty = .object n) ∨ ∃ t, ty = .array t) → narrow ty v = v ∧ fits ty v = true)
    (e1 : xK h' = xK h) (e2 : xL h' = xL h) (e3 : xZ h' = xZ h) (e4 : xE h' = xE h) (e5 : xM h' = xM h) (e6 : xC h' = xC h) (e7 : xS h' = xS h)
    (hi : ∀ b, b ≠ a → (∀ f, xI h' f b = xI h f b) ∧ (∀ f, xR h' f b = xR h f b) ∧ xA h' b = xA h b ∧ xQ h' b = xQ h b) (hfs : ev_fs h' c a = (ev_fs h c a).set k v)
    (k1 : EvO E M d cv (pc + 3) lo st h' o) : EvO E M d cv pc lo (v :: .ref a :: st) h o := by
  refine ev_liftW (c1 := 0) (s1 := 0) (by omega) (by omega) (fun hS hL hH hlo hc1 hs1 w => ?_) k1
  obtain ⟨C, T, N, ref, ⟨hc, hin, ⟨ty0, hty0⟩, hnm⟩, hkN, hlink, hsame, hfin⟩ := hf
  have hts := hS.2.2.2.2.2.1
  obtain ⟨h0, hat⟩ := ev_obj hH hk (evC_lt hc)
  obtain ⟨g1, g2⟩ := hty (ty0 k) (hty0 k hkN).2.1 (hty0 k hkN).2.2.1 (hty0 k hkN).2.2.2.1
  refine ev_put0 hS.1 hS.2.1 hts hin ty0 (fun j hj => (hty0 j hj).1) hnm hS.2.2.2.1 hS.2.2.2.2.2.2.1.1 hat hc k hkN (hts _ hlink) (ev_same hts hsame) ?_ g1 g2 (by rw [ev_fs_len hc]; exact hkN) hd (fun H1 j hat1 hz1 ho => ?_)
  · rcases hfin with q | ⟨q1, q2, q3⟩
    · exact Or.inl q
    · exact Or.inr ⟨q1, hS.2.2.2.2.1 q2, q3⟩
  · refine w H1 _ (ev_H_put hH e1 e2 e3 e4 e5 h0 hz1 ho hi (fun _ => ⟨fun c9 hc9 _ => ?_, fun u1 u2 => ?_, fun u1 u2 => ?_, fun u1 => ?_⟩)) (t_lL hlo (by simp; exact h0))
    · rw [e1, hk] at hc9
      have : c9 = c := by omega
      subst this
      rw [hfs]
      exact hat1
    · exfalso
      have := evC_lt hc
      rw [e1, hk] at u1
      omega
    · exfalso
      have := evC_lt hc
      rw [e1, hk] at u1
      omega
    · exfalso
      have := evC_lt hc
      rw [e1, hk] at u1
      omega
theorem ev_pI (n : Nat) {c k ix : Nat} {q : Option Nat} {z : Int} {K : ev_hs → Option α} (hd : decode (mB M) pc = .ok (.putfield ix, 3)) (hf : ev_FW (mY M).cls (mY M).name ix c k) (hB : evF c k = 0) (hn : n = pc + 3) (k1 : ∀ g, EvO E M d cv n lo st g (K g)) : EvO E M d cv pc lo (eI z :: va_rf q :: st) h (pI h c k q z K) := by
  subst hn
  unfold pI
  cases q with
  | none => exact ev_no
  | some a =>
    dsimp only
    split
    · rename_i hk
      refine ev_putO (h' := wI h (100 * c + k) a z) hd hf hk (fun ty h0 h1 h2 => by rw [h0 hB]; exact ⟨rfl, rfl⟩) rfl rfl rfl rfl rfl rfl rfl (fun b hb => ⟨fun f => ?_, fun f => rfl, rfl, rfl⟩) (ev_fs_setI (by simp [evB, hB])) (k1 _)
      simp [wI, xI, up2, hb]
    · exact ev_no
theorem ev_pZ (n : Nat) {c k ix : Nat} {q : Option Nat} {z : Int} {K : ev_hs → Option α} (hd : decode (mB M) pc = .ok (.putfield ix, 3)) (hf : ev_FW (mY M).cls (mY M).name ix c k) (hB : evF c k = 1) (hn : n = pc + 3) (k1 : ∀ g, EvO E M d cv n lo st g (K g)) : EvO E M d cv pc lo (eI z :: va_rf q :: st) h (pZ h c k q z K) := by
  subst hn
  unfold pZ
  cases q with
  | none => exact ev_no
  | some a =>
    dsimp only
    split
    · rename_i hk
      refine ev_putO (h' := wI h (100 * c + k) a z) hd hf hk.1 (fun ty h0 h1 h2 => by rw [h1 hB]; rcases hk.2 with rfl | rfl <;> decide) rfl rfl rfl rfl rfl rfl rfl (fun b hb => ⟨fun f => ?_, fun f => rfl, rfl, rfl⟩) (ev_fs_setI (by simp [evB, hB])) (k1 _)
      simp [wI, xI, up2, hb]
    · exact ev_no
theorem ev_pR (n : Nat) {c k ix : Nat} {q v : Option Nat} {K : ev_hs → Option α} (hd : decode (mB M) pc = .ok (.putfield ix, 3)) (hf : ev_FW (mY M).cls (mY M).name ix c k) (hB : evF c k = 2) (hn : n = pc + 3) (k1 : ∀ g, EvO E M d cv n lo st g (K g)) : EvO E M d cv pc lo (va_rf v :: va_rf q :: st) h (pR h c k q v K) := by
  subst hn
  unfold pR
  cases q with
  | none => exact ev_no
  | some a =>
    dsimp only
    split
    · rename_i hk
      refine ev_putO (h' := wR h (100 * c + k) a v) hd hf hk (fun ty h0 h1 h2 => by rcases h2 hB with ⟨nm, rfl⟩ | ⟨t, rfl⟩ <;> cases v <;> exact ⟨rfl, rfl⟩) rfl rfl rfl rfl rfl rfl rfl (fun b hb => ⟨fun f => rfl, fun f => ?_, rfl, rfl⟩) (ev_fs_setR (by simp [evB, hB])) (k1 _)
      simp [wR, xR, up2, hb]
    · exact ev_no
end Rules3
theorem ev_K1 {E : ev_E} {s : State} (hK : ev_K E s) {t : Nat} (h1 : 50 ≤ t) (h2 : t ≤ 57) : va_K (eD E) evC [(eA E t, evTy t)] s := by
  refine ⟨hK.1.1, fun k q hq => ?_⟩
  cases k with
  | zero => simp at hq; subst hq; exact hK.2.1 t h1 h2
  | succ k => simp at hq
theorem ev_cellI (cA : ClassId) (n j : Nat) (f : Nat → Int32) (x : Int32) : (vp_cell cA (n, .inl f)).setSlot j (.int x) = vp_cell cA (n, .inl (fun i => if i = j then x else f i)) := by
  rw [vp_cell_i, vp_cell_i, arrV_store]
  congr 1
  funext q
  by_cases hq : q = j <;> simp [updV, hq]
theorem ev_cellQ (cA : ClassId) (n j : Nat) (f : Nat → Option Nat) (x : Option Nat) : (vp_cell cA (n, .inr (.inr (.inr (.inr f))))).setSlot j (va_rf x) = vp_cell cA (n, .inr (.inr (.inr (.inr (fun i => if i = j then x else f i))))) := by
  rw [vp_cell_q, vp_cell_q, arrV_store]
  congr 1
  funext q
  by_cases hq : q = j <;> simp [updV, hq]
theorem ev_hAw {h : ev_hs} {a j : Nat} {z : Int} : xA (wA h a j z) a = fun i => if i = j then z else xA h a i := by
  funext i
  simp [wA, xA, up2]
theorem ev_hQw {h : ev_hs} {a j : Nat} {z : Option Nat} : xQ (wQ h a j z) a = fun i => if i = j then z else xQ h a i := by
  funext i
  simp [wQ, xQ, up2]
def ev_AO (t ec : Nat) : Prop := ∃ (C0 C : String) (T : u_T) (N : Nat), evTy t = .object C0 ∧ evC[ec]? = some (C, T, N) ∧ ∀ (E : ev_E) (s : State), ev_K E s → ∀ comp c0 : ClassId, s.vm.findClass C0 = some comp → s.vm.findClass C = some c0 → s.vm.assignable c0 comp = true
section Rules4
variable {α : Type} {E : ev_E} {M : ev_M} {d : Nat} {cv : α → Option Value × ev_hs} {pc : Nat} {lo : List (Option Value)} {st : List Value} {h : ev_hs} {o : Option α}
theorem ev_iaload (n : Nat) {q : Option Nat} {i : Int} {K : Int → Option α} (hd : decode (mB M) pc = .ok (.iaload, 1)) (hn : n = pc + 1) (k1 : ∀ z, EvO E M d cv n lo (eI z :: st) h (K z)) : EvO E M d cv pc lo (eI i :: va_rf q :: st) h (lI h 50 q i K) := by
  subst hn
  unfold lI
  cases q with
  | none => exact ev_no
  | some a =>
    dsimp only
    split
    · rename_i hk
      obtain ⟨hk, h0, h1⟩ := hk
      refine ev_liftH (fun hS hL hH hlo w => ?_) (k1 _)
      obtain ⟨g0, g1, g2⟩ := ev_arrI hH hk (by omega) (by omega)
      refine va_iald hS.1 hS.2.1 (ev_K1 hS.2.2.2.2.2.2.1 (t := 50) (by omega) (by omega)) (va_P1 (q := (a, .inl (eA E 50, xL h a, .inl _))) g2) 0 0 rfl rfl (eI_in h0 h1 g1) hd ?_
      rw [eI_cl h0 (by omega)]
      exact w
    · exact ev_no
theorem ev_baload (n : Nat) {q : Option Nat} {i : Int} {K : Int → Option α} (hd : decode (mB M) pc = .ok (.baload, 1)) (hn : n = pc + 1) (k1 : ∀ z, EvO E M d cv n lo (eI z :: st) h (K z)) : EvO E M d cv pc lo (eI i :: va_rf q :: st) h (lI h 51 q i K) := by
  subst hn
  unfold lI
  cases q with
  | none => exact ev_no
  | some a =>
    dsimp only
    split
    · rename_i hk
      obtain ⟨hk, h0, h1⟩ := hk
      refine ev_liftH (fun hS hL hH hlo w => ?_) (k1 _)
      obtain ⟨g0, g1, g2⟩ := ev_arrI hH hk (by omega) (by omega)
      refine va_zald hS.1 hS.2.1 (ev_K1 hS.2.2.2.2.2.2.1 (t := 51) (by omega) (by omega)) (va_P1 (q := (a, .inl (eA E 51, xL h a, .inl _))) g2) 0 0 rfl rfl (eI_in h0 h1 g1) hd ?_
      rw [eI_cl h0 (by omega)]
      exact w
    · exact ev_no
theorem ev_saload (n : Nat) {q : Option Nat} {i : Int} {K : Int → Option α} (hd : decode (mB M) pc = .ok (.iaload, 1)) (hn : n = pc + 1) (k1 : ∀ z, EvO E M d cv n lo (eI z :: st) h (K z)) : EvO E M d cv pc lo (eI i :: va_rf q :: st) h (lI h 58 q i K) := by
  subst hn
  unfold lI
  cases q with
  | none => exact ev_no
  | some a =>
    dsimp only
    split
    · rename_i hk
      obtain ⟨hk, h0, h1⟩ := hk
      refine ev_liftH (fun hS hL hH hlo w => ?_) (k1 _)
      obtain ⟨g1, g2, g3, g4⟩ := ev_arrS hH hk
      have hin := eI_in h0 h1 g1
      refine W.iald hS.1 hS.2.1 g2 hS.2.2.2.2.2.2.1.2.2.1 hS.2.2.2.2.2.2.1.2.2.2.1 (by rw [g3]; exact hin) (v := eI (xA h a i.toNat)) ?_ rfl rfl hd w
      rw [eI_cl h0 (by omega)]
      exact g4 _ (by omega)
    · exact ev_no
theorem ev_aaload (n : Nat) {t : Nat} {q : Option Nat} {i : Int} {K : Option Nat → Option α} (hd : decode (mB M) pc = .ok (.aaload, 1)) (ht : 52 ≤ t ∧ t ≤ 57) (hty : ∃ C, evTy t = .object C) (hn : n = pc + 1) (k1 : ∀ z, EvO E M d cv n lo (va_rf z :: st) h (K z)) : EvO E M d cv pc lo (eI i :: va_rf q :: st) h (lQ h t q i K) := by
  subst hn
  unfold lQ
  cases q with
  | none => exact ev_no
  | some a =>
    dsimp only
    split
    · rename_i hk
      obtain ⟨hk, h0, h1⟩ := hk
      refine ev_liftH (fun hS hL hH hlo w => ?_) (k1 _)
      obtain ⟨g0, g1, g2⟩ := ev_arrQ hH hk ht.1 ht.2 (by omega)
      obtain ⟨C, hC⟩ := hty
      refine va_aldq (C := C) hS.1 hS.2.1 (ev_K1 hS.2.2.2.2.2.2.1 (t := t) (by omega) ht.2) (va_P1 (q := (a, .inl (eA E t, xL h a, .inr (.inr (.inr (.inr _)))))) g2) 0 0 rfl (by rw [hC]; rfl) (eI_in h0 h1 g1) hd ?_
      rw [eI_cl h0 (by omega)]
      exact w
    · exact ev_no
theorem ev_alen (n : Nat) {t : Nat} {q : Option Nat} {K : Int → Option α} (hd : decode (mB M) pc = .ok (.arraylength, 1)) (ht : 50 ≤ t ∧ t ≤ 57) (hn : n = pc + 1) (k1 : ∀ z, EvO E M d cv n lo (eI z :: st) h (K z)) : EvO E M d cv pc lo (va_rf q :: st) h (aL h t q K) := by
  subst hn
  unfold aL
  cases q with
  | none => exact ev_no
  | some a =>
    dsimp only
    split
    · rename_i hk
      refine ev_liftH (fun hS hL hH hlo w => ?_) (k1 _)
      by_cases h51 : t ≤ 51
      · obtain ⟨g0, g1, g2⟩ := ev_arrI hH hk ht.1 h51
        exact va_alen hS.1 hS.2.1 (ev_K1 hS.2.2.2.2.2.2.1 (t := t) ht.1 ht.2) (va_P1 (q := (a, .inl (eA E t, xL h a, .inl _))) g2) 0 0 rfl rfl (eI_nat _).symm hd w
      · rcases ev_arrQ0 hH hk (by omega) ht.2 with g2 | ⟨g0, g1, g2⟩
        case inr =>
          have hEc := hS.2.2.2.2.2.2.1.2.2.2.2.2.1
          exact W.alen hS.1 hS.2.1 g2 hEc.1 (by rw [hEc.2, g1]; rfl) rfl rfl hd w
        exact va_alen hS.1 hS.2.1 (ev_K1 hS.2.2.2.2.2.2.1 (t := t) ht.1 ht.2) (va_P1 (q := (a, .inl (eA E t, xL h a, .inr (.inr (.inr (.inr _)))))) g2) 0 0 rfl rfl (eI_nat _).symm hd w
    · exact ev_no
theorem ev_slen (n : Nat) {q : Option Nat} {K : Int → Option α} (hd : decode (mB M) pc = .ok (.arraylength, 1)) (hn : n = pc + 1) (k1 : ∀ z, EvO E M d cv n lo (eI z :: st) h (K z)) : EvO E M d cv pc lo (va_rf q :: st) h (aL h 58 q K) := by
  subst hn
  unfold aL
  cases q with
  | none => exact ev_no
  | some a =>
    dsimp only
    split
    · rename_i hk
      refine ev_liftH (fun hS hL hH hlo w => ?_) (k1 _)
      obtain ⟨g1, g2, g3, g4⟩ := ev_arrS hH hk
      exact W.alen hS.1 hS.2.1 g2 hS.2.2.2.2.2.2.1.2.2.1 (by rw [g3]; exact (eI_nat _).symm) rfl rfl hd w
    · exact ev_no
theorem ev_sI0 {t a : Nat} {i : Int} {z : Int} {H : Heap} {H1 : Heap} (hH : ev_H E h H) (hk : xK h a = t) (h1 : 50 ≤ t) (h2 : t ≤ 51) (h0 : 0 ≤ i) (hi : i < (xL h a : Int))
    (e1 : H1[a]? = some ((vp_cell (eA E t) (xL h a, .inl (fun j => Int32.ofInt (xA h a j)))).setSlot (Int32.ofInt i).toNatClampNeg (.int (Int32.ofInt z)))) (e2 : H1.size = H.size) (e3 : ∀ q, q ≠ a → H1[q]? = H[q]?) : ev_H E (wA h a i.toNat z) H1 := by
  obtain ⟨g0, g1, g2⟩ := ev_arrI hH hk h1 h2
  rw [eI_cl h0 (by omega), ev_cellI] at e1
  refine ev_H_put hH rfl rfl rfl rfl rfl g0 e2 e3 (fun b hb => ⟨fun f => rfl, fun f => rfl, ?_, rfl⟩) (fun _ => ⟨fun c9 hc9 h49 => ?_, fun u1 u2 => ?_, fun u1 u2 => ?_, fun u1 => ?_⟩)
  · funext j
    simp [wA, xA, up2, hb]
  · have e : xK (wA h a i.toNat z) a = xK h a := rfl
    rw [e, hk] at hc9
    omega
  · have e : xK (wA h a i.toNat z) a = t := hk
    rw [e, e1, ev_hAw]
    congr 3
    congr 1
    funext j
    by_cases hj : j = i.toNat <;> simp [hj]
  · have e : xK (wA h a i.toNat z) a = t := hk
    rw [e] at u1
    omega
  · have e : xK (wA h a i.toNat z) a = t := hk
    rw [e] at u1
    omega
theorem ev_iastore (n : Nat) {q : Option Nat} {i z : Int} {K : ev_hs → Option α} (hd : decode (mB M) pc = .ok (.iastore, 1)) (hn : n = pc + 1) (k1 : ∀ g, EvO E M d cv n lo st g (K g)) : EvO E M d cv pc lo (eI z :: eI i :: va_rf q :: st) h (sI h 50 q i z K) := by
  subst hn
  unfold sI
  cases q with
  | none => exact ev_no
  | some a =>
    dsimp only
    split
    · rename_i hk
      obtain ⟨hk, h0, h1⟩ := hk
      refine ev_liftW (h' := wA h a i.toNat z) (c1 := 0) (s1 := 0) rfl rfl (fun hS hL hH hlo hc1 hs1 w => ?_) (k1 _)
      obtain ⟨g0, g1, g2⟩ := ev_arrI hH hk (by omega) (by omega)
      have hin := eI_in h0 h1 g1
      refine W.iast hS.1 hS.2.1 g2 ((hS.2.2.2.2.2.2.1.2.1 50 (by omega) (by omega)).1 (xL h a) (fun j => .int (Int32.ofInt (xA h a j)))) (fun q => by cases q) (by show ¬ (_ < 0 ∨ (arrV _ _ _).slots.size ≤ _); rw [arrV_size]; exact hin) rfl rfl hd fun H1 e1 e2 e3 => ?_
      exact w H1 _ (ev_sI0 hH hk (by omega) (by omega) h0 h1 e1 e2 e3) (t_lL hlo (by simp; exact g0))
    · exact ev_no
theorem ev_bastore (n : Nat) {q : Option Nat} {i z : Int} {K : ev_hs → Option α} (hd : decode (mB M) pc = .ok (.bastore, 1)) (hn : n = pc + 1) (k1 : ∀ g, EvO E M d cv n lo st g (K g)) : EvO E M d cv pc lo (eI z :: eI i :: va_rf q :: st) h (sZ h 51 q i z K) := by
  subst hn
  unfold sZ
  cases q with
  | none => exact ev_no
  | some a =>
    dsimp only
    split
    · rename_i hk
      obtain ⟨hk, h0, h1, hz⟩ := hk
      refine ev_liftW (h' := wA h a i.toNat z) (c1 := 0) (s1 := 0) rfl rfl (fun hS hL hH hlo hc1 hs1 w => ?_) (k1 _)
      obtain ⟨g0, g1, g2⟩ := ev_arrI hH hk (by omega) (by omega)
      have hin := eI_in h0 h1 g1
      refine W.zast hS.1 hS.2.1 g2 ((hS.2.2.2.2.2.2.1.2.1 51 (by omega) (by omega)).1 (xL h a) (fun j => .int (Int32.ofInt (xA h a j)))) (fun q => by cases q) (by show ¬ (_ < 0 ∨ (arrV _ _ _).slots.size ≤ _); rw [arrV_size]; exact hin) rfl rfl hd fun H1 e1 e2 e3 => ?_
      have hnz : narrow .boolean (.int (Int32.ofInt z)) = .int (Int32.ofInt z) := by rcases hz with rfl | rfl <;> decide
      rw [hnz] at e1
      exact w H1 _ (ev_sI0 hH hk (by omega) (by omega) h0 h1 e1 e2 e3) (t_lL hlo (by simp; exact g0))
    · exact ev_no
theorem ev_sQ0 {t a : Nat} {i : Int} {v : Option Nat} {H : Heap} {H1 : Heap} (hH : ev_H E h H) (hk : xK h a = t) (h1 : 52 ≤ t) (h2 : t ≤ 57) (h0 : 0 ≤ i) (hi : i < (xL h a : Int))
    (e1 : H1[a]? = some ((vp_cell (eA E t) (xL h a, .inr (.inr (.inr (.inr (xQ h a)))))).setSlot (Int32.ofInt i).toNatClampNeg (va_rf v))) (e2 : H1.size = H.size) (e3 : ∀ q, q ≠ a → H1[q]? = H[q]?) : ev_H E (wQ h a i.toNat v) H1 ∧ e0 E ≤ a := by
  obtain ⟨g0, g1, g2⟩ := ev_arrQ hH hk h1 h2 (by omega)
  rw [eI_cl h0 (by omega), ev_cellQ] at e1
  refine ⟨ev_H_put hH rfl rfl rfl rfl rfl g0 e2 e3 (fun b hb => ⟨fun f => rfl, fun f => rfl, rfl, ?_⟩) (fun _ => ⟨fun c9 hc9 h49 => ?_, fun u1 u2 => ?_, fun u1 u2 => ?_, fun u1 => ?_⟩), g0⟩
  · funext j
    simp [wQ, xQ, up2, hb]
  · have e : xK (wQ h a i.toNat v) a = t := hk
    rw [e] at hc9
    omega
  · have e : xK (wQ h a i.toNat v) a = t := hk
    rw [e] at u2
    omega
  · have e : xK (wQ h a i.toNat v) a = t := hk
    rw [e, e1, ev_hQw]
    exact Or.inl rfl
  · have e : xK (wQ h a i.toNat v) a = t := hk
    rw [e] at u1
    omega
-- rows of class e's objects: kind t; ev_AO says that an object of class e may stand there
theorem ev_aastore (n : Nat) {t ec : Nat} {q v : Option Nat} {i : Int} {K : ev_hs → Option α} (hd : decode (mB M) pc = .ok (.aastore, 1)) (ht : 52 ≤ t ∧ t ≤ 57) (ho : ev_AO t ec) (hn : n = pc + 1) (k1 : ∀ g, EvO E M d cv n lo st g (K g)) : EvO E M d cv pc lo (va_rf v :: eI i :: va_rf q :: st) h (sQ h t ec q i v K) := by
  subst hn
  unfold sQ
  cases q with
  | none => exact ev_no
  | some a =>
    dsimp only
    split
    · rename_i hk
      obtain ⟨hk, h0, h1, hv⟩ := hk
      obtain ⟨C0, C, T, N, hty, hc, hasg⟩ := ho
      refine ev_liftW (h' := wQ h a i.toNat v) (c1 := 0) (s1 := 0) rfl rfl (fun hS hL hH hlo hc1 hs1 w => ?_) (k1 _)
      obtain ⟨g0, g1, g2⟩ := ev_arrQ hH hk ht.1 ht.2 (by omega)
      have hin := eI_in h0 h1 g1
      have hKK := hS.2.2.2.2.2.2.1
      have hAT := hKK.2.1 t (by omega) ht.2
      rw [hty] at hAT
      cases v with
      | none =>
        refine va_WaastN (C := C0) hS.1 hS.2.1 g2 (hAT.1 (xL h a) (fun j => va_rf (xQ h a j))) (fun q => by cases q) (by show ¬ (_ < 0 ∨ (arrV _ _ _).slots.size ≤ _); rw [arrV_size]; exact hin) rfl rfl hd fun H1 e1 e2 e3 => ?_
        obtain ⟨w1, w2⟩ := ev_sQ0 (v := none) hH hk ht.1 ht.2 h0 h1 e1 e2 e3
        exact w H1 _ w1 (t_lL hlo (by simp; exact w2))
      | some x =>
        have hx : xK h x = ec + 1 := by simpa [okQ] using hv
        obtain ⟨b0, r, hr, cell, c1, c2, c3, -⟩ := ev_obj hH hx (evC_lt hc)
        obtain ⟨kA, comp, k1, k2, k3, -⟩ := hAT.2
        obtain ⟨hfc, kC, hkC, -⟩ := (hKK.1.1 ec _ hc).2
        obtain ⟨kE, hkE, -⟩ := Vm.findClass_spec k3
        refine W.aast hS.1 hS.2.1 g2 (fun q h => by cases h) (fun h => by cases h) k1 k2 rfl hkE ⟨fun q => hin (Or.inl q), ?_⟩ c1 (fun q h => by rw [c3] at h; cases h) (by rw [c2]; exact hkC) (by rw [c2]; exact hasg _ _ hKK _ _ k3 hfc) rfl rfl hd fun H1 e1 e2 e3 => ?_
        · show _ < (arrV _ _ _).slots.size
          rw [arrV_size]
          exact Nat.not_le.mp fun q => hin (Or.inr q)
        · obtain ⟨w1, w2⟩ := ev_sQ0 (v := some x) hH hk ht.1 ht.2 h0 h1 e1 e2 e3
          exact w H1 _ w1 (t_lL hlo (by simp; exact w2))
    · exact ev_no
-- new objects and arrays
theorem ev_new (n : Nat) {ci N ix : Nat} {C : String} {T : u_T} {K : Option Nat → ev_hs → Option α} (hd : decode (mB M) pc = .ok (.new ix, 3)) (hck : ev_CK ci C T N) (hl : Cond.classLink (mY M).cls ix C ∈ evW) (hi : Cond.instantiable C N ∈ evW) (hini : Cond.initialized C ∈ evW) (hn : n = pc + 3) (k1 : ∀ z g, EvO E M d cv n lo (va_rf z :: st) g (K z g)) : EvO E M d cv pc lo st h (nO h ci N K) := by
  subst hn
  unfold nO
  refine ev_liftW (c1 := 1) (s1 := N) rfl rfl (fun hS hL hH hlo hc1 hs1 w => ?_) (k1 _ _)
  obtain ⟨hc, hin, ⟨ty0, hty0⟩, -⟩ := hck
  have hts := hS.2.2.2.2.2.1
  have hKn := hS.2.2.2.2.2.2.1.1.1 ci _ hc
  have hRo := hS.2.2.2.2.2.2.2
  have hx1 := hH.1
  refine W.newcK hS.1 hS.2.1 hS.2.2.2.1 (hts _ hl) (hts _ hi) (hts _ hini) rfl hd (by have := hRo.2.2.1; omega) (by have := hRo.2.2.2; omega) hKn.2.1 hx1 fun H1 kC hkC e1 z1 o1 => ?_
  refine w H1 _ (ev_H_new (t := ci + 1) hH (by omega) rfl rfl rfl rfl (by rw [z1, hx1]) (fun q hq => o1 q (by omega)) (fun b hb => ⟨by simp [wN, xL, va_up, hb], fun f => ?_, fun f => ?_, rfl, rfl⟩) (by simp [wN, xL, va_up]) ⟨fun c9 hc9 h49 => ?_, fun u1 u2 => ?_, fun u1 u2 => ?_, fun u1 => ?_⟩) hlo
  · simp [wN, xI, hb]
  · simp [wN, xR, hb]
  all_goals have e : xK (wN h ci N) (xZ h) = ci + 1 := (by simp [wN, xK, va_up])
  · rw [e] at hc9
    have : c9 = ci := by omega
    subst this
    refine ⟨_, hc, (u_born ty0 hts hin hKn hkC e1 (fun k hk => (hty0 k hk).1)).to (fun j hj => ?_)⟩
    have hg : (ev_fs (wN h c9 N) c9 (xZ h))[j]? = some (ev_fv (wN h c9 N) c9 (xZ h) j) := ev_fs_get hc hj
    simp only [vp_V, List.getD_eq_getElem?_getD, hg, Option.getD_some]
    obtain ⟨-, q0, q1, q2, h3⟩ := hty0 j hj
    unfold ev_fv evB
    by_cases hb : evF c9 j = 2
    · simp only [hb]
      simp only [wN, xR]
      rcases q2 hb with ⟨nm, e2⟩ | ⟨t, e2⟩ <;> rw [e2] <;> simp [defaultValue, va_rf]
    · have : (evF c9 j == 2) = false := by simp [hb]
      rw [this]
      simp only [wN, xI]
      by_cases hb0 : evF c9 j = 0
      · rw [q0 hb0]
        simp [defaultValue]
      · rw [q1 (by omega)]
        simp [defaultValue]
  all_goals (rw [e] at u1; have := evC_lt hc; omega)
end Rules4
section Rules5
variable {α : Type} {E : ev_E} {M : ev_M} {d : Nat} {cv : α → Option Value × ev_hs} {pc : Nat} {lo : List (Option Value)} {st : List Value} {h : ev_hs} {o : Option α}
theorem ev_nA0 {t N : Nat} {H H1 : Heap} (hH : ev_H E h H) (h1 : 50 ≤ t) (h2 : t ≤ 57) (hN : N < 2147483648) (e1 : t ≤ 51 → H1[xZ h]? = some (vp_cell (eA E t) (N, .inl (fun _ => 0)))) (e1' : 52 ≤ t → H1[xZ h]? = some (vp_cell (eA E t) (N, .inr (.inr (.inr (.inr (fun _ => none))))))) (z1 : H1.size = H.size + 1) (o1 : ∀ q, q < H.size → H1[q]? = H[q]?) : ev_H E (wY h t N) H1 := by
  have e : xK (wY h t N) (xZ h) = t := by simp [wY, xK, va_up]
  have el : xL (wY h t N) (xZ h) = N := by simp [wY, xL, va_up]
  have ea : xA (wY h t N) (xZ h) = fun _ => 0 := by simp [wY, xA, va_up]
  have eq : xQ (wY h t N) (xZ h) = fun _ => none := by simp [wY, xQ, va_up]
  refine ev_H_new (t := t) hH (by omega) rfl rfl rfl rfl z1 o1 (fun b hb => ⟨by simp [wY, xL, va_up, hb], fun f => rfl, fun f => rfl, by simp [wY, xA, va_up, hb], by simp [wY, xQ, va_up, hb]⟩) (by rw [el]; exact hN) ⟨fun c9 hc9 h49 => ?_, fun u1 u2 => ?_, fun u1 u2 => ?_, fun u1 => ?_⟩
  · rw [e] at hc9
    omega
  · rw [e, el, ea]
    rw [e] at u2
    exact e1 u2
  · rw [e, el, eq]
    rw [e] at u1
    exact Or.inl (e1' u1)
  · rw [e] at u1
    omega
theorem ev_newarray (n : Nat) {t : Nat} {ty : ArrayType} {z : Int} {K : Option Nat → ev_hs → Option α} (hd : decode (mB M) pc = .ok (.newarray ty, 2)) (ht : 50 ≤ t ∧ t ≤ 51) (hty : newarray.typeOf ty = evTy t) (hw : Cond.arrayClass (newarray.typeOf ty) ∈ evW) (hdv : defaultValue (newarray.typeOf ty) = .int 0) (hcb : componentBytes (newarray.typeOf ty) ≤ 4) (hra : ∀ (U : State) (cA : ClassId), va_RA U cA (evTy t) → U.vm.findClass ("[" ++ (newarray.typeOf ty).toString) = some cA) (hn : n = pc + 2) (k1 : ∀ z g, EvO E M d cv n lo (va_rf z :: st) g (K z g)) : EvO E M d cv pc lo (eI z :: st) h (nA h t z K) := by
  subst hn
  unfold nA
  split
  · rename_i hz
    obtain ⟨z0, z1⟩ := hz
    refine ev_liftW (c1 := 1) (s1 := z.toNat) rfl rfl (fun hS hL hH hlo hc1 hs1 w => ?_) (k1 _ _)
    have hts := hS.2.2.2.2.2.1
    have hRo := hS.2.2.2.2.2.2.2
    have hx1 := hH.1
    have hAT := hS.2.2.2.2.2.2.1.2.1 t (by omega) (by omega)
    refine va_newaK hS.1 hS.2.1 (hts _ hw) rfl hd rfl (eI_nneg z0 (by omega)) (N := z.toNat) (eI_cl z0 (by omega)) (Nat.le_trans (Nat.mul_le_mul_left _ hcb) (by omega)) (by have := hRo.2.2.1; omega) (by have := hRo.2.2.2; omega) hx1 fun H1 cA e1 z1 o1 hAr hNm => ?_
    have hcA : cA = eA E t := Option.some.inj (hNm.symm.trans (hra _ _ hAT.2))
    subst hcA
    refine w H1 _ (ev_nA0 hH ht.1 (by omega) (by omega) (fun _ => ?_) (fun q => by omega) (by rw [z1, hx1]) (fun q hq => o1 q (by omega))) hlo
    rw [e1, vp_cell_i, hdv]
  · exact ev_no
theorem ev_anewarray (n : Nat) {t ix : Nat} {C : String} {z : Int} {K : Option Nat → ev_hs → Option α} (hd : decode (mB M) pc = .ok (.anewarray ix, 3)) (ht : 52 ≤ t ∧ t ≤ 57) (hty : evTy t = .object C) (hl : Cond.classLink (mY M).cls ix C ∈ evW) (hov : ∀ U, ev_X U → va_AO C U) (hn : n = pc + 3) (k1 : ∀ z g, EvO E M d cv n lo (va_rf z :: st) g (K z g)) : EvO E M d cv pc lo (eI z :: st) h (nA h t z K) := by
  subst hn
  unfold nA
  split
  · rename_i hz
    obtain ⟨z0, z1⟩ := hz
    refine ev_liftW (c1 := 1) (s1 := z.toNat) rfl rfl (fun hS hL hH hlo hc1 hs1 w => ?_) (k1 _ _)
    have hts := hS.2.2.2.2.2.1
    have hRo := hS.2.2.2.2.2.2.2
    have hKK := hS.2.2.2.2.2.2.1
    have hx1 := hH.1
    have hAT := hKK.2.1 t (by omega) (by omega)
    rw [hty] at hAT
    have hcl : (Int32.ofInt z).toNatClampNeg = z.toNat := eI_cl z0 (by omega)
    refine W.anew hS.1 hS.2.1 hS.2.2.2.1 (hts _ hl) (va_AO.use (hov _ hKK.2.2.2.2.1)) rfl hd rfl (eI_nneg z0 (by omega)) (by rw [hcl]; omega) (by have := hRo.2.2.1; omega) (by rw [hcl]; have := hRo.2.2.2; omega) fun cA kA comp f1 f2 f3 f4 => ?_
    obtain ⟨-, -, -, -, -, hnm⟩ := hAT.2
    have hcA : cA = eA E t := Option.some.inj (f1.symm.trans hnm)
    subst hcA
    rw [hcl, hx1]
    refine w _ _ (ev_nA0 hH (by omega) ht.2 (by omega) (fun q => by omega) (fun _ => ?_) (by simp) (fun q hq => by rw [Array.getElem?_push, if_neg (Nat.ne_of_lt hq)])) hlo
    rw [← hx1, Array.getElem?_push_size, vp_cell_q]
    exact congrArg some (arrV_new _ _ _)
  · exact ev_no
theorem ev_objInit (n : Nat) {ix : Nat} {q : Option Nat} {j : Nat} (hd : decode (mB M) pc = .ok (.invokespecial ix, 3)) (hl : Cond.methodLink (mY M).cls ix Lib.objectInit ∈ evW) (hi : Cond.instanceMethod Lib.objectInit ∈ evW) (hc : Cond.code Lib.objectInit ⟨#[0xb1]⟩ 1 none ∈ evW) (hd1 : 1 ≤ d) (hsm : ev_sm st j) (hj : j ≤ 8) (hn : n = pc + 3) (k1 : EvO E M d cv n lo st h o) : EvO E M d cv pc lo (va_rf q :: st) h (nN q o) := by
  subst hn
  unfold nN
  cases q with
  | none => exact ev_no
  | some a =>
    refine ev_lift (fun hS hL w => ?_) k1
    have hts := hS.2.2.2.2.2.1
    have hRo := hS.2.2.2.2.2.2.2
    refine W.objInit hS.1 hS.2.1 hS.2.2.2.1 (hts _ hl) (hts _ hi) (hts _ hc) rfl (by rw [hS.2.2.1]; exact hL.1) rfl hd (by have := hRo.1; omega) ?_ w
    have h1 := hRo.2.1
    have h2 : (st.map fun v => v.category).sum ≤ 8 := Nat.le_trans hsm hj
    show 2 * 0 + _ + 12 ≤ _
    omega
theorem ev_getstatic (n : Nat) {ix : Nat} (hd : decode (mB M) pc = .ok (.getstatic ix, 3)) (hl : Cond.fieldLink (mY M).cls ix "java/util/ArrayList" "DEFAULTCAPACITY_EMPTY_ELEMENTDATA" "[Ljava/lang/Object;" ∈ evW) (hn : n = pc + 3) (k1 : EvO E M d cv n lo (va_rf (some (xE h)) :: st) h o) : EvO E M d cv pc lo st h o := by
  subst hn
  refine ev_liftH (fun hS hL hH hlo w => ?_) k1
  obtain ⟨x1, x2, x3, x4, x5, x6, x7⟩ := hH
  rw [x3] at w
  obtain ⟨cf, kf, fi, f, a, cell, h1, h2, h3, h4, h5, h6, h7, h8⟩ := hS.2.2.2.2.2.2.1.2.2.2.2.2.2.2.2
  refine W.gets hS.1 hS.2.1 hS.2.2.2.1 (hS.2.2.2.2.2.1 _ hl) h1 h2 h3 h4 (by rw [x6 a (by omega)]; exact h5) (fun e => by rw [e] at h6; cases h6) h7 rfl hd w
theorem ev_checkcastO (n : Nat) {ix ci N : Nat} {C : String} {T : u_T} {q : Option Nat} (hd : decode (mB M) pc = .ok (.checkcast ix, 3)) (hc : evC[ci]? = some (C, T, N)) (hl : Cond.classLink (mY M).cls ix C ∈ evW) (hn : n = pc + 3) (k1 : EvO E M d cv n lo (va_rf q :: st) h o) : EvO E M d cv pc lo (va_rf q :: st) h (eCc h ci q o) := by
  subst hn
  unfold eCc
  cases q with
  | none => exact ev_lift (fun hS _ w => lv_castN hS.1 hS.2.1 hd w) k1
  | some a =>
    dsimp only
    split
    · rename_i hk
      refine ev_liftH (fun hS hL hH hlo w => ?_) k1
      have hKK := hS.2.2.2.2.2.2.1
      obtain ⟨b0, r, hr, cell, c1, c2, c3, -⟩ := ev_obj hH hk (evC_lt hc)
      have hcl := (hKK.1.1 ci _ hc).2
      exact va_castS hS.1 hS.2.1 hS.2.2.2.1 (hS.2.2.2.2.2.1 _ hl) hcl ⟨cell, c1, by rw [c3]; rfl, by rw [c2]; exact hcl.1⟩ hd w
    · exact ev_no
theorem ev_checkcastA (n : Nat) {ix t : Nat} {C nm : String} {q : Option Nat} (hd : decode (mB M) pc = .ok (.checkcast ix, 3)) (ht : 52 ≤ t ∧ t ≤ 57) (hty : evTy t = .object C) (hnm : "[" ++ (FieldType.object C).toString = nm) (hl : Cond.classLink (mY M).cls ix nm ∈ evW) (hn : n = pc + 3) (k1 : EvO E M d cv n lo (va_rf q :: st) h o) : EvO E M d cv pc lo (va_rf q :: st) h (eCa h t q o) := by
  subst hn
  unfold eCa
  cases q with
  | none => exact ev_lift (fun hS _ w => lv_castN hS.1 hS.2.1 hd w) k1
  | some a =>
    dsimp only
    split
    · rename_i hk
      refine ev_liftH (fun hS hL hH hlo w => ?_) k1
      have hKK := hS.2.2.2.2.2.2.1
      obtain ⟨hk, hl0⟩ := hk
      obtain ⟨g0, g1, g2⟩ := ev_arrQ hH hk ht.1 ht.2 hl0
      have hAT := hKK.2.1 t (by omega) (by omega)
      rw [hty] at hAT
      exact va_castA (D := eD E) (cl := evC) hS.1 hS.2.1 hS.2.2.2.1 (hS.2.2.2.2.2.1 _ hl) (va_P1 (q := (a, .inl (eA E t, xL h a, .inr (.inr (.inr (.inr _)))))) g2) 0 rfl (va_nmO hAT.2 hnm) hd w
    · exact ev_no
theorem ev_ldcMirror (n : Nat) {ix : Nat} (hd : decode (mB M) pc = .ok (.ldc ix, 2)) (hl : Cond.classLink (mY M).cls ix "[Ljava/lang/Object;" ∈ evW) (hn : n = pc + 2) (k1 : EvO E M d cv n lo (va_rf (some (xM h)) :: st) h o) : EvO E M d cv pc lo st h o := by
  subst hn
  refine ev_liftH (fun hS hL hH hlo w => ?_) k1
  obtain ⟨x1, x2, x3, x4, x5, x6, x7⟩ := hH
  rw [x4] at w
  exact va_ldcM hS.1 hS.2.1 hS.2.2.2.1 (hS.2.2.2.2.2.1 _ hl) hS.2.2.2.2.2.2.1.2.2.2.2.2.2.1 hd w
theorem ev_getClass (n : Nat) {ix : Nat} {q : Option Nat} {j : Nat} {K : Option Nat → Option α} (hd : decode (mB M) pc = .ok (.invokevirtual ix, 3)) (hl : Cond.methodLink (mY M).cls ix ⟨"java/lang/Object", "getClass", "()Ljava/lang/Class;"⟩ ∈ evW)
    (hsel : Cond.selects "[Ljava/lang/Object;" ⟨"java/lang/Object", "getClass", "()Ljava/lang/Class;"⟩ ⟨"java/lang/Object", "getClass", "()Ljava/lang/Class;"⟩ ∈ evW) (hins : Cond.instanceMethod ⟨"java/lang/Object", "getClass", "()Ljava/lang/Class;"⟩ ∈ evW) (hnat : Cond.native ⟨"java/lang/Object", "getClass", "()Ljava/lang/Class;"⟩ ∈ evW) (hty : evTy 52 = .object "java/lang/Object") (hd1 : 1 ≤ d) (hsm : ev_sm st j) (hj : j ≤ 8) (hn : n = pc + 3)
    (k1 : ∀ z, EvO E M d cv n lo (va_rf z :: st) h (K z)) : EvO E M d cv pc lo (va_rf q :: st) h (eGc h 52 q K) := by
  subst hn
  unfold eGc
  cases q with
  | none => exact ev_no
  | some a =>
    dsimp only
    split
    · rename_i hk
      refine ev_liftH (fun hS hL hH hlo w => ?_) (k1 _)
      have hts := hS.2.2.2.2.2.1
      have hKK := hS.2.2.2.2.2.2.1
      have hRo := hS.2.2.2.2.2.2.2
      obtain ⟨hk, hl0⟩ := hk
      obtain ⟨g0, g1, g2⟩ := ev_arrQ hH hk (by omega) (by omega) hl0
      obtain ⟨x1, x2, x3, x4, x5, x6, x7⟩ := hH
      rw [x4] at w
      have hAT := hKK.2.1 52 (by omega) (by omega)
      rw [hty] at hAT
      refine va_getC (C := "[Ljava/lang/Object;") hS.1 hS.2.1 (by rw [hS.2.2.1]; exact hL.1.symm) hS.2.2.2.1 (hts _ hl) (va_Dc.use hKK.2.2.2.2.2.2.2.1) (hts _ hsel) (hts _ hins) (hts _ hnat) hKK.2.2.2.2.2.2.1 ⟨_, g2, rfl, ?_⟩ (by have := hRo.1; omega) ?_ hd w
      · exact va_nmO hAT.2 rfl
      · have h1 := hRo.2.1
        have h2 : (st.map fun v => v.category).sum ≤ 8 := Nat.le_trans hsm hj
        omega
    · exact ev_no
end Rules5
section Copy
variable {p : Program} {l : Launch} {e : Env} {R : Room} {s : State} {m : MethodId} {args : Array Value} {below : List Frame} {meth : Method} {c : Code} {H : Heap} {locs : List Loc} {cells slots : Nat} {Z : State → Prop}
variable {cc : ByteArray} {pc : Nat} {ls : Array Slot} {rest : List Value}
theorem ev_copy0 (hexec : p.tables.exec = Jvm.exec) (hb : c.code = cc) (hml : c.maxLocals = ls.size) {own : String} {index : Nat} (hown : s.vm.findClass own = some m.cls) (hlink : (Cond.methodLink own index arraycopyName).before args s = true) (hnat : (Cond.native arraycopyName).before args s = true) (hstat : (Cond.static arraycopyName).before args s = true) (hini : (Cond.initialized "java/lang/System").before args s = true)
    {a0 a n0 n1 : Nat} {cA : ClassId} {f g : Nat → Option Nat} {E1 C : String} (hc0 : H[a0]? = some (vp_cell cA (n0, .inr (.inr (.inr (.inr f)))))) (hc1 : H[a]? = some (vp_cell cA (n1, .inr (.inr (.inr (.inr g)))))) (hAT : ArrOfT s cA (.object E1)) (hRA : va_RA s cA (.object E1))
    {sp dp n : Int32} (h1 : ¬ sp < 0) (h2 : ¬ dp < 0) (h3 : ¬ n < 0) (h4 : sp.toNatClampNeg + n.toNatClampNeg ≤ n0) (h5 : dp.toNatClampNeg + n.toNatClampNeg ≤ n1)
    (hel : ∀ i : Nat, i < n.toNatClampNeg → ∀ y : Nat, f (sp.toNatClampNeg + i) = some y → ∃ cellV : Cell, H[y]? = some cellV ∧ cellV.vm.isStatics = false ∧ s.vm.findClass C = some cellV.cls) (hasg : ∀ comp c0 : ClassId, s.vm.findClass E1 = some comp → s.vm.findClass C = some c0 → s.vm.assignable c0 comp = true)
    (hframes : 1 ≤ R.frames) (hlocals : (rest.map fun v => v.category).sum + (nativeFrameWords "java/lang/System" "arraycopy" 5 + 11) ≤ R.locals) (hdg : decode cc pc = .ok (.invokestatic index, 3))
    (kk : ∀ (H1 : Heap) (locs1 : List Loc), H1[a]? = some (vp_cell cA (n1, .inr (.inr (.inr (.inr (va_cpy f g sp.toNatClampNeg dp.toNatClampNeg n.toNatClampNeg)))))) → H1.size = H.size → (∀ q, q ≠ a → H1[q]? = H[q]?) → (∀ q ∈ locs1, q ∈ locs ∨ q.base = a) → W p l e R s m args below meth c H1 locs1 cells slots Z (F0 m (pc + 3) ls rest)) :
    W p l e R s m args below meth c H locs cells slots Z (F0 m pc ls (.int n :: .int dp :: .ref a :: .int sp :: .ref a0 :: rest)) := by
  have nn : ∀ z : Int32, ¬ z < 0 → z.toInt = (z.toNatClampNeg : Int) := by
    intro z hz
    have hz0 : (0 : Int) ≤ z.toInt := by
      have := Int32.not_lt.mp hz
      simpa using Int32.le_iff_toInt_le.mp this
    show z.toInt = ((z.toInt.toNat : Nat) : Int)
    omega
  intro T hT X
  obtain ⟨-, k0, hk0, cm0, hkk0⟩ := hAT n0 (fun j => va_rf (f j))
  obtain ⟨kA, comp, r1, r2, r3, -⟩ := hRA
  cases hk0.symm.trans r1
  cases hkk0.symm.trans r2
  have hsz0 : (vp_cell cA (n0, .inr (.inr (.inr (.inr f))))).slots.size = n0 := by rw [vp_cell_q, arrV_size]
  have hsz1 : (vp_cell cA (n1, .inr (.inr (.inr (.inr g))))).slots.size = n1 := by rw [vp_cell_q, arrV_size]
  obtain ⟨vm', X', step⟩ := X.arraycopy hexec hown hlink hnat hstat hini (src := a0) (dst := a) (cs := vp_cell cA (n0, .inr (.inr (.inr (.inr f))))) (cd := vp_cell cA (n1, .inr (.inr (.inr (.inr g))))) (srcPos := sp) (destPos := dp) (n := n) (by rw [hT]; exact hc0) (by rw [hT]; exact hc1)
    (fun _ h => by cases h) (fun _ h => by cases h) (fun h => by cases h) (fun h => by cases h) hk0 hk0 hkk0 hkk0 rfl h1 h2 h3
    (by rw [nn sp h1, nn n h3, hsz0]; omega)
    (by rw [nn dp h2, nn n h3, hsz1]; omega)
    (fun vm₁ hal i hi => by
      have ee : (vp_cell cA (n0, .inr (.inr (.inr (.inr f))))).slots.getD (sp.toNatClampNeg + i) .null = va_rf (f (sp.toNatClampNeg + i)) := by
        show (arrV cA n0 (fun j => va_rf (f j))).slots.getD _ _ = _
        rw [Array.getD_eq_getD_getElem?, arrV_read _ _ (by omega)]
        rfl
      rw [ee]
      cases hy : f (sp.toNatClampNeg + i) with
      | none => exact ⟨rfl, trivial⟩
      | some y =>
        obtain ⟨cellV, g1, g2, g3⟩ := hel i hi y hy
        obtain ⟨kC, hkC, -⟩ := Vm.findClass_spec g3
        obtain ⟨kE, hkE, -⟩ := Vm.findClass_spec r3
        obtain ⟨kC', hkC', -⟩ := hal.2.2 _ _ hkC
        obtain ⟨kE', hkE', -⟩ := hal.2.2 _ _ hkE
        refine ⟨rfl, cellV, (show T.heap[y]? = some cellV by rw [hT]; exact g1), (fun q h => by rw [h] at g2; cases g2), ⟨kC', hkC'⟩, ⟨kE', hkE'⟩, ?_⟩
        show vm₁.assignable _ _ = true
        rw [hal.assignable]
        exact hasg _ _ r3 g3)
    (g := F0 m pc ls (.int n :: .int dp :: .ref a :: .int sp :: .ref a0 :: rest)) rfl (by rw [hml]) (rest := rest) rfl (by rw [hb]; exact hdg) hframes (by show 2 * 0 + _ + _ ≤ _; omega)
  have e1 : copied (vp_cell cA (n0, .inr (.inr (.inr (.inr f))))) (vp_cell cA (n1, .inr (.inr (.inr (.inr g))))) sp dp n = vp_cell cA (n1, .inr (.inr (.inr (.inr (va_cpy f g sp.toNatClampNeg dp.toNatClampNeg n.toNatClampNeg))))) := by
    rw [vp_cell_q, vp_cell_q, vp_cell_q]
    exact va_copied (fun z => va_rf z) cA cA f g h4
  rw [e1] at X' step
  have hl : a < T.heap.size := by
    rw [hT]
    exact (Array.getElem?_eq_some_iff.mp hc1).1
  obtain ⟨t, a1, b1⟩ := kk _ _ (heapAt_setCell_self (s := T.setVm vm') _ hl) (by rw [size_setCell]; exact congrArg _ hT) (fun q hq => by rw [heapAt_setCell_ne _ (Ne.symm hq)]; exact congrArg (fun X : Heap => X[q]?) hT) (fun q hq => by
      rcases List.mem_append.mp hq with h | h
      · exact Or.inl h
      · obtain ⟨z, -, hz⟩ := List.mem_map.mp h
        exact Or.inr (by rw [← hz])) _ rfl X'
  exact ⟨t, step t a1, b1⟩
end Copy
section Rules6
variable {α : Type} {E : ev_E} {M : ev_M} {d : Nat} {cv : α → Option Value × ev_hs} {pc : Nat} {lo : List (Option Value)} {st : List Value} {h : ev_hs} {o : Option α}
theorem ev_arraycopy (nx : Nat) {ec ix j : Nat} {q v : Option Nat} {sp dp n : Int} {K : ev_hs → Option α} (hd : decode (mB M) pc = .ok (.invokestatic ix, 3)) (hl : Cond.methodLink (mY M).cls ix arraycopyName ∈ evW) (hnat : Cond.native arraycopyName ∈ evW) (hstat : Cond.static arraycopyName ∈ evW) (hini : Cond.initialized "java/lang/System" ∈ evW) (ho : ev_AO 52 ec) (hd1 : 1 ≤ d) (hsm : ev_sm st j) (hj : j ≤ 8) (hn : nx = pc + 3)
    (k1 : ∀ g, EvO E M d cv nx lo st g (K g)) : EvO E M d cv pc lo (eI n :: eI dp :: va_rf v :: eI sp :: va_rf q :: st) h (cQ h 52 ec q sp v dp n K) := by
  subst hn
  cases q with
  | none => exact ev_no
  | some a0 =>
  cases v with
  | none => exact ev_no
  | some a =>
    unfold cQ
    dsimp only
    split
    · rename_i hk
      obtain ⟨hka, hkd, h1, h2, h3, h4, h5, h6, h7⟩ := hk
      obtain ⟨C0, C, T, N, hty, hc, hasg⟩ := ho
      refine ev_liftW (h' := wC h a0 sp.toNat a dp.toNat n.toNat) (c1 := 0) (s1 := 0) rfl rfl (fun hS hL hH hlo hc1 hs1 w => ?_) (k1 _)
      have hts := hS.2.2.2.2.2.1
      have hKK := hS.2.2.2.2.2.2.1
      have hRo := hS.2.2.2.2.2.2.2
      obtain ⟨g0, g1, g2⟩ := ev_arrQ hH hka (by omega) (by omega) (by omega)
      obtain ⟨b0, b1, b2⟩ := ev_arrQ hH hkd (by omega) (by omega) (by omega)
      have hAT := hKK.2.1 52 (by omega) (by omega)
      rw [hty] at hAT
      have c1 : (Int32.ofInt sp).toNatClampNeg = sp.toNat := eI_cl h1 (by omega)
      have c2 : (Int32.ofInt dp).toNatClampNeg = dp.toNat := eI_cl h2 (by omega)
      have c3 : (Int32.ofInt n).toNatClampNeg = n.toNat := eI_cl h3 (by omega)
      have hba : e0 E ≤ a := by omega
      refine ev_copy0 (C := C) hS.1 hS.2.1 (by rw [hS.2.2.1]; exact hL.1.symm) hS.2.2.2.1 (hts _ hl) (hts _ hnat) (hts _ hstat) (hts _ hini) g2 b2 hAT.1 hAT.2 (eI_nneg h1 (by omega)) (eI_nneg h2 (by omega)) (eI_nneg h3 (by omega)) (by rw [c1, c3]; omega) (by rw [c2, c3]; omega) (fun i hi y hy => ?_) (fun comp c0 => hasg _ _ hKK comp c0) (by have := hRo.1; omega) ?_ hd (fun H1 locs1 e1 e2 e3 e4 => ?_)
      · rw [c3] at hi
        rw [c1] at hy
        have hok : okQ h ec (xQ h a0 (sp.toNat + i)) = true := List.all_eq_true.mp h6 i (List.mem_range.mpr hi)
        rw [hy] at hok
        have hky : xK h y = ec + 1 := by simpa [okQ] using hok
        obtain ⟨-, r, hr, cell, d1, d2, d3, -⟩ := ev_obj hH hky (evC_lt hc)
        exact ⟨cell, d1, by rw [d3]; rfl, by rw [d2]; exact ((hKK.1.1 ec _ hc).2).1⟩
      · have h1 := hRo.2.1
        have h2 : (st.map fun v => v.category).sum ≤ 8 := Nat.le_trans hsm hj
        have h9 : nativeFrameWords "java/lang/System" "arraycopy" 5 ≤ 20 := by decide
        omega
      · rw [c1, c2, c3] at e1
        have ek : ∀ b, xK (wC h a0 sp.toNat a dp.toNat n.toNat) b = xK h b := fun b => rfl
        refine w H1 locs1 (ev_H_put hH rfl rfl rfl rfl rfl hba e2 e3 (fun b hb => ⟨fun f => rfl, fun f => rfl, rfl, ?_⟩) (fun _ => ⟨fun c9 hc9 h49 => ?_, fun u1 u2 => ?_, fun u1 u2 => ?_, fun u1 => ?_⟩)) (fun q hq => ?_)
        · funext j
          simp [wC, xQ, hb]
        · rw [ek, hkd] at hc9
          omega
        · rw [ek, hkd] at u2
          omega
        · have hq : xQ (wC h a0 sp.toNat a dp.toNat n.toNat) a = va_cpy (xQ h a0) (xQ h a) sp.toNat dp.toNat n.toNat := by
            funext j
            simp [va_cpy, wC, xQ]
          rw [ek, hkd, e1, hq]
          exact Or.inl rfl
        · rw [ek, hkd] at u1
          omega
        · rcases e4 q hq with h | h
          · exact hlo q h
          · rw [h]
            exact hba
    · exact ev_no
end Rules6
