/-! calls -/
def ev_Pc (E : ev_E) (As : List Value) (h : ev_hs) : Array Value → State → Prop := fun a U => a = As.toArray ∧ ev_H E h U.heap ∧ ev_K E U
def ev_Qc (E : ev_E) (x : Option Value × ev_hs) : Array Value → State → Outcome → State → Prop := fun _ _ oc t => oc = .returned x.1 ∧ ev_H E x.2 t.heap
def ev_ws (M : ev_M) : List Cond := Cond.code (mY M) (mB M) (mL M) (mR M) :: evW
def ev_rm (d : Nat) (h : ev_hs) (x : Option Value × ev_hs) : Room := { frames := d, cells := xC x.2 - xC h, slots := xS x.2 - xS h, locals := 40 * d }
theorem ev_args {As : List Value} (hc : ∀ v ∈ As, v.category = 1) {i : Nat} {v : Value} (hi : As[i]? = some v) (k : Nat) : (k + i, v) ∈ lv_args k As := by
  induction As generalizing i k with
  | nil => simp at hi
  | cons w r ih =>
    have hw : w.category = 1 := hc w List.mem_cons_self
    unfold lv_args
    cases i with
    | zero => simp at hi; subst hi; exact List.mem_cons_self
    | succ i =>
      simp only [List.getElem?_cons_succ] at hi
      rw [if_neg (by omega)]
      have := ih (fun v hv => hc v (List.mem_cons_of_mem _ hv)) hi (k + 1)
      rw [show k + 1 + i = k + (i + 1) by omega] at this
      exact List.mem_cons_of_mem _ this
theorem ev_sl {As : List Value} (hc : ∀ v ∈ As, v.category = 1) : (lg_sl As).length = As.length := by
  induction As with
  | nil => rfl
  | cons w r ih =>
    have hw : w.category = 1 := hc w List.mem_cons_self
    have h2 := ih (fun v hv => hc v (List.mem_cons_of_mem _ hv))
    unfold lg_sl at *
    simp only [List.flatMap_cons, hw, List.length_append, h2]
    simp
    omega
theorem ev_Zmoved {E : ev_E} {u U : State} (hW : u.WarmedH U.vm) (hK : ev_K E u) : ev_K E U := by
  obtain ⟨k1, k2, k3, k4, k5, ⟨k9, k10⟩, k6, k7, k8⟩ := hK
  have hal := hW.alike
  exact ⟨k1.moved hal, fun t h1 h2 => ⟨arrOfT_moved hal (k2 t h1 h2).1, (k2 t h1 h2).2.moved hal⟩, State.isArrayOf_alike hal k3, k4, ev_Xmoved hW k5, ⟨State.isArrayOf_alike hal k9, k10⟩, k6.moved hal, k7.moved hal, k8.moved hal⟩
theorem ev_met {E : ev_E} {M : ev_M} {d k : Nat} {As : List Value} {lo : List (Option Value)} {h : ev_hs} {x : Option Value × ev_hs} (hy : plainFor (mY M) = true) (hc : ∀ v ∈ As, v.category = 1) (hlen : As.length ≤ mL M) (hlo : lo = As.map some ++ List.replicate k none) (hE : Ev E M d 0 lo [] h x) :
    Met (eLa E) (mY M) (ev_ws M) (ev_rm d h x) (ev_Pc E As h) (ev_Qc E x) (xC x.2 - xC h) (xS x.2 - xS h) (fun q => e0 E ≤ q) := by
  refine va_MetF (cc := mB M) (maxL := mL M) (ret := mR M) hy rfl ?_
  intro p e s m args below meth c s₁ B hml hv
  obtain ⟨rfl, hH, hK⟩ := hv
  have hts := atoms_spec (ws := ev_ws M) B.pre
  have hown : s.vm.findClass (mY M).cls = some m.cls := findClass_of_methodNamed B.named
  have hnm : meth.name = (mY M).name := (name_of_methodNamed B.named B.method).1
  have hl := lv_entry As (n := mL M) (by rw [ev_sl hc]; exact hlen)
  rw [lg_entry_eq]
  generalize (lg_sl As ++ List.replicate (mL M - (lg_sl As).length) Slot.unset).toArray = ls at hl ⊢
  refine hE.2.2 p e _ s m _ below meth c _ (xC x.2 - xC h) (xS x.2 - xS h) ⟨B.exec, B.bytes, hml, hown, fun q => hnm.trans q, fun w hw => hts w (List.mem_cons_of_mem _ hw), hK, ⟨Nat.le_refl _, Nat.le_refl _, Nat.le_refl _, Nat.le_refl _⟩⟩ ?_ s.heap [] 0 0 ls hH (fun q hq => by cases hq) ⟨hl.1, hl.2.1, fun i v hi => ?_⟩ (Nat.le_of_eq (Nat.zero_add _)) (Nat.le_of_eq (Nat.zero_add _))
  · intro H locs pc ls' st hH' hl' hV
    rcases hV with ⟨hd, v, ty, e1, rfl, hr, hn⟩ | ⟨hd, r, rt, e1, rfl, hr, hrt⟩ | ⟨hd, e1, rfl, hr⟩
    · exact W.zret B.exec B.bytes (B.returns.trans hr) hn (fun t ht hW => ⟨by rw [e1], by rw [ht]; exact hH'⟩) hl' hd (hlocks := B.notSynchronized)
    · exact W.aret B.exec B.bytes (B.returns.trans hr) hrt (by cases r with | none => exact Or.inl rfl | some a => exact Or.inr ⟨a, rfl⟩) (fun t ht hW => ⟨by rw [e1], by rw [ht]; exact hH'⟩) hl' hd (hlocks := B.notSynchronized)
    · exact W.vret B.exec B.bytes (B.returns.trans hr) (fun t ht hW => ⟨by rw [e1], by rw [ht]; exact hH'⟩) hl' hd (hlocks := B.notSynchronized)
  · have hA : As[i]? = some v := by
      subst hlo
      by_cases hi2 : i < As.length
      · rw [List.getElem?_append_left (by simpa using hi2), List.getElem?_map] at hi
        cases hw : As[i]? with
        | none => rw [hw] at hi; cases hi
        | some w => rw [hw] at hi; simp at hi; rw [hi]
      · rw [List.getElem?_append_right (by simpa using hi2)] at hi
        have := List.eq_of_mem_replicate (List.mem_of_getElem? hi)
        cases this
    have := ev_args hc hA 0
    rw [Nat.zero_add] at this
    exact ⟨hl.2.2 _ this, hc v (List.mem_of_getElem? hA)⟩
theorem ev_good {M : ev_M} (hc : Cond.code (mY M) (mB M) (mL M) (mR M) ∈ evW) : GoodIn evW (ev_ws M) := by
  intro w hw
  rcases List.mem_cons.mp hw with rfl | hw
  · exact ⟨hc, Or.inl rfl⟩
  · exact ⟨hw, evW_good w hw⟩
-- the words of a call: virtual (the receiver of class ci), static, a constructor
def ev_CB (M' : ev_M) (n : Nat) : Prop := Cond.code (mY M') (mB M') (mL M') (mR M') ∈ evW ∧ Cond.initialized (mY M').cls ∈ evW ∧ ((mY M').cls ≠ "java/lang/invoke/MethodHandle" ∧ (mY M').cls ≠ "java/lang/invoke/VarHandle" ∧ (parseMethodDescriptor (mY M').desc).map (fun d => d.parameters.length) = some n) ∧ mL M' ≤ 21 ∧ plainFor (mY M') = true
def ev_CV (own : String) (ix ci : Nat) (M' : ev_M) (n : Nat) : Prop := ev_CB M' n ∧ Cond.methodLink own ix (mY M') ∈ evW ∧ Cond.instanceMethod (mY M') ∈ evW ∧ Cond.selects (mY M').cls (mY M') (mY M') ∈ evW ∧ ∃ (T : u_T) (N : Nat), evC[ci]? = some ((mY M').cls, T, N)
def ev_CI (own : String) (ix : Nat) (M' : ev_M) (n : Nat) : Prop := ev_CB M' n ∧ Cond.methodLink own ix (mY M') ∈ evW ∧ Cond.instanceMethod (mY M') ∈ evW ∧ (mY M').name = "<init>" ∧ mR M' = none
def ev_CS (own : String) (ix : Nat) (M' : ev_M) (n : Nat) : Prop := ev_CB M' n ∧ Cond.methodLink own ix (mY M') ∈ evW ∧ Cond.static (mY M') ∈ evW
def ev_CN (own : String) (ix : Nat) (M' : ev_M) (n : Nat) : Prop := ev_CB M' n ∧ (∃ host, ∀ U, ev_X U → va_Nw (.methodLinkNest own ix (mY M') host) U) ∧ Cond.static (mY M') ∈ evW
section Call0
variable {p : Program} {e : Env} {R : Room} {s : State} {m : MethodId} {args : Array Value} {below : List Frame} {meth : Method} {c : Code} {H : Heap} {locs : List Loc} {cells slots : Nat} {Z : State → Prop}
variable {pc : Nat} {ls : Array Slot} {st st0 : List Value} {E : ev_E} {M M' : ev_M} {d d' mc ms n ix j k : Nat} {h : ev_hs} {x : Option Value × ev_hs} {As : List Value} {lo' : List (Option Value)}
theorem ev_runW {mc1 ms1 : Nat} {a : Array Value} (hr : va_Run p (eLa E) e R s m args below meth c H locs cells slots mc1 ms1 (F0 m pc ls st0) st (ev_Qc E x a) (fun q => e0 E ≤ q)) (hl : ∀ q ∈ locs, e0 E ≤ q.base)
    (kk : ∀ (H1 : Heap) (locs1 : List Loc), ev_H E x.2 H1 → (∀ q ∈ locs1, e0 E ≤ q.base) → W p (eLa E) e R s m args below meth c H1 locs1 (cells + mc1) (slots + ms1) Z (F0 m (pc + 3) ls (x.1.toList ++ st))) : W p (eLa E) e R s m args below meth c H locs cells slots Z (F0 m pc ls st0) := by
  intro T hT X
  obtain ⟨v, st₀, t, T', L, h0, X', hL, e1, e2, ⟨hv, hh⟩, stp⟩ := hr T hT X
  cases hv
  obtain ⟨t2, a1, b1⟩ := kk T'.heap (locs ++ L) (by rw [e1]; exact hh) (t_lL hl hL) T' rfl X'
  exact ⟨t2, stp t2 a1, b1⟩
theorem ev_blind : FrameBlind (ev_Pc E As h) := fun _ _ _ _ q => q
theorem ev_fixC (hS : ev_S E M d mc ms p R s m args meth c) (hL : ls.size = mL M) : CallFix p m c (mB M) (mL M) s args evW (mY M).cls := ⟨hS.1, hS.2.1, hS.2.2.1, hS.2.2.2.1, hS.2.2.2.2.2.1⟩
theorem ev_room (hRo : ev_Ro d mc ms R) (hd : d' + 1 ≤ d) (hm : mL M' ≤ 21) : (ev_rm d' h x).frames + 1 ≤ R.frames ∧ 8 + (mL M' + 11) + (ev_rm d' h x).locals ≤ R.locals := by
  obtain ⟨r1, r2, -, -⟩ := hRo
  show d' + 1 ≤ R.frames ∧ 8 + (mL M' + 11) + 40 * d' ≤ R.locals
  omega
theorem ev_runV {ci b : Nat} (hS : ev_S E M d mc ms p R s m args meth c) (hLs : ls.size = mL M) (hH : ev_H E h H) (hw : ev_CV (mY M).cls ix ci M' n) (hk : xK h b = ci + 1) (hd' : d' + 1 ≤ d) (hc : ∀ v ∈ As, v.category = 1) (hn : As.length = n) (hlen : n + 1 ≤ mL M') (hlo : lo' = (Value.ref b :: As).map some ++ List.replicate k none) (hE : Ev E M' d' 0 lo' [] h x)
    (hst : st0 = As.reverse ++ .ref b :: st) (hsm : ev_sm st j) (hj : j ≤ 8) (hdg : decode (mB M) pc = .ok (.invokevirtual ix, 3)) (hcl : cells + (xC x.2 - xC h) ≤ mc) (hsl : slots + (xS x.2 - xS h) ≤ ms) :
    va_Run p (eLa E) e R s m args below meth c H locs cells slots (xC x.2 - xC h) (xS x.2 - xS h) (F0 m pc ls st0) st (ev_Qc E x (Value.ref b :: As).toArray) (fun q => e0 E ≤ q) := by
  obtain ⟨⟨w1, w2, w3, w4, w5⟩, w6, w7, w8, T, N, w9⟩ := hw
  have hts := hS.2.2.2.2.2.1
  have hKK := hS.2.2.2.2.2.2.1
  have hRo := hS.2.2.2.2.2.2.2
  obtain ⟨b0, r, hr, cell, c1, c2, c3, -⟩ := ev_obj hH hk (evC_lt w9)
  refine va_runV (nL := mL M) (C := (mY M').cls) (ev_fixC hS hLs) (ev_met (k := k) w5 (fun v hv => ?_) (by simp; omega) hlo hE) ⟨callB_of n hts (ev_good w1) rfl rfl rfl (hts _ w2) (hts _ w6) w3 (ev_room hRo hd' w4), hts _ w7, hts _ w8⟩ ⟨ev_blind, ⟨cell, c1, by rw [c3]; rfl, by rw [c2]; exact ((hKK.1.1 ci _ w9).2).1⟩, fun U hU hW => ⟨rfl, by rw [hU]; exact hH, ev_Zmoved hW hKK⟩⟩ rfl hn hLs hst (Nat.le_trans (by show 2 * 0 + _ ≤ j; rw [Nat.mul_zero, Nat.zero_add]; exact hsm) hj) hdg ⟨by have := hRo.2.2.1; omega, by have := hRo.2.2.2; omega⟩
  rcases List.mem_cons.mp hv with rfl | hv
  · rfl
  · exact hc v hv
theorem ev_runI {b : Nat} (hS : ev_S E M d mc ms p R s m args meth c) (hLs : ls.size = mL M) (hH : ev_H E h H) (hw : ev_CI (mY M).cls ix M' n) (hd' : d' + 1 ≤ d) (hc : ∀ v ∈ As, v.category = 1) (hn : As.length = n) (hlen : n + 1 ≤ mL M') (hlo : lo' = (Value.ref b :: As).map some ++ List.replicate k none) (hE : Ev E M' d' 0 lo' [] h x)
    (hst : st0 = As.reverse ++ .ref b :: st) (hsm : ev_sm st j) (hj : j ≤ 8) (hdg : decode (mB M) pc = .ok (.invokespecial ix, 3)) (hcl : cells + (xC x.2 - xC h) ≤ mc) (hsl : slots + (xS x.2 - xS h) ≤ ms) :
    va_Run p (eLa E) e R s m args below meth c H locs cells slots (xC x.2 - xC h) (xS x.2 - xS h) (F0 m pc ls st0) st (ev_Qc E x (Value.ref b :: As).toArray) (fun q => e0 E ≤ q) := by
  obtain ⟨⟨w1, w2, w3, w4, w5⟩, w6, w7, w8, w9⟩ := hw
  have hts := hS.2.2.2.2.2.1
  have hKK := hS.2.2.2.2.2.2.1
  have hRo := hS.2.2.2.2.2.2.2
  have hM := ev_met (k := k) w5 (As := Value.ref b :: As) (fun v hv => by
    rcases List.mem_cons.mp hv with rfl | hv
    · rfl
    · exact hc v hv) (by simp; omega) hlo hE
  have hcb := callB_of n hts (ev_good w1) rfl rfl rfl (hts _ w2) (hts _ w6) w3 (ev_room (h := h) (x := x) hRo hd' w4)
  rw [w9] at hcb
  exact va_runI (nL := mL M) (ev_fixC hS hLs) hM ⟨hcb, w8, hts _ w7⟩ ⟨ev_blind, fun U hU hW => ⟨rfl, by rw [hU]; exact hH, ev_Zmoved hW hKK⟩⟩ rfl hn hLs hst (Nat.le_trans (by show 2 * 0 + _ ≤ j; rw [Nat.mul_zero, Nat.zero_add]; exact hsm) hj) hdg ⟨by have := hRo.2.2.1; omega, by have := hRo.2.2.2; omega⟩
theorem ev_runS (hS : ev_S E M d mc ms p R s m args meth c) (hLs : ls.size = mL M) (hH : ev_H E h H) (hw : ev_CS (mY M).cls ix M' n) (hd' : d' + 1 ≤ d) (hc : ∀ v ∈ As, v.category = 1) (hn : As.length = n) (hlen : n ≤ mL M') (hlo : lo' = As.map some ++ List.replicate k none) (hE : Ev E M' d' 0 lo' [] h x)
    (hst : st0 = As.reverse ++ st) (hsm : ev_sm st j) (hj : j ≤ 8) (hdg : decode (mB M) pc = .ok (.invokestatic ix, 3)) (hcl : cells + (xC x.2 - xC h) ≤ mc) (hsl : slots + (xS x.2 - xS h) ≤ ms) :
    va_Run p (eLa E) e R s m args below meth c H locs cells slots (xC x.2 - xC h) (xS x.2 - xS h) (F0 m pc ls st0) st (ev_Qc E x As.toArray) (fun q => e0 E ≤ q) := by
  obtain ⟨⟨w1, w2, w3, w4, w5⟩, w6, w7⟩ := hw
  have hts := hS.2.2.2.2.2.1
  have hKK := hS.2.2.2.2.2.2.1
  have hRo := hS.2.2.2.2.2.2.2
  exact va_runS (nL := mL M) (ev_fixC hS hLs) (ev_met (k := k) w5 hc (by omega) hlo hE) ⟨callB_of n hts (ev_good w1) rfl rfl rfl (hts _ w2) (hts _ w6) w3 (ev_room hRo hd' w4), hts _ w7⟩ ⟨ev_blind, fun U hU hW => ⟨rfl, by rw [hU]; exact hH, ev_Zmoved hW hKK⟩⟩ rfl hn hLs hst (Nat.le_trans (by show 2 * 0 + _ ≤ j; rw [Nat.mul_zero, Nat.zero_add]; exact hsm) hj) hdg ⟨by have := hRo.2.2.1; omega, by have := hRo.2.2.2; omega⟩
theorem ev_runN (hS : ev_S E M d mc ms p R s m args meth c) (hLs : ls.size = mL M) (hH : ev_H E h H) (hw : ev_CN (mY M).cls ix M' n) (hd' : d' + 1 ≤ d) (hc : ∀ v ∈ As, v.category = 1) (hn : As.length = n) (hlen : n ≤ mL M') (hlo : lo' = As.map some ++ List.replicate k none) (hE : Ev E M' d' 0 lo' [] h x)
    (hst : st0 = As.reverse ++ st) (hsm : ev_sm st j) (hj : j ≤ 8) (hdg : decode (mB M) pc = .ok (.invokestatic ix, 3)) (hcl : cells + (xC x.2 - xC h) ≤ mc) (hsl : slots + (xS x.2 - xS h) ≤ ms) :
    va_Run p (eLa E) e R s m args below meth c H locs cells slots (xC x.2 - xC h) (xS x.2 - xS h) (F0 m pc ls st0) st (ev_Qc E x As.toArray) (fun q => e0 E ≤ q) := by
  obtain ⟨⟨w1, w2, w3, w4, w5⟩, ⟨host, w6⟩, w7⟩ := hw
  have hts := hS.2.2.2.2.2.1
  have hKK := hS.2.2.2.2.2.2.1
  have hRo := hS.2.2.2.2.2.2.2
  exact va_runSN (nL := mL M) (ev_fixC hS hLs) (ev_met (k := k) w5 hc (by omega) hlo hE) ⟨va_cnB n hts (ev_good w1) rfl rfl rfl (w6 _ hKK.2.2.2.2.1) (hts _ w2) w3 (ev_room hRo hd' w4), hts _ w7, trivial⟩ ⟨ev_blind, fun U hU hW => ⟨rfl, by rw [hU]; exact hH, ev_Zmoved hW hKK⟩⟩ rfl hn hLs hst (Nat.le_trans (by show 2 * 0 + _ ≤ j; rw [Nat.mul_zero, Nat.zero_add]; exact hsm) hj) hdg ⟨by have := hRo.2.2.1; omega, by have := hRo.2.2.2; omega⟩
end Call0
-- a call, then what is behind it
theorem ev_callE {α : Type} {E : ev_E} {M : ev_M} {d : Nat} {cv : α → Option Value × ev_hs} {pc : Nat} {lo : List (Option Value)} {st st0 : List Value} {h : ev_hs} {o : Option α} {x : Option Value × ev_hs} (hm : xC h ≤ xC x.2 ∧ xS h ≤ xS x.2)
    (run : ∀ {p : Program} {e : Env} {R : Room} {s : State} {m : MethodId} {args : Array Value} {below : List Frame} {meth : Method} {c : Code} {H : Heap} {locs : List Loc} {cells slots : Nat} {ls : Array Slot} {mc ms : Nat},
      ev_S E M d mc ms p R s m args meth c → ls.size = mL M → ev_H E h H → cells + (xC x.2 - xC h) ≤ mc → slots + (xS x.2 - xS h) ≤ ms →
      ∃ a, va_Run p (eLa E) e R s m args below meth c H locs cells slots (xC x.2 - xC h) (xS x.2 - xS h) (F0 m pc ls st0) st (ev_Qc E x a) (fun q => e0 E ≤ q))
    (k1 : EvO E M d cv (pc + 3) lo (x.1.toList ++ st) x.2 o) : EvO E M d cv pc lo st0 h o := by
  intro y hy
  obtain ⟨h1, h2, h3⟩ := k1 y hy
  refine ⟨by omega, by omega, fun p e R s m args below meth c Z mc ms hS hT H locs cells slots ls hH hl hL hc hs => ?_⟩
  obtain ⟨a, hr⟩ := run (p := p) (e := e) (below := below) (locs := locs) (cells := cells) (slots := slots) hS hL.1 hH (by omega) (by omega)
  exact ev_runW hr hl (fun H1 locs1 hH1 hl1 => h3 p e R s m args below meth c Z mc ms hS hT H1 locs1 (cells + (xC x.2 - xC h)) (slots + (xS x.2 - xS h)) ls hH1 hl1 hL (by omega) (by omega))
section Calls
variable {α : Type} {E : ev_E} {M M' : ev_M} {d d' ix j kk : Nat} {cv : α → Option Value × ev_hs} {pc : Nat} {lo : List (Option Value)} {st : List Value} {h : ev_hs}
theorem ev_ci0V (nx : Nat) {q : Option Nat} {o' : Option (ev_hs)} {K : ev_hs → Option α} (hd : decode (mB M) pc = .ok (.invokespecial ix, 3)) (hw : ev_CI (mY M).cls ix M' 0) (hd' : d' + 1 ≤ d) (hlen : 1 ≤ mL M')  (hsm : ev_sm st j) (hj : j ≤ 8) (hn : nx = pc + 3) (hcal : EvO E M' d' cvV 0 (some (va_rf q) :: List.replicate kk none) [] h o') (k1 : ∀ g, EvO E M d cv nx lo st g (K g)) : EvO E M d cv pc lo (va_rf q :: st) h (nN q (bV o' K)) := by
  subst hn
  unfold nN
  cases q with
  | none => exact ev_no
  | some b =>
  dsimp only
  unfold bV
  cases ho : o' with
  | none => exact ev_no
  | some y =>
    have hm := hcal y ho
    exact ev_callE (x := cvV y) ⟨hm.1, hm.2.1⟩ (fun hS hLs hH hcl hsl => ⟨_, ev_runI (As := []) (k := kk) hS hLs hH hw hd' (fun v hv => by cases hv) rfl hlen rfl (hcal y ho) rfl hsm hj hd hcl hsl⟩) (k1 y)
theorem ev_ci1V (nx : Nat) {q : Option Nat} {v1 : Value} {o' : Option (ev_hs)} {K : ev_hs → Option α} (hd : decode (mB M) pc = .ok (.invokespecial ix, 3)) (hw : ev_CI (mY M).cls ix M' 1) (hd' : d' + 1 ≤ d) (hlen : 2 ≤ mL M') (h1 : v1.category = 1) (hsm : ev_sm st j) (hj : j ≤ 8) (hn : nx = pc + 3) (hcal : EvO E M' d' cvV 0 (some (va_rf q) :: some v1 :: List.replicate kk none) [] h o') (k1 : ∀ g, EvO E M d cv nx lo st g (K g)) : EvO E M d cv pc lo (v1 :: va_rf q :: st) h (nN q (bV o' K)) := by
  subst hn
  unfold nN
  cases q with
  | none => exact ev_no
  | some b =>
  dsimp only
  unfold bV
  cases ho : o' with
  | none => exact ev_no
  | some y =>
    have hm := hcal y ho
    exact ev_callE (x := cvV y) ⟨hm.1, hm.2.1⟩ (fun hS hLs hH hcl hsl => ⟨_, ev_runI (As := [v1]) (k := kk) hS hLs hH hw hd' (fun v hv => by simp only [List.mem_cons, List.not_mem_nil, or_false] at hv; rcases hv with rfl <;> assumption) rfl hlen rfl (hcal y ho) rfl hsm hj hd hcl hsl⟩) (k1 y)
theorem ev_ci2V (nx : Nat) {q : Option Nat} {v1 v2 : Value} {o' : Option (ev_hs)} {K : ev_hs → Option α} (hd : decode (mB M) pc = .ok (.invokespecial ix, 3)) (hw : ev_CI (mY M).cls ix M' 2) (hd' : d' + 1 ≤ d) (hlen : 3 ≤ mL M') (h1 : v1.category = 1) (h2 : v2.category = 1) (hsm : ev_sm st j) (hj : j ≤ 8) (hn : nx = pc + 3) (hcal : EvO E M' d' cvV 0 (some (va_rf q) :: some v1 :: some v2 :: List.replicate kk none) [] h o') (k1 : ∀ g, EvO E M d cv nx lo st g (K g)) : EvO E M d cv pc lo (v2 :: v1 :: va_rf q :: st) h (nN q (bV o' K)) := by
  subst hn
  unfold nN
  cases q with
  | none => exact ev_no
  | some b =>
  dsimp only
  unfold bV
  cases ho : o' with
  | none => exact ev_no
  | some y =>
    have hm := hcal y ho
    exact ev_callE (x := cvV y) ⟨hm.1, hm.2.1⟩ (fun hS hLs hH hcl hsl => ⟨_, ev_runI (As := [v1, v2]) (k := kk) hS hLs hH hw hd' (fun v hv => by simp only [List.mem_cons, List.not_mem_nil, or_false] at hv; rcases hv with rfl | rfl <;> assumption) rfl hlen rfl (hcal y ho) rfl hsm hj hd hcl hsl⟩) (k1 y)
theorem ev_ci3V (nx : Nat) {q : Option Nat} {v1 v2 v3 : Value} {o' : Option (ev_hs)} {K : ev_hs → Option α} (hd : decode (mB M) pc = .ok (.invokespecial ix, 3)) (hw : ev_CI (mY M).cls ix M' 3) (hd' : d' + 1 ≤ d) (hlen : 4 ≤ mL M') (h1 : v1.category = 1) (h2 : v2.category = 1) (h3 : v3.category = 1) (hsm : ev_sm st j) (hj : j ≤ 8) (hn : nx = pc + 3) (hcal : EvO E M' d' cvV 0 (some (va_rf q) :: some v1 :: some v2 :: some v3 :: List.replicate kk none) [] h o') (k1 : ∀ g, EvO E M d cv nx lo st g (K g)) : EvO E M d cv pc lo (v3 :: v2 :: v1 :: va_rf q :: st) h (nN q (bV o' K)) := by
  subst hn
  unfold nN
  cases q with
  | none => exact ev_no
  | some b =>
  dsimp only
  unfold bV
  cases ho : o' with
  | none => exact ev_no
  | some y =>
    have hm := hcal y ho
    exact ev_callE (x := cvV y) ⟨hm.1, hm.2.1⟩ (fun hS hLs hH hcl hsl => ⟨_, ev_runI (As := [v1, v2, v3]) (k := kk) hS hLs hH hw hd' (fun v hv => by simp only [List.mem_cons, List.not_mem_nil, or_false] at hv; rcases hv with rfl | rfl | rfl <;> assumption) rfl hlen rfl (hcal y ho) rfl hsm hj hd hcl hsl⟩) (k1 y)
theorem ev_ci7V (nx : Nat) {q : Option Nat} {v1 v2 v3 v4 v5 v6 v7 : Value} {o' : Option (ev_hs)} {K : ev_hs → Option α} (hd : decode (mB M) pc = .ok (.invokespecial ix, 3)) (hw : ev_CI (mY M).cls ix M' 7) (hd' : d' + 1 ≤ d) (hlen : 8 ≤ mL M') (h1 : v1.category = 1) (h2 : v2.category = 1) (h3 : v3.category = 1) (h4 : v4.category = 1) (h5 : v5.category = 1) (h6 : v6.category = 1) (h7 : v7.category = 1) (hsm : ev_sm st j) (hj : j ≤ 8) (hn : nx = pc + 3) (hcal : EvO E M' d' cvV 0 (some (va_rf q) :: some v1 :: some v2 :: some v3 :: some v4 :: some v5 :: some v6 :: some v7 :: List.replicate kk none) [] h o') (k1 : ∀ g, EvO E M d cv nx lo st g (K g)) : EvO E M d cv pc lo (v7 :: v6 :: v5 :: v4 :: v3 :: v2 :: v1 :: va_rf q :: st) h (nN q (bV o' K)) := by
  subst hn
  unfold nN
  cases q with
  | none => exact ev_no
  | some b =>
  dsimp only
  unfold bV
  cases ho : o' with
  | none => exact ev_no
  | some y =>
    have hm := hcal y ho
    exact ev_callE (x := cvV y) ⟨hm.1, hm.2.1⟩ (fun hS hLs hH hcl hsl => ⟨_, ev_runI (As := [v1, v2, v3, v4, v5, v6, v7]) (k := kk) hS hLs hH hw hd' (fun v hv => by simp only [List.mem_cons, List.not_mem_nil, or_false] at hv; rcases hv with rfl | rfl | rfl | rfl | rfl | rfl | rfl <;> assumption) rfl hlen rfl (hcal y ho) rfl hsm hj hd hcl hsl⟩) (k1 y)
theorem ev_cn1I (nx : Nat) {v1 : Value} {o' : Option (Int × ev_hs)} {K : Int → ev_hs → Option α} (hd : decode (mB M) pc = .ok (.invokestatic ix, 3)) (hw : ev_CN (mY M).cls ix M' 1) (hd' : d' + 1 ≤ d) (hlen : 1 ≤ mL M') (h1 : v1.category = 1) (hsm : ev_sm st j) (hj : j ≤ 8) (hn : nx = pc + 3) (hcal : EvO E M' d' cvI 0 (some v1 :: List.replicate kk none) [] h o') (k1 : ∀ z g, EvO E M d cv nx lo (eI z :: st) g (K z g)) : EvO E M d cv pc lo (v1 :: st) h (bI o' K) := by
  subst hn
  unfold bI
  cases ho : o' with
  | none => exact ev_no
  | some y =>
    have hm := hcal y ho
    exact ev_callE (x := cvI y) ⟨hm.1, hm.2.1⟩ (fun hS hLs hH hcl hsl => ⟨_, ev_runN (As := [v1]) (k := kk) hS hLs hH hw hd' (fun v hv => by simp only [List.mem_cons, List.not_mem_nil, or_false] at hv; rcases hv with rfl <;> assumption) rfl hlen rfl (hcal y ho) rfl hsm hj hd hcl hsl⟩) (k1 y.1 y.2)
theorem ev_cs1I (nx : Nat) {v1 : Value} {o' : Option (Int × ev_hs)} {K : Int → ev_hs → Option α} (hd : decode (mB M) pc = .ok (.invokestatic ix, 3)) (hw : ev_CS (mY M).cls ix M' 1) (hd' : d' + 1 ≤ d) (hlen : 1 ≤ mL M') (h1 : v1.category = 1) (hsm : ev_sm st j) (hj : j ≤ 8) (hn : nx = pc + 3) (hcal : EvO E M' d' cvI 0 (some v1 :: List.replicate kk none) [] h o') (k1 : ∀ z g, EvO E M d cv nx lo (eI z :: st) g (K z g)) : EvO E M d cv pc lo (v1 :: st) h (bI o' K) := by
  subst hn
  unfold bI
  cases ho : o' with
  | none => exact ev_no
  | some y =>
    have hm := hcal y ho
    exact ev_callE (x := cvI y) ⟨hm.1, hm.2.1⟩ (fun hS hLs hH hcl hsl => ⟨_, ev_runS (As := [v1]) (k := kk) hS hLs hH hw hd' (fun v hv => by simp only [List.mem_cons, List.not_mem_nil, or_false] at hv; rcases hv with rfl <;> assumption) rfl hlen rfl (hcal y ho) rfl hsm hj hd hcl hsl⟩) (k1 y.1 y.2)
theorem ev_cs2I (nx : Nat) {v1 v2 : Value} {o' : Option (Int × ev_hs)} {K : Int → ev_hs → Option α} (hd : decode (mB M) pc = .ok (.invokestatic ix, 3)) (hw : ev_CS (mY M).cls ix M' 2) (hd' : d' + 1 ≤ d) (hlen : 2 ≤ mL M') (h1 : v1.category = 1) (h2 : v2.category = 1) (hsm : ev_sm st j) (hj : j ≤ 8) (hn : nx = pc + 3) (hcal : EvO E M' d' cvI 0 (some v1 :: some v2 :: List.replicate kk none) [] h o') (k1 : ∀ z g, EvO E M d cv nx lo (eI z :: st) g (K z g)) : EvO E M d cv pc lo (v2 :: v1 :: st) h (bI o' K) := by
  subst hn
  unfold bI
  cases ho : o' with
  | none => exact ev_no
  | some y =>
    have hm := hcal y ho
    exact ev_callE (x := cvI y) ⟨hm.1, hm.2.1⟩ (fun hS hLs hH hcl hsl => ⟨_, ev_runS (As := [v1, v2]) (k := kk) hS hLs hH hw hd' (fun v hv => by simp only [List.mem_cons, List.not_mem_nil, or_false] at hv; rcases hv with rfl | rfl <;> assumption) rfl hlen rfl (hcal y ho) rfl hsm hj hd hcl hsl⟩) (k1 y.1 y.2)
theorem ev_cs2R (nx : Nat) {v1 v2 : Value} {o' : Option (Option Nat × ev_hs)} {K : Option Nat → ev_hs → Option α} (hd : decode (mB M) pc = .ok (.invokestatic ix, 3)) (hw : ev_CS (mY M).cls ix M' 2) (hd' : d' + 1 ≤ d) (hlen : 2 ≤ mL M') (h1 : v1.category = 1) (h2 : v2.category = 1) (hsm : ev_sm st j) (hj : j ≤ 8) (hn : nx = pc + 3) (hcal : EvO E M' d' cvR 0 (some v1 :: some v2 :: List.replicate kk none) [] h o') (k1 : ∀ z g, EvO E M d cv nx lo (va_rf z :: st) g (K z g)) : EvO E M d cv pc lo (v2 :: v1 :: st) h (bR o' K) := by
  subst hn
  unfold bR
  cases ho : o' with
  | none => exact ev_no
  | some y =>
    have hm := hcal y ho
    exact ev_callE (x := cvR y) ⟨hm.1, hm.2.1⟩ (fun hS hLs hH hcl hsl => ⟨_, ev_runS (As := [v1, v2]) (k := kk) hS hLs hH hw hd' (fun v hv => by simp only [List.mem_cons, List.not_mem_nil, or_false] at hv; rcases hv with rfl | rfl <;> assumption) rfl hlen rfl (hcal y ho) rfl hsm hj hd hcl hsl⟩) (k1 y.1 y.2)
theorem ev_cs3I (nx : Nat) {v1 v2 v3 : Value} {o' : Option (Int × ev_hs)} {K : Int → ev_hs → Option α} (hd : decode (mB M) pc = .ok (.invokestatic ix, 3)) (hw : ev_CS (mY M).cls ix M' 3) (hd' : d' + 1 ≤ d) (hlen : 3 ≤ mL M') (h1 : v1.category = 1) (h2 : v2.category = 1) (h3 : v3.category = 1) (hsm : ev_sm st j) (hj : j ≤ 8) (hn : nx = pc + 3) (hcal : EvO E M' d' cvI 0 (some v1 :: some v2 :: some v3 :: List.replicate kk none) [] h o') (k1 : ∀ z g, EvO E M d cv nx lo (eI z :: st) g (K z g)) : EvO E M d cv pc lo (v3 :: v2 :: v1 :: st) h (bI o' K) := by
  subst hn
  unfold bI
  cases ho : o' with
  | none => exact ev_no
  | some y =>
    have hm := hcal y ho
    exact ev_callE (x := cvI y) ⟨hm.1, hm.2.1⟩ (fun hS hLs hH hcl hsl => ⟨_, ev_runS (As := [v1, v2, v3]) (k := kk) hS hLs hH hw hd' (fun v hv => by simp only [List.mem_cons, List.not_mem_nil, or_false] at hv; rcases hv with rfl | rfl | rfl <;> assumption) rfl hlen rfl (hcal y ho) rfl hsm hj hd hcl hsl⟩) (k1 y.1 y.2)
theorem ev_cs3R (nx : Nat) {v1 v2 v3 : Value} {o' : Option (Option Nat × ev_hs)} {K : Option Nat → ev_hs → Option α} (hd : decode (mB M) pc = .ok (.invokestatic ix, 3)) (hw : ev_CS (mY M).cls ix M' 3) (hd' : d' + 1 ≤ d) (hlen : 3 ≤ mL M') (h1 : v1.category = 1) (h2 : v2.category = 1) (h3 : v3.category = 1) (hsm : ev_sm st j) (hj : j ≤ 8) (hn : nx = pc + 3) (hcal : EvO E M' d' cvR 0 (some v1 :: some v2 :: some v3 :: List.replicate kk none) [] h o') (k1 : ∀ z g, EvO E M d cv nx lo (va_rf z :: st) g (K z g)) : EvO E M d cv pc lo (v3 :: v2 :: v1 :: st) h (bR o' K) := by
  subst hn
  unfold bR
  cases ho : o' with
  | none => exact ev_no
  | some y =>
    have hm := hcal y ho
    exact ev_callE (x := cvR y) ⟨hm.1, hm.2.1⟩ (fun hS hLs hH hcl hsl => ⟨_, ev_runS (As := [v1, v2, v3]) (k := kk) hS hLs hH hw hd' (fun v hv => by simp only [List.mem_cons, List.not_mem_nil, or_false] at hv; rcases hv with rfl | rfl | rfl <;> assumption) rfl hlen rfl (hcal y ho) rfl hsm hj hd hcl hsl⟩) (k1 y.1 y.2)
theorem ev_cv0I (nx : Nat) {ci : Nat} {q : Option Nat} {o' : Option (Int × ev_hs)} {K : Int → ev_hs → Option α} (hd : decode (mB M) pc = .ok (.invokevirtual ix, 3)) (hw : ev_CV (mY M).cls ix ci M' 0) (hd' : d' + 1 ≤ d) (hlen : 1 ≤ mL M')  (hsm : ev_sm st j) (hj : j ≤ 8) (hn : nx = pc + 3) (hcal : EvO E M' d' cvI 0 (some (va_rf q) :: List.replicate kk none) [] h o') (k1 : ∀ z g, EvO E M d cv nx lo (eI z :: st) g (K z g)) : EvO E M d cv pc lo (va_rf q :: st) h (vK h ci q (bI o' K)) := by
  subst hn
  unfold vK
  cases q with
  | none => exact ev_no
  | some b =>
  dsimp only
  split
  case isFalse => exact ev_no
  rename_i hk
  unfold bI
  cases ho : o' with
  | none => exact ev_no
  | some y =>
    have hm := hcal y ho
    exact ev_callE (x := cvI y) ⟨hm.1, hm.2.1⟩ (fun hS hLs hH hcl hsl => ⟨_, ev_runV (As := []) (k := kk) hS hLs hH hw hk hd' (fun v hv => by cases hv) rfl hlen rfl (hcal y ho) rfl hsm hj hd hcl hsl⟩) (k1 y.1 y.2)
theorem ev_cv0R (nx : Nat) {ci : Nat} {q : Option Nat} {o' : Option (Option Nat × ev_hs)} {K : Option Nat → ev_hs → Option α} (hd : decode (mB M) pc = .ok (.invokevirtual ix, 3)) (hw : ev_CV (mY M).cls ix ci M' 0) (hd' : d' + 1 ≤ d) (hlen : 1 ≤ mL M')  (hsm : ev_sm st j) (hj : j ≤ 8) (hn : nx = pc + 3) (hcal : EvO E M' d' cvR 0 (some (va_rf q) :: List.replicate kk none) [] h o') (k1 : ∀ z g, EvO E M d cv nx lo (va_rf z :: st) g (K z g)) : EvO E M d cv pc lo (va_rf q :: st) h (vK h ci q (bR o' K)) := by
  subst hn
  unfold vK
  cases q with
  | none => exact ev_no
  | some b =>
  dsimp only
  split
  case isFalse => exact ev_no
  rename_i hk
  unfold bR
  cases ho : o' with
  | none => exact ev_no
  | some y =>
    have hm := hcal y ho
    exact ev_callE (x := cvR y) ⟨hm.1, hm.2.1⟩ (fun hS hLs hH hcl hsl => ⟨_, ev_runV (As := []) (k := kk) hS hLs hH hw hk hd' (fun v hv => by cases hv) rfl hlen rfl (hcal y ho) rfl hsm hj hd hcl hsl⟩) (k1 y.1 y.2)
theorem ev_cv0V (nx : Nat) {ci : Nat} {q : Option Nat} {o' : Option (ev_hs)} {K : ev_hs → Option α} (hd : decode (mB M) pc = .ok (.invokevirtual ix, 3)) (hw : ev_CV (mY M).cls ix ci M' 0) (hd' : d' + 1 ≤ d) (hlen : 1 ≤ mL M')  (hsm : ev_sm st j) (hj : j ≤ 8) (hn : nx = pc + 3) (hcal : EvO E M' d' cvV 0 (some (va_rf q) :: List.replicate kk none) [] h o') (k1 : ∀ g, EvO E M d cv nx lo st g (K g)) : EvO E M d cv pc lo (va_rf q :: st) h (vK h ci q (bV o' K)) := by
  subst hn
  unfold vK
  cases q with
  | none => exact ev_no
  | some b =>
  dsimp only
  split
  case isFalse => exact ev_no
  rename_i hk
  unfold bV
  cases ho : o' with
  | none => exact ev_no
  | some y =>
    have hm := hcal y ho
    exact ev_callE (x := cvV y) ⟨hm.1, hm.2.1⟩ (fun hS hLs hH hcl hsl => ⟨_, ev_runV (As := []) (k := kk) hS hLs hH hw hk hd' (fun v hv => by cases hv) rfl hlen rfl (hcal y ho) rfl hsm hj hd hcl hsl⟩) (k1 y)
theorem ev_cv1I (nx : Nat) {ci : Nat} {q : Option Nat} {v1 : Value} {o' : Option (Int × ev_hs)} {K : Int → ev_hs → Option α} (hd : decode (mB M) pc = .ok (.invokevirtual ix, 3)) (hw : ev_CV (mY M).cls ix ci M' 1) (hd' : d' + 1 ≤ d) (hlen : 2 ≤ mL M') (h1 : v1.category = 1) (hsm : ev_sm st j) (hj : j ≤ 8) (hn : nx = pc + 3) (hcal : EvO E M' d' cvI 0 (some (va_rf q) :: some v1 :: List.replicate kk none) [] h o') (k1 : ∀ z g, EvO E M d cv nx lo (eI z :: st) g (K z g)) : EvO E M d cv pc lo (v1 :: va_rf q :: st) h (vK h ci q (bI o' K)) := by
  subst hn
  unfold vK
  cases q with
  | none => exact ev_no
  | some b =>
  dsimp only
  split
  case isFalse => exact ev_no
  rename_i hk
  unfold bI
  cases ho : o' with
  | none => exact ev_no
  | some y =>
    have hm := hcal y ho
    exact ev_callE (x := cvI y) ⟨hm.1, hm.2.1⟩ (fun hS hLs hH hcl hsl => ⟨_, ev_runV (As := [v1]) (k := kk) hS hLs hH hw hk hd' (fun v hv => by simp only [List.mem_cons, List.not_mem_nil, or_false] at hv; rcases hv with rfl <;> assumption) rfl hlen rfl (hcal y ho) rfl hsm hj hd hcl hsl⟩) (k1 y.1 y.2)
theorem ev_cv1R (nx : Nat) {ci : Nat} {q : Option Nat} {v1 : Value} {o' : Option (Option Nat × ev_hs)} {K : Option Nat → ev_hs → Option α} (hd : decode (mB M) pc = .ok (.invokevirtual ix, 3)) (hw : ev_CV (mY M).cls ix ci M' 1) (hd' : d' + 1 ≤ d) (hlen : 2 ≤ mL M') (h1 : v1.category = 1) (hsm : ev_sm st j) (hj : j ≤ 8) (hn : nx = pc + 3) (hcal : EvO E M' d' cvR 0 (some (va_rf q) :: some v1 :: List.replicate kk none) [] h o') (k1 : ∀ z g, EvO E M d cv nx lo (va_rf z :: st) g (K z g)) : EvO E M d cv pc lo (v1 :: va_rf q :: st) h (vK h ci q (bR o' K)) := by
  subst hn
  unfold vK
  cases q with
  | none => exact ev_no
  | some b =>
  dsimp only
  split
  case isFalse => exact ev_no
  rename_i hk
  unfold bR
  cases ho : o' with
  | none => exact ev_no
  | some y =>
    have hm := hcal y ho
    exact ev_callE (x := cvR y) ⟨hm.1, hm.2.1⟩ (fun hS hLs hH hcl hsl => ⟨_, ev_runV (As := [v1]) (k := kk) hS hLs hH hw hk hd' (fun v hv => by simp only [List.mem_cons, List.not_mem_nil, or_false] at hv; rcases hv with rfl <;> assumption) rfl hlen rfl (hcal y ho) rfl hsm hj hd hcl hsl⟩) (k1 y.1 y.2)
theorem ev_cv1V (nx : Nat) {ci : Nat} {q : Option Nat} {v1 : Value} {o' : Option (ev_hs)} {K : ev_hs → Option α} (hd : decode (mB M) pc = .ok (.invokevirtual ix, 3)) (hw : ev_CV (mY M).cls ix ci M' 1) (hd' : d' + 1 ≤ d) (hlen : 2 ≤ mL M') (h1 : v1.category = 1) (hsm : ev_sm st j) (hj : j ≤ 8) (hn : nx = pc + 3) (hcal : EvO E M' d' cvV 0 (some (va_rf q) :: some v1 :: List.replicate kk none) [] h o') (k1 : ∀ g, EvO E M d cv nx lo st g (K g)) : EvO E M d cv pc lo (v1 :: va_rf q :: st) h (vK h ci q (bV o' K)) := by
  subst hn
  unfold vK
  cases q with
  | none => exact ev_no
  | some b =>
  dsimp only
  split
  case isFalse => exact ev_no
  rename_i hk
  unfold bV
  cases ho : o' with
  | none => exact ev_no
  | some y =>
    have hm := hcal y ho
    exact ev_callE (x := cvV y) ⟨hm.1, hm.2.1⟩ (fun hS hLs hH hcl hsl => ⟨_, ev_runV (As := [v1]) (k := kk) hS hLs hH hw hk hd' (fun v hv => by simp only [List.mem_cons, List.not_mem_nil, or_false] at hv; rcases hv with rfl <;> assumption) rfl hlen rfl (hcal y ho) rfl hsm hj hd hcl hsl⟩) (k1 y)
theorem ev_cv2I (nx : Nat) {ci : Nat} {q : Option Nat} {v1 v2 : Value} {o' : Option (Int × ev_hs)} {K : Int → ev_hs → Option α} (hd : decode (mB M) pc = .ok (.invokevirtual ix, 3)) (hw : ev_CV (mY M).cls ix ci M' 2) (hd' : d' + 1 ≤ d) (hlen : 3 ≤ mL M') (h1 : v1.category = 1) (h2 : v2.category = 1) (hsm : ev_sm st j) (hj : j ≤ 8) (hn : nx = pc + 3) (hcal : EvO E M' d' cvI 0 (some (va_rf q) :: some v1 :: some v2 :: List.replicate kk none) [] h o') (k1 : ∀ z g, EvO E M d cv nx lo (eI z :: st) g (K z g)) : EvO E M d cv pc lo (v2 :: v1 :: va_rf q :: st) h (vK h ci q (bI o' K)) := by
  subst hn
  unfold vK
  cases q with
  | none => exact ev_no
  | some b =>
  dsimp only
  split
  case isFalse => exact ev_no
  rename_i hk
  unfold bI
  cases ho : o' with
  | none => exact ev_no
  | some y =>
    have hm := hcal y ho
    exact ev_callE (x := cvI y) ⟨hm.1, hm.2.1⟩ (fun hS hLs hH hcl hsl => ⟨_, ev_runV (As := [v1, v2]) (k := kk) hS hLs hH hw hk hd' (fun v hv => by simp only [List.mem_cons, List.not_mem_nil, or_false] at hv; rcases hv with rfl | rfl <;> assumption) rfl hlen rfl (hcal y ho) rfl hsm hj hd hcl hsl⟩) (k1 y.1 y.2)
theorem ev_cv2R (nx : Nat) {ci : Nat} {q : Option Nat} {v1 v2 : Value} {o' : Option (Option Nat × ev_hs)} {K : Option Nat → ev_hs → Option α} (hd : decode (mB M) pc = .ok (.invokevirtual ix, 3)) (hw : ev_CV (mY M).cls ix ci M' 2) (hd' : d' + 1 ≤ d) (hlen : 3 ≤ mL M') (h1 : v1.category = 1) (h2 : v2.category = 1) (hsm : ev_sm st j) (hj : j ≤ 8) (hn : nx = pc + 3) (hcal : EvO E M' d' cvR 0 (some (va_rf q) :: some v1 :: some v2 :: List.replicate kk none) [] h o') (k1 : ∀ z g, EvO E M d cv nx lo (va_rf z :: st) g (K z g)) : EvO E M d cv pc lo (v2 :: v1 :: va_rf q :: st) h (vK h ci q (bR o' K)) := by
  subst hn
  unfold vK
  cases q with
  | none => exact ev_no
  | some b =>
  dsimp only
  split
  case isFalse => exact ev_no
  rename_i hk
  unfold bR
  cases ho : o' with
  | none => exact ev_no
  | some y =>
    have hm := hcal y ho
    exact ev_callE (x := cvR y) ⟨hm.1, hm.2.1⟩ (fun hS hLs hH hcl hsl => ⟨_, ev_runV (As := [v1, v2]) (k := kk) hS hLs hH hw hk hd' (fun v hv => by simp only [List.mem_cons, List.not_mem_nil, or_false] at hv; rcases hv with rfl | rfl <;> assumption) rfl hlen rfl (hcal y ho) rfl hsm hj hd hcl hsl⟩) (k1 y.1 y.2)
theorem ev_cv2V (nx : Nat) {ci : Nat} {q : Option Nat} {v1 v2 : Value} {o' : Option (ev_hs)} {K : ev_hs → Option α} (hd : decode (mB M) pc = .ok (.invokevirtual ix, 3)) (hw : ev_CV (mY M).cls ix ci M' 2) (hd' : d' + 1 ≤ d) (hlen : 3 ≤ mL M') (h1 : v1.category = 1) (h2 : v2.category = 1) (hsm : ev_sm st j) (hj : j ≤ 8) (hn : nx = pc + 3) (hcal : EvO E M' d' cvV 0 (some (va_rf q) :: some v1 :: some v2 :: List.replicate kk none) [] h o') (k1 : ∀ g, EvO E M d cv nx lo st g (K g)) : EvO E M d cv pc lo (v2 :: v1 :: va_rf q :: st) h (vK h ci q (bV o' K)) := by
  subst hn
  unfold vK
  cases q with
  | none => exact ev_no
  | some b =>
  dsimp only
  split
  case isFalse => exact ev_no
  rename_i hk
  unfold bV
  cases ho : o' with
  | none => exact ev_no
  | some y =>
    have hm := hcal y ho
    exact ev_callE (x := cvV y) ⟨hm.1, hm.2.1⟩ (fun hS hLs hH hcl hsl => ⟨_, ev_runV (As := [v1, v2]) (k := kk) hS hLs hH hw hk hd' (fun v hv => by simp only [List.mem_cons, List.not_mem_nil, or_false] at hv; rcases hv with rfl | rfl <;> assumption) rfl hlen rfl (hcal y ho) rfl hsm hj hd hcl hsl⟩) (k1 y)
theorem ev_cv3I (nx : Nat) {ci : Nat} {q : Option Nat} {v1 v2 v3 : Value} {o' : Option (Int × ev_hs)} {K : Int → ev_hs → Option α} (hd : decode (mB M) pc = .ok (.invokevirtual ix, 3)) (hw : ev_CV (mY M).cls ix ci M' 3) (hd' : d' + 1 ≤ d) (hlen : 4 ≤ mL M') (h1 : v1.category = 1) (h2 : v2.category = 1) (h3 : v3.category = 1) (hsm : ev_sm st j) (hj : j ≤ 8) (hn : nx = pc + 3) (hcal : EvO E M' d' cvI 0 (some (va_rf q) :: some v1 :: some v2 :: some v3 :: List.replicate kk none) [] h o') (k1 : ∀ z g, EvO E M d cv nx lo (eI z :: st) g (K z g)) : EvO E M d cv pc lo (v3 :: v2 :: v1 :: va_rf q :: st) h (vK h ci q (bI o' K)) := by
  subst hn
  unfold vK
  cases q with
  | none => exact ev_no
  | some b =>
  dsimp only
  split
  case isFalse => exact ev_no
  rename_i hk
  unfold bI
  cases ho : o' with
  | none => exact ev_no
  | some y =>
    have hm := hcal y ho
    exact ev_callE (x := cvI y) ⟨hm.1, hm.2.1⟩ (fun hS hLs hH hcl hsl => ⟨_, ev_runV (As := [v1, v2, v3]) (k := kk) hS hLs hH hw hk hd' (fun v hv => by simp only [List.mem_cons, List.not_mem_nil, or_false] at hv; rcases hv with rfl | rfl | rfl <;> assumption) rfl hlen rfl (hcal y ho) rfl hsm hj hd hcl hsl⟩) (k1 y.1 y.2)
theorem ev_cv3R (nx : Nat) {ci : Nat} {q : Option Nat} {v1 v2 v3 : Value} {o' : Option (Option Nat × ev_hs)} {K : Option Nat → ev_hs → Option α} (hd : decode (mB M) pc = .ok (.invokevirtual ix, 3)) (hw : ev_CV (mY M).cls ix ci M' 3) (hd' : d' + 1 ≤ d) (hlen : 4 ≤ mL M') (h1 : v1.category = 1) (h2 : v2.category = 1) (h3 : v3.category = 1) (hsm : ev_sm st j) (hj : j ≤ 8) (hn : nx = pc + 3) (hcal : EvO E M' d' cvR 0 (some (va_rf q) :: some v1 :: some v2 :: some v3 :: List.replicate kk none) [] h o') (k1 : ∀ z g, EvO E M d cv nx lo (va_rf z :: st) g (K z g)) : EvO E M d cv pc lo (v3 :: v2 :: v1 :: va_rf q :: st) h (vK h ci q (bR o' K)) := by
  subst hn
  unfold vK
  cases q with
  | none => exact ev_no
  | some b =>
  dsimp only
  split
  case isFalse => exact ev_no
  rename_i hk
  unfold bR
  cases ho : o' with
  | none => exact ev_no
  | some y =>
    have hm := hcal y ho
    exact ev_callE (x := cvR y) ⟨hm.1, hm.2.1⟩ (fun hS hLs hH hcl hsl => ⟨_, ev_runV (As := [v1, v2, v3]) (k := kk) hS hLs hH hw hk hd' (fun v hv => by simp only [List.mem_cons, List.not_mem_nil, or_false] at hv; rcases hv with rfl | rfl | rfl <;> assumption) rfl hlen rfl (hcal y ho) rfl hsm hj hd hcl hsl⟩) (k1 y.1 y.2)
theorem ev_cv3V (nx : Nat) {ci : Nat} {q : Option Nat} {v1 v2 v3 : Value} {o' : Option (ev_hs)} {K : ev_hs → Option α} (hd : decode (mB M) pc = .ok (.invokevirtual ix, 3)) (hw : ev_CV (mY M).cls ix ci M' 3) (hd' : d' + 1 ≤ d) (hlen : 4 ≤ mL M') (h1 : v1.category = 1) (h2 : v2.category = 1) (h3 : v3.category = 1) (hsm : ev_sm st j) (hj : j ≤ 8) (hn : nx = pc + 3) (hcal : EvO E M' d' cvV 0 (some (va_rf q) :: some v1 :: some v2 :: some v3 :: List.replicate kk none) [] h o') (k1 : ∀ g, EvO E M d cv nx lo st g (K g)) : EvO E M d cv pc lo (v3 :: v2 :: v1 :: va_rf q :: st) h (vK h ci q (bV o' K)) := by
  subst hn
  unfold vK
  cases q with
  | none => exact ev_no
  | some b =>
  dsimp only
  split
  case isFalse => exact ev_no
  rename_i hk
  unfold bV
  cases ho : o' with
  | none => exact ev_no
  | some y =>
    have hm := hcal y ho
    exact ev_callE (x := cvV y) ⟨hm.1, hm.2.1⟩ (fun hS hLs hH hcl hsl => ⟨_, ev_runV (As := [v1, v2, v3]) (k := kk) hS hLs hH hw hk hd' (fun v hv => by simp only [List.mem_cons, List.not_mem_nil, or_false] at hv; rcases hv with rfl | rfl | rfl <;> assumption) rfl hlen rfl (hcal y ho) rfl hsm hj hd hcl hsl⟩) (k1 y)
theorem ev_cv4I (nx : Nat) {ci : Nat} {q : Option Nat} {v1 v2 v3 v4 : Value} {o' : Option (Int × ev_hs)} {K : Int → ev_hs → Option α} (hd : decode (mB M) pc = .ok (.invokevirtual ix, 3)) (hw : ev_CV (mY M).cls ix ci M' 4) (hd' : d' + 1 ≤ d) (hlen : 5 ≤ mL M') (h1 : v1.category = 1) (h2 : v2.category = 1) (h3 : v3.category = 1) (h4 : v4.category = 1) (hsm : ev_sm st j) (hj : j ≤ 8) (hn : nx = pc + 3) (hcal : EvO E M' d' cvI 0 (some (va_rf q) :: some v1 :: some v2 :: some v3 :: some v4 :: List.replicate kk none) [] h o') (k1 : ∀ z g, EvO E M d cv nx lo (eI z :: st) g (K z g)) : EvO E M d cv pc lo (v4 :: v3 :: v2 :: v1 :: va_rf q :: st) h (vK h ci q (bI o' K)) := by
  subst hn
  unfold vK
  cases q with
  | none => exact ev_no
  | some b =>
  dsimp only
  split
  case isFalse => exact ev_no
  rename_i hk
  unfold bI
  cases ho : o' with
  | none => exact ev_no
  | some y =>
    have hm := hcal y ho
    exact ev_callE (x := cvI y) ⟨hm.1, hm.2.1⟩ (fun hS hLs hH hcl hsl => ⟨_, ev_runV (As := [v1, v2, v3, v4]) (k := kk) hS hLs hH hw hk hd' (fun v hv => by simp only [List.mem_cons, List.not_mem_nil, or_false] at hv; rcases hv with rfl | rfl | rfl | rfl <;> assumption) rfl hlen rfl (hcal y ho) rfl hsm hj hd hcl hsl⟩) (k1 y.1 y.2)
theorem ev_cv5I (nx : Nat) {ci : Nat} {q : Option Nat} {v1 v2 v3 v4 v5 : Value} {o' : Option (Int × ev_hs)} {K : Int → ev_hs → Option α} (hd : decode (mB M) pc = .ok (.invokevirtual ix, 3)) (hw : ev_CV (mY M).cls ix ci M' 5) (hd' : d' + 1 ≤ d) (hlen : 6 ≤ mL M') (h1 : v1.category = 1) (h2 : v2.category = 1) (h3 : v3.category = 1) (h4 : v4.category = 1) (h5 : v5.category = 1) (hsm : ev_sm st j) (hj : j ≤ 8) (hn : nx = pc + 3) (hcal : EvO E M' d' cvI 0 (some (va_rf q) :: some v1 :: some v2 :: some v3 :: some v4 :: some v5 :: List.replicate kk none) [] h o') (k1 : ∀ z g, EvO E M d cv nx lo (eI z :: st) g (K z g)) : EvO E M d cv pc lo (v5 :: v4 :: v3 :: v2 :: v1 :: va_rf q :: st) h (vK h ci q (bI o' K)) := by
  subst hn
  unfold vK
  cases q with
  | none => exact ev_no
  | some b =>
  dsimp only
  split
  case isFalse => exact ev_no
  rename_i hk
  unfold bI
  cases ho : o' with
  | none => exact ev_no
  | some y =>
    have hm := hcal y ho
    exact ev_callE (x := cvI y) ⟨hm.1, hm.2.1⟩ (fun hS hLs hH hcl hsl => ⟨_, ev_runV (As := [v1, v2, v3, v4, v5]) (k := kk) hS hLs hH hw hk hd' (fun v hv => by simp only [List.mem_cons, List.not_mem_nil, or_false] at hv; rcases hv with rfl | rfl | rfl | rfl | rfl <;> assumption) rfl hlen rfl (hcal y ho) rfl hsm hj hd hcl hsl⟩) (k1 y.1 y.2)
theorem ev_cv7V (nx : Nat) {ci : Nat} {q : Option Nat} {v1 v2 v3 v4 v5 v6 v7 : Value} {o' : Option (ev_hs)} {K : ev_hs → Option α} (hd : decode (mB M) pc = .ok (.invokevirtual ix, 3)) (hw : ev_CV (mY M).cls ix ci M' 7) (hd' : d' + 1 ≤ d) (hlen : 8 ≤ mL M') (h1 : v1.category = 1) (h2 : v2.category = 1) (h3 : v3.category = 1) (h4 : v4.category = 1) (h5 : v5.category = 1) (h6 : v6.category = 1) (h7 : v7.category = 1) (hsm : ev_sm st j) (hj : j ≤ 8) (hn : nx = pc + 3) (hcal : EvO E M' d' cvV 0 (some (va_rf q) :: some v1 :: some v2 :: some v3 :: some v4 :: some v5 :: some v6 :: some v7 :: List.replicate kk none) [] h o') (k1 : ∀ g, EvO E M d cv nx lo st g (K g)) : EvO E M d cv pc lo (v7 :: v6 :: v5 :: v4 :: v3 :: v2 :: v1 :: va_rf q :: st) h (vK h ci q (bV o' K)) := by
  subst hn
  unfold vK
  cases q with
  | none => exact ev_no
  | some b =>
  dsimp only
  split
  case isFalse => exact ev_no
  rename_i hk
  unfold bV
  cases ho : o' with
  | none => exact ev_no
  | some y =>
    have hm := hcal y ho
    exact ev_callE (x := cvV y) ⟨hm.1, hm.2.1⟩ (fun hS hLs hH hcl hsl => ⟨_, ev_runV (As := [v1, v2, v3, v4, v5, v6, v7]) (k := kk) hS hLs hH hw hk hd' (fun v hv => by simp only [List.mem_cons, List.not_mem_nil, or_false] at hv; rcases hv with rfl | rfl | rfl | rfl | rfl | rfl | rfl <;> assumption) rfl hlen rfl (hcal y ho) rfl hsm hj hd hcl hsl⟩) (k1 y)
end Calls
