set_option maxRecDepth 20000 in
theorem vl_46 : (Jvm.Cond.arrayOver (Jvm.ClassFile.FieldType.object "MeshLines$Lane")) ∈ lw_tbl := List.mem_append_right _ (tj_1 _ (List.mem_of_getElem? (i := 46) rfl))
set_option maxRecDepth 20000 in
theorem vl_79 : (Jvm.Cond.arrayOver (Jvm.ClassFile.FieldType.object "MeshLines$FlitBuffer")) ∈ lw_tbl := List.mem_append_right _ (tj_1 _ (List.mem_of_getElem? (i := 79) rfl))
set_option maxRecDepth 20000 in
theorem vl_86 : (Jvm.Cond.arrayOver (Jvm.ClassFile.FieldType.object "MeshLines$Flit")) ∈ lw_tbl := List.mem_append_right _ (tj_1 _ (List.mem_of_getElem? (i := 86) rfl))
set_option maxRecDepth 20000 in
theorem vl_146 : (Jvm.Cond.arrayOver (Jvm.ClassFile.FieldType.object "MeshLines$Home")) ∈ lw_tbl := List.mem_append_right _ (tj_1 _ (List.mem_of_getElem? (i := 146) rfl))
set_option maxRecDepth 20000 in
theorem vl_182 : (Jvm.Cond.arrayOver (Jvm.ClassFile.FieldType.object "MeshLines$Node")) ∈ lw_tbl := List.mem_append_right _ (tj_1 _ (List.mem_of_getElem? (i := 182) rfl))
set_option maxRecDepth 20000 in
theorem vl_454 : (Jvm.Cond.arrayOver (Jvm.ClassFile.FieldType.object "java/lang/Object")) ∈ lw_tbl := List.mem_append_right _ (tj_2 _ (List.mem_of_getElem? (i := 214) rfl))
set_option maxRecDepth 20000 in
theorem vl_152 : (Jvm.Cond.methodLinkNest "MeshLines$Home" (21 : Nat) ({ cls := "MeshLines", name := "homeOf", desc := "(I)I" } : Jvm.MethodName) "MeshLines") ∈ lw_tbl := List.mem_append_right _ (tj_1 _ (List.mem_of_getElem? (i := 152) rfl))
set_option maxRecDepth 20000 in
theorem vl_612 : (Jvm.Cond.methodLinkNest "MeshLines$Cache" (63 : Nat) ({ cls := "MeshLines", name := "homeOf", desc := "(I)I" } : Jvm.MethodName) "MeshLines") ∈ lw_tbl := List.mem_append_right _ (tj_3 _ (List.mem_of_getElem? (i := 132) rfl))
set_option maxRecDepth 20000 in
theorem vl_966 : (Jvm.Cond.castable "MeshLines$Packet" "java/lang/Object") ∈ lw_tbl := List.mem_append_right _ (tj_5 _ (List.mem_of_getElem? (i := 6) rfl))
set_option maxRecDepth 20000 in
theorem vl_955 : (Jvm.Cond.declares ({ cls := "java/lang/Object", name := "getClass", desc := "()Ljava/lang/Class;" } : Jvm.MethodName)) ∈ lw_tbl := List.mem_append_right _ (tj_4 _ (List.mem_of_getElem? (i := 235) rfl))
set_option maxRecDepth 20000 in
theorem vl_65 : (Jvm.Cond.laysStatic "java/util/ArrayList" "DEFAULTCAPACITY_EMPTY_ELEMENTDATA" "[Ljava/lang/Object;") ∈ lw_tbl := List.mem_append_right _ (tj_1 _ (List.mem_of_getElem? (i := 65) rfl))
theorem ev_ckall : ∀ c, c < 12 → ∃ C T N n, ev_CK c C T N ∧ Cond.instantiable C n ∈ evW
  | 0, _ => ⟨_, _, _, _, ck_0, w_23⟩
  | 1, _ => ⟨_, _, _, _, ck_1, w_31⟩
  | 2, _ => ⟨_, _, _, _, ck_2, w_47⟩
  | 3, _ => ⟨_, _, _, _, ck_3, w_53⟩
  | 4, _ => ⟨_, _, _, _, ck_4, w_80⟩
  | 5, _ => ⟨_, _, _, _, ck_5, w_147⟩
  | 6, _ => ⟨_, _, _, _, ck_6, w_183⟩
  | 7, _ => ⟨_, _, _, _, ck_7, w_189⟩
  | 8, _ => ⟨_, _, _, _, ck_8, w_221⟩
  | 9, _ => ⟨_, _, _, _, ck_9, w_319⟩
  | 10, _ => ⟨_, _, _, _, ck_10, w_523⟩
  | 11, _ => ⟨_, _, _, _, ck_11, w_673⟩
  | n + 12, h => absurd h (by omega)
/-! From the law's function to the claim's one walk -/
def ev_h0 (z b a0 mi L : Nat) (xs : Nat → Int32) : ev_hs :=
  ((fun a => if a = b then 58 else if a = a0 then 52 else 0), (fun _ _ => 0), (fun _ _ => none), (fun a => if a = b then L else 0), (fun a j => if a = b then (xs j).toInt else 0), (fun _ _ => none), z, 0, 0, a0, mi)
theorem ev_len0 {args : Array Value} {s : State} {t : Term} {a : Addr} {cell : Cell} (ht : t.eval args s none [] s = some (.ref a)) (hc : s.heap[a]? = some cell) (h : (Cond.eq (.length t) (.int 0)).before args s = true) : cell.slots.size = 0 := by
  have h2 : (Term.length t).eval args s none [] s = some (.int 0) := by
    cases hv : (Term.length t).eval args s none [] s with
    | none => simp [Cond.before, Cond.holds, Cond.value, hv] at h
    | some w =>
      have hz : (Term.int 0).eval args s none [] s = some (.int 0) := rfl
      simp only [Cond.before, Cond.holds, Cond.value, hv, hz] at h
      cases w <;> simp_all
  simp only [Term.eval, Option.bind_eq_bind, ht] at h2
  obtain ⟨cell', hcell', h2⟩ := Option.bind_eq_some_iff.mp (by simpa using h2)
  obtain ⟨hcb, -, -, -⟩ := State.arrayAt?_spec hcell'
  have e : cell' = cell := Option.some.inj (hcb.symm.trans hc)
  subst e
  by_cases hn : cell'.slots.size < 2147483648
  · rw [if_pos hn] at h2
    have h3 : nI cell'.slots.size = nI 0 := by
      have := Option.some.inj h2
      injection this
    exact (nI_eq (by omega) (by omega)).mp h3
  · rw [if_neg hn] at h2
    cases h2
theorem ev_kn {args : Array Value} {s : State} (hts : ∀ w ∈ evW, w.before args s = true) : ∀ c : Nat, ∃ p : ClassId × (Nat → Nat), ∀ q : vw_C, evC[c]? = some q → u_Kn s q.1 q.2.1 q.2.2 p.1 p.2 := by
  intro c
  by_cases hc : ∃ C T N n, ev_CK c C T N ∧ Cond.instantiable C n ∈ evW
  · obtain ⟨C, T, N, n, ⟨h1, h2, -, -⟩, h3⟩ := hc
    obtain ⟨cC, iS, hK⟩ := u_known (n := n) hts h2 (hts _ h3)
    exact ⟨(cC, iS), fun q hq => by cases h1.symm.trans hq; exact hK⟩
  · refine ⟨(0, fun _ => 0), fun q hq => absurd ?_ hc⟩
    have hlt : c < 12 := (List.getElem?_eq_some_iff.mp hq).1
    exact ev_ckall c hlt
theorem ev_arrP {s : State} {args : Array Value} {ty : FieldType} (h : (Cond.arrayClass ty).before args s = true) (hr : ∀ cA, s.vm.findClass ("[" ++ ty.toString) = some cA → va_RA s cA ty) : ∃ cA, ArrOfT s cA ty ∧ va_RA s cA ty := by
  obtain ⟨c, k, comp, h1, h2, h3⟩ := Cond.arrayClass_spec h
  exact ⟨c, fun n z => ⟨fun k h => (by cases h), k, h2, comp, h3⟩, hr c h1⟩
theorem ev_arrR {s : State} {args : Array Value} {C : String} (h : (Cond.arrayOver (.object C)).before args s = true) : ∃ cA, ArrOfT s cA (.object C) ∧ va_RA s cA (.object C) := by
  obtain ⟨comp, c, k, h1, h2, h3, h4, h5⟩ := Cond.arrayOver_spec h
  exact ⟨c, fun n z => ⟨fun k h => (by cases h), k, h3, comp, h4⟩, k, comp, h3, h4, h1, h5⟩
theorem ev_arrs {s : State} {args : Array Value} (hts : ∀ w ∈ lw_tbl, w.before args s = true) : ∀ t : Nat, ∃ cA, 50 ≤ t → t ≤ 57 → ArrOfT s cA (evTy t) ∧ va_RA s cA (evTy t) := by
  intro t
  have hW : ∀ w ∈ evW, w.before args s = true := fun w hw => hts w (List.mem_filter.mp hw).1
  by_cases h50 : t = 50
  · subst h50
    obtain ⟨cA, h⟩ := ev_arrP (ty := .int) (hW _ w_95) (fun cA h => h)
    exact ⟨cA, fun _ _ => h⟩
  by_cases h51 : t = 51
  · subst h51
    obtain ⟨cA, h⟩ := ev_arrP (ty := .boolean) (hW _ w_802) (fun cA h => h)
    exact ⟨cA, fun _ _ => h⟩
  by_cases h52 : t = 52
  · subst h52
    obtain ⟨cA, h⟩ := ev_arrR (hts _ vl_454)
    exact ⟨cA, fun _ _ => h⟩
  by_cases h53 : t = 53
  · subst h53
    obtain ⟨cA, h⟩ := ev_arrR (hts _ vl_146)
    exact ⟨cA, fun _ _ => h⟩
  by_cases h54 : t = 54
  · subst h54
    obtain ⟨cA, h⟩ := ev_arrR (hts _ vl_182)
    exact ⟨cA, fun _ _ => h⟩
  by_cases h55 : t = 55
  · subst h55
    obtain ⟨cA, h⟩ := ev_arrR (hts _ vl_46)
    exact ⟨cA, fun _ _ => h⟩
  by_cases h56 : t = 56
  · subst h56
    obtain ⟨cA, h⟩ := ev_arrR (hts _ vl_79)
    exact ⟨cA, fun _ _ => h⟩
  by_cases h57 : t = 57
  · subst h57
    obtain ⟨cA, h⟩ := ev_arrR (hts _ vl_86)
    exact ⟨cA, fun _ _ => h⟩
  exact ⟨0, fun _ _ => by omega⟩
theorem ev_x0 {s : State} {args : Array Value} (hts : ∀ w ∈ lw_tbl, w.before args s = true) : ev_X s :=
  ⟨va_Nw.of rfl (hts _ vl_152), va_Nw.of rfl (hts _ vl_612), va_Nw.of rfl (hts _ vl_966), va_AO.of (hts _ vl_454), va_AO.of (hts _ vl_146), va_AO.of (hts _ vl_182), va_AO.of (hts _ vl_46), va_AO.of (hts _ vl_79), va_AO.of (hts _ vl_86)⟩
def ev_pure (b a0 mi z L : Nat) (xs : Nat → Int32) : Prop := ∃ h', f_Lw_law (some b) (ev_h0 z b a0 mi L xs) = some (1, h') ∧ xC h' ≤ 100000 ∧ xS h' ≤ 2000000
/-! THE CLAIM OUT OF ONE WALK OF THE LAW'S BODY. Your part is whole_start (and what it stands on); all else here is the same for every law, but numbers. -/
def R_law : String := "MeshLinesLaw"
def lw_P (b : Addr) (xs : List Int32) (args : Array Value) (s : State) : Prop := args = #[.ref b] ∧ s.IntsAt b xs ∧ xs.length ≤ 3074 ∧ (Jvm.Cond.and given_1 narrow_1).before args s = true
def lw_Q (_ : Array Value) (s : State) (o : Outcome) (t : State) : Prop := o = .returned (some (.int 1)) ∧ Framed s o t [] room_1.cells room_1.slots
def lw_Z (below : List Frame) (a : Array Value) (s : State) : State → Prop := fun t => ∃ o, t.status = .running ∧ Ended t below o ∧ lw_Q a s o t
/-- the law's own end, with 1 on the stack, nothing written that was there before, its room as the claim has it -/
theorem lw_ret {p : Program} {l : Launch} {e : Env} {s : State} {m : MethodId} {below : List Frame} {meth : Method} {c : Code} {b : Nat} (hx : p.tables.exec = Jvm.exec) (hb : c.code = code) (hr : meth.sig.returnType = ret) (hlocks : meth.locks = false) {pc : Nat} {H : Heap} {ls : Array Slot} (hdg : decode code pc = .ok (.ireturn, 1)) : W p l e room_1 s m #[Value.ref b] below meth c H [] room_1.cells room_1.slots (lw_Z below #[Value.ref b] s) (F0 m pc ls [.int 1]) := by
  intro T hT X
  obtain ⟨fs, hret, hrun, hended, hW, hframe⟩ := X.leave (v := some (.int 1)) (hlocks := hlocks) (fun h => by rw [hr] at h; cases h)
  have hmeth' : T.vm.method? m = some meth := X.method'
  refine ⟨T.setFrames fs, ?_, .returned (some (.int 1)), hrun, hended, rfl, ⟨_, rfl⟩, hW, hframe⟩
  jvm_step X.here [X.here.top, hx, hb, hdg, hmeth', hr, ret, narrow_b1]
  (try refine ⟨rfl, ?_⟩); (try refine ⟨rfl, ?_⟩)
  first | (intro acts; rw [hret _ acts rfl rfl rfl]) | rw [hret _ _ rfl rfl rfl]
  exact Steps.refl _
/-- what holds at the law's entry: the machine, the code, the tables' words (any of lw_tbl by 'hts w (by decide +kernel)'), the script of L ints xs at the cell b, what the Statement gives of the start (any of its parts by flat_of_before) -/
def lw_At (p : Program) (s : State) (m : MethodId) (meth : Method) (c : Code) (b L : Nat) (xs : Nat → Int32) : Prop :=
  p.tables.exec = Jvm.exec ∧ c.code = code ∧ meth.sig.returnType = ret ∧ c.maxLocals = 4 ∧ s.vm.findClass R_law = some m.cls ∧ (∀ w ∈ lw_tbl, w.before #[Value.ref b] s = true) ∧ va_X b L xs s s.heap ∧ b < s.heap.size ∧ meth.locks = false ∧ (Jvm.Cond.and given_1 narrow_1).before #[Value.ref b] s = true
theorem whole_of {p : Program} {e : Env} {s : State} {m : MethodId} {below : List Frame} {meth : Method} {c : Code} (l : Launch) {b L : Nat} {xs : Nat → Int32} (hL : L ≤ 3074) (C0 : lw_At p s m meth c b L xs)
    (hpure : ∀ b a0 mi z L xs, b ≠ a0 → b < z → a0 < z → L ≤ 3074 → ev_pure b a0 mi z L xs) : W p l e room_1 s m #[Value.ref b] below meth c s.heap [] 0 0 (lw_Z below #[Value.ref b] s) (entryFrame m ([Value.ref b] : List Value).toArray 4) := by
  obtain ⟨hx, hb, hr, hml, hown, hts, hX, hbl, hlk, hgv⟩ := C0
  have hsf := flat_of_before _ hgv
  have hW : ∀ w ∈ evW, w.before #[Value.ref b] s = true := fun w hw => hts w (List.mem_filter.mp hw).1
  obtain ⟨scr, q1, q2, q3, q4, q5⟩ := hX
  obtain ⟨a0, cQ, cell0, kQ, ha, hQ, hcell0, hkQ, hstat, hcls, -⟩ := Cond.exactly_spec (hsf (.exactly (.static "java/util/ArrayList" "DEFAULTCAPACITY_EMPTY_ELEMENTDATA" "[Ljava/lang/Object;") "[Ljava/lang/Object;") (by decide +kernel))
  obtain ⟨r1, r2⟩ := Cond.arrayOf_spec (hsf (.arrayOf (.static "java/util/ArrayList" "DEFAULTCAPACITY_EMPTY_ELEMENTDATA" "[Ljava/lang/Object;") (.object "java/lang/Object")) (by decide +kernel)) ha hcell0
  have r3 := ev_len0 ha hcell0 (hsf (.eq (.length (.static "java/util/ArrayList" "DEFAULTCAPACITY_EMPTY_ELEMENTDATA" "[Ljava/lang/Object;")) (.int 0)) (by decide +kernel))
  obtain ⟨mi, hmi⟩ := va_Mi.of (hsf (.isRef (.mirror "[Ljava/lang/Object;")) (by decide +kernel))
  have hZ : va_Z "java/util/ArrayList" "DEFAULTCAPACITY_EMPTY_ELEMENTDATA" "[Ljava/lang/Object;" (.ref a0) (fun q => s.heap.size ≤ q) s s.heap := va_Zof (hts _ vl_65) (hW _ w_7) ha (fun a h1 h2 => by omega)
  have ha0 : a0 < s.heap.size := (Array.getElem?_eq_some_iff.mp hcell0).1
  have hne : b ≠ a0 := by
    intro e
    subst e
    cases q1.symm.trans hcell0
    obtain ⟨-, k1, hk1, c1, hkk1⟩ := q2
    obtain ⟨-, k2, hk2, c2, hkk2⟩ := r1
    cases hk1.symm.trans hk2
    cases hkk1.symm.trans hkk2
  obtain ⟨h', hf, hc', hs'⟩ := hpure b a0 mi s.heap.size L xs hne hbl ha0 hL
  have kn := ev_kn hW
  have ar := ev_arrs hts
  let E : ev_E := (l, (fun c => (Classical.choose (kn c)).1, fun c => (Classical.choose (kn c)).2), fun t => Classical.choose (ar t), s.heap.size, scr, s.heap, a0, mi, cell0)
  have hKK : ev_K E s := ⟨⟨fun c q hq => Classical.choose_spec (kn c) q hq, fun k q hk => by simp at hk⟩, fun t h1 h2 => Classical.choose_spec (ar t) h1 h2, q2, q3, ev_x0 hts, ⟨r1, r3⟩, hmi, va_Dc.of (hts _ vl_955), hZ⟩
  have hH : ev_H E (ev_h0 s.heap.size b a0 mi L xs) s.heap := by
    refine ⟨rfl, Nat.le_refl _, rfl, rfl, rfl, fun q _ => rfl, fun a hk => ?_⟩
    by_cases hab : a = b
    · subst hab
      have e1 : xK (ev_h0 s.heap.size a a0 mi L xs) a = 58 := by simp [xK, ev_h0]
      have e2 : xL (ev_h0 s.heap.size a a0 mi L xs) a = L := by simp [xL, ev_h0]
      refine ⟨hbl, by rw [e2]; omega, Or.inr (Or.inl e1), fun c9 u1 u2 => ?_, fun u1 u2 => ?_, fun u1 u2 => ?_, fun u1 => ⟨q1, by rw [e2]; exact q4, fun j hj => ?_⟩⟩
      · rw [e1] at u1; omega
      · rw [e1] at u2; omega
      · rw [e1] at u2; omega
      · rw [e2] at hj
        have e3 : xA (ev_h0 s.heap.size a a0 mi L xs) a j = (xs j).toInt := by simp [xA, ev_h0]
        rw [e3]
        show scr.slots[j]? = some (.int (Int32.ofInt (xs j).toInt))
        rw [eI_toI]
        exact q5 j hj
    · by_cases haa : a = a0
      · subst haa
        have e1 : xK (ev_h0 s.heap.size b a mi L xs) a = 52 := by simp [xK, ev_h0, hab]
        have e2 : xL (ev_h0 s.heap.size b a mi L xs) a = 0 := by simp [xL, ev_h0, hab]
        refine ⟨ha0, by rw [e2]; omega, Or.inr (Or.inr ⟨e1, e2⟩), fun c9 u1 u2 => ?_, fun u1 u2 => ?_, fun u1 u2 => Or.inr ⟨e1, e2, hcell0⟩, fun u1 => ?_⟩
        · rw [e1] at u1; omega
        · rw [e1] at u2; omega
        · rw [e1] at u1; omega
      · exact absurd (by simp [xK, ev_h0, hab, haa]) hk
  have hEv := t_Lw_law (E := E) (some b) (ev_h0 s.heap.size b a0 mi L xs) (1, h') hf
  have hl := lv_entry [Value.ref b] (n := 4) (Nat.le_of_ble_eq_true rfl)
  rw [lg_entry_eq]
  generalize (lg_sl [Value.ref b] ++ List.replicate (4 - (lg_sl [Value.ref b]).length) Slot.unset).toArray = ls at hl ⊢
  refine hEv.2.2 p e room_1 s m #[Value.ref b] below meth c _ room_1.cells room_1.slots ⟨hx, hb, hml, hown, (fun q => absurd q (by decide)), hW, hKK, ⟨by decide, by decide, Nat.le_refl _, Nat.le_refl _⟩⟩ ?_ s.heap [] 0 0 ls hH (fun q hq => by cases hq) ⟨hl.1, hl.2.1, fun i v hi => ?_⟩ ?_ ?_
  · intro H locs pc ls' st hH' hl' hV
    refine va_forget hl' ?_
    rcases hV with ⟨hd, v, ty, e1, rfl, hr2, hn⟩ | ⟨hd, r, rt, e1, rfl, hr2, hrt⟩ | ⟨hd, e1, rfl, hr2⟩
    · have e2 : v = 1 := by
        have e3 : Int32.ofInt 1 = v := Value.int.inj (Option.some.inj e1)
        rw [← e3]
        rfl
      subst e2
      exact lw_ret hx hb hr hlk hd
    · cases r <;> (have := Option.some.inj e1; cases this)
    · cases e1
  · match i, hi with
    | 0, hi =>
      have : v = Value.ref b := by
        have := Option.some.inj (Option.some.inj hi)
        exact this.symm
      subst this
      exact ⟨hl.2.2 (0, Value.ref b) (by simp [lv_args]), rfl⟩
    | 1, hi => cases hi
    | 2, hi => cases hi
    | 3, hi => cases hi
    | n + 4, hi => cases hi
  · show 0 + (xC h' - 0) ≤ room_1.cells
    have : 100000 ≤ room_1.cells := by decide
    omega
  · show 0 + (xS h' - 0) ≤ room_1.slots
    have : 2000000 ≤ room_1.slots := by decide
    omega
