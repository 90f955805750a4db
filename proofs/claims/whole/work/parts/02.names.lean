def C_0 : String := "MeshLines"
def F_0 : u_T := fun k => match k with
  | 0 => ("MeshLines", "mesh", "LMeshLines$Mesh;", true)
  | 1 => ("MeshLines", "homes", "[LMeshLines$Home;", true)
  | 2 => ("MeshLines", "nodes", "[LMeshLines$Node;", true)
  | _ => ("MeshLines", "cycle", "I", false)
def C_1 : String := "MeshLines$Mesh"
def F_1 : u_T := fun k => match k with
  | 0 => ("MeshLines$Mesh", "lanes", "[LMeshLines$Lane;", true)
  | 1 => ("MeshLines$Mesh", "flits", "I", true)
  | 2 => ("MeshLines$Mesh", "sent", "I", false)
  | 3 => ("MeshLines$Mesh", "arrived", "I", false)
  | _ => ("MeshLines$Mesh", "overLinks", "I", false)
def C_2 : String := "MeshLines$Lane"
def F_2 : u_T := fun k => match k with
  | 0 => ("MeshLines$Lane", "node", "I", true)
  | 1 => ("MeshLines$Lane", "row", "Ljava/util/ArrayList;", true)
  | 2 => ("MeshLines$Lane", "inbox", "Ljava/util/ArrayList;", true)
  | 3 => ("MeshLines$Lane", "buffers", "[LMeshLines$FlitBuffer;", true)
  | 4 => ("MeshLines$Lane", "holders", "[I", true)
  | 5 => ("MeshLines$Lane", "last", "[I", true)
  | _ => ("MeshLines$Lane", "entered", "I", false)
def C_3 : String := "java/util/ArrayList"
def F_3 : u_T := fun k => match k with
  | 0 => ("java/util/ArrayList", "elementData", "[Ljava/lang/Object;", false)
  | 1 => ("java/util/ArrayList", "size", "I", false)
  | _ => ("java/util/AbstractList", "modCount", "I", false)
def C_4 : String := "MeshLines$FlitBuffer"
def F_4 : u_T := fun k => match k with
  | 0 => ("MeshLines$FlitBuffer", "flits", "[LMeshLines$Flit;", true)
  | _ => ("MeshLines$FlitBuffer", "size", "I", false)
def C_5 : String := "MeshLines$Home"
def F_5 : u_T := fun k => match k with
  | 0 => ("MeshLines$Home", "line", "I", true)
  | 1 => ("MeshLines$Home", "node", "I", true)
  | 2 => ("MeshLines$Home", "mesh", "LMeshLines$Mesh;", true)
  | 3 => ("MeshLines$Home", "state", "I", false)
  | 4 => ("MeshLines$Home", "owner", "I", false)
  | 5 => ("MeshLines$Home", "sharers", "I", false)
  | _ => ("MeshLines$Home", "value", "I", false)
def C_6 : String := "MeshLines$Node"
def F_6 : u_T := fun k => match k with
  | 0 => ("MeshLines$Node", "number", "I", true)
  | 1 => ("MeshLines$Node", "mesh", "LMeshLines$Mesh;", true)
  | 2 => ("MeshLines$Node", "homes", "[LMeshLines$Home;", true)
  | 3 => ("MeshLines$Node", "cache", "LMeshLines$Cache;", true)
  | _ => ("MeshLines$Node", "core", "LMeshLines$Core;", true)
def C_7 : String := "MeshLines$Cache"
def F_7 : u_T := fun k => match k with
  | 0 => ("MeshLines$Cache", "node", "I", true)
  | 1 => ("MeshLines$Cache", "mesh", "LMeshLines$Mesh;", true)
  | 2 => ("MeshLines$Cache", "states", "[I", true)
  | 3 => ("MeshLines$Cache", "values", "[I", true)
  | 4 => ("MeshLines$Cache", "needs", "[I", true)
  | _ => ("MeshLines$Cache", "used", "[I", true)
def C_8 : String := "MeshLines$Core"
def F_8 : u_T := fun k => match k with
  | 0 => ("MeshLines$Core", "cache", "LMeshLines$Cache;", true)
  | 1 => ("MeshLines$Core", "kinds", "[I", true)
  | 2 => ("MeshLines$Core", "lines", "[I", true)
  | 3 => ("MeshLines$Core", "values", "[I", true)
  | 4 => ("MeshLines$Core", "delays", "[I", true)
  | 5 => ("MeshLines$Core", "results", "[I", true)
  | 6 => ("MeshLines$Core", "total", "I", false)
  | 7 => ("MeshLines$Core", "finished", "I", false)
  | _ => ("MeshLines$Core", "finishedIn", "I", false)
def C_9 : String := "MeshLines$Flit"
def F_9 : u_T := fun k => match k with
  | 0 => ("MeshLines$Flit", "packet", "LMeshLines$Packet;", true)
  | 1 => ("MeshLines$Flit", "isHead", "Z", true)
  | 2 => ("MeshLines$Flit", "isLast", "Z", true)
  | _ => ("MeshLines$Flit", "cameIn", "I", false)
def C_10 : String := "MeshLines$Packet"
def F_10 : u_T := fun k => match k with
  | 0 => ("MeshLines$Packet", "kind", "I", true)
  | 1 => ("MeshLines$Packet", "line", "I", true)
  | 2 => ("MeshLines$Packet", "destination", "I", true)
  | 3 => ("MeshLines$Packet", "asker", "I", true)
  | 4 => ("MeshLines$Packet", "value", "I", true)
  | 5 => ("MeshLines$Packet", "acks", "I", true)
  | _ => ("MeshLines$Packet", "length", "I", true)
def C_11 : String := "MeshLinesModel"
def F_11 : u_T := fun k => match k with
  | 0 => ("MeshLinesModel", "depth", "I", true)
  | 1 => ("MeshLinesModel", "flits", "I", true)
  | 2 => ("MeshLinesModel", "cycle", "I", false)
  | 3 => ("MeshLinesModel", "live", "[Z", false)
  | 4 => ("MeshLinesModel", "kind", "[I", false)
  | 5 => ("MeshLinesModel", "line", "[I", false)
  | 6 => ("MeshLinesModel", "to", "[I", false)
  | 7 => ("MeshLinesModel", "sender", "[I", false)
  | 8 => ("MeshLinesModel", "asker", "[I", false)
  | 9 => ("MeshLinesModel", "value", "[I", false)
  | 10 => ("MeshLinesModel", "acks", "[I", false)
  | 11 => ("MeshLinesModel", "row", "[I", false)
  | 12 => ("MeshLinesModel", "rowCount", "[I", false)
  | 13 => ("MeshLinesModel", "given", "[I", false)
  | 14 => ("MeshLinesModel", "inbox", "[I", false)
  | 15 => ("MeshLinesModel", "inCount", "[I", false)
  | 16 => ("MeshLinesModel", "flitOf", "[I", false)
  | 17 => ("MeshLinesModel", "flitNumber", "[I", false)
  | 18 => ("MeshLinesModel", "cameIn", "[I", false)
  | 19 => ("MeshLinesModel", "bufferCount", "[I", false)
  | 20 => ("MeshLinesModel", "holder", "[I", false)
  | 21 => ("MeshLinesModel", "lastPort", "[I", false)
  | 22 => ("MeshLinesModel", "state", "[I", false)
  | 23 => ("MeshLinesModel", "copy", "[I", false)
  | 24 => ("MeshLinesModel", "needs", "[I", false)
  | 25 => ("MeshLinesModel", "usedAt", "[I", false)
  | 26 => ("MeshLinesModel", "homeState", "[I", false)
  | 27 => ("MeshLinesModel", "memory", "[I", false)
  | 28 => ("MeshLinesModel", "owner", "[I", false)
  | 29 => ("MeshLinesModel", "sharers", "[I", false)
  | 30 => ("MeshLinesModel", "opKind", "[I", false)
  | 31 => ("MeshLinesModel", "opLine", "[I", false)
  | 32 => ("MeshLinesModel", "opValue", "[I", false)
  | 33 => ("MeshLinesModel", "opDelay", "[I", false)
  | 34 => ("MeshLinesModel", "results", "[I", false)
  | 35 => ("MeshLinesModel", "operations", "[I", false)
  | 36 => ("MeshLinesModel", "doneCount", "[I", false)
  | 37 => ("MeshLinesModel", "rests", "[Z", false)
  | 38 => ("MeshLinesModel", "sent", "I", false)
  | 39 => ("MeshLinesModel", "arrived", "I", false)
  | _ => ("MeshLinesModel", "crossed", "I", false)
def evC : List vw_C := [(C_0, F_0, 4), (C_1, F_1, 5), (C_2, F_2, 7), (C_3, F_3, 3), (C_4, F_4, 2), (C_5, F_5, 7), (C_6, F_6, 5), (C_7, F_7, 6), (C_8, F_8, 9), (C_9, F_9, 4), (C_10, F_10, 7), (C_11, F_11, 41)]
def evN (c : Nat) : Nat := ((evC[c]?).map (fun q => q.2.2)).getD 0
-- 0 an int, 1 a boolean, 2 a reference
def evFl : List (List Nat) := [[2, 2, 2, 0], [2, 0, 0, 0, 0], [0, 2, 2, 2, 2, 2, 0], [2, 0, 0], [2, 0], [0, 0, 2, 0, 0, 0, 0], [0, 2, 2, 2, 2], [0, 2, 2, 2, 2, 2], [2, 2, 2, 2, 2, 2, 0, 0, 0], [2, 1, 1, 0], [0, 0, 0, 0, 0, 0, 0], [0, 0, 0, 2, 2, 2, 2, 2, 2, 2, 2, 2, 2, 2, 2, 2, 2, 2, 2, 2, 2, 2, 2, 2, 2, 2, 2, 2, 2, 2, 2, 2, 2, 2, 2, 2, 2, 2, 0, 0, 0]]
def evF (c k : Nat) : Nat := (evFl.getD c []).getD k 0
def evB (c k : Nat) : Bool := evF c k == 2
def evTy (t : Nat) : FieldType := match t with
  | 50 => .int
  | 51 => .boolean
  | 52 => .object "java/lang/Object"
  | 53 => .object "MeshLines$Home"
  | 54 => .object "MeshLines$Node"
  | 55 => .object "MeshLines$Lane"
  | 56 => .object "MeshLines$FlitBuffer"
  | _ => .object "MeshLines$Flit"
def evW : List Cond := lw_tbl.filter (fun w => k2_isCode w || goodWord w)
theorem evW_good (w : Cond) (hw : w ∈ evW) : (w.onTables && w.keeps) = true ∨ ∃ ty, w = .arrayClass ty := by
  have h := (List.mem_filter.mp hw).2
  rcases Bool.or_eq_true_iff.mp h with hc | hg
  · cases w <;> first | (simp [k2_isCode] at hc; done) | exact Or.inl rfl
  · exact good_of_word hg
def ev_X (U : State) : Prop := va_Nw (.methodLinkNest "MeshLines$Home" 21 ⟨"MeshLines", "homeOf", "(I)I"⟩ "MeshLines") U ∧ va_Nw (.methodLinkNest "MeshLines$Cache" 63 ⟨"MeshLines", "homeOf", "(I)I"⟩ "MeshLines") U ∧ va_Nw (.castable "MeshLines$Packet" "java/lang/Object") U ∧ va_AO "java/lang/Object" U ∧ va_AO "MeshLines$Home" U ∧ va_AO "MeshLines$Node" U ∧ va_AO "MeshLines$Lane" U ∧ va_AO "MeshLines$FlitBuffer" U ∧ va_AO "MeshLines$Flit" U
theorem ev_Xmoved {u U : State} (hW : u.WarmedH U.vm) (h : ev_X u) : ev_X U := by
  obtain ⟨k0, k1, k2, k3, k4, k5, k6, k7, k8⟩ := h
  exact ⟨va_Nw.warmM hW k0, va_Nw.warmM hW k1, va_Nw.warmC hW k2, va_AO.moved hW.alike k3, va_AO.moved hW.alike k4, va_AO.moved hW.alike k5, va_AO.moved hW.alike k6, va_AO.moved hW.alike k7, va_AO.moved hW.alike k8⟩
theorem xn_Ho_21 (U : State) (h : ev_X U) : va_Nw (.methodLinkNest "MeshLines$Home" 21 ⟨"MeshLines", "homeOf", "(I)I"⟩ "MeshLines") U := h.1
theorem xn_Ca_63 (U : State) (h : ev_X U) : va_Nw (.methodLinkNest "MeshLines$Cache" 63 ⟨"MeshLines", "homeOf", "(I)I"⟩ "MeshLines") U := h.2.1
theorem xc_52 (U : State) (h : ev_X U) : va_Nw (.castable "MeshLines$Packet" "java/lang/Object") U := h.2.2.1
theorem xo_52 (U : State) (h : ev_X U) : va_AO "java/lang/Object" U := h.2.2.2.1
theorem xo_53 (U : State) (h : ev_X U) : va_AO "MeshLines$Home" U := h.2.2.2.2.1
theorem xo_54 (U : State) (h : ev_X U) : va_AO "MeshLines$Node" U := h.2.2.2.2.2.1
theorem xo_55 (U : State) (h : ev_X U) : va_AO "MeshLines$Lane" U := h.2.2.2.2.2.2.1
theorem xo_56 (U : State) (h : ev_X U) : va_AO "MeshLines$FlitBuffer" U := h.2.2.2.2.2.2.2.1
theorem xo_57 (U : State) (h : ev_X U) : va_AO "MeshLines$Flit" U := h.2.2.2.2.2.2.2.2
