/-! The abstract machine, its heap: a number for each kind of cell, fields and elements as functions of the address.
   Ints are integers z that stand for Int32.ofInt z; a reference is an Option Nat. -/
abbrev eI (z : Int) : Value := Value.int (Int32.ofInt z)
def eOk (z : Int) : Bool := decide (-2147483648 ≤ z) && decide (z < 2147483648)
theorem eOk_iff {z : Int} : eOk z = true ↔ -2147483648 ≤ z ∧ z < 2147483648 := by simp [eOk]
theorem eI_toInt {z : Int} (h : eOk z = true) : (Int32.ofInt z).toInt = z := by
  rw [eOk_iff] at h
  rw [Int32.toInt_ofInt]
  exact Int.bmod_eq_of_le (by simp [Int32.size]; omega) (by simp [Int32.size]; omega)
theorem eI_inj {a b : Int} (ha : eOk a = true) (hb : eOk b = true) (h : Int32.ofInt a = Int32.ofInt b) : a = b := by
  have := congrArg Int32.toInt h
  rwa [eI_toInt ha, eI_toInt hb] at this
theorem eI_lt {a b : Int} (ha : eOk a = true) (hb : eOk b = true) : Int32.ofInt a < Int32.ofInt b ↔ a < b := by
  rw [Int32.lt_iff_toInt_lt, eI_toInt ha, eI_toInt hb]
theorem eI_le {a b : Int} (ha : eOk a = true) (hb : eOk b = true) : Int32.ofInt a ≤ Int32.ofInt b ↔ a ≤ b := by
  rw [Int32.le_iff_toInt_le, eI_toInt ha, eI_toInt hb]
theorem eI_add (a b : Int) : Int32.ofInt a + Int32.ofInt b = Int32.ofInt (a + b) := by rw [Int32.ofInt_add]
theorem eI_sub (a b : Int) : Int32.ofInt a - Int32.ofInt b = Int32.ofInt (a - b) := by rw [Int32.ofInt_sub]
theorem eI_mul (a b : Int) : Int32.ofInt a * Int32.ofInt b = Int32.ofInt (a * b) := by rw [Int32.ofInt_mul]
theorem eI_neg (a : Int) : - Int32.ofInt a = Int32.ofInt (-a) := by rw [Int32.ofInt_neg]
theorem eI_nat (n : Nat) : Int32.ofInt (n : Int) = nI n := by
  show Int32.ofInt (n : Int) = Int32.ofNat n
  first | rfl | exact Int32.ofInt_eq_ofNat | (apply Int32.toBitVec_inj.mp; simp)
theorem eI_div {a b : Int} (h0 : 0 ≤ a) (ha : a < 2147483648) (h1 : 0 < b) (hb : b < 2147483648) : Int32.ofInt a / Int32.ofInt b = Int32.ofInt (a / b) := by
  obtain ⟨n, rfl⟩ := Int.eq_ofNat_of_zero_le h0
  obtain ⟨k, rfl⟩ := Int.eq_ofNat_of_zero_le (Int.le_of_lt h1)
  rw [eI_nat, eI_nat, pk_div (by omega) (by omega) (by omega), ← eI_nat]
  simp
theorem eI_rem {a b : Int} (h0 : 0 ≤ a) (ha : a < 2147483648) (h1 : 0 < b) (hb : b < 2147483648) : Int32.ofInt a - Int32.ofInt a / Int32.ofInt b * Int32.ofInt b = Int32.ofInt (a % b) := by
  obtain ⟨n, rfl⟩ := Int.eq_ofNat_of_zero_le h0
  obtain ⟨k, rfl⟩ := Int.eq_ofNat_of_zero_le (Int.le_of_lt h1)
  rw [eI_nat, eI_nat, pk_rem (by omega) (by omega) (by omega), ← eI_nat]
  simp
theorem eI_cl {z : Int} (h0 : 0 ≤ z) (h : z < 2147483648) : (Int32.ofInt z).toNatClampNeg = z.toNat := by
  obtain ⟨n, rfl⟩ := Int.eq_ofNat_of_zero_le h0
  rw [eI_nat, nI_clamp (by omega)]
  simp
theorem eI_nneg {z : Int} (h0 : 0 ≤ z) (h : z < 2147483648) : ¬ Int32.ofInt z < 0 := by
  obtain ⟨n, rfl⟩ := Int.eq_ofNat_of_zero_le h0
  rw [eI_nat]
  exact nI_pos (by omega)
theorem eI_in {z : Int} {n : Nat} (h0 : 0 ≤ z) (h : z < n) (hn : n < 2147483648) : vp_in (Int32.ofInt z) n := by
  obtain ⟨k, rfl⟩ := Int.eq_ofNat_of_zero_le h0
  rw [eI_nat]
  exact vp_in_nI (by omega) (by omega)
def eAnd (a b : Int) : Int := (Int32.ofInt a &&& Int32.ofInt b).toInt
def eOr (a b : Int) : Int := (Int32.ofInt a ||| Int32.ofInt b).toInt
def eXor (a b : Int) : Int := (Int32.ofInt a ^^^ Int32.ofInt b).toInt
def eShl (a b : Int) : Int := (Int32.ofInt a <<< (Int32.ofInt b &&& 31)).toInt
def eShr (a b : Int) : Int := (Int32.ofInt a >>> (Int32.ofInt b &&& 31)).toInt
def eUshr (a b : Int) : Int := ((Int32.ofInt a).toUInt32 >>> ((Int32.ofInt b).toUInt32 &&& Int32.toUInt32 31)).toInt32.toInt
theorem eI_toI (x : Int32) : Int32.ofInt x.toInt = x := by simp
-- the heap: kinds, int fields, reference fields, lengths, ints of arrays, references of arrays, size, cells made, slots made, the empty row, the mirror
abbrev ev_hs : Type := (Nat → Nat) × (Nat → Nat → Int) × (Nat → Nat → Option Nat) × (Nat → Nat) × (Nat → Nat → Int) × (Nat → Nat → Option Nat) × Nat × Nat × Nat × Nat × Nat
def xK (h : ev_hs) : Nat → Nat := h.1
def xI (h : ev_hs) : Nat → Nat → Int := h.2.1
def xR (h : ev_hs) : Nat → Nat → Option Nat := h.2.2.1
def xL (h : ev_hs) : Nat → Nat := h.2.2.2.1
def xA (h : ev_hs) : Nat → Nat → Int := h.2.2.2.2.1
def xQ (h : ev_hs) : Nat → Nat → Option Nat := h.2.2.2.2.2.1
def xZ (h : ev_hs) : Nat := h.2.2.2.2.2.2.1
def xC (h : ev_hs) : Nat := h.2.2.2.2.2.2.2.1
def xS (h : ev_hs) : Nat := h.2.2.2.2.2.2.2.2.1
def xE (h : ev_hs) : Nat := h.2.2.2.2.2.2.2.2.2.1
def xM (h : ev_hs) : Nat := h.2.2.2.2.2.2.2.2.2.2
def up2 {α : Type} (f : Nat → Nat → α) (i j : Nat) (v : α) : Nat → Nat → α := fun a b => if a = i ∧ b = j then v else f a b
-- writes
def wI (h : ev_hs) (f a : Nat) (z : Int) : ev_hs := (xK h, up2 (xI h) f a z, xR h, xL h, xA h, xQ h, xZ h, xC h, xS h, xE h, xM h)
def wR (h : ev_hs) (f a : Nat) (o : Option Nat) : ev_hs := (xK h, xI h, up2 (xR h) f a o, xL h, xA h, xQ h, xZ h, xC h, xS h, xE h, xM h)
def wA (h : ev_hs) (a j : Nat) (z : Int) : ev_hs := (xK h, xI h, xR h, xL h, up2 (xA h) a j z, xQ h, xZ h, xC h, xS h, xE h, xM h)
def wQ (h : ev_hs) (a j : Nat) (o : Option Nat) : ev_hs := (xK h, xI h, xR h, xL h, xA h, up2 (xQ h) a j o, xZ h, xC h, xS h, xE h, xM h)
def wC (h : ev_hs) (a s d p n : Nat) : ev_hs := (xK h, xI h, xR h, xL h, xA h, (fun b j => if b = d ∧ p ≤ j ∧ j < p + n then xQ h a (s + (j - p)) else xQ h b j), xZ h, xC h, xS h, xE h, xM h)
def wN (h : ev_hs) (c n : Nat) : ev_hs := (va_up (xK h) (xZ h) (c + 1), (fun f a => if a = xZ h then 0 else xI h f a), (fun f a => if a = xZ h then none else xR h f a), va_up (xL h) (xZ h) 0, xA h, xQ h, xZ h + 1, xC h + 1, xS h + n, xE h, xM h)
def wY (h : ev_hs) (t n : Nat) : ev_hs := (va_up (xK h) (xZ h) t, xI h, xR h, va_up (xL h) (xZ h) n, va_up (xA h) (xZ h) (fun _ => 0), va_up (xQ h) (xZ h) (fun _ => none), xZ h + 1, xC h + 1, xS h + n, xE h, xM h)
section Ops
variable {α : Type}
-- reading and writing, with what comes behind: none where the abstract machine doesn't go
def gI (h : ev_hs) (c k : Nat) (o : Option Nat) (K : Int → Option α) : Option α := match o with
  | none => none
  | some a => if xK h a = c + 1 then K (xI h (100 * c + k) a) else none
def gR (h : ev_hs) (c k : Nat) (o : Option Nat) (K : Option Nat → Option α) : Option α := match o with
  | none => none
  | some a => if xK h a = c + 1 then K (xR h (100 * c + k) a) else none
def pI (h : ev_hs) (c k : Nat) (o : Option Nat) (z : Int) (K : ev_hs → Option α) : Option α := match o with
  | none => none
  | some a => if xK h a = c + 1 then K (wI h (100 * c + k) a z) else none
def pZ (h : ev_hs) (c k : Nat) (o : Option Nat) (z : Int) (K : ev_hs → Option α) : Option α := match o with
  | none => none
  | some a => if xK h a = c + 1 ∧ (z = 0 ∨ z = 1) then K (wI h (100 * c + k) a z) else none
def pR (h : ev_hs) (c k : Nat) (o : Option Nat) (v : Option Nat) (K : ev_hs → Option α) : Option α := match o with
  | none => none
  | some a => if xK h a = c + 1 then K (wR h (100 * c + k) a v) else none
def lI (h : ev_hs) (t : Nat) (o : Option Nat) (i : Int) (K : Int → Option α) : Option α := match o with
  | none => none
  | some a => if xK h a = t ∧ 0 ≤ i ∧ i < (xL h a : Int) then K (xA h a i.toNat) else none
def lQ (h : ev_hs) (t : Nat) (o : Option Nat) (i : Int) (K : Option Nat → Option α) : Option α := match o with
  | none => none
  | some a => if xK h a = t ∧ 0 ≤ i ∧ i < (xL h a : Int) then K (xQ h a i.toNat) else none
def sI (h : ev_hs) (t : Nat) (o : Option Nat) (i : Int) (z : Int) (K : ev_hs → Option α) : Option α := match o with
  | none => none
  | some a => if xK h a = t ∧ 0 ≤ i ∧ i < (xL h a : Int) then K (wA h a i.toNat z) else none
def sZ (h : ev_hs) (t : Nat) (o : Option Nat) (i : Int) (z : Int) (K : ev_hs → Option α) : Option α := match o with
  | none => none
  | some a => if xK h a = t ∧ 0 ≤ i ∧ i < (xL h a : Int) ∧ (z = 0 ∨ z = 1) then K (wA h a i.toNat z) else none
def okQ (h : ev_hs) (e : Nat) (v : Option Nat) : Bool := match v with
  | none => true
  | some w => xK h w == e + 1
-- of an array of kind t, whose elements may be objects of class e
def sQ (h : ev_hs) (t e : Nat) (o : Option Nat) (i : Int) (v : Option Nat) (K : ev_hs → Option α) : Option α := match o with
  | none => none
  | some a => if xK h a = t ∧ 0 ≤ i ∧ i < (xL h a : Int) ∧ okQ h e v = true then K (wQ h a i.toNat v) else none
def aL (h : ev_hs) (t : Nat) (o : Option Nat) (K : Int → Option α) : Option α := match o with
  | none => none
  | some a => if xK h a = t then K (xL h a : Int) else none
def nO (h : ev_hs) (c n : Nat) (K : Option Nat → ev_hs → Option α) : Option α := K (some (xZ h)) (wN h c n)
def nA (h : ev_hs) (t : Nat) (n : Int) (K : Option Nat → ev_hs → Option α) : Option α := if 0 ≤ n ∧ n ≤ 100000000 then K (some (xZ h)) (wY h t n.toNat) else none
def bI (o : Option (Int × ev_hs)) (K : Int → ev_hs → Option α) : Option α := match o with
  | none => none
  | some y => K y.1 y.2
def bR (o : Option (Option Nat × ev_hs)) (K : Option Nat → ev_hs → Option α) : Option α := match o with
  | none => none
  | some y => K y.1 y.2
def bV (o : Option ev_hs) (K : ev_hs → Option α) : Option α := match o with
  | none => none
  | some y => K y
-- the receiver is an object of class c; it isn't null
def vK (h : ev_hs) (c : Nat) (o : Option Nat) (A : Option α) : Option α := match o with
  | none => none
  | some a => if xK h a = c + 1 then A else none
def nN (o : Option Nat) (A : Option α) : Option α := match o with
  | none => none
  | some _ => A
def eLt (a b : Int) (A B : Option α) : Option α := if eOk a = true ∧ eOk b = true then (if a < b then A else B) else none
def eEq (a b : Int) (A B : Option α) : Option α := if a = b then A else if eOk a = true ∧ eOk b = true then B else none
def eNu (o : Option Nat) (A B : Option α) : Option α := match o with
  | none => A
  | some _ => B
def eAe (o v : Option Nat) (A B : Option α) : Option α := if o = v then A else B
def eDiv (a b : Int) (K : Int → Option α) : Option α := if 0 ≤ a ∧ a < 2147483648 ∧ 0 < b ∧ b < 2147483648 then K (a / b) else none
def eRem (a b : Int) (K : Int → Option α) : Option α := if 0 ≤ a ∧ a < 2147483648 ∧ 0 < b ∧ b < 2147483648 then K (a % b) else none
-- checkcast to class c, to the kind t of arrays
def eCc (h : ev_hs) (c : Nat) (o : Option Nat) (K : Option α) : Option α := match o with
  | none => K
  | some a => if xK h a = c + 1 then K else none
def eCa (h : ev_hs) (t : Nat) (o : Option Nat) (K : Option α) : Option α := match o with
  | none => K
  | some a => if xK h a = t ∧ 0 < xL h a then K else none
-- getClass of a row of objects
def eGc (h : ev_hs) (t : Nat) (o : Option Nat) (K : Option Nat → Option α) : Option α := match o with
  | none => none
  | some a => if xK h a = t ∧ 0 < xL h a then K (some (xM h)) else none
def okR (h : ev_hs) (e a s n : Nat) : Bool := (List.range n).all (fun i => okQ h e (xQ h a (s + i)))
-- System.arraycopy between rows of objects (kind t, objects of class e)
def cQ (h : ev_hs) (t e : Nat) (o : Option Nat) (sp : Int) (v : Option Nat) (dp n : Int) (K : ev_hs → Option α) : Option α := match o, v with
  | some a, some d => if xK h a = t ∧ xK h d = t ∧ 0 ≤ sp ∧ 0 ≤ dp ∧ 0 ≤ n ∧ sp + n ≤ (xL h a : Int) ∧ dp + n ≤ (xL h d : Int) ∧ okR h e a sp.toNat n.toNat = true ∧ 0 < n then K (wC h a sp.toNat d dp.toNat n.toNat) else none
  | _, _ => none
end Ops
/-! The judgement: from pc, locals lo, stack st, heap h the method M comes to its end with x -/
abbrev ev_E : Type := Launch × va_G × (Nat → ClassId) × Nat × Cell × Heap × Nat × Nat × Cell
abbrev eLa (E : ev_E) : Launch := E.1
abbrev eD (E : ev_E) : va_G := E.2.1
abbrev eA (E : ev_E) : Nat → ClassId := E.2.2.1
abbrev e0 (E : ev_E) : Nat := E.2.2.2.1
abbrev eSc (E : ev_E) : Cell := E.2.2.2.2.1
abbrev eHb (E : ev_E) : Heap := E.2.2.2.2.2.1
abbrev eEm (E : ev_E) : Nat := E.2.2.2.2.2.2.1
abbrev eMi (E : ev_E) : Nat := E.2.2.2.2.2.2.2.1
abbrev eEc (E : ev_E) : Cell := E.2.2.2.2.2.2.2.2
abbrev ev_M : Type := MethodName × ByteArray × Nat × Option FieldType
abbrev mY (M : ev_M) : MethodName := M.1
abbrev mB (M : ev_M) : ByteArray := M.2.1
abbrev mL (M : ev_M) : Nat := M.2.2.1
abbrev mR (M : ev_M) : Option FieldType := M.2.2.2
def ev_fv (h : ev_hs) (c a k : Nat) : Value := if evB c k = true then va_rf (xR h (100 * c + k) a) else eI (xI h (100 * c + k) a)
def ev_fs (h : ev_hs) (c a : Nat) : List Value := (List.range (evN c)).map (ev_fv h c a)
def ev_at (E : ev_E) (h : ev_hs) (H : Heap) (a : Nat) : Prop :=
  (∀ c, xK h a = c + 1 → c < 49 → va_at (eD E) evC (a, .inr (c, ev_fs h c a)) H) ∧
  (50 ≤ xK h a → xK h a ≤ 51 → H[a]? = some (vp_cell (eA E (xK h a)) (xL h a, .inl (fun j => Int32.ofInt (xA h a j))))) ∧
  (52 ≤ xK h a → xK h a ≤ 57 → H[a]? = some (vp_cell (eA E (xK h a)) (xL h a, .inr (.inr (.inr (.inr (xQ h a)))))) ∨ (xK h a = 52 ∧ xL h a = 0 ∧ H[a]? = some (eEc E))) ∧
  (xK h a = 58 → H[a]? = some (eSc E) ∧ (eSc E).slots.size = xL h a ∧ ∀ j, j < xL h a → (eSc E).slots[j]? = some (eI (xA h a j)))
def ev_H (E : ev_E) (h : ev_hs) (H : Heap) : Prop :=
  H.size = xZ h ∧ e0 E ≤ xZ h ∧ xE h = eEm E ∧ xM h = eMi E ∧ (eHb E).size = e0 E ∧ (∀ q, q < e0 E → H[q]? = (eHb E)[q]?) ∧
  ∀ a, xK h a ≠ 0 → a < xZ h ∧ xL h a < 2147483648 ∧ (e0 E ≤ a ∨ xK h a = 58 ∨ (xK h a = 52 ∧ xL h a = 0)) ∧ ev_at E h H a
def ev_K (E : ev_E) (U : State) : Prop :=
  va_K (eD E) evC [] U ∧ (∀ t, 50 ≤ t → t ≤ 57 → ArrOfT U (eA E t) (evTy t) ∧ va_RA U (eA E t) (evTy t)) ∧ U.isArrayOf (eSc E) .int ∧ (eSc E).vm ≠ .unknown ∧
  ev_X U ∧ (U.isArrayOf (eEc E) (.object "java/lang/Object") ∧ (eEc E).slots.size = 0) ∧ va_Mi "[Ljava/lang/Object;" (eMi E) U ∧ va_Dc U ∧
  va_Z "java/util/ArrayList" "DEFAULTCAPACITY_EMPTY_ELEMENTDATA" "[Ljava/lang/Object;" (.ref (eEm E)) (fun q => e0 E ≤ q) U (eHb E)
def ev_Ro (d mc ms : Nat) (R : Room) : Prop := d ≤ R.frames ∧ 40 * d ≤ R.locals ∧ mc ≤ R.cells ∧ ms ≤ R.slots
def ev_S (E : ev_E) (M : ev_M) (d mc ms : Nat) (p : Program) (R : Room) (s : State) (m : MethodId) (args : Array Value) (meth : Method) (c : Code) : Prop :=
  p.tables.exec = Jvm.exec ∧ c.code = mB M ∧ c.maxLocals = mL M ∧ s.vm.findClass (mY M).cls = some m.cls ∧ ((mY M).name = "<init>" → meth.name = "<init>") ∧ (∀ w ∈ evW, w.before args s = true) ∧ ev_K E s ∧ ev_Ro d mc ms R
-- a return at pc with the stack st gives o
def ev_V (M : ev_M) (pc : Nat) (o : Option Value) (st : List Value) : Prop :=
  (decode (mB M) pc = .ok (.ireturn, 1) ∧ ∃ (v : Int32) (ty : FieldType), o = some (.int v) ∧ st = [.int v] ∧ mR M = some ty ∧ narrow ty (.int v) = .int v) ∨
  (decode (mB M) pc = .ok (.areturn, 1) ∧ ∃ (r : Option Nat) (rt : FieldType), o = some (va_rf r) ∧ st = [va_rf r] ∧ mR M = some rt ∧ ((∃ n, rt = .object n) ∨ ∃ t, rt = .array t)) ∨
  (decode (mB M) pc = .ok (.return_, 1) ∧ o = none ∧ st = [] ∧ mR M = none)
def ev_T (E : ev_E) (M : ev_M) (x : Option Value × ev_hs) (mc ms : Nat) (p : Program) (e : Env) (R : Room) (s : State) (m : MethodId) (args : Array Value) (below : List Frame) (meth : Method) (c : Code) (Z : State → Prop) : Prop :=
  ∀ (H : Heap) (locs : List Loc) (pc : Nat) (ls : Array Slot) (st : List Value), ev_H E x.2 H → (∀ q ∈ locs, e0 E ≤ q.base) → ev_V M pc x.1 st → W p (eLa E) e R s m args below meth c H locs mc ms Z (F0 m pc ls st)
def ev_L (ls : Array Slot) (nL : Nat) (lo : List (Option Value)) : Prop :=
  ls.size = nL ∧ lv_wf ls ∧ ∀ (i : Nat) (v : Value), lo[i]? = some (some v) → ls[i]? = some (.val v) ∧ v.category = 1
def Ev (E : ev_E) (M : ev_M) (d pc : Nat) (lo : List (Option Value)) (st : List Value) (h : ev_hs) (x : Option Value × ev_hs) : Prop :=
  xC h ≤ xC x.2 ∧ xS h ≤ xS x.2 ∧
  ∀ (p : Program) (e : Env) (R : Room) (s : State) (m : MethodId) (args : Array Value) (below : List Frame) (meth : Method) (c : Code) (Z : State → Prop) (mc ms : Nat),
    ev_S E M d mc ms p R s m args meth c → ev_T E M x mc ms p e R s m args below meth c Z →
    ∀ (H : Heap) (locs : List Loc) (cells slots : Nat) (ls : Array Slot), ev_H E h H → (∀ q ∈ locs, e0 E ≤ q.base) → ev_L ls (mL M) lo → cells + (xC x.2 - xC h) ≤ mc → slots + (xS x.2 - xS h) ≤ ms →
      W p (eLa E) e R s m args below meth c H locs cells slots Z (F0 m pc ls st)
def EvO {α : Type} (E : ev_E) (M : ev_M) (d : Nat) (cv : α → Option Value × ev_hs) (pc : Nat) (lo : List (Option Value)) (st : List Value) (h : ev_hs) (o : Option α) : Prop :=
  ∀ x, o = some x → Ev E M d pc lo st h (cv x)
def cvI (y : Int × ev_hs) : Option Value × ev_hs := (some (eI y.1), y.2)
def cvR (y : Option Nat × ev_hs) : Option Value × ev_hs := (some (va_rf y.1), y.2)
def cvV (y : ev_hs) : Option Value × ev_hs := (none, y)
theorem va_rf_cat (o : Option Nat) : (va_rf o).category = 1 := by cases o <;> rfl
theorem eI_cat (z : Int) : (eI z).category = 1 := rfl
def ev_sm (st : List Value) (j : Nat) : Prop := (st.map fun v => v.category).sum ≤ j
theorem ev_sm0 : ev_sm [] 0 := Nat.le_refl _
theorem ev_smc {v : Value} {st : List Value} {j : Nat} (hv : v.category = 1) (hs : ev_sm st j) : ev_sm (v :: st) (j + 1) := by
  unfold ev_sm at *
  simp only [List.map_cons, List.sum_cons, hv]
  omega
def ev_sub : List (Option Value) → List (Option Value) → Prop
  | [], _ => True
  | none :: r, _ :: s => ev_sub r s
  | some v :: r, a :: s => a = some v ∧ ev_sub r s
  | _ :: _, [] => False
theorem ev_sub0 {l : List (Option Value)} : ev_sub [] l := trivial
theorem ev_subN {r s : List (Option Value)} {a : Option Value} (h : ev_sub r s) : ev_sub (none :: r) (a :: s) := h
theorem ev_subS {r s : List (Option Value)} {v : Value} (h : ev_sub r s) : ev_sub (some v :: r) (some v :: s) := ⟨rfl, h⟩
theorem ev_sub_get {lo' lo : List (Option Value)} (hs : ev_sub lo' lo) {i : Nat} {v : Value} (hi : lo'[i]? = some (some v)) : lo[i]? = some (some v) := by
  induction lo' generalizing lo i with
  | nil => simp at hi
  | cons b r ih =>
    cases lo with
    | nil => cases b <;> exact hs.elim
    | cons a s =>
      cases b with
      | none =>
        cases i with
        | zero => simp at hi
        | succ i => exact ih (lo := s) hs hi
      | some w =>
        cases i with
        | zero =>
          simp at hi
          subst hi
          simp [hs.1]
        | succ i => exact ih (lo := s) hs.2 hi
def jn {α γ : Type} (F : γ) (R : γ → Option α) : Option α := R F
def FU : Nat := 100000
section Rules
variable {α : Type} {E : ev_E} {M : ev_M} {d : Nat} {cv : α → Option Value × ev_hs} {pc : Nat} {lo : List (Option Value)} {st : List Value} {h : ev_hs} {o : Option α}
theorem ev_jn {γ : Type} {F : γ} {R : γ → Option α} (P : γ → Prop) (hF : P F) (hR : ∀ J, P J → EvO E M d cv pc lo st h (R J)) : EvO E M d cv pc lo st h (jn F R) := hR F hF
theorem ev_wk {lo' : List (Option Value)} (k : EvO E M d cv pc lo' st h o) (hs : ev_sub lo' lo) : EvO E M d cv pc lo st h o := by
  intro x hx
  obtain ⟨h1, h2, h3⟩ := k x hx
  exact ⟨h1, h2, fun p e R s m args below meth c Z mc ms hS hT H locs cells slots ls hH hl hL hc hs' => h3 p e R s m args below meth c Z mc ms hS hT H locs cells slots ls hH hl ⟨hL.1, hL.2.1, fun i v hi => hL.2.2 i v (ev_sub_get hs hi)⟩ hc hs'⟩
theorem ev_no : EvO E M d cv pc lo st h none := fun x hx => by cases hx
-- an instruction that changes neither heap nor locals
theorem ev_lift {pc' : Nat} {st' : List Value}
    (step : ∀ {p : Program} {e : Env} {R : Room} {s : State} {m : MethodId} {args : Array Value} {below : List Frame} {meth : Method} {c : Code} {H : Heap} {locs : List Loc} {cells slots : Nat} {Z : State → Prop} {ls : Array Slot} {mc ms : Nat},
      ev_S E M d mc ms p R s m args meth c → ev_L ls (mL M) lo → W p (eLa E) e R s m args below meth c H locs cells slots Z (F0 m pc' ls st') → W p (eLa E) e R s m args below meth c H locs cells slots Z (F0 m pc ls st))
    (k : EvO E M d cv pc' lo st' h o) : EvO E M d cv pc lo st h o := by
  intro x hx
  obtain ⟨h1, h2, h3⟩ := k x hx
  exact ⟨h1, h2, fun p e R s m args below meth c Z mc ms hS hT H locs cells slots ls hH hl hL hc hs => step hS hL (h3 p e R s m args below meth c Z mc ms hS hT H locs cells slots ls hH hl hL hc hs)⟩
-- the same, with the heap at hand
theorem ev_liftH {pc' : Nat} {st' : List Value}
    (step : ∀ {p : Program} {e : Env} {R : Room} {s : State} {m : MethodId} {args : Array Value} {below : List Frame} {meth : Method} {c : Code} {H : Heap} {locs : List Loc} {cells slots : Nat} {Z : State → Prop} {ls : Array Slot} {mc ms : Nat},
      ev_S E M d mc ms p R s m args meth c → ev_L ls (mL M) lo → ev_H E h H → (∀ q ∈ locs, e0 E ≤ q.base) → W p (eLa E) e R s m args below meth c H locs cells slots Z (F0 m pc' ls st') → W p (eLa E) e R s m args below meth c H locs cells slots Z (F0 m pc ls st))
    (k : EvO E M d cv pc' lo st' h o) : EvO E M d cv pc lo st h o := by
  intro x hx
  obtain ⟨h1, h2, h3⟩ := k x hx
  exact ⟨h1, h2, fun p e R s m args below meth c Z mc ms hS hT H locs cells slots ls hH hl hL hc hs => step hS hL hH hl (h3 p e R s m args below meth c Z mc ms hS hT H locs cells slots ls hH hl hL hc hs)⟩
-- the locals change
theorem ev_liftL {pc' : Nat} {lo' : List (Option Value)} {st' : List Value}
    (step : ∀ {p : Program} {e : Env} {R : Room} {s : State} {m : MethodId} {args : Array Value} {below : List Frame} {meth : Method} {c : Code} {H : Heap} {locs : List Loc} {cells slots : Nat} {Z : State → Prop} {ls : Array Slot} {mc ms : Nat},
      ev_S E M d mc ms p R s m args meth c → ev_L ls (mL M) lo → (∀ ls', ev_L ls' (mL M) lo' → W p (eLa E) e R s m args below meth c H locs cells slots Z (F0 m pc' ls' st')) → W p (eLa E) e R s m args below meth c H locs cells slots Z (F0 m pc ls st))
    (k : EvO E M d cv pc' lo' st' h o) : EvO E M d cv pc lo st h o := by
  intro x hx
  obtain ⟨h1, h2, h3⟩ := k x hx
  exact ⟨h1, h2, fun p e R s m args below meth c Z mc ms hS hT H locs cells slots ls hH hl hL hc hs => step hS hL (fun ls' hL' => h3 p e R s m args below meth c Z mc ms hS hT H locs cells slots ls' hH hl hL' hc hs)⟩
-- the heap changes: cells of ours alone; c1, s1 cells and slots are new
theorem ev_liftW {pc' : Nat} {st' : List Value} {h' : ev_hs} {c1 s1 : Nat} (hc1 : xC h' = xC h + c1) (hs1 : xS h' = xS h + s1)
    (step : ∀ {p : Program} {e : Env} {R : Room} {s : State} {m : MethodId} {args : Array Value} {below : List Frame} {meth : Method} {c : Code} {H : Heap} {locs : List Loc} {cells slots : Nat} {Z : State → Prop} {ls : Array Slot} {mc ms : Nat},
      ev_S E M d mc ms p R s m args meth c → ev_L ls (mL M) lo → ev_H E h H → (∀ q ∈ locs, e0 E ≤ q.base) → cells + c1 ≤ mc → slots + s1 ≤ ms →
      (∀ (H' : Heap) (locs' : List Loc), ev_H E h' H' → (∀ q ∈ locs', e0 E ≤ q.base) → W p (eLa E) e R s m args below meth c H' locs' (cells + c1) (slots + s1) Z (F0 m pc' ls st')) → W p (eLa E) e R s m args below meth c H locs cells slots Z (F0 m pc ls st))
    (k : EvO E M d cv pc' lo st' h' o) : EvO E M d cv pc lo st h o := by
  intro x hx
  obtain ⟨h1, h2, h3⟩ := k x hx
  refine ⟨by omega, by omega, fun p e R s m args below meth c Z mc ms hS hT H locs cells slots ls hH hl hL hc hs => step hS hL hH hl (by omega) (by omega) (fun H' locs' hH' hl' => h3 p e R s m args below meth c Z mc ms hS hT H' locs' (cells + c1) (slots + s1) ls hH' hl' hL (by omega) (by omega))⟩
end Rules
