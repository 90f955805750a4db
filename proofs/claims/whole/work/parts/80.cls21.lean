/-! Constructors: the heap as a map of cells -/
abbrev Cl : Type := Nat × Nat × (Nat → Int) × (Nat → Option Nat) × (Nat → Int) × (Nat → Option Nat)
def cel (g : ev_hs) (b : Nat) : Cl := (xK g b, xL g b, (fun f => xI g f b), (fun f => xR g f b), xA g b, xQ g b)
def nc (k l : Nat) : Cl := (k, l, (fun _ => 0), (fun _ => none), (fun _ => 0), (fun _ => none))
def clI (c : Cl) (f : Nat) (v : Int) : Cl := (c.1, c.2.1, (fun x => if x = f then v else c.2.2.1 x), c.2.2.2.1, c.2.2.2.2.1, c.2.2.2.2.2)
def clR (c : Cl) (f : Nat) (v : Option Nat) : Cl := (c.1, c.2.1, c.2.2.1, (fun x => if x = f then v else c.2.2.2.1 x), c.2.2.2.2.1, c.2.2.2.2.2)
def clA (c : Cl) (j : Nat) (v : Int) : Cl := (c.1, c.2.1, c.2.2.1, c.2.2.2.1, (fun x => if x = j then v else c.2.2.2.2.1 x), c.2.2.2.2.2)
def clQ (c : Cl) (j : Nat) (v : Option Nat) : Cl := (c.1, c.2.1, c.2.2.1, c.2.2.2.1, c.2.2.2.2.1, (fun x => if x = j then v else c.2.2.2.2.2 x))
def upM (M : Nat → Cl) (a : Nat) (c : Cl) : Nat → Cl := fun b => if b = a then c else M b
def hM (g : ev_hs) (M : Nat → Cl) (z C S e m : Nat) : Prop := (∀ b, cel g b = M b) ∧ xZ g = z ∧ xC g = C ∧ xS g = S ∧ xE g = e ∧ xM g = m ∧ ∀ b, z ≤ b → M b = nc 0 0
section Cls21
variable {α : Type} {g : ev_hs} {M : Nat → Cl} {z C S e m : Nat} {Q : ev_hs → Prop}
theorem h_K (H : hM g M z C S e m) (b : Nat) : xK g b = (M b).1 := congrArg (fun c : Cl => c.1) (H.1 b)
theorem h_L (H : hM g M z C S e m) (b : Nat) : xL g b = (M b).2.1 := congrArg (fun c : Cl => c.2.1) (H.1 b)
theorem h_I (H : hM g M z C S e m) (f b : Nat) : xI g f b = (M b).2.2.1 f := congrFun (congrArg (fun c : Cl => c.2.2.1) (H.1 b)) f
theorem h_R (H : hM g M z C S e m) (f b : Nat) : xR g f b = (M b).2.2.2.1 f := congrFun (congrArg (fun c : Cl => c.2.2.2.1) (H.1 b)) f
theorem h_A (H : hM g M z C S e m) (b j : Nat) : xA g b j = (M b).2.2.2.2.1 j := congrFun (congrArg (fun c : Cl => c.2.2.2.2.1) (H.1 b)) j
theorem h_Q (H : hM g M z C S e m) (b j : Nat) : xQ g b j = (M b).2.2.2.2.2 j := congrFun (congrArg (fun c : Cl => c.2.2.2.2.2) (H.1 b)) j
theorem h_lt (H : hM g M z C S e m) {a : Nat} (ha : (M a).1 ≠ 0) : a < z := by
  by_cases h : a < z
  · exact h
  · exfalso
    have := H.2.2.2.2.2.2 a (by omega)
    rw [this] at ha
    exact ha rfl
theorem h_M {M' : Nat → Cl} (H : hM g M z C S e m) (hm : ∀ b, M' b = M b) : hM g M' z C S e m := by
  have : M' = M := funext hm
  rw [this]
  exact H
theorem s_nO {c n : Nat} {K : Option Nat → ev_hs → Option ev_hs} (H : hM g M z C S e m) (k : ∀ g', hM g' (upM M z (nc (c + 1) 0)) (z + 1) (C + 1) (S + n) e m → ∃ r, K (some z) g' = some r ∧ Q r) : ∃ r, nO g c n K = some r ∧ Q r := by
  have H2 := H
  obtain ⟨h1, h2, h3, h4, h5, h6, h7⟩ := H2
  unfold nO
  rw [h2]
  refine k _ ⟨fun b => ?_, by show xZ g + 1 = _; omega, by show xC g + 1 = _; omega, by show xS g + n = _; omega, h5, h6, fun b hb => ?_⟩
  · unfold upM
    by_cases hb : b = z
    · subst hb
      rw [if_pos rfl]
      have a1 : xA g b = fun _ => 0 := funext (fun j => by rw [h_A H, h7 b (by omega)]; rfl)
      have a2 : xQ g b = fun _ => none := funext (fun j => by rw [h_Q H, h7 b (by omega)]; rfl)
      show (va_up (xK g) (xZ g) (c + 1) b, va_up (xL g) (xZ g) 0 b, (fun f => if b = xZ g then 0 else xI g f b), (fun f => if b = xZ g then none else xR g f b), xA g b, xQ g b) = _
      rw [a1, a2, h2]
      simp [va_up, nc]
    · rw [if_neg hb]
      rw [← h1 b]
      show (va_up (xK g) (xZ g) (c + 1) b, va_up (xL g) (xZ g) 0 b, (fun f => if b = xZ g then 0 else xI g f b), (fun f => if b = xZ g then none else xR g f b), xA g b, xQ g b) = _
      rw [h2]
      simp [va_up, hb, cel]
  · unfold upM
    rw [if_neg (by omega), h7 b (by omega)]
theorem s_nA {t : Nat} {n : Int} {K : Option Nat → ev_hs → Option ev_hs} (H : hM g M z C S e m) (h0 : 0 ≤ n) (h1 : n ≤ 100000000) (k : ∀ g', hM g' (upM M z (nc t n.toNat)) (z + 1) (C + 1) (S + n.toNat) e m → ∃ r, K (some z) g' = some r ∧ Q r) : ∃ r, nA g t n K = some r ∧ Q r := by
  have H2 := H
  obtain ⟨i1, h2, h3, h4, h5, h6, h7⟩ := H2
  unfold nA
  rw [if_pos ⟨h0, h1⟩, h2]
  refine k _ ⟨fun b => ?_, by show xZ g + 1 = _; omega, by show xC g + 1 = _; omega, by show xS g + n.toNat = _; omega, h5, h6, fun b hb => ?_⟩
  · unfold upM
    by_cases hb : b = z
    · subst hb
      rw [if_pos rfl]
      have a1 : (fun f => xI g f b) = fun _ => 0 := funext (fun j => by rw [h_I H, h7 b (by omega)]; rfl)
      have a2 : (fun f => xR g f b) = fun _ => none := funext (fun j => by rw [h_R H, h7 b (by omega)]; rfl)
      show (va_up (xK g) (xZ g) t b, va_up (xL g) (xZ g) n.toNat b, (fun f => xI g f b), (fun f => xR g f b), va_up (xA g) (xZ g) (fun _ => 0) b, va_up (xQ g) (xZ g) (fun _ => none) b) = _
      rw [a1, a2, h2]
      simp [va_up, nc]
    · rw [if_neg hb]
      rw [← i1 b]
      show (va_up (xK g) (xZ g) t b, va_up (xL g) (xZ g) n.toNat b, (fun f => xI g f b), (fun f => xR g f b), va_up (xA g) (xZ g) (fun _ => 0) b, va_up (xQ g) (xZ g) (fun _ => none) b) = _
      rw [h2]
      simp [va_up, hb, cel]
  · unfold upM
    rw [if_neg (by omega), h7 b (by omega)]
theorem s_pI {c f a : Nat} {v : Int} {K : ev_hs → Option ev_hs} (H : hM g M z C S e m) (hk : (M a).1 = c + 1) (k : ∀ g', hM g' (upM M a (clI (M a) (100 * c + f) v)) z C S e m → ∃ r, K g' = some r ∧ Q r) : ∃ r, pI g c f (some a) v K = some r ∧ Q r := by
  have ha := h_lt H (a := a) (by omega)
  unfold pI
  dsimp only
  rw [if_pos (by rw [h_K H]; exact hk)]
  obtain ⟨h1, h2, h3, h4, h5, h6, h7⟩ := H
  refine k _ ⟨fun b => ?_, h2, h3, h4, h5, h6, fun b hb => ?_⟩
  · unfold upM
    by_cases hb : b = a
    · subst hb
      rw [if_pos rfl, ← h1 b]
      show (xK g b, xL g b, (fun x => up2 (xI g) (100 * c + f) b v x b), _) = _
      simp [up2, clI, cel]
      exact ⟨rfl, rfl, rfl⟩
    · rw [if_neg hb, ← h1 b]
      show (xK g b, xL g b, (fun x => up2 (xI g) (100 * c + f) a v x b), _) = _
      simp [up2, hb, cel]
      exact ⟨rfl, rfl, rfl⟩
  · unfold upM
    rw [if_neg (by omega), h7 b hb]
theorem s_pR {c f a : Nat} {v : Option Nat} {K : ev_hs → Option ev_hs} (H : hM g M z C S e m) (hk : (M a).1 = c + 1) (k : ∀ g', hM g' (upM M a (clR (M a) (100 * c + f) v)) z C S e m → ∃ r, K g' = some r ∧ Q r) : ∃ r, pR g c f (some a) v K = some r ∧ Q r := by
  have ha := h_lt H (a := a) (by omega)
  unfold pR
  dsimp only
  rw [if_pos (by rw [h_K H]; exact hk)]
  obtain ⟨h1, h2, h3, h4, h5, h6, h7⟩ := H
  refine k _ ⟨fun b => ?_, h2, h3, h4, h5, h6, fun b hb => ?_⟩
  · unfold upM
    by_cases hb : b = a
    · subst hb
      rw [if_pos rfl, ← h1 b]
      show (xK g b, xL g b, (fun f => xI g f b), (fun x => up2 (xR g) (100 * c + f) b v x b), xA g b, xQ g b) = _
      simp [up2, clR, cel]
    · rw [if_neg hb, ← h1 b]
      show (xK g b, xL g b, (fun f => xI g f b), (fun x => up2 (xR g) (100 * c + f) a v x b), xA g b, xQ g b) = _
      simp [up2, hb, cel]
  · unfold upM
    rw [if_neg (by omega), h7 b hb]
theorem s_sI {a : Nat} {i v : Int} {K : ev_hs → Option ev_hs} (H : hM g M z C S e m) (hk : (M a).1 = 50) (h0 : 0 ≤ i) (hl : i < (M a).2.1) (k : ∀ g', hM g' (upM M a (clA (M a) i.toNat v)) z C S e m → ∃ r, K g' = some r ∧ Q r) : ∃ r, sI g 50 (some a) i v K = some r ∧ Q r := by
  have ha := h_lt H (a := a) (by omega)
  unfold sI
  dsimp only
  rw [if_pos ⟨by rw [h_K H]; exact hk, h0, by rw [h_L H]; exact hl⟩]
  obtain ⟨h1, h2, h3, h4, h5, h6, h7⟩ := H
  refine k _ ⟨fun b => ?_, h2, h3, h4, h5, h6, fun b hb => ?_⟩
  · unfold upM
    by_cases hb : b = a
    · subst hb
      rw [if_pos rfl, ← h1 b]
      show (xK g b, xL g b, (fun f => xI g f b), (fun f => xR g f b), up2 (xA g) b i.toNat v b, xQ g b) = _
      have : up2 (xA g) b i.toNat v b = fun x => if x = i.toNat then v else xA g b x := by
        funext x
        simp [up2]
      rw [this]
      rfl
    · rw [if_neg hb, ← h1 b]
      show (xK g b, xL g b, (fun f => xI g f b), (fun f => xR g f b), up2 (xA g) a i.toNat v b, xQ g b) = _
      have : up2 (xA g) a i.toNat v b = xA g b := by
        funext x
        simp [up2, hb]
      rw [this]
      rfl
  · unfold upM
    rw [if_neg (by omega), h7 b hb]
theorem s_sQ {t c a w : Nat} {i : Int} {K : ev_hs → Option ev_hs} (H : hM g M z C S e m) (ht : 0 < t) (hk : (M a).1 = t) (h0 : 0 ≤ i) (hl : i < (M a).2.1) (hw : (M w).1 = c + 1) (k : ∀ g', hM g' (upM M a (clQ (M a) i.toNat (some w))) z C S e m → ∃ r, K g' = some r ∧ Q r) : ∃ r, sQ g t c (some a) i (some w) K = some r ∧ Q r := by
  have ha := h_lt H (a := a) (by omega)
  unfold sQ
  dsimp only
  rw [if_pos ⟨by rw [h_K H]; exact hk, h0, by rw [h_L H]; exact hl, by unfold okQ; dsimp only; rw [h_K H, hw]; simp⟩]
  obtain ⟨h1, h2, h3, h4, h5, h6, h7⟩ := H
  refine k _ ⟨fun b => ?_, h2, h3, h4, h5, h6, fun b hb => ?_⟩
  · unfold upM
    by_cases hb : b = a
    · subst hb
      rw [if_pos rfl, ← h1 b]
      show (xK g b, xL g b, (fun f => xI g f b), (fun f => xR g f b), xA g b, up2 (xQ g) b i.toNat (some w) b) = _
      have : up2 (xQ g) b i.toNat (some w) b = fun x => if x = i.toNat then some w else xQ g b x := by
        funext x
        simp [up2]
      rw [this]
      rfl
    · rw [if_neg hb, ← h1 b]
      show (xK g b, xL g b, (fun f => xI g f b), (fun f => xR g f b), xA g b, up2 (xQ g) a i.toNat (some w) b) = _
      have : up2 (xQ g) a i.toNat (some w) b = xQ g b := by
        funext x
        simp [up2, hb]
      rw [this]
      rfl
  · unfold upM
    rw [if_neg (by omega), h7 b hb]
theorem s_gR {c f a : Nat} {v : Option Nat} {K : Option Nat → Option ev_hs} (H : hM g M z C S e m) (hk : (M a).1 = c + 1) (hv : (M a).2.2.2.1 (100 * c + f) = v) (k : ∃ r, K v = some r ∧ Q r) : ∃ r, gR g c f (some a) K = some r ∧ Q r := by
  unfold gR
  dsimp only
  rw [if_pos (by rw [h_K H]; exact hk), h_R H, hv]
  exact k
theorem s_v {A : Option ev_hs} {K : ev_hs → Option ev_hs} (k1 : ∃ r, A = some r ∧ (∃ r2, K r = some r2 ∧ Q r2)) : ∃ r, bV A K = some r ∧ Q r := by
  obtain ⟨r, h1, h2⟩ := k1
  rw [h1]
  exact h2
end Cls21
