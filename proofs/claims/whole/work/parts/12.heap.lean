-- ===== the abstract heap under stores and news =====
theorem hOb.kept {D : va_G} {H H' : Heap} {a : Nat} {o : OB} (h : hOb D H a o) (e : H'[a]? = H[a]?) : hOb D H' a o :=
  ⟨fun q => by
    obtain ⟨r, h1, h2, h3⟩ := h.1 q
    exact ⟨r, h1, h2, h3.kept e⟩, fun q q2 => e.trans (h.2.1 q q2), fun q q2 => by
    obtain ⟨cell, h1, h2⟩ := h.2.2.1 q q2
    exact ⟨cell, e.trans h1, h2⟩, fun q => by
    obtain ⟨h1, h2⟩ := h.2.2.2 q
    refine ⟨?_, h2⟩
    have hs : H[a]? = some H[a] := Array.getElem?_eq_getElem h1
    rw [hs] at e
    exact (Array.getElem?_eq_some_iff.mp e).1⟩
theorem hOb.lt {D : va_G} {H : Heap} {a : Nat} {o : OB} (h : hOb D H a o) : a < H.size := by
  by_cases q : o.1 < 100
  · obtain ⟨r, h1, h2, cell, h3, -⟩ := h.1 q
    exact (Array.getElem?_eq_some_iff.mp h3).1
  · by_cases q2 : o.1 < 200
    · exact (Array.getElem?_eq_some_iff.mp (h.2.1 (by omega) q2)).1
    · by_cases q3 : o.1 < 310
      · obtain ⟨cell, h1, -⟩ := h.2.2.1 (by omega) q3
        exact (Array.getElem?_eq_some_iff.mp h1).1
      · exact (h.2.2.2 (by omega)).1
theorem Rel.upd {D : va_G} {B0 H H' : Heap} {h : AH} {a : Nat} {o' : OB} (hR : Rel D B0 H h) (hk : (h.2.1 a).1 ≠ 99) (hk2 : (h.2.1 a).1 < 200) (hs : H'.size = H.size) (hq : ∀ q, q ≠ a → H'[q]? = H[q]?) (ho : hOb D H' a o') : Rel D B0 H' (h.1, va_up h.2.1 a o', h.2.2) := by
  obtain ⟨h1, h2, h3, h4, h5⟩ := hR
  have hB : B0.size ≤ a := (h5 a hk).2 hk2
  refine ⟨by rw [hs]; exact h1, by rw [hs]; exact h2, fun q hlt => by rw [hq q (by omega)]; exact h3 q hlt, h4, fun q hne => ?_⟩
  by_cases e : q = a
  · subst e
    have eq : va_up h.2.1 q o' q = o' := by simp [va_up]
    show hOb D H' q (va_up h.2.1 q o' q) ∧ _
    rw [eq]
    exact ⟨ho, fun _ => hB⟩
  · have eq : va_up h.2.1 a o' q = h.2.1 q := by simp [va_up, e]
    show hOb D H' q (va_up h.2.1 a o' q) ∧ ((va_up h.2.1 a o' q).1 < 200 → _)
    have hne' : (h.2.1 q).1 ≠ 99 := by
      have : (va_up h.2.1 a o' q).1 ≠ 99 := hne
      rw [eq] at this; exact this
    rw [eq]
    exact ⟨(h5 q hne').1.kept (hq q e), (h5 q hne').2⟩
theorem Rel.push {D : va_G} {B0 H H' : Heap} {h : AH} {o' : OB} (hR : Rel D B0 H h) (hs : H'.size = H.size + 1) (hq : ∀ q, q < H.size → H'[q]? = H[q]?) (ho : hOb D H' H.size o') : Rel D B0 H' (h.1 + 1, va_up h.2.1 h.1 o', h.2.2) := by
  obtain ⟨h1, h2, h3, h4, h5⟩ := hR
  refine ⟨by rw [hs]; exact congrArg (· + 1) h1, by rw [hs]; omega, fun q hlt => by rw [hq q (by omega)]; exact h3 q hlt, h4, fun q hne => ?_⟩
  by_cases e : q = h.1
  · subst e
    have eq : va_up h.2.1 h.1 o' h.1 = o' := by simp [va_up]
    show hOb D H' h.1 (va_up h.2.1 h.1 o' h.1) ∧ _
    rw [eq]
    refine ⟨?_, fun _ => by rw [h1]; exact h2⟩
    rw [h1]; exact ho
  · have eq : va_up h.2.1 h.1 o' q = h.2.1 q := by simp [va_up, e]
    show hOb D H' q (va_up h.2.1 h.1 o' q) ∧ ((va_up h.2.1 h.1 o' q).1 < 200 → _)
    have hne' : (h.2.1 q).1 ≠ 99 := by
      have : (va_up h.2.1 h.1 o' q).1 ≠ 99 := hne
      rw [eq] at this; exact this
    rw [eq]
    exact ⟨(h5 q hne').1.kept (hq q (h5 q hne').1.lt), (h5 q hne').2⟩
-- ===== what an instruction reads and writes, as functions =====
def toI : Value → Option Int32
  | .int x => some x
  | _ => none
def toR : Value → Option (Option Nat)
  | .null => some none
  | .ref a => some (some a)
  | _ => none
theorem toI_spec {v : Value} {x : Int32} (h : toI v = some x) : v = vOf (tI x) := by
  cases v <;> simp [toI] at h
  subst h; rfl
theorem toR_spec {v : Value} {r : Option Nat} (h : toR v = some r) : v = vOf (tR r) := by
  cases v <;> simp [toR] at h
  · subst h; rfl
  · subst h; rfl
def gF (k j : Nat) (h : AH) (r : Option Nat) : Option Value := match r with
  | some a => if (h.2.1 a).1 = k then some ((h.2.1 a).2.2 j) else none
  | none => none
def gI (k j : Nat) (h : AH) (r : Option Nat) : Option Int32 := (gF k j h r).bind toI
def gR (k j : Nat) (h : AH) (r : Option Nat) : Option (Option Nat) := (gF k j h r).bind toR
def hput (h : AH) (a j : Nat) (v : Value) : AH := (h.1, va_up h.2.1 a ((h.2.1 a).1, (h.2.1 a).2.1, va_up (h.2.1 a).2.2 j v), h.2.2)
def pF (k j : Nat) (h : AH) (r : Option Nat) (v : Value) : Option AH := match r with
  | some a => if (h.2.1 a).1 = k then some (hput h a j v) else none
  | none => none
def pI (k j : Nat) (h : AH) (r : Option Nat) (x : Int32) : Option AH := pF k j h r (.int x)
/-- a boolean field takes 0 and 1 alone -/
def pZ (k j : Nat) (h : AH) (r : Option Nat) (x : Int32) : Option AH := if x = 0 ∨ x = 1 then pF k j h r (.int x) else none
def pR (k j : Nat) (h : AH) (r : Option Nat) (x : Option Nat) : Option AH := pF k j h r (vOf (tR x))
/-- the receiver of a call -/
def ck {α : Type} (k : Nat) (h : AH) (r : Option Nat) (f : Option α) : Option α := match r with
  | some a => if (h.2.1 a).1 = k then f else none
  | none => none
/-- a place of an array -/
def aV (p : Nat → Bool) (h : AH) (r : Option Nat) (i : Int32) : Option Value := match r with
  | some a => if p (h.2.1 a).1 = true ∧ ¬ (i < 0 ∨ (h.2.1 a).2.1 ≤ i.toNatClampNeg) then some ((h.2.1 a).2.2 i.toNatClampNeg) else none
  | none => none
def kInt (k : Nat) : Bool := k == 100 || (decide (200 ≤ k) && decide (k < 300))
def kRef (k : Nat) : Bool := decide (102 ≤ k) && decide (k < 110)
def aI (h : AH) (r : Option Nat) (i : Int32) : Option Int32 := (aV kInt h r i).bind toI
def aZ (h : AH) (r : Option Nat) (i : Int32) : Option Int32 := (aV (fun k => k == 101) h r i).bind toI
def aR (h : AH) (r : Option Nat) (i : Int32) : Option (Option Nat) := (aV kRef h r i).bind toR
def aL (h : AH) (r : Option Nat) : Option Int32 := match r with
  | some a => if 100 ≤ (h.2.1 a).1 ∧ (h.2.1 a).1 < 310 then some (h.2.1 a).2.1.toInt32 else none
  | none => none
def aS (p : Nat → Bool) (h : AH) (r : Option Nat) (i : Int32) (v : Value) : Option AH := match r with
  | some a => if p (h.2.1 a).1 = true ∧ ¬ (i < 0 ∨ (h.2.1 a).2.1 ≤ i.toNatClampNeg) then some (hput h a i.toNatClampNeg v) else none
  | none => none
def sI (h : AH) (r : Option Nat) (i x : Int32) : Option AH := aS (fun k => k == 100) h r i (.int x)
def sZ (h : AH) (r : Option Nat) (i x : Int32) : Option AH := aS (fun k => k == 101) h r i (.int (x &&& 1))
theorem gF_spec {k j : Nat} {h : AH} {r : Option Nat} {v : Value} (q : gF k j h r = some v) : ∃ a, r = some a ∧ (h.2.1 a).1 = k ∧ (h.2.1 a).2.2 j = v := by
  cases r with
  | none => cases q
  | some a =>
    simp only [gF] at q
    by_cases e : (h.2.1 a).1 = k
    · rw [if_pos e] at q
      exact ⟨a, rfl, e, Option.some.inj q⟩
    · rw [if_neg e] at q; cases q
theorem pF_spec {k j : Nat} {h h' : AH} {r : Option Nat} {v : Value} (q : pF k j h r v = some h') : ∃ a, r = some a ∧ (h.2.1 a).1 = k ∧ h' = hput h a j v := by
  cases r with
  | none => cases q
  | some a =>
    simp only [pF] at q
    by_cases e : (h.2.1 a).1 = k
    · rw [if_pos e] at q
      exact ⟨a, rfl, e, (Option.some.inj q).symm⟩
    · rw [if_neg e] at q; cases q
theorem ck_spec {α : Type} {k : Nat} {h : AH} {r : Option Nat} {f : Option α} {w : α} (q : ck k h r f = some w) : ∃ a, r = some a ∧ (h.2.1 a).1 = k ∧ f = some w := by
  cases r with
  | none => cases q
  | some a =>
    simp only [ck] at q
    by_cases e : (h.2.1 a).1 = k
    · rw [if_pos e] at q
      exact ⟨a, rfl, e, q⟩
    · rw [if_neg e] at q; cases q
theorem aV_spec {p : Nat → Bool} {h : AH} {r : Option Nat} {i : Int32} {v : Value} (q : aV p h r i = some v) : ∃ a, r = some a ∧ p (h.2.1 a).1 = true ∧ ¬ (i < 0 ∨ (h.2.1 a).2.1 ≤ i.toNatClampNeg) ∧ (h.2.1 a).2.2 i.toNatClampNeg = v := by
  cases r with
  | none => cases q
  | some a =>
    simp only [aV] at q
    split at q
    · rename_i e
      exact ⟨a, rfl, e.1, e.2, Option.some.inj q⟩
    · cases q
theorem aS_spec {p : Nat → Bool} {h h' : AH} {r : Option Nat} {i : Int32} {v : Value} (q : aS p h r i v = some h') : ∃ a, r = some a ∧ p (h.2.1 a).1 = true ∧ ¬ (i < 0 ∨ (h.2.1 a).2.1 ≤ i.toNatClampNeg) ∧ h' = hput h a i.toNatClampNeg v := by
  cases r with
  | none => cases q
  | some a =>
    simp only [aS] at q
    split at q
    · rename_i e
      exact ⟨a, rfl, e.1, e.2, (Option.some.inj q).symm⟩
    · cases q
theorem aL_spec {h : AH} {r : Option Nat} {n : Int32} (q : aL h r = some n) : ∃ a, r = some a ∧ (100 ≤ (h.2.1 a).1 ∧ (h.2.1 a).1 < 310) ∧ (h.2.1 a).2.1.toInt32 = n := by
  cases r with
  | none => cases q
  | some a =>
    simp only [aL] at q
    split at q
    · rename_i e
      exact ⟨a, rfl, e, Option.some.inj q⟩
    · cases q
theorem kInt_aty {k : Nat} (h : kInt k = true) : (100 ≤ k ∧ k < 310) ∧ aty k = .int ∧ k ≠ 99 := by
  simp only [kInt, Bool.or_eq_true, beq_iff_eq, Bool.and_eq_true, decide_eq_true_eq] at h
  refine ⟨by omega, ?_, by omega⟩
  unfold aty
  rcases h with rfl | ⟨h1, h2⟩
  · rfl
  · rw [if_neg (by omega), if_neg (by omega), if_neg (by omega), if_neg (by omega), if_neg (by omega), if_neg (by omega), if_neg (by omega), if_neg (by omega), if_neg (by omega), if_neg (by omega)]
theorem kRef_aty {k : Nat} (h : kRef k = true) : (100 ≤ k ∧ k < 310) ∧ (aty k).isReference = true ∧ k ≠ 99 ∧ k < 200 := by
  simp only [kRef, Bool.and_eq_true, decide_eq_true_eq] at h
  refine ⟨by omega, ?_, by omega, by omega⟩
  have : k = 102 ∨ k = 103 ∨ k = 104 ∨ k = 105 ∨ k = 106 ∨ k = 107 ∨ k = 108 ∨ k = 109 := by omega
  rcases this with rfl | rfl | rfl | rfl | rfl | rfl | rfl | rfl <;> rfl
theorem arrOf {D : va_G} {B0 : Heap} {s : State} {k : Nat} {cell : Cell} (hK : KF D B0 s) (hk : 100 ≤ k ∧ k < 310) (h1 : cell.cls = D.1 k) (h2 : ∀ q, cell.vm ≠ .statics q) : s.isArrayOf cell (aty k) := by
  obtain ⟨-, kk, hkk, comp, hc⟩ := hK.2.1 k hk.1 hk.2 0 (fun _ => .null)
  exact ⟨h2, kk, by rw [h1]; exact hkk, comp, hc⟩
theorem hOb.arr {D : va_G} {H : Heap} {a : Nat} {o : OB} (h : hOb D H a o) (q : 100 ≤ o.1 ∧ o.1 < 310) : ∃ cell : Cell, H[a]? = some cell ∧ cell.cls = D.1 o.1 ∧ (∀ q, cell.vm ≠ .statics q) ∧ cell.vm ≠ .unknown ∧ cell.slots.size = o.2.1 ∧ ∀ j, j < o.2.1 → cell.slots[j]? = some (o.2.2 j) := by
  by_cases q2 : o.1 < 200
  · exact ⟨_, h.2.1 q.1 q2, rfl, (fun _ h => by cases h), (fun h => by cases h), arrV_size _ _ _, fun j hj => arrV_read _ _ hj⟩
  · exact h.2.2.1 (by omega) q.2
/-- an array behind a store -/
theorem hOb.setA {D : va_G} {H' : Heap} {a i : Nat} {o : OB} {v : Value} (hk : 100 ≤ o.1 ∧ o.1 < 200) (e : H'[a]? = some ((arrV (D.1 o.1) o.2.1 o.2.2).setSlot i v)) : hOb D H' a (o.1, o.2.1, va_up o.2.2 i v) := by
  refine ⟨fun q => absurd q (by show ¬ o.1 < 100; omega), fun _ _ => ?_, fun q => absurd q (by show ¬ 200 ≤ o.1; omega), fun q => absurd q (by show ¬ 310 ≤ o.1; omega)⟩
  rw [e, arrV_store]
  rfl
