-- ===== the abstract heap as a fixed shape and a memory of ints =====
abbrev SH : Type := Nat → Nat × Nat × (Nat → Option (Option Nat))
abbrev MU : Type := Nat → Nat → Int32
def slV (sl : Option (Option Nat)) (x : Int32) : Value := match sl with
  | none => .int x
  | some r => vOf (tR r)
def mkH (n : Nat) (st : Nat → Nat) (S : SH) (μ : MU) : AH := (n, fun a => ((S a).1, (S a).2.1, fun j => slV ((S a).2.2 j) (μ a j)), st)
def up2 (μ : MU) (a j : Nat) (x : Int32) : MU := fun b i => if b = a ∧ i = j then x else μ b i
theorem up2_same {μ : MU} {a j : Nat} {x : Int32} : up2 μ a j x a j = x := by simp [up2]
theorem up2_ne {μ : MU} {a j b i : Nat} {x : Int32} (h : ¬ (b = a ∧ i = j)) : up2 μ a j x b i = μ b i := by simp [up2, h]
section MEM
variable {n : Nat} {st : Nat → Nat} {S : SH} {μ : MU}
theorem toR_vOf (r : Option Nat) : toR (vOf (tR r)) = some r := by cases r <;> rfl
theorem gI_mk {k j a : Nat} (hk : (S a).1 = k) (hj : (S a).2.2 j = none) : gI k j (mkH n st S μ) (some a) = some (μ a j) := by
  simp [gI, gF, mkH, hk, hj, slV, toI]
theorem gR_mk {k j a : Nat} {r : Option Nat} (hk : (S a).1 = k) (hj : (S a).2.2 j = some r) : gR k j (mkH n st S μ) (some a) = some r := by
  simp [gR, gF, mkH, hk, hj, slV, toR_vOf]
theorem hput_mk {a j : Nat} {x : Int32} (hj : (S a).2.2 j = none) : hput (mkH n st S μ) a j (.int x) = mkH n st S (up2 μ a j x) := by
  unfold hput mkH
  refine Prod.ext rfl (Prod.ext (funext fun b => ?_) rfl)
  by_cases hb : b = a
  · subst hb
    refine Prod.ext (by simp [va_up]) (Prod.ext (by simp [va_up]) (funext fun i => ?_))
    by_cases hi : i = j
    · subst hi
      simp [va_up, up2, hj, slV]
    · simp [va_up, up2, hi]
  · refine Prod.ext (by simp [va_up, hb]) (Prod.ext (by simp [va_up, hb]) (funext fun i => ?_))
    simp [va_up, up2, hb]
theorem pI_mk {k j a : Nat} {x : Int32} (hk : (S a).1 = k) (hj : (S a).2.2 j = none) : pI k j (mkH n st S μ) (some a) x = some (mkH n st S (up2 μ a j x)) := by
  have : ((mkH n st S μ).2.1 a).1 = k := hk
  simp only [pI, pF]
  rw [if_pos this, hput_mk hj]
theorem pZ_mk {k j a : Nat} {x : Int32} (hx : x = 0 ∨ x = 1) (hk : (S a).1 = k) (hj : (S a).2.2 j = none) : pZ k j (mkH n st S μ) (some a) x = some (mkH n st S (up2 μ a j x)) := by
  have := pI_mk (n := n) (st := st) (μ := μ) (x := x) hk hj
  simp only [pI] at this
  simp only [pZ, if_pos hx, this]
theorem ck_mk {α : Type} {k a : Nat} {f : Option α} (hk : (S a).1 = k) : ck k (mkH n st S μ) (some a) f = f := by
  have : ((mkH n st S μ).2.1 a).1 = k := hk
  simp only [ck]
  rw [if_pos this]
theorem aV_mk {p : Nat → Bool} {a q : Nat} (hk : p (S a).1 = true) (hq : q < (S a).2.1) (hl : (S a).2.1 < 2 ^ 31) : aV p (mkH n st S μ) (some a) (nI q) = some (slV ((S a).2.2 q) (μ a q)) := by
  have hin : ¬ (nI q < 0 ∨ (S a).2.1 ≤ (nI q).toNatClampNeg) := nI_in hq hl
  have : p ((mkH n st S μ).2.1 a).1 = true ∧ ¬ (nI q < 0 ∨ ((mkH n st S μ).2.1 a).2.1 ≤ (nI q).toNatClampNeg) := ⟨hk, hin⟩
  simp only [aV]
  rw [if_pos this, nI_clamp (by omega)]
  rfl
theorem aI_mk {a q : Nat} (hk : kInt (S a).1 = true) (hq : q < (S a).2.1) (hl : (S a).2.1 < 2 ^ 31) (hs : (S a).2.2 q = none) : aI (mkH n st S μ) (some a) (nI q) = some (μ a q) := by
  simp [aI, aV_mk hk hq hl, hs, slV, toI]
theorem aZ_mk {a q : Nat} (hk : (S a).1 = 101) (hq : q < (S a).2.1) (hl : (S a).2.1 < 2 ^ 31) (hs : (S a).2.2 q = none) : aZ (mkH n st S μ) (some a) (nI q) = some (μ a q) := by
  simp [aZ, aV_mk (p := fun k => k == 101) (by simp [hk]) hq hl, hs, slV, toI]
theorem aR_mk {a q : Nat} {r : Option Nat} (hk : kRef (S a).1 = true) (hq : q < (S a).2.1) (hl : (S a).2.1 < 2 ^ 31) (hs : (S a).2.2 q = some r) : aR (mkH n st S μ) (some a) (nI q) = some r := by
  simp [aR, aV_mk hk hq hl, hs, slV, toR_vOf]
theorem aL_mk {a : Nat} (hk : 100 ≤ (S a).1 ∧ (S a).1 < 310) : aL (mkH n st S μ) (some a) = some (nI (S a).2.1) := by
  have : 100 ≤ ((mkH n st S μ).2.1 a).1 ∧ ((mkH n st S μ).2.1 a).1 < 310 := hk
  simp only [aL]
  rw [if_pos this]
  rfl
theorem aS_mk {p : Nat → Bool} {a q : Nat} {x : Int32} (hk : p (S a).1 = true) (hq : q < (S a).2.1) (hl : (S a).2.1 < 2 ^ 31) (hs : (S a).2.2 q = none) : aS p (mkH n st S μ) (some a) (nI q) (.int x) = some (mkH n st S (up2 μ a q x)) := by
  have hin : ¬ (nI q < 0 ∨ (S a).2.1 ≤ (nI q).toNatClampNeg) := nI_in hq hl
  have : p ((mkH n st S μ).2.1 a).1 = true ∧ ¬ (nI q < 0 ∨ ((mkH n st S μ).2.1 a).2.1 ≤ (nI q).toNatClampNeg) := ⟨hk, hin⟩
  simp only [aS]
  rw [if_pos this, nI_clamp (by omega), hput_mk hs]
theorem sI_mk {a q : Nat} {x : Int32} (hk : (S a).1 = 100) (hq : q < (S a).2.1) (hl : (S a).2.1 < 2 ^ 31) (hs : (S a).2.2 q = none) : sI (mkH n st S μ) (some a) (nI q) x = some (mkH n st S (up2 μ a q x)) :=
  aS_mk (p := fun k => k == 100) (by simp [hk]) hq hl hs
theorem sZ_mk {a q : Nat} {x : Int32} (hk : (S a).1 = 101) (hq : q < (S a).2.1) (hl : (S a).2.1 < 2 ^ 31) (hs : (S a).2.2 q = none) : sZ (mkH n st S μ) (some a) (nI q) x = some (mkH n st S (up2 μ a q (x &&& 1))) :=
  aS_mk (p := fun k => k == 101) (by simp [hk]) hq hl hs
end MEM
theorem lit_nI (n : Nat) : (OfNat.ofNat n : Int32) = nI n := rfl
-- ===== the reference's shape: its object at m, its rows behind it =====
/-- field j of the reference -> which row behind it (0: a number) -/
def shM (m : Nat) : Nat → Option (Option Nat) := fun j => match j with
  | 0 => some (some (m + 1))
  | 1 => some (some (m + 2))
  | 3 => some (some (m + 3))
  | 5 => some (some (m + 4))
  | 6 => some (some (m + 5))
  | 7 => some (some (m + 6))
  | 8 => some (some (m + 7))
  | 9 => some (some (m + 8))
  | 10 => some (some (m + 9))
  | 19 => some (some (m + 10))
  | 20 => some (some (m + 11))
  | 21 => some (some (m + 12))
  | 27 => some (some (m + 13))
  | 28 => some (some (m + 14))
  | 30 => some (some (m + 15))
  | 31 => some (some (m + 16))
  | 32 => some (some (m + 17))
  | 33 => some (some (m + 18))
  | 34 => some (some (m + 19))
  | 35 => some (some (m + 20))
  | 36 => some (some (m + 21))
  | 37 => some (some (m + 22))
  | _ => none
/-- kinds and lengths of the rows -/
def rowM : List (Nat × Nat) := [(100, 2224), (100, 2224), (100, 300), (100, 6), (100, 6), (100, 49), (100, 7), (101, 5), (100, 5), (100, 16), (100, 16), (101, 40), (100, 16), (100, 32), (100, 9), (100, 4), (100, 8), (100, 8), (100, 320), (100, 4), (100, 4), (100, 30)]
def ShM (S : SH) (m : Nat) : Prop := S m = (12, 43, shM m) ∧ ∀ i q, rowM[i]? = some q → S (m + 1 + i) = (q.1, q.2, fun _ => none)
section REF0
variable {n : Nat} {st : Nat → Nat} {S : SH} {μ : MU} {m : Nat}
theorem rck {α : Type} (hS : ShM S m) {f : Option α} : ck 12 (mkH n st S μ) (some m) f = f := ck_mk (by rw [hS.1])
theorem rI (hS : ShM S m) (j : Nat) (hj : shM m j = none) : gI 12 j (mkH n st S μ) (some m) = some (μ m j) := gI_mk (by rw [hS.1]) (by rw [hS.1]; exact hj)
theorem wI (hS : ShM S m) (j : Nat) {x : Int32} (hj : shM m j = none) : pI 12 j (mkH n st S μ) (some m) x = some (mkH n st S (up2 μ m j x)) := pI_mk (by rw [hS.1]) (by rw [hS.1]; exact hj)
theorem rR (hS : ShM S m) (j : Nat) {r : Option Nat} (hj : shM m j = some r) : gR 12 j (mkH n st S μ) (some m) = some r := gR_mk (by rw [hS.1]) (by rw [hS.1]; exact hj)
theorem rA (hS : ShM S m) (i : Nat) {L q : Nat} (hi : rowM[i]? = some (100, L)) (hq : q < L) (hL : L < 2 ^ 31) : aI (mkH n st S μ) (some (m + 1 + i)) (nI q) = some (μ (m + 1 + i) q) := by
  have h := hS.2 i _ hi
  exact aI_mk (by rw [h]; rfl) (by rw [h]; exact hq) (by rw [h]; exact hL) (by rw [h])
theorem wA (hS : ShM S m) (i : Nat) {L q : Nat} {x : Int32} (hi : rowM[i]? = some (100, L)) (hq : q < L) (hL : L < 2 ^ 31) : sI (mkH n st S μ) (some (m + 1 + i)) (nI q) x = some (mkH n st S (up2 μ (m + 1 + i) q x)) := by
  have h := hS.2 i _ hi
  exact sI_mk (by rw [h]) (by rw [h]; exact hq) (by rw [h]; exact hL) (by rw [h])
/-- reading and writing the row d -/
theorem rd0 (hS : ShM S m) : gR 12 0 (mkH n st S μ) (some m) = some (some (m + 1)) := rR hS 0 rfl
theorem rdA (hS : ShM S m) {q : Nat} (hq : q < 2224) : aI (mkH n st S μ) (some (m + 1)) (nI q) = some (μ (m + 1) q) := rA hS 0 rfl hq (by omega)
theorem wdA (hS : ShM S m) {q : Nat} {x : Int32} (hq : q < 2224) : sI (mkH n st S μ) (some (m + 1)) (nI q) x = some (mkH n st S (up2 μ (m + 1) q x)) := wA hS 0 rfl hq (by omega)
end REF0
