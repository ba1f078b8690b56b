-- ===== the class's layout: x its object, c = x + 1 its city =====
def obS (S : SH) (a k l : Nat) (sl : Nat → Option (Option Nat)) : Prop := (S a).1 = k ∧ (S a).2.1 = l ∧ ∀ j, j < l → (S a).2.2 j = sl j
abbrev nnS (S : SH) (a k l : Nat) : Prop := obS S a k l (fun _ => none)
abbrev rrS (S : SH) (a k l : Nat) (f : Nat → Nat) : Prop := obS S a k l (fun i => some (some (f i)))
section OB
variable {n : Nat} {st : Nat → Nat} {S : SH} {μ : MU} {a k l : Nat} {sl : Nat → Option (Option Nat)}
theorem ob_gI (h : obS S a k l sl) {j : Nat} (hj : j < l) (hs : sl j = none) : gI k j (mkH n st S μ) (some a) = some (μ a j) := gI_mk h.1 (by rw [h.2.2 j hj, hs])
theorem ob_gR (h : obS S a k l sl) {j : Nat} {r : Option Nat} (hj : j < l) (hs : sl j = some r) : gR k j (mkH n st S μ) (some a) = some r := gR_mk h.1 (by rw [h.2.2 j hj, hs])
theorem ob_pI (h : obS S a k l sl) {j : Nat} {x : Int32} (hj : j < l) (hs : sl j = none) : pI k j (mkH n st S μ) (some a) x = some (mkH n st S (up2 μ a j x)) := pI_mk h.1 (by rw [h.2.2 j hj, hs])
theorem ob_pZ (h : obS S a k l sl) {j : Nat} {x : Int32} (hj : j < l) (hs : sl j = none) (hx : x = 0 ∨ x = 1) : pZ k j (mkH n st S μ) (some a) x = some (mkH n st S (up2 μ a j x)) := pZ_mk hx h.1 (by rw [h.2.2 j hj, hs])
theorem ob_ck (h : obS S a k l sl) {α : Type} {f : Option α} : ck k (mkH n st S μ) (some a) f = f := ck_mk h.1
theorem ob_aI (h : nnS S a 100 l) {q : Nat} (hq : q < l) (hl : l < 2 ^ 31) : aI (mkH n st S μ) (some a) (nI q) = some (μ a q) := aI_mk (by rw [h.1]; rfl) (by rw [h.2.1]; exact hq) (by rw [h.2.1]; exact hl) (h.2.2 q hq)
theorem ob_sI (h : nnS S a 100 l) {q : Nat} {x : Int32} (hq : q < l) (hl : l < 2 ^ 31) : sI (mkH n st S μ) (some a) (nI q) x = some (mkH n st S (up2 μ a q x)) := sI_mk h.1 (by rw [h.2.1]; exact hq) (by rw [h.2.1]; exact hl) (h.2.2 q hq)
theorem ob_aR {f : Nat → Nat} (h : rrS S a k l f) (hk : kRef k = true) {q : Nat} (hq : q < l) (hl : l < 2 ^ 31) : aR (mkH n st S μ) (some a) (nI q) = some (some (f q)) := aR_mk (by rw [h.1]; exact hk) (by rw [h.2.1]; exact hq) (by rw [h.2.1]; exact hl) (h.2.2 q hq)
theorem ob_aL (h : obS S a k l sl) (hk : 100 ≤ k ∧ k < 310) : aL (mkH n st S μ) (some a) = some (nI l) := by
  rw [aL_mk (by rw [h.1]; exact hk), h.2.1]
end OB
def slCity (c j : Nat) : Option (Option Nat) := match j with
  | 1 => some (some (c + 1))
  | 3 => some (some (c + 2))
  | 5 => some (some (c + 3))
  | 7 => some (some (c + 4))
  | 9 => some (some (c + 5))
  | 11 => some (some (c + 6))
  | 13 => some (some (c + 7))
  | 15 => some (some (c + 8))
  | 16 => some (some (c + 9))
  | 17 => some (some (c + 12))
  | 19 => some (some (c + 13))
  | _ => none
def slMan (a j : Nat) : Option (Option Nat) := if j = 9 then some (some (a + 1)) else none
def slWord (a j : Nat) : Option (Option Nat) := if j = 2 then some (some (a + 1)) else none
def slLaw (l j : Nat) : Option (Option Nat) := match j with
  | 2 => some (some (l + 1))
  | 4 => some (some (l + 2))
  | 5 => some (some (l + 3))
  | 6 => some (some (l + 4))
  | 7 => some (some (l + 5))
  | _ => none
def ShL (S : SH) (l : Nat) : Prop := obS S l 3 8 (slLaw l) ∧ nnS S (l + 1) 100 320 ∧ nnS S (l + 2) 100 4 ∧ nnS S (l + 3) 100 4 ∧ nnS S (l + 4) 100 7 ∧ nnS S (l + 5) 100 40

def ShC (S : SH) (c : Nat) : Prop := (obS S c 2 20 (slCity c)) ∧ (nnS S (c + 1) 100 20) ∧ (rrS S (c + 2) 108 8 (fun i => c + 14 + i)) ∧ (rrS S (c + 3) 105 16 (fun i => c + 22 + 2 * i)) ∧ (rrS S (c + 4) 109 8 (fun i => c + 54 + 2 * i)) ∧ (rrS S (c + 5) 103 8 (fun i => c + 70 + i)) ∧ (rrS S (c + 6) 107 40 (fun i => c + 78 + i)) ∧ (rrS S (c + 7) 104 5 (fun i => c + 118 + 6 * i)) ∧ (nnS S (c + 8) 100 4) ∧ (rrS S (c + 9) 102 2 (fun i => c + 10 + i)) ∧ (∀ i, i < 2 → nnS S (c + 10 + i) 100 5) ∧ (nnS S (c + 12) 100 9) ∧ (nnS S (c + 13) 100 7) ∧ (∀ i, i < 8 → nnS S (c + 14 + i) 9 4) ∧ (∀ i, i < 16 → obS S (c + 22 + 2 * i) 5 10 (slMan (c + 22 + 2 * i))) ∧ (∀ i, i < 16 → nnS S (c + 22 + 2 * i + 1) 100 16) ∧ (∀ i, i < 8 → obS S (c + 54 + 2 * i) 10 3 (slWord (c + 54 + 2 * i))) ∧ (∀ i, i < 8 → nnS S (c + 54 + 2 * i + 1) 100 16) ∧ (∀ i, i < 8 → nnS S (c + 70 + i) 1 4) ∧ (∀ i, i < 40 → nnS S (c + 78 + i) 8 11) ∧ (∀ i, i < 5 → ShL S (c + 118 + 6 * i))
section SHC
variable {n : Nat} {st : Nat → Nat} {S : SH} {μ : MU} {c l : Nat}
theorem ShC.city (h : ShC S c) : obS S c 2 20 (slCity c) := h.1
theorem ShC.wet (h : ShC S c) : nnS S (c + 1) 100 20 := h.2.1
theorem ShC.wards (h : ShC S c) : rrS S (c + 2) 108 8 (fun i => c + 14 + i) := h.2.2.1
theorem ShC.men (h : ShC S c) : rrS S (c + 3) 105 16 (fun i => c + 22 + 2 * i) := h.2.2.2.1
theorem ShC.words (h : ShC S c) : rrS S (c + 4) 109 8 (fun i => c + 54 + 2 * i) := h.2.2.2.2.1
theorem ShC.bargains (h : ShC S c) : rrS S (c + 5) 103 8 (fun i => c + 70 + i) := h.2.2.2.2.2.1
theorem ShC.sherds (h : ShC S c) : rrS S (c + 6) 107 40 (fun i => c + 78 + i) := h.2.2.2.2.2.2.1
theorem ShC.laws (h : ShC S c) : rrS S (c + 7) 104 5 (fun i => c + 118 + 6 * i) := h.2.2.2.2.2.2.2.1
theorem ShC.rules (h : ShC S c) : nnS S (c + 8) 100 4 := h.2.2.2.2.2.2.2.2.1
theorem ShC.tallies (h : ShC S c) : rrS S (c + 9) 102 2 (fun i => c + 10 + i) := h.2.2.2.2.2.2.2.2.2.1
theorem ShC.tally (h : ShC S c) : ∀ i, i < 2 → nnS S (c + 10 + i) 100 5 := h.2.2.2.2.2.2.2.2.2.2.1
theorem ShC.heap (h : ShC S c) : nnS S (c + 12) 100 9 := h.2.2.2.2.2.2.2.2.2.2.2.1
theorem ShC.lin (h : ShC S c) : nnS S (c + 13) 100 7 := h.2.2.2.2.2.2.2.2.2.2.2.2.1
theorem ShC.ward (h : ShC S c) : ∀ i, i < 8 → nnS S (c + 14 + i) 9 4 := h.2.2.2.2.2.2.2.2.2.2.2.2.2.1
theorem ShC.man (h : ShC S c) : ∀ i, i < 16 → obS S (c + 22 + 2 * i) 5 10 (slMan (c + 22 + 2 * i)) := h.2.2.2.2.2.2.2.2.2.2.2.2.2.2.1
theorem ShC.fears (h : ShC S c) : ∀ i, i < 16 → nnS S (c + 22 + 2 * i + 1) 100 16 := h.2.2.2.2.2.2.2.2.2.2.2.2.2.2.2.1
theorem ShC.word (h : ShC S c) : ∀ i, i < 8 → obS S (c + 54 + 2 * i) 10 3 (slWord (c + 54 + 2 * i)) := h.2.2.2.2.2.2.2.2.2.2.2.2.2.2.2.2.1
theorem ShC.heard (h : ShC S c) : ∀ i, i < 8 → nnS S (c + 54 + 2 * i + 1) 100 16 := h.2.2.2.2.2.2.2.2.2.2.2.2.2.2.2.2.2.1
theorem ShC.bargain (h : ShC S c) : ∀ i, i < 8 → nnS S (c + 70 + i) 1 4 := h.2.2.2.2.2.2.2.2.2.2.2.2.2.2.2.2.2.2.1
theorem ShC.sherd (h : ShC S c) : ∀ i, i < 40 → nnS S (c + 78 + i) 8 11 := h.2.2.2.2.2.2.2.2.2.2.2.2.2.2.2.2.2.2.2.1
theorem ShC.law (h : ShC S c) : ∀ i, i < 5 → ShL S (c + 118 + 6 * i) := h.2.2.2.2.2.2.2.2.2.2.2.2.2.2.2.2.2.2.2.2
theorem ShL.obj (h : ShL S l) : obS S l 3 8 (slLaw l) := h.1
theorem ShL.code (h : ShL S l) : nnS S (l + 1) 100 320 := h.2.1
theorem ShL.begins (h : ShL S l) : nnS S (l + 2) 100 4 := h.2.2.1
theorem ShL.ends (h : ShL S l) : nnS S (l + 3) 100 4 := h.2.2.2.1
theorem ShL.facts (h : ShL S l) : nnS S (l + 4) 100 7 := h.2.2.2.2.1
theorem ShL.stack (h : ShL S l) : nnS S (l + 5) 100 40 := h.2.2.2.2.2
theorem cI0 (hC : ShC S c) : gI 2 0 (mkH n st S μ) (some c) = some (μ c 0) := ob_gI hC.city (by omega) rfl
theorem cP0 (hC : ShC S c) {x : Int32} : pI 2 0 (mkH n st S μ) (some c) x = some (mkH n st S (up2 μ c 0 x)) := ob_pI hC.city (by omega) rfl
theorem cR1 (hC : ShC S c) : gR 2 1 (mkH n st S μ) (some c) = some (some (c + 1)) := ob_gR hC.city (by omega) rfl
theorem cI2 (hC : ShC S c) : gI 2 2 (mkH n st S μ) (some c) = some (μ c 2) := ob_gI hC.city (by omega) rfl
theorem cP2 (hC : ShC S c) {x : Int32} : pI 2 2 (mkH n st S μ) (some c) x = some (mkH n st S (up2 μ c 2 x)) := ob_pI hC.city (by omega) rfl
theorem cR3 (hC : ShC S c) : gR 2 3 (mkH n st S μ) (some c) = some (some (c + 2)) := ob_gR hC.city (by omega) rfl
theorem cI4 (hC : ShC S c) : gI 2 4 (mkH n st S μ) (some c) = some (μ c 4) := ob_gI hC.city (by omega) rfl
theorem cP4 (hC : ShC S c) {x : Int32} : pI 2 4 (mkH n st S μ) (some c) x = some (mkH n st S (up2 μ c 4 x)) := ob_pI hC.city (by omega) rfl
theorem cR5 (hC : ShC S c) : gR 2 5 (mkH n st S μ) (some c) = some (some (c + 3)) := ob_gR hC.city (by omega) rfl
theorem cI6 (hC : ShC S c) : gI 2 6 (mkH n st S μ) (some c) = some (μ c 6) := ob_gI hC.city (by omega) rfl
theorem cP6 (hC : ShC S c) {x : Int32} : pI 2 6 (mkH n st S μ) (some c) x = some (mkH n st S (up2 μ c 6 x)) := ob_pI hC.city (by omega) rfl
theorem cR7 (hC : ShC S c) : gR 2 7 (mkH n st S μ) (some c) = some (some (c + 4)) := ob_gR hC.city (by omega) rfl
theorem cI8 (hC : ShC S c) : gI 2 8 (mkH n st S μ) (some c) = some (μ c 8) := ob_gI hC.city (by omega) rfl
theorem cP8 (hC : ShC S c) {x : Int32} : pI 2 8 (mkH n st S μ) (some c) x = some (mkH n st S (up2 μ c 8 x)) := ob_pI hC.city (by omega) rfl
theorem cR9 (hC : ShC S c) : gR 2 9 (mkH n st S μ) (some c) = some (some (c + 5)) := ob_gR hC.city (by omega) rfl
theorem cI10 (hC : ShC S c) : gI 2 10 (mkH n st S μ) (some c) = some (μ c 10) := ob_gI hC.city (by omega) rfl
theorem cP10 (hC : ShC S c) {x : Int32} : pI 2 10 (mkH n st S μ) (some c) x = some (mkH n st S (up2 μ c 10 x)) := ob_pI hC.city (by omega) rfl
theorem cR11 (hC : ShC S c) : gR 2 11 (mkH n st S μ) (some c) = some (some (c + 6)) := ob_gR hC.city (by omega) rfl
theorem cI12 (hC : ShC S c) : gI 2 12 (mkH n st S μ) (some c) = some (μ c 12) := ob_gI hC.city (by omega) rfl
theorem cP12 (hC : ShC S c) {x : Int32} : pI 2 12 (mkH n st S μ) (some c) x = some (mkH n st S (up2 μ c 12 x)) := ob_pI hC.city (by omega) rfl
theorem cR13 (hC : ShC S c) : gR 2 13 (mkH n st S μ) (some c) = some (some (c + 7)) := ob_gR hC.city (by omega) rfl
theorem cI14 (hC : ShC S c) : gI 2 14 (mkH n st S μ) (some c) = some (μ c 14) := ob_gI hC.city (by omega) rfl
theorem cP14 (hC : ShC S c) {x : Int32} : pI 2 14 (mkH n st S μ) (some c) x = some (mkH n st S (up2 μ c 14 x)) := ob_pI hC.city (by omega) rfl
theorem cR15 (hC : ShC S c) : gR 2 15 (mkH n st S μ) (some c) = some (some (c + 8)) := ob_gR hC.city (by omega) rfl
theorem cR16 (hC : ShC S c) : gR 2 16 (mkH n st S μ) (some c) = some (some (c + 9)) := ob_gR hC.city (by omega) rfl
theorem cR17 (hC : ShC S c) : gR 2 17 (mkH n st S μ) (some c) = some (some (c + 12)) := ob_gR hC.city (by omega) rfl
theorem cI18 (hC : ShC S c) : gI 2 18 (mkH n st S μ) (some c) = some (μ c 18) := ob_gI hC.city (by omega) rfl
theorem cP18 (hC : ShC S c) {x : Int32} : pI 2 18 (mkH n st S μ) (some c) x = some (mkH n st S (up2 μ c 18 x)) := ob_pI hC.city (by omega) rfl
theorem cR19 (hC : ShC S c) : gR 2 19 (mkH n st S μ) (some c) = some (some (c + 13)) := ob_gR hC.city (by omega) rfl
theorem cck (hC : ShC S c) {α : Type} {f : Option α} : ck 2 (mkH n st S μ) (some c) f = f := ob_ck hC.city
theorem cAWet (hC : ShC S c) {q : Nat} (hq : q < 20) : aI (mkH n st S μ) (some (c + 1)) (nI q) = some (μ (c + 1) q) := ob_aI hC.wet hq (by omega)
theorem cSWet (hC : ShC S c) {q : Nat} {x : Int32} (hq : q < 20) : sI (mkH n st S μ) (some (c + 1)) (nI q) x = some (mkH n st S (up2 μ (c + 1) q x)) := ob_sI hC.wet hq (by omega)
theorem cARul (hC : ShC S c) {q : Nat} (hq : q < 4) : aI (mkH n st S μ) (some (c + 8)) (nI q) = some (μ (c + 8) q) := ob_aI hC.rules hq (by omega)
theorem cSRul (hC : ShC S c) {q : Nat} {x : Int32} (hq : q < 4) : sI (mkH n st S μ) (some (c + 8)) (nI q) x = some (mkH n st S (up2 μ (c + 8) q x)) := ob_sI hC.rules hq (by omega)
theorem cAHea (hC : ShC S c) {q : Nat} (hq : q < 9) : aI (mkH n st S μ) (some (c + 12)) (nI q) = some (μ (c + 12) q) := ob_aI hC.heap hq (by omega)
theorem cSHea (hC : ShC S c) {q : Nat} {x : Int32} (hq : q < 9) : sI (mkH n st S μ) (some (c + 12)) (nI q) x = some (mkH n st S (up2 μ (c + 12) q x)) := ob_sI hC.heap hq (by omega)
theorem cALin (hC : ShC S c) {q : Nat} (hq : q < 7) : aI (mkH n st S μ) (some (c + 13)) (nI q) = some (μ (c + 13) q) := ob_aI hC.lin hq (by omega)
theorem cSLin (hC : ShC S c) {q : Nat} {x : Int32} (hq : q < 7) : sI (mkH n st S μ) (some (c + 13)) (nI q) x = some (mkH n st S (up2 μ (c + 13) q x)) := ob_sI hC.lin hq (by omega)
theorem cATal (hC : ShC S c) {i q : Nat} (hi : i < 2) (hq : q < 5) : aI (mkH n st S μ) (some (c + 10 + i)) (nI q) = some (μ (c + 10 + i) q) := ob_aI (hC.tally i hi) hq (by omega)
theorem cSTal (hC : ShC S c) {i q : Nat} {x : Int32} (hi : i < 2) (hq : q < 5) : sI (mkH n st S μ) (some (c + 10 + i)) (nI q) x = some (mkH n st S (up2 μ (c + 10 + i) q x)) := ob_sI (hC.tally i hi) hq (by omega)
theorem cEwards (hC : ShC S c) {q : Nat} (hq : q < 8) : aR (mkH n st S μ) (some (c + 2)) (nI q) = some (some (c + 14 + q)) := ob_aR hC.wards rfl hq (by omega)
theorem cEmen (hC : ShC S c) {q : Nat} (hq : q < 16) : aR (mkH n st S μ) (some (c + 3)) (nI q) = some (some (c + 22 + 2 * q)) := ob_aR hC.men rfl hq (by omega)
theorem cEwords (hC : ShC S c) {q : Nat} (hq : q < 8) : aR (mkH n st S μ) (some (c + 4)) (nI q) = some (some (c + 54 + 2 * q)) := ob_aR hC.words rfl hq (by omega)
theorem cEbargains (hC : ShC S c) {q : Nat} (hq : q < 8) : aR (mkH n st S μ) (some (c + 5)) (nI q) = some (some (c + 70 + q)) := ob_aR hC.bargains rfl hq (by omega)
theorem cEsherds (hC : ShC S c) {q : Nat} (hq : q < 40) : aR (mkH n st S μ) (some (c + 6)) (nI q) = some (some (c + 78 + q)) := ob_aR hC.sherds rfl hq (by omega)
theorem cElaws (hC : ShC S c) {q : Nat} (hq : q < 5) : aR (mkH n st S μ) (some (c + 7)) (nI q) = some (some (c + 118 + 6 * q)) := ob_aR hC.laws rfl hq (by omega)
theorem cEtallies (hC : ShC S c) {q : Nat} (hq : q < 2) : aR (mkH n st S μ) (some (c + 9)) (nI q) = some (some (c + 10 + q)) := ob_aR hC.tallies rfl hq (by omega)
theorem oWardI (hC : ShC S c) {i j : Nat} (hi : i < 8) (hj : j < 4) : gI 9 j (mkH n st S μ) (some (c + 14 + i)) = some (μ (c + 14 + i) j) := ob_gI (hC.ward i hi) (by omega) rfl
theorem oWardP (hC : ShC S c) {i j : Nat} {x : Int32} (hi : i < 8) (hj : j < 4) : pI 9 j (mkH n st S μ) (some (c + 14 + i)) x = some (mkH n st S (up2 μ (c + 14 + i) j x)) := ob_pI (hC.ward i hi) (by omega) rfl
theorem oWardZ (hC : ShC S c) {i j : Nat} {x : Int32} (hi : i < 8) (hj : j < 4) (hx : x = 0 ∨ x = 1) : pZ 9 j (mkH n st S μ) (some (c + 14 + i)) x = some (mkH n st S (up2 μ (c + 14 + i) j x)) := ob_pZ (hC.ward i hi) (by omega) rfl hx
theorem oWardZ0 (hC : ShC S c) {i j : Nat} (hi : i < 8) (hj : j < 4) : pZ 9 j (mkH n st S μ) (some (c + 14 + i)) 0 = some (mkH n st S (up2 μ (c + 14 + i) j 0)) := ob_pZ (hC.ward i hi) (by omega) rfl (Or.inl rfl)
theorem oWardZ1 (hC : ShC S c) {i j : Nat} (hi : i < 8) (hj : j < 4) : pZ 9 j (mkH n st S μ) (some (c + 14 + i)) 1 = some (mkH n st S (up2 μ (c + 14 + i) j 1)) := ob_pZ (hC.ward i hi) (by omega) rfl (Or.inr rfl)
theorem oWardK (hC : ShC S c) {i : Nat} (hi : i < 8) {α : Type} {f : Option α} : ck 9 (mkH n st S μ) (some (c + 14 + i)) f = f := ob_ck (hC.ward i hi)
theorem oBarI (hC : ShC S c) {i j : Nat} (hi : i < 8) (hj : j < 4) : gI 1 j (mkH n st S μ) (some (c + 70 + i)) = some (μ (c + 70 + i) j) := ob_gI (hC.bargain i hi) (by omega) rfl
theorem oBarP (hC : ShC S c) {i j : Nat} {x : Int32} (hi : i < 8) (hj : j < 4) : pI 1 j (mkH n st S μ) (some (c + 70 + i)) x = some (mkH n st S (up2 μ (c + 70 + i) j x)) := ob_pI (hC.bargain i hi) (by omega) rfl
theorem oBarZ (hC : ShC S c) {i j : Nat} {x : Int32} (hi : i < 8) (hj : j < 4) (hx : x = 0 ∨ x = 1) : pZ 1 j (mkH n st S μ) (some (c + 70 + i)) x = some (mkH n st S (up2 μ (c + 70 + i) j x)) := ob_pZ (hC.bargain i hi) (by omega) rfl hx
theorem oBarZ0 (hC : ShC S c) {i j : Nat} (hi : i < 8) (hj : j < 4) : pZ 1 j (mkH n st S μ) (some (c + 70 + i)) 0 = some (mkH n st S (up2 μ (c + 70 + i) j 0)) := ob_pZ (hC.bargain i hi) (by omega) rfl (Or.inl rfl)
theorem oBarZ1 (hC : ShC S c) {i j : Nat} (hi : i < 8) (hj : j < 4) : pZ 1 j (mkH n st S μ) (some (c + 70 + i)) 1 = some (mkH n st S (up2 μ (c + 70 + i) j 1)) := ob_pZ (hC.bargain i hi) (by omega) rfl (Or.inr rfl)
theorem oBarK (hC : ShC S c) {i : Nat} (hi : i < 8) {α : Type} {f : Option α} : ck 1 (mkH n st S μ) (some (c + 70 + i)) f = f := ob_ck (hC.bargain i hi)
theorem oSheI (hC : ShC S c) {i j : Nat} (hi : i < 40) (hj : j < 11) : gI 8 j (mkH n st S μ) (some (c + 78 + i)) = some (μ (c + 78 + i) j) := ob_gI (hC.sherd i hi) (by omega) rfl
theorem oSheP (hC : ShC S c) {i j : Nat} {x : Int32} (hi : i < 40) (hj : j < 11) : pI 8 j (mkH n st S μ) (some (c + 78 + i)) x = some (mkH n st S (up2 μ (c + 78 + i) j x)) := ob_pI (hC.sherd i hi) (by omega) rfl
theorem oSheZ (hC : ShC S c) {i j : Nat} {x : Int32} (hi : i < 40) (hj : j < 11) (hx : x = 0 ∨ x = 1) : pZ 8 j (mkH n st S μ) (some (c + 78 + i)) x = some (mkH n st S (up2 μ (c + 78 + i) j x)) := ob_pZ (hC.sherd i hi) (by omega) rfl hx
theorem oSheZ0 (hC : ShC S c) {i j : Nat} (hi : i < 40) (hj : j < 11) : pZ 8 j (mkH n st S μ) (some (c + 78 + i)) 0 = some (mkH n st S (up2 μ (c + 78 + i) j 0)) := ob_pZ (hC.sherd i hi) (by omega) rfl (Or.inl rfl)
theorem oSheZ1 (hC : ShC S c) {i j : Nat} (hi : i < 40) (hj : j < 11) : pZ 8 j (mkH n st S μ) (some (c + 78 + i)) 1 = some (mkH n st S (up2 μ (c + 78 + i) j 1)) := ob_pZ (hC.sherd i hi) (by omega) rfl (Or.inr rfl)
theorem oSheK (hC : ShC S c) {i : Nat} (hi : i < 40) {α : Type} {f : Option α} : ck 8 (mkH n st S μ) (some (c + 78 + i)) f = f := ob_ck (hC.sherd i hi)
theorem oManI (hC : ShC S c) {i j : Nat} (hi : i < 16) (hj : j < 9) : gI 5 j (mkH n st S μ) (some (c + 22 + 2 * i)) = some (μ (c + 22 + 2 * i) j) := ob_gI (hC.man i hi) (by omega) (by simp only [slMan]; rw [if_neg (by omega)])
theorem oManP (hC : ShC S c) {i j : Nat} {x : Int32} (hi : i < 16) (hj : j < 9) : pI 5 j (mkH n st S μ) (some (c + 22 + 2 * i)) x = some (mkH n st S (up2 μ (c + 22 + 2 * i) j x)) := ob_pI (hC.man i hi) (by omega) (by simp only [slMan]; rw [if_neg (by omega)])
theorem oManZ (hC : ShC S c) {i j : Nat} {x : Int32} (hi : i < 16) (hj : j < 9) (hx : x = 0 ∨ x = 1) : pZ 5 j (mkH n st S μ) (some (c + 22 + 2 * i)) x = some (mkH n st S (up2 μ (c + 22 + 2 * i) j x)) := ob_pZ (hC.man i hi) (by omega) (by simp only [slMan]; rw [if_neg (by omega)]) hx
theorem oManZ0 (hC : ShC S c) {i j : Nat} (hi : i < 16) (hj : j < 9) : pZ 5 j (mkH n st S μ) (some (c + 22 + 2 * i)) 0 = some (mkH n st S (up2 μ (c + 22 + 2 * i) j 0)) := ob_pZ (hC.man i hi) (by omega) (by simp only [slMan]; rw [if_neg (by omega)]) (Or.inl rfl)
theorem oManZ1 (hC : ShC S c) {i j : Nat} (hi : i < 16) (hj : j < 9) : pZ 5 j (mkH n st S μ) (some (c + 22 + 2 * i)) 1 = some (mkH n st S (up2 μ (c + 22 + 2 * i) j 1)) := ob_pZ (hC.man i hi) (by omega) (by simp only [slMan]; rw [if_neg (by omega)]) (Or.inr rfl)
theorem oManK (hC : ShC S c) {i : Nat} (hi : i < 16) {α : Type} {f : Option α} : ck 5 (mkH n st S μ) (some (c + 22 + 2 * i)) f = f := ob_ck (hC.man i hi)
theorem oManR (hC : ShC S c) {i : Nat} (hi : i < 16) : gR 5 9 (mkH n st S μ) (some (c + 22 + 2 * i)) = some (some (c + 22 + 2 * i + 1)) := ob_gR (hC.man i hi) (by omega) rfl
theorem oManA (hC : ShC S c) {i q : Nat} (hi : i < 16) (hq : q < 16) : aI (mkH n st S μ) (some (c + 22 + 2 * i + 1)) (nI q) = some (μ (c + 22 + 2 * i + 1) q) := ob_aI (hC.fears i hi) hq (by omega)
theorem oManS (hC : ShC S c) {i q : Nat} {x : Int32} (hi : i < 16) (hq : q < 16) : sI (mkH n st S μ) (some (c + 22 + 2 * i + 1)) (nI q) x = some (mkH n st S (up2 μ (c + 22 + 2 * i + 1) q x)) := ob_sI (hC.fears i hi) hq (by omega)
theorem oWordI (hC : ShC S c) {i j : Nat} (hi : i < 8) (hj : j < 2) : gI 10 j (mkH n st S μ) (some (c + 54 + 2 * i)) = some (μ (c + 54 + 2 * i) j) := ob_gI (hC.word i hi) (by omega) (by simp only [slWord]; rw [if_neg (by omega)])
theorem oWordP (hC : ShC S c) {i j : Nat} {x : Int32} (hi : i < 8) (hj : j < 2) : pI 10 j (mkH n st S μ) (some (c + 54 + 2 * i)) x = some (mkH n st S (up2 μ (c + 54 + 2 * i) j x)) := ob_pI (hC.word i hi) (by omega) (by simp only [slWord]; rw [if_neg (by omega)])
theorem oWordZ (hC : ShC S c) {i j : Nat} {x : Int32} (hi : i < 8) (hj : j < 2) (hx : x = 0 ∨ x = 1) : pZ 10 j (mkH n st S μ) (some (c + 54 + 2 * i)) x = some (mkH n st S (up2 μ (c + 54 + 2 * i) j x)) := ob_pZ (hC.word i hi) (by omega) (by simp only [slWord]; rw [if_neg (by omega)]) hx
theorem oWordZ0 (hC : ShC S c) {i j : Nat} (hi : i < 8) (hj : j < 2) : pZ 10 j (mkH n st S μ) (some (c + 54 + 2 * i)) 0 = some (mkH n st S (up2 μ (c + 54 + 2 * i) j 0)) := ob_pZ (hC.word i hi) (by omega) (by simp only [slWord]; rw [if_neg (by omega)]) (Or.inl rfl)
theorem oWordZ1 (hC : ShC S c) {i j : Nat} (hi : i < 8) (hj : j < 2) : pZ 10 j (mkH n st S μ) (some (c + 54 + 2 * i)) 1 = some (mkH n st S (up2 μ (c + 54 + 2 * i) j 1)) := ob_pZ (hC.word i hi) (by omega) (by simp only [slWord]; rw [if_neg (by omega)]) (Or.inr rfl)
theorem oWordK (hC : ShC S c) {i : Nat} (hi : i < 8) {α : Type} {f : Option α} : ck 10 (mkH n st S μ) (some (c + 54 + 2 * i)) f = f := ob_ck (hC.word i hi)
theorem oWordR (hC : ShC S c) {i : Nat} (hi : i < 8) : gR 10 2 (mkH n st S μ) (some (c + 54 + 2 * i)) = some (some (c + 54 + 2 * i + 1)) := ob_gR (hC.word i hi) (by omega) rfl
theorem oWordA (hC : ShC S c) {i q : Nat} (hi : i < 8) (hq : q < 16) : aI (mkH n st S μ) (some (c + 54 + 2 * i + 1)) (nI q) = some (μ (c + 54 + 2 * i + 1) q) := ob_aI (hC.heard i hi) hq (by omega)
theorem oWordS (hC : ShC S c) {i q : Nat} {x : Int32} (hi : i < 8) (hq : q < 16) : sI (mkH n st S μ) (some (c + 54 + 2 * i + 1)) (nI q) x = some (mkH n st S (up2 μ (c + 54 + 2 * i + 1) q x)) := ob_sI (hC.heard i hi) hq (by omega)
end SHC
section SHL
variable {n : Nat} {st : Nat → Nat} {S : SH} {μ : MU} {l : Nat}
theorem lI0 (hL : ShL S l) : gI 3 0 (mkH n st S μ) (some l) = some (μ l 0) := ob_gI hL.obj (by omega) rfl
theorem lP0 (hL : ShL S l) {x : Int32} : pI 3 0 (mkH n st S μ) (some l) x = some (mkH n st S (up2 μ l 0 x)) := ob_pI hL.obj (by omega) rfl
theorem lI1 (hL : ShL S l) : gI 3 1 (mkH n st S μ) (some l) = some (μ l 1) := ob_gI hL.obj (by omega) rfl
theorem lP1 (hL : ShL S l) {x : Int32} : pI 3 1 (mkH n st S μ) (some l) x = some (mkH n st S (up2 μ l 1 x)) := ob_pI hL.obj (by omega) rfl
theorem lR2 (hL : ShL S l) : gR 3 2 (mkH n st S μ) (some l) = some (some (l + 1)) := ob_gR hL.obj (by omega) rfl
theorem lA2 (hL : ShL S l) {q : Nat} (hq : q < 320) : aI (mkH n st S μ) (some (l + 1)) (nI q) = some (μ (l + 1) q) := ob_aI hL.code hq (by omega)
theorem lS2 (hL : ShL S l) {q : Nat} {x : Int32} (hq : q < 320) : sI (mkH n st S μ) (some (l + 1)) (nI q) x = some (mkH n st S (up2 μ (l + 1) q x)) := ob_sI hL.code hq (by omega)
theorem lL2 (hL : ShL S l) : aL (mkH n st S μ) (some (l + 1)) = some (nI 320) := ob_aL hL.code (by omega)
theorem lI3 (hL : ShL S l) : gI 3 3 (mkH n st S μ) (some l) = some (μ l 3) := ob_gI hL.obj (by omega) rfl
theorem lP3 (hL : ShL S l) {x : Int32} : pI 3 3 (mkH n st S μ) (some l) x = some (mkH n st S (up2 μ l 3 x)) := ob_pI hL.obj (by omega) rfl
theorem lR4 (hL : ShL S l) : gR 3 4 (mkH n st S μ) (some l) = some (some (l + 2)) := ob_gR hL.obj (by omega) rfl
theorem lA4 (hL : ShL S l) {q : Nat} (hq : q < 4) : aI (mkH n st S μ) (some (l + 2)) (nI q) = some (μ (l + 2) q) := ob_aI hL.begins hq (by omega)
theorem lS4 (hL : ShL S l) {q : Nat} {x : Int32} (hq : q < 4) : sI (mkH n st S μ) (some (l + 2)) (nI q) x = some (mkH n st S (up2 μ (l + 2) q x)) := ob_sI hL.begins hq (by omega)
theorem lL4 (hL : ShL S l) : aL (mkH n st S μ) (some (l + 2)) = some (nI 4) := ob_aL hL.begins (by omega)
theorem lR5 (hL : ShL S l) : gR 3 5 (mkH n st S μ) (some l) = some (some (l + 3)) := ob_gR hL.obj (by omega) rfl
theorem lA5 (hL : ShL S l) {q : Nat} (hq : q < 4) : aI (mkH n st S μ) (some (l + 3)) (nI q) = some (μ (l + 3) q) := ob_aI hL.ends hq (by omega)
theorem lS5 (hL : ShL S l) {q : Nat} {x : Int32} (hq : q < 4) : sI (mkH n st S μ) (some (l + 3)) (nI q) x = some (mkH n st S (up2 μ (l + 3) q x)) := ob_sI hL.ends hq (by omega)
theorem lL5 (hL : ShL S l) : aL (mkH n st S μ) (some (l + 3)) = some (nI 4) := ob_aL hL.ends (by omega)
theorem lR6 (hL : ShL S l) : gR 3 6 (mkH n st S μ) (some l) = some (some (l + 4)) := ob_gR hL.obj (by omega) rfl
theorem lA6 (hL : ShL S l) {q : Nat} (hq : q < 7) : aI (mkH n st S μ) (some (l + 4)) (nI q) = some (μ (l + 4) q) := ob_aI hL.facts hq (by omega)
theorem lS6 (hL : ShL S l) {q : Nat} {x : Int32} (hq : q < 7) : sI (mkH n st S μ) (some (l + 4)) (nI q) x = some (mkH n st S (up2 μ (l + 4) q x)) := ob_sI hL.facts hq (by omega)
theorem lL6 (hL : ShL S l) : aL (mkH n st S μ) (some (l + 4)) = some (nI 7) := ob_aL hL.facts (by omega)
theorem lR7 (hL : ShL S l) : gR 3 7 (mkH n st S μ) (some l) = some (some (l + 5)) := ob_gR hL.obj (by omega) rfl
theorem lA7 (hL : ShL S l) {q : Nat} (hq : q < 40) : aI (mkH n st S μ) (some (l + 5)) (nI q) = some (μ (l + 5) q) := ob_aI hL.stack hq (by omega)
theorem lS7 (hL : ShL S l) {q : Nat} {x : Int32} (hq : q < 40) : sI (mkH n st S μ) (some (l + 5)) (nI q) x = some (mkH n st S (up2 μ (l + 5) q x)) := ob_sI hL.stack hq (by omega)
theorem lL7 (hL : ShL S l) : aL (mkH n st S μ) (some (l + 5)) = some (nI 40) := ob_aL hL.stack (by omega)
theorem lZ0 (hL : ShL S l) {x : Int32} (hx : x = 0 ∨ x = 1) : pZ 3 0 (mkH n st S μ) (some l) x = some (mkH n st S (up2 μ l 0 x)) := ob_pZ hL.obj (by omega) rfl hx
theorem lZ1 (hL : ShL S l) : pZ 3 0 (mkH n st S μ) (some l) 1 = some (mkH n st S (up2 μ l 0 1)) := ob_pZ hL.obj (by omega) rfl (Or.inr rfl)
theorem lck (hL : ShL S l) {α : Type} {f : Option α} : ck 3 (mkH n st S μ) (some l) f = f := ob_ck hL.obj
end SHL
def slX (x j : Nat) : Option (Option Nat) := match j with
  | 0 => some (some (x + 1))
  | 2 => some (some (x + 149))
  | 3 => some (some (x + 158))
  | 4 => some (some (x + 163))
  | 5 => some (some (x + 165))
  | 7 => some (some (x + 166))
  | 8 => some (some (x + 167))
  | 10 => some (some (x + 168))
  | 11 => some (some (x + 169))
  | 12 => some (some (x + 170))
  | 13 => some (some (x + 171))
  | 14 => some (some (x + 172))
  | 15 => some (some (x + 173))
  | 16 => some (some (x + 174))
  | _ => none
def slRd (x j : Nat) : Option (Option Nat) := match j with
  | 0 => some (some (x + 150))
  | 2 => some (some (x + 151))
  | 11 => some (some (x + 157))
  | _ => none
def slPo (x j : Nat) : Option (Option Nat) := match j with
  | 2 => some (some (x + 159))
  | 3 => some (some (x + 160))
  | 4 => some (some (x + 161))
  | 5 => some (some (x + 162))
  | _ => none
def slAc (x j : Nat) : Option (Option Nat) := if j = 3 then some (some (x + 164)) else none
def ShX (S : SH) (x : Nat) : Prop := ((S x).1 = 11 ∧ (S x).2.1 = 17 ∧ ∀ j, j < 17 → j ≠ 1 → (S x).2.2 j = slX x j) ∧ (ShC S (x + 1)) ∧ (obS S (x + 149) 4 13 (slRd x)) ∧ (nnS S (x + 150) 100 300) ∧ (ShL S (x + 151)) ∧ (nnS S (x + 157) 100 300) ∧ (obS S (x + 158) 6 6 (slPo x)) ∧ (nnS S (x + 159) 100 16) ∧ (nnS S (x + 160) 100 16) ∧ (nnS S (x + 161) 100 16) ∧ (nnS S (x + 162) 100 5) ∧ (obS S (x + 163) 0 6 (slAc x)) ∧ (nnS S (x + 164) 100 30) ∧ (nnS S (x + 165) 100 16) ∧ (nnS S (x + 166) 100 16) ∧ (nnS S (x + 167) 100 16) ∧ ((S (x + 168)).1 = 106 ∧ (S (x + 168)).2.1 = 4) ∧ (nnS S (x + 169) 100 4) ∧ (nnS S (x + 170) 100 4) ∧ ((S (x + 171)).1 = 106 ∧ (S (x + 171)).2.1 = 4) ∧ (nnS S (x + 172) 100 9) ∧ (nnS S (x + 173) 100 9) ∧ (nnS S (x + 174) 100 9)
section SHX
variable {n : Nat} {st : Nat → Nat} {S : SH} {μ : MU} {x : Nat}
theorem ShX.obj (h : ShX S x) : (S x).1 = 11 ∧ (S x).2.1 = 17 ∧ ∀ j, j < 17 → j ≠ 1 → (S x).2.2 j = slX x j := h.1
theorem ShX.city (h : ShX S x) : ShC S (x + 1) := h.2.1
theorem ShX.reader (h : ShX S x) : obS S (x + 149) 4 13 (slRd x) := h.2.2.1
theorem ShX.tape (h : ShX S x) : nnS S (x + 150) 100 300 := h.2.2.2.1
theorem ShX.draft (h : ShX S x) : ShL S (x + 151) := h.2.2.2.2.1
theorem ShX.waiting (h : ShX S x) : nnS S (x + 157) 100 300 := h.2.2.2.2.2.1
theorem ShX.poll (h : ShX S x) : obS S (x + 158) 6 6 (slPo x) := h.2.2.2.2.2.2.1
theorem ShX.least (h : ShX S x) : nnS S (x + 159) 100 16 := h.2.2.2.2.2.2.2.1
theorem ShX.most (h : ShX S x) : nnS S (x + 160) 100 16 := h.2.2.2.2.2.2.2.2.1
theorem ShX.gates (h : ShX S x) : nnS S (x + 161) 100 16 := h.2.2.2.2.2.2.2.2.2.1
theorem ShX.through (h : ShX S x) : nnS S (x + 162) 100 5 := h.2.2.2.2.2.2.2.2.2.2.1
theorem ShX.actor (h : ShX S x) : obS S (x + 163) 0 6 (slAc x) := h.2.2.2.2.2.2.2.2.2.2.2.1
theorem ShX.trace (h : ShX S x) : nnS S (x + 164) 100 30 := h.2.2.2.2.2.2.2.2.2.2.2.2.1
theorem ShX.casts (h : ShX S x) : nnS S (x + 165) 100 16 := h.2.2.2.2.2.2.2.2.2.2.2.2.2.1
theorem ShX.rowMan (h : ShX S x) : nnS S (x + 166) 100 16 := h.2.2.2.2.2.2.2.2.2.2.2.2.2.2.1
theorem ShX.rowClubs (h : ShX S x) : nnS S (x + 167) 100 16 := h.2.2.2.2.2.2.2.2.2.2.2.2.2.2.2.1
theorem ShX.sheets (h : ShX S x) : (S (x + 168)).1 = 106 ∧ (S (x + 168)).2.1 = 4 := h.2.2.2.2.2.2.2.2.2.2.2.2.2.2.2.2.1
theorem ShX.shelfWhat (h : ShX S x) : nnS S (x + 169) 100 4 := h.2.2.2.2.2.2.2.2.2.2.2.2.2.2.2.2.2.1
theorem ShX.shelfNumber (h : ShX S x) : nnS S (x + 170) 100 4 := h.2.2.2.2.2.2.2.2.2.2.2.2.2.2.2.2.2.2.1
theorem ShX.shelfRow (h : ShX S x) : (S (x + 171)).1 = 106 ∧ (S (x + 171)).2.1 = 4 := h.2.2.2.2.2.2.2.2.2.2.2.2.2.2.2.2.2.2.2.1
theorem ShX.partOf (h : ShX S x) : nnS S (x + 172) 100 9 := h.2.2.2.2.2.2.2.2.2.2.2.2.2.2.2.2.2.2.2.2.1
theorem ShX.partMembers (h : ShX S x) : nnS S (x + 173) 100 9 := h.2.2.2.2.2.2.2.2.2.2.2.2.2.2.2.2.2.2.2.2.2.1
theorem ShX.alikeTo (h : ShX S x) : nnS S (x + 174) 100 9 := h.2.2.2.2.2.2.2.2.2.2.2.2.2.2.2.2.2.2.2.2.2.2
theorem xR0 (hX : ShX S x) : gR 11 0 (mkH n st S μ) (some x) = some (some (x + 1)) := gR_mk hX.obj.1 (by rw [hX.obj.2.2 0 (by omega) (by omega)]; rfl)
theorem xR2 (hX : ShX S x) : gR 11 2 (mkH n st S μ) (some x) = some (some (x + 149)) := gR_mk hX.obj.1 (by rw [hX.obj.2.2 2 (by omega) (by omega)]; rfl)
theorem xR3 (hX : ShX S x) : gR 11 3 (mkH n st S μ) (some x) = some (some (x + 158)) := gR_mk hX.obj.1 (by rw [hX.obj.2.2 3 (by omega) (by omega)]; rfl)
theorem xR4 (hX : ShX S x) : gR 11 4 (mkH n st S μ) (some x) = some (some (x + 163)) := gR_mk hX.obj.1 (by rw [hX.obj.2.2 4 (by omega) (by omega)]; rfl)
theorem xR5 (hX : ShX S x) : gR 11 5 (mkH n st S μ) (some x) = some (some (x + 165)) := gR_mk hX.obj.1 (by rw [hX.obj.2.2 5 (by omega) (by omega)]; rfl)
theorem xR7 (hX : ShX S x) : gR 11 7 (mkH n st S μ) (some x) = some (some (x + 166)) := gR_mk hX.obj.1 (by rw [hX.obj.2.2 7 (by omega) (by omega)]; rfl)
theorem xR8 (hX : ShX S x) : gR 11 8 (mkH n st S μ) (some x) = some (some (x + 167)) := gR_mk hX.obj.1 (by rw [hX.obj.2.2 8 (by omega) (by omega)]; rfl)
theorem xR10 (hX : ShX S x) : gR 11 10 (mkH n st S μ) (some x) = some (some (x + 168)) := gR_mk hX.obj.1 (by rw [hX.obj.2.2 10 (by omega) (by omega)]; rfl)
theorem xR11 (hX : ShX S x) : gR 11 11 (mkH n st S μ) (some x) = some (some (x + 169)) := gR_mk hX.obj.1 (by rw [hX.obj.2.2 11 (by omega) (by omega)]; rfl)
theorem xR12 (hX : ShX S x) : gR 11 12 (mkH n st S μ) (some x) = some (some (x + 170)) := gR_mk hX.obj.1 (by rw [hX.obj.2.2 12 (by omega) (by omega)]; rfl)
theorem xR13 (hX : ShX S x) : gR 11 13 (mkH n st S μ) (some x) = some (some (x + 171)) := gR_mk hX.obj.1 (by rw [hX.obj.2.2 13 (by omega) (by omega)]; rfl)
theorem xR14 (hX : ShX S x) : gR 11 14 (mkH n st S μ) (some x) = some (some (x + 172)) := gR_mk hX.obj.1 (by rw [hX.obj.2.2 14 (by omega) (by omega)]; rfl)
theorem xR15 (hX : ShX S x) : gR 11 15 (mkH n st S μ) (some x) = some (some (x + 173)) := gR_mk hX.obj.1 (by rw [hX.obj.2.2 15 (by omega) (by omega)]; rfl)
theorem xR16 (hX : ShX S x) : gR 11 16 (mkH n st S μ) (some x) = some (some (x + 174)) := gR_mk hX.obj.1 (by rw [hX.obj.2.2 16 (by omega) (by omega)]; rfl)
theorem xI6 (hX : ShX S x) : gI 11 6 (mkH n st S μ) (some x) = some (μ x 6) := gI_mk hX.obj.1 (by rw [hX.obj.2.2 6 (by omega) (by omega)]; rfl)
theorem xP6 (hX : ShX S x) {v : Int32} : pI 11 6 (mkH n st S μ) (some x) v = some (mkH n st S (up2 μ x 6 v)) := pI_mk hX.obj.1 (by rw [hX.obj.2.2 6 (by omega) (by omega)]; rfl)
theorem xI9 (hX : ShX S x) : gI 11 9 (mkH n st S μ) (some x) = some (μ x 9) := gI_mk hX.obj.1 (by rw [hX.obj.2.2 9 (by omega) (by omega)]; rfl)
theorem xP9 (hX : ShX S x) {v : Int32} : pI 11 9 (mkH n st S μ) (some x) v = some (mkH n st S (up2 μ x 9 v)) := pI_mk hX.obj.1 (by rw [hX.obj.2.2 9 (by omega) (by omega)]; rfl)
theorem xck (hX : ShX S x) {α : Type} {f : Option α} : ck 11 (mkH n st S μ) (some x) f = f := ck_mk hX.obj.1
theorem xATap (hX : ShX S x) {q : Nat} (hq : q < 300) : aI (mkH n st S μ) (some (x + 150)) (nI q) = some (μ (x + 150) q) := ob_aI hX.tape hq (by omega)
theorem xSTap (hX : ShX S x) {q : Nat} {v : Int32} (hq : q < 300) : sI (mkH n st S μ) (some (x + 150)) (nI q) v = some (mkH n st S (up2 μ (x + 150) q v)) := ob_sI hX.tape hq (by omega)
theorem xAWai (hX : ShX S x) {q : Nat} (hq : q < 300) : aI (mkH n st S μ) (some (x + 157)) (nI q) = some (μ (x + 157) q) := ob_aI hX.waiting hq (by omega)
theorem xSWai (hX : ShX S x) {q : Nat} {v : Int32} (hq : q < 300) : sI (mkH n st S μ) (some (x + 157)) (nI q) v = some (mkH n st S (up2 μ (x + 157) q v)) := ob_sI hX.waiting hq (by omega)
theorem xALea (hX : ShX S x) {q : Nat} (hq : q < 16) : aI (mkH n st S μ) (some (x + 159)) (nI q) = some (μ (x + 159) q) := ob_aI hX.least hq (by omega)
theorem xSLea (hX : ShX S x) {q : Nat} {v : Int32} (hq : q < 16) : sI (mkH n st S μ) (some (x + 159)) (nI q) v = some (mkH n st S (up2 μ (x + 159) q v)) := ob_sI hX.least hq (by omega)
theorem xAMos (hX : ShX S x) {q : Nat} (hq : q < 16) : aI (mkH n st S μ) (some (x + 160)) (nI q) = some (μ (x + 160) q) := ob_aI hX.most hq (by omega)
theorem xSMos (hX : ShX S x) {q : Nat} {v : Int32} (hq : q < 16) : sI (mkH n st S μ) (some (x + 160)) (nI q) v = some (mkH n st S (up2 μ (x + 160) q v)) := ob_sI hX.most hq (by omega)
theorem xAGat (hX : ShX S x) {q : Nat} (hq : q < 16) : aI (mkH n st S μ) (some (x + 161)) (nI q) = some (μ (x + 161) q) := ob_aI hX.gates hq (by omega)
theorem xSGat (hX : ShX S x) {q : Nat} {v : Int32} (hq : q < 16) : sI (mkH n st S μ) (some (x + 161)) (nI q) v = some (mkH n st S (up2 μ (x + 161) q v)) := ob_sI hX.gates hq (by omega)
theorem xAThr (hX : ShX S x) {q : Nat} (hq : q < 5) : aI (mkH n st S μ) (some (x + 162)) (nI q) = some (μ (x + 162) q) := ob_aI hX.through hq (by omega)
theorem xSThr (hX : ShX S x) {q : Nat} {v : Int32} (hq : q < 5) : sI (mkH n st S μ) (some (x + 162)) (nI q) v = some (mkH n st S (up2 μ (x + 162) q v)) := ob_sI hX.through hq (by omega)
theorem xATra (hX : ShX S x) {q : Nat} (hq : q < 30) : aI (mkH n st S μ) (some (x + 164)) (nI q) = some (μ (x + 164) q) := ob_aI hX.trace hq (by omega)
theorem xSTra (hX : ShX S x) {q : Nat} {v : Int32} (hq : q < 30) : sI (mkH n st S μ) (some (x + 164)) (nI q) v = some (mkH n st S (up2 μ (x + 164) q v)) := ob_sI hX.trace hq (by omega)
theorem xACas (hX : ShX S x) {q : Nat} (hq : q < 16) : aI (mkH n st S μ) (some (x + 165)) (nI q) = some (μ (x + 165) q) := ob_aI hX.casts hq (by omega)
theorem xSCas (hX : ShX S x) {q : Nat} {v : Int32} (hq : q < 16) : sI (mkH n st S μ) (some (x + 165)) (nI q) v = some (mkH n st S (up2 μ (x + 165) q v)) := ob_sI hX.casts hq (by omega)
theorem xARMa (hX : ShX S x) {q : Nat} (hq : q < 16) : aI (mkH n st S μ) (some (x + 166)) (nI q) = some (μ (x + 166) q) := ob_aI hX.rowMan hq (by omega)
theorem xSRMa (hX : ShX S x) {q : Nat} {v : Int32} (hq : q < 16) : sI (mkH n st S μ) (some (x + 166)) (nI q) v = some (mkH n st S (up2 μ (x + 166) q v)) := ob_sI hX.rowMan hq (by omega)
theorem xARCl (hX : ShX S x) {q : Nat} (hq : q < 16) : aI (mkH n st S μ) (some (x + 167)) (nI q) = some (μ (x + 167) q) := ob_aI hX.rowClubs hq (by omega)
theorem xSRCl (hX : ShX S x) {q : Nat} {v : Int32} (hq : q < 16) : sI (mkH n st S μ) (some (x + 167)) (nI q) v = some (mkH n st S (up2 μ (x + 167) q v)) := ob_sI hX.rowClubs hq (by omega)
theorem xASWh (hX : ShX S x) {q : Nat} (hq : q < 4) : aI (mkH n st S μ) (some (x + 169)) (nI q) = some (μ (x + 169) q) := ob_aI hX.shelfWhat hq (by omega)
theorem xSSWh (hX : ShX S x) {q : Nat} {v : Int32} (hq : q < 4) : sI (mkH n st S μ) (some (x + 169)) (nI q) v = some (mkH n st S (up2 μ (x + 169) q v)) := ob_sI hX.shelfWhat hq (by omega)
theorem xASNu (hX : ShX S x) {q : Nat} (hq : q < 4) : aI (mkH n st S μ) (some (x + 170)) (nI q) = some (μ (x + 170) q) := ob_aI hX.shelfNumber hq (by omega)
theorem xSSNu (hX : ShX S x) {q : Nat} {v : Int32} (hq : q < 4) : sI (mkH n st S μ) (some (x + 170)) (nI q) v = some (mkH n st S (up2 μ (x + 170) q v)) := ob_sI hX.shelfNumber hq (by omega)
theorem xAPOf (hX : ShX S x) {q : Nat} (hq : q < 9) : aI (mkH n st S μ) (some (x + 172)) (nI q) = some (μ (x + 172) q) := ob_aI hX.partOf hq (by omega)
theorem xSPOf (hX : ShX S x) {q : Nat} {v : Int32} (hq : q < 9) : sI (mkH n st S μ) (some (x + 172)) (nI q) v = some (mkH n st S (up2 μ (x + 172) q v)) := ob_sI hX.partOf hq (by omega)
theorem xAPMe (hX : ShX S x) {q : Nat} (hq : q < 9) : aI (mkH n st S μ) (some (x + 173)) (nI q) = some (μ (x + 173) q) := ob_aI hX.partMembers hq (by omega)
theorem xSPMe (hX : ShX S x) {q : Nat} {v : Int32} (hq : q < 9) : sI (mkH n st S μ) (some (x + 173)) (nI q) v = some (mkH n st S (up2 μ (x + 173) q v)) := ob_sI hX.partMembers hq (by omega)
theorem xAAli (hX : ShX S x) {q : Nat} (hq : q < 9) : aI (mkH n st S μ) (some (x + 174)) (nI q) = some (μ (x + 174) q) := ob_aI hX.alikeTo hq (by omega)
theorem xSAli (hX : ShX S x) {q : Nat} {v : Int32} (hq : q < 9) : sI (mkH n st S μ) (some (x + 174)) (nI q) v = some (mkH n st S (up2 μ (x + 174) q v)) := ob_sI hX.alikeTo hq (by omega)
theorem rdR0 (hX : ShX S x) : gR 4 0 (mkH n st S μ) (some (x + 149)) = some (some (x + 150)) := ob_gR hX.reader (by omega) rfl
theorem rdI1 (hX : ShX S x) : gI 4 1 (mkH n st S μ) (some (x + 149)) = some (μ (x + 149) 1) := ob_gI hX.reader (by omega) rfl
theorem rdP1 (hX : ShX S x) {v : Int32} : pI 4 1 (mkH n st S μ) (some (x + 149)) v = some (mkH n st S (up2 μ (x + 149) 1 v)) := ob_pI hX.reader (by omega) rfl
theorem rdR2 (hX : ShX S x) : gR 4 2 (mkH n st S μ) (some (x + 149)) = some (some (x + 151)) := ob_gR hX.reader (by omega) rfl
theorem rdI3 (hX : ShX S x) : gI 4 3 (mkH n st S μ) (some (x + 149)) = some (μ (x + 149) 3) := ob_gI hX.reader (by omega) rfl
theorem rdP3 (hX : ShX S x) {v : Int32} : pI 4 3 (mkH n st S μ) (some (x + 149)) v = some (mkH n st S (up2 μ (x + 149) 3 v)) := ob_pI hX.reader (by omega) rfl
theorem rdI4 (hX : ShX S x) : gI 4 4 (mkH n st S μ) (some (x + 149)) = some (μ (x + 149) 4) := ob_gI hX.reader (by omega) rfl
theorem rdP4 (hX : ShX S x) {v : Int32} : pI 4 4 (mkH n st S μ) (some (x + 149)) v = some (mkH n st S (up2 μ (x + 149) 4 v)) := ob_pI hX.reader (by omega) rfl
theorem rdI5 (hX : ShX S x) : gI 4 5 (mkH n st S μ) (some (x + 149)) = some (μ (x + 149) 5) := ob_gI hX.reader (by omega) rfl
theorem rdP5 (hX : ShX S x) {v : Int32} : pI 4 5 (mkH n st S μ) (some (x + 149)) v = some (mkH n st S (up2 μ (x + 149) 5 v)) := ob_pI hX.reader (by omega) rfl
theorem rdI6 (hX : ShX S x) : gI 4 6 (mkH n st S μ) (some (x + 149)) = some (μ (x + 149) 6) := ob_gI hX.reader (by omega) rfl
theorem rdP6 (hX : ShX S x) {v : Int32} : pI 4 6 (mkH n st S μ) (some (x + 149)) v = some (mkH n st S (up2 μ (x + 149) 6 v)) := ob_pI hX.reader (by omega) rfl
theorem rdI7 (hX : ShX S x) : gI 4 7 (mkH n st S μ) (some (x + 149)) = some (μ (x + 149) 7) := ob_gI hX.reader (by omega) rfl
theorem rdP7 (hX : ShX S x) {v : Int32} : pI 4 7 (mkH n st S μ) (some (x + 149)) v = some (mkH n st S (up2 μ (x + 149) 7 v)) := ob_pI hX.reader (by omega) rfl
theorem rdZ7_0 (hX : ShX S x) : pZ 4 7 (mkH n st S μ) (some (x + 149)) 0 = some (mkH n st S (up2 μ (x + 149) 7 0)) := ob_pZ hX.reader (by omega) rfl (Or.inl rfl)
theorem rdZ7_1 (hX : ShX S x) : pZ 4 7 (mkH n st S μ) (some (x + 149)) 1 = some (mkH n st S (up2 μ (x + 149) 7 1)) := ob_pZ hX.reader (by omega) rfl (Or.inr rfl)
theorem rdI8 (hX : ShX S x) : gI 4 8 (mkH n st S μ) (some (x + 149)) = some (μ (x + 149) 8) := ob_gI hX.reader (by omega) rfl
theorem rdP8 (hX : ShX S x) {v : Int32} : pI 4 8 (mkH n st S μ) (some (x + 149)) v = some (mkH n st S (up2 μ (x + 149) 8 v)) := ob_pI hX.reader (by omega) rfl
theorem rdI9 (hX : ShX S x) : gI 4 9 (mkH n st S μ) (some (x + 149)) = some (μ (x + 149) 9) := ob_gI hX.reader (by omega) rfl
theorem rdP9 (hX : ShX S x) {v : Int32} : pI 4 9 (mkH n st S μ) (some (x + 149)) v = some (mkH n st S (up2 μ (x + 149) 9 v)) := ob_pI hX.reader (by omega) rfl
theorem rdI10 (hX : ShX S x) : gI 4 10 (mkH n st S μ) (some (x + 149)) = some (μ (x + 149) 10) := ob_gI hX.reader (by omega) rfl
theorem rdP10 (hX : ShX S x) {v : Int32} : pI 4 10 (mkH n st S μ) (some (x + 149)) v = some (mkH n st S (up2 μ (x + 149) 10 v)) := ob_pI hX.reader (by omega) rfl
theorem rdR11 (hX : ShX S x) : gR 4 11 (mkH n st S μ) (some (x + 149)) = some (some (x + 157)) := ob_gR hX.reader (by omega) rfl
theorem rdI12 (hX : ShX S x) : gI 4 12 (mkH n st S μ) (some (x + 149)) = some (μ (x + 149) 12) := ob_gI hX.reader (by omega) rfl
theorem rdP12 (hX : ShX S x) {v : Int32} : pI 4 12 (mkH n st S μ) (some (x + 149)) v = some (mkH n st S (up2 μ (x + 149) 12 v)) := ob_pI hX.reader (by omega) rfl
theorem rdck (hX : ShX S x) {α : Type} {f : Option α} : ck 4 (mkH n st S μ) (some (x + 149)) f = f := ob_ck hX.reader
theorem poI0 (hX : ShX S x) : gI 6 0 (mkH n st S μ) (some (x + 158)) = some (μ (x + 158) 0) := ob_gI hX.poll (by omega) rfl
theorem poP0 (hX : ShX S x) {v : Int32} : pI 6 0 (mkH n st S μ) (some (x + 158)) v = some (mkH n st S (up2 μ (x + 158) 0 v)) := ob_pI hX.poll (by omega) rfl
theorem poI1 (hX : ShX S x) : gI 6 1 (mkH n st S μ) (some (x + 158)) = some (μ (x + 158) 1) := ob_gI hX.poll (by omega) rfl
theorem poP1 (hX : ShX S x) {v : Int32} : pI 6 1 (mkH n st S μ) (some (x + 158)) v = some (mkH n st S (up2 μ (x + 158) 1 v)) := ob_pI hX.poll (by omega) rfl
theorem poR2 (hX : ShX S x) : gR 6 2 (mkH n st S μ) (some (x + 158)) = some (some (x + 159)) := ob_gR hX.poll (by omega) rfl
theorem poR3 (hX : ShX S x) : gR 6 3 (mkH n st S μ) (some (x + 158)) = some (some (x + 160)) := ob_gR hX.poll (by omega) rfl
theorem poR4 (hX : ShX S x) : gR 6 4 (mkH n st S μ) (some (x + 158)) = some (some (x + 161)) := ob_gR hX.poll (by omega) rfl
theorem poR5 (hX : ShX S x) : gR 6 5 (mkH n st S μ) (some (x + 158)) = some (some (x + 162)) := ob_gR hX.poll (by omega) rfl
theorem pock (hX : ShX S x) {α : Type} {f : Option α} : ck 6 (mkH n st S μ) (some (x + 158)) f = f := ob_ck hX.poll
theorem acI0 (hX : ShX S x) : gI 0 0 (mkH n st S μ) (some (x + 163)) = some (μ (x + 163) 0) := ob_gI hX.actor (by omega) rfl
theorem acP0 (hX : ShX S x) {v : Int32} : pI 0 0 (mkH n st S μ) (some (x + 163)) v = some (mkH n st S (up2 μ (x + 163) 0 v)) := ob_pI hX.actor (by omega) rfl
theorem acI1 (hX : ShX S x) : gI 0 1 (mkH n st S μ) (some (x + 163)) = some (μ (x + 163) 1) := ob_gI hX.actor (by omega) rfl
theorem acP1 (hX : ShX S x) {v : Int32} : pI 0 1 (mkH n st S μ) (some (x + 163)) v = some (mkH n st S (up2 μ (x + 163) 1 v)) := ob_pI hX.actor (by omega) rfl
theorem acI2 (hX : ShX S x) : gI 0 2 (mkH n st S μ) (some (x + 163)) = some (μ (x + 163) 2) := ob_gI hX.actor (by omega) rfl
theorem acP2 (hX : ShX S x) {v : Int32} : pI 0 2 (mkH n st S μ) (some (x + 163)) v = some (mkH n st S (up2 μ (x + 163) 2 v)) := ob_pI hX.actor (by omega) rfl
theorem acR3 (hX : ShX S x) : gR 0 3 (mkH n st S μ) (some (x + 163)) = some (some (x + 164)) := ob_gR hX.actor (by omega) rfl
theorem acI4 (hX : ShX S x) : gI 0 4 (mkH n st S μ) (some (x + 163)) = some (μ (x + 163) 4) := ob_gI hX.actor (by omega) rfl
theorem acP4 (hX : ShX S x) {v : Int32} : pI 0 4 (mkH n st S μ) (some (x + 163)) v = some (mkH n st S (up2 μ (x + 163) 4 v)) := ob_pI hX.actor (by omega) rfl
theorem acI5 (hX : ShX S x) : gI 0 5 (mkH n st S μ) (some (x + 163)) = some (μ (x + 163) 5) := ob_gI hX.actor (by omega) rfl
theorem acP5 (hX : ShX S x) {v : Int32} : pI 0 5 (mkH n st S μ) (some (x + 163)) v = some (mkH n st S (up2 μ (x + 163) 5 v)) := ob_pI hX.actor (by omega) rfl
theorem acZ5_0 (hX : ShX S x) : pZ 0 5 (mkH n st S μ) (some (x + 163)) 0 = some (mkH n st S (up2 μ (x + 163) 5 0)) := ob_pZ hX.actor (by omega) rfl (Or.inl rfl)
theorem acZ5_1 (hX : ShX S x) : pZ 0 5 (mkH n st S μ) (some (x + 163)) 1 = some (mkH n st S (up2 μ (x + 163) 5 1)) := ob_pZ hX.actor (by omega) rfl (Or.inr rfl)
theorem acck (hX : ShX S x) {α : Type} {f : Option α} : ck 0 (mkH n st S μ) (some (x + 163)) f = f := ob_ck hX.actor
end SHX
section SHM
variable {n : Nat} {st : Nat → Nat} {S : SH} {μ : MU} {m : Nat}
theorem mR0 (hS : ShM S m) : gR 12 0 (mkH n st S μ) (some m) = some (some (m + 1)) := rR hS 0 rfl
theorem mA0 (hS : ShM S m) {q : Nat} (hq : q < 2224) : aI (mkH n st S μ) (some (m + 1)) (nI q) = some (μ (m + 1) q) := by
  have h : S (m + 1) = (100, 2224, fun _ => none) := hS.2 0 _ rfl
  exact aI_mk (by rw [h]; rfl) (by rw [h]; exact hq) (by rw [h]; show 2224 < 2 ^ 31; omega) (by rw [h])
theorem mS0 (hS : ShM S m) {q : Nat} {v : Int32} (hq : q < 2224) : sI (mkH n st S μ) (some (m + 1)) (nI q) v = some (mkH n st S (up2 μ (m + 1) q v)) := by
  have h : S (m + 1) = (100, 2224, fun _ => none) := hS.2 0 _ rfl
  exact sI_mk (by rw [h]) (by rw [h]; exact hq) (by rw [h]; show 2224 < 2 ^ 31; omega) (by rw [h])
theorem mL0 (hS : ShM S m) : aL (mkH n st S μ) (some (m + 1)) = some (nI 2224) := by
  have h : S (m + 1) = (100, 2224, fun _ => none) := hS.2 0 _ rfl
  rw [aL_mk (by rw [h]; exact ⟨(by show 100 ≤ 100; omega), (by show 100 < 310; omega)⟩), h]
theorem mR1 (hS : ShM S m) : gR 12 1 (mkH n st S μ) (some m) = some (some (m + 2)) := rR hS 1 rfl
theorem mA1 (hS : ShM S m) {q : Nat} (hq : q < 2224) : aI (mkH n st S μ) (some (m + 2)) (nI q) = some (μ (m + 2) q) := by
  have h : S (m + 2) = (100, 2224, fun _ => none) := hS.2 1 _ rfl
  exact aI_mk (by rw [h]; rfl) (by rw [h]; exact hq) (by rw [h]; show 2224 < 2 ^ 31; omega) (by rw [h])
theorem mS1 (hS : ShM S m) {q : Nat} {v : Int32} (hq : q < 2224) : sI (mkH n st S μ) (some (m + 2)) (nI q) v = some (mkH n st S (up2 μ (m + 2) q v)) := by
  have h : S (m + 2) = (100, 2224, fun _ => none) := hS.2 1 _ rfl
  exact sI_mk (by rw [h]) (by rw [h]; exact hq) (by rw [h]; show 2224 < 2 ^ 31; omega) (by rw [h])
theorem mL1 (hS : ShM S m) : aL (mkH n st S μ) (some (m + 2)) = some (nI 2224) := by
  have h : S (m + 2) = (100, 2224, fun _ => none) := hS.2 1 _ rfl
  rw [aL_mk (by rw [h]; exact ⟨(by show 100 ≤ 100; omega), (by show 100 < 310; omega)⟩), h]
theorem mI2 (hS : ShM S m) : gI 12 2 (mkH n st S μ) (some m) = some (μ m 2) := rI hS 2 rfl
theorem mP2 (hS : ShM S m) {v : Int32} : pI 12 2 (mkH n st S μ) (some m) v = some (mkH n st S (up2 μ m 2 v)) := wI hS 2 rfl
theorem mZ2 (hS : ShM S m) {v : Int32} (hv : v = 0 ∨ v = 1) : pZ 12 2 (mkH n st S μ) (some m) v = some (mkH n st S (up2 μ m 2 v)) := pZ_mk hv (by rw [hS.1]) (by rw [hS.1]; rfl)
theorem mZ2_0 (hS : ShM S m) : pZ 12 2 (mkH n st S μ) (some m) 0 = some (mkH n st S (up2 μ m 2 0)) := mZ2 hS (Or.inl rfl)
theorem mZ2_1 (hS : ShM S m) : pZ 12 2 (mkH n st S μ) (some m) 1 = some (mkH n st S (up2 μ m 2 1)) := mZ2 hS (Or.inr rfl)
theorem mR3 (hS : ShM S m) : gR 12 3 (mkH n st S μ) (some m) = some (some (m + 3)) := rR hS 3 rfl
theorem mA3 (hS : ShM S m) {q : Nat} (hq : q < 300) : aI (mkH n st S μ) (some (m + 3)) (nI q) = some (μ (m + 3) q) := by
  have h : S (m + 3) = (100, 300, fun _ => none) := hS.2 2 _ rfl
  exact aI_mk (by rw [h]; rfl) (by rw [h]; exact hq) (by rw [h]; show 300 < 2 ^ 31; omega) (by rw [h])
theorem mS3 (hS : ShM S m) {q : Nat} {v : Int32} (hq : q < 300) : sI (mkH n st S μ) (some (m + 3)) (nI q) v = some (mkH n st S (up2 μ (m + 3) q v)) := by
  have h : S (m + 3) = (100, 300, fun _ => none) := hS.2 2 _ rfl
  exact sI_mk (by rw [h]) (by rw [h]; exact hq) (by rw [h]; show 300 < 2 ^ 31; omega) (by rw [h])
theorem mL3 (hS : ShM S m) : aL (mkH n st S μ) (some (m + 3)) = some (nI 300) := by
  have h : S (m + 3) = (100, 300, fun _ => none) := hS.2 2 _ rfl
  rw [aL_mk (by rw [h]; exact ⟨(by show 100 ≤ 100; omega), (by show 100 < 310; omega)⟩), h]
theorem mI4 (hS : ShM S m) : gI 12 4 (mkH n st S μ) (some m) = some (μ m 4) := rI hS 4 rfl
theorem mP4 (hS : ShM S m) {v : Int32} : pI 12 4 (mkH n st S μ) (some m) v = some (mkH n st S (up2 μ m 4 v)) := wI hS 4 rfl
theorem mR5 (hS : ShM S m) : gR 12 5 (mkH n st S μ) (some m) = some (some (m + 4)) := rR hS 5 rfl
theorem mA5 (hS : ShM S m) {q : Nat} (hq : q < 6) : aI (mkH n st S μ) (some (m + 4)) (nI q) = some (μ (m + 4) q) := by
  have h : S (m + 4) = (100, 6, fun _ => none) := hS.2 3 _ rfl
  exact aI_mk (by rw [h]; rfl) (by rw [h]; exact hq) (by rw [h]; show 6 < 2 ^ 31; omega) (by rw [h])
theorem mS5 (hS : ShM S m) {q : Nat} {v : Int32} (hq : q < 6) : sI (mkH n st S μ) (some (m + 4)) (nI q) v = some (mkH n st S (up2 μ (m + 4) q v)) := by
  have h : S (m + 4) = (100, 6, fun _ => none) := hS.2 3 _ rfl
  exact sI_mk (by rw [h]) (by rw [h]; exact hq) (by rw [h]; show 6 < 2 ^ 31; omega) (by rw [h])
theorem mL5 (hS : ShM S m) : aL (mkH n st S μ) (some (m + 4)) = some (nI 6) := by
  have h : S (m + 4) = (100, 6, fun _ => none) := hS.2 3 _ rfl
  rw [aL_mk (by rw [h]; exact ⟨(by show 100 ≤ 100; omega), (by show 100 < 310; omega)⟩), h]
theorem mR6 (hS : ShM S m) : gR 12 6 (mkH n st S μ) (some m) = some (some (m + 5)) := rR hS 6 rfl
theorem mA6 (hS : ShM S m) {q : Nat} (hq : q < 6) : aI (mkH n st S μ) (some (m + 5)) (nI q) = some (μ (m + 5) q) := by
  have h : S (m + 5) = (100, 6, fun _ => none) := hS.2 4 _ rfl
  exact aI_mk (by rw [h]; rfl) (by rw [h]; exact hq) (by rw [h]; show 6 < 2 ^ 31; omega) (by rw [h])
theorem mS6 (hS : ShM S m) {q : Nat} {v : Int32} (hq : q < 6) : sI (mkH n st S μ) (some (m + 5)) (nI q) v = some (mkH n st S (up2 μ (m + 5) q v)) := by
  have h : S (m + 5) = (100, 6, fun _ => none) := hS.2 4 _ rfl
  exact sI_mk (by rw [h]) (by rw [h]; exact hq) (by rw [h]; show 6 < 2 ^ 31; omega) (by rw [h])
theorem mL6 (hS : ShM S m) : aL (mkH n st S μ) (some (m + 5)) = some (nI 6) := by
  have h : S (m + 5) = (100, 6, fun _ => none) := hS.2 4 _ rfl
  rw [aL_mk (by rw [h]; exact ⟨(by show 100 ≤ 100; omega), (by show 100 < 310; omega)⟩), h]
theorem mR7 (hS : ShM S m) : gR 12 7 (mkH n st S μ) (some m) = some (some (m + 6)) := rR hS 7 rfl
theorem mA7 (hS : ShM S m) {q : Nat} (hq : q < 49) : aI (mkH n st S μ) (some (m + 6)) (nI q) = some (μ (m + 6) q) := by
  have h : S (m + 6) = (100, 49, fun _ => none) := hS.2 5 _ rfl
  exact aI_mk (by rw [h]; rfl) (by rw [h]; exact hq) (by rw [h]; show 49 < 2 ^ 31; omega) (by rw [h])
theorem mS7 (hS : ShM S m) {q : Nat} {v : Int32} (hq : q < 49) : sI (mkH n st S μ) (some (m + 6)) (nI q) v = some (mkH n st S (up2 μ (m + 6) q v)) := by
  have h : S (m + 6) = (100, 49, fun _ => none) := hS.2 5 _ rfl
  exact sI_mk (by rw [h]) (by rw [h]; exact hq) (by rw [h]; show 49 < 2 ^ 31; omega) (by rw [h])
theorem mL7 (hS : ShM S m) : aL (mkH n st S μ) (some (m + 6)) = some (nI 49) := by
  have h : S (m + 6) = (100, 49, fun _ => none) := hS.2 5 _ rfl
  rw [aL_mk (by rw [h]; exact ⟨(by show 100 ≤ 100; omega), (by show 100 < 310; omega)⟩), h]
theorem mR8 (hS : ShM S m) : gR 12 8 (mkH n st S μ) (some m) = some (some (m + 7)) := rR hS 8 rfl
theorem mA8 (hS : ShM S m) {q : Nat} (hq : q < 7) : aI (mkH n st S μ) (some (m + 7)) (nI q) = some (μ (m + 7) q) := by
  have h : S (m + 7) = (100, 7, fun _ => none) := hS.2 6 _ rfl
  exact aI_mk (by rw [h]; rfl) (by rw [h]; exact hq) (by rw [h]; show 7 < 2 ^ 31; omega) (by rw [h])
theorem mS8 (hS : ShM S m) {q : Nat} {v : Int32} (hq : q < 7) : sI (mkH n st S μ) (some (m + 7)) (nI q) v = some (mkH n st S (up2 μ (m + 7) q v)) := by
  have h : S (m + 7) = (100, 7, fun _ => none) := hS.2 6 _ rfl
  exact sI_mk (by rw [h]) (by rw [h]; exact hq) (by rw [h]; show 7 < 2 ^ 31; omega) (by rw [h])
theorem mL8 (hS : ShM S m) : aL (mkH n st S μ) (some (m + 7)) = some (nI 7) := by
  have h : S (m + 7) = (100, 7, fun _ => none) := hS.2 6 _ rfl
  rw [aL_mk (by rw [h]; exact ⟨(by show 100 ≤ 100; omega), (by show 100 < 310; omega)⟩), h]
theorem mR9 (hS : ShM S m) : gR 12 9 (mkH n st S μ) (some m) = some (some (m + 8)) := rR hS 9 rfl
theorem mA9 (hS : ShM S m) {q : Nat} (hq : q < 5) : aZ (mkH n st S μ) (some (m + 8)) (nI q) = some (μ (m + 8) q) := by
  have h : S (m + 8) = (101, 5, fun _ => none) := hS.2 7 _ rfl
  exact aZ_mk (by rw [h]) (by rw [h]; exact hq) (by rw [h]; show 5 < 2 ^ 31; omega) (by rw [h])
theorem mS9 (hS : ShM S m) {q : Nat} {v : Int32} (hq : q < 5) : sZ (mkH n st S μ) (some (m + 8)) (nI q) v = some (mkH n st S (up2 μ (m + 8) q (v &&& 1))) := by
  have h : S (m + 8) = (101, 5, fun _ => none) := hS.2 7 _ rfl
  exact sZ_mk (by rw [h]) (by rw [h]; exact hq) (by rw [h]; show 5 < 2 ^ 31; omega) (by rw [h])
theorem mL9 (hS : ShM S m) : aL (mkH n st S μ) (some (m + 8)) = some (nI 5) := by
  have h : S (m + 8) = (101, 5, fun _ => none) := hS.2 7 _ rfl
  rw [aL_mk (by rw [h]; exact ⟨(by show 100 ≤ 101; omega), (by show 101 < 310; omega)⟩), h]
theorem mR10 (hS : ShM S m) : gR 12 10 (mkH n st S μ) (some m) = some (some (m + 9)) := rR hS 10 rfl
theorem mA10 (hS : ShM S m) {q : Nat} (hq : q < 5) : aI (mkH n st S μ) (some (m + 9)) (nI q) = some (μ (m + 9) q) := by
  have h : S (m + 9) = (100, 5, fun _ => none) := hS.2 8 _ rfl
  exact aI_mk (by rw [h]; rfl) (by rw [h]; exact hq) (by rw [h]; show 5 < 2 ^ 31; omega) (by rw [h])
theorem mS10 (hS : ShM S m) {q : Nat} {v : Int32} (hq : q < 5) : sI (mkH n st S μ) (some (m + 9)) (nI q) v = some (mkH n st S (up2 μ (m + 9) q v)) := by
  have h : S (m + 9) = (100, 5, fun _ => none) := hS.2 8 _ rfl
  exact sI_mk (by rw [h]) (by rw [h]; exact hq) (by rw [h]; show 5 < 2 ^ 31; omega) (by rw [h])
theorem mL10 (hS : ShM S m) : aL (mkH n st S μ) (some (m + 9)) = some (nI 5) := by
  have h : S (m + 9) = (100, 5, fun _ => none) := hS.2 8 _ rfl
  rw [aL_mk (by rw [h]; exact ⟨(by show 100 ≤ 100; omega), (by show 100 < 310; omega)⟩), h]
theorem mI11 (hS : ShM S m) : gI 12 11 (mkH n st S μ) (some m) = some (μ m 11) := rI hS 11 rfl
theorem mP11 (hS : ShM S m) {v : Int32} : pI 12 11 (mkH n st S μ) (some m) v = some (mkH n st S (up2 μ m 11 v)) := wI hS 11 rfl
theorem mI12 (hS : ShM S m) : gI 12 12 (mkH n st S μ) (some m) = some (μ m 12) := rI hS 12 rfl
theorem mP12 (hS : ShM S m) {v : Int32} : pI 12 12 (mkH n st S μ) (some m) v = some (mkH n st S (up2 μ m 12 v)) := wI hS 12 rfl
theorem mI13 (hS : ShM S m) : gI 12 13 (mkH n st S μ) (some m) = some (μ m 13) := rI hS 13 rfl
theorem mP13 (hS : ShM S m) {v : Int32} : pI 12 13 (mkH n st S μ) (some m) v = some (mkH n st S (up2 μ m 13 v)) := wI hS 13 rfl
theorem mI14 (hS : ShM S m) : gI 12 14 (mkH n st S μ) (some m) = some (μ m 14) := rI hS 14 rfl
theorem mP14 (hS : ShM S m) {v : Int32} : pI 12 14 (mkH n st S μ) (some m) v = some (mkH n st S (up2 μ m 14 v)) := wI hS 14 rfl
theorem mI15 (hS : ShM S m) : gI 12 15 (mkH n st S μ) (some m) = some (μ m 15) := rI hS 15 rfl
theorem mP15 (hS : ShM S m) {v : Int32} : pI 12 15 (mkH n st S μ) (some m) v = some (mkH n st S (up2 μ m 15 v)) := wI hS 15 rfl
theorem mI16 (hS : ShM S m) : gI 12 16 (mkH n st S μ) (some m) = some (μ m 16) := rI hS 16 rfl
theorem mP16 (hS : ShM S m) {v : Int32} : pI 12 16 (mkH n st S μ) (some m) v = some (mkH n st S (up2 μ m 16 v)) := wI hS 16 rfl
theorem mI17 (hS : ShM S m) : gI 12 17 (mkH n st S μ) (some m) = some (μ m 17) := rI hS 17 rfl
theorem mP17 (hS : ShM S m) {v : Int32} : pI 12 17 (mkH n st S μ) (some m) v = some (mkH n st S (up2 μ m 17 v)) := wI hS 17 rfl
theorem mI18 (hS : ShM S m) : gI 12 18 (mkH n st S μ) (some m) = some (μ m 18) := rI hS 18 rfl
theorem mP18 (hS : ShM S m) {v : Int32} : pI 12 18 (mkH n st S μ) (some m) v = some (mkH n st S (up2 μ m 18 v)) := wI hS 18 rfl
theorem mR19 (hS : ShM S m) : gR 12 19 (mkH n st S μ) (some m) = some (some (m + 10)) := rR hS 19 rfl
theorem mA19 (hS : ShM S m) {q : Nat} (hq : q < 16) : aI (mkH n st S μ) (some (m + 10)) (nI q) = some (μ (m + 10) q) := by
  have h : S (m + 10) = (100, 16, fun _ => none) := hS.2 9 _ rfl
  exact aI_mk (by rw [h]; rfl) (by rw [h]; exact hq) (by rw [h]; show 16 < 2 ^ 31; omega) (by rw [h])
theorem mS19 (hS : ShM S m) {q : Nat} {v : Int32} (hq : q < 16) : sI (mkH n st S μ) (some (m + 10)) (nI q) v = some (mkH n st S (up2 μ (m + 10) q v)) := by
  have h : S (m + 10) = (100, 16, fun _ => none) := hS.2 9 _ rfl
  exact sI_mk (by rw [h]) (by rw [h]; exact hq) (by rw [h]; show 16 < 2 ^ 31; omega) (by rw [h])
theorem mL19 (hS : ShM S m) : aL (mkH n st S μ) (some (m + 10)) = some (nI 16) := by
  have h : S (m + 10) = (100, 16, fun _ => none) := hS.2 9 _ rfl
  rw [aL_mk (by rw [h]; exact ⟨(by show 100 ≤ 100; omega), (by show 100 < 310; omega)⟩), h]
theorem mR20 (hS : ShM S m) : gR 12 20 (mkH n st S μ) (some m) = some (some (m + 11)) := rR hS 20 rfl
theorem mA20 (hS : ShM S m) {q : Nat} (hq : q < 16) : aI (mkH n st S μ) (some (m + 11)) (nI q) = some (μ (m + 11) q) := by
  have h : S (m + 11) = (100, 16, fun _ => none) := hS.2 10 _ rfl
  exact aI_mk (by rw [h]; rfl) (by rw [h]; exact hq) (by rw [h]; show 16 < 2 ^ 31; omega) (by rw [h])
theorem mS20 (hS : ShM S m) {q : Nat} {v : Int32} (hq : q < 16) : sI (mkH n st S μ) (some (m + 11)) (nI q) v = some (mkH n st S (up2 μ (m + 11) q v)) := by
  have h : S (m + 11) = (100, 16, fun _ => none) := hS.2 10 _ rfl
  exact sI_mk (by rw [h]) (by rw [h]; exact hq) (by rw [h]; show 16 < 2 ^ 31; omega) (by rw [h])
theorem mL20 (hS : ShM S m) : aL (mkH n st S μ) (some (m + 11)) = some (nI 16) := by
  have h : S (m + 11) = (100, 16, fun _ => none) := hS.2 10 _ rfl
  rw [aL_mk (by rw [h]; exact ⟨(by show 100 ≤ 100; omega), (by show 100 < 310; omega)⟩), h]
theorem mR21 (hS : ShM S m) : gR 12 21 (mkH n st S μ) (some m) = some (some (m + 12)) := rR hS 21 rfl
theorem mA21 (hS : ShM S m) {q : Nat} (hq : q < 40) : aZ (mkH n st S μ) (some (m + 12)) (nI q) = some (μ (m + 12) q) := by
  have h : S (m + 12) = (101, 40, fun _ => none) := hS.2 11 _ rfl
  exact aZ_mk (by rw [h]) (by rw [h]; exact hq) (by rw [h]; show 40 < 2 ^ 31; omega) (by rw [h])
theorem mS21 (hS : ShM S m) {q : Nat} {v : Int32} (hq : q < 40) : sZ (mkH n st S μ) (some (m + 12)) (nI q) v = some (mkH n st S (up2 μ (m + 12) q (v &&& 1))) := by
  have h : S (m + 12) = (101, 40, fun _ => none) := hS.2 11 _ rfl
  exact sZ_mk (by rw [h]) (by rw [h]; exact hq) (by rw [h]; show 40 < 2 ^ 31; omega) (by rw [h])
theorem mL21 (hS : ShM S m) : aL (mkH n st S μ) (some (m + 12)) = some (nI 40) := by
  have h : S (m + 12) = (101, 40, fun _ => none) := hS.2 11 _ rfl
  rw [aL_mk (by rw [h]; exact ⟨(by show 100 ≤ 101; omega), (by show 101 < 310; omega)⟩), h]
theorem mI22 (hS : ShM S m) : gI 12 22 (mkH n st S μ) (some m) = some (μ m 22) := rI hS 22 rfl
theorem mP22 (hS : ShM S m) {v : Int32} : pI 12 22 (mkH n st S μ) (some m) v = some (mkH n st S (up2 μ m 22 v)) := wI hS 22 rfl
theorem mI23 (hS : ShM S m) : gI 12 23 (mkH n st S μ) (some m) = some (μ m 23) := rI hS 23 rfl
theorem mP23 (hS : ShM S m) {v : Int32} : pI 12 23 (mkH n st S μ) (some m) v = some (mkH n st S (up2 μ m 23 v)) := wI hS 23 rfl
theorem mI24 (hS : ShM S m) : gI 12 24 (mkH n st S μ) (some m) = some (μ m 24) := rI hS 24 rfl
theorem mP24 (hS : ShM S m) {v : Int32} : pI 12 24 (mkH n st S μ) (some m) v = some (mkH n st S (up2 μ m 24 v)) := wI hS 24 rfl
theorem mI25 (hS : ShM S m) : gI 12 25 (mkH n st S μ) (some m) = some (μ m 25) := rI hS 25 rfl
theorem mP25 (hS : ShM S m) {v : Int32} : pI 12 25 (mkH n st S μ) (some m) v = some (mkH n st S (up2 μ m 25 v)) := wI hS 25 rfl
theorem mI26 (hS : ShM S m) : gI 12 26 (mkH n st S μ) (some m) = some (μ m 26) := rI hS 26 rfl
theorem mP26 (hS : ShM S m) {v : Int32} : pI 12 26 (mkH n st S μ) (some m) v = some (mkH n st S (up2 μ m 26 v)) := wI hS 26 rfl
theorem mR27 (hS : ShM S m) : gR 12 27 (mkH n st S μ) (some m) = some (some (m + 13)) := rR hS 27 rfl
theorem mA27 (hS : ShM S m) {q : Nat} (hq : q < 16) : aI (mkH n st S μ) (some (m + 13)) (nI q) = some (μ (m + 13) q) := by
  have h : S (m + 13) = (100, 16, fun _ => none) := hS.2 12 _ rfl
  exact aI_mk (by rw [h]; rfl) (by rw [h]; exact hq) (by rw [h]; show 16 < 2 ^ 31; omega) (by rw [h])
theorem mS27 (hS : ShM S m) {q : Nat} {v : Int32} (hq : q < 16) : sI (mkH n st S μ) (some (m + 13)) (nI q) v = some (mkH n st S (up2 μ (m + 13) q v)) := by
  have h : S (m + 13) = (100, 16, fun _ => none) := hS.2 12 _ rfl
  exact sI_mk (by rw [h]) (by rw [h]; exact hq) (by rw [h]; show 16 < 2 ^ 31; omega) (by rw [h])
theorem mL27 (hS : ShM S m) : aL (mkH n st S μ) (some (m + 13)) = some (nI 16) := by
  have h : S (m + 13) = (100, 16, fun _ => none) := hS.2 12 _ rfl
  rw [aL_mk (by rw [h]; exact ⟨(by show 100 ≤ 100; omega), (by show 100 < 310; omega)⟩), h]
theorem mR28 (hS : ShM S m) : gR 12 28 (mkH n st S μ) (some m) = some (some (m + 14)) := rR hS 28 rfl
theorem mA28 (hS : ShM S m) {q : Nat} (hq : q < 32) : aI (mkH n st S μ) (some (m + 14)) (nI q) = some (μ (m + 14) q) := by
  have h : S (m + 14) = (100, 32, fun _ => none) := hS.2 13 _ rfl
  exact aI_mk (by rw [h]; rfl) (by rw [h]; exact hq) (by rw [h]; show 32 < 2 ^ 31; omega) (by rw [h])
theorem mS28 (hS : ShM S m) {q : Nat} {v : Int32} (hq : q < 32) : sI (mkH n st S μ) (some (m + 14)) (nI q) v = some (mkH n st S (up2 μ (m + 14) q v)) := by
  have h : S (m + 14) = (100, 32, fun _ => none) := hS.2 13 _ rfl
  exact sI_mk (by rw [h]) (by rw [h]; exact hq) (by rw [h]; show 32 < 2 ^ 31; omega) (by rw [h])
theorem mL28 (hS : ShM S m) : aL (mkH n st S μ) (some (m + 14)) = some (nI 32) := by
  have h : S (m + 14) = (100, 32, fun _ => none) := hS.2 13 _ rfl
  rw [aL_mk (by rw [h]; exact ⟨(by show 100 ≤ 100; omega), (by show 100 < 310; omega)⟩), h]
theorem mI29 (hS : ShM S m) : gI 12 29 (mkH n st S μ) (some m) = some (μ m 29) := rI hS 29 rfl
theorem mP29 (hS : ShM S m) {v : Int32} : pI 12 29 (mkH n st S μ) (some m) v = some (mkH n st S (up2 μ m 29 v)) := wI hS 29 rfl
theorem mR30 (hS : ShM S m) : gR 12 30 (mkH n st S μ) (some m) = some (some (m + 15)) := rR hS 30 rfl
theorem mA30 (hS : ShM S m) {q : Nat} (hq : q < 9) : aI (mkH n st S μ) (some (m + 15)) (nI q) = some (μ (m + 15) q) := by
  have h : S (m + 15) = (100, 9, fun _ => none) := hS.2 14 _ rfl
  exact aI_mk (by rw [h]; rfl) (by rw [h]; exact hq) (by rw [h]; show 9 < 2 ^ 31; omega) (by rw [h])
theorem mS30 (hS : ShM S m) {q : Nat} {v : Int32} (hq : q < 9) : sI (mkH n st S μ) (some (m + 15)) (nI q) v = some (mkH n st S (up2 μ (m + 15) q v)) := by
  have h : S (m + 15) = (100, 9, fun _ => none) := hS.2 14 _ rfl
  exact sI_mk (by rw [h]) (by rw [h]; exact hq) (by rw [h]; show 9 < 2 ^ 31; omega) (by rw [h])
theorem mL30 (hS : ShM S m) : aL (mkH n st S μ) (some (m + 15)) = some (nI 9) := by
  have h : S (m + 15) = (100, 9, fun _ => none) := hS.2 14 _ rfl
  rw [aL_mk (by rw [h]; exact ⟨(by show 100 ≤ 100; omega), (by show 100 < 310; omega)⟩), h]
theorem mR31 (hS : ShM S m) : gR 12 31 (mkH n st S μ) (some m) = some (some (m + 16)) := rR hS 31 rfl
theorem mA31 (hS : ShM S m) {q : Nat} (hq : q < 4) : aI (mkH n st S μ) (some (m + 16)) (nI q) = some (μ (m + 16) q) := by
  have h : S (m + 16) = (100, 4, fun _ => none) := hS.2 15 _ rfl
  exact aI_mk (by rw [h]; rfl) (by rw [h]; exact hq) (by rw [h]; show 4 < 2 ^ 31; omega) (by rw [h])
theorem mS31 (hS : ShM S m) {q : Nat} {v : Int32} (hq : q < 4) : sI (mkH n st S μ) (some (m + 16)) (nI q) v = some (mkH n st S (up2 μ (m + 16) q v)) := by
  have h : S (m + 16) = (100, 4, fun _ => none) := hS.2 15 _ rfl
  exact sI_mk (by rw [h]) (by rw [h]; exact hq) (by rw [h]; show 4 < 2 ^ 31; omega) (by rw [h])
theorem mL31 (hS : ShM S m) : aL (mkH n st S μ) (some (m + 16)) = some (nI 4) := by
  have h : S (m + 16) = (100, 4, fun _ => none) := hS.2 15 _ rfl
  rw [aL_mk (by rw [h]; exact ⟨(by show 100 ≤ 100; omega), (by show 100 < 310; omega)⟩), h]
theorem mR32 (hS : ShM S m) : gR 12 32 (mkH n st S μ) (some m) = some (some (m + 17)) := rR hS 32 rfl
theorem mA32 (hS : ShM S m) {q : Nat} (hq : q < 8) : aI (mkH n st S μ) (some (m + 17)) (nI q) = some (μ (m + 17) q) := by
  have h : S (m + 17) = (100, 8, fun _ => none) := hS.2 16 _ rfl
  exact aI_mk (by rw [h]; rfl) (by rw [h]; exact hq) (by rw [h]; show 8 < 2 ^ 31; omega) (by rw [h])
theorem mS32 (hS : ShM S m) {q : Nat} {v : Int32} (hq : q < 8) : sI (mkH n st S μ) (some (m + 17)) (nI q) v = some (mkH n st S (up2 μ (m + 17) q v)) := by
  have h : S (m + 17) = (100, 8, fun _ => none) := hS.2 16 _ rfl
  exact sI_mk (by rw [h]) (by rw [h]; exact hq) (by rw [h]; show 8 < 2 ^ 31; omega) (by rw [h])
theorem mL32 (hS : ShM S m) : aL (mkH n st S μ) (some (m + 17)) = some (nI 8) := by
  have h : S (m + 17) = (100, 8, fun _ => none) := hS.2 16 _ rfl
  rw [aL_mk (by rw [h]; exact ⟨(by show 100 ≤ 100; omega), (by show 100 < 310; omega)⟩), h]
theorem mR33 (hS : ShM S m) : gR 12 33 (mkH n st S μ) (some m) = some (some (m + 18)) := rR hS 33 rfl
theorem mA33 (hS : ShM S m) {q : Nat} (hq : q < 8) : aI (mkH n st S μ) (some (m + 18)) (nI q) = some (μ (m + 18) q) := by
  have h : S (m + 18) = (100, 8, fun _ => none) := hS.2 17 _ rfl
  exact aI_mk (by rw [h]; rfl) (by rw [h]; exact hq) (by rw [h]; show 8 < 2 ^ 31; omega) (by rw [h])
theorem mS33 (hS : ShM S m) {q : Nat} {v : Int32} (hq : q < 8) : sI (mkH n st S μ) (some (m + 18)) (nI q) v = some (mkH n st S (up2 μ (m + 18) q v)) := by
  have h : S (m + 18) = (100, 8, fun _ => none) := hS.2 17 _ rfl
  exact sI_mk (by rw [h]) (by rw [h]; exact hq) (by rw [h]; show 8 < 2 ^ 31; omega) (by rw [h])
theorem mL33 (hS : ShM S m) : aL (mkH n st S μ) (some (m + 18)) = some (nI 8) := by
  have h : S (m + 18) = (100, 8, fun _ => none) := hS.2 17 _ rfl
  rw [aL_mk (by rw [h]; exact ⟨(by show 100 ≤ 100; omega), (by show 100 < 310; omega)⟩), h]
theorem mR34 (hS : ShM S m) : gR 12 34 (mkH n st S μ) (some m) = some (some (m + 19)) := rR hS 34 rfl
theorem mA34 (hS : ShM S m) {q : Nat} (hq : q < 320) : aI (mkH n st S μ) (some (m + 19)) (nI q) = some (μ (m + 19) q) := by
  have h : S (m + 19) = (100, 320, fun _ => none) := hS.2 18 _ rfl
  exact aI_mk (by rw [h]; rfl) (by rw [h]; exact hq) (by rw [h]; show 320 < 2 ^ 31; omega) (by rw [h])
theorem mS34 (hS : ShM S m) {q : Nat} {v : Int32} (hq : q < 320) : sI (mkH n st S μ) (some (m + 19)) (nI q) v = some (mkH n st S (up2 μ (m + 19) q v)) := by
  have h : S (m + 19) = (100, 320, fun _ => none) := hS.2 18 _ rfl
  exact sI_mk (by rw [h]) (by rw [h]; exact hq) (by rw [h]; show 320 < 2 ^ 31; omega) (by rw [h])
theorem mL34 (hS : ShM S m) : aL (mkH n st S μ) (some (m + 19)) = some (nI 320) := by
  have h : S (m + 19) = (100, 320, fun _ => none) := hS.2 18 _ rfl
  rw [aL_mk (by rw [h]; exact ⟨(by show 100 ≤ 100; omega), (by show 100 < 310; omega)⟩), h]
theorem mR35 (hS : ShM S m) : gR 12 35 (mkH n st S μ) (some m) = some (some (m + 20)) := rR hS 35 rfl
theorem mA35 (hS : ShM S m) {q : Nat} (hq : q < 4) : aI (mkH n st S μ) (some (m + 20)) (nI q) = some (μ (m + 20) q) := by
  have h : S (m + 20) = (100, 4, fun _ => none) := hS.2 19 _ rfl
  exact aI_mk (by rw [h]; rfl) (by rw [h]; exact hq) (by rw [h]; show 4 < 2 ^ 31; omega) (by rw [h])
theorem mS35 (hS : ShM S m) {q : Nat} {v : Int32} (hq : q < 4) : sI (mkH n st S μ) (some (m + 20)) (nI q) v = some (mkH n st S (up2 μ (m + 20) q v)) := by
  have h : S (m + 20) = (100, 4, fun _ => none) := hS.2 19 _ rfl
  exact sI_mk (by rw [h]) (by rw [h]; exact hq) (by rw [h]; show 4 < 2 ^ 31; omega) (by rw [h])
theorem mL35 (hS : ShM S m) : aL (mkH n st S μ) (some (m + 20)) = some (nI 4) := by
  have h : S (m + 20) = (100, 4, fun _ => none) := hS.2 19 _ rfl
  rw [aL_mk (by rw [h]; exact ⟨(by show 100 ≤ 100; omega), (by show 100 < 310; omega)⟩), h]
theorem mR36 (hS : ShM S m) : gR 12 36 (mkH n st S μ) (some m) = some (some (m + 21)) := rR hS 36 rfl
theorem mA36 (hS : ShM S m) {q : Nat} (hq : q < 4) : aI (mkH n st S μ) (some (m + 21)) (nI q) = some (μ (m + 21) q) := by
  have h : S (m + 21) = (100, 4, fun _ => none) := hS.2 20 _ rfl
  exact aI_mk (by rw [h]; rfl) (by rw [h]; exact hq) (by rw [h]; show 4 < 2 ^ 31; omega) (by rw [h])
theorem mS36 (hS : ShM S m) {q : Nat} {v : Int32} (hq : q < 4) : sI (mkH n st S μ) (some (m + 21)) (nI q) v = some (mkH n st S (up2 μ (m + 21) q v)) := by
  have h : S (m + 21) = (100, 4, fun _ => none) := hS.2 20 _ rfl
  exact sI_mk (by rw [h]) (by rw [h]; exact hq) (by rw [h]; show 4 < 2 ^ 31; omega) (by rw [h])
theorem mL36 (hS : ShM S m) : aL (mkH n st S μ) (some (m + 21)) = some (nI 4) := by
  have h : S (m + 21) = (100, 4, fun _ => none) := hS.2 20 _ rfl
  rw [aL_mk (by rw [h]; exact ⟨(by show 100 ≤ 100; omega), (by show 100 < 310; omega)⟩), h]
theorem mR37 (hS : ShM S m) : gR 12 37 (mkH n st S μ) (some m) = some (some (m + 22)) := rR hS 37 rfl
theorem mA37 (hS : ShM S m) {q : Nat} (hq : q < 30) : aI (mkH n st S μ) (some (m + 22)) (nI q) = some (μ (m + 22) q) := by
  have h : S (m + 22) = (100, 30, fun _ => none) := hS.2 21 _ rfl
  exact aI_mk (by rw [h]; rfl) (by rw [h]; exact hq) (by rw [h]; show 30 < 2 ^ 31; omega) (by rw [h])
theorem mS37 (hS : ShM S m) {q : Nat} {v : Int32} (hq : q < 30) : sI (mkH n st S μ) (some (m + 22)) (nI q) v = some (mkH n st S (up2 μ (m + 22) q v)) := by
  have h : S (m + 22) = (100, 30, fun _ => none) := hS.2 21 _ rfl
  exact sI_mk (by rw [h]) (by rw [h]; exact hq) (by rw [h]; show 30 < 2 ^ 31; omega) (by rw [h])
theorem mL37 (hS : ShM S m) : aL (mkH n st S μ) (some (m + 22)) = some (nI 30) := by
  have h : S (m + 22) = (100, 30, fun _ => none) := hS.2 21 _ rfl
  rw [aL_mk (by rw [h]; exact ⟨(by show 100 ≤ 100; omega), (by show 100 < 310; omega)⟩), h]
theorem mI38 (hS : ShM S m) : gI 12 38 (mkH n st S μ) (some m) = some (μ m 38) := rI hS 38 rfl
theorem mP38 (hS : ShM S m) {v : Int32} : pI 12 38 (mkH n st S μ) (some m) v = some (mkH n st S (up2 μ m 38 v)) := wI hS 38 rfl
theorem mI39 (hS : ShM S m) : gI 12 39 (mkH n st S μ) (some m) = some (μ m 39) := rI hS 39 rfl
theorem mP39 (hS : ShM S m) {v : Int32} : pI 12 39 (mkH n st S μ) (some m) v = some (mkH n st S (up2 μ m 39 v)) := wI hS 39 rfl
theorem mI40 (hS : ShM S m) : gI 12 40 (mkH n st S μ) (some m) = some (μ m 40) := rI hS 40 rfl
theorem mP40 (hS : ShM S m) {v : Int32} : pI 12 40 (mkH n st S μ) (some m) v = some (mkH n st S (up2 μ m 40 v)) := wI hS 40 rfl
theorem mI41 (hS : ShM S m) : gI 12 41 (mkH n st S μ) (some m) = some (μ m 41) := rI hS 41 rfl
theorem mP41 (hS : ShM S m) {v : Int32} : pI 12 41 (mkH n st S μ) (some m) v = some (mkH n st S (up2 μ m 41 v)) := wI hS 41 rfl
theorem mI42 (hS : ShM S m) : gI 12 42 (mkH n st S μ) (some m) = some (μ m 42) := rI hS 42 rfl
theorem mP42 (hS : ShM S m) {v : Int32} : pI 12 42 (mkH n st S μ) (some m) v = some (mkH n st S (up2 μ m 42 v)) := wI hS 42 rfl
theorem mZ42 (hS : ShM S m) {v : Int32} (hv : v = 0 ∨ v = 1) : pZ 12 42 (mkH n st S μ) (some m) v = some (mkH n st S (up2 μ m 42 v)) := pZ_mk hv (by rw [hS.1]) (by rw [hS.1]; rfl)
theorem mZ42_0 (hS : ShM S m) : pZ 12 42 (mkH n st S μ) (some m) 0 = some (mkH n st S (up2 μ m 42 0)) := mZ42 hS (Or.inl rfl)
theorem mZ42_1 (hS : ShM S m) : pZ 12 42 (mkH n st S μ) (some m) 1 = some (mkH n st S (up2 μ m 42 1)) := mZ42 hS (Or.inr rfl)
end SHM
