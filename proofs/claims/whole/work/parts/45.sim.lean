-- ===== the reference's row: what holds of it; the class's city as its mirror =====
abbrev DR : Type := Nat → Int32
def nD (D : DR) (j : Nat) : Nat := (D j).toNatClampNeg
/-- a number from 0 on, below b -/
def isN (v : Int32) (b : Nat) : Prop := ∃ k, k < b ∧ v = nI k
/-- -1, or a number below b -/
def isO (v : Int32) (b : Nat) : Prop := v = -1 ∨ ∃ k, k < b ∧ v = nI k
/-- a count -/
def isC (D : DR) (j b : Nat) : Prop := D j = nI (nD D j) ∧ nD D j ≤ b
theorem isC_of {D : DR} {j b k : Nat} (h : D j = nI k) (hk : k ≤ b) (hb : b < 2 ^ 31) : isC D j b := by
  have : nD D j = k := by rw [nD, h, nI_clamp (by omega)]
  exact ⟨by rw [this, h], by omega⟩
theorem nD_of {D : DR} {j k : Nat} (h : D j = nI k) (hk : k < 2 ^ 31) : nD D j = k := by rw [nD, h, nI_clamp hk]
-- names and letters
def nzS : Nat → Nat → Bool
  | 0, _ => true
  | f + 1, k => if k = 0 then true else if k % 27 = 0 then false else nzS f (k / 27)
def nmB (v : Int32) : Bool := if v < 1 then false else if v < 387420489 then nzS 6 v.toNatClampNeg else false
def nlS : Nat → Nat → Nat
  | 0, _ => 0
  | f + 1, k => if k = 0 then 0 else nlS f (k / 27) + 1
def ltS (k i : Nat) : Nat := k / 27 ^ i % 27
/-- how far apart the first i letters of one are from the first j of the other -/
def tabS (a b : Nat → Nat) : Nat → Nat → Nat
  | 0, j => j
  | i + 1, 0 => i + 1
  | i + 1, j + 1 => min (min (tabS a b i (j + 1)) (tabS a b (i + 1) j) + 1) (tabS a b i j + if a i = b j then 0 else 1)
def apS (v w : Int32) : Nat := tabS (ltS v.toNatClampNeg) (ltS w.toNatClampNeg) (nlS 6 v.toNatClampNeg) (nlS 6 w.toNatClampNeg)
def hisS (D : DR) (s i : Nat) : Bool := decide ((D (691 + s) = 0 ∨ D (691 + s) = D (123 + i)) ∧ (D (731 + s) < 0 ∨ D (731 + s) = D (75 + i)))
def exB (D : DR) (s i : Nat) : Bool := decide (D (651 + s) = D (107 + i)) && hisS D s i
def apB (D : DR) (s i : Nat) : Bool := decide (apS (D (651 + s)) (D (107 + i)) ≤ 1) && hisS D s i
def neB (D : DR) (s i : Nat) : Bool := decide (¬ D (651 + s) = D (107 + i)) && apB D s i
/-- those below n of whom p holds, as bits -/
def biN (p : Nat → Bool) : Nat → Nat
  | 0 => 0
  | i + 1 => biN p i + if p i then 2 ^ i else 0
def exN (D : DR) (s : Nat) : Nat := biN (exB D s) (nD D 2)
def neN (D : DR) (s : Nat) : Nat := biN (neB D s) (nD D 2)
def apN (D : DR) (s : Nat) : Nat := biN (apB D s) (nD D 2)

def IA (D : DR) : Prop := (isC D 0 9999)
def Iw (D : DR) : Prop := (isC D 1 8) ∧ (∀ i, i < nD D 1 → isN (D (23 + i)) 5) ∧ (∀ i, i < nD D 1 → isN (D (31 + i)) 601)
def Im (D : DR) : Prop := (isC D 2 16) ∧ (∀ i, i < nD D 2 → isN (D (75 + i)) (nD D 1)) ∧ (∀ i, i < nD D 2 → isO (D (91 + i)) 6) ∧ (∀ i, i < nD D 2 → nmB (D (107 + i)) = true) ∧ (∀ i, i < nD D 2 → nmB (D (123 + i)) = true) ∧ (∀ i, i < nD D 2 → isN (D (139 + i)) 10000) ∧ (∀ i, i < nD D 2 → isN (D (155 + i)) 4) ∧ (∀ i, i < nD D 2 → isO (D (171 + i)) 10000) ∧ (∀ i, i < nD D 2 → isN (D (203 + i)) 2)
def Iv (D : DR) : Prop := (isC D 3 8) ∧ (∀ i v, i < nD D 2 → v < nD D 3 → isO (D (491 + 8 * i + v)) (nD D 0 + 1))
def Ib (D : DR) : Prop := (isC D 4 8) ∧ (∀ b, b < nD D 4 → isN (D (619 + b)) 6) ∧ (∀ b, b < nD D 4 → isN (D (627 + b)) (nD D 2))
def Is (D : DR) : Prop := (isC D 5 40) ∧ (∀ s, s < nD D 5 → nmB (D (651 + s)) = true) ∧ (∀ s, s < nD D 5 → D (691 + s) = 0 ∨ nmB (D (691 + s)) = true) ∧ (∀ s, s < nD D 5 → isO (D (731 + s)) 8) ∧ (∀ s, s < nD D 5 → isO (D (771 + s)) 5) ∧ (∀ s, s < nD D 5 → D (811 + s) = 0 ∨ nmB (D (811 + s)) = true) ∧ (∀ s, s < nD D 5 → isN (D (851 + s)) 2) ∧ (∀ s, s < nD D 5 → isN (D (891 + s)) 10000)
def Ix (D : DR) : Prop := (isC D 6 20)
def Ih (D : DR) : Prop := (isC D 8 9) ∧ (∀ k, k < nD D 8 → isN (D (1011 + k)) (nD D 5))
def Il (D : DR) : Prop := (isO (D 7) 4) ∧ (∀ l, l < 4 → D 7 = nI l → ¬ D (1020 + l) < 0) ∧ (∀ l, l < 4 → isO (D (1020 + l)) 301) ∧ (∀ l k, l < 4 → k < nD D (1020 + l) → isN (D (1024 + 300 * l + k)) 256)
def Ir (D : DR) : Prop := (isN (D 9) 1201) ∧ (isN (D 10) 21) ∧ (isN (D 11) 21) ∧ (isN (D 12) 37) ∧ (∀ g, g < 10 → isN (D (13 + g)) 100)
def Inv (D : DR) : Prop := IA D ∧ Iw D ∧ Im D ∧ Iv D ∧ Ib D ∧ Is D ∧ Ix D ∧ Ih D ∧ Il D ∧ Ir D
theorem Inv.gA {D : DR} (h : Inv D) : IA D := h.1
theorem Inv.today {D : DR} (h : Inv D) : isC D 0 9999 := h.gA
theorem Inv.gw {D : DR} (h : Inv D) : Iw D := h.2.1
theorem Inv.wards {D : DR} (h : Inv D) : isC D 1 8 := h.gw.1
theorem Inv.tribe {D : DR} (h : Inv D) : ∀ i, i < nD D 1 → isN (D (23 + i)) 5 := h.gw.2.1
theorem Inv.mins {D : DR} (h : Inv D) : ∀ i, i < nD D 1 → isN (D (31 + i)) 601 := h.gw.2.2
theorem Inv.gm {D : DR} (h : Inv D) : Im D := h.2.2.1
theorem Inv.men {D : DR} (h : Inv D) : isC D 2 16 := h.gm.1
theorem Inv.mWard {D : DR} (h : Inv D) : ∀ i, i < nD D 2 → isN (D (75 + i)) (nD D 1) := h.gm.2.1
theorem Inv.mClub {D : DR} (h : Inv D) : ∀ i, i < nD D 2 → isO (D (91 + i)) 6 := h.gm.2.2.1
theorem Inv.mName {D : DR} (h : Inv D) : ∀ i, i < nD D 2 → nmB (D (107 + i)) = true := h.gm.2.2.2.1
theorem Inv.mFat {D : DR} (h : Inv D) : ∀ i, i < nD D 2 → nmB (D (123 + i)) = true := h.gm.2.2.2.2.1
theorem Inv.mHand {D : DR} (h : Inv D) : ∀ i, i < nD D 2 → isN (D (139 + i)) 10000 := h.gm.2.2.2.2.2.1
theorem Inv.mHow {D : DR} (h : Inv D) : ∀ i, i < nD D 2 → isN (D (155 + i)) 4 := h.gm.2.2.2.2.2.2.1
theorem Inv.mSent {D : DR} (h : Inv D) : ∀ i, i < nD D 2 → isO (D (171 + i)) 10000 := h.gm.2.2.2.2.2.2.2.1
theorem Inv.mRec {D : DR} (h : Inv D) : ∀ i, i < nD D 2 → isN (D (203 + i)) 2 := h.gm.2.2.2.2.2.2.2.2
theorem Inv.gv {D : DR} (h : Inv D) : Iv D := h.2.2.2.1
theorem Inv.words {D : DR} (h : Inv D) : isC D 3 8 := h.gv.1
theorem Inv.heard {D : DR} (h : Inv D) : ∀ i v, i < nD D 2 → v < nD D 3 → isO (D (491 + 8 * i + v)) (nD D 0 + 1) := h.gv.2
theorem Inv.gb {D : DR} (h : Inv D) : Ib D := h.2.2.2.2.1
theorem Inv.bars {D : DR} (h : Inv D) : isC D 4 8 := h.gb.1
theorem Inv.bClub {D : DR} (h : Inv D) : ∀ b, b < nD D 4 → isN (D (619 + b)) 6 := h.gb.2.1
theorem Inv.bMan {D : DR} (h : Inv D) : ∀ b, b < nD D 4 → isN (D (627 + b)) (nD D 2) := h.gb.2.2
theorem Inv.gs {D : DR} (h : Inv D) : Is D := h.2.2.2.2.2.1
theorem Inv.shes {D : DR} (h : Inv D) : isC D 5 40 := h.gs.1
theorem Inv.sName {D : DR} (h : Inv D) : ∀ s, s < nD D 5 → nmB (D (651 + s)) = true := h.gs.2.1
theorem Inv.sFat {D : DR} (h : Inv D) : ∀ s, s < nD D 5 → D (691 + s) = 0 ∨ nmB (D (691 + s)) = true := h.gs.2.2.1
theorem Inv.sWard {D : DR} (h : Inv D) : ∀ s, s < nD D 5 → isO (D (731 + s)) 8 := h.gs.2.2.2.1
theorem Inv.sGate {D : DR} (h : Inv D) : ∀ s, s < nD D 5 → isO (D (771 + s)) 5 := h.gs.2.2.2.2.1
theorem Inv.sSec {D : DR} (h : Inv D) : ∀ s, s < nD D 5 → D (811 + s) = 0 ∨ nmB (D (811 + s)) = true := h.gs.2.2.2.2.2.1
theorem Inv.sRdy {D : DR} (h : Inv D) : ∀ s, s < nD D 5 → isN (D (851 + s)) 2 := h.gs.2.2.2.2.2.2.1
theorem Inv.sHand {D : DR} (h : Inv D) : ∀ s, s < nD D 5 → isN (D (891 + s)) 10000 := h.gs.2.2.2.2.2.2.2
theorem Inv.gx {D : DR} (h : Inv D) : Ix D := h.2.2.2.2.2.2.1
theorem Inv.wets {D : DR} (h : Inv D) : isC D 6 20 := h.gx
theorem Inv.gh {D : DR} (h : Inv D) : Ih D := h.2.2.2.2.2.2.2.1
theorem Inv.heaped {D : DR} (h : Inv D) : isC D 8 9 := h.gh.1
theorem Inv.hp {D : DR} (h : Inv D) : ∀ k, k < nD D 8 → isN (D (1011 + k)) (nD D 5) := h.gh.2
theorem Inv.gl {D : DR} (h : Inv D) : Il D := h.2.2.2.2.2.2.2.2.1
theorem Inv.law {D : DR} (h : Inv D) : isO (D 7) 4 := h.gl.1
theorem Inv.lawR {D : DR} (h : Inv D) : ∀ l, l < 4 → D 7 = nI l → ¬ D (1020 + l) < 0 := h.gl.2.1
theorem Inv.size {D : DR} (h : Inv D) : ∀ l, l < 4 → isO (D (1020 + l)) 301 := h.gl.2.2.1
theorem Inv.byte {D : DR} (h : Inv D) : ∀ l k, l < 4 → k < nD D (1020 + l) → isN (D (1024 + 300 * l + k)) 256 := h.gl.2.2.2
theorem Inv.gr {D : DR} (h : Inv D) : Ir D := h.2.2.2.2.2.2.2.2.2
theorem Inv.lim {D : DR} (h : Inv D) : isN (D 9) 1201 := h.gr.1
theorem Inv.brk {D : DR} (h : Inv D) : isN (D 10) 21 := h.gr.2.1
theorem Inv.lst {D : DR} (h : Inv D) : isN (D 11) 21 := h.gr.2.2.1
theorem Inv.slk {D : DR} (h : Inv D) : isN (D 12) 37 := h.gr.2.2.2.1
theorem Inv.tal {D : DR} (h : Inv D) : ∀ g, g < 10 → isN (D (13 + g)) 100 := h.gr.2.2.2.2
theorem IA.congr {D D' : DR} (hI : Inv D) (hd : ∀ q, q = 0 → D' q = D q) : IA D' := by
  have b0 := hI.today.2
  have b1 := hI.wards.2
  have b2 := hI.men.2
  have b3 := hI.words.2
  have b4 := hI.bars.2
  have b5 := hI.shes.2
  have b6 := hI.wets.2
  have b8 := hI.heaped.2
  have n0 : nD D' 0 = nD D 0 := by simp (disch := omega) only [nD, hd]
  have := hI.today
  simp (disch := omega) only [IA, isC, hd, n0]; exact this
theorem Iw.congr {D D' : DR} (hI : Inv D) (hd : ∀ q, q = 1 ∨ (23 ≤ q ∧ q < 39) → D' q = D q) : Iw D' := by
  have b0 := hI.today.2
  have b1 := hI.wards.2
  have b2 := hI.men.2
  have b3 := hI.words.2
  have b4 := hI.bars.2
  have b5 := hI.shes.2
  have b6 := hI.wets.2
  have b8 := hI.heaped.2
  have n1 : nD D' 1 = nD D 1 := by simp (disch := omega) only [nD, hd]
  exact ⟨
    (by have := hI.wards; simp (disch := omega) only [isC, hd, n1]; exact this),
    (by intro i q0; have := hI.tribe i (by omega); simp (disch := omega) only [hd, n1]; exact this),
    (by intro i q0; have := hI.mins i (by omega); simp (disch := omega) only [hd, n1]; exact this)⟩
theorem Im.congr {D D' : DR} (hI : Inv D) (hd : ∀ q, q = 2 ∨ q = 1 ∨ (75 ≤ q ∧ q < 187) ∨ (203 ≤ q ∧ q < 219) → D' q = D q) : Im D' := by
  have b0 := hI.today.2
  have b1 := hI.wards.2
  have b2 := hI.men.2
  have b3 := hI.words.2
  have b4 := hI.bars.2
  have b5 := hI.shes.2
  have b6 := hI.wets.2
  have b8 := hI.heaped.2
  have n1 : nD D' 1 = nD D 1 := by simp (disch := omega) only [nD, hd]
  have n2 : nD D' 2 = nD D 2 := by simp (disch := omega) only [nD, hd]
  exact ⟨
    (by have := hI.men; simp (disch := omega) only [isC, hd, n1, n2]; exact this),
    (by intro i q0; have := hI.mWard i (by omega); simp (disch := omega) only [hd, n1, n2]; exact this),
    (by intro i q0; have := hI.mClub i (by omega); simp (disch := omega) only [hd, n1, n2]; exact this),
    (by intro i q0; have := hI.mName i (by omega); simp (disch := omega) only [hd, n1, n2]; exact this),
    (by intro i q0; have := hI.mFat i (by omega); simp (disch := omega) only [hd, n1, n2]; exact this),
    (by intro i q0; have := hI.mHand i (by omega); simp (disch := omega) only [hd, n1, n2]; exact this),
    (by intro i q0; have := hI.mHow i (by omega); simp (disch := omega) only [hd, n1, n2]; exact this),
    (by intro i q0; have := hI.mSent i (by omega); simp (disch := omega) only [hd, n1, n2]; exact this),
    (by intro i q0; have := hI.mRec i (by omega); simp (disch := omega) only [hd, n1, n2]; exact this)⟩
theorem Iv.congr {D D' : DR} (hI : Inv D) (hd : ∀ q, q = 0 ∨ q = 2 ∨ q = 3 ∨ (491 ≤ q ∧ q < 619) → D' q = D q) : Iv D' := by
  have b0 := hI.today.2
  have b1 := hI.wards.2
  have b2 := hI.men.2
  have b3 := hI.words.2
  have b4 := hI.bars.2
  have b5 := hI.shes.2
  have b6 := hI.wets.2
  have b8 := hI.heaped.2
  have n0 : nD D' 0 = nD D 0 := by simp (disch := omega) only [nD, hd]
  have n2 : nD D' 2 = nD D 2 := by simp (disch := omega) only [nD, hd]
  have n3 : nD D' 3 = nD D 3 := by simp (disch := omega) only [nD, hd]
  exact ⟨
    (by have := hI.words; simp (disch := omega) only [isC, hd, n0, n2, n3]; exact this),
    (by intro i v q0 q1; have := hI.heard i v (by omega) (by omega); simp (disch := omega) only [hd, n0, n2, n3]; exact this)⟩
theorem Ib.congr {D D' : DR} (hI : Inv D) (hd : ∀ q, q = 2 ∨ q = 4 ∨ (619 ≤ q ∧ q < 635) → D' q = D q) : Ib D' := by
  have b0 := hI.today.2
  have b1 := hI.wards.2
  have b2 := hI.men.2
  have b3 := hI.words.2
  have b4 := hI.bars.2
  have b5 := hI.shes.2
  have b6 := hI.wets.2
  have b8 := hI.heaped.2
  have n2 : nD D' 2 = nD D 2 := by simp (disch := omega) only [nD, hd]
  have n4 : nD D' 4 = nD D 4 := by simp (disch := omega) only [nD, hd]
  exact ⟨
    (by have := hI.bars; simp (disch := omega) only [isC, hd, n2, n4]; exact this),
    (by intro b q0; have := hI.bClub b (by omega); simp (disch := omega) only [hd, n2, n4]; exact this),
    (by intro b q0; have := hI.bMan b (by omega); simp (disch := omega) only [hd, n2, n4]; exact this)⟩
theorem Is.congr {D D' : DR} (hI : Inv D) (hd : ∀ q, q = 5 ∨ (651 ≤ q ∧ q < 931) → D' q = D q) : Is D' := by
  have b0 := hI.today.2
  have b1 := hI.wards.2
  have b2 := hI.men.2
  have b3 := hI.words.2
  have b4 := hI.bars.2
  have b5 := hI.shes.2
  have b6 := hI.wets.2
  have b8 := hI.heaped.2
  have n5 : nD D' 5 = nD D 5 := by simp (disch := omega) only [nD, hd]
  exact ⟨
    (by have := hI.shes; simp (disch := omega) only [isC, hd, n5]; exact this),
    (by intro s q0; have := hI.sName s (by omega); simp (disch := omega) only [hd, n5]; exact this),
    (by intro s q0; have := hI.sFat s (by omega); simp (disch := omega) only [hd, n5]; exact this),
    (by intro s q0; have := hI.sWard s (by omega); simp (disch := omega) only [hd, n5]; exact this),
    (by intro s q0; have := hI.sGate s (by omega); simp (disch := omega) only [hd, n5]; exact this),
    (by intro s q0; have := hI.sSec s (by omega); simp (disch := omega) only [hd, n5]; exact this),
    (by intro s q0; have := hI.sRdy s (by omega); simp (disch := omega) only [hd, n5]; exact this),
    (by intro s q0; have := hI.sHand s (by omega); simp (disch := omega) only [hd, n5]; exact this)⟩
theorem Ix.congr {D D' : DR} (hI : Inv D) (hd : ∀ q, q = 6 → D' q = D q) : Ix D' := by
  have b0 := hI.today.2
  have b1 := hI.wards.2
  have b2 := hI.men.2
  have b3 := hI.words.2
  have b4 := hI.bars.2
  have b5 := hI.shes.2
  have b6 := hI.wets.2
  have b8 := hI.heaped.2
  have n6 : nD D' 6 = nD D 6 := by simp (disch := omega) only [nD, hd]
  have := hI.wets
  simp (disch := omega) only [Ix, isC, hd, n6]; exact this
theorem Ih.congr {D D' : DR} (hI : Inv D) (hd : ∀ q, q = 5 ∨ q = 8 ∨ (1011 ≤ q ∧ q < 1020) → D' q = D q) : Ih D' := by
  have b0 := hI.today.2
  have b1 := hI.wards.2
  have b2 := hI.men.2
  have b3 := hI.words.2
  have b4 := hI.bars.2
  have b5 := hI.shes.2
  have b6 := hI.wets.2
  have b8 := hI.heaped.2
  have n5 : nD D' 5 = nD D 5 := by simp (disch := omega) only [nD, hd]
  have n8 : nD D' 8 = nD D 8 := by simp (disch := omega) only [nD, hd]
  exact ⟨
    (by have := hI.heaped; simp (disch := omega) only [isC, hd, n5, n8]; exact this),
    (by intro k q0; have := hI.hp k (by omega); simp (disch := omega) only [hd, n5, n8]; exact this)⟩
theorem Il.congr {D D' : DR} (hI : Inv D) (hd : ∀ q, q = 7 ∨ 1020 ≤ q → D' q = D q) : Il D' := by
  have b0 := hI.today.2
  have b1 := hI.wards.2
  have b2 := hI.men.2
  have b3 := hI.words.2
  have b4 := hI.bars.2
  have b5 := hI.shes.2
  have b6 := hI.wets.2
  have b8 := hI.heaped.2
  have nl : ∀ l, nD D' (1020 + l) = nD D (1020 + l) := fun l => by simp (disch := omega) only [nD, hd]
  refine ⟨?_, ?_, ?_, ?_⟩
  · have := hI.law; simp (disch := omega) only [hd]; exact this
  · intro l q0 q1; simp (disch := omega) only [hd] at q1 ⊢; exact hI.lawR l q0 q1
  · intro l q0; have := hI.size l q0; simp (disch := omega) only [hd]; exact this
  · intro l k q0 q1; rw [nl] at q1; have := hI.byte l k q0 q1; simp (disch := omega) only [hd]; exact this
theorem Ir.congr {D D' : DR} (hI : Inv D) (hd : ∀ q, 9 ≤ q ∧ q < 23 → D' q = D q) : Ir D' := by
  have b0 := hI.today.2
  have b1 := hI.wards.2
  have b2 := hI.men.2
  have b3 := hI.words.2
  have b4 := hI.bars.2
  have b5 := hI.shes.2
  have b6 := hI.wets.2
  have b8 := hI.heaped.2
  exact ⟨
    (by have := hI.lim; simp (disch := omega) only [isC, hd]; exact this),
    (by have := hI.brk; simp (disch := omega) only [isC, hd]; exact this),
    (by have := hI.lst; simp (disch := omega) only [isC, hd]; exact this),
    (by have := hI.slk; simp (disch := omega) only [isC, hd]; exact this),
    (by intro g q0; have := hI.tal g (by omega); simp (disch := omega) only [hd]; exact this)⟩
/-- what the class keeps of a harvest -/
def harS (f t a b : Int32) : Prop := (f < 0 ∧ a = 0 ∧ b = -1) ∨ (¬ f < 0 ∧ a = f ∧ b = t)
def LawG (μ : MU) (l : Nat) (sz : Int32) (T : Nat → Int32) : Prop := (sz < 0 ∧ μ l 0 = 0) ∨ (¬ sz < 0 ∧ μ l 0 = 1 ∧ LawOK μ l T sz.toNatClampNeg)
theorem biN_congr {p q : Nat → Bool} : ∀ k, (∀ i, i < k → p i = q i) → biN p k = biN q k := by
  intro k
  induction k with
  | zero => intro _; rfl
  | succ k ih =>
    intro h
    rw [biN, biN, ih (fun i hi => h i (by omega)), h k (by omega)]
theorem LawOK.congr {μ μ' : MU} {l N : Nat} {T : Nat → Int32} (hm : ∀ a j, l ≤ a ∧ a ≤ l + 3 → μ' a j = μ a j) (h : LawOK μ l T N) : LawOK μ' l T N := by
  unfold LawOK at *
  simp (disch := omega) only [hm]
  exact h
theorem LawG.congr {μ μ' : MU} {l : Nat} {sz : Int32} {T : Nat → Int32} (hm : ∀ a j, l ≤ a ∧ a ≤ l + 3 → μ' a j = μ a j) (h : LawG μ l sz T) : LawG μ' l sz T := by
  unfold LawG at *
  rw [hm l 0 (by omega)]
  rcases h with h | ⟨h1, h2, h3⟩
  · exact Or.inl h
  · exact Or.inr ⟨h1, h2, h3.congr hm⟩
def GA (μ : MU) (c : Nat) (D : DR) : Prop := (μ c 0 = D 0)
def Gx (μ : MU) (c : Nat) (D : DR) : Prop := (μ c 2 = D 6) ∧ (∀ i, i < nD D 6 → μ (c + 1) i = D (55 + i))
def Gw (μ : MU) (c : Nat) (D : DR) : Prop := (μ c 4 = D 1) ∧ (∀ i, i < nD D 1 → μ (c + 14 + i) 0 = D (23 + i)) ∧ (∀ i, i < nD D 1 → μ (c + 14 + i) 1 = D (31 + i)) ∧ (∀ i, i < nD D 1 → harS (D (39 + i)) (D (47 + i)) (μ (c + 14 + i) 2) (μ (c + 14 + i) 3))
def Gm (μ : MU) (c : Nat) (D : DR) : Prop := (μ c 6 = D 2) ∧ (∀ i j, i < nD D 2 → j < 9 → μ (c + 22 + 2 * i) j = D (75 + 16 * j + i)) ∧ (∀ i k, i < nD D 2 → k < 16 → μ (c + 22 + 2 * i + 1) k = D (219 + 16 * i + k))
def Gv (μ : MU) (c : Nat) (D : DR) : Prop := (μ c 8 = D 3) ∧ (∀ v j, v < nD D 3 → j < 2 → μ (c + 54 + 2 * v) j = D (475 + 8 * j + v)) ∧ (∀ v i, v < nD D 3 → i < nD D 2 → μ (c + 54 + 2 * v + 1) i = D (491 + 8 * i + v)) ∧ (∀ v i, v < nD D 3 → nD D 2 ≤ i → i < 16 → μ (c + 54 + 2 * v + 1) i = -1)
def Gb (μ : MU) (c : Nat) (D : DR) : Prop := (μ c 10 = D 4) ∧ (∀ b j, b < nD D 4 → j < 4 → μ (c + 70 + b) j = D (619 + 8 * j + b))
def Gs (μ : MU) (c : Nat) (D : DR) : Prop := (μ c 12 = D 5) ∧ (∀ s j, s < nD D 5 → j < 9 → μ (c + 78 + s) j = D (651 + 40 * j + s))
def Ge (μ : MU) (c : Nat) (D : DR) : Prop := (∀ s, s < nD D 5 → μ (c + 78 + s) 9 = nI (exN D s)) ∧ (∀ s, s < nD D 5 → μ (c + 78 + s) 10 = nI (neN D s))
def Gr (μ : MU) (c : Nat) (D : DR) : Prop := (μ c 14 = D 7) ∧ (∀ j, j < 4 → μ (c + 8) j = D (9 + j)) ∧ (∀ t g, t < 2 → g < 5 → μ (c + 10 + t) g = D (13 + 5 * t + g))
def Gh (μ : MU) (c : Nat) (D : DR) : Prop := (μ c 18 = D 8) ∧ (∀ k, k < nD D 8 → μ (c + 12) k = D (1011 + k))
def Gl (μ : MU) (c : Nat) (D : DR) : Prop := (∀ l, l < 4 → LawG μ (c + 118 + 6 * l) (D (1020 + l)) (fun k => D (1024 + 300 * l + k))) ∧ (∀ l, l < 4 → ∃ cs, cs ≤ 320 ∧ μ (c + 118 + 6 * l) 3 = nI cs)
def Sim (μ : MU) (c : Nat) (D : DR) : Prop := GA μ c D ∧ Gx μ c D ∧ Gw μ c D ∧ Gm μ c D ∧ Gv μ c D ∧ Gb μ c D ∧ Gs μ c D ∧ Ge μ c D ∧ Gr μ c D ∧ Gh μ c D ∧ Gl μ c D
theorem Sim.gA {μ : MU} {c : Nat} {D : DR} (h : Sim μ c D) : GA μ c D := h.1
theorem Sim.today {μ : MU} {c : Nat} {D : DR} (h : Sim μ c D) : μ c 0 = D 0 := h.gA
theorem Sim.gx {μ : MU} {c : Nat} {D : DR} (h : Sim μ c D) : Gx μ c D := h.2.1
theorem Sim.wetN {μ : MU} {c : Nat} {D : DR} (h : Sim μ c D) : μ c 2 = D 6 := h.gx.1
theorem Sim.wet {μ : MU} {c : Nat} {D : DR} (h : Sim μ c D) : ∀ i, i < nD D 6 → μ (c + 1) i = D (55 + i) := h.gx.2
theorem Sim.gw {μ : MU} {c : Nat} {D : DR} (h : Sim μ c D) : Gw μ c D := h.2.2.1
theorem Sim.wardN {μ : MU} {c : Nat} {D : DR} (h : Sim μ c D) : μ c 4 = D 1 := h.gw.1
theorem Sim.tribe {μ : MU} {c : Nat} {D : DR} (h : Sim μ c D) : ∀ i, i < nD D 1 → μ (c + 14 + i) 0 = D (23 + i) := h.gw.2.1
theorem Sim.mins {μ : MU} {c : Nat} {D : DR} (h : Sim μ c D) : ∀ i, i < nD D 1 → μ (c + 14 + i) 1 = D (31 + i) := h.gw.2.2.1
theorem Sim.harv {μ : MU} {c : Nat} {D : DR} (h : Sim μ c D) : ∀ i, i < nD D 1 → harS (D (39 + i)) (D (47 + i)) (μ (c + 14 + i) 2) (μ (c + 14 + i) 3) := h.gw.2.2.2
theorem Sim.gm {μ : MU} {c : Nat} {D : DR} (h : Sim μ c D) : Gm μ c D := h.2.2.2.1
theorem Sim.manN {μ : MU} {c : Nat} {D : DR} (h : Sim μ c D) : μ c 6 = D 2 := h.gm.1
theorem Sim.man {μ : MU} {c : Nat} {D : DR} (h : Sim μ c D) : ∀ i j, i < nD D 2 → j < 9 → μ (c + 22 + 2 * i) j = D (75 + 16 * j + i) := h.gm.2.1
theorem Sim.fear {μ : MU} {c : Nat} {D : DR} (h : Sim μ c D) : ∀ i k, i < nD D 2 → k < 16 → μ (c + 22 + 2 * i + 1) k = D (219 + 16 * i + k) := h.gm.2.2
theorem Sim.gv {μ : MU} {c : Nat} {D : DR} (h : Sim μ c D) : Gv μ c D := h.2.2.2.2.1
theorem Sim.wordN {μ : MU} {c : Nat} {D : DR} (h : Sim μ c D) : μ c 8 = D 3 := h.gv.1
theorem Sim.word {μ : MU} {c : Nat} {D : DR} (h : Sim μ c D) : ∀ v j, v < nD D 3 → j < 2 → μ (c + 54 + 2 * v) j = D (475 + 8 * j + v) := h.gv.2.1
theorem Sim.heard {μ : MU} {c : Nat} {D : DR} (h : Sim μ c D) : ∀ v i, v < nD D 3 → i < nD D 2 → μ (c + 54 + 2 * v + 1) i = D (491 + 8 * i + v) := h.gv.2.2.1
theorem Sim.unheard {μ : MU} {c : Nat} {D : DR} (h : Sim μ c D) : ∀ v i, v < nD D 3 → nD D 2 ≤ i → i < 16 → μ (c + 54 + 2 * v + 1) i = -1 := h.gv.2.2.2
theorem Sim.gb {μ : MU} {c : Nat} {D : DR} (h : Sim μ c D) : Gb μ c D := h.2.2.2.2.2.1
theorem Sim.barN {μ : MU} {c : Nat} {D : DR} (h : Sim μ c D) : μ c 10 = D 4 := h.gb.1
theorem Sim.bar {μ : MU} {c : Nat} {D : DR} (h : Sim μ c D) : ∀ b j, b < nD D 4 → j < 4 → μ (c + 70 + b) j = D (619 + 8 * j + b) := h.gb.2
theorem Sim.gs {μ : MU} {c : Nat} {D : DR} (h : Sim μ c D) : Gs μ c D := h.2.2.2.2.2.2.1
theorem Sim.sheN {μ : MU} {c : Nat} {D : DR} (h : Sim μ c D) : μ c 12 = D 5 := h.gs.1
theorem Sim.she {μ : MU} {c : Nat} {D : DR} (h : Sim μ c D) : ∀ s j, s < nD D 5 → j < 9 → μ (c + 78 + s) j = D (651 + 40 * j + s) := h.gs.2
theorem Sim.ge {μ : MU} {c : Nat} {D : DR} (h : Sim μ c D) : Ge μ c D := h.2.2.2.2.2.2.2.1
theorem Sim.exact {μ : MU} {c : Nat} {D : DR} (h : Sim μ c D) : ∀ s, s < nD D 5 → μ (c + 78 + s) 9 = nI (exN D s) := h.ge.1
theorem Sim.near {μ : MU} {c : Nat} {D : DR} (h : Sim μ c D) : ∀ s, s < nD D 5 → μ (c + 78 + s) 10 = nI (neN D s) := h.ge.2
theorem Sim.gr {μ : MU} {c : Nat} {D : DR} (h : Sim μ c D) : Gr μ c D := h.2.2.2.2.2.2.2.2.1
theorem Sim.force {μ : MU} {c : Nat} {D : DR} (h : Sim μ c D) : μ c 14 = D 7 := h.gr.1
theorem Sim.rule {μ : MU} {c : Nat} {D : DR} (h : Sim μ c D) : ∀ j, j < 4 → μ (c + 8) j = D (9 + j) := h.gr.2.1
theorem Sim.tal {μ : MU} {c : Nat} {D : DR} (h : Sim μ c D) : ∀ t g, t < 2 → g < 5 → μ (c + 10 + t) g = D (13 + 5 * t + g) := h.gr.2.2
theorem Sim.gh {μ : MU} {c : Nat} {D : DR} (h : Sim μ c D) : Gh μ c D := h.2.2.2.2.2.2.2.2.2.1
theorem Sim.heapN {μ : MU} {c : Nat} {D : DR} (h : Sim μ c D) : μ c 18 = D 8 := h.gh.1
theorem Sim.heap {μ : MU} {c : Nat} {D : DR} (h : Sim μ c D) : ∀ k, k < nD D 8 → μ (c + 12) k = D (1011 + k) := h.gh.2
theorem Sim.gl {μ : MU} {c : Nat} {D : DR} (h : Sim μ c D) : Gl μ c D := h.2.2.2.2.2.2.2.2.2.2
theorem Sim.law {μ : MU} {c : Nat} {D : DR} (h : Sim μ c D) : ∀ l, l < 4 → LawG μ (c + 118 + 6 * l) (D (1020 + l)) (fun k => D (1024 + 300 * l + k)) := h.gl.1
theorem Sim.lawB {μ : MU} {c : Nat} {D : DR} (h : Sim μ c D) : ∀ l, l < 4 → ∃ cs, cs ≤ 320 ∧ μ (c + 118 + 6 * l) 3 = nI cs := h.gl.2
theorem GA.congr {μ μ' : MU} {c : Nat} {D D' : DR} (hI : Inv D) (hs : Sim μ c D) (hm : ∀ a j, a = c ∧ j = 0 → μ' a j = μ a j) (hd : ∀ q, q = 0 → D' q = D q) : GA μ' c D' := by
  have b0 := hI.today.2
  have b1 := hI.wards.2
  have b2 := hI.men.2
  have b3 := hI.words.2
  have b4 := hI.bars.2
  have b5 := hI.shes.2
  have b6 := hI.wets.2
  have b8 := hI.heaped.2
  have := hs.today
  simp (disch := omega) only [GA, hm, hd]; exact this
theorem Gx.congr {μ μ' : MU} {c : Nat} {D D' : DR} (hI : Inv D) (hs : Sim μ c D) (hm : ∀ a j, (a = c ∧ j = 2) ∨ a = c + 1 → μ' a j = μ a j) (hd : ∀ q, q = 6 ∨ (55 ≤ q ∧ q < 75) → D' q = D q) : Gx μ' c D' := by
  have b0 := hI.today.2
  have b1 := hI.wards.2
  have b2 := hI.men.2
  have b3 := hI.words.2
  have b4 := hI.bars.2
  have b5 := hI.shes.2
  have b6 := hI.wets.2
  have b8 := hI.heaped.2
  have n6 : nD D' 6 = nD D 6 := by simp (disch := omega) only [nD, hd]
  exact ⟨
    (by have := hs.wetN; simp (disch := omega) only [isC, hm, hd]; exact this),
    (by intro i q0; have := hs.wet i (by omega); simp (disch := omega) only [hm, hd]; exact this)⟩
theorem Gw.congr {μ μ' : MU} {c : Nat} {D D' : DR} (hI : Inv D) (hs : Sim μ c D) (hm : ∀ a j, (a = c ∧ j = 4) ∨ (c + 14 ≤ a ∧ a < c + 22) → μ' a j = μ a j) (hd : ∀ q, q = 1 ∨ (23 ≤ q ∧ q < 55) → D' q = D q) : Gw μ' c D' := by
  have b0 := hI.today.2
  have b1 := hI.wards.2
  have b2 := hI.men.2
  have b3 := hI.words.2
  have b4 := hI.bars.2
  have b5 := hI.shes.2
  have b6 := hI.wets.2
  have b8 := hI.heaped.2
  have n1 : nD D' 1 = nD D 1 := by simp (disch := omega) only [nD, hd]
  exact ⟨
    (by have := hs.wardN; simp (disch := omega) only [isC, hm, hd]; exact this),
    (by intro i q0; have := hs.tribe i (by omega); simp (disch := omega) only [hm, hd]; exact this),
    (by intro i q0; have := hs.mins i (by omega); simp (disch := omega) only [hm, hd]; exact this),
    (by intro i q0; have := hs.harv i (by omega); simp (disch := omega) only [hm, hd]; exact this)⟩
theorem Gm.congr {μ μ' : MU} {c : Nat} {D D' : DR} (hI : Inv D) (hs : Sim μ c D) (hm : ∀ a j, (a = c ∧ j = 6) ∨ (c + 22 ≤ a ∧ a < c + 54) → μ' a j = μ a j) (hd : ∀ q, q = 2 ∨ (75 ≤ q ∧ q < 475) → D' q = D q) : Gm μ' c D' := by
  have b0 := hI.today.2
  have b1 := hI.wards.2
  have b2 := hI.men.2
  have b3 := hI.words.2
  have b4 := hI.bars.2
  have b5 := hI.shes.2
  have b6 := hI.wets.2
  have b8 := hI.heaped.2
  have n2 : nD D' 2 = nD D 2 := by simp (disch := omega) only [nD, hd]
  exact ⟨
    (by have := hs.manN; simp (disch := omega) only [isC, hm, hd]; exact this),
    (by intro i j q0 q1; have := hs.man i j (by omega) (by omega); simp (disch := omega) only [hm, hd]; exact this),
    (by intro i k q0 q1; have := hs.fear i k (by omega) (by omega); simp (disch := omega) only [hm, hd]; exact this)⟩
theorem Gv.congr {μ μ' : MU} {c : Nat} {D D' : DR} (hI : Inv D) (hs : Sim μ c D) (hm : ∀ a j, (a = c ∧ j = 8) ∨ (c + 54 ≤ a ∧ a < c + 70) → μ' a j = μ a j) (hd : ∀ q, q = 2 ∨ q = 3 ∨ (475 ≤ q ∧ q < 619) → D' q = D q) : Gv μ' c D' := by
  have b0 := hI.today.2
  have b1 := hI.wards.2
  have b2 := hI.men.2
  have b3 := hI.words.2
  have b4 := hI.bars.2
  have b5 := hI.shes.2
  have b6 := hI.wets.2
  have b8 := hI.heaped.2
  have n2 : nD D' 2 = nD D 2 := by simp (disch := omega) only [nD, hd]
  have n3 : nD D' 3 = nD D 3 := by simp (disch := omega) only [nD, hd]
  exact ⟨
    (by have := hs.wordN; simp (disch := omega) only [isC, hm, hd]; exact this),
    (by intro v j q0 q1; have := hs.word v j (by omega) (by omega); simp (disch := omega) only [hm, hd]; exact this),
    (by intro v i q0 q1; have := hs.heard v i (by omega) (by omega); simp (disch := omega) only [hm, hd]; exact this),
    (by intro v i q0 q1 q2; have := hs.unheard v i (by omega) (by omega) (by omega); simp (disch := omega) only [hm, hd]; exact this)⟩
theorem Gb.congr {μ μ' : MU} {c : Nat} {D D' : DR} (hI : Inv D) (hs : Sim μ c D) (hm : ∀ a j, (a = c ∧ j = 10) ∨ (c + 70 ≤ a ∧ a < c + 78) → μ' a j = μ a j) (hd : ∀ q, q = 4 ∨ (619 ≤ q ∧ q < 651) → D' q = D q) : Gb μ' c D' := by
  have b0 := hI.today.2
  have b1 := hI.wards.2
  have b2 := hI.men.2
  have b3 := hI.words.2
  have b4 := hI.bars.2
  have b5 := hI.shes.2
  have b6 := hI.wets.2
  have b8 := hI.heaped.2
  have n4 : nD D' 4 = nD D 4 := by simp (disch := omega) only [nD, hd]
  exact ⟨
    (by have := hs.barN; simp (disch := omega) only [isC, hm, hd]; exact this),
    (by intro b j q0 q1; have := hs.bar b j (by omega) (by omega); simp (disch := omega) only [hm, hd]; exact this)⟩
theorem Gs.congr {μ μ' : MU} {c : Nat} {D D' : DR} (hI : Inv D) (hs : Sim μ c D) (hm : ∀ a j, (a = c ∧ j = 12) ∨ (c + 78 ≤ a ∧ a < c + 118 ∧ j < 9) → μ' a j = μ a j) (hd : ∀ q, q = 5 ∨ (651 ≤ q ∧ q < 1011) → D' q = D q) : Gs μ' c D' := by
  have b0 := hI.today.2
  have b1 := hI.wards.2
  have b2 := hI.men.2
  have b3 := hI.words.2
  have b4 := hI.bars.2
  have b5 := hI.shes.2
  have b6 := hI.wets.2
  have b8 := hI.heaped.2
  have n5 : nD D' 5 = nD D 5 := by simp (disch := omega) only [nD, hd]
  exact ⟨
    (by have := hs.sheN; simp (disch := omega) only [isC, hm, hd]; exact this),
    (by intro s j q0 q1; have := hs.she s j (by omega) (by omega); simp (disch := omega) only [hm, hd]; exact this)⟩
theorem Ge.congr {μ μ' : MU} {c : Nat} {D D' : DR} (hI : Inv D) (hs : Sim μ c D) (hm : ∀ a j, c + 78 ≤ a ∧ a < c + 118 ∧ 9 ≤ j → μ' a j = μ a j) (hd : ∀ q, q = 2 ∨ q = 5 ∨ (75 ≤ q ∧ q < 91) ∨ (107 ≤ q ∧ q < 139) ∨ (651 ≤ q ∧ q < 771) → D' q = D q) : Ge μ' c D' := by
  have b0 := hI.today.2
  have b1 := hI.wards.2
  have b2 := hI.men.2
  have b3 := hI.words.2
  have b4 := hI.bars.2
  have b5 := hI.shes.2
  have b6 := hI.wets.2
  have b8 := hI.heaped.2
  have n5 : nD D' 5 = nD D 5 := by simp (disch := omega) only [nD, hd]
  have n2 : nD D' 2 = nD D 2 := by simp (disch := omega) only [nD, hd]
  have hH : ∀ s i, s < 40 → i < 16 → hisS D' s i = hisS D s i := by
    intro s i h1 h2
    simp (disch := omega) only [hisS, hd]
  have hE : ∀ s, s < 40 → exN D' s = exN D s := by
    intro s h1
    rw [exN, exN, n2]
    refine biN_congr _ (fun i hi => ?_)
    simp (disch := omega) only [exB, hd, hH]
  have hN : ∀ s, s < 40 → neN D' s = neN D s := by
    intro s h1
    rw [neN, neN, n2]
    refine biN_congr _ (fun i hi => ?_)
    simp (disch := omega) only [neB, apB, hd, hH]
  exact ⟨(by intro s q0; have := hs.exact s (by omega); simp (disch := omega) only [hm, hE]; exact this), (by intro s q0; have := hs.near s (by omega); simp (disch := omega) only [hm, hN]; exact this)⟩
theorem Gr.congr {μ μ' : MU} {c : Nat} {D D' : DR} (hI : Inv D) (hs : Sim μ c D) (hm : ∀ a j, (a = c ∧ j = 14) ∨ a = c + 8 ∨ a = c + 10 ∨ a = c + 11 → μ' a j = μ a j) (hd : ∀ q, q = 7 ∨ (9 ≤ q ∧ q < 23) → D' q = D q) : Gr μ' c D' := by
  have b0 := hI.today.2
  have b1 := hI.wards.2
  have b2 := hI.men.2
  have b3 := hI.words.2
  have b4 := hI.bars.2
  have b5 := hI.shes.2
  have b6 := hI.wets.2
  have b8 := hI.heaped.2
  exact ⟨
    (by have := hs.force; simp (disch := omega) only [isC, hm, hd]; exact this),
    (by intro j q0; have := hs.rule j (by omega); simp (disch := omega) only [hm, hd]; exact this),
    (by intro t g q0 q1; have := hs.tal t g (by omega) (by omega); simp (disch := omega) only [hm, hd]; exact this)⟩
theorem Gh.congr {μ μ' : MU} {c : Nat} {D D' : DR} (hI : Inv D) (hs : Sim μ c D) (hm : ∀ a j, (a = c ∧ j = 18) ∨ a = c + 12 → μ' a j = μ a j) (hd : ∀ q, q = 8 ∨ (1011 ≤ q ∧ q < 1020) → D' q = D q) : Gh μ' c D' := by
  have b0 := hI.today.2
  have b1 := hI.wards.2
  have b2 := hI.men.2
  have b3 := hI.words.2
  have b4 := hI.bars.2
  have b5 := hI.shes.2
  have b6 := hI.wets.2
  have b8 := hI.heaped.2
  have n8 : nD D' 8 = nD D 8 := by simp (disch := omega) only [nD, hd]
  exact ⟨
    (by have := hs.heapN; simp (disch := omega) only [isC, hm, hd]; exact this),
    (by intro k q0; have := hs.heap k (by omega); simp (disch := omega) only [hm, hd]; exact this)⟩
theorem Gl.congr {μ μ' : MU} {c : Nat} {D D' : DR} (hI : Inv D) (hs : Sim μ c D) (hm : ∀ a j, c + 118 ≤ a ∧ a < c + 142 ∧ (a - (c + 118)) % 6 < 4 → μ' a j = μ a j) (hd : ∀ q, 1020 ≤ q → D' q = D q) : Gl μ' c D' := by
  have b0 := hI.today.2
  have b1 := hI.wards.2
  have b2 := hI.men.2
  have b3 := hI.words.2
  have b4 := hI.bars.2
  have b5 := hI.shes.2
  have b6 := hI.wets.2
  have b8 := hI.heaped.2
  refine ⟨?_, fun l q0 => by rw [hm (c + 118 + 6 * l) 3 (by omega)]; exact hs.lawB l q0⟩
  intro l q0
  have hT : (fun k => D' (1024 + 300 * l + k)) = (fun k => D (1024 + 300 * l + k)) := funext fun k => hd _ (by omega)
  rw [hT, hd (1020 + l) (by omega)]
  exact (hs.law l q0).congr (fun a j h => hm a j (by omega))
/-- the law of an empty text -/
def Law0 (μ : MU) (l : Nat) : Prop := μ l 1 = 10 ∧ ∀ i, i < 4 → μ (l + 2) i = -1
