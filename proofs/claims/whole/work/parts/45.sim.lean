-- ===== the reference's row: what holds of it; the class's city as its mirror =====
abbrev DR : Type := Nat → Int32
def nD (D : DR) (j : Nat) : Nat := (D j).toNatClampNeg
/-- a number from 0 on, below b -/
def isN (v : Int32) (b : Nat) : Prop := ∃ k, k < b ∧ v = nI k
/-- -1, or a number below b -/
def isO (v : Int32) (b : Nat) : Prop := v = -1 ∨ ∃ k, k < b ∧ v = nI k
/-- a count -/
def isC (D : DR) (j b : Nat) : Prop := D j = nI (nD D j) ∧ nD D j ≤ b
theorem isC_of {D : DR} {j b k : Nat} (h : D j = nI k) (hk : k ≤ b) (hb : b < 2 ^ 31) : isC D j b := by
  have : nD D j = k := by rw [nD, h, nI_clamp (by omega)]
  exact ⟨by rw [this, h], by omega⟩
theorem nD_of {D : DR} {j k : Nat} (h : D j = nI k) (hk : k < 2 ^ 31) : nD D j = k := by rw [nD, h, nI_clamp hk]
-- names and letters
def nzS : Nat → Nat → Bool
  | 0, _ => true
  | f + 1, k => if k = 0 then true else if k % 27 = 0 then false else nzS f (k / 27)
def nmB (v : Int32) : Bool := if v < 1 then false else if v < 387420489 then nzS 6 v.toNatClampNeg else false
def nlS : Nat → Nat → Nat
  | 0, _ => 0
  | f + 1, k => if k = 0 then 0 else nlS f (k / 27) + 1
def ltS (k i : Nat) : Nat := k / 27 ^ i % 27
/-- how far apart the first i letters of one are from the first j of the other -/
def tabS (a b : Nat → Nat) : Nat → Nat → Nat
  | 0, j => j
  | i + 1, 0 => i + 1
  | i + 1, j + 1 => min (min (tabS a b i (j + 1)) (tabS a b (i + 1) j) + 1) (tabS a b i j + if a i = b j then 0 else 1)
def apS (v w : Int32) : Nat := tabS (ltS v.toNatClampNeg) (ltS w.toNatClampNeg) (nlS 6 v.toNatClampNeg) (nlS 6 w.toNatClampNeg)
def hisS (D : DR) (s i : Nat) : Bool := decide ((D (691 + s) = 0 ∨ D (691 + s) = D (123 + i)) ∧ (D (731 + s) < 0 ∨ D (731 + s) = D (75 + i)))
def exB (D : DR) (s i : Nat) : Bool := decide (D (651 + s) = D (107 + i)) && hisS D s i
def apB (D : DR) (s i : Nat) : Bool := decide (apS (D (651 + s)) (D (107 + i)) ≤ 1) && hisS D s i
def neB (D : DR) (s i : Nat) : Bool := decide (¬ D (651 + s) = D (107 + i)) && apB D s i
/-- those below n of whom p holds, as bits -/
def biN (p : Nat → Bool) : Nat → Nat
  | 0 => 0
  | i + 1 => biN p i + if p i then 2 ^ i else 0
def exN (D : DR) (s : Nat) : Nat := biN (exB D s) (nD D 2)
def neN (D : DR) (s : Nat) : Nat := biN (neB D s) (nD D 2)
def apN (D : DR) (s : Nat) : Nat := biN (apB D s) (nD D 2)

def Inv (D : DR) : Prop := (isC D 0 9999) ∧ (isC D 1 8) ∧ (isC D 2 16) ∧ (isC D 3 8) ∧ (isC D 4 8) ∧ (isC D 5 40) ∧ (isC D 6 20) ∧ (isC D 8 9) ∧ (isO (D 7) 4) ∧ (∀ l, l < 4 → D 7 = nI l → ¬ D (1020 + l) < 0) ∧ (isN (D 9) 1201) ∧ (isN (D 10) 21) ∧ (isN (D 11) 21) ∧ (isN (D 12) 37) ∧ (∀ g, g < 10 → isN (D (13 + g)) 100) ∧ (∀ i, i < nD D 1 → isN (D (23 + i)) 5) ∧ (∀ i, i < nD D 1 → isN (D (31 + i)) 601) ∧ (∀ i, i < nD D 2 → isN (D (75 + i)) (nD D 1)) ∧ (∀ i, i < nD D 2 → isO (D (91 + i)) 6) ∧ (∀ i, i < nD D 2 → nmB (D (107 + i)) = true) ∧ (∀ i, i < nD D 2 → isN (D (139 + i)) 10000) ∧ (∀ i, i < nD D 2 → isN (D (155 + i)) 4) ∧ (∀ i, i < nD D 2 → isN (D (203 + i)) 2) ∧ (∀ i, i < nD D 2 → nmB (D (123 + i)) = true) ∧ (∀ i v, i < nD D 2 → v < nD D 3 → isO (D (491 + 8 * i + v)) (nD D 0 + 1)) ∧ (∀ b, b < nD D 4 → isN (D (619 + b)) 6) ∧ (∀ b, b < nD D 4 → isN (D (627 + b)) (nD D 2)) ∧ (∀ s, s < nD D 5 → nmB (D (651 + s)) = true) ∧ (∀ s, s < nD D 5 → D (691 + s) = 0 ∨ nmB (D (691 + s)) = true) ∧ (∀ s, s < nD D 5 → isO (D (771 + s)) 5) ∧ (∀ s, s < nD D 5 → D (811 + s) = 0 ∨ nmB (D (811 + s)) = true) ∧ (∀ s, s < nD D 5 → isN (D (851 + s)) 2) ∧ (∀ s, s < nD D 5 → isN (D (891 + s)) 10000) ∧ (∀ k, k < nD D 8 → isN (D (1011 + k)) (nD D 5)) ∧ (∀ l, l < 4 → isO (D (1020 + l)) 301) ∧ (∀ l k, l < 4 → k < nD D (1020 + l) → isN (D (1024 + 300 * l + k)) 256) ∧ (∀ i, i < nD D 2 → isO (D (171 + i)) 10000)
theorem Inv.today {D : DR} (h : Inv D) : isC D 0 9999 := h.1
theorem Inv.wards {D : DR} (h : Inv D) : isC D 1 8 := h.2.1
theorem Inv.men {D : DR} (h : Inv D) : isC D 2 16 := h.2.2.1
theorem Inv.words {D : DR} (h : Inv D) : isC D 3 8 := h.2.2.2.1
theorem Inv.bars {D : DR} (h : Inv D) : isC D 4 8 := h.2.2.2.2.1
theorem Inv.shes {D : DR} (h : Inv D) : isC D 5 40 := h.2.2.2.2.2.1
theorem Inv.wets {D : DR} (h : Inv D) : isC D 6 20 := h.2.2.2.2.2.2.1
theorem Inv.heaped {D : DR} (h : Inv D) : isC D 8 9 := h.2.2.2.2.2.2.2.1
theorem Inv.law {D : DR} (h : Inv D) : isO (D 7) 4 := h.2.2.2.2.2.2.2.2.1
theorem Inv.lawR {D : DR} (h : Inv D) : ∀ l, l < 4 → D 7 = nI l → ¬ D (1020 + l) < 0 := h.2.2.2.2.2.2.2.2.2.1
theorem Inv.lim {D : DR} (h : Inv D) : isN (D 9) 1201 := h.2.2.2.2.2.2.2.2.2.2.1
theorem Inv.brk {D : DR} (h : Inv D) : isN (D 10) 21 := h.2.2.2.2.2.2.2.2.2.2.2.1
theorem Inv.lst {D : DR} (h : Inv D) : isN (D 11) 21 := h.2.2.2.2.2.2.2.2.2.2.2.2.1
theorem Inv.slk {D : DR} (h : Inv D) : isN (D 12) 37 := h.2.2.2.2.2.2.2.2.2.2.2.2.2.1
theorem Inv.tal {D : DR} (h : Inv D) : ∀ g, g < 10 → isN (D (13 + g)) 100 := h.2.2.2.2.2.2.2.2.2.2.2.2.2.2.1
theorem Inv.tribe {D : DR} (h : Inv D) : ∀ i, i < nD D 1 → isN (D (23 + i)) 5 := h.2.2.2.2.2.2.2.2.2.2.2.2.2.2.2.1
theorem Inv.mins {D : DR} (h : Inv D) : ∀ i, i < nD D 1 → isN (D (31 + i)) 601 := h.2.2.2.2.2.2.2.2.2.2.2.2.2.2.2.2.1
theorem Inv.mWard {D : DR} (h : Inv D) : ∀ i, i < nD D 2 → isN (D (75 + i)) (nD D 1) := h.2.2.2.2.2.2.2.2.2.2.2.2.2.2.2.2.2.1
theorem Inv.mClub {D : DR} (h : Inv D) : ∀ i, i < nD D 2 → isO (D (91 + i)) 6 := h.2.2.2.2.2.2.2.2.2.2.2.2.2.2.2.2.2.2.1
theorem Inv.mName {D : DR} (h : Inv D) : ∀ i, i < nD D 2 → nmB (D (107 + i)) = true := h.2.2.2.2.2.2.2.2.2.2.2.2.2.2.2.2.2.2.2.1
theorem Inv.mHand {D : DR} (h : Inv D) : ∀ i, i < nD D 2 → isN (D (139 + i)) 10000 := h.2.2.2.2.2.2.2.2.2.2.2.2.2.2.2.2.2.2.2.2.1
theorem Inv.mHow {D : DR} (h : Inv D) : ∀ i, i < nD D 2 → isN (D (155 + i)) 4 := h.2.2.2.2.2.2.2.2.2.2.2.2.2.2.2.2.2.2.2.2.2.1
theorem Inv.mRec {D : DR} (h : Inv D) : ∀ i, i < nD D 2 → isN (D (203 + i)) 2 := h.2.2.2.2.2.2.2.2.2.2.2.2.2.2.2.2.2.2.2.2.2.2.1
theorem Inv.mFat {D : DR} (h : Inv D) : ∀ i, i < nD D 2 → nmB (D (123 + i)) = true := h.2.2.2.2.2.2.2.2.2.2.2.2.2.2.2.2.2.2.2.2.2.2.2.1
theorem Inv.heard {D : DR} (h : Inv D) : ∀ i v, i < nD D 2 → v < nD D 3 → isO (D (491 + 8 * i + v)) (nD D 0 + 1) := h.2.2.2.2.2.2.2.2.2.2.2.2.2.2.2.2.2.2.2.2.2.2.2.2.1
theorem Inv.bClub {D : DR} (h : Inv D) : ∀ b, b < nD D 4 → isN (D (619 + b)) 6 := h.2.2.2.2.2.2.2.2.2.2.2.2.2.2.2.2.2.2.2.2.2.2.2.2.2.1
theorem Inv.bMan {D : DR} (h : Inv D) : ∀ b, b < nD D 4 → isN (D (627 + b)) (nD D 2) := h.2.2.2.2.2.2.2.2.2.2.2.2.2.2.2.2.2.2.2.2.2.2.2.2.2.2.1
theorem Inv.sName {D : DR} (h : Inv D) : ∀ s, s < nD D 5 → nmB (D (651 + s)) = true := h.2.2.2.2.2.2.2.2.2.2.2.2.2.2.2.2.2.2.2.2.2.2.2.2.2.2.2.1
theorem Inv.sFat {D : DR} (h : Inv D) : ∀ s, s < nD D 5 → D (691 + s) = 0 ∨ nmB (D (691 + s)) = true := h.2.2.2.2.2.2.2.2.2.2.2.2.2.2.2.2.2.2.2.2.2.2.2.2.2.2.2.2.1
theorem Inv.sGate {D : DR} (h : Inv D) : ∀ s, s < nD D 5 → isO (D (771 + s)) 5 := h.2.2.2.2.2.2.2.2.2.2.2.2.2.2.2.2.2.2.2.2.2.2.2.2.2.2.2.2.2.1
theorem Inv.sSec {D : DR} (h : Inv D) : ∀ s, s < nD D 5 → D (811 + s) = 0 ∨ nmB (D (811 + s)) = true := h.2.2.2.2.2.2.2.2.2.2.2.2.2.2.2.2.2.2.2.2.2.2.2.2.2.2.2.2.2.2.1
theorem Inv.sRdy {D : DR} (h : Inv D) : ∀ s, s < nD D 5 → isN (D (851 + s)) 2 := h.2.2.2.2.2.2.2.2.2.2.2.2.2.2.2.2.2.2.2.2.2.2.2.2.2.2.2.2.2.2.2.1
theorem Inv.sHand {D : DR} (h : Inv D) : ∀ s, s < nD D 5 → isN (D (891 + s)) 10000 := h.2.2.2.2.2.2.2.2.2.2.2.2.2.2.2.2.2.2.2.2.2.2.2.2.2.2.2.2.2.2.2.2.1
theorem Inv.hp {D : DR} (h : Inv D) : ∀ k, k < nD D 8 → isN (D (1011 + k)) (nD D 5) := h.2.2.2.2.2.2.2.2.2.2.2.2.2.2.2.2.2.2.2.2.2.2.2.2.2.2.2.2.2.2.2.2.2.1
theorem Inv.size {D : DR} (h : Inv D) : ∀ l, l < 4 → isO (D (1020 + l)) 301 := h.2.2.2.2.2.2.2.2.2.2.2.2.2.2.2.2.2.2.2.2.2.2.2.2.2.2.2.2.2.2.2.2.2.2.1
theorem Inv.byte {D : DR} (h : Inv D) : ∀ l k, l < 4 → k < nD D (1020 + l) → isN (D (1024 + 300 * l + k)) 256 := h.2.2.2.2.2.2.2.2.2.2.2.2.2.2.2.2.2.2.2.2.2.2.2.2.2.2.2.2.2.2.2.2.2.2.2.1
theorem Inv.mSent {D : DR} (h : Inv D) : ∀ i, i < nD D 2 → isO (D (171 + i)) 10000 := h.2.2.2.2.2.2.2.2.2.2.2.2.2.2.2.2.2.2.2.2.2.2.2.2.2.2.2.2.2.2.2.2.2.2.2.2
/-- what the class keeps of a harvest -/
def harS (f t a b : Int32) : Prop := (f < 0 ∧ a = 0 ∧ b = -1) ∨ (¬ f < 0 ∧ a = f ∧ b = t)
def LawG (μ : MU) (l : Nat) (sz : Int32) (T : Nat → Int32) : Prop := (sz < 0 ∧ μ l 0 = 0) ∨ (¬ sz < 0 ∧ μ l 0 = 1 ∧ LawOK μ l T sz.toNatClampNeg)
def Sim (μ : MU) (c : Nat) (D : DR) : Prop := (μ c 0 = D 0) ∧ (μ c 2 = D 6) ∧ (∀ i, i < nD D 6 → μ (c + 1) i = D (55 + i)) ∧ (μ c 4 = D 1) ∧ (∀ i, i < nD D 1 → μ (c + 14 + i) 0 = D (23 + i)) ∧ (∀ i, i < nD D 1 → μ (c + 14 + i) 1 = D (31 + i)) ∧ (∀ i, i < nD D 1 → harS (D (39 + i)) (D (47 + i)) (μ (c + 14 + i) 2) (μ (c + 14 + i) 3)) ∧ (μ c 6 = D 2) ∧ (∀ i j, i < nD D 2 → j < 9 → μ (c + 22 + 2 * i) j = D (75 + 16 * j + i)) ∧ (∀ i k, i < nD D 2 → k < 16 → μ (c + 22 + 2 * i + 1) k = D (219 + 16 * i + k)) ∧ (μ c 8 = D 3) ∧ (∀ v j, v < nD D 3 → j < 2 → μ (c + 54 + 2 * v) j = D (475 + 8 * j + v)) ∧ (∀ v i, v < nD D 3 → i < nD D 2 → μ (c + 54 + 2 * v + 1) i = D (491 + 8 * i + v)) ∧ (∀ v i, v < nD D 3 → nD D 2 ≤ i → i < 16 → μ (c + 54 + 2 * v + 1) i = -1) ∧ (μ c 10 = D 4) ∧ (∀ b j, b < nD D 4 → j < 4 → μ (c + 70 + b) j = D (619 + 8 * j + b)) ∧ (μ c 12 = D 5) ∧ (∀ s j, s < nD D 5 → j < 9 → μ (c + 78 + s) j = D (651 + 40 * j + s)) ∧ (∀ s, s < nD D 5 → μ (c + 78 + s) 9 = nI (exN D s)) ∧ (∀ s, s < nD D 5 → μ (c + 78 + s) 10 = nI (neN D s)) ∧ (μ c 14 = D 7) ∧ (∀ j, j < 4 → μ (c + 8) j = D (9 + j)) ∧ (∀ t g, t < 2 → g < 5 → μ (c + 10 + t) g = D (13 + 5 * t + g)) ∧ (μ c 18 = D 8) ∧ (∀ k, k < nD D 8 → μ (c + 12) k = D (1011 + k)) ∧ (∀ l, l < 4 → LawG μ (c + 118 + 6 * l) (D (1020 + l)) (fun k => D (1024 + 300 * l + k)))
theorem Sim.today {μ : MU} {c : Nat} {D : DR} (h : Sim μ c D) : μ c 0 = D 0 := h.1
theorem Sim.wetN {μ : MU} {c : Nat} {D : DR} (h : Sim μ c D) : μ c 2 = D 6 := h.2.1
theorem Sim.wet {μ : MU} {c : Nat} {D : DR} (h : Sim μ c D) : ∀ i, i < nD D 6 → μ (c + 1) i = D (55 + i) := h.2.2.1
theorem Sim.wardN {μ : MU} {c : Nat} {D : DR} (h : Sim μ c D) : μ c 4 = D 1 := h.2.2.2.1
theorem Sim.tribe {μ : MU} {c : Nat} {D : DR} (h : Sim μ c D) : ∀ i, i < nD D 1 → μ (c + 14 + i) 0 = D (23 + i) := h.2.2.2.2.1
theorem Sim.mins {μ : MU} {c : Nat} {D : DR} (h : Sim μ c D) : ∀ i, i < nD D 1 → μ (c + 14 + i) 1 = D (31 + i) := h.2.2.2.2.2.1
theorem Sim.harv {μ : MU} {c : Nat} {D : DR} (h : Sim μ c D) : ∀ i, i < nD D 1 → harS (D (39 + i)) (D (47 + i)) (μ (c + 14 + i) 2) (μ (c + 14 + i) 3) := h.2.2.2.2.2.2.1
theorem Sim.manN {μ : MU} {c : Nat} {D : DR} (h : Sim μ c D) : μ c 6 = D 2 := h.2.2.2.2.2.2.2.1
theorem Sim.man {μ : MU} {c : Nat} {D : DR} (h : Sim μ c D) : ∀ i j, i < nD D 2 → j < 9 → μ (c + 22 + 2 * i) j = D (75 + 16 * j + i) := h.2.2.2.2.2.2.2.2.1
theorem Sim.fear {μ : MU} {c : Nat} {D : DR} (h : Sim μ c D) : ∀ i k, i < nD D 2 → k < 16 → μ (c + 22 + 2 * i + 1) k = D (219 + 16 * i + k) := h.2.2.2.2.2.2.2.2.2.1
theorem Sim.wordN {μ : MU} {c : Nat} {D : DR} (h : Sim μ c D) : μ c 8 = D 3 := h.2.2.2.2.2.2.2.2.2.2.1
theorem Sim.word {μ : MU} {c : Nat} {D : DR} (h : Sim μ c D) : ∀ v j, v < nD D 3 → j < 2 → μ (c + 54 + 2 * v) j = D (475 + 8 * j + v) := h.2.2.2.2.2.2.2.2.2.2.2.1
theorem Sim.heard {μ : MU} {c : Nat} {D : DR} (h : Sim μ c D) : ∀ v i, v < nD D 3 → i < nD D 2 → μ (c + 54 + 2 * v + 1) i = D (491 + 8 * i + v) := h.2.2.2.2.2.2.2.2.2.2.2.2.1
theorem Sim.unheard {μ : MU} {c : Nat} {D : DR} (h : Sim μ c D) : ∀ v i, v < nD D 3 → nD D 2 ≤ i → i < 16 → μ (c + 54 + 2 * v + 1) i = -1 := h.2.2.2.2.2.2.2.2.2.2.2.2.2.1
theorem Sim.barN {μ : MU} {c : Nat} {D : DR} (h : Sim μ c D) : μ c 10 = D 4 := h.2.2.2.2.2.2.2.2.2.2.2.2.2.2.1
theorem Sim.bar {μ : MU} {c : Nat} {D : DR} (h : Sim μ c D) : ∀ b j, b < nD D 4 → j < 4 → μ (c + 70 + b) j = D (619 + 8 * j + b) := h.2.2.2.2.2.2.2.2.2.2.2.2.2.2.2.1
theorem Sim.sheN {μ : MU} {c : Nat} {D : DR} (h : Sim μ c D) : μ c 12 = D 5 := h.2.2.2.2.2.2.2.2.2.2.2.2.2.2.2.2.1
theorem Sim.she {μ : MU} {c : Nat} {D : DR} (h : Sim μ c D) : ∀ s j, s < nD D 5 → j < 9 → μ (c + 78 + s) j = D (651 + 40 * j + s) := h.2.2.2.2.2.2.2.2.2.2.2.2.2.2.2.2.2.1
theorem Sim.exact {μ : MU} {c : Nat} {D : DR} (h : Sim μ c D) : ∀ s, s < nD D 5 → μ (c + 78 + s) 9 = nI (exN D s) := h.2.2.2.2.2.2.2.2.2.2.2.2.2.2.2.2.2.2.1
theorem Sim.near {μ : MU} {c : Nat} {D : DR} (h : Sim μ c D) : ∀ s, s < nD D 5 → μ (c + 78 + s) 10 = nI (neN D s) := h.2.2.2.2.2.2.2.2.2.2.2.2.2.2.2.2.2.2.2.1
theorem Sim.force {μ : MU} {c : Nat} {D : DR} (h : Sim μ c D) : μ c 14 = D 7 := h.2.2.2.2.2.2.2.2.2.2.2.2.2.2.2.2.2.2.2.2.1
theorem Sim.rule {μ : MU} {c : Nat} {D : DR} (h : Sim μ c D) : ∀ j, j < 4 → μ (c + 8) j = D (9 + j) := h.2.2.2.2.2.2.2.2.2.2.2.2.2.2.2.2.2.2.2.2.2.1
theorem Sim.tal {μ : MU} {c : Nat} {D : DR} (h : Sim μ c D) : ∀ t g, t < 2 → g < 5 → μ (c + 10 + t) g = D (13 + 5 * t + g) := h.2.2.2.2.2.2.2.2.2.2.2.2.2.2.2.2.2.2.2.2.2.2.1
theorem Sim.heapN {μ : MU} {c : Nat} {D : DR} (h : Sim μ c D) : μ c 18 = D 8 := h.2.2.2.2.2.2.2.2.2.2.2.2.2.2.2.2.2.2.2.2.2.2.2.1
theorem Sim.heap {μ : MU} {c : Nat} {D : DR} (h : Sim μ c D) : ∀ k, k < nD D 8 → μ (c + 12) k = D (1011 + k) := h.2.2.2.2.2.2.2.2.2.2.2.2.2.2.2.2.2.2.2.2.2.2.2.2.1
theorem Sim.law {μ : MU} {c : Nat} {D : DR} (h : Sim μ c D) : ∀ l, l < 4 → LawG μ (c + 118 + 6 * l) (D (1020 + l)) (fun k => D (1024 + 300 * l + k)) := h.2.2.2.2.2.2.2.2.2.2.2.2.2.2.2.2.2.2.2.2.2.2.2.2.2
/-- the law of an empty text -/
def Law0 (μ : MU) (l : Nat) : Prop := μ l 1 = 10 ∧ ∀ i, i < 4 → μ (l + 2) i = -1
