-- ===== how many there are =====
def cntB (p : Nat → Bool) : Nat → Nat → Nat
  | 0, _ => 0
  | k + 1, j => (if p j then 1 else 0) + cntB p k (j + 1)
section MANY
variable {n : Nat} {st : Nat → Nat} {S : SH} {μ : MU} {x b m c l : Nat} {D : DR}
theorem k_sentL (hC : ShC S c) (hs : Sim μ c D) (hI : Inv D) : ∀ k j fu z, j + k = nD D 2 → k < fu → z ≤ j → b_X2_howManySent_4 (mkH n st S μ) fu (some c) (nI z) (nI j) = some (nI (z + cntB (fun i => sntB D i (D 0)) k j)) := by
  obtain ⟨e0, b0⟩ := hI.today
  obtain ⟨e1, b1⟩ := hI.wards
  obtain ⟨e2, b2⟩ := hI.men
  obtain ⟨e3, b3⟩ := hI.words
  obtain ⟨e4, b4⟩ := hI.bars
  obtain ⟨e5, b5⟩ := hI.shes
  obtain ⟨e6, b6⟩ := hI.wets
  obtain ⟨e8, b8⟩ := hI.heaped
  have z0 := hs.today
  have z1 := hs.wardN
  have z2 := hs.manN
  have z3 := hs.wordN
  have z4 := hs.barN
  have z5 := hs.sheN
  have z6 := hs.wetN
  have z8 := hs.heapN
  intro k
  induction k with
  | zero =>
    intro j fu z hj hf hz
    obtain ⟨fu, rfl⟩ : ∃ q, fu = q + 1 := ⟨fu - 1, by omega⟩
    obtain rfl : j = nD D 2 := by omega
    simp (disch := omega) only [b_X2_howManySent_4, cI6 hC, some_bind, z2, e2, nn_lt, natF, if_false]
    rfl
  | succ k ih =>
    intro j fu z hj hf hz
    obtain ⟨fu, rfl⟩ : ∃ q, fu = q + 1 := ⟨fu - 1, by omega⟩
    have n1 := n1_ne (show j < 2 ^ 31 by omega)
    have kS := k_isSent (n := n) (st := st) hC hs hI (i := j) (by omega) (D 0) (-1)
    rw [show (decide (nI j = (-1 : Int32)) || sntB D j (D 0)) = sntB D j (D 0) by simp [n1]] at kS
    show _ = some (nI (z + ((if sntB D j (D 0) then 1 else 0) + cntB (fun i => sntB D i (D 0)) k (j + 1))))
    have h6 : μ c 6 = nI (nD D 2) := by rw [z2, e2]
    by_cases h : sntB D j (D 0) = true
    · have := ih (j + 1) fu (z + 1) (by omega) (by omega) (by omega)
      simp (disch := omega) only [b_X2_howManySent_4, cI6 hC, some_bind, h6, nn_lt, natT, if_true, cI0 hC, z0, cck hC, kS, ite_bI0, h, nI_1, this, Nat.add_assoc]
    · have := ih (j + 1) fu z (by omega) (by omega) (by omega)
      simp (disch := omega) only [b_X2_howManySent_4, cI6 hC, some_bind, h6, nn_lt, natT, if_true, cI0 hC, z0, cck hC, kS, ite_bI0, h, if_false, Bool.false_eq_true, nI_1, this, Nat.zero_add]
theorem k_comeL (hC : ShC S c) (hs : Sim μ c D) (hI : Inv D) : ∀ k j fu z, j + k = nD D 2 → k < fu → z ≤ j → b_X2_howManyCome_4 (mkH n st S μ) fu (some c) (nI z) (nI j) = some (nI (z + cntB (fun i => comB D i (D 0)) k j)) := by
  obtain ⟨e0, b0⟩ := hI.today
  obtain ⟨e1, b1⟩ := hI.wards
  obtain ⟨e2, b2⟩ := hI.men
  obtain ⟨e3, b3⟩ := hI.words
  obtain ⟨e4, b4⟩ := hI.bars
  obtain ⟨e5, b5⟩ := hI.shes
  obtain ⟨e6, b6⟩ := hI.wets
  obtain ⟨e8, b8⟩ := hI.heaped
  have z0 := hs.today
  have z1 := hs.wardN
  have z2 := hs.manN
  have z3 := hs.wordN
  have z4 := hs.barN
  have z5 := hs.sheN
  have z6 := hs.wetN
  have z8 := hs.heapN
  have hd0 : ¬ D 0 < 0 := by rw [e0]; exact nI_pos (by omega)
  intro k
  induction k with
  | zero =>
    intro j fu z hj hf hz
    obtain ⟨fu, rfl⟩ : ∃ q, fu = q + 1 := ⟨fu - 1, by omega⟩
    obtain rfl : j = nD D 2 := by omega
    simp (disch := omega) only [b_X2_howManyCome_4, cI6 hC, some_bind, z2, e2, nn_lt, natF, if_false]
    rfl
  | succ k ih =>
    intro j fu z hj hf hz
    obtain ⟨fu, rfl⟩ : ∃ q, fu = q + 1 := ⟨fu - 1, by omega⟩
    have n1 := n1_ne (show j < 2 ^ 31 by omega)
    have kS := k_isThere (n := n) (st := st) hC hs hI (i := j) (by omega) hd0 (-1)
    rw [show (!decide (nI j = (-1 : Int32)) && comB D j (D 0)) = comB D j (D 0) by simp [n1]] at kS
    show _ = some (nI (z + ((if comB D j (D 0) then 1 else 0) + cntB (fun i => comB D i (D 0)) k (j + 1))))
    have h6 : μ c 6 = nI (nD D 2) := by rw [z2, e2]
    by_cases h : comB D j (D 0) = true
    · have := ih (j + 1) fu (z + 1) (by omega) (by omega) (by omega)
      simp (disch := omega) only [b_X2_howManyCome_4, cI6 hC, some_bind, h6, nn_lt, natT, if_true, cI0 hC, z0, cck hC, kS, ite_bI0, h, nI_1, this, Nat.add_assoc]
    · have := ih (j + 1) fu z (by omega) (by omega) (by omega)
      simp (disch := omega) only [b_X2_howManyCome_4, cI6 hC, some_bind, h6, nn_lt, natT, if_true, cI0 hC, z0, cck hC, kS, ite_bI0, h, if_false, Bool.false_eq_true, nI_1, this, Nat.zero_add]
theorem r_manyL (hS : ShM S m) (hD : μ (m + 1) = D) (hI : Inv D) (q : Bool) : ∀ k j fu z, j + k = nD D 2 → k < fu → z ≤ j → b_X12_many_170 (mkH n st S μ) fu (some m) (if q then 12 else 13) (nI z) (nI j) = some (nI (z + cntB (fun i => if q then sntB D i (D 0) else comB D i (D 0)) k j)) := by
  obtain ⟨e0, b0⟩ := hI.today
  obtain ⟨e1, b1⟩ := hI.wards
  obtain ⟨e2, b2⟩ := hI.men
  obtain ⟨e3, b3⟩ := hI.words
  obtain ⟨e4, b4⟩ := hI.bars
  obtain ⟨e5, b5⟩ := hI.shes
  obtain ⟨e6, b6⟩ := hI.wets
  obtain ⟨e8, b8⟩ := hI.heaped
  intro k
  induction k with
  | zero =>
    intro j fu z hj hf hz
    obtain ⟨fu, rfl⟩ : ∃ q, fu = q + 1 := ⟨fu - 1, by omega⟩
    obtain rfl : j = nD D 2 := by omega
    simp (disch := omega) only [b_X12_many_170, mR0 hS, some_bind, lit_aI, mA0 hS, hD, e2, nn_lt, natF, if_false]
    rfl
  | succ k ih =>
    intro j fu z hj hf hz
    obtain ⟨fu, rfl⟩ : ∃ q, fu = q + 1 := ⟨fu - 1, by omega⟩
    have rS := r_isSent (n := n) (st := st) hS hD (i := j) (by omega) (D 0)
    have rC := r_doesCome (n := n) (st := st) hS hD hI (i := j) (by omega) (D 0)
    show _ = some (nI (z + ((if (if q then sntB D j (D 0) else comB D j (D 0)) then 1 else 0) + cntB _ k (j + 1))))
    have i1 := ih (j + 1) fu (z + 1) (by omega) (by omega) (by omega)
    have i0 := ih (j + 1) fu z (by omega) (by omega) (by omega)
    have z0 : nI z + 0 = nI z := nI_add z 0
    cases q with
    | true =>
      simp only [if_true] at i1 i0 ⊢
      by_cases h : sntB D j (D 0) = true
      · simp (disch := omega) only [b_X12_many_170, b_X12_many_223, mR0 hS, some_bind, lit_aI, mA0 hS, hD, rck hS, rS, ite_bI0, h, if_true, nI_1, i1, Nat.add_assoc]
        rw [e2]
        simp (disch := omega) only [nn_lt, natT, if_true]
      · simp (disch := omega) only [b_X12_many_170, b_X12_many_223, mR0 hS, some_bind, lit_aI, mA0 hS, hD, rck hS, rS, ite_bI0, h, if_true, if_false, Bool.false_eq_true, z0, nI_1, i0, Nat.zero_add]
        rw [e2]
        simp (disch := omega) only [nn_lt, natT, if_true]
    | false =>
      simp only [Bool.false_eq_true, if_false] at i1 i0 ⊢
      have n12 : ¬ (13 : Int32) = 12 := by decide
      by_cases h : comB D j (D 0) = true
      · simp (disch := omega) only [b_X12_many_170, b_X12_many_223, mR0 hS, some_bind, lit_aI, mA0 hS, hD, rck hS, n12, if_false, rC, ite_bI0, h, if_true, nI_1, i1, Nat.add_assoc]
        rw [e2]
        simp (disch := omega) only [nn_lt, natT, if_true]
      · simp (disch := omega) only [b_X12_many_170, b_X12_many_223, mR0 hS, some_bind, lit_aI, mA0 hS, hD, rck hS, n12, rC, ite_bI0, h, if_true, if_false, Bool.false_eq_true, z0, nI_1, i0, Nat.zero_add]
        rw [e2]
        simp (disch := omega) only [nn_lt, natT, if_true]
theorem q_many (hR : R n st S μ x b) (a1 : Int32) : Que (f_X11_many (some x) a1) (f_X12_many (some (x + 175)) a1) (mkH n st S μ) := by
  obtain ⟨⟨hX, hS, hs, hI, hL0⟩, hRest⟩ := hR
  have hC := hX.city
  have hBase := hRest.2.2.2.1
  obtain ⟨D, hD⟩ : ∃ D, μ (x + 175 + 1) = D := ⟨_, rfl⟩
  replace hs : Sim μ (x + 1) (μ (x + 175 + 1)) := hs
  replace hI : Inv (μ (x + 175 + 1)) := hI
  rw [hD] at hs hI
  obtain ⟨e0, b0⟩ := hI.today
  obtain ⟨e1, b1⟩ := hI.wards
  obtain ⟨e2, b2⟩ := hI.men
  obtain ⟨e3, b3⟩ := hI.words
  obtain ⟨e4, b4⟩ := hI.bars
  obtain ⟨e5, b5⟩ := hI.shes
  obtain ⟨e6, b6⟩ := hI.wets
  obtain ⟨e8, b8⟩ := hI.heaped
  have z0 := hs.today
  have z1 := hs.wardN
  have z2 := hs.manN
  have z3 := hs.wordN
  have z4 := hs.barN
  have z5 := hs.sheN
  have z6 := hs.wetN
  have z8 := hs.heapN
  by_cases c1 : inS a1 0 13 = true
  case neg =>
    have c2 : a1 < 0 ∨ 13 < a1 := by
      simp only [inS, decide_eq_true_eq] at c1
      by_cases h : a1 < 0
      · exact Or.inl h
      · right
        by_cases h2 : 13 < a1
        · exact h2
        · exact absurd ⟨h, h2⟩ c1
    exact ⟨-1, by simp only [f_X11_many, c2, ↓reduceIte], by simp only [f_X12_many, c2, ↓reduceIte]⟩
  obtain ⟨k, hk, rfl⟩ := inS_n (M := 13) (by omega) c1
  obtain ⟨r, -, rw1, rw2, -⟩ := hRest.2.1
  obtain ⟨t, -, tp1, tp2, -⟩ := hRest.1
  obtain ⟨u, -, tr1, tr2, -⟩ := hRest.2.2.1
  have hF := hs.force
  have kSe := k_sentL (n := n) (st := st) hC hs hI (nD D 2) 0 FU 0 (by omega) (by have : FU = 4000 := rfl; omega) (by omega)
  have kCo := k_comeL (n := n) (st := st) hC hs hI (nD D 2) 0 FU 0 (by omega) (by have : FU = 4000 := rfl; omega) (by omega)
  have rSe := r_manyL (n := n) (st := st) hS hD hI true (nD D 2) 0 FU 0 (by omega) (by have : FU = 4000 := rfl; omega) (by omega)
  have rCo := r_manyL (n := n) (st := st) hS hD hI false (nD D 2) 0 FU 0 (by omega) (by have : FU = 4000 := rfl; omega) (by omega)
  rcases (by omega : k = 0 ∨ k = 1 ∨ k = 2 ∨ k = 3 ∨ k = 4 ∨ k = 5 ∨ k = 6 ∨ k = 7 ∨ k = 8 ∨ k = 9 ∨ k = 10 ∨ k = 11 ∨ k = 12 ∨ k = 13) with rfl | rfl | rfl | rfl | rfl | rfl | rfl | rfl | rfl | rfl | rfl | rfl | rfl | rfl
  · change Que (f_X11_many (some x) 0) (f_X12_many (some (x + 175)) 0) (mkH n st S μ)
    have dA : ((0 : Int32) < 0 ∨ 13 < (0 : Int32)) = False := by decide
    have d0 : ((0 : Int32) = 0) = True := by decide
    exact ⟨D 0, by simp (disch := omega) only [f_X11_many, xR0 hX, some_bind, ↓reduceIte, cI0 hC, cI2 hC, cI4 hC, cI6 hC, cI8 hC, cI10 hC, cI12 hC, cI14 hC, cI18 hC, xI9 hX, xR2 hX, rdI1 hX, xR4 hX, acI4 hX, z0, z1, z2, z3, z4, z5, z6, z8, dA, d0, rw1, tp1, tr1], by simp (disch := omega) only [f_X12_many, mR0 hS, some_bind, ↓reduceIte, lit_aI, mA0 hS, hD, mI29 hS, mI4 hS, mI38 hS, dA, d0, rw2, tp2, tr2]⟩
  · change Que (f_X11_many (some x) 1) (f_X12_many (some (x + 175)) 1) (mkH n st S μ)
    have dA : ((1 : Int32) < 0 ∨ 13 < (1 : Int32)) = False := by decide
    have d0 : ((1 : Int32) = 0) = False := by decide
    have d1 : ((1 : Int32) = 1) = True := by decide
    exact ⟨D 1, by simp (disch := omega) only [f_X11_many, xR0 hX, some_bind, ↓reduceIte, cI0 hC, cI2 hC, cI4 hC, cI6 hC, cI8 hC, cI10 hC, cI12 hC, cI14 hC, cI18 hC, xI9 hX, xR2 hX, rdI1 hX, xR4 hX, acI4 hX, z0, z1, z2, z3, z4, z5, z6, z8, dA, d0, d1, rw1, tp1, tr1], by simp (disch := omega) only [f_X12_many, mR0 hS, some_bind, ↓reduceIte, lit_aI, mA0 hS, hD, mI29 hS, mI4 hS, mI38 hS, dA, d0, d1, rw2, tp2, tr2]⟩
  · change Que (f_X11_many (some x) 2) (f_X12_many (some (x + 175)) 2) (mkH n st S μ)
    have dA : ((2 : Int32) < 0 ∨ 13 < (2 : Int32)) = False := by decide
    have d0 : ((2 : Int32) = 0) = False := by decide
    have d1 : ((2 : Int32) = 1) = False := by decide
    have d2 : ((2 : Int32) = 2) = True := by decide
    exact ⟨D 2, by simp (disch := omega) only [f_X11_many, xR0 hX, some_bind, ↓reduceIte, cI0 hC, cI2 hC, cI4 hC, cI6 hC, cI8 hC, cI10 hC, cI12 hC, cI14 hC, cI18 hC, xI9 hX, xR2 hX, rdI1 hX, xR4 hX, acI4 hX, z0, z1, z2, z3, z4, z5, z6, z8, dA, d0, d1, d2, rw1, tp1, tr1], by simp (disch := omega) only [f_X12_many, mR0 hS, some_bind, ↓reduceIte, lit_aI, mA0 hS, hD, mI29 hS, mI4 hS, mI38 hS, dA, d0, d1, d2, rw2, tp2, tr2]⟩
  · change Que (f_X11_many (some x) 3) (f_X12_many (some (x + 175)) 3) (mkH n st S μ)
    have dA : ((3 : Int32) < 0 ∨ 13 < (3 : Int32)) = False := by decide
    have d0 : ((3 : Int32) = 0) = False := by decide
    have d1 : ((3 : Int32) = 1) = False := by decide
    have d2 : ((3 : Int32) = 2) = False := by decide
    have d3 : ((3 : Int32) = 3) = True := by decide
    exact ⟨D 3, by simp (disch := omega) only [f_X11_many, xR0 hX, some_bind, ↓reduceIte, cI0 hC, cI2 hC, cI4 hC, cI6 hC, cI8 hC, cI10 hC, cI12 hC, cI14 hC, cI18 hC, xI9 hX, xR2 hX, rdI1 hX, xR4 hX, acI4 hX, z0, z1, z2, z3, z4, z5, z6, z8, dA, d0, d1, d2, d3, rw1, tp1, tr1], by simp (disch := omega) only [f_X12_many, mR0 hS, some_bind, ↓reduceIte, lit_aI, mA0 hS, hD, mI29 hS, mI4 hS, mI38 hS, dA, d0, d1, d2, d3, rw2, tp2, tr2]⟩
  · change Que (f_X11_many (some x) 4) (f_X12_many (some (x + 175)) 4) (mkH n st S μ)
    have dA : ((4 : Int32) < 0 ∨ 13 < (4 : Int32)) = False := by decide
    have d0 : ((4 : Int32) = 0) = False := by decide
    have d1 : ((4 : Int32) = 1) = False := by decide
    have d2 : ((4 : Int32) = 2) = False := by decide
    have d3 : ((4 : Int32) = 3) = False := by decide
    have d4 : ((4 : Int32) = 4) = True := by decide
    exact ⟨D 4, by simp (disch := omega) only [f_X11_many, xR0 hX, some_bind, ↓reduceIte, cI0 hC, cI2 hC, cI4 hC, cI6 hC, cI8 hC, cI10 hC, cI12 hC, cI14 hC, cI18 hC, xI9 hX, xR2 hX, rdI1 hX, xR4 hX, acI4 hX, z0, z1, z2, z3, z4, z5, z6, z8, dA, d0, d1, d2, d3, d4, rw1, tp1, tr1], by simp (disch := omega) only [f_X12_many, mR0 hS, some_bind, ↓reduceIte, lit_aI, mA0 hS, hD, mI29 hS, mI4 hS, mI38 hS, dA, d0, d1, d2, d3, d4, rw2, tp2, tr2]⟩
  · change Que (f_X11_many (some x) 5) (f_X12_many (some (x + 175)) 5) (mkH n st S μ)
    have dA : ((5 : Int32) < 0 ∨ 13 < (5 : Int32)) = False := by decide
    have d0 : ((5 : Int32) = 0) = False := by decide
    have d1 : ((5 : Int32) = 1) = False := by decide
    have d2 : ((5 : Int32) = 2) = False := by decide
    have d3 : ((5 : Int32) = 3) = False := by decide
    have d4 : ((5 : Int32) = 4) = False := by decide
    have d5 : ((5 : Int32) = 5) = True := by decide
    exact ⟨D 5, by simp (disch := omega) only [f_X11_many, xR0 hX, some_bind, ↓reduceIte, cI0 hC, cI2 hC, cI4 hC, cI6 hC, cI8 hC, cI10 hC, cI12 hC, cI14 hC, cI18 hC, xI9 hX, xR2 hX, rdI1 hX, xR4 hX, acI4 hX, z0, z1, z2, z3, z4, z5, z6, z8, dA, d0, d1, d2, d3, d4, d5, rw1, tp1, tr1], by simp (disch := omega) only [f_X12_many, mR0 hS, some_bind, ↓reduceIte, lit_aI, mA0 hS, hD, mI29 hS, mI4 hS, mI38 hS, dA, d0, d1, d2, d3, d4, d5, rw2, tp2, tr2]⟩
  · change Que (f_X11_many (some x) 6) (f_X12_many (some (x + 175)) 6) (mkH n st S μ)
    have dA : ((6 : Int32) < 0 ∨ 13 < (6 : Int32)) = False := by decide
    have d0 : ((6 : Int32) = 0) = False := by decide
    have d1 : ((6 : Int32) = 1) = False := by decide
    have d2 : ((6 : Int32) = 2) = False := by decide
    have d3 : ((6 : Int32) = 3) = False := by decide
    have d4 : ((6 : Int32) = 4) = False := by decide
    have d5 : ((6 : Int32) = 5) = False := by decide
    have d6 : ((6 : Int32) = 6) = True := by decide
    exact ⟨D 6, by simp (disch := omega) only [f_X11_many, xR0 hX, some_bind, ↓reduceIte, cI0 hC, cI2 hC, cI4 hC, cI6 hC, cI8 hC, cI10 hC, cI12 hC, cI14 hC, cI18 hC, xI9 hX, xR2 hX, rdI1 hX, xR4 hX, acI4 hX, z0, z1, z2, z3, z4, z5, z6, z8, dA, d0, d1, d2, d3, d4, d5, d6, rw1, tp1, tr1], by simp (disch := omega) only [f_X12_many, mR0 hS, some_bind, ↓reduceIte, lit_aI, mA0 hS, hD, mI29 hS, mI4 hS, mI38 hS, dA, d0, d1, d2, d3, d4, d5, d6, rw2, tp2, tr2]⟩
  · change Que (f_X11_many (some x) 7) (f_X12_many (some (x + 175)) 7) (mkH n st S μ)
    have dA : ((7 : Int32) < 0 ∨ 13 < (7 : Int32)) = False := by decide
    have d0 : ((7 : Int32) = 0) = False := by decide
    have d1 : ((7 : Int32) = 1) = False := by decide
    have d2 : ((7 : Int32) = 2) = False := by decide
    have d3 : ((7 : Int32) = 3) = False := by decide
    have d4 : ((7 : Int32) = 4) = False := by decide
    have d5 : ((7 : Int32) = 5) = False := by decide
    have d6 : ((7 : Int32) = 6) = False := by decide
    have d7 : ((7 : Int32) = 7) = True := by decide
    exact ⟨nI r, by simp (disch := omega) only [f_X11_many, xR0 hX, some_bind, ↓reduceIte, cI0 hC, cI2 hC, cI4 hC, cI6 hC, cI8 hC, cI10 hC, cI12 hC, cI14 hC, cI18 hC, xI9 hX, xR2 hX, rdI1 hX, xR4 hX, acI4 hX, z0, z1, z2, z3, z4, z5, z6, z8, dA, d0, d1, d2, d3, d4, d5, d6, d7, rw1, tp1, tr1], by simp (disch := omega) only [f_X12_many, mR0 hS, some_bind, ↓reduceIte, lit_aI, mA0 hS, hD, mI29 hS, mI4 hS, mI38 hS, dA, d0, d1, d2, d3, d4, d5, d6, d7, rw2, tp2, tr2]⟩
  · change Que (f_X11_many (some x) 8) (f_X12_many (some (x + 175)) 8) (mkH n st S μ)
    have dA : ((8 : Int32) < 0 ∨ 13 < (8 : Int32)) = False := by decide
    have d0 : ((8 : Int32) = 0) = False := by decide
    have d1 : ((8 : Int32) = 1) = False := by decide
    have d2 : ((8 : Int32) = 2) = False := by decide
    have d3 : ((8 : Int32) = 3) = False := by decide
    have d4 : ((8 : Int32) = 4) = False := by decide
    have d5 : ((8 : Int32) = 5) = False := by decide
    have d6 : ((8 : Int32) = 6) = False := by decide
    have d7 : ((8 : Int32) = 7) = False := by decide
    have d8 : ((8 : Int32) = 8) = True := by decide
    exact ⟨D 8, by simp (disch := omega) only [f_X11_many, xR0 hX, some_bind, ↓reduceIte, cI0 hC, cI2 hC, cI4 hC, cI6 hC, cI8 hC, cI10 hC, cI12 hC, cI14 hC, cI18 hC, xI9 hX, xR2 hX, rdI1 hX, xR4 hX, acI4 hX, z0, z1, z2, z3, z4, z5, z6, z8, dA, d0, d1, d2, d3, d4, d5, d6, d7, d8, rw1, tp1, tr1], by simp (disch := omega) only [f_X12_many, mR0 hS, some_bind, ↓reduceIte, lit_aI, mA0 hS, hD, mI29 hS, mI4 hS, mI38 hS, dA, d0, d1, d2, d3, d4, d5, d6, d7, d8, rw2, tp2, tr2]⟩
  · change Que (f_X11_many (some x) 9) (f_X12_many (some (x + 175)) 9) (mkH n st S μ)
    have dA : ((9 : Int32) < 0 ∨ 13 < (9 : Int32)) = False := by decide
    have d0 : ((9 : Int32) = 0) = False := by decide
    have d1 : ((9 : Int32) = 1) = False := by decide
    have d2 : ((9 : Int32) = 2) = False := by decide
    have d3 : ((9 : Int32) = 3) = False := by decide
    have d4 : ((9 : Int32) = 4) = False := by decide
    have d5 : ((9 : Int32) = 5) = False := by decide
    have d6 : ((9 : Int32) = 6) = False := by decide
    have d7 : ((9 : Int32) = 7) = False := by decide
    have d8 : ((9 : Int32) = 8) = False := by decide
    have d9 : ((9 : Int32) = 9) = True := by decide
    exact ⟨nI t, by simp (disch := omega) only [f_X11_many, xR0 hX, some_bind, ↓reduceIte, cI0 hC, cI2 hC, cI4 hC, cI6 hC, cI8 hC, cI10 hC, cI12 hC, cI14 hC, cI18 hC, xI9 hX, xR2 hX, rdI1 hX, xR4 hX, acI4 hX, z0, z1, z2, z3, z4, z5, z6, z8, dA, d0, d1, d2, d3, d4, d5, d6, d7, d8, d9, rw1, tp1, tr1], by simp (disch := omega) only [f_X12_many, mR0 hS, some_bind, ↓reduceIte, lit_aI, mA0 hS, hD, mI29 hS, mI4 hS, mI38 hS, dA, d0, d1, d2, d3, d4, d5, d6, d7, d8, d9, rw2, tp2, tr2]⟩
  · change Que (f_X11_many (some x) 10) (f_X12_many (some (x + 175)) 10) (mkH n st S μ)
    have dA : ((10 : Int32) < 0 ∨ 13 < (10 : Int32)) = False := by decide
    have d0 : ((10 : Int32) = 0) = False := by decide
    have d1 : ((10 : Int32) = 1) = False := by decide
    have d2 : ((10 : Int32) = 2) = False := by decide
    have d3 : ((10 : Int32) = 3) = False := by decide
    have d4 : ((10 : Int32) = 4) = False := by decide
    have d5 : ((10 : Int32) = 5) = False := by decide
    have d6 : ((10 : Int32) = 6) = False := by decide
    have d7 : ((10 : Int32) = 7) = False := by decide
    have d8 : ((10 : Int32) = 8) = False := by decide
    have d9 : ((10 : Int32) = 9) = False := by decide
    have d10 : ((10 : Int32) = 10) = True := by decide
    exact ⟨nI u, by simp (disch := omega) only [f_X11_many, xR0 hX, some_bind, ↓reduceIte, cI0 hC, cI2 hC, cI4 hC, cI6 hC, cI8 hC, cI10 hC, cI12 hC, cI14 hC, cI18 hC, xI9 hX, xR2 hX, rdI1 hX, xR4 hX, acI4 hX, z0, z1, z2, z3, z4, z5, z6, z8, dA, d0, d1, d2, d3, d4, d5, d6, d7, d8, d9, d10, rw1, tp1, tr1], by simp (disch := omega) only [f_X12_many, mR0 hS, some_bind, ↓reduceIte, lit_aI, mA0 hS, hD, mI29 hS, mI4 hS, mI38 hS, dA, d0, d1, d2, d3, d4, d5, d6, d7, d8, d9, d10, rw2, tp2, tr2]⟩
  · change Que (f_X11_many (some x) 11) (f_X12_many (some (x + 175)) 11) (mkH n st S μ)
    have dA : ((11 : Int32) < 0 ∨ 13 < (11 : Int32)) = False := by decide
    have d0 : ((11 : Int32) = 0) = False := by decide
    have d1 : ((11 : Int32) = 1) = False := by decide
    have d2 : ((11 : Int32) = 2) = False := by decide
    have d3 : ((11 : Int32) = 3) = False := by decide
    have d4 : ((11 : Int32) = 4) = False := by decide
    have d5 : ((11 : Int32) = 5) = False := by decide
    have d6 : ((11 : Int32) = 6) = False := by decide
    have d7 : ((11 : Int32) = 7) = False := by decide
    have d8 : ((11 : Int32) = 8) = False := by decide
    have d9 : ((11 : Int32) = 9) = False := by decide
    have d10 : ((11 : Int32) = 10) = False := by decide
    have d11 : ((11 : Int32) = 11) = True := by decide
    by_cases c3 : D 7 < 0
    · exact ⟨9, by simp (disch := omega) only [f_X11_many, xR0 hX, some_bind, ↓reduceIte, cI0 hC, cI2 hC, cI4 hC, cI6 hC, cI8 hC, cI10 hC, cI12 hC, cI14 hC, cI18 hC, xI9 hX, xR2 hX, rdI1 hX, xR4 hX, acI4 hX, z0, z1, z2, z3, z4, z5, z6, z8, dA, d0, d1, d2, d3, d4, d5, d6, d7, d8, d9, d10, d11, hF, c3], by simp (disch := omega) only [f_X12_many, mR0 hS, some_bind, ↓reduceIte, lit_aI, mA0 hS, hD, mI29 hS, mI4 hS, mI38 hS, dA, d0, d1, d2, d3, d4, d5, d6, d7, d8, d9, d10, d11, c3]⟩
    · exact ⟨D 7, by simp (disch := omega) only [f_X11_many, xR0 hX, some_bind, ↓reduceIte, cI0 hC, cI2 hC, cI4 hC, cI6 hC, cI8 hC, cI10 hC, cI12 hC, cI14 hC, cI18 hC, xI9 hX, xR2 hX, rdI1 hX, xR4 hX, acI4 hX, z0, z1, z2, z3, z4, z5, z6, z8, dA, d0, d1, d2, d3, d4, d5, d6, d7, d8, d9, d10, d11, hF, c3], by simp (disch := omega) only [f_X12_many, mR0 hS, some_bind, ↓reduceIte, lit_aI, mA0 hS, hD, mI29 hS, mI4 hS, mI38 hS, dA, d0, d1, d2, d3, d4, d5, d6, d7, d8, d9, d10, d11, c3]⟩
  · change Que (f_X11_many (some x) 12) (f_X12_many (some (x + 175)) 12) (mkH n st S μ)
    have dA : ((12 : Int32) < 0 ∨ 13 < (12 : Int32)) = False := by decide
    have d0 : ((12 : Int32) = 0) = False := by decide
    have d1 : ((12 : Int32) = 1) = False := by decide
    have d2 : ((12 : Int32) = 2) = False := by decide
    have d3 : ((12 : Int32) = 3) = False := by decide
    have d4 : ((12 : Int32) = 4) = False := by decide
    have d5 : ((12 : Int32) = 5) = False := by decide
    have d6 : ((12 : Int32) = 6) = False := by decide
    have d7 : ((12 : Int32) = 7) = False := by decide
    have d8 : ((12 : Int32) = 8) = False := by decide
    have d9 : ((12 : Int32) = 9) = False := by decide
    have d10 : ((12 : Int32) = 10) = False := by decide
    have d11 : ((12 : Int32) = 11) = False := by decide
    have d12 : ((12 : Int32) = 12) = True := by decide
    have e1 : f_X2_howManySent (some (x + 1)) (mkH n st S μ) = some (nI (cntB (fun i => sntB D i (D 0)) (nD D 2) 0)) := by rw [← Nat.zero_add (cntB _ _ _)]; exact kSe
    have e2 : b_X12_many_170 (mkH n st S μ) FU (some (x + 175)) 12 0 0 = some (nI (cntB (fun i => sntB D i (D 0)) (nD D 2) 0)) := by rw [← Nat.zero_add (cntB _ _ _)]; exact rSe
    exact ⟨nI (cntB (fun i => sntB D i (D 0)) (nD D 2) 0), by simp (disch := omega) only [f_X11_many, xR0 hX, some_bind, ↓reduceIte, cck hC, dA, d0, d1, d2, d3, d4, d5, d6, d7, d8, d9, d10, d11, d12, e1], by simp (disch := omega) only [f_X12_many, ↓reduceIte, dA, d0, d1, d2, d3, d4, d5, d6, d7, d8, d9, d10, d11, d12, e2]⟩
  · change Que (f_X11_many (some x) 13) (f_X12_many (some (x + 175)) 13) (mkH n st S μ)
    have dA : ((13 : Int32) < 0 ∨ 13 < (13 : Int32)) = False := by decide
    have d0 : ((13 : Int32) = 0) = False := by decide
    have d1 : ((13 : Int32) = 1) = False := by decide
    have d2 : ((13 : Int32) = 2) = False := by decide
    have d3 : ((13 : Int32) = 3) = False := by decide
    have d4 : ((13 : Int32) = 4) = False := by decide
    have d5 : ((13 : Int32) = 5) = False := by decide
    have d6 : ((13 : Int32) = 6) = False := by decide
    have d7 : ((13 : Int32) = 7) = False := by decide
    have d8 : ((13 : Int32) = 8) = False := by decide
    have d9 : ((13 : Int32) = 9) = False := by decide
    have d10 : ((13 : Int32) = 10) = False := by decide
    have d11 : ((13 : Int32) = 11) = False := by decide
    have d12 : ((13 : Int32) = 12) = False := by decide
    have d13 : ((13 : Int32) = 13) = True := by decide
    have e1 : f_X2_howManyCome (some (x + 1)) (mkH n st S μ) = some (nI (cntB (fun i => comB D i (D 0)) (nD D 2) 0)) := by rw [← Nat.zero_add (cntB _ _ _)]; exact kCo
    have e2 : b_X12_many_170 (mkH n st S μ) FU (some (x + 175)) 13 0 0 = some (nI (cntB (fun i => comB D i (D 0)) (nD D 2) 0)) := by rw [← Nat.zero_add (cntB _ _ _)]; exact rCo
    exact ⟨nI (cntB (fun i => comB D i (D 0)) (nD D 2) 0), by simp (disch := omega) only [f_X11_many, xR0 hX, some_bind, ↓reduceIte, cck hC, dA, d0, d1, d2, d3, d4, d5, d6, d7, d8, d9, d10, d11, d12, d13, e1], by simp (disch := omega) only [f_X12_many, ↓reduceIte, dA, d0, d1, d2, d3, d4, d5, d6, d7, d8, d9, d10, d11, d12, d13, e2]⟩
end MANY
