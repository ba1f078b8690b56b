section SHERDOF
variable {n : Nat} {st : Nat → Nat} {S : SH} {μ : MU} {x b m c l : Nat} {T : Nat → Int32} {N : Nat} {D : DR}
theorem op_sherdOf (hR : R n st S μ x b) (a1 a2 : Int32) : Res (f_X11_sherdOf (some x) a1 a2) (f_X12_sherdOf (some (x + 175)) a1 a2) n st S μ x b := by
  have hR' := hR
  obtain ⟨⟨hX, hS, hs, hI, hL0⟩, hRest⟩ := hR
  have hC := hX.city
  have hBase := hRest.2.2.2.1
  obtain ⟨D, hD⟩ : ∃ D, μ (x + 175 + 1) = D := ⟨_, rfl⟩
  replace hs : Sim μ (x + 1) (μ (x + 175 + 1)) := hs
  replace hI : Inv (μ (x + 175 + 1)) := hI
  rw [hD] at hs hI
  obtain ⟨e0, b0⟩ := hI.today
  obtain ⟨e1, b1⟩ := hI.wards
  obtain ⟨e2, b2⟩ := hI.men
  obtain ⟨e3, b3⟩ := hI.words
  obtain ⟨e4, b4⟩ := hI.bars
  obtain ⟨e5, b5⟩ := hI.shes
  obtain ⟨e6, b6⟩ := hI.wets
  obtain ⟨e8, b8⟩ := hI.heaped
  have z0 := hs.today
  have z1 := hs.wardN
  have z2 := hs.manN
  have z3 := hs.wordN
  have z4 := hs.barN
  have z5 := hs.sheN
  have z6 := hs.wetN
  have z8 := hs.heapN
  have hU := lawU_now hs hI hL0
  have hlA := lawA_lt hI
  have hLw := hC.law (lawA D) hlA
  have hlN := k_lawNow (n := n) (st := st) hC hs hI
  by_cases c1 : ixB a1 (nD D 5) = true
  case neg => exact Res.same hR' (-1) (by simp only [f_X11_sherdOf, xR0 hX, some_bind, cck hC, k_hasSherd hC hs hI, c1, ite_bI0, ↓reduceIte, Bool.false_eq_true]) (by simp only [f_X12_sherdOf, rck hS, some_bind, r_isSherd hS hD hI, c1, ite_bI0, ↓reduceIte, Bool.false_eq_true])
  obtain ⟨s, h5, rfl⟩ := ixB_ex (by omega) c1
  by_cases c2 : inS a2 0 11 = true
  case neg =>
    have c2' : a2 < 0 ∨ 11 < a2 := by
      simp only [inS, decide_eq_true_eq] at c2
      by_cases h : a2 < 0
      · exact Or.inl h
      · right
        by_cases h2 : 11 < a2
        · exact h2
        · exact absurd ⟨h, h2⟩ c2
    exact Res.same hR' (-1) (by simp (disch := omega) only [f_X11_sherdOf, xR0 hX, some_bind, cck hC, k_hasSherd hC hs hI, c1, ite_bI0, ↓reduceIte, cR11 hC, cEsherds hC, c2']) (by simp only [f_X12_sherdOf, rck hS, some_bind, r_isSherd hS hD hI, c1, ite_bI0, ↓reduceIte, s_in, c2, Bool.false_eq_true])
  obtain ⟨k, hk, rfl⟩ := inS_n (M := 11) (by omega) c2
  have q0 := hs.she s 0 h5 (by omega)
  have q1 := hs.she s 1 h5 (by omega)
  have q2 := hs.she s 2 h5 (by omega)
  have q3 := hs.she s 3 h5 (by omega)
  have q4 := hs.she s 4 h5 (by omega)
  have q5 := hs.she s 5 h5 (by omega)
  have q6 := hs.she s 6 h5 (by omega)
  have q7 := hs.she s 7 h5 (by omega)
  have q8 := hs.she s 8 h5 (by omega)
  simp only [Nat.reduceMul, Nat.reduceAdd] at q0 q1 q2 q3 q4 q5 q6 q7 q8
  have kM := k_meant (n := n) (st := st) hC hs hI h5
  have kH := k_howMeant (n := n) (st := st) hC hs hI h5
  obtain ⟨r6, hr6⟩ : ∃ q, D (851 + s) = bI q := by
    obtain ⟨k, hk, e⟩ := hI.sRdy s h5
    rcases (by omega : k = 0 ∨ k = 1) with rfl | rfl
    · exact ⟨false, e⟩
    · exact ⟨true, e⟩
  rcases (by omega : k = 0 ∨ k = 1 ∨ k = 2 ∨ k = 3 ∨ k = 4 ∨ k = 5 ∨ k = 6 ∨ k = 7 ∨ k = 8 ∨ k = 9 ∨ k = 10 ∨ k = 11) with rfl | rfl | rfl | rfl | rfl | rfl | rfl | rfl | rfl | rfl | rfl | rfl
  · change Res (f_X11_sherdOf (some x) (nI s) 0) (f_X12_sherdOf (some (x + 175)) (nI s) 0) n st S μ x b
    replace c2 : inS 0 0 11 = true := c2
    have dA : ((0 : Int32) < 0 ∨ 11 < (0 : Int32)) = False := by decide
    have dB : ((0 : Int32) < 0 ∨ 10 < (0 : Int32)) = False := by decide
    have d0 : ((0 : Int32) = 0) = True := by decide
    exact Res.same hR' (D (651 + s)) (by simp (disch := omega) only [f_X11_sherdOf, xR0 hX, some_bind, cck hC, k_hasSherd hC hs hI, c1, ite_bI0, ↓reduceIte, cR11 hC, cEsherds hC, Bool.false_eq_true, oSheI hC, oSheK hC, c2, dA, d0, q0]) (by simp (disch := omega) only [f_X12_sherdOf, rck hS, some_bind, r_isSherd hS hD hI, c1, ite_bI0, ↓reduceIte, s_in, Bool.false_eq_true, mR0 hS, lit_add, mA0 hS, hD, c2, dB, d0])
  · change Res (f_X11_sherdOf (some x) (nI s) 1) (f_X12_sherdOf (some (x + 175)) (nI s) 1) n st S μ x b
    replace c2 : inS 1 0 11 = true := c2
    have dA : ((1 : Int32) < 0 ∨ 11 < (1 : Int32)) = False := by decide
    have dB : ((1 : Int32) < 0 ∨ 10 < (1 : Int32)) = False := by decide
    have d0 : ((1 : Int32) = 0) = False := by decide
    have d1 : ((1 : Int32) = 1) = True := by decide
    exact Res.same hR' (D (691 + s)) (by simp (disch := omega) only [f_X11_sherdOf, xR0 hX, some_bind, cck hC, k_hasSherd hC hs hI, c1, ite_bI0, ↓reduceIte, cR11 hC, cEsherds hC, Bool.false_eq_true, oSheI hC, oSheK hC, c2, dA, d0, d1, q1]) (by simp (disch := omega) only [f_X12_sherdOf, rck hS, some_bind, r_isSherd hS hD hI, c1, ite_bI0, ↓reduceIte, s_in, Bool.false_eq_true, mR0 hS, lit_add, mA0 hS, hD, c2, dB, d0, d1])
  · change Res (f_X11_sherdOf (some x) (nI s) 2) (f_X12_sherdOf (some (x + 175)) (nI s) 2) n st S μ x b
    replace c2 : inS 2 0 11 = true := c2
    have dA : ((2 : Int32) < 0 ∨ 11 < (2 : Int32)) = False := by decide
    have dB : ((2 : Int32) < 0 ∨ 10 < (2 : Int32)) = False := by decide
    have d0 : ((2 : Int32) = 0) = False := by decide
    have d1 : ((2 : Int32) = 1) = False := by decide
    have d2 : ((2 : Int32) = 2) = True := by decide
    by_cases c3 : D (731 + s) < 0
    · exact Res.same hR' (-3) (by simp (disch := omega) only [f_X11_sherdOf, xR0 hX, some_bind, cck hC, k_hasSherd hC hs hI, c1, ite_bI0, ↓reduceIte, cR11 hC, cEsherds hC, Bool.false_eq_true, oSheI hC, oSheK hC, c2, dA, d0, d1, d2, q2, c3]) (by simp (disch := omega) only [f_X12_sherdOf, rck hS, some_bind, r_isSherd hS hD hI, c1, ite_bI0, ↓reduceIte, s_in, Bool.false_eq_true, mR0 hS, lit_add, mA0 hS, hD, c2, dB, d0, d1, d2, c3])
    · exact Res.same hR' (D (731 + s)) (by simp (disch := omega) only [f_X11_sherdOf, xR0 hX, some_bind, cck hC, k_hasSherd hC hs hI, c1, ite_bI0, ↓reduceIte, cR11 hC, cEsherds hC, Bool.false_eq_true, oSheI hC, oSheK hC, c2, dA, d0, d1, d2, q2, c3]) (by simp (disch := omega) only [f_X12_sherdOf, rck hS, some_bind, r_isSherd hS hD hI, c1, ite_bI0, ↓reduceIte, s_in, Bool.false_eq_true, mR0 hS, lit_add, mA0 hS, hD, c2, dB, d0, d1, d2, c3])
  · change Res (f_X11_sherdOf (some x) (nI s) 3) (f_X12_sherdOf (some (x + 175)) (nI s) 3) n st S μ x b
    replace c2 : inS 3 0 11 = true := c2
    have dA : ((3 : Int32) < 0 ∨ 11 < (3 : Int32)) = False := by decide
    have dB : ((3 : Int32) < 0 ∨ 10 < (3 : Int32)) = False := by decide
    have d0 : ((3 : Int32) = 0) = False := by decide
    have d1 : ((3 : Int32) = 1) = False := by decide
    have d2 : ((3 : Int32) = 2) = False := by decide
    have d3 : ((3 : Int32) = 3) = True := by decide
    by_cases c3 : D (771 + s) < 0
    · exact Res.same hR' (-3) (by simp (disch := omega) only [f_X11_sherdOf, xR0 hX, some_bind, cck hC, k_hasSherd hC hs hI, c1, ite_bI0, ↓reduceIte, cR11 hC, cEsherds hC, Bool.false_eq_true, oSheI hC, oSheK hC, c2, dA, d0, d1, d2, d3, q3, c3]) (by simp (disch := omega) only [f_X12_sherdOf, rck hS, some_bind, r_isSherd hS hD hI, c1, ite_bI0, ↓reduceIte, s_in, Bool.false_eq_true, mR0 hS, lit_add, mA0 hS, hD, c2, dB, d0, d1, d2, d3, c3])
    · exact Res.same hR' (D (771 + s)) (by simp (disch := omega) only [f_X11_sherdOf, xR0 hX, some_bind, cck hC, k_hasSherd hC hs hI, c1, ite_bI0, ↓reduceIte, cR11 hC, cEsherds hC, Bool.false_eq_true, oSheI hC, oSheK hC, c2, dA, d0, d1, d2, d3, q3, c3]) (by simp (disch := omega) only [f_X12_sherdOf, rck hS, some_bind, r_isSherd hS hD hI, c1, ite_bI0, ↓reduceIte, s_in, Bool.false_eq_true, mR0 hS, lit_add, mA0 hS, hD, c2, dB, d0, d1, d2, d3, c3])
  · change Res (f_X11_sherdOf (some x) (nI s) 4) (f_X12_sherdOf (some (x + 175)) (nI s) 4) n st S μ x b
    replace c2 : inS 4 0 11 = true := c2
    have dA : ((4 : Int32) < 0 ∨ 11 < (4 : Int32)) = False := by decide
    have dB : ((4 : Int32) < 0 ∨ 10 < (4 : Int32)) = False := by decide
    have d0 : ((4 : Int32) = 0) = False := by decide
    have d1 : ((4 : Int32) = 1) = False := by decide
    have d2 : ((4 : Int32) = 2) = False := by decide
    have d3 : ((4 : Int32) = 3) = False := by decide
    have d4 : ((4 : Int32) = 4) = True := by decide
    exact Res.same hR' (D (811 + s)) (by simp (disch := omega) only [f_X11_sherdOf, xR0 hX, some_bind, cck hC, k_hasSherd hC hs hI, c1, ite_bI0, ↓reduceIte, cR11 hC, cEsherds hC, Bool.false_eq_true, oSheI hC, oSheK hC, c2, dA, d0, d1, d2, d3, d4, q4]) (by simp (disch := omega) only [f_X12_sherdOf, rck hS, some_bind, r_isSherd hS hD hI, c1, ite_bI0, ↓reduceIte, s_in, Bool.false_eq_true, mR0 hS, lit_add, mA0 hS, hD, c2, dB, d0, d1, d2, d3, d4])
  · change Res (f_X11_sherdOf (some x) (nI s) 5) (f_X12_sherdOf (some (x + 175)) (nI s) 5) n st S μ x b
    replace c2 : inS 5 0 11 = true := c2
    have dA : ((5 : Int32) < 0 ∨ 11 < (5 : Int32)) = False := by decide
    have dB : ((5 : Int32) < 0 ∨ 10 < (5 : Int32)) = False := by decide
    have d0 : ((5 : Int32) = 0) = False := by decide
    have d1 : ((5 : Int32) = 1) = False := by decide
    have d2 : ((5 : Int32) = 2) = False := by decide
    have d3 : ((5 : Int32) = 3) = False := by decide
    have d4 : ((5 : Int32) = 4) = False := by decide
    have d5 : ((5 : Int32) = 5) = True := by decide
    exact Res.same hR' (bI r6) (by simp (disch := omega) only [f_X11_sherdOf, xR0 hX, some_bind, cck hC, k_hasSherd hC hs hI, c1, ite_bI0, ↓reduceIte, cR11 hC, cEsherds hC, Bool.false_eq_true, oSheI hC, oSheK hC, c2, dA, d0, d1, d2, d3, d4, d5, q5, hr6, k_asAnswer]) (by simp (disch := omega) only [f_X12_sherdOf, rck hS, some_bind, r_isSherd hS hD hI, c1, ite_bI0, ↓reduceIte, s_in, Bool.false_eq_true, mR0 hS, lit_add, mA0 hS, hD, c2, dB, d0, d1, d2, d3, d4, d5, hr6])
  · change Res (f_X11_sherdOf (some x) (nI s) 6) (f_X12_sherdOf (some (x + 175)) (nI s) 6) n st S μ x b
    replace c2 : inS 6 0 11 = true := c2
    have dA : ((6 : Int32) < 0 ∨ 11 < (6 : Int32)) = False := by decide
    have dB : ((6 : Int32) < 0 ∨ 10 < (6 : Int32)) = False := by decide
    have d0 : ((6 : Int32) = 0) = False := by decide
    have d1 : ((6 : Int32) = 1) = False := by decide
    have d2 : ((6 : Int32) = 2) = False := by decide
    have d3 : ((6 : Int32) = 3) = False := by decide
    have d4 : ((6 : Int32) = 4) = False := by decide
    have d5 : ((6 : Int32) = 5) = False := by decide
    have d6 : ((6 : Int32) = 6) = True := by decide
    exact Res.same hR' (D (891 + s)) (by simp (disch := omega) only [f_X11_sherdOf, xR0 hX, some_bind, cck hC, k_hasSherd hC hs hI, c1, ite_bI0, ↓reduceIte, cR11 hC, cEsherds hC, Bool.false_eq_true, oSheI hC, oSheK hC, c2, dA, d0, d1, d2, d3, d4, d5, d6, q6]) (by simp (disch := omega) only [f_X12_sherdOf, rck hS, some_bind, r_isSherd hS hD hI, c1, ite_bI0, ↓reduceIte, s_in, Bool.false_eq_true, mR0 hS, lit_add, mA0 hS, hD, c2, dB, d0, d1, d2, d3, d4, d5, d6])
  · change Res (f_X11_sherdOf (some x) (nI s) 7) (f_X12_sherdOf (some (x + 175)) (nI s) 7) n st S μ x b
    replace c2 : inS 7 0 11 = true := c2
    have dA : ((7 : Int32) < 0 ∨ 11 < (7 : Int32)) = False := by decide
    have dB : ((7 : Int32) < 0 ∨ 10 < (7 : Int32)) = False := by decide
    have d0 : ((7 : Int32) = 0) = False := by decide
    have d1 : ((7 : Int32) = 1) = False := by decide
    have d2 : ((7 : Int32) = 2) = False := by decide
    have d3 : ((7 : Int32) = 3) = False := by decide
    have d4 : ((7 : Int32) = 4) = False := by decide
    have d5 : ((7 : Int32) = 5) = False := by decide
    have d6 : ((7 : Int32) = 6) = False := by decide
    have d7 : ((7 : Int32) = 7) = True := by decide
    exact Res.same hR' (D (931 + s)) (by simp (disch := omega) only [f_X11_sherdOf, xR0 hX, some_bind, cck hC, k_hasSherd hC hs hI, c1, ite_bI0, ↓reduceIte, cR11 hC, cEsherds hC, Bool.false_eq_true, oSheI hC, oSheK hC, c2, dA, d0, d1, d2, d3, d4, d5, d6, d7, q7]) (by simp (disch := omega) only [f_X12_sherdOf, rck hS, some_bind, r_isSherd hS hD hI, c1, ite_bI0, ↓reduceIte, s_in, Bool.false_eq_true, mR0 hS, lit_add, mA0 hS, hD, c2, dB, d0, d1, d2, d3, d4, d5, d6, d7])
  · change Res (f_X11_sherdOf (some x) (nI s) 8) (f_X12_sherdOf (some (x + 175)) (nI s) 8) n st S μ x b
    replace c2 : inS 8 0 11 = true := c2
    have dA : ((8 : Int32) < 0 ∨ 11 < (8 : Int32)) = False := by decide
    have dB : ((8 : Int32) < 0 ∨ 10 < (8 : Int32)) = False := by decide
    have d0 : ((8 : Int32) = 0) = False := by decide
    have d1 : ((8 : Int32) = 1) = False := by decide
    have d2 : ((8 : Int32) = 2) = False := by decide
    have d3 : ((8 : Int32) = 3) = False := by decide
    have d4 : ((8 : Int32) = 4) = False := by decide
    have d5 : ((8 : Int32) = 5) = False := by decide
    have d6 : ((8 : Int32) = 6) = False := by decide
    have d7 : ((8 : Int32) = 7) = False := by decide
    have d8 : ((8 : Int32) = 8) = True := by decide
    by_cases c3 : D (971 + s) < 0
    · exact Res.same hR' (-3) (by simp (disch := omega) only [f_X11_sherdOf, xR0 hX, some_bind, cck hC, k_hasSherd hC hs hI, c1, ite_bI0, ↓reduceIte, cR11 hC, cEsherds hC, Bool.false_eq_true, oSheI hC, oSheK hC, c2, dA, d0, d1, d2, d3, d4, d5, d6, d7, d8, q8, c3]) (by simp (disch := omega) only [f_X12_sherdOf, rck hS, some_bind, r_isSherd hS hD hI, c1, ite_bI0, ↓reduceIte, s_in, Bool.false_eq_true, mR0 hS, lit_add, mA0 hS, hD, c2, dB, d0, d1, d2, d3, d4, d5, d6, d7, d8, c3])
    · exact Res.same hR' (D (971 + s)) (by simp (disch := omega) only [f_X11_sherdOf, xR0 hX, some_bind, cck hC, k_hasSherd hC hs hI, c1, ite_bI0, ↓reduceIte, cR11 hC, cEsherds hC, Bool.false_eq_true, oSheI hC, oSheK hC, c2, dA, d0, d1, d2, d3, d4, d5, d6, d7, d8, q8, c3]) (by simp (disch := omega) only [f_X12_sherdOf, rck hS, some_bind, r_isSherd hS hD hI, c1, ite_bI0, ↓reduceIte, s_in, Bool.false_eq_true, mR0 hS, lit_add, mA0 hS, hD, c2, dB, d0, d1, d2, d3, d4, d5, d6, d7, d8, c3])
  · change Res (f_X11_sherdOf (some x) (nI s) 9) (f_X12_sherdOf (some (x + 175)) (nI s) 9) n st S μ x b
    replace c2 : inS 9 0 11 = true := c2
    have dA : ((9 : Int32) < 0 ∨ 11 < (9 : Int32)) = False := by decide
    have dB : ((9 : Int32) < 0 ∨ 10 < (9 : Int32)) = False := by decide
    have d0 : ((9 : Int32) = 0) = False := by decide
    have d1 : ((9 : Int32) = 1) = False := by decide
    have d2 : ((9 : Int32) = 2) = False := by decide
    have d3 : ((9 : Int32) = 3) = False := by decide
    have d4 : ((9 : Int32) = 4) = False := by decide
    have d5 : ((9 : Int32) = 5) = False := by decide
    have d6 : ((9 : Int32) = 6) = False := by decide
    have d7 : ((9 : Int32) = 7) = False := by decide
    have d8 : ((9 : Int32) = 8) = False := by decide
    have d9 : ((9 : Int32) = 9) = True := by decide
    obtain ⟨μ', g1, g2⟩ := r_meaning (n := n) (st := st) hS hD hI h5
    exact ⟨hmS D s, mkH n st S μ, n, S, μ', (by simp (disch := omega) only [f_X11_sherdOf, xR0 hX, some_bind, cck hC, k_hasSherd hC hs hI, c1, ite_bI0, ↓reduceIte, cR11 hC, cEsherds hC, Bool.false_eq_true, oSheI hC, oSheK hC, c2, dA, d0, d1, d2, d3, d4, d5, d6, d7, d8, d9, kH]), (by simp (disch := omega) only [f_X12_sherdOf, rck hS, some_bind, r_isSherd hS hD hI, c1, ite_bI0, ↓reduceIte, s_in, Bool.false_eq_true, mR0 hS, lit_add, mA0 hS, hD, c2, dB, d0, d1, d2, d3, d4, d5, d6, d7, d8, d9, g1]), hR'.congr (fun a j h => by unfold scr at h; exact g2 a j (by omega))⟩
  · change Res (f_X11_sherdOf (some x) (nI s) 10) (f_X12_sherdOf (some (x + 175)) (nI s) 10) n st S μ x b
    replace c2 : inS 10 0 11 = true := c2
    have dA : ((10 : Int32) < 0 ∨ 11 < (10 : Int32)) = False := by decide
    have dB : ((10 : Int32) < 0 ∨ 10 < (10 : Int32)) = False := by decide
    have d0 : ((10 : Int32) = 0) = False := by decide
    have d1 : ((10 : Int32) = 1) = False := by decide
    have d2 : ((10 : Int32) = 2) = False := by decide
    have d3 : ((10 : Int32) = 3) = False := by decide
    have d4 : ((10 : Int32) = 4) = False := by decide
    have d5 : ((10 : Int32) = 5) = False := by decide
    have d6 : ((10 : Int32) = 6) = False := by decide
    have d7 : ((10 : Int32) = 7) = False := by decide
    have d8 : ((10 : Int32) = 8) = False := by decide
    have d9 : ((10 : Int32) = 9) = False := by decide
    have d10 : ((10 : Int32) = 10) = True := by decide
    obtain ⟨μ', g1, g2⟩ := r_meant (n := n) (st := st) hS hD hI h5
    exact ⟨nI (meS D s), mkH n st S μ, n, S, μ', (by simp (disch := omega) only [f_X11_sherdOf, xR0 hX, some_bind, cck hC, k_hasSherd hC hs hI, c1, ite_bI0, ↓reduceIte, cR11 hC, cEsherds hC, Bool.false_eq_true, oSheI hC, oSheK hC, c2, dA, d0, d1, d2, d3, d4, d5, d6, d7, d8, d9, d10, kM]), (by simp (disch := omega) only [f_X12_sherdOf, rck hS, some_bind, r_isSherd hS hD hI, c1, ite_bI0, ↓reduceIte, s_in, Bool.false_eq_true, mR0 hS, lit_add, mA0 hS, hD, c2, dB, d0, d1, d2, d3, d4, d5, d6, d7, d8, d9, d10, g1]), hR'.congr (fun a j h => by unfold scr at h; exact g2 a j (by omega))⟩
  · change Res (f_X11_sherdOf (some x) (nI s) 11) (f_X12_sherdOf (some (x + 175)) (nI s) 11) n st S μ x b
    replace c2 : inS 11 0 11 = true := c2
    have dA : ((11 : Int32) < 0 ∨ 11 < (11 : Int32)) = False := by decide
    have dB : ((11 : Int32) < 0 ∨ 10 < (11 : Int32)) = True := by decide
    have d0 : ((11 : Int32) = 0) = False := by decide
    have d1 : ((11 : Int32) = 1) = False := by decide
    have d2 : ((11 : Int32) = 2) = False := by decide
    have d3 : ((11 : Int32) = 3) = False := by decide
    have d4 : ((11 : Int32) = 4) = False := by decide
    have d5 : ((11 : Int32) = 5) = False := by decide
    have d6 : ((11 : Int32) = 6) = False := by decide
    have d7 : ((11 : Int32) = 7) = False := by decide
    have d8 : ((11 : Int32) = 8) = False := by decide
    have d9 : ((11 : Int32) = 9) = False := by decide
    have d10 : ((11 : Int32) = 10) = False := by decide
    have d11 : ((11 : Int32) = 11) = True := by decide
    obtain ⟨μ1, g1, g2⟩ := k_isGood (n := n) (st := st) hX hs hI hlA hU (law_in hI).2 h5
    have hD1 : μ1 (x + 175 + 1) = D := by funext q; rw [g2 _ _ (by omega) (by omega), hD]
    obtain ⟨μ2, w1, w2⟩ := r_isGood (n := n) (st := st) (x := x) (b := b) hS (by omega) (hBase.congr (fun _ _ => rfl) (fun a j q => g2 a j (by omega) (by omega))) hD1 hI hU h5
    refine ⟨bI (gooS D (lawT D) (lawN D) s), mkH n st S μ1, n, S, μ2, (by simp (disch := omega) only [f_X11_sherdOf, xR0 hX, some_bind, cck hC, k_hasSherd hC hs hI, c1, ite_bI0, ↓reduceIte, cR11 hC, cEsherds hC, Bool.false_eq_true, oSheI hC, oSheK hC, c2, dA, d0, d1, d2, d3, d4, d5, d6, d7, d8, d9, d10, d11, hlN, lck hLw, g1, k_asAnswer]), ?_, hR'.congr (fun a j h => by unfold scr at h; rw [w2 a j (by omega) (by omega), g2 a j (by omega) (by omega)])⟩
    have := r_isSherd (n := n) (st := st) hS hD1 hI (nI s)
    simp (disch := omega) only [f_X12_sherdOf, rck hS, some_bind, this, c1, ite_bI0, ↓reduceIte, s_in, Bool.false_eq_true, c2, dB, d0, d1, d2, d3, d4, d5, d6, d7, d8, d9, d10, d11, w1]
    cases gooS D (lawT D) (lawN D) s <;> rfl
end SHERDOF
