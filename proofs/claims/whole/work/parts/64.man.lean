-- ===== a new man =====
section MAN
variable {n : Nat} {st : Nat → Nat} {S : SH} {μ : MU} {x b m c : Nat} {D : DR}
theorem k_manL (hC : ShC S c) {i : Nat} (hi : i < 16) : ∀ k j fu (μ : MU), j + k = 16 → k < fu → b_X5_begin_49 fu (some (c + 22 + 2 * i)) (nI j) (mkH n st S μ) = some (mkH n st S (filR μ (c + 22 + 2 * i + 1) j 16 0)) := by
  intro k
  induction k with
  | zero =>
    intro j fu μ hj hf
    obtain ⟨fu, rfl⟩ : ∃ q, fu = q + 1 := ⟨fu - 1, by omega⟩
    obtain rfl : j = 16 := by omega
    rw [filR_nil]
    rfl
  | succ k ih =>
    intro j fu μ hj hf
    obtain ⟨fu, rfl⟩ : ∃ q, fu = q + 1 := ⟨fu - 1, by omega⟩
    simp (disch := omega) only [b_X5_begin_49, lit_lt, natT, if_true, oManR hC, some_bind, oManS hC, nI_1]
    rw [ih (j + 1) fu _ (by omega) (by omega), filR_up (by omega)]
theorem k_manB (hC : ShC S c) {i : Nat} (hi : i < 16) (a1 a2 a3 a4 : Int32) : f_X5_begin (some (c + 22 + 2 * i)) a1 a2 a3 a4 (mkH n st S μ) = some (mkH n st S (filR ((up2 (up2 (up2 (up2 (up2 (up2 (up2 (up2 (up2 μ (c + 22 + 2 * i) (0) (a1)) (c + 22 + 2 * i) (1) (a2)) (c + 22 + 2 * i) (2) (a3)) (c + 22 + 2 * i) (3) (a4)) (c + 22 + 2 * i) (4) (0)) (c + 22 + 2 * i) (5) (0)) (c + 22 + 2 * i) (6) (-1)) (c + 22 + 2 * i) (7) (-1)) (c + 22 + 2 * i) (8) (0))) (c + 22 + 2 * i + 1) 0 16 0)) := by
  simp (disch := omega) only [f_X5_begin, oManP hC, oManZ0 hC, some_bind]
  exact k_manL hC hi 16 0 FU _ (by omega) (by decide)
theorem r_manL2 (hS : ShM S m) {N : Nat} (hN : N < 16) : ∀ k j fu (μ : MU), j + k = 8 → k < fu → b_X12_man_198 fu (some m) (nI N) (nI j) (mkH n st S μ) = (aI (mkH n st S (filR μ (m + 1) (491 + 8 * N + j) (491 + 8 * N + 8) (-1))) (some (m + 1)) (nI 2)).bind fun v5 => (sI (mkH n st S (filR μ (m + 1) (491 + 8 * N + j) (491 + 8 * N + 8) (-1))) (some (m + 1)) (nI 2) (v5 + 1)).bind fun h6 => some (nI N, h6) := by
  intro k
  induction k with
  | zero =>
    intro j fu μ hj hf
    obtain ⟨fu, rfl⟩ : ∃ q, fu = q + 1 := ⟨fu - 1, by omega⟩
    obtain rfl : j = 8 := by omega
    rw [filR_nil]
    simp (disch := omega) only [b_X12_man_198, lit_lt, natF, if_false, mR0 hS, some_bind, lit_aI, lit_sI]
  | succ k ih =>
    intro j fu μ hj hf
    obtain ⟨fu, rfl⟩ : ∃ q, fu = q + 1 := ⟨fu - 1, by omega⟩
    simp (disch := omega) only [b_X12_man_198, lit_lt, natT, if_true, mR0 hS, some_bind, lit_mul, lit_add, nI_add, mS0 hS, nI_1]
    rw [ih (j + 1) fu _ (by omega) (by omega), ← Nat.add_assoc, filR_up (by omega)]
    simp (disch := omega) only [mS0 hS, some_bind]
theorem r_manL1 (hS : ShM S m) {N : Nat} (hN : N < 16) : ∀ k j fu (μ : MU), j + k = 16 → k < fu → b_X12_man_164 fu (some m) (nI N) (nI j) (mkH n st S μ) = b_X12_man_198 FU (some m) (nI N) (nI 0) (mkH n st S (filR μ (m + 1) (219 + 16 * N + j) (219 + 16 * N + 16) 0)) := by
  intro k
  induction k with
  | zero =>
    intro j fu μ hj hf
    obtain ⟨fu, rfl⟩ : ∃ q, fu = q + 1 := ⟨fu - 1, by omega⟩
    obtain rfl : j = 16 := by omega
    rw [filR_nil]
    simp (disch := omega) only [b_X12_man_164, lit_lt, natF, if_false]
    rfl
  | succ k ih =>
    intro j fu μ hj hf
    obtain ⟨fu, rfl⟩ : ∃ q, fu = q + 1 := ⟨fu - 1, by omega⟩
    simp (disch := omega) only [b_X12_man_164, lit_lt, natT, if_true, mR0 hS, some_bind, lit_mul, lit_add, nI_add, mS0 hS, nI_1]
    rw [ih (j + 1) fu _ (by omega) (by omega), ← Nat.add_assoc, filR_up (by omega)]
theorem exM_D {s i : Nat} (hs : Sim μ c D) (h5 : s < nD D 5) (hi : i < nD D 2) : exM μ (c + 78 + s) (c + 22 + 2 * i) = exB D s i := by
  have q0 := hs.she s 0 h5 (by omega)
  have q1 := hs.she s 1 h5 (by omega)
  have q2 := hs.she s 2 h5 (by omega)
  have r0 := hs.man i 0 hi (by omega)
  have r2 := hs.man i 2 hi (by omega)
  have r3 := hs.man i 3 hi (by omega)
  simp only [Nat.reduceMul, Nat.reduceAdd] at q0 q1 q2 r0 r2 r3
  simp only [exM, hisM, exB, hisS, q0, q1, q2, r0, r2, r3]
theorem neM_D {s i : Nat} (hs : Sim μ c D) (h5 : s < nD D 5) (hi : i < nD D 2) : neM μ (c + 78 + s) (c + 22 + 2 * i) = neB D s i := by
  have q0 := hs.she s 0 h5 (by omega)
  have q1 := hs.she s 1 h5 (by omega)
  have q2 := hs.she s 2 h5 (by omega)
  have r0 := hs.man i 0 hi (by omega)
  have r2 := hs.man i 2 hi (by omega)
  have r3 := hs.man i 3 hi (by omega)
  simp only [Nat.reduceMul, Nat.reduceAdd] at q0 q1 q2 r0 r2 r3
  simp only [neM, hisM, neB, apB, hisS, q0, q1, q2, r0, r2, r3]
theorem op_man (hR : R n st S μ x b) (a1 a2 a3 a4 : Int32) : Res (f_X11_man (some x) a1 a2 a3 a4) (f_X12_man (some (x + 175)) a1 a2 a3 a4) n st S μ x b := by
  have hR' := hR
  obtain ⟨⟨hX, hS, hs, hI, hL0⟩, hRest⟩ := hR
  have hC := hX.city
  have hBase := hRest.2.2.2.1
  obtain ⟨D, hD⟩ : ∃ D, μ (x + 175 + 1) = D := ⟨_, rfl⟩
  replace hs : Sim μ (x + 1) (μ (x + 175 + 1)) := hs
  replace hI : Inv (μ (x + 175 + 1)) := hI
  rw [hD] at hs hI
  obtain ⟨e0, b0⟩ := hI.today
  obtain ⟨e1, b1⟩ := hI.wards
  obtain ⟨e2, b2⟩ := hI.men
  obtain ⟨e3, b3⟩ := hI.words
  obtain ⟨e4, b4⟩ := hI.bars
  obtain ⟨e5, b5⟩ := hI.shes
  obtain ⟨e6, b6⟩ := hI.wets
  obtain ⟨e8, b8⟩ := hI.heaped
  have z0 := hs.today
  have z1 := hs.wardN
  have z2 := hs.manN
  have z3 := hs.wordN
  have z4 := hs.barN
  have z5 := hs.sheN
  have z6 := hs.wetN
  have z8 := hs.heapN
  by_cases c1 : ixB a1 (nD D 1) = true
  case neg => exact Res.same hR' (-1) (by simp (disch := omega) only [some_bind, ite_bI0, lit_add, lit_addr, lit_mul, lit_aI, lit_aZ, lit_aR, lit_sI, lit_sZ, nI_add, pk_mul, nn_lt, up2_same, up2_ne, ↓reduceIte, natT, natF, natE, natN, Nat.reduceAdd, Nat.reduceMul, Option.bind_some, if_true, if_false, Bool.false_eq_true, xR0 hX, xR2 hX, xR3 hX, xR4 hX, xR5 hX, xR7 hX, xR8 hX, xR10 hX, xR11 hX, xR12 hX, xR13 hX, xR14 hX, xR15 hX, xR16 hX, xI6 hX, xP6 hX, xI9 hX, xP9 hX, xck hX, xATap hX, xSTap hX, xAWai hX, xSWai hX, xALea hX, xSLea hX, xAMos hX, xSMos hX, xAGat hX, xSGat hX, xAThr hX, xSThr hX, xATra hX, xSTra hX, xACas hX, xSCas hX, xARMa hX, xSRMa hX, xARCl hX, xSRCl hX, xASWh hX, xSSWh hX, xASNu hX, xSSNu hX, xAPOf hX, xSPOf hX, xAPMe hX, xSPMe hX, xAAli hX, xSAli hX, rdR0 hX, rdI1 hX, rdP1 hX, rdR2 hX, rdI3 hX, rdP3 hX, rdI4 hX, rdP4 hX, rdI5 hX, rdP5 hX, rdI6 hX, rdP6 hX, rdI7 hX, rdP7 hX, rdZ7_0 hX, rdZ7_1 hX, rdI8 hX, rdP8 hX, rdI9 hX, rdP9 hX, rdI10 hX, rdP10 hX, rdR11 hX, rdI12 hX, rdP12 hX, rdck hX, poI0 hX, poP0 hX, poI1 hX, poP1 hX, poR2 hX, poR3 hX, poR4 hX, poR5 hX, pock hX, acI0 hX, acP0 hX, acI1 hX, acP1 hX, acI2 hX, acP2 hX, acR3 hX, acI4 hX, acP4 hX, acI5 hX, acP5 hX, acZ5_0 hX, acZ5_1 hX, acck hX, cI0 hX.city, cP0 hX.city, cR1 hX.city, cI2 hX.city, cP2 hX.city, cR3 hX.city, cI4 hX.city, cP4 hX.city, cR5 hX.city, cI6 hX.city, cP6 hX.city, cR7 hX.city, cI8 hX.city, cP8 hX.city, cR9 hX.city, cI10 hX.city, cP10 hX.city, cR11 hX.city, cI12 hX.city, cP12 hX.city, cR13 hX.city, cI14 hX.city, cP14 hX.city, cR15 hX.city, cR16 hX.city, cR17 hX.city, cI18 hX.city, cP18 hX.city, cR19 hX.city, cck hX.city, cAWet hX.city, cSWet hX.city, cARul hX.city, cSRul hX.city, cAHea hX.city, cSHea hX.city, cALin hX.city, cSLin hX.city, cATal hX.city, cSTal hX.city, cEwards hX.city, cEmen hX.city, cEwords hX.city, cEbargains hX.city, cEsherds hX.city, cElaws hX.city, cEtallies hX.city, oWardI hX.city, oWardP hX.city, oWardZ0 hX.city, oWardZ1 hX.city, oWardK hX.city, oBarI hX.city, oBarP hX.city, oBarZ0 hX.city, oBarZ1 hX.city, oBarK hX.city, oSheI hX.city, oSheP hX.city, oSheZ0 hX.city, oSheZ1 hX.city, oSheK hX.city, oManI hX.city, oManP hX.city, oManZ0 hX.city, oManZ1 hX.city, oManK hX.city, oManR hX.city, oManA hX.city, oManS hX.city, oWordI hX.city, oWordP hX.city, oWordZ0 hX.city, oWordZ1 hX.city, oWordK hX.city, oWordR hX.city, oWordA hX.city, oWordS hX.city, f_X11_man, k_within, k_isDay, k_isClub, k_isName, k_hasMan hC hs hI, k_hasWard hC hs hI, k_hasSherd hC hs hI, k_hasBargain hC hs hI, k_areTwoMen hC hs hI, k_isWet hC hs hI, z0, z1, z2, z3, z4, z5, z6, z8, e0, e1, e2, e3, e4, e5, e6, e8, lit_lt, lit_eq, if_true, if_false, ite_self, Bool.true_and, Bool.and_true, decide_true, decide_false, Bool.false_eq_true, Bool.false_and, Bool.and_false,  c1]) (by simp (disch := omega) only [some_bind, ite_bI0, lit_add, lit_addr, lit_mul, lit_aI, lit_aZ, lit_aR, lit_sI, lit_sZ, nI_add, pk_mul, nn_lt, up2_same, up2_ne, ↓reduceIte, natT, natF, natE, natN, Nat.reduceAdd, Nat.reduceMul, Option.bind_some, if_true, if_false, Bool.false_eq_true, mR0 hS, mA0 hS, mS0 hS, mR1 hS, mA1 hS, mS1 hS, mI2 hS, mP2 hS, mZ2_0 hS, mZ2_1 hS, mR3 hS, mA3 hS, mS3 hS, mI4 hS, mP4 hS, mR5 hS, mA5 hS, mS5 hS, mR6 hS, mA6 hS, mS6 hS, mR7 hS, mA7 hS, mS7 hS, mR8 hS, mA8 hS, mS8 hS, mR9 hS, mA9 hS, mS9 hS, mR10 hS, mA10 hS, mS10 hS, mI11 hS, mP11 hS, mI12 hS, mP12 hS, mI13 hS, mP13 hS, mI14 hS, mP14 hS, mI15 hS, mP15 hS, mI16 hS, mP16 hS, mI17 hS, mP17 hS, mI18 hS, mP18 hS, mR19 hS, mA19 hS, mS19 hS, mR20 hS, mA20 hS, mS20 hS, mR21 hS, mA21 hS, mS21 hS, mI22 hS, mP22 hS, mI23 hS, mP23 hS, mI24 hS, mP24 hS, mI25 hS, mP25 hS, mI26 hS, mP26 hS, mR27 hS, mA27 hS, mS27 hS, mR28 hS, mA28 hS, mS28 hS, mI29 hS, mP29 hS, mR30 hS, mA30 hS, mS30 hS, mR31 hS, mA31 hS, mS31 hS, mR32 hS, mA32 hS, mS32 hS, mR33 hS, mA33 hS, mS33 hS, mR34 hS, mA34 hS, mS34 hS, mR35 hS, mA35 hS, mS35 hS, mR36 hS, mA36 hS, mS36 hS, mR37 hS, mA37 hS, mS37 hS, mI38 hS, mP38 hS, mI39 hS, mP39 hS, mI40 hS, mP40 hS, mI41 hS, mP41 hS, mI42 hS, mP42 hS, mZ42_0 hS, mZ42_1 hS, rck hS, f_X12_man, s_in, s_isDay, s_isClub, r_isName, e0, e1, e2, e3, e4, e5, e6, e8, lit_lt, lit_eq, if_true, if_false, ite_self, hD, hD, r_isMan hS hD hI, r_isWard hS hD hI, r_isSherd hS hD hI, r_isWet hS hD hI, Bool.false_eq_true,  c1])
  by_cases c2 : inS a2 (-1) 5 = true
  case neg => exact Res.same hR' (-1) (by simp (disch := omega) only [some_bind, ite_bI0, lit_add, lit_addr, lit_mul, lit_aI, lit_aZ, lit_aR, lit_sI, lit_sZ, nI_add, pk_mul, nn_lt, up2_same, up2_ne, ↓reduceIte, natT, natF, natE, natN, Nat.reduceAdd, Nat.reduceMul, Option.bind_some, if_true, if_false, Bool.false_eq_true, xR0 hX, xR2 hX, xR3 hX, xR4 hX, xR5 hX, xR7 hX, xR8 hX, xR10 hX, xR11 hX, xR12 hX, xR13 hX, xR14 hX, xR15 hX, xR16 hX, xI6 hX, xP6 hX, xI9 hX, xP9 hX, xck hX, xATap hX, xSTap hX, xAWai hX, xSWai hX, xALea hX, xSLea hX, xAMos hX, xSMos hX, xAGat hX, xSGat hX, xAThr hX, xSThr hX, xATra hX, xSTra hX, xACas hX, xSCas hX, xARMa hX, xSRMa hX, xARCl hX, xSRCl hX, xASWh hX, xSSWh hX, xASNu hX, xSSNu hX, xAPOf hX, xSPOf hX, xAPMe hX, xSPMe hX, xAAli hX, xSAli hX, rdR0 hX, rdI1 hX, rdP1 hX, rdR2 hX, rdI3 hX, rdP3 hX, rdI4 hX, rdP4 hX, rdI5 hX, rdP5 hX, rdI6 hX, rdP6 hX, rdI7 hX, rdP7 hX, rdZ7_0 hX, rdZ7_1 hX, rdI8 hX, rdP8 hX, rdI9 hX, rdP9 hX, rdI10 hX, rdP10 hX, rdR11 hX, rdI12 hX, rdP12 hX, rdck hX, poI0 hX, poP0 hX, poI1 hX, poP1 hX, poR2 hX, poR3 hX, poR4 hX, poR5 hX, pock hX, acI0 hX, acP0 hX, acI1 hX, acP1 hX, acI2 hX, acP2 hX, acR3 hX, acI4 hX, acP4 hX, acI5 hX, acP5 hX, acZ5_0 hX, acZ5_1 hX, acck hX, cI0 hX.city, cP0 hX.city, cR1 hX.city, cI2 hX.city, cP2 hX.city, cR3 hX.city, cI4 hX.city, cP4 hX.city, cR5 hX.city, cI6 hX.city, cP6 hX.city, cR7 hX.city, cI8 hX.city, cP8 hX.city, cR9 hX.city, cI10 hX.city, cP10 hX.city, cR11 hX.city, cI12 hX.city, cP12 hX.city, cR13 hX.city, cI14 hX.city, cP14 hX.city, cR15 hX.city, cR16 hX.city, cR17 hX.city, cI18 hX.city, cP18 hX.city, cR19 hX.city, cck hX.city, cAWet hX.city, cSWet hX.city, cARul hX.city, cSRul hX.city, cAHea hX.city, cSHea hX.city, cALin hX.city, cSLin hX.city, cATal hX.city, cSTal hX.city, cEwards hX.city, cEmen hX.city, cEwords hX.city, cEbargains hX.city, cEsherds hX.city, cElaws hX.city, cEtallies hX.city, oWardI hX.city, oWardP hX.city, oWardZ0 hX.city, oWardZ1 hX.city, oWardK hX.city, oBarI hX.city, oBarP hX.city, oBarZ0 hX.city, oBarZ1 hX.city, oBarK hX.city, oSheI hX.city, oSheP hX.city, oSheZ0 hX.city, oSheZ1 hX.city, oSheK hX.city, oManI hX.city, oManP hX.city, oManZ0 hX.city, oManZ1 hX.city, oManK hX.city, oManR hX.city, oManA hX.city, oManS hX.city, oWordI hX.city, oWordP hX.city, oWordZ0 hX.city, oWordZ1 hX.city, oWordK hX.city, oWordR hX.city, oWordA hX.city, oWordS hX.city, f_X11_man, k_within, k_isDay, k_isClub, k_isName, k_hasMan hC hs hI, k_hasWard hC hs hI, k_hasSherd hC hs hI, k_hasBargain hC hs hI, k_areTwoMen hC hs hI, k_isWet hC hs hI, z0, z1, z2, z3, z4, z5, z6, z8, e0, e1, e2, e3, e4, e5, e6, e8, lit_lt, lit_eq, if_true, if_false, ite_self, Bool.true_and, Bool.and_true, decide_true, decide_false, Bool.false_eq_true, Bool.false_and, Bool.and_false,  c1, c2]) (by simp (disch := omega) only [some_bind, ite_bI0, lit_add, lit_addr, lit_mul, lit_aI, lit_aZ, lit_aR, lit_sI, lit_sZ, nI_add, pk_mul, nn_lt, up2_same, up2_ne, ↓reduceIte, natT, natF, natE, natN, Nat.reduceAdd, Nat.reduceMul, Option.bind_some, if_true, if_false, Bool.false_eq_true, mR0 hS, mA0 hS, mS0 hS, mR1 hS, mA1 hS, mS1 hS, mI2 hS, mP2 hS, mZ2_0 hS, mZ2_1 hS, mR3 hS, mA3 hS, mS3 hS, mI4 hS, mP4 hS, mR5 hS, mA5 hS, mS5 hS, mR6 hS, mA6 hS, mS6 hS, mR7 hS, mA7 hS, mS7 hS, mR8 hS, mA8 hS, mS8 hS, mR9 hS, mA9 hS, mS9 hS, mR10 hS, mA10 hS, mS10 hS, mI11 hS, mP11 hS, mI12 hS, mP12 hS, mI13 hS, mP13 hS, mI14 hS, mP14 hS, mI15 hS, mP15 hS, mI16 hS, mP16 hS, mI17 hS, mP17 hS, mI18 hS, mP18 hS, mR19 hS, mA19 hS, mS19 hS, mR20 hS, mA20 hS, mS20 hS, mR21 hS, mA21 hS, mS21 hS, mI22 hS, mP22 hS, mI23 hS, mP23 hS, mI24 hS, mP24 hS, mI25 hS, mP25 hS, mI26 hS, mP26 hS, mR27 hS, mA27 hS, mS27 hS, mR28 hS, mA28 hS, mS28 hS, mI29 hS, mP29 hS, mR30 hS, mA30 hS, mS30 hS, mR31 hS, mA31 hS, mS31 hS, mR32 hS, mA32 hS, mS32 hS, mR33 hS, mA33 hS, mS33 hS, mR34 hS, mA34 hS, mS34 hS, mR35 hS, mA35 hS, mS35 hS, mR36 hS, mA36 hS, mS36 hS, mR37 hS, mA37 hS, mS37 hS, mI38 hS, mP38 hS, mI39 hS, mP39 hS, mI40 hS, mP40 hS, mI41 hS, mP41 hS, mI42 hS, mP42 hS, mZ42_0 hS, mZ42_1 hS, rck hS, f_X12_man, s_in, s_isDay, s_isClub, r_isName, e0, e1, e2, e3, e4, e5, e6, e8, lit_lt, lit_eq, if_true, if_false, ite_self, hD, hD, r_isMan hS hD hI, r_isWard hS hD hI, r_isSherd hS hD hI, r_isWet hS hD hI, Bool.false_eq_true,  c1, c2])
  by_cases c3 : nmB a3 = true
  case neg => exact Res.same hR' (-1) (by simp (disch := omega) only [some_bind, ite_bI0, lit_add, lit_addr, lit_mul, lit_aI, lit_aZ, lit_aR, lit_sI, lit_sZ, nI_add, pk_mul, nn_lt, up2_same, up2_ne, ↓reduceIte, natT, natF, natE, natN, Nat.reduceAdd, Nat.reduceMul, Option.bind_some, if_true, if_false, Bool.false_eq_true, xR0 hX, xR2 hX, xR3 hX, xR4 hX, xR5 hX, xR7 hX, xR8 hX, xR10 hX, xR11 hX, xR12 hX, xR13 hX, xR14 hX, xR15 hX, xR16 hX, xI6 hX, xP6 hX, xI9 hX, xP9 hX, xck hX, xATap hX, xSTap hX, xAWai hX, xSWai hX, xALea hX, xSLea hX, xAMos hX, xSMos hX, xAGat hX, xSGat hX, xAThr hX, xSThr hX, xATra hX, xSTra hX, xACas hX, xSCas hX, xARMa hX, xSRMa hX, xARCl hX, xSRCl hX, xASWh hX, xSSWh hX, xASNu hX, xSSNu hX, xAPOf hX, xSPOf hX, xAPMe hX, xSPMe hX, xAAli hX, xSAli hX, rdR0 hX, rdI1 hX, rdP1 hX, rdR2 hX, rdI3 hX, rdP3 hX, rdI4 hX, rdP4 hX, rdI5 hX, rdP5 hX, rdI6 hX, rdP6 hX, rdI7 hX, rdP7 hX, rdZ7_0 hX, rdZ7_1 hX, rdI8 hX, rdP8 hX, rdI9 hX, rdP9 hX, rdI10 hX, rdP10 hX, rdR11 hX, rdI12 hX, rdP12 hX, rdck hX, poI0 hX, poP0 hX, poI1 hX, poP1 hX, poR2 hX, poR3 hX, poR4 hX, poR5 hX, pock hX, acI0 hX, acP0 hX, acI1 hX, acP1 hX, acI2 hX, acP2 hX, acR3 hX, acI4 hX, acP4 hX, acI5 hX, acP5 hX, acZ5_0 hX, acZ5_1 hX, acck hX, cI0 hX.city, cP0 hX.city, cR1 hX.city, cI2 hX.city, cP2 hX.city, cR3 hX.city, cI4 hX.city, cP4 hX.city, cR5 hX.city, cI6 hX.city, cP6 hX.city, cR7 hX.city, cI8 hX.city, cP8 hX.city, cR9 hX.city, cI10 hX.city, cP10 hX.city, cR11 hX.city, cI12 hX.city, cP12 hX.city, cR13 hX.city, cI14 hX.city, cP14 hX.city, cR15 hX.city, cR16 hX.city, cR17 hX.city, cI18 hX.city, cP18 hX.city, cR19 hX.city, cck hX.city, cAWet hX.city, cSWet hX.city, cARul hX.city, cSRul hX.city, cAHea hX.city, cSHea hX.city, cALin hX.city, cSLin hX.city, cATal hX.city, cSTal hX.city, cEwards hX.city, cEmen hX.city, cEwords hX.city, cEbargains hX.city, cEsherds hX.city, cElaws hX.city, cEtallies hX.city, oWardI hX.city, oWardP hX.city, oWardZ0 hX.city, oWardZ1 hX.city, oWardK hX.city, oBarI hX.city, oBarP hX.city, oBarZ0 hX.city, oBarZ1 hX.city, oBarK hX.city, oSheI hX.city, oSheP hX.city, oSheZ0 hX.city, oSheZ1 hX.city, oSheK hX.city, oManI hX.city, oManP hX.city, oManZ0 hX.city, oManZ1 hX.city, oManK hX.city, oManR hX.city, oManA hX.city, oManS hX.city, oWordI hX.city, oWordP hX.city, oWordZ0 hX.city, oWordZ1 hX.city, oWordK hX.city, oWordR hX.city, oWordA hX.city, oWordS hX.city, f_X11_man, k_within, k_isDay, k_isClub, k_isName, k_hasMan hC hs hI, k_hasWard hC hs hI, k_hasSherd hC hs hI, k_hasBargain hC hs hI, k_areTwoMen hC hs hI, k_isWet hC hs hI, z0, z1, z2, z3, z4, z5, z6, z8, e0, e1, e2, e3, e4, e5, e6, e8, lit_lt, lit_eq, if_true, if_false, ite_self, Bool.true_and, Bool.and_true, decide_true, decide_false, Bool.false_eq_true, Bool.false_and, Bool.and_false,  c1, c2, c3]) (by simp (disch := omega) only [some_bind, ite_bI0, lit_add, lit_addr, lit_mul, lit_aI, lit_aZ, lit_aR, lit_sI, lit_sZ, nI_add, pk_mul, nn_lt, up2_same, up2_ne, ↓reduceIte, natT, natF, natE, natN, Nat.reduceAdd, Nat.reduceMul, Option.bind_some, if_true, if_false, Bool.false_eq_true, mR0 hS, mA0 hS, mS0 hS, mR1 hS, mA1 hS, mS1 hS, mI2 hS, mP2 hS, mZ2_0 hS, mZ2_1 hS, mR3 hS, mA3 hS, mS3 hS, mI4 hS, mP4 hS, mR5 hS, mA5 hS, mS5 hS, mR6 hS, mA6 hS, mS6 hS, mR7 hS, mA7 hS, mS7 hS, mR8 hS, mA8 hS, mS8 hS, mR9 hS, mA9 hS, mS9 hS, mR10 hS, mA10 hS, mS10 hS, mI11 hS, mP11 hS, mI12 hS, mP12 hS, mI13 hS, mP13 hS, mI14 hS, mP14 hS, mI15 hS, mP15 hS, mI16 hS, mP16 hS, mI17 hS, mP17 hS, mI18 hS, mP18 hS, mR19 hS, mA19 hS, mS19 hS, mR20 hS, mA20 hS, mS20 hS, mR21 hS, mA21 hS, mS21 hS, mI22 hS, mP22 hS, mI23 hS, mP23 hS, mI24 hS, mP24 hS, mI25 hS, mP25 hS, mI26 hS, mP26 hS, mR27 hS, mA27 hS, mS27 hS, mR28 hS, mA28 hS, mS28 hS, mI29 hS, mP29 hS, mR30 hS, mA30 hS, mS30 hS, mR31 hS, mA31 hS, mS31 hS, mR32 hS, mA32 hS, mS32 hS, mR33 hS, mA33 hS, mS33 hS, mR34 hS, mA34 hS, mS34 hS, mR35 hS, mA35 hS, mS35 hS, mR36 hS, mA36 hS, mS36 hS, mR37 hS, mA37 hS, mS37 hS, mI38 hS, mP38 hS, mI39 hS, mP39 hS, mI40 hS, mP40 hS, mI41 hS, mP41 hS, mI42 hS, mP42 hS, mZ42_0 hS, mZ42_1 hS, rck hS, f_X12_man, s_in, s_isDay, s_isClub, r_isName, e0, e1, e2, e3, e4, e5, e6, e8, lit_lt, lit_eq, if_true, if_false, ite_self, hD, hD, r_isMan hS hD hI, r_isWard hS hD hI, r_isSherd hS hD hI, r_isWet hS hD hI, Bool.false_eq_true,  c1, c2, c3])
  by_cases c4 : nmB a4 = true
  case neg => exact Res.same hR' (-1) (by simp (disch := omega) only [some_bind, ite_bI0, lit_add, lit_addr, lit_mul, lit_aI, lit_aZ, lit_aR, lit_sI, lit_sZ, nI_add, pk_mul, nn_lt, up2_same, up2_ne, ↓reduceIte, natT, natF, natE, natN, Nat.reduceAdd, Nat.reduceMul, Option.bind_some, if_true, if_false, Bool.false_eq_true, xR0 hX, xR2 hX, xR3 hX, xR4 hX, xR5 hX, xR7 hX, xR8 hX, xR10 hX, xR11 hX, xR12 hX, xR13 hX, xR14 hX, xR15 hX, xR16 hX, xI6 hX, xP6 hX, xI9 hX, xP9 hX, xck hX, xATap hX, xSTap hX, xAWai hX, xSWai hX, xALea hX, xSLea hX, xAMos hX, xSMos hX, xAGat hX, xSGat hX, xAThr hX, xSThr hX, xATra hX, xSTra hX, xACas hX, xSCas hX, xARMa hX, xSRMa hX, xARCl hX, xSRCl hX, xASWh hX, xSSWh hX, xASNu hX, xSSNu hX, xAPOf hX, xSPOf hX, xAPMe hX, xSPMe hX, xAAli hX, xSAli hX, rdR0 hX, rdI1 hX, rdP1 hX, rdR2 hX, rdI3 hX, rdP3 hX, rdI4 hX, rdP4 hX, rdI5 hX, rdP5 hX, rdI6 hX, rdP6 hX, rdI7 hX, rdP7 hX, rdZ7_0 hX, rdZ7_1 hX, rdI8 hX, rdP8 hX, rdI9 hX, rdP9 hX, rdI10 hX, rdP10 hX, rdR11 hX, rdI12 hX, rdP12 hX, rdck hX, poI0 hX, poP0 hX, poI1 hX, poP1 hX, poR2 hX, poR3 hX, poR4 hX, poR5 hX, pock hX, acI0 hX, acP0 hX, acI1 hX, acP1 hX, acI2 hX, acP2 hX, acR3 hX, acI4 hX, acP4 hX, acI5 hX, acP5 hX, acZ5_0 hX, acZ5_1 hX, acck hX, cI0 hX.city, cP0 hX.city, cR1 hX.city, cI2 hX.city, cP2 hX.city, cR3 hX.city, cI4 hX.city, cP4 hX.city, cR5 hX.city, cI6 hX.city, cP6 hX.city, cR7 hX.city, cI8 hX.city, cP8 hX.city, cR9 hX.city, cI10 hX.city, cP10 hX.city, cR11 hX.city, cI12 hX.city, cP12 hX.city, cR13 hX.city, cI14 hX.city, cP14 hX.city, cR15 hX.city, cR16 hX.city, cR17 hX.city, cI18 hX.city, cP18 hX.city, cR19 hX.city, cck hX.city, cAWet hX.city, cSWet hX.city, cARul hX.city, cSRul hX.city, cAHea hX.city, cSHea hX.city, cALin hX.city, cSLin hX.city, cATal hX.city, cSTal hX.city, cEwards hX.city, cEmen hX.city, cEwords hX.city, cEbargains hX.city, cEsherds hX.city, cElaws hX.city, cEtallies hX.city, oWardI hX.city, oWardP hX.city, oWardZ0 hX.city, oWardZ1 hX.city, oWardK hX.city, oBarI hX.city, oBarP hX.city, oBarZ0 hX.city, oBarZ1 hX.city, oBarK hX.city, oSheI hX.city, oSheP hX.city, oSheZ0 hX.city, oSheZ1 hX.city, oSheK hX.city, oManI hX.city, oManP hX.city, oManZ0 hX.city, oManZ1 hX.city, oManK hX.city, oManR hX.city, oManA hX.city, oManS hX.city, oWordI hX.city, oWordP hX.city, oWordZ0 hX.city, oWordZ1 hX.city, oWordK hX.city, oWordR hX.city, oWordA hX.city, oWordS hX.city, f_X11_man, k_within, k_isDay, k_isClub, k_isName, k_hasMan hC hs hI, k_hasWard hC hs hI, k_hasSherd hC hs hI, k_hasBargain hC hs hI, k_areTwoMen hC hs hI, k_isWet hC hs hI, z0, z1, z2, z3, z4, z5, z6, z8, e0, e1, e2, e3, e4, e5, e6, e8, lit_lt, lit_eq, if_true, if_false, ite_self, Bool.true_and, Bool.and_true, decide_true, decide_false, Bool.false_eq_true, Bool.false_and, Bool.and_false,  c1, c2, c3, c4]) (by simp (disch := omega) only [some_bind, ite_bI0, lit_add, lit_addr, lit_mul, lit_aI, lit_aZ, lit_aR, lit_sI, lit_sZ, nI_add, pk_mul, nn_lt, up2_same, up2_ne, ↓reduceIte, natT, natF, natE, natN, Nat.reduceAdd, Nat.reduceMul, Option.bind_some, if_true, if_false, Bool.false_eq_true, mR0 hS, mA0 hS, mS0 hS, mR1 hS, mA1 hS, mS1 hS, mI2 hS, mP2 hS, mZ2_0 hS, mZ2_1 hS, mR3 hS, mA3 hS, mS3 hS, mI4 hS, mP4 hS, mR5 hS, mA5 hS, mS5 hS, mR6 hS, mA6 hS, mS6 hS, mR7 hS, mA7 hS, mS7 hS, mR8 hS, mA8 hS, mS8 hS, mR9 hS, mA9 hS, mS9 hS, mR10 hS, mA10 hS, mS10 hS, mI11 hS, mP11 hS, mI12 hS, mP12 hS, mI13 hS, mP13 hS, mI14 hS, mP14 hS, mI15 hS, mP15 hS, mI16 hS, mP16 hS, mI17 hS, mP17 hS, mI18 hS, mP18 hS, mR19 hS, mA19 hS, mS19 hS, mR20 hS, mA20 hS, mS20 hS, mR21 hS, mA21 hS, mS21 hS, mI22 hS, mP22 hS, mI23 hS, mP23 hS, mI24 hS, mP24 hS, mI25 hS, mP25 hS, mI26 hS, mP26 hS, mR27 hS, mA27 hS, mS27 hS, mR28 hS, mA28 hS, mS28 hS, mI29 hS, mP29 hS, mR30 hS, mA30 hS, mS30 hS, mR31 hS, mA31 hS, mS31 hS, mR32 hS, mA32 hS, mS32 hS, mR33 hS, mA33 hS, mS33 hS, mR34 hS, mA34 hS, mS34 hS, mR35 hS, mA35 hS, mS35 hS, mR36 hS, mA36 hS, mS36 hS, mR37 hS, mA37 hS, mS37 hS, mI38 hS, mP38 hS, mI39 hS, mP39 hS, mI40 hS, mP40 hS, mI41 hS, mP41 hS, mI42 hS, mP42 hS, mZ42_0 hS, mZ42_1 hS, rck hS, f_X12_man, s_in, s_isDay, s_isClub, r_isName, e0, e1, e2, e3, e4, e5, e6, e8, lit_lt, lit_eq, if_true, if_false, ite_self, hD, hD, r_isMan hS hD hI, r_isWard hS hD hI, r_isSherd hS hD hI, r_isWet hS hD hI, Bool.false_eq_true,  c1, c2, c3, c4])
  by_cases c5 : nD D 2 < 16
  case neg => exact Res.same hR' (-2) (by simp (disch := omega) only [some_bind, ite_bI0, lit_add, lit_addr, lit_mul, lit_aI, lit_aZ, lit_aR, lit_sI, lit_sZ, nI_add, pk_mul, nn_lt, up2_same, up2_ne, ↓reduceIte, natT, natF, natE, natN, Nat.reduceAdd, Nat.reduceMul, Option.bind_some, if_true, if_false, Bool.false_eq_true, xR0 hX, xR2 hX, xR3 hX, xR4 hX, xR5 hX, xR7 hX, xR8 hX, xR10 hX, xR11 hX, xR12 hX, xR13 hX, xR14 hX, xR15 hX, xR16 hX, xI6 hX, xP6 hX, xI9 hX, xP9 hX, xck hX, xATap hX, xSTap hX, xAWai hX, xSWai hX, xALea hX, xSLea hX, xAMos hX, xSMos hX, xAGat hX, xSGat hX, xAThr hX, xSThr hX, xATra hX, xSTra hX, xACas hX, xSCas hX, xARMa hX, xSRMa hX, xARCl hX, xSRCl hX, xASWh hX, xSSWh hX, xASNu hX, xSSNu hX, xAPOf hX, xSPOf hX, xAPMe hX, xSPMe hX, xAAli hX, xSAli hX, rdR0 hX, rdI1 hX, rdP1 hX, rdR2 hX, rdI3 hX, rdP3 hX, rdI4 hX, rdP4 hX, rdI5 hX, rdP5 hX, rdI6 hX, rdP6 hX, rdI7 hX, rdP7 hX, rdZ7_0 hX, rdZ7_1 hX, rdI8 hX, rdP8 hX, rdI9 hX, rdP9 hX, rdI10 hX, rdP10 hX, rdR11 hX, rdI12 hX, rdP12 hX, rdck hX, poI0 hX, poP0 hX, poI1 hX, poP1 hX, poR2 hX, poR3 hX, poR4 hX, poR5 hX, pock hX, acI0 hX, acP0 hX, acI1 hX, acP1 hX, acI2 hX, acP2 hX, acR3 hX, acI4 hX, acP4 hX, acI5 hX, acP5 hX, acZ5_0 hX, acZ5_1 hX, acck hX, cI0 hX.city, cP0 hX.city, cR1 hX.city, cI2 hX.city, cP2 hX.city, cR3 hX.city, cI4 hX.city, cP4 hX.city, cR5 hX.city, cI6 hX.city, cP6 hX.city, cR7 hX.city, cI8 hX.city, cP8 hX.city, cR9 hX.city, cI10 hX.city, cP10 hX.city, cR11 hX.city, cI12 hX.city, cP12 hX.city, cR13 hX.city, cI14 hX.city, cP14 hX.city, cR15 hX.city, cR16 hX.city, cR17 hX.city, cI18 hX.city, cP18 hX.city, cR19 hX.city, cck hX.city, cAWet hX.city, cSWet hX.city, cARul hX.city, cSRul hX.city, cAHea hX.city, cSHea hX.city, cALin hX.city, cSLin hX.city, cATal hX.city, cSTal hX.city, cEwards hX.city, cEmen hX.city, cEwords hX.city, cEbargains hX.city, cEsherds hX.city, cElaws hX.city, cEtallies hX.city, oWardI hX.city, oWardP hX.city, oWardZ0 hX.city, oWardZ1 hX.city, oWardK hX.city, oBarI hX.city, oBarP hX.city, oBarZ0 hX.city, oBarZ1 hX.city, oBarK hX.city, oSheI hX.city, oSheP hX.city, oSheZ0 hX.city, oSheZ1 hX.city, oSheK hX.city, oManI hX.city, oManP hX.city, oManZ0 hX.city, oManZ1 hX.city, oManK hX.city, oManR hX.city, oManA hX.city, oManS hX.city, oWordI hX.city, oWordP hX.city, oWordZ0 hX.city, oWordZ1 hX.city, oWordK hX.city, oWordR hX.city, oWordA hX.city, oWordS hX.city, f_X11_man, k_within, k_isDay, k_isClub, k_isName, k_hasMan hC hs hI, k_hasWard hC hs hI, k_hasSherd hC hs hI, k_hasBargain hC hs hI, k_areTwoMen hC hs hI, k_isWet hC hs hI, z0, z1, z2, z3, z4, z5, z6, z8, e0, e1, e2, e3, e4, e5, e6, e8, lit_lt, lit_eq, if_true, if_false, ite_self, Bool.true_and, Bool.and_true, decide_true, decide_false, Bool.false_eq_true, Bool.false_and, Bool.and_false,  c1, c2, c3, c4]) (by simp (disch := omega) only [some_bind, ite_bI0, lit_add, lit_addr, lit_mul, lit_aI, lit_aZ, lit_aR, lit_sI, lit_sZ, nI_add, pk_mul, nn_lt, up2_same, up2_ne, ↓reduceIte, natT, natF, natE, natN, Nat.reduceAdd, Nat.reduceMul, Option.bind_some, if_true, if_false, Bool.false_eq_true, mR0 hS, mA0 hS, mS0 hS, mR1 hS, mA1 hS, mS1 hS, mI2 hS, mP2 hS, mZ2_0 hS, mZ2_1 hS, mR3 hS, mA3 hS, mS3 hS, mI4 hS, mP4 hS, mR5 hS, mA5 hS, mS5 hS, mR6 hS, mA6 hS, mS6 hS, mR7 hS, mA7 hS, mS7 hS, mR8 hS, mA8 hS, mS8 hS, mR9 hS, mA9 hS, mS9 hS, mR10 hS, mA10 hS, mS10 hS, mI11 hS, mP11 hS, mI12 hS, mP12 hS, mI13 hS, mP13 hS, mI14 hS, mP14 hS, mI15 hS, mP15 hS, mI16 hS, mP16 hS, mI17 hS, mP17 hS, mI18 hS, mP18 hS, mR19 hS, mA19 hS, mS19 hS, mR20 hS, mA20 hS, mS20 hS, mR21 hS, mA21 hS, mS21 hS, mI22 hS, mP22 hS, mI23 hS, mP23 hS, mI24 hS, mP24 hS, mI25 hS, mP25 hS, mI26 hS, mP26 hS, mR27 hS, mA27 hS, mS27 hS, mR28 hS, mA28 hS, mS28 hS, mI29 hS, mP29 hS, mR30 hS, mA30 hS, mS30 hS, mR31 hS, mA31 hS, mS31 hS, mR32 hS, mA32 hS, mS32 hS, mR33 hS, mA33 hS, mS33 hS, mR34 hS, mA34 hS, mS34 hS, mR35 hS, mA35 hS, mS35 hS, mR36 hS, mA36 hS, mS36 hS, mR37 hS, mA37 hS, mS37 hS, mI38 hS, mP38 hS, mI39 hS, mP39 hS, mI40 hS, mP40 hS, mI41 hS, mP41 hS, mI42 hS, mP42 hS, mZ42_0 hS, mZ42_1 hS, rck hS, f_X12_man, s_in, s_isDay, s_isClub, r_isName, e0, e1, e2, e3, e4, e5, e6, e8, lit_lt, lit_eq, if_true, if_false, ite_self, hD, hD, r_isMan hS hD hI, r_isWard hS hD hI, r_isSherd hS hD hI, r_isWet hS hD hI, Bool.false_eq_true,  c1, c2, c3, c4])
  obtain ⟨μA, hA⟩ : ∃ q, q = (filR ((up2 (up2 (up2 (up2 (up2 (up2 (up2 (up2 (up2 μ (x + 1 + 22 + 2 * nD D 2) (0) (a1)) (x + 1 + 22 + 2 * nD D 2) (1) (a2)) (x + 1 + 22 + 2 * nD D 2) (2) (a3)) (x + 1 + 22 + 2 * nD D 2) (3) (a4)) (x + 1 + 22 + 2 * nD D 2) (4) (0)) (x + 1 + 22 + 2 * nD D 2) (5) (0)) (x + 1 + 22 + 2 * nD D 2) (6) (-1)) (x + 1 + 22 + 2 * nD D 2) (7) (-1)) (x + 1 + 22 + 2 * nD D 2) (8) (0))) (x + 1 + 22 + 2 * nD D 2 + 1) 0 16 0) := ⟨_, rfl⟩
  have hAn : ∀ a j, ¬ (a = x + 1 + 22 + 2 * nD D 2) → ¬ (a = x + 1 + 22 + 2 * nD D 2 + 1) → μA a j = μ a j := fun a j h1 h2 => by rw [hA]; simp (disch := omega) only [filR_ne, up2_ne]
  have hAm : ∀ j, j < 9 → μA (x + 1 + 22 + 2 * nD D 2) j = if j = 0 then a1 else if j = 1 then a2 else if j = 2 then a3 else if j = 3 then a4 else if j = 6 ∨ j = 7 then -1 else 0 := by
    intro j hj
    rw [hA]
    rcases (by omega : j = 0 ∨ j = 1 ∨ j = 2 ∨ j = 3 ∨ j = 4 ∨ j = 5 ∨ j = 6 ∨ j = 7 ∨ j = 8) with rfl | rfl | rfl | rfl | rfl | rfl | rfl | rfl | rfl
    all_goals simp (disch := omega) only [filR_ne, up2_ne, up2_same]; rfl
  have hAf : ∀ k, k < 16 → μA (x + 1 + 22 + 2 * nD D 2 + 1) k = 0 := fun k hk => by rw [hA, filR_in (by omega) hk]
  obtain ⟨μ', g1, gF, g9, g10⟩ := k_addManL (n := n) (st := st) (μ := μA) hC (N := nD D 2) (M := nD D 5) c5 (by omega) (by rw [hAn _ _ (by omega) (by omega), z2, e2]) (by rw [hAn _ _ (by omega) (by omega), z5, e5]) (by
    intro s hs5
    have := hs.she s 0 hs5 (by omega)
    rw [hAn _ _ (by omega) (by omega), this]
    exact hI.sName s hs5) (by rw [hAm 2 (by omega)]; exact c3) (nD D 5) 0 FU μA (by omega) (by have : FU = 4000 := rfl; omega) (fun _ _ _ _ => rfl) (fun s _ => by simp) (fun s _ => by simp)
  have gF' : ∀ a j, ¬ a = x + 1 + 13 → ¬ (x + 1 + 78 ≤ a ∧ a < x + 1 + 118 ∧ (j = 9 ∨ j = 10)) → μ' a j = μA a j := gF
  obtain ⟨μ1, h1⟩ : ∃ q, q = up2 μ' (x + 1) 6 (nI (nD D 2 + 1)) := ⟨_, rfl⟩
  have fx : f_X11_man (some x) a1 a2 a3 a4 (mkH n st S μ) = some (nI (nD D 2), mkH n st S μ1) := by
    have kb := k_manB (n := n) (st := st) (μ := μ) hC (i := nD D 2) c5 a1 a2 a3 a4
    rw [← hA] at kb
    simp (disch := omega) only [f_X11_man, xR0 hX, some_bind, cck hC, k_hasWard hC hs hI, ite_bI0, c1, k_within, c2, k_isName, c3, c4, if_true, cI6 hC, z2, e2, lit_lt, natT, f_X2_addMan, cR5 hC, cEmen hC, oManK hC, kb]
    rw [h1]
    exact congrArg (fun q : Option (Int32 × AH) => q.bind fun p9 => some (p9.1, p9.2)) g1
  have hD1 : μ1 (x + 175 + 1) = D := by funext q; rw [h1, up2_ne (by omega), gF' _ _ (by omega) (by omega), hAn _ _ (by omega) (by omega), hD]
  obtain ⟨μ2, h2⟩ : ∃ q, q = (up2 (filR (filR (up2 (up2 (up2 (up2 (up2 (up2 (up2 (up2 (up2 μ1 (x + 175 + 1) (75 + nD D 2) (a1)) (x + 175 + 1) (91 + nD D 2) (a2)) (x + 175 + 1) (107 + nD D 2) (a3)) (x + 175 + 1) (123 + nD D 2) (a4)) (x + 175 + 1) (139 + nD D 2) (0)) (x + 175 + 1) (155 + nD D 2) (0)) (x + 175 + 1) (171 + nD D 2) (-1)) (x + 175 + 1) (187 + nD D 2) (-1)) (x + 175 + 1) (203 + nD D 2) (0)) (x + 175 + 1) (219 + 16 * nD D 2 + 0) (219 + 16 * nD D 2 + 16) 0) (x + 175 + 1) (491 + 8 * nD D 2 + 0) (491 + 8 * nD D 2 + 8) (-1)) (x + 175 + 1) 2 (nI (nD D 2 + 1))) := ⟨_, rfl⟩
  have fm : f_X12_man (some (x + 175)) a1 a2 a3 a4 (mkH n st S μ1) = some (nI (nD D 2), mkH n st S μ2) := by
    have w1 := r_manL1 (n := n) (st := st) hS (N := nD D 2) c5 16 0 FU (up2 (up2 (up2 (up2 (up2 (up2 (up2 (up2 (up2 μ1 (x + 175 + 1) (75 + nD D 2) (a1)) (x + 175 + 1) (91 + nD D 2) (a2)) (x + 175 + 1) (107 + nD D 2) (a3)) (x + 175 + 1) (123 + nD D 2) (a4)) (x + 175 + 1) (139 + nD D 2) (0)) (x + 175 + 1) (155 + nD D 2) (0)) (x + 175 + 1) (171 + nD D 2) (-1)) (x + 175 + 1) (187 + nD D 2) (-1)) (x + 175 + 1) (203 + nD D 2) (0)) (by omega) (by decide)
    have w2 := r_manL2 (n := n) (st := st) hS (N := nD D 2) c5 8 0 FU (filR (up2 (up2 (up2 (up2 (up2 (up2 (up2 (up2 (up2 μ1 (x + 175 + 1) (75 + nD D 2) (a1)) (x + 175 + 1) (91 + nD D 2) (a2)) (x + 175 + 1) (107 + nD D 2) (a3)) (x + 175 + 1) (123 + nD D 2) (a4)) (x + 175 + 1) (139 + nD D 2) (0)) (x + 175 + 1) (155 + nD D 2) (0)) (x + 175 + 1) (171 + nD D 2) (-1)) (x + 175 + 1) (187 + nD D 2) (-1)) (x + 175 + 1) (203 + nD D 2) (0)) (x + 175 + 1) (219 + 16 * nD D 2 + 0) (219 + 16 * nD D 2 + 16) 0) (by omega) (by decide)
    simp (disch := omega) only [f_X12_man, rck hS, some_bind, r_isWard hS hD1 hI, ite_bI0, c1, s_in, c2, r_isName, c3, c4, if_true, mR0 hS, lit_aI, mA0 hS, hD1, e2, lit_eq, natN, if_false, lit_add, mS0 hS]
    refine Eq.trans w1 (w2.trans ?_)
    rw [h2]
    simp (disch := omega) only [mA0 hS, some_bind, mS0 hS, filR_ne, up2_ne, hD1, e2, nI_1]
  have h2n : ∀ a j, ¬ a = x + 175 + 1 → ¬ (a = x + 1 ∧ j = 6) → ¬ (a = x + 1 + 22 + 2 * nD D 2) → ¬ (a = x + 1 + 22 + 2 * nD D 2 + 1) → ¬ a = x + 1 + 13 → ¬ (x + 1 + 78 ≤ a ∧ a < x + 1 + 118 ∧ (j = 9 ∨ j = 10)) → μ2 a j = μ a j := by
    intro a j q1 q2 q3 q4 q5 q6
    rw [h2]
    simp (disch := omega) only [up2_ne, filR_ne]
    rw [h1, up2_ne (by omega), gF' _ _ q5 q6, hAn _ _ q3 q4]
  have hDn : ∀ q, ¬ q = 2 → ¬ (75 ≤ q ∧ q < 219 ∧ (q - 75) % 16 = nD D 2) → ¬ (219 + 16 * nD D 2 ≤ q ∧ q < 219 + 16 * nD D 2 + 16) → ¬ (491 + 8 * nD D 2 ≤ q ∧ q < 491 + 8 * nD D 2 + 8) → μ2 (x + 175 + 1) q = D q := by
    intro q q1 q2 q3 q4
    rw [h2]
    simp (disch := omega) only [up2_ne, filR_ne]
    rw [hD1]
  have hDm : ∀ j, j < 9 → μ2 (x + 175 + 1) (75 + 16 * j + nD D 2) = if j = 0 then a1 else if j = 1 then a2 else if j = 2 then a3 else if j = 3 then a4 else if j = 6 ∨ j = 7 then -1 else 0 := by
    intro j hj
    rw [h2]
    rcases (by omega : j = 0 ∨ j = 1 ∨ j = 2 ∨ j = 3 ∨ j = 4 ∨ j = 5 ∨ j = 6 ∨ j = 7 ∨ j = 8) with rfl | rfl | rfl | rfl | rfl | rfl | rfl | rfl | rfl
    all_goals simp (disch := omega) only [Nat.reduceMul, Nat.reduceAdd, filR_ne, up2_ne, up2_same]; rfl
  have hDf : ∀ k, k < 16 → μ2 (x + 175 + 1) (219 + 16 * nD D 2 + k) = 0 := by
    intro k hk
    rw [h2, up2_ne (by omega), filR_ne (by omega), filR_in (by omega) (by omega)]
  have hDv : ∀ k, k < 8 → μ2 (x + 175 + 1) (491 + 8 * nD D 2 + k) = -1 := by
    intro k hk
    rw [h2, up2_ne (by omega), filR_in (by omega) (by omega)]
  have d2 : μ2 (x + 175 + 1) 2 = nI (nD D 2 + 1) := by rw [h2, up2_same]
  have n2 : nD (μ2 (x + 175 + 1)) 2 = nD D 2 + 1 := nD_of d2 (by omega)
  have nq : ∀ q, q < 9 → q ≠ 2 → nD (μ2 (x + 175 + 1)) q = nD D q := fun q q1 q2 => nD_eq (hDn q (by omega) (by omega) (by omega) (by omega))
  have hM : ∀ i j, i < nD D 2 + 1 → j < 9 → μ2 (x + 1 + 22 + 2 * i) j = μ2 (x + 175 + 1) (75 + 16 * j + i) := by
    intro i j hi hj
    by_cases hi2 : i = nD D 2
    · subst hi2
      rw [hDm j hj, ← hAm j hj, h2]
      simp (disch := omega) only [up2_ne, filR_ne]
      rw [h1, up2_ne (by omega), gF' _ _ (by omega) (by omega)]
    · rw [h2n _ _ (by omega) (by omega) (by omega) (by omega) (by omega) (by omega), hDn _ (by omega) (by omega) (by omega) (by omega)]
      exact hs.man i j (by omega) hj
  have hSh : ∀ s j, s < nD D 5 → j < 9 → μ2 (x + 1 + 78 + s) j = D (651 + 40 * j + s) := by
    intro s j h5 hj
    rw [h2n _ _ (by omega) (by omega) (by omega) (by omega) (by omega) (by omega)]
    exact hs.she s j h5 hj
  have exE : ∀ s i, s < nD D 5 → i < nD D 2 → exB (μ2 (x + 175 + 1)) s i = exB D s i := by
    intro s i h5 hi
    simp (disch := omega) only [exB, hisS, hDn]
  have neE : ∀ s i, s < nD D 5 → i < nD D 2 → neB (μ2 (x + 175 + 1)) s i = neB D s i := by
    intro s i h5 hi
    simp (disch := omega) only [neB, apB, hisS, hDn]
  have m0 : μ2 (x + 175 + 1) (75 + nD D 2) = a1 := hDm 0 (by omega)
  have m2 : μ2 (x + 175 + 1) (107 + nD D 2) = a3 := hDm 2 (by omega)
  have m3 : μ2 (x + 175 + 1) (123 + nD D 2) = a4 := hDm 3 (by omega)
  have exN' : ∀ s, s < nD D 5 → exM μA (x + 1 + 78 + s) (x + 1 + 22 + 2 * nD D 2) = exB (μ2 (x + 175 + 1)) s (nD D 2) := by
    intro s h5
    have q0 := hs.she s 0 h5 (by omega)
    have q1 := hs.she s 1 h5 (by omega)
    have q2 := hs.she s 2 h5 (by omega)
    simp only [Nat.reduceMul, Nat.reduceAdd, Nat.add_zero] at q0 q1 q2
    simp (disch := omega) only [exM, hisM, exB, hisS, hAn, q0, q1, q2, hAm, m0, m2, m3, hDn]
    rfl
  have neN' : ∀ s, s < nD D 5 → neM μA (x + 1 + 78 + s) (x + 1 + 22 + 2 * nD D 2) = neB (μ2 (x + 175 + 1)) s (nD D 2) := by
    intro s h5
    have q0 := hs.she s 0 h5 (by omega)
    have q1 := hs.she s 1 h5 (by omega)
    have q2 := hs.she s 2 h5 (by omega)
    simp only [Nat.reduceMul, Nat.reduceAdd, Nat.add_zero] at q0 q1 q2
    simp (disch := omega) only [neM, hisM, neB, apB, hisS, hAn, q0, q1, q2, hAm, m0, m2, m3, hDn]
    rfl
  refine Res.core hRest (nI (nD D 2)) (μ1 := μ1) (μ2 := μ2) fx fm ?_ (fun a j h => by unfold oth at h; exact h2n _ _ (by omega) (by omega) (by omega) (by omega) (by omega) (by omega))
  refine Core.mk' (μ := μ) hX hS hL0 (fun a j h => h2n _ _ (by omega) (by omega) (by omega) (by omega) (by omega) (by omega)) ?_ ?_
  · refine ⟨GA.congr hI hs (fun a j h => by exact h2n _ _ (by omega) (by omega) (by omega) (by omega) (by omega) (by omega)) (fun q h => by exact hDn _ (by omega) (by omega) (by omega) (by omega)), Gx.congr hI hs (fun a j h => by exact h2n _ _ (by omega) (by omega) (by omega) (by omega) (by omega) (by omega)) (fun q h => by exact hDn _ (by omega) (by omega) (by omega) (by omega)), Gw.congr hI hs (fun a j h => by exact h2n _ _ (by omega) (by omega) (by omega) (by omega) (by omega) (by omega)) (fun q h => by exact hDn _ (by omega) (by omega) (by omega) (by omega)), ?_, ?_, Gb.congr hI hs (fun a j h => by exact h2n _ _ (by omega) (by omega) (by omega) (by omega) (by omega) (by omega)) (fun q h => by exact hDn _ (by omega) (by omega) (by omega) (by omega)), Gs.congr hI hs (fun a j h => by exact h2n _ _ (by omega) (by omega) (by omega) (by omega) (by omega) (by omega)) (fun q h => by exact hDn _ (by omega) (by omega) (by omega) (by omega)), ?_, Gr.congr hI hs (fun a j h => by exact h2n _ _ (by omega) (by omega) (by omega) (by omega) (by omega) (by omega)) (fun q h => by exact hDn _ (by omega) (by omega) (by omega) (by omega)), Gh.congr hI hs (fun a j h => by exact h2n _ _ (by omega) (by omega) (by omega) (by omega) (by omega) (by omega)) (fun q h => by exact hDn _ (by omega) (by omega) (by omega) (by omega)), Gl.congr hI hs (fun a j h => by exact h2n _ _ (by omega) (by omega) (by omega) (by omega) (by omega) (by omega)) (fun q h => by exact hDn _ (by omega) (by omega) (by omega) (by omega))⟩
    · refine ⟨?_, ?_, ?_⟩
      · rw [d2, h2]
        simp (disch := omega) only [up2_ne, filR_ne]
        rw [h1, up2_same]
      · rw [n2]; exact hM
      · rw [n2]
        intro i k hi hk
        by_cases hi2 : i = nD D 2
        · subst hi2
          rw [hDf k hk, ← hAf k hk, h2]
          simp (disch := omega) only [up2_ne, filR_ne]
          rw [h1, up2_ne (by omega), gF' _ _ (by omega) (by omega)]
        · rw [h2n _ _ (by omega) (by omega) (by omega) (by omega) (by omega) (by omega), hDn _ (by omega) (by omega) (by omega) (by omega)]
          exact hs.fear i k (by omega) hk
    · refine ⟨?_, ?_, ?_, ?_⟩
      · rw [h2n _ _ (by omega) (by omega) (by omega) (by omega) (by omega) (by omega), hDn _ (by omega) (by omega) (by omega) (by omega)]
        exact hs.wordN
      · rw [nq 3 (by omega) (by omega)]
        intro v j hv hj
        rw [h2n _ _ (by omega) (by omega) (by omega) (by omega) (by omega) (by omega), hDn _ (by omega) (by omega) (by omega) (by omega)]
        exact hs.word v j hv hj
      · rw [nq 3 (by omega) (by omega), n2]
        intro v i hv hi
        rw [h2n _ _ (by omega) (by omega) (by omega) (by omega) (by omega) (by omega)]
        by_cases hi2 : i = nD D 2
        · subst hi2
          rw [hDv v (by omega)]
          exact hs.unheard v _ hv (by omega) (by omega)
        · rw [hDn _ (by omega) (by omega) (by omega) (by omega)]
          exact hs.heard v i hv (by omega)
      · rw [nq 3 (by omega) (by omega), n2]
        intro v i hv hi hi16
        rw [h2n _ _ (by omega) (by omega) (by omega) (by omega) (by omega) (by omega)]
        exact hs.unheard v i hv (by omega) hi16
    · refine ⟨?_, ?_⟩
      · rw [nq 5 (by omega) (by omega)]
        intro s h5
        have : μ2 (x + 1 + 78 + s) 9 = μ' (x + 1 + 78 + s) 9 := by
          rw [h2]
          simp (disch := omega) only [up2_ne, filR_ne]
          rw [h1, up2_ne (by omega)]
        rw [this, g9 s h5, exN' s h5, hAn _ _ (by omega) (by omega), hs.exact s h5]
        have e3 : exN (μ2 (x + 175 + 1)) s = biN (exB (μ2 (x + 175 + 1)) s) (nD D 2 + 1) := by rw [exN, n2]
        have e4 : exN D s = biN (exB (μ2 (x + 175 + 1)) s) (nD D 2) := biN_congr _ fun i hi => (exE s i h5 hi).symm
        rw [e3, e4]
        exact biN_or _ _ _ rfl
      · rw [nq 5 (by omega) (by omega)]
        intro s h5
        have : μ2 (x + 1 + 78 + s) 10 = μ' (x + 1 + 78 + s) 10 := by
          rw [h2]
          simp (disch := omega) only [up2_ne, filR_ne]
          rw [h1, up2_ne (by omega)]
        rw [this, g10 s h5, neN' s h5, hAn _ _ (by omega) (by omega), hs.near s h5]
        have e3 : neN (μ2 (x + 175 + 1)) s = biN (neB (μ2 (x + 175 + 1)) s) (nD D 2 + 1) := by rw [neN, n2]
        have e4 : neN D s = biN (neB (μ2 (x + 175 + 1)) s) (nD D 2) := biN_congr _ fun i hi => (neE s i h5 hi).symm
        rw [e3, e4]
        exact biN_or _ _ _ rfl
  · refine ⟨IA.congr hI (fun q h => by exact hDn _ (by omega) (by omega) (by omega) (by omega)), Iw.congr hI (fun q h => by exact hDn _ (by omega) (by omega) (by omega) (by omega)), ?_, ?_, ?_, Is.congr hI (fun q h => by exact hDn _ (by omega) (by omega) (by omega) (by omega)), Ix.congr hI (fun q h => by exact hDn _ (by omega) (by omega) (by omega) (by omega)), Ih.congr hI (fun q h => by exact hDn _ (by omega) (by omega) (by omega) (by omega)), Il.congr hI (fun q h => by exact hDn _ (by omega) (by omega) (by omega) (by omega)), Ir.congr hI (fun q h => by exact hDn _ (by omega) (by omega) (by omega) (by omega))⟩
    · have hm := fun j hj => hDm j hj
      refine ⟨isC_of d2 (by omega) (by omega), ?_, ?_, ?_, ?_, ?_, ?_, ?_, ?_⟩
      all_goals rw [n2]; intro k hk; by_cases hk2 : k = nD D 2
      · subst hk2; rw [nq 1 (by omega) (by omega), m0]; exact ixB_ex (by omega) c1
      · rw [nq 1 (by omega) (by omega), hDn _ (by omega) (by omega) (by omega) (by omega)]; exact hI.mWard k (by omega)
      · subst hk2; have := hDm 1 (by omega); simp only [Nat.reduceMul, Nat.reduceAdd] at this; rw [this]; exact inS_o (M := 5) (by omega) c2
      · rw [hDn _ (by omega) (by omega) (by omega) (by omega)]; exact hI.mClub k (by omega)
      · subst hk2; rw [m2]; exact c3
      · rw [hDn _ (by omega) (by omega) (by omega) (by omega)]; exact hI.mName k (by omega)
      · subst hk2; rw [m3]; exact c4
      · rw [hDn _ (by omega) (by omega) (by omega) (by omega)]; exact hI.mFat k (by omega)
      · subst hk2; have := hDm 4 (by omega); simp only [Nat.reduceMul, Nat.reduceAdd] at this; rw [this]; exact ⟨0, by omega, rfl⟩
      · rw [hDn _ (by omega) (by omega) (by omega) (by omega)]; exact hI.mHand k (by omega)
      · subst hk2; have := hDm 5 (by omega); simp only [Nat.reduceMul, Nat.reduceAdd] at this; rw [this]; exact ⟨0, by omega, rfl⟩
      · rw [hDn _ (by omega) (by omega) (by omega) (by omega)]; exact hI.mHow k (by omega)
      · subst hk2; have := hDm 6 (by omega); simp only [Nat.reduceMul, Nat.reduceAdd] at this; rw [this]; exact Or.inl rfl
      · rw [hDn _ (by omega) (by omega) (by omega) (by omega)]; exact hI.mSent k (by omega)
      · subst hk2; have := hDm 8 (by omega); simp only [Nat.reduceMul, Nat.reduceAdd] at this; rw [this]; exact ⟨0, by omega, rfl⟩
      · rw [hDn _ (by omega) (by omega) (by omega) (by omega)]; exact hI.mRec k (by omega)
    · refine ⟨isC_of (by rw [hDn _ (by omega) (by omega) (by omega) (by omega)]; exact e3) b3 (by omega), ?_⟩
      rw [nq 0 (by omega) (by omega), n2, nq 3 (by omega) (by omega)]
      intro i v hi hv
      by_cases hi2 : i = nD D 2
      · subst hi2; rw [hDv v (by omega)]; exact Or.inl rfl
      · rw [hDn _ (by omega) (by omega) (by omega) (by omega)]; exact hI.heard i v (by omega) hv
    · refine ⟨isC_of (by rw [hDn _ (by omega) (by omega) (by omega) (by omega)]; exact e4) b4 (by omega), ?_, ?_⟩
      all_goals rw [nq 4 (by omega) (by omega)]; intro k hk
      · rw [hDn _ (by omega) (by omega) (by omega) (by omega)]; exact hI.bClub k hk
      · rw [n2, hDn _ (by omega) (by omega) (by omega) (by omega)]
        obtain ⟨q, q1, q2⟩ := hI.bMan k hk
        exact ⟨q, by omega, q2⟩
end MAN
