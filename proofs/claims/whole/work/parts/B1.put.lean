-- ===== put, comesFrom =====
/-- one call on both sides; of the class's no number behind its own has changed -/
def ResM (fx fm : AH → Option (Int32 × AH)) (n : Nat) (st : Nat → Nat) (S : SH) (μ : MU) (x b : Nat) : Prop :=
  ∃ (v : Int32) (μ1 : MU) (n' : Nat) (S' : SH) (μ' : MU), fx (mkH n st S μ) = some (v, mkH n st S μ1) ∧ (∀ a j, x + 175 ≤ a → μ1 a j = μ a j) ∧ fm (mkH n st S μ1) = some (v, mkH n' st S' μ') ∧ R n' st S' μ' x b
section SHERDM
variable {n : Nat} {st : Nat → Nat} {S : SH} {μ : MU} {x b m c l : Nat} {D : DR}
theorem ResM.same {fx fm : AH → Option (Int32 × AH)} (hR : R n st S μ x b) (v : Int32) (h1 : fx (mkH n st S μ) = some (v, mkH n st S μ)) (h2 : fm (mkH n st S μ) = some (v, mkH n st S μ)) : ResM fx fm n st S μ x b := ⟨v, μ, n, S, μ, h1, fun _ _ _ => rfl, h2, hR⟩
theorem ResM.core {fx fm : AH → Option (Int32 × AH)} {μ1 μ2 : MU} (hRest : Rest n st S μ x b) (v : Int32) (h1 : fx (mkH n st S μ) = some (v, mkH n st S μ1)) (h2 : fm (mkH n st S μ1) = some (v, mkH n st S μ2)) (hf : ∀ a j, x + 175 ≤ a → μ1 a j = μ a j) (hc : Core S μ2 x) (ho : ∀ a j, oth x a j → μ2 a j = μ a j) : ResM fx fm n st S μ x b := ⟨v, μ1, n, S, μ2, h1, hf, h2, hc, hRest.congr ho⟩
theorem opM_sherd (hR : R n st S μ x b) (a1 a2 a3 a4 a5 a6 : Int32) : ResM (f_X11_sherd (some x) a1 a2 a3 a4 a5 a6) (f_X12_sherd (some (x + 175)) a1 a2 a3 a4 a5 a6) n st S μ x b := by
  have hR' := hR
  obtain ⟨⟨hX, hS, hs, hI, hL0⟩, hRest⟩ := hR
  have hC := hX.city
  have hBase := hRest.2.2.2.1
  obtain ⟨D, hD⟩ : ∃ D, μ (x + 175 + 1) = D := ⟨_, rfl⟩
  replace hs : Sim μ (x + 1) (μ (x + 175 + 1)) := hs
  replace hI : Inv (μ (x + 175 + 1)) := hI
  rw [hD] at hs hI
  obtain ⟨e0, b0⟩ := hI.today
  obtain ⟨e1, b1⟩ := hI.wards
  obtain ⟨e2, b2⟩ := hI.men
  obtain ⟨e3, b3⟩ := hI.words
  obtain ⟨e4, b4⟩ := hI.bars
  obtain ⟨e5, b5⟩ := hI.shes
  obtain ⟨e6, b6⟩ := hI.wets
  obtain ⟨e8, b8⟩ := hI.heaped
  have z0 := hs.today
  have z1 := hs.wardN
  have z2 := hs.manN
  have z3 := hs.wordN
  have z4 := hs.barN
  have z5 := hs.sheN
  have z6 := hs.wetN
  have z8 := hs.heapN
  by_cases c1 : nmB a1 = true
  case neg => exact ResM.same hR' (-1) (by simp (disch := omega) only [some_bind, ite_bI0, lit_add, lit_addr, lit_mul, lit_aI, lit_aZ, lit_aR, lit_sI, lit_sZ, nI_add, pk_mul, nn_lt, up2_same, up2_ne, ↓reduceIte, natT, natF, natE, natN, Nat.reduceAdd, Nat.reduceMul, Option.bind_some, if_true, if_false, Bool.false_eq_true, xR0 hX, xR2 hX, xR3 hX, xR4 hX, xR5 hX, xR7 hX, xR8 hX, xR10 hX, xR11 hX, xR12 hX, xR13 hX, xR14 hX, xR15 hX, xR16 hX, xI6 hX, xP6 hX, xI9 hX, xP9 hX, xck hX, xATap hX, xSTap hX, xAWai hX, xSWai hX, xALea hX, xSLea hX, xAMos hX, xSMos hX, xAGat hX, xSGat hX, xAThr hX, xSThr hX, xATra hX, xSTra hX, xACas hX, xSCas hX, xARMa hX, xSRMa hX, xARCl hX, xSRCl hX, xASWh hX, xSSWh hX, xASNu hX, xSSNu hX, xAPOf hX, xSPOf hX, xAPMe hX, xSPMe hX, xAAli hX, xSAli hX, rdR0 hX, rdI1 hX, rdP1 hX, rdR2 hX, rdI3 hX, rdP3 hX, rdI4 hX, rdP4 hX, rdI5 hX, rdP5 hX, rdI6 hX, rdP6 hX, rdI7 hX, rdP7 hX, rdZ7_0 hX, rdZ7_1 hX, rdI8 hX, rdP8 hX, rdI9 hX, rdP9 hX, rdI10 hX, rdP10 hX, rdR11 hX, rdI12 hX, rdP12 hX, rdck hX, poI0 hX, poP0 hX, poI1 hX, poP1 hX, poR2 hX, poR3 hX, poR4 hX, poR5 hX, pock hX, acI0 hX, acP0 hX, acI1 hX, acP1 hX, acI2 hX, acP2 hX, acR3 hX, acI4 hX, acP4 hX, acI5 hX, acP5 hX, acZ5_0 hX, acZ5_1 hX, acck hX, cI0 hX.city, cP0 hX.city, cR1 hX.city, cI2 hX.city, cP2 hX.city, cR3 hX.city, cI4 hX.city, cP4 hX.city, cR5 hX.city, cI6 hX.city, cP6 hX.city, cR7 hX.city, cI8 hX.city, cP8 hX.city, cR9 hX.city, cI10 hX.city, cP10 hX.city, cR11 hX.city, cI12 hX.city, cP12 hX.city, cR13 hX.city, cI14 hX.city, cP14 hX.city, cR15 hX.city, cR16 hX.city, cR17 hX.city, cI18 hX.city, cP18 hX.city, cR19 hX.city, cck hX.city, cAWet hX.city, cSWet hX.city, cARul hX.city, cSRul hX.city, cAHea hX.city, cSHea hX.city, cALin hX.city, cSLin hX.city, cATal hX.city, cSTal hX.city, cEwards hX.city, cEmen hX.city, cEwords hX.city, cEbargains hX.city, cEsherds hX.city, cElaws hX.city, cEtallies hX.city, oWardI hX.city, oWardP hX.city, oWardZ0 hX.city, oWardZ1 hX.city, oWardK hX.city, oBarI hX.city, oBarP hX.city, oBarZ0 hX.city, oBarZ1 hX.city, oBarK hX.city, oSheI hX.city, oSheP hX.city, oSheZ0 hX.city, oSheZ1 hX.city, oSheK hX.city, oManI hX.city, oManP hX.city, oManZ0 hX.city, oManZ1 hX.city, oManK hX.city, oManR hX.city, oManA hX.city, oManS hX.city, oWordI hX.city, oWordP hX.city, oWordZ0 hX.city, oWordZ1 hX.city, oWordK hX.city, oWordR hX.city, oWordA hX.city, oWordS hX.city, f_X11_sherd, k_within, k_isDay, k_isClub, k_isName, k_hasMan hC hs hI, k_hasWard hC hs hI, k_hasSherd hC hs hI, k_hasBargain hC hs hI, k_areTwoMen hC hs hI, k_isWet hC hs hI, z0, z1, z2, z3, z4, z5, z6, z8, e0, e1, e2, e3, e4, e5, e6, e8, lit_lt, lit_eq, if_true, if_false, ite_self, Bool.true_and, Bool.and_true, decide_true, decide_false, Bool.false_eq_true, Bool.false_and, Bool.and_false,  c1]) (by simp (disch := omega) only [some_bind, ite_bI0, lit_add, lit_addr, lit_mul, lit_aI, lit_aZ, lit_aR, lit_sI, lit_sZ, nI_add, pk_mul, nn_lt, up2_same, up2_ne, ↓reduceIte, natT, natF, natE, natN, Nat.reduceAdd, Nat.reduceMul, Option.bind_some, if_true, if_false, Bool.false_eq_true, mR0 hS, mA0 hS, mS0 hS, mR1 hS, mA1 hS, mS1 hS, mI2 hS, mP2 hS, mZ2_0 hS, mZ2_1 hS, mR3 hS, mA3 hS, mS3 hS, mI4 hS, mP4 hS, mR5 hS, mA5 hS, mS5 hS, mR6 hS, mA6 hS, mS6 hS, mR7 hS, mA7 hS, mS7 hS, mR8 hS, mA8 hS, mS8 hS, mR9 hS, mA9 hS, mS9 hS, mR10 hS, mA10 hS, mS10 hS, mI11 hS, mP11 hS, mI12 hS, mP12 hS, mI13 hS, mP13 hS, mI14 hS, mP14 hS, mI15 hS, mP15 hS, mI16 hS, mP16 hS, mI17 hS, mP17 hS, mI18 hS, mP18 hS, mR19 hS, mA19 hS, mS19 hS, mR20 hS, mA20 hS, mS20 hS, mR21 hS, mA21 hS, mS21 hS, mI22 hS, mP22 hS, mI23 hS, mP23 hS, mI24 hS, mP24 hS, mI25 hS, mP25 hS, mI26 hS, mP26 hS, mR27 hS, mA27 hS, mS27 hS, mR28 hS, mA28 hS, mS28 hS, mI29 hS, mP29 hS, mR30 hS, mA30 hS, mS30 hS, mR31 hS, mA31 hS, mS31 hS, mR32 hS, mA32 hS, mS32 hS, mR33 hS, mA33 hS, mS33 hS, mR34 hS, mA34 hS, mS34 hS, mR35 hS, mA35 hS, mS35 hS, mR36 hS, mA36 hS, mS36 hS, mR37 hS, mA37 hS, mS37 hS, mI38 hS, mP38 hS, mI39 hS, mP39 hS, mI40 hS, mP40 hS, mI41 hS, mP41 hS, mI42 hS, mP42 hS, mZ42_0 hS, mZ42_1 hS, rck hS, f_X12_sherd, s_in, s_isDay, s_isClub, r_isName, e0, e1, e2, e3, e4, e5, e6, e8, lit_lt, lit_eq, if_true, if_false, ite_self, hD, hD, r_isMan hS hD hI, r_isWard hS hD hI, r_isSherd hS hD hI, r_isWet hS hD hI, Bool.false_eq_true,  c1])
  by_cases c2 : (decide (a2 = 0) || nmB a2) = true
  case neg => exact ResM.same hR' (-1) (by simp (disch := omega) only [some_bind, ite_bI0, lit_add, lit_addr, lit_mul, lit_aI, lit_aZ, lit_aR, lit_sI, lit_sZ, nI_add, pk_mul, nn_lt, up2_same, up2_ne, ↓reduceIte, natT, natF, natE, natN, Nat.reduceAdd, Nat.reduceMul, Option.bind_some, if_true, if_false, Bool.false_eq_true, xR0 hX, xR2 hX, xR3 hX, xR4 hX, xR5 hX, xR7 hX, xR8 hX, xR10 hX, xR11 hX, xR12 hX, xR13 hX, xR14 hX, xR15 hX, xR16 hX, xI6 hX, xP6 hX, xI9 hX, xP9 hX, xck hX, xATap hX, xSTap hX, xAWai hX, xSWai hX, xALea hX, xSLea hX, xAMos hX, xSMos hX, xAGat hX, xSGat hX, xAThr hX, xSThr hX, xATra hX, xSTra hX, xACas hX, xSCas hX, xARMa hX, xSRMa hX, xARCl hX, xSRCl hX, xASWh hX, xSSWh hX, xASNu hX, xSSNu hX, xAPOf hX, xSPOf hX, xAPMe hX, xSPMe hX, xAAli hX, xSAli hX, rdR0 hX, rdI1 hX, rdP1 hX, rdR2 hX, rdI3 hX, rdP3 hX, rdI4 hX, rdP4 hX, rdI5 hX, rdP5 hX, rdI6 hX, rdP6 hX, rdI7 hX, rdP7 hX, rdZ7_0 hX, rdZ7_1 hX, rdI8 hX, rdP8 hX, rdI9 hX, rdP9 hX, rdI10 hX, rdP10 hX, rdR11 hX, rdI12 hX, rdP12 hX, rdck hX, poI0 hX, poP0 hX, poI1 hX, poP1 hX, poR2 hX, poR3 hX, poR4 hX, poR5 hX, pock hX, acI0 hX, acP0 hX, acI1 hX, acP1 hX, acI2 hX, acP2 hX, acR3 hX, acI4 hX, acP4 hX, acI5 hX, acP5 hX, acZ5_0 hX, acZ5_1 hX, acck hX, cI0 hX.city, cP0 hX.city, cR1 hX.city, cI2 hX.city, cP2 hX.city, cR3 hX.city, cI4 hX.city, cP4 hX.city, cR5 hX.city, cI6 hX.city, cP6 hX.city, cR7 hX.city, cI8 hX.city, cP8 hX.city, cR9 hX.city, cI10 hX.city, cP10 hX.city, cR11 hX.city, cI12 hX.city, cP12 hX.city, cR13 hX.city, cI14 hX.city, cP14 hX.city, cR15 hX.city, cR16 hX.city, cR17 hX.city, cI18 hX.city, cP18 hX.city, cR19 hX.city, cck hX.city, cAWet hX.city, cSWet hX.city, cARul hX.city, cSRul hX.city, cAHea hX.city, cSHea hX.city, cALin hX.city, cSLin hX.city, cATal hX.city, cSTal hX.city, cEwards hX.city, cEmen hX.city, cEwords hX.city, cEbargains hX.city, cEsherds hX.city, cElaws hX.city, cEtallies hX.city, oWardI hX.city, oWardP hX.city, oWardZ0 hX.city, oWardZ1 hX.city, oWardK hX.city, oBarI hX.city, oBarP hX.city, oBarZ0 hX.city, oBarZ1 hX.city, oBarK hX.city, oSheI hX.city, oSheP hX.city, oSheZ0 hX.city, oSheZ1 hX.city, oSheK hX.city, oManI hX.city, oManP hX.city, oManZ0 hX.city, oManZ1 hX.city, oManK hX.city, oManR hX.city, oManA hX.city, oManS hX.city, oWordI hX.city, oWordP hX.city, oWordZ0 hX.city, oWordZ1 hX.city, oWordK hX.city, oWordR hX.city, oWordA hX.city, oWordS hX.city, f_X11_sherd, k_within, k_isDay, k_isClub, k_isName, k_hasMan hC hs hI, k_hasWard hC hs hI, k_hasSherd hC hs hI, k_hasBargain hC hs hI, k_areTwoMen hC hs hI, k_isWet hC hs hI, z0, z1, z2, z3, z4, z5, z6, z8, e0, e1, e2, e3, e4, e5, e6, e8, lit_lt, lit_eq, if_true, if_false, ite_self, Bool.true_and, Bool.and_true, decide_true, decide_false, Bool.false_eq_true, Bool.false_and, Bool.and_false,  c1, or_gate, c2]) (by simp (disch := omega) only [some_bind, ite_bI0, lit_add, lit_addr, lit_mul, lit_aI, lit_aZ, lit_aR, lit_sI, lit_sZ, nI_add, pk_mul, nn_lt, up2_same, up2_ne, ↓reduceIte, natT, natF, natE, natN, Nat.reduceAdd, Nat.reduceMul, Option.bind_some, if_true, if_false, Bool.false_eq_true, mR0 hS, mA0 hS, mS0 hS, mR1 hS, mA1 hS, mS1 hS, mI2 hS, mP2 hS, mZ2_0 hS, mZ2_1 hS, mR3 hS, mA3 hS, mS3 hS, mI4 hS, mP4 hS, mR5 hS, mA5 hS, mS5 hS, mR6 hS, mA6 hS, mS6 hS, mR7 hS, mA7 hS, mS7 hS, mR8 hS, mA8 hS, mS8 hS, mR9 hS, mA9 hS, mS9 hS, mR10 hS, mA10 hS, mS10 hS, mI11 hS, mP11 hS, mI12 hS, mP12 hS, mI13 hS, mP13 hS, mI14 hS, mP14 hS, mI15 hS, mP15 hS, mI16 hS, mP16 hS, mI17 hS, mP17 hS, mI18 hS, mP18 hS, mR19 hS, mA19 hS, mS19 hS, mR20 hS, mA20 hS, mS20 hS, mR21 hS, mA21 hS, mS21 hS, mI22 hS, mP22 hS, mI23 hS, mP23 hS, mI24 hS, mP24 hS, mI25 hS, mP25 hS, mI26 hS, mP26 hS, mR27 hS, mA27 hS, mS27 hS, mR28 hS, mA28 hS, mS28 hS, mI29 hS, mP29 hS, mR30 hS, mA30 hS, mS30 hS, mR31 hS, mA31 hS, mS31 hS, mR32 hS, mA32 hS, mS32 hS, mR33 hS, mA33 hS, mS33 hS, mR34 hS, mA34 hS, mS34 hS, mR35 hS, mA35 hS, mS35 hS, mR36 hS, mA36 hS, mS36 hS, mR37 hS, mA37 hS, mS37 hS, mI38 hS, mP38 hS, mI39 hS, mP39 hS, mI40 hS, mP40 hS, mI41 hS, mP41 hS, mI42 hS, mP42 hS, mZ42_0 hS, mZ42_1 hS, rck hS, f_X12_sherd, s_in, s_isDay, s_isClub, r_isName, e0, e1, e2, e3, e4, e5, e6, e8, lit_lt, lit_eq, if_true, if_false, ite_self, hD, hD, r_isMan hS hD hI, r_isWard hS hD hI, r_isSherd hS hD hI, r_isWet hS hD hI, Bool.false_eq_true,  c1, or_gate, c2])
  by_cases c5 : (decide (a5 = 0) || nmB a5) = true
  case neg => exact ResM.same hR' (-1) (by simp (disch := omega) only [some_bind, ite_bI0, lit_add, lit_addr, lit_mul, lit_aI, lit_aZ, lit_aR, lit_sI, lit_sZ, nI_add, pk_mul, nn_lt, up2_same, up2_ne, ↓reduceIte, natT, natF, natE, natN, Nat.reduceAdd, Nat.reduceMul, Option.bind_some, if_true, if_false, Bool.false_eq_true, xR0 hX, xR2 hX, xR3 hX, xR4 hX, xR5 hX, xR7 hX, xR8 hX, xR10 hX, xR11 hX, xR12 hX, xR13 hX, xR14 hX, xR15 hX, xR16 hX, xI6 hX, xP6 hX, xI9 hX, xP9 hX, xck hX, xATap hX, xSTap hX, xAWai hX, xSWai hX, xALea hX, xSLea hX, xAMos hX, xSMos hX, xAGat hX, xSGat hX, xAThr hX, xSThr hX, xATra hX, xSTra hX, xACas hX, xSCas hX, xARMa hX, xSRMa hX, xARCl hX, xSRCl hX, xASWh hX, xSSWh hX, xASNu hX, xSSNu hX, xAPOf hX, xSPOf hX, xAPMe hX, xSPMe hX, xAAli hX, xSAli hX, rdR0 hX, rdI1 hX, rdP1 hX, rdR2 hX, rdI3 hX, rdP3 hX, rdI4 hX, rdP4 hX, rdI5 hX, rdP5 hX, rdI6 hX, rdP6 hX, rdI7 hX, rdP7 hX, rdZ7_0 hX, rdZ7_1 hX, rdI8 hX, rdP8 hX, rdI9 hX, rdP9 hX, rdI10 hX, rdP10 hX, rdR11 hX, rdI12 hX, rdP12 hX, rdck hX, poI0 hX, poP0 hX, poI1 hX, poP1 hX, poR2 hX, poR3 hX, poR4 hX, poR5 hX, pock hX, acI0 hX, acP0 hX, acI1 hX, acP1 hX, acI2 hX, acP2 hX, acR3 hX, acI4 hX, acP4 hX, acI5 hX, acP5 hX, acZ5_0 hX, acZ5_1 hX, acck hX, cI0 hX.city, cP0 hX.city, cR1 hX.city, cI2 hX.city, cP2 hX.city, cR3 hX.city, cI4 hX.city, cP4 hX.city, cR5 hX.city, cI6 hX.city, cP6 hX.city, cR7 hX.city, cI8 hX.city, cP8 hX.city, cR9 hX.city, cI10 hX.city, cP10 hX.city, cR11 hX.city, cI12 hX.city, cP12 hX.city, cR13 hX.city, cI14 hX.city, cP14 hX.city, cR15 hX.city, cR16 hX.city, cR17 hX.city, cI18 hX.city, cP18 hX.city, cR19 hX.city, cck hX.city, cAWet hX.city, cSWet hX.city, cARul hX.city, cSRul hX.city, cAHea hX.city, cSHea hX.city, cALin hX.city, cSLin hX.city, cATal hX.city, cSTal hX.city, cEwards hX.city, cEmen hX.city, cEwords hX.city, cEbargains hX.city, cEsherds hX.city, cElaws hX.city, cEtallies hX.city, oWardI hX.city, oWardP hX.city, oWardZ0 hX.city, oWardZ1 hX.city, oWardK hX.city, oBarI hX.city, oBarP hX.city, oBarZ0 hX.city, oBarZ1 hX.city, oBarK hX.city, oSheI hX.city, oSheP hX.city, oSheZ0 hX.city, oSheZ1 hX.city, oSheK hX.city, oManI hX.city, oManP hX.city, oManZ0 hX.city, oManZ1 hX.city, oManK hX.city, oManR hX.city, oManA hX.city, oManS hX.city, oWordI hX.city, oWordP hX.city, oWordZ0 hX.city, oWordZ1 hX.city, oWordK hX.city, oWordR hX.city, oWordA hX.city, oWordS hX.city, f_X11_sherd, k_within, k_isDay, k_isClub, k_isName, k_hasMan hC hs hI, k_hasWard hC hs hI, k_hasSherd hC hs hI, k_hasBargain hC hs hI, k_areTwoMen hC hs hI, k_isWet hC hs hI, z0, z1, z2, z3, z4, z5, z6, z8, e0, e1, e2, e3, e4, e5, e6, e8, lit_lt, lit_eq, if_true, if_false, ite_self, Bool.true_and, Bool.and_true, decide_true, decide_false, Bool.false_eq_true, Bool.false_and, Bool.and_false,  b_X11_sherd_18, c1, or_gate, c2, c5]) (by simp (disch := omega) only [some_bind, ite_bI0, lit_add, lit_addr, lit_mul, lit_aI, lit_aZ, lit_aR, lit_sI, lit_sZ, nI_add, pk_mul, nn_lt, up2_same, up2_ne, ↓reduceIte, natT, natF, natE, natN, Nat.reduceAdd, Nat.reduceMul, Option.bind_some, if_true, if_false, Bool.false_eq_true, mR0 hS, mA0 hS, mS0 hS, mR1 hS, mA1 hS, mS1 hS, mI2 hS, mP2 hS, mZ2_0 hS, mZ2_1 hS, mR3 hS, mA3 hS, mS3 hS, mI4 hS, mP4 hS, mR5 hS, mA5 hS, mS5 hS, mR6 hS, mA6 hS, mS6 hS, mR7 hS, mA7 hS, mS7 hS, mR8 hS, mA8 hS, mS8 hS, mR9 hS, mA9 hS, mS9 hS, mR10 hS, mA10 hS, mS10 hS, mI11 hS, mP11 hS, mI12 hS, mP12 hS, mI13 hS, mP13 hS, mI14 hS, mP14 hS, mI15 hS, mP15 hS, mI16 hS, mP16 hS, mI17 hS, mP17 hS, mI18 hS, mP18 hS, mR19 hS, mA19 hS, mS19 hS, mR20 hS, mA20 hS, mS20 hS, mR21 hS, mA21 hS, mS21 hS, mI22 hS, mP22 hS, mI23 hS, mP23 hS, mI24 hS, mP24 hS, mI25 hS, mP25 hS, mI26 hS, mP26 hS, mR27 hS, mA27 hS, mS27 hS, mR28 hS, mA28 hS, mS28 hS, mI29 hS, mP29 hS, mR30 hS, mA30 hS, mS30 hS, mR31 hS, mA31 hS, mS31 hS, mR32 hS, mA32 hS, mS32 hS, mR33 hS, mA33 hS, mS33 hS, mR34 hS, mA34 hS, mS34 hS, mR35 hS, mA35 hS, mS35 hS, mR36 hS, mA36 hS, mS36 hS, mR37 hS, mA37 hS, mS37 hS, mI38 hS, mP38 hS, mI39 hS, mP39 hS, mI40 hS, mP40 hS, mI41 hS, mP41 hS, mI42 hS, mP42 hS, mZ42_0 hS, mZ42_1 hS, rck hS, f_X12_sherd, s_in, s_isDay, s_isClub, r_isName, e0, e1, e2, e3, e4, e5, e6, e8, lit_lt, lit_eq, if_true, if_false, ite_self, hD, hD, r_isMan hS hD hI, r_isWard hS hD hI, r_isSherd hS hD hI, r_isWet hS hD hI, Bool.false_eq_true,  b_X12_sherd_18, b_X12_sherd_31, c1, or_gate, c2, c5])
  by_cases c3 : (decide (a3 = -1) || ixB a3 (nD D 1)) = true
  case neg => exact ResM.same hR' (-1) (by simp (disch := omega) only [some_bind, ite_bI0, lit_add, lit_addr, lit_mul, lit_aI, lit_aZ, lit_aR, lit_sI, lit_sZ, nI_add, pk_mul, nn_lt, up2_same, up2_ne, ↓reduceIte, natT, natF, natE, natN, Nat.reduceAdd, Nat.reduceMul, Option.bind_some, if_true, if_false, Bool.false_eq_true, xR0 hX, xR2 hX, xR3 hX, xR4 hX, xR5 hX, xR7 hX, xR8 hX, xR10 hX, xR11 hX, xR12 hX, xR13 hX, xR14 hX, xR15 hX, xR16 hX, xI6 hX, xP6 hX, xI9 hX, xP9 hX, xck hX, xATap hX, xSTap hX, xAWai hX, xSWai hX, xALea hX, xSLea hX, xAMos hX, xSMos hX, xAGat hX, xSGat hX, xAThr hX, xSThr hX, xATra hX, xSTra hX, xACas hX, xSCas hX, xARMa hX, xSRMa hX, xARCl hX, xSRCl hX, xASWh hX, xSSWh hX, xASNu hX, xSSNu hX, xAPOf hX, xSPOf hX, xAPMe hX, xSPMe hX, xAAli hX, xSAli hX, rdR0 hX, rdI1 hX, rdP1 hX, rdR2 hX, rdI3 hX, rdP3 hX, rdI4 hX, rdP4 hX, rdI5 hX, rdP5 hX, rdI6 hX, rdP6 hX, rdI7 hX, rdP7 hX, rdZ7_0 hX, rdZ7_1 hX, rdI8 hX, rdP8 hX, rdI9 hX, rdP9 hX, rdI10 hX, rdP10 hX, rdR11 hX, rdI12 hX, rdP12 hX, rdck hX, poI0 hX, poP0 hX, poI1 hX, poP1 hX, poR2 hX, poR3 hX, poR4 hX, poR5 hX, pock hX, acI0 hX, acP0 hX, acI1 hX, acP1 hX, acI2 hX, acP2 hX, acR3 hX, acI4 hX, acP4 hX, acI5 hX, acP5 hX, acZ5_0 hX, acZ5_1 hX, acck hX, cI0 hX.city, cP0 hX.city, cR1 hX.city, cI2 hX.city, cP2 hX.city, cR3 hX.city, cI4 hX.city, cP4 hX.city, cR5 hX.city, cI6 hX.city, cP6 hX.city, cR7 hX.city, cI8 hX.city, cP8 hX.city, cR9 hX.city, cI10 hX.city, cP10 hX.city, cR11 hX.city, cI12 hX.city, cP12 hX.city, cR13 hX.city, cI14 hX.city, cP14 hX.city, cR15 hX.city, cR16 hX.city, cR17 hX.city, cI18 hX.city, cP18 hX.city, cR19 hX.city, cck hX.city, cAWet hX.city, cSWet hX.city, cARul hX.city, cSRul hX.city, cAHea hX.city, cSHea hX.city, cALin hX.city, cSLin hX.city, cATal hX.city, cSTal hX.city, cEwards hX.city, cEmen hX.city, cEwords hX.city, cEbargains hX.city, cEsherds hX.city, cElaws hX.city, cEtallies hX.city, oWardI hX.city, oWardP hX.city, oWardZ0 hX.city, oWardZ1 hX.city, oWardK hX.city, oBarI hX.city, oBarP hX.city, oBarZ0 hX.city, oBarZ1 hX.city, oBarK hX.city, oSheI hX.city, oSheP hX.city, oSheZ0 hX.city, oSheZ1 hX.city, oSheK hX.city, oManI hX.city, oManP hX.city, oManZ0 hX.city, oManZ1 hX.city, oManK hX.city, oManR hX.city, oManA hX.city, oManS hX.city, oWordI hX.city, oWordP hX.city, oWordZ0 hX.city, oWordZ1 hX.city, oWordK hX.city, oWordR hX.city, oWordA hX.city, oWordS hX.city, f_X11_sherd, k_within, k_isDay, k_isClub, k_isName, k_hasMan hC hs hI, k_hasWard hC hs hI, k_hasSherd hC hs hI, k_hasBargain hC hs hI, k_areTwoMen hC hs hI, k_isWet hC hs hI, z0, z1, z2, z3, z4, z5, z6, z8, e0, e1, e2, e3, e4, e5, e6, e8, lit_lt, lit_eq, if_true, if_false, ite_self, Bool.true_and, Bool.and_true, decide_true, decide_false, Bool.false_eq_true, Bool.false_and, Bool.and_false,  b_X11_sherd_18, b_X11_sherd_33, c1, or_gate, c2, c5, c3]) (by simp (disch := omega) only [some_bind, ite_bI0, lit_add, lit_addr, lit_mul, lit_aI, lit_aZ, lit_aR, lit_sI, lit_sZ, nI_add, pk_mul, nn_lt, up2_same, up2_ne, ↓reduceIte, natT, natF, natE, natN, Nat.reduceAdd, Nat.reduceMul, Option.bind_some, if_true, if_false, Bool.false_eq_true, mR0 hS, mA0 hS, mS0 hS, mR1 hS, mA1 hS, mS1 hS, mI2 hS, mP2 hS, mZ2_0 hS, mZ2_1 hS, mR3 hS, mA3 hS, mS3 hS, mI4 hS, mP4 hS, mR5 hS, mA5 hS, mS5 hS, mR6 hS, mA6 hS, mS6 hS, mR7 hS, mA7 hS, mS7 hS, mR8 hS, mA8 hS, mS8 hS, mR9 hS, mA9 hS, mS9 hS, mR10 hS, mA10 hS, mS10 hS, mI11 hS, mP11 hS, mI12 hS, mP12 hS, mI13 hS, mP13 hS, mI14 hS, mP14 hS, mI15 hS, mP15 hS, mI16 hS, mP16 hS, mI17 hS, mP17 hS, mI18 hS, mP18 hS, mR19 hS, mA19 hS, mS19 hS, mR20 hS, mA20 hS, mS20 hS, mR21 hS, mA21 hS, mS21 hS, mI22 hS, mP22 hS, mI23 hS, mP23 hS, mI24 hS, mP24 hS, mI25 hS, mP25 hS, mI26 hS, mP26 hS, mR27 hS, mA27 hS, mS27 hS, mR28 hS, mA28 hS, mS28 hS, mI29 hS, mP29 hS, mR30 hS, mA30 hS, mS30 hS, mR31 hS, mA31 hS, mS31 hS, mR32 hS, mA32 hS, mS32 hS, mR33 hS, mA33 hS, mS33 hS, mR34 hS, mA34 hS, mS34 hS, mR35 hS, mA35 hS, mS35 hS, mR36 hS, mA36 hS, mS36 hS, mR37 hS, mA37 hS, mS37 hS, mI38 hS, mP38 hS, mI39 hS, mP39 hS, mI40 hS, mP40 hS, mI41 hS, mP41 hS, mI42 hS, mP42 hS, mZ42_0 hS, mZ42_1 hS, rck hS, f_X12_sherd, s_in, s_isDay, s_isClub, r_isName, e0, e1, e2, e3, e4, e5, e6, e8, lit_lt, lit_eq, if_true, if_false, ite_self, hD, hD, r_isMan hS hD hI, r_isWard hS hD hI, r_isSherd hS hD hI, r_isWet hS hD hI, Bool.false_eq_true,  b_X12_sherd_18, b_X12_sherd_31, c1, or_gate, c2, c5, c3])
  have hxA : f_X11_sherd (some x) a1 a2 a3 a4 a5 a6 (mkH n st S μ) = b_X11_sherd_49 (some x) a1 a2 a3 a4 a5 a6 (mkH n st S μ) := by
    simp (disch := omega) only [f_X11_sherd, b_X11_sherd_18, b_X11_sherd_33, k_isName, some_bind, ite_bI0, c1, if_true, or_gate, c2, c5, xR0 hX, cck hC, k_hasWard hC hs hI, c3]
  have hmA : ∀ μ1 : MU, μ1 (x + 175 + 1) = D → f_X12_sherd (some (x + 175)) a1 a2 a3 a4 a5 a6 (mkH n st S μ1) = b_X12_sherd_31 (some (x + 175)) a1 a2 a3 a4 a5 a6 (mkH n st S μ1) := by
    intro μ1 hD1
    simp (disch := omega) only [f_X12_sherd, b_X12_sherd_18, r_isName, some_bind, ite_bI0, c1, if_true, or_gate, c2, rck hS, r_isWard hS hD1 hI, c3]
  by_cases c4 : inS a4 (-1) 4 = true
  case neg => exact ResM.same hR' (-1) (by rw [hxA]; simp only [b_X11_sherd_49, k_within, some_bind, ite_bI0, c4, if_false, Bool.false_eq_true]) (by rw [hmA μ hD]; simp only [b_X12_sherd_31, s_in, some_bind, ite_bI0, c4, if_false, Bool.false_eq_true])
  have hmB : ∀ μ1 : MU, μ1 (x + 175 + 1) = D → f_X12_sherd (some (x + 175)) a1 a2 a3 a4 a5 a6 (mkH n st S μ1) = b_X12_sherd_54 (some (x + 175)) a1 a2 a3 a4 a5 a6 (mkH n st S μ1) := by
    intro μ1 hD1
    rw [hmA μ1 hD1]
    simp only [b_X12_sherd_31, s_in, some_bind, ite_bI0, c4, if_true, r_isName, or_gate, c5]
  by_cases c6 : inS a6 0 19999 = true
  case neg => exact ResM.same hR' (-1) (by rw [hxA]; simp only [b_X11_sherd_49, k_within, some_bind, ite_bI0, c4, c6, if_true, if_false, Bool.false_eq_true]) (by rw [hmB μ hD]; simp only [b_X12_sherd_54, s_in, some_bind, ite_bI0, c6, if_false, Bool.false_eq_true])
  by_cases h5 : nD D 5 < 40
  case neg => exact ResM.same hR' (-2) (by rw [hxA]; simp (disch := omega) only [b_X11_sherd_49, k_within, some_bind, ite_bI0, c4, c6, if_true, xR0 hX, cI12 hC, z5, e5, lit_lt, natF, if_false]) (by rw [hmB μ hD]; simp (disch := omega) only [b_X12_sherd_54, s_in, some_bind, ite_bI0, c6, if_true, mR0 hS, lit_aI, mA0 hS, hD, e5, lit_eq, natE])
  obtain ⟨rd, hrd, hx, hm, krd⟩ := rdy_ex c6
  obtain ⟨μA, a1', aN, aV, a9, a10⟩ := k_sheB (n := n) (st := st) (μ := μ) hC h5 a1 a2 a3 a4
  obtain ⟨μB, hB⟩ : ∃ q, q = up2 (up2 (up2 μA (x + 1 + 78 + nD D 5) 4 a5) (x + 1 + 78 + nD D 5) 5 rd) (x + 1 + 78 + nD D 5) 6 (iRem a6 10000) := ⟨_, rfl⟩
  have aN' : ∀ a j, ¬ a = x + 1 + 78 + nD D 5 → μB a j = μ a j := fun a j h => by rw [hB, up2_ne (by omega), up2_ne (by omega), up2_ne (by omega), aN a j h]
  obtain ⟨μ1, g1, gn, g12, gv, g7, g9, g10⟩ := k_addSherd (n := n) (st := st) hC hs hI h5 aN' (by rw [hB, up2_ne (by omega), up2_ne (by omega), up2_ne (by omega), aV 0 (by omega)]; exact c1) (by rw [hB, up2_ne (by omega), up2_ne (by omega), up2_ne (by omega), a9]) (by rw [hB, up2_ne (by omega), up2_ne (by omega), up2_ne (by omega), a10])
  have fx : f_X11_sherd (some x) a1 a2 a3 a4 a5 a6 (mkH n st S μ) = some (nI (nD D 5), mkH n st S μ1) := by
    have aN2 : μA (x + 1) 12 = nI (nD D 5) := by rw [aN _ _ (by omega), z5, e5]
    rw [hxA]
    simp (disch := omega) only [b_X11_sherd_49, k_within, some_bind, ite_bI0, c4, c6, if_true, xR0 hX, cI12 hC, z5, e5, lit_lt, natT, cR11 hC, cEsherds hC, oSheK hC, a1', oSheP hC]
    refine Eq.trans (hx fun r => b_X11_sherd_139 (some x) a6 (some (x + 1 + 78 + nD D 5)) (some (x + 1 + 78 + nD D 5)) r (mkH n st S (up2 μA (x + 1 + 78 + nD D 5) 4 a5))) ?_
    simp (disch := omega) only [b_X11_sherd_139, oSheZ hC h5 (j := 5) (by omega) hrd, some_bind, oSheP hC, xR0 hX, cck hC]
    rw [← hB, g1]
    rfl
  have hD1 : μ1 (x + 175 + 1) = D := by funext q; rw [gn _ _ (by omega) (by omega) (by omega), hD]
  obtain ⟨μ2, f1, f2, f3, f4, f5⟩ := r_makes (n := n) (st := st) hS hD1 hI h5 a1 a2 a3 a4 a5 a6
  have fm : f_X12_sherd (some (x + 175)) a1 a2 a3 a4 a5 a6 (mkH n st S μ1) = some (nI (nD D 5), mkH n st S μ2) := by
    rw [hmB μ1 hD1]
    simp (disch := omega) only [b_X12_sherd_54, some_bind, ite_bI0, if_true, rck hS, s_in, c6, mR0 hS, lit_aI, mA0 hS, hD1, e5, lit_eq, natN, if_false, f1, f5, nI_m1]
  refine ResM.core hRest _ fx fm (fun a j h => by rw [gn _ _ (by omega) (by omega) (by omega)]) ?_ (fun a j h => by unfold oth at h; rw [f2 _ _ (by omega), gn _ _ (by omega) (by omega) (by omega)])
  suffices hfin : Sim μ2 (x + 1) (μ2 (x + 175 + 1)) ∧ Inv (μ2 (x + 175 + 1)) by
    exact Core.mk' (μ := μ) hX hS hL0 (fun a j h => by rw [f2 _ _ (by omega), gn _ _ (by omega) (by omega) (by omega)]) hfin.1 hfin.2
  refine sherd_sim (a1 := a1) (a2 := a2) (a3 := a3) (a4 := a4) (a5 := a5) (rd := rd) (hd := iRem a6 10000) hs hI h5 ?_ ?_ ?_ ?_ ?_ f3 (by rw [← hm]; exact f4) f5 c1 ?_ ?_ (inS_o (M := 4) (by omega) c4) ?_ krd (rem_n (M := 19999) (by omega) c6)
  · intro a j q1 q2 q3 q4
    rw [f2 _ _ (by omega), gn _ _ q1 q2 q3]
  · rw [f2 _ _ (by omega), g12]
  · intro j hj
    rw [f2 _ _ (by omega)]
    by_cases h7 : j = 7
    · subst h7; rw [g7]; rfl
    · rw [gv j hj h7, hB]
      rcases (by omega : j = 0 ∨ j = 1 ∨ j = 2 ∨ j = 3 ∨ j = 4 ∨ j = 5 ∨ j = 6 ∨ j = 8) with rfl | rfl | rfl | rfl | rfl | rfl | rfl | rfl
      all_goals simp (disch := omega) only [up2_ne, up2_same, aV]; rfl
  · rw [f2 _ _ (by omega), g9]
    congr 1
    refine biN_congr _ fun i hi => ?_
    simp (disch := omega) only [exM, hisM, f2, gv, aN', gn]
  · rw [f2 _ _ (by omega), g10]
    congr 1
    refine biN_congr _ fun i hi => ?_
    simp (disch := omega) only [neM, hisM, f2, gv, aN', gn]
  · rcases Bool.or_eq_true_iff.mp c2 with h | h
    · exact Or.inl (of_decide_eq_true h)
    · exact Or.inr h
  · rcases Bool.or_eq_true_iff.mp c3 with h | h
    · exact Or.inl (of_decide_eq_true h)
    · obtain ⟨i, hi, q⟩ := ixB_ex (by omega) h
      exact Or.inr ⟨i, by omega, q⟩
  · rcases Bool.or_eq_true_iff.mp c5 with h | h
    · exact Or.inl (of_decide_eq_true h)
    · exact Or.inr h
end SHERDM
section PUT
variable {n n' : Nat} {st : Nat → Nat} {S S' : SH} {μ μ' : MU} {x b m c l : Nat} {D : DR}
theorem op_comesFrom (hR : R n st S μ x b) (a1 a2 : Int32) : Res (f_X11_comesFrom (some x) a1 a2) (f_X12_comesFrom (some (x + 175)) a1 a2) n st S μ x b := by
  have hR' := hR
  obtain ⟨⟨hX, hS, hs, hI, hL0⟩, hRest⟩ := hR
  have hC := hX.city
  have hBase := hRest.2.2.2.1
  obtain ⟨D, hD⟩ : ∃ D, μ (x + 175 + 1) = D := ⟨_, rfl⟩
  replace hs : Sim μ (x + 1) (μ (x + 175 + 1)) := hs
  replace hI : Inv (μ (x + 175 + 1)) := hI
  rw [hD] at hs hI
  obtain ⟨e0, b0⟩ := hI.today
  obtain ⟨e1, b1⟩ := hI.wards
  obtain ⟨e2, b2⟩ := hI.men
  obtain ⟨e3, b3⟩ := hI.words
  obtain ⟨e4, b4⟩ := hI.bars
  obtain ⟨e5, b5⟩ := hI.shes
  obtain ⟨e6, b6⟩ := hI.wets
  obtain ⟨e8, b8⟩ := hI.heaped
  have z0 := hs.today
  have z1 := hs.wardN
  have z2 := hs.manN
  have z3 := hs.wordN
  have z4 := hs.barN
  have z5 := hs.sheN
  have z6 := hs.wetN
  have z8 := hs.heapN
  obtain ⟨-, -, -, -, hn, K, ρ, hK, hSh⟩ := hRest
  by_cases c1 : inS a1 0 3 = true
  case neg => exact Res.same hR' (-1) (by simp only [f_X11_comesFrom, k_within, some_bind, c1, ite_bI0, if_false, Bool.false_eq_true]) (by simp only [f_X12_comesFrom, s_isFour, some_bind, c1, ite_bI0, if_false, Bool.false_eq_true])
  obtain ⟨k, hk, rfl⟩ := inS_n (M := 3) (by omega) c1
  have hk4 : k < 4 := by omega
  have e31 : ∀ μ1 : MU, aI (mkH n st S μ1) (some (x + 175 + 16)) (nI k) = some (μ1 (x + 191) k) := fun μ1 => mA31 hS hk4
  rcases sheet_at (n := n) (st := st) hX hSh hk4 with ⟨h1, h2⟩ | ⟨r, hr, h1, h2, hrow, -⟩
  · have m1 : (-1 : Int32) < 0 := by decide
    exact Res.same hR' (-11) (by simp only [f_X11_comesFrom, k_within, some_bind, c1, ite_bI0, if_true, xR10 hX, h2]) (by simp only [f_X12_comesFrom, b_X12_comesFrom_33, s_isFour, some_bind, c1, ite_bI0, if_true, mR31 hS, e31, h1, m1])
  · have g0 := row_gI (n := n) (st := st) hrow
    have g1 := row_gR (n := n) (st := st) hrow
    have hrow' := hrow
    obtain ⟨-, len, l1, l2, l3, l4, l5, l6⟩ := hrow'
    have r0 : ¬ nI r < (0 : Int32) := nI_pos (by omega)
    have e32 : ∀ μ1 : MU, aI (mkH n st S μ1) (some (x + 175 + 17)) (nI r) = some (μ1 (x + 192) r) := fun μ1 => mA32 hS hr
    have e33 : ∀ μ1 : MU, aI (mkH n st S μ1) (some (x + 175 + 18)) (nI r) = some (μ1 (x + 193) r) := fun μ1 => mA33 hS hr
    have nn : ∀ v : Nat, ¬ (some v : Option Nat) = none := fun v h => by cases h
    have aLn : aL (mkH n st S μ) (some (ρ r + 1)) = some (nI len) := ob_aL l2 (by omega)
    by_cases c3 : μ (x + 192) r = 2
    case neg =>
      refine Res.same hR' (-13) ?_ ?_
      · simp only [f_X11_comesFrom, k_within, some_bind, c1, ite_bI0, if_true, xR10 hX, h2, nn, if_false, g0, l4, c3]
      · simp only [f_X12_comesFrom, s_isFour, some_bind, c1, ite_bI0, if_true, mR31 hS, e31, h1, r0, if_false, mR32 hS, e32, c3]
    by_cases c4 : inS a2 0 (nI len - 6) = true
    case neg =>
      have c4' : a2 < 0 ∨ (¬ a2 < 0 ∧ nI len - 6 < a2) := by
        rw [inS, decide_eq_true_eq, Decidable.not_and_iff_not_or_not, Decidable.not_not, Decidable.not_not] at c4
        rcases c4 with h | h
        · exact Or.inl h
        · by_cases h0 : a2 < 0
          · exact Or.inl h0
          · exact Or.inr ⟨h0, h⟩
      refine Res.same hR' (-12) ?_ ?_
      · simp only [f_X11_comesFrom, k_within, some_bind, c1, ite_bI0, if_true, xR10 hX, h2, nn, if_false, g0, l4, c3, g1, aLn, c4, Bool.false_eq_true]
      · rcases c4' with h | ⟨h, h'⟩
        · simp only [f_X12_comesFrom, b_X12_comesFrom_33, s_isFour, some_bind, c1, ite_bI0, if_true, mR31 hS, e31, h1, r0, if_false, mR32 hS, e32, c3, h]
        · simp only [f_X12_comesFrom, b_X12_comesFrom_33, s_isFour, some_bind, c1, ite_bI0, if_true, mR31 hS, e31, h1, r0, if_false, mR32 hS, e32, c3, h, mR33 hS, e33, l3, h']
    have h6 : 6 ≤ len := by
      rcases Nat.lt_or_ge len 6 with h | h
      · exfalso
        rw [inS, decide_eq_true_eq] at c4
        obtain ⟨q1, q2⟩ := c4
        have hneg : nI len - 6 < 0 := by
          rcases (by omega : len = 0 ∨ len = 1 ∨ len = 2 ∨ len = 3 ∨ len = 4 ∨ len = 5) with e | e | e | e | e | e <;> subst e <;> decide
        rw [Int32.lt_iff_toInt_lt] at q1 q2 hneg
        omega
      · exact h
    have e6 : nI len - 6 = nI (len - 6) := pk_sub (a := len) (b := 6) (by omega)
    have c4b := c4
    rw [e6] at c4
    obtain ⟨i, hi, rfl⟩ := inS_n (M := len - 6) (by omega) c4
    have aIn : ∀ t, t < 6 → aI (mkH n st S μ) (some (ρ r + 1)) (nI (i + t)) = some (μ (x + 194) (40 * r + (i + t))) := fun t ht => by rw [← l6 (i + t) (by omega)]; exact ob_aI l2 (by omega) (by omega)
    have e34 : ∀ t, t < 6 → ∀ μ1 : MU, aI (mkH n st S μ1) (some (x + 175 + 19)) (nI (40 * r + i + t)) = some (μ1 (x + 194) (40 * r + (i + t))) := fun t ht μ1 => by rw [← Nat.add_assoc]; exact mA34 hS (by omega)
    obtain ⟨V, hV⟩ : ∃ V : Nat → Int32, V = fun t => μ (x + 194) (40 * r + (i + t)) := ⟨_, rfl⟩
    have aV : ∀ t, t < 6 → aI (mkH n st S μ) (some (ρ r + 1)) (nI (i + t)) = some (V t) := fun t ht => by rw [hV]; exact aIn t ht
    obtain ⟨v, μ1, n', S', μ', s1, s2, s3, s4⟩ := opM_sherd hR' (V 0) (V 1) (V 2) (V 3) (V 4) (V 5)
    have eV : ∀ t, t < 6 → aI (mkH n st S μ1) (some (x + 175 + 19)) (nI (40 * r + i + t)) = some (V t) := fun t ht => by rw [e34 t ht, s2 _ _ (by omega), hV]
    have f0 : aI (mkH n st S μ) (some (ρ r + 1)) (nI i) = some (V 0) := aV 0 (by omega)
    have g00 : aI (mkH n st S μ1) (some (x + 175 + 19)) (nI (40 * r + i)) = some (V 0) := eV 0 (by omega)
    have lt : ∀ (w t : Nat), nI w + OfNat.ofNat t = nI (w + t) := fun w t => nI_add w t
    have i0 : ¬ nI i < (0 : Int32) := nI_pos (by omega)
    have i6 : ¬ nI len - 6 < nI i := by
      rw [inS, decide_eq_true_eq] at c4b
      exact c4b.2
    refine ⟨v, mkH n st S μ1, n', S', μ', ?_, ?_, s4⟩
    · simp only [f_X11_comesFrom, k_within, some_bind, c1, ite_bI0, if_true, xR10 hX, h2, nn, if_false, g0, l4, c3, g1, aLn, c4b, f0, lt i, aV 1 (by omega), aV 2 (by omega), aV 3 (by omega), aV 4 (by omega), aV 5 (by omega), xck hX, nI_1]
      simp only [some_bind, s1]
    · have q191 : μ1 (x + 191) k = nI r := by rw [s2 _ _ (by omega)]; exact h1
      have q192 : μ1 (x + 192) r = 2 := by rw [s2 _ _ (by omega)]; exact c3
      have q193 : μ1 (x + 193) r = nI len := by rw [s2 _ _ (by omega)]; exact l3
      simp only [f_X12_comesFrom, b_X12_comesFrom_33, s_isFour, some_bind, c1, ite_bI0, if_true, mR31 hS, e31, q191, r0, if_false, mR32 hS, e32, q192, i0, mR33 hS, e33, q193, i6, mR34 hS, lit_mul, nI_add, lt, g00, eV 1 (by omega), eV 2 (by omega), eV 3 (by omega), eV 4 (by omega), eV 5 (by omega), rck hS, nI_1]
      simp only [some_bind, s3]
end PUT
