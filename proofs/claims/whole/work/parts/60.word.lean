-- ===== a new word =====
def filR (μ : MU) (a lo hi : Nat) (v : Int32) : MU := fun b i => if b = a ∧ lo ≤ i ∧ i < hi then v else μ b i
theorem filR_ne {μ : MU} {a lo hi b i : Nat} {v : Int32} (h : ¬ (b = a ∧ lo ≤ i ∧ i < hi)) : filR μ a lo hi v b i = μ b i := by simp only [filR, if_neg h]
theorem filR_in {μ : MU} {a lo hi i : Nat} {v : Int32} (h1 : lo ≤ i) (h2 : i < hi) : filR μ a lo hi v a i = v := by simp [filR, h1, h2]
theorem filR_up {μ : MU} {a j hi : Nat} {v : Int32} (h : j < hi) : filR (up2 μ a j v) a (j + 1) hi v = filR μ a j hi v := by
  funext b i
  unfold filR up2
  by_cases h1 : b = a ∧ i = j
  · rw [if_pos h1, if_neg (by omega), if_pos (by omega)]
  · by_cases h2 : b = a ∧ j + 1 ≤ i ∧ i < hi
    · rw [if_pos h2, if_pos (by omega)]
    · rw [if_neg h2, if_neg h1, if_neg (by omega)]
theorem filR_nil {μ : MU} {a j : Nat} {v : Int32} : filR μ a j j v = μ := by
  funext b i
  unfold filR
  rw [if_neg (by omega)]
section WORD
variable {n : Nat} {st : Nat → Nat} {S : SH} {μ : MU} {x b m c : Nat} {D : DR}
theorem k_wordL (hC : ShC S c) {v : Nat} (hv : v < 8) : ∀ k j fu (μ : MU), j + k = 16 → k < fu → b_X10_begin_12 fu (some (c + 54 + 2 * v)) (nI j) (mkH n st S μ) = some (mkH n st S (filR μ (c + 54 + 2 * v + 1) j 16 (-1))) := by
  intro k
  induction k with
  | zero =>
    intro j fu μ hj hf
    obtain ⟨fu, rfl⟩ : ∃ q, fu = q + 1 := ⟨fu - 1, by omega⟩
    obtain rfl : j = 16 := by omega
    rw [filR_nil]
    rfl
  | succ k ih =>
    intro j fu μ hj hf
    obtain ⟨fu, rfl⟩ : ∃ q, fu = q + 1 := ⟨fu - 1, by omega⟩
    simp (disch := omega) only [b_X10_begin_12, lit_lt, natT, if_true, oWordR hC, some_bind, oWordS hC, nI_1]
    rw [ih (j + 1) fu _ (by omega) (by omega), filR_up (by omega)]
/-- the days on which a word is heard, written anew from man j on -/
def heaR (μ : MU) (a v to : Nat) (day : Int32) (j : Nat) : MU := fun b q => if b = a ∧ 491 ≤ q ∧ q < 619 ∧ (q - 491) % 8 = v ∧ j ≤ (q - 491) / 8 then (if (q - 491) / 8 = to then day else -1) else μ b q
theorem heaR_ne {a v to j b' q : Nat} {day : Int32} (h : ¬ (b' = a ∧ 491 ≤ q ∧ q < 619 ∧ (q - 491) % 8 = v)) : heaR μ a v to day j b' q = μ b' q := by
  unfold heaR
  rw [if_neg (by omega)]
theorem r_wordL (hS : ShM S m) {v to : Nat} (hv : v < 8) (ht : to < 16) (day : Int32) : ∀ k j fu (μ : MU), μ (m + 1) 0 = day → j + k = 16 → k < fu → b_X12_word_77 fu (some m) (nI to) (nI v) (nI j) (mkH n st S μ) = (aI (mkH n st S (heaR μ (m + 1) v to day j)) (some (m + 1)) (nI 3)).bind fun v5 => (sI (mkH n st S (heaR μ (m + 1) v to day j)) (some (m + 1)) (nI 3) (v5 + 1)).bind fun h6 => some (nI v, h6) := by
  intro k
  induction k with
  | zero =>
    intro j fu μ h0 hj hf
    obtain ⟨fu, rfl⟩ : ∃ q, fu = q + 1 := ⟨fu - 1, by omega⟩
    obtain rfl : j = 16 := by omega
    have : heaR μ (m + 1) v to day 16 = μ := by
      funext b q
      unfold heaR
      rw [if_neg (by omega)]
    rw [this]
    simp (disch := omega) only [b_X12_word_77, lit_lt, natF, if_false, mR0 hS, some_bind, lit_aI, lit_sI]
  | succ k ih =>
    intro j fu μ h0 hj hf
    obtain ⟨fu, rfl⟩ : ∃ q, fu = q + 1 := ⟨fu - 1, by omega⟩
    have hst : ∀ w : Int32, w = (if j = to then day else -1) → heaR (up2 μ (m + 1) (491 + 8 * j + v) w) (m + 1) v to day (j + 1) = heaR μ (m + 1) v to day j := by
      intro w hw
      funext b q
      unfold heaR up2
      by_cases h1 : b = m + 1 ∧ q = 491 + 8 * j + v
      · obtain ⟨rfl, rfl⟩ := h1
        have e1 : (491 + 8 * j + v - 491) / 8 = j := by omega
        rw [if_neg (by omega), if_pos ⟨rfl, rfl⟩, if_pos (by omega), e1, hw]
      · rw [if_neg (c := b = m + 1 ∧ q = 491 + 8 * j + v) h1]
        congr 1
        apply propext
        constructor
        · intro ⟨h2, h3, h4, h5, h6⟩; exact ⟨h2, h3, h4, h5, by omega⟩
        · intro ⟨h2, h3, h4, h5, h6⟩; exact ⟨h2, h3, h4, h5, by omega⟩
    have h0' : ∀ w : Int32, up2 μ (m + 1) (491 + 8 * j + v) w (m + 1) 0 = day := fun w => by rw [up2_ne (by omega)]; exact h0
    have ih' := fun w => ih (j + 1) fu _ (h0' w) (by omega) (by omega)
    simp (disch := omega) only [b_X12_word_77, b_X12_word_116, lit_lt, natT, if_true, mR0 hS, some_bind, lit_aI, mA0 hS, mS0 hS, h0, lit_mul, lit_add, nI_add, nI_1, nn_eq, ih']
    by_cases hjt : j = to
    · rw [if_pos hjt, hst day (by rw [if_pos hjt])]
    · rw [if_neg hjt, hst (-1) (by rw [if_neg hjt])]
theorem op_word (hR : R n st S μ x b) (a1 a2 a3 : Int32) : Res (f_X11_word (some x) a1 a2 a3) (f_X12_word (some (x + 175)) a1 a2 a3) n st S μ x b := by
  have hR' := hR
  obtain ⟨⟨hX, hS, hs, hI, hL0⟩, hRest⟩ := hR
  have hC := hX.city
  have hBase := hRest.2.2.2.1
  obtain ⟨D, hD⟩ : ∃ D, μ (x + 175 + 1) = D := ⟨_, rfl⟩
  replace hs : Sim μ (x + 1) (μ (x + 175 + 1)) := hs
  replace hI : Inv (μ (x + 175 + 1)) := hI
  rw [hD] at hs hI
  obtain ⟨e0, b0⟩ := hI.today
  obtain ⟨e1, b1⟩ := hI.wards
  obtain ⟨e2, b2⟩ := hI.men
  obtain ⟨e3, b3⟩ := hI.words
  obtain ⟨e4, b4⟩ := hI.bars
  obtain ⟨e5, b5⟩ := hI.shes
  obtain ⟨e6, b6⟩ := hI.wets
  obtain ⟨e8, b8⟩ := hI.heaped
  have z0 := hs.today
  have z1 := hs.wardN
  have z2 := hs.manN
  have z3 := hs.wordN
  have z4 := hs.barN
  have z5 := hs.sheN
  have z6 := hs.wetN
  have z8 := hs.heapN
  by_cases c1 : ixB a1 (nD D 2) = true
  case neg => exact Res.same hR' (-1) (by simp (disch := omega) only [some_bind, ite_bI0, lit_add, lit_addr, lit_mul, lit_aI, lit_aZ, lit_aR, lit_sI, lit_sZ, nI_add, pk_mul, nn_lt, up2_same, up2_ne, ↓reduceIte, natT, natF, natE, natN, Nat.reduceAdd, Nat.reduceMul, Option.bind_some, if_true, if_false, Bool.false_eq_true, xR0 hX, xR2 hX, xR3 hX, xR4 hX, xR5 hX, xR7 hX, xR8 hX, xR10 hX, xR11 hX, xR12 hX, xR13 hX, xR14 hX, xR15 hX, xR16 hX, xI6 hX, xP6 hX, xI9 hX, xP9 hX, xck hX, xATap hX, xSTap hX, xAWai hX, xSWai hX, xALea hX, xSLea hX, xAMos hX, xSMos hX, xAGat hX, xSGat hX, xAThr hX, xSThr hX, xATra hX, xSTra hX, xACas hX, xSCas hX, xARMa hX, xSRMa hX, xARCl hX, xSRCl hX, xASWh hX, xSSWh hX, xASNu hX, xSSNu hX, xAPOf hX, xSPOf hX, xAPMe hX, xSPMe hX, xAAli hX, xSAli hX, rdR0 hX, rdI1 hX, rdP1 hX, rdR2 hX, rdI3 hX, rdP3 hX, rdI4 hX, rdP4 hX, rdI5 hX, rdP5 hX, rdI6 hX, rdP6 hX, rdI7 hX, rdP7 hX, rdZ7_0 hX, rdZ7_1 hX, rdI8 hX, rdP8 hX, rdI9 hX, rdP9 hX, rdI10 hX, rdP10 hX, rdR11 hX, rdI12 hX, rdP12 hX, rdck hX, poI0 hX, poP0 hX, poI1 hX, poP1 hX, poR2 hX, poR3 hX, poR4 hX, poR5 hX, pock hX, acI0 hX, acP0 hX, acI1 hX, acP1 hX, acI2 hX, acP2 hX, acR3 hX, acI4 hX, acP4 hX, acI5 hX, acP5 hX, acZ5_0 hX, acZ5_1 hX, acck hX, cI0 hX.city, cP0 hX.city, cR1 hX.city, cI2 hX.city, cP2 hX.city, cR3 hX.city, cI4 hX.city, cP4 hX.city, cR5 hX.city, cI6 hX.city, cP6 hX.city, cR7 hX.city, cI8 hX.city, cP8 hX.city, cR9 hX.city, cI10 hX.city, cP10 hX.city, cR11 hX.city, cI12 hX.city, cP12 hX.city, cR13 hX.city, cI14 hX.city, cP14 hX.city, cR15 hX.city, cR16 hX.city, cR17 hX.city, cI18 hX.city, cP18 hX.city, cR19 hX.city, cck hX.city, cAWet hX.city, cSWet hX.city, cARul hX.city, cSRul hX.city, cAHea hX.city, cSHea hX.city, cALin hX.city, cSLin hX.city, cATal hX.city, cSTal hX.city, cEwards hX.city, cEmen hX.city, cEwords hX.city, cEbargains hX.city, cEsherds hX.city, cElaws hX.city, cEtallies hX.city, oWardI hX.city, oWardP hX.city, oWardZ0 hX.city, oWardZ1 hX.city, oWardK hX.city, oBarI hX.city, oBarP hX.city, oBarZ0 hX.city, oBarZ1 hX.city, oBarK hX.city, oSheI hX.city, oSheP hX.city, oSheZ0 hX.city, oSheZ1 hX.city, oSheK hX.city, oManI hX.city, oManP hX.city, oManZ0 hX.city, oManZ1 hX.city, oManK hX.city, oManR hX.city, oManA hX.city, oManS hX.city, oWordI hX.city, oWordP hX.city, oWordZ0 hX.city, oWordZ1 hX.city, oWordK hX.city, oWordR hX.city, oWordA hX.city, oWordS hX.city, f_X11_word, k_within, k_isDay, k_isClub, k_isName, k_hasMan hC hs hI, k_hasWard hC hs hI, k_hasSherd hC hs hI, k_hasBargain hC hs hI, k_areTwoMen hC hs hI, k_isWet hC hs hI, z0, z1, z2, z3, z4, z5, z6, z8, e0, e1, e2, e3, e4, e5, e6, e8, lit_lt, lit_eq, if_true, if_false, ite_self, Bool.true_and, Bool.and_true, decide_true, decide_false, Bool.false_eq_true, Bool.false_and, Bool.and_false,  c1]) (by simp (disch := omega) only [some_bind, ite_bI0, lit_add, lit_addr, lit_mul, lit_aI, lit_aZ, lit_aR, lit_sI, lit_sZ, nI_add, pk_mul, nn_lt, up2_same, up2_ne, ↓reduceIte, natT, natF, natE, natN, Nat.reduceAdd, Nat.reduceMul, Option.bind_some, if_true, if_false, Bool.false_eq_true, mR0 hS, mA0 hS, mS0 hS, mR1 hS, mA1 hS, mS1 hS, mI2 hS, mP2 hS, mZ2_0 hS, mZ2_1 hS, mR3 hS, mA3 hS, mS3 hS, mI4 hS, mP4 hS, mR5 hS, mA5 hS, mS5 hS, mR6 hS, mA6 hS, mS6 hS, mR7 hS, mA7 hS, mS7 hS, mR8 hS, mA8 hS, mS8 hS, mR9 hS, mA9 hS, mS9 hS, mR10 hS, mA10 hS, mS10 hS, mI11 hS, mP11 hS, mI12 hS, mP12 hS, mI13 hS, mP13 hS, mI14 hS, mP14 hS, mI15 hS, mP15 hS, mI16 hS, mP16 hS, mI17 hS, mP17 hS, mI18 hS, mP18 hS, mR19 hS, mA19 hS, mS19 hS, mR20 hS, mA20 hS, mS20 hS, mR21 hS, mA21 hS, mS21 hS, mI22 hS, mP22 hS, mI23 hS, mP23 hS, mI24 hS, mP24 hS, mI25 hS, mP25 hS, mI26 hS, mP26 hS, mR27 hS, mA27 hS, mS27 hS, mR28 hS, mA28 hS, mS28 hS, mI29 hS, mP29 hS, mR30 hS, mA30 hS, mS30 hS, mR31 hS, mA31 hS, mS31 hS, mR32 hS, mA32 hS, mS32 hS, mR33 hS, mA33 hS, mS33 hS, mR34 hS, mA34 hS, mS34 hS, mR35 hS, mA35 hS, mS35 hS, mR36 hS, mA36 hS, mS36 hS, mR37 hS, mA37 hS, mS37 hS, mI38 hS, mP38 hS, mI39 hS, mP39 hS, mI40 hS, mP40 hS, mI41 hS, mP41 hS, mI42 hS, mP42 hS, mZ42_0 hS, mZ42_1 hS, rck hS, f_X12_word, s_in, s_isDay, s_isClub, r_isName, e0, e1, e2, e3, e4, e5, e6, e8, lit_lt, lit_eq, if_true, if_false, ite_self, hD, hD, r_isMan hS hD hI, r_isWard hS hD hI, r_isSherd hS hD hI, r_isWet hS hD hI, Bool.false_eq_true,  c1])
  by_cases c2 : ixB a3 (nD D 2) = true
  case neg => exact Res.same hR' (-1) (by simp (disch := omega) only [some_bind, ite_bI0, lit_add, lit_addr, lit_mul, lit_aI, lit_aZ, lit_aR, lit_sI, lit_sZ, nI_add, pk_mul, nn_lt, up2_same, up2_ne, ↓reduceIte, natT, natF, natE, natN, Nat.reduceAdd, Nat.reduceMul, Option.bind_some, if_true, if_false, Bool.false_eq_true, xR0 hX, xR2 hX, xR3 hX, xR4 hX, xR5 hX, xR7 hX, xR8 hX, xR10 hX, xR11 hX, xR12 hX, xR13 hX, xR14 hX, xR15 hX, xR16 hX, xI6 hX, xP6 hX, xI9 hX, xP9 hX, xck hX, xATap hX, xSTap hX, xAWai hX, xSWai hX, xALea hX, xSLea hX, xAMos hX, xSMos hX, xAGat hX, xSGat hX, xAThr hX, xSThr hX, xATra hX, xSTra hX, xACas hX, xSCas hX, xARMa hX, xSRMa hX, xARCl hX, xSRCl hX, xASWh hX, xSSWh hX, xASNu hX, xSSNu hX, xAPOf hX, xSPOf hX, xAPMe hX, xSPMe hX, xAAli hX, xSAli hX, rdR0 hX, rdI1 hX, rdP1 hX, rdR2 hX, rdI3 hX, rdP3 hX, rdI4 hX, rdP4 hX, rdI5 hX, rdP5 hX, rdI6 hX, rdP6 hX, rdI7 hX, rdP7 hX, rdZ7_0 hX, rdZ7_1 hX, rdI8 hX, rdP8 hX, rdI9 hX, rdP9 hX, rdI10 hX, rdP10 hX, rdR11 hX, rdI12 hX, rdP12 hX, rdck hX, poI0 hX, poP0 hX, poI1 hX, poP1 hX, poR2 hX, poR3 hX, poR4 hX, poR5 hX, pock hX, acI0 hX, acP0 hX, acI1 hX, acP1 hX, acI2 hX, acP2 hX, acR3 hX, acI4 hX, acP4 hX, acI5 hX, acP5 hX, acZ5_0 hX, acZ5_1 hX, acck hX, cI0 hX.city, cP0 hX.city, cR1 hX.city, cI2 hX.city, cP2 hX.city, cR3 hX.city, cI4 hX.city, cP4 hX.city, cR5 hX.city, cI6 hX.city, cP6 hX.city, cR7 hX.city, cI8 hX.city, cP8 hX.city, cR9 hX.city, cI10 hX.city, cP10 hX.city, cR11 hX.city, cI12 hX.city, cP12 hX.city, cR13 hX.city, cI14 hX.city, cP14 hX.city, cR15 hX.city, cR16 hX.city, cR17 hX.city, cI18 hX.city, cP18 hX.city, cR19 hX.city, cck hX.city, cAWet hX.city, cSWet hX.city, cARul hX.city, cSRul hX.city, cAHea hX.city, cSHea hX.city, cALin hX.city, cSLin hX.city, cATal hX.city, cSTal hX.city, cEwards hX.city, cEmen hX.city, cEwords hX.city, cEbargains hX.city, cEsherds hX.city, cElaws hX.city, cEtallies hX.city, oWardI hX.city, oWardP hX.city, oWardZ0 hX.city, oWardZ1 hX.city, oWardK hX.city, oBarI hX.city, oBarP hX.city, oBarZ0 hX.city, oBarZ1 hX.city, oBarK hX.city, oSheI hX.city, oSheP hX.city, oSheZ0 hX.city, oSheZ1 hX.city, oSheK hX.city, oManI hX.city, oManP hX.city, oManZ0 hX.city, oManZ1 hX.city, oManK hX.city, oManR hX.city, oManA hX.city, oManS hX.city, oWordI hX.city, oWordP hX.city, oWordZ0 hX.city, oWordZ1 hX.city, oWordK hX.city, oWordR hX.city, oWordA hX.city, oWordS hX.city, f_X11_word, k_within, k_isDay, k_isClub, k_isName, k_hasMan hC hs hI, k_hasWard hC hs hI, k_hasSherd hC hs hI, k_hasBargain hC hs hI, k_areTwoMen hC hs hI, k_isWet hC hs hI, z0, z1, z2, z3, z4, z5, z6, z8, e0, e1, e2, e3, e4, e5, e6, e8, lit_lt, lit_eq, if_true, if_false, ite_self, Bool.true_and, Bool.and_true, decide_true, decide_false, Bool.false_eq_true, Bool.false_and, Bool.and_false,  c1, c2]) (by simp (disch := omega) only [some_bind, ite_bI0, lit_add, lit_addr, lit_mul, lit_aI, lit_aZ, lit_aR, lit_sI, lit_sZ, nI_add, pk_mul, nn_lt, up2_same, up2_ne, ↓reduceIte, natT, natF, natE, natN, Nat.reduceAdd, Nat.reduceMul, Option.bind_some, if_true, if_false, Bool.false_eq_true, mR0 hS, mA0 hS, mS0 hS, mR1 hS, mA1 hS, mS1 hS, mI2 hS, mP2 hS, mZ2_0 hS, mZ2_1 hS, mR3 hS, mA3 hS, mS3 hS, mI4 hS, mP4 hS, mR5 hS, mA5 hS, mS5 hS, mR6 hS, mA6 hS, mS6 hS, mR7 hS, mA7 hS, mS7 hS, mR8 hS, mA8 hS, mS8 hS, mR9 hS, mA9 hS, mS9 hS, mR10 hS, mA10 hS, mS10 hS, mI11 hS, mP11 hS, mI12 hS, mP12 hS, mI13 hS, mP13 hS, mI14 hS, mP14 hS, mI15 hS, mP15 hS, mI16 hS, mP16 hS, mI17 hS, mP17 hS, mI18 hS, mP18 hS, mR19 hS, mA19 hS, mS19 hS, mR20 hS, mA20 hS, mS20 hS, mR21 hS, mA21 hS, mS21 hS, mI22 hS, mP22 hS, mI23 hS, mP23 hS, mI24 hS, mP24 hS, mI25 hS, mP25 hS, mI26 hS, mP26 hS, mR27 hS, mA27 hS, mS27 hS, mR28 hS, mA28 hS, mS28 hS, mI29 hS, mP29 hS, mR30 hS, mA30 hS, mS30 hS, mR31 hS, mA31 hS, mS31 hS, mR32 hS, mA32 hS, mS32 hS, mR33 hS, mA33 hS, mS33 hS, mR34 hS, mA34 hS, mS34 hS, mR35 hS, mA35 hS, mS35 hS, mR36 hS, mA36 hS, mS36 hS, mR37 hS, mA37 hS, mS37 hS, mI38 hS, mP38 hS, mI39 hS, mP39 hS, mI40 hS, mP40 hS, mI41 hS, mP41 hS, mI42 hS, mP42 hS, mZ42_0 hS, mZ42_1 hS, rck hS, f_X12_word, s_in, s_isDay, s_isClub, r_isName, e0, e1, e2, e3, e4, e5, e6, e8, lit_lt, lit_eq, if_true, if_false, ite_self, hD, hD, r_isMan hS hD hI, r_isWard hS hD hI, r_isSherd hS hD hI, r_isWet hS hD hI, Bool.false_eq_true,  c1, c2])
  by_cases c3 : inS a2 (-5) 5 = true
  case neg => exact Res.same hR' (-1) (by simp (disch := omega) only [some_bind, ite_bI0, lit_add, lit_addr, lit_mul, lit_aI, lit_aZ, lit_aR, lit_sI, lit_sZ, nI_add, pk_mul, nn_lt, up2_same, up2_ne, ↓reduceIte, natT, natF, natE, natN, Nat.reduceAdd, Nat.reduceMul, Option.bind_some, if_true, if_false, Bool.false_eq_true, xR0 hX, xR2 hX, xR3 hX, xR4 hX, xR5 hX, xR7 hX, xR8 hX, xR10 hX, xR11 hX, xR12 hX, xR13 hX, xR14 hX, xR15 hX, xR16 hX, xI6 hX, xP6 hX, xI9 hX, xP9 hX, xck hX, xATap hX, xSTap hX, xAWai hX, xSWai hX, xALea hX, xSLea hX, xAMos hX, xSMos hX, xAGat hX, xSGat hX, xAThr hX, xSThr hX, xATra hX, xSTra hX, xACas hX, xSCas hX, xARMa hX, xSRMa hX, xARCl hX, xSRCl hX, xASWh hX, xSSWh hX, xASNu hX, xSSNu hX, xAPOf hX, xSPOf hX, xAPMe hX, xSPMe hX, xAAli hX, xSAli hX, rdR0 hX, rdI1 hX, rdP1 hX, rdR2 hX, rdI3 hX, rdP3 hX, rdI4 hX, rdP4 hX, rdI5 hX, rdP5 hX, rdI6 hX, rdP6 hX, rdI7 hX, rdP7 hX, rdZ7_0 hX, rdZ7_1 hX, rdI8 hX, rdP8 hX, rdI9 hX, rdP9 hX, rdI10 hX, rdP10 hX, rdR11 hX, rdI12 hX, rdP12 hX, rdck hX, poI0 hX, poP0 hX, poI1 hX, poP1 hX, poR2 hX, poR3 hX, poR4 hX, poR5 hX, pock hX, acI0 hX, acP0 hX, acI1 hX, acP1 hX, acI2 hX, acP2 hX, acR3 hX, acI4 hX, acP4 hX, acI5 hX, acP5 hX, acZ5_0 hX, acZ5_1 hX, acck hX, cI0 hX.city, cP0 hX.city, cR1 hX.city, cI2 hX.city, cP2 hX.city, cR3 hX.city, cI4 hX.city, cP4 hX.city, cR5 hX.city, cI6 hX.city, cP6 hX.city, cR7 hX.city, cI8 hX.city, cP8 hX.city, cR9 hX.city, cI10 hX.city, cP10 hX.city, cR11 hX.city, cI12 hX.city, cP12 hX.city, cR13 hX.city, cI14 hX.city, cP14 hX.city, cR15 hX.city, cR16 hX.city, cR17 hX.city, cI18 hX.city, cP18 hX.city, cR19 hX.city, cck hX.city, cAWet hX.city, cSWet hX.city, cARul hX.city, cSRul hX.city, cAHea hX.city, cSHea hX.city, cALin hX.city, cSLin hX.city, cATal hX.city, cSTal hX.city, cEwards hX.city, cEmen hX.city, cEwords hX.city, cEbargains hX.city, cEsherds hX.city, cElaws hX.city, cEtallies hX.city, oWardI hX.city, oWardP hX.city, oWardZ0 hX.city, oWardZ1 hX.city, oWardK hX.city, oBarI hX.city, oBarP hX.city, oBarZ0 hX.city, oBarZ1 hX.city, oBarK hX.city, oSheI hX.city, oSheP hX.city, oSheZ0 hX.city, oSheZ1 hX.city, oSheK hX.city, oManI hX.city, oManP hX.city, oManZ0 hX.city, oManZ1 hX.city, oManK hX.city, oManR hX.city, oManA hX.city, oManS hX.city, oWordI hX.city, oWordP hX.city, oWordZ0 hX.city, oWordZ1 hX.city, oWordK hX.city, oWordR hX.city, oWordA hX.city, oWordS hX.city, f_X11_word, k_within, k_isDay, k_isClub, k_isName, k_hasMan hC hs hI, k_hasWard hC hs hI, k_hasSherd hC hs hI, k_hasBargain hC hs hI, k_areTwoMen hC hs hI, k_isWet hC hs hI, z0, z1, z2, z3, z4, z5, z6, z8, e0, e1, e2, e3, e4, e5, e6, e8, lit_lt, lit_eq, if_true, if_false, ite_self, Bool.true_and, Bool.and_true, decide_true, decide_false, Bool.false_eq_true, Bool.false_and, Bool.and_false,  c1, c2, c3]) (by simp (disch := omega) only [some_bind, ite_bI0, lit_add, lit_addr, lit_mul, lit_aI, lit_aZ, lit_aR, lit_sI, lit_sZ, nI_add, pk_mul, nn_lt, up2_same, up2_ne, ↓reduceIte, natT, natF, natE, natN, Nat.reduceAdd, Nat.reduceMul, Option.bind_some, if_true, if_false, Bool.false_eq_true, mR0 hS, mA0 hS, mS0 hS, mR1 hS, mA1 hS, mS1 hS, mI2 hS, mP2 hS, mZ2_0 hS, mZ2_1 hS, mR3 hS, mA3 hS, mS3 hS, mI4 hS, mP4 hS, mR5 hS, mA5 hS, mS5 hS, mR6 hS, mA6 hS, mS6 hS, mR7 hS, mA7 hS, mS7 hS, mR8 hS, mA8 hS, mS8 hS, mR9 hS, mA9 hS, mS9 hS, mR10 hS, mA10 hS, mS10 hS, mI11 hS, mP11 hS, mI12 hS, mP12 hS, mI13 hS, mP13 hS, mI14 hS, mP14 hS, mI15 hS, mP15 hS, mI16 hS, mP16 hS, mI17 hS, mP17 hS, mI18 hS, mP18 hS, mR19 hS, mA19 hS, mS19 hS, mR20 hS, mA20 hS, mS20 hS, mR21 hS, mA21 hS, mS21 hS, mI22 hS, mP22 hS, mI23 hS, mP23 hS, mI24 hS, mP24 hS, mI25 hS, mP25 hS, mI26 hS, mP26 hS, mR27 hS, mA27 hS, mS27 hS, mR28 hS, mA28 hS, mS28 hS, mI29 hS, mP29 hS, mR30 hS, mA30 hS, mS30 hS, mR31 hS, mA31 hS, mS31 hS, mR32 hS, mA32 hS, mS32 hS, mR33 hS, mA33 hS, mS33 hS, mR34 hS, mA34 hS, mS34 hS, mR35 hS, mA35 hS, mS35 hS, mR36 hS, mA36 hS, mS36 hS, mR37 hS, mA37 hS, mS37 hS, mI38 hS, mP38 hS, mI39 hS, mP39 hS, mI40 hS, mP40 hS, mI41 hS, mP41 hS, mI42 hS, mP42 hS, mZ42_0 hS, mZ42_1 hS, rck hS, f_X12_word, s_in, s_isDay, s_isClub, r_isName, e0, e1, e2, e3, e4, e5, e6, e8, lit_lt, lit_eq, if_true, if_false, ite_self, hD, hD, r_isMan hS hD hI, r_isWard hS hD hI, r_isSherd hS hD hI, r_isWet hS hD hI, Bool.false_eq_true,  c1, c2, c3])
  by_cases c4 : nD D 3 < 8
  case neg => exact Res.same hR' (-2) (by simp (disch := omega) only [some_bind, ite_bI0, lit_add, lit_addr, lit_mul, lit_aI, lit_aZ, lit_aR, lit_sI, lit_sZ, nI_add, pk_mul, nn_lt, up2_same, up2_ne, ↓reduceIte, natT, natF, natE, natN, Nat.reduceAdd, Nat.reduceMul, Option.bind_some, if_true, if_false, Bool.false_eq_true, xR0 hX, xR2 hX, xR3 hX, xR4 hX, xR5 hX, xR7 hX, xR8 hX, xR10 hX, xR11 hX, xR12 hX, xR13 hX, xR14 hX, xR15 hX, xR16 hX, xI6 hX, xP6 hX, xI9 hX, xP9 hX, xck hX, xATap hX, xSTap hX, xAWai hX, xSWai hX, xALea hX, xSLea hX, xAMos hX, xSMos hX, xAGat hX, xSGat hX, xAThr hX, xSThr hX, xATra hX, xSTra hX, xACas hX, xSCas hX, xARMa hX, xSRMa hX, xARCl hX, xSRCl hX, xASWh hX, xSSWh hX, xASNu hX, xSSNu hX, xAPOf hX, xSPOf hX, xAPMe hX, xSPMe hX, xAAli hX, xSAli hX, rdR0 hX, rdI1 hX, rdP1 hX, rdR2 hX, rdI3 hX, rdP3 hX, rdI4 hX, rdP4 hX, rdI5 hX, rdP5 hX, rdI6 hX, rdP6 hX, rdI7 hX, rdP7 hX, rdZ7_0 hX, rdZ7_1 hX, rdI8 hX, rdP8 hX, rdI9 hX, rdP9 hX, rdI10 hX, rdP10 hX, rdR11 hX, rdI12 hX, rdP12 hX, rdck hX, poI0 hX, poP0 hX, poI1 hX, poP1 hX, poR2 hX, poR3 hX, poR4 hX, poR5 hX, pock hX, acI0 hX, acP0 hX, acI1 hX, acP1 hX, acI2 hX, acP2 hX, acR3 hX, acI4 hX, acP4 hX, acI5 hX, acP5 hX, acZ5_0 hX, acZ5_1 hX, acck hX, cI0 hX.city, cP0 hX.city, cR1 hX.city, cI2 hX.city, cP2 hX.city, cR3 hX.city, cI4 hX.city, cP4 hX.city, cR5 hX.city, cI6 hX.city, cP6 hX.city, cR7 hX.city, cI8 hX.city, cP8 hX.city, cR9 hX.city, cI10 hX.city, cP10 hX.city, cR11 hX.city, cI12 hX.city, cP12 hX.city, cR13 hX.city, cI14 hX.city, cP14 hX.city, cR15 hX.city, cR16 hX.city, cR17 hX.city, cI18 hX.city, cP18 hX.city, cR19 hX.city, cck hX.city, cAWet hX.city, cSWet hX.city, cARul hX.city, cSRul hX.city, cAHea hX.city, cSHea hX.city, cALin hX.city, cSLin hX.city, cATal hX.city, cSTal hX.city, cEwards hX.city, cEmen hX.city, cEwords hX.city, cEbargains hX.city, cEsherds hX.city, cElaws hX.city, cEtallies hX.city, oWardI hX.city, oWardP hX.city, oWardZ0 hX.city, oWardZ1 hX.city, oWardK hX.city, oBarI hX.city, oBarP hX.city, oBarZ0 hX.city, oBarZ1 hX.city, oBarK hX.city, oSheI hX.city, oSheP hX.city, oSheZ0 hX.city, oSheZ1 hX.city, oSheK hX.city, oManI hX.city, oManP hX.city, oManZ0 hX.city, oManZ1 hX.city, oManK hX.city, oManR hX.city, oManA hX.city, oManS hX.city, oWordI hX.city, oWordP hX.city, oWordZ0 hX.city, oWordZ1 hX.city, oWordK hX.city, oWordR hX.city, oWordA hX.city, oWordS hX.city, f_X11_word, k_within, k_isDay, k_isClub, k_isName, k_hasMan hC hs hI, k_hasWard hC hs hI, k_hasSherd hC hs hI, k_hasBargain hC hs hI, k_areTwoMen hC hs hI, k_isWet hC hs hI, z0, z1, z2, z3, z4, z5, z6, z8, e0, e1, e2, e3, e4, e5, e6, e8, lit_lt, lit_eq, if_true, if_false, ite_self, Bool.true_and, Bool.and_true, decide_true, decide_false, Bool.false_eq_true, Bool.false_and, Bool.and_false,  c1, c2, c3]) (by simp (disch := omega) only [some_bind, ite_bI0, lit_add, lit_addr, lit_mul, lit_aI, lit_aZ, lit_aR, lit_sI, lit_sZ, nI_add, pk_mul, nn_lt, up2_same, up2_ne, ↓reduceIte, natT, natF, natE, natN, Nat.reduceAdd, Nat.reduceMul, Option.bind_some, if_true, if_false, Bool.false_eq_true, mR0 hS, mA0 hS, mS0 hS, mR1 hS, mA1 hS, mS1 hS, mI2 hS, mP2 hS, mZ2_0 hS, mZ2_1 hS, mR3 hS, mA3 hS, mS3 hS, mI4 hS, mP4 hS, mR5 hS, mA5 hS, mS5 hS, mR6 hS, mA6 hS, mS6 hS, mR7 hS, mA7 hS, mS7 hS, mR8 hS, mA8 hS, mS8 hS, mR9 hS, mA9 hS, mS9 hS, mR10 hS, mA10 hS, mS10 hS, mI11 hS, mP11 hS, mI12 hS, mP12 hS, mI13 hS, mP13 hS, mI14 hS, mP14 hS, mI15 hS, mP15 hS, mI16 hS, mP16 hS, mI17 hS, mP17 hS, mI18 hS, mP18 hS, mR19 hS, mA19 hS, mS19 hS, mR20 hS, mA20 hS, mS20 hS, mR21 hS, mA21 hS, mS21 hS, mI22 hS, mP22 hS, mI23 hS, mP23 hS, mI24 hS, mP24 hS, mI25 hS, mP25 hS, mI26 hS, mP26 hS, mR27 hS, mA27 hS, mS27 hS, mR28 hS, mA28 hS, mS28 hS, mI29 hS, mP29 hS, mR30 hS, mA30 hS, mS30 hS, mR31 hS, mA31 hS, mS31 hS, mR32 hS, mA32 hS, mS32 hS, mR33 hS, mA33 hS, mS33 hS, mR34 hS, mA34 hS, mS34 hS, mR35 hS, mA35 hS, mS35 hS, mR36 hS, mA36 hS, mS36 hS, mR37 hS, mA37 hS, mS37 hS, mI38 hS, mP38 hS, mI39 hS, mP39 hS, mI40 hS, mP40 hS, mI41 hS, mP41 hS, mI42 hS, mP42 hS, mZ42_0 hS, mZ42_1 hS, rck hS, f_X12_word, s_in, s_isDay, s_isClub, r_isName, e0, e1, e2, e3, e4, e5, e6, e8, lit_lt, lit_eq, if_true, if_false, ite_self, hD, hD, r_isMan hS hD hI, r_isWard hS hD hI, r_isSherd hS hD hI, r_isWet hS hD hI, Bool.false_eq_true,  c1, c2, c3])
  obtain ⟨i, hi, rfl⟩ := ixB_ex (by omega) c1
  obtain ⟨to, hto, rfl⟩ := ixB_ex (by omega) c2
  have hl := k_wordL (n := n) (st := st) hC (v := nD D 3) c4 16 0 FU ((up2 (up2 μ (x + 1 + 54 + 2 * nD D 3) (0) (nI i)) (x + 1 + 54 + 2 * nD D 3) (1) (a2))) (by omega) (by decide)
  have hD1 : (up2 (up2 (filR ((up2 (up2 μ (x + 1 + 54 + 2 * nD D 3) (0) (nI i)) (x + 1 + 54 + 2 * nD D 3) (1) (a2))) (x + 1 + 54 + 2 * nD D 3 + 1) 0 16 (-1)) (x + 1 + 54 + 2 * nD D 3 + 1) (to) (nI (nD D 0))) (x + 1) (8) (nI (nD D 3 + 1))) (x + 175 + 1) = D := by funext q; simp (disch := omega) only [up2_ne, filR_ne, hD]
  have hm := r_wordL (n := n) (st := st) hS (v := nD D 3) (to := to) c4 (by omega) (nI (nD D 0)) 16 0 FU ((up2 (up2 (up2 (up2 (filR ((up2 (up2 μ (x + 1 + 54 + 2 * nD D 3) (0) (nI i)) (x + 1 + 54 + 2 * nD D 3) (1) (a2))) (x + 1 + 54 + 2 * nD D 3 + 1) 0 16 (-1)) (x + 1 + 54 + 2 * nD D 3 + 1) (to) (nI (nD D 0))) (x + 1) (8) (nI (nD D 3 + 1))) (x + 175 + 1) (475 + nD D 3) (nI i)) (x + 175 + 1) (483 + nD D 3) (a2))) (by simp (disch := omega) only [up2_ne, filR_ne, hD]; exact e0) (by omega) (by decide)
  have fx : f_X11_word (some x) (nI i) a2 (nI to) (mkH n st S μ) = some (nI (nD D 3), mkH n st S ((up2 (up2 (filR ((up2 (up2 μ (x + 1 + 54 + 2 * nD D 3) (0) (nI i)) (x + 1 + 54 + 2 * nD D 3) (1) (a2))) (x + 1 + 54 + 2 * nD D 3 + 1) 0 16 (-1)) (x + 1 + 54 + 2 * nD D 3 + 1) (to) (nI (nD D 0))) (x + 1) (8) (nI (nD D 3 + 1))))) := by
    simp (disch := omega) only [f_X11_word, xR0 hX, some_bind, cck hC, k_hasMan hC hs hI, ite_bI0, c1, c2, k_within, c3, if_true, cI8 hC, z3, e3, lit_lt, c4, cR7 hC, cEwords hC, oWordK hC, f_X10_begin, oWordP hC]
    refine Eq.trans (congrArg (fun q => Option.bind q _) hl) ?_
    simp (disch := omega) only [some_bind, oWordR hC, xR0 hX, cI0 hC, filR_ne, up2_ne, z0, e0, oWordS hC, cI8 hC, cP8 hC, z3, e3, nI_1, up2_same, nI_m1]
  have fm : f_X12_word (some (x + 175)) (nI i) a2 (nI to) (mkH n st S ((up2 (up2 (filR ((up2 (up2 μ (x + 1 + 54 + 2 * nD D 3) (0) (nI i)) (x + 1 + 54 + 2 * nD D 3) (1) (a2))) (x + 1 + 54 + 2 * nD D 3 + 1) 0 16 (-1)) (x + 1 + 54 + 2 * nD D 3 + 1) (to) (nI (nD D 0))) (x + 1) (8) (nI (nD D 3 + 1))))) = some (nI (nD D 3), mkH n st S ((up2 (heaR ((up2 (up2 (up2 (up2 (filR ((up2 (up2 μ (x + 1 + 54 + 2 * nD D 3) (0) (nI i)) (x + 1 + 54 + 2 * nD D 3) (1) (a2))) (x + 1 + 54 + 2 * nD D 3 + 1) 0 16 (-1)) (x + 1 + 54 + 2 * nD D 3 + 1) (to) (nI (nD D 0))) (x + 1) (8) (nI (nD D 3 + 1))) (x + 175 + 1) (475 + nD D 3) (nI i)) (x + 175 + 1) (483 + nD D 3) (a2))) (x + 175 + 1) (nD D 3) to (nI (nD D 0)) 0) (x + 175 + 1) (3) (nI (nD D 3 + 1))))) := by
    simp (disch := omega) only [f_X12_word, rck hS, some_bind, r_isMan hS hD1 hI, s_in, ite_bI0, c1, c2, c3, if_true, mR0 hS, lit_aI, mA0 hS, hD1, e3, lit_eq, natN, if_false, lit_add, mS0 hS]
    refine Eq.trans hm ?_
    simp (disch := omega) only [mA0 hS, some_bind, mS0 hS, heaR_ne, up2_ne, hD1, hD, filR_ne, e3, nI_1]
  refine Res.core hRest (nI (nD D 3)) (μ1 := (up2 (up2 (filR ((up2 (up2 μ (x + 1 + 54 + 2 * nD D 3) (0) (nI i)) (x + 1 + 54 + 2 * nD D 3) (1) (a2))) (x + 1 + 54 + 2 * nD D 3 + 1) 0 16 (-1)) (x + 1 + 54 + 2 * nD D 3 + 1) (to) (nI (nD D 0))) (x + 1) (8) (nI (nD D 3 + 1)))) (μ2 := (up2 (heaR ((up2 (up2 (up2 (up2 (filR ((up2 (up2 μ (x + 1 + 54 + 2 * nD D 3) (0) (nI i)) (x + 1 + 54 + 2 * nD D 3) (1) (a2))) (x + 1 + 54 + 2 * nD D 3 + 1) 0 16 (-1)) (x + 1 + 54 + 2 * nD D 3 + 1) (to) (nI (nD D 0))) (x + 1) (8) (nI (nD D 3 + 1))) (x + 175 + 1) (475 + nD D 3) (nI i)) (x + 175 + 1) (483 + nD D 3) (a2))) (x + 175 + 1) (nD D 3) to (nI (nD D 0)) 0) (x + 175 + 1) (3) (nI (nD D 3 + 1)))) fx fm ?_ (fun a j h => by unfold oth at h; simp (disch := omega) only [up2_ne, filR_ne, heaR_ne])
  have n3 : nD ((up2 (heaR ((up2 (up2 (up2 (up2 (filR ((up2 (up2 μ (x + 1 + 54 + 2 * nD D 3) (0) (nI i)) (x + 1 + 54 + 2 * nD D 3) (1) (a2))) (x + 1 + 54 + 2 * nD D 3 + 1) 0 16 (-1)) (x + 1 + 54 + 2 * nD D 3 + 1) (to) (nI (nD D 0))) (x + 1) (8) (nI (nD D 3 + 1))) (x + 175 + 1) (475 + nD D 3) (nI i)) (x + 175 + 1) (483 + nD D 3) (a2))) (x + 175 + 1) (nD D 3) to (nI (nD D 0)) 0) (x + 175 + 1) (3) (nI (nD D 3 + 1))) (x + 175 + 1)) 3 = nD D 3 + 1 := nD_of up2_same (by omega)
  have n2 : nD ((up2 (heaR ((up2 (up2 (up2 (up2 (filR ((up2 (up2 μ (x + 1 + 54 + 2 * nD D 3) (0) (nI i)) (x + 1 + 54 + 2 * nD D 3) (1) (a2))) (x + 1 + 54 + 2 * nD D 3 + 1) 0 16 (-1)) (x + 1 + 54 + 2 * nD D 3 + 1) (to) (nI (nD D 0))) (x + 1) (8) (nI (nD D 3 + 1))) (x + 175 + 1) (475 + nD D 3) (nI i)) (x + 175 + 1) (483 + nD D 3) (a2))) (x + 175 + 1) (nD D 3) to (nI (nD D 0)) 0) (x + 175 + 1) (3) (nI (nD D 3 + 1))) (x + 175 + 1)) 2 = nD D 2 := nD_eq (by simp (disch := omega) only [up2_ne, filR_ne, heaR_ne, hD])
  have n0 : nD ((up2 (heaR ((up2 (up2 (up2 (up2 (filR ((up2 (up2 μ (x + 1 + 54 + 2 * nD D 3) (0) (nI i)) (x + 1 + 54 + 2 * nD D 3) (1) (a2))) (x + 1 + 54 + 2 * nD D 3 + 1) 0 16 (-1)) (x + 1 + 54 + 2 * nD D 3 + 1) (to) (nI (nD D 0))) (x + 1) (8) (nI (nD D 3 + 1))) (x + 175 + 1) (475 + nD D 3) (nI i)) (x + 175 + 1) (483 + nD D 3) (a2))) (x + 175 + 1) (nD D 3) to (nI (nD D 0)) 0) (x + 175 + 1) (3) (nI (nD D 3 + 1))) (x + 175 + 1)) 0 = nD D 0 := nD_eq (by simp (disch := omega) only [up2_ne, filR_ne, heaR_ne, hD])
  have hat : ∀ v k, v ≤ nD D 3 → k < 16 → (up2 (heaR ((up2 (up2 (up2 (up2 (filR ((up2 (up2 μ (x + 1 + 54 + 2 * nD D 3) (0) (nI i)) (x + 1 + 54 + 2 * nD D 3) (1) (a2))) (x + 1 + 54 + 2 * nD D 3 + 1) 0 16 (-1)) (x + 1 + 54 + 2 * nD D 3 + 1) (to) (nI (nD D 0))) (x + 1) (8) (nI (nD D 3 + 1))) (x + 175 + 1) (475 + nD D 3) (nI i)) (x + 175 + 1) (483 + nD D 3) (a2))) (x + 175 + 1) (nD D 3) to (nI (nD D 0)) 0) (x + 175 + 1) (3) (nI (nD D 3 + 1))) (x + 175 + 1) (491 + 8 * k + v) = if v = nD D 3 then (if k = to then nI (nD D 0) else -1) else D (491 + 8 * k + v) := by
    intro v k hv hk
    rw [up2_ne (by omega)]
    have q1 : (491 + 8 * k + v - 491) % 8 = v := by omega
    have q2 : (491 + 8 * k + v - 491) / 8 = k := by omega
    unfold heaR
    rw [q1, q2]
    by_cases hvv : v = nD D 3
    · rw [if_pos (by omega), if_pos hvv]
    · rw [if_neg (by omega), if_neg hvv]
      simp (disch := omega) only [up2_ne, filR_ne, hD]
  refine Core.mk' (μ := μ) hX hS hL0 (fun a j h => by simp (disch := omega) only [up2_ne, filR_ne, heaR_ne]) ?_ ?_
  · refine ⟨GA.congr hI hs (fun a j h => by simp (disch := omega) only [up2_ne, filR_ne, heaR_ne]) (fun q h => by simp (disch := omega) only [up2_ne, filR_ne, heaR_ne, hD]), Gx.congr hI hs (fun a j h => by simp (disch := omega) only [up2_ne, filR_ne, heaR_ne]) (fun q h => by simp (disch := omega) only [up2_ne, filR_ne, heaR_ne, hD]), Gw.congr hI hs (fun a j h => by simp (disch := omega) only [up2_ne, filR_ne, heaR_ne]) (fun q h => by simp (disch := omega) only [up2_ne, filR_ne, heaR_ne, hD]), Gm.congr hI hs (fun a j h => by simp (disch := omega) only [up2_ne, filR_ne, heaR_ne]) (fun q h => by simp (disch := omega) only [up2_ne, filR_ne, heaR_ne, hD]), ?_, Gb.congr hI hs (fun a j h => by simp (disch := omega) only [up2_ne, filR_ne, heaR_ne]) (fun q h => by simp (disch := omega) only [up2_ne, filR_ne, heaR_ne, hD]), Gs.congr hI hs (fun a j h => by simp (disch := omega) only [up2_ne, filR_ne, heaR_ne]) (fun q h => by simp (disch := omega) only [up2_ne, filR_ne, heaR_ne, hD]), Ge.congr hI hs (fun a j h => by simp (disch := omega) only [up2_ne, filR_ne, heaR_ne]) (fun q h => by simp (disch := omega) only [up2_ne, filR_ne, heaR_ne, hD]), Gr.congr hI hs (fun a j h => by simp (disch := omega) only [up2_ne, filR_ne, heaR_ne]) (fun q h => by simp (disch := omega) only [up2_ne, filR_ne, heaR_ne, hD]), Gh.congr hI hs (fun a j h => by simp (disch := omega) only [up2_ne, filR_ne, heaR_ne]) (fun q h => by simp (disch := omega) only [up2_ne, filR_ne, heaR_ne, hD]), Gl.congr hI hs (fun a j h => by simp (disch := omega) only [up2_ne, filR_ne, heaR_ne]) (fun q h => by simp (disch := omega) only [up2_ne, filR_ne, heaR_ne, hD])⟩
    refine ⟨by simp (disch := omega) only [up2_ne, up2_same, filR_ne, heaR_ne], ?_, ?_, ?_⟩
    · rw [n3]
      intro v j hv hj
      by_cases hvv : v = nD D 3
      · subst hvv
        rcases (by omega : j = 0 ∨ j = 1) with rfl | rfl
        · simp (disch := omega) only [up2_ne, up2_same, filR_ne, heaR_ne, show 475 + 8 * 0 + nD D 3 = 475 + nD D 3 from by omega]
        · simp (disch := omega) only [up2_ne, up2_same, filR_ne, heaR_ne, show 475 + 8 * 1 + nD D 3 = 483 + nD D 3 from by omega]
      · have := hs.word v j (by omega) hj
        simp (disch := omega) only [up2_ne, filR_ne, heaR_ne, hD, this]
    · rw [n3, n2]
      intro v k hv hk
      rw [hat v k (by omega) (by omega)]
      by_cases hvv : v = nD D 3
      · subst hvv
        rw [if_pos rfl]
        by_cases hk2 : k = to
        · subst hk2; simp (disch := omega) only [up2_ne, up2_same, filR_ne, heaR_ne, if_true]
        · rw [if_neg hk2]
          simp (disch := omega) only [up2_ne, filR_in, heaR_ne]
      · rw [if_neg hvv]
        have := hs.heard v k (by omega) hk
        simp (disch := omega) only [up2_ne, filR_ne, heaR_ne, this]
    · rw [n3, n2]
      intro v k hv hk hk16
      by_cases hvv : v = nD D 3
      · subst hvv
        simp (disch := omega) only [up2_ne, filR_in, heaR_ne]
      · have := hs.unheard v k (by omega) hk hk16
        simp (disch := omega) only [up2_ne, filR_ne, heaR_ne, this]
  · refine ⟨IA.congr hI (fun q h => by simp (disch := omega) only [up2_ne, filR_ne, heaR_ne, hD]), Iw.congr hI (fun q h => by simp (disch := omega) only [up2_ne, filR_ne, heaR_ne, hD]), Im.congr hI (fun q h => by simp (disch := omega) only [up2_ne, filR_ne, heaR_ne, hD]), ?_, Ib.congr hI (fun q h => by simp (disch := omega) only [up2_ne, filR_ne, heaR_ne, hD]), Is.congr hI (fun q h => by simp (disch := omega) only [up2_ne, filR_ne, heaR_ne, hD]), Ix.congr hI (fun q h => by simp (disch := omega) only [up2_ne, filR_ne, heaR_ne, hD]), Ih.congr hI (fun q h => by simp (disch := omega) only [up2_ne, filR_ne, heaR_ne, hD]), Il.congr hI (fun q h => by simp (disch := omega) only [up2_ne, filR_ne, heaR_ne, hD]), Ir.congr hI (fun q h => by simp (disch := omega) only [up2_ne, filR_ne, heaR_ne, hD])⟩
    refine ⟨isC_of up2_same (by omega) (by omega), ?_⟩
    rw [n3, n2, n0]
    intro k v hk hv
    rw [hat v k (by omega) (by omega)]
    by_cases hvv : v = nD D 3
    · rw [if_pos hvv]
      by_cases hk2 : k = to
      · rw [if_pos hk2]; exact Or.inr ⟨nD D 0, by omega, rfl⟩
      · rw [if_neg hk2]; exact Or.inl rfl
    · rw [if_neg hvv]; exact hI.heard k v hk (by omega)
end WORD
