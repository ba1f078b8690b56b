section CAST
variable {n : Nat} {st : Nat → Nat} {S : SH} {μ : MU} {m c : Nat} {D : DR}
-- ===== dread =====
def clS (s : Int32) : Int32 := if s < 0 then 0 else if 20 < s then 20 else s
def drStep (D : DR) (i o : Nat) (day : Int32) (v : Nat) (s : Int32) : Int32 := if D (475 + v) = nI o ∧ hadS D i v day then s + D (483 + v) else s
def dreS (D : DR) (i o : Nat) (day : Int32) : Int32 := clS (itS (drStep D i o day) (nD D 3) 0 (D (219 + 16 * i + o)))
theorem r_had (hS : ShM S m) (hD : μ (m + 1) = D) {i v : Nat} (hi : i < 16) (hv : v < 8) (day : Int32) : f_X12_had (some m) (nI i) (nI v) day (mkH n st S μ) = some (bI (hadS D i v day)) := by
  rw [s_had hS hi hv day, hD]
theorem r_dreadOf (hS : ShM S m) (hD : μ (m + 1) = D) (hI : Inv D) {i o : Nat} (hi : i < 16) (ho : o < 16) (day : Int32) : f_X12_dreadOf (some m) (nI i) (nI o) day (mkH n st S μ) = some (dreS D i o day) := by
  obtain ⟨e0, b0⟩ := hI.today
  obtain ⟨e1, b1⟩ := hI.wards
  obtain ⟨e2, b2⟩ := hI.men
  obtain ⟨e3, b3⟩ := hI.words
  obtain ⟨e4, b4⟩ := hI.bars
  obtain ⟨e5, b5⟩ := hI.shes
  obtain ⟨e6, b6⟩ := hI.wets
  obtain ⟨e8, b8⟩ := hI.heaped
  have hl : ∀ k j fu s, j + k = nD D 3 → k < fu → b_X12_dreadOf_20 (mkH n st S μ) fu (some m) (nI i) (nI o) day s (nI j) = some (clS (itS (drStep D i o day) k j s)) := by
    intro k
    induction k with
    | zero =>
      intro j fu s hj hf
      obtain ⟨fu, rfl⟩ : ∃ q, fu = q + 1 := ⟨fu - 1, by omega⟩
      simp (disch := omega) only [some_bind, ite_bI0, lit_add, lit_addr, lit_mul, lit_aI, lit_aZ, lit_aR, lit_sI, lit_sZ, nI_add, pk_mul, nn_lt, up2_same, up2_ne, if_pos, if_neg, Nat.reduceAdd, Nat.reduceMul, Option.bind_some, mR0 hS, mA0 hS, mS0 hS, mR1 hS, mA1 hS, mS1 hS, mI2 hS, mP2 hS, mZ2_0 hS, mZ2_1 hS, mR3 hS, mA3 hS, mS3 hS, mI4 hS, mP4 hS, mR5 hS, mA5 hS, mS5 hS, mR6 hS, mA6 hS, mS6 hS, mR7 hS, mA7 hS, mS7 hS, mR8 hS, mA8 hS, mS8 hS, mR9 hS, mA9 hS, mS9 hS, mR10 hS, mA10 hS, mS10 hS, mI11 hS, mP11 hS, mI12 hS, mP12 hS, mI13 hS, mP13 hS, mI14 hS, mP14 hS, mI15 hS, mP15 hS, mI16 hS, mP16 hS, mI17 hS, mP17 hS, mI18 hS, mP18 hS, mR19 hS, mA19 hS, mS19 hS, mR20 hS, mA20 hS, mS20 hS, mR21 hS, mA21 hS, mS21 hS, mI22 hS, mP22 hS, mI23 hS, mP23 hS, mI24 hS, mP24 hS, mI25 hS, mP25 hS, mI26 hS, mP26 hS, mR27 hS, mA27 hS, mS27 hS, mR28 hS, mA28 hS, mS28 hS, mI29 hS, mP29 hS, mR30 hS, mA30 hS, mS30 hS, mR31 hS, mA31 hS, mS31 hS, mR32 hS, mA32 hS, mS32 hS, mR33 hS, mA33 hS, mS33 hS, mR34 hS, mA34 hS, mS34 hS, mR35 hS, mA35 hS, mS35 hS, mR36 hS, mA36 hS, mS36 hS, mR37 hS, mA37 hS, mS37 hS, mI38 hS, mP38 hS, mI39 hS, mP39 hS, mI40 hS, mP40 hS, mI41 hS, mP41 hS, mI42 hS, mP42 hS, mZ42_0 hS, mZ42_1 hS, rck hS, b_X12_dreadOf_20, hD, e3]
      simp only [itS, clS]
      by_cases h1 : s < 0
      · simp [h1]
      · by_cases h2 : 20 < s
        · simp [h1, h2]
        · simp [h1, h2]
    | succ k ih =>
      intro j fu s hj hf
      obtain ⟨fu, rfl⟩ : ∃ q, fu = q + 1 := ⟨fu - 1, by omega⟩
      simp (disch := omega) only [some_bind, ite_bI0, lit_add, lit_addr, lit_mul, lit_aI, lit_aZ, lit_aR, lit_sI, lit_sZ, nI_add, pk_mul, nn_lt, up2_same, up2_ne, if_pos, if_neg, Nat.reduceAdd, Nat.reduceMul, Option.bind_some, mR0 hS, mA0 hS, mS0 hS, mR1 hS, mA1 hS, mS1 hS, mI2 hS, mP2 hS, mZ2_0 hS, mZ2_1 hS, mR3 hS, mA3 hS, mS3 hS, mI4 hS, mP4 hS, mR5 hS, mA5 hS, mS5 hS, mR6 hS, mA6 hS, mS6 hS, mR7 hS, mA7 hS, mS7 hS, mR8 hS, mA8 hS, mS8 hS, mR9 hS, mA9 hS, mS9 hS, mR10 hS, mA10 hS, mS10 hS, mI11 hS, mP11 hS, mI12 hS, mP12 hS, mI13 hS, mP13 hS, mI14 hS, mP14 hS, mI15 hS, mP15 hS, mI16 hS, mP16 hS, mI17 hS, mP17 hS, mI18 hS, mP18 hS, mR19 hS, mA19 hS, mS19 hS, mR20 hS, mA20 hS, mS20 hS, mR21 hS, mA21 hS, mS21 hS, mI22 hS, mP22 hS, mI23 hS, mP23 hS, mI24 hS, mP24 hS, mI25 hS, mP25 hS, mI26 hS, mP26 hS, mR27 hS, mA27 hS, mS27 hS, mR28 hS, mA28 hS, mS28 hS, mI29 hS, mP29 hS, mR30 hS, mA30 hS, mS30 hS, mR31 hS, mA31 hS, mS31 hS, mR32 hS, mA32 hS, mS32 hS, mR33 hS, mA33 hS, mS33 hS, mR34 hS, mA34 hS, mS34 hS, mR35 hS, mA35 hS, mS35 hS, mR36 hS, mA36 hS, mS36 hS, mR37 hS, mA37 hS, mS37 hS, mI38 hS, mP38 hS, mI39 hS, mP39 hS, mI40 hS, mP40 hS, mI41 hS, mP41 hS, mI42 hS, mP42 hS, mZ42_0 hS, mZ42_1 hS, rck hS, b_X12_dreadOf_20, b_X12_dreadOf_74, hD, e3, ih, r_had hS hD, itS, drStep, Int32.add_zero]
      by_cases h : D (475 + j) = nI o
      · by_cases h2 : hadS D i j day = true
        · simp [h, h2]
        · simp [h, h2]
      · simp [h]
  simp (disch := omega) only [some_bind, ite_bI0, lit_add, lit_addr, lit_mul, lit_aI, lit_aZ, lit_aR, lit_sI, lit_sZ, nI_add, pk_mul, nn_lt, up2_same, up2_ne, if_pos, if_neg, Nat.reduceAdd, Nat.reduceMul, Option.bind_some, mR0 hS, mA0 hS, mS0 hS, mR1 hS, mA1 hS, mS1 hS, mI2 hS, mP2 hS, mZ2_0 hS, mZ2_1 hS, mR3 hS, mA3 hS, mS3 hS, mI4 hS, mP4 hS, mR5 hS, mA5 hS, mS5 hS, mR6 hS, mA6 hS, mS6 hS, mR7 hS, mA7 hS, mS7 hS, mR8 hS, mA8 hS, mS8 hS, mR9 hS, mA9 hS, mS9 hS, mR10 hS, mA10 hS, mS10 hS, mI11 hS, mP11 hS, mI12 hS, mP12 hS, mI13 hS, mP13 hS, mI14 hS, mP14 hS, mI15 hS, mP15 hS, mI16 hS, mP16 hS, mI17 hS, mP17 hS, mI18 hS, mP18 hS, mR19 hS, mA19 hS, mS19 hS, mR20 hS, mA20 hS, mS20 hS, mR21 hS, mA21 hS, mS21 hS, mI22 hS, mP22 hS, mI23 hS, mP23 hS, mI24 hS, mP24 hS, mI25 hS, mP25 hS, mI26 hS, mP26 hS, mR27 hS, mA27 hS, mS27 hS, mR28 hS, mA28 hS, mS28 hS, mI29 hS, mP29 hS, mR30 hS, mA30 hS, mS30 hS, mR31 hS, mA31 hS, mS31 hS, mR32 hS, mA32 hS, mS32 hS, mR33 hS, mA33 hS, mS33 hS, mR34 hS, mA34 hS, mS34 hS, mR35 hS, mA35 hS, mS35 hS, mR36 hS, mA36 hS, mS36 hS, mR37 hS, mA37 hS, mS37 hS, mI38 hS, mP38 hS, mI39 hS, mP39 hS, mI40 hS, mP40 hS, mI41 hS, mP41 hS, mI42 hS, mP42 hS, mZ42_0 hS, mZ42_1 hS, rck hS, f_X12_dreadOf, hD]
  exact hl (nD D 3) 0 FU _ (by omega) (by simp only [FU]; omega)
theorem clS_mm (s : Int32) : mMax 0 (mMin 20 s) = clS s := by
  unfold mMax mMin clS
  have e20 : (20 : Int32).toInt = 20 := by decide
  by_cases h1 : s < 0
  · have : s < 20 := by rw [i32_lt, e20]; rw [i32_lt, i32_0] at h1; omega
    have h3 : ¬ 0 < s := by rw [i32_lt, i32_0]; rw [i32_lt, i32_0] at h1; omega
    simp [h1, this, h3]
  · by_cases h2 : 20 < s
    · have : ¬ s < 20 := by rw [i32_lt, e20]; rw [i32_lt, e20] at h2; omega
      simp [h1, h2, this]
    · by_cases h3 : s < 20
      · by_cases h4 : 0 < s
        · simp [h1, h2, h3, h4]
        · have : s = 0 := by rw [i32_eq, i32_0]; rw [i32_lt, i32_0] at h1 h4; omega
          subst this
          decide
      · have : s = 20 := by rw [i32_eq, e20]; rw [i32_lt, e20] at h2 h3; omega
        subst this
        decide
theorem k_dreadOf (hC : ShC S c) (hs : Sim μ c D) (hI : Inv D) {i o : Nat} (hi : i < nD D 2) (ho : o < nD D 2) (day : Int32) : f_X2_dreadOf (some c) (nI i) (nI o) day (mkH n st S μ) = some (dreS D i o day) := by
  obtain ⟨e0, b0⟩ := hI.today
  obtain ⟨e1, b1⟩ := hI.wards
  obtain ⟨e2, b2⟩ := hI.men
  obtain ⟨e3, b3⟩ := hI.words
  obtain ⟨e4, b4⟩ := hI.bars
  obtain ⟨e5, b5⟩ := hI.shes
  obtain ⟨e6, b6⟩ := hI.wets
  obtain ⟨e8, b8⟩ := hI.heaped
  have z0 := hs.today
  have z1 := hs.wardN
  have z2 := hs.manN
  have z3 := hs.wordN
  have z4 := hs.barN
  have z5 := hs.sheN
  have z6 := hs.wetN
  have z8 := hs.heapN
  have hl : ∀ k j fu s, j + k = nD D 3 → k < fu → b_X2_dreadOf_16 (mkH n st S μ) fu (some c) (nI i) (nI o) day s (nI j) = some (clS (itS (drStep D i o day) k j s)) := by
    intro k
    induction k with
    | zero =>
      intro j fu s hj hf
      obtain ⟨fu, rfl⟩ : ∃ q, fu = q + 1 := ⟨fu - 1, by omega⟩
      simp (disch := omega) only [some_bind, ite_bI0, lit_add, lit_addr, lit_mul, lit_aI, lit_aZ, lit_aR, lit_sI, lit_sZ, nI_add, pk_mul, nn_lt, up2_same, up2_ne, if_pos, if_neg, Nat.reduceAdd, Nat.reduceMul, Option.bind_some, cI0 hC, cP0 hC, cR1 hC, cI2 hC, cP2 hC, cR3 hC, cI4 hC, cP4 hC, cR5 hC, cI6 hC, cP6 hC, cR7 hC, cI8 hC, cP8 hC, cR9 hC, cI10 hC, cP10 hC, cR11 hC, cI12 hC, cP12 hC, cR13 hC, cI14 hC, cP14 hC, cR15 hC, cR16 hC, cR17 hC, cI18 hC, cP18 hC, cR19 hC, cck hC, cAWet hC, cSWet hC, cARul hC, cSRul hC, cAHea hC, cSHea hC, cALin hC, cSLin hC, cATal hC, cSTal hC, cEwards hC, cEmen hC, cEwords hC, cEbargains hC, cEsherds hC, cElaws hC, cEtallies hC, oWardI hC, oWardP hC, oWardZ0 hC, oWardZ1 hC, oWardK hC, oBarI hC, oBarP hC, oBarZ0 hC, oBarZ1 hC, oBarK hC, oSheI hC, oSheP hC, oSheZ0 hC, oSheZ1 hC, oSheK hC, oManI hC, oManP hC, oManZ0 hC, oManZ1 hC, oManK hC, oManR hC, oManA hC, oManS hC, oWordI hC, oWordP hC, oWordZ0 hC, oWordZ1 hC, oWordK hC, oWordR hC, oWordA hC, oWordS hC, b_X2_dreadOf_16, z3, e3, clS_mm, itS]
    | succ k ih =>
      intro j fu s hj hf
      obtain ⟨fu, rfl⟩ : ∃ q, fu = q + 1 := ⟨fu - 1, by omega⟩
      simp (disch := omega) only [some_bind, ite_bI0, lit_add, lit_addr, lit_mul, lit_aI, lit_aZ, lit_aR, lit_sI, lit_sZ, nI_add, pk_mul, nn_lt, up2_same, up2_ne, if_pos, if_neg, Nat.reduceAdd, Nat.reduceMul, Option.bind_some, cI0 hC, cP0 hC, cR1 hC, cI2 hC, cP2 hC, cR3 hC, cI4 hC, cP4 hC, cR5 hC, cI6 hC, cP6 hC, cR7 hC, cI8 hC, cP8 hC, cR9 hC, cI10 hC, cP10 hC, cR11 hC, cI12 hC, cP12 hC, cR13 hC, cI14 hC, cP14 hC, cR15 hC, cR16 hC, cR17 hC, cI18 hC, cP18 hC, cR19 hC, cck hC, cAWet hC, cSWet hC, cARul hC, cSRul hC, cAHea hC, cSHea hC, cALin hC, cSLin hC, cATal hC, cSTal hC, cEwards hC, cEmen hC, cEwords hC, cEbargains hC, cEsherds hC, cElaws hC, cEtallies hC, oWardI hC, oWardP hC, oWardZ0 hC, oWardZ1 hC, oWardK hC, oBarI hC, oBarP hC, oBarZ0 hC, oBarZ1 hC, oBarK hC, oSheI hC, oSheP hC, oSheZ0 hC, oSheZ1 hC, oSheK hC, oManI hC, oManP hC, oManZ0 hC, oManZ1 hC, oManK hC, oManR hC, oManA hC, oManS hC, oWordI hC, oWordP hC, oWordZ0 hC, oWordZ1 hC, oWordK hC, oWordR hC, oWordA hC, oWordS hC, b_X2_dreadOf_16, z3, e3, ih, itS, drStep, hs.word, hs.heard, hadS, Nat.mul_zero, Nat.add_zero]
      by_cases h : D (475 + j) = nI o
      · by_cases h2 : D (491 + 8 * i + j) < 0
        · simp [h, h2]
        · by_cases h3 : day < D (491 + 8 * i + j)
          · simp [h, h2, h3]
          · simp [h, h2, h3]
      · simp [h]
  simp (disch := omega) only [some_bind, ite_bI0, lit_add, lit_addr, lit_mul, lit_aI, lit_aZ, lit_aR, lit_sI, lit_sZ, nI_add, pk_mul, nn_lt, up2_same, up2_ne, if_pos, if_neg, Nat.reduceAdd, Nat.reduceMul, Option.bind_some, cI0 hC, cP0 hC, cR1 hC, cI2 hC, cP2 hC, cR3 hC, cI4 hC, cP4 hC, cR5 hC, cI6 hC, cP6 hC, cR7 hC, cI8 hC, cP8 hC, cR9 hC, cI10 hC, cP10 hC, cR11 hC, cI12 hC, cP12 hC, cR13 hC, cI14 hC, cP14 hC, cR15 hC, cR16 hC, cR17 hC, cI18 hC, cP18 hC, cR19 hC, cck hC, cAWet hC, cSWet hC, cARul hC, cSRul hC, cAHea hC, cSHea hC, cALin hC, cSLin hC, cATal hC, cSTal hC, cEwards hC, cEmen hC, cEwords hC, cEbargains hC, cEsherds hC, cElaws hC, cEtallies hC, oWardI hC, oWardP hC, oWardZ0 hC, oWardZ1 hC, oWardK hC, oBarI hC, oBarP hC, oBarZ0 hC, oBarZ1 hC, oBarK hC, oSheI hC, oSheP hC, oSheZ0 hC, oSheZ1 hC, oSheK hC, oManI hC, oManP hC, oManZ0 hC, oManZ1 hC, oManK hC, oManR hC, oManA hC, oManS hC, oWordI hC, oWordP hC, oWordZ0 hC, oWordZ1 hC, oWordK hC, oWordR hC, oWordA hC, oWordS hC, f_X2_dreadOf, hs.fear]
  exact hl (nD D 3) 0 FU _ (by omega) (by simp only [FU]; omega)
theorem clS_rng (s : Int32) : 0 ≤ (clS s).toInt ∧ (clS s).toInt ≤ 20 := by
  unfold clS
  have e20 : (20 : Int32).toInt = 20 := by decide
  by_cases h1 : s < 0
  · simp [h1]
  · by_cases h2 : 20 < s
    · simp [h1, h2, e20]
    · simp only [h1, h2, if_false]
      rw [i32_lt, i32_0] at h1; rw [i32_lt, e20] at h2
      omega
theorem dreS_rng (i o : Nat) (day : Int32) : 0 ≤ (dreS D i o day).toInt ∧ (dreS D i o day).toInt ≤ 20 := clS_rng _
-- ===== bargains =====
def boB (D : DR) (club day : Int32) (b : Nat) : Bool := decide (D (619 + b) = club) && inS day (D (635 + b)) (D (643 + b))
def boStep (D : DR) (club day : Int32) (b : Nat) (is : Int32) : Int32 := if boB D club day b then D (627 + b) else is
def bouS (D : DR) (club day : Int32) : Int32 := itS (boStep D club day) (nD D 4) 0 (-1)
theorem r_boundTo (hS : ShM S m) (hD : μ (m + 1) = D) (hI : Inv D) (club day : Int32) : f_X12_boundTo (some m) club day (mkH n st S μ) = some (bouS D club day) := by
  obtain ⟨e0, b0⟩ := hI.today
  obtain ⟨e1, b1⟩ := hI.wards
  obtain ⟨e2, b2⟩ := hI.men
  obtain ⟨e3, b3⟩ := hI.words
  obtain ⟨e4, b4⟩ := hI.bars
  obtain ⟨e5, b5⟩ := hI.shes
  obtain ⟨e6, b6⟩ := hI.wets
  obtain ⟨e8, b8⟩ := hI.heaped
  have hl : ∀ k j fu s, j + k = nD D 4 → k < fu → b_X12_boundTo_5 (mkH n st S μ) fu (some m) club day s (nI j) = some (itS (boStep D club day) k j s) := by
    intro k
    induction k with
    | zero =>
      intro j fu s hj hf
      obtain ⟨fu, rfl⟩ : ∃ q, fu = q + 1 := ⟨fu - 1, by omega⟩
      simp (disch := omega) only [some_bind, ite_bI0, lit_add, lit_addr, lit_mul, lit_aI, lit_aZ, lit_aR, lit_sI, lit_sZ, nI_add, pk_mul, nn_lt, up2_same, up2_ne, if_pos, if_neg, Nat.reduceAdd, Nat.reduceMul, Option.bind_some, mR0 hS, mA0 hS, mS0 hS, mR1 hS, mA1 hS, mS1 hS, mI2 hS, mP2 hS, mZ2_0 hS, mZ2_1 hS, mR3 hS, mA3 hS, mS3 hS, mI4 hS, mP4 hS, mR5 hS, mA5 hS, mS5 hS, mR6 hS, mA6 hS, mS6 hS, mR7 hS, mA7 hS, mS7 hS, mR8 hS, mA8 hS, mS8 hS, mR9 hS, mA9 hS, mS9 hS, mR10 hS, mA10 hS, mS10 hS, mI11 hS, mP11 hS, mI12 hS, mP12 hS, mI13 hS, mP13 hS, mI14 hS, mP14 hS, mI15 hS, mP15 hS, mI16 hS, mP16 hS, mI17 hS, mP17 hS, mI18 hS, mP18 hS, mR19 hS, mA19 hS, mS19 hS, mR20 hS, mA20 hS, mS20 hS, mR21 hS, mA21 hS, mS21 hS, mI22 hS, mP22 hS, mI23 hS, mP23 hS, mI24 hS, mP24 hS, mI25 hS, mP25 hS, mI26 hS, mP26 hS, mR27 hS, mA27 hS, mS27 hS, mR28 hS, mA28 hS, mS28 hS, mI29 hS, mP29 hS, mR30 hS, mA30 hS, mS30 hS, mR31 hS, mA31 hS, mS31 hS, mR32 hS, mA32 hS, mS32 hS, mR33 hS, mA33 hS, mS33 hS, mR34 hS, mA34 hS, mS34 hS, mR35 hS, mA35 hS, mS35 hS, mR36 hS, mA36 hS, mS36 hS, mR37 hS, mA37 hS, mS37 hS, mI38 hS, mP38 hS, mI39 hS, mP39 hS, mI40 hS, mP40 hS, mI41 hS, mP41 hS, mI42 hS, mP42 hS, mZ42_0 hS, mZ42_1 hS, rck hS, b_X12_boundTo_5, hD, e4, itS]
    | succ k ih =>
      intro j fu s hj hf
      obtain ⟨fu, rfl⟩ : ∃ q, fu = q + 1 := ⟨fu - 1, by omega⟩
      simp (disch := omega) only [some_bind, ite_bI0, lit_add, lit_addr, lit_mul, lit_aI, lit_aZ, lit_aR, lit_sI, lit_sZ, nI_add, pk_mul, nn_lt, up2_same, up2_ne, if_pos, if_neg, Nat.reduceAdd, Nat.reduceMul, Option.bind_some, mR0 hS, mA0 hS, mS0 hS, mR1 hS, mA1 hS, mS1 hS, mI2 hS, mP2 hS, mZ2_0 hS, mZ2_1 hS, mR3 hS, mA3 hS, mS3 hS, mI4 hS, mP4 hS, mR5 hS, mA5 hS, mS5 hS, mR6 hS, mA6 hS, mS6 hS, mR7 hS, mA7 hS, mS7 hS, mR8 hS, mA8 hS, mS8 hS, mR9 hS, mA9 hS, mS9 hS, mR10 hS, mA10 hS, mS10 hS, mI11 hS, mP11 hS, mI12 hS, mP12 hS, mI13 hS, mP13 hS, mI14 hS, mP14 hS, mI15 hS, mP15 hS, mI16 hS, mP16 hS, mI17 hS, mP17 hS, mI18 hS, mP18 hS, mR19 hS, mA19 hS, mS19 hS, mR20 hS, mA20 hS, mS20 hS, mR21 hS, mA21 hS, mS21 hS, mI22 hS, mP22 hS, mI23 hS, mP23 hS, mI24 hS, mP24 hS, mI25 hS, mP25 hS, mI26 hS, mP26 hS, mR27 hS, mA27 hS, mS27 hS, mR28 hS, mA28 hS, mS28 hS, mI29 hS, mP29 hS, mR30 hS, mA30 hS, mS30 hS, mR31 hS, mA31 hS, mS31 hS, mR32 hS, mA32 hS, mS32 hS, mR33 hS, mA33 hS, mS33 hS, mR34 hS, mA34 hS, mS34 hS, mR35 hS, mA35 hS, mS35 hS, mR36 hS, mA36 hS, mS36 hS, mR37 hS, mA37 hS, mS37 hS, mI38 hS, mP38 hS, mI39 hS, mP39 hS, mI40 hS, mP40 hS, mI41 hS, mP41 hS, mI42 hS, mP42 hS, mZ42_0 hS, mZ42_1 hS, rck hS, b_X12_boundTo_5, b_X12_boundTo_74, hD, e4, ih, itS, boStep, boB, s_in]
      by_cases h : D (619 + j) = club
      · by_cases h2 : inS day (D (635 + j)) (D (643 + j)) = true
        · simp [h, h2]
        · simp [h, h2]
      · simp [h]
  simp (disch := omega) only [some_bind, ite_bI0, lit_add, lit_addr, lit_mul, lit_aI, lit_aZ, lit_aR, lit_sI, lit_sZ, nI_add, pk_mul, nn_lt, up2_same, up2_ne, if_pos, if_neg, Nat.reduceAdd, Nat.reduceMul, Option.bind_some, mR0 hS, mA0 hS, mS0 hS, mR1 hS, mA1 hS, mS1 hS, mI2 hS, mP2 hS, mZ2_0 hS, mZ2_1 hS, mR3 hS, mA3 hS, mS3 hS, mI4 hS, mP4 hS, mR5 hS, mA5 hS, mS5 hS, mR6 hS, mA6 hS, mS6 hS, mR7 hS, mA7 hS, mS7 hS, mR8 hS, mA8 hS, mS8 hS, mR9 hS, mA9 hS, mS9 hS, mR10 hS, mA10 hS, mS10 hS, mI11 hS, mP11 hS, mI12 hS, mP12 hS, mI13 hS, mP13 hS, mI14 hS, mP14 hS, mI15 hS, mP15 hS, mI16 hS, mP16 hS, mI17 hS, mP17 hS, mI18 hS, mP18 hS, mR19 hS, mA19 hS, mS19 hS, mR20 hS, mA20 hS, mS20 hS, mR21 hS, mA21 hS, mS21 hS, mI22 hS, mP22 hS, mI23 hS, mP23 hS, mI24 hS, mP24 hS, mI25 hS, mP25 hS, mI26 hS, mP26 hS, mR27 hS, mA27 hS, mS27 hS, mR28 hS, mA28 hS, mS28 hS, mI29 hS, mP29 hS, mR30 hS, mA30 hS, mS30 hS, mR31 hS, mA31 hS, mS31 hS, mR32 hS, mA32 hS, mS32 hS, mR33 hS, mA33 hS, mS33 hS, mR34 hS, mA34 hS, mS34 hS, mR35 hS, mA35 hS, mS35 hS, mR36 hS, mA36 hS, mS36 hS, mR37 hS, mA37 hS, mS37 hS, mI38 hS, mP38 hS, mI39 hS, mP39 hS, mI40 hS, mP40 hS, mI41 hS, mP41 hS, mI42 hS, mP42 hS, mZ42_0 hS, mZ42_1 hS, rck hS, f_X12_boundTo]
  exact hl (nD D 4) 0 FU _ (by omega) (by simp only [FU]; omega)
theorem nI_m1 (k : Nat) : nI (k + 1) - 1 = nI k := nI_pred k
theorem k_boundTo (hC : ShC S c) (hs : Sim μ c D) (hI : Inv D) (club day : Int32) : f_X2_boundTo (some c) club day (mkH n st S μ) = some (bouS D club day) := by
  obtain ⟨e0, b0⟩ := hI.today
  obtain ⟨e1, b1⟩ := hI.wards
  obtain ⟨e2, b2⟩ := hI.men
  obtain ⟨e3, b3⟩ := hI.words
  obtain ⟨e4, b4⟩ := hI.bars
  obtain ⟨e5, b5⟩ := hI.shes
  obtain ⟨e6, b6⟩ := hI.wets
  obtain ⟨e8, b8⟩ := hI.heaped
  have z0 := hs.today
  have z1 := hs.wardN
  have z2 := hs.manN
  have z3 := hs.wordN
  have z4 := hs.barN
  have z5 := hs.sheN
  have z6 := hs.wetN
  have z8 := hs.heapN
  have hl : ∀ k fu, k ≤ nD D 4 → k < fu → b_X2_boundTo_7 (mkH n st S μ) fu (some c) club day (nI k - 1) = some (itS (boStep D club day) k 0 (-1)) := by
    intro k
    induction k with
    | zero =>
      intro fu hk hf
      obtain ⟨fu, rfl⟩ : ∃ q, fu = q + 1 := ⟨fu - 1, by omega⟩
      rfl
    | succ k ih =>
      intro fu hk hf
      obtain ⟨fu, rfl⟩ : ∃ q, fu = q + 1 := ⟨fu - 1, by omega⟩
      have ih' := ih fu (by omega) (by omega)
      have hm : nI k + (-1) = nI k - 1 := by rw [Int32.sub_eq_add_neg]
      have hp : ¬ nI k < 0 := nI_pos (by omega)
      rw [itS_snoc, Nat.zero_add, nI_m1]
      simp (disch := omega) only [some_bind, ite_bI0, lit_add, lit_addr, lit_mul, lit_aI, lit_aZ, lit_aR, lit_sI, lit_sZ, nI_add, pk_mul, nn_lt, up2_same, up2_ne, if_pos, if_neg, Nat.reduceAdd, Nat.reduceMul, Option.bind_some, cI0 hC, cP0 hC, cR1 hC, cI2 hC, cP2 hC, cR3 hC, cI4 hC, cP4 hC, cR5 hC, cI6 hC, cP6 hC, cR7 hC, cI8 hC, cP8 hC, cR9 hC, cI10 hC, cP10 hC, cR11 hC, cI12 hC, cP12 hC, cR13 hC, cI14 hC, cP14 hC, cR15 hC, cR16 hC, cR17 hC, cI18 hC, cP18 hC, cR19 hC, cck hC, cAWet hC, cSWet hC, cARul hC, cSRul hC, cAHea hC, cSHea hC, cALin hC, cSLin hC, cATal hC, cSTal hC, cEwards hC, cEmen hC, cEwords hC, cEbargains hC, cEsherds hC, cElaws hC, cEtallies hC, oWardI hC, oWardP hC, oWardZ0 hC, oWardZ1 hC, oWardK hC, oBarI hC, oBarP hC, oBarZ0 hC, oBarZ1 hC, oBarK hC, oSheI hC, oSheP hC, oSheZ0 hC, oSheZ1 hC, oSheK hC, oManI hC, oManP hC, oManZ0 hC, oManZ1 hC, oManK hC, oManR hC, oManA hC, oManS hC, oWordI hC, oWordP hC, oWordZ0 hC, oWordZ1 hC, oWordK hC, oWordR hC, oWordA hC, oWordS hC, b_X2_boundTo_7, hm, ih', boStep, boB, hs.bar, hp, if_false, inS, Nat.mul_zero, Nat.add_zero]
      by_cases h : D (619 + k) = club
      · by_cases h2 : day < D (635 + k)
        · simp [h, h2]
        · by_cases h3 : D (643 + k) < day
          · simp [h, h2, h3]
          · simp [h, h2, h3]
      · simp [h]
  simp (disch := omega) only [some_bind, ite_bI0, lit_add, lit_addr, lit_mul, lit_aI, lit_aZ, lit_aR, lit_sI, lit_sZ, nI_add, pk_mul, nn_lt, up2_same, up2_ne, if_pos, if_neg, Nat.reduceAdd, Nat.reduceMul, Option.bind_some, cI0 hC, cP0 hC, cR1 hC, cI2 hC, cP2 hC, cR3 hC, cI4 hC, cP4 hC, cR5 hC, cI6 hC, cP6 hC, cR7 hC, cI8 hC, cP8 hC, cR9 hC, cI10 hC, cP10 hC, cR11 hC, cI12 hC, cP12 hC, cR13 hC, cI14 hC, cP14 hC, cR15 hC, cR16 hC, cR17 hC, cI18 hC, cP18 hC, cR19 hC, cck hC, cAWet hC, cSWet hC, cARul hC, cSRul hC, cAHea hC, cSHea hC, cALin hC, cSLin hC, cATal hC, cSTal hC, cEwards hC, cEmen hC, cEwords hC, cEbargains hC, cEsherds hC, cElaws hC, cEtallies hC, oWardI hC, oWardP hC, oWardZ0 hC, oWardZ1 hC, oWardK hC, oBarI hC, oBarP hC, oBarZ0 hC, oBarZ1 hC, oBarK hC, oSheI hC, oSheP hC, oSheZ0 hC, oSheZ1 hC, oSheK hC, oManI hC, oManP hC, oManZ0 hC, oManZ1 hC, oManK hC, oManR hC, oManA hC, oManS hC, oWordI hC, oWordP hC, oWordZ0 hC, oWordZ1 hC, oWordK hC, oWordR hC, oWordA hC, oWordS hC, f_X2_boundTo, z4, e4]
  exact hl (nD D 4) FU (by omega) (by simp only [FU]; omega)
theorem bouS_rng (hI : Inv D) (club day : Int32) : isO (bouS D club day) (nD D 2) := by
  have := itS_inv (f := boStep D club day) (fun _ s => isO s (nD D 2)) (nD D 4) 0 (-1) (Or.inl rfl) (by
    intro i s _ hi h
    unfold boStep
    by_cases hb : boB D club day i = true
    · rw [if_pos hb]; exact Or.inr (hI.bMan i (by omega))
    · rw [if_neg hb]; exact h)
  exact this
theorem bouS_none (hI : Inv D) (club day : Int32) (h : club < 0) : bouS D club day = -1 := by
  have := itS_inv (f := boStep D club day) (fun _ s => s = -1) (nD D 4) 0 (-1) rfl (by
    intro i s _ hi hh
    unfold boStep
    obtain ⟨k, hk, e⟩ := hI.bClub i (by omega)
    have : boB D club day i = false := by
      unfold boB
      have : ¬ D (619 + i) = club := by
        intro e2
        rw [← e2, e] at h
        exact nI_pos (by omega) h
      simp [this]
    rw [this]
    exact hh)
  exact this
-- ===== the sent =====
def sntB (D : DR) (i : Nat) (day : Int32) : Bool := decide (¬ D (171 + i) < 0) && inS day (D (171 + i)) (D (187 + i))
theorem r_isSent (hS : ShM S m) (hD : μ (m + 1) = D) {i : Nat} (hi : i < 16) (day : Int32) : f_X12_isSent (some m) (nI i) day (mkH n st S μ) = some (bI (sntB D i day)) := by
  simp (disch := omega) only [some_bind, ite_bI0, lit_add, lit_addr, lit_mul, lit_aI, lit_aZ, lit_aR, lit_sI, lit_sZ, nI_add, pk_mul, nn_lt, up2_same, up2_ne, if_pos, if_neg, Nat.reduceAdd, Nat.reduceMul, Option.bind_some, mR0 hS, mA0 hS, mS0 hS, mR1 hS, mA1 hS, mS1 hS, mI2 hS, mP2 hS, mZ2_0 hS, mZ2_1 hS, mR3 hS, mA3 hS, mS3 hS, mI4 hS, mP4 hS, mR5 hS, mA5 hS, mS5 hS, mR6 hS, mA6 hS, mS6 hS, mR7 hS, mA7 hS, mS7 hS, mR8 hS, mA8 hS, mS8 hS, mR9 hS, mA9 hS, mS9 hS, mR10 hS, mA10 hS, mS10 hS, mI11 hS, mP11 hS, mI12 hS, mP12 hS, mI13 hS, mP13 hS, mI14 hS, mP14 hS, mI15 hS, mP15 hS, mI16 hS, mP16 hS, mI17 hS, mP17 hS, mI18 hS, mP18 hS, mR19 hS, mA19 hS, mS19 hS, mR20 hS, mA20 hS, mS20 hS, mR21 hS, mA21 hS, mS21 hS, mI22 hS, mP22 hS, mI23 hS, mP23 hS, mI24 hS, mP24 hS, mI25 hS, mP25 hS, mI26 hS, mP26 hS, mR27 hS, mA27 hS, mS27 hS, mR28 hS, mA28 hS, mS28 hS, mI29 hS, mP29 hS, mR30 hS, mA30 hS, mS30 hS, mR31 hS, mA31 hS, mS31 hS, mR32 hS, mA32 hS, mS32 hS, mR33 hS, mA33 hS, mS33 hS, mR34 hS, mA34 hS, mS34 hS, mR35 hS, mA35 hS, mS35 hS, mR36 hS, mA36 hS, mS36 hS, mR37 hS, mA37 hS, mS37 hS, mI38 hS, mP38 hS, mI39 hS, mP39 hS, mI40 hS, mP40 hS, mI41 hS, mP41 hS, mI42 hS, mP42 hS, mZ42_0 hS, mZ42_1 hS, rck hS, f_X12_isSent, hD, s_in, sntB]
  by_cases h : D (171 + i) < 0
  · simp [h, bI]
  · by_cases h2 : inS day (D (171 + i)) (D (187 + i)) = true
    · simp [h, h2, bI]
    · simp [h, h2, bI]
theorem k_isSent (hC : ShC S c) (hs : Sim μ c D) (hI : Inv D) {i : Nat} (hi : i < nD D 2) (day away : Int32) : f_X2_isSent (some c) (nI i) day away (mkH n st S μ) = some (bI (decide (nI i = away) || sntB D i day)) := by
  obtain ⟨e0, b0⟩ := hI.today
  obtain ⟨e1, b1⟩ := hI.wards
  obtain ⟨e2, b2⟩ := hI.men
  obtain ⟨e3, b3⟩ := hI.words
  obtain ⟨e4, b4⟩ := hI.bars
  obtain ⟨e5, b5⟩ := hI.shes
  obtain ⟨e6, b6⟩ := hI.wets
  obtain ⟨e8, b8⟩ := hI.heaped
  simp (disch := omega) only [some_bind, ite_bI0, lit_add, lit_addr, lit_mul, lit_aI, lit_aZ, lit_aR, lit_sI, lit_sZ, nI_add, pk_mul, nn_lt, up2_same, up2_ne, if_pos, if_neg, Nat.reduceAdd, Nat.reduceMul, Option.bind_some, cI0 hC, cP0 hC, cR1 hC, cI2 hC, cP2 hC, cR3 hC, cI4 hC, cP4 hC, cR5 hC, cI6 hC, cP6 hC, cR7 hC, cI8 hC, cP8 hC, cR9 hC, cI10 hC, cP10 hC, cR11 hC, cI12 hC, cP12 hC, cR13 hC, cI14 hC, cP14 hC, cR15 hC, cR16 hC, cR17 hC, cI18 hC, cP18 hC, cR19 hC, cck hC, cAWet hC, cSWet hC, cARul hC, cSRul hC, cAHea hC, cSHea hC, cALin hC, cSLin hC, cATal hC, cSTal hC, cEwards hC, cEmen hC, cEwords hC, cEbargains hC, cEsherds hC, cElaws hC, cEtallies hC, oWardI hC, oWardP hC, oWardZ0 hC, oWardZ1 hC, oWardK hC, oBarI hC, oBarP hC, oBarZ0 hC, oBarZ1 hC, oBarK hC, oSheI hC, oSheP hC, oSheZ0 hC, oSheZ1 hC, oSheK hC, oManI hC, oManP hC, oManZ0 hC, oManZ1 hC, oManK hC, oManR hC, oManA hC, oManS hC, oWordI hC, oWordP hC, oWordZ0 hC, oWordZ1 hC, oWordK hC, oWordR hC, oWordA hC, oWordS hC, f_X2_isSent, f_X5_wasSent, hs.man, sntB, inS]
  by_cases h0 : nI i = away
  · simp [h0, bI]
  · by_cases h : D (171 + i) < 0
    · simp [h, h0, bI]
    · by_cases h2 : day < D (171 + i)
      · simp [h, h0, h2, bI]
      · by_cases h3 : D (187 + i) < day
        · simp [h, h0, h2, h3, bI]
        · simp [h, h0, h2, h3, bI]
-- ===== who comes =====
def harB (D : DR) (w : Nat) (day : Int32) : Bool := decide (¬ D (39 + w) < 0) && inS day (D (39 + w)) (D (47 + w))
def wdS (D : DR) (i : Nat) : Nat := (D (75 + i)).toNatClampNeg
theorem wdS_of (hI : Inv D) {i : Nat} (hi : i < nD D 2) : D (75 + i) = nI (wdS D i) ∧ wdS D i < nD D 1 := by
  obtain ⟨e0, b0⟩ := hI.today
  obtain ⟨e1, b1⟩ := hI.wards
  obtain ⟨e2, b2⟩ := hI.men
  obtain ⟨e3, b3⟩ := hI.words
  obtain ⟨e4, b4⟩ := hI.bars
  obtain ⟨e5, b5⟩ := hI.shes
  obtain ⟨e6, b6⟩ := hI.wets
  obtain ⟨e8, b8⟩ := hI.heaped
  obtain ⟨k, hk, e⟩ := hI.mWard i hi
  have : wdS D i = k := by rw [wdS, e, nI_clamp (by omega)]
  rw [this]
  exact ⟨e, hk⟩
def comB (D : DR) (i : Nat) (day : Int32) : Bool := !sntB D i day && !harB D (wdS D i) day && decide (¬ D 9 < D (31 + wdS D i) * (if wetB D day then 2 else 1))
theorem r_doesCome52 (hS : ShM S m) (hD : μ (m + 1) = D) (hI : Inv D) {i w : Nat} (hi : i < 16) (hw : w < 8) (day : Int32) (hb : Bool) : b_X12_doesCome_52 (mkH n st S μ) (some m) (nI i) day (nI w) (bI hb) = some (bI (!sntB D i day && !hb && decide (¬ D 9 < D (31 + w) * (if wetB D day then 2 else 1)))) := by
  simp (disch := omega) only [b_X12_doesCome_52, b_X12_doesCome_90, rck hS, rd0 hS, some_bind, r_isSent hS hD, r_isWet hS hD hI, ite_bI0, lit_add, lit_aI, rdA hS, hD]
  by_cases h1 : sntB D i day = true
  · simp [h1, bI]
  · cases hb
    · by_cases h5 : wetB D day = true
      · by_cases h6 : D 9 < D (31 + w) * 2
        · simp [h1, h5, h6, bI]
        · simp [h1, h5, h6, bI]
      · by_cases h6 : D 9 < D (31 + w)
        · simp [h1, h5, bI, h6]
        · simp [h1, h5, bI, h6]
    · simp [h1, bI]
theorem r_doesCome (hS : ShM S m) (hD : μ (m + 1) = D) (hI : Inv D) {i : Nat} (hi : i < nD D 2) (day : Int32) : f_X12_doesCome (some m) (nI i) day (mkH n st S μ) = some (bI (comB D i day)) := by
  obtain ⟨e0, b0⟩ := hI.today
  obtain ⟨e1, b1⟩ := hI.wards
  obtain ⟨e2, b2⟩ := hI.men
  obtain ⟨e3, b3⟩ := hI.words
  obtain ⟨e4, b4⟩ := hI.bars
  obtain ⟨e5, b5⟩ := hI.shes
  obtain ⟨e6, b6⟩ := hI.wets
  obtain ⟨e8, b8⟩ := hI.heaped
  obtain ⟨ew, hw⟩ := wdS_of hI hi
  have h0 := r_doesCome52 (n := n) (st := st) hS hD hI (i := i) (w := wdS D i) (by omega) (by omega) day false
  have h1 := r_doesCome52 (n := n) (st := st) hS hD hI (i := i) (w := wdS D i) (by omega) (by omega) day true
  simp only [bI, Bool.false_eq_true, if_false, if_true] at h0 h1
  simp (disch := omega) only [f_X12_doesCome, rd0 hS, some_bind, ite_bI0, lit_add, lit_aI, rdA hS, hD, ew, s_in, h0, h1]
  unfold comB harB bI
  by_cases h : D (39 + wdS D i) < 0
  · simp [h]
  · by_cases h2 : inS day (D (39 + wdS D i)) (D (47 + wdS D i)) = true
    · simp [h, h2]
    · simp [h, h2]
theorem harS_B {f t a b day : Int32} (h : harS f t a b) (hd : ¬ day < 0) : (decide (¬ day < a) && decide (¬ b < day)) = (decide (¬ f < 0) && inS day f t) := by
  rcases h with ⟨h1, rfl, rfl⟩ | ⟨h1, rfl, rfl⟩
  · have : (-1 : Int32) < day := by rw [i32_lt, i32_m1]; rw [i32_lt, i32_0] at hd; omega
    simp [h1, this]
  · unfold inS
    simp [h1]
theorem k_hasHarvest (hC : ShC S c) (hs : Sim μ c D) {w : Nat} (hw : w < nD D 1) (hw8 : w < 8) {day : Int32} (hd : ¬ day < 0) : f_X9_hasHarvest (some (c + 14 + w)) day (mkH n st S μ) = some (bI (harB D w day)) := by
  simp (disch := omega) only [some_bind, ite_bI0, lit_add, lit_addr, lit_mul, lit_aI, lit_aZ, lit_aR, lit_sI, lit_sZ, nI_add, pk_mul, nn_lt, up2_same, up2_ne, if_pos, if_neg, Nat.reduceAdd, Nat.reduceMul, Option.bind_some, cI0 hC, cP0 hC, cR1 hC, cI2 hC, cP2 hC, cR3 hC, cI4 hC, cP4 hC, cR5 hC, cI6 hC, cP6 hC, cR7 hC, cI8 hC, cP8 hC, cR9 hC, cI10 hC, cP10 hC, cR11 hC, cI12 hC, cP12 hC, cR13 hC, cI14 hC, cP14 hC, cR15 hC, cR16 hC, cR17 hC, cI18 hC, cP18 hC, cR19 hC, cck hC, cAWet hC, cSWet hC, cARul hC, cSRul hC, cAHea hC, cSHea hC, cALin hC, cSLin hC, cATal hC, cSTal hC, cEwards hC, cEmen hC, cEwords hC, cEbargains hC, cEsherds hC, cElaws hC, cEtallies hC, oWardI hC, oWardP hC, oWardZ0 hC, oWardZ1 hC, oWardK hC, oBarI hC, oBarP hC, oBarZ0 hC, oBarZ1 hC, oBarK hC, oSheI hC, oSheP hC, oSheZ0 hC, oSheZ1 hC, oSheK hC, oManI hC, oManP hC, oManZ0 hC, oManZ1 hC, oManK hC, oManR hC, oManA hC, oManS hC, oWordI hC, oWordP hC, oWordZ0 hC, oWordZ1 hC, oWordK hC, oWordR hC, oWordA hC, oWordS hC, f_X9_hasHarvest]
  rw [harB, ← harS_B (hs.harv w hw) hd]
  by_cases h1 : day < μ (c + 14 + w) 2
  · simp [h1, bI]
  · by_cases h2 : μ (c + 14 + w) 3 < day
    · simp [h1, h2, bI]
    · simp [h1, h2, bI]
theorem k_isThere (hC : ShC S c) (hs : Sim μ c D) (hI : Inv D) {i : Nat} (hi : i < nD D 2) {day : Int32} (hd : ¬ day < 0) (away : Int32) : f_X2_isThere (some c) (nI i) day away (mkH n st S μ) = some (bI (!decide (nI i = away) && comB D i day)) := by
  obtain ⟨e0, b0⟩ := hI.today
  obtain ⟨e1, b1⟩ := hI.wards
  obtain ⟨e2, b2⟩ := hI.men
  obtain ⟨e3, b3⟩ := hI.words
  obtain ⟨e4, b4⟩ := hI.bars
  obtain ⟨e5, b5⟩ := hI.shes
  obtain ⟨e6, b6⟩ := hI.wets
  obtain ⟨e8, b8⟩ := hI.heaped
  obtain ⟨ew, hw⟩ := wdS_of hI hi
  have hm0 := hs.man i 0 hi (by omega)
  rw [show 75 + 16 * 0 + i = 75 + i from by omega, ew] at hm0
  have hk := k_hasHarvest (n := n) (st := st) hC hs hw (by omega) hd
  have hr := hs.rule 0 (by omega)
  simp (disch := omega) only [some_bind, ite_bI0, lit_add, lit_addr, lit_mul, lit_aI, lit_aZ, lit_aR, lit_sI, lit_sZ, nI_add, pk_mul, nn_lt, up2_same, up2_ne, if_pos, if_neg, Nat.reduceAdd, Nat.reduceMul, Option.bind_some, cI0 hC, cP0 hC, cR1 hC, cI2 hC, cP2 hC, cR3 hC, cI4 hC, cP4 hC, cR5 hC, cI6 hC, cP6 hC, cR7 hC, cI8 hC, cP8 hC, cR9 hC, cI10 hC, cP10 hC, cR11 hC, cI12 hC, cP12 hC, cR13 hC, cI14 hC, cP14 hC, cR15 hC, cR16 hC, cR17 hC, cI18 hC, cP18 hC, cR19 hC, cck hC, cAWet hC, cSWet hC, cARul hC, cSRul hC, cAHea hC, cSHea hC, cALin hC, cSLin hC, cATal hC, cSTal hC, cEwards hC, cEmen hC, cEwords hC, cEbargains hC, cEsherds hC, cElaws hC, cEtallies hC, oWardI hC, oWardP hC, oWardZ0 hC, oWardZ1 hC, oWardK hC, oBarI hC, oBarP hC, oBarZ0 hC, oBarZ1 hC, oBarK hC, oSheI hC, oSheP hC, oSheZ0 hC, oSheZ1 hC, oSheK hC, oManI hC, oManP hC, oManZ0 hC, oManZ1 hC, oManK hC, oManR hC, oManA hC, oManS hC, oWordI hC, oWordP hC, oWordZ0 hC, oWordZ1 hC, oWordK hC, oWordR hC, oWordA hC, oWordS hC, f_X2_isThere, b_X2_isThere_60, hm0, hk, k_isSent hC hs hI, k_isWet hC hs hI, hs.mins, hr, comB]
  have e2 : (2 : Int32) * D (31 + wdS D i) = D (31 + wdS D i) * 2 := Int32.mul_comm _ _
  have e1 : D (31 + wdS D i) * 1 = D (31 + wdS D i) := Int32.mul_one _
  rw [e2]
  by_cases h0 : nI i = away
  · simp [h0, bI]
  · by_cases h1 : sntB D i day = true
    · simp [h0, h1, bI]
    · by_cases h2 : harB D (wdS D i) day = true
      · simp [h0, h1, h2, bI]
      · by_cases h5 : wetB D day = true
        · by_cases h6 : D 9 < D (31 + wdS D i) * 2
          · simp [h0, h1, h2, h5, h6, bI]
          · simp [h0, h1, h2, h5, h6, bI]
        · by_cases h6 : D 9 < D (31 + wdS D i)
          · simp [h0, h1, h2, h5, h6, bI, e1]
          · simp [h0, h1, h2, h5, h6, bI, e1]
-- ===== whom a man casts =====
def avB (D : DR) (i : Nat) (day away : Int32) (y : Nat) : Bool := decide (¬ y = i) && !decide (nI y = away) && !sntB D y day
def loB (D : DR) (i x : Nat) (day away : Int32) (y : Nat) : Bool := !avB D i day away y || decide (y = x) || decide (dreS D i y day < dreS D i x day + D 10)
def mxStep (D : DR) (i : Nat) (day away : Int32) (y : Nat) (s : Int32 × Int32) : Int32 × Int32 := if avB D i day away y = true ∧ s.1 < dreS D i y day then (dreS D i y day, nI y) else s
def frS (D : DR) (i : Nat) (day away : Int32) : Int32 := if (itS (mxStep D i day away) (nD D 2) 0 (-1, -1)).1 < D 11 then -1 else (itS (mxStep D i day away) (nD D 2) 0 (-1, -1)).2
def casS (D : DR) (i : Nat) (day away : Int32) : Int32 :=
  if bouS D (D (91 + i)) day < 0 then frS D i day away
  else if avB D i day away (bouS D (D (91 + i)) day).toNatClampNeg && allS (loB D i (bouS D (D (91 + i)) day).toNatClampNeg day away) (nD D 2) 0 then bouS D (D (91 + i)) day
  else frS D i day away
theorem bI_and1 (b : Bool) : bI b &&& 1 = bI b := by cases b <;> decide
theorem bI_and0 (b : Bool) : bI b &&& 0 = bI false := by cases b <;> decide
theorem cast158 (k75 : Option Nat → Int32 → Int32 → Int32 → Int32 → Int32 → Int32 → Int32 → Int32 → Option Int32) (h : AH) (x0 : Option Nat) (x1 x2 x3 x4 x6 x7 x8 x9 s0 s1 : Int32) : b_X12_castOf_158 k75 h x0 x1 x2 x3 x4 x6 x7 x8 x9 s0 s1 = if x6 < x9 then k75 x0 x1 x2 x3 x4 (s0 &&& s1) x9 x8 (x8 + 1) else k75 x0 x1 x2 x3 x4 (s0 &&& s1) x6 x7 (x8 + 1) := by
  unfold b_X12_castOf_158 b_X12_castOf_175
  by_cases hh : x6 < x9
  · simp only [hh, if_true]
  · simp only [hh, if_false]
theorem r_castA (hS : ShM S m) (hD : μ (m + 1) = D) (hI : Inv D) {i x : Nat} (hi : i < nD D 2) (hx : x < nD D 2) (day away : Int32) : ∀ k j fu (b : Bool) (s : Int32 × Int32), j + k = nD D 2 → k < fu → b_X12_castOf_75 (mkH n st S μ) fu (some m) (nI i) day away (nI x) (bI b) s.1 s.2 (nI j) = some (if b && allS (loB D i x day away) k j then nI x else if (itS (mxStep D i day away) k j s).1 < D 11 then -1 else (itS (mxStep D i day away) k j s).2) := by
  obtain ⟨e0, b0⟩ := hI.today
  obtain ⟨e1, b1⟩ := hI.wards
  obtain ⟨e2, b2⟩ := hI.men
  obtain ⟨e3, b3⟩ := hI.words
  obtain ⟨e4, b4⟩ := hI.bars
  obtain ⟨e5, b5⟩ := hI.shes
  obtain ⟨e6, b6⟩ := hI.wets
  obtain ⟨e8, b8⟩ := hI.heaped
  have hxp : ¬ nI x < 0 := nI_pos (by omega)
  intro k
  induction k with
  | zero =>
    intro j fu b s hj hf
    obtain ⟨fu, rfl⟩ : ∃ q, fu = q + 1 := ⟨fu - 1, by omega⟩
    simp (disch := omega) only [some_bind, ite_bI0, lit_add, lit_addr, lit_mul, lit_aI, lit_aZ, lit_aR, lit_sI, lit_sZ, nI_add, pk_mul, nn_lt, up2_same, up2_ne, if_pos, if_neg, Nat.reduceAdd, Nat.reduceMul, Option.bind_some, mR0 hS, mA0 hS, mS0 hS, mR1 hS, mA1 hS, mS1 hS, mI2 hS, mP2 hS, mZ2_0 hS, mZ2_1 hS, mR3 hS, mA3 hS, mS3 hS, mI4 hS, mP4 hS, mR5 hS, mA5 hS, mS5 hS, mR6 hS, mA6 hS, mS6 hS, mR7 hS, mA7 hS, mS7 hS, mR8 hS, mA8 hS, mS8 hS, mR9 hS, mA9 hS, mS9 hS, mR10 hS, mA10 hS, mS10 hS, mI11 hS, mP11 hS, mI12 hS, mP12 hS, mI13 hS, mP13 hS, mI14 hS, mP14 hS, mI15 hS, mP15 hS, mI16 hS, mP16 hS, mI17 hS, mP17 hS, mI18 hS, mP18 hS, mR19 hS, mA19 hS, mS19 hS, mR20 hS, mA20 hS, mS20 hS, mR21 hS, mA21 hS, mS21 hS, mI22 hS, mP22 hS, mI23 hS, mP23 hS, mI24 hS, mP24 hS, mI25 hS, mP25 hS, mI26 hS, mP26 hS, mR27 hS, mA27 hS, mS27 hS, mR28 hS, mA28 hS, mS28 hS, mI29 hS, mP29 hS, mR30 hS, mA30 hS, mS30 hS, mR31 hS, mA31 hS, mS31 hS, mR32 hS, mA32 hS, mS32 hS, mR33 hS, mA33 hS, mS33 hS, mR34 hS, mA34 hS, mS34 hS, mR35 hS, mA35 hS, mS35 hS, mR36 hS, mA36 hS, mS36 hS, mR37 hS, mA37 hS, mS37 hS, mI38 hS, mP38 hS, mI39 hS, mP39 hS, mI40 hS, mP40 hS, mI41 hS, mP41 hS, mI42 hS, mP42 hS, mZ42_0 hS, mZ42_1 hS, rck hS, b_X12_castOf_75, hD, e2, allS, itS, Bool.and_true]
    cases b
    · by_cases h : s.1 < D 11
      · simp [h]
      · simp [h]
    · simp
  | succ k ih =>
    intro j fu b s hj hf
    obtain ⟨fu, rfl⟩ : ∃ q, fu = q + 1 := ⟨fu - 1, by omega⟩
    have ihT := fun bb s' => ih (j + 1) fu bb s' (by omega) (by omega)
    have ihS := ihT b s
    have ihM := ihT b (dreS D i j day, nI j)
    have ihS0 := ihT false s
    have ihM0 := ihT false (dreS D i j day, nI j)
    simp only [] at ihM ihM0
    have q1 := r_isSent (n := n) (st := st) hS hD (i := j) (by omega) day
    have q2 := r_dreadOf (n := n) (st := st) hS hD hI (i := i) (o := j) (by omega) (by omega) day
    have q3 := r_dreadOf (n := n) (st := st) hS hD hI (i := i) (o := x) (by omega) (by omega) day
    have q4 := rdA (n := n) (st := st) (μ := μ) hS (q := 2) (by omega)
    have q5 := rdA (n := n) (st := st) (μ := μ) hS (q := 10) (by omega)
    have q6 : nI j < nI (nD D 2) := nI_lt (by omega) (by omega)
    rw [hD] at q4 q5
    rw [allS, itS, b_X12_castOf_75]
    simp only [cast158, rck hS, rd0 hS, some_bind, lit_aI, q4, q5, e2, q6, if_true, q1, q2, q3, ite_bI0, nI_1, bI_and1, bI_and0, hxp, if_false]
    simp (disch := omega) only [nn_eq]
    by_cases h1 : j = i
    · have : avB D i day away j = false := by simp [avB, h1]
      simp [h1] at this
      simp only [h1, if_true, loB, mxStep, this]
      simp only [h1] at ihS
      simpa using ihS
    · by_cases h2 : nI j = away
      · have : avB D i day away j = false := by simp [avB, h2]
        simp only [h1, h2, if_true, if_false, loB, mxStep, this]
        simpa using ihS
      · by_cases h3 : sntB D j day = true
        · have : avB D i day away j = false := by simp [avB, h3]
          simp only [h1, h2, h3, if_true, if_false, loB, mxStep, this]
          simpa using ihS
        · have hav : avB D i day away j = true := by simp [avB, h1, h2, h3]
          simp only [h1, h2, h3, if_false, loB, mxStep, hav, Bool.not_true, Bool.false_or, true_and]
          by_cases h4 : s.1 < dreS D i j day
          · by_cases h5 : j = x
            · subst h5
              simp only [h4, if_true, decide_true, Bool.true_or, Bool.true_and, Bool.false_eq_true, if_false]
              exact ihM
            · by_cases h6 : dreS D i j day < dreS D i x day + D 10
              · simp only [h4, h5, h6, if_true, if_false, decide_true, decide_false, Bool.or_true, Bool.true_and]
                exact ihM
              · simp only [h4, h5, h6, if_true, if_false, decide_false, Bool.or_self, Bool.false_and, Bool.and_false]
                rw [ihM0]
                simp
          · by_cases h5 : j = x
            · subst h5
              simp only [h4, if_true, if_false, decide_true, Bool.true_or, Bool.true_and, Bool.false_eq_true]
              exact ihS
            · by_cases h6 : dreS D i j day < dreS D i x day + D 10
              · simp only [h4, h5, h6, if_true, if_false, decide_true, decide_false, Bool.or_true, Bool.true_and]
                exact ihS
              · simp only [h4, h5, h6, if_true, if_false, decide_false, Bool.or_self, Bool.false_and, Bool.and_false]
                rw [ihS0]
                simp
theorem r_castB (hS : ShM S m) (hD : μ (m + 1) = D) (hI : Inv D) {i : Nat} (hi : i < nD D 2) (day away : Int32) : ∀ k j fu (s : Int32 × Int32), j + k = nD D 2 → k < fu → b_X12_castOf_75 (mkH n st S μ) fu (some m) (nI i) day away (-1) (bI false) s.1 s.2 (nI j) = some (if (itS (mxStep D i day away) k j s).1 < D 11 then -1 else (itS (mxStep D i day away) k j s).2) := by
  obtain ⟨e0, b0⟩ := hI.today
  obtain ⟨e1, b1⟩ := hI.wards
  obtain ⟨e2, b2⟩ := hI.men
  obtain ⟨e3, b3⟩ := hI.words
  obtain ⟨e4, b4⟩ := hI.bars
  obtain ⟨e5, b5⟩ := hI.shes
  obtain ⟨e6, b6⟩ := hI.wets
  obtain ⟨e8, b8⟩ := hI.heaped
  have hm : (-1 : Int32) < 0 := by decide
  intro k
  induction k with
  | zero =>
    intro j fu s hj hf
    obtain ⟨fu, rfl⟩ : ∃ q, fu = q + 1 := ⟨fu - 1, by omega⟩
    simp (disch := omega) only [some_bind, ite_bI0, lit_add, lit_addr, lit_mul, lit_aI, lit_aZ, lit_aR, lit_sI, lit_sZ, nI_add, pk_mul, nn_lt, up2_same, up2_ne, if_pos, if_neg, Nat.reduceAdd, Nat.reduceMul, Option.bind_some, mR0 hS, mA0 hS, mS0 hS, mR1 hS, mA1 hS, mS1 hS, mI2 hS, mP2 hS, mZ2_0 hS, mZ2_1 hS, mR3 hS, mA3 hS, mS3 hS, mI4 hS, mP4 hS, mR5 hS, mA5 hS, mS5 hS, mR6 hS, mA6 hS, mS6 hS, mR7 hS, mA7 hS, mS7 hS, mR8 hS, mA8 hS, mS8 hS, mR9 hS, mA9 hS, mS9 hS, mR10 hS, mA10 hS, mS10 hS, mI11 hS, mP11 hS, mI12 hS, mP12 hS, mI13 hS, mP13 hS, mI14 hS, mP14 hS, mI15 hS, mP15 hS, mI16 hS, mP16 hS, mI17 hS, mP17 hS, mI18 hS, mP18 hS, mR19 hS, mA19 hS, mS19 hS, mR20 hS, mA20 hS, mS20 hS, mR21 hS, mA21 hS, mS21 hS, mI22 hS, mP22 hS, mI23 hS, mP23 hS, mI24 hS, mP24 hS, mI25 hS, mP25 hS, mI26 hS, mP26 hS, mR27 hS, mA27 hS, mS27 hS, mR28 hS, mA28 hS, mS28 hS, mI29 hS, mP29 hS, mR30 hS, mA30 hS, mS30 hS, mR31 hS, mA31 hS, mS31 hS, mR32 hS, mA32 hS, mS32 hS, mR33 hS, mA33 hS, mS33 hS, mR34 hS, mA34 hS, mS34 hS, mR35 hS, mA35 hS, mS35 hS, mR36 hS, mA36 hS, mS36 hS, mR37 hS, mA37 hS, mS37 hS, mI38 hS, mP38 hS, mI39 hS, mP39 hS, mI40 hS, mP40 hS, mI41 hS, mP41 hS, mI42 hS, mP42 hS, mZ42_0 hS, mZ42_1 hS, rck hS, b_X12_castOf_75, hD, e2, allS, itS, Bool.and_true]
    by_cases h : s.1 < D 11
    · simp [h]
    · simp [h]
  | succ k ih =>
    intro j fu s hj hf
    obtain ⟨fu, rfl⟩ : ∃ q, fu = q + 1 := ⟨fu - 1, by omega⟩
    have ihT := fun s' => ih (j + 1) fu s' (by omega) (by omega)
    have ihS := ihT s
    have ihM := ihT (dreS D i j day, nI j)
    simp only [] at ihM
    have hjm : ¬ nI j = -1 := by
      intro e
      have : ¬ nI j < 0 := nI_pos (by omega)
      rw [e] at this
      exact this hm
    simp (disch := omega) only [b_X12_castOf_75, cast158, rck hS, rd0 hS, some_bind, lit_aI, rdA hS, hD, e2, nn_lt, if_pos, nn_eq, r_isSent hS hD, r_dreadOf hS hD hI, ite_bI0, lit_addr, bI_and1, bI_and0, hm, hjm, if_false, if_true, itS]
    by_cases h1 : j = i
    · have : avB D i day away j = false := by simp [avB, h1]
      simp [h1] at this
      simp only [h1, if_true, mxStep, this]
      simp only [h1] at ihS
      simpa using ihS
    · by_cases h2 : nI j = away
      · have : avB D i day away j = false := by simp [avB, h2]
        simp only [h1, h2, if_true, if_false, mxStep, this]
        simpa using ihS
      · by_cases h3 : sntB D j day = true
        · have : avB D i day away j = false := by simp [avB, h3]
          simp only [h1, h2, h3, if_true, if_false, mxStep, this]
          simpa using ihS
        · have hav : avB D i day away j = true := by simp [avB, h1, h2, h3]
          simp only [h1, h2, h3, if_false, mxStep, hav, true_and]
          by_cases h4 : s.1 < dreS D i j day
          · simp only [h4, if_true]
            exact ihM
          · simp only [h4, if_false]
            exact ihS
theorem r_castOf (hS : ShM S m) (hD : μ (m + 1) = D) (hI : Inv D) {i : Nat} (hi : i < nD D 2) (day away : Int32) : f_X12_castOf (some m) (nI i) day away (mkH n st S μ) = some (casS D i day away) := by
  obtain ⟨e0, b0⟩ := hI.today
  obtain ⟨e1, b1⟩ := hI.wards
  obtain ⟨e2, b2⟩ := hI.men
  obtain ⟨e3, b3⟩ := hI.words
  obtain ⟨e4, b4⟩ := hI.bars
  obtain ⟨e5, b5⟩ := hI.shes
  obtain ⟨e6, b6⟩ := hI.wets
  obtain ⟨e8, b8⟩ := hI.heaped
  have hfu : nD D 2 < FU := by simp only [FU]; omega
  have hB := r_castB (n := n) (st := st) hS hD hI hi day away (nD D 2) 0 FU (-1, -1) (by omega) hfu
  have hm : (-1 : Int32) < 0 := by decide
  simp (disch := omega) only [f_X12_castOf, rd0 hS, some_bind, lit_add, rdA hS, hD, rck hS, r_boundTo hS hD hI, b_X12_castOf_64]
  have key : b_X12_castOf_30 (mkH n st S μ) (some m) (nI i) day away (bouS D (D (91 + i)) day) = some (casS D i day away) := by
    rcases bouS_rng hI (D (91 + i)) day with e | ⟨x, hx, e⟩
    · rw [casS, e, if_pos hm]
      simp only [b_X12_castOf_30, b_X12_castOf_64, hm, if_true]
      exact hB
    · have hA := fun b => r_castA (n := n) (st := st) hS hD hI hi hx day away (nD D 2) 0 FU b (-1, -1) (by omega) hfu
      have hxp : ¬ nI x < 0 := nI_pos (by omega)
      rw [casS, e, if_neg hxp, nI_clamp (by omega)]
      have hA1 := hA true
      have hA0 := hA false
      simp only [bI, if_true, Bool.false_eq_true, if_false] at hA1 hA0
      simp (disch := omega) only [b_X12_castOf_30, b_X12_castOf_64, hxp, if_false, rck hS, r_isSent hS hD, some_bind, ite_bI0, nn_eq]
      rw [show (0 : Int32) = nI 0 from rfl] at *
      by_cases h1 : x = i
      · have : avB D i day away x = false := by simp [avB, h1]
        simp only [h1] at this hA0 ⊢
        simp only [if_true, this, Bool.false_and]
        exact hA0
      · by_cases h2 : nI x = away
        · have : avB D i day away x = false := by simp [avB, h2]
          simp only [h1, h2, if_true, if_false, this, Bool.false_and]
          rw [← h2]
          rw [← h2] at hA0
          simp only [h2] at hA0 ⊢
          exact hA0
        · by_cases h3 : sntB D x day = true
          · have : avB D i day away x = false := by simp [avB, h3]
            simp only [h1, h2, h3, if_true, if_false, this, Bool.false_and]
            exact hA0
          · have hav : avB D i day away x = true := by simp [avB, h1, h2, h3]
            simp only [h1, h2, h3, if_false, hav, Bool.true_and]
            exact hA1
  by_cases h : D (91 + i) < 0
  · rw [if_pos h]
    rw [bouS_none hI _ day h] at key
    exact key
  · rw [if_neg h]
    exact key
-- the class
theorem k_isLoyal (hC : ShC S c) (hs : Sim μ c D) (hI : Inv D) {i x : Nat} (hi : i < nD D 2) (hx : x < nD D 2) (day away : Int32) : f_X2_isLoyal (some c) (nI i) (nI x) day away (mkH n st S μ) = some (bI (allS (loB D i x day away) (nD D 2) 0)) := by
  obtain ⟨e0, b0⟩ := hI.today
  obtain ⟨e1, b1⟩ := hI.wards
  obtain ⟨e2, b2⟩ := hI.men
  obtain ⟨e3, b3⟩ := hI.words
  obtain ⟨e4, b4⟩ := hI.bars
  obtain ⟨e5, b5⟩ := hI.shes
  obtain ⟨e6, b6⟩ := hI.wets
  obtain ⟨e8, b8⟩ := hI.heaped
  have z0 := hs.today
  have z1 := hs.wardN
  have z2 := hs.manN
  have z3 := hs.wordN
  have z4 := hs.barN
  have z5 := hs.sheN
  have z6 := hs.wetN
  have z8 := hs.heapN
  have hl : ∀ k j fu, j + k = nD D 2 → k < fu → b_X2_isLoyal_19 (mkH n st S μ) fu (some c) (nI i) (nI x) day away (dreS D i x day + D 10) (nI j) = some (bI (allS (loB D i x day away) k j)) := by
    intro k
    induction k with
    | zero =>
      intro j fu hj hf
      obtain ⟨fu, rfl⟩ : ∃ q, fu = q + 1 := ⟨fu - 1, by omega⟩
      simp (disch := omega) only [some_bind, ite_bI0, lit_add, lit_addr, lit_mul, lit_aI, lit_aZ, lit_aR, lit_sI, lit_sZ, nI_add, pk_mul, nn_lt, up2_same, up2_ne, if_pos, if_neg, Nat.reduceAdd, Nat.reduceMul, Option.bind_some, cI0 hC, cP0 hC, cR1 hC, cI2 hC, cP2 hC, cR3 hC, cI4 hC, cP4 hC, cR5 hC, cI6 hC, cP6 hC, cR7 hC, cI8 hC, cP8 hC, cR9 hC, cI10 hC, cP10 hC, cR11 hC, cI12 hC, cP12 hC, cR13 hC, cI14 hC, cP14 hC, cR15 hC, cR16 hC, cR17 hC, cI18 hC, cP18 hC, cR19 hC, cck hC, cAWet hC, cSWet hC, cARul hC, cSRul hC, cAHea hC, cSHea hC, cALin hC, cSLin hC, cATal hC, cSTal hC, cEwards hC, cEmen hC, cEwords hC, cEbargains hC, cEsherds hC, cElaws hC, cEtallies hC, oWardI hC, oWardP hC, oWardZ0 hC, oWardZ1 hC, oWardK hC, oBarI hC, oBarP hC, oBarZ0 hC, oBarZ1 hC, oBarK hC, oSheI hC, oSheP hC, oSheZ0 hC, oSheZ1 hC, oSheK hC, oManI hC, oManP hC, oManZ0 hC, oManZ1 hC, oManK hC, oManR hC, oManA hC, oManS hC, oWordI hC, oWordP hC, oWordZ0 hC, oWordZ1 hC, oWordK hC, oWordR hC, oWordA hC, oWordS hC, b_X2_isLoyal_19, z2, e2, allS]
      rfl
    | succ k ih =>
      intro j fu hj hf
      obtain ⟨fu, rfl⟩ : ∃ q, fu = q + 1 := ⟨fu - 1, by omega⟩
      have ih' := ih (j + 1) fu (by omega) (by omega)
      have q1 := k_isSent (n := n) (st := st) hC hs hI (i := j) (by omega) day away
      have q2 := k_dreadOf (n := n) (st := st) hC hs hI hi (o := j) (by omega) day
      have q6 : nI j < nI (nD D 2) := nI_lt (by omega) (by omega)
      rw [allS, b_X2_isLoyal_19]
      simp only [b_X2_isLoyal_57, cI6 hC, z2, e2, cck hC, some_bind, q1, q2, q6, if_true, ite_bI0, nI_1, ih']
      simp (disch := omega) only [nn_eq, loB, avB]
      by_cases h1 : j = i
      · simp [h1]
      · by_cases h2 : j = x
        · subst h2
          simp [h1]
        · by_cases h3 : nI j = away
          · simp [h1, h2, h3]
          · by_cases h4 : sntB D j day = true
            · simp [h1, h2, h3, h4]
            · by_cases h5 : dreS D i j day < dreS D i x day + D 10
              · simp [h1, h2, h3, h4, h5]
              · simp [h1, h2, h3, h4, h5, bI]
  have hr := hs.rule 1 (by omega)
  have q3 := k_dreadOf (n := n) (st := st) hC hs hI hi hx day
  simp (disch := omega) only [f_X2_isLoyal, cck hC, some_bind, q3, cR15 hC, lit_aI, cARul hC, hr, Nat.reduceAdd]
  exact hl (nD D 2) 0 FU (by omega) (by simp only [FU]; omega)
def mcStep (D : DR) (i : Nat) (day away : Int32) (y : Nat) (s : Int32 × Int32) : Int32 × Int32 := if avB D i day away y = true ∧ s.1 < dreS D i y day then (dreS D i y day, nI y) else s
theorem k_castL (hC : ShC S c) (hs : Sim μ c D) (hI : Inv D) {i : Nat} (hi : i < nD D 2) (day away : Int32) : ∀ k j fu (s : Int32 × Int32), j + k = nD D 2 → k < fu → b_X2_castOf_69 (mkH n st S μ) fu (some c) (nI i) day away s.2 s.1 (nI j) = some (itS (mxStep D i day away) k j s).2 := by
  obtain ⟨e0, b0⟩ := hI.today
  obtain ⟨e1, b1⟩ := hI.wards
  obtain ⟨e2, b2⟩ := hI.men
  obtain ⟨e3, b3⟩ := hI.words
  obtain ⟨e4, b4⟩ := hI.bars
  obtain ⟨e5, b5⟩ := hI.shes
  obtain ⟨e6, b6⟩ := hI.wets
  obtain ⟨e8, b8⟩ := hI.heaped
  have z0 := hs.today
  have z1 := hs.wardN
  have z2 := hs.manN
  have z3 := hs.wordN
  have z4 := hs.barN
  have z5 := hs.sheN
  have z6 := hs.wetN
  have z8 := hs.heapN
  intro k
  induction k with
  | zero =>
    intro j fu s hj hf
    obtain ⟨fu, rfl⟩ : ∃ q, fu = q + 1 := ⟨fu - 1, by omega⟩
    simp (disch := omega) only [some_bind, ite_bI0, lit_add, lit_addr, lit_mul, lit_aI, lit_aZ, lit_aR, lit_sI, lit_sZ, nI_add, pk_mul, nn_lt, up2_same, up2_ne, if_pos, if_neg, Nat.reduceAdd, Nat.reduceMul, Option.bind_some, cI0 hC, cP0 hC, cR1 hC, cI2 hC, cP2 hC, cR3 hC, cI4 hC, cP4 hC, cR5 hC, cI6 hC, cP6 hC, cR7 hC, cI8 hC, cP8 hC, cR9 hC, cI10 hC, cP10 hC, cR11 hC, cI12 hC, cP12 hC, cR13 hC, cI14 hC, cP14 hC, cR15 hC, cR16 hC, cR17 hC, cI18 hC, cP18 hC, cR19 hC, cck hC, cAWet hC, cSWet hC, cARul hC, cSRul hC, cAHea hC, cSHea hC, cALin hC, cSLin hC, cATal hC, cSTal hC, cEwards hC, cEmen hC, cEwords hC, cEbargains hC, cEsherds hC, cElaws hC, cEtallies hC, oWardI hC, oWardP hC, oWardZ0 hC, oWardZ1 hC, oWardK hC, oBarI hC, oBarP hC, oBarZ0 hC, oBarZ1 hC, oBarK hC, oSheI hC, oSheP hC, oSheZ0 hC, oSheZ1 hC, oSheK hC, oManI hC, oManP hC, oManZ0 hC, oManZ1 hC, oManK hC, oManR hC, oManA hC, oManS hC, oWordI hC, oWordP hC, oWordZ0 hC, oWordZ1 hC, oWordK hC, oWordR hC, oWordA hC, oWordS hC, b_X2_castOf_69, z2, e2, itS]
  | succ k ih =>
    intro j fu s hj hf
    obtain ⟨fu, rfl⟩ : ∃ q, fu = q + 1 := ⟨fu - 1, by omega⟩
    have ih1 := ih (j + 1) fu s (by omega) (by omega)
    have ih2 := ih (j + 1) fu (dreS D i j day, nI j) (by omega) (by omega)
    simp only [] at ih2
    have q1 := k_isSent (n := n) (st := st) hC hs hI (i := j) (by omega) day away
    have q2 := k_dreadOf (n := n) (st := st) hC hs hI hi (o := j) (by omega) day
    have q6 : nI j < nI (nD D 2) := nI_lt (by omega) (by omega)
    rw [itS, b_X2_castOf_69]
    simp only [cI6 hC, z2, e2, cck hC, some_bind, q1, q2, q6, if_true, ite_bI0, nI_1, ih1, ih2]
    simp (disch := omega) only [nn_eq, mxStep, avB]
    by_cases h1 : j = i
    · simp [h1]
    · by_cases h3 : nI j = away
      · simp [h1, h3]
      · by_cases h4 : sntB D j day = true
        · simp [h1, h3, h4]
        · by_cases h5 : s.1 < dreS D i j day
          · simp [h1, h3, h4, h5]
          · simp [h1, h3, h4, h5]
/-- the greatest dread, from -1 on or from LEAST - 1 on -/
theorem mx_two (D : DR) (i : Nat) (day away : Int32) (L : Int32) (hL0 : -1 ≤ L.toInt) (k j : Nat) (s t : Int32 × Int32) (h : (s.1.toInt ≤ L.toInt ∧ t = (L, -1)) ∨ (L.toInt < s.1.toInt ∧ t = s)) :
    let s' := itS (mxStep D i day away) k j s
    let t' := itS (mxStep D i day away) k j t
    (s'.1.toInt ≤ L.toInt ∧ t' = (L, -1)) ∨ (L.toInt < s'.1.toInt ∧ t' = s') := by
  refine itS_rel (fun s t : Int32 × Int32 => (s.1.toInt ≤ L.toInt ∧ t = (L, -1)) ∨ (L.toInt < s.1.toInt ∧ t = s)) k j s t h ?_
  intro y s t _ _ h
  unfold mxStep
  by_cases ha : avB D i day away y = true
  · rcases h with ⟨h1, rfl⟩ | ⟨h1, rfl⟩
    · simp only [ha, true_and, i32_lt]
      by_cases h2 : L.toInt < (dreS D i y day).toInt
      · rw [if_pos (by omega), if_pos h2]
        right
        exact ⟨h2, rfl⟩
      · rw [if_neg h2]
        left
        refine ⟨?_, rfl⟩
        split
        · show (dreS D i y day).toInt ≤ L.toInt
          omega
        · exact h1
    · right
      refine ⟨?_, rfl⟩
      simp only [ha, true_and, i32_lt]
      split
      · show L.toInt < (dreS D i y day).toInt
        omega
      · exact h1
  · simp only [ha, false_and, if_false]
    exact h
theorem k_castOf (hC : ShC S c) (hs : Sim μ c D) (hI : Inv D) {i : Nat} (hi : i < nD D 2) (day away : Int32) : f_X2_castOf (some c) (nI i) day away (mkH n st S μ) = some (casS D i day away) := by
  obtain ⟨e0, b0⟩ := hI.today
  obtain ⟨e1, b1⟩ := hI.wards
  obtain ⟨e2, b2⟩ := hI.men
  obtain ⟨e3, b3⟩ := hI.words
  obtain ⟨e4, b4⟩ := hI.bars
  obtain ⟨e5, b5⟩ := hI.shes
  obtain ⟨e6, b6⟩ := hI.wets
  obtain ⟨e8, b8⟩ := hI.heaped
  have hfu : nD D 2 < FU := by simp only [FU]; omega
  obtain ⟨L, hL, eL⟩ := hI.lst
  have hr := hs.rule 2 (by omega)
  have fr : b_X2_castOf_53 (mkH n st S μ) (some c) (nI i) day away = some (frS D i day away) := by
    have := k_castL (n := n) (st := st) hC hs hI hi day away (nD D 2) 0 FU (D 11 - 1, -1) (by omega) hfu
    simp (disch := omega) only [b_X2_castOf_53, cR15 hC, some_bind, lit_aI, cARul hC, hr, Nat.reduceAdd]
    refine this.trans ?_
    have hL1 : (D 11 - 1).toInt = (L : Int) - 1 := by
      have e1' : (1 : Int32).toInt = 1 := by decide
      have e2' : (nI L).toInt = (L : Int) := nI_toInt (by omega)
      rw [eL, i32_sub] <;> omega
    have h2 := mx_two D i day away (D 11 - 1) (by omega) (nD D 2) 0 (-1, -1) (D 11 - 1, -1) (by
      left
      refine ⟨?_, rfl⟩
      rw [hL1]
      show (-1 : Int32).toInt ≤ _
      rw [i32_m1]
      omega)
    simp only [frS]
    simp only [] at h2
    have hLt : (D 11).toInt = L := by rw [eL, nI_toInt (by omega)]
    rcases h2 with ⟨h3, h4⟩ | ⟨h3, h4⟩
    · rw [h4, if_pos (by rw [i32_lt]; omega)]
    · rw [h4, if_neg (by rw [i32_lt]; omega)]
  have hm := hs.man i 1 hi (by omega)
  have q1 := k_boundTo (n := n) (st := st) hC hs hI (D (91 + i)) day
  simp (disch := omega) only [f_X2_castOf, cR5 hC, some_bind, cEmen hC, oManI hC, hm, Nat.reduceMul, Nat.reduceAdd, q1, cck hC, fr]
  rw [casS]
  rcases bouS_rng hI (D (91 + i)) day with e | ⟨x, hx, e⟩
  · rw [e]; rfl
  · have hxp : ¬ nI x < 0 := nI_pos (by omega)
    have q2 := k_isSent (n := n) (st := st) hC hs hI hx day away
    have q3 := k_isLoyal (n := n) (st := st) hC hs hI hi hx day away
    rw [e, nI_clamp (by omega)]
    simp only [hxp, if_false, q2, q3, some_bind, ite_bI0]
    simp (disch := omega) only [nn_eq]
    by_cases h1 : x = i
    · simp [h1, avB]
    · by_cases h2 : nI x = away
      · simp [h1, h2, avB]
      · by_cases h3 : sntB D x day = true
        · simp [h1, h2, h3, avB]
        · by_cases h4 : allS (loB D i x day away) (nD D 2) 0 = true
          · simp [h1, h2, h3, h4, avB]
          · simp [h1, h2, h3, h4, avB]
end CAST
