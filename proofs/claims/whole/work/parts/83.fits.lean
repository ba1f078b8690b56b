-- ===== may; whom a sherd means; is it good =====
/-- those that are meant -/
def meS (D : DR) (s : Nat) : Nat := if exN D s = 0 then neN D s else exN D s
def hmS (D : DR) (s : Nat) : Int32 := if meS D s = 0 then 0 else if 1 < popN 16 (meS D s) then 3 else if exN D s = 0 then 2 else 1
def surB (D : DR) (s : Nat) : Bool := decide (popN 16 (exN D s) = 1)
theorem popN_zero : ∀ k a, a < 2 ^ k → (popN k a = 0 ↔ a = 0) := by
  intro k
  induction k with
  | zero => intro a h; simp [popN]; omega
  | succ k ih =>
    intro a h
    rw [popN]
    have h2 : a / 2 < 2 ^ k := by rw [Nat.pow_succ] at h; omega
    have := ih (a / 2) h2
    constructor
    · intro q
      have q1 : popN k (a / 2) = 0 := by omega
      have := this.mp q1
      omega
    · intro q
      subst q
      have := this.mpr rfl
      omega
section FITS
variable {n : Nat} {st : Nat → Nat} {S : SH} {μ : MU} {x b m c L : Nat} {T : Nat → Int32} {N : Nat} {D : DR}
theorem LawU.bool (hU : LawU μ L T N) (F : Nat → Int32) {i : Nat} (hi : i < 4) (w : Bool) : ∃ q, ruT T N F i (bI w) = bI q := by
  obtain ⟨H, h1, -⟩ := hU
  obtain ⟨k, z, q1, q2, -, q4⟩ := h1 F
  unfold ruT
  rw [q1]
  cases hH : H i with
  | false =>
    have := q2 i (by omega)
    rw [hH] at this
    cases hz : z i with
    | none => exact ⟨w, by simp only [hz]; rfl⟩
    | some v => rw [hz] at this; cases this
  | true =>
    obtain ⟨bb, e, -, -, -, -, w5⟩ := q4 i hi hH
    exact ⟨_, by simp only [w5]; rfl⟩
theorem op_may (hR : R n st S μ x b) (a1 a2 : Int32) : Res (f_X11_may (some x) a1 a2) (f_X12_may (some (x + 175)) a1 a2) n st S μ x b := by
  have hR' := hR
  obtain ⟨⟨hX, hS, hs, hI, hL0⟩, hRest⟩ := hR
  have hC := hX.city
  have hBase := hRest.2.2.2.1
  obtain ⟨D, hD⟩ : ∃ D, μ (x + 175 + 1) = D := ⟨_, rfl⟩
  replace hs : Sim μ (x + 1) (μ (x + 175 + 1)) := hs
  replace hI : Inv (μ (x + 175 + 1)) := hI
  rw [hD] at hs hI
  obtain ⟨e0, b0⟩ := hI.today
  obtain ⟨e1, b1⟩ := hI.wards
  obtain ⟨e2, b2⟩ := hI.men
  obtain ⟨e3, b3⟩ := hI.words
  obtain ⟨e4, b4⟩ := hI.bars
  obtain ⟨e5, b5⟩ := hI.shes
  obtain ⟨e6, b6⟩ := hI.wets
  obtain ⟨e8, b8⟩ := hI.heaped
  have z0 := hs.today
  have z1 := hs.wardN
  have z2 := hs.manN
  have z3 := hs.wordN
  have z4 := hs.barN
  have z5 := hs.sheN
  have z6 := hs.wetN
  have z8 := hs.heapN
  have hU := lawU_now hs hI hL0
  have hLw := hC.law (lawA D) (lawA_lt hI)
  have hlA := lawA_lt hI
  have hlN := k_lawNow (n := n) (st := st) hC hs hI
  by_cases c1 : ixB a1 (nD D 2) = true
  case neg => exact Res.same hR' (-1) (by simp (disch := omega) only [some_bind, ite_bI0, lit_add, lit_addr, lit_mul, lit_aI, lit_aZ, lit_aR, lit_sI, lit_sZ, nI_add, pk_mul, nn_lt, up2_same, up2_ne, ↓reduceIte, natT, natF, natE, natN, Nat.reduceAdd, Nat.reduceMul, Option.bind_some, if_true, if_false, Bool.false_eq_true, xR0 hX, xR2 hX, xR3 hX, xR4 hX, xR5 hX, xR7 hX, xR8 hX, xR10 hX, xR11 hX, xR12 hX, xR13 hX, xR14 hX, xR15 hX, xR16 hX, xI6 hX, xP6 hX, xI9 hX, xP9 hX, xck hX, xATap hX, xSTap hX, xAWai hX, xSWai hX, xALea hX, xSLea hX, xAMos hX, xSMos hX, xAGat hX, xSGat hX, xAThr hX, xSThr hX, xATra hX, xSTra hX, xACas hX, xSCas hX, xARMa hX, xSRMa hX, xARCl hX, xSRCl hX, xASWh hX, xSSWh hX, xASNu hX, xSSNu hX, xAPOf hX, xSPOf hX, xAPMe hX, xSPMe hX, xAAli hX, xSAli hX, rdR0 hX, rdI1 hX, rdP1 hX, rdR2 hX, rdI3 hX, rdP3 hX, rdI4 hX, rdP4 hX, rdI5 hX, rdP5 hX, rdI6 hX, rdP6 hX, rdI7 hX, rdP7 hX, rdZ7_0 hX, rdZ7_1 hX, rdI8 hX, rdP8 hX, rdI9 hX, rdP9 hX, rdI10 hX, rdP10 hX, rdR11 hX, rdI12 hX, rdP12 hX, rdck hX, poI0 hX, poP0 hX, poI1 hX, poP1 hX, poR2 hX, poR3 hX, poR4 hX, poR5 hX, pock hX, acI0 hX, acP0 hX, acI1 hX, acP1 hX, acI2 hX, acP2 hX, acR3 hX, acI4 hX, acP4 hX, acI5 hX, acP5 hX, acZ5_0 hX, acZ5_1 hX, acck hX, cI0 hX.city, cP0 hX.city, cR1 hX.city, cI2 hX.city, cP2 hX.city, cR3 hX.city, cI4 hX.city, cP4 hX.city, cR5 hX.city, cI6 hX.city, cP6 hX.city, cR7 hX.city, cI8 hX.city, cP8 hX.city, cR9 hX.city, cI10 hX.city, cP10 hX.city, cR11 hX.city, cI12 hX.city, cP12 hX.city, cR13 hX.city, cI14 hX.city, cP14 hX.city, cR15 hX.city, cR16 hX.city, cR17 hX.city, cI18 hX.city, cP18 hX.city, cR19 hX.city, cck hX.city, cAWet hX.city, cSWet hX.city, cARul hX.city, cSRul hX.city, cAHea hX.city, cSHea hX.city, cALin hX.city, cSLin hX.city, cATal hX.city, cSTal hX.city, cEwards hX.city, cEmen hX.city, cEwords hX.city, cEbargains hX.city, cEsherds hX.city, cElaws hX.city, cEtallies hX.city, oWardI hX.city, oWardP hX.city, oWardZ0 hX.city, oWardZ1 hX.city, oWardK hX.city, oBarI hX.city, oBarP hX.city, oBarZ0 hX.city, oBarZ1 hX.city, oBarK hX.city, oSheI hX.city, oSheP hX.city, oSheZ0 hX.city, oSheZ1 hX.city, oSheK hX.city, oManI hX.city, oManP hX.city, oManZ0 hX.city, oManZ1 hX.city, oManK hX.city, oManR hX.city, oManA hX.city, oManS hX.city, oWordI hX.city, oWordP hX.city, oWordZ0 hX.city, oWordZ1 hX.city, oWordK hX.city, oWordR hX.city, oWordA hX.city, oWordS hX.city, f_X11_may, k_within, k_isDay, k_isClub, k_isName, k_hasMan hC hs hI, k_hasWard hC hs hI, k_hasSherd hC hs hI, k_hasBargain hC hs hI, k_areTwoMen hC hs hI, k_isWet hC hs hI, z0, z1, z2, z3, z4, z5, z6, z8, e0, e1, e2, e3, e4, e5, e6, e8, lit_lt, lit_eq, if_true, if_false, ite_self, Bool.true_and, Bool.and_true, decide_true, decide_false, Bool.false_eq_true, Bool.false_and, Bool.and_false,  c1]) (by simp (disch := omega) only [some_bind, ite_bI0, lit_add, lit_addr, lit_mul, lit_aI, lit_aZ, lit_aR, lit_sI, lit_sZ, nI_add, pk_mul, nn_lt, up2_same, up2_ne, ↓reduceIte, natT, natF, natE, natN, Nat.reduceAdd, Nat.reduceMul, Option.bind_some, if_true, if_false, Bool.false_eq_true, mR0 hS, mA0 hS, mS0 hS, mR1 hS, mA1 hS, mS1 hS, mI2 hS, mP2 hS, mZ2_0 hS, mZ2_1 hS, mR3 hS, mA3 hS, mS3 hS, mI4 hS, mP4 hS, mR5 hS, mA5 hS, mS5 hS, mR6 hS, mA6 hS, mS6 hS, mR7 hS, mA7 hS, mS7 hS, mR8 hS, mA8 hS, mS8 hS, mR9 hS, mA9 hS, mS9 hS, mR10 hS, mA10 hS, mS10 hS, mI11 hS, mP11 hS, mI12 hS, mP12 hS, mI13 hS, mP13 hS, mI14 hS, mP14 hS, mI15 hS, mP15 hS, mI16 hS, mP16 hS, mI17 hS, mP17 hS, mI18 hS, mP18 hS, mR19 hS, mA19 hS, mS19 hS, mR20 hS, mA20 hS, mS20 hS, mR21 hS, mA21 hS, mS21 hS, mI22 hS, mP22 hS, mI23 hS, mP23 hS, mI24 hS, mP24 hS, mI25 hS, mP25 hS, mI26 hS, mP26 hS, mR27 hS, mA27 hS, mS27 hS, mR28 hS, mA28 hS, mS28 hS, mI29 hS, mP29 hS, mR30 hS, mA30 hS, mS30 hS, mR31 hS, mA31 hS, mS31 hS, mR32 hS, mA32 hS, mS32 hS, mR33 hS, mA33 hS, mS33 hS, mR34 hS, mA34 hS, mS34 hS, mR35 hS, mA35 hS, mS35 hS, mR36 hS, mA36 hS, mS36 hS, mR37 hS, mA37 hS, mS37 hS, mI38 hS, mP38 hS, mI39 hS, mP39 hS, mI40 hS, mP40 hS, mI41 hS, mP41 hS, mI42 hS, mP42 hS, mZ42_0 hS, mZ42_1 hS, rck hS, f_X12_may, s_in, s_isDay, s_isClub, r_isName, e0, e1, e2, e3, e4, e5, e6, e8, lit_lt, lit_eq, if_true, if_false, ite_self, hD, hD, r_isMan hS hD hI, r_isWard hS hD hI, r_isSherd hS hD hI, r_isWet hS hD hI, Bool.false_eq_true,  c1])
  by_cases c2 : inS a2 0 9999 = true
  case neg => exact Res.same hR' (-1) (by simp (disch := omega) only [some_bind, ite_bI0, lit_add, lit_addr, lit_mul, lit_aI, lit_aZ, lit_aR, lit_sI, lit_sZ, nI_add, pk_mul, nn_lt, up2_same, up2_ne, ↓reduceIte, natT, natF, natE, natN, Nat.reduceAdd, Nat.reduceMul, Option.bind_some, if_true, if_false, Bool.false_eq_true, xR0 hX, xR2 hX, xR3 hX, xR4 hX, xR5 hX, xR7 hX, xR8 hX, xR10 hX, xR11 hX, xR12 hX, xR13 hX, xR14 hX, xR15 hX, xR16 hX, xI6 hX, xP6 hX, xI9 hX, xP9 hX, xck hX, xATap hX, xSTap hX, xAWai hX, xSWai hX, xALea hX, xSLea hX, xAMos hX, xSMos hX, xAGat hX, xSGat hX, xAThr hX, xSThr hX, xATra hX, xSTra hX, xACas hX, xSCas hX, xARMa hX, xSRMa hX, xARCl hX, xSRCl hX, xASWh hX, xSSWh hX, xASNu hX, xSSNu hX, xAPOf hX, xSPOf hX, xAPMe hX, xSPMe hX, xAAli hX, xSAli hX, rdR0 hX, rdI1 hX, rdP1 hX, rdR2 hX, rdI3 hX, rdP3 hX, rdI4 hX, rdP4 hX, rdI5 hX, rdP5 hX, rdI6 hX, rdP6 hX, rdI7 hX, rdP7 hX, rdZ7_0 hX, rdZ7_1 hX, rdI8 hX, rdP8 hX, rdI9 hX, rdP9 hX, rdI10 hX, rdP10 hX, rdR11 hX, rdI12 hX, rdP12 hX, rdck hX, poI0 hX, poP0 hX, poI1 hX, poP1 hX, poR2 hX, poR3 hX, poR4 hX, poR5 hX, pock hX, acI0 hX, acP0 hX, acI1 hX, acP1 hX, acI2 hX, acP2 hX, acR3 hX, acI4 hX, acP4 hX, acI5 hX, acP5 hX, acZ5_0 hX, acZ5_1 hX, acck hX, cI0 hX.city, cP0 hX.city, cR1 hX.city, cI2 hX.city, cP2 hX.city, cR3 hX.city, cI4 hX.city, cP4 hX.city, cR5 hX.city, cI6 hX.city, cP6 hX.city, cR7 hX.city, cI8 hX.city, cP8 hX.city, cR9 hX.city, cI10 hX.city, cP10 hX.city, cR11 hX.city, cI12 hX.city, cP12 hX.city, cR13 hX.city, cI14 hX.city, cP14 hX.city, cR15 hX.city, cR16 hX.city, cR17 hX.city, cI18 hX.city, cP18 hX.city, cR19 hX.city, cck hX.city, cAWet hX.city, cSWet hX.city, cARul hX.city, cSRul hX.city, cAHea hX.city, cSHea hX.city, cALin hX.city, cSLin hX.city, cATal hX.city, cSTal hX.city, cEwards hX.city, cEmen hX.city, cEwords hX.city, cEbargains hX.city, cEsherds hX.city, cElaws hX.city, cEtallies hX.city, oWardI hX.city, oWardP hX.city, oWardZ0 hX.city, oWardZ1 hX.city, oWardK hX.city, oBarI hX.city, oBarP hX.city, oBarZ0 hX.city, oBarZ1 hX.city, oBarK hX.city, oSheI hX.city, oSheP hX.city, oSheZ0 hX.city, oSheZ1 hX.city, oSheK hX.city, oManI hX.city, oManP hX.city, oManZ0 hX.city, oManZ1 hX.city, oManK hX.city, oManR hX.city, oManA hX.city, oManS hX.city, oWordI hX.city, oWordP hX.city, oWordZ0 hX.city, oWordZ1 hX.city, oWordK hX.city, oWordR hX.city, oWordA hX.city, oWordS hX.city, f_X11_may, k_within, k_isDay, k_isClub, k_isName, k_hasMan hC hs hI, k_hasWard hC hs hI, k_hasSherd hC hs hI, k_hasBargain hC hs hI, k_areTwoMen hC hs hI, k_isWet hC hs hI, z0, z1, z2, z3, z4, z5, z6, z8, e0, e1, e2, e3, e4, e5, e6, e8, lit_lt, lit_eq, if_true, if_false, ite_self, Bool.true_and, Bool.and_true, decide_true, decide_false, Bool.false_eq_true, Bool.false_and, Bool.and_false,  c1, c2]) (by simp (disch := omega) only [some_bind, ite_bI0, lit_add, lit_addr, lit_mul, lit_aI, lit_aZ, lit_aR, lit_sI, lit_sZ, nI_add, pk_mul, nn_lt, up2_same, up2_ne, ↓reduceIte, natT, natF, natE, natN, Nat.reduceAdd, Nat.reduceMul, Option.bind_some, if_true, if_false, Bool.false_eq_true, mR0 hS, mA0 hS, mS0 hS, mR1 hS, mA1 hS, mS1 hS, mI2 hS, mP2 hS, mZ2_0 hS, mZ2_1 hS, mR3 hS, mA3 hS, mS3 hS, mI4 hS, mP4 hS, mR5 hS, mA5 hS, mS5 hS, mR6 hS, mA6 hS, mS6 hS, mR7 hS, mA7 hS, mS7 hS, mR8 hS, mA8 hS, mS8 hS, mR9 hS, mA9 hS, mS9 hS, mR10 hS, mA10 hS, mS10 hS, mI11 hS, mP11 hS, mI12 hS, mP12 hS, mI13 hS, mP13 hS, mI14 hS, mP14 hS, mI15 hS, mP15 hS, mI16 hS, mP16 hS, mI17 hS, mP17 hS, mI18 hS, mP18 hS, mR19 hS, mA19 hS, mS19 hS, mR20 hS, mA20 hS, mS20 hS, mR21 hS, mA21 hS, mS21 hS, mI22 hS, mP22 hS, mI23 hS, mP23 hS, mI24 hS, mP24 hS, mI25 hS, mP25 hS, mI26 hS, mP26 hS, mR27 hS, mA27 hS, mS27 hS, mR28 hS, mA28 hS, mS28 hS, mI29 hS, mP29 hS, mR30 hS, mA30 hS, mS30 hS, mR31 hS, mA31 hS, mS31 hS, mR32 hS, mA32 hS, mS32 hS, mR33 hS, mA33 hS, mS33 hS, mR34 hS, mA34 hS, mS34 hS, mR35 hS, mA35 hS, mS35 hS, mR36 hS, mA36 hS, mS36 hS, mR37 hS, mA37 hS, mS37 hS, mI38 hS, mP38 hS, mI39 hS, mP39 hS, mI40 hS, mP40 hS, mI41 hS, mP41 hS, mI42 hS, mP42 hS, mZ42_0 hS, mZ42_1 hS, rck hS, f_X12_may, s_in, s_isDay, s_isClub, r_isName, e0, e1, e2, e3, e4, e5, e6, e8, lit_lt, lit_eq, if_true, if_false, ite_self, hD, hD, r_isMan hS hD hI, r_isWard hS hD hI, r_isSherd hS hD hI, r_isWet hS hD hI, Bool.false_eq_true,  c1, c2])
  obtain ⟨i, hi, rfl⟩ := ixB_ex (by omega) c1
  have n1 := n1_ne (show i < 2 ^ 31 by omega)
  have kS := k_isSent (n := n) (st := st) hC hs hI hi a2 (-1)
  have rS := fun (μ1 : MU) (h : μ1 (x + 175 + 1) = D) => r_isSent (n := n) (st := st) hS h (i := i) (by omega) a2
  rw [show (decide (nI i = (-1 : Int32)) || sntB D i a2) = sntB D i a2 by simp [n1]] at kS
  have m6 := hs.man i 6 hi (by omega)
  simp only [Nat.reduceMul, Nat.reduceAdd] at m6
  by_cases hsn : sntB D i a2 = true
  case neg =>
    refine Res.same hR' (-4) ?_ ?_
    · simp only [f_X11_may, xR0 hX, some_bind, cck hC, k_hasMan hC hs hI, c1, ite_bI0, if_true, k_isDay, c2, kS, hsn, if_false, Bool.false_eq_true]
    · simp only [f_X12_may, rck hS, some_bind, r_isMan hS hD hI, c1, ite_bI0, if_true, s_isDay, c2, rS μ hD, hsn, if_false, Bool.false_eq_true]
  obtain ⟨μ1, k1, k2⟩ := k_allows (n := n) (st := st) hLw hU (law_in hI).2 (a2 - D (171 + i))
  have hD1 : μ1 (x + 175 + 1) = D := by funext q; rw [k2 _ _ (by omega) (by omega), hD]
  have hB1 : BaseOK st S μ1 x b := hBase.congr (fun _ _ => rfl) (fun a j q => k2 a j (by omega) (by omega))
  obtain ⟨μ2, r1, r2, -⟩ := r_ask (n := n) (st := st) (x := x) (b := b) hS (by omega) hB1 hD1 hI hU (i := 4) (by omega) 10 (F' := fun _ => 0) (by intro k h; omega)
  rw [hU.years] at r1
  have r1' : f_X12_ruled (some (x + 175)) 4 10 (mkH n st S μ1) = some (μ (x + 1 + 118 + 6 * lawA D) 1, mkH n st S μ2) := r1
  have hD2 : μ2 (x + 175 + 1) = D := by funext q; rw [r2 _ _ (by omega) (by omega) (by omega), hD1]
  obtain ⟨μ3, hμ3⟩ : ∃ q, q = (up2 (up2 μ2 (x + 175 + 7) (0) (a2 - D (171 + i))) (x + 175 + 7) (1) (μ (x + 1 + 118 + 6 * lawA D) 1)) := ⟨_, rfl⟩
  have hfr : ∀ a j, ¬ a = x + 175 + 7 → μ3 a j = μ2 a j := fun a j q1 => by rw [hμ3]; simp (disch := omega) only [up2_ne]
  have hD3 : μ3 (x + 175 + 1) = D := by funext q; rw [hfr _ _ (by omega), hD2]
  obtain ⟨μ4, s1, s2, -⟩ := r_ask (n := n) (st := st) (x := x) (b := b) hS (by omega) (hB1.congr (fun _ _ => rfl) (fun a j q => by rw [hfr a j (by omega), r2 a j (by omega) (by omega) (by omega)])) hD3 hI hU (i := 3) (by omega) 0 (F' := fk4 (a2 - D (171 + i)) (μ (x + 1 + 118 + 6 * lawA D) 1) 0 0) (by
      intro k _ hk
      have hk4 : k < 2 := hk
      rw [hμ3]
      rcases (by omega : k = 0 ∨ k = 1) with rfl | rfl
      all_goals simp (disch := omega) only [up2_ne, up2_same]; rfl)
  have s1' : f_X12_ruled (some (x + 175)) 3 0 (mkH n st S μ3) = some (ruT (lawT D) (lawN D) (fk4 (a2 - D (171 + i)) (μ (x + 1 + 118 + 6 * lawA D) 1) 0 0) 3 0, mkH n st S μ4) := s1
  obtain ⟨q, hq⟩ := hU.bool (fk4 (a2 - D (171 + i)) (μ (x + 1 + 118 + 6 * lawA D) 1) 0 0) (i := 3) (by omega) false
  have hq' : ruT (lawT D) (lawN D) (fk4 (a2 - D (171 + i)) (μ (x + 1 + 118 + 6 * lawA D) 1) 0 0) 3 0 = bI q := hq
  rw [hq'] at s1'
  rw [mayS, hq', bI_ne0] at k1
  refine ⟨bI q, mkH n st S μ1, n, S, μ4, ?_, ?_, hR'.ask hlA ?_⟩
  · simp (disch := omega) only [f_X11_may, xR0 hX, some_bind, cck hC, k_hasMan hC hs hI, c1, ite_bI0, if_true, k_isDay, c2, kS, hsn, hlN, cR5 hC, cEmen hC, oManI hC, m6, lck hLw, k1, k_asAnswer]
  · simp (disch := omega) only [f_X12_may, rck hS, some_bind, r_isMan hS hD1 hI, c1, ite_bI0, if_true, s_isDay, c2, rS μ1 hD1, hsn, f_X12_years, r1', mR8 hS, mR0 hS, lit_add, mA0 hS, hD2, lit_sI, mS8 hS]
    rw [← hμ3, s1']
    rfl
  · intro a j q1 q2 q3 q4
    rw [s2 a j q3 (by omega) (by omega), hfr a j (by omega), r2 a j q3 (by omega) (by omega), k2 a j q1 q2]
-- ===== whom a sherd fits =====
theorem r_fits84 (hS : ShM S m) (hD : μ (m + 1) = D) (k5 : Option Nat → Int32 → Int32 → Int32 → Int32 → AH → Option (Int32 × AH)) {s i : Nat} (hs : s < 40) (hi : i < 16) (x2 x3 : Int32) (nr : Bool) : b_X12_fits_84 k5 (some m) (nI s) x2 x3 (nI i) (bI nr) (mkH n st S μ) = k5 (some m) (nI s) x2 (if nr && hisS D s i then x3 ||| nI (2 ^ i) else x3 ||| 0) (nI (i + 1)) (mkH n st S μ) := by
  have h163 : ∀ q : Bool, b_X12_fits_163 k5 (some m) (nI s) x2 x3 (nI i) (bI nr) (bI q) (mkH n st S μ) = k5 (some m) (nI s) x2 (if nr && q then x3 ||| nI (2 ^ i) else x3 ||| 0) (nI (i + 1)) (mkH n st S μ) := by
    intro q
    cases nr
    · simp only [b_X12_fits_163, b_X12_fits_184, ite_bI0, Bool.false_eq_true, if_false, Bool.false_and, nI_1]
    · cases q
      · simp only [b_X12_fits_163, b_X12_fits_184, ite_bI0, Bool.false_eq_true, if_false, if_true, Bool.true_and, nI_1]
      · simp (disch := omega) only [b_X12_fits_163, b_X12_fits_184, ite_bI0, if_true, Bool.true_and, nI_1, shl1]
  have h1 := h163 true
  have h0 := h163 false
  rw [show bI true = (1 : Int32) from rfl] at h1
  rw [show bI false = (0 : Int32) from rfl] at h0
  have h122 : b_X12_fits_122 k5 (some m) (nI s) x2 x3 (nI i) (bI nr) (mkH n st S μ) = k5 (some m) (nI s) x2 (if nr && decide (D (731 + s) < 0 ∨ D (731 + s) = D (75 + i)) then x3 ||| nI (2 ^ i) else x3 ||| 0) (nI (i + 1)) (mkH n st S μ) := by
    simp (disch := omega) only [b_X12_fits_122, mR0 hS, some_bind, lit_add, mA0 hS, hD, h1, h0]
    by_cases q1 : D (731 + s) < 0
    · rw [if_pos q1]; simp only [q1, true_or, decide_true]
    · rw [if_neg q1]
      by_cases q2 : D (731 + s) = D (75 + i)
      · rw [if_pos q2, decide_eq_true (Or.inr q2)]
      · rw [if_neg q2]; simp only [q1, q2, or_false, decide_false]
  simp (disch := omega) only [b_X12_fits_84, mR0 hS, some_bind, lit_add, mA0 hS, hD, h122, h0, hisS]
  by_cases q1 : D (691 + s) = 0
  · rw [if_pos q1]; simp only [q1, true_or, true_and]
  · rw [if_neg q1]
    by_cases q2 : D (691 + s) = D (123 + i)
    · rw [if_pos q2]
      have : (D (691 + s) = 0 ∨ D (691 + s) = D (123 + i)) := Or.inr q2
      simp only [this, true_and]
    · rw [if_neg q2]
      have : ¬ (D (691 + s) = 0 ∨ D (691 + s) = D (123 + i)) := fun h => h.elim q1 q2
      simp only [this, false_and, decide_false]
theorem or_bit (p : Nat → Bool) (j : Nat) : (if p j then nI (biN p j) ||| nI (2 ^ j) else nI (biN p j) ||| 0) = nI (biN p (j + 1)) := by
  rw [← biN_or p j (p j) rfl]
  by_cases h : p j = true
  · simp only [h, if_true]
  · simp only [h, if_false, Bool.false_eq_true]
    have := orN (biN p j) 0
    rw [Nat.or_zero] at this
    exact this
theorem r_fits1L (hS : ShM S m) (hD : μ (m + 1) = D) (hI : Inv D) {s : Nat} (hs : s < nD D 5) : ∀ k j fu, j + k = nD D 2 → k < fu → b_X12_fits_5 fu (some m) (nI s) 1 (nI (biN (exB D s) j)) (nI j) (mkH n st S μ) = some (nI (exN D s), mkH n st S μ) := by
  obtain ⟨e0, b0⟩ := hI.today
  obtain ⟨e1, b1⟩ := hI.wards
  obtain ⟨e2, b2⟩ := hI.men
  obtain ⟨e3, b3⟩ := hI.words
  obtain ⟨e4, b4⟩ := hI.bars
  obtain ⟨e5, b5⟩ := hI.shes
  obtain ⟨e6, b6⟩ := hI.wets
  obtain ⟨e8, b8⟩ := hI.heaped
  intro k
  induction k with
  | zero =>
    intro j fu hj hf
    obtain ⟨fu, rfl⟩ : ∃ q, fu = q + 1 := ⟨fu - 1, by omega⟩
    obtain rfl : j = nD D 2 := by omega
    simp (disch := omega) only [b_X12_fits_5, mR0 hS, some_bind, lit_aI, mA0 hS, hD, e2, nn_lt, natF, if_false, exN]
  | succ k ih =>
    intro j fu hj hf
    obtain ⟨fu, rfl⟩ : ∃ q, fu = q + 1 := ⟨fu - 1, by omega⟩
    have n10 : ¬ (1 : Int32) = 0 := by decide
    have h84 := fun q => r_fits84 (n := n) (st := st) hS hD (b_X12_fits_5 fu) (s := s) (i := j) (by omega) (by omega) 1 (nI (biN (exB D s) j)) q
    have hor := or_bit (exB D s) j
    rw [← ih (j + 1) fu (by omega) (by omega), ← hor]
    have h1 := h84 true
    have h0 := h84 false
    rw [show bI true = (1 : Int32) from rfl] at h1
    rw [show bI false = (0 : Int32) from rfl] at h0
    simp (disch := omega) only [b_X12_fits_5, mR0 hS, some_bind, lit_aI, mA0 hS, hD, e2, nn_lt, natT, if_true, n10, if_false, lit_add, h1, h0]
    by_cases q1 : D (651 + s) = D (107 + j)
    · rw [if_pos q1]
      simp only [exB, decide_eq_true q1]
    · rw [if_neg q1]
      simp only [exB, q1, decide_false]
theorem r_fits0L (hS : ShM S m) (hI : Inv D) {s : Nat} (hs : s < nD D 5) : ∀ k j fu (μ : MU), μ (m + 1) = D → j + k = nD D 2 → k < fu → ∃ μ', b_X12_fits_5 fu (some m) (nI s) 0 (nI (biN (apB D s) j)) (nI j) (mkH n st S μ) = some (nI (apN D s), mkH n st S μ') ∧ FrA m μ μ' := by
  obtain ⟨e0, b0⟩ := hI.today
  obtain ⟨e1, b1⟩ := hI.wards
  obtain ⟨e2, b2⟩ := hI.men
  obtain ⟨e3, b3⟩ := hI.words
  obtain ⟨e4, b4⟩ := hI.bars
  obtain ⟨e5, b5⟩ := hI.shes
  obtain ⟨e6, b6⟩ := hI.wets
  obtain ⟨e8, b8⟩ := hI.heaped
  intro k
  induction k with
  | zero =>
    intro j fu μ hD hj hf
    obtain ⟨fu, rfl⟩ : ∃ q, fu = q + 1 := ⟨fu - 1, by omega⟩
    obtain rfl : j = nD D 2 := by omega
    refine ⟨μ, ?_, fun _ _ _ => rfl⟩
    simp (disch := omega) only [b_X12_fits_5, mR0 hS, some_bind, lit_aI, mA0 hS, hD, e2, nn_lt, natF, if_false, apN]
  | succ k ih =>
    intro j fu μ hD hj hf
    obtain ⟨fu, rfl⟩ : ∃ q, fu = q + 1 := ⟨fu - 1, by omega⟩
    obtain ⟨ka, ea, -, la, -⟩ := nmB_ex (hI.sName s hs)
    obtain ⟨kb, eb, -, lb, -⟩ := nmB_ex (hI.mName j (by omega))
    obtain ⟨μ1, g1, g2⟩ := r_apartBy (n := n) (st := st) (μ := μ) hS la lb
    rw [← ea, ← eb] at g1
    have hD1 : μ1 (m + 1) = D := by funext q; rw [g2 _ _ (by omega), hD]
    obtain ⟨μ', r1, r2⟩ := ih (j + 1) fu μ1 hD1 (by omega) (by omega)
    refine ⟨μ', ?_, fun a i q => by rw [r2 a i q, g2 a i q]⟩
    have h84 := fun q => r_fits84 (n := n) (st := st) hS hD1 (b_X12_fits_5 fu) (s := s) (i := j) (by omega) (by omega) 0 (nI (biN (apB D s) j)) q
    have hor := or_bit (apB D s) j
    rw [← r1, ← hor]
    have h1 := h84 true
    have h0 := h84 false
    rw [show bI true = (1 : Int32) from rfl] at h1
    rw [show bI false = (0 : Int32) from rfl] at h0
    have al := apS_lt (D (651 + s)) (D (107 + j))
    simp (disch := omega) only [b_X12_fits_5, mR0 hS, some_bind, lit_aI, mA0 hS, hD, e2, nn_lt, natT, if_true, lit_add, rck hS, g1, h1, h0, lit_gt]
    by_cases q1 : apS (D (651 + s)) (D (107 + j)) ≤ 1
    · rw [if_neg (by show ¬ 1 < apS (D (651 + s)) (D (107 + j)); omega)]
      simp only [apB, decide_eq_true q1]
    · rw [if_pos (by show 1 < apS (D (651 + s)) (D (107 + j)); omega)]
      simp only [apB, q1, decide_false]
theorem ap_ne {s : Nat} (h : exN D s = 0) : apN D s = neN D s := by
  have h0 := (biN_zero (exB D s) (nD D 2)).mp h
  refine biN_congr _ fun i hi => ?_
  have := h0 i hi
  unfold exB at this
  unfold neB
  by_cases q : D (651 + s) = D (107 + i)
  · have hh : hisS D s i = false := by
      cases hc : hisS D s i with
      | false => rfl
      | true => rw [hc] at this; simp [q] at this
    simp [apB, hh]
  · simp [q]
theorem exN_lt (hI : Inv D) (s : Nat) : exN D s < 2 ^ 16 := Nat.lt_of_lt_of_le (biN_lt _ _) (Nat.pow_le_pow_right (by omega) hI.men.2)
theorem neN_lt (hI : Inv D) (s : Nat) : neN D s < 2 ^ 16 := Nat.lt_of_lt_of_le (biN_lt _ _) (Nat.pow_le_pow_right (by omega) hI.men.2)
theorem meS_lt (hI : Inv D) (s : Nat) : meS D s < 2 ^ 16 := by
  unfold meS
  split
  · exact neN_lt hI s
  · exact exN_lt hI s
theorem nI_eq0 {a : Nat} (h : a < 2 ^ 31) : (nI a = 0) = (a = 0) := propext (nI_eq (a := a) (b := 0) h (by omega))
theorem r_meant (hS : ShM S m) (hD : μ (m + 1) = D) (hI : Inv D) {s : Nat} (hs : s < nD D 5) : ∃ μ', f_X12_meant (some m) (nI s) (mkH n st S μ) = some (nI (meS D s), mkH n st S μ') ∧ FrA m μ μ' := by
  have b2 := hI.men.2
  have f1 := r_fits1L (n := n) (st := st) hS hD hI hs (nD D 2) 0 FU (by omega) (by have : FU = 4000 := rfl; omega)
  have f1' : f_X12_fits (some m) (nI s) 1 (mkH n st S μ) = some (nI (exN D s), mkH n st S μ) := f1
  have hx := exN_lt hI s
  by_cases h0 : exN D s = 0
  · obtain ⟨μ', g1, g2⟩ := r_fits0L (n := n) (st := st) hS hI hs (nD D 2) 0 FU μ hD (by omega) (by have : FU = 4000 := rfl; omega)
    have g1' : f_X12_fits (some m) (nI s) 0 (mkH n st S μ) = some (nI (apN D s), mkH n st S μ') := g1
    refine ⟨μ', ?_, g2⟩
    rw [meS, if_pos h0, ← ap_ne h0]
    simp only [f_X12_meant, rck hS, f1', some_bind, h0, g1']
    rfl
  · refine ⟨μ, ?_, fun _ _ _ => rfl⟩
    rw [meS, if_neg h0]
    have : ¬ nI (exN D s) = 0 := by rw [nI_eq0 (by omega)]; exact h0
    simp only [f_X12_meant, rck hS, f1', some_bind, this, if_false]
theorem r_meaning (hS : ShM S m) (hD : μ (m + 1) = D) (hI : Inv D) {s : Nat} (hs : s < nD D 5) : ∃ μ', f_X12_meaning (some m) (nI s) (mkH n st S μ) = some (hmS D s, mkH n st S μ') ∧ FrA m μ μ' := by
  have b2 := hI.men.2
  obtain ⟨μ1, g1, g2⟩ := r_meant (n := n) (st := st) hS hD hI hs
  have hD1 : μ1 (m + 1) = D := by funext q; rw [g2 _ _ (by omega), hD]
  have f1 := r_fits1L (n := n) (st := st) hS hD1 hI hs (nD D 2) 0 FU (by omega) (by have : FU = 4000 := rfl; omega)
  have f1' : f_X12_fits (some m) (nI s) 1 (mkH n st S μ1) = some (nI (exN D s), mkH n st S μ1) := f1
  have hx := exN_lt hI s
  have hm := meS_lt hI s
  have hpl := popN_le 16 (meS D s)
  refine ⟨μ1, ?_, g2⟩
  unfold hmS
  simp (disch := omega) only [f_X12_meaning, rck hS, g1, some_bind, nI_eq0, r_bits hm, lit_gt, f1']
  by_cases h0 : meS D s = 0
  · rw [if_pos h0, if_pos h0]
  · rw [if_neg h0, if_neg h0]
    by_cases h1 : 1 < popN 16 (meS D s)
    · rw [if_pos h1, if_pos h1]
    · rw [if_neg h1, if_neg h1]
      by_cases h2 : exN D s = 0
      · rw [if_pos h2, if_pos h2]
      · rw [if_neg h2, if_neg h2]
theorem k_meant (hC : ShC S c) (hs : Sim μ c D) (hI : Inv D) {s : Nat} (h5 : s < nD D 5) : f_X8_meant (some (c + 78 + s)) (mkH n st S μ) = some (nI (meS D s)) := by
  have b5 := hI.shes.2
  have q9 := hs.exact s h5
  have q10 := hs.near s h5
  have hx := exN_lt hI s
  simp (disch := omega) only [f_X8_meant, oSheI hC, some_bind, q9, q10, nI_eq0, meS]
  by_cases h0 : exN D s = 0
  · rw [if_pos h0, if_pos h0]
  · rw [if_neg h0, if_neg h0]
theorem k_isSure (hC : ShC S c) (hs : Sim μ c D) (hI : Inv D) {s : Nat} (h5 : s < nD D 5) : f_X8_isSure (some (c + 78 + s)) (mkH n st S μ) = some (bI (surB D s)) := by
  have b5 := hI.shes.2
  have q9 := hs.exact s h5
  have hx := exN_lt hI s
  have hpl := popN_le 16 (exN D s)
  simp (disch := omega) only [f_X8_isSure, oSheI hC, some_bind, q9, k_bitCount hx, lit_eq, surB]
  by_cases h0 : popN 16 (exN D s) = 1
  · rw [if_pos h0, decide_eq_true h0]; rfl
  · rw [if_neg h0, decide_eq_false h0]; rfl
theorem hmS_how (hI : Inv D) (s : Nat) : (if 1 < popN 16 (meS D s) then (3 : Int32) else if popN 16 (meS D s) = 0 then 0 else if surB D s = true then 1 else 2) = hmS D s := by
  have hz := popN_zero 16 (meS D s) (meS_lt hI s)
  unfold hmS
  by_cases h1 : 1 < popN 16 (meS D s)
  · rw [if_pos h1, if_neg (fun h => by have := hz.mpr h; omega), if_pos h1]
  · rw [if_neg h1]
    by_cases h0 : meS D s = 0
    · rw [if_pos (hz.mpr h0), if_pos h0]
    · rw [if_neg (fun h => h0 (hz.mp h)), if_neg h0, if_neg h1]
      by_cases h2 : exN D s = 0
      · have h3 : ¬ surB D s = true := by
          intro h
          have := of_decide_eq_true h
          rw [h2] at this
          exact absurd this (by decide)
        rw [if_neg h3, if_pos h2]
      · have hme : meS D s = exN D s := by rw [meS, if_neg h2]
        have h3 : popN 16 (exN D s) = 1 := by
          rw [← hme]
          have : ¬ popN 16 (meS D s) = 0 := fun h => h0 (hz.mp h)
          omega
        rw [if_pos (show surB D s = true from decide_eq_true h3), if_neg h2]
theorem how_eq (a0 : Option Nat) (h : AH) (v1 v2 v3 : Int32) (h1 : ck 8 h a0 (f_X8_meant a0 h) = some v1) (h2 : f_J6_bitCount_0f7a4 v1 h = some v2) (h3 : ck 8 h a0 (f_X8_isSure a0 h) = some v3) : f_X8_howMeant a0 h = if 1 < v2 then some 3 else if v2 = 0 then some 0 else if v3 = 0 then some 2 else some 1 := by
  unfold f_X8_howMeant
  rw [h1, some_bind, h2, some_bind, h3]
  simp only [some_bind]
theorem k_howMeant (hC : ShC S c) (hs : Sim μ c D) (hI : Inv D) {s : Nat} (h5 : s < nD D 5) : f_X8_howMeant (some (c + 78 + s)) (mkH n st S μ) = some (hmS D s) := by
  have b5 := hI.shes.2
  have hpl := popN_le 16 (meS D s)
  have kM := k_meant (n := n) (st := st) hC hs hI h5
  have kS := k_isSure (n := n) (st := st) hC hs hI h5
  have kB := k_bitCount (meS_lt hI s) (mkH n st S μ)
  rw [← hmS_how hI s]
  obtain ⟨k, hk⟩ : ∃ k, k = popN 16 (meS D s) := ⟨_, rfl⟩
  rw [← hk] at kB hpl ⊢
  rw [how_eq _ _ _ _ _ (by rw [oSheK hC (by omega)]; exact kM) kB (by rw [oSheK hC (by omega)]; exact kS)]
  simp (disch := omega) only [lit_gt, nI_eq0, ite_bI0]
  by_cases h1 : 1 < k
  · rw [if_pos h1, if_pos h1]
  · rw [if_neg h1, if_neg h1]
    by_cases h0 : k = 0
    · rw [if_pos h0, if_pos h0]
    · rw [if_neg h0, if_neg h0]
      by_cases h2 : surB D s = true
      · rw [if_pos h2, if_pos h2]
      · rw [if_neg h2, if_neg h2]
end FITS
