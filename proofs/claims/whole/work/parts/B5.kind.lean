-- ===== what kind of thing lies on a shelf =====
def kiD (D : DR) (w q : Nat) : Int32 :=
  if w = 0 then (if q < nD D 5 then (if meS D q = 0 then 3 else if 0 < D (811 + q) then 3 else if D (851 + q) = 1 then 2 else 1) else -1)
  else if w = 1 then (if q < nD D 4 then 4 else -1)
  else (if q < nD D 2 then (if D (171 + q) < 0 then -1 else if D (203 + q) = 1 then 6 else 5) else -1)
theorem kiD_1 (D : DR) (q : Nat) : kiD D 1 q = if q < nD D 4 then 4 else -1 := rfl
theorem kiD_2 (D : DR) (q : Nat) : kiD D 2 q = if q < nD D 2 then (if D (171 + q) < 0 then -1 else if D (203 + q) = 1 then 6 else 5) else -1 := rfl
section KIND
variable {n n' : Nat} {st : Nat → Nat} {S S' : SH} {μ μ' : MU} {x b m c l : Nat} {D : DR}
theorem ixB_n {i N : Nat} (hi : i < 2 ^ 31) (hN : N < 2 ^ 31) : ixB (nI i) N = decide (i < N) := by
  unfold ixB
  have h0 : ¬ nI i < (0 : Int32) := nI_pos hi
  by_cases h : i < N
  · rw [decide_eq_true (show ¬ nI i < 0 ∧ nI i < nI N from ⟨h0, nI_lt h hN⟩), decide_eq_true h]
  · rw [decide_eq_false h, decide_eq_false]
    rintro ⟨-, q⟩
    simp (disch := omega) only [nn_lt] at q
    exact h q
theorem k_kindS (hC : ShC S c) (hs : Sim μ c D) (hI : Inv D) {q : Nat} (hq : q < nD D 5) : f_X8_kind (some (c + 78 + q)) (mkH n st S μ) = some (kiD D 0 q) := by
  have b5 := hI.shes.2
  have kM := k_meant (n := n) (st := st) hC hs hI hq
  have f4 := hs.she q 4 hq (by omega)
  have f5 := hs.she q 5 hq (by omega)
  simp only [Nat.reduceMul, Nat.reduceAdd] at f4 f5
  have hm := meS_lt hI q
  have e0 : kiD D 0 q = if meS D q = 0 then 3 else if 0 < D (811 + q) then 3 else if D (851 + q) = 1 then 2 else 1 := by rw [kiD, if_pos rfl, if_pos hq]
  rw [e0]
  simp (disch := omega) only [f_X8_kind, oSheK hC, kM, some_bind, nI_eq0, oSheI hC, f4, f5]
  by_cases h0 : meS D q = 0
  · rw [if_pos h0, if_pos h0]
  · rw [if_neg h0, if_neg h0]
    rcases hI.sSec q hq with h | h
    · have z0 : ¬ (0 : Int32) < 0 := by decide
      rw [h, if_pos rfl, if_neg z0]
      obtain ⟨k, hk, e⟩ := hI.sRdy q hq
      rcases (by omega : k = 0 ∨ k = 1) with rfl | rfl
      · rw [e, if_pos (by decide), if_neg (by decide)]
      · rw [e, if_neg (by decide), if_pos (by decide)]
    · obtain ⟨k, e, k1, k2, -⟩ := nmB_ex h
      have h1 : (0 : Int32) < nI k := nI_lt (a := 0) k1 (by omega)
      have h2 : ¬ nI k = 0 := fun q => by rw [q] at h1; exact absurd h1 (by decide)
      rw [e, if_neg h2, if_pos h1]
theorem k_kindM (hC : ShC S c) (hs : Sim μ c D) (hI : Inv D) {q : Nat} (hq : q < nD D 2) : f_X5_kind (some (c + 22 + 2 * q)) (mkH n st S μ) = some (kiD D 2 q) := by
  have b2 := hI.men.2
  have f6 := hs.man q 6 hq (by omega)
  have f8 := hs.man q 8 hq (by omega)
  simp only [Nat.reduceMul, Nat.reduceAdd] at f6 f8
  have e0 : kiD D 2 q = if D (171 + q) < 0 then -1 else if D (203 + q) = 1 then 6 else 5 := by rw [kiD, if_neg (by decide), if_neg (by decide), if_pos hq]
  rw [e0]
  simp (disch := omega) only [f_X5_kind, f_X5_wasSent, oManK hC, some_bind, oManI hC, f6, f8]
  by_cases h0 : D (171 + q) < 0
  · rw [if_pos h0, if_pos h0]; rfl
  · rw [if_neg h0, if_neg h0]
    have i10 : ¬ (1 : Int32) = 0 := by decide
    simp only [some_bind, i10, if_false]
    obtain ⟨k, hk, e⟩ := hI.mRec q hq
    rcases (by omega : k = 0 ∨ k = 1) with rfl | rfl
    · rw [e, if_pos (by decide), if_neg (by decide)]
    · rw [e, if_neg (by decide), if_pos (by decide)]
/-- on a shelf lies nothing, or a thing (w, q), or a row -/
theorem k_kindOn (hX : ShX S x) (hs : Sim μ (x + 1) D) (hI : Inv D) {k : Nat} (hk : k < 4) : ((μ (x + 169) k = 3 ∨ μ (x + 169) k = 4) → f_X11_kindOn (some x) (nI k) (mkH n st S μ) = some (-1)) ∧ ∀ w q, w < 3 → q < 40 → μ (x + 169) k = nI w → μ (x + 170) k = nI q → f_X11_kindOn (some x) (nI k) (mkH n st S μ) = some (kiD D w q) := by
  have hC := hX.city
  have b2 := hI.men.2
  have b4 := hI.bars.2
  have b5 := hI.shes.2
  have e69 := xASWh (n := n) (st := st) (μ := μ) hX hk
  have e70 := xASNu (n := n) (st := st) (μ := μ) hX hk
  refine ⟨fun h => ?_, fun w q hw hq h1 h2 => ?_⟩
  · have hc : μ (x + 169) k < 0 ∨ 2 < μ (x + 169) k := by
      rcases h with h | h <;> rw [h] <;> exact Or.inr (by decide)
    simp only [f_X11_kindOn, xR12 hX, some_bind, e70, xR11 hX, e69, hc, if_true]
  · rw [h1] at e69
    rw [h2] at e70
    rcases (by omega : w = 0 ∨ w = 1 ∨ w = 2) with rfl | rfl | rfl
    · have g1 : ¬ (nI 0 < 0 ∨ 2 < nI 0) := by decide
      have g2 : nI 0 = (0 : Int32) := rfl
      simp only [f_X11_kindOn, xR12 hX, some_bind, e70, xR11 hX, e69, g1, if_false]
      rw [if_pos g2]
      simp only [xR0 hX, some_bind, cck hC, k_hasSherd hC hs hI, ite_bI0]
      rw [ixB_n (by omega) (by omega)]
      by_cases c : q < nD D 5
      · rw [if_pos (decide_eq_true c)]
        have kk := k_kindS (n := n) (st := st) hC hs hI c
        simp (disch := omega) only [cR11 hC, some_bind, cEsherds hC, oSheK hC, kk]
      · rw [if_neg (by simpa using c), kiD, if_pos rfl, if_neg c]
    · have g1 : ¬ (nI 1 < 0 ∨ 2 < nI 1) := by decide
      have g2 : ¬ nI 1 = (0 : Int32) := by decide
      have g3 : nI 1 = (1 : Int32) := rfl
      simp only [f_X11_kindOn, xR12 hX, some_bind, e70, xR11 hX, e69, g1, g2, if_false]
      rw [if_pos g3]
      simp only [xR0 hX, some_bind, cck hC, k_hasBargain hC hs hI, ite_bI0]
      rw [ixB_n (by omega) (by omega)]
      by_cases c : q < nD D 4
      · rw [if_pos (decide_eq_true c), kiD, if_neg (by decide), if_pos rfl, if_pos c]
      · rw [if_neg (by simpa using c), kiD, if_neg (by decide), if_pos rfl, if_neg c]
    · have g1 : ¬ (nI 2 < 0 ∨ 2 < nI 2) := by decide
      have g2 : ¬ nI 2 = (0 : Int32) := by decide
      have g3 : ¬ nI 2 = (1 : Int32) := by decide
      have g4 : nI 2 = (2 : Int32) := rfl
      simp only [f_X11_kindOn, xR12 hX, some_bind, e70, xR11 hX, e69, g1, g2, g3, if_false]
      rw [if_pos g4]
      simp only [xR0 hX, some_bind, cck hC, k_hasMan hC hs hI, ite_bI0]
      rw [ixB_n (by omega) (by omega)]
      by_cases c : q < nD D 2
      · rw [if_pos (decide_eq_true c)]
        have kk := k_kindM (n := n) (st := st) hC hs hI c
        simp (disch := omega) only [cR5 hC, some_bind, cEmen hC, oManK hC, kk]
      · rw [if_neg (by simpa using c), kiD, if_neg (by decide), if_neg (by decide), if_neg c]
theorem r_kindOn (hS : ShM S (x + 175)) (hD : μ (x + 175 + 1) = D) (hI : Inv D) {k : Nat} (hk : k < 4) : (μ (x + 195) k = 0 → f_X12_kindOn (some (x + 175)) (nI k) (mkH n st S μ) = some (-1, mkH n st S μ)) ∧ (μ (x + 195) k = 4 → f_X12_kindOn (some (x + 175)) (nI k) (mkH n st S μ) = some (-2, mkH n st S μ)) ∧ ∀ w q, w < 3 → q < 40 → μ (x + 195) k = nI (w + 1) → μ (x + 196) k = nI q → ∃ μ', f_X12_kindOn (some (x + 175)) (nI k) (mkH n st S μ) = some (kiD D w q, mkH n st S μ') ∧ FrA (x + 175) μ μ' := by
  have b2 := hI.men.2
  obtain ⟨e4, b4⟩ := hI.bars
  have b5 := hI.shes.2
  have e35 : aI (mkH n st S μ) (some (x + 175 + 20)) (nI k) = some (μ (x + 195) k) := mA35 hS hk
  have e36 : aI (mkH n st S μ) (some (x + 175 + 21)) (nI k) = some (μ (x + 196) k) := mA36 hS hk
  refine ⟨fun h => ?_, fun h => ?_, fun w q hw hq h1 h2 => ?_⟩
  · have hc : (0 : Int32) < 1 ∨ (4 : Int32) < 0 := by decide
    rw [h] at e35
    simp only [f_X12_kindOn, mR36 hS, some_bind, e36, mR35 hS, e35, hc, if_true]
  · have hc : ¬ ((4 : Int32) < 1 ∨ (4 : Int32) < 4) := by decide
    have h1 : ¬ (4 : Int32) = 1 := by decide
    have h2 : ¬ (4 : Int32) = 2 := by decide
    have h3 : ¬ (4 : Int32) = 3 := by decide
    rw [h] at e35
    simp only [f_X12_kindOn, mR36 hS, some_bind, e36, mR35 hS, e35, hc, h1, h2, h3, if_false, if_true]
  · rw [h1] at e35
    rw [h2] at e36
    rcases (by omega : w = 0 ∨ w = 1 ∨ w = 2) with rfl | rfl | rfl
    · have g1 : ¬ (nI (0 + 1) < 1 ∨ 4 < nI (0 + 1)) := by decide
      have g2 : nI (0 + 1) = (1 : Int32) := rfl
      have hp : f_X12_kindOn (some (x + 175)) (nI k) (mkH n st S μ) = if (ixB (nI q) (nD D 5)) = true then ((f_X12_meant (some (x + 175)) (nI q) (mkH n st S μ)).bind fun p6 => if p6.1 = 0 then some (3, p6.2) else (gR 12 0 p6.2 (some (x + 175))).bind fun v7 => (aI p6.2 v7 (811 + nI q)).bind fun v8 => if 0 < v8 then some (3, p6.2) else (gR 12 0 p6.2 (some (x + 175))).bind fun v9 => (aI p6.2 v9 (851 + nI q)).bind fun v10 => if v10 = 1 then some (2, p6.2) else some (1, p6.2)) else some (-1, mkH n st S μ) := by
        simp only [f_X12_kindOn, mR36 hS, some_bind, e36, mR35 hS, e35, g1, if_false]
        rw [if_pos g2]
        simp only [rck hS, r_isSherd hS hD hI, some_bind, ite_bI0]
      rw [hp, ixB_n (by omega) (by omega)]
      by_cases c : q < nD D 5
      · rw [if_pos (decide_eq_true c)]
        obtain ⟨μ1, r1, r2⟩ := r_meant (n := n) (st := st) hS hD hI c
        have hm := meS_lt hI q
        have hD1 : μ1 (x + 175 + 1) = D := by funext z; rw [r2 _ _ (by omega), hD]
        refine ⟨μ1, ?_, r2⟩
        have e0 : kiD D 0 q = if meS D q = 0 then 3 else if 0 < D (811 + q) then 3 else if D (851 + q) = 1 then 2 else 1 := by rw [kiD, if_pos rfl, if_pos c]
        rw [e0]
        simp (disch := omega) only [r1, some_bind, nI_eq0, mR0 hS, lit_add, mA0 hS, hD1]
        by_cases h0 : meS D q = 0
        · rw [if_pos h0, if_pos h0]
        · rw [if_neg h0, if_neg h0]
          by_cases h1 : 0 < D (811 + q)
          · rw [if_pos h1, if_pos h1]
          · rw [if_neg h1, if_neg h1]
            by_cases h2 : D (851 + q) = 1
            · rw [if_pos h2, if_pos h2]
            · rw [if_neg h2, if_neg h2]
      · rw [if_neg (by simpa using c), kiD, if_pos rfl, if_neg c]
        exact ⟨μ, rfl, fun _ _ _ => rfl⟩
    · have g1 : ¬ (nI (1 + 1) < 1 ∨ 4 < nI (1 + 1)) := by decide
      have g2 : ¬ nI (1 + 1) = (1 : Int32) := by decide
      have g3 : nI (1 + 1) = (2 : Int32) := rfl
      refine ⟨μ, ?_, fun _ _ _ => rfl⟩
      simp only [f_X12_kindOn, mR36 hS, some_bind, e36, mR35 hS, e35, g1, g2, if_false]
      rw [if_pos g3]
      simp (disch := omega) only [mR0 hS, some_bind, lit_aI, mA0 hS, hD, e4, nn_lt]
      rw [kiD_1]
      by_cases c : q < nD D 4
      · rw [if_pos c, if_pos c]
      · rw [if_neg c, if_neg c]
    · have g1 : ¬ (nI (2 + 1) < 1 ∨ 4 < nI (2 + 1)) := by decide
      have g2 : ¬ nI (2 + 1) = (1 : Int32) := by decide
      have g3 : ¬ nI (2 + 1) = (2 : Int32) := by decide
      have g4 : nI (2 + 1) = (3 : Int32) := rfl
      refine ⟨μ, ?_, fun _ _ _ => rfl⟩
      simp only [f_X12_kindOn, mR36 hS, some_bind, e36, mR35 hS, e35, g1, g2, g3, if_false]
      rw [if_pos g4]
      simp only [rck hS, r_isMan hS hD hI, some_bind, ite_bI0]
      rw [ixB_n (by omega) (by omega), kiD_2]
      by_cases c : q < nD D 2
      · rw [if_pos (decide_eq_true c), if_pos c]
        simp (disch := omega) only [mR0 hS, some_bind, lit_add, mA0 hS, hD]
        by_cases h0 : D (171 + q) < 0
        · rw [if_pos h0, if_pos h0]
        · rw [if_neg h0, if_neg h0]
          by_cases h1 : D (203 + q) = 1
          · rw [if_pos h1, if_pos h1]
          · rw [if_neg h1, if_neg h1]
      · rw [if_neg (by simpa using c), if_neg c]
end KIND
