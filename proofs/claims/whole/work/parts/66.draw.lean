-- ===== the casts of a day =====
/-- what he casts if he pays what is owed -/
def payS (D : DR) (i : Nat) (day away s0 : Int32) : Int32 := if s0 < 0 then casS D i day away else if s0 = nI i then casS D i day away else if (decide (s0 = away) || sntB D s0.toNatClampNeg day) then casS D i day away else s0
def thrS (D : DR) (i : Nat) (day away : Int32) : Bool := !decide (nI i = away) && comB D i day
def drS (D : DR) (i : Nat) (day away : Int32) (kept : Bool) : Int32 := if thrS D i day away then payS D i day away (if kept then bouS D (D (91 + i)) day else -1) else -1
section DRAW
variable {n : Nat} {st : Nat → Nat} {S : SH} {μ : MU} {x b m c : Nat} {D : DR}
theorem mxS_rng (D : DR) (i : Nat) (day away : Int32) : ∀ k j (s : Int32 × Int32), isO s.2 (j + k) → isO (itS (mxStep D i day away) k j s).2 (j + k) := by
  intro k
  induction k with
  | zero => intro j s h; exact h
  | succ k ih =>
    intro j s h
    have := ih (j + 1) (mxStep D i day away j s) (by
      unfold mxStep
      by_cases hc : avB D i day away j = true ∧ s.1 < dreS D i j day
      · rw [if_pos hc]; exact Or.inr ⟨j, by omega, rfl⟩
      · rw [if_neg hc]
        rcases h with h | ⟨q, q1, q2⟩
        · exact Or.inl h
        · exact Or.inr ⟨q, by omega, q2⟩)
    rw [show j + (k + 1) = j + 1 + k from by omega]
    exact this
theorem frS_rng (D : DR) (i : Nat) (day away : Int32) : isO (frS D i day away) (nD D 2) := by
  unfold frS
  split
  · exact Or.inl rfl
  · have := mxS_rng D i day away (nD D 2) 0 (-1, -1) (Or.inl rfl)
    rw [Nat.zero_add] at this
    exact this
theorem casS_rng (hI : Inv D) (i : Nat) (day away : Int32) : isO (casS D i day away) (nD D 2) := by
  unfold casS
  split
  · exact frS_rng D i day away
  · split
    · exact bouS_rng hI _ _
    · exact frS_rng D i day away
theorem payS_rng (hI : Inv D) (i : Nat) (day away : Int32) {s0 : Int32} (h : isO s0 (nD D 2)) : isO (payS D i day away s0) (nD D 2) := by
  unfold payS
  split
  · exact casS_rng hI _ _ _
  · split
    · exact casS_rng hI _ _ _
    · split
      · exact casS_rng hI _ _ _
      · exact h
theorem drS_rng (hI : Inv D) (i : Nat) (day away : Int32) (kept : Bool) : isO (drS D i day away kept) (nD D 2) := by
  unfold drS
  split
  · apply payS_rng hI
    split
    · exact bouS_rng hI _ _
    · exact Or.inl rfl
  · exact Or.inl rfl
/-- nothing of the city has changed -/
def FrX (x : Nat) (μ μ' : MU) : Prop := ∀ a j, x + 1 ≤ a ∧ a < x + 149 → ¬ a = x + 14 → ¬ (x + 119 ≤ a ∧ a < x + 149 ∧ 4 ≤ (a - (x + 119)) % 6) → μ' a j = μ a j
theorem Sim.frX (hI : Inv D) (hs : Sim μ (x + 1) D) {μ' : MU} (h : FrX x μ μ') : Sim μ' (x + 1) D := Sim.congr hI hs (fun a j q => h a j (by omega) (by omega) (by omega)) (fun _ => rfl)
theorem k_draw146 (hX : ShX S x) (k8 : Option Nat → Int32 → Int32 → Int32 → Int32 → AH → Option AH) {i : Nat} (hi : i < 16) (day away kept v : Int32) : b_X11_drawCasts_146 k8 (some x) day away kept (nI i) (some (x + 165)) (nI i) v (mkH n st S μ) = k8 (some x) day away kept (nI (i + 1)) (mkH n st S (up2 μ (x + 165) i v)) := by
  simp (disch := omega) only [b_X11_drawCasts_146, xSCas hX, some_bind, nI_1]
theorem k_draw84 (hX : ShX S x) (hs : Sim μ (x + 1) D) (hI : Inv D) (k8 : Option Nat → Int32 → Int32 → Int32 → Int32 → AH → Option AH) {i : Nat} (hi : i < nD D 2) (day away kept : Int32) {s0 : Int32} (h0 : isO s0 (nD D 2)) : b_X11_drawCasts_84 k8 (some x) day away kept (nI i) s0 (mkH n st S μ) = k8 (some x) day away kept (nI (i + 1)) (mkH n st S (up2 μ (x + 165) i (payS D i day away s0))) := by
  have hC := hX.city
  have b2 := hI.men.2
  have f0 : b_X11_drawCasts_117 k8 (some x) day away kept (nI i) s0 0 (mkH n st S μ) = k8 (some x) day away kept (nI (i + 1)) (mkH n st S (up2 μ (x + 165) i (casS D i day away))) := by
    simp (disch := omega) only [b_X11_drawCasts_117, xR5 hX, some_bind, if_true, xR0 hX, cck hC, k_castOf hC hs hI hi, k_draw146 hX]
  by_cases h1 : s0 < 0
  · simp only [b_X11_drawCasts_84, payS, h1, if_true]; exact f0
  · by_cases h2 : s0 = nI i
    · simp only [b_X11_drawCasts_84, payS, h1, if_false, Bool.false_eq_true]
      rw [if_pos h2, if_pos h2]; exact f0
    · rcases h0 with h0 | ⟨k, hk, rfl⟩
      · subst h0; exact absurd (by decide) h1
      · have cl : (nI k).toNatClampNeg = k := nI_clamp (by omega)
        simp only [b_X11_drawCasts_84, payS, h1, h2, if_false, xR0 hX, some_bind, cck hC, k_isSent hC hs hI hk, ite_bI0, cl, Bool.false_eq_true]
        by_cases h3 : (decide (nI k = away) || sntB D k day) = true
        · rw [if_pos h3, if_pos h3]; exact f0
        · rw [if_neg h3, if_neg h3]
          simp (disch := omega) only [b_X11_drawCasts_117, xR5 hX, some_bind, k_draw146 hX]
          rfl
theorem k_drawL (hX : ShX S x) (hs : Sim μ (x + 1) D) (hI : Inv D) {day : Int32} (hd : ¬ day < 0) (away : Int32) (kept : Bool) : ∀ k j fu (μ1 : MU), j + k = nD D 2 → k < fu → (∀ a q, ¬ a = x + 165 → ¬ (a = x ∧ q = 6) → μ1 a q = μ a q) → (∀ i, i < j → μ1 (x + 165) i = drS D i day away kept) → μ1 x 6 = nI (biN (fun i => thrS D i day away) j) → ∃ μ' : MU, b_X11_drawCasts_8 fu (some x) day away (bI kept) (nI j) (mkH n st S μ1) = some (mkH n st S μ') ∧ (∀ a q, ¬ a = x + 165 → ¬ (a = x ∧ q = 6) → μ' a q = μ a q) ∧ (∀ i, i < nD D 2 → μ' (x + 165) i = drS D i day away kept) ∧ μ' x 6 = nI (biN (fun i => thrS D i day away) (nD D 2)) := by
  have hC := hX.city
  obtain ⟨e0, b0⟩ := hI.today
  obtain ⟨e1, b1⟩ := hI.wards
  obtain ⟨e2, b2⟩ := hI.men
  obtain ⟨e3, b3⟩ := hI.words
  obtain ⟨e4, b4⟩ := hI.bars
  obtain ⟨e5, b5⟩ := hI.shes
  obtain ⟨e6, b6⟩ := hI.wets
  obtain ⟨e8, b8⟩ := hI.heaped
  intro k
  induction k with
  | zero =>
    intro j fu μ1 hj hf hF hc h6
    obtain ⟨fu, rfl⟩ : ∃ q, fu = q + 1 := ⟨fu - 1, by omega⟩
    obtain rfl : j = nD D 2 := by omega
    have z2 : μ1 (x + 1) 6 = nI (nD D 2) := by rw [hF _ _ (by omega) (by omega), hs.manN, e2]
    exact ⟨μ1, by simp (disch := omega) only [b_X11_drawCasts_8, xR0 hX, some_bind, cI6 hC, z2, nn_lt, natF, if_false, Bool.false_eq_true], hF, hc, h6⟩
  | succ k ih =>
    intro j fu μ1 hj hf hF hc h6
    obtain ⟨fu, rfl⟩ : ∃ q, fu = q + 1 := ⟨fu - 1, by omega⟩
    have z2 : μ1 (x + 1) 6 = nI (nD D 2) := by rw [hF _ _ (by omega) (by omega), hs.manN, e2]
    have hF1 : ∀ v a q, ¬ a = x + 165 → ¬ (a = x ∧ q = 6) → up2 μ1 (x + 165) j v a q = μ a q := fun v a q h1 h2 => by rw [up2_ne (by omega), hF a q h1 h2]
    have hs1 : ∀ v, Sim (up2 μ1 (x + 165) j v) (x + 1) D := fun v => Sim.frX hI hs (fun a q h1 _ _ => hF1 v a q (by omega) (by omega))
    by_cases ht : thrS D j day away = true
    · have h6' : up2 μ1 (x + 165) j (-1) x 6 ||| nI (2 ^ j) = nI (biN (fun i => thrS D i day away) (j + 1)) := by
        rw [up2_ne (by omega), h6, ← biN_or (fun i => thrS D i day away) j true ht]; rfl
      have hs2 : Sim (up2 (up2 μ1 (x + 165) j (-1)) x 6 (nI (biN (fun i => thrS D i day away) (j + 1)))) (x + 1) D := Sim.frX hI hs (fun a q h1 _ _ => by rw [up2_ne (by omega), hF1 _ _ _ (by omega) (by omega)])
      obtain ⟨s0, hs0⟩ : ∃ s0, s0 = (if kept then bouS D (D (91 + j)) day else -1) := ⟨_, rfl⟩
      have r0 : isO s0 (nD D 2) := by
        rw [hs0]; split
        · exact bouS_rng hI _ _
        · exact Or.inl rfl
      obtain ⟨μ', g1, g2⟩ := ih (j + 1) fu (up2 (up2 (up2 μ1 (x + 165) j (-1)) x 6 (nI (biN (fun i => thrS D i day away) (j + 1)))) (x + 165) j (payS D j day away s0)) (by omega) (by omega) (fun a q h1 h2 => by rw [up2_ne (by omega), up2_ne (by omega), hF1 _ _ _ h1 h2]) (by
        intro i hi
        by_cases hij : i = j
        · subst hij
          rw [up2_same, drS, if_pos ht, hs0]
        · rw [up2_ne (by omega), up2_ne (by omega), up2_ne (by omega), hc i (by omega)]) (by rw [up2_ne (by omega), up2_same])
      refine ⟨μ', ?_, g2⟩
      rw [← g1]
      have k84 := k_draw84 (n := n) (st := st) hX hs2 hI (b_X11_drawCasts_8 fu) (i := j) (by omega) day away (bI kept) r0
      rw [← k84]
      have ht' : (!decide (nI j = away) && comB D j day) = true := ht
      simp (disch := omega) only [b_X11_drawCasts_8, xR0 hX, some_bind, cI6 hC, z2, nn_lt, natT, if_true, xR5 hX, xSCas hX, cck hC, k_isThere hC (hs1 _) hI (i := j) (by omega) hd, ite_bI0, ht', xI6 hX, shl1, h6', xP6 hX]
      cases kept with
      | false =>
        simp only [Bool.false_eq_true, if_false] at hs0 ⊢
        rw [hs0]
      | true =>
        simp only [if_true] at hs0 ⊢
        have hm := hs2.man j 1 (by omega) (by omega)
        simp only [Nat.reduceMul, Nat.reduceAdd] at hm
        simp (disch := omega) only [cR5 hC, some_bind, cEmen hC, oManI hC, hm, k_boundTo hC hs2 hI]
        rw [hs0]
    · obtain ⟨μ', g1, g2⟩ := ih (j + 1) fu (up2 μ1 (x + 165) j (-1)) (by omega) (by omega) (hF1 _) (by
        intro i hi
        by_cases hij : i = j
        · subst hij
          rw [up2_same, drS, if_neg ht]
        · rw [up2_ne (by omega), hc i (by omega)]) (by
        rw [up2_ne (by omega), h6, ← biN_or (fun i => thrS D i day away) j false (by simpa using ht)]; rfl)
      refine ⟨μ', ?_, g2⟩
      rw [← g1]
      have ht' : ¬ (!decide (nI j = away) && comB D j day) = true := ht
      simp (disch := omega) only [b_X11_drawCasts_8, xR0 hX, some_bind, cI6 hC, z2, nn_lt, natT, if_true, xR5 hX, xSCas hX, cck hC, k_isThere hC (hs1 _) hI (i := j) (by omega) hd, ite_bI0, ht', if_false, nI_1, Bool.false_eq_true]
theorem k_drawCasts (hX : ShX S x) (hs : Sim μ (x + 1) D) (hI : Inv D) {day : Int32} (hd : ¬ day < 0) (away : Int32) (kept : Bool) : ∃ μ' : MU, f_X11_drawCasts (some x) day away (bI kept) (mkH n st S μ) = some (mkH n st S μ') ∧ (∀ a q, ¬ a = x + 165 → ¬ (a = x ∧ q = 6) → μ' a q = μ a q) ∧ (∀ i, i < nD D 2 → μ' (x + 165) i = drS D i day away kept) ∧ μ' x 6 = nI (biN (fun i => thrS D i day away) (nD D 2)) := by
  have b2 := hI.men.2
  obtain ⟨μ', g1, g2⟩ := k_drawL (n := n) (st := st) hX hs hI hd away kept (nD D 2) 0 FU (up2 μ x 6 0) (by omega) (by have : FU = 4000 := rfl; omega) (fun a q h1 h2 => by rw [up2_ne h2]) (fun i hi => absurd hi (by omega)) (by rw [up2_same]; rfl)
  refine ⟨μ', ?_, g2⟩
  rw [← g1]
  simp only [f_X11_drawCasts, xP6 hX, some_bind]
  rfl
/-- the reference's casts of a day -/
theorem r_castAllL (hS : ShM S m) (hD : μ (m + 1) = D) (hI : Inv D) (day away : Int32) : ∀ k j fu (μ1 : MU), j + k = nD D 2 → k < fu → (∀ a q, ¬ a = m + 13 → μ1 a q = μ a q) → (∀ i, i < j → μ1 (m + 13) i = drS D i day away false) → ∃ μ' : MU, b_X12_castAll_2 fu (some m) day away (nI j) (mkH n st S μ1) = some (mkH n st S μ') ∧ (∀ a q, ¬ a = m + 13 → μ' a q = μ a q) ∧ (∀ i, i < nD D 2 → μ' (m + 13) i = drS D i day away false) := by
  obtain ⟨e0, b0⟩ := hI.today
  obtain ⟨e1, b1⟩ := hI.wards
  obtain ⟨e2, b2⟩ := hI.men
  obtain ⟨e3, b3⟩ := hI.words
  obtain ⟨e4, b4⟩ := hI.bars
  obtain ⟨e5, b5⟩ := hI.shes
  obtain ⟨e6, b6⟩ := hI.wets
  obtain ⟨e8, b8⟩ := hI.heaped
  intro k
  induction k with
  | zero =>
    intro j fu μ1 hj hf hF hc
    obtain ⟨fu, rfl⟩ : ∃ q, fu = q + 1 := ⟨fu - 1, by omega⟩
    obtain rfl : j = nD D 2 := by omega
    have hD1 : μ1 (m + 1) = D := by funext q; rw [hF _ _ (by omega), hD]
    exact ⟨μ1, by simp (disch := omega) only [b_X12_castAll_2, mR0 hS, some_bind, lit_aI, mA0 hS, hD1, e2, nn_lt, natF, if_false, Bool.false_eq_true], hF, hc⟩
  | succ k ih =>
    intro j fu μ1 hj hf hF hc
    obtain ⟨fu, rfl⟩ : ∃ q, fu = q + 1 := ⟨fu - 1, by omega⟩
    have hD1 : μ1 (m + 1) = D := by funext q; rw [hF _ _ (by omega), hD]
    obtain ⟨μ', g1, g2⟩ := ih (j + 1) fu (up2 μ1 (m + 13) j (drS D j day away false)) (by omega) (by omega) (fun a q h => by rw [up2_ne (by omega), hF a q h]) (by
        intro i hi
        by_cases hij : i = j
        · subst hij; rw [up2_same]
        · rw [up2_ne (by omega), hc i (by omega)])
    refine ⟨μ', ?_, g2⟩
    rw [← g1]
    by_cases ha : nI j = away
    · have : drS D j day away false = -1 := by simp [drS, thrS, ha]
      simp (disch := omega) only [b_X12_castAll_2, mR0 hS, some_bind, lit_aI, mA0 hS, hD1, e2, nn_lt, natT, if_true, mR27 hS, b_X12_castAll_42, mS27 hS, nI_1]
      rw [if_pos ha, this]
    · by_cases hc' : comB D j day = true
      · have : drS D j day away false = casS D j day away := by
          simp only [drS, thrS, ha, hc', decide_false, Bool.not_false, Bool.true_and, if_true, payS, Bool.false_eq_true, if_false]
          rw [if_pos (by decide)]
        simp (disch := omega) only [b_X12_castAll_2, mR0 hS, some_bind, lit_aI, mA0 hS, hD1, e2, nn_lt, natT, if_true, mR27 hS, ha, if_false, rck hS, r_doesCome hS hD1 hI (i := j) (by omega), ite_bI0, hc', r_castOf hS hD1 hI (i := j) (by omega), b_X12_castAll_42, mS27 hS, nI_1, this, Bool.false_eq_true]
      · have : drS D j day away false = -1 := by simp [drS, thrS, ha, hc']
        simp (disch := omega) only [b_X12_castAll_2, mR0 hS, some_bind, lit_aI, mA0 hS, hD1, e2, nn_lt, natT, if_true, mR27 hS, ha, if_false, rck hS, r_doesCome hS hD1 hI (i := j) (by omega), ite_bI0, hc', b_X12_castAll_42, mS27 hS, nI_1, this, Bool.false_eq_true]
theorem r_castAll (hS : ShM S m) (hD : μ (m + 1) = D) (hI : Inv D) (day away : Int32) : ∃ μ' : MU, f_X12_castAll (some m) day away (mkH n st S μ) = some (mkH n st S μ') ∧ (∀ a q, ¬ a = m + 13 → μ' a q = μ a q) ∧ (∀ i, i < nD D 2 → μ' (m + 13) i = drS D i day away false) := by
  have b2 := hI.men.2
  exact r_castAllL hS hD hI day away (nD D 2) 0 FU μ (by omega) (by have : FU = 4000 := rfl; omega) (fun _ _ _ => rfl) (fun i hi => absurd hi (by omega))
end DRAW
